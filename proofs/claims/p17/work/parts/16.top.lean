theorem i_vc (xs : Nat → Int32) (L : Nat) (hL : L ≤ 260) : wpL_law (fun r => r = 1) L xs := by
  unfold wpL_law
  refine gw_cell (k := 0) hL (by decide) (fun r1 => ?_)
  refine gw_pick (m := 7) r1 (by decide) (by decide) (fun j hj => ?_)
  refine nm_r (e' := nI (8 - j)) (pk_sub (a := 8) (by omega)) ?_
  refine gw_cell (k := 1) hL (by decide) (fun r4 => ?_)
  refine gw_pick (m := 4) r4 (by decide) (by decide) (fun c hc => ?_)
  refine nm_r (e' := nI (1 + c)) (nI_add 1 c) ⟨9, 544, by decide, by decide, ?_⟩
  unfold wpX_init
  refine ⟨by decide, by decide, by decide, by decide, by decide, by decide, by decide, by decide, by decide, by decide, by decide, by decide, by decide, by decide, by decide, by decide, by decide, by decide, ?_⟩
  refine gw_clamp (a := 2) (b := 8) (by omega) (by omega) (by decide) ?_
  refine gw_clamp (a := 1) (b := 4) (by omega) (by omega) (by decide) ?_
  have h := gw_start (n := 8 - j) (d := 1 + c) (by omega) (by omega) (by omega) (by omega)
  by_cases h18 : L ≤ 18
  · refine br_t (nI_le (b := 18) h18 (by decide)) ?_
    exact gw_56 (post := fun r => r = 1) (s := 0) hL (by omega) (by omega) (by decide) rfl _ _ _ _ _ _ _ _ _ h
  · refine br_f (nI_ge (a := 18) (by omega) (by omega)) ⟨by decide, ?_⟩
    have e : ((Int32.ofNat L) - 18 + 2) / 3 = nI ((L - 18 + 2) / 3) := by
      have h1 : nI L - nI 18 = nI (L - 18) := pk_sub (by omega)
      have h2 : nI (L - 18) + nI 2 = nI (L - 18 + 2) := nI_add _ _
      have h3 : nI (L - 18 + 2) / nI 3 = nI ((L - 18 + 2) / 3) := pk_div (by omega) (by decide) (by decide)
      show (nI L - nI 18 + nI 2) / nI 3 = _
      rw [h1, h2, h3]
    rw [e]
    exact gw_56 (post := fun r => r = 1) (s := (L - 18 + 2) / 3) hL (by omega) (by omega) (by omega) rfl _ _ _ _ _ _ _ _ _ h
