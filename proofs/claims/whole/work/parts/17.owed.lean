/-- both sides against one picture -/
def i_Rel (k : Nat) (u : SX) (v : SY) : Prop :=
  ∃ (n d : Nat) (rl : Nat → Nat → Nat) (up : Nat → Nat → Bool) (og : Nat → Bool) (H : rt_HT) (Q : rt_QT), rt_inv n d rl up og H Q ∧
    (∃ (ab ap : Nat → Int64) (ak : Nat → Int32), xw_X n d rl up og H Q ab ap ak u) ∧ ∃ (ac : Nat → Int64) (ak : Nat → Int32) (ab : Nat → Int64), yw_Y n d rl up og H Q ac ak ab v
theorem i_up {k : Nat} {u : SX} {v : SY} (h : i_Rel k u v) : i_Rel (k + 4) u v := h
theorem xw_clamp (p : Int32) (L M : Nat) (hLM : L ≤ M) (hM : M < 2 ^ 31) : ∃ k, L ≤ k ∧ k ≤ M ∧ ∀ A : Int32 → Prop, A (nI k) → ((nI L ≤ p → ((p ≤ nI M → A p) ∧ (¬ p ≤ nI M → A (nI M)))) ∧ (¬ nI L ≤ p → A (nI L))) := by
  by_cases h : p < 0
  · have hn : ¬ nI L ≤ p := fun z => by
      have h1 : nI L < 0 := Int32.lt_of_le_of_lt z h
      exact nI_pos (by omega) h1
    exact ⟨L, Nat.le_refl L, hLM, fun A hA => br_f hn hA⟩
  · obtain ⟨j, hj, rfl⟩ := nI_of h
    by_cases h1 : j < L
    · exact ⟨L, Nat.le_refl L, hLM, fun A hA => br_f (nI_ge h1 (by omega)) hA⟩
    · by_cases h2 : j ≤ M
      · exact ⟨j, by omega, h2, fun A hA => br_t (nI_le (by omega) hj) (br_t (nI_le h2 hM) hA)⟩
      · exact ⟨M, hLM, Nat.le_refl M, fun A hA => br_t (nI_le (by omega) hj) (br_f (nI_ge (by omega) hj) hA)⟩
theorem i_vc0 (k0 : Int32) (k1 : Int32) : wpX_init (fun u => wpY_init (fun v => i_Rel 2 u v) k0 k1) k0 k1 := by
  obtain ⟨n, h2, h8, hN⟩ := xw_clamp k0 2 8 (by decide) (by decide)
  obtain ⟨d, d1, d4, hD⟩ := xw_clamp k1 1 4 (by decide) (by decide)
  have hNX : ∀ A : Int32 → Prop, A (nI n) → wpX_clamp A k0 2 8 := hN
  have hDX : ∀ A : Int32 → Prop, A (nI d) → wpX_clamp A k1 1 4 := hD
  unfold wpX_init
  refine hNX _ ?_
  refine hDX _ ?_
  unfold wpY_init
  refine hN (fun z => wY_init_99 _ k1 z 0 0 (fun _ => 0) (fun _ => 0) (fun _ => 0) (fun _ => 0) (fun _ => 0) (fun _ => 0) (fun _ => 0) (fun _ => 0) (fun _ => 0)) ?_
  refine hD (fun z => i_Rel 2 _ (nI n, z, (fun _ => 0), (fun _ => 0), (fun _ => 0), (fun _ => 0), (fun _ => 0), (fun _ => 0), (fun _ => 0), (fun _ => 0), (fun _ => 0))) ?_
  have z8 : ∀ {α β : Type} (f : α → β) (g : Nat → Nat → α) (c : β), (∀ a b, f (g a b) = c) → xw_C f g (fun _ => c) := fun f g c h a b _ _ => (h a b).symm
  refine ⟨n, d, fun _ _ => 0, fun _ _ => false, fun _ => false, fun _ _ => [], fun _ _ => [], ⟨⟨h2, h8, fun _ _ => Or.inl rfl, fun _ _ z => (nomatch z), fun _ _ z => (nomatch z)⟩, ⟨d1, d4⟩, fun a b => ⟨rt_pd_nil n a, fun z => absurd rfl z⟩, fun a b => ⟨fun z => absurd rfl z, Nat.zero_le d, fun m hm => absurd hm List.not_mem_nil⟩, fun _ _ z => (nomatch z)⟩, ⟨_, _, _, _, _, _, _, _, _, rfl, ?_⟩, ⟨_, _, _, _, _, _, _, _, _, rfl, ?_⟩⟩
  · exact ⟨fun _ _ => rfl, z8 _ _ _ (fun _ _ => rfl), z8 _ _ _ (fun _ _ => rfl), z8 _ _ _ (fun _ _ => rfl), z8 _ _ _ (fun _ _ => rfl), fun _ _ _ _ _ _ _ z => (nomatch z)⟩
  · exact ⟨fun _ _ => rfl, z8 _ _ _ (fun _ _ => rfl), z8 _ _ _ (fun _ _ => rfl), z8 _ _ _ (fun _ _ => rfl), z8 _ _ _ (fun _ _ => rfl), fun _ _ _ _ _ _ _ z => (nomatch z)⟩
theorem i_vc_addLink {k : Nat} {u : SX} {v : SY} (I : i_Rel k u v) (hk : k + 4 ≤ 2050) (v1 : Int32) (v2 : Int32) (v3 : Int32) : wpX_addLink (fun r u' => wpY_addLink (fun r' v' => r' = r ∧ i_Rel (k + 4) u' v') v v1 v2 v3) u v1 v2 v3 := by
  have I0 := I
  obtain ⟨n, d, rl, up, og, H, Q, hI, ⟨xb, xp, xk, ao, ar, al, ah, aw, sl, rfl, hX⟩, ⟨yc, yk, yb, yo, yr, yl, yh, yw, ys, rfl, hY⟩⟩ := I
  have hI' := hI
  obtain ⟨hc, hd, gh, gq, hsy⟩ := hI'
  have hn := hc.2.1
  have hr := hc.2.2.1
  have hg : ∀ a b, rt_ok n (H a b) := fun a b => (gh a b).1.1
  have hgd := rt_gh_gd gh
  rcases xw_bp_c hn v1 v2 with hb | ⟨a, b, ha, hb, hne, rfl, rfl⟩
  · unfold wpX_addLink
    refine xw_bp_t hn hb (br_f xw_10 ?_)
    unfold wpY_addLink
    exact yw_rel_t hn hb (br_t rfl ⟨rfl, I0⟩)
  · have hle := rt_rl_le hr a b
    by_cases h2 : v3 < 2
    · unfold wpX_addLink
      refine xw_bp_f hn ha hb hne (br_t rfl (br_t h2 ?_))
      unfold wpY_addLink
      exact yw_rel_f hY hn ha hb hne (br_f (xw_nm1 (by omega)) (br_t h2 ⟨rfl, I0⟩))
    · by_cases h4 : v3 ≤ 4
      · have h00 : ¬ v3 < 0 := fun z => h2 (Int32.lt_trans z (by decide))
        obtain ⟨k, hkl, rfl⟩ := nI_of h00
        have k2 : 2 ≤ k := by
          by_cases z : 2 ≤ k
          · exact z
          · exact absurd (nI_lt (b := 2) (show k < 2 by omega) (by decide)) h2
        have k4 : k ≤ 4 := by
          by_cases z : k ≤ 4
          · exact z
          · exact absurd h4 (nI_ge (a := 4) (show 4 < k by omega) hkl)
        refine xw_addLink hX hc hd gh gq ha hb hne k2 k4 (fun h => ?_) (fun h h' => ?_) (fun h h' u' hu' => ?_)
        · exact yw_addLink hY hc hd gh gq ha hb hne k2 k4 (fun _ => ⟨rfl, I0⟩) (fun z => absurd z h) (fun z => absurd z h)
        · exact yw_addLink hY hc hd gh gq ha hb hne k2 k4 (fun z => absurd h z) (fun _ _ => ⟨rfl, I0⟩) (fun _ z => absurd h' z)
        · refine yw_addLink hY hc hd gh gq ha hb hne k2 k4 (fun z => absurd h z) (fun _ z => absurd z h') (fun _ _ v' hv' => ⟨rfl, ?_⟩)
          have hg2 := rt_set (d := d) (rl := rl) hne true gh gq
          have hc2 := rt_cf_set (rt_cf_add hc ha hb hne k2 k4 h') hne (by rw [rt_lk_1 hne]; omega) true
          exact ⟨n, d, _, _, _, _, _, rt_send_ok hc2 hd hg2.1 hg2.2, ⟨_, _, _, hu'⟩, ⟨_, _, _, hv'⟩⟩
      · unfold wpX_addLink
        refine xw_bp_f hn ha hb hne (br_t rfl (br_f h2 (br_f h4 ?_)))
        unfold wpY_addLink
        exact yw_rel_f hY hn ha hb hne (br_f (xw_nm1 (by omega)) (br_f h2 (br_f h4 ⟨rfl, I0⟩)))
theorem i_vc_fail {k : Nat} {u : SX} {v : SY} (I : i_Rel k u v) (hk : k + 4 ≤ 2050) (v1 : Int32) (v2 : Int32) : wpX_fail (fun r u' => wpY_fail (fun r' v' => r' = r ∧ i_Rel (k + 4) u' v') v v1 v2) u v1 v2 := by
  have I0 := I
  obtain ⟨n, d, rl, up, og, H, Q, hI, ⟨xb, xp, xk, ao, ar, al, ah, aw, sl, rfl, hX⟩, ⟨yc, yk, yb, yo, yr, yl, yh, yw, ys, rfl, hY⟩⟩ := I
  have hI' := hI
  obtain ⟨hc, hd, gh, gq, hsy⟩ := hI'
  have hn := hc.2.1
  have hr := hc.2.2.1
  have hg : ∀ a b, rt_ok n (H a b) := fun a b => (gh a b).1.1
  have hgd := rt_gh_gd gh
  unfold wpX_fail wpY_fail
  rcases xw_bp_c hn v1 v2 with hb | ⟨a, b, ha, hb, hne, rfl, rfl⟩
  · unfold wpX_switchLink
    refine xw_bp_t hn hb (br_f xw_10 ?_)
    unfold wpY_setLink
    exact yw_cp_t hn hb (br_f (by decide) ⟨rfl, I0⟩)
  · refine xw_switchLink hX hc hd gh gq ha hb hne false (fun h => ?_) (fun h h' => ?_) (fun h h' u' hu' => ?_)
    · unfold wpY_setLink
      exact yw_cp_f hY hr hn ha hb hne (fun _ => br_f (by decide) ⟨rfl, I0⟩) (fun z => absurd h z)
    · exact yw_setLink hY hc hd gh gq ha hb hne h false (fun _ => ⟨rfl, I0⟩) (fun z => absurd h' z)
    · have hu0 := hu'
      obtain ⟨ao2, ar2, al2, ah2, aw2, sl2, rfl, hX2⟩ := hu0
      refine yw_setLink hY hc hd gh gq ha hb hne h false (fun z => absurd z h') (fun _ v' hv' => ?_)
      have hv0 := hv'
      obtain ⟨ao3, ar3, al3, ah3, aw3, sl3, rfl, hY2⟩ := hv0
      have hg2 := rt_set (d := d) (rl := rl) hne false gh gq
      exact ⟨rfl, ⟨n, d, _, _, _, _, _, rt_send_ok (rt_cf_set hc hne h false) hd hg2.1 hg2.2, ⟨_, _, _, hu'⟩, ⟨_, _, _, hv'⟩⟩⟩
theorem i_vc_restore {k : Nat} {u : SX} {v : SY} (I : i_Rel k u v) (hk : k + 4 ≤ 2050) (v1 : Int32) (v2 : Int32) : wpX_restore (fun r u' => wpY_restore (fun r' v' => r' = r ∧ i_Rel (k + 4) u' v') v v1 v2) u v1 v2 := by
  have I0 := I
  obtain ⟨n, d, rl, up, og, H, Q, hI, ⟨xb, xp, xk, ao, ar, al, ah, aw, sl, rfl, hX⟩, ⟨yc, yk, yb, yo, yr, yl, yh, yw, ys, rfl, hY⟩⟩ := I
  have hI' := hI
  obtain ⟨hc, hd, gh, gq, hsy⟩ := hI'
  have hn := hc.2.1
  have hr := hc.2.2.1
  have hg : ∀ a b, rt_ok n (H a b) := fun a b => (gh a b).1.1
  have hgd := rt_gh_gd gh
  unfold wpX_restore wpY_restore
  rcases xw_bp_c hn v1 v2 with hb | ⟨a, b, ha, hb, hne, rfl, rfl⟩
  · unfold wpX_switchLink
    refine xw_bp_t hn hb (br_f xw_10 ?_)
    unfold wpY_setLink
    exact yw_cp_t hn hb (br_f (by decide) ⟨rfl, I0⟩)
  · refine xw_switchLink hX hc hd gh gq ha hb hne true (fun h => ?_) (fun h h' => ?_) (fun h h' u' hu' => ?_)
    · unfold wpY_setLink
      exact yw_cp_f hY hr hn ha hb hne (fun _ => br_f (by decide) ⟨rfl, I0⟩) (fun z => absurd h z)
    · exact yw_setLink hY hc hd gh gq ha hb hne h true (fun _ => ⟨rfl, I0⟩) (fun z => absurd h' z)
    · have hu0 := hu'
      obtain ⟨ao2, ar2, al2, ah2, aw2, sl2, rfl, hX2⟩ := hu0
      refine yw_setLink hY hc hd gh gq ha hb hne h true (fun z => absurd z h') (fun _ v' hv' => ?_)
      have hv0 := hv'
      obtain ⟨ao3, ar3, al3, ah3, aw3, sl3, rfl, hY2⟩ := hv0
      have hg2 := rt_set (d := d) (rl := rl) hne true gh gq
      exact ⟨rfl, ⟨n, d, _, _, _, _, _, rt_send_ok (rt_cf_set hc hne h true) hd hg2.1 hg2.2, ⟨_, _, _, hu'⟩, ⟨_, _, _, hv'⟩⟩⟩
theorem i_vc_originate {k : Nat} {u : SX} {v : SY} (I : i_Rel k u v) (hk : k + 4 ≤ 2050) (v1 : Int32) : wpX_originate (fun r u' => wpY_originate (fun r' v' => r' = r ∧ i_Rel (k + 4) u' v') v v1) u v1 := by
  have I0 := I
  obtain ⟨n, d, rl, up, og, H, Q, hI, ⟨xb, xp, xk, ao, ar, al, ah, aw, sl, rfl, hX⟩, ⟨yc, yk, yb, yo, yr, yl, yh, yw, ys, rfl, hY⟩⟩ := I
  have hI' := hI
  obtain ⟨hc, hd, gh, gq, hsy⟩ := hI'
  have hn := hc.2.1
  have hr := hc.2.2.1
  have hg : ∀ a b, rt_ok n (H a b) := fun a b => (gh a b).1.1
  have hgd := rt_gh_gd gh
  unfold wpX_originate wpY_originate
  rcases xw_bd_c hn v1 with hb | ⟨v, hv, rfl⟩
  · unfold wpX_switchOrigin
    refine xw_isBad_t hb (br_f xw_10 ?_)
    unfold wpY_setOrigin
    exact yw_bad_t hb (br_f xw_10 ⟨rfl, I0⟩)
  · refine xw_switchOrigin hX hc hd gh gq hv true (fun h => ?_) (fun h u' hu' => ?_)
    · exact yw_setOrigin hY hc hd gh gq hv true (fun _ => ⟨rfl, I0⟩) (fun z => absurd h z)
    · have hu0 := hu'
      obtain ⟨ao2, ar2, al2, ah2, aw2, sl2, rfl, hX2⟩ := hu0
      refine yw_setOrigin hY hc hd gh gq hv true (fun z => absurd z h) (fun _ v' hv' => ?_)
      have hv0 := hv'
      obtain ⟨ao3, ar3, al3, ah3, aw3, sl3, rfl, hY2⟩ := hv0
      exact ⟨rfl, ⟨n, d, _, _, _, _, _, rt_send_ok hc hd gh gq, ⟨_, _, _, hu'⟩, ⟨_, _, _, hv'⟩⟩⟩
theorem i_vc_withdraw {k : Nat} {u : SX} {v : SY} (I : i_Rel k u v) (hk : k + 4 ≤ 2050) (v1 : Int32) : wpX_withdraw (fun r u' => wpY_withdraw (fun r' v' => r' = r ∧ i_Rel (k + 4) u' v') v v1) u v1 := by
  have I0 := I
  obtain ⟨n, d, rl, up, og, H, Q, hI, ⟨xb, xp, xk, ao, ar, al, ah, aw, sl, rfl, hX⟩, ⟨yc, yk, yb, yo, yr, yl, yh, yw, ys, rfl, hY⟩⟩ := I
  have hI' := hI
  obtain ⟨hc, hd, gh, gq, hsy⟩ := hI'
  have hn := hc.2.1
  have hr := hc.2.2.1
  have hg : ∀ a b, rt_ok n (H a b) := fun a b => (gh a b).1.1
  have hgd := rt_gh_gd gh
  unfold wpX_withdraw wpY_withdraw
  rcases xw_bd_c hn v1 with hb | ⟨v, hv, rfl⟩
  · unfold wpX_switchOrigin
    refine xw_isBad_t hb (br_f xw_10 ?_)
    unfold wpY_setOrigin
    exact yw_bad_t hb (br_f xw_10 ⟨rfl, I0⟩)
  · refine xw_switchOrigin hX hc hd gh gq hv false (fun h => ?_) (fun h u' hu' => ?_)
    · exact yw_setOrigin hY hc hd gh gq hv false (fun _ => ⟨rfl, I0⟩) (fun z => absurd h z)
    · have hu0 := hu'
      obtain ⟨ao2, ar2, al2, ah2, aw2, sl2, rfl, hX2⟩ := hu0
      refine yw_setOrigin hY hc hd gh gq hv false (fun z => absurd z h) (fun _ v' hv' => ?_)
      have hv0 := hv'
      obtain ⟨ao3, ar3, al3, ah3, aw3, sl3, rfl, hY2⟩ := hv0
      exact ⟨rfl, ⟨n, d, _, _, _, _, _, rt_send_ok hc hd gh gq, ⟨_, _, _, hu'⟩, ⟨_, _, _, hv'⟩⟩⟩
theorem i_vc_deliver {k : Nat} {u : SX} {v : SY} (I : i_Rel k u v) (hk : k + 4 ≤ 2050) (v1 : Int32) (v2 : Int32) : wpX_deliver (fun r u' => wpY_deliver (fun r' v' => r' = r ∧ i_Rel (k + 4) u' v') v v1 v2) u v1 v2 := by
  have I0 := I
  obtain ⟨n, d, rl, up, og, H, Q, hI, ⟨xb, xp, xk, ao, ar, al, ah, aw, sl, rfl, hX⟩, ⟨yc, yk, yb, yo, yr, yl, yh, yw, ys, rfl, hY⟩⟩ := I
  have hI' := hI
  obtain ⟨hc, hd, gh, gq, hsy⟩ := hI'
  have hn := hc.2.1
  have hr := hc.2.2.1
  have hg : ∀ a b, rt_ok n (H a b) := fun a b => (gh a b).1.1
  have hgd := rt_gh_gd gh
  rcases xw_bp_c hn v1 v2 with hb | ⟨a, b, ha, hb, hne, rfl, rfl⟩
  · unfold wpX_deliver
    refine xw_bp_t hn hb (br_f xw_10 ?_)
    unfold wpY_deliver
    exact yw_cp_t hn hb (br_f (by decide) ⟨rfl, I0⟩)
  · refine xw_deliver hX hI ha hb hne (fun h => ?_) (fun h h' => ?_) (fun h h' u' hu' => ?_)
    · unfold wpY_deliver
      exact yw_cp_f hY hr hn ha hb hne (fun _ => br_f (by decide) ⟨rfl, I0⟩) (fun z => absurd h z)
    · unfold wpY_deliver
      refine yw_cp_f hY hr hn ha hb hne (fun z => absurd z h) (fun _ => br_t rfl ?_)
      have ew : yw (nI (a * 8 + b)).toNatClampNeg = 0 := by
        rw [nI_clamp (by omega), hY.2.2.2.2.1 a b (by omega) (by omega), h']
        rfl
      exact nm_r (xw_ix a b) ⟨vp_in_nI (by omega) (by decide), br_t ew ⟨rfl, I0⟩⟩
    · obtain ⟨m, r, hq⟩ : ∃ m r, Q a b = m :: r := by
        cases e : Q a b with
        | nil => exact absurd e h'
        | cons m r => exact ⟨m, r, rfl⟩
      exact yw_deliver hY hI ha hb hne h hq (fun v' hv' => ⟨rfl, ⟨n, d, _, _, _, _, _, rt_dl_inv (s := (H, Q)) hI a b, ⟨_, _, _, hu'⟩, ⟨_, _, _, hv'⟩⟩⟩)
theorem i_vc_settle {k : Nat} {u : SX} {v : SY} (I : i_Rel k u v) (hk : k + 4 ≤ 2050) : wpX_settle (fun r u' => wpY_settle (fun r' v' => r' = r ∧ i_Rel (k + 4) u' v') v) u := by
  have I0 := I
  obtain ⟨n, d, rl, up, og, H, Q, hI, ⟨xb, xp, xk, ao, ar, al, ah, aw, sl, rfl, hX⟩, ⟨yc, yk, yb, yo, yr, yl, yh, yw, ys, rfl, hY⟩⟩ := I
  have hI' := hI
  obtain ⟨hc, hd, gh, gq, hsy⟩ := hI'
  have hn := hc.2.1
  have hr := hc.2.2.1
  have hg : ∀ a b, rt_ok n (H a b) := fun a b => (gh a b).1.1
  have hgd := rt_gh_gd gh
  refine xw_settle hI (fun H' Q' ab' u' hI2 hq hu' => ?_) ao ar al ah aw sl hX
  have hF := rt_fd_F hc og (m := n) (by have := hc.1; omega)
  have hQ := rt_F_quiet hF hI2 hq
  refine yw_settle hI hY yc yb yk (fun ac' ak' ab2 v' hv' => ?_)
  have e2 : Q' = fun _ _ => [] := by
    funext a b
    exact hq a b
  rw [← hQ.1, ← e2] at hv'
  rw [← hQ.1]
  exact ⟨rfl, ⟨n, d, _, _, _, _, _, hI2, ⟨_, _, _, hu'⟩, ⟨_, _, _, hv'⟩⟩⟩
theorem i_vc_selected {k : Nat} {u : SX} {v : SY} (I : i_Rel k u v) (hk : k + 4 ≤ 2050) (v1 : Int32) : wpX_selected (fun r => wpY_selected (fun r' => r' = r ∧ i_Rel (k + 4) u v) v v1) u v1 := by
  have I0 := I
  obtain ⟨n, d, rl, up, og, H, Q, hI, ⟨xb, xp, xk, ao, ar, al, ah, aw, sl, rfl, hX⟩, ⟨yc, yk, yb, yo, yr, yl, yh, yw, ys, rfl, hY⟩⟩ := I
  have hI' := hI
  obtain ⟨hc, hd, gh, gq, hsy⟩ := hI'
  have hn := hc.2.1
  have hr := hc.2.2.1
  have hg : ∀ a b, rt_ok n (H a b) := fun a b => (gh a b).1.1
  have hgd := rt_gh_gd gh
  unfold wpX_selected wpY_selected
  rcases xw_bd_c hn v1 with hb | ⟨v, hv, rfl⟩
  · exact xw_isBad_t hb (br_f xw_10 (yw_bad_t hb (br_f xw_10 ⟨rfl, I0⟩)))
  · refine xw_isBad_f hn hv (br_t rfl ?_)
    refine xw_selectedPath hX hn hr hg hv ?_
    refine yw_bad_f hn hv (br_t rfl ?_)
    exact yw_codeOf hY hc hgd hv ⟨rfl, I0⟩
theorem i_vc_expected {k : Nat} {u : SX} {v : SY} (I : i_Rel k u v) (hk : k + 4 ≤ 2050) (v1 : Int32) : wpX_expected (fun r u' => wpY_expected (fun r' v' => r' = r ∧ i_Rel (k + 4) u' v') v v1) u v1 := by
  have I0 := I
  obtain ⟨n, d, rl, up, og, H, Q, hI, ⟨xb, xp, xk, ao, ar, al, ah, aw, sl, rfl, hX⟩, ⟨yc, yk, yb, yo, yr, yl, yh, yw, ys, rfl, hY⟩⟩ := I
  have hI' := hI
  obtain ⟨hc, hd, gh, gq, hsy⟩ := hI'
  have hn := hc.2.1
  have hr := hc.2.2.1
  have hg : ∀ a b, rt_ok n (H a b) := fun a b => (gh a b).1.1
  have hgd := rt_gh_gd gh
  unfold wpX_expected wpY_expected
  rcases xw_bd_c hn v1 with hb | ⟨v, hv, rfl⟩
  · exact xw_isBad_t hb (br_f xw_10 (yw_bad_t hb (br_f xw_10 ⟨rfl, I0⟩)))
  · refine xw_isBad_f hn hv (br_t rfl ?_)
    refine xw_findExpected hX hc xp xk (fun ap' ak' hE => ⟨xw_i8 (by omega), ?_⟩)
    refine yw_bad_f hn hv (br_t rfl ?_)
    refine yw_compute hY hc yc yk (fun ac' ak2 hE2 => ⟨xw_i8 (by omega), ?_⟩)
    have hF1 := rt_fd_F hc og (m := 1) (by decide)
    have hF2 := rt_fd_F hc og (m := n) (by have := hc.1; omega)
    have hU := rt_F_uniq hc hF1 hF2 hv
    refine ⟨?_, ⟨n, d, rl, up, og, H, Q, hI, ⟨_, _, _, ao, ar, al, ah, aw, sl, rfl, hX⟩, ⟨_, _, _, yo, yr, yl, yh, yw, ys, rfl, hY⟩⟩⟩
    rw [xw_c8 (by omega), (hE v hv).1, (hE2 v hv).1, hU.1]
theorem i_vc_routeKind {k : Nat} {u : SX} {v : SY} (I : i_Rel k u v) (hk : k + 4 ≤ 2050) (v1 : Int32) : wpX_routeKind (fun r => wpY_routeKind (fun r' => r' = r ∧ i_Rel (k + 4) u v) v v1) u v1 := by
  have I0 := I
  obtain ⟨n, d, rl, up, og, H, Q, hI, ⟨xb, xp, xk, ao, ar, al, ah, aw, sl, rfl, hX⟩, ⟨yc, yk, yb, yo, yr, yl, yh, yw, ys, rfl, hY⟩⟩ := I
  have hI' := hI
  obtain ⟨hc, hd, gh, gq, hsy⟩ := hI'
  have hn := hc.2.1
  have hr := hc.2.2.1
  have hg : ∀ a b, rt_ok n (H a b) := fun a b => (gh a b).1.1
  have hgd := rt_gh_gd gh
  unfold wpX_routeKind wpY_routeKind
  rcases xw_bd_c hn v1 with hb | ⟨v, hv, rfl⟩
  · exact xw_isBad_t hb (br_f xw_10 (yw_bad_t hb (br_f xw_10 ⟨rfl, I0⟩)))
  · refine xw_isBad_f hn hv (br_t rfl ?_)
    refine xw_chosenBy hX hn hr hg hv ?_
    refine xw_kindVia hX hn hv (fun u hu => rt_ch_lt hv hu) ?_
    refine yw_bad_f hn hv (br_t rfl ?_)
    exact yw_choose hY hc hgd hv ⟨by decide, yw_kd hc hgd hv, I0⟩
theorem i_vc_heard {k : Nat} {u : SX} {v : SY} (I : i_Rel k u v) (hk : k + 4 ≤ 2050) (v1 : Int32) (v2 : Int32) : wpX_heard (fun r => wpY_heard (fun r' => r' = r ∧ i_Rel (k + 4) u v) v v1 v2) u v1 v2 := by
  have I0 := I
  obtain ⟨n, d, rl, up, og, H, Q, hI, ⟨xb, xp, xk, ao, ar, al, ah, aw, sl, rfl, hX⟩, ⟨yc, yk, yb, yo, yr, yl, yh, yw, ys, rfl, hY⟩⟩ := I
  have hI' := hI
  obtain ⟨hc, hd, gh, gq, hsy⟩ := hI'
  have hn := hc.2.1
  have hr := hc.2.2.1
  have hg : ∀ a b, rt_ok n (H a b) := fun a b => (gh a b).1.1
  have hgd := rt_gh_gd gh
  unfold wpX_heard wpY_heard
  rcases xw_bp_c hn v1 v2 with hb | ⟨a, b, ha, hb, hne, rfl, rfl⟩
  · exact xw_bp_t hn hb (br_f xw_10 (yw_cp_t hn hb (br_f (by decide) ⟨by decide, I0⟩)))
  · refine xw_bp_f hn ha hb hne (br_t rfl ?_)
    refine xw_isLinked hX hr (by omega) (by omega) (fun h0 => br_t rfl ?_) (fun h0 => br_f xw_10 ⟨xw_in (by omega) (by omega), ?_⟩)
    · exact yw_cp_f hY hr hn ha hb hne (fun _ => br_f (by decide) ⟨by decide, I0⟩) (fun z => absurd h0 z)
    · refine yw_cp_f hY hr hn ha hb hne (fun z => absurd z h0) (fun _ => br_t rfl ⟨xw_in (by omega) (by omega), ?_, I0⟩)
      rw [xw_cl (by omega) (by omega), xw_cl (by omega) (by omega), hX.2.2.2.1 b a (by omega) (by omega), hY.2.2.2.1 a b (by omega) (by omega)]
      rfl
theorem i_vc_message {k : Nat} {u : SX} {v : SY} (I : i_Rel k u v) (hk : k + 4 ≤ 2050) (v1 : Int32) (v2 : Int32) (v3 : Int32) : wpX_message (fun r => wpY_message (fun r' => r' = r ∧ i_Rel (k + 4) u v) v v1 v2 v3) u v1 v2 v3 := by
  have I0 := I
  obtain ⟨n, d, rl, up, og, H, Q, hI, ⟨xb, xp, xk, ao, ar, al, ah, aw, sl, rfl, hX⟩, ⟨yc, yk, yb, yo, yr, yl, yh, yw, ys, rfl, hY⟩⟩ := I
  have hI' := hI
  obtain ⟨hc, hd, gh, gq, hsy⟩ := hI'
  have hn := hc.2.1
  have hr := hc.2.2.1
  have hg : ∀ a b, rt_ok n (H a b) := fun a b => (gh a b).1.1
  have hgd := rt_gh_gd gh
  unfold wpX_message wpY_message
  rcases xw_bp_c hn v1 v2 with hb | ⟨a, b, ha, hb, hne, rfl, rfl⟩
  · exact xw_bp_t hn hb (br_f xw_10 (yw_cp_t hn hb (br_t rfl ⟨rfl, I0⟩)))
  · refine xw_bp_f hn ha hb hne (br_t rfl ?_)
    refine xw_isLinked hX hr (by omega) (by omega) (fun h0 => br_t rfl ?_) (fun h0 => br_f xw_10 ?_)
    · exact yw_cp_f hY hr hn ha hb hne (fun _ => br_f (by decide) (br_t rfl ⟨rfl, I0⟩)) (fun z => absurd h0 z)
    · have ex : aw (nI a * 8 + nI b).toNatClampNeg = nI (Q a b).length := by rw [xw_cl (by omega) (by omega)]; exact hX.2.2.2.2.1 a b (by omega) (by omega)
      have ey : yw (nI a * 8 + nI b).toNatClampNeg = nI (Q a b).length := by rw [xw_cl (by omega) (by omega)]; exact hY.2.2.2.2.1 a b (by omega) (by omega)
      have hlen := (gq a b).2.1
      have yy : ∀ P : Int32 → Prop, P 0 → wpY_checkPair P (nI n, nI d, yo, yr, yl, yh, yw, ys, yc, yk, yb) (nI a) (nI b) := fun P hP => yw_cp_f hY hr hn ha hb hne (fun z => absurd z h0) (fun _ => hP)
      by_cases h1 : v3 < 0
      · refine br_t h1 ?_
        refine yy _ ?_
        exact br_f (by decide) (br_f (by decide) (br_t h1 ⟨rfl, I0⟩))
      · refine br_f h1 ⟨xw_in (by omega) (by omega), ?_⟩
        rw [ex]
        by_cases h2 : v3 < nI (Q a b).length
        · refine br_t h2 ?_
          obtain ⟨j, hj, rfl⟩ := nI_of h1
          have hlt : j < (Q a b).length := (nI_ltI hj (by omega)).mp h2
          have e3 : (nI a * 8 + nI b) * 4 + nI j = nI ((a * 8 + b) * 4 + j) := by
            rw [xw_ix, show nI (a * 8 + b) * 4 = nI ((a * 8 + b) * 4) from pk_mul _ 4, nI_add]
          obtain ⟨x, hx⟩ : ∃ x, (Q a b)[j]? = some x := ⟨(Q a b)[j], List.getElem?_eq_getElem hlt⟩
          have e4 : sl (nI ((a * 8 + b) * 4 + j)).toNatClampNeg = xw_lc x := by
            rw [nI_clamp (by omega)]
            exact hX.2.2.2.2.2 a b j x (by omega) (by omega) (by omega) hx
          have e5 : ys (nI ((a * 8 + b) * 4 + j)).toNatClampNeg = xw_lc x := by
            rw [nI_clamp (by omega)]
            exact hY.2.2.2.2.2 a b j x (by omega) (by omega) (by omega) hx
          rw [e3, e4]
          refine ⟨vp_in_nI (by omega) (by decide), ?_⟩
          refine yy _ ?_
          refine br_f (by decide) (br_f (by decide) (br_f h1 ⟨xw_in (by omega) (by omega), ?_⟩))
          rw [ey, e5]
          exact br_t h2 ⟨vp_in_nI (by omega) (by decide), rfl, I0⟩
        · refine br_f h2 ?_
          refine yy _ ?_
          refine br_f (by decide) (br_f (by decide) (br_f h1 ⟨xw_in (by omega) (by omega), ?_⟩))
          rw [ey]
          exact br_f h2 ⟨rfl, I0⟩
theorem i_vc_inFlight {k : Nat} {u : SX} {v : SY} (I : i_Rel k u v) (hk : k + 4 ≤ 2050) : wpX_inFlight (fun r => wpY_inFlight (fun r' => r' = r ∧ i_Rel (k + 4) u v) v) u := by
  have I0 := I
  obtain ⟨n, d, rl, up, og, H, Q, hI, ⟨xb, xp, xk, ao, ar, al, ah, aw, sl, rfl, hX⟩, ⟨yc, yk, yb, yo, yr, yl, yh, yw, ys, rfl, hY⟩⟩ := I
  have hI' := hI
  obtain ⟨hc, hd, gh, gq, hsy⟩ := hI'
  have hn := hc.2.1
  have hr := hc.2.2.1
  have hg : ∀ a b, rt_ok n (H a b) := fun a b => (gh a b).1.1
  have hgd := rt_gh_gd gh
  exact xw_inFlight hX (yw_inFlight hY ⟨rfl, I0⟩)
theorem i_vc_relation {k : Nat} {u : SX} {v : SY} (I : i_Rel k u v) (hk : k + 4 ≤ 2050) (v1 : Int32) (v2 : Int32) : wpX_relation (fun r => wpY_relation (fun r' => r' = r ∧ i_Rel (k + 4) u v) v v1 v2) u v1 v2 := by
  have I0 := I
  obtain ⟨n, d, rl, up, og, H, Q, hI, ⟨xb, xp, xk, ao, ar, al, ah, aw, sl, rfl, hX⟩, ⟨yc, yk, yb, yo, yr, yl, yh, yw, ys, rfl, hY⟩⟩ := I
  have hI' := hI
  obtain ⟨hc, hd, gh, gq, hsy⟩ := hI'
  have hn := hc.2.1
  have hr := hc.2.2.1
  have hg : ∀ a b, rt_ok n (H a b) := fun a b => (gh a b).1.1
  have hgd := rt_gh_gd gh
  unfold wpX_relation
  rcases xw_bp_c hn v1 v2 with hb | ⟨a, b, ha, hb, hne, rfl, rfl⟩
  · exact xw_bp_t hn hb (br_f xw_10 (yw_rel_t hn hb ⟨rfl, I0⟩))
  · refine xw_bp_f hn ha hb hne (br_t rfl ⟨xw_in (by omega) (by omega), ?_⟩)
    refine yw_rel_f hY hn ha hb hne ⟨?_, I0⟩
    rw [xw_cl (by omega) (by omega), hX.2.1 a b (by omega) (by omega)]
theorem i_vc_isUp {k : Nat} {u : SX} {v : SY} (I : i_Rel k u v) (hk : k + 4 ≤ 2050) (v1 : Int32) (v2 : Int32) : wpX_isUp (fun r => wpY_isUp (fun r' => r' = r ∧ i_Rel (k + 4) u v) v v1 v2) u v1 v2 := by
  have I0 := I
  obtain ⟨n, d, rl, up, og, H, Q, hI, ⟨xb, xp, xk, ao, ar, al, ah, aw, sl, rfl, hX⟩, ⟨yc, yk, yb, yo, yr, yl, yh, yw, ys, rfl, hY⟩⟩ := I
  have hI' := hI
  obtain ⟨hc, hd, gh, gq, hsy⟩ := hI'
  have hn := hc.2.1
  have hr := hc.2.2.1
  have hg : ∀ a b, rt_ok n (H a b) := fun a b => (gh a b).1.1
  have hgd := rt_gh_gd gh
  unfold wpX_isUp wpY_isUp
  rcases xw_bp_c hn v1 v2 with hb | ⟨a, b, ha, hb, hne, rfl, rfl⟩
  · refine xw_bp_t hn hb (br_f xw_10 ?_)
    rcases xw_bd_c hn v1 with h1 | ⟨a, ha, rfl⟩
    · exact yw_bad_t h1 (br_f xw_10 ⟨rfl, I0⟩)
    · refine yw_bad_f hn ha (br_t rfl ?_)
      rcases xw_bd_c hn v2 with h2 | ⟨b, hb2, rfl⟩
      · exact yw_bad_t h2 (br_f xw_10 ⟨rfl, I0⟩)
      · refine yw_bad_f hn hb2 (br_t rfl ⟨xw_in (by omega) (by omega), ?_⟩)
        have e : a = b := by
          rcases hb with z | z | z
          · rcases z with z | z
            · exact absurd z (nI_pos (by omega))
            · exact absurd (nI_lt ha (by omega)) z
          · rcases z with z | z
            · exact absurd z (nI_pos (by omega))
            · exact absurd (nI_lt hb2 (by omega)) z
          · exact (nI_eq (by omega) (by omega)).mp z
        subst e
        have hup : ¬ up a a = true := fun z => (rt_up_lt hc z).2.2 rfl
        refine br_t ?_ ⟨rfl, I0⟩
        rw [xw_cl (by omega) (by omega), hY.2.2.1 a a (by omega) (by omega)]
        exact xw_bn hup
  · refine xw_bp_f hn ha hb hne (br_t rfl ⟨xw_in (by omega) (by omega), ?_⟩)
    have ex : al (nI a * 8 + nI b).toNatClampNeg = xw_b (up a b) := by rw [xw_cl (by omega) (by omega)]; exact hX.2.2.1 a b (by omega) (by omega)
    have ey : yl (nI a * 8 + nI b).toNatClampNeg = xw_b (up a b) := by rw [xw_cl (by omega) (by omega)]; exact hY.2.2.1 a b (by omega) (by omega)
    by_cases hu : up a b = true
    · refine br_f (by rw [ex]; exact xw_b_ne hu) ?_
      exact yw_bad_f hn ha (br_t rfl (yw_bad_f hn hb (br_t rfl ⟨xw_in (by omega) (by omega), br_f (by rw [ey]; exact xw_b_ne hu) ⟨rfl, I0⟩⟩)))
    · refine br_t (by rw [ex]; exact xw_bn hu) ?_
      exact yw_bad_f hn ha (br_t rfl (yw_bad_f hn hb (br_t rfl ⟨xw_in (by omega) (by omega), br_t (by rw [ey]; exact xw_bn hu) ⟨rfl, I0⟩⟩)))
theorem i_vc_forward {k : Nat} {u : SX} {v : SY} (I : i_Rel k u v) (hk : k + 4 ≤ 2050) (v1 : Int32) : wpX_forward (fun r => wpY_forward (fun r' => r' = r ∧ i_Rel (k + 4) u v) v v1) u v1 := by
  have I0 := I
  obtain ⟨n, d, rl, up, og, H, Q, hI, ⟨xb, xp, xk, ao, ar, al, ah, aw, sl, rfl, hX⟩, ⟨yc, yk, yb, yo, yr, yl, yh, yw, ys, rfl, hY⟩⟩ := I
  have hI' := hI
  obtain ⟨hc, hd, gh, gq, hsy⟩ := hI'
  have hn := hc.2.1
  have hr := hc.2.2.1
  have hg : ∀ a b, rt_ok n (H a b) := fun a b => (gh a b).1.1
  have hgd := rt_gh_gd gh
  unfold wpX_forward wpY_forward
  rcases xw_bd_c hn v1 with hb | ⟨v, hv, rfl⟩
  · exact xw_isBad_t hb (br_f xw_10 (yw_bad_t hb (br_f xw_10 ⟨rfl, I0⟩)))
  · refine xw_isBad_f hn hv (br_t rfl ?_)
    refine xw_forward hX hn hr hg hv ?_
    refine yw_bad_f hn hv (br_t rfl ?_)
    refine yw_forward hY hc hgd hv ⟨?_, I0⟩
    exact (rt_fw_fy (fun v u hv hu => rt_ch_lt hv hu) n 0 v [] (by omega) rfl (rt_ok_nil n) hv (fun x hx => absurd hx List.not_mem_nil)).symm
