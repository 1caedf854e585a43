/-! the reference sends -/
section
variable {n d : Nat} {rl : Nat → Nat → Nat} {up : Nat → Nat → Bool} {og : Nat → Bool} {H : rt_HT} {Q : rt_QT} {ao ar al : Nat → Int32} {ah : Nat → Int64} {aw : Nat → Int32} {sl ac ab : Nat → Int64} {ak : Nat → Int32}
theorem yw_send106 (hA : xw_A rl up og (rt_tr H) Q ao ar al ah aw sl) (hn : n ≤ 8) (hd : 1 ≤ d ∧ d ≤ 4) {a b : Nat} (ha : a < 8) (hb : b < 8) (hq : (Q a b).length ≤ d) {e l0 : List Nat}
    (he : rt_ok n e) (hl : rt_ok n l0) (h0 : l0 = (Q a b).getLastD (H a b)) {post : SY → Prop} {J2 J29 : Int32 → (Nat → Int32) → (Nat → Int32) → (Nat → Int32) → (Nat → Int64) → (Nat → Int32) → (Nat → Int64) → (Nat → Int64) → (Nat → Int32) → (Nat → Int64) → Prop} {x2 : Int32} {x3 : Int64}
    (hno : ¬ up a b = true → J29 (nI (b + 1)) ao ar al ah aw sl ac ak ab)
    (hput : up a b = true → ∀ (aw : Nat → Int32) (sl : Nat → Int64), xw_A rl up og (rt_tr H) (rt_u2 Q a b (rt_sd d (Q a b) (H a b) e)) ao ar al ah aw sl → J29 (nI (b + 1)) ao ar al ah aw sl ac ak ab) :
    wY_send_106 post J2 J29 (nI a) x2 x3 (nI b) (nI (a * 8 + b)) (xw_lc e) (xw_lc l0) (nI n) (nI d) ao ar al ah aw sl ac ak ab := by
  have hcl : (nI (a * 8 + b)).toNatClampNeg = a * 8 + b := nI_clamp (by omega)
  have hin : vp_in (nI (a * 8 + b)) 64 := vp_in_nI (by omega) (by decide)
  have e1 : al (nI (a * 8 + b)).toNatClampNeg = xw_b (up a b) := by rw [hcl]; exact hA.2.2.1 a b ha hb
  have e2 : aw (nI (a * 8 + b)).toNatClampNeg = nI (Q a b).length := by rw [hcl]; exact hA.2.2.2.2.1 a b ha hb
  have h4 : nI (a * 8 + b) * 4 = nI ((a * 8 + b) * 4) := pk_mul _ 4
  unfold rt_sd at hput
  refine ⟨hin, ?_⟩
  by_cases hu : up a b = true
  · have hput := hput hu
    refine br_f (by rw [e1]; exact xw_b_ne hu) ?_
    by_cases z : e = l0
    · rw [if_pos (by rw [← h0]; exact z), rt_u2_id] at hput
      exact br_t (by rw [z]) (nm_r (nI_1 b) (hput aw sl hA))
    · rw [if_neg (by rw [← h0]; exact z)] at hput
      refine br_f (fun y => z ((xw_lc_eq hn he hl).mp y)) ⟨hin, ?_⟩
      obtain ⟨A1, A2, A3, A4, A5, A6⟩ := hA
      by_cases hf : (Q a b).length < d
      · rw [if_pos hf] at hput
        refine br_f (by rw [e2]; exact xw_ge hf (by omega)) ⟨hin, hin, ?_⟩
        refine nm_r (e' := upd aw (a * 8 + b) (nI ((Q a b).length + 1))) (by rw [e2, nI_1, hcl]) ⟨hin, ?_⟩
        have e3 : nI (a * 8 + b) * 4 + upd aw (a * 8 + b) (nI ((Q a b).length + 1)) (nI (a * 8 + b)).toNatClampNeg - 1 = nI ((a * 8 + b) * 4 + (Q a b).length) := by
          rw [hcl, pk_us, h4, nI_add, ← Nat.add_assoc, nI_pred]
        rw [e3]
        refine ⟨vp_in_nI (by omega) (by decide), nm_r (e' := vp_updL sl ((a * 8 + b) * 4 + (Q a b).length) (xw_lc e)) (by rw [nI_clamp (by omega)]) (nm_r (nI_1 b) ?_)⟩
        refine hput _ _ ⟨A1, A2, A3, A4, xw_C_32 A5 hb ?_, xw_S_put A6 hb (by omega) (fun k m hk hm => rt_app_at hm)⟩
        show nI ((Q a b).length + 1) = nI ((Q a b) ++ [e]).length
        rw [List.length_append, List.length_singleton]
      · rw [if_neg hf] at hput
        refine br_t (by rw [e2]; exact xw_le (by omega) (by omega)) ⟨hin, ?_⟩
        have e3 : nI (a * 8 + b) * 4 + aw (nI (a * 8 + b)).toNatClampNeg - 1 = nI ((a * 8 + b) * 4 + ((Q a b).length - 1)) := by
          rw [e2, h4, nI_add, show (a * 8 + b) * 4 + (Q a b).length = (a * 8 + b) * 4 + ((Q a b).length - 1) + 1 by omega, nI_pred]
        rw [e3]
        refine ⟨vp_in_nI (by omega) (by decide), nm_r (e' := vp_updL sl ((a * 8 + b) * 4 + ((Q a b).length - 1)) (xw_lc e)) (by rw [nI_clamp (by omega)]) (nm_r (nI_1 b) ?_)⟩
        refine hput _ _ ⟨A1, A2, A3, A4, xw_C_same A5 ?_, xw_S_put A6 hb (by omega) (fun k m hk hm => rt_rep_at hm)⟩
        show nI ((Q a b).dropLast ++ [e]).length = nI (Q a b).length
        rw [List.length_append, List.length_singleton, List.length_dropLast, show (Q a b).length - 1 + 1 = (Q a b).length by omega]
  · exact br_t (by rw [e1]; exact xw_bn hu) (nm_r (nI_1 b) (hno hu))
end
theorem rt_kd_le {n : Nat} {rl : Nat → Nat → Nat} (hr : rt_rl n rl) (og : Nat → Bool) (H : rt_HT) (v : Nat) : rt_kd n rl og H v ≤ 4 := by
  show rt_kvia rl v (rt_ch n rl og H v) ≤ 4
  cases rt_ch n rl og H v with
  | none => exact Nat.zero_le 4
  | some u =>
    dsimp only [rt_kvia]
    by_cases e : u = v
    · rw [if_pos e]; decide
    · rw [if_neg e]; exact rt_rl_le hr v u
section
variable {n d : Nat} {rl : Nat → Nat → Nat} {up : Nat → Nat → Bool} {og : Nat → Bool} {H : rt_HT} {Q : rt_QT} {ao ar al : Nat → Int32} {ah : Nat → Int64} {ac ab : Nat → Int64} {ak : Nat → Int32}
theorem yw_s_row (hc : rt_cf n rl up) (hd : 1 ≤ d ∧ d ≤ 4) (gh : rt_gh n up H) (gq : rt_gq n d up Q) {v : Nat} (hv : v < n) {post : SY → Prop} {J2 : Int32 → (Nat → Int32) → (Nat → Int32) → (Nat → Int32) → (Nat → Int64) → (Nat → Int32) → (Nat → Int64) → (Nat → Int64) → (Nat → Int32) → (Nat → Int64) → Prop}
    (hp : ∀ (aw : Nat → Int32) (sl : Nat → Int64), xw_A rl up og (rt_tr H) (rt_part n d rl up og H Q v n) ao ar al ah aw sl → J2 (nI (v + 1)) ao ar al ah aw sl ac ak ab) : ∀ m i, i + m = n → ∀ (aw : Nat → Int32) (sl : Nat → Int64),
    xw_A rl up og (rt_tr H) (rt_part n d rl up og H Q v i) ao ar al ah aw sl →
    wY_send_29 post J2 (nI v) (nI (rt_kd n rl og H v)) (xw_lc (rt_pt n rl og H v)) (nI n) (nI d) (m + 1) (nI i) ao ar al ah aw sl ac ak ab := by
  have hc' := hc
  obtain ⟨_, hn, hr, hup, _⟩ := hc'
  intro m
  induction m with
  | zero =>
    intro i hi aw sl hA
    have e : i = n := by omega
    subst e
    exact br_t (xw_le (Nat.le_refl i) (by omega)) (nm_r (nI_1 v) (hp aw sl hA))
  | succ m ih =>
    intro i hi aw sl hA
    have hcl : (nI (v * 8 + i)).toNatClampNeg = v * 8 + i := nI_clamp (by omega)
    have hin : vp_in (nI (v * 8 + i)) 64 := vp_in_nI (by omega) (by decide)
    have e1 : ar (nI (v * 8 + i)).toNatClampNeg = nI (rl v i) := by rw [hcl]; exact hA.2.1 v i (by omega) (by omega)
    have e2 : aw (nI (v * 8 + i)).toNatClampNeg = nI (Q v i).length := by
      rw [hcl, hA.2.2.2.2.1 v i (by omega) (by omega), rt_part_at]
      rfl
    have e3 : ah (nI i * 8 + nI v).toNatClampNeg = xw_lc (H v i) := by rw [xw_cl (by omega) (by omega)]; exact hA.2.2.2.1 i v (by omega) (by omega)
    have h4 : nI (v * 8 + i) * 4 = nI ((v * 8 + i) * 4) := pk_mul _ 4
    have hle := (gq v i).2.1
    refine br_f (xw_ge (by omega) (by omega)) (nm_r (xw_ix v i) ⟨hin, ?_⟩)
    rw [e1]
    refine yw_exported (rt_kd_le hr og H v) (rt_rl_le hr v i) ⟨hin, ?_⟩
    have hex : (if rt_kd n rl og H v = 1 ∨ rt_kd n rl og H v = 2 ∨ rl v i = 2 then rt_pt n rl og H v else []) = rt_ex n rl og H v i := rfl
    rw [hex]
    have hok := (rt_ex_pd (rl := rl) (og := og) (fun a b => (gh a b).1.1) i hv).1
    have go : ∀ l0, rt_ok n l0 → l0 = (Q v i).getLastD (H v i) → wY_send_106 post J2 (wY_send_29 post J2 (nI v) (nI (rt_kd n rl og H v)) (xw_lc (rt_pt n rl og H v)) (nI n) (nI d) (m + 1)) (nI v) (nI (rt_kd n rl og H v)) (xw_lc (rt_pt n rl og H v)) (nI i) (nI (v * 8 + i)) (xw_lc (rt_ex n rl og H v i)) (xw_lc l0) (nI n) (nI d) ao ar al ah aw sl ac ak ab := by
      intro l0 hl0 h0
      refine yw_send106 hA hn hd (by omega) (by omega) (by rw [rt_part_at]; exact hle) hok hl0 (by rw [rt_part_at]; exact h0) (fun hu => ?_) (fun hu aw' sl' hA' => ?_)
      · rw [← rt_part_f hu] at hA
        exact ih (i + 1) (by omega) aw sl hA
      · rw [rt_part_at, ← rt_part_t hu] at hA'
        exact ih (i + 1) (by omega) aw' sl' hA'
    by_cases hz : Q v i = []
    · refine br_t (by rw [e2, hz]; exact xw_le (a := 0) (b := 0) (by decide) (by decide)) ⟨xw_in (by omega) (by omega), ?_⟩
      rw [e3]
      exact go (H v i) (gh v i).1.1 (by rw [hz]; rfl)
    · have hpos : 0 < (Q v i).length := List.length_pos_iff.mpr hz
      have hl := rt_last_at (h := H v i) hz
      have e5 : nI (v * 8 + i) * 4 + aw (nI (v * 8 + i)).toNatClampNeg - 1 = nI ((v * 8 + i) * 4 + ((Q v i).length - 1)) := by
        rw [e2, h4, nI_add, show (v * 8 + i) * 4 + (Q v i).length = (v * 8 + i) * 4 + ((Q v i).length - 1) + 1 by omega, nI_pred]
      have e6 : sl (nI (v * 8 + i) * 4 + aw (nI (v * 8 + i)).toNatClampNeg - 1).toNatClampNeg = xw_lc ((Q v i).getLastD (H v i)) := by
        rw [e5, nI_clamp (by omega)]
        refine hA.2.2.2.2.2 v i ((Q v i).length - 1) _ (by omega) (by omega) (by omega) ?_
        show (rt_part n d rl up og H Q v i v i)[(Q v i).length - 1]? = _
        rw [rt_part_at]
        exact hl
      refine br_f (by rw [e2]; exact nI_nle hpos (by omega)) ⟨hin, by rw [e5]; exact vp_in_nI (by omega) (by decide), ?_⟩
      rw [e6]
      exact go _ ((gq v i).2.2 _ (List.mem_of_getElem? hl)).1 rfl
theorem yw_send (hc : rt_cf n rl up) (hd : 1 ≤ d ∧ d ≤ 4) (gh : rt_gh n up H) (gq : rt_gq n d up Q) {post : SY → Prop}
    (hp : ∀ u', yw_Y n d rl up og H (rt_send n d rl up og H Q) ac ak ab u' → post u') (aw : Nat → Int32) (sl : Nat → Int64)
    (hA : xw_A rl up og (rt_tr H) Q ao ar al ah aw sl) : wpY_send post (nI n, nI d, ao, ar, al, ah, aw, sl, ac, ak, ab) := by
  have hn := hc.2.1
  have hgd := rt_gh_gd gh
  rw [← rt_part_end hc] at hp
  rw [← rt_part_0 (n := n) (d := d) (rl := rl) (up := up) (og := og) (H := H) (Q := Q)] at hA
  have key : ∀ m v, v + m = n → ∀ (aw : Nat → Int32) (sl : Nat → Int64), xw_A rl up og (rt_tr H) (rt_part n d rl up og H Q v 0) ao ar al ah aw sl → wY_send_2 post (nI n) (nI d) (m + 1) (nI v) ao ar al ah aw sl ac ak ab := by
    intro m
    induction m with
    | zero =>
      intro v hv aw sl hA
      have e : v = n := by omega
      subst e
      exact br_t (xw_le (Nat.le_refl v) (by omega)) (hp _ ⟨ao, ar, al, ah, aw, sl, rfl, hA⟩)
    | succ m ih =>
      intro v hv aw sl hA
      refine br_f (xw_ge (by omega) (by omega)) ?_
      refine yw_choose hA hc hgd (by omega) ⟨by decide, ?_⟩
      refine nm_r (yw_kd hc hgd (by omega)) ?_
      refine yw_codeOf hA hc hgd (by omega) ⟨n + 1, ?_⟩
      refine yw_s_row hc hd gh gq (by omega) (fun aw' sl' hA' => ?_) n 0 (by omega) aw sl hA
      rw [rt_part_row hc] at hA'
      exact ih (v + 1) (by omega) aw' sl' hA'
  exact ⟨n + 1, key n 0 (by omega) aw sl hA⟩
end
theorem rt_tr_lk (H : rt_HT) (a b : Nat) (x : List Nat) : rt_tr (rt_lk H a b x x) = rt_lk (rt_tr H) a b x x := by
  unfold rt_lk
  rw [rt_tr_u, rt_tr_u]
  funext c e
  by_cases z1 : c = a ∧ e = b
  · by_cases z2 : c = b ∧ e = a
    · obtain ⟨rfl, rfl⟩ := z1
      obtain ⟨rfl, _⟩ := z2
      rfl
    · obtain ⟨rfl, rfl⟩ := z1
      rw [rt_u2_s, rt_u2_n z2, rt_u2_s]
  · by_cases z2 : c = b ∧ e = a
    · obtain ⟨rfl, rfl⟩ := z2
      rw [rt_u2_n z1, rt_u2_s, rt_u2_s]
    · rw [rt_u2_n z1, rt_u2_n z2, rt_u2_n z2, rt_u2_n z1]
/-! the reference sets a link, and an origin -/
section
variable {n d : Nat} {rl : Nat → Nat → Nat} {up : Nat → Nat → Bool} {og : Nat → Bool} {H : rt_HT} {Q : rt_QT} {ao ar al : Nat → Int32} {ah : Nat → Int64} {aw : Nat → Int32} {sl ac ab : Nat → Int64} {ak : Nat → Int32}
theorem yw_setLink (hA : xw_A rl up og (rt_tr H) Q ao ar al ah aw sl) (hc : rt_cf n rl up) (hd : 1 ≤ d ∧ d ≤ 4) (gh : rt_gh n up H) (gq : rt_gq n d up Q) {a b : Nat} (ha : a < n) (hb : b < n) (hne : a ≠ b) (hr0 : rl a b ≠ 0) (z : Bool) {post : Int32 → SY → Prop}
    (h3 : up a b = z → post (-3) (nI n, nI d, ao, ar, al, ah, aw, sl, ac, ak, ab))
    (hp : up a b ≠ z → ∀ u', yw_Y n d rl (rt_lk up a b z z) og (rt_lk H a b [] []) (rt_send n d rl (rt_lk up a b z z) og (rt_lk H a b [] []) (rt_lk Q a b [] [])) ac ak ab u' → post 0 u') :
    wpY_setLink post (nI n, nI d, ao, ar, al, ah, aw, sl, ac, ak, ab) (nI a) (nI b) (xw_b z) := by
  have hc' := hc
  obtain ⟨c1, hn, hr, hup, hac⟩ := hc'
  have hcl1 : (nI (a * 8 + b)).toNatClampNeg = a * 8 + b := nI_clamp (by omega)
  have hcl2 : (nI (b * 8 + a)).toNatClampNeg = b * 8 + a := nI_clamp (by omega)
  have hin1 : vp_in (nI (a * 8 + b)) 64 := vp_in_nI (by omega) (by decide)
  have hin2 : vp_in (nI (b * 8 + a)) 64 := vp_in_nI (by omega) (by decide)
  unfold wpY_setLink
  refine yw_cp_f hA hr hn ha hb hne (fun y => absurd y hr0) (fun _ => br_t rfl ?_)
  refine nm_r (xw_ix a b) (nm_r (xw_ix b a) ⟨hin1, ?_⟩)
  have e1 : al (nI (a * 8 + b)).toNatClampNeg = xw_b (up a b) := by rw [hcl1]; exact hA.2.2.1 a b (by omega) (by omega)
  by_cases hz : up a b = z
  · exact br_t (by rw [e1, hz]) (h3 hz)
  · have hp := hp hz
    refine br_f (by rw [e1]; exact fun y => hz ((xw_b_inj _ _).mp y)) ?_
    obtain ⟨A1, A2, A3, A4, A5, A6⟩ := hA
    refine ⟨hin1, nm_r (e' := upd al (a * 8 + b) (xw_b z)) (by rw [hcl1, xw_nar]) ?_⟩
    refine ⟨hin2, nm_r (e' := upd (upd al (a * 8 + b) (xw_b z)) (b * 8 + a) (xw_b z)) (by rw [hcl2, xw_nar]) ?_⟩
    refine ⟨hin1, nm_r (e' := vp_updL ah (a * 8 + b) 0) (by rw [hcl1]) ?_⟩
    refine ⟨hin2, nm_r (e' := vp_updL (vp_updL ah (a * 8 + b) 0) (b * 8 + a) 0) (by rw [hcl2]) ?_⟩
    refine ⟨hin1, nm_r (e' := upd aw (a * 8 + b) 0) (by rw [hcl1]) ?_⟩
    refine ⟨hin2, nm_r (e' := upd (upd aw (a * 8 + b) 0) (b * 8 + a) 0) (by rw [hcl2]) ?_⟩
    have hr2 : rl b a ≠ 0 := by
      have := rt_rl_op hr hr0
      omega
    have hg := rt_set (d := d) (rl := rl) hne z gh gq
    refine yw_send ⟨c1, hn, hr, rt_set_up hne z hup hr0 hr2, hac⟩ hd hg.1 hg.2 (fun u' hu' => ?_) _ _ ⟨A1, A2, xw_C_32 (xw_C_32 A3 (by omega) rfl) (by omega) rfl, ?_, xw_C_32 (xw_C_32 A5 (by omega) rfl) (by omega) rfl, xw_S_mono A6 (fun a' b' k x ha' hb' hk hx => ?_)⟩
    · obtain ⟨ao', ar', al', ah', aw', sl', rfl, hA'⟩ := hu'
      exact hp _ ⟨ao', ar', al', ah', aw', sl', rfl, hA'⟩
    · rw [rt_tr_lk]
      exact xw_C_64 (xw_C_64 A4 (by omega) rfl) (by omega) rfl
    · have hx2 : (rt_lk Q a b [] [] a' b')[k]? = some x := hx
      by_cases k1 : a' = a ∧ b' = b
      · obtain ⟨rfl, rfl⟩ := k1
        rw [rt_lk_1 hne] at hx2
        cases hx2
      · by_cases k2 : a' = b ∧ b' = a
        · obtain ⟨rfl, rfl⟩ := k2
          rw [rt_lk_2] at hx2
          cases hx2
        · rw [rt_lk_n k1 k2] at hx2
          exact hx2
theorem yw_setOrigin (hA : xw_A rl up og (rt_tr H) Q ao ar al ah aw sl) (hc : rt_cf n rl up) (hd : 1 ≤ d ∧ d ≤ 4) (gh : rt_gh n up H) (gq : rt_gq n d up Q) {v : Nat} (hv : v < n) (z : Bool) {post : Int32 → SY → Prop}
    (h3 : og v = z → post (-3) (nI n, nI d, ao, ar, al, ah, aw, sl, ac, ak, ab))
    (hp : og v ≠ z → ∀ u', yw_Y n d rl up (rt_u1 og v z) H (rt_send n d rl up (rt_u1 og v z) H Q) ac ak ab u' → post 0 u') :
    wpY_setOrigin post (nI n, nI d, ao, ar, al, ah, aw, sl, ac, ak, ab) (nI v) (xw_b z) := by
  have hn := hc.2.1
  unfold wpY_setOrigin
  refine yw_bad_f hn hv (br_t rfl ⟨xw_i8 (by omega), ?_⟩)
  have e1 : ao (nI v).toNatClampNeg = xw_b (og v) := by rw [xw_c8 (by omega)]; exact hA.1 v (by omega)
  by_cases hz : og v = z
  · exact br_t (by rw [e1, hz]) (h3 hz)
  · have hp := hp hz
    refine br_f (by rw [e1]; exact fun y => hz ((xw_b_inj _ _).mp y)) ⟨xw_i8 (by omega), ?_⟩
    obtain ⟨A1, A2, A3, A4, A5, A6⟩ := hA
    refine nm_r (e' := upd ao v (xw_b z)) (by rw [xw_c8 (by omega), xw_nar]) ?_
    refine yw_send hc hd gh gq (fun u' hu' => ?_) _ _ ⟨xw_og_u A1 rfl, A2, A3, A4, A5, A6⟩
    obtain ⟨ao', ar', al', ah', aw', sl', rfl, hA'⟩ := hu'
    exact hp _ ⟨ao', ar', al', ah', aw', sl', rfl, hA'⟩
/-! the reference delivers -/
theorem yw_deliver (hA : xw_A rl up og (rt_tr H) Q ao ar al ah aw sl) (hI : rt_inv n d rl up og H Q) {a b : Nat} (ha : a < n) (hb : b < n) (hne : a ≠ b) (hr0 : rl a b ≠ 0) {m : List Nat} {r : List (List Nat)} (hq : Q a b = m :: r) {post : Int32 → SY → Prop}
    (hp : ∀ u', yw_Y n d rl up og (rt_dl n d rl up og a b (H, Q)).1 (rt_dl n d rl up og a b (H, Q)).2 ac ak ab u' → post (if rt_pt n rl og (rt_dl n d rl up og a b (H, Q)).1 b = rt_pt n rl og H b then 0 else 1) u') :
    wpY_deliver post (nI n, nI d, ao, ar, al, ah, aw, sl, ac, ak, ab) (nI a) (nI b) := by
  have hI' := hI
  obtain ⟨hc, hd, gh, gq, hsy⟩ := hI'
  have hc' := hc
  obtain ⟨_, hn, hr, hup, _⟩ := hc'
  have e : rt_dl n d rl up og a b (H, Q) = (rt_u2 H a b m, rt_send n d rl up og (rt_u2 H a b m) (rt_u2 Q a b r)) := by
    unfold rt_dl
    show (match Q a b with | [] => (H, Q) | m :: r => (rt_u2 H a b m, rt_send n d rl up og (rt_u2 H a b m) (rt_u2 Q a b r))) = _
    rw [hq]
  rw [e] at hp
  have hI2 := (rt_del hI hq).1
  have gh2 := hI2.2.2.1
  have gq2 : rt_gq n d up (rt_u2 Q a b r) := by
    intro c e
    obtain ⟨g1, g2, g3⟩ := gq a b
    by_cases z : c = a ∧ e = b
    · obtain ⟨rfl, rfl⟩ := z
      rw [rt_u2_s]
      rw [hq, List.length_cons] at g2
      exact ⟨fun _ => g1 (by rw [hq]; exact fun z => nomatch z), by omega, fun x hx => g3 x (by rw [hq]; exact List.mem_cons_of_mem _ hx)⟩
    · rw [rt_u2_n z]
      exact gq c e
  have hlen := (gq a b).2.1
  rw [hq, List.length_cons] at hlen
  have hcl : (nI (a * 8 + b)).toNatClampNeg = a * 8 + b := nI_clamp (by omega)
  have hin : vp_in (nI (a * 8 + b)) 64 := vp_in_nI (by omega) (by decide)
  have h4 : nI (a * 8 + b) * 4 = nI ((a * 8 + b) * 4) := pk_mul _ 4
  have ew : aw (nI (a * 8 + b)).toNatClampNeg = nI (r.length + 1) := by
    rw [hcl, hA.2.2.2.2.1 a b (by omega) (by omega)]
    show nI (Q a b).length = _
    rw [hq, List.length_cons]
  have hA' := hA
  obtain ⟨A1, A2, A3, A4, A5, A6⟩ := hA'
  have key : ∀ j i, i + j = r.length → ∀ sl' : Nat → Int64, xw_S (fun a' b' k => if a' = a ∧ b' = b then (if k < i then r[k]? else (m :: r)[k]?) else (Q a' b')[k]?) sl' →
      wY_deliver_64 post (nI b) (nI (a * 8 + b)) (xw_lc (rt_pt n rl og H b)) (nI n) (nI d) (j + 1) (nI (i + 1)) ao ar al (vp_updL ah (b * 8 + a) (xw_lc m)) aw sl' ac ak ab := by
    intro j
    induction j with
    | zero =>
      intro i hi sl' hS
      have e : i = r.length := by omega
      subst e
      refine ⟨hin, br_t (by rw [ew]; exact xw_le (Nat.le_refl _) (by omega)) ⟨hin, hin, ?_⟩⟩
      refine nm_r (e' := upd aw (a * 8 + b) (nI r.length)) (by rw [ew, nI_pred, hcl]) ?_
      refine yw_send hc hd gh2 gq2 (fun u' hu' => ?_) _ _ ⟨A1, A2, A3, ?_, xw_C_32 A5 (by omega) rfl, xw_S_mono hS (fun a' b' k x ha' hb' hk hx => ?_)⟩
      · have hu2 := hu'
        obtain ⟨ao', ar', al', ah', aw', sl2, rfl, hA2⟩ := hu2
        refine yw_codeOf hA2 hc (rt_gh_gd gh2) hb ?_
        have ok1 := (rt_pt_pd (rl := rl) (og := og) (fun a b => (gh a b).1.1) hb).1
        have ok2 := (rt_pt_pd (rl := rl) (og := og) (fun a b => (gh2 a b).1.1) hb).1
        have hpp := hp _ hu'
        dsimp only at hpp
        by_cases z : rt_pt n rl og (rt_u2 H a b m) b = rt_pt n rl og H b
        · rw [if_pos z] at hpp
          exact br_t (by rw [z]) hpp
        · rw [if_neg z] at hpp
          exact br_f (fun y => z ((xw_lc_eq hn ok2 ok1).mp y)) hpp
      · rw [rt_tr_u]
        exact xw_C_64 A4 (by omega) rfl
      · have hx2 : (rt_u2 Q a b r a' b')[k]? = some x := hx
        by_cases z : a' = a ∧ b' = b
        · obtain ⟨rfl, rfl⟩ := z
          rw [rt_u2_s] at hx2
          obtain ⟨hk2, _⟩ := List.getElem?_eq_some_iff.mp hx2
          rw [if_pos ⟨rfl, rfl⟩, if_pos hk2]
          exact hx2
        · rw [rt_u2_n z] at hx2
          rw [if_neg z]
          exact hx2
    | succ j ih =>
      intro i hi sl' hS
      have e1 : nI (a * 8 + b) * 4 + nI (i + 1) - 1 = nI ((a * 8 + b) * 4 + i) := by rw [h4, nI_add, ← Nat.add_assoc, nI_pred]
      have e2 : nI (a * 8 + b) * 4 + nI (i + 1) = nI ((a * 8 + b) * 4 + (i + 1)) := by rw [h4, nI_add]
      obtain ⟨x, hx⟩ : ∃ x, r[i]? = some x := ⟨r[i], List.getElem?_eq_getElem (by omega)⟩
      have e3 : sl' (nI (a * 8 + b) * 4 + nI (i + 1)).toNatClampNeg = xw_lc x := by
        rw [e2, nI_clamp (by omega)]
        refine hS a b (i + 1) x (by omega) (by omega) (by omega) ?_
        dsimp only
        rw [if_pos ⟨rfl, rfl⟩, if_neg (by omega), List.getElem?_cons_succ]
        exact hx
      refine ⟨hin, br_f (by rw [ew]; exact xw_ge (by omega) (by omega)) ⟨by rw [e2]; exact vp_in_nI (by omega) (by decide), by rw [e1]; exact vp_in_nI (by omega) (by decide), ?_⟩⟩
      refine nm_r (e' := vp_updL sl' ((a * 8 + b) * 4 + i) (xw_lc x)) (by rw [e3, e1, nI_clamp (by omega)]) ?_
      refine nm_r (nI_1 (i + 1)) (ih (i + 1) (by omega) _ ?_)
      refine xw_S_u hS (by omega) (by omega) rfl (fun a' b' k y ha' hb' hk hy => ?_)
      by_cases z : a' = a ∧ b' = b
      · obtain ⟨rfl, rfl⟩ := z
        rw [if_pos ⟨rfl, rfl⟩] at hy ⊢
        by_cases ek : k = i
        · subst ek
          rw [if_pos (by omega), hx] at hy
          exact Or.inl ⟨⟨rfl, rfl, rfl⟩, (Option.some.inj hy).symm⟩
        · refine Or.inr ⟨fun w => ek w.2.2, ?_⟩
          by_cases hlt : k < i
          · rw [if_pos (by omega)] at hy
            rw [if_pos hlt]
            exact hy
          · rw [if_neg (by omega)] at hy
            rw [if_neg hlt]
            exact hy
      · rw [if_neg z] at hy ⊢
        exact Or.inr ⟨fun w => z ⟨w.1, w.2.1⟩, hy⟩
  unfold wpY_deliver
  refine yw_cp_f hA hr hn ha hb hne (fun y => absurd y hr0) (fun _ => br_t rfl ?_)
  refine nm_r (xw_ix a b) ⟨hin, br_f (by rw [ew]; exact nI_ne0 (by omega) (by omega)) ?_⟩
  refine yw_codeOf hA hc (rt_gh_gd gh) hb ⟨by rw [h4]; exact vp_in_nI (by omega) (by decide), xw_in (by omega) (by omega), ?_⟩
  have e0 : sl (nI (a * 8 + b) * 4).toNatClampNeg = xw_lc m := by
    rw [h4, nI_clamp (by omega)]
    exact A6 a b 0 m (by omega) (by omega) (by decide) (by show (Q a b)[0]? = some m; rw [hq]; rfl)
  refine nm_r (e' := vp_updL ah (b * 8 + a) (xw_lc m)) (by rw [e0, xw_cl (by omega) (by omega)]) ⟨r.length + 1, key r.length 0 (by omega) sl (xw_S_mono A6 (fun a' b' k x ha' hb' hk hx => ?_))⟩
  by_cases z : a' = a ∧ b' = b
  · obtain ⟨rfl, rfl⟩ := z
    rw [if_pos ⟨rfl, rfl⟩, if_neg (Nat.not_lt_zero _)] at hx
    show (Q a' b')[k]? = some x
    rw [hq]
    exact hx
  · rw [if_neg z] at hx
    exact hx
end
