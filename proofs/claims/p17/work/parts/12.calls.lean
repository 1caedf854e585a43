/-! calls that change the state -/
theorem rt_cf_set {n : Nat} {rl : Nat → Nat → Nat} {up : Nat → Nat → Bool} (hc : rt_cf n rl up) {a b : Nat} (hne : a ≠ b) (hr0 : rl a b ≠ 0) (z : Bool) : rt_cf n rl (rt_lk up a b z z) := by
  obtain ⟨c1, hn, hr, hup, hac⟩ := hc
  refine ⟨c1, hn, hr, rt_set_up hne z hup hr0 ?_, hac⟩
  have := rt_rl_op hr hr0
  omega
/-- the relation may be added -/
def rt_cy (rl : Nat → Nat → Nat) (a b k : Nat) : Prop := (k = 2 ∧ rt_R rl b a) ∨ (k = 4 ∧ rt_R rl a b)
theorem rt_cf_add {n : Nat} {rl : Nat → Nat → Nat} {up : Nat → Nat → Bool} (hc : rt_cf n rl up) {a b k : Nat} (ha : a < n) (hb : b < n) (hne : a ≠ b) (h2 : 2 ≤ k) (h4 : k ≤ 4) (hcy : ¬ rt_cy rl a b k) : rt_cf n (rt_lk rl a b k (6 - k)) up := by
  obtain ⟨c1, hn, hr, hup, hac⟩ := hc
  refine ⟨c1, hn, rt_add_rl hr ha hb hne h2 h4, fun c e hce => ?_, rt_add_ac hac hne h2 h4 (fun z r => hcy (Or.inl ⟨z, r⟩)) (fun z r => hcy (Or.inr ⟨z, r⟩))⟩
  refine ⟨?_, (hup c e hce).2⟩
  by_cases k1 : c = a ∧ e = b
  · obtain ⟨rfl, rfl⟩ := k1
    rw [rt_lk_1 hne]
    omega
  · by_cases k2 : c = b ∧ e = a
    · obtain ⟨rfl, rfl⟩ := k2
      rw [rt_lk_2]
      omega
    · rw [rt_lk_n k1 k2]
      exact (hup c e hce).1
section
variable {n d : Nat} {rl : Nat → Nat → Nat} {up : Nat → Nat → Bool} {og : Nat → Bool} {H : rt_HT} {Q : rt_QT} {ao ar al : Nat → Int32} {ah : Nat → Int64} {aw : Nat → Int32} {sl ab ap : Nat → Int64} {ak : Nat → Int32}
theorem xw_setSend (hA : xw_A rl up og H Q ao ar al ah aw sl) (hc : rt_cf n rl up) (hd : 1 ≤ d ∧ d ≤ 4) (gh : rt_gh n up H) (gq : rt_gq n d up Q) {a b : Nat} (ha : a < n) (hb : b < n) (hne : a ≠ b) (hr0 : rl a b ≠ 0) (z : Bool) {post : St2 → Prop}
    (hp : ∀ u', xw_X n d rl (rt_lk up a b z z) og (rt_lk H a b [] []) (rt_send n d rl (rt_lk up a b z z) og (rt_lk H a b [] []) (rt_lk Q a b [] [])) ab ap ak u' → post u') :
    wpX_setLink (fun u => wpX_sendAll post u) (nI n, nI d, ao, ar, al, ah, aw, sl, ab, ap, ak) (nI a) (nI b) (xw_b z) := by
  have hn := hc.2.1
  have hg := rt_set (d := d) (rl := rl) hne z gh gq
  refine xw_setLink hA (by omega) (by omega) z (fun u' hu' => ?_)
  obtain ⟨ao', ar', al', ah', aw', sl', rfl, hA'⟩ := hu'
  exact xw_sendAll (rt_cf_set hc hne hr0 z) hd hg.1 hg.2 hp ao' ar' al' ah' aw' sl' hA'
theorem xw_switchLink (hA : xw_A rl up og H Q ao ar al ah aw sl) (hc : rt_cf n rl up) (hd : 1 ≤ d ∧ d ≤ 4) (gh : rt_gh n up H) (gq : rt_gq n d up Q) {a b : Nat} (ha : a < n) (hb : b < n) (hne : a ≠ b) (z : Bool) {post : Int32 → St2 → Prop}
    (h2 : rl a b = 0 → post (-2) (nI n, nI d, ao, ar, al, ah, aw, sl, ab, ap, ak)) (h3 : rl a b ≠ 0 → up a b = z → post (-3) (nI n, nI d, ao, ar, al, ah, aw, sl, ab, ap, ak))
    (hp : rl a b ≠ 0 → up a b ≠ z → ∀ u', xw_X n d rl (rt_lk up a b z z) og (rt_lk H a b [] []) (rt_send n d rl (rt_lk up a b z z) og (rt_lk H a b [] []) (rt_lk Q a b [] [])) ab ap ak u' → post 0 u') :
    wpX_switchLink post (nI n, nI d, ao, ar, al, ah, aw, sl, ab, ap, ak) (nI a) (nI b) (xw_b z) := by
  have hn := hc.2.1
  unfold wpX_switchLink
  refine xw_bp_f hn ha hb hne (br_t rfl ?_)
  refine xw_isLinked hA hc.2.2.1 (by omega) (by omega) (fun h0 => br_t rfl (h2 h0)) (fun h0 => br_f xw_10 ⟨xw_in (by omega) (by omega), ?_⟩)
  have e1 : al (nI a * 8 + nI b).toNatClampNeg = xw_b (up a b) := by rw [xw_cl (by omega) (by omega)]; exact hA.2.2.1 a b (by omega) (by omega)
  by_cases hz : up a b = z
  · exact br_t (by rw [e1, hz]) (h3 h0 hz)
  · refine br_f (by rw [e1]; exact fun y => hz ((xw_b_inj _ _).mp y)) ?_
    refine xw_setSend hA hc hd gh gq ha hb hne h0 z (fun u' hu' => ?_)
    have h := hp h0 hz u' hu'
    obtain ⟨ao', ar', al', ah', aw', sl', rfl, hA'⟩ := hu'
    exact h
theorem xw_switchOrigin (hA : xw_A rl up og H Q ao ar al ah aw sl) (hc : rt_cf n rl up) (hd : 1 ≤ d ∧ d ≤ 4) (gh : rt_gh n up H) (gq : rt_gq n d up Q) {v : Nat} (hv : v < n) (z : Bool) {post : Int32 → St2 → Prop}
    (h3 : og v = z → post (-3) (nI n, nI d, ao, ar, al, ah, aw, sl, ab, ap, ak))
    (hp : og v ≠ z → ∀ u', xw_X n d rl up (rt_u1 og v z) H (rt_send n d rl up (rt_u1 og v z) H Q) ab ap ak u' → post 0 u') :
    wpX_switchOrigin post (nI n, nI d, ao, ar, al, ah, aw, sl, ab, ap, ak) (nI v) (xw_b z) := by
  have hn := hc.2.1
  unfold wpX_switchOrigin
  refine xw_isBad_f hn hv (br_t rfl ⟨xw_i8 (by omega), ?_⟩)
  have e1 : ao (nI v).toNatClampNeg = xw_b (og v) := by rw [xw_c8 (by omega)]; exact hA.1 v (by omega)
  by_cases hz : og v = z
  · exact br_t (by rw [e1, hz]) (h3 hz)
  · have hp := hp hz
    refine br_f (by rw [e1]; exact fun y => hz ((xw_b_inj _ _).mp y)) ⟨xw_i8 (by omega), ?_⟩
    obtain ⟨A1, A2, A3, A4, A5, A6⟩ := hA
    refine nm_r (e' := upd ao v (xw_b z)) (by rw [xw_c8 (by omega), xw_nar]) ?_
    refine xw_sendAll (og := rt_u1 og v z) hc hd gh gq (fun u' hu' => ?_) _ ar al ah aw sl ⟨xw_og_u A1 rfl, A2, A3, A4, A5, A6⟩
    have h := hp u' hu'
    obtain ⟨ao', ar', al', ah', aw', sl', rfl, hA'⟩ := hu'
    exact h
theorem xw_add64 (hA : xw_A rl up og H Q ao ar al ah aw sl) (hc : rt_cf n rl up) (hd : 1 ≤ d ∧ d ≤ 4) (gh : rt_gh n up H) (gq : rt_gq n d up Q) {a b k : Nat} (ha : a < n) (hb : b < n) (hne : a ≠ b) (h2 : 2 ≤ k) (h4 : k ≤ 4) (hcy : ¬ rt_cy rl a b k) {post : Int32 → St2 → Prop}
    (hp : ∀ u', xw_X n d (rt_lk rl a b k (6 - k)) (rt_lk up a b true true) og (rt_lk H a b [] []) (rt_send n d (rt_lk rl a b k (6 - k)) (rt_lk up a b true true) og (rt_lk H a b [] []) (rt_lk Q a b [] [])) ab ap ak u' → post 0 u') :
    wX_addLink_64 post (nI a) (nI b) (nI k) (nI n) (nI d) ao ar al ah aw sl ab ap ak := by
  have hn := hc.2.1
  have hc2 := rt_cf_add hc ha hb hne h2 h4 hcy
  obtain ⟨A1, A2, A3, A4, A5, A6⟩ := hA
  refine ⟨xw_in (by omega) (by omega), nm_r (e' := upd ar (a * 8 + b) (nI k)) (by rw [xw_cl (by omega) (by omega)]) ?_⟩
  have op : ∀ P : Int32 → Prop, P (nI (6 - k)) → wpX_opposite P () (nI k) := by
    intro P hP
    by_cases e2 : k = 2
    · subst e2
      exact br_t rfl hP
    · refine br_f (xw_ne (b := 2) (by omega) (by decide) e2) ?_
      by_cases e4 : k = 4
      · subst e4
        exact br_t rfl hP
      · have e3 : k = 3 := by omega
        subst e3
        exact br_f (xw_ne (b := 4) (by decide) (by decide) e4) hP
  unfold wpX_pair
  refine op _ ?_
  refine ⟨xw_in (by omega) (by omega), nm_r (e' := upd (upd ar (a * 8 + b) (nI k)) (b * 8 + a) (nI (6 - k))) (by rw [xw_cl (by omega) (by omega)]) ?_⟩
  refine xw_setSend (rl := rt_lk rl a b k (6 - k)) ⟨A1, xw_C_32 (xw_C_32 A2 (by omega) rfl) (by omega) rfl, A3, A4, A5, A6⟩ hc2 hd gh gq ha hb hne (by rw [rt_lk_1 hne]; omega) true (fun u' hu' => ?_)
  have h := hp u' hu'
  obtain ⟨ao', ar', al', ah', aw', sl', rfl, hA'⟩ := hu'
  exact h
theorem xw_addLink (hA : xw_A rl up og H Q ao ar al ah aw sl) (hc : rt_cf n rl up) (hd : 1 ≤ d ∧ d ≤ 4) (gh : rt_gh n up H) (gq : rt_gq n d up Q) {a b k : Nat} (ha : a < n) (hb : b < n) (hne : a ≠ b) (h2 : 2 ≤ k) (h4 : k ≤ 4) {post : Int32 → St2 → Prop}
    (p3 : rl a b ≠ 0 → post (-3) (nI n, nI d, ao, ar, al, ah, aw, sl, ab, ap, ak)) (p4 : rl a b = 0 → rt_cy rl a b k → post (-4) (nI n, nI d, ao, ar, al, ah, aw, sl, ab, ap, ak))
    (hp : rl a b = 0 → ¬ rt_cy rl a b k → ∀ u', xw_X n d (rt_lk rl a b k (6 - k)) (rt_lk up a b true true) og (rt_lk H a b [] []) (rt_send n d (rt_lk rl a b k (6 - k)) (rt_lk up a b true true) og (rt_lk H a b [] []) (rt_lk Q a b [] [])) ab ap ak u' → post 0 u') :
    wpX_addLink post (nI n, nI d, ao, ar, al, ah, aw, sl, ab, ap, ak) (nI a) (nI b) (nI k) := by
  have hn := hc.2.1
  unfold wpX_addLink
  refine xw_bp_f hn ha hb hne (br_t rfl ?_)
  refine br_f (nI_nlt (b := 2) h2 (by omega)) (br_t (xw_le (b := 4) h4 (by decide)) ?_)
  refine xw_isLinked hA hc.2.2.1 (by omega) (by omega) (fun h0 => br_t rfl ?_) (fun h0 => br_f xw_10 (p3 h0))
  have last : ¬ rt_cy rl a b k → wX_addLink_64 post (nI a) (nI b) (nI k) (nI n) (nI d) ao ar al ah aw sl ab ap ak := fun hcy => xw_add64 hA hc hd gh gq ha hb hne h2 h4 hcy (hp h0 hcy)
  by_cases e2 : k = 2
  · refine br_t (by rw [e2]; rfl) ?_
    refine xw_isBelow hA hc ha hb (fun r => br_f xw_10 (p4 h0 (Or.inl ⟨e2, r⟩))) (fun r => br_t rfl ?_)
    exact br_f (xw_ne (b := 4) (by omega) (by decide) (by omega)) (last (fun z => by
      rcases z with z | z
      · exact r z.2
      · omega))
  · refine br_f (xw_ne (b := 2) (by omega) (by decide) e2) ?_
    by_cases e4 : k = 4
    · refine br_t (by rw [e4]; rfl) ?_
      exact xw_isBelow hA hc hb ha (fun r => br_f xw_10 (p4 h0 (Or.inr ⟨e4, r⟩))) (fun r => br_t rfl (last (fun z => by
        rcases z with z | z
        · omega
        · exact r z.2)))
    · exact br_f (xw_ne (b := 4) (by omega) (by decide) e4) (last (fun z => by
        rcases z with z | z <;> omega))
theorem xw_deliver (hA : xw_A rl up og H Q ao ar al ah aw sl) (hI : rt_inv n d rl up og H Q) {a b : Nat} (ha : a < n) (hb : b < n) (hne : a ≠ b) {post : Int32 → St2 → Prop}
    (p2 : rl a b = 0 → post (-2) (nI n, nI d, ao, ar, al, ah, aw, sl, ab, ap, ak)) (p5 : rl a b ≠ 0 → Q a b = [] → post (-5) (nI n, nI d, ao, ar, al, ah, aw, sl, ab, ap, ak))
    (hp : rl a b ≠ 0 → Q a b ≠ [] → ∀ u', xw_X n d rl up og (rt_dl n d rl up og a b (H, Q)).1 (rt_dl n d rl up og a b (H, Q)).2 ab ap ak u' → post (if rt_pt n rl og (rt_dl n d rl up og a b (H, Q)).1 b = rt_pt n rl og H b then 0 else 1) u') :
    wpX_deliver post (nI n, nI d, ao, ar, al, ah, aw, sl, ab, ap, ak) (nI a) (nI b) := by
  have hI' := hI
  obtain ⟨hc, hd, gh, gq, hsy⟩ := hI'
  have hn := hc.2.1
  have hr := hc.2.2.1
  have hg : ∀ a b, rt_ok n (H a b) := fun a b => (gh a b).1.1
  unfold wpX_deliver
  refine xw_bp_f hn ha hb hne (br_t rfl ?_)
  refine xw_isLinked hA hr (by omega) (by omega) (fun h0 => br_t rfl (p2 h0)) (fun h0 => br_f xw_10 ⟨xw_in (by omega) (by omega), ?_⟩)
  have ew : aw (nI a * 8 + nI b).toNatClampNeg = nI (Q a b).length := by rw [xw_cl (by omega) (by omega)]; exact hA.2.2.2.2.1 a b (by omega) (by omega)
  cases hq : Q a b with
  | nil => exact br_t (by rw [ew, hq]; rfl) (p5 h0 hq)
  | cons m r =>
    have hlen := (gq a b).2.1
    rw [hq, List.length_cons] at ew hlen
    refine br_f (by rw [ew]; exact nI_ne0 (by omega) (by omega)) ?_
    refine xw_selectedPath hA hn hr hg hb ?_
    have hI2 := rt_dl_inv (s := (H, Q)) hI a b
    have hg2 : ∀ x y, rt_ok n ((rt_dl n d rl up og a b (H, Q)).1 x y) := fun x y => (hI2.2.2.1 x y).1.1
    have h := xw_hear (ab := ab) (ap := ap) (ak := ak) (H, Q) hI (a := a) (b := b) (by omega) (by omega) hq
      (post := fun u => wpX_selectedPath (fun r_66 => (r_66 = xw_lc (rt_pt n rl og H b) → post 0 u) ∧ (¬ r_66 = xw_lc (rt_pt n rl og H b) → post 1 u)) u (nI b))
      (fun u' hu' => by
        have hpp := hp h0 (by rw [hq]; exact fun z => nomatch z) u' hu'
        obtain ⟨ao', ar', al', ah', aw', sl', rfl, hA'⟩ := hu'
        refine xw_selectedPath hA' hn hr hg2 hb ?_
        have ok1 := (rt_pt_pd (rl := rl) (og := og) hg hb).1
        have ok2 := (rt_pt_pd (rl := rl) (og := og) hg2 hb).1
        by_cases z : rt_pt n rl og (rt_dl n d rl up og a b (H, Q)).1 b = rt_pt n rl og H b
        · rw [if_pos z] at hpp
          exact br_t (by rw [z]) hpp
        · rw [if_neg z] at hpp
          exact br_f (fun y => z ((xw_lc_eq hn ok2 ok1).mp y)) hpp) ao ar al ah aw sl hA
    rw [← xw_ix] at h
    exact h
end
