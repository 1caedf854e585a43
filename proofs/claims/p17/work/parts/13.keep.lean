/-! every call, with any arguments, keeps the picture -/
def gw_G (n d : Nat) (u : St2) : Prop :=
  ∃ (rl : Nat → Nat → Nat) (up : Nat → Nat → Bool) (og : Nat → Bool) (H : rt_HT) (Q : rt_QT) (ab ap : Nat → Int64) (ak : Nat → Int32), rt_inv n d rl up og H Q ∧ xw_X n d rl up og H Q ab ap ak u
section
variable {n d : Nat} {u : St2} {post : Int32 → St2 → Prop}
theorem gw_addLink (h : gw_G n d u) (p q k : Int32) (hp : ∀ r u', gw_G n d u' → post r u') : wpX_addLink post u p q k := by
  obtain ⟨rl, up, og, H, Q, ab, ap, ak, hI, ao, ar, al, ah, aw, sl, rfl, hA⟩ := h
  have G0 : gw_G n d (nI n, nI d, ao, ar, al, ah, aw, sl, ab, ap, ak) := ⟨rl, up, og, H, Q, ab, ap, ak, hI, ao, ar, al, ah, aw, sl, rfl, hA⟩
  have hI' := hI
  obtain ⟨hc, hd, gh, gq, hsy⟩ := hI'
  have hn := hc.2.1
  have hr := hc.2.2.1
  have hg : ∀ a b, rt_ok n (H a b) := fun a b => (gh a b).1.1
  rcases xw_bp_c hn p q with hb | ⟨a, b, ha, hb, hne, rfl, rfl⟩
  · unfold wpX_addLink
    exact xw_bp_t hn hb (br_f xw_10 (hp _ _ G0))
  · by_cases h2 : k < 2
    · unfold wpX_addLink
      exact xw_bp_f hn ha hb hne (br_t rfl (br_t h2 (hp _ _ G0)))
    · by_cases h4 : k ≤ 4
      · have h00 : ¬ k < 0 := fun z => h2 (Int32.lt_trans z (by decide))
        obtain ⟨j, hj, rfl⟩ := nI_of h00
        have k2 : 2 ≤ j := by
          by_cases z : 2 ≤ j
          · exact z
          · exact absurd (nI_lt (b := 2) (show j < 2 by omega) (by decide)) h2
        have k4 : j ≤ 4 := by
          by_cases z : j ≤ 4
          · exact z
          · exact absurd h4 (nI_ge (a := 4) (show 4 < j by omega) hj)
        refine xw_addLink hA hc hd gh gq ha hb hne k2 k4 (fun _ => hp _ _ G0) (fun _ _ => hp _ _ G0) (fun h0 h' u' hu' => hp _ _ ?_)
        have hg2 := rt_set (d := d) (rl := rl) hne true gh gq
        have hc2 := rt_cf_set (rt_cf_add hc ha hb hne k2 k4 h') hne (by rw [rt_lk_1 hne]; omega) true
        exact ⟨_, _, _, _, _, _, _, _, rt_send_ok hc2 hd hg2.1 hg2.2, hu'⟩
      · unfold wpX_addLink
        exact xw_bp_f hn ha hb hne (br_t rfl (br_f h2 (br_f h4 (hp _ _ G0))))
theorem gw_switchLink (h : gw_G n d u) (p q : Int32) (z : Bool) (hp : ∀ r u', gw_G n d u' → post r u') : wpX_switchLink post u p q (xw_b z) := by
  obtain ⟨rl, up, og, H, Q, ab, ap, ak, hI, ao, ar, al, ah, aw, sl, rfl, hA⟩ := h
  have G0 : gw_G n d (nI n, nI d, ao, ar, al, ah, aw, sl, ab, ap, ak) := ⟨rl, up, og, H, Q, ab, ap, ak, hI, ao, ar, al, ah, aw, sl, rfl, hA⟩
  have hI' := hI
  obtain ⟨hc, hd, gh, gq, hsy⟩ := hI'
  have hn := hc.2.1
  have hr := hc.2.2.1
  have hg : ∀ a b, rt_ok n (H a b) := fun a b => (gh a b).1.1
  rcases xw_bp_c hn p q with hb | ⟨a, b, ha, hb, hne, rfl, rfl⟩
  · unfold wpX_switchLink
    exact xw_bp_t hn hb (br_f xw_10 (hp _ _ G0))
  · refine xw_switchLink hA hc hd gh gq ha hb hne z (fun _ => hp _ _ G0) (fun _ _ => hp _ _ G0) (fun h0 h' u' hu' => hp _ _ ?_)
    have hg2 := rt_set (d := d) (rl := rl) hne z gh gq
    exact ⟨_, _, _, _, _, _, _, _, rt_send_ok (rt_cf_set hc hne h0 z) hd hg2.1 hg2.2, hu'⟩
theorem gw_fail (h : gw_G n d u) (p q : Int32) (hp : ∀ r u', gw_G n d u' → post r u') : wpX_fail post u p q := by
  obtain ⟨rl, up, og, H, Q, ab, ap, ak, hI, ao, ar, al, ah, aw, sl, rfl, hA⟩ := h
  have G0 : gw_G n d (nI n, nI d, ao, ar, al, ah, aw, sl, ab, ap, ak) := ⟨rl, up, og, H, Q, ab, ap, ak, hI, ao, ar, al, ah, aw, sl, rfl, hA⟩
  have hI' := hI
  obtain ⟨hc, hd, gh, gq, hsy⟩ := hI'
  have hn := hc.2.1
  have hr := hc.2.2.1
  have hg : ∀ a b, rt_ok n (H a b) := fun a b => (gh a b).1.1
  unfold wpX_fail
  refine gw_switchLink G0 p q false (fun r u' hu' => ?_)
  have h2 := hp r u' hu'
  obtain ⟨_, _, _, _, _, _, _, _, _, ao', ar', al', ah', aw', sl', rfl, _⟩ := hu'
  exact h2
theorem gw_restore (h : gw_G n d u) (p q : Int32) (hp : ∀ r u', gw_G n d u' → post r u') : wpX_restore post u p q := by
  obtain ⟨rl, up, og, H, Q, ab, ap, ak, hI, ao, ar, al, ah, aw, sl, rfl, hA⟩ := h
  have G0 : gw_G n d (nI n, nI d, ao, ar, al, ah, aw, sl, ab, ap, ak) := ⟨rl, up, og, H, Q, ab, ap, ak, hI, ao, ar, al, ah, aw, sl, rfl, hA⟩
  have hI' := hI
  obtain ⟨hc, hd, gh, gq, hsy⟩ := hI'
  have hn := hc.2.1
  have hr := hc.2.2.1
  have hg : ∀ a b, rt_ok n (H a b) := fun a b => (gh a b).1.1
  unfold wpX_restore
  refine gw_switchLink G0 p q true (fun r u' hu' => ?_)
  have h2 := hp r u' hu'
  obtain ⟨_, _, _, _, _, _, _, _, _, ao', ar', al', ah', aw', sl', rfl, _⟩ := hu'
  exact h2
theorem gw_switchOrigin (h : gw_G n d u) (p : Int32) (z : Bool) (hp : ∀ r u', gw_G n d u' → post r u') : wpX_switchOrigin post u p (xw_b z) := by
  obtain ⟨rl, up, og, H, Q, ab, ap, ak, hI, ao, ar, al, ah, aw, sl, rfl, hA⟩ := h
  have G0 : gw_G n d (nI n, nI d, ao, ar, al, ah, aw, sl, ab, ap, ak) := ⟨rl, up, og, H, Q, ab, ap, ak, hI, ao, ar, al, ah, aw, sl, rfl, hA⟩
  have hI' := hI
  obtain ⟨hc, hd, gh, gq, hsy⟩ := hI'
  have hn := hc.2.1
  have hr := hc.2.2.1
  have hg : ∀ a b, rt_ok n (H a b) := fun a b => (gh a b).1.1
  rcases xw_bd_c hn p with hb | ⟨v, hv, rfl⟩
  · unfold wpX_switchOrigin
    exact xw_isBad_t hb (br_f xw_10 (hp _ _ G0))
  · refine xw_switchOrigin hA hc hd gh gq hv z (fun _ => hp _ _ G0) (fun h' u' hu' => hp _ _ ?_)
    exact ⟨_, _, _, _, _, _, _, _, rt_send_ok hc hd gh gq, hu'⟩
theorem gw_originate (h : gw_G n d u) (p : Int32) (hp : ∀ r u', gw_G n d u' → post r u') : wpX_originate post u p := by
  obtain ⟨rl, up, og, H, Q, ab, ap, ak, hI, ao, ar, al, ah, aw, sl, rfl, hA⟩ := h
  have G0 : gw_G n d (nI n, nI d, ao, ar, al, ah, aw, sl, ab, ap, ak) := ⟨rl, up, og, H, Q, ab, ap, ak, hI, ao, ar, al, ah, aw, sl, rfl, hA⟩
  have hI' := hI
  obtain ⟨hc, hd, gh, gq, hsy⟩ := hI'
  have hn := hc.2.1
  have hr := hc.2.2.1
  have hg : ∀ a b, rt_ok n (H a b) := fun a b => (gh a b).1.1
  unfold wpX_originate
  refine gw_switchOrigin G0 p true (fun r u' hu' => ?_)
  have h2 := hp r u' hu'
  obtain ⟨_, _, _, _, _, _, _, _, _, ao', ar', al', ah', aw', sl', rfl, _⟩ := hu'
  exact h2
theorem gw_withdraw (h : gw_G n d u) (p : Int32) (hp : ∀ r u', gw_G n d u' → post r u') : wpX_withdraw post u p := by
  obtain ⟨rl, up, og, H, Q, ab, ap, ak, hI, ao, ar, al, ah, aw, sl, rfl, hA⟩ := h
  have G0 : gw_G n d (nI n, nI d, ao, ar, al, ah, aw, sl, ab, ap, ak) := ⟨rl, up, og, H, Q, ab, ap, ak, hI, ao, ar, al, ah, aw, sl, rfl, hA⟩
  have hI' := hI
  obtain ⟨hc, hd, gh, gq, hsy⟩ := hI'
  have hn := hc.2.1
  have hr := hc.2.2.1
  have hg : ∀ a b, rt_ok n (H a b) := fun a b => (gh a b).1.1
  unfold wpX_withdraw
  refine gw_switchOrigin G0 p false (fun r u' hu' => ?_)
  have h2 := hp r u' hu'
  obtain ⟨_, _, _, _, _, _, _, _, _, ao', ar', al', ah', aw', sl', rfl, _⟩ := hu'
  exact h2
theorem gw_deliver (h : gw_G n d u) (p q : Int32) (hp : ∀ r u', gw_G n d u' → post r u') : wpX_deliver post u p q := by
  obtain ⟨rl, up, og, H, Q, ab, ap, ak, hI, ao, ar, al, ah, aw, sl, rfl, hA⟩ := h
  have G0 : gw_G n d (nI n, nI d, ao, ar, al, ah, aw, sl, ab, ap, ak) := ⟨rl, up, og, H, Q, ab, ap, ak, hI, ao, ar, al, ah, aw, sl, rfl, hA⟩
  have hI' := hI
  obtain ⟨hc, hd, gh, gq, hsy⟩ := hI'
  have hn := hc.2.1
  have hr := hc.2.2.1
  have hg : ∀ a b, rt_ok n (H a b) := fun a b => (gh a b).1.1
  rcases xw_bp_c hn p q with hb | ⟨a, b, ha, hb, hne, rfl, rfl⟩
  · unfold wpX_deliver
    exact xw_bp_t hn hb (br_f xw_10 (hp _ _ G0))
  · exact xw_deliver hA hI ha hb hne (fun _ => hp _ _ G0) (fun _ _ => hp _ _ G0) (fun h0 h' u' hu' => hp _ _ ⟨_, _, _, _, _, _, _, _, rt_dl_inv (s := (H, Q)) hI a b, hu'⟩)
theorem gw_settle (h : gw_G n d u) (hp : ∀ r u', gw_G n d u' → post r u') : wpX_settle post u := by
  obtain ⟨rl, up, og, H, Q, ab, ap, ak, hI, ao, ar, al, ah, aw, sl, rfl, hA⟩ := h
  have G0 : gw_G n d (nI n, nI d, ao, ar, al, ah, aw, sl, ab, ap, ak) := ⟨rl, up, og, H, Q, ab, ap, ak, hI, ao, ar, al, ah, aw, sl, rfl, hA⟩
  have hI' := hI
  obtain ⟨hc, hd, gh, gq, hsy⟩ := hI'
  have hn := hc.2.1
  have hr := hc.2.2.1
  have hg : ∀ a b, rt_ok n (H a b) := fun a b => (gh a b).1.1
  exact xw_settle hI (fun H' Q' ab' u' hI2 hq hu' => hp _ _ ⟨_, _, _, _, _, _, _, _, hI2, hu'⟩) ao ar al ah aw sl hA
theorem gw_relation {post : Int32 → Prop} (h : gw_G n d u) (p q : Int32) (hp : ∀ r, post r) : wpX_relation post u p q := by
  obtain ⟨rl, up, og, H, Q, ab, ap, ak, hI, ao, ar, al, ah, aw, sl, rfl, hA⟩ := h
  have G0 : gw_G n d (nI n, nI d, ao, ar, al, ah, aw, sl, ab, ap, ak) := ⟨rl, up, og, H, Q, ab, ap, ak, hI, ao, ar, al, ah, aw, sl, rfl, hA⟩
  have hI' := hI
  obtain ⟨hc, hd, gh, gq, hsy⟩ := hI'
  have hn := hc.2.1
  have hr := hc.2.2.1
  have hg : ∀ a b, rt_ok n (H a b) := fun a b => (gh a b).1.1
  unfold wpX_relation
  rcases xw_bp_c hn p q with hb | ⟨a, b, ha, hb, hne, rfl, rfl⟩
  · exact xw_bp_t hn hb (br_f xw_10 (hp _))
  · exact xw_bp_f hn ha hb hne (br_t rfl ⟨xw_in (by omega) (by omega), hp _⟩)
theorem gw_message {post : Int64 → Prop} (h : gw_G n d u) (p q : Int32) (hp : ∀ r, post r) : wpX_message post u p q 0 := by
  obtain ⟨rl, up, og, H, Q, ab, ap, ak, hI, ao, ar, al, ah, aw, sl, rfl, hA⟩ := h
  have G0 : gw_G n d (nI n, nI d, ao, ar, al, ah, aw, sl, ab, ap, ak) := ⟨rl, up, og, H, Q, ab, ap, ak, hI, ao, ar, al, ah, aw, sl, rfl, hA⟩
  have hI' := hI
  obtain ⟨hc, hd, gh, gq, hsy⟩ := hI'
  have hn := hc.2.1
  have hr := hc.2.2.1
  have hg : ∀ a b, rt_ok n (H a b) := fun a b => (gh a b).1.1
  unfold wpX_message
  rcases xw_bp_c hn p q with hb | ⟨a, b, ha, hb, hne, rfl, rfl⟩
  · exact xw_bp_t hn hb (br_f xw_10 (hp _))
  · refine xw_bp_f hn ha hb hne (br_t rfl ?_)
    refine xw_isLinked hA hr (by omega) (by omega) (fun h0 => br_t rfl (hp _)) (fun h0 => br_f xw_10 ?_)
    refine br_f (by decide) ⟨xw_in (by omega) (by omega), br_c (fun _ => ⟨?_, hp _⟩) (fun _ => hp _)⟩
    rw [xw_ix]
    have e : nI (a * 8 + b) * 4 + 0 = nI ((a * 8 + b) * 4) := by
      have h1 := pk_mul (a * 8 + b) 4
      have h2 := nI_add ((a * 8 + b) * 4) 0
      exact (congrArg (· + (0 : Int32)) h1).trans h2
    rw [e]
    exact vp_in_nI (by omega) (by decide)
end
