/-! the expected paths: what the three phases ask, and that it is the quiet state -/
abbrev rt_of (rl : Nat → Nat → Nat) (up : Nat → Nat → Bool) (K : Nat → Nat) (q v u : Nat) : Prop :=
  up v u = true ∧ rl v u = q ∧ K u ≠ 0 ∧ (q = 4 ∨ K u = 1 ∨ K u = 2)
def rt_bs (n : Nat) (rl : Nat → Nat → Nat) (up : Nat → Nat → Bool) (P : Nat → List Nat) (K : Nat → Nat) (q v : Nat) : Option Nat :=
  rt_mn (fun u => decide (rt_of rl up K q v u)) (fun u => (P u).length) n
theorem rt_bs_some {n : Nat} {rl : Nat → Nat → Nat} {up : Nat → Nat → Bool} {P : Nat → List Nat} {K : Nat → Nat} {q v b : Nat} (h : rt_bs n rl up P K q v = some b) :
    b < n ∧ rt_of rl up K q v b ∧ ∀ w, w < n → rt_of rl up K q v w → (P b).length < (P w).length ∨ ((P b).length = (P w).length ∧ b ≤ w) := by
  have h2 := (rt_mn_spec _ _ n).1 b h
  exact ⟨h2.1, of_decide_eq_true h2.2.1, fun w hw hcw => h2.2.2 w hw (decide_eq_true hcw)⟩
theorem rt_bs_none {n : Nat} {rl : Nat → Nat → Nat} {up : Nat → Nat → Bool} {P : Nat → List Nat} {K : Nat → Nat} {q v : Nat} (h : rt_bs n rl up P K q v = none) :
    ∀ w, w < n → ¬ rt_of rl up K q v w := fun w hw hcw => (rt_mn_spec _ _ n).2 h w hw (decide_eq_true hcw)
theorem rt_bs_congr {n : Nat} {rl : Nat → Nat → Nat} {up : Nat → Nat → Bool} {P P' : Nat → List Nat} {K K' : Nat → Nat} {q v : Nat}
    (h : ∀ u, u < n → (rt_of rl up K q v u ↔ rt_of rl up K' q v u)) (h2 : ∀ u, u < n → rt_of rl up K q v u → P u = P' u) : rt_bs n rl up P K q v = rt_bs n rl up P' K' q v := by
  refine rt_mn_congr (fun u hu => decide_eq_decide.mpr (h u hu)) (fun u hu hc => ?_)
  show (P u).length = (P' u).length
  rw [h2 u hu (of_decide_eq_true hc)]
def rt_F (n : Nat) (rl : Nat → Nat → Nat) (up : Nat → Nat → Bool) (og : Nat → Bool) (P : Nat → List Nat) (K : Nat → Nat) : Prop :=
  ∀ v, v < n → (og v = true ∧ K v = 1 ∧ P v = [v]) ∨
    (¬ og v = true ∧ ((∃ q b, 2 ≤ q ∧ q ≤ 4 ∧ rt_bs n rl up P K q v = some b ∧ K v = q ∧ P v = v :: P b ∧ ∀ j, 2 ≤ j → j < q → rt_bs n rl up P K j v = none) ∨
      (K v = 0 ∧ P v = [] ∧ ∀ j, 2 ≤ j → j ≤ 4 → rt_bs n rl up P K j v = none)))
section
variable {n : Nat} {rl : Nat → Nat → Nat} {up : Nat → Nat → Bool} {og : Nat → Bool} {P : Nat → List Nat} {K : Nat → Nat}
theorem rt_rl_op (hr : rt_rl n rl) {a b : Nat} (h : rl a b ≠ 0) : a < n ∧ b < n ∧ a ≠ b ∧ rl b a = 6 - rl a b ∧ 2 ≤ rl a b ∧ rl a b ≤ 4 := by
  rcases hr a b with z | z
  · exact absurd z h
  · refine ⟨z.1, z.2.1, z.2.2.1, ?_⟩
    omega
theorem rt_F_1 (hc : rt_cf n rl up) (hF : rt_F n rl up og P K) : ∀ m v, v < n → rt_ht n rl v < m → (K v = 1 ∨ K v = 2) →
    rt_ok n (P v) ∧ (∀ x, x ∈ P v → (K x = 1 ∨ K x = 2) ∧ rt_R rl v x) ∧ P v ≠ [] := by
  obtain ⟨_, _, hr, hup, ha⟩ := hc
  intro m
  induction m with
  | zero => intro v _ h; omega
  | succ m ih =>
    intro v hv hm hk
    rcases hF v hv with ⟨_, hk1, hp⟩ | ⟨_, ⟨q, b, h2, h4, hb, hkq, hp, _⟩ | ⟨hk0, _, _⟩⟩
    · rw [hp]
      refine ⟨rt_ok_cons (rt_ok_nil n) hv List.not_mem_nil, fun x hx => ?_, fun z => nomatch z⟩
      rw [List.mem_singleton.mp hx]
      exact ⟨Or.inl hk1, rt_R_refl rl v⟩
    · have hq : q = 2 := by omega
      subst hq
      have hB := rt_bs_some hb
      obtain ⟨hbn, ⟨hbu, hbr, hb0, hbk⟩, _⟩ := hB
      have hbk' : K b = 1 ∨ K b = 2 := by omega
      have hlt := rt_ht_lt ha hbr hv
      obtain ⟨i1, i2, i3⟩ := ih b hbn (by omega) hbk'
      have hnm : v ∉ P b := fun z => ha v b hbr (i2 v z).2
      rw [hp]
      refine ⟨rt_ok_cons i1 hv hnm, fun x hx => ?_, fun z => nomatch z⟩
      rcases List.mem_cons.mp hx with e | e
      · rw [e]
        exact ⟨Or.inr hkq, rt_R_refl rl v⟩
      · exact ⟨(i2 x e).1, rt_R_step hbr (i2 x e).2⟩
    · omega
theorem rt_F_12 (hc : rt_cf n rl up) (hF : rt_F n rl up og P K) {v : Nat} (hv : v < n) (hk : K v = 1 ∨ K v = 2) :
    rt_ok n (P v) ∧ (∀ x, x ∈ P v → (K x = 1 ∨ K x = 2) ∧ rt_R rl v x) ∧ P v ≠ [] := rt_F_1 hc hF _ v hv (Nat.lt_succ_self _) hk
theorem rt_F_3 (hc : rt_cf n rl up) (hF : rt_F n rl up og P K) {v : Nat} (hv : v < n) (hk : K v = 3) :
    rt_ok n (P v) ∧ (∀ x, x ∈ P v → x = v ∨ (K x = 1 ∨ K x = 2)) ∧ P v ≠ [] := by
  rcases hF v hv with ⟨_, hk1, hp⟩ | ⟨_, ⟨q, b, h2, h4, hb, hkq, hp, _⟩ | ⟨hk0, _, _⟩⟩
  · omega
  · have hq : q = 3 := by omega
    subst hq
    obtain ⟨hbn, ⟨hbu, hbr, hb0, hbk⟩, _⟩ := rt_bs_some hb
    obtain ⟨i1, i2, i3⟩ := rt_F_12 hc hF hbn (show K b = 1 ∨ K b = 2 by omega)
    have hnm : v ∉ P b := fun z => by
      have := (i2 v z).1
      omega
    rw [hp]
    refine ⟨rt_ok_cons i1 hv hnm, fun x hx => ?_, fun z => nomatch z⟩
    rcases List.mem_cons.mp hx with e | e
    · exact Or.inl e
    · exact Or.inr (i2 x e).1
  · omega
theorem rt_F_le (hF : rt_F n rl up og P K) {v : Nat} (hv : v < n) : K v ≤ 4 := by
  rcases hF v hv with ⟨_, hk1, hp⟩ | ⟨_, ⟨q, b, h2, h4, hb, hkq, hp, _⟩ | ⟨hk0, _, _⟩⟩ <;> omega
theorem rt_F_4 (hc : rt_cf n rl up) (hF : rt_F n rl up og P K) : ∀ m v, v < n → n - rt_ht n rl v < m → K v = 4 →
    rt_ok n (P v) ∧ (∀ x, x ∈ P v → rt_R rl x v ∨ (K x = 1 ∨ K x = 2 ∨ K x = 3)) ∧ P v ≠ [] := by
  intro m
  induction m with
  | zero => intro v _ h; omega
  | succ m ih =>
    intro v hv hm hk
    have hc' := hc
    obtain ⟨_, _, hr, hup, ha⟩ := hc'
    rcases hF v hv with ⟨_, hk1, hp⟩ | ⟨_, ⟨q, b, h2, h4, hb, hkq, hp, _⟩ | ⟨hk0, _, _⟩⟩
    · omega
    · have hq : q = 4 := by omega
      subst hq
      obtain ⟨hbn, ⟨hbu, hbr, hb0, _⟩, _⟩ := rt_bs_some hb
      have hop := rt_rl_op hr (a := v) (b := b) (by omega)
      have hbv : rl b v = 2 := by omega
      have hlt := rt_ht_lt ha hbv hbn
      have hle := rt_ht_le n rl b
      have hle4 := rt_F_le hF hbn
      have key : rt_ok n (P b) ∧ (∀ x, x ∈ P b → rt_R rl x b ∨ (K x = 1 ∨ K x = 2 ∨ K x = 3)) := by
        by_cases h4 : K b = 4
        · obtain ⟨i1, i2, _⟩ := ih b hbn (by omega) h4
          exact ⟨i1, i2⟩
        · by_cases h3 : K b = 3
          · obtain ⟨i1, i2, _⟩ := rt_F_3 hc hF hbn h3
            refine ⟨i1, fun x hx => ?_⟩
            rcases i2 x hx with e | e
            · rw [e]; exact Or.inl (rt_R_refl rl b)
            · omega
          · obtain ⟨i1, i2, _⟩ := rt_F_12 hc hF hbn (show K b = 1 ∨ K b = 2 by omega)
            refine ⟨i1, fun x hx => ?_⟩
            have := (i2 x hx).1
            omega
      have hnm : v ∉ P b := fun z => by
        rcases key.2 v z with e | e
        · exact ha b v hbv e
        · omega
      rw [hp]
      refine ⟨rt_ok_cons key.1 hv hnm, fun x hx => ?_, fun z => nomatch z⟩
      rcases List.mem_cons.mp hx with e | e
      · rw [e]; exact Or.inl (rt_R_refl rl v)
      · rcases key.2 x e with y | y
        · exact Or.inl (rt_R_snoc y hbv)
        · exact Or.inr y
    · omega
theorem rt_F_ok (hc : rt_cf n rl up) (hF : rt_F n rl up og P K) {v : Nat} (hv : v < n) : rt_ok n (P v) ∧ (K v = 0 ↔ P v = []) := by
  have hle := rt_F_le hF hv
  by_cases h4 : K v = 4
  · obtain ⟨i1, _, i3⟩ := rt_F_4 hc hF _ v hv (Nat.lt_succ_self _) h4
    exact ⟨i1, fun z => by omega, fun z => absurd z i3⟩
  · by_cases h3 : K v = 3
    · obtain ⟨i1, _, i3⟩ := rt_F_3 hc hF hv h3
      exact ⟨i1, fun z => by omega, fun z => absurd z i3⟩
    · by_cases h0 : K v = 0
      · rcases hF v hv with ⟨_, hk1, hp⟩ | ⟨_, ⟨q, b, h2, h4, hb, hkq, hp, _⟩ | ⟨hk0, hp, _⟩⟩
        · omega
        · omega
        · rw [hp]
          exact ⟨rt_ok_nil n, fun _ => rfl, fun _ => hk0⟩
      · obtain ⟨i1, _, i3⟩ := rt_F_12 hc hF hv (show K v = 1 ∨ K v = 2 by omega)
        exact ⟨i1, fun z => absurd z h0, fun z => absurd z i3⟩
/-- what is offered does not hold the node itself -/
theorem rt_F_nm (hc : rt_cf n rl up) (hF : rt_F n rl up og P K) {v u q : Nat} (hv : v < n) (ho : rt_of rl up K q v u)
    (h3 : q = 3 → K v ≠ 1 ∧ K v ≠ 2) (h4 : q = 4 → K v ≠ 1 ∧ K v ≠ 2 ∧ K v ≠ 3) : v ∉ P u := by
  have hc' := hc
  obtain ⟨_, _, hr, hup, ha⟩ := hc'
  obtain ⟨hu, hq, h0, hk⟩ := ho
  have hop := rt_rl_op hr (hup v u hu).1
  have hle := rt_F_le hF hop.2.1
  intro z
  by_cases k4 : K u = 4
  · have e4 : q = 4 := by omega
    have hn := h4 e4
    have huv : rl u v = 2 := by omega
    rcases (rt_F_4 hc hF _ u hop.2.1 (Nat.lt_succ_self _) k4).2.1 v z with e | e
    · exact ha u v huv e
    · omega
  · by_cases k3 : K u = 3
    · have e4 : q = 4 := by omega
      have hn := h4 e4
      rcases (rt_F_3 hc hF hop.2.1 k3).2.1 v z with e | e
      · exact hop.2.2.1 e
      · omega
    · have h12 := (rt_F_12 hc hF hop.2.1 (show K u = 1 ∨ K u = 2 by omega)).2.1 v z
      by_cases e2 : q = 2
      · exact ha v u (by omega) h12.2
      · by_cases e3 : q = 3
        · have := h3 e3
          omega
        · have := h4 (by omega)
          omega
def rt_HE (rl : Nat → Nat → Nat) (up : Nat → Nat → Bool) (P : Nat → List Nat) (K : Nat → Nat) : rt_HT := fun f t => if up f t = true then rt_xp rl P K f t else []
theorem rt_HE_gd (hc : rt_cf n rl up) (hF : rt_F n rl up og P K) : rt_gd n up (rt_HE rl up P K) := by
  intro a b
  unfold rt_HE
  by_cases h : up a b = true
  · rw [if_pos h]
    refine ⟨?_, fun _ => h⟩
    unfold rt_xp
    by_cases h2 : K a = 1 ∨ K a = 2 ∨ rl a b = 2
    · rw [if_pos h2]; exact (rt_F_ok hc hF (rt_up_lt hc h).1).1
    · rw [if_neg h2]; exact rt_ok_nil n
  · rw [if_neg h]
    exact ⟨rt_ok_nil n, fun z => absurd rfl z⟩
theorem rt_HE_cd (hc : rt_cf n rl up) (hF : rt_F n rl up og P K) {v u : Nat} (h : rt_cd (rt_HE rl up P K) v u) :
    rt_of rl up K (rl v u) v u ∧ rt_HE rl up P K u v = P u ∧ v ∉ P u := by
  have hu : up u v = true := by
    by_cases z : up u v = true
    · exact z
    · exact absurd (show rt_HE rl up P K u v = [] from if_neg z) h.1
  have hc' := hc
  obtain ⟨_, _, hr, hup, ha⟩ := hc'
  have h1 : rt_HE rl up P K u v = rt_xp rl P K u v := if_pos hu
  have hx : K u = 1 ∨ K u = 2 ∨ rl u v = 2 := by
    by_cases z : K u = 1 ∨ K u = 2 ∨ rl u v = 2
    · exact z
    · exact absurd (h1.trans (if_neg z)) h.1
  have h2 : rt_HE rl up P K u v = P u := h1.trans (if_pos hx)
  have hop := rt_rl_op hr (hup u v hu).1
  have h3 := h.1
  have h4 := h.2
  rw [h2] at h3 h4
  have h0 : K u ≠ 0 := fun z => h3 ((rt_F_ok hc hF hop.1).2.mp z)
  refine ⟨⟨(hup u v hu).2, rfl, h0, ?_⟩, h2, h4⟩
  omega
theorem rt_HE_of (hc : rt_cf n rl up) (hF : rt_F n rl up og P K) {v u q : Nat} (h : rt_of rl up K q v u) (hm : v ∉ P u) :
    rt_cd (rt_HE rl up P K) v u ∧ rt_HE rl up P K u v = P u := by
  have hc' := hc
  obtain ⟨_, _, hr, hup, ha⟩ := hc'
  obtain ⟨hu, hq, h0, hk⟩ := h
  have hop := rt_rl_op hr (hup v u hu).1
  have h1 : rt_HE rl up P K u v = rt_xp rl P K u v := if_pos (hup v u hu).2
  have h2 : rt_HE rl up P K u v = P u := h1.trans (if_pos (by omega))
  refine ⟨?_, h2⟩
  show rt_HE rl up P K u v ≠ [] ∧ v ∉ rt_HE rl up P K u v
  rw [h2]
  exact ⟨fun z => h0 ((rt_F_ok hc hF hop.2.1).2.mpr z), hm⟩
theorem rt_F_st (hc : rt_cf n rl up) (hF : rt_F n rl up og P K) {v : Nat} (hv : v < n) :
    rt_pt n rl og (rt_HE rl up P K) v = P v ∧ rt_kd n rl og (rt_HE rl up P K) v = K v := by
  have hc' := hc
  obtain ⟨_, h8, hr, hup, ha⟩ := hc'
  unfold rt_pt rt_kd rt_ch
  rcases hF v hv with ⟨ho, hk1, hp⟩ | ⟨ho, ⟨q, b, h2, h4, hb, hkq, hp, hj⟩ | ⟨hk0, hp, hj⟩⟩
  · rw [if_pos ho, hk1, hp]
    exact ⟨if_pos rfl, if_pos rfl⟩
  · rw [if_neg ho]
    obtain ⟨hbn, hbo, hbm⟩ := rt_bs_some hb
    have hnm := rt_F_nm hc hF hv hbo (fun z => by omega) (fun z => by omega)
    obtain ⟨hcd, hHb⟩ := rt_HE_of hc hF hbo hnm
    have hsc : rt_sc rl (rt_HE rl up P K) v n = some b := by
      apply rt_sc_of
      refine ⟨hbn, hcd, fun w hw hcw => ?_⟩
      obtain ⟨hwo, hHw, _⟩ := rt_HE_cd hc hF hcw
      have hopw := rt_rl_op hr (hup v w hwo.1).1
      have hlb := rt_len (rt_F_ok hc hF hbn).1
      have e1 : rt_rk rl (rt_HE rl up P K) v b = q * 16 + (P b).length := by unfold rt_rk; rw [hHb, hbo.2.1]
      have e2 : rt_rk rl (rt_HE rl up P K) v w = rl v w * 16 + (P w).length := by unfold rt_rk; rw [hHw]
      rw [e1, e2]
      by_cases hlt : rl v w < q
      · exact absurd hwo (rt_bs_none (hj (rl v w) hopw.2.2.2.2.1 hlt) w hw)
      · by_cases heq : rl v w = q
        · rw [heq] at hwo ⊢
          have := hbm w hw hwo
          omega
        · left; omega
    have hne : ¬ b = v := fun z => by
      have := (rt_rl_op hr (hup v b hbo.1).1).2.2.1
      exact this z.symm
    rw [hsc]
    refine ⟨(if_neg hne).trans ?_, (if_neg hne).trans ?_⟩
    · rw [hHb, hp]
    · rw [hbo.2.1, hkq]
  · rw [if_neg ho]
    have hsc : rt_sc rl (rt_HE rl up P K) v n = none := by
      apply rt_sc_no
      intro w hw hcw
      obtain ⟨hwo, hHw, _⟩ := rt_HE_cd hc hF hcw
      have hopw := rt_rl_op hr (hup v w hwo.1).1
      exact rt_bs_none (hj (rl v w) hopw.2.2.2.2.1 hopw.2.2.2.2.2) w hw hwo
    rw [hsc, hk0, hp]
    exact ⟨rfl, rfl⟩
theorem rt_F_fix (hc : rt_cf n rl up) (hF : rt_F n rl up og P K) : ∀ a b, up a b = true → rt_HE rl up P K a b = rt_ex n rl og (rt_HE rl up P K) a b := by
  intro a b hab
  have h := rt_F_st hc hF (rt_up_lt hc hab).1
  unfold rt_ex rt_xp
  rw [h.1, h.2]
  exact if_pos hab
theorem rt_F_uniq (hc : rt_cf n rl up) (hF : rt_F n rl up og P K) {P' : Nat → List Nat} {K' : Nat → Nat} (hF' : rt_F n rl up og P' K') {v : Nat} (hv : v < n) : P v = P' v ∧ K v = K' v := by
  have e := rt_uniq hc og (rt_HE_gd hc hF) (rt_HE_gd hc hF') (rt_F_fix hc hF) (rt_F_fix hc hF')
  have h1 := rt_F_st hc hF hv
  have h2 := rt_F_st hc hF' hv
  rw [e] at h1
  exact ⟨h1.1.symm.trans h2.1, h1.2.symm.trans h2.2⟩
theorem rt_F_quiet (hF : rt_F n rl up og P K) {d : Nat} {H : rt_HT} {Q : rt_QT} (hI : rt_inv n d rl up og H Q) (hq : ∀ a b, Q a b = []) :
    H = rt_HE rl up P K ∧ ∀ v, v < n → rt_pt n rl og H v = P v ∧ rt_kd n rl og H v = K v := by
  have e := rt_uniq hI.1 og (rt_gh_gd hI.2.2.1) (rt_HE_gd hI.1 hF) (rt_quiet hI hq) (rt_F_fix hI.1 hF)
  refine ⟨e, fun v hv => ?_⟩
  rw [e]
  exact rt_F_st hI.1 hF hv
end
