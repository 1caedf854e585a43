/-! the class's walks that only read -/
def xw_bd (n : Nat) (p : Int32) : Prop := p < 0 ∨ ¬ p < nI n
theorem xw_bd_c {n : Nat} (hn : n ≤ 8) (p : Int32) : xw_bd n p ∨ ∃ v, v < n ∧ p = nI v := by
  by_cases h : p < 0
  · exact Or.inl (Or.inl h)
  · obtain ⟨j, hj, rfl⟩ := nI_of h
    by_cases h2 : j < n
    · exact Or.inr ⟨j, h2, rfl⟩
    · exact Or.inl (Or.inr (nI_nlt (by omega) hj))
def xw_bp (n : Nat) (p q : Int32) : Prop := xw_bd n p ∨ xw_bd n q ∨ p = q
theorem xw_bp_c {n : Nat} (hn : n ≤ 8) (p q : Int32) : xw_bp n p q ∨ ∃ a b, a < n ∧ b < n ∧ a ≠ b ∧ p = nI a ∧ q = nI b := by
  rcases xw_bd_c hn p with h | ⟨a, ha, rfl⟩
  · exact Or.inl (Or.inl h)
  · rcases xw_bd_c hn q with h | ⟨b, hb, rfl⟩
    · exact Or.inl (Or.inr (Or.inl h))
    · by_cases e : a = b
      · exact Or.inl (Or.inr (Or.inr (by rw [e])))
      · exact Or.inr ⟨a, b, ha, hb, e, rfl, rfl⟩
theorem rt_ch_lt {n : Nat} {rl : Nat → Nat → Nat} {og : Nat → Bool} {H : rt_HT} {v u : Nat} (hv : v < n) (h : rt_ch n rl og H v = some u) : u < n := by
  unfold rt_ch at h
  by_cases hg : og v = true
  · rw [if_pos hg] at h
    cases h
    exact hv
  · rw [if_neg hg] at h
    exact ((rt_sc_spec rl H v n).1 u h).1
theorem rt_rl_le {n : Nat} {rl : Nat → Nat → Nat} (h : rt_rl n rl) (a b : Nat) : rl a b ≤ 4 := by
  rcases h a b with z | z <;> omega
section
variable {n d : Nat} {rl : Nat → Nat → Nat} {up : Nat → Nat → Bool} {og : Nat → Bool} {H : rt_HT} {Q : rt_QT} {ao ar al : Nat → Int32} {ah : Nat → Int64} {aw : Nat → Int32} {sl ab ap : Nat → Int64} {ak : Nat → Int32}
theorem xw_isBad_t {post : Int32 → Prop} {p : Int32} (h : xw_bd n p) (hp : post 1) : wpX_isBad post (nI n, nI d, ao, ar, al, ah, aw, sl, ab, ap, ak) p := by
  by_cases z : p < 0
  · exact br_t z hp
  · exact br_f z (br_f (h.resolve_left z) hp)
theorem xw_isBad_f {post : Int32 → Prop} {v : Nat} (hn : n ≤ 8) (hv : v < n) (hp : post 0) : wpX_isBad post (nI n, nI d, ao, ar, al, ah, aw, sl, ab, ap, ak) (nI v) :=
  br_f (nI_pos (by omega)) (br_t (nI_lt hv (by omega)) hp)
theorem xw_bp_t {post : Int32 → Prop} {p q : Int32} (hn : n ≤ 8) (h : xw_bp n p q) (hp : post 1) : wpX_isBadPair post (nI n, nI d, ao, ar, al, ah, aw, sl, ab, ap, ak) p q := by
  unfold wpX_isBadPair
  rcases xw_bd_c hn p with hb | ⟨a, ha, rfl⟩
  · exact xw_isBad_t hb (br_f xw_10 hp)
  · refine xw_isBad_f hn ha (br_t rfl ?_)
    rcases xw_bd_c hn q with hb | ⟨b, hb, rfl⟩
    · exact xw_isBad_t hb (br_f xw_10 hp)
    · refine xw_isBad_f hn hb (br_t rfl ?_)
      refine br_t ?_ hp
      rcases h with z | z | z
      · rcases z with z | z
        · exact absurd z (nI_pos (by omega))
        · exact absurd (nI_lt ha (by omega)) z
      · rcases z with z | z
        · exact absurd z (nI_pos (by omega))
        · exact absurd (nI_lt hb (by omega)) z
      · exact z
theorem xw_bp_f {post : Int32 → Prop} {a b : Nat} (hn : n ≤ 8) (ha : a < n) (hb : b < n) (hne : a ≠ b) (hp : post 0) : wpX_isBadPair post (nI n, nI d, ao, ar, al, ah, aw, sl, ab, ap, ak) (nI a) (nI b) := by
  unfold wpX_isBadPair
  refine xw_isBad_f hn ha (br_t rfl ?_)
  refine xw_isBad_f hn hb (br_t rfl ?_)
  exact br_f (xw_ne (by omega) (by omega) hne) hp
theorem xw_isLinked {post : Int32 → Prop} {a b : Nat} (hA : xw_A rl up og H Q ao ar al ah aw sl) (hr : rt_rl n rl) (ha : a < 8) (hb : b < 8) (h0 : rl a b = 0 → post 0) (h1 : rl a b ≠ 0 → post 1) : wpX_isLinked post (nI n, nI d, ao, ar, al, ah, aw, sl, ab, ap, ak) (nI a) (nI b) := by
  have hle := rt_rl_le hr a b
  have e : ar (nI a * 8 + nI b).toNatClampNeg = nI (rl a b) := by rw [xw_cl ha hb]; exact hA.2.1 a b ha hb
  refine ⟨xw_in ha hb, ?_⟩
  by_cases z : rl a b = 0
  · exact br_t (by rw [e, z]; rfl) (h0 z)
  · exact br_f (by rw [e]; exact xw_ne (b := 0) (by omega) (by decide) z) (h1 z)
end
theorem xw_contains {n : Nat} {l : List Nat} {v : Nat} (hn : n ≤ 8) (hl : rt_ok n l) (hv : v < 8) {post : Int32 → Prop} (hp : post (xw_b (decide (v ∈ l)))) : wpX_contains post () (xw_lc l) (nI v) := by
  have hc := rt_enc_ok hn hl
  have key : ∀ m i, i + m = 8 → (∀ j, j < i → ¬ rt_enc l / 16 ^ j % 16 = v + 1) → wX_contains_2 post (xw_lc l) (nI v) (m + 1) (nI i) := by
    intro m
    induction m with
    | zero =>
      intro i hi hno
      have hi8 : i = 8 := by omega
      subst hi8
      have hm : ¬ v ∈ l := fun z => by
        obtain ⟨j, hj, e⟩ := (rt_mem_dig hn hl v).mp z
        exact hno j hj e
      rw [decide_eq_false hm] at hp
      exact br_t (xw_le (a := 8) (b := 8) (by decide) (by decide)) hp
    | succ m ih =>
      intro i hi hno
      refine br_f (xw_ge (b := 8) (by omega) (by decide)) ?_
      have hiff : (((xw_lc l >>> ((4 * nI i).toInt64 &&& 63)) &&& 15) = (nI v + 1).toInt64) ↔ rt_enc l / 16 ^ i % 16 = v + 1 := by
        rw [show xw_lc l = lN (rt_enc l) from rfl, xw_dig hc (by omega), xw_lv hv]
        have := Nat.mod_lt (rt_enc l / 16 ^ i) (show 0 < 16 by decide)
        exact lN_eq (by omega) (by omega)
      by_cases z : rt_enc l / 16 ^ i % 16 = v + 1
      · have hm : v ∈ l := (rt_mem_dig hn hl v).mpr ⟨i, by omega, z⟩
        rw [decide_eq_true hm] at hp
        exact br_t (hiff.mpr z) hp
      · refine br_f (fun y => z (hiff.mp y)) ?_
        refine nm_r (nI_1 i) (ih (i + 1) (by omega) (fun j hj => ?_))
        by_cases e : j = i
        · subst e; exact z
        · exact hno j (by omega)
  exact ⟨9, key 8 0 rfl (fun j hj => absurd hj (Nat.not_lt_zero j))⟩
theorem xw_lengthOf {n : Nat} {l : List Nat} (hn : n ≤ 8) (hl : rt_ok n l) {post : Int32 → Prop} (hp : post (nI l.length)) : wpX_lengthOf post () (xw_lc l) := by
  have hc := rt_enc_ok hn hl
  have hlen := rt_len hl
  have key : ∀ m i, i + m = 8 → (∀ j, j < i → ¬ l.length ≤ j) → wX_lengthOf_2 post (xw_lc l) (m + 1) (nI i) := by
    intro m
    induction m with
    | zero =>
      intro i hi hno
      have hi8 : i = 8 := by omega
      subst hi8
      have h7 := hno 7 (by decide)
      have e : l.length = 8 := by omega
      rw [e] at hp
      exact br_t (xw_le (a := 8) (b := 8) (by decide) (by decide)) hp
    | succ m ih =>
      intro i hi hno
      refine br_f (xw_ge (b := 8) (by omega) (by decide)) ?_
      have hiff : (xw_lc l >>> ((4 * nI i).toInt64 &&& 63)) = 0 ↔ l.length ≤ i := by
        rw [show xw_lc l = lN (rt_enc l) from rfl, xw_sh hc (by omega), ← rt_len_dig hn hl i]
        have := Nat.div_le_self (rt_enc l) (16 ^ i)
        exact pk_lEQ (b := 0) (by omega) (by decide)
      by_cases z : l.length ≤ i
      · have e : l.length = i := by
          by_cases h0 : i = 0
          · omega
          · have := hno (i - 1) (by omega)
            omega
        rw [e] at hp
        exact br_t (hiff.mpr z) hp
      · refine br_f (fun y => z (hiff.mp y)) ?_
        refine nm_r (nI_1 i) (ih (i + 1) (by omega) (fun j hj => ?_))
        by_cases e : j = i
        · subst e; exact z
        · exact hno j (by omega)
  exact ⟨9, key 8 0 rfl (fun j hj => absurd hj (Nat.not_lt_zero j))⟩
theorem rt_sc_s (rl : Nat → Nat → Nat) (H : rt_HT) (v k : Nat) : rt_sc rl H v (k + 1) =
    if rt_cd H v k then (match rt_sc rl H v k with | none => some k | some w => if rt_rk rl H v k < rt_rk rl H v w then some k else some w) else rt_sc rl H v k := by
  show rt_mn _ _ (k + 1) = _
  rw [rt_mn]
  by_cases h : rt_cd H v k
  · rw [if_pos h, if_pos (decide_eq_true h)]
    rfl
  · rw [if_neg h, if_neg (by rw [decide_eq_false h]; decide)]
    rfl
section
variable {n d : Nat} {rl : Nat → Nat → Nat} {up : Nat → Nat → Bool} {og : Nat → Bool} {H : rt_HT} {Q : rt_QT} {ao ar al : Nat → Int32} {ah : Nat → Int64} {aw : Nat → Int32} {sl ab ap : Nat → Int64} {ak : Nat → Int32}
theorem xw_ch_loop (hA : xw_A rl up og H Q ao ar al ah aw sl) (hn : n ≤ 8) (hr : rt_rl n rl) (hg : ∀ a b, rt_ok n (H a b)) {v : Nat} (hv : v < n) {post : Int32 → Prop}
    (hp : post (xw_o (rt_sc rl H v n))) : ∀ m i, i + m = n → ∀ x3 : Int32, (∀ w, rt_sc rl H v i = some w → x3 = nI (rt_rk rl H v w)) →
    wX_chosenBy_18 post (nI v) (nI n) (nI d) ao ar al ah aw sl ab ap ak (m + 1) (xw_o (rt_sc rl H v i)) x3 (nI i) := by
  have hrk : ∀ w, rt_rk rl H v w ≤ 72 := by
    intro w
    have h1 := rt_rl_le hr v w
    have h2 := rt_len (hg w v)
    unfold rt_rk
    omega
  intro m
  induction m with
  | zero =>
    intro i hi x3 _
    have e : i = n := by omega
    subst e
    exact br_t (xw_le (Nat.le_refl i) (by omega)) hp
  | succ m ih =>
    intro i hi x3 h3
    refine br_f (xw_ge (by omega) (by omega)) ?_
    refine ⟨xw_in (by omega) (by omega), fun x5 e5 => ?_⟩
    have e5' : x5 = xw_lc (H i v) := by
      rw [e5, xw_cl (by omega) (by omega)]
      exact hA.2.2.2.1 i v (by omega) (by omega)
    subst e5'
    clear e5
    have skip : ¬ rt_cd H v i → wX_chosenBy_18 post (nI v) (nI n) (nI d) ao ar al ah aw sl ab ap ak (m + 1) (xw_o (rt_sc rl H v i)) x3 (nI (i + 1)) := by
      intro hno
      have es : rt_sc rl H v (i + 1) = rt_sc rl H v i := by rw [rt_sc_s, if_neg hno]
      rw [← es]
      exact ih (i + 1) (by omega) x3 (by rw [es]; exact h3)
    by_cases h0 : H i v = []
    · exact br_t ((xw_lc_0 hn (hg i v)).mpr h0) (nm_r (nI_1 i) (skip (fun z => z.1 h0)))
    · refine br_f (fun z => h0 ((xw_lc_0 hn (hg i v)).mp z)) ?_
      refine xw_contains hn (hg i v) (by omega) ?_
      by_cases hm : v ∈ H i v
      · exact br_f (xw_b_ne (decide_eq_true hm)) (nm_r (nI_1 i) (skip (fun z => z.2 hm)))
      · refine br_t (xw_bn (by rw [decide_eq_false hm]; decide)) ?_
        refine ⟨xw_in (by omega) (by omega), ?_⟩
        refine xw_lengthOf hn (hg i v) (fun x7 e7 => ?_)
        have hcd : rt_cd H v i := ⟨h0, hm⟩
        have e7' : x7 = nI (rt_rk rl H v i) := by
          rw [e7, xw_cl (by omega) (by omega), hA.2.1 v i (by omega) (by omega)]
          show nI (rl v i) * nI 16 + nI (H i v).length = nI (rl v i * 16 + (H i v).length)
          rw [pk_mul, nI_add]
        subst e7'
        clear e7
        have take : rt_sc rl H v (i + 1) = some i → wX_chosenBy_18 post (nI v) (nI n) (nI d) ao ar al ah aw sl ab ap ak (m + 1) (nI i) (nI (rt_rk rl H v i)) (nI (i + 1)) := by
          intro es
          have h := ih (i + 1) (by omega) (nI (rt_rk rl H v i)) (by rw [es]; intro w hw; cases hw; rfl)
          rw [es] at h
          exact h
        cases hs : rt_sc rl H v i with
        | none =>
          exact br_t rfl (nm_r (nI_1 i) (take (by rw [rt_sc_s, if_pos hcd, hs])))
        | some w =>
          have hw := ((rt_sc_spec rl H v i).1 w hs).1
          refine br_f (xw_nm1 (by omega)) ?_
          have e3 := h3 w hs
          subst e3
          have r1 := hrk w
          have r2 := hrk i
          by_cases hlt : rt_rk rl H v i < rt_rk rl H v w
          · refine br_f (xw_ge hlt (by omega)) (nm_r (nI_1 i) (take ?_))
            rw [rt_sc_s, if_pos hcd, hs]
            exact if_pos hlt
          · have es : rt_sc rl H v (i + 1) = some w := by
              rw [rt_sc_s, if_pos hcd, hs]
              exact if_neg hlt
            refine br_t (xw_le (by omega) (by omega)) (nm_r (nI_1 i) ?_)
            have h := ih (i + 1) (by omega) (nI (rt_rk rl H v w)) (by rw [es]; intro y hy; cases hy; rfl)
            rw [es] at h
            exact h
theorem xw_chosenBy (hA : xw_A rl up og H Q ao ar al ah aw sl) (hn : n ≤ 8) (hr : rt_rl n rl) (hg : ∀ a b, rt_ok n (H a b)) {v : Nat} (hv : v < n) {post : Int32 → Prop}
    (hp : post (xw_o (rt_ch n rl og H v))) : wpX_chosenBy post (nI n, nI d, ao, ar, al, ah, aw, sl, ab, ap, ak) (nI v) := by
  refine ⟨xw_i8 (by omega), ?_⟩
  have e : ao (nI v).toNatClampNeg = xw_b (og v) := by rw [xw_c8 (by omega)]; exact hA.1 v (by omega)
  unfold rt_ch at hp
  by_cases ho : og v = true
  · rw [if_pos ho] at hp
    exact br_f (by rw [e]; exact xw_b_ne ho) hp
  · rw [if_neg ho] at hp
    exact br_t (by rw [e]; exact xw_bn ho) ⟨n + 1, xw_ch_loop hA hn hr hg hv hp n 0 (by omega) 0 (fun w hw => (nomatch hw))⟩
theorem xw_pathVia (hA : xw_A rl up og H Q ao ar al ah aw sl) (hn : n ≤ 8) {v : Nat} (hv : v < n) {o : Option Nat} (ho : ∀ u, o = some u → u < n) {post : Int64 → Prop}
    (hp : post (xw_lc (rt_via H v o))) : wpX_pathVia post (nI n, nI d, ao, ar, al, ah, aw, sl, ab, ap, ak) (nI v) (xw_o o) := by
  cases o with
  | none => exact br_t rfl hp
  | some u =>
    have hu := ho u rfl
    refine br_f (xw_nm1 (by omega)) ?_
    by_cases e : u = v
    · have ev : rt_via H v (some u) = [v] := if_pos e
      rw [ev] at hp
      exact br_t (by rw [e]; rfl) ((congrArg post (xw_pre v (by omega) [])).mpr hp)
    · have ev : rt_via H v (some u) = v :: H u v := if_neg e
      rw [ev] at hp
      refine br_f (xw_ne (by omega) (by omega) e) ⟨xw_in (by omega) (by omega), ?_⟩
      have e2 : ah (nI u * 8 + nI v).toNatClampNeg = xw_lc (H u v) := by rw [xw_cl (by omega) (by omega)]; exact hA.2.2.2.1 u v (by omega) (by omega)
      show wX_pathVia_26 post (nI v) (ah (nI u * 8 + nI v).toNatClampNeg) (nI n) (nI d) ao ar al ah aw sl ab ap ak
      rw [e2]
      exact (congrArg post (xw_pre v (by omega) (H u v))).mpr hp
theorem xw_kindVia (hA : xw_A rl up og H Q ao ar al ah aw sl) (hn : n ≤ 8) {v : Nat} (hv : v < n) {o : Option Nat} (ho : ∀ u, o = some u → u < n) {post : Int32 → Prop}
    (hp : post (nI (rt_kvia rl v o))) : wpX_kindVia post (nI n, nI d, ao, ar, al, ah, aw, sl, ab, ap, ak) (nI v) (xw_o o) := by
  cases o with
  | none => exact br_t rfl hp
  | some u =>
    have hu := ho u rfl
    refine br_f (xw_nm1 (by omega)) ?_
    by_cases e : u = v
    · have ev : rt_kvia rl v (some u) = 1 := if_pos e
      rw [ev] at hp
      exact br_t (by rw [e]; rfl) hp
    · have ev : rt_kvia rl v (some u) = rl v u := if_neg e
      rw [ev] at hp
      refine br_f (xw_ne (by omega) (by omega) e) ⟨xw_in (by omega) (by omega), ?_⟩
      have e2 : ar (nI v * 8 + nI u).toNatClampNeg = nI (rl v u) := by rw [xw_cl (by omega) (by omega)]; exact hA.2.1 v u (by omega) (by omega)
      show post (ar (nI v * 8 + nI u).toNatClampNeg)
      rw [e2]
      exact hp
theorem xw_selectedPath (hA : xw_A rl up og H Q ao ar al ah aw sl) (hn : n ≤ 8) (hr : rt_rl n rl) (hg : ∀ a b, rt_ok n (H a b)) {v : Nat} (hv : v < n) {post : Int64 → Prop}
    (hp : post (xw_lc (rt_pt n rl og H v))) : wpX_selectedPath post (nI n, nI d, ao, ar, al, ah, aw, sl, ab, ap, ak) (nI v) := by
  unfold wpX_selectedPath
  refine xw_chosenBy hA hn hr hg hv ?_
  exact xw_pathVia hA hn hv (fun u hu => rt_ch_lt hv hu) hp
end
