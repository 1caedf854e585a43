/-! expected paths, as the class finds them -/
def xw_E (n : Nat) (E : rt_ET) (ap : Nat → Int64) (ak : Nat → Int32) : Prop := ∀ v, v < n → ap v = xw_lc (E.1 v) ∧ ak v = nI (E.2 v)
theorem rt_mn_s (c : Nat → Bool) (r : Nat → Nat) (k : Nat) : rt_mn c r (k + 1) = if c k = true then (match rt_mn c r k with | none => some k | some w => if r k < r w then some k else some w) else rt_mn c r k := by
  rw [rt_mn]
  rfl
theorem xw_E_u {n : Nat} {E : rt_ET} {ap : Nat → Int64} {ak : Nat → Int32} (h : xw_E n E ap ak) (v : Nat) (l : List Nat) (q : Nat) {y : Int64} {z : Int32} (hy : y = xw_lc l) (hz : z = nI q) : xw_E n (rt_u1 E.1 v l, rt_u1 E.2 v q) (vp_updL ap v y) (upd ak v z) := by
  intro w hw
  show vp_updL ap v y w = xw_lc (rt_u1 E.1 v l w) ∧ upd ak v z w = nI (rt_u1 E.2 v q w)
  by_cases e : w = v
  · subst e
    rw [pk_uLs, pk_us, rt_u1_s, rt_u1_s]
    exact ⟨hy, hz⟩
  · rw [pk_uLn e, pk_un e, rt_u1_n e, rt_u1_n e]
    exact h w hw
section
variable {n d : Nat} {rl : Nat → Nat → Nat} {up : Nat → Nat → Bool} {og : Nat → Bool} {H : rt_HT} {Q : rt_QT} {ao ar al : Nat → Int32} {ah : Nat → Int64} {aw : Nat → Int32} {sl ab : Nat → Int64}
theorem xw_offersPath (hA : xw_A rl up og H Q ao ar al ah aw sl) (hn : n ≤ 8) (hr : rt_rl n rl) {E : rt_ET} {ap : Nat → Int64} {ak : Nat → Int32} (hE : xw_E n E ap ak) (hW : rt_W n rl E) {q v u : Nat} (hq : q ≤ 4) (hv : v < n) (hu : u < n) {post : Int32 → Prop}
    (hp : post (xw_b (decide (rt_of rl up E.2 q v u)))) : wpX_offersPath post (nI n, nI d, ao, ar, al, ah, aw, sl, ab, ap, ak) (nI u) (nI v) (nI q) := by
  have e1 : al (nI v * 8 + nI u).toNatClampNeg = xw_b (up v u) := by rw [xw_cl (by omega) (by omega)]; exact hA.2.2.1 v u (by omega) (by omega)
  have e2 : ar (nI v * 8 + nI u).toNatClampNeg = nI (rl v u) := by rw [xw_cl (by omega) (by omega)]; exact hA.2.1 v u (by omega) (by omega)
  have e3 : ak (nI u).toNatClampNeg = nI (E.2 u) := by rw [xw_c8 (by omega)]; exact (hE u hu).2
  have hle := rt_rl_le hr v u
  have hk4 := (hW u hu).2.2.1
  have hno : ¬ rt_of rl up E.2 q v u → post 0 := fun z => by rw [decide_eq_false z] at hp; exact hp
  have hyes : rt_of rl up E.2 q v u → post 1 := fun z => by rw [decide_eq_true z] at hp; exact hp
  unfold wpX_offersPath
  refine ⟨xw_in (by omega) (by omega), ?_⟩
  by_cases h1 : up v u = true
  · refine br_f (by rw [e1]; exact xw_b_ne h1) ⟨xw_in (by omega) (by omega), ?_⟩
    by_cases h2 : rl v u = q
    · refine br_t (by rw [e2, h2]) ⟨xw_i8 (by omega), ?_⟩
      by_cases h3 : E.2 u = 0
      · exact br_t (by rw [e3, h3]; rfl) (hno (fun z => z.2.2.1 h3))
      · refine br_f (by rw [e3]; exact xw_ne (b := 0) (by omega) (by decide) h3) ?_
        by_cases h4 : q = 4
        · exact br_t (by rw [h4]; rfl) (hyes ⟨h1, h2, h3, Or.inl h4⟩)
        · refine br_f (xw_ne (b := 4) (by omega) (by decide) h4) ⟨xw_i8 (by omega), ?_⟩
          by_cases h5 : E.2 u = 1
          · exact br_t (by rw [e3, h5]; rfl) (hyes ⟨h1, h2, h3, Or.inr (Or.inl h5)⟩)
          · refine br_f (by rw [e3]; exact xw_ne (b := 1) (by omega) (by decide) h5) ⟨xw_i8 (by omega), ?_⟩
            by_cases h6 : E.2 u = 2
            · exact br_t (by rw [e3, h6]; rfl) (hyes ⟨h1, h2, h3, Or.inr (Or.inr h6)⟩)
            · exact br_f (by rw [e3]; exact xw_ne (b := 2) (by omega) (by decide) h6) (hno (fun z => by have := z.2.2.2; omega))
    · exact br_f (by rw [e2]; exact xw_ne (by omega) (by omega) h2) (hno (fun z => h2 z.2.1))
  · exact br_t (by rw [e1]; exact xw_bn h1) (hno (fun z => h1 z.1))
theorem xw_isShorter (hn : n ≤ 8) {E : rt_ET} {ap : Nat → Int64} {ak : Nat → Int32} (hE : xw_E n E ap ak) (hW : rt_W n rl E) {u w : Nat} (hu : u < n) (hw : w < n) {post : Int32 → Prop}
    (hp : post (xw_b (decide ((E.1 u).length < (E.1 w).length)))) : wpX_isShorter post (nI n, nI d, ao, ar, al, ah, aw, sl, ab, ap, ak) (nI u) (nI w) := by
  have e1 : ap (nI u).toNatClampNeg = xw_lc (E.1 u) := by rw [xw_c8 (by omega)]; exact (hE u hu).1
  have e2 : ap (nI w).toNatClampNeg = xw_lc (E.1 w) := by rw [xw_c8 (by omega)]; exact (hE w hw).1
  have l1 := rt_len (hW u hu).1
  have l2 := rt_len (hW w hw).1
  unfold wpX_isShorter
  refine ⟨xw_i8 (by omega), ?_⟩
  rw [e1]
  refine xw_lengthOf hn (hW u hu).1 ⟨xw_i8 (by omega), ?_⟩
  rw [e2]
  refine xw_lengthOf hn (hW w hw).1 ?_
  by_cases z : (E.1 u).length < (E.1 w).length
  · rw [decide_eq_true z] at hp
    exact br_f (xw_ge z (by omega)) hp
  · rw [decide_eq_false z] at hp
    exact br_t (xw_le (by omega) (by omega)) hp
theorem xw_takeShortest (hA : xw_A rl up og H Q ao ar al ah aw sl) (hn : n ≤ 8) (hr : rt_rl n rl) {E : rt_ET} {ap : Nat → Int64} {ak : Nat → Int32} (hE : xw_E n E ap ak) (hW : rt_W n rl E) {q v : Nat} (hq : q ≤ 4) (hv : v < n) {post : St2 → Prop}
    (hp : ∀ ap' ak', xw_E n (rt_tk n rl up q v E) ap' ak' → post (nI n, nI d, ao, ar, al, ah, aw, sl, ab, ap', ak')) : wpX_takeShortest post (nI n, nI d, ao, ar, al, ah, aw, sl, ab, ap, ak) (nI v) (nI q) := by
  have key : ∀ m i, i + m = n → wX_takeShortest_5 post (nI v) (nI q) (nI n) (nI d) ao ar al ah aw sl ab ap ak (m + 1) (xw_o (rt_mn (fun u => decide (rt_of rl up E.2 q v u)) (fun u => (E.1 u).length) i)) (nI i) := by
    intro m
    induction m with
    | zero =>
      intro i hi
      have e : i = n := by omega
      subst e
      refine br_t (xw_le (Nat.le_refl i) (by omega)) ?_
      unfold rt_tk rt_bs at hp
      cases hs : rt_mn (fun u => decide (rt_of rl up E.2 q v u)) (fun u => (E.1 u).length) i with
      | none =>
        rw [hs] at hp
        exact br_t rfl (hp ap ak hE)
      | some b =>
        rw [hs] at hp
        have hb := ((rt_mn_spec _ _ i).1 b hs).1
        refine br_f (xw_nm1 (by omega)) ⟨xw_i8 (by omega), ⟨xw_i8 (by omega), ?_⟩⟩
        have e1 : ap (nI b).toNatClampNeg = xw_lc (E.1 b) := by rw [xw_c8 (by omega)]; exact (hE b hb).1
        refine nm_r (e' := vp_updL ap v (xw_lc (v :: E.1 b))) ?_ ⟨xw_i8 (by omega), nm_r (e' := upd ak v (nI q)) (by rw [xw_c8 (by omega)]) ?_⟩
        · show vp_updL ap (nI v).toNatClampNeg (((ap (nI b).toNatClampNeg * 16) + (nI v).toInt64) + 1) = _
          rw [e1, xw_pre v (by omega), xw_c8 (by omega)]
        · exact hp _ _ (xw_E_u hE v _ q rfl rfl)
    | succ m ih =>
      intro i hi
      refine br_f (xw_ge (by omega) (by omega)) ?_
      refine xw_offersPath hA hn hr hE hW hq hv (by omega) ?_
      have hnx := ih (i + 1) (by omega)
      rw [rt_mn_s] at hnx
      by_cases hc : rt_of rl up E.2 q v i
      · refine br_f (xw_b_ne (decide_eq_true hc)) ?_
        rw [if_pos (decide_eq_true hc)] at hnx
        cases hs : rt_mn (fun u => decide (rt_of rl up E.2 q v u)) (fun u => (E.1 u).length) i with
        | none =>
          rw [hs] at hnx
          exact br_t rfl (nm_r (nI_1 i) hnx)
        | some w =>
          rw [hs] at hnx
          have hw := ((rt_mn_spec _ _ i).1 w hs).1
          refine br_f (xw_nm1 (by omega)) ?_
          refine xw_isShorter hn hE hW (by omega) (by omega) ?_
          dsimp only at hnx
          by_cases hlt : (E.1 i).length < (E.1 w).length
          · rw [if_pos hlt] at hnx
            exact br_f (xw_b_ne (decide_eq_true hlt)) (nm_r (nI_1 i) hnx)
          · rw [if_neg hlt] at hnx
            exact br_t (xw_bn (by rw [decide_eq_false hlt]; decide)) (nm_r (nI_1 i) hnx)
      · refine br_t (xw_bn (by rw [decide_eq_false hc]; decide)) (nm_r (nI_1 i) ?_)
        rw [if_neg (by rw [decide_eq_false hc]; decide)] at hnx
        exact hnx
  exact ⟨n + 1, key n 0 (by omega)⟩
theorem xw_takePathsFrom (hA : xw_A rl up og H Q ao ar al ah aw sl) (hc : rt_cf n rl up) {E : rt_ET} {ap : Nat → Int64} {ak : Nat → Int32} (hE : xw_E n E ap ak) (hW : rt_W n rl E) {q : Nat} (hq2 : 2 ≤ q) (hq4 : q ≤ 4) {post : St2 → Prop}
    (hp : ∀ ap' ak', xw_E n (rt_ps n rl up q E n) ap' ak' → post (nI n, nI d, ao, ar, al, ah, aw, sl, ab, ap', ak')) : wpX_takePathsFrom post (nI n, nI d, ao, ar, al, ah, aw, sl, ab, ap, ak) (nI q) := by
  have hc' := hc
  obtain ⟨_, hn, hr, _, _⟩ := hc'
  have key : ∀ m i, i + m = n → ∀ (ap : Nat → Int64) (ak : Nat → Int32), xw_E n (rt_ps n rl up q E i) ap ak → wX_takePathsFrom_2 post (nI q) (m + 1) (nI i) (nI n) (nI d) ao ar al ah aw sl ab ap ak := by
    intro m
    induction m with
    | zero =>
      intro i hi ap ak hE
      have e : i = n := by omega
      subst e
      exact br_t (xw_le (Nat.le_refl i) (by omega)) (hp ap ak hE)
    | succ m ih =>
      intro i hi ap ak hE
      have hW2 := rt_W_ps hc hq2 hq4 hW i (by omega)
      have e3 : ak (nI i).toNatClampNeg = nI ((rt_ps n rl up q E i).2 i) := by rw [xw_c8 (by omega)]; exact (hE i (by omega)).2
      have hk4 := (hW2 i (by omega)).2.2.1
      have hnx := ih (i + 1) (by omega)
      rw [rt_ps] at hnx
      have go : ((rt_ps n rl up q E i).2 i = 0 ∨ (rt_ps n rl up q E i).2 i = q) → wX_takePathsFrom_29 post (wX_takePathsFrom_2 post (nI q) (m + 1)) (nI q) (nI i) (nI n) (nI d) ao ar al ah aw sl ab ap ak := by
        intro hz
        rw [if_pos hz] at hnx
        unfold wX_takePathsFrom_29
        refine xw_takeShortest hA hn hr hE hW2 hq4 (by omega) (fun ap' ak' hE' => ?_)
        exact nm_r (nI_1 i) (hnx ap' ak' hE')
      refine br_f (xw_ge (by omega) (by omega)) ⟨xw_i8 (by omega), ?_⟩
      by_cases h0 : (rt_ps n rl up q E i).2 i = 0
      · exact br_t (by rw [e3, h0]; rfl) (go (Or.inl h0))
      · refine br_f (by rw [e3]; exact xw_ne (b := 0) (by omega) (by decide) h0) ⟨xw_i8 (by omega), ?_⟩
        by_cases h1 : (rt_ps n rl up q E i).2 i = q
        · exact br_t (by rw [e3, h1]) (go (Or.inr h1))
        · refine br_f (by rw [e3]; exact xw_ne (by omega) (by omega) h1) (nm_r (nI_1 i) ?_)
          rw [if_neg (by omega)] at hnx
          exact hnx ap ak hE
  exact ⟨n + 1, key n 0 (by omega) ap ak hE⟩
theorem xw_findExpected (hA : xw_A rl up og H Q ao ar al ah aw sl) (hc : rt_cf n rl up) (ap : Nat → Int64) (ak : Nat → Int32) {post : St2 → Prop}
    (hp : ∀ ap' ak', xw_E n (rt_fd n rl up og 1) ap' ak' → post (nI n, nI d, ao, ar, al, ah, aw, sl, ab, ap', ak')) : wpX_findExpectedPaths post (nI n, nI d, ao, ar, al, ah, aw, sl, ab, ap, ak) := by
  have hc' := hc
  obtain ⟨_, hn, hr, _, _⟩ := hc'
  have hW2 := rt_W_rs (up := up) hc (q := 2) (by decide) (by decide) (rt_W_0 (n := n) (rl := rl) og)
  have hW3 := rt_W_rs (up := up) hc (q := 3) (by decide) (by decide) (hW2 n)
  have hW4 := rt_W_rs (up := up) hc (q := 4) (by decide) (by decide) (hW3 1)
  have ph4 : ∀ m i, i + m = n → ∀ (ap : Nat → Int64) (ak : Nat → Int32), xw_E n (rt_rs n rl up 4 (rt_rs n rl up 3 (rt_rs n rl up 2 (rt_E0 og) n) 1) i) ap ak → wX_findExpectedPaths_88 post (m + 1) (nI i) (nI n) (nI d) ao ar al ah aw sl ab ap ak := by
    intro m
    induction m with
    | zero =>
      intro i hi ap ak hE
      have e : i = n := by omega
      subst e
      exact br_t (xw_le (Nat.le_refl i) (by omega)) (hp ap ak hE)
    | succ m ih =>
      intro i hi ap ak hE
      refine br_f (xw_ge (by omega) (by omega)) ?_
      refine xw_takePathsFrom (q := 4) hA hc hE (hW4 i) (by decide) (by decide) (fun ap' ak' hE' => ?_)
      exact nm_r (nI_1 i) (ih (i + 1) (by omega) ap' ak' hE')
  have ph2 : ∀ m i, i + m = n → ∀ (ap : Nat → Int64) (ak : Nat → Int32), xw_E n (rt_rs n rl up 2 (rt_E0 og) i) ap ak → wX_findExpectedPaths_62 post (m + 1) (nI i) (nI n) (nI d) ao ar al ah aw sl ab ap ak := by
    intro m
    induction m with
    | zero =>
      intro i hi ap ak hE
      have e : i = n := by omega
      subst e
      refine br_t (xw_le (Nat.le_refl i) (by omega)) ?_
      refine xw_takePathsFrom (q := 3) hA hc hE (hW2 i) (by decide) (by decide) (fun ap' ak' hE' => ?_)
      exact ⟨i + 1, ph4 i 0 (by omega) ap' ak' hE'⟩
    | succ m ih =>
      intro i hi ap ak hE
      refine br_f (xw_ge (by omega) (by omega)) ?_
      refine xw_takePathsFrom (q := 2) hA hc hE (hW2 i) (by decide) (by decide) (fun ap' ak' hE' => ?_)
      exact nm_r (nI_1 i) (ih (i + 1) (by omega) ap' ak' hE')
  have ph0 : ∀ m i, i + m = n → ∀ (ap : Nat → Int64) (ak : Nat → Int32), (∀ v, v < i → ap v = xw_lc ((rt_E0 og).1 v) ∧ ak v = nI ((rt_E0 og).2 v)) → wX_findExpectedPaths_2 post (nI n) (nI d) (m + 1) (nI i) ao ar al ah aw sl ab ap ak := by
    intro m
    induction m with
    | zero =>
      intro i hi ap ak hE
      have e : i = n := by omega
      subst e
      exact br_t (xw_le (Nat.le_refl i) (by omega)) ⟨i + 1, ph2 i 0 (by omega) ap ak hE⟩
    | succ m ih =>
      intro i hi ap ak hE
      have e1 : ao (nI i).toNatClampNeg = xw_b (og i) := by rw [xw_c8 (by omega)]; exact hA.1 i (by omega)
      have stp : ∀ (y : Int64) (z : Int32), y = xw_lc ((rt_E0 og).1 i) → z = nI ((rt_E0 og).2 i) → ∀ v, v < i + 1 → vp_updL ap i y v = xw_lc ((rt_E0 og).1 v) ∧ upd ak i z v = nI ((rt_E0 og).2 v) := by
        intro y z hy hz v hv
        by_cases e : v = i
        · subst e
          rw [pk_uLs, pk_us]
          exact ⟨hy, hz⟩
        · rw [pk_uLn e, pk_un e]
          exact hE v (by omega)
      refine br_f (xw_ge (by omega) (by omega)) ⟨xw_i8 (by omega), ?_⟩
      by_cases ho : og i = true
      · have k1 : (rt_E0 og).1 i = [i] := if_pos ho
        have k2 : (rt_E0 og).2 i = 1 := if_pos ho
        refine br_f (by rw [e1]; exact xw_b_ne ho) ⟨xw_i8 (by omega), ?_⟩
        refine nm_r (e' := vp_updL ap i (xw_lc [i])) (by rw [xw_c8 (by omega)]; exact congrArg (vp_updL ap i) (xw_pre i (by omega) [])) ⟨xw_i8 (by omega), ?_⟩
        refine br_f (by rw [e1]; exact xw_b_ne ho) ⟨xw_i8 (by omega), nm_r (e' := upd ak i 1) (by rw [xw_c8 (by omega)]) (nm_r (nI_1 i) ?_)⟩
        exact ih (i + 1) (by omega) _ _ (stp _ _ (by rw [k1]) (by rw [k2]; rfl))
      · have k1 : (rt_E0 og).1 i = [] := if_neg ho
        have k2 : (rt_E0 og).2 i = 0 := if_neg ho
        refine br_t (by rw [e1]; exact xw_bn ho) ⟨xw_i8 (by omega), ?_⟩
        refine nm_r (e' := vp_updL ap i (xw_lc [])) (by rw [xw_c8 (by omega)]; rfl) ⟨xw_i8 (by omega), ?_⟩
        refine br_t (by rw [e1]; exact xw_bn ho) ⟨xw_i8 (by omega), nm_r (e' := upd ak i 0) (by rw [xw_c8 (by omega)]) (nm_r (nI_1 i) ?_)⟩
        exact ih (i + 1) (by omega) _ _ (stp _ _ (by rw [k1]) (by rw [k2]; rfl))
  exact ⟨n + 1, ph0 n 0 (by omega) ap ak (fun v hv => absurd hv (Nat.not_lt_zero v))⟩
end
