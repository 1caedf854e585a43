/-! the reference: who is reached -/
section
variable {n d : Nat} {rl : Nat → Nat → Nat} {up : Nat → Nat → Bool} {og : Nat → Bool} {H : rt_HT} {Q : rt_QT} {ao ar al : Nat → Int32} {ah : Nat → Int64} {aw : Nat → Int32} {sl ac ab : Nat → Int64} {ak : Nat → Int32}
theorem yw_reaches (hA : xw_A rl up og (rt_tr H) Q ao ar al ah aw sl) (hc : rt_cf n rl up) {a t : Nat} (hl : a < n) (ht : t < n) {post : Int32 → Prop}
    (h1 : rt_R rl a t → post 1) (h0 : ¬ rt_R rl a t → post 0) : wpY_reaches post (nI n, nI d, ao, ar, al, ah, aw, sl, ac, ak, ab) (nI a) (nI t) := by
  obtain ⟨_, hn, hr, hup, hac⟩ := hc
  have key : ∀ m i, i + m = n → ∀ M, rt_mk rl a i M → wY_reaches_7 post (nI t) (nI n) (nI d) ao ar al ah aw sl ac ak ab (m + 1) (nI M) (nI i) := by
    intro m
    induction m with
    | zero =>
      intro i hi2 M hM
      have e : i = n := by omega
      subst e
      refine br_t (xw_le (Nat.le_refl i) (by omega)) ?_
      have hb := xw_bit M hM.1 t (by omega)
      have he := rt_mk_end hac hr hM t
      by_cases z : rt_R rl a t
      · exact br_t (hb.mpr (he.mpr z)) (h1 z)
      · exact br_f (fun y => z (he.mp (hb.mp y))) (h0 z)
    | succ m ih =>
      intro i hi2 M hM
      refine br_f (xw_ge (by omega) (by omega)) ?_
      have rows : ∀ k x, x + k = n → ∀ M', rt_mk rl a i M' → (∀ x' z, x' < x → (∃ j, j ≤ i ∧ rt_rc rl j a x') → rl x' z = 2 → M'.testBit z = true) →
          wY_reaches_19 post (wY_reaches_7 post (nI t) (nI n) (nI d) ao ar al ah aw sl ac ak ab (m + 1)) (nI t) (nI i) (nI n) (nI d) ao ar al ah aw sl ac ak ab (k + 1) (nI M') (nI x) := by
        intro k
        induction k with
        | zero =>
          intro x hx M' hM' hc1
          have e : x = n := by omega
          subst e
          refine br_t (xw_le (Nat.le_refl x) (by omega)) (nm_r (nI_1 i) (ih (i + 1) (by omega) M' ⟨hM'.1, hM'.2.1, fun j y hj hrc => ?_⟩))
          by_cases hj2 : j ≤ i
          · exact hM'.2.2 j y hj2 hrc
          · have e : j = i + 1 := by omega
            subst e
            obtain ⟨b, h3, h4⟩ := rt_rc_split i a y hrc
            exact hc1 b y (rt_rl_op hr (a := b) (b := y) (by omega)).1 ⟨i, Nat.le_refl i, h3⟩ h4
        | succ k ihk =>
          intro x hx M' hM' hc1
          refine br_f (xw_ge (by omega) (by omega)) ?_
          have cells : ∀ l y, y + l = n → ∀ M2, rt_mk rl a i M2 → (∀ x' z, (x' < x ∨ (x' = x ∧ z < y)) → (∃ j, j ≤ i ∧ rt_rc rl j a x') → rl x' z = 2 → M2.testBit z = true) →
              wY_reaches_31 post (wY_reaches_7 post (nI t) (nI n) (nI d) ao ar al ah aw sl ac ak ab (m + 1)) (wY_reaches_19 post (wY_reaches_7 post (nI t) (nI n) (nI d) ao ar al ah aw sl ac ak ab (m + 1)) (nI t) (nI i) (nI n) (nI d) ao ar al ah aw sl ac ak ab (k + 1)) (nI t) (nI i) (nI x) (nI n) (nI d) ao ar al ah aw sl ac ak ab (l + 1) (nI M2) (nI y) := by
            intro l
            induction l with
            | zero =>
              intro y hy M2 hM2 hc2
              have e : y = n := by omega
              subst e
              refine br_t (xw_le (Nat.le_refl y) (by omega)) (nm_r (nI_1 x) (ihk (x + 1) (by omega) M2 hM2 (fun x' z hx' hj h2 => ?_)))
              by_cases e : x' = x
              · exact hc2 x' z (Or.inr ⟨e, (rt_rl_op hr (a := x') (b := z) (by omega)).2.1⟩) hj h2
              · exact hc2 x' z (Or.inl (by omega)) hj h2
            | succ l ihl =>
              intro y hy M2 hM2 hc2
              refine br_f (xw_ge (by omega) (by omega)) ?_
              have hle := rt_rl_le hr x y
              have skip : ¬ (M2.testBit x = true ∧ rl x y = 2) → wY_reaches_31 post (wY_reaches_7 post (nI t) (nI n) (nI d) ao ar al ah aw sl ac ak ab (m + 1)) (wY_reaches_19 post (wY_reaches_7 post (nI t) (nI n) (nI d) ao ar al ah aw sl ac ak ab (m + 1)) (nI t) (nI i) (nI n) (nI d) ao ar al ah aw sl ac ak ab (k + 1)) (nI t) (nI i) (nI x) (nI n) (nI d) ao ar al ah aw sl ac ak ab (l + 1) (nI M2) (nI (y + 1)) := by
                intro hno
                refine ihl (y + 1) (by omega) M2 hM2 (fun x' z hx' hj h2 => ?_)
                by_cases e : x' = x ∧ z = y
                · obtain ⟨rfl, rfl⟩ := e
                  obtain ⟨j, hj1, hj2⟩ := hj
                  exact absurd ⟨hM2.2.2 j x' hj1 hj2, h2⟩ hno
                · exact hc2 x' z (by omega) hj h2
              by_cases hg : M2.testBit x = true
              · refine br_t ((xw_bit M2 hM2.1 x (by omega)).mpr hg) ⟨xw_in (by omega) (by omega), ?_⟩
                have e2 : ar (nI x * 8 + nI y).toNatClampNeg = nI (rl x y) := by rw [xw_cl (by omega) (by omega)]; exact hA.2.1 x y (by omega) (by omega)
                by_cases h2 : rl x y = 2
                · refine br_t (by rw [e2, h2]; rfl) (nm_r (xw_set (by omega)) (nm_r (nI_1 y) (ihl (y + 1) (by omega) _ ⟨xw_or_lt hM2.1 (xw_pw y (by omega)), fun z hz => ?_, fun j z hj hrc => ?_⟩ (fun x' z hx' hj h3 => ?_))))
                  · rcases (xw_tb M2 y z).mp hz with h | h
                    · exact hM2.2.1 z h
                    · rw [h]
                      exact rt_R_snoc (hM2.2.1 x hg) h2
                  · exact (xw_tb M2 y z).mpr (Or.inl (hM2.2.2 j z hj hrc))
                  · by_cases e : z = y
                    · exact (xw_tb M2 y z).mpr (Or.inr e)
                    · exact (xw_tb M2 y z).mpr (Or.inl (hc2 x' z (by omega) hj h3))
                · exact br_f (by rw [e2]; exact xw_ne (b := 2) (by omega) (by decide) h2) (nm_r (nI_1 y) (skip (fun z => h2 z.2)))
              · exact br_f (fun z => hg ((xw_bit M2 hM2.1 x (by omega)).mp z)) (nm_r (nI_1 y) (skip (fun z => hg z.1)))
          exact ⟨n + 1, cells n 0 (by omega) M' hM' (fun x' z hx' hj h2 => hc1 x' z (by omega) hj h2)⟩
      exact ⟨n + 1, rows n 0 (by omega) M hM (fun x' z hx' => absurd hx' (Nat.not_lt_zero _))⟩
  unfold wpY_reaches
  exact nm_r (xw_one a (by omega)) ⟨n + 1, key n 0 (by omega) _ (rt_mk_0 rl (by omega))⟩
theorem yw_forward (hA : xw_A rl up og (rt_tr H) Q ao ar al ah aw sl) (hc : rt_cf n rl up) (hgd : rt_gd n up H) {v : Nat} (hv : v < n) {post : Int32 → Prop}
    (hp : post (rt_fy (rt_ch n rl og H) (n + 1) 0 v [])) : ∃ f, wY_forward_17 post (nI n) (nI d) ao ar al ah aw sl ac ak ab f 0 (nI v) 0 := by
  have hn := hc.2.1
  have key : ∀ m i w M S, i + m = n + 1 → w < n → M < 256 → (∀ y, M.testBit y = true ↔ y ∈ S) → post (rt_fy (rt_ch n rl og H) m i w S) → wY_forward_17 post (nI n) (nI d) ao ar al ah aw sl ac ak ab (m + 1) (nI M) (nI w) (nI i) := by
    intro m
    induction m with
    | zero =>
      intro i w M S hi hw hM hS hp
      have e : i = n + 1 := by omega
      subst e
      exact br_t (nI_lt (by omega) (by omega)) hp
    | succ m ih =>
      intro i w M S hi hw hM hS hp
      refine br_f (nI_nlt (by omega) (by omega)) ?_
      rw [rt_fy] at hp
      by_cases hin : w ∈ S
      · rw [if_pos hin] at hp
        exact br_t ((xw_bit M hM w (by omega)).mpr ((hS w).mpr hin)) hp
      · rw [if_neg hin] at hp
        refine br_f (fun z => hin ((hS w).mp ((xw_bit M hM w (by omega)).mp z))) (nm_r (xw_set (by omega)) ?_)
        refine yw_choose hA hc hgd hw ⟨by decide, ?_⟩
        have hd := yw_kd (og := og) hc hgd hw
        rw [hd]
        have hkd : rt_kd n rl og H w = rt_kvia rl w (rt_ch n rl og H w) := rfl
        rcases yw_rk_p (og := og) hc hgd hw with ⟨h1, h2⟩ | ⟨h1, h2⟩ | ⟨u, hu, hne, h1, h2, h3, h4, h5⟩
        · rw [h1] at hp
          rw [h2, hkd, h1]
          exact br_f (show ¬ nI 0 = 1 by decide) (br_t rfl hp)
        · rw [h1] at hp
          dsimp only at hp
          rw [if_pos rfl] at hp
          rw [hkd, h1]
          exact br_t (congrArg nI (if_pos rfl)) hp
        · rw [h1] at hp
          dsimp only at hp
          rw [if_neg hne] at hp
          have hk : rt_kvia rl w (some u) = rl w u := if_neg hne
          have hle := rt_rl_le hc.2.2.1 w u
          refine br_f (by rw [hkd, h1, hk]; exact xw_ne (b := 1) (by omega) (by decide) (by omega)) ?_
          refine br_f (xw_ne (b := 0) (by omega) (by decide) (by omega)) ⟨by decide, ?_⟩
          have em : nI (yw_rk rl H w (rt_ch n rl og H w)) - nI (yw_rk rl H w (rt_ch n rl og H w)) / 16 * 16 = nI u := by
            have := pk_rem (a := yw_rk rl H w (rt_ch n rl og H w)) (d := 16) (by omega) (by decide) (by decide)
            rw [h3] at this
            exact this
          refine nm_r em (nm_r (nI_1 i) (ih (i + 1) u _ (w :: S) (by omega) hu (xw_or_lt hM (xw_pw w (by omega))) (fun y => ?_) hp))
          rw [xw_tb, hS y, List.mem_cons]
          exact ⟨fun h => h.symm, fun h => h.symm⟩
  refine ⟨n + 2, key (n + 1) 0 v 0 [] (by omega) hv (by decide) (fun y => ⟨fun h => ?_, fun h => absurd h List.not_mem_nil⟩) hp⟩
  rw [Nat.zero_testBit] at h
  cases h
end
/-! the reference's expected paths -/
def yw_er (P : Nat → List Nat) : Option Nat → Nat
  | none => 0
  | some u => (P u).length * 16 + u
section
variable {n d : Nat} {rl : Nat → Nat → Nat} {up : Nat → Nat → Bool} {og : Nat → Bool} {H : rt_HT} {Q : rt_QT} {ao ar al : Nat → Int32} {ah : Nat → Int64} {aw : Nat → Int32} {sl ab : Nat → Int64}
theorem yw_extend_go (hA : xw_A rl up og (rt_tr H) Q ao ar al ah aw sl) (hn : n ≤ 8) (hr : rt_rl n rl) {E : rt_ET} {ac : Nat → Int64} {ak : Nat → Int32} (hE : xw_E n E ac ak) (hW : rt_W n rl E) {q v : Nat} (hq : q ≤ 4) (hv : v < n) {post : SY → Prop}
    (hp : ∀ ac' ak', xw_E n (rt_tk n rl up q v E) ac' ak' → post (nI n, nI d, ao, ar, al, ah, aw, sl, ac', ak', ab)) : ∃ f, wY_extend_25 post (nI v) (nI q) (nI n) (nI d) ao ar al ah aw sl ac ak ab f 0 0 := by
  have key : ∀ m i, i + m = n → wY_extend_25 post (nI v) (nI q) (nI n) (nI d) ao ar al ah aw sl ac ak ab (m + 1) (nI (yw_er E.1 (rt_mn (fun u => decide (rt_of rl up E.2 q v u)) (fun u => (E.1 u).length) i))) (nI i) := by
    intro m
    induction m with
    | zero =>
      intro i hi
      have e : i = n := by omega
      subst e
      refine br_t (xw_le (Nat.le_refl i) (by omega)) ?_
      unfold rt_tk rt_bs at hp
      cases hs : rt_mn (fun u => decide (rt_of rl up E.2 q v u)) (fun u => (E.1 u).length) i with
      | none =>
        rw [hs] at hp
        exact br_t rfl (hp ac ak hE)
      | some b =>
        rw [hs] at hp
        have hbb := (rt_mn_spec _ _ i).1 b hs
        have hb := hbb.1
        have hbo : rt_of rl up E.2 q v b := of_decide_eq_true hbb.2.1
        have hne : E.1 b ≠ [] := fun z => hbo.2.2.1 ((hW b hb).2.1.mpr z)
        have hlp : 0 < (E.1 b).length := List.length_pos_iff.mpr hne
        have hlen := rt_len (hW b hb).1
        have er : yw_er E.1 (some b) = (E.1 b).length * 16 + b := rfl
        refine br_f (xw_ne (b := 0) (by omega) (by decide) (by omega)) ⟨by decide, ?_⟩
        have em : nI (yw_er E.1 (some b)) - nI (yw_er E.1 (some b)) / 16 * 16 = nI b := by
          have := pk_rem (a := yw_er E.1 (some b)) (d := 16) (by omega) (by decide) (by decide)
          rw [show yw_er E.1 (some b) % 16 = b by omega] at this
          exact this
        rw [em]
        have e1 : ac (nI b).toNatClampNeg = xw_lc (E.1 b) := by rw [xw_c8 (by omega)]; exact (hE b hb).1
        refine ⟨xw_i8 (by omega), xw_i8 (by omega), nm_r (e' := vp_updL ac v (xw_lc (v :: E.1 b))) ?_ ⟨xw_i8 (by omega), nm_r (e' := upd ak v (nI q)) (by rw [xw_c8 (by omega)]) ?_⟩⟩
        · rw [e1, xw_pre2 v (by omega), xw_c8 (by omega)]
        · exact hp _ _ (xw_E_u hE v _ q rfl rfl)
    | succ m ih =>
      intro i hi
      have hnx := ih (i + 1) (by omega)
      rw [rt_mn_s] at hnx
      have e1 : al (nI v * 8 + nI i).toNatClampNeg = xw_b (up v i) := by rw [xw_cl (by omega) (by omega)]; exact hA.2.2.1 v i (by omega) (by omega)
      have e2 : ar (nI v * 8 + nI i).toNatClampNeg = nI (rl v i) := by rw [xw_cl (by omega) (by omega)]; exact hA.2.1 v i (by omega) (by omega)
      have e3 : ac (nI i).toNatClampNeg = xw_lc (E.1 i) := by rw [xw_c8 (by omega)]; exact (hE i (by omega)).1
      have e4 : ak (nI i).toNatClampNeg = nI (E.2 i) := by rw [xw_c8 (by omega)]; exact (hE i (by omega)).2
      obtain ⟨w1, w2, w3, _⟩ := hW i (by omega)
      have hle := rt_rl_le hr v i
      have skip : ¬ rt_of rl up E.2 q v i → wY_extend_25 post (nI v) (nI q) (nI n) (nI d) ao ar al ah aw sl ac ak ab (m + 1) (nI (yw_er E.1 (rt_mn (fun u => decide (rt_of rl up E.2 q v u)) (fun u => (E.1 u).length) i))) (nI (i + 1)) := by
        intro hno
        rw [if_neg (by rw [decide_eq_false hno]; decide)] at hnx
        exact hnx
      have take : rt_of rl up E.2 q v i → wY_extend_105 post (wY_extend_25 post (nI v) (nI q) (nI n) (nI d) ao ar al ah aw sl ac ak ab (m + 1)) (nI v) (nI q) (nI (yw_er E.1 (rt_mn (fun u => decide (rt_of rl up E.2 q v u)) (fun u => (E.1 u).length) i))) (nI i) (nI n) (nI d) ao ar al ah aw sl ac ak ab := by
        intro hyes
        rw [if_pos (decide_eq_true hyes)] at hnx
        have hne : E.1 i ≠ [] := fun z => hyes.2.2.1 (w2.mpr z)
        have hlp : 0 < (E.1 i).length := List.length_pos_iff.mpr hne
        have hlen := rt_len w1
        refine ⟨xw_i8 (by omega), ?_⟩
        rw [e3]
        refine yw_len hn w1 (nm_r (e' := nI (yw_er E.1 (some i))) ?_ ?_)
        · rw [show nI (E.1 i).length * 16 = nI ((E.1 i).length * 16) from pk_mul _ 16, nI_add]
          rfl
        · have ei : yw_er E.1 (some i) = (E.1 i).length * 16 + i := rfl
          cases hs : rt_mn (fun u => decide (rt_of rl up E.2 q v u)) (fun u => (E.1 u).length) i with
          | none =>
            rw [hs] at hnx
            exact br_t rfl (nm_r (nI_1 i) hnx)
          | some w =>
            rw [hs] at hnx
            dsimp only at hnx
            have hbb := (rt_mn_spec _ _ i).1 w hs
            have hw := hbb.1
            have hwo : rt_of rl up E.2 q v w := of_decide_eq_true hbb.2.1
            have hne2 : E.1 w ≠ [] := fun z => hwo.2.2.1 ((hW w (by omega)).2.1.mpr z)
            have hlp2 : 0 < (E.1 w).length := List.length_pos_iff.mpr hne2
            have hlen2 := rt_len (hW w (by omega)).1
            have ew : yw_er E.1 (some w) = (E.1 w).length * 16 + w := rfl
            refine br_f (xw_ne (b := 0) (by omega) (by decide) (by omega)) ?_
            by_cases hlt : (E.1 i).length < (E.1 w).length
            · rw [if_pos hlt] at hnx
              exact br_f (xw_ge (by omega) (by omega)) (nm_r (nI_1 i) hnx)
            · rw [if_neg hlt] at hnx
              exact br_t (xw_le (by omega) (by omega)) (nm_r (nI_1 i) hnx)
      refine br_f (xw_ge (by omega) (by omega)) ⟨xw_in (by omega) (by omega), ?_⟩
      by_cases h1 : up v i = true
      · refine br_f (by rw [e1]; exact xw_b_ne h1) ⟨xw_in (by omega) (by omega), ?_⟩
        by_cases h2 : rl v i = q
        · refine br_t (by rw [e2, h2]) ⟨xw_i8 (by omega), ?_⟩
          by_cases h3 : E.1 i = []
          · refine br_t (by rw [e3]; exact (xw_lc_0 hn w1).mpr h3) (br_t rfl (nm_r (nI_1 i) (skip (fun z => z.2.2.1 (w2.mpr h3)))))
          · refine br_f (by rw [e3]; exact fun z => h3 ((xw_lc_0 hn w1).mp z)) (br_f xw_10 ?_)
            have h30 : E.2 i ≠ 0 := fun z => h3 (w2.mp z)
            by_cases h4 : q = 4
            · exact br_t (by rw [h4]; rfl) (take ⟨h1, h2, h30, Or.inl h4⟩)
            · refine br_f (xw_ne (b := 4) (by omega) (by decide) h4) ⟨xw_i8 (by omega), ?_⟩
              by_cases h5 : E.2 i ≤ 2
              · exact br_f (by rw [e4]; exact nI_nlt (a := 2) h5 (by decide)) (take ⟨h1, h2, h30, by omega⟩)
              · exact br_t (by rw [e4]; exact nI_lt (a := 2) (by omega) (by omega)) (nm_r (nI_1 i) (skip (fun z => by have := z.2.2.2; omega)))
        · exact br_f (by rw [e2]; exact xw_ne (by omega) (by omega) h2) (br_t rfl (nm_r (nI_1 i) (skip (fun z => h2 z.2.1))))
      · exact br_t (by rw [e1]; exact xw_bn h1) (br_t rfl (nm_r (nI_1 i) (skip (fun z => h1 z.1))))
  exact ⟨n + 1, key n 0 (by omega)⟩
theorem yw_extend (hA : xw_A rl up og (rt_tr H) Q ao ar al ah aw sl) (hn : n ≤ 8) (hr : rt_rl n rl) {E : rt_ET} {ac : Nat → Int64} {ak : Nat → Int32} (hE : xw_E n E ac ak) (hW : rt_W n rl E) {q v : Nat} (hq : q ≤ 4) (hv : v < n) {post : SY → Prop}
    (hp : ∀ ac' ak', xw_E n (if E.2 v = 0 ∨ E.2 v = q then rt_tk n rl up q v E else E) ac' ak' → post (nI n, nI d, ao, ar, al, ah, aw, sl, ac', ak', ab)) : wpY_extend post (nI n, nI d, ao, ar, al, ah, aw, sl, ac, ak, ab) (nI v) (nI q) := by
  have e4 : ak (nI v).toNatClampNeg = nI (E.2 v) := by rw [xw_c8 (by omega)]; exact (hE v hv).2
  have hk4 := (hW v hv).2.2.1
  refine ⟨xw_i8 (by omega), ?_⟩
  by_cases h0 : E.2 v = 0
  · rw [if_pos (Or.inl h0)] at hp
    exact br_t (by rw [e4, h0]; rfl) (yw_extend_go hA hn hr hE hW hq hv hp)
  · refine br_f (by rw [e4]; exact xw_ne (b := 0) (by omega) (by decide) h0) ⟨xw_i8 (by omega), ?_⟩
    by_cases h1 : E.2 v = q
    · rw [if_pos (Or.inr h1)] at hp
      exact br_t (by rw [e4, h1]) (yw_extend_go hA hn hr hE hW hq hv hp)
    · rw [if_neg (by omega)] at hp
      exact br_f (by rw [e4]; exact xw_ne (by omega) (by omega) h1) (hp ac ak hE)
end
def rt_kq (n : Nat) (rl : Nat → Nat → Nat) (up : Nat → Nat → Bool) (og : Nat → Bool) : Nat → rt_ET
  | 0 => rt_E0 og
  | k + 1 => rt_rs n rl up (k + 2) (rt_kq n rl up og k) n
theorem rt_kq_3 (n : Nat) (rl : Nat → Nat → Nat) (up : Nat → Nat → Bool) (og : Nat → Bool) : rt_kq n rl up og 3 = rt_fd n rl up og n := rfl
theorem rt_kq_W {n : Nat} {rl : Nat → Nat → Nat} {up : Nat → Nat → Bool} (hc : rt_cf n rl up) (og : Nat → Bool) : ∀ k, k ≤ 3 → rt_W n rl (rt_kq n rl up og k) := by
  intro k
  induction k with
  | zero => intro _; exact rt_W_0 og
  | succ k ih => intro hk; exact rt_W_rs hc (by omega) (by omega) (ih (by omega)) n
section
variable {n d : Nat} {rl : Nat → Nat → Nat} {up : Nat → Nat → Bool} {og : Nat → Bool} {H : rt_HT} {Q : rt_QT} {ao ar al : Nat → Int32} {ah : Nat → Int64} {aw : Nat → Int32} {sl ab : Nat → Int64}
theorem yw_compute (hA : xw_A rl up og (rt_tr H) Q ao ar al ah aw sl) (hc : rt_cf n rl up) (ac : Nat → Int64) (ak : Nat → Int32) {post : SY → Prop}
    (hp : ∀ ac' ak', xw_E n (rt_fd n rl up og n) ac' ak' → post (nI n, nI d, ao, ar, al, ah, aw, sl, ac', ak', ab)) : wpY_computeExpected post (nI n, nI d, ao, ar, al, ah, aw, sl, ac, ak, ab) := by
  have hc' := hc
  obtain ⟨_, hn, hr, _, _⟩ := hc'
  have kinds : ∀ m k, k + m = 3 → ∀ (ac : Nat → Int64) (ak : Nat → Int32), xw_E n (rt_kq n rl up og k) ac ak → wY_computeExpected_61 post (m + 1) (nI (k + 2)) (nI n) (nI d) ao ar al ah aw sl ac ak ab := by
    intro m
    induction m with
    | zero =>
      intro k hk ac ak hE
      have e : k = 3 := by omega
      subst e
      rw [rt_kq_3] at hE
      exact br_t (nI_lt (a := 4) (b := 5) (by decide) (by decide)) (hp ac ak hE)
    | succ m ih =>
      intro k hk ac ak hE
      refine br_f (nI_nlt (a := 4) (by omega) (by decide)) ?_
      have hWk := rt_kq_W hc og k (by omega)
      have rounds : ∀ l i, i + l = n → ∀ (ac : Nat → Int64) (ak : Nat → Int32), xw_E n (rt_rs n rl up (k + 2) (rt_kq n rl up og k) i) ac ak → wY_computeExpected_68 post (wY_computeExpected_61 post (m + 1)) (nI (k + 2)) (l + 1) (nI i) (nI n) (nI d) ao ar al ah aw sl ac ak ab := by
        intro l
        induction l with
        | zero =>
          intro i hi ac ak hE
          have e : i = n := by omega
          subst e
          exact br_t (xw_le (Nat.le_refl i) (by omega)) (nm_r (nI_1 (k + 2)) (ih (k + 1) (by omega) ac ak hE))
        | succ l ihl =>
          intro i hi ac ak hE
          refine br_f (xw_ge (by omega) (by omega)) ?_
          have hWi := rt_W_rs (up := up) hc (q := k + 2) (by omega) (by omega) hWk i
          have nodes : ∀ p j, j + p = n → ∀ (ac : Nat → Int64) (ak : Nat → Int32), xw_E n (rt_ps n rl up (k + 2) (rt_rs n rl up (k + 2) (rt_kq n rl up og k) i) j) ac ak →
              wY_computeExpected_78 post (wY_computeExpected_61 post (m + 1)) (wY_computeExpected_68 post (wY_computeExpected_61 post (m + 1)) (nI (k + 2)) (l + 1)) (nI (k + 2)) (nI i) (p + 1) (nI j) (nI n) (nI d) ao ar al ah aw sl ac ak ab := by
            intro p
            induction p with
            | zero =>
              intro j hj ac ak hE
              have e : j = n := by omega
              subst e
              exact br_t (xw_le (Nat.le_refl j) (by omega)) (nm_r (nI_1 i) (ihl (i + 1) (by omega) ac ak hE))
            | succ p ihp =>
              intro j hj ac ak hE
              refine br_f (xw_ge (by omega) (by omega)) ?_
              refine yw_extend hA hn hr hE (rt_W_ps hc (by omega) (by omega) hWi j (by omega)) (by omega) (by omega) (fun ac' ak' hE' => ?_)
              exact nm_r (nI_1 j) (ihp (j + 1) (by omega) ac' ak' hE')
          exact ⟨n + 1, nodes n 0 (by omega) ac ak hE⟩
      exact ⟨n + 1, rounds n 0 (by omega) ac ak hE⟩
  have ph0 : ∀ m i, i + m = n → ∀ (ac : Nat → Int64) (ak : Nat → Int32), (∀ v, v < i → ac v = xw_lc ((rt_E0 og).1 v) ∧ ak v = nI ((rt_E0 og).2 v)) → wY_computeExpected_2 post (nI n) (nI d) (m + 1) (nI i) ao ar al ah aw sl ac ak ab := by
    intro m
    induction m with
    | zero =>
      intro i hi ac ak hE
      have e : i = n := by omega
      subst e
      exact br_t (xw_le (Nat.le_refl i) (by omega)) ⟨4, kinds 3 0 rfl ac ak hE⟩
    | succ m ih =>
      intro i hi ac ak hE
      have e1 : ao (nI i).toNatClampNeg = xw_b (og i) := by rw [xw_c8 (by omega)]; exact hA.1 i (by omega)
      have stp : ∀ (y : Int64) (z : Int32), y = xw_lc ((rt_E0 og).1 i) → z = nI ((rt_E0 og).2 i) → ∀ v, v < i + 1 → vp_updL ac i y v = xw_lc ((rt_E0 og).1 v) ∧ upd ak i z v = nI ((rt_E0 og).2 v) := by
        intro y z hy hz v hv
        by_cases e : v = i
        · subst e
          rw [pk_uLs, pk_us]
          exact ⟨hy, hz⟩
        · rw [pk_uLn e, pk_un e]
          exact hE v (by omega)
      refine br_f (xw_ge (by omega) (by omega)) ⟨xw_i8 (by omega), ?_⟩
      by_cases ho : og i = true
      · have k1 : (rt_E0 og).1 i = [i] := if_pos ho
        have k2 : (rt_E0 og).2 i = 1 := if_pos ho
        have e5 : (nI i + 1).toInt64 = xw_lc [i] := by
          rw [xw_lv (by omega)]
          show lN (i + 1) = lN (0 * 16 + (i + 1))
          rw [Nat.zero_mul, Nat.zero_add]
        refine br_f (by rw [e1]; exact xw_b_ne ho) ⟨xw_i8 (by omega), ?_⟩
        refine nm_r (e' := vp_updL ac i (xw_lc [i])) (by rw [xw_c8 (by omega), e5]) ⟨xw_i8 (by omega), ?_⟩
        refine br_f (by rw [e1]; exact xw_b_ne ho) ⟨xw_i8 (by omega), nm_r (e' := upd ak i 1) (by rw [xw_c8 (by omega)]) (nm_r (nI_1 i) ?_)⟩
        exact ih (i + 1) (by omega) _ _ (stp _ _ (by rw [k1]) (by rw [k2]; rfl))
      · have k1 : (rt_E0 og).1 i = [] := if_neg ho
        have k2 : (rt_E0 og).2 i = 0 := if_neg ho
        refine br_t (by rw [e1]; exact xw_bn ho) ⟨xw_i8 (by omega), ?_⟩
        refine nm_r (e' := vp_updL ac i (xw_lc [])) (by rw [xw_c8 (by omega)]; rfl) ⟨xw_i8 (by omega), ?_⟩
        refine br_t (by rw [e1]; exact xw_bn ho) ⟨xw_i8 (by omega), nm_r (e' := upd ak i 0) (by rw [xw_c8 (by omega)]) (nm_r (nI_1 i) ?_)⟩
        exact ih (i + 1) (by omega) _ _ (stp _ _ (by rw [k1]) (by rw [k2]; rfl))
  exact ⟨n + 1, ph0 n 0 (by omega) ac ak (fun v hv => absurd hv (Nat.not_lt_zero v))⟩
end
