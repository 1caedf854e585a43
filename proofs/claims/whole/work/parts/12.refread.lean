/-! the reference's walks that only read -/
def yw_rk (rl : Nat → Nat → Nat) (H : rt_HT) (v : Nat) : Option Nat → Nat
  | none => 0
  | some u => if u = v then 256 + v else (rl v u * 256 + (H u v).length * 16) + u
section
variable {n d : Nat} {rl : Nat → Nat → Nat} {up : Nat → Nat → Bool} {og : Nat → Bool} {H : rt_HT} {Q : rt_QT} {ao ar al : Nat → Int32} {ah : Nat → Int64} {aw : Nat → Int32} {sl ac ab : Nat → Int64} {ak : Nat → Int32}
theorem yw_bad_t {post : Int32 → Prop} {p : Int32} (h : xw_bd n p) (hp : post 1) : wpY_bad post (nI n, nI d, ao, ar, al, ah, aw, sl, ac, ak, ab) p := by
  by_cases z : p < 0
  · exact br_t z hp
  · exact br_f z (br_f (h.resolve_left z) hp)
theorem yw_bad_f {post : Int32 → Prop} {v : Nat} (hn : n ≤ 8) (hv : v < n) (hp : post 0) : wpY_bad post (nI n, nI d, ao, ar, al, ah, aw, sl, ac, ak, ab) (nI v) :=
  br_f (nI_pos (by omega)) (br_t (nI_lt hv (by omega)) hp)
theorem yw_rel_t {post : Int32 → Prop} {p q : Int32} (hn : n ≤ 8) (h : xw_bp n p q) (hp : post (-1)) : wpY_relation post (nI n, nI d, ao, ar, al, ah, aw, sl, ac, ak, ab) p q := by
  unfold wpY_relation
  rcases xw_bd_c hn p with hb | ⟨a, ha, rfl⟩
  · exact yw_bad_t hb (br_f xw_10 hp)
  · refine yw_bad_f hn ha (br_t rfl ?_)
    rcases xw_bd_c hn q with hb | ⟨b, hb, rfl⟩
    · exact yw_bad_t hb (br_f xw_10 hp)
    · refine yw_bad_f hn hb (br_t rfl ?_)
      refine br_t ?_ hp
      rcases h with z | z | z
      · rcases z with z | z
        · exact absurd z (nI_pos (by omega))
        · exact absurd (nI_lt ha (by omega)) z
      · rcases z with z | z
        · exact absurd z (nI_pos (by omega))
        · exact absurd (nI_lt hb (by omega)) z
      · exact z
theorem yw_rel_f (hA : xw_A rl up og (rt_tr H) Q ao ar al ah aw sl) {post : Int32 → Prop} {a b : Nat} (hn : n ≤ 8) (ha : a < n) (hb : b < n) (hne : a ≠ b) (hp : post (nI (rl a b))) : wpY_relation post (nI n, nI d, ao, ar, al, ah, aw, sl, ac, ak, ab) (nI a) (nI b) := by
  unfold wpY_relation
  refine yw_bad_f hn ha (br_t rfl ?_)
  refine yw_bad_f hn hb (br_t rfl ?_)
  refine br_f (xw_ne (by omega) (by omega) hne) ⟨xw_in (by omega) (by omega), ?_⟩
  have e : ar (nI a * 8 + nI b).toNatClampNeg = nI (rl a b) := by rw [xw_cl (by omega) (by omega)]; exact hA.2.1 a b (by omega) (by omega)
  rw [e]
  exact hp
theorem yw_cp_t {post : Int32 → Prop} {p q : Int32} (hn : n ≤ 8) (h : xw_bp n p q) (hp : post (-1)) : wpY_checkPair post (nI n, nI d, ao, ar, al, ah, aw, sl, ac, ak, ab) p q := by
  unfold wpY_checkPair
  exact yw_rel_t hn h (br_t rfl hp)
theorem yw_cp_f (hA : xw_A rl up og (rt_tr H) Q ao ar al ah aw sl) (hr : rt_rl n rl) {post : Int32 → Prop} {a b : Nat} (hn : n ≤ 8) (ha : a < n) (hb : b < n) (hne : a ≠ b) (h0 : rl a b = 0 → post (-2)) (h1 : rl a b ≠ 0 → post 0) : wpY_checkPair post (nI n, nI d, ao, ar, al, ah, aw, sl, ac, ak, ab) (nI a) (nI b) := by
  unfold wpY_checkPair
  have hle := rt_rl_le hr a b
  refine yw_rel_f hA hn ha hb hne (br_f (xw_nm1 (by omega)) ?_)
  by_cases z : rl a b = 0
  · exact br_t (by rw [z]; rfl) (h0 z)
  · exact br_f (xw_ne (b := 0) (by omega) (by decide) z) (h1 z)
theorem yw_place {c t k : Nat} (hc : c < 4294967296) (ht : t < 16) {p : Int32} (hpt : p = nI t) (hk : k ≤ 16) (hno : ∀ j, j < k → ¬ c / 16 ^ j % 16 = t) (hyes : k < 16 → c / 16 ^ k % 16 = t) {post : Int32 → Prop}
    (hp : post (nI k)) : wpY_place post (nI n, nI d, ao, ar, al, ah, aw, sl, ac, ak, ab) (lN c) p := by
  subst hpt
  have key : ∀ m i, i + m = 16 → i ≤ k → wY_place_3 post (lN c) (nI t) (nI n) (nI d) ao ar al ah aw sl ac ak ab (m + 1) (nI i) := by
    intro m
    induction m with
    | zero =>
      intro i hi hik
      have e : i = 16 := by omega
      have e2 : k = 16 := by omega
      subst e
      subst e2
      exact br_t (xw_le (a := 16) (b := 16) (by decide) (by decide)) hp
    | succ m ih =>
      intro i hi hik
      refine br_f (xw_ge (b := 16) (by omega) (by decide)) ?_
      have hiff : (((lN c >>> ((4 * nI i).toInt64 &&& 63)) &&& 15) = (nI t).toInt64) ↔ c / 16 ^ i % 16 = t := by
        rw [xw_dig hc (by omega), nI_l (by omega)]
        have := Nat.mod_lt (c / 16 ^ i) (show 0 < 16 by decide)
        exact lN_eq (by omega) (by omega)
      by_cases e : i = k
      · subst e
        exact br_t (hiff.mpr (hyes (by omega))) hp
      · exact br_f (fun z => hno i (by omega) (hiff.mp z)) (nm_r (nI_1 i) (ih (i + 1) (by omega) (by omega)))
  exact ⟨17, key 16 0 rfl (Nat.zero_le k)⟩
theorem yw_len {l : List Nat} (hn : n ≤ 8) (hl : rt_ok n l) {post : Int32 → Prop} (hp : post (nI l.length)) : wpY_place post (nI n, nI d, ao, ar, al, ah, aw, sl, ac, ak, ab) (xw_lc l) 0 := by
  have hlen := rt_len hl
  refine yw_place (rt_enc_ok hn hl) (t := 0) (k := l.length) (by decide) rfl (by omega) (fun j hj z => ?_) (fun _ => ?_) hp
  · have e : l[j]? = some l[j] := List.getElem?_eq_getElem hj
    have := (rt_enc_dig hn hl j l[j]).mpr e
    omega
  · have := (rt_len_dig hn hl l.length).mpr (Nat.le_refl _)
    rw [this]
theorem yw_has {l : List Nat} {v : Nat} (hn : n ≤ 8) (hl : rt_ok n l) (hv : v < 8) {post : Int32 → Prop} (h1 : v ∈ l → ∀ k, k < 16 → post (nI k)) (h0 : ¬ v ∈ l → post 16) : wpY_place post (nI n, nI d, ao, ar, al, ah, aw, sl, ac, ak, ab) (xw_lc l) (nI v + 1) := by
  have hc := rt_enc_ok hn hl
  by_cases hm : v ∈ l
  · obtain ⟨i, hi, e⟩ := List.getElem_of_mem hm
    have hlen := rt_len hl
    refine yw_place hc (t := v + 1) (k := i) (by omega) (nI_1 v) (by omega) (fun j hj z => ?_) (fun _ => (rt_enc_dig hn hl i v).mpr (by rw [List.getElem?_eq_getElem hi, e])) (h1 hm i (by omega))
    have h2 := (rt_enc_dig hn hl j v).mp z
    obtain ⟨hj2, e2⟩ := List.getElem?_eq_some_iff.mp h2
    have h3 : l[i]? = l[j]? := by rw [List.getElem?_eq_getElem hi, List.getElem?_eq_getElem hj2, e, e2]
    have := (List.getElem?_inj hi hl.1).mp h3
    omega
  · refine yw_place hc (t := v + 1) (k := 16) (by omega) (nI_1 v) (by omega) (fun j hj z => ?_) (fun z => by omega) (h0 hm)
    exact hm (List.mem_of_getElem? ((rt_enc_dig hn hl j v).mp z))
theorem yw_ch_loop (hA : xw_A rl up og (rt_tr H) Q ao ar al ah aw sl) (hc : rt_cf n rl up) (hgd : rt_gd n up H) {v : Nat} (hv : v < n) {post : Int32 → Prop}
    (hp : post (nI (yw_rk rl H v (rt_sc rl H v n)))) : ∀ m i, i + m = n → wY_choose_19 post (nI v) (nI n) (nI d) ao ar al ah aw sl ac ak ab (m + 1) (nI (yw_rk rl H v (rt_sc rl H v i))) (nI i) := by
  have hc' := hc
  obtain ⟨_, hn, hr, hup, _⟩ := hc'
  have hg : ∀ a b, rt_ok n (H a b) := fun a b => (hgd a b).1
  intro m
  induction m with
  | zero =>
    intro i hi
    have e : i = n := by omega
    subst e
    exact br_t (xw_le (Nat.le_refl i) (by omega)) hp
  | succ m ih =>
    intro i hi
    have hnx := ih (i + 1) (by omega)
    rw [rt_sc_s] at hnx
    have skip : ¬ rt_cd H v i → wY_choose_19 post (nI v) (nI n) (nI d) ao ar al ah aw sl ac ak ab (m + 1) (nI (yw_rk rl H v (rt_sc rl H v i))) (nI (i + 1)) := by
      intro hno
      rw [if_neg hno] at hnx
      exact hnx
    refine br_f (xw_ge (by omega) (by omega)) ⟨xw_in (by omega) (by omega), fun x4 e4 => ?_⟩
    have e4' : x4 = xw_lc (H i v) := by
      rw [e4, xw_cl (by omega) (by omega)]
      exact hA.2.2.2.1 v i (by omega) (by omega)
    subst e4'
    clear e4
    refine ⟨xw_in (by omega) (by omega), ?_⟩
    have e1 : al (nI v * 8 + nI i).toNatClampNeg = xw_b (up v i) := by rw [xw_cl (by omega) (by omega)]; exact hA.2.2.1 v i (by omega) (by omega)
    have e2 : ar (nI v * 8 + nI i).toNatClampNeg = nI (rl v i) := by rw [xw_cl (by omega) (by omega)]; exact hA.2.1 v i (by omega) (by omega)
    by_cases hu : up v i = true
    · refine br_f (by rw [e1]; exact xw_b_ne hu) ?_
      by_cases h0 : H i v = []
      · exact br_t ((xw_lc_0 hn (hg i v)).mpr h0) (nm_r (nI_1 i) (skip (fun z => z.1 h0)))
      · refine br_f (fun z => h0 ((xw_lc_0 hn (hg i v)).mp z)) ?_
        refine yw_has hn (hg i v) (by omega) (fun hm k hk => ?_) (fun hm => ?_)
        · exact br_f (xw_ne (b := 16) (by omega) (by decide) (by omega)) (nm_r (nI_1 i) (skip (fun z => z.2 hm)))
        · refine br_t rfl ⟨xw_in (by omega) (by omega), ?_⟩
          refine yw_len hn (hg i v) ?_
          have hcd : rt_cd H v i := ⟨h0, hm⟩
          have hiv : i ≠ v := fun z => by
            subst z
            exact h0 (rt_self hc hgd i)
          rw [if_pos hcd] at hnx
          have hle := rt_rl_le hr v i
          have hlen := rt_len (hg i v)
          have hlp : 0 < (H i v).length := List.length_pos_iff.mpr h0
          have er : ∀ w, w ≠ v → yw_rk rl H v (some w) = (rl v w * 256 + (H w v).length * 16) + w := fun w hw => if_neg hw
          have ei := er i hiv
          refine nm_r (e' := nI (yw_rk rl H v (some i))) ?_ ?_
          · rw [e2, ei, show nI (rl v i) * 256 = nI (rl v i * 256) from pk_mul _ 256, show nI (H i v).length * 16 = nI ((H i v).length * 16) from pk_mul _ 16, nI_add, nI_add]
          · cases hs : rt_sc rl H v i with
            | none =>
              rw [hs] at hnx
              exact br_t rfl (nm_r (nI_1 i) hnx)
            | some w =>
              rw [hs] at hnx
              dsimp only at hnx
              have hb := (rt_sc_spec rl H v i).1 w hs
              have hwv : w ≠ v := fun z => by
                subst z
                exact hb.2.1.1 (rt_self hc hgd w)
              have ew := er w hwv
              have hle2 := rt_rl_le hr v w
              have hlen2 := rt_len (hg w v)
              have hlp2 : 0 < (H w v).length := List.length_pos_iff.mpr hb.2.1.1
              have hwi := hb.1
              have r1 : rt_rk rl H v w = rl v w * 16 + (H w v).length := rfl
              have r2 : rt_rk rl H v i = rl v i * 16 + (H i v).length := rfl
              refine br_f (xw_ne (b := 0) (by omega) (by decide) (by omega)) ?_
              by_cases hlt : rt_rk rl H v i < rt_rk rl H v w
              · rw [if_pos hlt] at hnx
                exact br_f (nI_ge (by omega) (by omega)) (nm_r (nI_1 i) hnx)
              · rw [if_neg hlt] at hnx
                exact br_t (nI_le (by omega) (by omega)) (nm_r (nI_1 i) hnx)
    · refine br_t (by rw [e1]; exact xw_bn hu) (nm_r (nI_1 i) (skip (fun z => hu ?_)))
      exact (hup i v ((hgd i v).2 z.1)).2
theorem yw_choose (hA : xw_A rl up og (rt_tr H) Q ao ar al ah aw sl) (hc : rt_cf n rl up) (hgd : rt_gd n up H) {v : Nat} (hv : v < n) {post : Int32 → Prop}
    (hp : post (nI (yw_rk rl H v (rt_ch n rl og H v)))) : wpY_choose post (nI n, nI d, ao, ar, al, ah, aw, sl, ac, ak, ab) (nI v) := by
  have hn := hc.2.1
  refine ⟨xw_i8 (by omega), ?_⟩
  have e : ao (nI v).toNatClampNeg = xw_b (og v) := by rw [xw_c8 (by omega)]; exact hA.1 v (by omega)
  unfold rt_ch at hp
  by_cases ho : og v = true
  · rw [if_pos ho] at hp
    have e2 : yw_rk rl H v (some v) = 256 + v := if_pos rfl
    rw [e2, ← nI_add] at hp
    exact br_f (by rw [e]; exact xw_b_ne ho) hp
  · rw [if_neg ho] at hp
    exact br_t (by rw [e]; exact xw_bn ho) ⟨n + 1, yw_ch_loop hA hc hgd hv hp n 0 (by omega)⟩
end
/-- what the rank says -/
theorem yw_rk_p {n : Nat} {rl : Nat → Nat → Nat} {up : Nat → Nat → Bool} {og : Nat → Bool} {H : rt_HT} (hc : rt_cf n rl up) (hgd : rt_gd n up H) {v : Nat} (hv : v < n) :
    (rt_ch n rl og H v = none ∧ yw_rk rl H v (rt_ch n rl og H v) = 0) ∨
    (rt_ch n rl og H v = some v ∧ yw_rk rl H v (rt_ch n rl og H v) = 256 + v) ∨
    ∃ u, u < n ∧ u ≠ v ∧ rt_ch n rl og H v = some u ∧ yw_rk rl H v (rt_ch n rl og H v) / 256 = rl v u ∧ yw_rk rl H v (rt_ch n rl og H v) % 16 = u ∧ 2 ≤ rl v u ∧ yw_rk rl H v (rt_ch n rl og H v) < 2048 := by
  have hc' := hc
  obtain ⟨_, hn, hr, hup, _⟩ := hc'
  cases hs : rt_ch n rl og H v with
  | none => exact Or.inl ⟨rfl, rfl⟩
  | some u =>
    right
    by_cases e : u = v
    · subst e
      exact Or.inl ⟨rfl, if_pos rfl⟩
    · right
      have hu := rt_ch_lt hv hs
      have e1 : yw_rk rl H v (some u) = (rl v u * 256 + (H u v).length * 16) + u := if_neg e
      have hsc : rt_sc rl H v n = some u := by
        unfold rt_ch at hs
        by_cases ho : og v = true
        · rw [if_pos ho] at hs
          cases hs
          exact absurd rfl e
        · rw [if_neg ho] at hs
          exact hs
      have hb := (rt_sc_spec rl H v n).1 u hsc
      have hup2 := hup u v ((hgd u v).2 hb.2.1.1)
      have hop := rt_rl_op hr (hup v u hup2.2).1
      have hlen := rt_len (hgd u v).1
      refine ⟨u, hu, e, rfl, ?_, ?_, by omega, ?_⟩ <;> rw [e1] <;> omega
section
variable {n d : Nat} {rl : Nat → Nat → Nat} {up : Nat → Nat → Bool} {og : Nat → Bool} {H : rt_HT} {Q : rt_QT} {ao ar al : Nat → Int32} {ah : Nat → Int64} {aw : Nat → Int32} {sl ac ab : Nat → Int64} {ak : Nat → Int32}
theorem yw_kd (hc : rt_cf n rl up) (hgd : rt_gd n up H) {v : Nat} (hv : v < n) : nI (yw_rk rl H v (rt_ch n rl og H v)) / 256 = nI (rt_kd n rl og H v) := by
  have hn := hc.2.1
  have dv : ∀ r, r < 2048 → nI r / 256 = nI (r / 256) := fun r hr => pk_div (d := 256) (by omega) (by decide) (by decide)
  unfold rt_kd
  rcases yw_rk_p (og := og) hc hgd hv with ⟨h1, h2⟩ | ⟨h1, h2⟩ | ⟨u, hu, hne, h1, h2, h3, h4, h5⟩
  · rw [h2, h1, dv 0 (by decide)]
    rfl
  · rw [h2, h1, dv _ (by omega), show (256 + v) / 256 = 1 by omega]
    exact congrArg nI (if_pos rfl).symm
  · rw [dv _ h5, h2, h1]
    exact congrArg nI (if_neg hne).symm
theorem yw_codeOf (hA : xw_A rl up og (rt_tr H) Q ao ar al ah aw sl) (hc : rt_cf n rl up) (hgd : rt_gd n up H) {v : Nat} (hv : v < n) {post : Int64 → Prop}
    (hp : post (xw_lc (rt_pt n rl og H v))) : wpY_codeOf post (nI n, nI d, ao, ar, al, ah, aw, sl, ac, ak, ab) (nI v) := by
  have hn := hc.2.1
  unfold wpY_codeOf
  refine yw_choose hA hc hgd hv ?_
  have hd := yw_kd (og := og) hc hgd hv
  unfold rt_pt at hp
  rcases yw_rk_p (og := og) hc hgd hv with ⟨h1, h2⟩ | ⟨h1, h2⟩ | ⟨u, hu, hne, h1, h2, h3, h4, h5⟩
  · rw [h1] at hp
    exact br_t (by rw [h2]; rfl) hp
  · rw [h1, show rt_via H v (some v) = [v] from if_pos rfl] at hp
    refine br_f (xw_ne (b := 0) (by omega) (by decide) (by omega)) ⟨by decide, ?_⟩
    refine br_t ?_ ?_
    · rw [hd]
      unfold rt_kd
      rw [h1]
      exact congrArg nI (if_pos rfl)
    · rw [xw_lv (by omega)]
      have e : lN (v + 1) = xw_lc [v] := by
        show lN (v + 1) = lN (0 * 16 + (v + 1))
        rw [Nat.zero_mul, Nat.zero_add]
      rw [e]
      exact hp
  · rw [h1, show rt_via H v (some u) = v :: H u v from if_neg hne] at hp
    refine br_f (xw_ne (b := 0) (by omega) (by decide) (by omega)) ⟨by decide, ?_⟩
    refine br_f ?_ ⟨by decide, ?_⟩
    · rw [hd]
      unfold rt_kd
      rw [h1, show rt_kvia rl v (some u) = rl v u from if_neg hne]
      have := rt_rl_le hc.2.2.1 v u
      exact xw_ne (b := 1) (by omega) (by decide) (by omega)
    · have em : nI (yw_rk rl H v (rt_ch n rl og H v)) - nI (yw_rk rl H v (rt_ch n rl og H v)) / 16 * 16 = nI u := by
        have := pk_rem (a := yw_rk rl H v (rt_ch n rl og H v)) (d := 16) (by omega) (by decide) (by decide)
        rw [h3] at this
        exact this
      rw [em]
      refine ⟨xw_in (by omega) (by omega), ?_⟩
      have e2 : ah (nI v * 8 + nI u).toNatClampNeg = xw_lc (H u v) := by rw [xw_cl (by omega) (by omega)]; exact hA.2.2.2.1 v u (by omega) (by omega)
      rw [e2, xw_pre2 v (by omega)]
      exact hp
theorem yw_exported {l : List Nat} {k q : Nat} (hk : k ≤ 4) (hq : q ≤ 4) {post : Int64 → Prop} (hp : post (xw_lc (if k = 1 ∨ k = 2 ∨ q = 2 then l else []))) : wpY_exported post (nI n, nI d, ao, ar, al, ah, aw, sl, ac, ak, ab) (xw_lc l) (nI k) (nI q) := by
  by_cases h1 : k = 1
  · rw [if_pos (Or.inl h1)] at hp
    exact br_t (by rw [h1]; rfl) hp
  · refine br_f (xw_ne (b := 1) (by omega) (by decide) h1) ?_
    by_cases h2 : k = 2
    · rw [if_pos (Or.inr (Or.inl h2))] at hp
      exact br_t (by rw [h2]; rfl) hp
    · refine br_f (xw_ne (b := 2) (by omega) (by decide) h2) ?_
      by_cases h3 : q = 2
      · rw [if_pos (Or.inr (Or.inr h3))] at hp
        exact br_t (by rw [h3]; rfl) hp
      · rw [if_neg (by omega)] at hp
        exact br_f (xw_ne (b := 2) (by omega) (by decide) h3) hp
theorem yw_inFlight (hA : xw_A rl up og (rt_tr H) Q ao ar al ah aw sl) {post : Int32 → Prop} (hp : post (nI (rt_tot Q 64))) : wpY_inFlight post (nI n, nI d, ao, ar, al, ah, aw, sl, ac, ak, ab) := by
  have key : ∀ m i, i + m = 64 → wY_inFlight_4 post (nI n) (nI d) ao ar al ah aw sl ac ak ab (m + 1) (nI (rt_tot Q i)) (nI i) := by
    intro m
    induction m with
    | zero =>
      intro i hi
      have e : i = 64 := by omega
      subst e
      exact br_t (xw_le (a := 64) (b := 64) (by decide) (by decide)) hp
    | succ m ih =>
      intro i hi
      refine br_f (xw_ge (b := 64) (by omega) (by decide)) ⟨vp_in_nI (by omega) (by decide), ?_⟩
      have e : nI (rt_tot Q i) + aw (nI i).toNatClampNeg = nI (rt_tot Q (i + 1)) := by
        have h := hA.2.2.2.2.1 (i / 8) (i % 8) (by omega) (by omega)
        rw [show i / 8 * 8 + i % 8 = i by omega] at h
        rw [nI_clamp (by omega), h]
        exact nI_add _ _
      exact nm_r e (nm_r (nI_1 i) (ih (i + 1) (by omega)))
  exact ⟨65, key 64 0 rfl⟩
end
