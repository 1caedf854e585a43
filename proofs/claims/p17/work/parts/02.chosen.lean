/-! who is chosen: the least rank, then the least number -/
abbrev rt_HT : Type := Nat → Nat → List Nat
abbrev rt_cd (H : rt_HT) (v u : Nat) : Prop := H u v ≠ [] ∧ v ∉ H u v
def rt_rk (rl : Nat → Nat → Nat) (H : rt_HT) (v u : Nat) : Nat := rl v u * 16 + (H u v).length
/-- the first k with c: the one of least r, of these the first -/
def rt_mn (c : Nat → Bool) (r : Nat → Nat) : Nat → Option Nat
  | 0 => none
  | k + 1 =>
    if c k = true then
      match rt_mn c r k with
      | none => some k
      | some w => if r k < r w then some k else some w
    else rt_mn c r k
def rt_bb (c : Nat → Bool) (r : Nat → Nat) (k u : Nat) : Prop :=
  u < k ∧ c u = true ∧ ∀ w, w < k → c w = true → r u < r w ∨ (r u = r w ∧ u ≤ w)
theorem rt_mn_spec (c : Nat → Bool) (r : Nat → Nat) : ∀ k : Nat,
    (∀ u, rt_mn c r k = some u → rt_bb c r k u) ∧ (rt_mn c r k = none → ∀ w, w < k → ¬ c w = true) := by
  intro k
  induction k with
  | zero => exact ⟨fun u h => (nomatch h), fun _ w hw => absurd hw (Nat.not_lt_zero w)⟩
  | succ k ih =>
    by_cases hc : c k = true
    · cases hs : rt_mn c r k with
      | none =>
        have e : rt_mn c r (k + 1) = some k := by rw [rt_mn, if_pos hc, hs]
        rw [e]
        refine ⟨fun u h => ?_, fun h => (nomatch h)⟩
        cases h
        refine ⟨Nat.lt_succ_self k, hc, fun w hw hcw => ?_⟩
        by_cases ew : w = k
        · subst ew; exact Or.inr ⟨rfl, Nat.le_refl _⟩
        · exact absurd hcw (ih.2 hs w (by omega))
      | some b =>
        have hb := ih.1 b hs
        by_cases hr : r k < r b
        · have e : rt_mn c r (k + 1) = some k := by rw [rt_mn, if_pos hc, hs]; exact if_pos hr
          rw [e]
          refine ⟨fun u h => ?_, fun h => (nomatch h)⟩
          cases h
          refine ⟨Nat.lt_succ_self k, hc, fun w hw hcw => ?_⟩
          by_cases ew : w = k
          · subst ew; exact Or.inr ⟨rfl, Nat.le_refl _⟩
          · have := hb.2.2 w (by omega) hcw
            omega
        · have e : rt_mn c r (k + 1) = some b := by rw [rt_mn, if_pos hc, hs]; exact if_neg hr
          rw [e]
          refine ⟨fun u h => ?_, fun h => (nomatch h)⟩
          cases h
          refine ⟨by have := hb.1; omega, hb.2.1, fun w hw hcw => ?_⟩
          by_cases ew : w = k
          · subst ew
            have := hb.1
            omega
          · exact hb.2.2 w (by omega) hcw
    · have e : rt_mn c r (k + 1) = rt_mn c r k := by rw [rt_mn, if_neg hc]
      rw [e]
      refine ⟨fun u h => ?_, fun h w hw => ?_⟩
      · have hb := ih.1 u h
        refine ⟨by have := hb.1; omega, hb.2.1, fun w hw hcw => ?_⟩
        by_cases ew : w = k
        · subst ew; exact absurd hcw hc
        · exact hb.2.2 w (by omega) hcw
      · by_cases ew : w = k
        · subst ew; exact hc
        · exact ih.2 h w (by omega)
theorem rt_bb_uniq {c : Nat → Bool} {r : Nat → Nat} {k u w : Nat} (a : rt_bb c r k u) (b : rt_bb c r k w) : u = w := by
  have h1 := a.2.2 w b.1 b.2.1
  have h2 := b.2.2 u a.1 a.2.1
  omega
theorem rt_mn_of {c : Nat → Bool} {r : Nat → Nat} {k u : Nat} (a : rt_bb c r k u) : rt_mn c r k = some u := by
  cases hs : rt_mn c r k with
  | none => exact absurd a.2.1 ((rt_mn_spec c r k).2 hs u a.1)
  | some w => rw [rt_bb_uniq ((rt_mn_spec c r k).1 w hs) a]
theorem rt_mn_no {c : Nat → Bool} {r : Nat → Nat} {k : Nat} (a : ∀ w, w < k → ¬ c w = true) : rt_mn c r k = none := by
  cases hs : rt_mn c r k with
  | none => rfl
  | some w =>
    have hb := (rt_mn_spec c r k).1 w hs
    exact absurd hb.2.1 (a w hb.1)
theorem rt_mn_congr {c c' : Nat → Bool} {r r' : Nat → Nat} {k : Nat} (hc : ∀ u, u < k → c u = c' u) (hr : ∀ u, u < k → c u = true → r u = r' u) : rt_mn c r k = rt_mn c' r' k := by
  cases hs : rt_mn c r k with
  | none =>
    refine (rt_mn_no (fun w hw => ?_)).symm
    rw [← hc w hw]
    exact (rt_mn_spec c r k).2 hs w hw
  | some u =>
    have hb := (rt_mn_spec c r k).1 u hs
    refine (rt_mn_of ⟨hb.1, by rw [← hc u hb.1]; exact hb.2.1, fun w hw hcw => ?_⟩).symm
    rw [← hc w hw] at hcw
    rw [← hr u hb.1 hb.2.1, ← hr w hw hcw]
    exact hb.2.2 w hw hcw
def rt_sc (rl : Nat → Nat → Nat) (H : rt_HT) (v k : Nat) : Option Nat := rt_mn (fun u => decide (rt_cd H v u)) (rt_rk rl H v) k
def rt_be (rl : Nat → Nat → Nat) (H : rt_HT) (v k u : Nat) : Prop :=
  u < k ∧ rt_cd H v u ∧ ∀ w, w < k → rt_cd H v w → rt_rk rl H v u < rt_rk rl H v w ∨ (rt_rk rl H v u = rt_rk rl H v w ∧ u ≤ w)
theorem rt_be_bb {rl : Nat → Nat → Nat} {H : rt_HT} {v k u : Nat} : rt_be rl H v k u ↔ rt_bb (fun u => decide (rt_cd H v u)) (rt_rk rl H v) k u := by
  constructor
  · intro h
    exact ⟨h.1, decide_eq_true h.2.1, fun w hw hcw => h.2.2 w hw (of_decide_eq_true hcw)⟩
  · intro h
    exact ⟨h.1, of_decide_eq_true h.2.1, fun w hw hcw => h.2.2 w hw (decide_eq_true hcw)⟩
theorem rt_sc_spec (rl : Nat → Nat → Nat) (H : rt_HT) (v : Nat) (k : Nat) :
    (∀ u, rt_sc rl H v k = some u → rt_be rl H v k u) ∧ (rt_sc rl H v k = none → ∀ w, w < k → ¬ rt_cd H v w) := by
  have h := rt_mn_spec (fun u => decide (rt_cd H v u)) (rt_rk rl H v) k
  exact ⟨fun u hu => rt_be_bb.mpr (h.1 u hu), fun hn w hw hcw => h.2 hn w hw (decide_eq_true hcw)⟩
theorem rt_sc_of {rl : Nat → Nat → Nat} {H : rt_HT} {v k u : Nat} (a : rt_be rl H v k u) : rt_sc rl H v k = some u := rt_mn_of (rt_be_bb.mp a)
theorem rt_sc_no {rl : Nat → Nat → Nat} {H : rt_HT} {v k : Nat} (a : ∀ w, w < k → ¬ rt_cd H v w) : rt_sc rl H v k = none :=
  rt_mn_no (fun w hw hcw => a w hw (of_decide_eq_true hcw))
theorem rt_sc_congr {rl : Nat → Nat → Nat} {H H' : rt_HT} {v : Nat} (e : ∀ u, H u v = H' u v) (k : Nat) : rt_sc rl H v k = rt_sc rl H' v k := by
  refine rt_mn_congr (fun u _ => ?_) (fun u _ _ => ?_)
  · show decide (H u v ≠ [] ∧ v ∉ H u v) = decide (H' u v ≠ [] ∧ v ∉ H' u v)
    rw [e u]
  · unfold rt_rk
    rw [e u]
/-! the selected path, its kind, what goes out -/
def rt_ch (n : Nat) (rl : Nat → Nat → Nat) (og : Nat → Bool) (H : rt_HT) (v : Nat) : Option Nat :=
  if og v = true then some v else rt_sc rl H v n
def rt_via (H : rt_HT) (v : Nat) : Option Nat → List Nat
  | none => []
  | some u => if u = v then [v] else v :: H u v
def rt_kvia (rl : Nat → Nat → Nat) (v : Nat) : Option Nat → Nat
  | none => 0
  | some u => if u = v then 1 else rl v u
def rt_pt (n : Nat) (rl : Nat → Nat → Nat) (og : Nat → Bool) (H : rt_HT) (v : Nat) : List Nat := rt_via H v (rt_ch n rl og H v)
def rt_kd (n : Nat) (rl : Nat → Nat → Nat) (og : Nat → Bool) (H : rt_HT) (v : Nat) : Nat := rt_kvia rl v (rt_ch n rl og H v)
def rt_xp (rl : Nat → Nat → Nat) (P : Nat → List Nat) (K : Nat → Nat) (f t : Nat) : List Nat :=
  if K f = 1 ∨ K f = 2 ∨ rl f t = 2 then P f else []
def rt_ex (n : Nat) (rl : Nat → Nat → Nat) (og : Nat → Bool) (H : rt_HT) (f t : Nat) : List Nat :=
  rt_xp rl (rt_pt n rl og H) (rt_kd n rl og H) f t
/-! the links: relations, up or down, no cycle of customers -/
def rt_rc (rl : Nat → Nat → Nat) : Nat → Nat → Nat → Prop
  | 0, a, b => a = b
  | k + 1, a, b => ∃ c, rl a c = 2 ∧ rt_rc rl k c b
def rt_R (rl : Nat → Nat → Nat) (a b : Nat) : Prop := ∃ k, rt_rc rl k a b
theorem rt_R_refl (rl : Nat → Nat → Nat) (a : Nat) : rt_R rl a a := ⟨0, rfl⟩
theorem rt_R_step {rl : Nat → Nat → Nat} {a b c : Nat} (h : rl a b = 2) (r : rt_R rl b c) : rt_R rl a c := by
  obtain ⟨k, hk⟩ := r
  exact ⟨k + 1, b, h, hk⟩
theorem rt_rc_trans {rl : Nat → Nat → Nat} : ∀ (k a b c : Nat), rt_rc rl k a b → rt_R rl b c → rt_R rl a c := by
  intro k
  induction k with
  | zero => intro a b c h r; cases h; exact r
  | succ k ih =>
    intro a b c h r
    obtain ⟨d, hd, h2⟩ := h
    exact rt_R_step hd (ih d b c h2 r)
theorem rt_R_trans {rl : Nat → Nat → Nat} {a b c : Nat} (h : rt_R rl a b) (r : rt_R rl b c) : rt_R rl a c := by
  obtain ⟨k, hk⟩ := h
  exact rt_rc_trans k a b c hk r
theorem rt_R_snoc {rl : Nat → Nat → Nat} {a b c : Nat} (h : rt_R rl a b) (e : rl b c = 2) : rt_R rl a c :=
  rt_R_trans h (rt_R_step e (rt_R_refl rl c))
def rt_ac (rl : Nat → Nat → Nat) : Prop := ∀ a b, rl a b = 2 → ¬ rt_R rl b a
def rt_rl (n : Nat) (rl : Nat → Nat → Nat) : Prop :=
  ∀ a b, rl a b = 0 ∨ (a < n ∧ b < n ∧ a ≠ b ∧ ((rl a b = 2 ∧ rl b a = 4) ∨ (rl a b = 3 ∧ rl b a = 3) ∨ (rl a b = 4 ∧ rl b a = 2)))
def rt_up (rl : Nat → Nat → Nat) (up : Nat → Nat → Bool) : Prop := ∀ a b, up a b = true → rl a b ≠ 0 ∧ up b a = true
def rt_cf (n : Nat) (rl : Nat → Nat → Nat) (up : Nat → Nat → Bool) : Prop :=
  2 ≤ n ∧ n ≤ 8 ∧ rt_rl n rl ∧ rt_up rl up ∧ rt_ac rl
/-! heights: how many nodes a node reaches -/
noncomputable def rt_ct (p : Nat → Prop) : Nat → Nat
  | 0 => 0
  | k + 1 => rt_ct p k + @ite Nat (p k) (Classical.propDecidable (p k)) 1 0
theorem rt_ct_t {p : Nat → Prop} {k : Nat} (h : p k) : rt_ct p (k + 1) = rt_ct p k + 1 := by
  rw [rt_ct, if_pos h]
theorem rt_ct_f {p : Nat → Prop} {k : Nat} (h : ¬ p k) : rt_ct p (k + 1) = rt_ct p k := by
  rw [rt_ct, if_neg h]; rfl
theorem rt_ct_le (p : Nat → Prop) : ∀ k, rt_ct p k ≤ k := by
  intro k
  induction k with
  | zero => exact Nat.le_refl 0
  | succ k ih =>
    by_cases h : p k
    · rw [rt_ct_t h]; omega
    · rw [rt_ct_f h]; omega
theorem rt_ct_mono {p q : Nat → Prop} (h : ∀ x, p x → q x) : ∀ k, rt_ct p k ≤ rt_ct q k := by
  intro k
  induction k with
  | zero => exact Nat.le_refl 0
  | succ k ih =>
    by_cases hp : p k
    · rw [rt_ct_t hp, rt_ct_t (h k hp)]; omega
    · rw [rt_ct_f hp]
      by_cases hq : q k
      · rw [rt_ct_t hq]; omega
      · rw [rt_ct_f hq]; exact ih
theorem rt_ct_lt {p q : Nat → Prop} (h : ∀ x, p x → q x) {y : Nat} (hy : q y) (hn : ¬ p y) : ∀ k, y < k → rt_ct p k < rt_ct q k := by
  intro k
  induction k with
  | zero => intro z; omega
  | succ k ih =>
    intro hk
    by_cases e : y = k
    · subst e
      have := rt_ct_mono h y
      rw [rt_ct_f hn, rt_ct_t hy]
      omega
    · have h2 := ih (by omega)
      by_cases hp : p k
      · rw [rt_ct_t hp, rt_ct_t (h k hp)]; omega
      · rw [rt_ct_f hp]
        by_cases hq : q k
        · rw [rt_ct_t hq]; omega
        · rw [rt_ct_f hq]; exact h2
noncomputable def rt_ht (n : Nat) (rl : Nat → Nat → Nat) (v : Nat) : Nat := rt_ct (rt_R rl v) n
theorem rt_ht_le (n : Nat) (rl : Nat → Nat → Nat) (v : Nat) : rt_ht n rl v ≤ n := rt_ct_le _ n
theorem rt_ht_lt {n : Nat} {rl : Nat → Nat → Nat} (ha : rt_ac rl) {a b : Nat} (h : rl a b = 2) (hn : a < n) : rt_ht n rl b < rt_ht n rl a :=
  rt_ct_lt (p := rt_R rl b) (q := rt_R rl a) (y := a) (fun _ r => rt_R_step h r) (rt_R_refl rl a) (ha a b h) n hn
theorem rt_ht_pos {n : Nat} {rl : Nat → Nat → Nat} {a : Nat} (hn : a < n) : 1 ≤ rt_ht n rl a := by
  have h := rt_ct_lt (p := fun _ => False) (q := rt_R rl a) (fun _ z => z.elim) (rt_R_refl rl a) (fun z => z) n hn
  show 1 ≤ rt_ct (rt_R rl a) n
  omega
theorem rt_rc_ht {n : Nat} {rl : Nat → Nat → Nat} (ha : rt_ac rl) (hr : rt_rl n rl) : ∀ (k a b : Nat), rt_rc rl k a b → rt_ht n rl b + k ≤ rt_ht n rl a := by
  intro k
  induction k with
  | zero => intro a b h; cases h; exact Nat.le_refl _
  | succ k ih =>
    intro a b h
    obtain ⟨c, hc, h2⟩ := h
    have h3 := ih c b h2
    have h4 : a < n := by
      rcases hr a c with z | z
      · omega
      · exact z.1
    have := rt_ht_lt ha hc h4
    omega
/-! levels of directions, and that what goes out on a level depends on lower levels alone -/
noncomputable def rt_lv (n : Nat) (rl : Nat → Nat → Nat) (f t : Nat) : Nat :=
  if rl f t = 2 then 2 * n + 1 - rt_ht n rl f else rt_ht n rl f
/-- what is heard: paths over up links alone -/
def rt_gd (n : Nat) (up : Nat → Nat → Bool) (H : rt_HT) : Prop :=
  ∀ a b, rt_ok n (H a b) ∧ (H a b ≠ [] → up a b = true)
theorem rt_gd_no {n : Nat} {up : Nat → Nat → Bool} {H : rt_HT} (g : rt_gd n up H) {a b : Nat} (h : ¬ up a b = true) : H a b = [] := by
  by_cases e : H a b = []
  · exact e
  · exact absurd ((g a b).2 e) h
theorem rt_lv_in {n : Nat} {rl : Nat → Nat → Nat} {up : Nat → Nat → Bool} (hc : rt_cf n rl up) {u f t : Nat} (hu : up u f = true) (ht : rl f t = 2) : rt_lv n rl u f < rt_lv n rl f t := by
  obtain ⟨_, _, hr, hup, ha⟩ := hc
  have h0 := (hup u f hu).1
  have hf : f < n := by
    rcases hr u f with z | z
    · exact absurd z h0
    · exact z.2.1
  have hle := rt_ht_le n rl u
  have hlf := rt_ht_le n rl f
  unfold rt_lv
  rw [if_pos ht]
  by_cases e : rl u f = 2
  · rw [if_pos e]
    rcases hr u f with z | z
    · omega
    · have := rt_ht_lt ha e z.1
      omega
  · rw [if_neg e]
    omega
theorem rt_lv_cu {n : Nat} {rl : Nat → Nat → Nat} {up : Nat → Nat → Bool} (hc : rt_cf n rl up) {u f t : Nat} (hu : rl f u = 2) (ht : ¬ rl f t = 2) : rt_lv n rl u f < rt_lv n rl f t := by
  obtain ⟨_, _, hr, hup, ha⟩ := hc
  unfold rt_lv
  rw [if_neg ht]
  rcases hr f u with z | z
  · omega
  · rw [if_neg (by omega)]
    exact rt_ht_lt ha hu z.1
theorem rt_self {n : Nat} {rl : Nat → Nat → Nat} {up : Nat → Nat → Bool} (hc : rt_cf n rl up) {H : rt_HT} (g : rt_gd n up H) (v : Nat) : H v v = [] := by
  refine rt_gd_no g (fun z => ?_)
  obtain ⟨_, _, hr, hup, ha⟩ := hc
  have h0 := (hup v v z).1
  rcases hr v v with y | y
  · exact h0 y
  · exact y.2.2.1 rfl
/-- a chosen customer stays chosen while the customers' codes are the same -/
theorem rt_cu_keep {n : Nat} {rl : Nat → Nat → Nat} {up : Nat → Nat → Bool} (hc : rt_cf n rl up) {H H' : rt_HT} (g : rt_gd n up H) (g' : rt_gd n up H') {f u : Nat}
    (e : ∀ w, rl f w = 2 → H w f = H' w f) (hs : rt_sc rl H f n = some u) (hu : rl f u = 2) : rt_sc rl H' f n = some u := by
  obtain ⟨_, h8, hr, hup, ha⟩ := hc
  have hb := (rt_sc_spec rl H f n).1 u hs
  apply rt_sc_of
  have hcd : ∀ G G' : rt_HT, ∀ w, G w f = G' w f → rt_cd G f w → rt_cd G' f w := by
    intro G G' w z h
    show G' w f ≠ [] ∧ f ∉ G' w f
    rw [← z]
    exact h
  refine ⟨hb.1, hcd H H' u (e u hu) hb.2.1, fun w hw hcw => ?_⟩
  have el : rt_rk rl H' f u = rt_rk rl H f u := by unfold rt_rk; rw [e u hu]
  rw [el]
  by_cases h2 : rl f w = 2
  · have ew : rt_rk rl H' f w = rt_rk rl H f w := by unfold rt_rk; rw [e w h2]
    rw [ew]
    exact hb.2.2 w hw (hcd H' H w (e w h2).symm hcw)
  · left
    have h3 : 3 ≤ rl f w := by
      have hx := (g' w f).2 hcw.1
      have hy := hup w f hx
      rcases hr f w with z | z
      · exact absurd z (hup f w hy.2).1
      · omega
    have h4 : (H u f).length ≤ n := rt_len (g u f).1
    unfold rt_rk
    rw [hu]
    omega
theorem rt_pt_congr {n : Nat} {rl : Nat → Nat → Nat} {og : Nat → Bool} {H H' : rt_HT} {v : Nat} (e : ∀ u, H u v = H' u v) :
    rt_pt n rl og H v = rt_pt n rl og H' v ∧ rt_kd n rl og H v = rt_kd n rl og H' v := by
  have h1 : rt_ch n rl og H v = rt_ch n rl og H' v := by unfold rt_ch; rw [rt_sc_congr e n]
  unfold rt_pt rt_kd
  rw [h1]
  refine ⟨?_, rfl⟩
  cases rt_ch n rl og H' v with
  | none => rfl
  | some u => dsimp only [rt_via]; rw [e u]
theorem rt_sc_ne {n : Nat} {rl : Nat → Nat → Nat} {up : Nat → Nat → Bool} (hc : rt_cf n rl up) {H : rt_HT} (g : rt_gd n up H) {v u k : Nat} (hs : rt_sc rl H v k = some u) : u ≠ v := by
  intro e
  subst e
  exact ((rt_sc_spec rl H u k).1 u hs).2.1.1 (rt_self hc g u)
theorem rt_loc {n : Nat} {rl : Nat → Nat → Nat} {up : Nat → Nat → Bool} (hc : rt_cf n rl up) (og : Nat → Bool) {H H' : rt_HT} (g : rt_gd n up H) (g' : rt_gd n up H') {f t : Nat}
    (hag : ∀ a b, up a b = true → rt_lv n rl a b < rt_lv n rl f t → H a b = H' a b) : rt_ex n rl og H f t = rt_ex n rl og H' f t := by
  by_cases ht : rl f t = 2
  · have e : ∀ u, H u f = H' u f := by
      intro u
      by_cases hu : up u f = true
      · exact hag u f hu (rt_lv_in hc hu ht)
      · rw [rt_gd_no g hu, rt_gd_no g' hu]
    have h := rt_pt_congr (n := n) (rl := rl) (og := og) e
    unfold rt_ex rt_xp
    rw [h.1, h.2]
  · have e : ∀ w, rl f w = 2 → H w f = H' w f := by
      intro w hw
      by_cases hu : up w f = true
      · exact hag w f hu (rt_lv_cu hc hw ht)
      · rw [rt_gd_no g hu, rt_gd_no g' hu]
    by_cases ho : og f = true
    · unfold rt_ex rt_xp rt_pt rt_kd rt_ch
      rw [if_pos ho, if_pos ho]
      simp [rt_via, rt_kvia]
    · have key : ∀ G : rt_HT, rt_gd n up G → (∀ u, rt_sc rl G f n = some u → ¬ rl f u = 2) → rt_ex n rl og G f t = [] := by
        intro G gG hn
        unfold rt_ex rt_xp rt_pt rt_kd rt_ch
        rw [if_neg ho]
        cases hs : rt_sc rl G f n with
        | none => simp [rt_via, rt_kvia]
        | some u =>
          have h1 := hn u hs
          have h2 := rt_sc_ne hc gG hs
          have h3 := (rt_sc_spec rl G f n).1 u hs
          have h4 : ¬ rl f u = 1 := by
            obtain ⟨_, _, hr, _, _⟩ := hc
            rcases hr f u with z | z <;> omega
          simp [rt_via, rt_kvia, h2, h1, h4, ht]
      by_cases hx : ∃ u, rt_sc rl H f n = some u ∧ rl f u = 2
      · obtain ⟨u, hs, hu⟩ := hx
        have hs' := rt_cu_keep hc g g' e hs hu
        unfold rt_ex rt_xp rt_pt rt_kd rt_ch
        rw [if_neg ho, if_neg ho, hs, hs']
        simp only [rt_via]
        rw [e u hu]
      · by_cases hx' : ∃ u, rt_sc rl H' f n = some u ∧ rl f u = 2
        · obtain ⟨u, hs, hu⟩ := hx'
          exact absurd ⟨u, rt_cu_keep hc g' g (fun w hw => (e w hw).symm) hs hu, hu⟩ hx
        · rw [key H g (fun u hs hu => hx ⟨u, hs, hu⟩), key H' g' (fun u hs hu => hx' ⟨u, hs, hu⟩)]
/-- one fixpoint at most -/
theorem rt_uniq {n : Nat} {rl : Nat → Nat → Nat} {up : Nat → Nat → Bool} (hc : rt_cf n rl up) (og : Nat → Bool) {H H' : rt_HT} (g : rt_gd n up H) (g' : rt_gd n up H')
    (hf : ∀ a b, up a b = true → H a b = rt_ex n rl og H a b) (hf' : ∀ a b, up a b = true → H' a b = rt_ex n rl og H' a b) : H = H' := by
  have key : ∀ L a b, up a b = true → rt_lv n rl a b < L → H a b = H' a b := by
    intro L
    induction L with
    | zero => intro a b _ h; omega
    | succ L ih =>
      intro a b hu hl
      rw [hf a b hu, hf' a b hu]
      exact rt_loc hc og g g' (fun c d hcd hlt => ih c d hcd (by omega))
  funext a b
  by_cases hu : up a b = true
  · exact key _ a b hu (Nat.lt_succ_self _)
  · rw [rt_gd_no g hu, rt_gd_no g' hu]
