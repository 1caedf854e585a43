section
/-! paths as rows of nodes, and their codes -/
def rt_enc : List Nat → Nat
  | [] => 0
  | v :: l => rt_enc l * 16 + (v + 1)
/-- a path: different nodes below n -/
def rt_ok (n : Nat) (l : List Nat) : Prop := l.Nodup ∧ ∀ x, x ∈ l → x < n
theorem rt_ok_nil (n : Nat) : rt_ok n [] := ⟨List.nodup_nil, fun _ h => absurd h List.not_mem_nil⟩
theorem rt_ok_cons {n v : Nat} {l : List Nat} (h : rt_ok n l) (hv : v < n) (hn : v ∉ l) : rt_ok n (v :: l) := by
  refine ⟨List.nodup_cons.mpr ⟨hn, h.1⟩, fun x hx => ?_⟩
  rcases List.mem_cons.mp hx with e | e
  · rw [e]; exact hv
  · exact h.2 x e
theorem rt_ok_tail {n v : Nat} {l : List Nat} (h : rt_ok n (v :: l)) : rt_ok n l :=
  ⟨(List.nodup_cons.mp h.1).2, fun x hx => h.2 x (List.mem_cons_of_mem _ hx)⟩
theorem rt_len {n : Nat} {l : List Nat} (h : rt_ok n l) : l.length ≤ n := by
  have h2 := List.Nodup.length_le_of_subset (l₂ := List.range n) h.1 (fun x hx => List.mem_range.mpr (h.2 x hx))
  rw [List.length_range] at h2
  exact h2
theorem rt_enc_0 {l : List Nat} : rt_enc l = 0 ↔ l = [] := by
  cases l with
  | nil => simp [rt_enc]
  | cons v l =>
    constructor
    · intro h
      have h2 : rt_enc l * 16 + (v + 1) = 0 := h
      omega
    · intro h
      cases h
theorem rt_enc_drop : ∀ (i : Nat) (l : List Nat), (∀ x, x ∈ l → x < 15) → rt_enc l / 16 ^ i = rt_enc (l.drop i) := by
  intro i
  induction i with
  | zero => intro l _; simp
  | succ i ih =>
    intro l hl
    cases l with
    | nil => simp [rt_enc]
    | cons v l =>
      have hv : v < 15 := hl v List.mem_cons_self
      have e : rt_enc (v :: l) / 16 = rt_enc l := by
        show (rt_enc l * 16 + (v + 1)) / 16 = rt_enc l
        omega
      rw [Nat.pow_succ', ← Nat.div_div_eq_div_mul, e, List.drop_succ_cons]
      exact ih l (fun x hx => hl x (List.mem_cons_of_mem _ hx))
theorem rt_enc_mod {v : Nat} {l : List Nat} (hv : v < 15) : rt_enc (v :: l) % 16 = v + 1 := by
  show (rt_enc l * 16 + (v + 1)) % 16 = v + 1
  omega
theorem rt_enc_lt : ∀ (l : List Nat), (∀ x, x ∈ l → x < 15) → rt_enc l < 16 ^ l.length := by
  intro l
  induction l with
  | nil => intro _; simp [rt_enc]
  | cons v l ih =>
    intro hl
    have h1 := ih (fun x hx => hl x (List.mem_cons_of_mem _ hx))
    have h2 := hl v List.mem_cons_self
    show rt_enc l * 16 + (v + 1) < 16 ^ (l.length + 1)
    rw [Nat.pow_succ]
    omega
theorem rt_enc_inj : ∀ (l m : List Nat), (∀ x, x ∈ l → x < 15) → (∀ x, x ∈ m → x < 15) → rt_enc l = rt_enc m → l = m := by
  intro l
  induction l with
  | nil =>
    intro m _ _ h
    exact (rt_enc_0.mp h.symm).symm
  | cons v l ih =>
    intro m hl hm h
    cases m with
    | nil => exact absurd (rt_enc_0.mp h) (fun z => nomatch z)
    | cons w m =>
      have h1 := hl v List.mem_cons_self
      have h2 := hm w List.mem_cons_self
      have h3 : rt_enc l * 16 + (v + 1) = rt_enc m * 16 + (w + 1) := h
      have e1 : v = w := by omega
      have e2 : rt_enc l = rt_enc m := by omega
      rw [e1, ih m (fun x hx => hl x (List.mem_cons_of_mem _ hx)) (fun x hx => hm x (List.mem_cons_of_mem _ hx)) e2]
theorem rt_d15 {n : Nat} {l : List Nat} (hn : n ≤ 8) (h : rt_ok n l) : ∀ x, x ∈ l → x < 15 := fun x hx => by
  have := h.2 x hx
  omega
theorem rt_enc_ok {n : Nat} {l : List Nat} (hn : n ≤ 8) (h : rt_ok n l) : rt_enc l < 4294967296 := by
  have h1 := rt_enc_lt l (rt_d15 hn h)
  have h2 := rt_len h
  have h3 : (16 : Nat) ^ l.length ≤ 16 ^ 8 := Nat.pow_le_pow_right (by decide) (by omega)
  have h4 : (16 : Nat) ^ 8 = 4294967296 := by decide
  omega
theorem rt_enc_eq {n : Nat} {l m : List Nat} (hn : n ≤ 8) (h : rt_ok n l) (h' : rt_ok n m) : rt_enc l = rt_enc m ↔ l = m :=
  ⟨rt_enc_inj l m (rt_d15 hn h) (rt_d15 hn h'), fun e => by rw [e]⟩
/-- digit i of the code is v + 1 just if v stands at place i -/
theorem rt_enc_dig {n : Nat} {l : List Nat} (hn : n ≤ 8) (h : rt_ok n l) (i v : Nat) : rt_enc l / 16 ^ i % 16 = v + 1 ↔ l[i]? = some v := by
  rw [rt_enc_drop i l (rt_d15 hn h)]
  have e : l[i]? = (l.drop i)[0]? := by rw [List.getElem?_drop]; rfl
  rw [e]
  have hd : ∀ x, x ∈ l.drop i → x < 15 := fun x hx => rt_d15 hn h x (List.mem_of_mem_drop hx)
  cases hq : l.drop i with
  | nil => simp [rt_enc]
  | cons w m =>
    have hw : w < 15 := hd w (by rw [hq]; exact List.mem_cons_self)
    rw [rt_enc_mod hw]
    simp
theorem rt_mem_dig {n : Nat} {l : List Nat} (hn : n ≤ 8) (h : rt_ok n l) (v : Nat) : v ∈ l ↔ ∃ i, i < 8 ∧ rt_enc l / 16 ^ i % 16 = v + 1 := by
  constructor
  · intro hv
    obtain ⟨i, hi, e⟩ := List.getElem_of_mem hv
    have h2 := rt_len h
    exact ⟨i, by omega, (rt_enc_dig hn h i v).mpr (by rw [List.getElem?_eq_getElem hi, e])⟩
  · rintro ⟨i, _, e⟩
    exact List.mem_of_getElem? ((rt_enc_dig hn h i v).mp e)
theorem rt_len_dig {n : Nat} {l : List Nat} (hn : n ≤ 8) (h : rt_ok n l) (i : Nat) : rt_enc l / 16 ^ i = 0 ↔ l.length ≤ i := by
  rw [rt_enc_drop i l (rt_d15 hn h), rt_enc_0, List.drop_eq_nil_iff]
end
section
/-! who is chosen: the least rank, then the least number -/
abbrev rt_HT : Type := Nat → Nat → List Nat
abbrev rt_cd (H : rt_HT) (v u : Nat) : Prop := H u v ≠ [] ∧ v ∉ H u v
def rt_rk (rl : Nat → Nat → Nat) (H : rt_HT) (v u : Nat) : Nat := rl v u * 16 + (H u v).length
/-- the first k with c: the one of least r, of these the first -/
def rt_mn (c : Nat → Bool) (r : Nat → Nat) : Nat → Option Nat
  | 0 => none
  | k + 1 =>
    if c k = true then
      match rt_mn c r k with
      | none => some k
      | some w => if r k < r w then some k else some w
    else rt_mn c r k
def rt_bb (c : Nat → Bool) (r : Nat → Nat) (k u : Nat) : Prop :=
  u < k ∧ c u = true ∧ ∀ w, w < k → c w = true → r u < r w ∨ (r u = r w ∧ u ≤ w)
theorem rt_mn_spec (c : Nat → Bool) (r : Nat → Nat) : ∀ k : Nat,
    (∀ u, rt_mn c r k = some u → rt_bb c r k u) ∧ (rt_mn c r k = none → ∀ w, w < k → ¬ c w = true) := by
  intro k
  induction k with
  | zero => exact ⟨fun u h => (nomatch h), fun _ w hw => absurd hw (Nat.not_lt_zero w)⟩
  | succ k ih =>
    by_cases hc : c k = true
    · cases hs : rt_mn c r k with
      | none =>
        have e : rt_mn c r (k + 1) = some k := by rw [rt_mn, if_pos hc, hs]
        rw [e]
        refine ⟨fun u h => ?_, fun h => (nomatch h)⟩
        cases h
        refine ⟨Nat.lt_succ_self k, hc, fun w hw hcw => ?_⟩
        by_cases ew : w = k
        · subst ew; exact Or.inr ⟨rfl, Nat.le_refl _⟩
        · exact absurd hcw (ih.2 hs w (by omega))
      | some b =>
        have hb := ih.1 b hs
        by_cases hr : r k < r b
        · have e : rt_mn c r (k + 1) = some k := by rw [rt_mn, if_pos hc, hs]; exact if_pos hr
          rw [e]
          refine ⟨fun u h => ?_, fun h => (nomatch h)⟩
          cases h
          refine ⟨Nat.lt_succ_self k, hc, fun w hw hcw => ?_⟩
          by_cases ew : w = k
          · subst ew; exact Or.inr ⟨rfl, Nat.le_refl _⟩
          · have := hb.2.2 w (by omega) hcw
            omega
        · have e : rt_mn c r (k + 1) = some b := by rw [rt_mn, if_pos hc, hs]; exact if_neg hr
          rw [e]
          refine ⟨fun u h => ?_, fun h => (nomatch h)⟩
          cases h
          refine ⟨by have := hb.1; omega, hb.2.1, fun w hw hcw => ?_⟩
          by_cases ew : w = k
          · subst ew
            have := hb.1
            omega
          · exact hb.2.2 w (by omega) hcw
    · have e : rt_mn c r (k + 1) = rt_mn c r k := by rw [rt_mn, if_neg hc]
      rw [e]
      refine ⟨fun u h => ?_, fun h w hw => ?_⟩
      · have hb := ih.1 u h
        refine ⟨by have := hb.1; omega, hb.2.1, fun w hw hcw => ?_⟩
        by_cases ew : w = k
        · subst ew; exact absurd hcw hc
        · exact hb.2.2 w (by omega) hcw
      · by_cases ew : w = k
        · subst ew; exact hc
        · exact ih.2 h w (by omega)
theorem rt_bb_uniq {c : Nat → Bool} {r : Nat → Nat} {k u w : Nat} (a : rt_bb c r k u) (b : rt_bb c r k w) : u = w := by
  have h1 := a.2.2 w b.1 b.2.1
  have h2 := b.2.2 u a.1 a.2.1
  omega
theorem rt_mn_of {c : Nat → Bool} {r : Nat → Nat} {k u : Nat} (a : rt_bb c r k u) : rt_mn c r k = some u := by
  cases hs : rt_mn c r k with
  | none => exact absurd a.2.1 ((rt_mn_spec c r k).2 hs u a.1)
  | some w => rw [rt_bb_uniq ((rt_mn_spec c r k).1 w hs) a]
theorem rt_mn_no {c : Nat → Bool} {r : Nat → Nat} {k : Nat} (a : ∀ w, w < k → ¬ c w = true) : rt_mn c r k = none := by
  cases hs : rt_mn c r k with
  | none => rfl
  | some w =>
    have hb := (rt_mn_spec c r k).1 w hs
    exact absurd hb.2.1 (a w hb.1)
theorem rt_mn_congr {c c' : Nat → Bool} {r r' : Nat → Nat} {k : Nat} (hc : ∀ u, u < k → c u = c' u) (hr : ∀ u, u < k → c u = true → r u = r' u) : rt_mn c r k = rt_mn c' r' k := by
  cases hs : rt_mn c r k with
  | none =>
    refine (rt_mn_no (fun w hw => ?_)).symm
    rw [← hc w hw]
    exact (rt_mn_spec c r k).2 hs w hw
  | some u =>
    have hb := (rt_mn_spec c r k).1 u hs
    refine (rt_mn_of ⟨hb.1, by rw [← hc u hb.1]; exact hb.2.1, fun w hw hcw => ?_⟩).symm
    rw [← hc w hw] at hcw
    rw [← hr u hb.1 hb.2.1, ← hr w hw hcw]
    exact hb.2.2 w hw hcw
def rt_sc (rl : Nat → Nat → Nat) (H : rt_HT) (v k : Nat) : Option Nat := rt_mn (fun u => decide (rt_cd H v u)) (rt_rk rl H v) k
def rt_be (rl : Nat → Nat → Nat) (H : rt_HT) (v k u : Nat) : Prop :=
  u < k ∧ rt_cd H v u ∧ ∀ w, w < k → rt_cd H v w → rt_rk rl H v u < rt_rk rl H v w ∨ (rt_rk rl H v u = rt_rk rl H v w ∧ u ≤ w)
theorem rt_be_bb {rl : Nat → Nat → Nat} {H : rt_HT} {v k u : Nat} : rt_be rl H v k u ↔ rt_bb (fun u => decide (rt_cd H v u)) (rt_rk rl H v) k u := by
  constructor
  · intro h
    exact ⟨h.1, decide_eq_true h.2.1, fun w hw hcw => h.2.2 w hw (of_decide_eq_true hcw)⟩
  · intro h
    exact ⟨h.1, of_decide_eq_true h.2.1, fun w hw hcw => h.2.2 w hw (decide_eq_true hcw)⟩
theorem rt_sc_spec (rl : Nat → Nat → Nat) (H : rt_HT) (v : Nat) (k : Nat) :
    (∀ u, rt_sc rl H v k = some u → rt_be rl H v k u) ∧ (rt_sc rl H v k = none → ∀ w, w < k → ¬ rt_cd H v w) := by
  have h := rt_mn_spec (fun u => decide (rt_cd H v u)) (rt_rk rl H v) k
  exact ⟨fun u hu => rt_be_bb.mpr (h.1 u hu), fun hn w hw hcw => h.2 hn w hw (decide_eq_true hcw)⟩
theorem rt_sc_of {rl : Nat → Nat → Nat} {H : rt_HT} {v k u : Nat} (a : rt_be rl H v k u) : rt_sc rl H v k = some u := rt_mn_of (rt_be_bb.mp a)
theorem rt_sc_no {rl : Nat → Nat → Nat} {H : rt_HT} {v k : Nat} (a : ∀ w, w < k → ¬ rt_cd H v w) : rt_sc rl H v k = none :=
  rt_mn_no (fun w hw hcw => a w hw (of_decide_eq_true hcw))
theorem rt_sc_congr {rl : Nat → Nat → Nat} {H H' : rt_HT} {v : Nat} (e : ∀ u, H u v = H' u v) (k : Nat) : rt_sc rl H v k = rt_sc rl H' v k := by
  refine rt_mn_congr (fun u _ => ?_) (fun u _ _ => ?_)
  · show decide (H u v ≠ [] ∧ v ∉ H u v) = decide (H' u v ≠ [] ∧ v ∉ H' u v)
    rw [e u]
  · unfold rt_rk
    rw [e u]
/-! the selected path, its kind, what goes out -/
def rt_ch (n : Nat) (rl : Nat → Nat → Nat) (og : Nat → Bool) (H : rt_HT) (v : Nat) : Option Nat :=
  if og v = true then some v else rt_sc rl H v n
def rt_via (H : rt_HT) (v : Nat) : Option Nat → List Nat
  | none => []
  | some u => if u = v then [v] else v :: H u v
def rt_kvia (rl : Nat → Nat → Nat) (v : Nat) : Option Nat → Nat
  | none => 0
  | some u => if u = v then 1 else rl v u
def rt_pt (n : Nat) (rl : Nat → Nat → Nat) (og : Nat → Bool) (H : rt_HT) (v : Nat) : List Nat := rt_via H v (rt_ch n rl og H v)
def rt_kd (n : Nat) (rl : Nat → Nat → Nat) (og : Nat → Bool) (H : rt_HT) (v : Nat) : Nat := rt_kvia rl v (rt_ch n rl og H v)
def rt_xp (rl : Nat → Nat → Nat) (P : Nat → List Nat) (K : Nat → Nat) (f t : Nat) : List Nat :=
  if K f = 1 ∨ K f = 2 ∨ rl f t = 2 then P f else []
def rt_ex (n : Nat) (rl : Nat → Nat → Nat) (og : Nat → Bool) (H : rt_HT) (f t : Nat) : List Nat :=
  rt_xp rl (rt_pt n rl og H) (rt_kd n rl og H) f t
/-! the links: relations, up or down, no cycle of customers -/
def rt_rc (rl : Nat → Nat → Nat) : Nat → Nat → Nat → Prop
  | 0, a, b => a = b
  | k + 1, a, b => ∃ c, rl a c = 2 ∧ rt_rc rl k c b
def rt_R (rl : Nat → Nat → Nat) (a b : Nat) : Prop := ∃ k, rt_rc rl k a b
theorem rt_R_refl (rl : Nat → Nat → Nat) (a : Nat) : rt_R rl a a := ⟨0, rfl⟩
theorem rt_R_step {rl : Nat → Nat → Nat} {a b c : Nat} (h : rl a b = 2) (r : rt_R rl b c) : rt_R rl a c := by
  obtain ⟨k, hk⟩ := r
  exact ⟨k + 1, b, h, hk⟩
theorem rt_rc_trans {rl : Nat → Nat → Nat} : ∀ (k a b c : Nat), rt_rc rl k a b → rt_R rl b c → rt_R rl a c := by
  intro k
  induction k with
  | zero => intro a b c h r; cases h; exact r
  | succ k ih =>
    intro a b c h r
    obtain ⟨d, hd, h2⟩ := h
    exact rt_R_step hd (ih d b c h2 r)
theorem rt_R_trans {rl : Nat → Nat → Nat} {a b c : Nat} (h : rt_R rl a b) (r : rt_R rl b c) : rt_R rl a c := by
  obtain ⟨k, hk⟩ := h
  exact rt_rc_trans k a b c hk r
theorem rt_R_snoc {rl : Nat → Nat → Nat} {a b c : Nat} (h : rt_R rl a b) (e : rl b c = 2) : rt_R rl a c :=
  rt_R_trans h (rt_R_step e (rt_R_refl rl c))
def rt_ac (rl : Nat → Nat → Nat) : Prop := ∀ a b, rl a b = 2 → ¬ rt_R rl b a
def rt_rl (n : Nat) (rl : Nat → Nat → Nat) : Prop :=
  ∀ a b, rl a b = 0 ∨ (a < n ∧ b < n ∧ a ≠ b ∧ ((rl a b = 2 ∧ rl b a = 4) ∨ (rl a b = 3 ∧ rl b a = 3) ∨ (rl a b = 4 ∧ rl b a = 2)))
def rt_up (rl : Nat → Nat → Nat) (up : Nat → Nat → Bool) : Prop := ∀ a b, up a b = true → rl a b ≠ 0 ∧ up b a = true
def rt_cf (n : Nat) (rl : Nat → Nat → Nat) (up : Nat → Nat → Bool) : Prop :=
  2 ≤ n ∧ n ≤ 8 ∧ rt_rl n rl ∧ rt_up rl up ∧ rt_ac rl
/-! heights: how many nodes a node reaches -/
noncomputable def rt_ct (p : Nat → Prop) : Nat → Nat
  | 0 => 0
  | k + 1 => rt_ct p k + @ite Nat (p k) (Classical.propDecidable (p k)) 1 0
theorem rt_ct_t {p : Nat → Prop} {k : Nat} (h : p k) : rt_ct p (k + 1) = rt_ct p k + 1 := by
  rw [rt_ct, if_pos h]
theorem rt_ct_f {p : Nat → Prop} {k : Nat} (h : ¬ p k) : rt_ct p (k + 1) = rt_ct p k := by
  rw [rt_ct, if_neg h]; rfl
theorem rt_ct_le (p : Nat → Prop) : ∀ k, rt_ct p k ≤ k := by
  intro k
  induction k with
  | zero => exact Nat.le_refl 0
  | succ k ih =>
    by_cases h : p k
    · rw [rt_ct_t h]; omega
    · rw [rt_ct_f h]; omega
theorem rt_ct_mono {p q : Nat → Prop} (h : ∀ x, p x → q x) : ∀ k, rt_ct p k ≤ rt_ct q k := by
  intro k
  induction k with
  | zero => exact Nat.le_refl 0
  | succ k ih =>
    by_cases hp : p k
    · rw [rt_ct_t hp, rt_ct_t (h k hp)]; omega
    · rw [rt_ct_f hp]
      by_cases hq : q k
      · rw [rt_ct_t hq]; omega
      · rw [rt_ct_f hq]; exact ih
theorem rt_ct_lt {p q : Nat → Prop} (h : ∀ x, p x → q x) {y : Nat} (hy : q y) (hn : ¬ p y) : ∀ k, y < k → rt_ct p k < rt_ct q k := by
  intro k
  induction k with
  | zero => intro z; omega
  | succ k ih =>
    intro hk
    by_cases e : y = k
    · subst e
      have := rt_ct_mono h y
      rw [rt_ct_f hn, rt_ct_t hy]
      omega
    · have h2 := ih (by omega)
      by_cases hp : p k
      · rw [rt_ct_t hp, rt_ct_t (h k hp)]; omega
      · rw [rt_ct_f hp]
        by_cases hq : q k
        · rw [rt_ct_t hq]; omega
        · rw [rt_ct_f hq]; exact h2
noncomputable def rt_ht (n : Nat) (rl : Nat → Nat → Nat) (v : Nat) : Nat := rt_ct (rt_R rl v) n
theorem rt_ht_le (n : Nat) (rl : Nat → Nat → Nat) (v : Nat) : rt_ht n rl v ≤ n := rt_ct_le _ n
theorem rt_ht_lt {n : Nat} {rl : Nat → Nat → Nat} (ha : rt_ac rl) {a b : Nat} (h : rl a b = 2) (hn : a < n) : rt_ht n rl b < rt_ht n rl a :=
  rt_ct_lt (p := rt_R rl b) (q := rt_R rl a) (y := a) (fun _ r => rt_R_step h r) (rt_R_refl rl a) (ha a b h) n hn
theorem rt_ht_pos {n : Nat} {rl : Nat → Nat → Nat} {a : Nat} (hn : a < n) : 1 ≤ rt_ht n rl a := by
  have h := rt_ct_lt (p := fun _ => False) (q := rt_R rl a) (fun _ z => z.elim) (rt_R_refl rl a) (fun z => z) n hn
  show 1 ≤ rt_ct (rt_R rl a) n
  omega
theorem rt_rc_ht {n : Nat} {rl : Nat → Nat → Nat} (ha : rt_ac rl) (hr : rt_rl n rl) : ∀ (k a b : Nat), rt_rc rl k a b → rt_ht n rl b + k ≤ rt_ht n rl a := by
  intro k
  induction k with
  | zero => intro a b h; cases h; exact Nat.le_refl _
  | succ k ih =>
    intro a b h
    obtain ⟨c, hc, h2⟩ := h
    have h3 := ih c b h2
    have h4 : a < n := by
      rcases hr a c with z | z
      · omega
      · exact z.1
    have := rt_ht_lt ha hc h4
    omega
/-! levels of directions, and that what goes out on a level depends on lower levels alone -/
noncomputable def rt_lv (n : Nat) (rl : Nat → Nat → Nat) (f t : Nat) : Nat :=
  if rl f t = 2 then 2 * n + 1 - rt_ht n rl f else rt_ht n rl f
/-- what is heard: paths over up links alone -/
def rt_gd (n : Nat) (up : Nat → Nat → Bool) (H : rt_HT) : Prop :=
  ∀ a b, rt_ok n (H a b) ∧ (H a b ≠ [] → up a b = true)
theorem rt_gd_no {n : Nat} {up : Nat → Nat → Bool} {H : rt_HT} (g : rt_gd n up H) {a b : Nat} (h : ¬ up a b = true) : H a b = [] := by
  by_cases e : H a b = []
  · exact e
  · exact absurd ((g a b).2 e) h
theorem rt_lv_in {n : Nat} {rl : Nat → Nat → Nat} {up : Nat → Nat → Bool} (hc : rt_cf n rl up) {u f t : Nat} (hu : up u f = true) (ht : rl f t = 2) : rt_lv n rl u f < rt_lv n rl f t := by
  obtain ⟨_, _, hr, hup, ha⟩ := hc
  have h0 := (hup u f hu).1
  have hf : f < n := by
    rcases hr u f with z | z
    · exact absurd z h0
    · exact z.2.1
  have hle := rt_ht_le n rl u
  have hlf := rt_ht_le n rl f
  unfold rt_lv
  rw [if_pos ht]
  by_cases e : rl u f = 2
  · rw [if_pos e]
    rcases hr u f with z | z
    · omega
    · have := rt_ht_lt ha e z.1
      omega
  · rw [if_neg e]
    omega
theorem rt_lv_cu {n : Nat} {rl : Nat → Nat → Nat} {up : Nat → Nat → Bool} (hc : rt_cf n rl up) {u f t : Nat} (hu : rl f u = 2) (ht : ¬ rl f t = 2) : rt_lv n rl u f < rt_lv n rl f t := by
  obtain ⟨_, _, hr, hup, ha⟩ := hc
  unfold rt_lv
  rw [if_neg ht]
  rcases hr f u with z | z
  · omega
  · rw [if_neg (by omega)]
    exact rt_ht_lt ha hu z.1
theorem rt_self {n : Nat} {rl : Nat → Nat → Nat} {up : Nat → Nat → Bool} (hc : rt_cf n rl up) {H : rt_HT} (g : rt_gd n up H) (v : Nat) : H v v = [] := by
  refine rt_gd_no g (fun z => ?_)
  obtain ⟨_, _, hr, hup, ha⟩ := hc
  have h0 := (hup v v z).1
  rcases hr v v with y | y
  · exact h0 y
  · exact y.2.2.1 rfl
/-- a chosen customer stays chosen while the customers' codes are the same -/
theorem rt_cu_keep {n : Nat} {rl : Nat → Nat → Nat} {up : Nat → Nat → Bool} (hc : rt_cf n rl up) {H H' : rt_HT} (g : rt_gd n up H) (g' : rt_gd n up H') {f u : Nat}
    (e : ∀ w, rl f w = 2 → H w f = H' w f) (hs : rt_sc rl H f n = some u) (hu : rl f u = 2) : rt_sc rl H' f n = some u := by
  obtain ⟨_, h8, hr, hup, ha⟩ := hc
  have hb := (rt_sc_spec rl H f n).1 u hs
  apply rt_sc_of
  have hcd : ∀ G G' : rt_HT, ∀ w, G w f = G' w f → rt_cd G f w → rt_cd G' f w := by
    intro G G' w z h
    show G' w f ≠ [] ∧ f ∉ G' w f
    rw [← z]
    exact h
  refine ⟨hb.1, hcd H H' u (e u hu) hb.2.1, fun w hw hcw => ?_⟩
  have el : rt_rk rl H' f u = rt_rk rl H f u := by unfold rt_rk; rw [e u hu]
  rw [el]
  by_cases h2 : rl f w = 2
  · have ew : rt_rk rl H' f w = rt_rk rl H f w := by unfold rt_rk; rw [e w h2]
    rw [ew]
    exact hb.2.2 w hw (hcd H' H w (e w h2).symm hcw)
  · left
    have h3 : 3 ≤ rl f w := by
      have hx := (g' w f).2 hcw.1
      have hy := hup w f hx
      rcases hr f w with z | z
      · exact absurd z (hup f w hy.2).1
      · omega
    have h4 : (H u f).length ≤ n := rt_len (g u f).1
    unfold rt_rk
    rw [hu]
    omega
theorem rt_pt_congr {n : Nat} {rl : Nat → Nat → Nat} {og : Nat → Bool} {H H' : rt_HT} {v : Nat} (e : ∀ u, H u v = H' u v) :
    rt_pt n rl og H v = rt_pt n rl og H' v ∧ rt_kd n rl og H v = rt_kd n rl og H' v := by
  have h1 : rt_ch n rl og H v = rt_ch n rl og H' v := by unfold rt_ch; rw [rt_sc_congr e n]
  unfold rt_pt rt_kd
  rw [h1]
  refine ⟨?_, rfl⟩
  cases rt_ch n rl og H' v with
  | none => rfl
  | some u => dsimp only [rt_via]; rw [e u]
theorem rt_sc_ne {n : Nat} {rl : Nat → Nat → Nat} {up : Nat → Nat → Bool} (hc : rt_cf n rl up) {H : rt_HT} (g : rt_gd n up H) {v u k : Nat} (hs : rt_sc rl H v k = some u) : u ≠ v := by
  intro e
  subst e
  exact ((rt_sc_spec rl H u k).1 u hs).2.1.1 (rt_self hc g u)
theorem rt_loc {n : Nat} {rl : Nat → Nat → Nat} {up : Nat → Nat → Bool} (hc : rt_cf n rl up) (og : Nat → Bool) {H H' : rt_HT} (g : rt_gd n up H) (g' : rt_gd n up H') {f t : Nat}
    (hag : ∀ a b, up a b = true → rt_lv n rl a b < rt_lv n rl f t → H a b = H' a b) : rt_ex n rl og H f t = rt_ex n rl og H' f t := by
  by_cases ht : rl f t = 2
  · have e : ∀ u, H u f = H' u f := by
      intro u
      by_cases hu : up u f = true
      · exact hag u f hu (rt_lv_in hc hu ht)
      · rw [rt_gd_no g hu, rt_gd_no g' hu]
    have h := rt_pt_congr (n := n) (rl := rl) (og := og) e
    unfold rt_ex rt_xp
    rw [h.1, h.2]
  · have e : ∀ w, rl f w = 2 → H w f = H' w f := by
      intro w hw
      by_cases hu : up w f = true
      · exact hag w f hu (rt_lv_cu hc hw ht)
      · rw [rt_gd_no g hu, rt_gd_no g' hu]
    by_cases ho : og f = true
    · unfold rt_ex rt_xp rt_pt rt_kd rt_ch
      rw [if_pos ho, if_pos ho]
      simp [rt_via, rt_kvia]
    · have key : ∀ G : rt_HT, rt_gd n up G → (∀ u, rt_sc rl G f n = some u → ¬ rl f u = 2) → rt_ex n rl og G f t = [] := by
        intro G gG hn
        unfold rt_ex rt_xp rt_pt rt_kd rt_ch
        rw [if_neg ho]
        cases hs : rt_sc rl G f n with
        | none => simp [rt_via, rt_kvia]
        | some u =>
          have h1 := hn u hs
          have h2 := rt_sc_ne hc gG hs
          have h3 := (rt_sc_spec rl G f n).1 u hs
          have h4 : ¬ rl f u = 1 := by
            obtain ⟨_, _, hr, _, _⟩ := hc
            rcases hr f u with z | z <;> omega
          simp [rt_via, rt_kvia, h2, h1, h4, ht]
      by_cases hx : ∃ u, rt_sc rl H f n = some u ∧ rl f u = 2
      · obtain ⟨u, hs, hu⟩ := hx
        have hs' := rt_cu_keep hc g g' e hs hu
        unfold rt_ex rt_xp rt_pt rt_kd rt_ch
        rw [if_neg ho, if_neg ho, hs, hs']
        simp only [rt_via]
        rw [e u hu]
      · by_cases hx' : ∃ u, rt_sc rl H' f n = some u ∧ rl f u = 2
        · obtain ⟨u, hs, hu⟩ := hx'
          exact absurd ⟨u, rt_cu_keep hc g' g (fun w hw => (e w hw).symm) hs hu, hu⟩ hx
        · rw [key H g (fun u hs hu => hx ⟨u, hs, hu⟩), key H' g' (fun u hs hu => hx' ⟨u, hs, hu⟩)]
/-- one fixpoint at most -/
theorem rt_uniq {n : Nat} {rl : Nat → Nat → Nat} {up : Nat → Nat → Bool} (hc : rt_cf n rl up) (og : Nat → Bool) {H H' : rt_HT} (g : rt_gd n up H) (g' : rt_gd n up H')
    (hf : ∀ a b, up a b = true → H a b = rt_ex n rl og H a b) (hf' : ∀ a b, up a b = true → H' a b = rt_ex n rl og H' a b) : H = H' := by
  have key : ∀ L a b, up a b = true → rt_lv n rl a b < L → H a b = H' a b := by
    intro L
    induction L with
    | zero => intro a b _ h; omega
    | succ L ih =>
      intro a b hu hl
      rw [hf a b hu, hf' a b hu]
      exact rt_loc hc og g g' (fun c d hcd hlt => ih c d hcd (by omega))
  funext a b
  by_cases hu : up a b = true
  · exact key _ a b hu (Nat.lt_succ_self _)
  · rw [rt_gd_no g hu, rt_gd_no g' hu]
end
section
/-! messages: sending, delivering, rounds -/
abbrev rt_QT : Type := Nat → Nat → List (List Nat)
def rt_sd (d : Nat) (q : List (List Nat)) (h e : List Nat) : List (List Nat) :=
  if e = q.getLastD h then q else if q.length < d then q ++ [e] else q.dropLast ++ [e]
theorem rt_sd_last (d : Nat) (q : List (List Nat)) (h e : List Nat) : (rt_sd d q h e).getLastD h = e := by
  unfold rt_sd
  by_cases h1 : e = q.getLastD h
  · rw [if_pos h1]; exact h1.symm
  · rw [if_neg h1]
    by_cases h2 : q.length < d
    · rw [if_pos h2]; exact List.getLastD_concat
    · rw [if_neg h2]; exact List.getLastD_concat
theorem rt_sd_len {d : Nat} {q : List (List Nat)} (h e : List Nat) (hd : 1 ≤ d) (hq : q.length ≤ d) : (rt_sd d q h e).length ≤ d := by
  unfold rt_sd
  by_cases h1 : e = q.getLastD h
  · rw [if_pos h1]; exact hq
  · rw [if_neg h1]
    by_cases h2 : q.length < d
    · rw [if_pos h2, List.length_append, List.length_singleton]; omega
    · rw [if_neg h2, List.length_append, List.length_singleton, List.length_dropLast]; omega
theorem rt_sd_mem {d : Nat} {q : List (List Nat)} {h e m : List Nat} (hm : m ∈ rt_sd d q h e) : m ∈ q ∨ m = e := by
  unfold rt_sd at hm
  by_cases h1 : e = q.getLastD h
  · rw [if_pos h1] at hm; exact Or.inl hm
  · rw [if_neg h1] at hm
    by_cases h2 : q.length < d
    · rw [if_pos h2] at hm
      rcases List.mem_append.mp hm with z | z
      · exact Or.inl z
      · exact Or.inr (List.mem_singleton.mp z)
    · rw [if_neg h2] at hm
      rcases List.mem_append.mp hm with z | z
      · exact Or.inl (List.dropLast_subset q z)
      · exact Or.inr (List.mem_singleton.mp z)
theorem rt_sd_same {d : Nat} {q : List (List Nat)} {h e : List Nat} (hm : q.getLastD h = e) : rt_sd d q h e = q := by
  unfold rt_sd
  rw [if_pos hm.symm]
def rt_u2 {α : Type} (g : Nat → Nat → α) (f t : Nat) (x : α) : Nat → Nat → α := fun a b => if a = f ∧ b = t then x else g a b
theorem rt_u2_s {α : Type} {g : Nat → Nat → α} {f t : Nat} {x : α} : rt_u2 g f t x f t = x := if_pos ⟨rfl, rfl⟩
theorem rt_u2_n {α : Type} {g : Nat → Nat → α} {f t a b : Nat} {x : α} (h : ¬ (a = f ∧ b = t)) : rt_u2 g f t x a b = g a b := if_neg h
def rt_send (n d : Nat) (rl : Nat → Nat → Nat) (up : Nat → Nat → Bool) (og : Nat → Bool) (H : rt_HT) (Q : rt_QT) : rt_QT :=
  fun a b => if up a b = true then rt_sd d (Q a b) (H a b) (rt_ex n rl og H a b) else Q a b
/-- a path that comes from a -/
def rt_pd (n a : Nat) (l : List Nat) : Prop := rt_ok n l ∧ ∀ x r, l = x :: r → x = a
theorem rt_pd_nil (n a : Nat) : rt_pd n a [] := ⟨rt_ok_nil n, fun _ _ h => (nomatch h)⟩
def rt_gh (n : Nat) (up : Nat → Nat → Bool) (H : rt_HT) : Prop := ∀ a b, rt_pd n a (H a b) ∧ (H a b ≠ [] → up a b = true)
def rt_gq (n d : Nat) (up : Nat → Nat → Bool) (Q : rt_QT) : Prop :=
  ∀ a b, (Q a b ≠ [] → up a b = true) ∧ (Q a b).length ≤ d ∧ ∀ m, m ∈ Q a b → rt_pd n a m
def rt_sy (n : Nat) (rl : Nat → Nat → Nat) (up : Nat → Nat → Bool) (og : Nat → Bool) (H : rt_HT) (Q : rt_QT) : Prop :=
  ∀ a b, up a b = true → (Q a b).getLastD (H a b) = rt_ex n rl og H a b
def rt_inv (n d : Nat) (rl : Nat → Nat → Nat) (up : Nat → Nat → Bool) (og : Nat → Bool) (H : rt_HT) (Q : rt_QT) : Prop :=
  rt_cf n rl up ∧ (1 ≤ d ∧ d ≤ 4) ∧ rt_gh n up H ∧ rt_gq n d up Q ∧ rt_sy n rl up og H Q
theorem rt_gh_gd {n : Nat} {up : Nat → Nat → Bool} {H : rt_HT} (g : rt_gh n up H) : rt_gd n up H := fun a b => ⟨(g a b).1.1, (g a b).2⟩
theorem rt_pt_pd {n : Nat} {rl : Nat → Nat → Nat} {og : Nat → Bool} {H : rt_HT} (g : ∀ a b, rt_ok n (H a b)) {v : Nat} (hv : v < n) : rt_pd n v (rt_pt n rl og H v) := by
  unfold rt_pt
  have key : ∀ o, rt_ch n rl og H v = o → rt_pd n v (rt_via H v o) := by
    intro o ho
    cases o with
    | none => exact rt_pd_nil n v
    | some u =>
      by_cases e : u = v
      · have h1 : rt_via H v (some u) = [v] := if_pos e
        rw [h1]
        refine ⟨rt_ok_cons (rt_ok_nil n) hv List.not_mem_nil, fun x r h => ?_⟩
        cases h
        rfl
      · have h1 : rt_via H v (some u) = v :: H u v := if_neg e
        rw [h1]
        have h2 : rt_sc rl H v n = some u := by
          unfold rt_ch at ho
          by_cases hg : og v = true
          · rw [if_pos hg] at ho
            cases ho
            exact absurd rfl e
          · rw [if_neg hg] at ho
            exact ho
        have h3 := (rt_sc_spec rl H v n).1 u h2
        refine ⟨rt_ok_cons (g u v) hv h3.2.1.2, fun x r h => ?_⟩
        cases h
        rfl
  exact key _ rfl
theorem rt_ex_pd {n : Nat} {rl : Nat → Nat → Nat} {og : Nat → Bool} {H : rt_HT} (g : ∀ a b, rt_ok n (H a b)) {f : Nat} (t : Nat) (hv : f < n) : rt_pd n f (rt_ex n rl og H f t) := by
  unfold rt_ex rt_xp
  by_cases h : rt_kd n rl og H f = 1 ∨ rt_kd n rl og H f = 2 ∨ rl f t = 2
  · rw [if_pos h]; exact rt_pt_pd g hv
  · rw [if_neg h]; exact rt_pd_nil n f
theorem rt_up_lt {n : Nat} {rl : Nat → Nat → Nat} {up : Nat → Nat → Bool} (hc : rt_cf n rl up) {a b : Nat} (h : up a b = true) : a < n ∧ b < n ∧ a ≠ b := by
  obtain ⟨_, _, hr, hup, _⟩ := hc
  rcases hr a b with z | z
  · exact absurd z (hup a b h).1
  · exact ⟨z.1, z.2.1, z.2.2.1⟩
theorem rt_send_ok {n d : Nat} {rl : Nat → Nat → Nat} {up : Nat → Nat → Bool} {og : Nat → Bool} {H : rt_HT} {Q : rt_QT}
    (hc : rt_cf n rl up) (hd : 1 ≤ d ∧ d ≤ 4) (gh : rt_gh n up H) (gq : rt_gq n d up Q) : rt_inv n d rl up og H (rt_send n d rl up og H Q) := by
  refine ⟨hc, hd, gh, fun a b => ?_, fun a b hu => ?_⟩
  · unfold rt_send
    by_cases hu : up a b = true
    · rw [if_pos hu]
      refine ⟨fun _ => hu, rt_sd_len _ _ hd.1 (gq a b).2.1, fun m hm => ?_⟩
      rcases rt_sd_mem hm with z | z
      · exact (gq a b).2.2 m z
      · rw [z]
        exact rt_ex_pd (fun a b => (gh a b).1.1) b (rt_up_lt hc hu).1
    · rw [if_neg hu]
      exact gq a b
  · unfold rt_send
    rw [if_pos hu]
    exact rt_sd_last _ _ _ _
/-- one delivery, with the sending behind it -/
def rt_dl (n d : Nat) (rl : Nat → Nat → Nat) (up : Nat → Nat → Bool) (og : Nat → Bool) (f t : Nat) (s : rt_HT × rt_QT) : rt_HT × rt_QT :=
  match s.2 f t with
  | [] => s
  | m :: r => (rt_u2 s.1 f t m, rt_send n d rl up og (rt_u2 s.1 f t m) (rt_u2 s.2 f t r))
theorem rt_del {n d : Nat} {rl : Nat → Nat → Nat} {up : Nat → Nat → Bool} {og : Nat → Bool} {H : rt_HT} {Q : rt_QT}
    (hI : rt_inv n d rl up og H Q) {f t : Nat} {m : List Nat} {r : List (List Nat)} (hq : Q f t = m :: r) :
    rt_inv n d rl up og (rt_u2 H f t m) (rt_send n d rl up og (rt_u2 H f t m) (rt_u2 Q f t r)) ∧
    rt_send n d rl up og (rt_u2 H f t m) (rt_u2 Q f t r) f t = r ∧
    ∀ a b, up a b = true → rt_lv n rl a b ≤ rt_lv n rl f t → ¬ (a = f ∧ b = t) → rt_send n d rl up og (rt_u2 H f t m) (rt_u2 Q f t r) a b = Q a b := by
  obtain ⟨hc, hd, gh, gq, hs⟩ := hI
  have hu : up f t = true := (gq f t).1 (by rw [hq]; exact fun z => nomatch z)
  have gh' : rt_gh n up (rt_u2 H f t m) := by
    intro a b
    by_cases e : a = f ∧ b = t
    · obtain ⟨rfl, rfl⟩ := e
      rw [rt_u2_s]
      exact ⟨(gq a b).2.2 m (by rw [hq]; exact List.mem_cons_self), fun _ => hu⟩
    · rw [rt_u2_n e]
      exact gh a b
  have gq' : rt_gq n d up (rt_u2 Q f t r) := by
    intro a b
    by_cases e : a = f ∧ b = t
    · obtain ⟨rfl, rfl⟩ := e
      rw [rt_u2_s]
      have h2 := (gq a b).2.1
      rw [hq, List.length_cons] at h2
      exact ⟨fun _ => hu, by omega, fun x hx => (gq a b).2.2 x (by rw [hq]; exact List.mem_cons_of_mem _ hx)⟩
    · rw [rt_u2_n e]
      exact gq a b
  have hex : ∀ a b, rt_lv n rl a b ≤ rt_lv n rl f t → rt_ex n rl og (rt_u2 H f t m) a b = rt_ex n rl og H a b := by
    intro a b hl
    refine rt_loc hc og (rt_gh_gd gh') (rt_gh_gd gh) (fun c e _ hlt => ?_)
    refine rt_u2_n (fun z => ?_)
    obtain ⟨rfl, rfl⟩ := z
    omega
  refine ⟨rt_send_ok hc hd gh' gq', ?_, ?_⟩
  · unfold rt_send
    rw [if_pos hu, rt_u2_s, rt_u2_s]
    apply rt_sd_same
    rw [hex f t (Nat.le_refl _), ← hs f t hu, hq, List.getLastD_cons]
  · intro a b hab hl hne
    unfold rt_send
    rw [if_pos hab, rt_u2_n hne, rt_u2_n hne]
    apply rt_sd_same
    rw [hex a b hl, hs a b hab]
theorem rt_dl_inv {n d : Nat} {rl : Nat → Nat → Nat} {up : Nat → Nat → Bool} {og : Nat → Bool} {s : rt_HT × rt_QT}
    (hI : rt_inv n d rl up og s.1 s.2) (f t : Nat) : rt_inv n d rl up og (rt_dl n d rl up og f t s).1 (rt_dl n d rl up og f t s).2 := by
  unfold rt_dl
  cases hq : s.2 f t with
  | nil => exact hI
  | cons m r => exact (rt_del hI hq).1
/-- a round: each of the first k of the 64 directions once -/
def rt_rd (n d : Nat) (rl : Nat → Nat → Nat) (up : Nat → Nat → Bool) (og : Nat → Bool) (s : rt_HT × rt_QT) : Nat → rt_HT × rt_QT
  | 0 => s
  | k + 1 => rt_dl n d rl up og (k / 8) (k % 8) (rt_rd n d rl up og s k)
theorem rt_rd_lv {n d : Nat} {rl : Nat → Nat → Nat} {up : Nat → Nat → Bool} {og : Nat → Bool} {s : rt_HT × rt_QT}
    (hI : rt_inv n d rl up og s.1 s.2) (K : Nat) (hK : ∀ a b, up a b = true → rt_lv n rl a b < K → s.2 a b = []) : ∀ k : Nat,
    rt_inv n d rl up og (rt_rd n d rl up og s k).1 (rt_rd n d rl up og s k).2 ∧
    (∀ a b, up a b = true → rt_lv n rl a b < K → (rt_rd n d rl up og s k).2 a b = []) ∧
    ∀ a b, up a b = true → rt_lv n rl a b = K → (rt_rd n d rl up og s k).2 a b = if a * 8 + b < k then (s.2 a b).tail else s.2 a b := by
  intro k
  induction k with
  | zero => exact ⟨hI, hK, fun a b _ _ => by rw [if_neg (Nat.not_lt_zero _)]; rfl⟩
  | succ k ih =>
    obtain ⟨h1, h2, h3⟩ := ih
    have hc := h1.1
    have hn8 := hc.2.1
    show rt_inv n d rl up og (rt_dl n d rl up og (k / 8) (k % 8) (rt_rd n d rl up og s k)).1 (rt_dl n d rl up og (k / 8) (k % 8) (rt_rd n d rl up og s k)).2 ∧ (∀ a b, up a b = true → rt_lv n rl a b < K → (rt_dl n d rl up og (k / 8) (k % 8) (rt_rd n d rl up og s k)).2 a b = []) ∧ ∀ a b, up a b = true → rt_lv n rl a b = K → (rt_dl n d rl up og (k / 8) (k % 8) (rt_rd n d rl up og s k)).2 a b = if a * 8 + b < k + 1 then (s.2 a b).tail else s.2 a b
    generalize rt_rd n d rl up og s k = w at h1 h2 h3
    have hix : ∀ a b, up a b = true → ¬ (a = k / 8 ∧ b = k % 8) → (a * 8 + b < k + 1 ↔ a * 8 + b < k) := by
      intro a b hab hne
      have := rt_up_lt hc hab
      omega
    unfold rt_dl
    cases hq : w.2 (k / 8) (k % 8) with
    | nil =>
      refine ⟨h1, h2, fun a b hab hl => ?_⟩
      by_cases e : a = k / 8 ∧ b = k % 8
      · obtain ⟨rfl, rfl⟩ := e
        have h4 := h3 (k / 8) (k % 8) hab hl
        rw [if_neg (by omega), hq] at h4
        rw [if_pos (by omega)]
        show w.2 (k / 8) (k % 8) = _
        rw [hq, ← h4]
        rfl
      · have h4 := h3 a b hab hl
        show w.2 a b = _
        rw [h4]
        by_cases hlt : a * 8 + b < k
        · rw [if_pos hlt, if_pos ((hix a b hab e).mpr hlt)]
        · rw [if_neg hlt, if_neg (fun z => hlt ((hix a b hab e).mp z))]
    | cons m r =>
      have hD := rt_del h1 hq
      have hu : up (k / 8) (k % 8) = true := (h1.2.2.2.1 (k / 8) (k % 8)).1 (by rw [hq]; exact fun z => nomatch z)
      have hge : K ≤ rt_lv n rl (k / 8) (k % 8) := by
        by_cases z : rt_lv n rl (k / 8) (k % 8) < K
        · have := h2 _ _ hu z
          rw [hq] at this
          exact absurd this (fun z => nomatch z)
        · omega
      refine ⟨hD.1, fun a b hab hl => ?_, fun a b hab hl => ?_⟩
      · have e : ¬ (a = k / 8 ∧ b = k % 8) := by
          rintro ⟨rfl, rfl⟩
          omega
        exact (hD.2.2 a b hab (by omega) e).trans (h2 a b hab hl)
      · by_cases e : a = k / 8 ∧ b = k % 8
        · obtain ⟨rfl, rfl⟩ := e
          have h4 := h3 (k / 8) (k % 8) hab hl
          rw [if_neg (by omega), hq] at h4
          rw [if_pos (by omega), ← h4]
          exact hD.2.1
        · refine (hD.2.2 a b hab (by omega) e).trans ((h3 a b hab hl).trans ?_)
          by_cases hlt : a * 8 + b < k
          · rw [if_pos hlt, if_pos ((hix a b hab e).mpr hlt)]
          · rw [if_neg hlt, if_neg (fun z => hlt ((hix a b hab e).mp z))]
/-- after r rounds a direction of level l has at most 4 l - r messages -/
def rt_J (n : Nat) (rl : Nat → Nat → Nat) (up : Nat → Nat → Bool) (Q : rt_QT) (r : Nat) : Prop :=
  ∀ a b, up a b = true → (Q a b).length ≤ 4 * rt_lv n rl a b - r
theorem rt_lv_pos {n : Nat} {rl : Nat → Nat → Nat} {up : Nat → Nat → Bool} (hc : rt_cf n rl up) {a b : Nat} (h : up a b = true) : 1 ≤ rt_lv n rl a b ∧ rt_lv n rl a b ≤ 2 * n := by
  have h1 := (rt_up_lt hc h).1
  have h2 := rt_ht_pos (n := n) (rl := rl) h1
  have h3 := rt_ht_le n rl a
  unfold rt_lv
  by_cases e : rl a b = 2
  · rw [if_pos e]; omega
  · rw [if_neg e]; omega
theorem rt_J_0 {n d : Nat} {rl : Nat → Nat → Nat} {up : Nat → Nat → Bool} {og : Nat → Bool} {H : rt_HT} {Q : rt_QT} (hI : rt_inv n d rl up og H Q) : rt_J n rl up Q 0 := by
  intro a b hab
  have h1 := (rt_lv_pos hI.1 hab).1
  have h2 := (hI.2.2.2.1 a b).2.1
  have h3 := hI.2.1.2
  omega
theorem rt_J_s {n d : Nat} {rl : Nat → Nat → Nat} {up : Nat → Nat → Bool} {og : Nat → Bool} {s : rt_HT × rt_QT}
    (hI : rt_inv n d rl up og s.1 s.2) {r : Nat} (hJ : rt_J n rl up s.2 r) :
    rt_inv n d rl up og (rt_rd n d rl up og s 64).1 (rt_rd n d rl up og s 64).2 ∧ rt_J n rl up (rt_rd n d rl up og s 64).2 (r + 1) := by
  have h0 := (rt_rd_lv hI 0 (fun a b _ h => absurd h (Nat.not_lt_zero _)) 64).1
  refine ⟨h0, fun a b hab => ?_⟩
  by_cases hr : 4 * (rt_lv n rl a b - 1) ≤ r
  · have hK : ∀ c e, up c e = true → rt_lv n rl c e < rt_lv n rl a b → s.2 c e = [] := by
      intro c e hce hl
      have h1 := hJ c e hce
      exact List.length_eq_zero_iff.mp (by omega)
    have h2 := (rt_rd_lv hI _ hK 64).2.2 a b hab rfl
    have h3 := rt_up_lt hI.1 hab
    have h4 := hI.1.2.1
    rw [if_pos (by omega)] at h2
    rw [h2, List.length_tail]
    have := hJ a b hab
    omega
  · have h2 := (h0.2.2.2.1 a b).2.1
    have h3 := hI.2.1.2
    omega
theorem rt_J_end {n d : Nat} {rl : Nat → Nat → Nat} {up : Nat → Nat → Bool} {og : Nat → Bool} {H : rt_HT} {Q : rt_QT} (hI : rt_inv n d rl up og H Q)
    {r : Nat} (hr : 64 ≤ r) (hJ : rt_J n rl up Q r) (a b : Nat) : Q a b = [] := by
  by_cases hab : up a b = true
  · have h1 := hJ a b hab
    have h2 := (rt_lv_pos hI.1 hab).2
    have h3 := hI.1.2.1
    exact List.length_eq_zero_iff.mp (by omega)
  · by_cases e : Q a b = []
    · exact e
    · exact absurd ((hI.2.2.2.1 a b).1 e) hab
/-- nothing in flight: what is heard is what goes out, and there is one such state alone -/
theorem rt_quiet {n d : Nat} {rl : Nat → Nat → Nat} {up : Nat → Nat → Bool} {og : Nat → Bool} {H : rt_HT} {Q : rt_QT} (hI : rt_inv n d rl up og H Q)
    (hq : ∀ a b, Q a b = []) : ∀ a b, up a b = true → H a b = rt_ex n rl og H a b := by
  intro a b hab
  have := hI.2.2.2.2 a b hab
  rw [hq a b] at this
  exact this
theorem rt_quiet_uniq {n d d' : Nat} {rl : Nat → Nat → Nat} {up : Nat → Nat → Bool} {og : Nat → Bool} {H H' : rt_HT} {Q Q' : rt_QT} (hI : rt_inv n d rl up og H Q)
    (hI' : rt_inv n d' rl up og H' Q') (hq : ∀ a b, Q a b = []) (hq' : ∀ a b, Q' a b = []) : H = H' ∧ Q = Q' :=
  ⟨rt_uniq hI.1 og (rt_gh_gd hI.2.2.1) (rt_gh_gd hI'.2.2.1) (rt_quiet hI hq) (rt_quiet hI' hq'), by funext a b; rw [hq, hq']⟩
/-! a link comes, goes down, comes up again -/
def rt_lk {α : Type} (g : Nat → Nat → α) (a b : Nat) (x y : α) : Nat → Nat → α := rt_u2 (rt_u2 g a b x) b a y
theorem rt_lk_1 {α : Type} {g : Nat → Nat → α} {a b : Nat} {x y : α} (h : a ≠ b) : rt_lk g a b x y a b = x := by
  unfold rt_lk
  rw [rt_u2_n (fun z => h z.1), rt_u2_s]
theorem rt_lk_2 {α : Type} {g : Nat → Nat → α} {a b : Nat} {x y : α} : rt_lk g a b x y b a = y := rt_u2_s
theorem rt_lk_n {α : Type} {g : Nat → Nat → α} {a b c e : Nat} {x y : α} (h1 : ¬ (c = a ∧ e = b)) (h2 : ¬ (c = b ∧ e = a)) : rt_lk g a b x y c e = g c e := by
  unfold rt_lk
  rw [rt_u2_n h2, rt_u2_n h1]
theorem rt_set {n d : Nat} {rl : Nat → Nat → Nat} {up : Nat → Nat → Bool} {H : rt_HT} {Q : rt_QT} {a b : Nat} (hne : a ≠ b) (z : Bool)
    (gh : rt_gh n up H) (gq : rt_gq n d up Q) :
    rt_gh n (rt_lk up a b z z) (rt_lk H a b [] []) ∧ rt_gq n d (rt_lk up a b z z) (rt_lk Q a b [] []) := by
  constructor
  · intro c e
    by_cases h1 : c = a ∧ e = b
    · obtain ⟨rfl, rfl⟩ := h1
      rw [rt_lk_1 hne]
      exact ⟨rt_pd_nil n c, fun y => absurd rfl y⟩
    · by_cases h2 : c = b ∧ e = a
      · obtain ⟨rfl, rfl⟩ := h2
        rw [rt_lk_2]
        exact ⟨rt_pd_nil n c, fun y => absurd rfl y⟩
      · rw [rt_lk_n h1 h2, rt_lk_n h1 h2]
        exact gh c e
  · intro c e
    by_cases h1 : c = a ∧ e = b
    · obtain ⟨rfl, rfl⟩ := h1
      rw [rt_lk_1 hne]
      exact ⟨fun y => absurd rfl y, Nat.zero_le _, fun m hm => absurd hm List.not_mem_nil⟩
    · by_cases h2 : c = b ∧ e = a
      · obtain ⟨rfl, rfl⟩ := h2
        rw [rt_lk_2]
        exact ⟨fun y => absurd rfl y, Nat.zero_le _, fun m hm => absurd hm List.not_mem_nil⟩
      · rw [rt_lk_n h1 h2, rt_lk_n h1 h2]
        exact gq c e
theorem rt_set_up {rl : Nat → Nat → Nat} {up : Nat → Nat → Bool} {a b : Nat} (hne : a ≠ b) (z : Bool) (h : rt_up rl up) (h1 : rl a b ≠ 0) (h2 : rl b a ≠ 0) : rt_up rl (rt_lk up a b z z) := by
  intro c e hce
  by_cases k1 : c = a ∧ e = b
  · obtain ⟨rfl, rfl⟩ := k1
    rw [rt_lk_1 hne] at hce
    exact ⟨h1, by rw [rt_lk_2]; exact hce⟩
  · by_cases k2 : c = b ∧ e = a
    · obtain ⟨rfl, rfl⟩ := k2
      rw [rt_lk_2] at hce
      exact ⟨h2, by rw [rt_lk_1 hne]; exact hce⟩
    · rw [rt_lk_n k1 k2] at hce
      have h3 := h c e hce
      refine ⟨h3.1, ?_⟩
      rw [rt_lk_n (fun y => k2 ⟨y.2, y.1⟩) (fun y => k1 ⟨y.2, y.1⟩)]
      exact h3.2
theorem rt_R_new {rl rl' : Nat → Nat → Nat} {p c : Nat} (h : ∀ x y, rl' x y = 2 → rl x y = 2 ∨ (x = p ∧ y = c)) : ∀ (k x y : Nat), rt_rc rl' k x y → rt_R rl x y ∨ (rt_R rl x p ∧ rt_R rl c y) := by
  intro k
  induction k with
  | zero => intro x y e; cases e; exact Or.inl (rt_R_refl rl x)
  | succ k ih =>
    intro x y e
    obtain ⟨w, hw, hk⟩ := e
    rcases h x w hw with z | ⟨rfl, rfl⟩
    · rcases ih w y hk with q | q
      · exact Or.inl (rt_R_step z q)
      · exact Or.inr ⟨rt_R_step z q.1, q.2⟩
    · rcases ih w y hk with q | q
      · exact Or.inr ⟨rt_R_refl rl x, q⟩
      · exact Or.inr ⟨rt_R_refl rl x, q.2⟩
theorem rt_ac_new {rl rl' : Nat → Nat → Nat} {p c : Nat} (ha : rt_ac rl) (h : ∀ x y, rl' x y = 2 → rl x y = 2 ∨ (x = p ∧ y = c)) (hn : ¬ rt_R rl c p) : rt_ac rl' := by
  intro x y hxy hr
  obtain ⟨k, hk⟩ := hr
  rcases h x y hxy with z | ⟨rfl, rfl⟩
  · rcases rt_R_new h k y x hk with q | q
    · exact ha x y z q
    · exact hn (rt_R_trans q.2 (rt_R_step z q.1))
  · rcases rt_R_new h k y x hk with q | q
    · exact hn q
    · exact hn q.1
theorem rt_ac_same {rl rl' : Nat → Nat → Nat} (ha : rt_ac rl) (h : ∀ x y, rl' x y = 2 → rl x y = 2) : rt_ac rl' := by
  have h2 : ∀ (k x y : Nat), rt_rc rl' k x y → rt_R rl x y := by
    intro k
    induction k with
    | zero => intro x y e; cases e; exact rt_R_refl rl x
    | succ k ih =>
      intro x y e
      obtain ⟨w, hw, hk⟩ := e
      exact rt_R_step (h x w hw) (ih w y hk)
  intro x y hxy hr
  obtain ⟨k, hk⟩ := hr
  exact ha x y (h x y hxy) (h2 k y x hk)
theorem rt_add_rl {n : Nat} {rl : Nat → Nat → Nat} (hr : rt_rl n rl) {a b k : Nat} (ha : a < n) (hb : b < n) (hne : a ≠ b) (h2 : 2 ≤ k) (h4 : k ≤ 4) : rt_rl n (rt_lk rl a b k (6 - k)) := by
  intro c e
  by_cases k1 : c = a ∧ e = b
  · obtain ⟨rfl, rfl⟩ := k1
    rw [rt_lk_1 hne, rt_lk_2]
    exact Or.inr ⟨ha, hb, hne, by omega⟩
  · by_cases k2 : c = b ∧ e = a
    · obtain ⟨rfl, rfl⟩ := k2
      rw [rt_lk_1 hne, rt_lk_2]
      exact Or.inr ⟨hb, ha, fun y => hne y.symm, by omega⟩
    · rw [rt_lk_n k1 k2, rt_lk_n (fun y => k2 ⟨y.2, y.1⟩) (fun y => k1 ⟨y.2, y.1⟩)]
      exact hr c e
theorem rt_add_ac {rl : Nat → Nat → Nat} (hac : rt_ac rl) {a b k : Nat} (hne : a ≠ b) (h2 : 2 ≤ k) (h4 : k ≤ 4) (hk2 : k = 2 → ¬ rt_R rl b a) (hk4 : k = 4 → ¬ rt_R rl a b) : rt_ac (rt_lk rl a b k (6 - k)) := by
  by_cases e2 : k = 2
  · refine rt_ac_new (p := a) (c := b) hac (fun x y h => ?_) (hk2 e2)
    by_cases k1 : x = a ∧ y = b
    · exact Or.inr k1
    · by_cases k2 : x = b ∧ y = a
      · obtain ⟨rfl, rfl⟩ := k2
        rw [rt_lk_2] at h
        omega
      · rw [rt_lk_n k1 k2] at h
        exact Or.inl h
  · by_cases e4 : k = 4
    · refine rt_ac_new (p := b) (c := a) hac (fun x y h => ?_) (hk4 e4)
      by_cases k1 : x = a ∧ y = b
      · obtain ⟨rfl, rfl⟩ := k1
        rw [rt_lk_1 hne] at h
        omega
      · by_cases k2 : x = b ∧ y = a
        · exact Or.inr k2
        · rw [rt_lk_n k1 k2] at h
          exact Or.inl h
    · refine rt_ac_same hac (fun x y h => ?_)
      by_cases k1 : x = a ∧ y = b
      · obtain ⟨rfl, rfl⟩ := k1
        rw [rt_lk_1 hne] at h
        omega
      · by_cases k2 : x = b ∧ y = a
        · obtain ⟨rfl, rfl⟩ := k2
          rw [rt_lk_2] at h
          omega
        · rw [rt_lk_n k1 k2] at h
          exact h
end
section
/-! the expected paths: what the three phases ask, and that it is the quiet state -/
abbrev rt_of (rl : Nat → Nat → Nat) (up : Nat → Nat → Bool) (K : Nat → Nat) (q v u : Nat) : Prop :=
  up v u = true ∧ rl v u = q ∧ K u ≠ 0 ∧ (q = 4 ∨ K u = 1 ∨ K u = 2)
def rt_bs (n : Nat) (rl : Nat → Nat → Nat) (up : Nat → Nat → Bool) (P : Nat → List Nat) (K : Nat → Nat) (q v : Nat) : Option Nat :=
  rt_mn (fun u => decide (rt_of rl up K q v u)) (fun u => (P u).length) n
theorem rt_bs_some {n : Nat} {rl : Nat → Nat → Nat} {up : Nat → Nat → Bool} {P : Nat → List Nat} {K : Nat → Nat} {q v b : Nat} (h : rt_bs n rl up P K q v = some b) :
    b < n ∧ rt_of rl up K q v b ∧ ∀ w, w < n → rt_of rl up K q v w → (P b).length < (P w).length ∨ ((P b).length = (P w).length ∧ b ≤ w) := by
  have h2 := (rt_mn_spec _ _ n).1 b h
  exact ⟨h2.1, of_decide_eq_true h2.2.1, fun w hw hcw => h2.2.2 w hw (decide_eq_true hcw)⟩
theorem rt_bs_none {n : Nat} {rl : Nat → Nat → Nat} {up : Nat → Nat → Bool} {P : Nat → List Nat} {K : Nat → Nat} {q v : Nat} (h : rt_bs n rl up P K q v = none) :
    ∀ w, w < n → ¬ rt_of rl up K q v w := fun w hw hcw => (rt_mn_spec _ _ n).2 h w hw (decide_eq_true hcw)
theorem rt_bs_congr {n : Nat} {rl : Nat → Nat → Nat} {up : Nat → Nat → Bool} {P P' : Nat → List Nat} {K K' : Nat → Nat} {q v : Nat}
    (h : ∀ u, u < n → (rt_of rl up K q v u ↔ rt_of rl up K' q v u)) (h2 : ∀ u, u < n → rt_of rl up K q v u → P u = P' u) : rt_bs n rl up P K q v = rt_bs n rl up P' K' q v := by
  refine rt_mn_congr (fun u hu => decide_eq_decide.mpr (h u hu)) (fun u hu hc => ?_)
  show (P u).length = (P' u).length
  rw [h2 u hu (of_decide_eq_true hc)]
def rt_F (n : Nat) (rl : Nat → Nat → Nat) (up : Nat → Nat → Bool) (og : Nat → Bool) (P : Nat → List Nat) (K : Nat → Nat) : Prop :=
  ∀ v, v < n → (og v = true ∧ K v = 1 ∧ P v = [v]) ∨
    (¬ og v = true ∧ ((∃ q b, 2 ≤ q ∧ q ≤ 4 ∧ rt_bs n rl up P K q v = some b ∧ K v = q ∧ P v = v :: P b ∧ ∀ j, 2 ≤ j → j < q → rt_bs n rl up P K j v = none) ∨
      (K v = 0 ∧ P v = [] ∧ ∀ j, 2 ≤ j → j ≤ 4 → rt_bs n rl up P K j v = none)))
section
variable {n : Nat} {rl : Nat → Nat → Nat} {up : Nat → Nat → Bool} {og : Nat → Bool} {P : Nat → List Nat} {K : Nat → Nat}
theorem rt_rl_op (hr : rt_rl n rl) {a b : Nat} (h : rl a b ≠ 0) : a < n ∧ b < n ∧ a ≠ b ∧ rl b a = 6 - rl a b ∧ 2 ≤ rl a b ∧ rl a b ≤ 4 := by
  rcases hr a b with z | z
  · exact absurd z h
  · refine ⟨z.1, z.2.1, z.2.2.1, ?_⟩
    omega
theorem rt_F_1 (hc : rt_cf n rl up) (hF : rt_F n rl up og P K) : ∀ m v, v < n → rt_ht n rl v < m → (K v = 1 ∨ K v = 2) →
    rt_ok n (P v) ∧ (∀ x, x ∈ P v → (K x = 1 ∨ K x = 2) ∧ rt_R rl v x) ∧ P v ≠ [] := by
  obtain ⟨_, _, hr, hup, ha⟩ := hc
  intro m
  induction m with
  | zero => intro v _ h; omega
  | succ m ih =>
    intro v hv hm hk
    rcases hF v hv with ⟨_, hk1, hp⟩ | ⟨_, ⟨q, b, h2, h4, hb, hkq, hp, _⟩ | ⟨hk0, _, _⟩⟩
    · rw [hp]
      refine ⟨rt_ok_cons (rt_ok_nil n) hv List.not_mem_nil, fun x hx => ?_, fun z => nomatch z⟩
      rw [List.mem_singleton.mp hx]
      exact ⟨Or.inl hk1, rt_R_refl rl v⟩
    · have hq : q = 2 := by omega
      subst hq
      have hB := rt_bs_some hb
      obtain ⟨hbn, ⟨hbu, hbr, hb0, hbk⟩, _⟩ := hB
      have hbk' : K b = 1 ∨ K b = 2 := by omega
      have hlt := rt_ht_lt ha hbr hv
      obtain ⟨i1, i2, i3⟩ := ih b hbn (by omega) hbk'
      have hnm : v ∉ P b := fun z => ha v b hbr (i2 v z).2
      rw [hp]
      refine ⟨rt_ok_cons i1 hv hnm, fun x hx => ?_, fun z => nomatch z⟩
      rcases List.mem_cons.mp hx with e | e
      · rw [e]
        exact ⟨Or.inr hkq, rt_R_refl rl v⟩
      · exact ⟨(i2 x e).1, rt_R_step hbr (i2 x e).2⟩
    · omega
theorem rt_F_12 (hc : rt_cf n rl up) (hF : rt_F n rl up og P K) {v : Nat} (hv : v < n) (hk : K v = 1 ∨ K v = 2) :
    rt_ok n (P v) ∧ (∀ x, x ∈ P v → (K x = 1 ∨ K x = 2) ∧ rt_R rl v x) ∧ P v ≠ [] := rt_F_1 hc hF _ v hv (Nat.lt_succ_self _) hk
theorem rt_F_3 (hc : rt_cf n rl up) (hF : rt_F n rl up og P K) {v : Nat} (hv : v < n) (hk : K v = 3) :
    rt_ok n (P v) ∧ (∀ x, x ∈ P v → x = v ∨ (K x = 1 ∨ K x = 2)) ∧ P v ≠ [] := by
  rcases hF v hv with ⟨_, hk1, hp⟩ | ⟨_, ⟨q, b, h2, h4, hb, hkq, hp, _⟩ | ⟨hk0, _, _⟩⟩
  · omega
  · have hq : q = 3 := by omega
    subst hq
    obtain ⟨hbn, ⟨hbu, hbr, hb0, hbk⟩, _⟩ := rt_bs_some hb
    obtain ⟨i1, i2, i3⟩ := rt_F_12 hc hF hbn (show K b = 1 ∨ K b = 2 by omega)
    have hnm : v ∉ P b := fun z => by
      have := (i2 v z).1
      omega
    rw [hp]
    refine ⟨rt_ok_cons i1 hv hnm, fun x hx => ?_, fun z => nomatch z⟩
    rcases List.mem_cons.mp hx with e | e
    · exact Or.inl e
    · exact Or.inr (i2 x e).1
  · omega
theorem rt_F_le (hF : rt_F n rl up og P K) {v : Nat} (hv : v < n) : K v ≤ 4 := by
  rcases hF v hv with ⟨_, hk1, hp⟩ | ⟨_, ⟨q, b, h2, h4, hb, hkq, hp, _⟩ | ⟨hk0, _, _⟩⟩ <;> omega
theorem rt_F_4 (hc : rt_cf n rl up) (hF : rt_F n rl up og P K) : ∀ m v, v < n → n - rt_ht n rl v < m → K v = 4 →
    rt_ok n (P v) ∧ (∀ x, x ∈ P v → rt_R rl x v ∨ (K x = 1 ∨ K x = 2 ∨ K x = 3)) ∧ P v ≠ [] := by
  intro m
  induction m with
  | zero => intro v _ h; omega
  | succ m ih =>
    intro v hv hm hk
    have hc' := hc
    obtain ⟨_, _, hr, hup, ha⟩ := hc'
    rcases hF v hv with ⟨_, hk1, hp⟩ | ⟨_, ⟨q, b, h2, h4, hb, hkq, hp, _⟩ | ⟨hk0, _, _⟩⟩
    · omega
    · have hq : q = 4 := by omega
      subst hq
      obtain ⟨hbn, ⟨hbu, hbr, hb0, _⟩, _⟩ := rt_bs_some hb
      have hop := rt_rl_op hr (a := v) (b := b) (by omega)
      have hbv : rl b v = 2 := by omega
      have hlt := rt_ht_lt ha hbv hbn
      have hle := rt_ht_le n rl b
      have hle4 := rt_F_le hF hbn
      have key : rt_ok n (P b) ∧ (∀ x, x ∈ P b → rt_R rl x b ∨ (K x = 1 ∨ K x = 2 ∨ K x = 3)) := by
        by_cases h4 : K b = 4
        · obtain ⟨i1, i2, _⟩ := ih b hbn (by omega) h4
          exact ⟨i1, i2⟩
        · by_cases h3 : K b = 3
          · obtain ⟨i1, i2, _⟩ := rt_F_3 hc hF hbn h3
            refine ⟨i1, fun x hx => ?_⟩
            rcases i2 x hx with e | e
            · rw [e]; exact Or.inl (rt_R_refl rl b)
            · omega
          · obtain ⟨i1, i2, _⟩ := rt_F_12 hc hF hbn (show K b = 1 ∨ K b = 2 by omega)
            refine ⟨i1, fun x hx => ?_⟩
            have := (i2 x hx).1
            omega
      have hnm : v ∉ P b := fun z => by
        rcases key.2 v z with e | e
        · exact ha b v hbv e
        · omega
      rw [hp]
      refine ⟨rt_ok_cons key.1 hv hnm, fun x hx => ?_, fun z => nomatch z⟩
      rcases List.mem_cons.mp hx with e | e
      · rw [e]; exact Or.inl (rt_R_refl rl v)
      · rcases key.2 x e with y | y
        · exact Or.inl (rt_R_snoc y hbv)
        · exact Or.inr y
    · omega
theorem rt_F_ok (hc : rt_cf n rl up) (hF : rt_F n rl up og P K) {v : Nat} (hv : v < n) : rt_ok n (P v) ∧ (K v = 0 ↔ P v = []) := by
  have hle := rt_F_le hF hv
  by_cases h4 : K v = 4
  · obtain ⟨i1, _, i3⟩ := rt_F_4 hc hF _ v hv (Nat.lt_succ_self _) h4
    exact ⟨i1, fun z => by omega, fun z => absurd z i3⟩
  · by_cases h3 : K v = 3
    · obtain ⟨i1, _, i3⟩ := rt_F_3 hc hF hv h3
      exact ⟨i1, fun z => by omega, fun z => absurd z i3⟩
    · by_cases h0 : K v = 0
      · rcases hF v hv with ⟨_, hk1, hp⟩ | ⟨_, ⟨q, b, h2, h4, hb, hkq, hp, _⟩ | ⟨hk0, hp, _⟩⟩
        · omega
        · omega
        · rw [hp]
          exact ⟨rt_ok_nil n, fun _ => rfl, fun _ => hk0⟩
      · obtain ⟨i1, _, i3⟩ := rt_F_12 hc hF hv (show K v = 1 ∨ K v = 2 by omega)
        exact ⟨i1, fun z => absurd z h0, fun z => absurd z i3⟩
/-- what is offered does not hold the node itself -/
theorem rt_F_nm (hc : rt_cf n rl up) (hF : rt_F n rl up og P K) {v u q : Nat} (hv : v < n) (ho : rt_of rl up K q v u)
    (h3 : q = 3 → K v ≠ 1 ∧ K v ≠ 2) (h4 : q = 4 → K v ≠ 1 ∧ K v ≠ 2 ∧ K v ≠ 3) : v ∉ P u := by
  have hc' := hc
  obtain ⟨_, _, hr, hup, ha⟩ := hc'
  obtain ⟨hu, hq, h0, hk⟩ := ho
  have hop := rt_rl_op hr (hup v u hu).1
  have hle := rt_F_le hF hop.2.1
  intro z
  by_cases k4 : K u = 4
  · have e4 : q = 4 := by omega
    have hn := h4 e4
    have huv : rl u v = 2 := by omega
    rcases (rt_F_4 hc hF _ u hop.2.1 (Nat.lt_succ_self _) k4).2.1 v z with e | e
    · exact ha u v huv e
    · omega
  · by_cases k3 : K u = 3
    · have e4 : q = 4 := by omega
      have hn := h4 e4
      rcases (rt_F_3 hc hF hop.2.1 k3).2.1 v z with e | e
      · exact hop.2.2.1 e
      · omega
    · have h12 := (rt_F_12 hc hF hop.2.1 (show K u = 1 ∨ K u = 2 by omega)).2.1 v z
      by_cases e2 : q = 2
      · exact ha v u (by omega) h12.2
      · by_cases e3 : q = 3
        · have := h3 e3
          omega
        · have := h4 (by omega)
          omega
def rt_HE (rl : Nat → Nat → Nat) (up : Nat → Nat → Bool) (P : Nat → List Nat) (K : Nat → Nat) : rt_HT := fun f t => if up f t = true then rt_xp rl P K f t else []
theorem rt_HE_gd (hc : rt_cf n rl up) (hF : rt_F n rl up og P K) : rt_gd n up (rt_HE rl up P K) := by
  intro a b
  unfold rt_HE
  by_cases h : up a b = true
  · rw [if_pos h]
    refine ⟨?_, fun _ => h⟩
    unfold rt_xp
    by_cases h2 : K a = 1 ∨ K a = 2 ∨ rl a b = 2
    · rw [if_pos h2]; exact (rt_F_ok hc hF (rt_up_lt hc h).1).1
    · rw [if_neg h2]; exact rt_ok_nil n
  · rw [if_neg h]
    exact ⟨rt_ok_nil n, fun z => absurd rfl z⟩
theorem rt_HE_cd (hc : rt_cf n rl up) (hF : rt_F n rl up og P K) {v u : Nat} (h : rt_cd (rt_HE rl up P K) v u) :
    rt_of rl up K (rl v u) v u ∧ rt_HE rl up P K u v = P u ∧ v ∉ P u := by
  have hu : up u v = true := by
    by_cases z : up u v = true
    · exact z
    · exact absurd (show rt_HE rl up P K u v = [] from if_neg z) h.1
  have hc' := hc
  obtain ⟨_, _, hr, hup, ha⟩ := hc'
  have h1 : rt_HE rl up P K u v = rt_xp rl P K u v := if_pos hu
  have hx : K u = 1 ∨ K u = 2 ∨ rl u v = 2 := by
    by_cases z : K u = 1 ∨ K u = 2 ∨ rl u v = 2
    · exact z
    · exact absurd (h1.trans (if_neg z)) h.1
  have h2 : rt_HE rl up P K u v = P u := h1.trans (if_pos hx)
  have hop := rt_rl_op hr (hup u v hu).1
  have h3 := h.1
  have h4 := h.2
  rw [h2] at h3 h4
  have h0 : K u ≠ 0 := fun z => h3 ((rt_F_ok hc hF hop.1).2.mp z)
  refine ⟨⟨(hup u v hu).2, rfl, h0, ?_⟩, h2, h4⟩
  omega
theorem rt_HE_of (hc : rt_cf n rl up) (hF : rt_F n rl up og P K) {v u q : Nat} (h : rt_of rl up K q v u) (hm : v ∉ P u) :
    rt_cd (rt_HE rl up P K) v u ∧ rt_HE rl up P K u v = P u := by
  have hc' := hc
  obtain ⟨_, _, hr, hup, ha⟩ := hc'
  obtain ⟨hu, hq, h0, hk⟩ := h
  have hop := rt_rl_op hr (hup v u hu).1
  have h1 : rt_HE rl up P K u v = rt_xp rl P K u v := if_pos (hup v u hu).2
  have h2 : rt_HE rl up P K u v = P u := h1.trans (if_pos (by omega))
  refine ⟨?_, h2⟩
  show rt_HE rl up P K u v ≠ [] ∧ v ∉ rt_HE rl up P K u v
  rw [h2]
  exact ⟨fun z => h0 ((rt_F_ok hc hF hop.2.1).2.mpr z), hm⟩
theorem rt_F_st (hc : rt_cf n rl up) (hF : rt_F n rl up og P K) {v : Nat} (hv : v < n) :
    rt_pt n rl og (rt_HE rl up P K) v = P v ∧ rt_kd n rl og (rt_HE rl up P K) v = K v := by
  have hc' := hc
  obtain ⟨_, h8, hr, hup, ha⟩ := hc'
  unfold rt_pt rt_kd rt_ch
  rcases hF v hv with ⟨ho, hk1, hp⟩ | ⟨ho, ⟨q, b, h2, h4, hb, hkq, hp, hj⟩ | ⟨hk0, hp, hj⟩⟩
  · rw [if_pos ho, hk1, hp]
    exact ⟨if_pos rfl, if_pos rfl⟩
  · rw [if_neg ho]
    obtain ⟨hbn, hbo, hbm⟩ := rt_bs_some hb
    have hnm := rt_F_nm hc hF hv hbo (fun z => by omega) (fun z => by omega)
    obtain ⟨hcd, hHb⟩ := rt_HE_of hc hF hbo hnm
    have hsc : rt_sc rl (rt_HE rl up P K) v n = some b := by
      apply rt_sc_of
      refine ⟨hbn, hcd, fun w hw hcw => ?_⟩
      obtain ⟨hwo, hHw, _⟩ := rt_HE_cd hc hF hcw
      have hopw := rt_rl_op hr (hup v w hwo.1).1
      have hlb := rt_len (rt_F_ok hc hF hbn).1
      have e1 : rt_rk rl (rt_HE rl up P K) v b = q * 16 + (P b).length := by unfold rt_rk; rw [hHb, hbo.2.1]
      have e2 : rt_rk rl (rt_HE rl up P K) v w = rl v w * 16 + (P w).length := by unfold rt_rk; rw [hHw]
      rw [e1, e2]
      by_cases hlt : rl v w < q
      · exact absurd hwo (rt_bs_none (hj (rl v w) hopw.2.2.2.2.1 hlt) w hw)
      · by_cases heq : rl v w = q
        · rw [heq] at hwo ⊢
          have := hbm w hw hwo
          omega
        · left; omega
    have hne : ¬ b = v := fun z => by
      have := (rt_rl_op hr (hup v b hbo.1).1).2.2.1
      exact this z.symm
    rw [hsc]
    refine ⟨(if_neg hne).trans ?_, (if_neg hne).trans ?_⟩
    · rw [hHb, hp]
    · rw [hbo.2.1, hkq]
  · rw [if_neg ho]
    have hsc : rt_sc rl (rt_HE rl up P K) v n = none := by
      apply rt_sc_no
      intro w hw hcw
      obtain ⟨hwo, hHw, _⟩ := rt_HE_cd hc hF hcw
      have hopw := rt_rl_op hr (hup v w hwo.1).1
      exact rt_bs_none (hj (rl v w) hopw.2.2.2.2.1 hopw.2.2.2.2.2) w hw hwo
    rw [hsc, hk0, hp]
    exact ⟨rfl, rfl⟩
theorem rt_F_fix (hc : rt_cf n rl up) (hF : rt_F n rl up og P K) : ∀ a b, up a b = true → rt_HE rl up P K a b = rt_ex n rl og (rt_HE rl up P K) a b := by
  intro a b hab
  have h := rt_F_st hc hF (rt_up_lt hc hab).1
  unfold rt_ex rt_xp
  rw [h.1, h.2]
  exact if_pos hab
theorem rt_F_uniq (hc : rt_cf n rl up) (hF : rt_F n rl up og P K) {P' : Nat → List Nat} {K' : Nat → Nat} (hF' : rt_F n rl up og P' K') {v : Nat} (hv : v < n) : P v = P' v ∧ K v = K' v := by
  have e := rt_uniq hc og (rt_HE_gd hc hF) (rt_HE_gd hc hF') (rt_F_fix hc hF) (rt_F_fix hc hF')
  have h1 := rt_F_st hc hF hv
  have h2 := rt_F_st hc hF' hv
  rw [e] at h1
  exact ⟨h1.1.symm.trans h2.1, h1.2.symm.trans h2.2⟩
theorem rt_F_quiet (hF : rt_F n rl up og P K) {d : Nat} {H : rt_HT} {Q : rt_QT} (hI : rt_inv n d rl up og H Q) (hq : ∀ a b, Q a b = []) :
    H = rt_HE rl up P K ∧ ∀ v, v < n → rt_pt n rl og H v = P v ∧ rt_kd n rl og H v = K v := by
  have e := rt_uniq hI.1 og (rt_gh_gd hI.2.2.1) (rt_HE_gd hI.1 hF) (rt_quiet hI hq) (rt_F_fix hI.1 hF)
  refine ⟨e, fun v hv => ?_⟩
  rw [e]
  exact rt_F_st hI.1 hF hv
end
end
section
/-! the phases in rounds, in place: they end in what the phases ask -/
abbrev rt_ET : Type := (Nat → List Nat) × (Nat → Nat)
def rt_u1 {α : Type} (g : Nat → α) (v : Nat) (x : α) : Nat → α := fun w => if w = v then x else g w
theorem rt_u1_s {α : Type} {g : Nat → α} {v : Nat} {x : α} : rt_u1 g v x v = x := if_pos rfl
theorem rt_u1_n {α : Type} {g : Nat → α} {v w : Nat} {x : α} (h : w ≠ v) : rt_u1 g v x w = g w := if_neg h
def rt_tk (n : Nat) (rl : Nat → Nat → Nat) (up : Nat → Nat → Bool) (q v : Nat) (E : rt_ET) : rt_ET :=
  match rt_bs n rl up E.1 E.2 q v with
  | none => E
  | some b => (rt_u1 E.1 v (v :: E.1 b), rt_u1 E.2 v q)
def rt_ps (n : Nat) (rl : Nat → Nat → Nat) (up : Nat → Nat → Bool) (q : Nat) (E : rt_ET) : Nat → rt_ET
  | 0 => E
  | k + 1 => if (rt_ps n rl up q E k).2 k = 0 ∨ (rt_ps n rl up q E k).2 k = q then rt_tk n rl up q k (rt_ps n rl up q E k) else rt_ps n rl up q E k
def rt_rs (n : Nat) (rl : Nat → Nat → Nat) (up : Nat → Nat → Bool) (q : Nat) (E : rt_ET) : Nat → rt_ET
  | 0 => E
  | k + 1 => rt_ps n rl up q (rt_rs n rl up q E k) n
def rt_E0 (og : Nat → Bool) : rt_ET := (fun v => if og v = true then [v] else [], fun v => if og v = true then 1 else 0)
def rt_fd (n : Nat) (rl : Nat → Nat → Nat) (up : Nat → Nat → Bool) (og : Nat → Bool) (m : Nat) : rt_ET :=
  rt_rs n rl up 4 (rt_rs n rl up 3 (rt_rs n rl up 2 (rt_E0 og) n) m) n
section
variable {n : Nat} {rl : Nat → Nat → Nat} {up : Nat → Nat → Bool}
def rt_M (n : Nat) (rl : Nat → Nat → Nat) (up : Nat → Nat → Bool) (q : Nat) (B E : rt_ET) : Prop :=
  (∀ v, v < n → B.2 v ≠ 0 → E.1 v = B.1 v ∧ E.2 v = B.2 v) ∧
  (∀ v, v < n → B.2 v = 0 → (E.2 v = 0 ∧ E.1 v = []) ∨ (E.2 v = q ∧ ∃ u, u < n ∧ rt_of rl up E.2 q v u))
def rt_Eq (n : Nat) (rl : Nat → Nat → Nat) (up : Nat → Nat → Bool) (q : Nat) (E : rt_ET) (v : Nat) : Prop :=
  (rt_bs n rl up E.1 E.2 q v = none ∧ E.2 v = 0 ∧ E.1 v = []) ∨ ∃ b, rt_bs n rl up E.1 E.2 q v = some b ∧ E.2 v = q ∧ E.1 v = v :: E.1 b
theorem rt_of_ne (hr : rt_rl n rl) {K : Nat → Nat} {q v u : Nat} (hq : 2 ≤ q) (h : rt_of rl up K q v u) : u ≠ v := by
  have h1 := h.2.1
  have := (rt_rl_op hr (a := v) (b := u) (by omega)).2.2.1
  exact fun z => this z.symm
theorem rt_tk_n {q v : Nat} {E : rt_ET} {w : Nat} (h : w ≠ v) : (rt_tk n rl up q v E).1 w = E.1 w ∧ (rt_tk n rl up q v E).2 w = E.2 w := by
  unfold rt_tk
  cases rt_bs n rl up E.1 E.2 q v with
  | none => exact ⟨rfl, rfl⟩
  | some b => exact ⟨rt_u1_n h, rt_u1_n h⟩
theorem rt_visit (hr : rt_rl n rl) {q : Nat} (hq : 2 ≤ q) {B E : rt_ET} (hM : rt_M n rl up q B E) {v : Nat} (hv : v < n) (hB : B.2 v = 0) :
    rt_M n rl up q B (rt_tk n rl up q v E) ∧ rt_Eq n rl up q (rt_tk n rl up q v E) v := by
  unfold rt_tk
  cases hb : rt_bs n rl up E.1 E.2 q v with
  | none =>
    refine ⟨hM, Or.inl ⟨hb, ?_⟩⟩
    rcases hM.2 v hv hB with z | ⟨_, u, hu, ho⟩
    · exact z
    · exact absurd ho (rt_bs_none hb u hu)
  | some b =>
    obtain ⟨hbn, hbo, _⟩ := rt_bs_some hb
    have hne := rt_of_ne hr hq hbo
    have hKv : E.2 v = 0 ∨ E.2 v = q := by
      rcases hM.2 v hv hB with z | z
      · exact Or.inl z.1
      · exact Or.inr z.1
    have hmo : ∀ x u, rt_of rl up E.2 q x u → rt_of rl up (rt_u1 E.2 v q) q x u := by
      intro x u ho
      by_cases e : u = v
      · subst e
        obtain ⟨o1, o2, o3, o4⟩ := ho
        refine ⟨o1, o2, ?_, ?_⟩
        · rw [rt_u1_s]; omega
        · rw [rt_u1_s]; omega
      · show up x u = true ∧ rl x u = q ∧ rt_u1 E.2 v q u ≠ 0 ∧ (q = 4 ∨ rt_u1 E.2 v q u = 1 ∨ rt_u1 E.2 v q u = 2)
        rw [rt_u1_n e]
        exact ho
    refine ⟨⟨fun x hx hB' => ?_, fun x hx hB' => ?_⟩, ?_⟩
    · have e : x ≠ v := fun z => by subst z; exact hB' hB
      show rt_u1 E.1 v (v :: E.1 b) x = B.1 x ∧ rt_u1 E.2 v q x = B.2 x
      rw [rt_u1_n e, rt_u1_n e]
      exact hM.1 x hx hB'
    · show (rt_u1 E.2 v q x = 0 ∧ rt_u1 E.1 v (v :: E.1 b) x = []) ∨ (rt_u1 E.2 v q x = q ∧ ∃ u, u < n ∧ rt_of rl up (rt_u1 E.2 v q) q x u)
      by_cases e : x = v
      · subst e
        rw [rt_u1_s]
        exact Or.inr ⟨rfl, b, hbn, hmo _ _ hbo⟩
      · rw [rt_u1_n e, rt_u1_n e]
        rcases hM.2 x hx hB' with z | ⟨z, u, hu, ho⟩
        · exact Or.inl z
        · exact Or.inr ⟨z, u, hu, hmo _ _ ho⟩
    · refine Or.inr ⟨b, Eq.trans ?_ hb, rt_u1_s, ?_⟩
      · show rt_bs n rl up (rt_u1 E.1 v (v :: E.1 b)) (rt_u1 E.2 v q) q v = rt_bs n rl up E.1 E.2 q v
        refine rt_bs_congr (fun u hu => ?_) (fun u hu ho => ?_)
        · by_cases e : u = v
          · subst e
            exact ⟨fun ho => absurd rfl (rt_of_ne hr hq ho), fun ho => absurd rfl (rt_of_ne hr hq ho)⟩
          · show (up v u = true ∧ rl v u = q ∧ rt_u1 E.2 v q u ≠ 0 ∧ (q = 4 ∨ rt_u1 E.2 v q u = 1 ∨ rt_u1 E.2 v q u = 2)) ↔ _
            rw [rt_u1_n e]
        · exact rt_u1_n (rt_of_ne hr hq ho)
      · show rt_u1 E.1 v (v :: E.1 b) v = v :: rt_u1 E.1 v (v :: E.1 b) b
        rw [rt_u1_s, rt_u1_n hne]
theorem rt_Eq_move {q : Nat} {B E E' : rt_ET} {ρ : Nat → Nat} (hρ : ∀ v u, rl v u = q → q ≠ 3 → ρ u < ρ v)
    (hM : rt_M n rl up q B E) (hM' : rt_M n rl up q B E') {v : Nat} (hv : E'.1 v = E.1 v ∧ E'.2 v = E.2 v)
    (hu : ∀ u, u < n → ρ u < ρ v → E'.1 u = E.1 u ∧ E'.2 u = E.2 u) (h : rt_Eq n rl up q E v) : rt_Eq n rl up q E' v := by
  have hag : ∀ u, u < n → rl v u = q → (E'.1 u = E.1 u ∧ E'.2 u = E.2 u) ∨ (¬ rt_of rl up E.2 q v u ∧ ¬ rt_of rl up E'.2 q v u) := by
    intro u hun hrl
    by_cases hB : B.2 u = 0
    · by_cases e3 : q = 3
      · right
        constructor
        · rintro ⟨_, _, h0, h1⟩
          rcases hM.2 u hun hB with z | z
          · exact h0 z.1
          · omega
        · rintro ⟨_, _, h0, h1⟩
          rcases hM'.2 u hun hB with z | z
          · exact h0 z.1
          · omega
      · exact Or.inl (hu u hun (hρ v u hrl e3))
    · left
      have h1 := hM.1 u hun hB
      have h2 := hM'.1 u hun hB
      rw [h1.1, h1.2]
      exact h2
  have hbs : rt_bs n rl up E.1 E.2 q v = rt_bs n rl up E'.1 E'.2 q v := by
    refine rt_bs_congr (fun u hun => ?_) (fun u hun ho => ?_)
    · by_cases hrl : rl v u = q
      · rcases hag u hun hrl with z | z
        · show _ ↔ (up v u = true ∧ rl v u = q ∧ E'.2 u ≠ 0 ∧ (q = 4 ∨ E'.2 u = 1 ∨ E'.2 u = 2))
          rw [z.2]
        · exact ⟨fun y => absurd y z.1, fun y => absurd y z.2⟩
      · exact ⟨fun y => absurd y.2.1 hrl, fun y => absurd y.2.1 hrl⟩
    · rcases hag u hun ho.2.1 with z | z
      · exact z.1.symm
      · exact absurd ho z.1
  rcases h with ⟨h1, h2, h3⟩ | ⟨b, h1, h2, h3⟩
  · exact Or.inl ⟨hbs ▸ h1, hv.2.trans h2, hv.1.trans h3⟩
  · obtain ⟨hbn, hbo, _⟩ := rt_bs_some h1
    refine Or.inr ⟨b, hbs ▸ h1, hv.2.trans h2, hv.1.trans (h3.trans ?_)⟩
    rcases hag b hbn hbo.2.1 with z | z
    · rw [z.1]
    · exact absurd hbo z.1
theorem rt_Eq_tk {q v : Nat} {E : rt_ET} (h : rt_Eq n rl up q E v) : (rt_tk n rl up q v E).1 v = E.1 v ∧ (rt_tk n rl up q v E).2 v = E.2 v := by
  unfold rt_tk
  rcases h with ⟨h1, _, _⟩ | ⟨b, h1, h2, h3⟩
  · rw [h1]; exact ⟨rfl, rfl⟩
  · rw [h1]
    exact ⟨rt_u1_s.trans h3.symm, rt_u1_s.trans h2.symm⟩
theorem rt_pass (hr : rt_rl n rl) {q : Nat} (hq : 2 ≤ q) {B E : rt_ET} {ρ : Nat → Nat} (hρ : ∀ v u, rl v u = q → q ≠ 3 → ρ u < ρ v)
    (hBq : ∀ v, v < n → B.2 v ≠ q) (hM : rt_M n rl up q B E) {k : Nat} (hk : ∀ v, v < n → B.2 v = 0 → ρ v ≤ k → rt_Eq n rl up q E v) : ∀ i, i ≤ n →
    rt_M n rl up q B (rt_ps n rl up q E i) ∧ (∀ v, v < n → B.2 v = 0 → ρ v ≤ k → rt_Eq n rl up q (rt_ps n rl up q E i) v) ∧
    ∀ v, v < i → B.2 v = 0 → ρ v ≤ k + 1 → rt_Eq n rl up q (rt_ps n rl up q E i) v := by
  intro i
  induction i with
  | zero => intro _; exact ⟨hM, hk, fun v h => absurd h (Nat.not_lt_zero v)⟩
  | succ i ih =>
    intro hi
    obtain ⟨h1, h2, h3⟩ := ih (by omega)
    show rt_M n rl up q B (if (rt_ps n rl up q E i).2 i = 0 ∨ (rt_ps n rl up q E i).2 i = q then rt_tk n rl up q i (rt_ps n rl up q E i) else rt_ps n rl up q E i) ∧ (∀ v, v < n → B.2 v = 0 → ρ v ≤ k → rt_Eq n rl up q (if (rt_ps n rl up q E i).2 i = 0 ∨ (rt_ps n rl up q E i).2 i = q then rt_tk n rl up q i (rt_ps n rl up q E i) else rt_ps n rl up q E i) v) ∧ ∀ v, v < i + 1 → B.2 v = 0 → ρ v ≤ k + 1 → rt_Eq n rl up q (if (rt_ps n rl up q E i).2 i = 0 ∨ (rt_ps n rl up q E i).2 i = q then rt_tk n rl up q i (rt_ps n rl up q E i) else rt_ps n rl up q E i) v
    generalize rt_ps n rl up q E i = W at h1 h2 h3
    by_cases hB : B.2 i = 0
    · have hcond : W.2 i = 0 ∨ W.2 i = q := by
        rcases h1.2 i (by omega) hB with z | z
        · exact Or.inl z.1
        · exact Or.inr z.1
      rw [if_pos hcond]
      have hV := rt_visit hr hq h1 (show i < n by omega) hB
      have mv : ∀ v, v ≠ i → ρ v ≤ k + 1 → rt_Eq n rl up q W v → rt_Eq n rl up q (rt_tk n rl up q i W) v := by
        intro v hne hle he
        refine rt_Eq_move hρ h1 hV.1 (rt_tk_n hne) (fun u hun hlt => ?_) he
        by_cases e : u = i
        · subst e
          exact rt_Eq_tk (h2 u hun hB (by omega))
        · exact rt_tk_n e
      refine ⟨hV.1, fun v hv hBv hle => ?_, fun v hv hBv hle => ?_⟩
      · by_cases e : v = i
        · subst e; exact hV.2
        · exact mv v e (by omega) (h2 v hv hBv hle)
      · by_cases e : v = i
        · subst e; exact hV.2
        · exact mv v e hle (h3 v (by omega) hBv hle)
    · have hW := h1.1 i (by omega) hB
      have hcond : ¬ (W.2 i = 0 ∨ W.2 i = q) := by
        rw [hW.2]
        have := hBq i (by omega)
        omega
      rw [if_neg hcond]
      refine ⟨h1, h2, fun v hv hBv hle => ?_⟩
      by_cases e : v = i
      · subst e; exact absurd hBv hB
      · exact h3 v (by omega) hBv hle
theorem rt_M_0 {q : Nat} {B : rt_ET} (h : ∀ v, v < n → B.2 v = 0 → B.1 v = []) : rt_M n rl up q B B :=
  ⟨fun _ _ _ => ⟨rfl, rfl⟩, fun v hv h0 => Or.inl ⟨h0, h v hv h0⟩⟩
theorem rt_rounds (hr : rt_rl n rl) {q : Nat} (hq : 2 ≤ q) {B : rt_ET} {ρ : Nat → Nat} (hρ : ∀ v u, rl v u = q → q ≠ 3 → ρ u < ρ v)
    (hBq : ∀ v, v < n → B.2 v ≠ q) (h0 : ∀ v, v < n → B.2 v = 0 → B.1 v = []) (hp : ∀ v, v < n → 1 ≤ ρ v) : ∀ k,
    rt_M n rl up q B (rt_rs n rl up q B k) ∧ ∀ v, v < n → B.2 v = 0 → ρ v ≤ k → rt_Eq n rl up q (rt_rs n rl up q B k) v := by
  intro k
  induction k with
  | zero => exact ⟨rt_M_0 h0, fun v hv _ hz => by have := hp v hv; omega⟩
  | succ k ih =>
    have h := rt_pass hr hq hρ hBq ih.1 ih.2 n (Nat.le_refl n)
    exact ⟨h.1, h.2.2⟩
/-- the whole: it ends in what the phases ask -/
theorem rt_fd_F (hc : rt_cf n rl up) (og : Nat → Bool) {m : Nat} (hm : 1 ≤ m) : rt_F n rl up og (rt_fd n rl up og m).1 (rt_fd n rl up og m).2 := by
  have hc' := hc
  obtain ⟨_, h8, hr, hup, ha⟩ := hc'
  have hE0 : ∀ v, (og v = true ∧ (rt_E0 og).1 v = [v] ∧ (rt_E0 og).2 v = 1) ∨ (¬ og v = true ∧ (rt_E0 og).1 v = [] ∧ (rt_E0 og).2 v = 0) := by
    intro v
    by_cases h : og v = true
    · exact Or.inl ⟨h, if_pos h, if_pos h⟩
    · exact Or.inr ⟨h, if_neg h, if_neg h⟩
  have hlt : ∀ v u, rl v u = 2 → rt_ht n rl u < rt_ht n rl v := fun v u h => rt_ht_lt ha h (rt_rl_op hr (a := v) (b := u) (by omega)).1
  have hE01 : ∀ v, v < n → (rt_E0 og).2 v ≠ 2 := by
    intro v _
    rcases hE0 v with z | z <;> omega
  have hE00 : ∀ v, v < n → (rt_E0 og).2 v = 0 → (rt_E0 og).1 v = [] := by
    intro v _ h
    rcases hE0 v with z | z
    · omega
    · exact z.2.1
  obtain ⟨hM1, hQ1⟩ := rt_rounds (up := up) hr (q := 2) (by decide) (B := rt_E0 og) (ρ := rt_ht n rl) (fun v u h _ => hlt v u h)
    hE01 hE00 (fun v hv => rt_ht_pos hv) n
  show rt_F n rl up og (rt_rs n rl up 4 (rt_rs n rl up 3 (rt_rs n rl up 2 (rt_E0 og) n) m) n).1 (rt_rs n rl up 4 (rt_rs n rl up 3 (rt_rs n rl up 2 (rt_E0 og) n) m) n).2
  generalize rt_rs n rl up 2 (rt_E0 og) n = A at hM1 hQ1
  have hA : ∀ v, v < n → (og v = true ∧ A.1 v = [v] ∧ A.2 v = 1) ∨ (¬ og v = true ∧ rt_Eq n rl up 2 A v) := by
    intro v hv
    rcases hE0 v with ⟨o, e1, e2⟩ | ⟨o, e1, e2⟩
    · have h := hM1.1 v hv (by omega)
      exact Or.inl ⟨o, h.1.trans e1, h.2.trans e2⟩
    · exact Or.inr ⟨o, hQ1 v hv e2 (rt_ht_le n rl v)⟩
  have hA0 : ∀ v, v < n → A.2 v = 0 → A.1 v = [] := by
    intro v hv h0
    rcases hA v hv with z | ⟨_, ⟨_, _, h⟩ | ⟨b, _, h, _⟩⟩
    · omega
    · exact h
    · omega
  have hA12 : ∀ v, v < n → A.2 v = 0 ∨ A.2 v = 1 ∨ A.2 v = 2 := by
    intro v hv
    rcases hA v hv with z | ⟨_, ⟨_, h, _⟩ | ⟨b, _, h, _⟩⟩ <;> omega
  obtain ⟨hM2, hQ2⟩ := rt_rounds (up := up) hr (q := 3) (by decide) (B := A) (ρ := fun _ => 1) (fun v u _ h => absurd rfl h)
    (fun v hv => by have := hA12 v hv; omega) hA0 (fun _ _ => Nat.le_refl 1) m
  generalize rt_rs n rl up 3 A m = C at hM2 hQ2
  have hC3 : ∀ v, v < n → A.2 v = 0 → rt_Eq n rl up 3 C v := fun v hv h0 => hQ2 v hv h0 hm
  have hC0 : ∀ v, v < n → C.2 v = 0 → C.1 v = [] := by
    intro v hv h0
    by_cases hz : A.2 v = 0
    · rcases hC3 v hv hz with ⟨_, _, h⟩ | ⟨b, _, h, _⟩
      · exact h
      · omega
    · have := (hM2.1 v hv hz).2
      omega
  have hC03 : ∀ v, v < n → A.2 v = 0 → C.2 v = 0 ∨ C.2 v = 3 := by
    intro v hv hz
    rcases hC3 v hv hz with ⟨_, h, _⟩ | ⟨b, _, h, _⟩
    · exact Or.inl h
    · exact Or.inr h
  have hCle : ∀ v, v < n → C.2 v ≤ 3 := by
    intro v hv
    by_cases hz : A.2 v = 0
    · have := hC03 v hv hz; omega
    · have h1 := (hM2.1 v hv hz).2
      have h2 := hA12 v hv
      omega
  obtain ⟨hM3, hQ3⟩ := rt_rounds (up := up) hr (q := 4) (by decide) (B := C) (ρ := fun v => n + 1 - rt_ht n rl v)
    (fun v u h _ => by
      have h1 := rt_rl_op hr (a := v) (b := u) (by omega)
      have h2 := hlt u v (by omega)
      have h3 := rt_ht_le n rl u
      show n + 1 - rt_ht n rl u < n + 1 - rt_ht n rl v
      omega)
    (fun v hv => by have := hCle v hv; omega) hC0
    (fun v _ => by
      have h3 := rt_ht_le n rl v
      show 1 ≤ n + 1 - rt_ht n rl v
      omega) n
  generalize rt_rs n rl up 4 C n = G at hM3 hQ3
  have hG4 : ∀ v, v < n → C.2 v = 0 → rt_Eq n rl up 4 G v := by
    intro v hv h0
    refine hQ3 v hv h0 ?_
    have h3 := rt_ht_pos (n := n) (rl := rl) hv
    show n + 1 - rt_ht n rl v ≤ n
    omega
  have hG04 : ∀ v, v < n → C.2 v = 0 → G.2 v = 0 ∨ G.2 v = 4 := by
    intro v hv hz
    rcases hG4 v hv hz with ⟨_, h, _⟩ | ⟨b, _, h, _⟩
    · exact Or.inl h
    · exact Or.inr h
  have hAC : ∀ u, u < n → A.2 u ≠ 0 → G.1 u = A.1 u ∧ G.2 u = A.2 u := by
    intro u hu h0
    have h1 := hM2.1 u hu h0
    have h2 := hM3.1 u hu (by rw [h1.2]; exact h0)
    exact ⟨h2.1.trans h1.1, h2.2.trans h1.2⟩
  have hoA : ∀ q v u, q ≠ 4 → u < n → (rt_of rl up A.2 q v u ↔ rt_of rl up G.2 q v u) := by
    intro q v u hq hu
    by_cases h0 : A.2 u = 0
    · constructor
      · intro h; exact absurd h0 h.2.2.1
      · intro h
        obtain ⟨_, _, g0, g1⟩ := h
        have h1 := hC03 u hu h0
        by_cases hz : C.2 u = 0
        · have := hG04 u hu hz; omega
        · have := (hM3.1 u hu hz).2; omega
    · have := (hAC u hu h0).2
      show (up v u = true ∧ rl v u = q ∧ A.2 u ≠ 0 ∧ (q = 4 ∨ A.2 u = 1 ∨ A.2 u = 2)) ↔ (up v u = true ∧ rl v u = q ∧ G.2 u ≠ 0 ∧ (q = 4 ∨ G.2 u = 1 ∨ G.2 u = 2))
      rw [this]
  have hoC : ∀ v u, u < n → (rt_of rl up C.2 3 v u ↔ rt_of rl up G.2 3 v u) := by
    intro v u hu
    by_cases h0 : C.2 u = 0
    · constructor
      · intro h; exact absurd h0 h.2.2.1
      · intro h
        obtain ⟨_, _, g0, g1⟩ := h
        have := hG04 u hu h0
        omega
    · have := (hM3.1 u hu h0).2
      show (up v u = true ∧ rl v u = 3 ∧ C.2 u ≠ 0 ∧ ((3 : Nat) = 4 ∨ C.2 u = 1 ∨ C.2 u = 2)) ↔ (up v u = true ∧ rl v u = 3 ∧ G.2 u ≠ 0 ∧ ((3 : Nat) = 4 ∨ G.2 u = 1 ∨ G.2 u = 2))
      rw [this]
  have hb2 : ∀ v, rt_bs n rl up A.1 A.2 2 v = rt_bs n rl up G.1 G.2 2 v := fun v =>
    rt_bs_congr (fun u hu => hoA 2 v u (by decide) hu) (fun u hu ho => (hAC u hu ho.2.2.1).1.symm)
  have hb3 : ∀ v, rt_bs n rl up C.1 C.2 3 v = rt_bs n rl up G.1 G.2 3 v := fun v =>
    rt_bs_congr (fun u hu => hoC v u hu) (fun u hu ho => (hM3.1 u hu ho.2.2.1).1.symm)
  intro v hv
  rcases hA v hv with ⟨o, e1, e2⟩ | ⟨o, ⟨e0, e1, e2⟩ | ⟨b, e0, e1, e2⟩⟩
  · have h := hAC v hv (by omega)
    exact Or.inl ⟨o, h.2.trans e2, h.1.trans e1⟩
  · refine Or.inr ⟨o, ?_⟩
    rw [hb2] at e0
    rcases hC3 v hv e1 with ⟨f0, f1, f2⟩ | ⟨b, f0, f1, f2⟩
    · rw [hb3] at f0
      rcases hG4 v hv f1 with ⟨g0, g1, g2⟩ | ⟨b, g0, g1, g2⟩
      · refine Or.inr ⟨g1, g2, fun j h2 h4 => ?_⟩
        have : j = 2 ∨ j = 3 ∨ j = 4 := by omega
        rcases this with rfl | rfl | rfl
        · exact e0
        · exact f0
        · exact g0
      · refine Or.inl ⟨4, b, by decide, by decide, g0, g1, g2, fun j h2 h4 => ?_⟩
        have : j = 2 ∨ j = 3 := by omega
        rcases this with rfl | rfl
        · exact e0
        · exact f0
    · obtain ⟨hbn, hbo, _⟩ := rt_bs_some f0
      rw [hb3] at f0
      have h1 := hM3.1 v hv (by omega)
      have h2 := hM3.1 b hbn hbo.2.2.1
      refine Or.inl ⟨3, b, by decide, by decide, f0, h1.2.trans f1, ?_, fun j h2 h4 => ?_⟩
      · rw [h1.1, f2, h2.1]
      · have : j = 2 := by omega
        rw [this]
        exact e0
  · obtain ⟨hbn, hbo, _⟩ := rt_bs_some e0
    rw [hb2] at e0
    have h1 := hAC v hv (by omega)
    have h2 := hAC b hbn hbo.2.2.1
    refine Or.inr ⟨o, Or.inl ⟨2, b, by decide, by decide, e0, h1.2.trans e1, ?_, fun j h2 h4 => by omega⟩⟩
    rw [h1.1, e2, h2.1]
end
end
section
/-! rows pasted from the kit's rows to paste -/
theorem wb_tb (n : Nat) : (lN n).toBitVec = BitVec.ofNat 64 n := rfl
theorem wb_inj {a b : Int64} (h : a.toBitVec = b.toBitVec) : a = b := Int64.toBitVec_inj.mp h
theorem wb_tn {n : Nat} (h : n < 2 ^ 64) : (lN n).toBitVec.toNat = n := by rw [wb_tb, BitVec.toNat_ofNat, Nat.mod_eq_of_lt h]
theorem wb_c : ∀ k, k < 64 → ((nI k).toInt64 &&& 63) = lN k := by decide +kernel
theorem wb_lt2 {a b : Nat} (h : a < b) : 2 ^ a < 2 ^ b := Nat.pow_lt_pow_right (by decide) h
theorem wb_and {a b : Nat} (ha : a < 2 ^ 64) (hb : b < 2 ^ 64) : lN a &&& lN b = lN (a &&& b) := by
  apply wb_inj
  rw [Int64.toBitVec_and, wb_tb, wb_tb, wb_tb]
  apply BitVec.eq_of_toNat_eq
  rw [BitVec.toNat_and, BitVec.toNat_ofNat, BitVec.toNat_ofNat, BitVec.toNat_ofNat, Nat.mod_eq_of_lt ha, Nat.mod_eq_of_lt hb, Nat.mod_eq_of_lt (Nat.and_lt_two_pow _ hb)]
theorem wb_mask {n k : Nat} (hn : n < 2 ^ 64) (hk : k < 64) : lN n &&& lN (2 ^ k - 1) = lN (n % 2 ^ k) := by
  rw [wb_and hn (by have := wb_lt2 hk; omega), Nat.and_two_pow_sub_one_eq_mod]
theorem pf_lI {a : Nat} (h : a < 2 ^ 63) : (lN a).toInt = (a : Int) := lg_ofNat_toInt h
theorem pf_shr {a d : Nat} {D : Int64} (hD : (D.toBitVec.smod 64).toNat = d) (h : a < 2 ^ 62) : lN a >>> D = lN (a / 2 ^ d) := by
  have hd : a / 2 ^ d ≤ a := Nat.div_le_self _ _
  apply Int64.toInt_inj.mp
  have e : (lN a >>> D).toInt = (lN a).toInt >>> d := by
    rw [← hD]
    exact BitVec.toInt_sshiftRight ..
  rw [e, Int.shiftRight_eq_div_pow, pf_lI (by omega), pf_lI (by omega)]
  rfl
/-! cells of the arrays against the picture -/
theorem xw_8 (a : Nat) : nI a * 8 = nI (a * 8) := pk_mul a 8
theorem xw_ix (a b : Nat) : nI a * 8 + nI b = nI (a * 8 + b) := by rw [xw_8, nI_add]
theorem xw_cl {a b : Nat} (ha : a < 8) (hb : b < 8) : (nI a * 8 + nI b).toNatClampNeg = a * 8 + b := by
  rw [xw_ix, nI_clamp (by omega)]
theorem xw_in {a b : Nat} (ha : a < 8) (hb : b < 8) : vp_in (nI a * 8 + nI b) 64 := by
  rw [xw_ix]
  exact vp_in_nI (by omega) (by decide)
theorem xw_c8 {a : Nat} (ha : a < 8) : (nI a).toNatClampNeg = a := nI_clamp (by omega)
theorem xw_i8 {a : Nat} (ha : a < 8) : vp_in (nI a) 8 := vp_in_nI ha (by decide)
def xw_b (b : Bool) : Int32 := if b = true then 1 else 0
theorem xw_b1 {b : Bool} (h : b = true) : xw_b b = 1 := if_pos h
theorem xw_bn {b : Bool} (h : ¬ b = true) : xw_b b = 0 := if_neg h
theorem xw_10 : ¬ (1 : Int32) = 0 := by decide
theorem xw_01 : ¬ (0 : Int32) = 1 := by decide
theorem xw_b_ne {b : Bool} (h : b = true) : ¬ xw_b b = 0 := by rw [xw_b1 h]; decide
theorem xw_b_inj (b c : Bool) : xw_b b = xw_b c ↔ b = c := by
  cases b <;> cases c <;> decide
theorem xw_nar (b : Bool) : vp_nar .boolean (xw_b b) = xw_b b := by
  cases b <;> decide
def xw_og (og : Nat → Bool) (a : Nat → Int32) : Prop := ∀ v, v < 8 → a v = xw_b (og v)
def xw_C {α β : Type} (f : α → β) (g : Nat → Nat → α) (ar : Nat → β) : Prop := ∀ a b, a < 8 → b < 8 → ar (a * 8 + b) = f (g a b)
def xw_lc (l : List Nat) : Int64 := lN (rt_enc l)
def xw_wc (q : List (List Nat)) : Int32 := nI q.length
def xw_S (T : Nat → Nat → Nat → Option (List Nat)) (sl : Nat → Int64) : Prop :=
  ∀ a b k m, a < 8 → b < 8 → k < 4 → T a b k = some m → sl ((a * 8 + b) * 4 + k) = xw_lc m
def rt_T (Q : rt_QT) : Nat → Nat → Nat → Option (List Nat) := fun a b k => (Q a b)[k]?
theorem xw_C_32 {α : Type} {f : α → Int32} {g : Nat → Nat → α} {ar : Nat → Int32} {a b : Nat} {x : α} {y : Int32} (h : xw_C f g ar) (hb : b < 8) (hy : y = f x) : xw_C f (rt_u2 g a b x) (upd ar (a * 8 + b) y) := by
  intro c e hc he
  by_cases z : c = a ∧ e = b
  · obtain ⟨rfl, rfl⟩ := z
    rw [rt_u2_s, pk_us, hy]
  · rw [rt_u2_n z, pk_un (by omega)]
    exact h c e hc he
theorem xw_C_64 {α : Type} {f : α → Int64} {g : Nat → Nat → α} {ar : Nat → Int64} {a b : Nat} {x : α} {y : Int64} (h : xw_C f g ar) (hb : b < 8) (hy : y = f x) : xw_C f (rt_u2 g a b x) (vp_updL ar (a * 8 + b) y) := by
  intro c e hc he
  by_cases z : c = a ∧ e = b
  · obtain ⟨rfl, rfl⟩ := z
    rw [rt_u2_s, pk_uLs, hy]
  · rw [rt_u2_n z, pk_uLn (by omega)]
    exact h c e hc he
theorem xw_S_u {T T' : Nat → Nat → Nat → Option (List Nat)} {sl : Nat → Int64} {a b j : Nat} {e : List Nat} {y : Int64} (h : xw_S T sl) (hb : b < 8) (hj : j < 4) (hy : y = xw_lc e)
    (hT : ∀ a' b' k m, a' < 8 → b' < 8 → k < 4 → T' a' b' k = some m → ((a' = a ∧ b' = b ∧ k = j) ∧ m = e) ∨ (¬ (a' = a ∧ b' = b ∧ k = j) ∧ T a' b' k = some m)) : xw_S T' (vp_updL sl ((a * 8 + b) * 4 + j) y) := by
  intro a' b' k m ha' hb' hk hm
  rcases hT a' b' k m ha' hb' hk hm with ⟨⟨rfl, rfl, rfl⟩, rfl⟩ | ⟨z, hm'⟩
  · rw [pk_uLs, hy]
  · rw [pk_uLn (by omega)]
    exact h a' b' k m ha' hb' hk hm'
theorem xw_S_mono {T T' : Nat → Nat → Nat → Option (List Nat)} {sl : Nat → Int64} (h : xw_S T sl) (hT : ∀ a b k m, a < 8 → b < 8 → k < 4 → T' a b k = some m → T a b k = some m) : xw_S T' sl :=
  fun a b k m ha hb hk hm => h a b k m ha hb hk (hT a b k m ha hb hk hm)
theorem xw_og_u {og : Nat → Bool} {ao : Nat → Int32} {v : Nat} {z : Bool} {y : Int32} (h : xw_og og ao) (hy : y = xw_b z) : xw_og (rt_u1 og v z) (upd ao v y) := by
  intro w hw
  by_cases e : w = v
  · subst e
    rw [rt_u1_s, pk_us, hy]
  · rw [rt_u1_n e, pk_un e]
    exact h w hw
/-! the states against the picture -/
def xw_A (rl : Nat → Nat → Nat) (up : Nat → Nat → Bool) (og : Nat → Bool) (H : rt_HT) (Q : rt_QT) (ao ar al : Nat → Int32) (ah : Nat → Int64) (aw : Nat → Int32) (sl : Nat → Int64) : Prop :=
  xw_og og ao ∧ xw_C nI rl ar ∧ xw_C xw_b up al ∧ xw_C xw_lc H ah ∧ xw_C xw_wc Q aw ∧ xw_S (rt_T Q) sl
def xw_X (n d : Nat) (rl : Nat → Nat → Nat) (up : Nat → Nat → Bool) (og : Nat → Bool) (H : rt_HT) (Q : rt_QT) (ab ap : Nat → Int64) (ak : Nat → Int32) (u : St2) : Prop :=
  ∃ (ao ar al : Nat → Int32) (ah : Nat → Int64) (aw : Nat → Int32) (sl : Nat → Int64), u = (nI n, nI d, ao, ar, al, ah, aw, sl, ab, ap, ak) ∧ xw_A rl up og H Q ao ar al ah aw sl
def rt_tr (H : rt_HT) : rt_HT := fun a b => H b a
theorem rt_tr_u (H : rt_HT) (a b : Nat) (x : List Nat) : rt_tr (rt_u2 H a b x) = rt_u2 (rt_tr H) b a x := by
  funext c e
  show (if e = a ∧ c = b then x else H e c) = (if c = b ∧ e = a then x else H e c)
  by_cases z : c = b ∧ e = a
  · rw [if_pos z, if_pos ⟨z.2, z.1⟩]
  · rw [if_neg z, if_neg (fun y => z ⟨y.2, y.1⟩)]
/-! codes -/
theorem xw_lc0 : xw_lc [] = 0 := rfl
theorem xw_lc_0 {n : Nat} {l : List Nat} (hn : n ≤ 8) (h : rt_ok n l) : xw_lc l = 0 ↔ l = [] := by
  have h1 := rt_enc_ok hn h
  rw [← rt_enc_0]
  exact pk_lEQ (b := 0) (by omega) (by decide)
theorem xw_lc_eq {n : Nat} {l m : List Nat} (hn : n ≤ 8) (h : rt_ok n l) (h' : rt_ok n m) : xw_lc l = xw_lc m ↔ l = m := by
  have h1 := rt_enc_ok hn h
  have h2 := rt_enc_ok hn h'
  rw [← rt_enc_eq hn h h']
  exact pk_lEQ (by omega) (by omega)
theorem xw_4 (i : Nat) : 4 * nI i = nI (4 * i) := pk_mul 4 i
theorem xw_sh {c i : Nat} (hc : c < 4294967296) (hi : i < 16) : lN c >>> ((4 * nI i).toInt64 &&& 63) = lN (c / 16 ^ i) := by
  have e : (16 : Nat) ^ i = 2 ^ (4 * i) := by rw [Nat.pow_mul]
  rw [xw_4, wb_c (4 * i) (by omega), e]
  exact pf_shr (d := 4 * i) (by
    have : ∀ k, k < 64 → ((lN k).toBitVec.smod 64).toNat = k := by decide +kernel
    exact this (4 * i) (by omega)) (by omega)
theorem xw_dig {c i : Nat} (hc : c < 4294967296) (hi : i < 16) : (lN c >>> ((4 * nI i).toInt64 &&& 63)) &&& 15 = lN (c / 16 ^ i % 16) := by
  rw [xw_sh hc hi]
  have h : c / 16 ^ i ≤ c := Nat.div_le_self _ _
  exact wb_mask (k := 4) (by omega) (by decide)
theorem xw_lv {v : Nat} (hv : v < 8) : (nI v + 1).toInt64 = lN (v + 1) := by
  rw [nI_1, nI_l (by omega)]
theorem xw_pre (v : Nat) (hv : v < 8) (l : List Nat) : ((xw_lc l * 16) + (nI v).toInt64) + 1 = xw_lc (v :: l) := by
  rw [nI_l (by omega)]
  show lN (rt_enc l) * lN 16 + lN v + 1 = lN (rt_enc l * 16 + (v + 1))
  rw [lN_mul, lN_add, lN_1]
  rfl
theorem xw_pre2 (v : Nat) (hv : v < 8) (l : List Nat) : (xw_lc l * 16) + (nI v + 1).toInt64 = xw_lc (v :: l) := by
  rw [xw_lv hv]
  show lN (rt_enc l) * lN 16 + lN (v + 1) = lN (rt_enc l * 16 + (v + 1))
  rw [lN_mul, lN_add]
def xw_o : Option Nat → Int32
  | none => -1
  | some u => nI u
theorem xw_nm1 {v : Nat} (h : v < 2 ^ 31) : ¬ nI v = -1 := by
  intro e
  have h1 : (nI v).toInt = (-1 : Int32).toInt := by rw [e]
  rw [nI_toInt h] at h1
  have h2 : (-1 : Int32).toInt = -1 := by decide
  omega
theorem xw_ge {a b : Nat} (h : a < b) (hb : b ≤ 256) : ¬ nI b ≤ nI a := nI_ge h (by omega)
theorem xw_le {a b : Nat} (h : a ≤ b) (hb : b ≤ 256) : nI a ≤ nI b := nI_le h (by omega)
theorem xw_ne {a b : Nat} (ha : a ≤ 65536) (hb : b ≤ 65536) (h : a ≠ b) : ¬ nI a = nI b := fun e => h ((nI_eq (by omega) (by omega)).mp e)
end
section
/-! the class's walks that only read -/
def xw_bd (n : Nat) (p : Int32) : Prop := p < 0 ∨ ¬ p < nI n
theorem xw_bd_c {n : Nat} (hn : n ≤ 8) (p : Int32) : xw_bd n p ∨ ∃ v, v < n ∧ p = nI v := by
  by_cases h : p < 0
  · exact Or.inl (Or.inl h)
  · obtain ⟨j, hj, rfl⟩ := nI_of h
    by_cases h2 : j < n
    · exact Or.inr ⟨j, h2, rfl⟩
    · exact Or.inl (Or.inr (nI_nlt (by omega) hj))
def xw_bp (n : Nat) (p q : Int32) : Prop := xw_bd n p ∨ xw_bd n q ∨ p = q
theorem xw_bp_c {n : Nat} (hn : n ≤ 8) (p q : Int32) : xw_bp n p q ∨ ∃ a b, a < n ∧ b < n ∧ a ≠ b ∧ p = nI a ∧ q = nI b := by
  rcases xw_bd_c hn p with h | ⟨a, ha, rfl⟩
  · exact Or.inl (Or.inl h)
  · rcases xw_bd_c hn q with h | ⟨b, hb, rfl⟩
    · exact Or.inl (Or.inr (Or.inl h))
    · by_cases e : a = b
      · exact Or.inl (Or.inr (Or.inr (by rw [e])))
      · exact Or.inr ⟨a, b, ha, hb, e, rfl, rfl⟩
theorem rt_ch_lt {n : Nat} {rl : Nat → Nat → Nat} {og : Nat → Bool} {H : rt_HT} {v u : Nat} (hv : v < n) (h : rt_ch n rl og H v = some u) : u < n := by
  unfold rt_ch at h
  by_cases hg : og v = true
  · rw [if_pos hg] at h
    cases h
    exact hv
  · rw [if_neg hg] at h
    exact ((rt_sc_spec rl H v n).1 u h).1
theorem rt_rl_le {n : Nat} {rl : Nat → Nat → Nat} (h : rt_rl n rl) (a b : Nat) : rl a b ≤ 4 := by
  rcases h a b with z | z <;> omega
section
variable {n d : Nat} {rl : Nat → Nat → Nat} {up : Nat → Nat → Bool} {og : Nat → Bool} {H : rt_HT} {Q : rt_QT} {ao ar al : Nat → Int32} {ah : Nat → Int64} {aw : Nat → Int32} {sl ab ap : Nat → Int64} {ak : Nat → Int32}
theorem xw_isBad_t {post : Int32 → Prop} {p : Int32} (h : xw_bd n p) (hp : post 1) : wpX_isBad post (nI n, nI d, ao, ar, al, ah, aw, sl, ab, ap, ak) p := by
  by_cases z : p < 0
  · exact br_t z hp
  · exact br_f z (br_f (h.resolve_left z) hp)
theorem xw_isBad_f {post : Int32 → Prop} {v : Nat} (hn : n ≤ 8) (hv : v < n) (hp : post 0) : wpX_isBad post (nI n, nI d, ao, ar, al, ah, aw, sl, ab, ap, ak) (nI v) :=
  br_f (nI_pos (by omega)) (br_t (nI_lt hv (by omega)) hp)
theorem xw_bp_t {post : Int32 → Prop} {p q : Int32} (hn : n ≤ 8) (h : xw_bp n p q) (hp : post 1) : wpX_isBadPair post (nI n, nI d, ao, ar, al, ah, aw, sl, ab, ap, ak) p q := by
  unfold wpX_isBadPair
  rcases xw_bd_c hn p with hb | ⟨a, ha, rfl⟩
  · exact xw_isBad_t hb (br_f xw_10 hp)
  · refine xw_isBad_f hn ha (br_t rfl ?_)
    rcases xw_bd_c hn q with hb | ⟨b, hb, rfl⟩
    · exact xw_isBad_t hb (br_f xw_10 hp)
    · refine xw_isBad_f hn hb (br_t rfl ?_)
      refine br_t ?_ hp
      rcases h with z | z | z
      · rcases z with z | z
        · exact absurd z (nI_pos (by omega))
        · exact absurd (nI_lt ha (by omega)) z
      · rcases z with z | z
        · exact absurd z (nI_pos (by omega))
        · exact absurd (nI_lt hb (by omega)) z
      · exact z
theorem xw_bp_f {post : Int32 → Prop} {a b : Nat} (hn : n ≤ 8) (ha : a < n) (hb : b < n) (hne : a ≠ b) (hp : post 0) : wpX_isBadPair post (nI n, nI d, ao, ar, al, ah, aw, sl, ab, ap, ak) (nI a) (nI b) := by
  unfold wpX_isBadPair
  refine xw_isBad_f hn ha (br_t rfl ?_)
  refine xw_isBad_f hn hb (br_t rfl ?_)
  exact br_f (xw_ne (by omega) (by omega) hne) hp
theorem xw_isLinked {post : Int32 → Prop} {a b : Nat} (hA : xw_A rl up og H Q ao ar al ah aw sl) (hr : rt_rl n rl) (ha : a < 8) (hb : b < 8) (h0 : rl a b = 0 → post 0) (h1 : rl a b ≠ 0 → post 1) : wpX_isLinked post (nI n, nI d, ao, ar, al, ah, aw, sl, ab, ap, ak) (nI a) (nI b) := by
  have hle := rt_rl_le hr a b
  have e : ar (nI a * 8 + nI b).toNatClampNeg = nI (rl a b) := by rw [xw_cl ha hb]; exact hA.2.1 a b ha hb
  refine ⟨xw_in ha hb, ?_⟩
  by_cases z : rl a b = 0
  · exact br_t (by rw [e, z]; rfl) (h0 z)
  · exact br_f (by rw [e]; exact xw_ne (b := 0) (by omega) (by decide) z) (h1 z)
end
theorem xw_contains {n : Nat} {l : List Nat} {v : Nat} (hn : n ≤ 8) (hl : rt_ok n l) (hv : v < 8) {post : Int32 → Prop} (hp : post (xw_b (decide (v ∈ l)))) : wpX_contains post () (xw_lc l) (nI v) := by
  have hc := rt_enc_ok hn hl
  have key : ∀ m i, i + m = 8 → (∀ j, j < i → ¬ rt_enc l / 16 ^ j % 16 = v + 1) → wX_contains_2 post (xw_lc l) (nI v) (m + 1) (nI i) := by
    intro m
    induction m with
    | zero =>
      intro i hi hno
      have hi8 : i = 8 := by omega
      subst hi8
      have hm : ¬ v ∈ l := fun z => by
        obtain ⟨j, hj, e⟩ := (rt_mem_dig hn hl v).mp z
        exact hno j hj e
      rw [decide_eq_false hm] at hp
      exact br_t (xw_le (a := 8) (b := 8) (by decide) (by decide)) hp
    | succ m ih =>
      intro i hi hno
      refine br_f (xw_ge (b := 8) (by omega) (by decide)) ?_
      have hiff : (((xw_lc l >>> ((4 * nI i).toInt64 &&& 63)) &&& 15) = (nI v + 1).toInt64) ↔ rt_enc l / 16 ^ i % 16 = v + 1 := by
        rw [show xw_lc l = lN (rt_enc l) from rfl, xw_dig hc (by omega), xw_lv hv]
        have := Nat.mod_lt (rt_enc l / 16 ^ i) (show 0 < 16 by decide)
        exact lN_eq (by omega) (by omega)
      by_cases z : rt_enc l / 16 ^ i % 16 = v + 1
      · have hm : v ∈ l := (rt_mem_dig hn hl v).mpr ⟨i, by omega, z⟩
        rw [decide_eq_true hm] at hp
        exact br_t (hiff.mpr z) hp
      · refine br_f (fun y => z (hiff.mp y)) ?_
        refine nm_r (nI_1 i) (ih (i + 1) (by omega) (fun j hj => ?_))
        by_cases e : j = i
        · subst e; exact z
        · exact hno j (by omega)
  exact ⟨9, key 8 0 rfl (fun j hj => absurd hj (Nat.not_lt_zero j))⟩
theorem xw_lengthOf {n : Nat} {l : List Nat} (hn : n ≤ 8) (hl : rt_ok n l) {post : Int32 → Prop} (hp : post (nI l.length)) : wpX_lengthOf post () (xw_lc l) := by
  have hc := rt_enc_ok hn hl
  have hlen := rt_len hl
  have key : ∀ m i, i + m = 8 → (∀ j, j < i → ¬ l.length ≤ j) → wX_lengthOf_2 post (xw_lc l) (m + 1) (nI i) := by
    intro m
    induction m with
    | zero =>
      intro i hi hno
      have hi8 : i = 8 := by omega
      subst hi8
      have h7 := hno 7 (by decide)
      have e : l.length = 8 := by omega
      rw [e] at hp
      exact br_t (xw_le (a := 8) (b := 8) (by decide) (by decide)) hp
    | succ m ih =>
      intro i hi hno
      refine br_f (xw_ge (b := 8) (by omega) (by decide)) ?_
      have hiff : (xw_lc l >>> ((4 * nI i).toInt64 &&& 63)) = 0 ↔ l.length ≤ i := by
        rw [show xw_lc l = lN (rt_enc l) from rfl, xw_sh hc (by omega), ← rt_len_dig hn hl i]
        have := Nat.div_le_self (rt_enc l) (16 ^ i)
        exact pk_lEQ (b := 0) (by omega) (by decide)
      by_cases z : l.length ≤ i
      · have e : l.length = i := by
          by_cases h0 : i = 0
          · omega
          · have := hno (i - 1) (by omega)
            omega
        rw [e] at hp
        exact br_t (hiff.mpr z) hp
      · refine br_f (fun y => z (hiff.mp y)) ?_
        refine nm_r (nI_1 i) (ih (i + 1) (by omega) (fun j hj => ?_))
        by_cases e : j = i
        · subst e; exact z
        · exact hno j (by omega)
  exact ⟨9, key 8 0 rfl (fun j hj => absurd hj (Nat.not_lt_zero j))⟩
theorem rt_sc_s (rl : Nat → Nat → Nat) (H : rt_HT) (v k : Nat) : rt_sc rl H v (k + 1) =
    if rt_cd H v k then (match rt_sc rl H v k with | none => some k | some w => if rt_rk rl H v k < rt_rk rl H v w then some k else some w) else rt_sc rl H v k := by
  show rt_mn _ _ (k + 1) = _
  rw [rt_mn]
  by_cases h : rt_cd H v k
  · rw [if_pos h, if_pos (decide_eq_true h)]
    rfl
  · rw [if_neg h, if_neg (by rw [decide_eq_false h]; decide)]
    rfl
section
variable {n d : Nat} {rl : Nat → Nat → Nat} {up : Nat → Nat → Bool} {og : Nat → Bool} {H : rt_HT} {Q : rt_QT} {ao ar al : Nat → Int32} {ah : Nat → Int64} {aw : Nat → Int32} {sl ab ap : Nat → Int64} {ak : Nat → Int32}
theorem xw_ch_loop (hA : xw_A rl up og H Q ao ar al ah aw sl) (hn : n ≤ 8) (hr : rt_rl n rl) (hg : ∀ a b, rt_ok n (H a b)) {v : Nat} (hv : v < n) {post : Int32 → Prop}
    (hp : post (xw_o (rt_sc rl H v n))) : ∀ m i, i + m = n → ∀ x3 : Int32, (∀ w, rt_sc rl H v i = some w → x3 = nI (rt_rk rl H v w)) →
    wX_chosenBy_18 post (nI v) (nI n) (nI d) ao ar al ah aw sl ab ap ak (m + 1) (xw_o (rt_sc rl H v i)) x3 (nI i) := by
  have hrk : ∀ w, rt_rk rl H v w ≤ 72 := by
    intro w
    have h1 := rt_rl_le hr v w
    have h2 := rt_len (hg w v)
    unfold rt_rk
    omega
  intro m
  induction m with
  | zero =>
    intro i hi x3 _
    have e : i = n := by omega
    subst e
    exact br_t (xw_le (Nat.le_refl i) (by omega)) hp
  | succ m ih =>
    intro i hi x3 h3
    refine br_f (xw_ge (by omega) (by omega)) ?_
    refine ⟨xw_in (by omega) (by omega), fun x5 e5 => ?_⟩
    have e5' : x5 = xw_lc (H i v) := by
      rw [e5, xw_cl (by omega) (by omega)]
      exact hA.2.2.2.1 i v (by omega) (by omega)
    subst e5'
    clear e5
    have skip : ¬ rt_cd H v i → wX_chosenBy_18 post (nI v) (nI n) (nI d) ao ar al ah aw sl ab ap ak (m + 1) (xw_o (rt_sc rl H v i)) x3 (nI (i + 1)) := by
      intro hno
      have es : rt_sc rl H v (i + 1) = rt_sc rl H v i := by rw [rt_sc_s, if_neg hno]
      rw [← es]
      exact ih (i + 1) (by omega) x3 (by rw [es]; exact h3)
    by_cases h0 : H i v = []
    · exact br_t ((xw_lc_0 hn (hg i v)).mpr h0) (nm_r (nI_1 i) (skip (fun z => z.1 h0)))
    · refine br_f (fun z => h0 ((xw_lc_0 hn (hg i v)).mp z)) ?_
      refine xw_contains hn (hg i v) (by omega) ?_
      by_cases hm : v ∈ H i v
      · exact br_f (xw_b_ne (decide_eq_true hm)) (nm_r (nI_1 i) (skip (fun z => z.2 hm)))
      · refine br_t (xw_bn (by rw [decide_eq_false hm]; decide)) ?_
        refine ⟨xw_in (by omega) (by omega), ?_⟩
        refine xw_lengthOf hn (hg i v) (fun x7 e7 => ?_)
        have hcd : rt_cd H v i := ⟨h0, hm⟩
        have e7' : x7 = nI (rt_rk rl H v i) := by
          rw [e7, xw_cl (by omega) (by omega), hA.2.1 v i (by omega) (by omega)]
          show nI (rl v i) * nI 16 + nI (H i v).length = nI (rl v i * 16 + (H i v).length)
          rw [pk_mul, nI_add]
        subst e7'
        clear e7
        have take : rt_sc rl H v (i + 1) = some i → wX_chosenBy_18 post (nI v) (nI n) (nI d) ao ar al ah aw sl ab ap ak (m + 1) (nI i) (nI (rt_rk rl H v i)) (nI (i + 1)) := by
          intro es
          have h := ih (i + 1) (by omega) (nI (rt_rk rl H v i)) (by rw [es]; intro w hw; cases hw; rfl)
          rw [es] at h
          exact h
        cases hs : rt_sc rl H v i with
        | none =>
          exact br_t rfl (nm_r (nI_1 i) (take (by rw [rt_sc_s, if_pos hcd, hs])))
        | some w =>
          have hw := ((rt_sc_spec rl H v i).1 w hs).1
          refine br_f (xw_nm1 (by omega)) ?_
          have e3 := h3 w hs
          subst e3
          have r1 := hrk w
          have r2 := hrk i
          by_cases hlt : rt_rk rl H v i < rt_rk rl H v w
          · refine br_f (xw_ge hlt (by omega)) (nm_r (nI_1 i) (take ?_))
            rw [rt_sc_s, if_pos hcd, hs]
            exact if_pos hlt
          · have es : rt_sc rl H v (i + 1) = some w := by
              rw [rt_sc_s, if_pos hcd, hs]
              exact if_neg hlt
            refine br_t (xw_le (by omega) (by omega)) (nm_r (nI_1 i) ?_)
            have h := ih (i + 1) (by omega) (nI (rt_rk rl H v w)) (by rw [es]; intro y hy; cases hy; rfl)
            rw [es] at h
            exact h
theorem xw_chosenBy (hA : xw_A rl up og H Q ao ar al ah aw sl) (hn : n ≤ 8) (hr : rt_rl n rl) (hg : ∀ a b, rt_ok n (H a b)) {v : Nat} (hv : v < n) {post : Int32 → Prop}
    (hp : post (xw_o (rt_ch n rl og H v))) : wpX_chosenBy post (nI n, nI d, ao, ar, al, ah, aw, sl, ab, ap, ak) (nI v) := by
  refine ⟨xw_i8 (by omega), ?_⟩
  have e : ao (nI v).toNatClampNeg = xw_b (og v) := by rw [xw_c8 (by omega)]; exact hA.1 v (by omega)
  unfold rt_ch at hp
  by_cases ho : og v = true
  · rw [if_pos ho] at hp
    exact br_f (by rw [e]; exact xw_b_ne ho) hp
  · rw [if_neg ho] at hp
    exact br_t (by rw [e]; exact xw_bn ho) ⟨n + 1, xw_ch_loop hA hn hr hg hv hp n 0 (by omega) 0 (fun w hw => (nomatch hw))⟩
theorem xw_pathVia (hA : xw_A rl up og H Q ao ar al ah aw sl) (hn : n ≤ 8) {v : Nat} (hv : v < n) {o : Option Nat} (ho : ∀ u, o = some u → u < n) {post : Int64 → Prop}
    (hp : post (xw_lc (rt_via H v o))) : wpX_pathVia post (nI n, nI d, ao, ar, al, ah, aw, sl, ab, ap, ak) (nI v) (xw_o o) := by
  cases o with
  | none => exact br_t rfl hp
  | some u =>
    have hu := ho u rfl
    refine br_f (xw_nm1 (by omega)) ?_
    by_cases e : u = v
    · have ev : rt_via H v (some u) = [v] := if_pos e
      rw [ev] at hp
      exact br_t (by rw [e]; rfl) ((congrArg post (xw_pre v (by omega) [])).mpr hp)
    · have ev : rt_via H v (some u) = v :: H u v := if_neg e
      rw [ev] at hp
      refine br_f (xw_ne (by omega) (by omega) e) ⟨xw_in (by omega) (by omega), ?_⟩
      have e2 : ah (nI u * 8 + nI v).toNatClampNeg = xw_lc (H u v) := by rw [xw_cl (by omega) (by omega)]; exact hA.2.2.2.1 u v (by omega) (by omega)
      show wX_pathVia_26 post (nI v) (ah (nI u * 8 + nI v).toNatClampNeg) (nI n) (nI d) ao ar al ah aw sl ab ap ak
      rw [e2]
      exact (congrArg post (xw_pre v (by omega) (H u v))).mpr hp
theorem xw_kindVia (hA : xw_A rl up og H Q ao ar al ah aw sl) (hn : n ≤ 8) {v : Nat} (hv : v < n) {o : Option Nat} (ho : ∀ u, o = some u → u < n) {post : Int32 → Prop}
    (hp : post (nI (rt_kvia rl v o))) : wpX_kindVia post (nI n, nI d, ao, ar, al, ah, aw, sl, ab, ap, ak) (nI v) (xw_o o) := by
  cases o with
  | none => exact br_t rfl hp
  | some u =>
    have hu := ho u rfl
    refine br_f (xw_nm1 (by omega)) ?_
    by_cases e : u = v
    · have ev : rt_kvia rl v (some u) = 1 := if_pos e
      rw [ev] at hp
      exact br_t (by rw [e]; rfl) hp
    · have ev : rt_kvia rl v (some u) = rl v u := if_neg e
      rw [ev] at hp
      refine br_f (xw_ne (by omega) (by omega) e) ⟨xw_in (by omega) (by omega), ?_⟩
      have e2 : ar (nI v * 8 + nI u).toNatClampNeg = nI (rl v u) := by rw [xw_cl (by omega) (by omega)]; exact hA.2.1 v u (by omega) (by omega)
      show post (ar (nI v * 8 + nI u).toNatClampNeg)
      rw [e2]
      exact hp
theorem xw_selectedPath (hA : xw_A rl up og H Q ao ar al ah aw sl) (hn : n ≤ 8) (hr : rt_rl n rl) (hg : ∀ a b, rt_ok n (H a b)) {v : Nat} (hv : v < n) {post : Int64 → Prop}
    (hp : post (xw_lc (rt_pt n rl og H v))) : wpX_selectedPath post (nI n, nI d, ao, ar, al, ah, aw, sl, ab, ap, ak) (nI v) := by
  unfold wpX_selectedPath
  refine xw_chosenBy hA hn hr hg hv ?_
  exact xw_pathVia hA hn hv (fun u hu => rt_ch_lt hv hu) hp
end
end
section
/-! messages in the cells -/
theorem rt_u2_id {α : Type} (g : Nat → Nat → α) (a b : Nat) : rt_u2 g a b (g a b) = g := by
  funext c e
  by_cases z : c = a ∧ e = b
  · obtain ⟨rfl, rfl⟩ := z
    exact rt_u2_s
  · exact rt_u2_n z
theorem xw_C_same {α β : Type} {f : α → β} {g : Nat → Nat → α} {ar : Nat → β} {a b : Nat} {x : α} (h : xw_C f g ar) (hx : f x = f (g a b)) : xw_C f (rt_u2 g a b x) ar := by
  intro c e hc he
  by_cases z : c = a ∧ e = b
  · obtain ⟨rfl, rfl⟩ := z
    rw [rt_u2_s, hx]
    exact h c e hc he
  · rw [rt_u2_n z]
    exact h c e hc he
theorem rt_app_at {q : List (List Nat)} {e m : List Nat} {k : Nat} (h : (q ++ [e])[k]? = some m) : (k = q.length ∧ m = e) ∨ (k ≠ q.length ∧ q[k]? = some m) := by
  rw [List.getElem?_append] at h
  by_cases z : k < q.length
  · rw [if_pos z] at h
    exact Or.inr ⟨by omega, h⟩
  · rw [if_neg z] at h
    have hk : k - q.length = 0 := by
      by_cases y : k - q.length = 0
      · exact y
      · rw [List.getElem?_eq_none (by rw [List.length_singleton]; omega)] at h
        cases h
    rw [hk] at h
    exact Or.inl ⟨by omega, (Option.some.inj h).symm⟩
theorem rt_rep_at {q : List (List Nat)} {e m : List Nat} {k : Nat} (h : (q.dropLast ++ [e])[k]? = some m) : (k = q.length - 1 ∧ m = e) ∨ (k ≠ q.length - 1 ∧ q[k]? = some m) := by
  rcases rt_app_at h with z | ⟨z1, z2⟩
  · rw [List.length_dropLast] at z
    exact Or.inl z
  · rw [List.length_dropLast] at z1
    refine Or.inr ⟨z1, ?_⟩
    rw [List.getElem?_dropLast] at z2
    by_cases y : k < q.length - 1
    · rw [if_pos y] at z2
      exact z2
    · rw [if_neg y] at z2
      cases z2
theorem rt_last_at {q : List (List Nat)} {h : List Nat} (hq : q ≠ []) : q[q.length - 1]? = some (q.getLastD h) := by
  rw [List.getLastD_eq_getLast?, ← List.getLast?_eq_getElem?]
  cases hl : q.getLast? with
  | none => exact absurd (List.getLast?_eq_none_iff.mp hl) hq
  | some m => rfl
theorem xw_S_put {Q : rt_QT} {sl : Nat → Int64} {a b j : Nat} {e : List Nat} {q' : List (List Nat)} (h : xw_S (rt_T Q) sl) (hb : b < 8) (hj : j < 4)
    (hT : ∀ k m, k < 4 → q'[k]? = some m → (k = j ∧ m = e) ∨ (k ≠ j ∧ (Q a b)[k]? = some m)) : xw_S (rt_T (rt_u2 Q a b q')) (vp_updL sl ((a * 8 + b) * 4 + j) (xw_lc e)) := by
  refine xw_S_u h hb hj rfl (fun a' b' k m ha' hb' hk hm => ?_)
  have hm2 : (rt_u2 Q a b q' a' b')[k]? = some m := hm
  by_cases z : a' = a ∧ b' = b
  · obtain ⟨rfl, rfl⟩ := z
    rw [rt_u2_s] at hm2
    rcases hT k m hk hm2 with ⟨y1, y2⟩ | ⟨y1, y2⟩
    · exact Or.inl ⟨⟨rfl, rfl, y1⟩, y2⟩
    · exact Or.inr ⟨fun w => y1 w.2.2, y2⟩
  · rw [rt_u2_n z] at hm2
    exact Or.inr ⟨fun w => z ⟨w.1, w.2.1⟩, hm2⟩
section
variable {n d : Nat} {rl : Nat → Nat → Nat} {up : Nat → Nat → Bool} {og : Nat → Bool} {H : rt_HT} {Q : rt_QT} {ao ar al : Nat → Int32} {ah : Nat → Int64} {aw : Nat → Int32} {sl ab ap : Nat → Int64} {ak : Nat → Int32}
theorem xw_send39 (hA : xw_A rl up og H Q ao ar al ah aw sl) (hn : n ≤ 8) (hd : 1 ≤ d ∧ d ≤ 4) {a b : Nat} (ha : a < 8) (hb : b < 8) (hq : (Q a b).length ≤ d) {e l0 : List Nat}
    (he : rt_ok n e) (hl : rt_ok n l0) (h0 : l0 = (Q a b).getLastD (H a b)) {post : St2 → Prop}
    (hp : ∀ u', xw_X n d rl up og H (rt_u2 Q a b (rt_sd d (Q a b) (H a b) e)) ab ap ak u' → post u') :
    wX_send_39 post (nI (a * 8 + b)) (xw_lc e) (nI (Q a b).length) (nI ((a * 8 + b) * 4 + (Q a b).length)) (xw_lc l0) (nI n) (nI d) ao ar al ah aw sl ab ap ak := by
  unfold rt_sd at hp
  by_cases z : e = l0
  · rw [if_pos (by rw [← h0]; exact z), rt_u2_id] at hp
    exact br_t (by rw [z]) (hp _ ⟨ao, ar, al, ah, aw, sl, rfl, hA⟩)
  · rw [if_neg (by rw [← h0]; exact z)] at hp
    refine br_f (fun y => z ((xw_lc_eq hn he hl).mp y)) ?_
    obtain ⟨A1, A2, A3, A4, A5, A6⟩ := hA
    by_cases hf : (Q a b).length < d
    · rw [if_pos hf] at hp
      refine br_f (xw_ge hf (by omega)) ⟨vp_in_nI (by omega) (by decide), nm_r (e' := vp_updL sl ((a * 8 + b) * 4 + (Q a b).length) (xw_lc e)) (by rw [nI_clamp (by omega)]) ?_⟩
      refine ⟨vp_in_nI (by omega) (by decide), nm_r (e' := upd aw (a * 8 + b) (nI ((Q a b).length + 1))) (by rw [nI_clamp (by omega), nI_1]) ?_⟩
      refine hp _ ⟨ao, ar, al, ah, _, _, rfl, A1, A2, A3, A4, xw_C_32 A5 hb ?_, xw_S_put A6 hb (by omega) (fun k m hk hm => rt_app_at hm)⟩
      show nI ((Q a b).length + 1) = nI ((Q a b) ++ [e]).length
      rw [List.length_append, List.length_singleton]
    · rw [if_neg hf] at hp
      have e1 : nI ((a * 8 + b) * 4 + (Q a b).length) - 1 = nI ((a * 8 + b) * 4 + ((Q a b).length - 1)) := by
        have := pk_sub (a := (a * 8 + b) * 4 + (Q a b).length) (b := 1) (by omega)
        rw [show (a * 8 + b) * 4 + (Q a b).length - 1 = (a * 8 + b) * 4 + ((Q a b).length - 1) by omega] at this
        exact this
      refine br_t (xw_le (by omega) (by omega)) ?_
      rw [e1]
      refine ⟨vp_in_nI (by omega) (by decide), nm_r (e' := vp_updL sl ((a * 8 + b) * 4 + ((Q a b).length - 1)) (xw_lc e)) (by rw [nI_clamp (by omega)]) ?_⟩
      refine hp _ ⟨ao, ar, al, ah, aw, _, rfl, A1, A2, A3, A4, xw_C_same A5 ?_, xw_S_put A6 hb (by omega) (fun k m hk hm => rt_rep_at hm)⟩
      show nI ((Q a b).dropLast ++ [e]).length = nI (Q a b).length
      rw [List.length_append, List.length_singleton, List.length_dropLast, show (Q a b).length - 1 + 1 = (Q a b).length by omega]
theorem xw_send (hA : xw_A rl up og H Q ao ar al ah aw sl) (hn : n ≤ 8) (hd : 1 ≤ d ∧ d ≤ 4) {a b : Nat} (ha : a < 8) (hb : b < 8) (hq : (Q a b).length ≤ d) {e : List Nat}
    (he : rt_ok n e) (hh : rt_ok n (H a b)) (hm : ∀ m, m ∈ Q a b → rt_ok n m) {post : St2 → Prop}
    (hp : ∀ u', xw_X n d rl up og H (rt_u2 Q a b (rt_sd d (Q a b) (H a b) e)) ab ap ak u' → post u') :
    wpX_send post (nI n, nI d, ao, ar, al, ah, aw, sl, ab, ap, ak) (nI (a * 8 + b)) (xw_lc e) := by
  refine ⟨vp_in_nI (by omega) (by decide), nm_r (e' := nI (Q a b).length) (by rw [nI_clamp (by omega)]; exact hA.2.2.2.2.1 a b ha hb) ?_⟩
  refine nm_r (e' := nI ((a * 8 + b) * 4 + (Q a b).length)) (by rw [show nI (a * 8 + b) * 4 = nI ((a * 8 + b) * 4) from pk_mul _ 4, nI_add]) ?_
  by_cases hz : Q a b = []
  · refine br_t (by rw [hz]; rfl) ⟨vp_in_nI (by omega) (by decide), ?_⟩
    have e1 : ah (nI (a * 8 + b)).toNatClampNeg = xw_lc (H a b) := by rw [nI_clamp (by omega)]; exact hA.2.2.2.1 a b ha hb
    rw [e1]
    exact xw_send39 hA hn hd ha hb hq he hh (by rw [hz]; rfl) hp
  · have hpos : 0 < (Q a b).length := List.length_pos_iff.mpr hz
    refine br_f (nI_ne0 hpos (by omega)) ?_
    have e1 : nI ((a * 8 + b) * 4 + (Q a b).length) - 1 = nI ((a * 8 + b) * 4 + ((Q a b).length - 1)) := by
      have := pk_sub (a := (a * 8 + b) * 4 + (Q a b).length) (b := 1) (by omega)
      rw [show (a * 8 + b) * 4 + (Q a b).length - 1 = (a * 8 + b) * 4 + ((Q a b).length - 1) by omega] at this
      exact this
    have hl := rt_last_at (h := H a b) hz
    have e2 : sl (nI ((a * 8 + b) * 4 + (Q a b).length) - 1).toNatClampNeg = xw_lc ((Q a b).getLastD (H a b)) := by
      rw [e1, nI_clamp (by omega)]
      exact hA.2.2.2.2.2 a b ((Q a b).length - 1) _ ha hb (by omega) hl
    refine ⟨by rw [e1]; exact vp_in_nI (by omega) (by decide), ?_⟩
    rw [e2]
    exact xw_send39 hA hn hd ha hb hq he (hm _ (List.mem_of_getElem? hl)) rfl hp
end
/-! all that is sent, direction by direction -/
def rt_part (n d : Nat) (rl : Nat → Nat → Nat) (up : Nat → Nat → Bool) (og : Nat → Bool) (H : rt_HT) (Q : rt_QT) (v i : Nat) : rt_QT :=
  fun a b => if (a < v ∨ (a = v ∧ b < i)) ∧ up a b = true then rt_sd d (Q a b) (H a b) (rt_ex n rl og H a b) else Q a b
section
variable {n d : Nat} {rl : Nat → Nat → Nat} {up : Nat → Nat → Bool} {og : Nat → Bool} {H : rt_HT} {Q : rt_QT}
theorem rt_part_0 : rt_part n d rl up og H Q 0 0 = Q := by
  funext a b
  exact if_neg (by omega)
theorem rt_part_at (v i : Nat) : rt_part n d rl up og H Q v i v i = Q v i := if_neg (by omega)
theorem rt_part_t {v i : Nat} (h : up v i = true) : rt_part n d rl up og H Q v (i + 1) = rt_u2 (rt_part n d rl up og H Q v i) v i (rt_sd d (Q v i) (H v i) (rt_ex n rl og H v i)) := by
  funext a b
  by_cases z : a = v ∧ b = i
  · obtain ⟨rfl, rfl⟩ := z
    rw [rt_u2_s]
    exact if_pos ⟨by omega, h⟩
  · rw [rt_u2_n z]
    unfold rt_part
    by_cases y : (a < v ∨ (a = v ∧ b < i)) ∧ up a b = true
    · rw [if_pos y, if_pos ⟨by omega, y.2⟩]
    · rw [if_neg y, if_neg (fun w => y ⟨by omega, w.2⟩)]
theorem rt_part_f {v i : Nat} (h : ¬ up v i = true) : rt_part n d rl up og H Q v (i + 1) = rt_part n d rl up og H Q v i := by
  funext a b
  unfold rt_part
  by_cases y : (a < v ∨ (a = v ∧ b < i)) ∧ up a b = true
  · rw [if_pos y, if_pos ⟨by omega, y.2⟩]
  · by_cases z : a = v ∧ b = i
    · obtain ⟨rfl, rfl⟩ := z
      rw [if_neg y, if_neg (fun w => h w.2)]
    · rw [if_neg y, if_neg (fun w => y ⟨by omega, w.2⟩)]
theorem rt_part_row (hc : rt_cf n rl up) (v : Nat) : rt_part n d rl up og H Q v n = rt_part n d rl up og H Q (v + 1) 0 := by
  funext a b
  unfold rt_part
  by_cases y : up a b = true
  · have := rt_up_lt hc y
    by_cases z : a < v ∨ (a = v ∧ b < n)
    · rw [if_pos ⟨z, y⟩, if_pos ⟨by omega, y⟩]
    · rw [if_neg (fun w => z w.1), if_neg (fun w => z (by omega))]
  · rw [if_neg (fun w => y w.2), if_neg (fun w => y w.2)]
theorem rt_part_end (hc : rt_cf n rl up) : rt_part n d rl up og H Q n 0 = rt_send n d rl up og H Q := by
  funext a b
  unfold rt_part rt_send
  by_cases y : up a b = true
  · have := rt_up_lt hc y
    rw [if_pos ⟨by omega, y⟩, if_pos y]
  · rw [if_neg (fun w => y w.2), if_neg y]
end
section
variable {n d : Nat} {rl : Nat → Nat → Nat} {up : Nat → Nat → Bool} {og : Nat → Bool} {H : rt_HT} {Q : rt_QT} {ab ap : Nat → Int64} {ak : Nat → Int32}
theorem xw_sf_loop (hc : rt_cf n rl up) (hd : 1 ≤ d ∧ d ≤ 4) (gh : rt_gh n up H) (gq : rt_gq n d up Q) {v : Nat} (hv : v < n) {post : St2 → Prop}
    (hp : ∀ u', xw_X n d rl up og H (rt_part n d rl up og H Q v n) ab ap ak u' → post u') : ∀ m i, i + m = n → ∀ (ao ar al : Nat → Int32) (ah : Nat → Int64) (aw : Nat → Int32) (sl : Nat → Int64),
    xw_A rl up og H (rt_part n d rl up og H Q v i) ao ar al ah aw sl →
    wX_sendFrom_43 post (nI v) (xw_lc (rt_pt n rl og H v)) (xw_b (decide (rt_kd n rl og H v = 1 ∨ rt_kd n rl og H v = 2))) (m + 1) (nI i) (nI n) (nI d) ao ar al ah aw sl ab ap ak := by
  have hc' := hc
  obtain ⟨_, hn, hr, hup, _⟩ := hc'
  intro m
  induction m with
  | zero =>
    intro i hi ao ar al ah aw sl hA
    have e : i = n := by omega
    subst e
    exact br_t (xw_le (Nat.le_refl i) (by omega)) (hp _ ⟨ao, ar, al, ah, aw, sl, rfl, hA⟩)
  | succ m ih =>
    intro i hi ao ar al ah aw sl hA
    refine br_f (xw_ge (by omega) (by omega)) ⟨xw_in (by omega) (by omega), ?_⟩
    have e1 : al (nI v * 8 + nI i).toNatClampNeg = xw_b (up v i) := by rw [xw_cl (by omega) (by omega)]; exact hA.2.2.1 v i (by omega) (by omega)
    have e2 : ar (nI v * 8 + nI i).toNatClampNeg = nI (rl v i) := by rw [xw_cl (by omega) (by omega)]; exact hA.2.1 v i (by omega) (by omega)
    by_cases hu : up v i = true
    · refine br_f (by rw [e1]; exact xw_b_ne hu) ?_
      have snd : wX_sendFrom_106 post (wX_sendFrom_43 post (nI v) (xw_lc (rt_pt n rl og H v)) (xw_b (decide (rt_kd n rl og H v = 1 ∨ rt_kd n rl og H v = 2))) (m + 1)) (nI v) (xw_lc (rt_pt n rl og H v)) (xw_b (decide (rt_kd n rl og H v = 1 ∨ rt_kd n rl og H v = 2))) (nI i) (xw_lc (rt_ex n rl og H v i)) (nI v * 8 + nI i) (nI n) (nI d) ao ar al ah aw sl ab ap ak := by
        unfold wX_sendFrom_106
        rw [xw_ix]
        refine xw_send hA hn hd (by omega) (by omega) (by rw [rt_part_at]; exact (gq v i).2.1) (rt_ex_pd (fun a b => (gh a b).1.1) i hv).1 (gh v i).1.1 (by rw [rt_part_at]; exact fun x hx => ((gq v i).2.2 x hx).1) (fun u' hu' => ?_)
        rw [rt_part_at, ← rt_part_t hu] at hu'
        obtain ⟨ao', ar', al', ah', aw', sl', rfl, hA'⟩ := hu'
        exact nm_r (nI_1 i) (ih (i + 1) (by omega) ao' ar' al' ah' aw' sl' hA')
      by_cases hk : rt_kd n rl og H v = 1 ∨ rt_kd n rl og H v = 2
      · have ex : rt_ex n rl og H v i = rt_pt n rl og H v := by
          unfold rt_ex rt_xp
          exact if_pos (by omega)
        rw [ex] at snd
        exact br_f (xw_b_ne (decide_eq_true hk)) (br_f xw_10 snd)
      · refine br_t (xw_bn (by rw [decide_eq_false hk]; decide)) ⟨xw_in (by omega) (by omega), ?_⟩
        have hle := rt_rl_le hr v i
        by_cases h2 : rl v i = 2
        · have ex : rt_ex n rl og H v i = rt_pt n rl og H v := by
            unfold rt_ex rt_xp
            exact if_pos (by omega)
          rw [ex] at snd
          exact br_t (by rw [e2, h2]; rfl) (br_f xw_10 snd)
        · have ex : rt_ex n rl og H v i = [] := by
            unfold rt_ex rt_xp
            exact if_neg (by omega)
          rw [ex] at snd
          exact br_f (by rw [e2]; exact xw_ne (b := 2) (by omega) (by decide) h2) (br_t rfl snd)
    · refine br_t (by rw [e1]; exact xw_bn hu) (nm_r (nI_1 i) ?_)
      rw [← rt_part_f hu] at hA
      exact ih (i + 1) (by omega) ao ar al ah aw sl hA
theorem xw_sendFrom (hc : rt_cf n rl up) (hd : 1 ≤ d ∧ d ≤ 4) (gh : rt_gh n up H) (gq : rt_gq n d up Q) {v : Nat} (hv : v < n) {post : St2 → Prop}
    (hp : ∀ u', xw_X n d rl up og H (rt_part n d rl up og H Q (v + 1) 0) ab ap ak u' → post u') (ao ar al : Nat → Int32) (ah : Nat → Int64) (aw : Nat → Int32) (sl : Nat → Int64)
    (hA : xw_A rl up og H (rt_part n d rl up og H Q v 0) ao ar al ah aw sl) : wpX_sendFrom post (nI n, nI d, ao, ar, al, ah, aw, sl, ab, ap, ak) (nI v) := by
  have hc' := hc
  obtain ⟨_, hn, hr, hup, _⟩ := hc'
  have hg : ∀ a b, rt_ok n (H a b) := fun a b => (gh a b).1.1
  rw [← rt_part_row hc] at hp
  have hl := xw_sf_loop (og := og) hc hd gh gq hv hp n 0 (by omega) ao ar al ah aw sl hA
  unfold wpX_sendFrom
  refine xw_chosenBy hA hn hr hg hv ?_
  refine xw_pathVia hA hn hv (fun u hu => rt_ch_lt hv hu) ?_
  refine xw_kindVia hA hn hv (fun u hu => rt_ch_lt hv hu) ?_
  have hk4 : rt_kd n rl og H v ≤ 4 := by
    show rt_kvia rl v (rt_ch n rl og H v) ≤ 4
    cases rt_ch n rl og H v with
    | none => exact Nat.zero_le 4
    | some u =>
      dsimp only [rt_kvia]
      by_cases e : u = v
      · rw [if_pos e]; decide
      · rw [if_neg e]; exact rt_rl_le hr v u
  by_cases h1 : rt_kd n rl og H v = 1
  · rw [decide_eq_true (Or.inl h1)] at hl
    exact br_t (congrArg nI h1) ⟨n + 1, hl⟩
  · refine br_f (xw_ne (b := 1) (Nat.le_trans hk4 (by decide)) (by decide) h1) ?_
    by_cases h2 : rt_kd n rl og H v = 2
    · rw [decide_eq_true (Or.inr h2)] at hl
      exact br_t (congrArg nI h2) ⟨n + 1, hl⟩
    · rw [decide_eq_false (by omega)] at hl
      exact br_f (xw_ne (b := 2) (Nat.le_trans hk4 (by decide)) (by decide) h2) ⟨n + 1, hl⟩
theorem xw_sendAll (hc : rt_cf n rl up) (hd : 1 ≤ d ∧ d ≤ 4) (gh : rt_gh n up H) (gq : rt_gq n d up Q) {post : St2 → Prop}
    (hp : ∀ u', xw_X n d rl up og H (rt_send n d rl up og H Q) ab ap ak u' → post u') (ao ar al : Nat → Int32) (ah : Nat → Int64) (aw : Nat → Int32) (sl : Nat → Int64)
    (hA : xw_A rl up og H Q ao ar al ah aw sl) : wpX_sendAll post (nI n, nI d, ao, ar, al, ah, aw, sl, ab, ap, ak) := by
  have hn := hc.2.1
  rw [← rt_part_end hc] at hp
  rw [← rt_part_0 (n := n) (d := d) (rl := rl) (up := up) (og := og) (H := H) (Q := Q)] at hA
  have key : ∀ m v, v + m = n → ∀ (ao ar al : Nat → Int32) (ah : Nat → Int64) (aw : Nat → Int32) (sl : Nat → Int64), xw_A rl up og H (rt_part n d rl up og H Q v 0) ao ar al ah aw sl → wX_sendAll_2 post (m + 1) (nI v) (nI n) (nI d) ao ar al ah aw sl ab ap ak := by
    intro m
    induction m with
    | zero =>
      intro v hv ao ar al ah aw sl hA
      have e : v = n := by omega
      subst e
      exact br_t (xw_le (Nat.le_refl v) (by omega)) (hp _ ⟨ao, ar, al, ah, aw, sl, rfl, hA⟩)
    | succ m ih =>
      intro v hv ao ar al ah aw sl hA
      refine br_f (xw_ge (by omega) (by omega)) ?_
      refine xw_sendFrom hc hd gh gq (by omega) (fun u' hu' => ?_) ao ar al ah aw sl hA
      obtain ⟨ao', ar', al', ah', aw', sl', rfl, hA'⟩ := hu'
      exact nm_r (nI_1 v) (ih (v + 1) (by omega) ao' ar' al' ah' aw' sl' hA')
  exact ⟨n + 1, key n 0 (by omega) ao ar al ah aw sl hA⟩
end
/-! the oldest message is heard -/
section
variable {n d : Nat} {rl : Nat → Nat → Nat} {up : Nat → Nat → Bool} {og : Nat → Bool} {H : rt_HT} {Q : rt_QT} {ao ar al : Nat → Int32} {ah : Nat → Int64} {aw : Nat → Int32} {sl ab ap : Nat → Int64} {ak : Nat → Int32}
theorem xw_hearOldest (hA : xw_A rl up og H Q ao ar al ah aw sl) (hd : d ≤ 4) {a b : Nat} (ha : a < 8) (hb : b < 8) {m : List Nat} {r : List (List Nat)} (hq : Q a b = m :: r) (hlen : (Q a b).length ≤ d) {post : St2 → Prop}
    (hp : ∀ u', xw_X n d rl up og (rt_u2 H a b m) (rt_u2 Q a b r) ab ap ak u' → post u') : wpX_hearOldest post (nI n, nI d, ao, ar, al, ah, aw, sl, ab, ap, ak) (nI (a * 8 + b)) := by
  obtain ⟨A1, A2, A3, A4, A5, A6⟩ := hA
  rw [hq, List.length_cons] at hlen
  have h4 : nI (a * 8 + b) * 4 = nI ((a * 8 + b) * 4) := pk_mul _ 4
  have key : ∀ j i, i + j = r.length → ∀ sl' : Nat → Int64, xw_S (fun a' b' k => if a' = a ∧ b' = b then (if k < i then r[k]? else (m :: r)[k]?) else (Q a' b')[k]?) sl' →
      wX_hearOldest_28 post (nI (a * 8 + b)) (nI ((a * 8 + b) * 4)) (nI r.length) (nI n) (nI d) (j + 1) (nI i) ao ar al (vp_updL ah (a * 8 + b) (xw_lc m)) aw sl' ab ap ak := by
    intro j
    induction j with
    | zero =>
      intro i hi sl' hS
      have e : i = r.length := by omega
      subst e
      refine br_t (xw_le (Nat.le_refl _) (by omega)) ⟨vp_in_nI (by omega) (by decide), nm_r (e' := upd aw (a * 8 + b) (nI r.length)) (by rw [nI_clamp (by omega)]) ?_⟩
      refine hp _ ⟨ao, ar, al, _, _, sl', rfl, A1, A2, A3, xw_C_64 A4 hb rfl, xw_C_32 A5 hb rfl, xw_S_mono hS (fun a' b' k x ha' hb' hk hx => ?_)⟩
      have hx2 : (rt_u2 Q a b r a' b')[k]? = some x := hx
      by_cases z : a' = a ∧ b' = b
      · obtain ⟨rfl, rfl⟩ := z
        rw [rt_u2_s] at hx2
        obtain ⟨hk2, _⟩ := List.getElem?_eq_some_iff.mp hx2
        rw [if_pos ⟨rfl, rfl⟩, if_pos hk2]
        exact hx2
      · rw [rt_u2_n z] at hx2
        rw [if_neg z]
        exact hx2
    | succ j ih =>
      intro i hi sl' hS
      have e1 : nI ((a * 8 + b) * 4) + nI i = nI ((a * 8 + b) * 4 + i) := nI_add _ _
      have e2 : nI ((a * 8 + b) * 4) + nI i + 1 = nI ((a * 8 + b) * 4 + (i + 1)) := by rw [e1, nI_1, Nat.add_assoc]
      obtain ⟨x, hx⟩ : ∃ x, r[i]? = some x := ⟨r[i], List.getElem?_eq_getElem (by omega)⟩
      have e3 : sl' (nI ((a * 8 + b) * 4) + nI i + 1).toNatClampNeg = xw_lc x := by
        rw [e2, nI_clamp (by omega)]
        refine hS a b (i + 1) x ha hb (by omega) ?_
        dsimp only
        rw [if_pos ⟨rfl, rfl⟩, if_neg (by omega), List.getElem?_cons_succ]
        exact hx
      refine br_f (xw_ge (by omega) (by omega)) ⟨by rw [e2]; exact vp_in_nI (by omega) (by decide), by rw [e1]; exact vp_in_nI (by omega) (by decide), ?_⟩
      refine nm_r (e' := vp_updL sl' ((a * 8 + b) * 4 + i) (xw_lc x)) (by rw [e3, e1, nI_clamp (by omega)]) ?_
      refine nm_r (nI_1 i) (ih (i + 1) (by omega) _ ?_)
      refine xw_S_u hS hb (by omega) rfl (fun a' b' k y ha' hb' hk hy => ?_)
      by_cases z : a' = a ∧ b' = b
      · obtain ⟨rfl, rfl⟩ := z
        rw [if_pos ⟨rfl, rfl⟩] at hy ⊢
        by_cases ek : k = i
        · subst ek
          rw [if_pos (by omega), hx] at hy
          exact Or.inl ⟨⟨rfl, rfl, rfl⟩, (Option.some.inj hy).symm⟩
        · refine Or.inr ⟨fun w => ek w.2.2, ?_⟩
          by_cases hlt : k < i
          · rw [if_pos (by omega)] at hy
            rw [if_pos hlt]
            exact hy
          · rw [if_neg (by omega)] at hy
            rw [if_neg hlt]
            exact hy
      · rw [if_neg z] at hy ⊢
        exact Or.inr ⟨fun w => z ⟨w.1, w.2.1⟩, hy⟩
  unfold wpX_hearOldest
  refine nm_r h4 ⟨vp_in_nI (by omega) (by decide), vp_in_nI (by omega) (by decide), ?_⟩
  refine nm_r (e' := vp_updL ah (a * 8 + b) (xw_lc m)) ?_ ⟨vp_in_nI (by omega) (by decide), ?_⟩
  · rw [nI_clamp (by omega), nI_clamp (by omega)]
    have := A6 a b 0 m ha hb (by decide) (by show (Q a b)[0]? = some m; rw [hq]; rfl)
    rw [← this]
    rfl
  · refine nm_r (e' := nI r.length) ?_ ⟨r.length + 1, key r.length 0 (by omega) sl (xw_S_mono A6 (fun a' b' k x ha' hb' hk hx => ?_))⟩
    · rw [nI_clamp (by omega), A5 a b ha hb]
      show nI (Q a b).length - 1 = nI r.length
      rw [hq, List.length_cons, nI_pred]
    · by_cases z : a' = a ∧ b' = b
      · obtain ⟨rfl, rfl⟩ := z
        rw [if_pos ⟨rfl, rfl⟩, if_neg (Nat.not_lt_zero _)] at hx
        show (Q a' b')[k]? = some x
        rw [hq]
        exact hx
      · rw [if_neg z] at hx
        exact hx
/-! links -/
theorem xw_forget (hA : xw_A rl up og H Q ao ar al ah aw sl) {a b : Nat} (ha : a < 8) (hb : b < 8) {post : St2 → Prop}
    (hp : ∀ u', xw_X n d rl up og (rt_u2 H a b []) (rt_u2 Q a b []) ab ap ak u' → post u') : wpX_forget post (nI n, nI d, ao, ar, al, ah, aw, sl, ab, ap, ak) (nI (a * 8 + b)) := by
  obtain ⟨A1, A2, A3, A4, A5, A6⟩ := hA
  refine ⟨vp_in_nI (by omega) (by decide), nm_r (e' := vp_updL ah (a * 8 + b) 0) (by rw [nI_clamp (by omega)]) ⟨vp_in_nI (by omega) (by decide), nm_r (e' := upd aw (a * 8 + b) 0) (by rw [nI_clamp (by omega)]) ?_⟩⟩
  refine hp _ ⟨ao, ar, al, _, _, sl, rfl, A1, A2, A3, xw_C_64 A4 hb rfl, xw_C_32 A5 hb rfl, xw_S_mono A6 (fun a' b' k x ha' hb' hk hx => ?_)⟩
  have hx2 : (rt_u2 Q a b [] a' b')[k]? = some x := hx
  by_cases z : a' = a ∧ b' = b
  · obtain ⟨rfl, rfl⟩ := z
    rw [rt_u2_s] at hx2
    cases hx2
  · rw [rt_u2_n z] at hx2
    exact hx2
theorem xw_setLink (hA : xw_A rl up og H Q ao ar al ah aw sl) {a b : Nat} (ha : a < 8) (hb : b < 8) (z : Bool) {post : St2 → Prop}
    (hp : ∀ u', xw_X n d rl (rt_lk up a b z z) og (rt_lk H a b [] []) (rt_lk Q a b [] []) ab ap ak u' → post u') : wpX_setLink post (nI n, nI d, ao, ar, al, ah, aw, sl, ab, ap, ak) (nI a) (nI b) (xw_b z) := by
  obtain ⟨A1, A2, A3, A4, A5, A6⟩ := hA
  unfold wpX_setLink wpX_pair
  dsimp only
  rw [xw_ix, xw_ix]
  refine ⟨vp_in_nI (by omega) (by decide), nm_r (e' := upd al (a * 8 + b) (xw_b z)) (by rw [nI_clamp (by omega), xw_nar]) ?_⟩
  refine ⟨vp_in_nI (by omega) (by decide), nm_r (e' := upd (upd al (a * 8 + b) (xw_b z)) (b * 8 + a) (xw_b z)) (by rw [nI_clamp (by omega), xw_nar]) ?_⟩
  refine xw_forget (up := rt_lk up a b z z) (og := og) (rl := rl) (H := H) (Q := Q) ⟨A1, A2, xw_C_32 (xw_C_32 A3 hb rfl) ha rfl, A4, A5, A6⟩ ha hb (fun u' hu' => ?_)
  obtain ⟨ao', ar', al', ah', aw', sl', rfl, hA'⟩ := hu'
  refine xw_forget hA' hb ha (fun u2 hu2 => ?_)
  obtain ⟨ao2, ar2, al2, ah2, aw2, sl2, rfl, hA2⟩ := hu2
  exact hp _ ⟨ao2, ar2, al2, ah2, aw2, sl2, rfl, hA2⟩
end
end
section
/-! paths stay paths while the phases run -/
def rt_W (n : Nat) (rl : Nat → Nat → Nat) (E : rt_ET) : Prop := ∀ v, v < n →
  rt_ok n (E.1 v) ∧ (E.2 v = 0 ↔ E.1 v = []) ∧ E.2 v ≤ 4 ∧
  ((E.2 v = 1 ∨ E.2 v = 2) → ∀ x, x ∈ E.1 v → (E.2 x = 1 ∨ E.2 x = 2) ∧ rt_R rl v x) ∧
  (E.2 v = 3 → ∀ x, x ∈ E.1 v → x = v ∨ (E.2 x = 1 ∨ E.2 x = 2)) ∧
  (E.2 v = 4 → ∀ x, x ∈ E.1 v → rt_R rl x v ∨ (E.2 x = 1 ∨ E.2 x = 2 ∨ E.2 x = 3))
section
variable {n : Nat} {rl : Nat → Nat → Nat} {up : Nat → Nat → Bool}
theorem rt_W_0 (og : Nat → Bool) : rt_W n rl (rt_E0 og) := by
  intro v hv
  by_cases h : og v = true
  · have e1 : (rt_E0 og).1 v = [v] := if_pos h
    have e2 : (rt_E0 og).2 v = 1 := if_pos h
    rw [e1, e2]
    refine ⟨rt_ok_cons (rt_ok_nil n) hv List.not_mem_nil, ⟨fun z => by omega, fun z => (nomatch z)⟩, by decide, fun _ x hx => ?_, fun z => by omega, fun z => by omega⟩
    rw [List.mem_singleton.mp hx, e2]
    exact ⟨Or.inl rfl, rt_R_refl rl v⟩
  · have e1 : (rt_E0 og).1 v = [] := if_neg h
    have e2 : (rt_E0 og).2 v = 0 := if_neg h
    rw [e1, e2]
    exact ⟨rt_ok_nil n, ⟨fun _ => rfl, fun _ => rfl⟩, by decide, fun z => by omega, fun z => by omega, fun z => by omega⟩
theorem rt_W_tk (hc : rt_cf n rl up) {q v : Nat} (hq2 : 2 ≤ q) (hq4 : q ≤ 4) {E : rt_ET} (hW : rt_W n rl E) (hv : v < n) (hk : E.2 v = 0 ∨ E.2 v = q) : rt_W n rl (rt_tk n rl up q v E) := by
  have hc' := hc
  obtain ⟨_, h8, hr, hup, ha⟩ := hc'
  unfold rt_tk
  cases hb : rt_bs n rl up E.1 E.2 q v with
  | none => exact hW
  | some b =>
    obtain ⟨hbn, ⟨hbu, hbr, hb0, hbk⟩, _⟩ := rt_bs_some hb
    have hop := rt_rl_op hr (a := v) (b := b) (by omega)
    have m2 : ∀ x, (E.2 x = 1 ∨ E.2 x = 2) → (rt_u1 E.2 v q x = 1 ∨ rt_u1 E.2 v q x = 2) := by
      intro x hx
      by_cases e : x = v
      · subst e; rw [rt_u1_s]; omega
      · rw [rt_u1_n e]; exact hx
    have m3 : ∀ x, (E.2 x = 1 ∨ E.2 x = 2 ∨ E.2 x = 3) → (rt_u1 E.2 v q x = 1 ∨ rt_u1 E.2 v q x = 2 ∨ rt_u1 E.2 v q x = 3) := by
      intro x hx
      by_cases e : x = v
      · subst e; rw [rt_u1_s]; omega
      · rw [rt_u1_n e]; exact hx
    obtain ⟨b1, b2, b3, b4, b5, b6⟩ := hW b hbn
    have hnm : v ∉ E.1 b := by
      intro z
      by_cases k12 : E.2 b = 1 ∨ E.2 b = 2
      · have h := b4 k12 v z
        by_cases e2 : q = 2
        · exact ha v b (by omega) h.2
        · omega
      · have e4 : q = 4 := by omega
        have hbv : rl b v = 2 := by omega
        by_cases k3 : E.2 b = 3
        · rcases b5 k3 v z with h | h
          · exact hop.2.2.1 h
          · omega
        · rcases b6 (by omega) v z with h | h
          · exact ha b v hbv h
          · omega
    intro w hw
    show rt_ok n (rt_u1 E.1 v (v :: E.1 b) w) ∧ (rt_u1 E.2 v q w = 0 ↔ rt_u1 E.1 v (v :: E.1 b) w = []) ∧ rt_u1 E.2 v q w ≤ 4 ∧
      ((rt_u1 E.2 v q w = 1 ∨ rt_u1 E.2 v q w = 2) → ∀ x, x ∈ rt_u1 E.1 v (v :: E.1 b) w → (rt_u1 E.2 v q x = 1 ∨ rt_u1 E.2 v q x = 2) ∧ rt_R rl w x) ∧
      (rt_u1 E.2 v q w = 3 → ∀ x, x ∈ rt_u1 E.1 v (v :: E.1 b) w → x = w ∨ (rt_u1 E.2 v q x = 1 ∨ rt_u1 E.2 v q x = 2)) ∧
      (rt_u1 E.2 v q w = 4 → ∀ x, x ∈ rt_u1 E.1 v (v :: E.1 b) w → rt_R rl x w ∨ (rt_u1 E.2 v q x = 1 ∨ rt_u1 E.2 v q x = 2 ∨ rt_u1 E.2 v q x = 3))
    by_cases e : w = v
    · subst e
      rw [rt_u1_s, show rt_u1 E.2 w q w = q from rt_u1_s]
      refine ⟨rt_ok_cons b1 hw hnm, ⟨fun z => by omega, fun z => (nomatch z)⟩, hq4, fun z x hx => ?_, fun z x hx => ?_, fun z x hx => ?_⟩
      · rcases List.mem_cons.mp hx with y | y
        · rw [y, show rt_u1 E.2 w q w = q from rt_u1_s]
          exact ⟨z, rt_R_refl rl w⟩
        · have h := b4 (by omega) x y
          exact ⟨m2 x h.1, rt_R_step (by omega) h.2⟩
      · rcases List.mem_cons.mp hx with y | y
        · exact Or.inl y
        · exact Or.inr (m2 x (b4 (by omega) x y).1)
      · rcases List.mem_cons.mp hx with y | y
        · rw [y]; exact Or.inl (rt_R_refl rl w)
        · by_cases k12 : E.2 b = 1 ∨ E.2 b = 2
          · have h := (b4 k12 x y).1
            exact Or.inr (m3 x (by omega))
          · by_cases k3 : E.2 b = 3
            · rcases b5 k3 x y with h | h
              · rw [h]; exact Or.inl (rt_R_step (by omega) (rt_R_refl rl w))
              · exact Or.inr (m3 x (by omega))
            · rcases b6 (by omega) x y with h | h
              · exact Or.inl (rt_R_snoc h (by omega))
              · exact Or.inr (m3 x h)
    · rw [rt_u1_n e, show rt_u1 E.2 v q w = E.2 w from rt_u1_n e]
      obtain ⟨c1, c2, c3, c4, c5, c6⟩ := hW w hw
      refine ⟨c1, c2, c3, fun z x hx => ⟨m2 x (c4 z x hx).1, (c4 z x hx).2⟩, fun z x hx => ?_, fun z x hx => ?_⟩
      · rcases c5 z x hx with h | h
        · exact Or.inl h
        · exact Or.inr (m2 x h)
      · rcases c6 z x hx with h | h
        · exact Or.inl h
        · exact Or.inr (m3 x h)
theorem rt_W_ps (hc : rt_cf n rl up) {q : Nat} (hq2 : 2 ≤ q) (hq4 : q ≤ 4) {E : rt_ET} (hW : rt_W n rl E) : ∀ i, i ≤ n → rt_W n rl (rt_ps n rl up q E i) := by
  intro i
  induction i with
  | zero => intro _; exact hW
  | succ i ih =>
    intro hi
    have h := ih (by omega)
    rw [rt_ps]
    by_cases z : (rt_ps n rl up q E i).2 i = 0 ∨ (rt_ps n rl up q E i).2 i = q
    · rw [if_pos z]; exact rt_W_tk hc hq2 hq4 h (by omega) z
    · rw [if_neg z]; exact h
theorem rt_W_rs (hc : rt_cf n rl up) {q : Nat} (hq2 : 2 ≤ q) (hq4 : q ≤ 4) {E : rt_ET} (hW : rt_W n rl E) : ∀ k, rt_W n rl (rt_rs n rl up q E k) := by
  intro k
  induction k with
  | zero => exact hW
  | succ k ih => exact rt_W_ps hc hq2 hq4 ih n (Nat.le_refl n)
end
/-! messages in flight, all together -/
def rt_tot (Q : rt_QT) : Nat → Nat
  | 0 => 0
  | k + 1 => rt_tot Q k + (Q (k / 8) (k % 8)).length
theorem rt_tot_0 {Q : rt_QT} : ∀ k, rt_tot Q k = 0 → ∀ j, j < k → Q (j / 8) (j % 8) = [] := by
  intro k
  induction k with
  | zero => intro _ j hj; omega
  | succ k ih =>
    intro h j hj
    have h2 : rt_tot Q k + (Q (k / 8) (k % 8)).length = 0 := h
    by_cases e : j = k
    · subst e
      exact List.length_eq_zero_iff.mp (by omega)
    · exact ih (by omega) j (by omega)
theorem rt_tot_e {Q : rt_QT} (hq : ∀ a b, Q a b = []) : ∀ k, rt_tot Q k = 0 := by
  intro k
  induction k with
  | zero => rfl
  | succ k ih =>
    show rt_tot Q k + (Q (k / 8) (k % 8)).length = 0
    rw [ih, hq]
    rfl
theorem rt_tot_le {Q : rt_QT} {d : Nat} (h : ∀ a b, (Q a b).length ≤ d) : ∀ k, rt_tot Q k ≤ k * d := by
  intro k
  induction k with
  | zero => exact Nat.zero_le _
  | succ k ih =>
    have h2 := h (k / 8) (k % 8)
    show rt_tot Q k + (Q (k / 8) (k % 8)).length ≤ (k + 1) * d
    rw [Nat.succ_mul]
    omega
theorem rt_tot_all {n d : Nat} {rl : Nat → Nat → Nat} {up : Nat → Nat → Bool} {og : Nat → Bool} {H : rt_HT} {Q : rt_QT} (hI : rt_inv n d rl up og H Q) (h : rt_tot Q 64 = 0) (a b : Nat) : Q a b = [] := by
  by_cases hab : up a b = true
  · have h1 := rt_up_lt hI.1 hab
    have h2 := hI.1.2.1
    have h3 := rt_tot_0 64 h (a * 8 + b) (by omega)
    rw [show (a * 8 + b) / 8 = a by omega, show (a * 8 + b) % 8 = b by omega] at h3
    exact h3
  · by_cases e : Q a b = []
    · exact e
    · exact absurd ((hI.2.2.2.1 a b).1 e) hab
/-! how many selected paths differ -/
def rt_chg (p p' : Nat → List Nat) : Nat → Nat
  | 0 => 0
  | k + 1 => rt_chg p p' k + (if p' k = p k then 0 else 1)
/-! a packet's way -/
def rt_fw (c : Nat → Option Nat) : Nat → Nat → Nat → Int32
  | 0, _, _ => -6
  | m + 1, h, v => match c v with
    | none => -7
    | some u => if u = v then nI h else rt_fw c m (h + 1) u
def rt_fy (c : Nat → Option Nat) : Nat → Nat → Nat → List Nat → Int32
  | 0, _, _, _ => -6
  | m + 1, h, v, S => if v ∈ S then -6 else match c v with
    | none => -7
    | some u => if u = v then nI h else rt_fy c m (h + 1) u (v :: S)
theorem rt_fw_stuck {c : Nat → Option Nat} {S : List Nat} (hS : ∀ x, x ∈ S → ∃ u, c x = some u ∧ u ≠ x ∧ u ∈ S) : ∀ m h v, v ∈ S → rt_fw c m h v = -6 := by
  intro m
  induction m with
  | zero => intro h v _; rfl
  | succ m ih =>
    intro h v hv
    obtain ⟨u, h1, h2, h3⟩ := hS v hv
    rw [rt_fw, h1]
    dsimp only
    rw [if_neg h2]
    exact ih (h + 1) u h3
theorem rt_fw_fy {n : Nat} {c : Nat → Option Nat} (hc : ∀ v u, v < n → c v = some u → u < n) : ∀ m h v S, h + m = n → S.length = h → rt_ok n S → v < n →
    (∀ x, x ∈ S → ∃ u, c x = some u ∧ u ≠ x ∧ (u ∈ S ∨ u = v)) → rt_fw c m h v = rt_fy c (m + 1) h v S := by
  intro m
  induction m with
  | zero =>
    intro h v S hm hl hS hv hcl
    by_cases hin : v ∈ S
    · rw [rt_fy, if_pos hin]
      rfl
    · have h2 := rt_len (rt_ok_cons hS hv hin)
      rw [List.length_cons] at h2
      omega
  | succ m ih =>
    intro h v S hm hl hS hv hcl
    by_cases hin : v ∈ S
    · rw [rt_fy, if_pos hin]
      refine rt_fw_stuck (S := S) (fun x hx => ?_) _ h v hin
      obtain ⟨u, h1, h2, h3⟩ := hcl x hx
      refine ⟨u, h1, h2, ?_⟩
      rcases h3 with z | z
      · exact z
      · rw [z]; exact hin
    · rw [rt_fy, if_neg hin, rt_fw]
      cases e : c v with
      | none => rfl
      | some u =>
        dsimp only
        by_cases eu : u = v
        · rw [if_pos eu, if_pos eu]
        · rw [if_neg eu, if_neg eu]
          refine ih (h + 1) u (v :: S) (by omega) (by rw [List.length_cons, hl]) (rt_ok_cons hS hv hin) (hc v u hv e) (fun x hx => ?_)
          rcases List.mem_cons.mp hx with z | z
          · rw [z]
            exact ⟨u, e, eu, Or.inr rfl⟩
          · obtain ⟨w, h1, h2, h3⟩ := hcl x z
            refine ⟨w, h1, h2, Or.inl ?_⟩
            rcases h3 with y | y
            · exact List.mem_cons_of_mem _ y
            · rw [y]; exact List.mem_cons_self
/-! sets of nodes as masks -/
theorem xw_bit : ∀ M, M < 256 → ∀ v, v < 8 → (((nI M >>> (nI v &&& 31)) &&& 1) = 1 ↔ M.testBit v = true) := by decide +kernel
theorem xw_one : ∀ v, v < 8 → (1 : Int32) <<< (nI v &&& 31) = nI (2 ^ v) := by decide +kernel
theorem xw_or (a b : Nat) : nI a ||| nI b = nI (a ||| b) := by
  apply Int32.toBitVec_inj.1
  show BitVec.ofNat 32 a ||| BitVec.ofNat 32 b = BitVec.ofNat 32 (a ||| b)
  apply BitVec.eq_of_getLsbD_eq
  intro i hi
  simp [hi]
theorem xw_or_lt {a b : Nat} (ha : a < 256) (hb : b < 256) : a ||| b < 256 := Nat.or_lt_two_pow (n := 8) ha hb
theorem xw_pw : ∀ v, v < 8 → 2 ^ v < 256 := by decide
theorem xw_set {M v : Nat} (hv : v < 8) : nI M ||| ((1 : Int32) <<< (nI v &&& 31)) = nI (M ||| 2 ^ v) := by rw [xw_one v hv, xw_or]
theorem xw_tb (M v y : Nat) : (M ||| 2 ^ v).testBit y = true ↔ (M.testBit y = true ∨ y = v) := by
  rw [Nat.testBit_or, Nat.testBit_two_pow, Bool.or_eq_true, decide_eq_true_eq]
  constructor
  · rintro (h | h)
    · exact Or.inl h
    · exact Or.inr h.symm
  · rintro (h | h)
    · exact Or.inl h
    · exact Or.inr h.symm
theorem xw_tb1 (v y : Nat) : (2 ^ v).testBit y = true ↔ y = v := by
  rw [Nat.testBit_two_pow, decide_eq_true_eq]
  exact ⟨fun h => h.symm, fun h => h.symm⟩
end
section
/-! counting, rounds, settling -/
section
variable {n d : Nat} {rl : Nat → Nat → Nat} {up : Nat → Nat → Bool} {og : Nat → Bool} {H : rt_HT} {Q : rt_QT} {ao ar al : Nat → Int32} {ah : Nat → Int64} {aw : Nat → Int32} {sl ab ap : Nat → Int64} {ak : Nat → Int32}
theorem xw_inFlight (hA : xw_A rl up og H Q ao ar al ah aw sl) {post : Int32 → Prop} (hp : post (nI (rt_tot Q 64))) : wpX_inFlight post (nI n, nI d, ao, ar, al, ah, aw, sl, ab, ap, ak) := by
  have key : ∀ m i, i + m = 64 → wX_inFlight_4 post (nI n) (nI d) ao ar al ah aw sl ab ap ak (m + 1) (nI (rt_tot Q i)) (nI i) := by
    intro m
    induction m with
    | zero =>
      intro i hi
      have e : i = 64 := by omega
      subst e
      exact br_t (xw_le (a := 64) (b := 64) (by decide) (by decide)) hp
    | succ m ih =>
      intro i hi
      refine br_f (xw_ge (b := 64) (by omega) (by decide)) ⟨vp_in_nI (by omega) (by decide), ?_⟩
      have e : nI (rt_tot Q i) + aw (nI i).toNatClampNeg = nI (rt_tot Q (i + 1)) := by
        have h := hA.2.2.2.2.1 (i / 8) (i % 8) (by omega) (by omega)
        rw [show i / 8 * 8 + i % 8 = i by omega] at h
        rw [nI_clamp (by omega), h]
        exact nI_add _ _
      exact nm_r e (nm_r (nI_1 i) (ih (i + 1) (by omega)))
  exact ⟨65, key 64 0 rfl⟩
end
section
variable {n d : Nat} {rl : Nat → Nat → Nat} {up : Nat → Nat → Bool} {og : Nat → Bool} {ab ap : Nat → Int64} {ak : Nat → Int32}
theorem rt_rd_inv {s : rt_HT × rt_QT} (hI : rt_inv n d rl up og s.1 s.2) (k : Nat) : rt_inv n d rl up og (rt_rd n d rl up og s k).1 (rt_rd n d rl up og s k).2 :=
  (rt_rd_lv hI 0 (fun _ _ _ h => absurd h (Nat.not_lt_zero _)) k).1
/-- one message heard, all sent -/
theorem xw_hear (s : rt_HT × rt_QT) (hI : rt_inv n d rl up og s.1 s.2) {a b : Nat} (ha : a < 8) (hb : b < 8) {m : List Nat} {r : List (List Nat)} (hq : s.2 a b = m :: r) {post : St2 → Prop}
    (hp : ∀ u', xw_X n d rl up og (rt_dl n d rl up og a b s).1 (rt_dl n d rl up og a b s).2 ab ap ak u' → post u') (ao ar al : Nat → Int32) (ah : Nat → Int64) (aw : Nat → Int32) (sl : Nat → Int64) (hA : xw_A rl up og s.1 s.2 ao ar al ah aw sl) :
    wpX_hearOldest (fun u => wpX_sendAll post u) (nI n, nI d, ao, ar, al, ah, aw, sl, ab, ap, ak) (nI (a * 8 + b)) := by
  have e : rt_dl n d rl up og a b s = (rt_u2 s.1 a b m, rt_send n d rl up og (rt_u2 s.1 a b m) (rt_u2 s.2 a b r)) := by
    unfold rt_dl
    rw [hq]
  rw [e] at hp
  have hI2 := (rt_del hI hq).1
  refine xw_hearOldest hA hI.2.1.2 ha hb hq (hI.2.2.2.1 a b).2.1 (fun u' hu' => ?_)
  obtain ⟨ao', ar', al', ah', aw', sl', rfl, hA'⟩ := hu'
  refine xw_sendAll hI.1 hI.2.1 hI2.2.2.1 ?_ hp ao' ar' al' ah' aw' sl' hA'
  intro c e
  obtain ⟨g1, g2, g3⟩ := hI.2.2.2.1 a b
  by_cases z : c = a ∧ e = b
  · obtain ⟨rfl, rfl⟩ := z
    rw [rt_u2_s]
    rw [hq, List.length_cons] at g2
    exact ⟨fun _ => g1 (by rw [hq]; exact fun z => nomatch z), by omega, fun x hx => g3 x (by rw [hq]; exact List.mem_cons_of_mem _ hx)⟩
  · rw [rt_u2_n z]
    exact hI.2.2.2.1 c e
theorem xw_deliverRound (s : rt_HT × rt_QT) (hI : rt_inv n d rl up og s.1 s.2) {post : St2 → Prop}
    (hp : ∀ u', xw_X n d rl up og (rt_rd n d rl up og s 64).1 (rt_rd n d rl up og s 64).2 ab ap ak u' → post u') (ao ar al : Nat → Int32) (ah : Nat → Int64) (aw : Nat → Int32) (sl : Nat → Int64) (hA : xw_A rl up og s.1 s.2 ao ar al ah aw sl) :
    wpX_deliverRound post (nI n, nI d, ao, ar, al, ah, aw, sl, ab, ap, ak) := by
  have key : ∀ m i, i + m = 64 → ∀ (ao ar al : Nat → Int32) (ah : Nat → Int64) (aw : Nat → Int32) (sl : Nat → Int64), xw_A rl up og (rt_rd n d rl up og s i).1 (rt_rd n d rl up og s i).2 ao ar al ah aw sl → wX_deliverRound_2 post (m + 1) (nI i) (nI n) (nI d) ao ar al ah aw sl ab ap ak := by
    intro m
    induction m with
    | zero =>
      intro i hi ao ar al ah aw sl hA
      have e : i = 64 := by omega
      subst e
      exact br_t (xw_le (a := 64) (b := 64) (by decide) (by decide)) (hp _ ⟨ao, ar, al, ah, aw, sl, rfl, hA⟩)
    | succ m ih =>
      intro i hi ao ar al ah aw sl hA
      have hI2 := rt_rd_inv hI i
      have ei : i / 8 * 8 + i % 8 = i := by omega
      have hw : aw (nI i).toNatClampNeg = nI ((rt_rd n d rl up og s i).2 (i / 8) (i % 8)).length := by
        have h := hA.2.2.2.2.1 (i / 8) (i % 8) (by omega) (by omega)
        rw [ei] at h
        rw [nI_clamp (by omega), h]
        rfl
      have hle := (hI2.2.2.2.1 (i / 8) (i % 8)).2.1
      have hd4 := hI2.2.1.2
      refine br_f (xw_ge (b := 64) (by omega) (by decide)) ⟨vp_in_nI (by omega) (by decide), ?_⟩
      cases hq : (rt_rd n d rl up og s i).2 (i / 8) (i % 8) with
      | nil =>
        have e : rt_rd n d rl up og s (i + 1) = rt_rd n d rl up og s i := by
          rw [rt_rd]
          unfold rt_dl
          rw [hq]
        rw [hq] at hw
        refine br_t (by rw [hw]; exact xw_le (a := 0) (b := 0) (by decide) (by decide)) (nm_r (nI_1 i) ?_)
        rw [← e] at hA
        exact ih (i + 1) (by omega) ao ar al ah aw sl hA
      | cons x r =>
        rw [hq, List.length_cons] at hw hle
        refine br_f (by rw [hw]; exact xw_ge (a := 0) (by omega) (by omega)) ?_
        have h := xw_hear (ab := ab) (ap := ap) (ak := ak) (rt_rd n d rl up og s i) hI2 (a := i / 8) (b := i % 8) (by omega) (by omega) hq
          (post := fun u => match u with
            | (N, D, ao, ar, al, ah, aw, sl, ab, ap, ak) => ∀ x1 : Int32, x1 = nI i + 1 → wX_deliverRound_2 post (m + 1) x1 N D ao ar al ah aw sl ab ap ak)
          (fun u' hu' => by
            obtain ⟨ao', ar', al', ah', aw', sl', rfl, hA'⟩ := hu'
            exact nm_r (nI_1 i) (ih (i + 1) (by omega) ao' ar' al' ah' aw' sl' hA')) ao ar al ah aw sl hA
        rw [ei] at h
        exact h
  exact ⟨65, key 64 0 rfl ao ar al ah aw sl hA⟩
theorem xw_count {H H' : rt_HT} {Q' : rt_QT} (hn : n ≤ 8) (hr : rt_rl n rl) (hg : ∀ a b, rt_ok n (H a b)) (hg' : ∀ a b, rt_ok n (H' a b)) {post : Int32 → St2 → Prop}
    (ao ar al : Nat → Int32) (ah : Nat → Int64) (aw : Nat → Int32) (sl : Nat → Int64) (hA : xw_A rl up og H' Q' ao ar al ah aw sl) (hb : ∀ v, v < n → ab v = xw_lc (rt_pt n rl og H v))
    (hp : post (nI (rt_chg (rt_pt n rl og H) (rt_pt n rl og H') n)) (nI n, nI d, ao, ar, al, ah, aw, sl, ab, ap, ak)) : ∃ f, wX_settle_57 post (nI n) (nI d) ao ar al ah aw sl ab ap ak f 0 0 := by
  have key : ∀ m i, i + m = n → wX_settle_57 post (nI n) (nI d) ao ar al ah aw sl ab ap ak (m + 1) (nI (rt_chg (rt_pt n rl og H) (rt_pt n rl og H') i)) (nI i) := by
    intro m
    induction m with
    | zero =>
      intro i hi
      have e : i = n := by omega
      subst e
      exact br_t (xw_le (Nat.le_refl i) (by omega)) hp
    | succ m ih =>
      intro i hi
      refine br_f (xw_ge (by omega) (by omega)) ?_
      refine xw_selectedPath hA hn hr hg' (by omega) ⟨xw_i8 (by omega), ?_⟩
      have e1 : ab (nI i).toNatClampNeg = xw_lc (rt_pt n rl og H i) := by rw [xw_c8 (by omega)]; exact hb i (by omega)
      have ok1 := (rt_pt_pd (rl := rl) (og := og) hg (show i < n by omega)).1
      have ok2 := (rt_pt_pd (rl := rl) (og := og) hg' (show i < n by omega)).1
      by_cases z : rt_pt n rl og H' i = rt_pt n rl og H i
      · refine br_t (by rw [e1, z]) (nm_r (nI_1 i) ?_)
        have h := ih (i + 1) (by omega)
        rw [rt_chg, if_pos z] at h
        exact h
      · refine br_f (by rw [e1]; exact fun y => z ((xw_lc_eq hn ok2 ok1).mp y)) ?_
        have h := ih (i + 1) (by omega)
        rw [rt_chg, if_neg z] at h
        exact nm_r (nI_1 _) (nm_r (nI_1 i) h)
  exact ⟨n + 1, key n 0 (by omega)⟩
theorem xw_settle29 {H : rt_HT} (hg : ∀ a b, rt_ok n (H a b)) {post : Int32 → St2 → Prop} (hb : ∀ v, v < n → ab v = xw_lc (rt_pt n rl og H v))
    (hp : ∀ H' Q' u', rt_inv n d rl up og H' Q' → (∀ a b, Q' a b = []) → xw_X n d rl up og H' Q' ab ap ak u' → post (nI (rt_chg (rt_pt n rl og H) (rt_pt n rl og H') n)) u') :
    ∀ m r, r + m = 10000 → ∀ s : rt_HT × rt_QT, rt_inv n d rl up og s.1 s.2 → rt_J n rl up s.2 r → ∀ (ao ar al : Nat → Int32) (ah : Nat → Int64) (aw : Nat → Int32) (sl : Nat → Int64), xw_A rl up og s.1 s.2 ao ar al ah aw sl → wX_settle_29 post (m + 1) (nI r) (nI n) (nI d) ao ar al ah aw sl ab ap ak := by
  have fin : ∀ s : rt_HT × rt_QT, rt_inv n d rl up og s.1 s.2 → (∀ a b, s.2 a b = []) → ∀ (ao ar al : Nat → Int32) (ah : Nat → Int64) (aw : Nat → Int32) (sl : Nat → Int64), xw_A rl up og s.1 s.2 ao ar al ah aw sl → ∃ f, wX_settle_57 post (nI n) (nI d) ao ar al ah aw sl ab ap ak f 0 0 := by
    intro s hI hq ao ar al ah aw sl hA
    exact xw_count hI.1.2.1 hI.1.2.2.1 hg (fun a b => (hI.2.2.1 a b).1.1) ao ar al ah aw sl hA hb (hp s.1 s.2 _ hI hq ⟨ao, ar, al, ah, aw, sl, rfl, hA⟩)
  intro m
  induction m with
  | zero =>
    intro r hr s hI hJ ao ar al ah aw sl hA
    have e : r = 10000 := by omega
    subst e
    exact br_t (nI_le (a := 10000) (b := 10000) (by decide) (by decide)) (fin s hI (rt_J_end hI (by decide) hJ) ao ar al ah aw sl hA)
  | succ m ih =>
    intro r hr s hI hJ ao ar al ah aw sl hA
    refine br_f (nI_ge (b := 10000) (by omega) (by decide)) ?_
    refine xw_inFlight hA ?_
    have hle := rt_tot_le (fun a b => (hI.2.2.2.1 a b).2.1) 64
    have hd4 := hI.2.1.2
    by_cases z : rt_tot s.2 64 = 0
    · exact br_t (by rw [z]; exact xw_le (a := 0) (b := 0) (by decide) (by decide)) (fin s hI (rt_tot_all hI z) ao ar al ah aw sl hA)
    · refine br_f (nI_nle (by omega) (by omega)) ?_
      have hS := rt_J_s hI hJ
      refine xw_deliverRound s hI (fun u' hu' => ?_) ao ar al ah aw sl hA
      obtain ⟨ao', ar', al', ah', aw', sl', rfl, hA'⟩ := hu'
      exact nm_r (nI_1 r) (ih (r + 1) (by omega) _ hS.1 hS.2 ao' ar' al' ah' aw' sl' hA')
theorem xw_settle {H : rt_HT} {Q : rt_QT} (hI : rt_inv n d rl up og H Q) {post : Int32 → St2 → Prop}
    (hp : ∀ H' Q' ab' u', rt_inv n d rl up og H' Q' → (∀ a b, Q' a b = []) → xw_X n d rl up og H' Q' ab' ap ak u' → post (nI (rt_chg (rt_pt n rl og H) (rt_pt n rl og H') n)) u')
    (ao ar al : Nat → Int32) (ah : Nat → Int64) (aw : Nat → Int32) (sl : Nat → Int64) (hA : xw_A rl up og H Q ao ar al ah aw sl) : wpX_settle post (nI n, nI d, ao, ar, al, ah, aw, sl, ab, ap, ak) := by
  have hn := hI.1.2.1
  have hr := hI.1.2.2.1
  have hg : ∀ a b, rt_ok n (H a b) := fun a b => (hI.2.2.1 a b).1.1
  have key : ∀ m i, i + m = n → ∀ ab : Nat → Int64, (∀ v, v < i → ab v = xw_lc (rt_pt n rl og H v)) → wX_settle_2 post (nI n) (nI d) (m + 1) (nI i) ao ar al ah aw sl ab ap ak := by
    intro m
    induction m with
    | zero =>
      intro i hi ab hb
      have e : i = n := by omega
      subst e
      exact br_t (xw_le (Nat.le_refl i) (by omega)) ⟨10001, xw_settle29 hg hb (fun H' Q' u' h1 h2 h3 => hp H' Q' ab u' h1 h2 h3) 10000 0 (by omega) (H, Q) hI (rt_J_0 hI) ao ar al ah aw sl hA⟩
    | succ m ih =>
      intro i hi ab hb
      refine br_f (xw_ge (by omega) (by omega)) ?_
      refine xw_selectedPath hA hn hr hg (by omega) ⟨xw_i8 (by omega), ?_⟩
      refine nm_r (e' := vp_updL ab i (xw_lc (rt_pt n rl og H i))) (by rw [xw_c8 (by omega)]) (nm_r (nI_1 i) (ih (i + 1) (by omega) _ (fun v hv => ?_)))
      by_cases e : v = i
      · subst e; exact pk_uLs
      · rw [pk_uLn e]; exact hb v (by omega)
  exact ⟨n + 1, key n 0 (by omega) ab (fun v hv => absurd hv (Nat.not_lt_zero v))⟩
end
/-! who is below whom -/
section
variable {n d : Nat} {rl : Nat → Nat → Nat} {up : Nat → Nat → Bool} {og : Nat → Bool} {H : rt_HT} {Q : rt_QT} {ao ar al : Nat → Int32} {ah : Nat → Int64} {aw : Nat → Int32} {sl ab ap : Nat → Int64} {ak : Nat → Int32}
theorem xw_customersOf (hA : xw_A rl up og H Q ao ar al ah aw sl) (hn : n ≤ 8) (hr : rt_rl n rl) {G : Nat} (hG : G < 256) {post : Int32 → Prop}
    (hp : ∀ C, C < 256 → (∀ y, C.testBit y = true ↔ ∃ x, x < n ∧ G.testBit x = true ∧ rl x y = 2) → post (nI C)) : wpX_customersOf post (nI n, nI d, ao, ar, al, ah, aw, sl, ab, ap, ak) (nI G) := by
  have key : ∀ m i, i + m = n → ∀ C, C < 256 → (∀ y, C.testBit y = true ↔ ∃ x, x < i ∧ G.testBit x = true ∧ rl x y = 2) → wX_customersOf_4 post (nI G) (nI n) (nI d) ao ar al ah aw sl ab ap ak (m + 1) (nI C) (nI i) := by
    intro m
    induction m with
    | zero =>
      intro i hi C hC hb
      have e : i = n := by omega
      subst e
      exact br_t (xw_le (Nat.le_refl i) (by omega)) (hp C hC hb)
    | succ m ih =>
      intro i hi C hC hb
      refine br_f (xw_ge (by omega) (by omega)) ?_
      have inner : ∀ k j, j + k = n → ∀ C', C' < 256 → (∀ y, C'.testBit y = true ↔ (C.testBit y = true ∨ (y < j ∧ G.testBit i = true ∧ rl i y = 2))) →
          wX_customersOf_15 post (wX_customersOf_4 post (nI G) (nI n) (nI d) ao ar al ah aw sl ab ap ak (m + 1)) (nI G) (nI i) (nI n) (nI d) ao ar al ah aw sl ab ap ak (k + 1) (nI C') (nI j) := by
        intro k
        induction k with
        | zero =>
          intro j hj C' hC' hb'
          have e : j = n := by omega
          subst e
          refine br_t (xw_le (Nat.le_refl j) (by omega)) (nm_r (nI_1 i) (ih (i + 1) (by omega) C' hC' (fun y => ?_)))
          rw [hb' y, hb y]
          constructor
          · rintro (⟨x, h1, h2, h3⟩ | ⟨h1, h2, h3⟩)
            · exact ⟨x, by omega, h2, h3⟩
            · exact ⟨i, by omega, h2, h3⟩
          · rintro ⟨x, h1, h2, h3⟩
            by_cases e : x = i
            · subst e
              exact Or.inr ⟨(rt_rl_op hr (a := x) (b := y) (by omega)).2.1, h2, h3⟩
            · exact Or.inl ⟨x, by omega, h2, h3⟩
        | succ k ihk =>
          intro j hj C' hC' hb'
          refine br_f (xw_ge (by omega) (by omega)) ?_
          have hle := rt_rl_le hr i j
          have skip : ¬ (G.testBit i = true ∧ rl i j = 2) → wX_customersOf_15 post (wX_customersOf_4 post (nI G) (nI n) (nI d) ao ar al ah aw sl ab ap ak (m + 1)) (nI G) (nI i) (nI n) (nI d) ao ar al ah aw sl ab ap ak (k + 1) (nI C') (nI (j + 1)) := by
            intro hno
            refine ihk (j + 1) (by omega) C' hC' (fun y => ?_)
            rw [hb' y]
            constructor
            · rintro (h | ⟨h1, h2⟩)
              · exact Or.inl h
              · exact Or.inr ⟨by omega, h2⟩
            · rintro (h | ⟨h1, h2⟩)
              · exact Or.inl h
              · by_cases e : y = j
                · subst e; exact absurd h2 hno
                · exact Or.inr ⟨by omega, h2⟩
          by_cases hg : G.testBit i = true
          · refine br_t ((xw_bit G hG i (by omega)).mpr hg) ⟨xw_in (by omega) (by omega), ?_⟩
            have e2 : ar (nI i * 8 + nI j).toNatClampNeg = nI (rl i j) := by rw [xw_cl (by omega) (by omega)]; exact hA.2.1 i j (by omega) (by omega)
            by_cases h2 : rl i j = 2
            · refine br_t (by rw [e2, h2]; rfl) (nm_r (xw_set (by omega)) (nm_r (nI_1 j) (ihk (j + 1) (by omega) _ (xw_or_lt hC' (xw_pw j (by omega))) (fun y => ?_))))
              rw [xw_tb, hb' y]
              constructor
              · rintro ((h | ⟨h1, h3⟩) | h)
                · exact Or.inl h
                · exact Or.inr ⟨by omega, h3⟩
                · subst h; exact Or.inr ⟨by omega, hg, h2⟩
              · rintro (h | ⟨h1, h3⟩)
                · exact Or.inl (Or.inl h)
                · by_cases e : y = j
                  · exact Or.inr e
                  · exact Or.inl (Or.inr ⟨by omega, h3⟩)
            · exact br_f (by rw [e2]; exact xw_ne (b := 2) (by omega) (by decide) h2) (nm_r (nI_1 j) (skip (fun z => h2 z.2)))
          · exact br_f (fun z => hg ((xw_bit G hG i (by omega)).mp z)) (nm_r (nI_1 j) (skip (fun z => hg z.1)))
      refine ⟨n + 1, inner n 0 (by omega) C hC (fun y => ⟨fun h => Or.inl h, fun h => ?_⟩)⟩
      rcases h with h | ⟨h, _⟩
      · exact h
      · omega
  refine ⟨n + 1, key n 0 (by omega) 0 (by decide) (fun y => ⟨fun h => ?_, fun h => ?_⟩)⟩
  · rw [Nat.zero_testBit] at h
    cases h
  · obtain ⟨x, h1, _⟩ := h
    omega
theorem rt_rc_snoc {rl : Nat → Nat → Nat} : ∀ (k a b c : Nat), rt_rc rl k a b → rl b c = 2 → rt_rc rl (k + 1) a c := by
  intro k
  induction k with
  | zero => intro a b c h e; cases h; exact ⟨c, e, rfl⟩
  | succ k ih =>
    intro a b c h e
    obtain ⟨x, h1, h2⟩ := h
    exact ⟨x, h1, ih x b c h2 e⟩
theorem rt_rc_split {rl : Nat → Nat → Nat} : ∀ (k a c : Nat), rt_rc rl (k + 1) a c → ∃ b, rt_rc rl k a b ∧ rl b c = 2 := by
  intro k
  induction k with
  | zero =>
    intro a c h
    obtain ⟨x, h1, h2⟩ := h
    cases h2
    exact ⟨a, rfl, h1⟩
  | succ k ih =>
    intro a c h
    obtain ⟨x, h1, h2⟩ := h
    obtain ⟨b, h3, h4⟩ := ih x c h2
    exact ⟨b, ⟨x, h1, h3⟩, h4⟩
/-- masks that hold all that is reached in k steps, and nothing that isn't reached -/
def rt_mk (rl : Nat → Nat → Nat) (a k M : Nat) : Prop :=
  M < 256 ∧ (∀ y, M.testBit y = true → rt_R rl a y) ∧ ∀ j y, j ≤ k → rt_rc rl j a y → M.testBit y = true
theorem rt_mk_0 (rl : Nat → Nat → Nat) {a : Nat} (ha : a < 8) : rt_mk rl a 0 (2 ^ a) := by
  refine ⟨xw_pw a ha, fun y hy => ?_, fun j y hj hc => ?_⟩
  · rw [(xw_tb1 a y).mp hy]
    exact rt_R_refl rl a
  · have : j = 0 := by omega
    subst this
    cases hc
    exact (xw_tb1 a a).mpr rfl
theorem rt_mk_end {n : Nat} {rl : Nat → Nat → Nat} (hac : rt_ac rl) (hr : rt_rl n rl) {a M : Nat} (h : rt_mk rl a n M) (y : Nat) : M.testBit y = true ↔ rt_R rl a y := by
  refine ⟨h.2.1 y, fun z => ?_⟩
  obtain ⟨k, hk⟩ := z
  have h1 := rt_rc_ht hac hr k a y hk
  have h2 := rt_ht_le n rl a
  exact h.2.2 k y (by omega) hk
theorem xw_isBelow (hA : xw_A rl up og H Q ao ar al ah aw sl) (hc : rt_cf n rl up) {lo hi : Nat} (hl : lo < n) (hh : hi < n) {post : Int32 → Prop}
    (h1 : rt_R rl hi lo → post 1) (h0 : ¬ rt_R rl hi lo → post 0) : wpX_isBelow post (nI n, nI d, ao, ar, al, ah, aw, sl, ab, ap, ak) (nI lo) (nI hi) := by
  obtain ⟨_, hn, hr, hup, hac⟩ := hc
  have key : ∀ m i, i + m = n → ∀ M, rt_mk rl hi i M → wX_isBelow_7 post (nI lo) (nI n) (nI d) ao ar al ah aw sl ab ap ak (m + 1) (nI M) (nI i) := by
    intro m
    induction m with
    | zero =>
      intro i hi2 M hM
      have e : i = n := by omega
      subst e
      refine br_t (xw_le (Nat.le_refl i) (by omega)) ?_
      have hb := xw_bit M hM.1 lo (by omega)
      have he := rt_mk_end hac hr hM lo
      by_cases z : rt_R rl hi lo
      · exact br_t (hb.mpr (he.mpr z)) (h1 z)
      · exact br_f (fun y => z (he.mp (hb.mp y))) (h0 z)
    | succ m ih =>
      intro i hi2 M hM
      refine br_f (xw_ge (by omega) (by omega)) ?_
      refine xw_customersOf hA hn hr hM.1 (fun C hC hb => ?_)
      refine nm_r (xw_or M C) (nm_r (nI_1 i) (ih (i + 1) (by omega) _ ⟨xw_or_lt hM.1 hC, fun y hy => ?_, fun j y hj hrc => ?_⟩))
      · rw [Nat.testBit_or, Bool.or_eq_true] at hy
        rcases hy with hy | hy
        · exact hM.2.1 y hy
        · obtain ⟨x, _, h2, h3⟩ := (hb y).mp hy
          exact rt_R_snoc (hM.2.1 x h2) h3
      · rw [Nat.testBit_or, Bool.or_eq_true]
        by_cases hj2 : j ≤ i
        · exact Or.inl (hM.2.2 j y hj2 hrc)
        · have e : j = i + 1 := by omega
          subst e
          obtain ⟨b, h3, h4⟩ := rt_rc_split i hi y hrc
          exact Or.inr ((hb y).mpr ⟨b, (rt_rl_op hr (a := b) (b := y) (by omega)).1, hM.2.2 i b (Nat.le_refl i) h3, h4⟩)
  unfold wpX_isBelow
  exact nm_r (xw_one hi (by omega)) ⟨n + 1, key n 0 (by omega) _ (rt_mk_0 rl (by omega))⟩
end
end
section
/-! expected paths, as the class finds them -/
def xw_E (n : Nat) (E : rt_ET) (ap : Nat → Int64) (ak : Nat → Int32) : Prop := ∀ v, v < n → ap v = xw_lc (E.1 v) ∧ ak v = nI (E.2 v)
theorem rt_mn_s (c : Nat → Bool) (r : Nat → Nat) (k : Nat) : rt_mn c r (k + 1) = if c k = true then (match rt_mn c r k with | none => some k | some w => if r k < r w then some k else some w) else rt_mn c r k := by
  rw [rt_mn]
  rfl
theorem xw_E_u {n : Nat} {E : rt_ET} {ap : Nat → Int64} {ak : Nat → Int32} (h : xw_E n E ap ak) (v : Nat) (l : List Nat) (q : Nat) {y : Int64} {z : Int32} (hy : y = xw_lc l) (hz : z = nI q) : xw_E n (rt_u1 E.1 v l, rt_u1 E.2 v q) (vp_updL ap v y) (upd ak v z) := by
  intro w hw
  show vp_updL ap v y w = xw_lc (rt_u1 E.1 v l w) ∧ upd ak v z w = nI (rt_u1 E.2 v q w)
  by_cases e : w = v
  · subst e
    rw [pk_uLs, pk_us, rt_u1_s, rt_u1_s]
    exact ⟨hy, hz⟩
  · rw [pk_uLn e, pk_un e, rt_u1_n e, rt_u1_n e]
    exact h w hw
section
variable {n d : Nat} {rl : Nat → Nat → Nat} {up : Nat → Nat → Bool} {og : Nat → Bool} {H : rt_HT} {Q : rt_QT} {ao ar al : Nat → Int32} {ah : Nat → Int64} {aw : Nat → Int32} {sl ab : Nat → Int64}
theorem xw_offersPath (hA : xw_A rl up og H Q ao ar al ah aw sl) (hn : n ≤ 8) (hr : rt_rl n rl) {E : rt_ET} {ap : Nat → Int64} {ak : Nat → Int32} (hE : xw_E n E ap ak) (hW : rt_W n rl E) {q v u : Nat} (hq : q ≤ 4) (hv : v < n) (hu : u < n) {post : Int32 → Prop}
    (hp : post (xw_b (decide (rt_of rl up E.2 q v u)))) : wpX_offersPath post (nI n, nI d, ao, ar, al, ah, aw, sl, ab, ap, ak) (nI u) (nI v) (nI q) := by
  have e1 : al (nI v * 8 + nI u).toNatClampNeg = xw_b (up v u) := by rw [xw_cl (by omega) (by omega)]; exact hA.2.2.1 v u (by omega) (by omega)
  have e2 : ar (nI v * 8 + nI u).toNatClampNeg = nI (rl v u) := by rw [xw_cl (by omega) (by omega)]; exact hA.2.1 v u (by omega) (by omega)
  have e3 : ak (nI u).toNatClampNeg = nI (E.2 u) := by rw [xw_c8 (by omega)]; exact (hE u hu).2
  have hle := rt_rl_le hr v u
  have hk4 := (hW u hu).2.2.1
  have hno : ¬ rt_of rl up E.2 q v u → post 0 := fun z => by rw [decide_eq_false z] at hp; exact hp
  have hyes : rt_of rl up E.2 q v u → post 1 := fun z => by rw [decide_eq_true z] at hp; exact hp
  unfold wpX_offersPath
  refine ⟨xw_in (by omega) (by omega), ?_⟩
  by_cases h1 : up v u = true
  · refine br_f (by rw [e1]; exact xw_b_ne h1) ⟨xw_in (by omega) (by omega), ?_⟩
    by_cases h2 : rl v u = q
    · refine br_t (by rw [e2, h2]) ⟨xw_i8 (by omega), ?_⟩
      by_cases h3 : E.2 u = 0
      · exact br_t (by rw [e3, h3]; rfl) (hno (fun z => z.2.2.1 h3))
      · refine br_f (by rw [e3]; exact xw_ne (b := 0) (by omega) (by decide) h3) ?_
        by_cases h4 : q = 4
        · exact br_t (by rw [h4]; rfl) (hyes ⟨h1, h2, h3, Or.inl h4⟩)
        · refine br_f (xw_ne (b := 4) (by omega) (by decide) h4) ⟨xw_i8 (by omega), ?_⟩
          by_cases h5 : E.2 u = 1
          · exact br_t (by rw [e3, h5]; rfl) (hyes ⟨h1, h2, h3, Or.inr (Or.inl h5)⟩)
          · refine br_f (by rw [e3]; exact xw_ne (b := 1) (by omega) (by decide) h5) ⟨xw_i8 (by omega), ?_⟩
            by_cases h6 : E.2 u = 2
            · exact br_t (by rw [e3, h6]; rfl) (hyes ⟨h1, h2, h3, Or.inr (Or.inr h6)⟩)
            · exact br_f (by rw [e3]; exact xw_ne (b := 2) (by omega) (by decide) h6) (hno (fun z => by have := z.2.2.2; omega))
    · exact br_f (by rw [e2]; exact xw_ne (by omega) (by omega) h2) (hno (fun z => h2 z.2.1))
  · exact br_t (by rw [e1]; exact xw_bn h1) (hno (fun z => h1 z.1))
theorem xw_isShorter (hn : n ≤ 8) {E : rt_ET} {ap : Nat → Int64} {ak : Nat → Int32} (hE : xw_E n E ap ak) (hW : rt_W n rl E) {u w : Nat} (hu : u < n) (hw : w < n) {post : Int32 → Prop}
    (hp : post (xw_b (decide ((E.1 u).length < (E.1 w).length)))) : wpX_isShorter post (nI n, nI d, ao, ar, al, ah, aw, sl, ab, ap, ak) (nI u) (nI w) := by
  have e1 : ap (nI u).toNatClampNeg = xw_lc (E.1 u) := by rw [xw_c8 (by omega)]; exact (hE u hu).1
  have e2 : ap (nI w).toNatClampNeg = xw_lc (E.1 w) := by rw [xw_c8 (by omega)]; exact (hE w hw).1
  have l1 := rt_len (hW u hu).1
  have l2 := rt_len (hW w hw).1
  unfold wpX_isShorter
  refine ⟨xw_i8 (by omega), ?_⟩
  rw [e1]
  refine xw_lengthOf hn (hW u hu).1 ⟨xw_i8 (by omega), ?_⟩
  rw [e2]
  refine xw_lengthOf hn (hW w hw).1 ?_
  by_cases z : (E.1 u).length < (E.1 w).length
  · rw [decide_eq_true z] at hp
    exact br_f (xw_ge z (by omega)) hp
  · rw [decide_eq_false z] at hp
    exact br_t (xw_le (by omega) (by omega)) hp
theorem xw_takeShortest (hA : xw_A rl up og H Q ao ar al ah aw sl) (hn : n ≤ 8) (hr : rt_rl n rl) {E : rt_ET} {ap : Nat → Int64} {ak : Nat → Int32} (hE : xw_E n E ap ak) (hW : rt_W n rl E) {q v : Nat} (hq : q ≤ 4) (hv : v < n) {post : St2 → Prop}
    (hp : ∀ ap' ak', xw_E n (rt_tk n rl up q v E) ap' ak' → post (nI n, nI d, ao, ar, al, ah, aw, sl, ab, ap', ak')) : wpX_takeShortest post (nI n, nI d, ao, ar, al, ah, aw, sl, ab, ap, ak) (nI v) (nI q) := by
  have key : ∀ m i, i + m = n → wX_takeShortest_5 post (nI v) (nI q) (nI n) (nI d) ao ar al ah aw sl ab ap ak (m + 1) (xw_o (rt_mn (fun u => decide (rt_of rl up E.2 q v u)) (fun u => (E.1 u).length) i)) (nI i) := by
    intro m
    induction m with
    | zero =>
      intro i hi
      have e : i = n := by omega
      subst e
      refine br_t (xw_le (Nat.le_refl i) (by omega)) ?_
      unfold rt_tk rt_bs at hp
      cases hs : rt_mn (fun u => decide (rt_of rl up E.2 q v u)) (fun u => (E.1 u).length) i with
      | none =>
        rw [hs] at hp
        exact br_t rfl (hp ap ak hE)
      | some b =>
        rw [hs] at hp
        have hb := ((rt_mn_spec _ _ i).1 b hs).1
        refine br_f (xw_nm1 (by omega)) ⟨xw_i8 (by omega), ⟨xw_i8 (by omega), ?_⟩⟩
        have e1 : ap (nI b).toNatClampNeg = xw_lc (E.1 b) := by rw [xw_c8 (by omega)]; exact (hE b hb).1
        refine nm_r (e' := vp_updL ap v (xw_lc (v :: E.1 b))) ?_ ⟨xw_i8 (by omega), nm_r (e' := upd ak v (nI q)) (by rw [xw_c8 (by omega)]) ?_⟩
        · show vp_updL ap (nI v).toNatClampNeg (((ap (nI b).toNatClampNeg * 16) + (nI v).toInt64) + 1) = _
          rw [e1, xw_pre v (by omega), xw_c8 (by omega)]
        · exact hp _ _ (xw_E_u hE v _ q rfl rfl)
    | succ m ih =>
      intro i hi
      refine br_f (xw_ge (by omega) (by omega)) ?_
      refine xw_offersPath hA hn hr hE hW hq hv (by omega) ?_
      have hnx := ih (i + 1) (by omega)
      rw [rt_mn_s] at hnx
      by_cases hc : rt_of rl up E.2 q v i
      · refine br_f (xw_b_ne (decide_eq_true hc)) ?_
        rw [if_pos (decide_eq_true hc)] at hnx
        cases hs : rt_mn (fun u => decide (rt_of rl up E.2 q v u)) (fun u => (E.1 u).length) i with
        | none =>
          rw [hs] at hnx
          exact br_t rfl (nm_r (nI_1 i) hnx)
        | some w =>
          rw [hs] at hnx
          have hw := ((rt_mn_spec _ _ i).1 w hs).1
          refine br_f (xw_nm1 (by omega)) ?_
          refine xw_isShorter hn hE hW (by omega) (by omega) ?_
          dsimp only at hnx
          by_cases hlt : (E.1 i).length < (E.1 w).length
          · rw [if_pos hlt] at hnx
            exact br_f (xw_b_ne (decide_eq_true hlt)) (nm_r (nI_1 i) hnx)
          · rw [if_neg hlt] at hnx
            exact br_t (xw_bn (by rw [decide_eq_false hlt]; decide)) (nm_r (nI_1 i) hnx)
      · refine br_t (xw_bn (by rw [decide_eq_false hc]; decide)) (nm_r (nI_1 i) ?_)
        rw [if_neg (by rw [decide_eq_false hc]; decide)] at hnx
        exact hnx
  exact ⟨n + 1, key n 0 (by omega)⟩
theorem xw_takePathsFrom (hA : xw_A rl up og H Q ao ar al ah aw sl) (hc : rt_cf n rl up) {E : rt_ET} {ap : Nat → Int64} {ak : Nat → Int32} (hE : xw_E n E ap ak) (hW : rt_W n rl E) {q : Nat} (hq2 : 2 ≤ q) (hq4 : q ≤ 4) {post : St2 → Prop}
    (hp : ∀ ap' ak', xw_E n (rt_ps n rl up q E n) ap' ak' → post (nI n, nI d, ao, ar, al, ah, aw, sl, ab, ap', ak')) : wpX_takePathsFrom post (nI n, nI d, ao, ar, al, ah, aw, sl, ab, ap, ak) (nI q) := by
  have hc' := hc
  obtain ⟨_, hn, hr, _, _⟩ := hc'
  have key : ∀ m i, i + m = n → ∀ (ap : Nat → Int64) (ak : Nat → Int32), xw_E n (rt_ps n rl up q E i) ap ak → wX_takePathsFrom_2 post (nI q) (m + 1) (nI i) (nI n) (nI d) ao ar al ah aw sl ab ap ak := by
    intro m
    induction m with
    | zero =>
      intro i hi ap ak hE
      have e : i = n := by omega
      subst e
      exact br_t (xw_le (Nat.le_refl i) (by omega)) (hp ap ak hE)
    | succ m ih =>
      intro i hi ap ak hE
      have hW2 := rt_W_ps hc hq2 hq4 hW i (by omega)
      have e3 : ak (nI i).toNatClampNeg = nI ((rt_ps n rl up q E i).2 i) := by rw [xw_c8 (by omega)]; exact (hE i (by omega)).2
      have hk4 := (hW2 i (by omega)).2.2.1
      have hnx := ih (i + 1) (by omega)
      rw [rt_ps] at hnx
      have go : ((rt_ps n rl up q E i).2 i = 0 ∨ (rt_ps n rl up q E i).2 i = q) → wX_takePathsFrom_29 post (wX_takePathsFrom_2 post (nI q) (m + 1)) (nI q) (nI i) (nI n) (nI d) ao ar al ah aw sl ab ap ak := by
        intro hz
        rw [if_pos hz] at hnx
        unfold wX_takePathsFrom_29
        refine xw_takeShortest hA hn hr hE hW2 hq4 (by omega) (fun ap' ak' hE' => ?_)
        exact nm_r (nI_1 i) (hnx ap' ak' hE')
      refine br_f (xw_ge (by omega) (by omega)) ⟨xw_i8 (by omega), ?_⟩
      by_cases h0 : (rt_ps n rl up q E i).2 i = 0
      · exact br_t (by rw [e3, h0]; rfl) (go (Or.inl h0))
      · refine br_f (by rw [e3]; exact xw_ne (b := 0) (by omega) (by decide) h0) ⟨xw_i8 (by omega), ?_⟩
        by_cases h1 : (rt_ps n rl up q E i).2 i = q
        · exact br_t (by rw [e3, h1]) (go (Or.inr h1))
        · refine br_f (by rw [e3]; exact xw_ne (by omega) (by omega) h1) (nm_r (nI_1 i) ?_)
          rw [if_neg (by omega)] at hnx
          exact hnx ap ak hE
  exact ⟨n + 1, key n 0 (by omega) ap ak hE⟩
theorem xw_findExpected (hA : xw_A rl up og H Q ao ar al ah aw sl) (hc : rt_cf n rl up) (ap : Nat → Int64) (ak : Nat → Int32) {post : St2 → Prop}
    (hp : ∀ ap' ak', xw_E n (rt_fd n rl up og 1) ap' ak' → post (nI n, nI d, ao, ar, al, ah, aw, sl, ab, ap', ak')) : wpX_findExpectedPaths post (nI n, nI d, ao, ar, al, ah, aw, sl, ab, ap, ak) := by
  have hc' := hc
  obtain ⟨_, hn, hr, _, _⟩ := hc'
  have hW2 := rt_W_rs (up := up) hc (q := 2) (by decide) (by decide) (rt_W_0 (n := n) (rl := rl) og)
  have hW3 := rt_W_rs (up := up) hc (q := 3) (by decide) (by decide) (hW2 n)
  have hW4 := rt_W_rs (up := up) hc (q := 4) (by decide) (by decide) (hW3 1)
  have ph4 : ∀ m i, i + m = n → ∀ (ap : Nat → Int64) (ak : Nat → Int32), xw_E n (rt_rs n rl up 4 (rt_rs n rl up 3 (rt_rs n rl up 2 (rt_E0 og) n) 1) i) ap ak → wX_findExpectedPaths_88 post (m + 1) (nI i) (nI n) (nI d) ao ar al ah aw sl ab ap ak := by
    intro m
    induction m with
    | zero =>
      intro i hi ap ak hE
      have e : i = n := by omega
      subst e
      exact br_t (xw_le (Nat.le_refl i) (by omega)) (hp ap ak hE)
    | succ m ih =>
      intro i hi ap ak hE
      refine br_f (xw_ge (by omega) (by omega)) ?_
      refine xw_takePathsFrom (q := 4) hA hc hE (hW4 i) (by decide) (by decide) (fun ap' ak' hE' => ?_)
      exact nm_r (nI_1 i) (ih (i + 1) (by omega) ap' ak' hE')
  have ph2 : ∀ m i, i + m = n → ∀ (ap : Nat → Int64) (ak : Nat → Int32), xw_E n (rt_rs n rl up 2 (rt_E0 og) i) ap ak → wX_findExpectedPaths_62 post (m + 1) (nI i) (nI n) (nI d) ao ar al ah aw sl ab ap ak := by
    intro m
    induction m with
    | zero =>
      intro i hi ap ak hE
      have e : i = n := by omega
      subst e
      refine br_t (xw_le (Nat.le_refl i) (by omega)) ?_
      refine xw_takePathsFrom (q := 3) hA hc hE (hW2 i) (by decide) (by decide) (fun ap' ak' hE' => ?_)
      exact ⟨i + 1, ph4 i 0 (by omega) ap' ak' hE'⟩
    | succ m ih =>
      intro i hi ap ak hE
      refine br_f (xw_ge (by omega) (by omega)) ?_
      refine xw_takePathsFrom (q := 2) hA hc hE (hW2 i) (by decide) (by decide) (fun ap' ak' hE' => ?_)
      exact nm_r (nI_1 i) (ih (i + 1) (by omega) ap' ak' hE')
  have ph0 : ∀ m i, i + m = n → ∀ (ap : Nat → Int64) (ak : Nat → Int32), (∀ v, v < i → ap v = xw_lc ((rt_E0 og).1 v) ∧ ak v = nI ((rt_E0 og).2 v)) → wX_findExpectedPaths_2 post (nI n) (nI d) (m + 1) (nI i) ao ar al ah aw sl ab ap ak := by
    intro m
    induction m with
    | zero =>
      intro i hi ap ak hE
      have e : i = n := by omega
      subst e
      exact br_t (xw_le (Nat.le_refl i) (by omega)) ⟨i + 1, ph2 i 0 (by omega) ap ak hE⟩
    | succ m ih =>
      intro i hi ap ak hE
      have e1 : ao (nI i).toNatClampNeg = xw_b (og i) := by rw [xw_c8 (by omega)]; exact hA.1 i (by omega)
      have stp : ∀ (y : Int64) (z : Int32), y = xw_lc ((rt_E0 og).1 i) → z = nI ((rt_E0 og).2 i) → ∀ v, v < i + 1 → vp_updL ap i y v = xw_lc ((rt_E0 og).1 v) ∧ upd ak i z v = nI ((rt_E0 og).2 v) := by
        intro y z hy hz v hv
        by_cases e : v = i
        · subst e
          rw [pk_uLs, pk_us]
          exact ⟨hy, hz⟩
        · rw [pk_uLn e, pk_un e]
          exact hE v (by omega)
      refine br_f (xw_ge (by omega) (by omega)) ⟨xw_i8 (by omega), ?_⟩
      by_cases ho : og i = true
      · have k1 : (rt_E0 og).1 i = [i] := if_pos ho
        have k2 : (rt_E0 og).2 i = 1 := if_pos ho
        refine br_f (by rw [e1]; exact xw_b_ne ho) ⟨xw_i8 (by omega), ?_⟩
        refine nm_r (e' := vp_updL ap i (xw_lc [i])) (by rw [xw_c8 (by omega)]; exact congrArg (vp_updL ap i) (xw_pre i (by omega) [])) ⟨xw_i8 (by omega), ?_⟩
        refine br_f (by rw [e1]; exact xw_b_ne ho) ⟨xw_i8 (by omega), nm_r (e' := upd ak i 1) (by rw [xw_c8 (by omega)]) (nm_r (nI_1 i) ?_)⟩
        exact ih (i + 1) (by omega) _ _ (stp _ _ (by rw [k1]) (by rw [k2]; rfl))
      · have k1 : (rt_E0 og).1 i = [] := if_neg ho
        have k2 : (rt_E0 og).2 i = 0 := if_neg ho
        refine br_t (by rw [e1]; exact xw_bn ho) ⟨xw_i8 (by omega), ?_⟩
        refine nm_r (e' := vp_updL ap i (xw_lc [])) (by rw [xw_c8 (by omega)]; rfl) ⟨xw_i8 (by omega), ?_⟩
        refine br_t (by rw [e1]; exact xw_bn ho) ⟨xw_i8 (by omega), nm_r (e' := upd ak i 0) (by rw [xw_c8 (by omega)]) (nm_r (nI_1 i) ?_)⟩
        exact ih (i + 1) (by omega) _ _ (stp _ _ (by rw [k1]) (by rw [k2]; rfl))
  exact ⟨n + 1, ph0 n 0 (by omega) ap ak (fun v hv => absurd hv (Nat.not_lt_zero v))⟩
end
end
section
/-! calls that change the state -/
theorem rt_cf_set {n : Nat} {rl : Nat → Nat → Nat} {up : Nat → Nat → Bool} (hc : rt_cf n rl up) {a b : Nat} (hne : a ≠ b) (hr0 : rl a b ≠ 0) (z : Bool) : rt_cf n rl (rt_lk up a b z z) := by
  obtain ⟨c1, hn, hr, hup, hac⟩ := hc
  refine ⟨c1, hn, hr, rt_set_up hne z hup hr0 ?_, hac⟩
  have := rt_rl_op hr hr0
  omega
/-- the relation may be added -/
def rt_cy (rl : Nat → Nat → Nat) (a b k : Nat) : Prop := (k = 2 ∧ rt_R rl b a) ∨ (k = 4 ∧ rt_R rl a b)
theorem rt_cf_add {n : Nat} {rl : Nat → Nat → Nat} {up : Nat → Nat → Bool} (hc : rt_cf n rl up) {a b k : Nat} (ha : a < n) (hb : b < n) (hne : a ≠ b) (h2 : 2 ≤ k) (h4 : k ≤ 4) (hcy : ¬ rt_cy rl a b k) : rt_cf n (rt_lk rl a b k (6 - k)) up := by
  obtain ⟨c1, hn, hr, hup, hac⟩ := hc
  refine ⟨c1, hn, rt_add_rl hr ha hb hne h2 h4, fun c e hce => ?_, rt_add_ac hac hne h2 h4 (fun z r => hcy (Or.inl ⟨z, r⟩)) (fun z r => hcy (Or.inr ⟨z, r⟩))⟩
  refine ⟨?_, (hup c e hce).2⟩
  by_cases k1 : c = a ∧ e = b
  · obtain ⟨rfl, rfl⟩ := k1
    rw [rt_lk_1 hne]
    omega
  · by_cases k2 : c = b ∧ e = a
    · obtain ⟨rfl, rfl⟩ := k2
      rw [rt_lk_2]
      omega
    · rw [rt_lk_n k1 k2]
      exact (hup c e hce).1
section
variable {n d : Nat} {rl : Nat → Nat → Nat} {up : Nat → Nat → Bool} {og : Nat → Bool} {H : rt_HT} {Q : rt_QT} {ao ar al : Nat → Int32} {ah : Nat → Int64} {aw : Nat → Int32} {sl ab ap : Nat → Int64} {ak : Nat → Int32}
theorem xw_setSend (hA : xw_A rl up og H Q ao ar al ah aw sl) (hc : rt_cf n rl up) (hd : 1 ≤ d ∧ d ≤ 4) (gh : rt_gh n up H) (gq : rt_gq n d up Q) {a b : Nat} (ha : a < n) (hb : b < n) (hne : a ≠ b) (hr0 : rl a b ≠ 0) (z : Bool) {post : St2 → Prop}
    (hp : ∀ u', xw_X n d rl (rt_lk up a b z z) og (rt_lk H a b [] []) (rt_send n d rl (rt_lk up a b z z) og (rt_lk H a b [] []) (rt_lk Q a b [] [])) ab ap ak u' → post u') :
    wpX_setLink (fun u => wpX_sendAll post u) (nI n, nI d, ao, ar, al, ah, aw, sl, ab, ap, ak) (nI a) (nI b) (xw_b z) := by
  have hn := hc.2.1
  have hg := rt_set (d := d) (rl := rl) hne z gh gq
  refine xw_setLink hA (by omega) (by omega) z (fun u' hu' => ?_)
  obtain ⟨ao', ar', al', ah', aw', sl', rfl, hA'⟩ := hu'
  exact xw_sendAll (rt_cf_set hc hne hr0 z) hd hg.1 hg.2 hp ao' ar' al' ah' aw' sl' hA'
theorem xw_switchLink (hA : xw_A rl up og H Q ao ar al ah aw sl) (hc : rt_cf n rl up) (hd : 1 ≤ d ∧ d ≤ 4) (gh : rt_gh n up H) (gq : rt_gq n d up Q) {a b : Nat} (ha : a < n) (hb : b < n) (hne : a ≠ b) (z : Bool) {post : Int32 → St2 → Prop}
    (h2 : rl a b = 0 → post (-2) (nI n, nI d, ao, ar, al, ah, aw, sl, ab, ap, ak)) (h3 : rl a b ≠ 0 → up a b = z → post (-3) (nI n, nI d, ao, ar, al, ah, aw, sl, ab, ap, ak))
    (hp : rl a b ≠ 0 → up a b ≠ z → ∀ u', xw_X n d rl (rt_lk up a b z z) og (rt_lk H a b [] []) (rt_send n d rl (rt_lk up a b z z) og (rt_lk H a b [] []) (rt_lk Q a b [] [])) ab ap ak u' → post 0 u') :
    wpX_switchLink post (nI n, nI d, ao, ar, al, ah, aw, sl, ab, ap, ak) (nI a) (nI b) (xw_b z) := by
  have hn := hc.2.1
  unfold wpX_switchLink
  refine xw_bp_f hn ha hb hne (br_t rfl ?_)
  refine xw_isLinked hA hc.2.2.1 (by omega) (by omega) (fun h0 => br_t rfl (h2 h0)) (fun h0 => br_f xw_10 ⟨xw_in (by omega) (by omega), ?_⟩)
  have e1 : al (nI a * 8 + nI b).toNatClampNeg = xw_b (up a b) := by rw [xw_cl (by omega) (by omega)]; exact hA.2.2.1 a b (by omega) (by omega)
  by_cases hz : up a b = z
  · exact br_t (by rw [e1, hz]) (h3 h0 hz)
  · refine br_f (by rw [e1]; exact fun y => hz ((xw_b_inj _ _).mp y)) ?_
    refine xw_setSend hA hc hd gh gq ha hb hne h0 z (fun u' hu' => ?_)
    have h := hp h0 hz u' hu'
    obtain ⟨ao', ar', al', ah', aw', sl', rfl, hA'⟩ := hu'
    exact h
theorem xw_switchOrigin (hA : xw_A rl up og H Q ao ar al ah aw sl) (hc : rt_cf n rl up) (hd : 1 ≤ d ∧ d ≤ 4) (gh : rt_gh n up H) (gq : rt_gq n d up Q) {v : Nat} (hv : v < n) (z : Bool) {post : Int32 → St2 → Prop}
    (h3 : og v = z → post (-3) (nI n, nI d, ao, ar, al, ah, aw, sl, ab, ap, ak))
    (hp : og v ≠ z → ∀ u', xw_X n d rl up (rt_u1 og v z) H (rt_send n d rl up (rt_u1 og v z) H Q) ab ap ak u' → post 0 u') :
    wpX_switchOrigin post (nI n, nI d, ao, ar, al, ah, aw, sl, ab, ap, ak) (nI v) (xw_b z) := by
  have hn := hc.2.1
  unfold wpX_switchOrigin
  refine xw_isBad_f hn hv (br_t rfl ⟨xw_i8 (by omega), ?_⟩)
  have e1 : ao (nI v).toNatClampNeg = xw_b (og v) := by rw [xw_c8 (by omega)]; exact hA.1 v (by omega)
  by_cases hz : og v = z
  · exact br_t (by rw [e1, hz]) (h3 hz)
  · have hp := hp hz
    refine br_f (by rw [e1]; exact fun y => hz ((xw_b_inj _ _).mp y)) ⟨xw_i8 (by omega), ?_⟩
    obtain ⟨A1, A2, A3, A4, A5, A6⟩ := hA
    refine nm_r (e' := upd ao v (xw_b z)) (by rw [xw_c8 (by omega), xw_nar]) ?_
    refine xw_sendAll (og := rt_u1 og v z) hc hd gh gq (fun u' hu' => ?_) _ ar al ah aw sl ⟨xw_og_u A1 rfl, A2, A3, A4, A5, A6⟩
    have h := hp u' hu'
    obtain ⟨ao', ar', al', ah', aw', sl', rfl, hA'⟩ := hu'
    exact h
theorem xw_add64 (hA : xw_A rl up og H Q ao ar al ah aw sl) (hc : rt_cf n rl up) (hd : 1 ≤ d ∧ d ≤ 4) (gh : rt_gh n up H) (gq : rt_gq n d up Q) {a b k : Nat} (ha : a < n) (hb : b < n) (hne : a ≠ b) (h2 : 2 ≤ k) (h4 : k ≤ 4) (hcy : ¬ rt_cy rl a b k) {post : Int32 → St2 → Prop}
    (hp : ∀ u', xw_X n d (rt_lk rl a b k (6 - k)) (rt_lk up a b true true) og (rt_lk H a b [] []) (rt_send n d (rt_lk rl a b k (6 - k)) (rt_lk up a b true true) og (rt_lk H a b [] []) (rt_lk Q a b [] [])) ab ap ak u' → post 0 u') :
    wX_addLink_64 post (nI a) (nI b) (nI k) (nI n) (nI d) ao ar al ah aw sl ab ap ak := by
  have hn := hc.2.1
  have hc2 := rt_cf_add hc ha hb hne h2 h4 hcy
  obtain ⟨A1, A2, A3, A4, A5, A6⟩ := hA
  refine ⟨xw_in (by omega) (by omega), nm_r (e' := upd ar (a * 8 + b) (nI k)) (by rw [xw_cl (by omega) (by omega)]) ?_⟩
  have op : ∀ P : Int32 → Prop, P (nI (6 - k)) → wpX_opposite P () (nI k) := by
    intro P hP
    by_cases e2 : k = 2
    · subst e2
      exact br_t rfl hP
    · refine br_f (xw_ne (b := 2) (by omega) (by decide) e2) ?_
      by_cases e4 : k = 4
      · subst e4
        exact br_t rfl hP
      · have e3 : k = 3 := by omega
        subst e3
        exact br_f (xw_ne (b := 4) (by decide) (by decide) e4) hP
  unfold wpX_pair
  refine op _ ?_
  refine ⟨xw_in (by omega) (by omega), nm_r (e' := upd (upd ar (a * 8 + b) (nI k)) (b * 8 + a) (nI (6 - k))) (by rw [xw_cl (by omega) (by omega)]) ?_⟩
  refine xw_setSend (rl := rt_lk rl a b k (6 - k)) ⟨A1, xw_C_32 (xw_C_32 A2 (by omega) rfl) (by omega) rfl, A3, A4, A5, A6⟩ hc2 hd gh gq ha hb hne (by rw [rt_lk_1 hne]; omega) true (fun u' hu' => ?_)
  have h := hp u' hu'
  obtain ⟨ao', ar', al', ah', aw', sl', rfl, hA'⟩ := hu'
  exact h
theorem xw_addLink (hA : xw_A rl up og H Q ao ar al ah aw sl) (hc : rt_cf n rl up) (hd : 1 ≤ d ∧ d ≤ 4) (gh : rt_gh n up H) (gq : rt_gq n d up Q) {a b k : Nat} (ha : a < n) (hb : b < n) (hne : a ≠ b) (h2 : 2 ≤ k) (h4 : k ≤ 4) {post : Int32 → St2 → Prop}
    (p3 : rl a b ≠ 0 → post (-3) (nI n, nI d, ao, ar, al, ah, aw, sl, ab, ap, ak)) (p4 : rl a b = 0 → rt_cy rl a b k → post (-4) (nI n, nI d, ao, ar, al, ah, aw, sl, ab, ap, ak))
    (hp : rl a b = 0 → ¬ rt_cy rl a b k → ∀ u', xw_X n d (rt_lk rl a b k (6 - k)) (rt_lk up a b true true) og (rt_lk H a b [] []) (rt_send n d (rt_lk rl a b k (6 - k)) (rt_lk up a b true true) og (rt_lk H a b [] []) (rt_lk Q a b [] [])) ab ap ak u' → post 0 u') :
    wpX_addLink post (nI n, nI d, ao, ar, al, ah, aw, sl, ab, ap, ak) (nI a) (nI b) (nI k) := by
  have hn := hc.2.1
  unfold wpX_addLink
  refine xw_bp_f hn ha hb hne (br_t rfl ?_)
  refine br_f (nI_nlt (b := 2) h2 (by omega)) (br_t (xw_le (b := 4) h4 (by decide)) ?_)
  refine xw_isLinked hA hc.2.2.1 (by omega) (by omega) (fun h0 => br_t rfl ?_) (fun h0 => br_f xw_10 (p3 h0))
  have last : ¬ rt_cy rl a b k → wX_addLink_64 post (nI a) (nI b) (nI k) (nI n) (nI d) ao ar al ah aw sl ab ap ak := fun hcy => xw_add64 hA hc hd gh gq ha hb hne h2 h4 hcy (hp h0 hcy)
  by_cases e2 : k = 2
  · refine br_t (by rw [e2]; rfl) ?_
    refine xw_isBelow hA hc ha hb (fun r => br_f xw_10 (p4 h0 (Or.inl ⟨e2, r⟩))) (fun r => br_t rfl ?_)
    exact br_f (xw_ne (b := 4) (by omega) (by decide) (by omega)) (last (fun z => by
      rcases z with z | z
      · exact r z.2
      · omega))
  · refine br_f (xw_ne (b := 2) (by omega) (by decide) e2) ?_
    by_cases e4 : k = 4
    · refine br_t (by rw [e4]; rfl) ?_
      exact xw_isBelow hA hc hb ha (fun r => br_f xw_10 (p4 h0 (Or.inr ⟨e4, r⟩))) (fun r => br_t rfl (last (fun z => by
        rcases z with z | z
        · omega
        · exact r z.2)))
    · exact br_f (xw_ne (b := 4) (by omega) (by decide) e4) (last (fun z => by
        rcases z with z | z <;> omega))
theorem xw_deliver (hA : xw_A rl up og H Q ao ar al ah aw sl) (hI : rt_inv n d rl up og H Q) {a b : Nat} (ha : a < n) (hb : b < n) (hne : a ≠ b) {post : Int32 → St2 → Prop}
    (p2 : rl a b = 0 → post (-2) (nI n, nI d, ao, ar, al, ah, aw, sl, ab, ap, ak)) (p5 : rl a b ≠ 0 → Q a b = [] → post (-5) (nI n, nI d, ao, ar, al, ah, aw, sl, ab, ap, ak))
    (hp : rl a b ≠ 0 → Q a b ≠ [] → ∀ u', xw_X n d rl up og (rt_dl n d rl up og a b (H, Q)).1 (rt_dl n d rl up og a b (H, Q)).2 ab ap ak u' → post (if rt_pt n rl og (rt_dl n d rl up og a b (H, Q)).1 b = rt_pt n rl og H b then 0 else 1) u') :
    wpX_deliver post (nI n, nI d, ao, ar, al, ah, aw, sl, ab, ap, ak) (nI a) (nI b) := by
  have hI' := hI
  obtain ⟨hc, hd, gh, gq, hsy⟩ := hI'
  have hn := hc.2.1
  have hr := hc.2.2.1
  have hg : ∀ a b, rt_ok n (H a b) := fun a b => (gh a b).1.1
  unfold wpX_deliver
  refine xw_bp_f hn ha hb hne (br_t rfl ?_)
  refine xw_isLinked hA hr (by omega) (by omega) (fun h0 => br_t rfl (p2 h0)) (fun h0 => br_f xw_10 ⟨xw_in (by omega) (by omega), ?_⟩)
  have ew : aw (nI a * 8 + nI b).toNatClampNeg = nI (Q a b).length := by rw [xw_cl (by omega) (by omega)]; exact hA.2.2.2.2.1 a b (by omega) (by omega)
  cases hq : Q a b with
  | nil => exact br_t (by rw [ew, hq]; rfl) (p5 h0 hq)
  | cons m r =>
    have hlen := (gq a b).2.1
    rw [hq, List.length_cons] at ew hlen
    refine br_f (by rw [ew]; exact nI_ne0 (by omega) (by omega)) ?_
    refine xw_selectedPath hA hn hr hg hb ?_
    have hI2 := rt_dl_inv (s := (H, Q)) hI a b
    have hg2 : ∀ x y, rt_ok n ((rt_dl n d rl up og a b (H, Q)).1 x y) := fun x y => (hI2.2.2.1 x y).1.1
    have h := xw_hear (ab := ab) (ap := ap) (ak := ak) (H, Q) hI (a := a) (b := b) (by omega) (by omega) hq
      (post := fun u => wpX_selectedPath (fun r_66 => (r_66 = xw_lc (rt_pt n rl og H b) → post 0 u) ∧ (¬ r_66 = xw_lc (rt_pt n rl og H b) → post 1 u)) u (nI b))
      (fun u' hu' => by
        have hpp := hp h0 (by rw [hq]; exact fun z => nomatch z) u' hu'
        obtain ⟨ao', ar', al', ah', aw', sl', rfl, hA'⟩ := hu'
        refine xw_selectedPath hA' hn hr hg2 hb ?_
        have ok1 := (rt_pt_pd (rl := rl) (og := og) hg hb).1
        have ok2 := (rt_pt_pd (rl := rl) (og := og) hg2 hb).1
        by_cases z : rt_pt n rl og (rt_dl n d rl up og a b (H, Q)).1 b = rt_pt n rl og H b
        · rw [if_pos z] at hpp
          exact br_t (by rw [z]) hpp
        · rw [if_neg z] at hpp
          exact br_f (fun y => z ((xw_lc_eq hn ok2 ok1).mp y)) hpp) ao ar al ah aw sl hA
    rw [← xw_ix] at h
    exact h
end
end
section
/-! every call, with any arguments, keeps the picture -/
def gw_G (n d : Nat) (u : St2) : Prop :=
  ∃ (rl : Nat → Nat → Nat) (up : Nat → Nat → Bool) (og : Nat → Bool) (H : rt_HT) (Q : rt_QT) (ab ap : Nat → Int64) (ak : Nat → Int32), rt_inv n d rl up og H Q ∧ xw_X n d rl up og H Q ab ap ak u
section
variable {n d : Nat} {u : St2} {post : Int32 → St2 → Prop}
theorem gw_addLink (h : gw_G n d u) (p q k : Int32) (hp : ∀ r u', gw_G n d u' → post r u') : wpX_addLink post u p q k := by
  obtain ⟨rl, up, og, H, Q, ab, ap, ak, hI, ao, ar, al, ah, aw, sl, rfl, hA⟩ := h
  have G0 : gw_G n d (nI n, nI d, ao, ar, al, ah, aw, sl, ab, ap, ak) := ⟨rl, up, og, H, Q, ab, ap, ak, hI, ao, ar, al, ah, aw, sl, rfl, hA⟩
  have hI' := hI
  obtain ⟨hc, hd, gh, gq, hsy⟩ := hI'
  have hn := hc.2.1
  have hr := hc.2.2.1
  have hg : ∀ a b, rt_ok n (H a b) := fun a b => (gh a b).1.1
  rcases xw_bp_c hn p q with hb | ⟨a, b, ha, hb, hne, rfl, rfl⟩
  · unfold wpX_addLink
    exact xw_bp_t hn hb (br_f xw_10 (hp _ _ G0))
  · by_cases h2 : k < 2
    · unfold wpX_addLink
      exact xw_bp_f hn ha hb hne (br_t rfl (br_t h2 (hp _ _ G0)))
    · by_cases h4 : k ≤ 4
      · have h00 : ¬ k < 0 := fun z => h2 (Int32.lt_trans z (by decide))
        obtain ⟨j, hj, rfl⟩ := nI_of h00
        have k2 : 2 ≤ j := by
          by_cases z : 2 ≤ j
          · exact z
          · exact absurd (nI_lt (b := 2) (show j < 2 by omega) (by decide)) h2
        have k4 : j ≤ 4 := by
          by_cases z : j ≤ 4
          · exact z
          · exact absurd h4 (nI_ge (a := 4) (show 4 < j by omega) hj)
        refine xw_addLink hA hc hd gh gq ha hb hne k2 k4 (fun _ => hp _ _ G0) (fun _ _ => hp _ _ G0) (fun h0 h' u' hu' => hp _ _ ?_)
        have hg2 := rt_set (d := d) (rl := rl) hne true gh gq
        have hc2 := rt_cf_set (rt_cf_add hc ha hb hne k2 k4 h') hne (by rw [rt_lk_1 hne]; omega) true
        exact ⟨_, _, _, _, _, _, _, _, rt_send_ok hc2 hd hg2.1 hg2.2, hu'⟩
      · unfold wpX_addLink
        exact xw_bp_f hn ha hb hne (br_t rfl (br_f h2 (br_f h4 (hp _ _ G0))))
theorem gw_switchLink (h : gw_G n d u) (p q : Int32) (z : Bool) (hp : ∀ r u', gw_G n d u' → post r u') : wpX_switchLink post u p q (xw_b z) := by
  obtain ⟨rl, up, og, H, Q, ab, ap, ak, hI, ao, ar, al, ah, aw, sl, rfl, hA⟩ := h
  have G0 : gw_G n d (nI n, nI d, ao, ar, al, ah, aw, sl, ab, ap, ak) := ⟨rl, up, og, H, Q, ab, ap, ak, hI, ao, ar, al, ah, aw, sl, rfl, hA⟩
  have hI' := hI
  obtain ⟨hc, hd, gh, gq, hsy⟩ := hI'
  have hn := hc.2.1
  have hr := hc.2.2.1
  have hg : ∀ a b, rt_ok n (H a b) := fun a b => (gh a b).1.1
  rcases xw_bp_c hn p q with hb | ⟨a, b, ha, hb, hne, rfl, rfl⟩
  · unfold wpX_switchLink
    exact xw_bp_t hn hb (br_f xw_10 (hp _ _ G0))
  · refine xw_switchLink hA hc hd gh gq ha hb hne z (fun _ => hp _ _ G0) (fun _ _ => hp _ _ G0) (fun h0 h' u' hu' => hp _ _ ?_)
    have hg2 := rt_set (d := d) (rl := rl) hne z gh gq
    exact ⟨_, _, _, _, _, _, _, _, rt_send_ok (rt_cf_set hc hne h0 z) hd hg2.1 hg2.2, hu'⟩
theorem gw_fail (h : gw_G n d u) (p q : Int32) (hp : ∀ r u', gw_G n d u' → post r u') : wpX_fail post u p q := by
  obtain ⟨rl, up, og, H, Q, ab, ap, ak, hI, ao, ar, al, ah, aw, sl, rfl, hA⟩ := h
  have G0 : gw_G n d (nI n, nI d, ao, ar, al, ah, aw, sl, ab, ap, ak) := ⟨rl, up, og, H, Q, ab, ap, ak, hI, ao, ar, al, ah, aw, sl, rfl, hA⟩
  have hI' := hI
  obtain ⟨hc, hd, gh, gq, hsy⟩ := hI'
  have hn := hc.2.1
  have hr := hc.2.2.1
  have hg : ∀ a b, rt_ok n (H a b) := fun a b => (gh a b).1.1
  unfold wpX_fail
  refine gw_switchLink G0 p q false (fun r u' hu' => ?_)
  have h2 := hp r u' hu'
  obtain ⟨_, _, _, _, _, _, _, _, _, ao', ar', al', ah', aw', sl', rfl, _⟩ := hu'
  exact h2
theorem gw_restore (h : gw_G n d u) (p q : Int32) (hp : ∀ r u', gw_G n d u' → post r u') : wpX_restore post u p q := by
  obtain ⟨rl, up, og, H, Q, ab, ap, ak, hI, ao, ar, al, ah, aw, sl, rfl, hA⟩ := h
  have G0 : gw_G n d (nI n, nI d, ao, ar, al, ah, aw, sl, ab, ap, ak) := ⟨rl, up, og, H, Q, ab, ap, ak, hI, ao, ar, al, ah, aw, sl, rfl, hA⟩
  have hI' := hI
  obtain ⟨hc, hd, gh, gq, hsy⟩ := hI'
  have hn := hc.2.1
  have hr := hc.2.2.1
  have hg : ∀ a b, rt_ok n (H a b) := fun a b => (gh a b).1.1
  unfold wpX_restore
  refine gw_switchLink G0 p q true (fun r u' hu' => ?_)
  have h2 := hp r u' hu'
  obtain ⟨_, _, _, _, _, _, _, _, _, ao', ar', al', ah', aw', sl', rfl, _⟩ := hu'
  exact h2
theorem gw_switchOrigin (h : gw_G n d u) (p : Int32) (z : Bool) (hp : ∀ r u', gw_G n d u' → post r u') : wpX_switchOrigin post u p (xw_b z) := by
  obtain ⟨rl, up, og, H, Q, ab, ap, ak, hI, ao, ar, al, ah, aw, sl, rfl, hA⟩ := h
  have G0 : gw_G n d (nI n, nI d, ao, ar, al, ah, aw, sl, ab, ap, ak) := ⟨rl, up, og, H, Q, ab, ap, ak, hI, ao, ar, al, ah, aw, sl, rfl, hA⟩
  have hI' := hI
  obtain ⟨hc, hd, gh, gq, hsy⟩ := hI'
  have hn := hc.2.1
  have hr := hc.2.2.1
  have hg : ∀ a b, rt_ok n (H a b) := fun a b => (gh a b).1.1
  rcases xw_bd_c hn p with hb | ⟨v, hv, rfl⟩
  · unfold wpX_switchOrigin
    exact xw_isBad_t hb (br_f xw_10 (hp _ _ G0))
  · refine xw_switchOrigin hA hc hd gh gq hv z (fun _ => hp _ _ G0) (fun h' u' hu' => hp _ _ ?_)
    exact ⟨_, _, _, _, _, _, _, _, rt_send_ok hc hd gh gq, hu'⟩
theorem gw_originate (h : gw_G n d u) (p : Int32) (hp : ∀ r u', gw_G n d u' → post r u') : wpX_originate post u p := by
  obtain ⟨rl, up, og, H, Q, ab, ap, ak, hI, ao, ar, al, ah, aw, sl, rfl, hA⟩ := h
  have G0 : gw_G n d (nI n, nI d, ao, ar, al, ah, aw, sl, ab, ap, ak) := ⟨rl, up, og, H, Q, ab, ap, ak, hI, ao, ar, al, ah, aw, sl, rfl, hA⟩
  have hI' := hI
  obtain ⟨hc, hd, gh, gq, hsy⟩ := hI'
  have hn := hc.2.1
  have hr := hc.2.2.1
  have hg : ∀ a b, rt_ok n (H a b) := fun a b => (gh a b).1.1
  unfold wpX_originate
  refine gw_switchOrigin G0 p true (fun r u' hu' => ?_)
  have h2 := hp r u' hu'
  obtain ⟨_, _, _, _, _, _, _, _, _, ao', ar', al', ah', aw', sl', rfl, _⟩ := hu'
  exact h2
theorem gw_withdraw (h : gw_G n d u) (p : Int32) (hp : ∀ r u', gw_G n d u' → post r u') : wpX_withdraw post u p := by
  obtain ⟨rl, up, og, H, Q, ab, ap, ak, hI, ao, ar, al, ah, aw, sl, rfl, hA⟩ := h
  have G0 : gw_G n d (nI n, nI d, ao, ar, al, ah, aw, sl, ab, ap, ak) := ⟨rl, up, og, H, Q, ab, ap, ak, hI, ao, ar, al, ah, aw, sl, rfl, hA⟩
  have hI' := hI
  obtain ⟨hc, hd, gh, gq, hsy⟩ := hI'
  have hn := hc.2.1
  have hr := hc.2.2.1
  have hg : ∀ a b, rt_ok n (H a b) := fun a b => (gh a b).1.1
  unfold wpX_withdraw
  refine gw_switchOrigin G0 p false (fun r u' hu' => ?_)
  have h2 := hp r u' hu'
  obtain ⟨_, _, _, _, _, _, _, _, _, ao', ar', al', ah', aw', sl', rfl, _⟩ := hu'
  exact h2
theorem gw_deliver (h : gw_G n d u) (p q : Int32) (hp : ∀ r u', gw_G n d u' → post r u') : wpX_deliver post u p q := by
  obtain ⟨rl, up, og, H, Q, ab, ap, ak, hI, ao, ar, al, ah, aw, sl, rfl, hA⟩ := h
  have G0 : gw_G n d (nI n, nI d, ao, ar, al, ah, aw, sl, ab, ap, ak) := ⟨rl, up, og, H, Q, ab, ap, ak, hI, ao, ar, al, ah, aw, sl, rfl, hA⟩
  have hI' := hI
  obtain ⟨hc, hd, gh, gq, hsy⟩ := hI'
  have hn := hc.2.1
  have hr := hc.2.2.1
  have hg : ∀ a b, rt_ok n (H a b) := fun a b => (gh a b).1.1
  rcases xw_bp_c hn p q with hb | ⟨a, b, ha, hb, hne, rfl, rfl⟩
  · unfold wpX_deliver
    exact xw_bp_t hn hb (br_f xw_10 (hp _ _ G0))
  · exact xw_deliver hA hI ha hb hne (fun _ => hp _ _ G0) (fun _ _ => hp _ _ G0) (fun h0 h' u' hu' => hp _ _ ⟨_, _, _, _, _, _, _, _, rt_dl_inv (s := (H, Q)) hI a b, hu'⟩)
theorem gw_settle (h : gw_G n d u) (hp : ∀ r u', gw_G n d u' → post r u') : wpX_settle post u := by
  obtain ⟨rl, up, og, H, Q, ab, ap, ak, hI, ao, ar, al, ah, aw, sl, rfl, hA⟩ := h
  have G0 : gw_G n d (nI n, nI d, ao, ar, al, ah, aw, sl, ab, ap, ak) := ⟨rl, up, og, H, Q, ab, ap, ak, hI, ao, ar, al, ah, aw, sl, rfl, hA⟩
  have hI' := hI
  obtain ⟨hc, hd, gh, gq, hsy⟩ := hI'
  have hn := hc.2.1
  have hr := hc.2.2.1
  have hg : ∀ a b, rt_ok n (H a b) := fun a b => (gh a b).1.1
  exact xw_settle hI (fun H' Q' ab' u' hI2 hq hu' => hp _ _ ⟨_, _, _, _, _, _, _, _, hI2, hu'⟩) ao ar al ah aw sl hA
theorem gw_relation {post : Int32 → Prop} (h : gw_G n d u) (p q : Int32) (hp : ∀ r, post r) : wpX_relation post u p q := by
  obtain ⟨rl, up, og, H, Q, ab, ap, ak, hI, ao, ar, al, ah, aw, sl, rfl, hA⟩ := h
  have G0 : gw_G n d (nI n, nI d, ao, ar, al, ah, aw, sl, ab, ap, ak) := ⟨rl, up, og, H, Q, ab, ap, ak, hI, ao, ar, al, ah, aw, sl, rfl, hA⟩
  have hI' := hI
  obtain ⟨hc, hd, gh, gq, hsy⟩ := hI'
  have hn := hc.2.1
  have hr := hc.2.2.1
  have hg : ∀ a b, rt_ok n (H a b) := fun a b => (gh a b).1.1
  unfold wpX_relation
  rcases xw_bp_c hn p q with hb | ⟨a, b, ha, hb, hne, rfl, rfl⟩
  · exact xw_bp_t hn hb (br_f xw_10 (hp _))
  · exact xw_bp_f hn ha hb hne (br_t rfl ⟨xw_in (by omega) (by omega), hp _⟩)
theorem gw_message {post : Int64 → Prop} (h : gw_G n d u) (p q : Int32) (hp : ∀ r, post r) : wpX_message post u p q 0 := by
  obtain ⟨rl, up, og, H, Q, ab, ap, ak, hI, ao, ar, al, ah, aw, sl, rfl, hA⟩ := h
  have G0 : gw_G n d (nI n, nI d, ao, ar, al, ah, aw, sl, ab, ap, ak) := ⟨rl, up, og, H, Q, ab, ap, ak, hI, ao, ar, al, ah, aw, sl, rfl, hA⟩
  have hI' := hI
  obtain ⟨hc, hd, gh, gq, hsy⟩ := hI'
  have hn := hc.2.1
  have hr := hc.2.2.1
  have hg : ∀ a b, rt_ok n (H a b) := fun a b => (gh a b).1.1
  unfold wpX_message
  rcases xw_bp_c hn p q with hb | ⟨a, b, ha, hb, hne, rfl, rfl⟩
  · exact xw_bp_t hn hb (br_f xw_10 (hp _))
  · refine xw_bp_f hn ha hb hne (br_t rfl ?_)
    refine xw_isLinked hA hr (by omega) (by omega) (fun h0 => br_t rfl (hp _)) (fun h0 => br_f xw_10 ?_)
    refine br_f (by decide) ⟨xw_in (by omega) (by omega), br_c (fun _ => ⟨?_, hp _⟩) (fun _ => hp _)⟩
    rw [xw_ix]
    have e : nI (a * 8 + b) * 4 + 0 = nI ((a * 8 + b) * 4) := by
      have h1 := pk_mul (a * 8 + b) 4
      have h2 := nI_add ((a * 8 + b) * 4) 0
      exact (congrArg (· + (0 : Int32)) h1).trans h2
    rw [e]
    exact vp_in_nI (by omega) (by decide)
end
end
section
theorem wb_cu : ∀ k, k < 64 → ((nI k).toInt64.toUInt64 &&& Int64.toUInt64 63) = UInt64.ofNat k := by decide +kernel
theorem wb_shr {n k : Nat} (hn : n < 2 ^ 64) (hk : k < 64) : ((lN n).toUInt64 >>> ((nI k).toInt64.toUInt64 &&& Int64.toUInt64 63)).toInt64 = lN (n / 2 ^ k) := by
  rw [wb_cu k hk]
  apply wb_inj
  apply BitVec.eq_of_toNat_eq
  show ((lN n).toUInt64 >>> UInt64.ofNat k).toNat = (BitVec.ofNat 64 _).toNat
  have h1 : (UInt64.ofNat k).toNat = k := by
    show (BitVec.ofNat 64 k).toNat = k
    rw [BitVec.toNat_ofNat, Nat.mod_eq_of_lt (by omega)]
  have h2 : (lN n).toUInt64.toNat = n := wb_tn hn
  rw [UInt64.toNat_shiftRight, h1, h2, Nat.mod_eq_of_lt hk, Nat.shiftRight_eq_div_pow, BitVec.toNat_ofNat, Nat.mod_eq_of_lt (Nat.lt_of_le_of_lt (Nat.div_le_self _ _) hn)]
/-! a path passes the law's look at it -/
theorem gw_bit : ∀ M, M < 512 → ∀ v, v < 9 → ((nI M &&& ((1 : Int32) <<< (nI v &&& 31))) = 0 ↔ M.testBit v = false) := by decide +kernel
theorem gw_one : ∀ v, v < 9 → (1 : Int32) <<< (nI v &&& 31) = nI (2 ^ v) := by decide +kernel
theorem gw_pw : ∀ v, v < 9 → 2 ^ v < 512 := by decide
theorem gw_and {c : Nat} (hc : c < 4294967296) : (lN c &&& 15) = lN (c % 16) := wb_mask (k := 4) (by omega) (by decide)
theorem gw_path {n : Nat} (hn : n ≤ 8) {post : Int32 → Prop} (hp : post 1) : ∀ (l : List Nat) (i M : Nat), rt_ok n l → M < 512 → (∀ x, x ∈ l → M.testBit (x + 1) = false) → i + l.length ≤ 16 →
    wL_pathOk_24 post (nI n) (l.length + 1) (nI M) (xw_lc l) (nI i) := by
  intro l
  induction l with
  | nil =>
    intro i M hl hM hx hi
    by_cases h : 16 ≤ i
    · exact br_t (nI_le (a := 16) h (by rw [List.length_nil] at hi; omega)) hp
    · exact br_f (nI_ge (b := 16) (by omega) (by decide)) (br_t rfl hp)
  | cons w r ih =>
    intro i M hl hM hx hi
    rw [List.length_cons] at hi
    have hw : w < n := hl.2 w List.mem_cons_self
    have hc := rt_enc_ok hn hl
    have h0 : ¬ xw_lc (w :: r) = 0 := fun z => (nomatch (xw_lc_0 hn hl).mp z)
    refine br_f (nI_ge (b := 16) (by omega) (by decide)) (br_f h0 ?_)
    have e1 : (xw_lc (w :: r) &&& 15).toInt32 = nI (w + 1) := by
      show (lN (rt_enc (w :: r)) &&& 15).toInt32 = nI (w + 1)
      rw [gw_and hc, rt_enc_mod (by omega), lN_i]
    refine nm_r e1 (br_f (nI_nlt (b := 1) (by omega) (by omega)) (br_t (nI_le (by omega) (by omega)) ?_))
    refine br_t ((gw_bit M hM (w + 1) (by omega)).mpr (hx w List.mem_cons_self)) ?_
    refine nm_r (e' := nI (M ||| 2 ^ (w + 1))) (by rw [gw_one (w + 1) (by omega), xw_or]) ?_
    have e2 : ((xw_lc (w :: r)).toUInt64 >>> ((4 : Int32).toInt64.toUInt64 &&& Int64.toUInt64 63)).toInt64 = xw_lc r := by
      have h := wb_shr (n := rt_enc (w :: r)) (k := 4) (by omega) (by decide)
      have h2 : rt_enc (w :: r) / 2 ^ 4 = rt_enc r := by
        show (rt_enc r * 16 + (w + 1)) / 16 = rt_enc r
        omega
      rw [h2] at h
      exact h
    refine nm_r e2 (nm_r (nI_1 i) (ih (i + 1) _ (rt_ok_tail hl) (Nat.or_lt_two_pow (n := 9) hM (gw_pw (w + 1) (by omega))) (fun x hxr => ?_) (by omega)))
    have hne : x ≠ w := fun z => by
      subst z
      exact (List.nodup_cons.mp hl.1).1 hxr
    rw [Nat.testBit_or, hx x (List.mem_cons_of_mem _ hxr), Nat.testBit_two_pow, decide_eq_false (by omega)]
    rfl
theorem gw_pathOk {n v : Nat} {l : List Nat} (hn : n ≤ 8) (hv : v < n) (hl : rt_pd n v l) (h0 : l ≠ []) {post : Int32 → Prop} (hp : post 1) : wpL_pathOk post () (xw_lc l) (nI v) (nI n) := by
  cases l with
  | nil => exact absurd rfl h0
  | cons w r =>
    have e : w = v := hl.2 w r rfl
    subst e
    have hc := rt_enc_ok hn hl.1
    have hlen := rt_len hl.1
    refine br_t ?_ ⟨_, gw_path hn hp (w :: r) 0 0 hl.1 (by decide) (fun x _ => Nat.zero_testBit _) (by omega)⟩
    show (lN (rt_enc (w :: r)) &&& 15) = (nI w + 1).toInt64
    rw [gw_and hc, rt_enc_mod (by omega), xw_lv (by omega)]
/-! the cells of the script -/
theorem gw_cell {post : Int32 → Prop} {L k : Nat} {xs : Nat → Int32} (hL : L ≤ 260) (hk : k < 2 ^ 31) (hp : ∀ x, post x) : wpL_cell post L xs () (nI k) := by
  by_cases h : L ≤ k
  · exact br_t (nI_le h hk) (hp _)
  · exact br_f (nI_ge (by omega) (by omega)) ⟨vp_in_nI (by omega) (by omega), hp _⟩
theorem gw_pick {post : Int32 → Prop} {m : Nat} (p : Int32) (h0 : 0 < m) (hm : m < 2 ^ 31) (hp : ∀ j, j < m → post (nI j)) : wpL_pick post () p (nI m) := by
  refine ⟨nI_ne0 h0 hm, ?_⟩
  have e : p &&& 2147483647 = nI (p.toBitVec.toNat % 2 ^ 31) := pk_and p 31 (by decide)
  have hlt : p.toBitVec.toNat % 2 ^ 31 < 2 ^ 31 := Nat.mod_lt _ (by decide)
  rw [e, pk_rem hlt h0 hm]
  exact hp _ (Nat.mod_lt _ h0)
end
section
/-! what the law looks at after each step -/
section
variable {n d : Nat} {L : Nat} {xs : Nat → Int32} {post : Int32 → Prop} {J79 : Int32 → Int32 → Int32 → Int32 → (Nat → Int32) → (Nat → Int32) → (Nat → Int32) → (Nat → Int64) → (Nat → Int32) → (Nat → Int64) → (Nat → Int64) → (Nat → Int64) → (Nat → Int32) → Prop} {x4 x6 x7 : Int32} {kc ks t : Nat}
theorem gw_check (x5 : Int32) (hJ : ∀ (ao ar al : Nat → Int32) (ah : Nat → Int64) (aw : Nat → Int32) (sl ab ap : Nat → Int64) (ak : Nat → Int32), gw_G n d (nI n, nI d, ao, ar, al, ah, aw, sl, ab, ap, ak) → J79 x7 (nI (t + 1)) (nI n) (nI d) ao ar al ah aw sl ab ap ak) (ao ar al : Nat → Int32) (ah : Nat → Int64) (aw : Nat → Int32) (sl ab ap : Nat → Int64) (ak : Nat → Int32) (h : gw_G n d (nI n, nI d, ao, ar, al, ah, aw, sl, ab, ap, ak)) :
    wL_law_531 post L xs J79 (nI n) x4 x5 x6 x7 (nI t) kc ks (nI n) (nI d) ao ar al ah aw sl ab ap ak := by
  obtain ⟨rl, up, og, H, Q, ab0, ap0, ak0, hI, ao0, ar0, al0, ah0, aw0, sl0, e, hA⟩ := h
  cases e
  have hI' := hI
  obtain ⟨hc, hd, gh, gq, hsy⟩ := hI'
  have hn := hc.2.1
  have hr := hc.2.2.1
  have hg : ∀ a b, rt_ok n (H a b) := fun a b => (gh a b).1.1
  have hF := rt_fd_F hc og (m := 1) (by decide)
  unfold wL_law_531
  refine xw_inFlight hA ?_
  have hle := rt_tot_le (fun a b => (gq a b).2.1) 64
  have hd4 := hd.2
  have key : ∀ z : Bool, (z = true → rt_tot Q 64 = 0) → ∀ m v, v + m = n → ∀ (ap : Nat → Int64) (ak : Nat → Int32), wL_law_548 post L xs J79 (nI n) x4 x5 x6 x7 (nI t) (xw_b z) kc ks (m + 1) (nI v) (nI n) (nI d) ao ar al ah aw sl ab ap ak := by
    intro z hz m
    induction m with
    | zero =>
      intro v hv ap ak
      have e : v = n := by omega
      subst e
      exact br_t (xw_le (Nat.le_refl v) (by omega)) (nm_r (nI_1 t) (hJ ao ar al ah aw sl ab ap ak ⟨rl, up, og, H, Q, ab, ap, ak, hI, ao, ar, al, ah, aw, sl, rfl, hA⟩))
    | succ m ih =>
      intro v hv ap ak
      have hv2 : v < n := by omega
      refine br_f (xw_ge (by omega) (by omega)) ?_
      unfold wpX_selected
      refine xw_isBad_f hn hv2 (br_t rfl ?_)
      refine xw_selectedPath hA hn hr hg hv2 ?_
      have hpd := rt_pt_pd (rl := rl) (og := og) hg hv2
      have tail : wL_law_582 post L xs J79 (wL_law_548 post L xs J79 (nI n) x4 x5 x6 x7 (nI t) (xw_b z) kc ks (m + 1)) (nI n) x4 x5 x6 x7 (nI t) (xw_b z) (nI v) (xw_lc (rt_pt n rl og H v)) kc ks (nI n) (nI d) ao ar al ah aw sl ab ap ak := by
        by_cases hzt : z = true
        · refine br_f (xw_b_ne hzt) ?_
          unfold wpX_expected
          refine xw_isBad_f hn hv2 (br_t rfl ?_)
          refine xw_findExpected hA hc ap ak (fun ap' ak' hE => ⟨xw_i8 (by omega), ?_⟩)
          have hq := rt_F_quiet hF hI (rt_tot_all hI (hz hzt))
          refine br_t ?_ (nm_r (nI_1 v) (ih (v + 1) (by omega) ap' ak'))
          rw [xw_c8 (by omega), (hE v hv2).1, (hq.2 v hv2).1]
        · exact br_t (xw_bn hzt) (nm_r (nI_1 v) (ih (v + 1) (by omega) ap ak))
      by_cases hnil : rt_pt n rl og H v = []
      · exact br_t ((xw_lc_0 hn hpd.1).mpr hnil) tail
      · refine br_f (fun y => hnil ((xw_lc_0 hn hpd.1).mp y)) ?_
        exact gw_pathOk hn hv2 hpd hnil (br_f xw_10 tail)
  by_cases hz : rt_tot Q 64 = 0
  · exact br_t (by rw [hz]; rfl) ⟨n + 1, key true (fun _ => hz) n 0 (by omega) ap ak⟩
  · exact br_f (xw_ne (b := 0) (by omega) (by decide) hz) ⟨n + 1, key false (fun y => (nomatch y)) n 0 (by omega) ap ak⟩
end
/-! the law's steps -/
section
variable {n d : Nat} {L : Nat} {xs : Nat → Int32} {post : Int32 → Prop} {J79 : Int32 → Int32 → Int32 → Int32 → (Nat → Int32) → (Nat → Int32) → (Nat → Int32) → (Nat → Int64) → (Nat → Int32) → (Nat → Int64) → (Nat → Int64) → (Nat → Int64) → (Nat → Int32) → Prop} {x4 x6 : Int32} {kc ks t : Nat}
theorem gw_nn {n : Nat} (h2 : 2 ≤ n) (h8 : n ≤ 8) : 0 < n * n ∧ n * n ≤ 64 := by
  have h1 := Nat.mul_le_mul h8 h8
  have h3 := Nat.mul_le_mul h2 h2
  omega
theorem gw_282 (h2 : 2 ≤ n) (h8 : n ≤ 8) (x7 x12 x13 : Int32) (hJ : ∀ (ao ar al : Nat → Int32) (ah : Nat → Int64) (aw : Nat → Int32) (sl ab ap : Nat → Int64) (ak : Nat → Int32), gw_G n d (nI n, nI d, ao, ar, al, ah, aw, sl, ab, ap, ak) → J79 x7 (nI (t + 1)) (nI n) (nI d) ao ar al ah aw sl ab ap ak) : ∀ m i, i + m = n * n → ∀ (x14 : Int32) (ao ar al : Nat → Int32) (ah : Nat → Int64) (aw : Nat → Int32) (sl ab ap : Nat → Int64) (ak : Nat → Int32), gw_G n d (nI n, nI d, ao, ar, al, ah, aw, sl, ab, ap, ak) →
    wL_law_282 post L xs J79 (nI n) x4 (nI (n * n)) x6 x7 (nI t) x12 x13 kc ks (m + 1) x14 (nI i) (nI n) (nI d) ao ar al ah aw sl ab ap ak := by
  have hnn := gw_nn h2 h8
  have z5 : ¬ nI (n * n) = 0 := nI_ne0 hnn.1 (by omega)
  have z1 : ¬ nI n = 0 := nI_ne0 (by omega) (by omega)
  intro m
  induction m with
  | zero =>
    intro i hi x14 ao ar al ah aw sl ab ap ak h
    have e : i = n * n := by omega
    subst e
    exact br_t (xw_le (Nat.le_refl _) (by omega)) (gw_check _ hJ ao ar al ah aw sl ab ap ak h)
  | succ m ih =>
    intro i hi x14 ao ar al ah aw sl ab ap ak h
    refine br_f (xw_ge (by omega) (by omega)) (br_c (fun _ => ⟨z5, fun x16 _ => ⟨z1, z1, ?_⟩⟩) (fun _ => gw_check _ hJ ao ar al ah aw sl ab ap ak h))
    refine gw_relation h _ _ (fun r => br_c (fun _ => nm_r (nI_1 i) (ih (i + 1) (by omega) x14 ao ar al ah aw sl ab ap ak h)) (fun _ => ⟨z1, z1, ?_⟩))
    refine gw_fail h _ _ (fun r u' hu' => ?_)
    have hu2 := hu'
    obtain ⟨_, _, _, _, _, ab2, ap2, ak2, _, ao2, ar2, al2, ah2, aw2, sl2, rfl, _⟩ := hu2
    refine br_c (fun _ => ⟨z1, z1, ?_⟩) (fun _ => nm_r (nI_1 i) (ih (i + 1) (by omega) 1 ao2 ar2 al2 ah2 aw2 sl2 ab2 ap2 ak2 hu'))
    refine gw_restore hu' _ _ (fun r u3 hu3 => ?_)
    have hu4 := hu3
    obtain ⟨_, _, _, _, _, ab3, ap3, ak3, _, ao3, ar3, al3, ah3, aw3, sl3, rfl, _⟩ := hu4
    exact nm_r (nI_1 i) (ih (i + 1) (by omega) 1 ao3 ar3 al3 ah3 aw3 sl3 ab3 ap3 ak3 hu3)
theorem gw_450 (h2 : 2 ≤ n) (h8 : n ≤ 8) (x9 x14 : Int32) (h1 : post 1) (hJ : ∀ (x7 : Int32) (ao ar al : Nat → Int32) (ah : Nat → Int64) (aw : Nat → Int32) (sl ab ap : Nat → Int64) (ak : Nat → Int32), gw_G n d (nI n, nI d, ao, ar, al, ah, aw, sl, ab, ap, ak) → J79 x7 (nI (t + 1)) (nI n) (nI d) ao ar al ah aw sl ab ap ak) : ∀ m i, i + m = n * n → ∀ (x7 x15 : Int32) (ao ar al : Nat → Int32) (ah : Nat → Int64) (aw : Nat → Int32) (sl ab ap : Nat → Int64) (ak : Nat → Int32), gw_G n d (nI n, nI d, ao, ar, al, ah, aw, sl, ab, ap, ak) →
    wL_law_450 post L xs J79 (nI n) x4 (nI (n * n)) x6 (nI t) x9 x14 kc ks (m + 1) x7 x15 (nI i) (nI n) (nI d) ao ar al ah aw sl ab ap ak := by
  have hnn := gw_nn h2 h8
  have z5 : ¬ nI (n * n) = 0 := nI_ne0 hnn.1 (by omega)
  have z1 : ¬ nI n = 0 := nI_ne0 (by omega) (by omega)
  have fin : ∀ (x7 x15 : Int32) (ao ar al : Nat → Int32) (ah : Nat → Int64) (aw : Nat → Int32) (sl ab ap : Nat → Int64) (ak : Nat → Int32), gw_G n d (nI n, nI d, ao, ar, al, ah, aw, sl, ab, ap, ak) → wL_law_518 post L xs J79 (nI n) x4 (nI (n * n)) x6 x7 (nI t) x9 x15 kc ks (nI n) (nI d) ao ar al ah aw sl ab ap ak := by
    intro x7 x15 ao ar al ah aw sl ab ap ak h
    exact br_c (fun _ => gw_check _ (hJ x7) ao ar al ah aw sl ab ap ak h) (fun _ => br_c (fun _ => h1) (fun _ => gw_check _ (hJ x7) ao ar al ah aw sl ab ap ak h))
  intro m
  induction m with
  | zero =>
    intro i hi x7 x15 ao ar al ah aw sl ab ap ak h
    have e : i = n * n := by omega
    subst e
    exact br_t (xw_le (Nat.le_refl _) (by omega)) (fin x7 x15 ao ar al ah aw sl ab ap ak h)
  | succ m ih =>
    intro i hi x7 x15 ao ar al ah aw sl ab ap ak h
    refine br_f (xw_ge (by omega) (by omega)) (br_c (fun _ => ⟨z5, fun x17 _ => ⟨z1, z1, ?_⟩⟩) (fun _ => fin x7 x15 ao ar al ah aw sl ab ap ak h))
    refine gw_message h _ _ (fun r => br_c (fun _ => nm_r (nI_1 i) (ih (i + 1) (by omega) x7 x15 ao ar al ah aw sl ab ap ak h)) (fun _ => ⟨z1, z1, ?_⟩))
    refine gw_deliver h _ _ (fun r u' hu' => ?_)
    have hu2 := hu'
    obtain ⟨_, _, _, _, _, ab2, ap2, ak2, _, ao2, ar2, al2, ah2, aw2, sl2, rfl, _⟩ := hu2
    exact nm_e (nm_r (nI_1 i) (ih (i + 1) (by omega) _ 1 ao2 ar2 al2 ah2 aw2 sl2 ab2 ap2 ak2 hu'))
theorem gw_202 (hL : L ≤ 260) (h2 : 2 ≤ n) (h8 : n ≤ 8) (x7 x9 z0 : Int32) {s k : Nat} (hk : k < 100000) (ht : t < 100000) (hx : ¬ x9 = 0 → n + s ≤ t) (h1 : post 1) (hJ : ∀ (x7 : Int32) (ao ar al : Nat → Int32) (ah : Nat → Int64) (aw : Nat → Int32) (sl ab ap : Nat → Int64) (ak : Nat → Int32), gw_G n d (nI n, nI d, ao, ar, al, ah, aw, sl, ab, ap, ak) → J79 x7 (nI (t + 1)) (nI n) (nI d) ao ar al ah aw sl ab ap ak) (ao ar al : Nat → Int32) (ah : Nat → Int64) (aw : Nat → Int32) (sl ab ap : Nat → Int64) (ak : Nat → Int32) (h : gw_G n d (nI n, nI d, ao, ar, al, ah, aw, sl, ab, ap, ak)) :
    wL_law_202 post L xs J79 (nI n) (nI s) (nI (n * n)) x6 x7 (nI t) x9 (nI k) z0 kc ks (nI n) (nI d) ao ar al ah aw sl ab ap ak := by
  have hnn := gw_nn h2 h8
  have z1 : ¬ nI n = 0 := nI_ne0 (by omega) (by omega)
  have en : nI n - 1 = nI (n - 1) := pk_sub (b := 1) (by omega)
  unfold wL_law_202
  rw [nI_1, show nI k + 2 = nI (k + 2) from nI_add k 2, en]
  refine gw_cell hL (by omega) (fun r1 => ?_)
  refine gw_pick r1 (by omega) (by omega) (fun a ha => ?_)
  refine gw_cell hL (by omega) (fun r2 => ?_)
  refine gw_pick r2 (by omega) (by omega) (fun c hc => ⟨z1, fun x13 _ => ?_⟩)
  have nx : ∀ u', gw_G n d u' → (match u' with | (N, D, ao, ar, al, ah, aw, sl, ab, ap, ak) => wL_law_531 post L xs J79 (nI n) (nI s) (nI (n * n)) x6 x7 (nI t) kc ks N D ao ar al ah aw sl ab ap ak) := by
    intro u' hu'
    have hu2 := hu'
    obtain ⟨_, _, _, _, _, ab2, ap2, ak2, _, ao2, ar2, al2, ah2, aw2, sl2, rfl, _⟩ := hu2
    exact gw_check _ (hJ x7) ao2 ar2 al2 ah2 aw2 sl2 ab2 ap2 ak2 hu'
  refine br_c (fun _ => ?_) (fun _ => gw_addLink h _ _ _ (fun r u' hu' => nx u' hu'))
  have l282 : ∃ f, wL_law_282 post L xs J79 (nI n) (nI s) (nI (n * n)) x6 x7 (nI t) (nI a) x13 kc ks f 0 0 (nI n) (nI d) ao ar al ah aw sl ab ap ak := ⟨_, gw_282 h2 h8 x7 (nI a) x13 (hJ x7) (n * n) 0 (by omega) 0 ao ar al ah aw sl ab ap ak h⟩
  refine br_c (fun _ => l282) (fun _ => br_c (fun _ => l282) (fun _ => br_c (fun _ => ?_) (fun _ => br_c (fun _ => ?_) (fun _ => br_c (fun _ => ?_) (fun h9 => ?_)))))
  · refine gw_originate h _ (fun r u' hu' => ?_)
    have hu2 := hu'
    obtain ⟨_, _, _, _, _, ab2, ap2, ak2, _, ao2, ar2, al2, ah2, aw2, sl2, rfl, _⟩ := hu2
    exact br_c (fun _ => gw_withdraw hu' _ (fun r u3 hu3 => nx u3 hu3)) (fun _ => gw_check _ (hJ x7) ao2 ar2 al2 ah2 aw2 sl2 ab2 ap2 ak2 hu')
  · exact gw_settle h (fun r u' hu' => nx u' hu')
  · exact nm_e ⟨_, gw_450 h2 h8 x9 _ h1 hJ (n * n) 0 (by omega) x7 0 ao ar al ah aw sl ab ap ak h⟩
  · have ht2 := hx h9
    have e : nI t - nI n - nI s = nI (t - n - s) := by rw [pk_sub (by omega), pk_sub (by omega)]
    rw [e]
    refine gw_cell hL (by omega) (fun r3 => ?_)
    refine gw_pick r3 hnn.1 (by omega) (fun c2 hc2 => ?_)
    exact nm_e ⟨_, gw_450 h2 h8 x9 _ h1 hJ (n * n) 0 (by omega) x7 0 ao ar al ah aw sl ab ap ak h⟩
theorem gw_169 (hL : L ≤ 260) (h2 : 2 ≤ n) (h8 : n ≤ 8) (x7 z0 : Int32) {s : Nat} (ht : t < 10000) (hnt : n ≤ t) (hx : ¬ z0 = 0 → n + s ≤ t) (h1 : post 1) (hJ : ∀ (x7 : Int32) (ao ar al : Nat → Int32) (ah : Nat → Int64) (aw : Nat → Int32) (sl ab ap : Nat → Int64) (ak : Nat → Int32), gw_G n d (nI n, nI d, ao, ar, al, ah, aw, sl, ab, ap, ak) → J79 x7 (nI (t + 1)) (nI n) (nI d) ao ar al ah aw sl ab ap ak) (ao ar al : Nat → Int32) (ah : Nat → Int64) (aw : Nat → Int32) (sl ab ap : Nat → Int64) (ak : Nat → Int32) (h : gw_G n d (nI n, nI d, ao, ar, al, ah, aw, sl, ab, ap, ak)) :
    wL_law_169 post L xs J79 (nI n) (nI s) (nI (n * n)) x6 x7 (nI t) z0 kc ks (nI n) (nI d) ao ar al ah aw sl ab ap ak := by
  have e : 18 + 3 * (nI t - nI n) = nI (18 + 3 * (t - n)) := by
    rw [pk_sub hnt, show 3 * nI (t - n) = nI (3 * (t - n)) from pk_mul 3 _]
    exact nI_add 18 _
  unfold wL_law_169
  refine nm_r e (br_c (fun _ => ?_) (fun _ => gw_202 hL h2 h8 x7 z0 5 (by omega) (by omega) hx h1 hJ ao ar al ah aw sl ab ap ak h))
  refine gw_cell hL (by omega) (fun r => ?_)
  refine gw_pick (m := 16) r (by decide) (by decide) (fun j hj => ?_)
  exact gw_202 hL h2 h8 x7 z0 (nI j) (by omega) (by omega) hx h1 hJ ao ar al ah aw sl ab ap ak h
end
section
variable {n d : Nat} {L : Nat} {xs : Nat → Int32} {post : Int32 → Prop} {kc ks : Nat}
theorem gw_79 (hL : L ≤ 260) (h2 : 2 ≤ n) (h8 : n ≤ 8) {s : Nat} (hs : s ≤ 1000) (h1 : post 1) : ∀ m t, t + m = n + s + 5000 → ∀ (x7 : Int32) (ao ar al : Nat → Int32) (ah : Nat → Int64) (aw : Nat → Int32) (sl ab ap : Nat → Int64) (ak : Nat → Int32), gw_G n d (nI n, nI d, ao, ar, al, ah, aw, sl, ab, ap, ak) →
    wL_law_79 post L xs (nI n) (nI s) (nI (n * n)) (nI (n + s + 5000)) kc ks (m + 1) x7 (nI t) (nI n) (nI d) ao ar al ah aw sl ab ap ak := by
  intro m
  induction m with
  | zero =>
    intro t ht x7 ao ar al ah aw sl ab ap ak h
    have e : t = n + s + 5000 := by omega
    subst e
    exact br_t (nI_le (Nat.le_refl _) (by omega)) h1
  | succ m ih =>
    intro t ht x7 ao ar al ah aw sl ab ap ak h
    have hJ := fun (x7 : Int32) => ih (t + 1) (by omega) x7
    refine br_f (nI_ge (by omega) (by omega)) ?_
    have nx : ∀ u', gw_G n d u' → (match u' with | (N, D, ao, ar, al, ah, aw, sl, ab, ap, ak) => wL_law_531 post L xs (wL_law_79 post L xs (nI n) (nI s) (nI (n * n)) (nI (n + s + 5000)) kc ks (m + 1)) (nI n) (nI s) (nI (n * n)) (nI (n + s + 5000)) x7 (nI t) kc ks N D ao ar al ah aw sl ab ap ak) := by
      intro u' hu'
      have hu2 := hu'
      obtain ⟨_, _, _, _, _, ab2, ap2, ak2, _, ao2, ar2, al2, ah2, aw2, sl2, rfl, _⟩ := hu2
      exact gw_check _ (hJ x7) ao2 ar2 al2 ah2 aw2 sl2 ab2 ap2 ak2 hu'
    by_cases t0 : t = 0
    · refine br_t (by rw [t0]; rfl) ?_
      refine gw_cell (k := 2) hL (by decide) (fun r => ?_)
      refine gw_pick r (by omega) (by omega) (fun j hj => ?_)
      exact gw_originate h _ (fun r u' hu' => nx u' hu')
    · refine br_f (nI_ne0 (by omega) (by omega)) ?_
      by_cases tn : n ≤ t
      · refine br_t (nI_le tn (by omega)) ?_
        rw [nI_add]
        by_cases ts : t < n + s
        · exact br_t (nI_lt ts (by omega)) (gw_169 hL h2 h8 x7 0 (by omega) tn (fun z => absurd rfl z) h1 hJ ao ar al ah aw sl ab ap ak h)
        · exact br_f (nI_nlt (by omega) (by omega)) (gw_169 hL h2 h8 x7 1 (by omega) tn (fun _ => by omega) h1 hJ ao ar al ah aw sl ab ap ak h)
      · refine br_f (nI_ge (by omega) (by omega)) ?_
        have e1 : 2 + 2 * nI t = nI (2 + 2 * t) := by
          rw [show 2 * nI t = nI (2 * t) from pk_mul 2 t]
          exact nI_add 2 _
        have e2 : 3 + 2 * nI t = nI (3 + 2 * t) := by
          rw [show 2 * nI t = nI (2 * t) from pk_mul 2 t]
          exact nI_add 3 _
        rw [e1, e2]
        refine gw_cell hL (by omega) (fun r => ?_)
        refine gw_pick r (by omega) (by omega) (fun j hj => ?_)
        refine gw_cell hL (by omega) (fun r2 => ?_)
        refine gw_pick (m := 3) r2 (by decide) (by decide) (fun j2 hj2 => ?_)
        exact gw_addLink h _ _ _ (fun r u' hu' => nx u' hu')
theorem gw_56 (hL : L ≤ 260) (h2 : 2 ≤ n) (h8 : n ≤ 8) {s : Nat} (hs : s ≤ 1000) (h1 : post 1) (ao ar al : Nat → Int32) (ah : Nat → Int64) (aw : Nat → Int32) (sl ab ap : Nat → Int64) (ak : Nat → Int32) (h : gw_G n d (nI n, nI d, ao, ar, al, ah, aw, sl, ab, ap, ak)) : wL_law_56 post L xs (nI n) (nI s) kc ks (nI n) (nI d) ao ar al ah aw sl ab ap ak := by
  unfold wL_law_56
  refine nm_r (pk_mul n n) (nm_r (e' := nI (n + s + 5000)) ?_ ⟨_, gw_79 hL h2 h8 hs h1 (n + s + 5000) 0 (by omega) 0 ao ar al ah aw sl ab ap ak h⟩)
  rw [nI_add]
  exact nI_add _ 5000
end
theorem gw_clamp {post : Int32 → Prop} {k a b : Nat} (ha : a ≤ k) (hb : k ≤ b) (hm : b < 2 ^ 31) (hp : post (nI k)) : wpX_clamp post () (nI k) (nI a) (nI b) :=
  br_t (nI_le ha (by omega)) (br_t (nI_le hb hm) hp)
theorem gw_start {n d : Nat} (h2 : 2 ≤ n) (h8 : n ≤ 8) (d1 : 1 ≤ d) (d4 : d ≤ 4) : gw_G n d (nI n, nI d, (fun _ => 0), (fun _ => 0), (fun _ => 0), (fun _ => 0), (fun _ => 0), (fun _ => 0), (fun _ => 0), (fun _ => 0), (fun _ => 0)) := by
  have z8 : ∀ {α β : Type} (f : α → β) (g : Nat → Nat → α) (c : β), (∀ a b, f (g a b) = c) → xw_C f g (fun _ => c) := fun f g c h a b _ _ => (h a b).symm
  refine ⟨fun _ _ => 0, fun _ _ => false, fun _ => false, fun _ _ => [], fun _ _ => [], _, _, _, ⟨⟨h2, h8, fun _ _ => Or.inl rfl, fun _ _ z => (nomatch z), fun _ _ z => (nomatch z)⟩, ⟨d1, d4⟩, fun a b => ⟨rt_pd_nil n a, fun z => absurd rfl z⟩, fun a b => ⟨fun z => absurd rfl z, Nat.zero_le d, fun m hm => absurd hm List.not_mem_nil⟩, fun _ _ z => (nomatch z)⟩, ⟨_, _, _, _, _, _, rfl, ?_⟩⟩
  exact ⟨fun _ _ => rfl, z8 _ _ _ (fun _ _ => rfl), z8 _ _ _ (fun _ _ => rfl), z8 _ _ _ (fun _ _ => rfl), z8 _ _ _ (fun _ _ => rfl), fun _ _ _ _ _ _ _ z => (nomatch z)⟩
end
section
theorem i_vc (xs : Nat → Int32) (L : Nat) (hL : L ≤ 260) : wpL_law (fun r => r = 1) L xs := by
  unfold wpL_law
  refine gw_cell (k := 0) hL (by decide) (fun r1 => ?_)
  refine gw_pick (m := 7) r1 (by decide) (by decide) (fun j hj => ?_)
  refine nm_r (e' := nI (8 - j)) (pk_sub (a := 8) (by omega)) ?_
  refine gw_cell (k := 1) hL (by decide) (fun r4 => ?_)
  refine gw_pick (m := 4) r4 (by decide) (by decide) (fun c hc => ?_)
  refine nm_r (e' := nI (1 + c)) (nI_add 1 c) ⟨9, 544, by decide, by decide, ?_⟩
  unfold wpX_init
  refine ⟨by decide, by decide, by decide, by decide, by decide, by decide, by decide, by decide, by decide, by decide, by decide, by decide, by decide, by decide, by decide, by decide, by decide, by decide, ?_⟩
  refine gw_clamp (a := 2) (b := 8) (by omega) (by omega) (by decide) ?_
  refine gw_clamp (a := 1) (b := 4) (by omega) (by omega) (by decide) ?_
  have h := gw_start (n := 8 - j) (d := 1 + c) (by omega) (by omega) (by omega) (by omega)
  by_cases h18 : L ≤ 18
  · refine br_t (nI_le (b := 18) h18 (by decide)) ?_
    exact gw_56 (post := fun r => r = 1) (s := 0) hL (by omega) (by omega) (by decide) rfl _ _ _ _ _ _ _ _ _ h
  · refine br_f (nI_ge (a := 18) (by omega) (by omega)) ⟨by decide, ?_⟩
    have e : ((Int32.ofNat L) - 18 + 2) / 3 = nI ((L - 18 + 2) / 3) := by
      have h1 : nI L - nI 18 = nI (L - 18) := pk_sub (by omega)
      have h2 : nI (L - 18) + nI 2 = nI (L - 18 + 2) := nI_add _ _
      have h3 : nI (L - 18 + 2) / nI 3 = nI ((L - 18 + 2) / 3) := pk_div (by omega) (by decide) (by decide)
      show (nI L - nI 18 + nI 2) / nI 3 = _
      rw [h1, h2, h3]
    rw [e]
    exact gw_56 (post := fun r => r = 1) (s := (L - 18 + 2) / 3) hL (by omega) (by omega) (by omega) rfl _ _ _ _ _ _ _ _ _ h
end
