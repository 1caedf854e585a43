/-! paths as rows of nodes, and their codes -/
def rt_enc : List Nat → Nat
  | [] => 0
  | v :: l => rt_enc l * 16 + (v + 1)
/-- a path: different nodes below n -/
def rt_ok (n : Nat) (l : List Nat) : Prop := l.Nodup ∧ ∀ x, x ∈ l → x < n
theorem rt_ok_nil (n : Nat) : rt_ok n [] := ⟨List.nodup_nil, fun _ h => absurd h List.not_mem_nil⟩
theorem rt_ok_cons {n v : Nat} {l : List Nat} (h : rt_ok n l) (hv : v < n) (hn : v ∉ l) : rt_ok n (v :: l) := by
  refine ⟨List.nodup_cons.mpr ⟨hn, h.1⟩, fun x hx => ?_⟩
  rcases List.mem_cons.mp hx with e | e
  · rw [e]; exact hv
  · exact h.2 x e
theorem rt_ok_tail {n v : Nat} {l : List Nat} (h : rt_ok n (v :: l)) : rt_ok n l :=
  ⟨(List.nodup_cons.mp h.1).2, fun x hx => h.2 x (List.mem_cons_of_mem _ hx)⟩
theorem rt_len {n : Nat} {l : List Nat} (h : rt_ok n l) : l.length ≤ n := by
  have h2 := List.Nodup.length_le_of_subset (l₂ := List.range n) h.1 (fun x hx => List.mem_range.mpr (h.2 x hx))
  rw [List.length_range] at h2
  exact h2
theorem rt_enc_0 {l : List Nat} : rt_enc l = 0 ↔ l = [] := by
  cases l with
  | nil => simp [rt_enc]
  | cons v l =>
    constructor
    · intro h
      have h2 : rt_enc l * 16 + (v + 1) = 0 := h
      omega
    · intro h
      cases h
theorem rt_enc_drop : ∀ (i : Nat) (l : List Nat), (∀ x, x ∈ l → x < 15) → rt_enc l / 16 ^ i = rt_enc (l.drop i) := by
  intro i
  induction i with
  | zero => intro l _; simp
  | succ i ih =>
    intro l hl
    cases l with
    | nil => simp [rt_enc]
    | cons v l =>
      have hv : v < 15 := hl v List.mem_cons_self
      have e : rt_enc (v :: l) / 16 = rt_enc l := by
        show (rt_enc l * 16 + (v + 1)) / 16 = rt_enc l
        omega
      rw [Nat.pow_succ', ← Nat.div_div_eq_div_mul, e, List.drop_succ_cons]
      exact ih l (fun x hx => hl x (List.mem_cons_of_mem _ hx))
theorem rt_enc_mod {v : Nat} {l : List Nat} (hv : v < 15) : rt_enc (v :: l) % 16 = v + 1 := by
  show (rt_enc l * 16 + (v + 1)) % 16 = v + 1
  omega
theorem rt_enc_lt : ∀ (l : List Nat), (∀ x, x ∈ l → x < 15) → rt_enc l < 16 ^ l.length := by
  intro l
  induction l with
  | nil => intro _; simp [rt_enc]
  | cons v l ih =>
    intro hl
    have h1 := ih (fun x hx => hl x (List.mem_cons_of_mem _ hx))
    have h2 := hl v List.mem_cons_self
    show rt_enc l * 16 + (v + 1) < 16 ^ (l.length + 1)
    rw [Nat.pow_succ]
    omega
theorem rt_enc_inj : ∀ (l m : List Nat), (∀ x, x ∈ l → x < 15) → (∀ x, x ∈ m → x < 15) → rt_enc l = rt_enc m → l = m := by
  intro l
  induction l with
  | nil =>
    intro m _ _ h
    exact (rt_enc_0.mp h.symm).symm
  | cons v l ih =>
    intro m hl hm h
    cases m with
    | nil => exact absurd (rt_enc_0.mp h) (fun z => nomatch z)
    | cons w m =>
      have h1 := hl v List.mem_cons_self
      have h2 := hm w List.mem_cons_self
      have h3 : rt_enc l * 16 + (v + 1) = rt_enc m * 16 + (w + 1) := h
      have e1 : v = w := by omega
      have e2 : rt_enc l = rt_enc m := by omega
      rw [e1, ih m (fun x hx => hl x (List.mem_cons_of_mem _ hx)) (fun x hx => hm x (List.mem_cons_of_mem _ hx)) e2]
theorem rt_d15 {n : Nat} {l : List Nat} (hn : n ≤ 8) (h : rt_ok n l) : ∀ x, x ∈ l → x < 15 := fun x hx => by
  have := h.2 x hx
  omega
theorem rt_enc_ok {n : Nat} {l : List Nat} (hn : n ≤ 8) (h : rt_ok n l) : rt_enc l < 4294967296 := by
  have h1 := rt_enc_lt l (rt_d15 hn h)
  have h2 := rt_len h
  have h3 : (16 : Nat) ^ l.length ≤ 16 ^ 8 := Nat.pow_le_pow_right (by decide) (by omega)
  have h4 : (16 : Nat) ^ 8 = 4294967296 := by decide
  omega
theorem rt_enc_eq {n : Nat} {l m : List Nat} (hn : n ≤ 8) (h : rt_ok n l) (h' : rt_ok n m) : rt_enc l = rt_enc m ↔ l = m :=
  ⟨rt_enc_inj l m (rt_d15 hn h) (rt_d15 hn h'), fun e => by rw [e]⟩
/-- digit i of the code is v + 1 just if v stands at place i -/
theorem rt_enc_dig {n : Nat} {l : List Nat} (hn : n ≤ 8) (h : rt_ok n l) (i v : Nat) : rt_enc l / 16 ^ i % 16 = v + 1 ↔ l[i]? = some v := by
  rw [rt_enc_drop i l (rt_d15 hn h)]
  have e : l[i]? = (l.drop i)[0]? := by rw [List.getElem?_drop]; rfl
  rw [e]
  have hd : ∀ x, x ∈ l.drop i → x < 15 := fun x hx => rt_d15 hn h x (List.mem_of_mem_drop hx)
  cases hq : l.drop i with
  | nil => simp [rt_enc]
  | cons w m =>
    have hw : w < 15 := hd w (by rw [hq]; exact List.mem_cons_self)
    rw [rt_enc_mod hw]
    simp
theorem rt_mem_dig {n : Nat} {l : List Nat} (hn : n ≤ 8) (h : rt_ok n l) (v : Nat) : v ∈ l ↔ ∃ i, i < 8 ∧ rt_enc l / 16 ^ i % 16 = v + 1 := by
  constructor
  · intro hv
    obtain ⟨i, hi, e⟩ := List.getElem_of_mem hv
    have h2 := rt_len h
    exact ⟨i, by omega, (rt_enc_dig hn h i v).mpr (by rw [List.getElem?_eq_getElem hi, e])⟩
  · rintro ⟨i, _, e⟩
    exact List.mem_of_getElem? ((rt_enc_dig hn h i v).mp e)
theorem rt_len_dig {n : Nat} {l : List Nat} (hn : n ≤ 8) (h : rt_ok n l) (i : Nat) : rt_enc l / 16 ^ i = 0 ↔ l.length ≤ i := by
  rw [rt_enc_drop i l (rt_d15 hn h), rt_enc_0, List.drop_eq_nil_iff]
