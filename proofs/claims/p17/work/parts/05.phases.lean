/-! the phases in rounds, in place: they end in what the phases ask -/
abbrev rt_ET : Type := (Nat → List Nat) × (Nat → Nat)
def rt_u1 {α : Type} (g : Nat → α) (v : Nat) (x : α) : Nat → α := fun w => if w = v then x else g w
theorem rt_u1_s {α : Type} {g : Nat → α} {v : Nat} {x : α} : rt_u1 g v x v = x := if_pos rfl
theorem rt_u1_n {α : Type} {g : Nat → α} {v w : Nat} {x : α} (h : w ≠ v) : rt_u1 g v x w = g w := if_neg h
def rt_tk (n : Nat) (rl : Nat → Nat → Nat) (up : Nat → Nat → Bool) (q v : Nat) (E : rt_ET) : rt_ET :=
  match rt_bs n rl up E.1 E.2 q v with
  | none => E
  | some b => (rt_u1 E.1 v (v :: E.1 b), rt_u1 E.2 v q)
def rt_ps (n : Nat) (rl : Nat → Nat → Nat) (up : Nat → Nat → Bool) (q : Nat) (E : rt_ET) : Nat → rt_ET
  | 0 => E
  | k + 1 => if (rt_ps n rl up q E k).2 k = 0 ∨ (rt_ps n rl up q E k).2 k = q then rt_tk n rl up q k (rt_ps n rl up q E k) else rt_ps n rl up q E k
def rt_rs (n : Nat) (rl : Nat → Nat → Nat) (up : Nat → Nat → Bool) (q : Nat) (E : rt_ET) : Nat → rt_ET
  | 0 => E
  | k + 1 => rt_ps n rl up q (rt_rs n rl up q E k) n
def rt_E0 (og : Nat → Bool) : rt_ET := (fun v => if og v = true then [v] else [], fun v => if og v = true then 1 else 0)
def rt_fd (n : Nat) (rl : Nat → Nat → Nat) (up : Nat → Nat → Bool) (og : Nat → Bool) (m : Nat) : rt_ET :=
  rt_rs n rl up 4 (rt_rs n rl up 3 (rt_rs n rl up 2 (rt_E0 og) n) m) n
section
variable {n : Nat} {rl : Nat → Nat → Nat} {up : Nat → Nat → Bool}
def rt_M (n : Nat) (rl : Nat → Nat → Nat) (up : Nat → Nat → Bool) (q : Nat) (B E : rt_ET) : Prop :=
  (∀ v, v < n → B.2 v ≠ 0 → E.1 v = B.1 v ∧ E.2 v = B.2 v) ∧
  (∀ v, v < n → B.2 v = 0 → (E.2 v = 0 ∧ E.1 v = []) ∨ (E.2 v = q ∧ ∃ u, u < n ∧ rt_of rl up E.2 q v u))
def rt_Eq (n : Nat) (rl : Nat → Nat → Nat) (up : Nat → Nat → Bool) (q : Nat) (E : rt_ET) (v : Nat) : Prop :=
  (rt_bs n rl up E.1 E.2 q v = none ∧ E.2 v = 0 ∧ E.1 v = []) ∨ ∃ b, rt_bs n rl up E.1 E.2 q v = some b ∧ E.2 v = q ∧ E.1 v = v :: E.1 b
theorem rt_of_ne (hr : rt_rl n rl) {K : Nat → Nat} {q v u : Nat} (hq : 2 ≤ q) (h : rt_of rl up K q v u) : u ≠ v := by
  have h1 := h.2.1
  have := (rt_rl_op hr (a := v) (b := u) (by omega)).2.2.1
  exact fun z => this z.symm
theorem rt_tk_n {q v : Nat} {E : rt_ET} {w : Nat} (h : w ≠ v) : (rt_tk n rl up q v E).1 w = E.1 w ∧ (rt_tk n rl up q v E).2 w = E.2 w := by
  unfold rt_tk
  cases rt_bs n rl up E.1 E.2 q v with
  | none => exact ⟨rfl, rfl⟩
  | some b => exact ⟨rt_u1_n h, rt_u1_n h⟩
theorem rt_visit (hr : rt_rl n rl) {q : Nat} (hq : 2 ≤ q) {B E : rt_ET} (hM : rt_M n rl up q B E) {v : Nat} (hv : v < n) (hB : B.2 v = 0) :
    rt_M n rl up q B (rt_tk n rl up q v E) ∧ rt_Eq n rl up q (rt_tk n rl up q v E) v := by
  unfold rt_tk
  cases hb : rt_bs n rl up E.1 E.2 q v with
  | none =>
    refine ⟨hM, Or.inl ⟨hb, ?_⟩⟩
    rcases hM.2 v hv hB with z | ⟨_, u, hu, ho⟩
    · exact z
    · exact absurd ho (rt_bs_none hb u hu)
  | some b =>
    obtain ⟨hbn, hbo, _⟩ := rt_bs_some hb
    have hne := rt_of_ne hr hq hbo
    have hKv : E.2 v = 0 ∨ E.2 v = q := by
      rcases hM.2 v hv hB with z | z
      · exact Or.inl z.1
      · exact Or.inr z.1
    have hmo : ∀ x u, rt_of rl up E.2 q x u → rt_of rl up (rt_u1 E.2 v q) q x u := by
      intro x u ho
      by_cases e : u = v
      · subst e
        obtain ⟨o1, o2, o3, o4⟩ := ho
        refine ⟨o1, o2, ?_, ?_⟩
        · rw [rt_u1_s]; omega
        · rw [rt_u1_s]; omega
      · show up x u = true ∧ rl x u = q ∧ rt_u1 E.2 v q u ≠ 0 ∧ (q = 4 ∨ rt_u1 E.2 v q u = 1 ∨ rt_u1 E.2 v q u = 2)
        rw [rt_u1_n e]
        exact ho
    refine ⟨⟨fun x hx hB' => ?_, fun x hx hB' => ?_⟩, ?_⟩
    · have e : x ≠ v := fun z => by subst z; exact hB' hB
      show rt_u1 E.1 v (v :: E.1 b) x = B.1 x ∧ rt_u1 E.2 v q x = B.2 x
      rw [rt_u1_n e, rt_u1_n e]
      exact hM.1 x hx hB'
    · show (rt_u1 E.2 v q x = 0 ∧ rt_u1 E.1 v (v :: E.1 b) x = []) ∨ (rt_u1 E.2 v q x = q ∧ ∃ u, u < n ∧ rt_of rl up (rt_u1 E.2 v q) q x u)
      by_cases e : x = v
      · subst e
        rw [rt_u1_s]
        exact Or.inr ⟨rfl, b, hbn, hmo _ _ hbo⟩
      · rw [rt_u1_n e, rt_u1_n e]
        rcases hM.2 x hx hB' with z | ⟨z, u, hu, ho⟩
        · exact Or.inl z
        · exact Or.inr ⟨z, u, hu, hmo _ _ ho⟩
    · refine Or.inr ⟨b, Eq.trans ?_ hb, rt_u1_s, ?_⟩
      · show rt_bs n rl up (rt_u1 E.1 v (v :: E.1 b)) (rt_u1 E.2 v q) q v = rt_bs n rl up E.1 E.2 q v
        refine rt_bs_congr (fun u hu => ?_) (fun u hu ho => ?_)
        · by_cases e : u = v
          · subst e
            exact ⟨fun ho => absurd rfl (rt_of_ne hr hq ho), fun ho => absurd rfl (rt_of_ne hr hq ho)⟩
          · show (up v u = true ∧ rl v u = q ∧ rt_u1 E.2 v q u ≠ 0 ∧ (q = 4 ∨ rt_u1 E.2 v q u = 1 ∨ rt_u1 E.2 v q u = 2)) ↔ _
            rw [rt_u1_n e]
        · exact rt_u1_n (rt_of_ne hr hq ho)
      · show rt_u1 E.1 v (v :: E.1 b) v = v :: rt_u1 E.1 v (v :: E.1 b) b
        rw [rt_u1_s, rt_u1_n hne]
theorem rt_Eq_move {q : Nat} {B E E' : rt_ET} {ρ : Nat → Nat} (hρ : ∀ v u, rl v u = q → q ≠ 3 → ρ u < ρ v)
    (hM : rt_M n rl up q B E) (hM' : rt_M n rl up q B E') {v : Nat} (hv : E'.1 v = E.1 v ∧ E'.2 v = E.2 v)
    (hu : ∀ u, u < n → ρ u < ρ v → E'.1 u = E.1 u ∧ E'.2 u = E.2 u) (h : rt_Eq n rl up q E v) : rt_Eq n rl up q E' v := by
  have hag : ∀ u, u < n → rl v u = q → (E'.1 u = E.1 u ∧ E'.2 u = E.2 u) ∨ (¬ rt_of rl up E.2 q v u ∧ ¬ rt_of rl up E'.2 q v u) := by
    intro u hun hrl
    by_cases hB : B.2 u = 0
    · by_cases e3 : q = 3
      · right
        constructor
        · rintro ⟨_, _, h0, h1⟩
          rcases hM.2 u hun hB with z | z
          · exact h0 z.1
          · omega
        · rintro ⟨_, _, h0, h1⟩
          rcases hM'.2 u hun hB with z | z
          · exact h0 z.1
          · omega
      · exact Or.inl (hu u hun (hρ v u hrl e3))
    · left
      have h1 := hM.1 u hun hB
      have h2 := hM'.1 u hun hB
      rw [h1.1, h1.2]
      exact h2
  have hbs : rt_bs n rl up E.1 E.2 q v = rt_bs n rl up E'.1 E'.2 q v := by
    refine rt_bs_congr (fun u hun => ?_) (fun u hun ho => ?_)
    · by_cases hrl : rl v u = q
      · rcases hag u hun hrl with z | z
        · show _ ↔ (up v u = true ∧ rl v u = q ∧ E'.2 u ≠ 0 ∧ (q = 4 ∨ E'.2 u = 1 ∨ E'.2 u = 2))
          rw [z.2]
        · exact ⟨fun y => absurd y z.1, fun y => absurd y z.2⟩
      · exact ⟨fun y => absurd y.2.1 hrl, fun y => absurd y.2.1 hrl⟩
    · rcases hag u hun ho.2.1 with z | z
      · exact z.1.symm
      · exact absurd ho z.1
  rcases h with ⟨h1, h2, h3⟩ | ⟨b, h1, h2, h3⟩
  · exact Or.inl ⟨hbs ▸ h1, hv.2.trans h2, hv.1.trans h3⟩
  · obtain ⟨hbn, hbo, _⟩ := rt_bs_some h1
    refine Or.inr ⟨b, hbs ▸ h1, hv.2.trans h2, hv.1.trans (h3.trans ?_)⟩
    rcases hag b hbn hbo.2.1 with z | z
    · rw [z.1]
    · exact absurd hbo z.1
theorem rt_Eq_tk {q v : Nat} {E : rt_ET} (h : rt_Eq n rl up q E v) : (rt_tk n rl up q v E).1 v = E.1 v ∧ (rt_tk n rl up q v E).2 v = E.2 v := by
  unfold rt_tk
  rcases h with ⟨h1, _, _⟩ | ⟨b, h1, h2, h3⟩
  · rw [h1]; exact ⟨rfl, rfl⟩
  · rw [h1]
    exact ⟨rt_u1_s.trans h3.symm, rt_u1_s.trans h2.symm⟩
theorem rt_pass (hr : rt_rl n rl) {q : Nat} (hq : 2 ≤ q) {B E : rt_ET} {ρ : Nat → Nat} (hρ : ∀ v u, rl v u = q → q ≠ 3 → ρ u < ρ v)
    (hBq : ∀ v, v < n → B.2 v ≠ q) (hM : rt_M n rl up q B E) {k : Nat} (hk : ∀ v, v < n → B.2 v = 0 → ρ v ≤ k → rt_Eq n rl up q E v) : ∀ i, i ≤ n →
    rt_M n rl up q B (rt_ps n rl up q E i) ∧ (∀ v, v < n → B.2 v = 0 → ρ v ≤ k → rt_Eq n rl up q (rt_ps n rl up q E i) v) ∧
    ∀ v, v < i → B.2 v = 0 → ρ v ≤ k + 1 → rt_Eq n rl up q (rt_ps n rl up q E i) v := by
  intro i
  induction i with
  | zero => intro _; exact ⟨hM, hk, fun v h => absurd h (Nat.not_lt_zero v)⟩
  | succ i ih =>
    intro hi
    obtain ⟨h1, h2, h3⟩ := ih (by omega)
    show rt_M n rl up q B (if (rt_ps n rl up q E i).2 i = 0 ∨ (rt_ps n rl up q E i).2 i = q then rt_tk n rl up q i (rt_ps n rl up q E i) else rt_ps n rl up q E i) ∧ (∀ v, v < n → B.2 v = 0 → ρ v ≤ k → rt_Eq n rl up q (if (rt_ps n rl up q E i).2 i = 0 ∨ (rt_ps n rl up q E i).2 i = q then rt_tk n rl up q i (rt_ps n rl up q E i) else rt_ps n rl up q E i) v) ∧ ∀ v, v < i + 1 → B.2 v = 0 → ρ v ≤ k + 1 → rt_Eq n rl up q (if (rt_ps n rl up q E i).2 i = 0 ∨ (rt_ps n rl up q E i).2 i = q then rt_tk n rl up q i (rt_ps n rl up q E i) else rt_ps n rl up q E i) v
    generalize rt_ps n rl up q E i = W at h1 h2 h3
    by_cases hB : B.2 i = 0
    · have hcond : W.2 i = 0 ∨ W.2 i = q := by
        rcases h1.2 i (by omega) hB with z | z
        · exact Or.inl z.1
        · exact Or.inr z.1
      rw [if_pos hcond]
      have hV := rt_visit hr hq h1 (show i < n by omega) hB
      have mv : ∀ v, v ≠ i → ρ v ≤ k + 1 → rt_Eq n rl up q W v → rt_Eq n rl up q (rt_tk n rl up q i W) v := by
        intro v hne hle he
        refine rt_Eq_move hρ h1 hV.1 (rt_tk_n hne) (fun u hun hlt => ?_) he
        by_cases e : u = i
        · subst e
          exact rt_Eq_tk (h2 u hun hB (by omega))
        · exact rt_tk_n e
      refine ⟨hV.1, fun v hv hBv hle => ?_, fun v hv hBv hle => ?_⟩
      · by_cases e : v = i
        · subst e; exact hV.2
        · exact mv v e (by omega) (h2 v hv hBv hle)
      · by_cases e : v = i
        · subst e; exact hV.2
        · exact mv v e hle (h3 v (by omega) hBv hle)
    · have hW := h1.1 i (by omega) hB
      have hcond : ¬ (W.2 i = 0 ∨ W.2 i = q) := by
        rw [hW.2]
        have := hBq i (by omega)
        omega
      rw [if_neg hcond]
      refine ⟨h1, h2, fun v hv hBv hle => ?_⟩
      by_cases e : v = i
      · subst e; exact absurd hBv hB
      · exact h3 v (by omega) hBv hle
theorem rt_M_0 {q : Nat} {B : rt_ET} (h : ∀ v, v < n → B.2 v = 0 → B.1 v = []) : rt_M n rl up q B B :=
  ⟨fun _ _ _ => ⟨rfl, rfl⟩, fun v hv h0 => Or.inl ⟨h0, h v hv h0⟩⟩
theorem rt_rounds (hr : rt_rl n rl) {q : Nat} (hq : 2 ≤ q) {B : rt_ET} {ρ : Nat → Nat} (hρ : ∀ v u, rl v u = q → q ≠ 3 → ρ u < ρ v)
    (hBq : ∀ v, v < n → B.2 v ≠ q) (h0 : ∀ v, v < n → B.2 v = 0 → B.1 v = []) (hp : ∀ v, v < n → 1 ≤ ρ v) : ∀ k,
    rt_M n rl up q B (rt_rs n rl up q B k) ∧ ∀ v, v < n → B.2 v = 0 → ρ v ≤ k → rt_Eq n rl up q (rt_rs n rl up q B k) v := by
  intro k
  induction k with
  | zero => exact ⟨rt_M_0 h0, fun v hv _ hz => by have := hp v hv; omega⟩
  | succ k ih =>
    have h := rt_pass hr hq hρ hBq ih.1 ih.2 n (Nat.le_refl n)
    exact ⟨h.1, h.2.2⟩
/-- the whole: it ends in what the phases ask -/
theorem rt_fd_F (hc : rt_cf n rl up) (og : Nat → Bool) {m : Nat} (hm : 1 ≤ m) : rt_F n rl up og (rt_fd n rl up og m).1 (rt_fd n rl up og m).2 := by
  have hc' := hc
  obtain ⟨_, h8, hr, hup, ha⟩ := hc'
  have hE0 : ∀ v, (og v = true ∧ (rt_E0 og).1 v = [v] ∧ (rt_E0 og).2 v = 1) ∨ (¬ og v = true ∧ (rt_E0 og).1 v = [] ∧ (rt_E0 og).2 v = 0) := by
    intro v
    by_cases h : og v = true
    · exact Or.inl ⟨h, if_pos h, if_pos h⟩
    · exact Or.inr ⟨h, if_neg h, if_neg h⟩
  have hlt : ∀ v u, rl v u = 2 → rt_ht n rl u < rt_ht n rl v := fun v u h => rt_ht_lt ha h (rt_rl_op hr (a := v) (b := u) (by omega)).1
  have hE01 : ∀ v, v < n → (rt_E0 og).2 v ≠ 2 := by
    intro v _
    rcases hE0 v with z | z <;> omega
  have hE00 : ∀ v, v < n → (rt_E0 og).2 v = 0 → (rt_E0 og).1 v = [] := by
    intro v _ h
    rcases hE0 v with z | z
    · omega
    · exact z.2.1
  obtain ⟨hM1, hQ1⟩ := rt_rounds (up := up) hr (q := 2) (by decide) (B := rt_E0 og) (ρ := rt_ht n rl) (fun v u h _ => hlt v u h)
    hE01 hE00 (fun v hv => rt_ht_pos hv) n
  show rt_F n rl up og (rt_rs n rl up 4 (rt_rs n rl up 3 (rt_rs n rl up 2 (rt_E0 og) n) m) n).1 (rt_rs n rl up 4 (rt_rs n rl up 3 (rt_rs n rl up 2 (rt_E0 og) n) m) n).2
  generalize rt_rs n rl up 2 (rt_E0 og) n = A at hM1 hQ1
  have hA : ∀ v, v < n → (og v = true ∧ A.1 v = [v] ∧ A.2 v = 1) ∨ (¬ og v = true ∧ rt_Eq n rl up 2 A v) := by
    intro v hv
    rcases hE0 v with ⟨o, e1, e2⟩ | ⟨o, e1, e2⟩
    · have h := hM1.1 v hv (by omega)
      exact Or.inl ⟨o, h.1.trans e1, h.2.trans e2⟩
    · exact Or.inr ⟨o, hQ1 v hv e2 (rt_ht_le n rl v)⟩
  have hA0 : ∀ v, v < n → A.2 v = 0 → A.1 v = [] := by
    intro v hv h0
    rcases hA v hv with z | ⟨_, ⟨_, _, h⟩ | ⟨b, _, h, _⟩⟩
    · omega
    · exact h
    · omega
  have hA12 : ∀ v, v < n → A.2 v = 0 ∨ A.2 v = 1 ∨ A.2 v = 2 := by
    intro v hv
    rcases hA v hv with z | ⟨_, ⟨_, h, _⟩ | ⟨b, _, h, _⟩⟩ <;> omega
  obtain ⟨hM2, hQ2⟩ := rt_rounds (up := up) hr (q := 3) (by decide) (B := A) (ρ := fun _ => 1) (fun v u _ h => absurd rfl h)
    (fun v hv => by have := hA12 v hv; omega) hA0 (fun _ _ => Nat.le_refl 1) m
  generalize rt_rs n rl up 3 A m = C at hM2 hQ2
  have hC3 : ∀ v, v < n → A.2 v = 0 → rt_Eq n rl up 3 C v := fun v hv h0 => hQ2 v hv h0 hm
  have hC0 : ∀ v, v < n → C.2 v = 0 → C.1 v = [] := by
    intro v hv h0
    by_cases hz : A.2 v = 0
    · rcases hC3 v hv hz with ⟨_, _, h⟩ | ⟨b, _, h, _⟩
      · exact h
      · omega
    · have := (hM2.1 v hv hz).2
      omega
  have hC03 : ∀ v, v < n → A.2 v = 0 → C.2 v = 0 ∨ C.2 v = 3 := by
    intro v hv hz
    rcases hC3 v hv hz with ⟨_, h, _⟩ | ⟨b, _, h, _⟩
    · exact Or.inl h
    · exact Or.inr h
  have hCle : ∀ v, v < n → C.2 v ≤ 3 := by
    intro v hv
    by_cases hz : A.2 v = 0
    · have := hC03 v hv hz; omega
    · have h1 := (hM2.1 v hv hz).2
      have h2 := hA12 v hv
      omega
  obtain ⟨hM3, hQ3⟩ := rt_rounds (up := up) hr (q := 4) (by decide) (B := C) (ρ := fun v => n + 1 - rt_ht n rl v)
    (fun v u h _ => by
      have h1 := rt_rl_op hr (a := v) (b := u) (by omega)
      have h2 := hlt u v (by omega)
      have h3 := rt_ht_le n rl u
      show n + 1 - rt_ht n rl u < n + 1 - rt_ht n rl v
      omega)
    (fun v hv => by have := hCle v hv; omega) hC0
    (fun v _ => by
      have h3 := rt_ht_le n rl v
      show 1 ≤ n + 1 - rt_ht n rl v
      omega) n
  generalize rt_rs n rl up 4 C n = G at hM3 hQ3
  have hG4 : ∀ v, v < n → C.2 v = 0 → rt_Eq n rl up 4 G v := by
    intro v hv h0
    refine hQ3 v hv h0 ?_
    have h3 := rt_ht_pos (n := n) (rl := rl) hv
    show n + 1 - rt_ht n rl v ≤ n
    omega
  have hG04 : ∀ v, v < n → C.2 v = 0 → G.2 v = 0 ∨ G.2 v = 4 := by
    intro v hv hz
    rcases hG4 v hv hz with ⟨_, h, _⟩ | ⟨b, _, h, _⟩
    · exact Or.inl h
    · exact Or.inr h
  have hAC : ∀ u, u < n → A.2 u ≠ 0 → G.1 u = A.1 u ∧ G.2 u = A.2 u := by
    intro u hu h0
    have h1 := hM2.1 u hu h0
    have h2 := hM3.1 u hu (by rw [h1.2]; exact h0)
    exact ⟨h2.1.trans h1.1, h2.2.trans h1.2⟩
  have hoA : ∀ q v u, q ≠ 4 → u < n → (rt_of rl up A.2 q v u ↔ rt_of rl up G.2 q v u) := by
    intro q v u hq hu
    by_cases h0 : A.2 u = 0
    · constructor
      · intro h; exact absurd h0 h.2.2.1
      · intro h
        obtain ⟨_, _, g0, g1⟩ := h
        have h1 := hC03 u hu h0
        by_cases hz : C.2 u = 0
        · have := hG04 u hu hz; omega
        · have := (hM3.1 u hu hz).2; omega
    · have := (hAC u hu h0).2
      show (up v u = true ∧ rl v u = q ∧ A.2 u ≠ 0 ∧ (q = 4 ∨ A.2 u = 1 ∨ A.2 u = 2)) ↔ (up v u = true ∧ rl v u = q ∧ G.2 u ≠ 0 ∧ (q = 4 ∨ G.2 u = 1 ∨ G.2 u = 2))
      rw [this]
  have hoC : ∀ v u, u < n → (rt_of rl up C.2 3 v u ↔ rt_of rl up G.2 3 v u) := by
    intro v u hu
    by_cases h0 : C.2 u = 0
    · constructor
      · intro h; exact absurd h0 h.2.2.1
      · intro h
        obtain ⟨_, _, g0, g1⟩ := h
        have := hG04 u hu h0
        omega
    · have := (hM3.1 u hu h0).2
      show (up v u = true ∧ rl v u = 3 ∧ C.2 u ≠ 0 ∧ ((3 : Nat) = 4 ∨ C.2 u = 1 ∨ C.2 u = 2)) ↔ (up v u = true ∧ rl v u = 3 ∧ G.2 u ≠ 0 ∧ ((3 : Nat) = 4 ∨ G.2 u = 1 ∨ G.2 u = 2))
      rw [this]
  have hb2 : ∀ v, rt_bs n rl up A.1 A.2 2 v = rt_bs n rl up G.1 G.2 2 v := fun v =>
    rt_bs_congr (fun u hu => hoA 2 v u (by decide) hu) (fun u hu ho => (hAC u hu ho.2.2.1).1.symm)
  have hb3 : ∀ v, rt_bs n rl up C.1 C.2 3 v = rt_bs n rl up G.1 G.2 3 v := fun v =>
    rt_bs_congr (fun u hu => hoC v u hu) (fun u hu ho => (hM3.1 u hu ho.2.2.1).1.symm)
  intro v hv
  rcases hA v hv with ⟨o, e1, e2⟩ | ⟨o, ⟨e0, e1, e2⟩ | ⟨b, e0, e1, e2⟩⟩
  · have h := hAC v hv (by omega)
    exact Or.inl ⟨o, h.2.trans e2, h.1.trans e1⟩
  · refine Or.inr ⟨o, ?_⟩
    rw [hb2] at e0
    rcases hC3 v hv e1 with ⟨f0, f1, f2⟩ | ⟨b, f0, f1, f2⟩
    · rw [hb3] at f0
      rcases hG4 v hv f1 with ⟨g0, g1, g2⟩ | ⟨b, g0, g1, g2⟩
      · refine Or.inr ⟨g1, g2, fun j h2 h4 => ?_⟩
        have : j = 2 ∨ j = 3 ∨ j = 4 := by omega
        rcases this with rfl | rfl | rfl
        · exact e0
        · exact f0
        · exact g0
      · refine Or.inl ⟨4, b, by decide, by decide, g0, g1, g2, fun j h2 h4 => ?_⟩
        have : j = 2 ∨ j = 3 := by omega
        rcases this with rfl | rfl
        · exact e0
        · exact f0
    · obtain ⟨hbn, hbo, _⟩ := rt_bs_some f0
      rw [hb3] at f0
      have h1 := hM3.1 v hv (by omega)
      have h2 := hM3.1 b hbn hbo.2.2.1
      refine Or.inl ⟨3, b, by decide, by decide, f0, h1.2.trans f1, ?_, fun j h2 h4 => ?_⟩
      · rw [h1.1, f2, h2.1]
      · have : j = 2 := by omega
        rw [this]
        exact e0
  · obtain ⟨hbn, hbo, _⟩ := rt_bs_some e0
    rw [hb2] at e0
    have h1 := hAC v hv (by omega)
    have h2 := hAC b hbn hbo.2.2.1
    refine Or.inr ⟨o, Or.inl ⟨2, b, by decide, by decide, e0, h1.2.trans e1, ?_, fun j h2 h4 => by omega⟩⟩
    rw [h1.1, e2, h2.1]
end
