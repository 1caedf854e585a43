/-! paths stay paths while the phases run -/
def rt_W (n : Nat) (rl : Nat → Nat → Nat) (E : rt_ET) : Prop := ∀ v, v < n →
  rt_ok n (E.1 v) ∧ (E.2 v = 0 ↔ E.1 v = []) ∧ E.2 v ≤ 4 ∧
  ((E.2 v = 1 ∨ E.2 v = 2) → ∀ x, x ∈ E.1 v → (E.2 x = 1 ∨ E.2 x = 2) ∧ rt_R rl v x) ∧
  (E.2 v = 3 → ∀ x, x ∈ E.1 v → x = v ∨ (E.2 x = 1 ∨ E.2 x = 2)) ∧
  (E.2 v = 4 → ∀ x, x ∈ E.1 v → rt_R rl x v ∨ (E.2 x = 1 ∨ E.2 x = 2 ∨ E.2 x = 3))
section
variable {n : Nat} {rl : Nat → Nat → Nat} {up : Nat → Nat → Bool}
theorem rt_W_0 (og : Nat → Bool) : rt_W n rl (rt_E0 og) := by
  intro v hv
  by_cases h : og v = true
  · have e1 : (rt_E0 og).1 v = [v] := if_pos h
    have e2 : (rt_E0 og).2 v = 1 := if_pos h
    rw [e1, e2]
    refine ⟨rt_ok_cons (rt_ok_nil n) hv List.not_mem_nil, ⟨fun z => by omega, fun z => (nomatch z)⟩, by decide, fun _ x hx => ?_, fun z => by omega, fun z => by omega⟩
    rw [List.mem_singleton.mp hx, e2]
    exact ⟨Or.inl rfl, rt_R_refl rl v⟩
  · have e1 : (rt_E0 og).1 v = [] := if_neg h
    have e2 : (rt_E0 og).2 v = 0 := if_neg h
    rw [e1, e2]
    exact ⟨rt_ok_nil n, ⟨fun _ => rfl, fun _ => rfl⟩, by decide, fun z => by omega, fun z => by omega, fun z => by omega⟩
theorem rt_W_tk (hc : rt_cf n rl up) {q v : Nat} (hq2 : 2 ≤ q) (hq4 : q ≤ 4) {E : rt_ET} (hW : rt_W n rl E) (hv : v < n) (hk : E.2 v = 0 ∨ E.2 v = q) : rt_W n rl (rt_tk n rl up q v E) := by
  have hc' := hc
  obtain ⟨_, h8, hr, hup, ha⟩ := hc'
  unfold rt_tk
  cases hb : rt_bs n rl up E.1 E.2 q v with
  | none => exact hW
  | some b =>
    obtain ⟨hbn, ⟨hbu, hbr, hb0, hbk⟩, _⟩ := rt_bs_some hb
    have hop := rt_rl_op hr (a := v) (b := b) (by omega)
    have m2 : ∀ x, (E.2 x = 1 ∨ E.2 x = 2) → (rt_u1 E.2 v q x = 1 ∨ rt_u1 E.2 v q x = 2) := by
      intro x hx
      by_cases e : x = v
      · subst e; rw [rt_u1_s]; omega
      · rw [rt_u1_n e]; exact hx
    have m3 : ∀ x, (E.2 x = 1 ∨ E.2 x = 2 ∨ E.2 x = 3) → (rt_u1 E.2 v q x = 1 ∨ rt_u1 E.2 v q x = 2 ∨ rt_u1 E.2 v q x = 3) := by
      intro x hx
      by_cases e : x = v
      · subst e; rw [rt_u1_s]; omega
      · rw [rt_u1_n e]; exact hx
    obtain ⟨b1, b2, b3, b4, b5, b6⟩ := hW b hbn
    have hnm : v ∉ E.1 b := by
      intro z
      by_cases k12 : E.2 b = 1 ∨ E.2 b = 2
      · have h := b4 k12 v z
        by_cases e2 : q = 2
        · exact ha v b (by omega) h.2
        · omega
      · have e4 : q = 4 := by omega
        have hbv : rl b v = 2 := by omega
        by_cases k3 : E.2 b = 3
        · rcases b5 k3 v z with h | h
          · exact hop.2.2.1 h
          · omega
        · rcases b6 (by omega) v z with h | h
          · exact ha b v hbv h
          · omega
    intro w hw
    show rt_ok n (rt_u1 E.1 v (v :: E.1 b) w) ∧ (rt_u1 E.2 v q w = 0 ↔ rt_u1 E.1 v (v :: E.1 b) w = []) ∧ rt_u1 E.2 v q w ≤ 4 ∧
      ((rt_u1 E.2 v q w = 1 ∨ rt_u1 E.2 v q w = 2) → ∀ x, x ∈ rt_u1 E.1 v (v :: E.1 b) w → (rt_u1 E.2 v q x = 1 ∨ rt_u1 E.2 v q x = 2) ∧ rt_R rl w x) ∧
      (rt_u1 E.2 v q w = 3 → ∀ x, x ∈ rt_u1 E.1 v (v :: E.1 b) w → x = w ∨ (rt_u1 E.2 v q x = 1 ∨ rt_u1 E.2 v q x = 2)) ∧
      (rt_u1 E.2 v q w = 4 → ∀ x, x ∈ rt_u1 E.1 v (v :: E.1 b) w → rt_R rl x w ∨ (rt_u1 E.2 v q x = 1 ∨ rt_u1 E.2 v q x = 2 ∨ rt_u1 E.2 v q x = 3))
    by_cases e : w = v
    · subst e
      rw [rt_u1_s, show rt_u1 E.2 w q w = q from rt_u1_s]
      refine ⟨rt_ok_cons b1 hw hnm, ⟨fun z => by omega, fun z => (nomatch z)⟩, hq4, fun z x hx => ?_, fun z x hx => ?_, fun z x hx => ?_⟩
      · rcases List.mem_cons.mp hx with y | y
        · rw [y, show rt_u1 E.2 w q w = q from rt_u1_s]
          exact ⟨z, rt_R_refl rl w⟩
        · have h := b4 (by omega) x y
          exact ⟨m2 x h.1, rt_R_step (by omega) h.2⟩
      · rcases List.mem_cons.mp hx with y | y
        · exact Or.inl y
        · exact Or.inr (m2 x (b4 (by omega) x y).1)
      · rcases List.mem_cons.mp hx with y | y
        · rw [y]; exact Or.inl (rt_R_refl rl w)
        · by_cases k12 : E.2 b = 1 ∨ E.2 b = 2
          · have h := (b4 k12 x y).1
            exact Or.inr (m3 x (by omega))
          · by_cases k3 : E.2 b = 3
            · rcases b5 k3 x y with h | h
              · rw [h]; exact Or.inl (rt_R_step (by omega) (rt_R_refl rl w))
              · exact Or.inr (m3 x (by omega))
            · rcases b6 (by omega) x y with h | h
              · exact Or.inl (rt_R_snoc h (by omega))
              · exact Or.inr (m3 x h)
    · rw [rt_u1_n e, show rt_u1 E.2 v q w = E.2 w from rt_u1_n e]
      obtain ⟨c1, c2, c3, c4, c5, c6⟩ := hW w hw
      refine ⟨c1, c2, c3, fun z x hx => ⟨m2 x (c4 z x hx).1, (c4 z x hx).2⟩, fun z x hx => ?_, fun z x hx => ?_⟩
      · rcases c5 z x hx with h | h
        · exact Or.inl h
        · exact Or.inr (m2 x h)
      · rcases c6 z x hx with h | h
        · exact Or.inl h
        · exact Or.inr (m3 x h)
theorem rt_W_ps (hc : rt_cf n rl up) {q : Nat} (hq2 : 2 ≤ q) (hq4 : q ≤ 4) {E : rt_ET} (hW : rt_W n rl E) : ∀ i, i ≤ n → rt_W n rl (rt_ps n rl up q E i) := by
  intro i
  induction i with
  | zero => intro _; exact hW
  | succ i ih =>
    intro hi
    have h := ih (by omega)
    rw [rt_ps]
    by_cases z : (rt_ps n rl up q E i).2 i = 0 ∨ (rt_ps n rl up q E i).2 i = q
    · rw [if_pos z]; exact rt_W_tk hc hq2 hq4 h (by omega) z
    · rw [if_neg z]; exact h
theorem rt_W_rs (hc : rt_cf n rl up) {q : Nat} (hq2 : 2 ≤ q) (hq4 : q ≤ 4) {E : rt_ET} (hW : rt_W n rl E) : ∀ k, rt_W n rl (rt_rs n rl up q E k) := by
  intro k
  induction k with
  | zero => exact hW
  | succ k ih => exact rt_W_ps hc hq2 hq4 ih n (Nat.le_refl n)
end
/-! messages in flight, all together -/
def rt_tot (Q : rt_QT) : Nat → Nat
  | 0 => 0
  | k + 1 => rt_tot Q k + (Q (k / 8) (k % 8)).length
theorem rt_tot_0 {Q : rt_QT} : ∀ k, rt_tot Q k = 0 → ∀ j, j < k → Q (j / 8) (j % 8) = [] := by
  intro k
  induction k with
  | zero => intro _ j hj; omega
  | succ k ih =>
    intro h j hj
    have h2 : rt_tot Q k + (Q (k / 8) (k % 8)).length = 0 := h
    by_cases e : j = k
    · subst e
      exact List.length_eq_zero_iff.mp (by omega)
    · exact ih (by omega) j (by omega)
theorem rt_tot_e {Q : rt_QT} (hq : ∀ a b, Q a b = []) : ∀ k, rt_tot Q k = 0 := by
  intro k
  induction k with
  | zero => rfl
  | succ k ih =>
    show rt_tot Q k + (Q (k / 8) (k % 8)).length = 0
    rw [ih, hq]
    rfl
theorem rt_tot_le {Q : rt_QT} {d : Nat} (h : ∀ a b, (Q a b).length ≤ d) : ∀ k, rt_tot Q k ≤ k * d := by
  intro k
  induction k with
  | zero => exact Nat.zero_le _
  | succ k ih =>
    have h2 := h (k / 8) (k % 8)
    show rt_tot Q k + (Q (k / 8) (k % 8)).length ≤ (k + 1) * d
    rw [Nat.succ_mul]
    omega
theorem rt_tot_all {n d : Nat} {rl : Nat → Nat → Nat} {up : Nat → Nat → Bool} {og : Nat → Bool} {H : rt_HT} {Q : rt_QT} (hI : rt_inv n d rl up og H Q) (h : rt_tot Q 64 = 0) (a b : Nat) : Q a b = [] := by
  by_cases hab : up a b = true
  · have h1 := rt_up_lt hI.1 hab
    have h2 := hI.1.2.1
    have h3 := rt_tot_0 64 h (a * 8 + b) (by omega)
    rw [show (a * 8 + b) / 8 = a by omega, show (a * 8 + b) % 8 = b by omega] at h3
    exact h3
  · by_cases e : Q a b = []
    · exact e
    · exact absurd ((hI.2.2.2.1 a b).1 e) hab
/-! how many selected paths differ -/
def rt_chg (p p' : Nat → List Nat) : Nat → Nat
  | 0 => 0
  | k + 1 => rt_chg p p' k + (if p' k = p k then 0 else 1)
/-! a packet's way -/
def rt_fw (c : Nat → Option Nat) : Nat → Nat → Nat → Int32
  | 0, _, _ => -6
  | m + 1, h, v => match c v with
    | none => -7
    | some u => if u = v then nI h else rt_fw c m (h + 1) u
def rt_fy (c : Nat → Option Nat) : Nat → Nat → Nat → List Nat → Int32
  | 0, _, _, _ => -6
  | m + 1, h, v, S => if v ∈ S then -6 else match c v with
    | none => -7
    | some u => if u = v then nI h else rt_fy c m (h + 1) u (v :: S)
theorem rt_fw_stuck {c : Nat → Option Nat} {S : List Nat} (hS : ∀ x, x ∈ S → ∃ u, c x = some u ∧ u ≠ x ∧ u ∈ S) : ∀ m h v, v ∈ S → rt_fw c m h v = -6 := by
  intro m
  induction m with
  | zero => intro h v _; rfl
  | succ m ih =>
    intro h v hv
    obtain ⟨u, h1, h2, h3⟩ := hS v hv
    rw [rt_fw, h1]
    dsimp only
    rw [if_neg h2]
    exact ih (h + 1) u h3
theorem rt_fw_fy {n : Nat} {c : Nat → Option Nat} (hc : ∀ v u, v < n → c v = some u → u < n) : ∀ m h v S, h + m = n → S.length = h → rt_ok n S → v < n →
    (∀ x, x ∈ S → ∃ u, c x = some u ∧ u ≠ x ∧ (u ∈ S ∨ u = v)) → rt_fw c m h v = rt_fy c (m + 1) h v S := by
  intro m
  induction m with
  | zero =>
    intro h v S hm hl hS hv hcl
    by_cases hin : v ∈ S
    · rw [rt_fy, if_pos hin]
      rfl
    · have h2 := rt_len (rt_ok_cons hS hv hin)
      rw [List.length_cons] at h2
      omega
  | succ m ih =>
    intro h v S hm hl hS hv hcl
    by_cases hin : v ∈ S
    · rw [rt_fy, if_pos hin]
      refine rt_fw_stuck (S := S) (fun x hx => ?_) _ h v hin
      obtain ⟨u, h1, h2, h3⟩ := hcl x hx
      refine ⟨u, h1, h2, ?_⟩
      rcases h3 with z | z
      · exact z
      · rw [z]; exact hin
    · rw [rt_fy, if_neg hin, rt_fw]
      cases e : c v with
      | none => rfl
      | some u =>
        dsimp only
        by_cases eu : u = v
        · rw [if_pos eu, if_pos eu]
        · rw [if_neg eu, if_neg eu]
          refine ih (h + 1) u (v :: S) (by omega) (by rw [List.length_cons, hl]) (rt_ok_cons hS hv hin) (hc v u hv e) (fun x hx => ?_)
          rcases List.mem_cons.mp hx with z | z
          · rw [z]
            exact ⟨u, e, eu, Or.inr rfl⟩
          · obtain ⟨w, h1, h2, h3⟩ := hcl x z
            refine ⟨w, h1, h2, Or.inl ?_⟩
            rcases h3 with y | y
            · exact List.mem_cons_of_mem _ y
            · rw [y]; exact List.mem_cons_self
/-! sets of nodes as masks -/
theorem xw_bit : ∀ M, M < 256 → ∀ v, v < 8 → (((nI M >>> (nI v &&& 31)) &&& 1) = 1 ↔ M.testBit v = true) := by decide +kernel
theorem xw_one : ∀ v, v < 8 → (1 : Int32) <<< (nI v &&& 31) = nI (2 ^ v) := by decide +kernel
theorem xw_or (a b : Nat) : nI a ||| nI b = nI (a ||| b) := by
  apply Int32.toBitVec_inj.1
  show BitVec.ofNat 32 a ||| BitVec.ofNat 32 b = BitVec.ofNat 32 (a ||| b)
  apply BitVec.eq_of_getLsbD_eq
  intro i hi
  simp [hi]
theorem xw_or_lt {a b : Nat} (ha : a < 256) (hb : b < 256) : a ||| b < 256 := Nat.or_lt_two_pow (n := 8) ha hb
theorem xw_pw : ∀ v, v < 8 → 2 ^ v < 256 := by decide
theorem xw_set {M v : Nat} (hv : v < 8) : nI M ||| ((1 : Int32) <<< (nI v &&& 31)) = nI (M ||| 2 ^ v) := by rw [xw_one v hv, xw_or]
theorem xw_tb (M v y : Nat) : (M ||| 2 ^ v).testBit y = true ↔ (M.testBit y = true ∨ y = v) := by
  rw [Nat.testBit_or, Nat.testBit_two_pow, Bool.or_eq_true, decide_eq_true_eq]
  constructor
  · rintro (h | h)
    · exact Or.inl h
    · exact Or.inr h.symm
  · rintro (h | h)
    · exact Or.inl h
    · exact Or.inr h.symm
theorem xw_tb1 (v y : Nat) : (2 ^ v).testBit y = true ↔ y = v := by
  rw [Nat.testBit_two_pow, decide_eq_true_eq]
  exact ⟨fun h => h.symm, fun h => h.symm⟩
