/-! rows pasted from the kit's rows to paste -/
theorem wb_tb (n : Nat) : (lN n).toBitVec = BitVec.ofNat 64 n := rfl
theorem wb_inj {a b : Int64} (h : a.toBitVec = b.toBitVec) : a = b := Int64.toBitVec_inj.mp h
theorem wb_tn {n : Nat} (h : n < 2 ^ 64) : (lN n).toBitVec.toNat = n := by rw [wb_tb, BitVec.toNat_ofNat, Nat.mod_eq_of_lt h]
theorem wb_c : ∀ k, k < 64 → ((nI k).toInt64 &&& 63) = lN k := by decide +kernel
theorem wb_lt2 {a b : Nat} (h : a < b) : 2 ^ a < 2 ^ b := Nat.pow_lt_pow_right (by decide) h
theorem wb_and {a b : Nat} (ha : a < 2 ^ 64) (hb : b < 2 ^ 64) : lN a &&& lN b = lN (a &&& b) := by
  apply wb_inj
  rw [Int64.toBitVec_and, wb_tb, wb_tb, wb_tb]
  apply BitVec.eq_of_toNat_eq
  rw [BitVec.toNat_and, BitVec.toNat_ofNat, BitVec.toNat_ofNat, BitVec.toNat_ofNat, Nat.mod_eq_of_lt ha, Nat.mod_eq_of_lt hb, Nat.mod_eq_of_lt (Nat.and_lt_two_pow _ hb)]
theorem wb_mask {n k : Nat} (hn : n < 2 ^ 64) (hk : k < 64) : lN n &&& lN (2 ^ k - 1) = lN (n % 2 ^ k) := by
  rw [wb_and hn (by have := wb_lt2 hk; omega), Nat.and_two_pow_sub_one_eq_mod]
theorem pf_lI {a : Nat} (h : a < 2 ^ 63) : (lN a).toInt = (a : Int) := lg_ofNat_toInt h
theorem pf_shr {a d : Nat} {D : Int64} (hD : (D.toBitVec.smod 64).toNat = d) (h : a < 2 ^ 62) : lN a >>> D = lN (a / 2 ^ d) := by
  have hd : a / 2 ^ d ≤ a := Nat.div_le_self _ _
  apply Int64.toInt_inj.mp
  have e : (lN a >>> D).toInt = (lN a).toInt >>> d := by
    rw [← hD]
    exact BitVec.toInt_sshiftRight ..
  rw [e, Int.shiftRight_eq_div_pow, pf_lI (by omega), pf_lI (by omega)]
  rfl
/-! cells of the arrays against the picture -/
theorem xw_8 (a : Nat) : nI a * 8 = nI (a * 8) := pk_mul a 8
theorem xw_ix (a b : Nat) : nI a * 8 + nI b = nI (a * 8 + b) := by rw [xw_8, nI_add]
theorem xw_cl {a b : Nat} (ha : a < 8) (hb : b < 8) : (nI a * 8 + nI b).toNatClampNeg = a * 8 + b := by
  rw [xw_ix, nI_clamp (by omega)]
theorem xw_in {a b : Nat} (ha : a < 8) (hb : b < 8) : vp_in (nI a * 8 + nI b) 64 := by
  rw [xw_ix]
  exact vp_in_nI (by omega) (by decide)
theorem xw_c8 {a : Nat} (ha : a < 8) : (nI a).toNatClampNeg = a := nI_clamp (by omega)
theorem xw_i8 {a : Nat} (ha : a < 8) : vp_in (nI a) 8 := vp_in_nI ha (by decide)
def xw_b (b : Bool) : Int32 := if b = true then 1 else 0
theorem xw_b1 {b : Bool} (h : b = true) : xw_b b = 1 := if_pos h
theorem xw_bn {b : Bool} (h : ¬ b = true) : xw_b b = 0 := if_neg h
theorem xw_10 : ¬ (1 : Int32) = 0 := by decide
theorem xw_01 : ¬ (0 : Int32) = 1 := by decide
theorem xw_b_ne {b : Bool} (h : b = true) : ¬ xw_b b = 0 := by rw [xw_b1 h]; decide
theorem xw_b_inj (b c : Bool) : xw_b b = xw_b c ↔ b = c := by
  cases b <;> cases c <;> decide
theorem xw_nar (b : Bool) : vp_nar .boolean (xw_b b) = xw_b b := by
  cases b <;> decide
def xw_og (og : Nat → Bool) (a : Nat → Int32) : Prop := ∀ v, v < 8 → a v = xw_b (og v)
def xw_C {α β : Type} (f : α → β) (g : Nat → Nat → α) (ar : Nat → β) : Prop := ∀ a b, a < 8 → b < 8 → ar (a * 8 + b) = f (g a b)
def xw_lc (l : List Nat) : Int64 := lN (rt_enc l)
def xw_wc (q : List (List Nat)) : Int32 := nI q.length
def xw_S (T : Nat → Nat → Nat → Option (List Nat)) (sl : Nat → Int64) : Prop :=
  ∀ a b k m, a < 8 → b < 8 → k < 4 → T a b k = some m → sl ((a * 8 + b) * 4 + k) = xw_lc m
def rt_T (Q : rt_QT) : Nat → Nat → Nat → Option (List Nat) := fun a b k => (Q a b)[k]?
theorem xw_C_32 {α : Type} {f : α → Int32} {g : Nat → Nat → α} {ar : Nat → Int32} {a b : Nat} {x : α} {y : Int32} (h : xw_C f g ar) (hb : b < 8) (hy : y = f x) : xw_C f (rt_u2 g a b x) (upd ar (a * 8 + b) y) := by
  intro c e hc he
  by_cases z : c = a ∧ e = b
  · obtain ⟨rfl, rfl⟩ := z
    rw [rt_u2_s, pk_us, hy]
  · rw [rt_u2_n z, pk_un (by omega)]
    exact h c e hc he
theorem xw_C_64 {α : Type} {f : α → Int64} {g : Nat → Nat → α} {ar : Nat → Int64} {a b : Nat} {x : α} {y : Int64} (h : xw_C f g ar) (hb : b < 8) (hy : y = f x) : xw_C f (rt_u2 g a b x) (vp_updL ar (a * 8 + b) y) := by
  intro c e hc he
  by_cases z : c = a ∧ e = b
  · obtain ⟨rfl, rfl⟩ := z
    rw [rt_u2_s, pk_uLs, hy]
  · rw [rt_u2_n z, pk_uLn (by omega)]
    exact h c e hc he
theorem xw_S_u {T T' : Nat → Nat → Nat → Option (List Nat)} {sl : Nat → Int64} {a b j : Nat} {e : List Nat} {y : Int64} (h : xw_S T sl) (hb : b < 8) (hj : j < 4) (hy : y = xw_lc e)
    (hT : ∀ a' b' k m, a' < 8 → b' < 8 → k < 4 → T' a' b' k = some m → ((a' = a ∧ b' = b ∧ k = j) ∧ m = e) ∨ (¬ (a' = a ∧ b' = b ∧ k = j) ∧ T a' b' k = some m)) : xw_S T' (vp_updL sl ((a * 8 + b) * 4 + j) y) := by
  intro a' b' k m ha' hb' hk hm
  rcases hT a' b' k m ha' hb' hk hm with ⟨⟨rfl, rfl, rfl⟩, rfl⟩ | ⟨z, hm'⟩
  · rw [pk_uLs, hy]
  · rw [pk_uLn (by omega)]
    exact h a' b' k m ha' hb' hk hm'
theorem xw_S_mono {T T' : Nat → Nat → Nat → Option (List Nat)} {sl : Nat → Int64} (h : xw_S T sl) (hT : ∀ a b k m, a < 8 → b < 8 → k < 4 → T' a b k = some m → T a b k = some m) : xw_S T' sl :=
  fun a b k m ha hb hk hm => h a b k m ha hb hk (hT a b k m ha hb hk hm)
theorem xw_og_u {og : Nat → Bool} {ao : Nat → Int32} {v : Nat} {z : Bool} {y : Int32} (h : xw_og og ao) (hy : y = xw_b z) : xw_og (rt_u1 og v z) (upd ao v y) := by
  intro w hw
  by_cases e : w = v
  · subst e
    rw [rt_u1_s, pk_us, hy]
  · rw [rt_u1_n e, pk_un e]
    exact h w hw
/-! the states against the picture -/
def xw_A (rl : Nat → Nat → Nat) (up : Nat → Nat → Bool) (og : Nat → Bool) (H : rt_HT) (Q : rt_QT) (ao ar al : Nat → Int32) (ah : Nat → Int64) (aw : Nat → Int32) (sl : Nat → Int64) : Prop :=
  xw_og og ao ∧ xw_C nI rl ar ∧ xw_C xw_b up al ∧ xw_C xw_lc H ah ∧ xw_C xw_wc Q aw ∧ xw_S (rt_T Q) sl
def xw_X (n d : Nat) (rl : Nat → Nat → Nat) (up : Nat → Nat → Bool) (og : Nat → Bool) (H : rt_HT) (Q : rt_QT) (ab ap : Nat → Int64) (ak : Nat → Int32) (u : St2) : Prop :=
  ∃ (ao ar al : Nat → Int32) (ah : Nat → Int64) (aw : Nat → Int32) (sl : Nat → Int64), u = (nI n, nI d, ao, ar, al, ah, aw, sl, ab, ap, ak) ∧ xw_A rl up og H Q ao ar al ah aw sl
def rt_tr (H : rt_HT) : rt_HT := fun a b => H b a
theorem rt_tr_u (H : rt_HT) (a b : Nat) (x : List Nat) : rt_tr (rt_u2 H a b x) = rt_u2 (rt_tr H) b a x := by
  funext c e
  show (if e = a ∧ c = b then x else H e c) = (if c = b ∧ e = a then x else H e c)
  by_cases z : c = b ∧ e = a
  · rw [if_pos z, if_pos ⟨z.2, z.1⟩]
  · rw [if_neg z, if_neg (fun y => z ⟨y.2, y.1⟩)]
/-! codes -/
theorem xw_lc0 : xw_lc [] = 0 := rfl
theorem xw_lc_0 {n : Nat} {l : List Nat} (hn : n ≤ 8) (h : rt_ok n l) : xw_lc l = 0 ↔ l = [] := by
  have h1 := rt_enc_ok hn h
  rw [← rt_enc_0]
  exact pk_lEQ (b := 0) (by omega) (by decide)
theorem xw_lc_eq {n : Nat} {l m : List Nat} (hn : n ≤ 8) (h : rt_ok n l) (h' : rt_ok n m) : xw_lc l = xw_lc m ↔ l = m := by
  have h1 := rt_enc_ok hn h
  have h2 := rt_enc_ok hn h'
  rw [← rt_enc_eq hn h h']
  exact pk_lEQ (by omega) (by omega)
theorem xw_4 (i : Nat) : 4 * nI i = nI (4 * i) := pk_mul 4 i
theorem xw_sh {c i : Nat} (hc : c < 4294967296) (hi : i < 16) : lN c >>> ((4 * nI i).toInt64 &&& 63) = lN (c / 16 ^ i) := by
  have e : (16 : Nat) ^ i = 2 ^ (4 * i) := by rw [Nat.pow_mul]
  rw [xw_4, wb_c (4 * i) (by omega), e]
  exact pf_shr (d := 4 * i) (by
    have : ∀ k, k < 64 → ((lN k).toBitVec.smod 64).toNat = k := by decide +kernel
    exact this (4 * i) (by omega)) (by omega)
theorem xw_dig {c i : Nat} (hc : c < 4294967296) (hi : i < 16) : (lN c >>> ((4 * nI i).toInt64 &&& 63)) &&& 15 = lN (c / 16 ^ i % 16) := by
  rw [xw_sh hc hi]
  have h : c / 16 ^ i ≤ c := Nat.div_le_self _ _
  exact wb_mask (k := 4) (by omega) (by decide)
theorem xw_lv {v : Nat} (hv : v < 8) : (nI v + 1).toInt64 = lN (v + 1) := by
  rw [nI_1, nI_l (by omega)]
theorem xw_pre (v : Nat) (hv : v < 8) (l : List Nat) : ((xw_lc l * 16) + (nI v).toInt64) + 1 = xw_lc (v :: l) := by
  rw [nI_l (by omega)]
  show lN (rt_enc l) * lN 16 + lN v + 1 = lN (rt_enc l * 16 + (v + 1))
  rw [lN_mul, lN_add, lN_1]
  rfl
theorem xw_pre2 (v : Nat) (hv : v < 8) (l : List Nat) : (xw_lc l * 16) + (nI v + 1).toInt64 = xw_lc (v :: l) := by
  rw [xw_lv hv]
  show lN (rt_enc l) * lN 16 + lN (v + 1) = lN (rt_enc l * 16 + (v + 1))
  rw [lN_mul, lN_add]
def xw_o : Option Nat → Int32
  | none => -1
  | some u => nI u
theorem xw_nm1 {v : Nat} (h : v < 2 ^ 31) : ¬ nI v = -1 := by
  intro e
  have h1 : (nI v).toInt = (-1 : Int32).toInt := by rw [e]
  rw [nI_toInt h] at h1
  have h2 : (-1 : Int32).toInt = -1 := by decide
  omega
theorem xw_ge {a b : Nat} (h : a < b) (hb : b ≤ 256) : ¬ nI b ≤ nI a := nI_ge h (by omega)
theorem xw_le {a b : Nat} (h : a ≤ b) (hb : b ≤ 256) : nI a ≤ nI b := nI_le h (by omega)
theorem xw_ne {a b : Nat} (ha : a ≤ 65536) (hb : b ≤ 65536) (h : a ≠ b) : ¬ nI a = nI b := fun e => h ((nI_eq (by omega) (by omega)).mp e)

