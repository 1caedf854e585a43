theorem wb_cu : ∀ k, k < 64 → ((nI k).toInt64.toUInt64 &&& Int64.toUInt64 63) = UInt64.ofNat k := by decide +kernel
theorem wb_shr {n k : Nat} (hn : n < 2 ^ 64) (hk : k < 64) : ((lN n).toUInt64 >>> ((nI k).toInt64.toUInt64 &&& Int64.toUInt64 63)).toInt64 = lN (n / 2 ^ k) := by
  rw [wb_cu k hk]
  apply wb_inj
  apply BitVec.eq_of_toNat_eq
  show ((lN n).toUInt64 >>> UInt64.ofNat k).toNat = (BitVec.ofNat 64 _).toNat
  have h1 : (UInt64.ofNat k).toNat = k := by
    show (BitVec.ofNat 64 k).toNat = k
    rw [BitVec.toNat_ofNat, Nat.mod_eq_of_lt (by omega)]
  have h2 : (lN n).toUInt64.toNat = n := wb_tn hn
  rw [UInt64.toNat_shiftRight, h1, h2, Nat.mod_eq_of_lt hk, Nat.shiftRight_eq_div_pow, BitVec.toNat_ofNat, Nat.mod_eq_of_lt (Nat.lt_of_le_of_lt (Nat.div_le_self _ _) hn)]
/-! a path passes the law's look at it -/
theorem gw_bit : ∀ M, M < 512 → ∀ v, v < 9 → ((nI M &&& ((1 : Int32) <<< (nI v &&& 31))) = 0 ↔ M.testBit v = false) := by decide +kernel
theorem gw_one : ∀ v, v < 9 → (1 : Int32) <<< (nI v &&& 31) = nI (2 ^ v) := by decide +kernel
theorem gw_pw : ∀ v, v < 9 → 2 ^ v < 512 := by decide
theorem gw_and {c : Nat} (hc : c < 4294967296) : (lN c &&& 15) = lN (c % 16) := wb_mask (k := 4) (by omega) (by decide)
theorem gw_path {n : Nat} (hn : n ≤ 8) {post : Int32 → Prop} (hp : post 1) : ∀ (l : List Nat) (i M : Nat), rt_ok n l → M < 512 → (∀ x, x ∈ l → M.testBit (x + 1) = false) → i + l.length ≤ 16 →
    wL_pathOk_24 post (nI n) (l.length + 1) (nI M) (xw_lc l) (nI i) := by
  intro l
  induction l with
  | nil =>
    intro i M hl hM hx hi
    by_cases h : 16 ≤ i
    · exact br_t (nI_le (a := 16) h (by rw [List.length_nil] at hi; omega)) hp
    · exact br_f (nI_ge (b := 16) (by omega) (by decide)) (br_t rfl hp)
  | cons w r ih =>
    intro i M hl hM hx hi
    rw [List.length_cons] at hi
    have hw : w < n := hl.2 w List.mem_cons_self
    have hc := rt_enc_ok hn hl
    have h0 : ¬ xw_lc (w :: r) = 0 := fun z => (nomatch (xw_lc_0 hn hl).mp z)
    refine br_f (nI_ge (b := 16) (by omega) (by decide)) (br_f h0 ?_)
    have e1 : (xw_lc (w :: r) &&& 15).toInt32 = nI (w + 1) := by
      show (lN (rt_enc (w :: r)) &&& 15).toInt32 = nI (w + 1)
      rw [gw_and hc, rt_enc_mod (by omega), lN_i]
    refine nm_r e1 (br_f (nI_nlt (b := 1) (by omega) (by omega)) (br_t (nI_le (by omega) (by omega)) ?_))
    refine br_t ((gw_bit M hM (w + 1) (by omega)).mpr (hx w List.mem_cons_self)) ?_
    refine nm_r (e' := nI (M ||| 2 ^ (w + 1))) (by rw [gw_one (w + 1) (by omega), xw_or]) ?_
    have e2 : ((xw_lc (w :: r)).toUInt64 >>> ((4 : Int32).toInt64.toUInt64 &&& Int64.toUInt64 63)).toInt64 = xw_lc r := by
      have h := wb_shr (n := rt_enc (w :: r)) (k := 4) (by omega) (by decide)
      have h2 : rt_enc (w :: r) / 2 ^ 4 = rt_enc r := by
        show (rt_enc r * 16 + (w + 1)) / 16 = rt_enc r
        omega
      rw [h2] at h
      exact h
    refine nm_r e2 (nm_r (nI_1 i) (ih (i + 1) _ (rt_ok_tail hl) (Nat.or_lt_two_pow (n := 9) hM (gw_pw (w + 1) (by omega))) (fun x hxr => ?_) (by omega)))
    have hne : x ≠ w := fun z => by
      subst z
      exact (List.nodup_cons.mp hl.1).1 hxr
    rw [Nat.testBit_or, hx x (List.mem_cons_of_mem _ hxr), Nat.testBit_two_pow, decide_eq_false (by omega)]
    rfl
theorem gw_pathOk {n v : Nat} {l : List Nat} (hn : n ≤ 8) (hv : v < n) (hl : rt_pd n v l) (h0 : l ≠ []) {post : Int32 → Prop} (hp : post 1) : wpL_pathOk post () (xw_lc l) (nI v) (nI n) := by
  cases l with
  | nil => exact absurd rfl h0
  | cons w r =>
    have e : w = v := hl.2 w r rfl
    subst e
    have hc := rt_enc_ok hn hl.1
    have hlen := rt_len hl.1
    refine br_t ?_ ⟨_, gw_path hn hp (w :: r) 0 0 hl.1 (by decide) (fun x _ => Nat.zero_testBit _) (by omega)⟩
    show (lN (rt_enc (w :: r)) &&& 15) = (nI w + 1).toInt64
    rw [gw_and hc, rt_enc_mod (by omega), xw_lv (by omega)]
/-! the cells of the script -/
theorem gw_cell {post : Int32 → Prop} {L k : Nat} {xs : Nat → Int32} (hL : L ≤ 260) (hk : k < 2 ^ 31) (hp : ∀ x, post x) : wpL_cell post L xs () (nI k) := by
  by_cases h : L ≤ k
  · exact br_t (nI_le h hk) (hp _)
  · exact br_f (nI_ge (by omega) (by omega)) ⟨vp_in_nI (by omega) (by omega), hp _⟩
theorem gw_pick {post : Int32 → Prop} {m : Nat} (p : Int32) (h0 : 0 < m) (hm : m < 2 ^ 31) (hp : ∀ j, j < m → post (nI j)) : wpL_pick post () p (nI m) := by
  refine ⟨nI_ne0 h0 hm, ?_⟩
  have e : p &&& 2147483647 = nI (p.toBitVec.toNat % 2 ^ 31) := pk_and p 31 (by decide)
  have hlt : p.toBitVec.toNat % 2 ^ 31 < 2 ^ 31 := Nat.mod_lt _ (by decide)
  rw [e, pk_rem hlt h0 hm]
  exact hp _ (Nat.mod_lt _ h0)
