/-! counting, rounds, settling -/
section
variable {n d : Nat} {rl : Nat → Nat → Nat} {up : Nat → Nat → Bool} {og : Nat → Bool} {H : rt_HT} {Q : rt_QT} {ao ar al : Nat → Int32} {ah : Nat → Int64} {aw : Nat → Int32} {sl ab ap : Nat → Int64} {ak : Nat → Int32}
theorem xw_inFlight (hA : xw_A rl up og H Q ao ar al ah aw sl) {post : Int32 → Prop} (hp : post (nI (rt_tot Q 64))) : wpX_inFlight post (nI n, nI d, ao, ar, al, ah, aw, sl, ab, ap, ak) := by
  have key : ∀ m i, i + m = 64 → wX_inFlight_4 post (nI n) (nI d) ao ar al ah aw sl ab ap ak (m + 1) (nI (rt_tot Q i)) (nI i) := by
    intro m
    induction m with
    | zero =>
      intro i hi
      have e : i = 64 := by omega
      subst e
      exact br_t (xw_le (a := 64) (b := 64) (by decide) (by decide)) hp
    | succ m ih =>
      intro i hi
      refine br_f (xw_ge (b := 64) (by omega) (by decide)) ⟨vp_in_nI (by omega) (by decide), ?_⟩
      have e : nI (rt_tot Q i) + aw (nI i).toNatClampNeg = nI (rt_tot Q (i + 1)) := by
        have h := hA.2.2.2.2.1 (i / 8) (i % 8) (by omega) (by omega)
        rw [show i / 8 * 8 + i % 8 = i by omega] at h
        rw [nI_clamp (by omega), h]
        exact nI_add _ _
      exact nm_r e (nm_r (nI_1 i) (ih (i + 1) (by omega)))
  exact ⟨65, key 64 0 rfl⟩
end
section
variable {n d : Nat} {rl : Nat → Nat → Nat} {up : Nat → Nat → Bool} {og : Nat → Bool} {ab ap : Nat → Int64} {ak : Nat → Int32}
theorem rt_rd_inv {s : rt_HT × rt_QT} (hI : rt_inv n d rl up og s.1 s.2) (k : Nat) : rt_inv n d rl up og (rt_rd n d rl up og s k).1 (rt_rd n d rl up og s k).2 :=
  (rt_rd_lv hI 0 (fun _ _ _ h => absurd h (Nat.not_lt_zero _)) k).1
/-- one message heard, all sent -/
theorem xw_hear (s : rt_HT × rt_QT) (hI : rt_inv n d rl up og s.1 s.2) {a b : Nat} (ha : a < 8) (hb : b < 8) {m : List Nat} {r : List (List Nat)} (hq : s.2 a b = m :: r) {post : St2 → Prop}
    (hp : ∀ u', xw_X n d rl up og (rt_dl n d rl up og a b s).1 (rt_dl n d rl up og a b s).2 ab ap ak u' → post u') (ao ar al : Nat → Int32) (ah : Nat → Int64) (aw : Nat → Int32) (sl : Nat → Int64) (hA : xw_A rl up og s.1 s.2 ao ar al ah aw sl) :
    wpX_hearOldest (fun u => wpX_sendAll post u) (nI n, nI d, ao, ar, al, ah, aw, sl, ab, ap, ak) (nI (a * 8 + b)) := by
  have e : rt_dl n d rl up og a b s = (rt_u2 s.1 a b m, rt_send n d rl up og (rt_u2 s.1 a b m) (rt_u2 s.2 a b r)) := by
    unfold rt_dl
    rw [hq]
  rw [e] at hp
  have hI2 := (rt_del hI hq).1
  refine xw_hearOldest hA hI.2.1.2 ha hb hq (hI.2.2.2.1 a b).2.1 (fun u' hu' => ?_)
  obtain ⟨ao', ar', al', ah', aw', sl', rfl, hA'⟩ := hu'
  refine xw_sendAll hI.1 hI.2.1 hI2.2.2.1 ?_ hp ao' ar' al' ah' aw' sl' hA'
  intro c e
  obtain ⟨g1, g2, g3⟩ := hI.2.2.2.1 a b
  by_cases z : c = a ∧ e = b
  · obtain ⟨rfl, rfl⟩ := z
    rw [rt_u2_s]
    rw [hq, List.length_cons] at g2
    exact ⟨fun _ => g1 (by rw [hq]; exact fun z => nomatch z), by omega, fun x hx => g3 x (by rw [hq]; exact List.mem_cons_of_mem _ hx)⟩
  · rw [rt_u2_n z]
    exact hI.2.2.2.1 c e
theorem xw_deliverRound (s : rt_HT × rt_QT) (hI : rt_inv n d rl up og s.1 s.2) {post : St2 → Prop}
    (hp : ∀ u', xw_X n d rl up og (rt_rd n d rl up og s 64).1 (rt_rd n d rl up og s 64).2 ab ap ak u' → post u') (ao ar al : Nat → Int32) (ah : Nat → Int64) (aw : Nat → Int32) (sl : Nat → Int64) (hA : xw_A rl up og s.1 s.2 ao ar al ah aw sl) :
    wpX_deliverRound post (nI n, nI d, ao, ar, al, ah, aw, sl, ab, ap, ak) := by
  have key : ∀ m i, i + m = 64 → ∀ (ao ar al : Nat → Int32) (ah : Nat → Int64) (aw : Nat → Int32) (sl : Nat → Int64), xw_A rl up og (rt_rd n d rl up og s i).1 (rt_rd n d rl up og s i).2 ao ar al ah aw sl → wX_deliverRound_2 post (m + 1) (nI i) (nI n) (nI d) ao ar al ah aw sl ab ap ak := by
    intro m
    induction m with
    | zero =>
      intro i hi ao ar al ah aw sl hA
      have e : i = 64 := by omega
      subst e
      exact br_t (xw_le (a := 64) (b := 64) (by decide) (by decide)) (hp _ ⟨ao, ar, al, ah, aw, sl, rfl, hA⟩)
    | succ m ih =>
      intro i hi ao ar al ah aw sl hA
      have hI2 := rt_rd_inv hI i
      have ei : i / 8 * 8 + i % 8 = i := by omega
      have hw : aw (nI i).toNatClampNeg = nI ((rt_rd n d rl up og s i).2 (i / 8) (i % 8)).length := by
        have h := hA.2.2.2.2.1 (i / 8) (i % 8) (by omega) (by omega)
        rw [ei] at h
        rw [nI_clamp (by omega), h]
        rfl
      have hle := (hI2.2.2.2.1 (i / 8) (i % 8)).2.1
      have hd4 := hI2.2.1.2
      refine br_f (xw_ge (b := 64) (by omega) (by decide)) ⟨vp_in_nI (by omega) (by decide), ?_⟩
      cases hq : (rt_rd n d rl up og s i).2 (i / 8) (i % 8) with
      | nil =>
        have e : rt_rd n d rl up og s (i + 1) = rt_rd n d rl up og s i := by
          rw [rt_rd]
          unfold rt_dl
          rw [hq]
        rw [hq] at hw
        refine br_t (by rw [hw]; exact xw_le (a := 0) (b := 0) (by decide) (by decide)) (nm_r (nI_1 i) ?_)
        rw [← e] at hA
        exact ih (i + 1) (by omega) ao ar al ah aw sl hA
      | cons x r =>
        rw [hq, List.length_cons] at hw hle
        refine br_f (by rw [hw]; exact xw_ge (a := 0) (by omega) (by omega)) ?_
        have h := xw_hear (ab := ab) (ap := ap) (ak := ak) (rt_rd n d rl up og s i) hI2 (a := i / 8) (b := i % 8) (by omega) (by omega) hq
          (post := fun u => match u with
            | (N, D, ao, ar, al, ah, aw, sl, ab, ap, ak) => ∀ x1 : Int32, x1 = nI i + 1 → wX_deliverRound_2 post (m + 1) x1 N D ao ar al ah aw sl ab ap ak)
          (fun u' hu' => by
            obtain ⟨ao', ar', al', ah', aw', sl', rfl, hA'⟩ := hu'
            exact nm_r (nI_1 i) (ih (i + 1) (by omega) ao' ar' al' ah' aw' sl' hA')) ao ar al ah aw sl hA
        rw [ei] at h
        exact h
  exact ⟨65, key 64 0 rfl ao ar al ah aw sl hA⟩
theorem xw_count {H H' : rt_HT} {Q' : rt_QT} (hn : n ≤ 8) (hr : rt_rl n rl) (hg : ∀ a b, rt_ok n (H a b)) (hg' : ∀ a b, rt_ok n (H' a b)) {post : Int32 → St2 → Prop}
    (ao ar al : Nat → Int32) (ah : Nat → Int64) (aw : Nat → Int32) (sl : Nat → Int64) (hA : xw_A rl up og H' Q' ao ar al ah aw sl) (hb : ∀ v, v < n → ab v = xw_lc (rt_pt n rl og H v))
    (hp : post (nI (rt_chg (rt_pt n rl og H) (rt_pt n rl og H') n)) (nI n, nI d, ao, ar, al, ah, aw, sl, ab, ap, ak)) : ∃ f, wX_settle_57 post (nI n) (nI d) ao ar al ah aw sl ab ap ak f 0 0 := by
  have key : ∀ m i, i + m = n → wX_settle_57 post (nI n) (nI d) ao ar al ah aw sl ab ap ak (m + 1) (nI (rt_chg (rt_pt n rl og H) (rt_pt n rl og H') i)) (nI i) := by
    intro m
    induction m with
    | zero =>
      intro i hi
      have e : i = n := by omega
      subst e
      exact br_t (xw_le (Nat.le_refl i) (by omega)) hp
    | succ m ih =>
      intro i hi
      refine br_f (xw_ge (by omega) (by omega)) ?_
      refine xw_selectedPath hA hn hr hg' (by omega) ⟨xw_i8 (by omega), ?_⟩
      have e1 : ab (nI i).toNatClampNeg = xw_lc (rt_pt n rl og H i) := by rw [xw_c8 (by omega)]; exact hb i (by omega)
      have ok1 := (rt_pt_pd (rl := rl) (og := og) hg (show i < n by omega)).1
      have ok2 := (rt_pt_pd (rl := rl) (og := og) hg' (show i < n by omega)).1
      by_cases z : rt_pt n rl og H' i = rt_pt n rl og H i
      · refine br_t (by rw [e1, z]) (nm_r (nI_1 i) ?_)
        have h := ih (i + 1) (by omega)
        rw [rt_chg, if_pos z] at h
        exact h
      · refine br_f (by rw [e1]; exact fun y => z ((xw_lc_eq hn ok2 ok1).mp y)) ?_
        have h := ih (i + 1) (by omega)
        rw [rt_chg, if_neg z] at h
        exact nm_r (nI_1 _) (nm_r (nI_1 i) h)
  exact ⟨n + 1, key n 0 (by omega)⟩
theorem xw_settle29 {H : rt_HT} (hg : ∀ a b, rt_ok n (H a b)) {post : Int32 → St2 → Prop} (hb : ∀ v, v < n → ab v = xw_lc (rt_pt n rl og H v))
    (hp : ∀ H' Q' u', rt_inv n d rl up og H' Q' → (∀ a b, Q' a b = []) → xw_X n d rl up og H' Q' ab ap ak u' → post (nI (rt_chg (rt_pt n rl og H) (rt_pt n rl og H') n)) u') :
    ∀ m r, r + m = 10000 → ∀ s : rt_HT × rt_QT, rt_inv n d rl up og s.1 s.2 → rt_J n rl up s.2 r → ∀ (ao ar al : Nat → Int32) (ah : Nat → Int64) (aw : Nat → Int32) (sl : Nat → Int64), xw_A rl up og s.1 s.2 ao ar al ah aw sl → wX_settle_29 post (m + 1) (nI r) (nI n) (nI d) ao ar al ah aw sl ab ap ak := by
  have fin : ∀ s : rt_HT × rt_QT, rt_inv n d rl up og s.1 s.2 → (∀ a b, s.2 a b = []) → ∀ (ao ar al : Nat → Int32) (ah : Nat → Int64) (aw : Nat → Int32) (sl : Nat → Int64), xw_A rl up og s.1 s.2 ao ar al ah aw sl → ∃ f, wX_settle_57 post (nI n) (nI d) ao ar al ah aw sl ab ap ak f 0 0 := by
    intro s hI hq ao ar al ah aw sl hA
    exact xw_count hI.1.2.1 hI.1.2.2.1 hg (fun a b => (hI.2.2.1 a b).1.1) ao ar al ah aw sl hA hb (hp s.1 s.2 _ hI hq ⟨ao, ar, al, ah, aw, sl, rfl, hA⟩)
  intro m
  induction m with
  | zero =>
    intro r hr s hI hJ ao ar al ah aw sl hA
    have e : r = 10000 := by omega
    subst e
    exact br_t (nI_le (a := 10000) (b := 10000) (by decide) (by decide)) (fin s hI (rt_J_end hI (by decide) hJ) ao ar al ah aw sl hA)
  | succ m ih =>
    intro r hr s hI hJ ao ar al ah aw sl hA
    refine br_f (nI_ge (b := 10000) (by omega) (by decide)) ?_
    refine xw_inFlight hA ?_
    have hle := rt_tot_le (fun a b => (hI.2.2.2.1 a b).2.1) 64
    have hd4 := hI.2.1.2
    by_cases z : rt_tot s.2 64 = 0
    · exact br_t (by rw [z]; exact xw_le (a := 0) (b := 0) (by decide) (by decide)) (fin s hI (rt_tot_all hI z) ao ar al ah aw sl hA)
    · refine br_f (nI_nle (by omega) (by omega)) ?_
      have hS := rt_J_s hI hJ
      refine xw_deliverRound s hI (fun u' hu' => ?_) ao ar al ah aw sl hA
      obtain ⟨ao', ar', al', ah', aw', sl', rfl, hA'⟩ := hu'
      exact nm_r (nI_1 r) (ih (r + 1) (by omega) _ hS.1 hS.2 ao' ar' al' ah' aw' sl' hA')
theorem xw_settle {H : rt_HT} {Q : rt_QT} (hI : rt_inv n d rl up og H Q) {post : Int32 → St2 → Prop}
    (hp : ∀ H' Q' ab' u', rt_inv n d rl up og H' Q' → (∀ a b, Q' a b = []) → xw_X n d rl up og H' Q' ab' ap ak u' → post (nI (rt_chg (rt_pt n rl og H) (rt_pt n rl og H') n)) u')
    (ao ar al : Nat → Int32) (ah : Nat → Int64) (aw : Nat → Int32) (sl : Nat → Int64) (hA : xw_A rl up og H Q ao ar al ah aw sl) : wpX_settle post (nI n, nI d, ao, ar, al, ah, aw, sl, ab, ap, ak) := by
  have hn := hI.1.2.1
  have hr := hI.1.2.2.1
  have hg : ∀ a b, rt_ok n (H a b) := fun a b => (hI.2.2.1 a b).1.1
  have key : ∀ m i, i + m = n → ∀ ab : Nat → Int64, (∀ v, v < i → ab v = xw_lc (rt_pt n rl og H v)) → wX_settle_2 post (nI n) (nI d) (m + 1) (nI i) ao ar al ah aw sl ab ap ak := by
    intro m
    induction m with
    | zero =>
      intro i hi ab hb
      have e : i = n := by omega
      subst e
      exact br_t (xw_le (Nat.le_refl i) (by omega)) ⟨10001, xw_settle29 hg hb (fun H' Q' u' h1 h2 h3 => hp H' Q' ab u' h1 h2 h3) 10000 0 (by omega) (H, Q) hI (rt_J_0 hI) ao ar al ah aw sl hA⟩
    | succ m ih =>
      intro i hi ab hb
      refine br_f (xw_ge (by omega) (by omega)) ?_
      refine xw_selectedPath hA hn hr hg (by omega) ⟨xw_i8 (by omega), ?_⟩
      refine nm_r (e' := vp_updL ab i (xw_lc (rt_pt n rl og H i))) (by rw [xw_c8 (by omega)]) (nm_r (nI_1 i) (ih (i + 1) (by omega) _ (fun v hv => ?_)))
      by_cases e : v = i
      · subst e; exact pk_uLs
      · rw [pk_uLn e]; exact hb v (by omega)
  exact ⟨n + 1, key n 0 (by omega) ab (fun v hv => absurd hv (Nat.not_lt_zero v))⟩
end
/-! who is below whom -/
section
variable {n d : Nat} {rl : Nat → Nat → Nat} {up : Nat → Nat → Bool} {og : Nat → Bool} {H : rt_HT} {Q : rt_QT} {ao ar al : Nat → Int32} {ah : Nat → Int64} {aw : Nat → Int32} {sl ab ap : Nat → Int64} {ak : Nat → Int32}
theorem xw_customersOf (hA : xw_A rl up og H Q ao ar al ah aw sl) (hn : n ≤ 8) (hr : rt_rl n rl) {G : Nat} (hG : G < 256) {post : Int32 → Prop}
    (hp : ∀ C, C < 256 → (∀ y, C.testBit y = true ↔ ∃ x, x < n ∧ G.testBit x = true ∧ rl x y = 2) → post (nI C)) : wpX_customersOf post (nI n, nI d, ao, ar, al, ah, aw, sl, ab, ap, ak) (nI G) := by
  have key : ∀ m i, i + m = n → ∀ C, C < 256 → (∀ y, C.testBit y = true ↔ ∃ x, x < i ∧ G.testBit x = true ∧ rl x y = 2) → wX_customersOf_4 post (nI G) (nI n) (nI d) ao ar al ah aw sl ab ap ak (m + 1) (nI C) (nI i) := by
    intro m
    induction m with
    | zero =>
      intro i hi C hC hb
      have e : i = n := by omega
      subst e
      exact br_t (xw_le (Nat.le_refl i) (by omega)) (hp C hC hb)
    | succ m ih =>
      intro i hi C hC hb
      refine br_f (xw_ge (by omega) (by omega)) ?_
      have inner : ∀ k j, j + k = n → ∀ C', C' < 256 → (∀ y, C'.testBit y = true ↔ (C.testBit y = true ∨ (y < j ∧ G.testBit i = true ∧ rl i y = 2))) →
          wX_customersOf_15 post (wX_customersOf_4 post (nI G) (nI n) (nI d) ao ar al ah aw sl ab ap ak (m + 1)) (nI G) (nI i) (nI n) (nI d) ao ar al ah aw sl ab ap ak (k + 1) (nI C') (nI j) := by
        intro k
        induction k with
        | zero =>
          intro j hj C' hC' hb'
          have e : j = n := by omega
          subst e
          refine br_t (xw_le (Nat.le_refl j) (by omega)) (nm_r (nI_1 i) (ih (i + 1) (by omega) C' hC' (fun y => ?_)))
          rw [hb' y, hb y]
          constructor
          · rintro (⟨x, h1, h2, h3⟩ | ⟨h1, h2, h3⟩)
            · exact ⟨x, by omega, h2, h3⟩
            · exact ⟨i, by omega, h2, h3⟩
          · rintro ⟨x, h1, h2, h3⟩
            by_cases e : x = i
            · subst e
              exact Or.inr ⟨(rt_rl_op hr (a := x) (b := y) (by omega)).2.1, h2, h3⟩
            · exact Or.inl ⟨x, by omega, h2, h3⟩
        | succ k ihk =>
          intro j hj C' hC' hb'
          refine br_f (xw_ge (by omega) (by omega)) ?_
          have hle := rt_rl_le hr i j
          have skip : ¬ (G.testBit i = true ∧ rl i j = 2) → wX_customersOf_15 post (wX_customersOf_4 post (nI G) (nI n) (nI d) ao ar al ah aw sl ab ap ak (m + 1)) (nI G) (nI i) (nI n) (nI d) ao ar al ah aw sl ab ap ak (k + 1) (nI C') (nI (j + 1)) := by
            intro hno
            refine ihk (j + 1) (by omega) C' hC' (fun y => ?_)
            rw [hb' y]
            constructor
            · rintro (h | ⟨h1, h2⟩)
              · exact Or.inl h
              · exact Or.inr ⟨by omega, h2⟩
            · rintro (h | ⟨h1, h2⟩)
              · exact Or.inl h
              · by_cases e : y = j
                · subst e; exact absurd h2 hno
                · exact Or.inr ⟨by omega, h2⟩
          by_cases hg : G.testBit i = true
          · refine br_t ((xw_bit G hG i (by omega)).mpr hg) ⟨xw_in (by omega) (by omega), ?_⟩
            have e2 : ar (nI i * 8 + nI j).toNatClampNeg = nI (rl i j) := by rw [xw_cl (by omega) (by omega)]; exact hA.2.1 i j (by omega) (by omega)
            by_cases h2 : rl i j = 2
            · refine br_t (by rw [e2, h2]; rfl) (nm_r (xw_set (by omega)) (nm_r (nI_1 j) (ihk (j + 1) (by omega) _ (xw_or_lt hC' (xw_pw j (by omega))) (fun y => ?_))))
              rw [xw_tb, hb' y]
              constructor
              · rintro ((h | ⟨h1, h3⟩) | h)
                · exact Or.inl h
                · exact Or.inr ⟨by omega, h3⟩
                · subst h; exact Or.inr ⟨by omega, hg, h2⟩
              · rintro (h | ⟨h1, h3⟩)
                · exact Or.inl (Or.inl h)
                · by_cases e : y = j
                  · exact Or.inr e
                  · exact Or.inl (Or.inr ⟨by omega, h3⟩)
            · exact br_f (by rw [e2]; exact xw_ne (b := 2) (by omega) (by decide) h2) (nm_r (nI_1 j) (skip (fun z => h2 z.2)))
          · exact br_f (fun z => hg ((xw_bit G hG i (by omega)).mp z)) (nm_r (nI_1 j) (skip (fun z => hg z.1)))
      refine ⟨n + 1, inner n 0 (by omega) C hC (fun y => ⟨fun h => Or.inl h, fun h => ?_⟩)⟩
      rcases h with h | ⟨h, _⟩
      · exact h
      · omega
  refine ⟨n + 1, key n 0 (by omega) 0 (by decide) (fun y => ⟨fun h => ?_, fun h => ?_⟩)⟩
  · rw [Nat.zero_testBit] at h
    cases h
  · obtain ⟨x, h1, _⟩ := h
    omega
theorem rt_rc_snoc {rl : Nat → Nat → Nat} : ∀ (k a b c : Nat), rt_rc rl k a b → rl b c = 2 → rt_rc rl (k + 1) a c := by
  intro k
  induction k with
  | zero => intro a b c h e; cases h; exact ⟨c, e, rfl⟩
  | succ k ih =>
    intro a b c h e
    obtain ⟨x, h1, h2⟩ := h
    exact ⟨x, h1, ih x b c h2 e⟩
theorem rt_rc_split {rl : Nat → Nat → Nat} : ∀ (k a c : Nat), rt_rc rl (k + 1) a c → ∃ b, rt_rc rl k a b ∧ rl b c = 2 := by
  intro k
  induction k with
  | zero =>
    intro a c h
    obtain ⟨x, h1, h2⟩ := h
    cases h2
    exact ⟨a, rfl, h1⟩
  | succ k ih =>
    intro a c h
    obtain ⟨x, h1, h2⟩ := h
    obtain ⟨b, h3, h4⟩ := ih x c h2
    exact ⟨b, ⟨x, h1, h3⟩, h4⟩
/-- masks that hold all that is reached in k steps, and nothing that isn't reached -/
def rt_mk (rl : Nat → Nat → Nat) (a k M : Nat) : Prop :=
  M < 256 ∧ (∀ y, M.testBit y = true → rt_R rl a y) ∧ ∀ j y, j ≤ k → rt_rc rl j a y → M.testBit y = true
theorem rt_mk_0 (rl : Nat → Nat → Nat) {a : Nat} (ha : a < 8) : rt_mk rl a 0 (2 ^ a) := by
  refine ⟨xw_pw a ha, fun y hy => ?_, fun j y hj hc => ?_⟩
  · rw [(xw_tb1 a y).mp hy]
    exact rt_R_refl rl a
  · have : j = 0 := by omega
    subst this
    cases hc
    exact (xw_tb1 a a).mpr rfl
theorem rt_mk_end {n : Nat} {rl : Nat → Nat → Nat} (hac : rt_ac rl) (hr : rt_rl n rl) {a M : Nat} (h : rt_mk rl a n M) (y : Nat) : M.testBit y = true ↔ rt_R rl a y := by
  refine ⟨h.2.1 y, fun z => ?_⟩
  obtain ⟨k, hk⟩ := z
  have h1 := rt_rc_ht hac hr k a y hk
  have h2 := rt_ht_le n rl a
  exact h.2.2 k y (by omega) hk
theorem xw_isBelow (hA : xw_A rl up og H Q ao ar al ah aw sl) (hc : rt_cf n rl up) {lo hi : Nat} (hl : lo < n) (hh : hi < n) {post : Int32 → Prop}
    (h1 : rt_R rl hi lo → post 1) (h0 : ¬ rt_R rl hi lo → post 0) : wpX_isBelow post (nI n, nI d, ao, ar, al, ah, aw, sl, ab, ap, ak) (nI lo) (nI hi) := by
  obtain ⟨_, hn, hr, hup, hac⟩ := hc
  have key : ∀ m i, i + m = n → ∀ M, rt_mk rl hi i M → wX_isBelow_7 post (nI lo) (nI n) (nI d) ao ar al ah aw sl ab ap ak (m + 1) (nI M) (nI i) := by
    intro m
    induction m with
    | zero =>
      intro i hi2 M hM
      have e : i = n := by omega
      subst e
      refine br_t (xw_le (Nat.le_refl i) (by omega)) ?_
      have hb := xw_bit M hM.1 lo (by omega)
      have he := rt_mk_end hac hr hM lo
      by_cases z : rt_R rl hi lo
      · exact br_t (hb.mpr (he.mpr z)) (h1 z)
      · exact br_f (fun y => z (he.mp (hb.mp y))) (h0 z)
    | succ m ih =>
      intro i hi2 M hM
      refine br_f (xw_ge (by omega) (by omega)) ?_
      refine xw_customersOf hA hn hr hM.1 (fun C hC hb => ?_)
      refine nm_r (xw_or M C) (nm_r (nI_1 i) (ih (i + 1) (by omega) _ ⟨xw_or_lt hM.1 hC, fun y hy => ?_, fun j y hj hrc => ?_⟩))
      · rw [Nat.testBit_or, Bool.or_eq_true] at hy
        rcases hy with hy | hy
        · exact hM.2.1 y hy
        · obtain ⟨x, _, h2, h3⟩ := (hb y).mp hy
          exact rt_R_snoc (hM.2.1 x h2) h3
      · rw [Nat.testBit_or, Bool.or_eq_true]
        by_cases hj2 : j ≤ i
        · exact Or.inl (hM.2.2 j y hj2 hrc)
        · have e : j = i + 1 := by omega
          subst e
          obtain ⟨b, h3, h4⟩ := rt_rc_split i hi y hrc
          exact Or.inr ((hb y).mpr ⟨b, (rt_rl_op hr (a := b) (b := y) (by omega)).1, hM.2.2 i b (Nat.le_refl i) h3, h4⟩)
  unfold wpX_isBelow
  exact nm_r (xw_one hi (by omega)) ⟨n + 1, key n 0 (by omega) _ (rt_mk_0 rl (by omega))⟩
end
