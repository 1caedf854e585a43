/-! what the law looks at after each step -/
section
variable {n d : Nat} {L : Nat} {xs : Nat → Int32} {post : Int32 → Prop} {J79 : Int32 → Int32 → Int32 → Int32 → (Nat → Int32) → (Nat → Int32) → (Nat → Int32) → (Nat → Int64) → (Nat → Int32) → (Nat → Int64) → (Nat → Int64) → (Nat → Int64) → (Nat → Int32) → Prop} {x4 x6 x7 : Int32} {kc ks t : Nat}
theorem gw_check (x5 : Int32) (hJ : ∀ (ao ar al : Nat → Int32) (ah : Nat → Int64) (aw : Nat → Int32) (sl ab ap : Nat → Int64) (ak : Nat → Int32), gw_G n d (nI n, nI d, ao, ar, al, ah, aw, sl, ab, ap, ak) → J79 x7 (nI (t + 1)) (nI n) (nI d) ao ar al ah aw sl ab ap ak) (ao ar al : Nat → Int32) (ah : Nat → Int64) (aw : Nat → Int32) (sl ab ap : Nat → Int64) (ak : Nat → Int32) (h : gw_G n d (nI n, nI d, ao, ar, al, ah, aw, sl, ab, ap, ak)) :
    wL_law_531 post L xs J79 (nI n) x4 x5 x6 x7 (nI t) kc ks (nI n) (nI d) ao ar al ah aw sl ab ap ak := by
  obtain ⟨rl, up, og, H, Q, ab0, ap0, ak0, hI, ao0, ar0, al0, ah0, aw0, sl0, e, hA⟩ := h
  cases e
  have hI' := hI
  obtain ⟨hc, hd, gh, gq, hsy⟩ := hI'
  have hn := hc.2.1
  have hr := hc.2.2.1
  have hg : ∀ a b, rt_ok n (H a b) := fun a b => (gh a b).1.1
  have hF := rt_fd_F hc og (m := 1) (by decide)
  unfold wL_law_531
  refine xw_inFlight hA ?_
  have hle := rt_tot_le (fun a b => (gq a b).2.1) 64
  have hd4 := hd.2
  have key : ∀ z : Bool, (z = true → rt_tot Q 64 = 0) → ∀ m v, v + m = n → ∀ (ap : Nat → Int64) (ak : Nat → Int32), wL_law_548 post L xs J79 (nI n) x4 x5 x6 x7 (nI t) (xw_b z) kc ks (m + 1) (nI v) (nI n) (nI d) ao ar al ah aw sl ab ap ak := by
    intro z hz m
    induction m with
    | zero =>
      intro v hv ap ak
      have e : v = n := by omega
      subst e
      exact br_t (xw_le (Nat.le_refl v) (by omega)) (nm_r (nI_1 t) (hJ ao ar al ah aw sl ab ap ak ⟨rl, up, og, H, Q, ab, ap, ak, hI, ao, ar, al, ah, aw, sl, rfl, hA⟩))
    | succ m ih =>
      intro v hv ap ak
      have hv2 : v < n := by omega
      refine br_f (xw_ge (by omega) (by omega)) ?_
      unfold wpX_selected
      refine xw_isBad_f hn hv2 (br_t rfl ?_)
      refine xw_selectedPath hA hn hr hg hv2 ?_
      have hpd := rt_pt_pd (rl := rl) (og := og) hg hv2
      have tail : wL_law_582 post L xs J79 (wL_law_548 post L xs J79 (nI n) x4 x5 x6 x7 (nI t) (xw_b z) kc ks (m + 1)) (nI n) x4 x5 x6 x7 (nI t) (xw_b z) (nI v) (xw_lc (rt_pt n rl og H v)) kc ks (nI n) (nI d) ao ar al ah aw sl ab ap ak := by
        by_cases hzt : z = true
        · refine br_f (xw_b_ne hzt) ?_
          unfold wpX_expected
          refine xw_isBad_f hn hv2 (br_t rfl ?_)
          refine xw_findExpected hA hc ap ak (fun ap' ak' hE => ⟨xw_i8 (by omega), ?_⟩)
          have hq := rt_F_quiet hF hI (rt_tot_all hI (hz hzt))
          refine br_t ?_ (nm_r (nI_1 v) (ih (v + 1) (by omega) ap' ak'))
          rw [xw_c8 (by omega), (hE v hv2).1, (hq.2 v hv2).1]
        · exact br_t (xw_bn hzt) (nm_r (nI_1 v) (ih (v + 1) (by omega) ap ak))
      by_cases hnil : rt_pt n rl og H v = []
      · exact br_t ((xw_lc_0 hn hpd.1).mpr hnil) tail
      · refine br_f (fun y => hnil ((xw_lc_0 hn hpd.1).mp y)) ?_
        exact gw_pathOk hn hv2 hpd hnil (br_f xw_10 tail)
  by_cases hz : rt_tot Q 64 = 0
  · exact br_t (by rw [hz]; rfl) ⟨n + 1, key true (fun _ => hz) n 0 (by omega) ap ak⟩
  · exact br_f (xw_ne (b := 0) (by omega) (by decide) hz) ⟨n + 1, key false (fun y => (nomatch y)) n 0 (by omega) ap ak⟩
end
/-! the law's steps -/
section
variable {n d : Nat} {L : Nat} {xs : Nat → Int32} {post : Int32 → Prop} {J79 : Int32 → Int32 → Int32 → Int32 → (Nat → Int32) → (Nat → Int32) → (Nat → Int32) → (Nat → Int64) → (Nat → Int32) → (Nat → Int64) → (Nat → Int64) → (Nat → Int64) → (Nat → Int32) → Prop} {x4 x6 : Int32} {kc ks t : Nat}
theorem gw_nn {n : Nat} (h2 : 2 ≤ n) (h8 : n ≤ 8) : 0 < n * n ∧ n * n ≤ 64 := by
  have h1 := Nat.mul_le_mul h8 h8
  have h3 := Nat.mul_le_mul h2 h2
  omega
theorem gw_282 (h2 : 2 ≤ n) (h8 : n ≤ 8) (x7 x12 x13 : Int32) (hJ : ∀ (ao ar al : Nat → Int32) (ah : Nat → Int64) (aw : Nat → Int32) (sl ab ap : Nat → Int64) (ak : Nat → Int32), gw_G n d (nI n, nI d, ao, ar, al, ah, aw, sl, ab, ap, ak) → J79 x7 (nI (t + 1)) (nI n) (nI d) ao ar al ah aw sl ab ap ak) : ∀ m i, i + m = n * n → ∀ (x14 : Int32) (ao ar al : Nat → Int32) (ah : Nat → Int64) (aw : Nat → Int32) (sl ab ap : Nat → Int64) (ak : Nat → Int32), gw_G n d (nI n, nI d, ao, ar, al, ah, aw, sl, ab, ap, ak) →
    wL_law_282 post L xs J79 (nI n) x4 (nI (n * n)) x6 x7 (nI t) x12 x13 kc ks (m + 1) x14 (nI i) (nI n) (nI d) ao ar al ah aw sl ab ap ak := by
  have hnn := gw_nn h2 h8
  have z5 : ¬ nI (n * n) = 0 := nI_ne0 hnn.1 (by omega)
  have z1 : ¬ nI n = 0 := nI_ne0 (by omega) (by omega)
  intro m
  induction m with
  | zero =>
    intro i hi x14 ao ar al ah aw sl ab ap ak h
    have e : i = n * n := by omega
    subst e
    exact br_t (xw_le (Nat.le_refl _) (by omega)) (gw_check _ hJ ao ar al ah aw sl ab ap ak h)
  | succ m ih =>
    intro i hi x14 ao ar al ah aw sl ab ap ak h
    refine br_f (xw_ge (by omega) (by omega)) (br_c (fun _ => ⟨z5, fun x16 _ => ⟨z1, z1, ?_⟩⟩) (fun _ => gw_check _ hJ ao ar al ah aw sl ab ap ak h))
    refine gw_relation h _ _ (fun r => br_c (fun _ => nm_r (nI_1 i) (ih (i + 1) (by omega) x14 ao ar al ah aw sl ab ap ak h)) (fun _ => ⟨z1, z1, ?_⟩))
    refine gw_fail h _ _ (fun r u' hu' => ?_)
    have hu2 := hu'
    obtain ⟨_, _, _, _, _, ab2, ap2, ak2, _, ao2, ar2, al2, ah2, aw2, sl2, rfl, _⟩ := hu2
    refine br_c (fun _ => ⟨z1, z1, ?_⟩) (fun _ => nm_r (nI_1 i) (ih (i + 1) (by omega) 1 ao2 ar2 al2 ah2 aw2 sl2 ab2 ap2 ak2 hu'))
    refine gw_restore hu' _ _ (fun r u3 hu3 => ?_)
    have hu4 := hu3
    obtain ⟨_, _, _, _, _, ab3, ap3, ak3, _, ao3, ar3, al3, ah3, aw3, sl3, rfl, _⟩ := hu4
    exact nm_r (nI_1 i) (ih (i + 1) (by omega) 1 ao3 ar3 al3 ah3 aw3 sl3 ab3 ap3 ak3 hu3)
theorem gw_450 (h2 : 2 ≤ n) (h8 : n ≤ 8) (x9 x14 : Int32) (h1 : post 1) (hJ : ∀ (x7 : Int32) (ao ar al : Nat → Int32) (ah : Nat → Int64) (aw : Nat → Int32) (sl ab ap : Nat → Int64) (ak : Nat → Int32), gw_G n d (nI n, nI d, ao, ar, al, ah, aw, sl, ab, ap, ak) → J79 x7 (nI (t + 1)) (nI n) (nI d) ao ar al ah aw sl ab ap ak) : ∀ m i, i + m = n * n → ∀ (x7 x15 : Int32) (ao ar al : Nat → Int32) (ah : Nat → Int64) (aw : Nat → Int32) (sl ab ap : Nat → Int64) (ak : Nat → Int32), gw_G n d (nI n, nI d, ao, ar, al, ah, aw, sl, ab, ap, ak) →
    wL_law_450 post L xs J79 (nI n) x4 (nI (n * n)) x6 (nI t) x9 x14 kc ks (m + 1) x7 x15 (nI i) (nI n) (nI d) ao ar al ah aw sl ab ap ak := by
  have hnn := gw_nn h2 h8
  have z5 : ¬ nI (n * n) = 0 := nI_ne0 hnn.1 (by omega)
  have z1 : ¬ nI n = 0 := nI_ne0 (by omega) (by omega)
  have fin : ∀ (x7 x15 : Int32) (ao ar al : Nat → Int32) (ah : Nat → Int64) (aw : Nat → Int32) (sl ab ap : Nat → Int64) (ak : Nat → Int32), gw_G n d (nI n, nI d, ao, ar, al, ah, aw, sl, ab, ap, ak) → wL_law_518 post L xs J79 (nI n) x4 (nI (n * n)) x6 x7 (nI t) x9 x15 kc ks (nI n) (nI d) ao ar al ah aw sl ab ap ak := by
    intro x7 x15 ao ar al ah aw sl ab ap ak h
    exact br_c (fun _ => gw_check _ (hJ x7) ao ar al ah aw sl ab ap ak h) (fun _ => br_c (fun _ => h1) (fun _ => gw_check _ (hJ x7) ao ar al ah aw sl ab ap ak h))
  intro m
  induction m with
  | zero =>
    intro i hi x7 x15 ao ar al ah aw sl ab ap ak h
    have e : i = n * n := by omega
    subst e
    exact br_t (xw_le (Nat.le_refl _) (by omega)) (fin x7 x15 ao ar al ah aw sl ab ap ak h)
  | succ m ih =>
    intro i hi x7 x15 ao ar al ah aw sl ab ap ak h
    refine br_f (xw_ge (by omega) (by omega)) (br_c (fun _ => ⟨z5, fun x17 _ => ⟨z1, z1, ?_⟩⟩) (fun _ => fin x7 x15 ao ar al ah aw sl ab ap ak h))
    refine gw_message h _ _ (fun r => br_c (fun _ => nm_r (nI_1 i) (ih (i + 1) (by omega) x7 x15 ao ar al ah aw sl ab ap ak h)) (fun _ => ⟨z1, z1, ?_⟩))
    refine gw_deliver h _ _ (fun r u' hu' => ?_)
    have hu2 := hu'
    obtain ⟨_, _, _, _, _, ab2, ap2, ak2, _, ao2, ar2, al2, ah2, aw2, sl2, rfl, _⟩ := hu2
    exact nm_e (nm_r (nI_1 i) (ih (i + 1) (by omega) _ 1 ao2 ar2 al2 ah2 aw2 sl2 ab2 ap2 ak2 hu'))
theorem gw_202 (hL : L ≤ 260) (h2 : 2 ≤ n) (h8 : n ≤ 8) (x7 x9 z0 : Int32) {s k : Nat} (hk : k < 100000) (ht : t < 100000) (hx : ¬ x9 = 0 → n + s ≤ t) (h1 : post 1) (hJ : ∀ (x7 : Int32) (ao ar al : Nat → Int32) (ah : Nat → Int64) (aw : Nat → Int32) (sl ab ap : Nat → Int64) (ak : Nat → Int32), gw_G n d (nI n, nI d, ao, ar, al, ah, aw, sl, ab, ap, ak) → J79 x7 (nI (t + 1)) (nI n) (nI d) ao ar al ah aw sl ab ap ak) (ao ar al : Nat → Int32) (ah : Nat → Int64) (aw : Nat → Int32) (sl ab ap : Nat → Int64) (ak : Nat → Int32) (h : gw_G n d (nI n, nI d, ao, ar, al, ah, aw, sl, ab, ap, ak)) :
    wL_law_202 post L xs J79 (nI n) (nI s) (nI (n * n)) x6 x7 (nI t) x9 (nI k) z0 kc ks (nI n) (nI d) ao ar al ah aw sl ab ap ak := by
  have hnn := gw_nn h2 h8
  have z1 : ¬ nI n = 0 := nI_ne0 (by omega) (by omega)
  have en : nI n - 1 = nI (n - 1) := pk_sub (b := 1) (by omega)
  unfold wL_law_202
  rw [nI_1, show nI k + 2 = nI (k + 2) from nI_add k 2, en]
  refine gw_cell hL (by omega) (fun r1 => ?_)
  refine gw_pick r1 (by omega) (by omega) (fun a ha => ?_)
  refine gw_cell hL (by omega) (fun r2 => ?_)
  refine gw_pick r2 (by omega) (by omega) (fun c hc => ⟨z1, fun x13 _ => ?_⟩)
  have nx : ∀ u', gw_G n d u' → (match u' with | (N, D, ao, ar, al, ah, aw, sl, ab, ap, ak) => wL_law_531 post L xs J79 (nI n) (nI s) (nI (n * n)) x6 x7 (nI t) kc ks N D ao ar al ah aw sl ab ap ak) := by
    intro u' hu'
    have hu2 := hu'
    obtain ⟨_, _, _, _, _, ab2, ap2, ak2, _, ao2, ar2, al2, ah2, aw2, sl2, rfl, _⟩ := hu2
    exact gw_check _ (hJ x7) ao2 ar2 al2 ah2 aw2 sl2 ab2 ap2 ak2 hu'
  refine br_c (fun _ => ?_) (fun _ => gw_addLink h _ _ _ (fun r u' hu' => nx u' hu'))
  have l282 : ∃ f, wL_law_282 post L xs J79 (nI n) (nI s) (nI (n * n)) x6 x7 (nI t) (nI a) x13 kc ks f 0 0 (nI n) (nI d) ao ar al ah aw sl ab ap ak := ⟨_, gw_282 h2 h8 x7 (nI a) x13 (hJ x7) (n * n) 0 (by omega) 0 ao ar al ah aw sl ab ap ak h⟩
  refine br_c (fun _ => l282) (fun _ => br_c (fun _ => l282) (fun _ => br_c (fun _ => ?_) (fun _ => br_c (fun _ => ?_) (fun _ => br_c (fun _ => ?_) (fun h9 => ?_)))))
  · refine gw_originate h _ (fun r u' hu' => ?_)
    have hu2 := hu'
    obtain ⟨_, _, _, _, _, ab2, ap2, ak2, _, ao2, ar2, al2, ah2, aw2, sl2, rfl, _⟩ := hu2
    exact br_c (fun _ => gw_withdraw hu' _ (fun r u3 hu3 => nx u3 hu3)) (fun _ => gw_check _ (hJ x7) ao2 ar2 al2 ah2 aw2 sl2 ab2 ap2 ak2 hu')
  · exact gw_settle h (fun r u' hu' => nx u' hu')
  · exact nm_e ⟨_, gw_450 h2 h8 x9 _ h1 hJ (n * n) 0 (by omega) x7 0 ao ar al ah aw sl ab ap ak h⟩
  · have ht2 := hx h9
    have e : nI t - nI n - nI s = nI (t - n - s) := by rw [pk_sub (by omega), pk_sub (by omega)]
    rw [e]
    refine gw_cell hL (by omega) (fun r3 => ?_)
    refine gw_pick r3 hnn.1 (by omega) (fun c2 hc2 => ?_)
    exact nm_e ⟨_, gw_450 h2 h8 x9 _ h1 hJ (n * n) 0 (by omega) x7 0 ao ar al ah aw sl ab ap ak h⟩
theorem gw_169 (hL : L ≤ 260) (h2 : 2 ≤ n) (h8 : n ≤ 8) (x7 z0 : Int32) {s : Nat} (ht : t < 10000) (hnt : n ≤ t) (hx : ¬ z0 = 0 → n + s ≤ t) (h1 : post 1) (hJ : ∀ (x7 : Int32) (ao ar al : Nat → Int32) (ah : Nat → Int64) (aw : Nat → Int32) (sl ab ap : Nat → Int64) (ak : Nat → Int32), gw_G n d (nI n, nI d, ao, ar, al, ah, aw, sl, ab, ap, ak) → J79 x7 (nI (t + 1)) (nI n) (nI d) ao ar al ah aw sl ab ap ak) (ao ar al : Nat → Int32) (ah : Nat → Int64) (aw : Nat → Int32) (sl ab ap : Nat → Int64) (ak : Nat → Int32) (h : gw_G n d (nI n, nI d, ao, ar, al, ah, aw, sl, ab, ap, ak)) :
    wL_law_169 post L xs J79 (nI n) (nI s) (nI (n * n)) x6 x7 (nI t) z0 kc ks (nI n) (nI d) ao ar al ah aw sl ab ap ak := by
  have e : 18 + 3 * (nI t - nI n) = nI (18 + 3 * (t - n)) := by
    rw [pk_sub hnt, show 3 * nI (t - n) = nI (3 * (t - n)) from pk_mul 3 _]
    exact nI_add 18 _
  unfold wL_law_169
  refine nm_r e (br_c (fun _ => ?_) (fun _ => gw_202 hL h2 h8 x7 z0 5 (by omega) (by omega) hx h1 hJ ao ar al ah aw sl ab ap ak h))
  refine gw_cell hL (by omega) (fun r => ?_)
  refine gw_pick (m := 16) r (by decide) (by decide) (fun j hj => ?_)
  exact gw_202 hL h2 h8 x7 z0 (nI j) (by omega) (by omega) hx h1 hJ ao ar al ah aw sl ab ap ak h
end
section
variable {n d : Nat} {L : Nat} {xs : Nat → Int32} {post : Int32 → Prop} {kc ks : Nat}
theorem gw_79 (hL : L ≤ 260) (h2 : 2 ≤ n) (h8 : n ≤ 8) {s : Nat} (hs : s ≤ 1000) (h1 : post 1) : ∀ m t, t + m = n + s + 5000 → ∀ (x7 : Int32) (ao ar al : Nat → Int32) (ah : Nat → Int64) (aw : Nat → Int32) (sl ab ap : Nat → Int64) (ak : Nat → Int32), gw_G n d (nI n, nI d, ao, ar, al, ah, aw, sl, ab, ap, ak) →
    wL_law_79 post L xs (nI n) (nI s) (nI (n * n)) (nI (n + s + 5000)) kc ks (m + 1) x7 (nI t) (nI n) (nI d) ao ar al ah aw sl ab ap ak := by
  intro m
  induction m with
  | zero =>
    intro t ht x7 ao ar al ah aw sl ab ap ak h
    have e : t = n + s + 5000 := by omega
    subst e
    exact br_t (nI_le (Nat.le_refl _) (by omega)) h1
  | succ m ih =>
    intro t ht x7 ao ar al ah aw sl ab ap ak h
    have hJ := fun (x7 : Int32) => ih (t + 1) (by omega) x7
    refine br_f (nI_ge (by omega) (by omega)) ?_
    have nx : ∀ u', gw_G n d u' → (match u' with | (N, D, ao, ar, al, ah, aw, sl, ab, ap, ak) => wL_law_531 post L xs (wL_law_79 post L xs (nI n) (nI s) (nI (n * n)) (nI (n + s + 5000)) kc ks (m + 1)) (nI n) (nI s) (nI (n * n)) (nI (n + s + 5000)) x7 (nI t) kc ks N D ao ar al ah aw sl ab ap ak) := by
      intro u' hu'
      have hu2 := hu'
      obtain ⟨_, _, _, _, _, ab2, ap2, ak2, _, ao2, ar2, al2, ah2, aw2, sl2, rfl, _⟩ := hu2
      exact gw_check _ (hJ x7) ao2 ar2 al2 ah2 aw2 sl2 ab2 ap2 ak2 hu'
    by_cases t0 : t = 0
    · refine br_t (by rw [t0]; rfl) ?_
      refine gw_cell (k := 2) hL (by decide) (fun r => ?_)
      refine gw_pick r (by omega) (by omega) (fun j hj => ?_)
      exact gw_originate h _ (fun r u' hu' => nx u' hu')
    · refine br_f (nI_ne0 (by omega) (by omega)) ?_
      by_cases tn : n ≤ t
      · refine br_t (nI_le tn (by omega)) ?_
        rw [nI_add]
        by_cases ts : t < n + s
        · exact br_t (nI_lt ts (by omega)) (gw_169 hL h2 h8 x7 0 (by omega) tn (fun z => absurd rfl z) h1 hJ ao ar al ah aw sl ab ap ak h)
        · exact br_f (nI_nlt (by omega) (by omega)) (gw_169 hL h2 h8 x7 1 (by omega) tn (fun _ => by omega) h1 hJ ao ar al ah aw sl ab ap ak h)
      · refine br_f (nI_ge (by omega) (by omega)) ?_
        have e1 : 2 + 2 * nI t = nI (2 + 2 * t) := by
          rw [show 2 * nI t = nI (2 * t) from pk_mul 2 t]
          exact nI_add 2 _
        have e2 : 3 + 2 * nI t = nI (3 + 2 * t) := by
          rw [show 2 * nI t = nI (2 * t) from pk_mul 2 t]
          exact nI_add 3 _
        rw [e1, e2]
        refine gw_cell hL (by omega) (fun r => ?_)
        refine gw_pick r (by omega) (by omega) (fun j hj => ?_)
        refine gw_cell hL (by omega) (fun r2 => ?_)
        refine gw_pick (m := 3) r2 (by decide) (by decide) (fun j2 hj2 => ?_)
        exact gw_addLink h _ _ _ (fun r u' hu' => nx u' hu')
theorem gw_56 (hL : L ≤ 260) (h2 : 2 ≤ n) (h8 : n ≤ 8) {s : Nat} (hs : s ≤ 1000) (h1 : post 1) (ao ar al : Nat → Int32) (ah : Nat → Int64) (aw : Nat → Int32) (sl ab ap : Nat → Int64) (ak : Nat → Int32) (h : gw_G n d (nI n, nI d, ao, ar, al, ah, aw, sl, ab, ap, ak)) : wL_law_56 post L xs (nI n) (nI s) kc ks (nI n) (nI d) ao ar al ah aw sl ab ap ak := by
  unfold wL_law_56
  refine nm_r (pk_mul n n) (nm_r (e' := nI (n + s + 5000)) ?_ ⟨_, gw_79 hL h2 h8 hs h1 (n + s + 5000) 0 (by omega) 0 ao ar al ah aw sl ab ap ak h⟩)
  rw [nI_add]
  exact nI_add _ 5000
end
theorem gw_clamp {post : Int32 → Prop} {k a b : Nat} (ha : a ≤ k) (hb : k ≤ b) (hm : b < 2 ^ 31) (hp : post (nI k)) : wpX_clamp post () (nI k) (nI a) (nI b) :=
  br_t (nI_le ha (by omega)) (br_t (nI_le hb hm) hp)
theorem gw_start {n d : Nat} (h2 : 2 ≤ n) (h8 : n ≤ 8) (d1 : 1 ≤ d) (d4 : d ≤ 4) : gw_G n d (nI n, nI d, (fun _ => 0), (fun _ => 0), (fun _ => 0), (fun _ => 0), (fun _ => 0), (fun _ => 0), (fun _ => 0), (fun _ => 0), (fun _ => 0)) := by
  have z8 : ∀ {α β : Type} (f : α → β) (g : Nat → Nat → α) (c : β), (∀ a b, f (g a b) = c) → xw_C f g (fun _ => c) := fun f g c h a b _ _ => (h a b).symm
  refine ⟨fun _ _ => 0, fun _ _ => false, fun _ => false, fun _ _ => [], fun _ _ => [], _, _, _, ⟨⟨h2, h8, fun _ _ => Or.inl rfl, fun _ _ z => (nomatch z), fun _ _ z => (nomatch z)⟩, ⟨d1, d4⟩, fun a b => ⟨rt_pd_nil n a, fun z => absurd rfl z⟩, fun a b => ⟨fun z => absurd rfl z, Nat.zero_le d, fun m hm => absurd hm List.not_mem_nil⟩, fun _ _ z => (nomatch z)⟩, ⟨_, _, _, _, _, _, rfl, ?_⟩⟩
  exact ⟨fun _ _ => rfl, z8 _ _ _ (fun _ _ => rfl), z8 _ _ _ (fun _ _ => rfl), z8 _ _ _ (fun _ _ => rfl), z8 _ _ _ (fun _ _ => rfl), fun _ _ _ _ _ _ _ z => (nomatch z)⟩
