/-! the reference settles: direction by direction -/
def rt_Hp (rl : Nat → Nat → Nat) (up : Nat → Nat → Bool) (P : Nat → List Nat) (K : Nat → Nat) (H : rt_HT) (u v : Nat) : rt_HT :=
  fun a b => if (a < u ∨ (a = u ∧ b < v)) ∧ up a b = true then rt_xp rl P K a b else H a b
def rt_Qp (Q : rt_QT) (u v : Nat) : rt_QT := fun a b => if a < u ∨ (a = u ∧ b < v) then [] else Q a b
section
variable {n : Nat} {rl : Nat → Nat → Nat} {up : Nat → Nat → Bool} {P : Nat → List Nat} {K : Nat → Nat} {H : rt_HT} {Q : rt_QT}
theorem rt_Hp_0 : rt_Hp rl up P K H 0 0 = H := by
  funext a b
  exact if_neg (by omega)
theorem rt_Qp_0 : rt_Qp Q 0 0 = Q := by
  funext a b
  exact if_neg (by omega)
theorem rt_Hp_t {u v : Nat} (h : up u v = true) : rt_Hp rl up P K H u (v + 1) = rt_u2 (rt_Hp rl up P K H u v) u v (rt_xp rl P K u v) := by
  funext a b
  by_cases z : a = u ∧ b = v
  · obtain ⟨rfl, rfl⟩ := z
    rw [rt_u2_s]
    exact if_pos ⟨by omega, h⟩
  · rw [rt_u2_n z]
    unfold rt_Hp
    by_cases y : (a < u ∨ (a = u ∧ b < v)) ∧ up a b = true
    · rw [if_pos y, if_pos ⟨by omega, y.2⟩]
    · rw [if_neg y, if_neg (fun w => y ⟨by omega, w.2⟩)]
theorem rt_Hp_f {u v : Nat} (h : ¬ up u v = true) : rt_Hp rl up P K H u (v + 1) = rt_Hp rl up P K H u v := by
  funext a b
  unfold rt_Hp
  by_cases y : (a < u ∨ (a = u ∧ b < v)) ∧ up a b = true
  · rw [if_pos y, if_pos ⟨by omega, y.2⟩]
  · by_cases z : a = u ∧ b = v
    · obtain ⟨rfl, rfl⟩ := z
      rw [if_neg y, if_neg (fun w => h w.2)]
    · rw [if_neg y, if_neg (fun w => y ⟨by omega, w.2⟩)]
theorem rt_Qp_s {u v : Nat} : rt_Qp Q u (v + 1) = rt_u2 (rt_Qp Q u v) u v [] := by
  funext a b
  by_cases z : a = u ∧ b = v
  · obtain ⟨rfl, rfl⟩ := z
    rw [rt_u2_s]
    exact if_pos (by omega)
  · rw [rt_u2_n z]
    unfold rt_Qp
    by_cases y : a < u ∨ (a = u ∧ b < v)
    · rw [if_pos y, if_pos (by omega)]
    · rw [if_neg y, if_neg (by omega)]
theorem rt_Hp_row (hc : rt_cf n rl up) (u : Nat) : rt_Hp rl up P K H u n = rt_Hp rl up P K H (u + 1) 0 := by
  funext a b
  unfold rt_Hp
  by_cases y : up a b = true
  · have := rt_up_lt hc y
    by_cases z : a < u ∨ (a = u ∧ b < n)
    · rw [if_pos ⟨z, y⟩, if_pos ⟨by omega, y⟩]
    · rw [if_neg (fun w => z w.1), if_neg (fun w => z (by omega))]
  · rw [if_neg (fun w => y w.2), if_neg (fun w => y w.2)]
theorem rt_Qp_row (hq : ∀ a b, ¬ (a < n ∧ b < n) → Q a b = []) (u : Nat) : rt_Qp Q u n = rt_Qp Q (u + 1) 0 := by
  funext a b
  unfold rt_Qp
  by_cases z : a < u ∨ (a = u ∧ b < n)
  · rw [if_pos z, if_pos (by omega)]
  · rw [if_neg z]
    by_cases y : a < u + 1 ∨ (a = u + 1 ∧ b < 0)
    · rw [if_pos y]
      exact hq a b (by omega)
    · rw [if_neg y]
theorem rt_Hp_end (hc : rt_cf n rl up) (hg : rt_gd n up H) : rt_Hp rl up P K H n 0 = rt_HE rl up P K := by
  funext a b
  unfold rt_Hp rt_HE
  by_cases y : up a b = true
  · have := rt_up_lt hc y
    rw [if_pos ⟨by omega, y⟩, if_pos y]
  · rw [if_neg (fun w => y w.2), if_neg y]
    exact rt_gd_no hg y
theorem rt_Qp_end (hq : ∀ a b, ¬ (a < n ∧ b < n) → Q a b = []) : rt_Qp Q n 0 = fun _ _ => [] := by
  funext a b
  unfold rt_Qp
  by_cases y : a < n ∨ (a = n ∧ b < 0)
  · rw [if_pos y]
  · rw [if_neg y]
    exact hq a b (by omega)
end
section
variable {n d : Nat} {rl : Nat → Nat → Nat} {up : Nat → Nat → Bool} {og : Nat → Bool} {H : rt_HT} {Q : rt_QT} {ao ar al : Nat → Int32} {ah : Nat → Int64} {aw : Nat → Int32} {sl ac ab : Nat → Int64} {ak : Nat → Int32}
theorem yw_count {H' : rt_HT} {Q' : rt_QT} (hA : xw_A rl up og (rt_tr H') Q' ao ar al ah aw sl) (hc : rt_cf n rl up) (hg : ∀ a b, rt_ok n (H a b)) (hg' : rt_gd n up H') {post : Int32 → SY → Prop}
    (hb : ∀ v, v < n → ab v = xw_lc (rt_pt n rl og H v))
    (hp : post (nI (rt_chg (rt_pt n rl og H) (rt_pt n rl og H') n)) (nI n, nI d, ao, ar, al, ah, aw, sl, ac, ak, ab)) : ∃ f, wY_settle_123 post (nI n) (nI d) ao ar al ah aw sl ac ak ab f 0 0 := by
  have hn := hc.2.1
  have key : ∀ m i, i + m = n → wY_settle_123 post (nI n) (nI d) ao ar al ah aw sl ac ak ab (m + 1) (nI (rt_chg (rt_pt n rl og H) (rt_pt n rl og H') i)) (nI i) := by
    intro m
    induction m with
    | zero =>
      intro i hi
      have e : i = n := by omega
      subst e
      exact br_t (xw_le (Nat.le_refl i) (by omega)) hp
    | succ m ih =>
      intro i hi
      refine br_f (xw_ge (by omega) (by omega)) ?_
      refine yw_codeOf hA hc hg' (by omega) ⟨xw_i8 (by omega), ?_⟩
      have e1 : ab (nI i).toNatClampNeg = xw_lc (rt_pt n rl og H i) := by rw [xw_c8 (by omega)]; exact hb i (by omega)
      have ok1 := (rt_pt_pd (rl := rl) (og := og) hg (show i < n by omega)).1
      have ok2 := (rt_pt_pd (rl := rl) (og := og) (fun a b => (hg' a b).1) (show i < n by omega)).1
      by_cases z : rt_pt n rl og H' i = rt_pt n rl og H i
      · refine br_t (by rw [e1, z]) (nm_r (nI_1 i) ?_)
        have h := ih (i + 1) (by omega)
        rw [rt_chg, if_pos z] at h
        exact h
      · refine br_f (by rw [e1]; exact fun y => z ((xw_lc_eq hn ok2 ok1).mp y)) ?_
        have h := ih (i + 1) (by omega)
        rw [rt_chg, if_neg z] at h
        exact nm_r (nI_1 _) (nm_r (nI_1 i) h)
  exact ⟨n + 1, key n 0 (by omega)⟩
end
section
variable {n d : Nat} {rl : Nat → Nat → Nat} {up : Nat → Nat → Bool} {og : Nat → Bool} {H : rt_HT} {Q : rt_QT}
theorem yw_settle33 (hI : rt_inv n d rl up og H Q) {E : rt_ET} (hW : rt_W n rl E) (hF : rt_F n rl up og E.1 E.2) {ao ar al : Nat → Int32} {sl ac ab : Nat → Int64} {ak : Nat → Int32} (hE : xw_E n E ac ak)
    (hb : ∀ v, v < n → ab v = xw_lc (rt_pt n rl og H v)) {post : Int32 → SY → Prop}
    (hp : ∀ u', yw_Y n d rl up og (rt_HE rl up E.1 E.2) (fun _ _ => []) ac ak ab u' → post (nI (rt_chg (rt_pt n rl og H) (rt_pt n rl og (rt_HE rl up E.1 E.2)) n)) u') : ∀ m u, u + m = n → ∀ (ah : Nat → Int64) (aw : Nat → Int32),
    xw_A rl up og (rt_tr (rt_Hp rl up E.1 E.2 H u 0)) (rt_Qp Q u 0) ao ar al ah aw sl → wY_settle_33 post (nI n) (nI d) (m + 1) (nI u) ao ar al ah aw sl ac ak ab := by
  obtain ⟨hc, hd, gh, gq, _⟩ := hI
  have hc' := hc
  obtain ⟨_, hn, hr, hup, _⟩ := hc'
  have hq0 : ∀ a b, ¬ (a < n ∧ b < n) → Q a b = [] := by
    intro a b hab
    by_cases e : Q a b = []
    · exact e
    · have := rt_up_lt hc ((gq a b).1 e)
      omega
  intro m
  induction m with
  | zero =>
    intro u hu ah aw hA
    have e : u = n := by omega
    subst e
    rw [rt_Hp_end hc (rt_gh_gd gh), rt_Qp_end hq0] at hA
    refine br_t (xw_le (Nat.le_refl u) (by omega)) ?_
    exact yw_count hA hc (fun a b => (gh a b).1.1) (rt_HE_gd hc hF) hb (hp _ ⟨ao, ar, al, ah, aw, sl, rfl, hA⟩)
  | succ m ih =>
    intro u hu ah aw hA
    refine br_f (xw_ge (by omega) (by omega)) ?_
    have row : ∀ k v, v + k = n → ∀ (ah : Nat → Int64) (aw : Nat → Int32), xw_A rl up og (rt_tr (rt_Hp rl up E.1 E.2 H u v)) (rt_Qp Q u v) ao ar al ah aw sl →
        wY_settle_43 post (wY_settle_33 post (nI n) (nI d) (m + 1)) (nI u) (nI n) (nI d) (k + 1) (nI v) ao ar al ah aw sl ac ak ab := by
      intro k
      induction k with
      | zero =>
        intro v hv ah aw hA
        have e : v = n := by omega
        subst e
        rw [rt_Hp_row hc, rt_Qp_row hq0] at hA
        exact br_t (xw_le (Nat.le_refl v) (by omega)) (nm_r (nI_1 u) (ih (u + 1) (by omega) ah aw hA))
      | succ k ihk =>
        intro v hv ah aw hA
        have hcl : (nI (u * 8 + v)).toNatClampNeg = u * 8 + v := nI_clamp (by omega)
        have hin : vp_in (nI (u * 8 + v)) 64 := vp_in_nI (by omega) (by decide)
        have e1 : al (nI (u * 8 + v)).toNatClampNeg = xw_b (up u v) := by rw [hcl]; exact hA.2.2.1 u v (by omega) (by omega)
        have e2 : ar (nI (u * 8 + v)).toNatClampNeg = nI (rl u v) := by rw [hcl]; exact hA.2.1 u v (by omega) (by omega)
        have e3 : ac (nI u).toNatClampNeg = xw_lc (E.1 u) := by rw [xw_c8 (by omega)]; exact (hE u (by omega)).1
        have e4 : ak (nI u).toNatClampNeg = nI (E.2 u) := by rw [xw_c8 (by omega)]; exact (hE u (by omega)).2
        obtain ⟨A1, A2, A3, A4, A5, A6⟩ := hA
        have A5' : xw_C xw_wc (rt_Qp Q u (v + 1)) (upd aw (u * 8 + v) 0) := by
          rw [rt_Qp_s]
          exact xw_C_32 A5 (by omega) rfl
        have A6' : xw_S (rt_T (rt_Qp Q u (v + 1))) sl := by
          refine xw_S_mono A6 (fun a' b' k x ha' hb' hk hx => ?_)
          have hx2 : (rt_Qp Q u (v + 1) a' b')[k]? = some x := hx
          rw [rt_Qp_s] at hx2
          by_cases z : a' = u ∧ b' = v
          · obtain ⟨rfl, rfl⟩ := z
            rw [rt_u2_s] at hx2
            cases hx2
          · rw [rt_u2_n z] at hx2
            exact hx2
        refine br_f (xw_ge (by omega) (by omega)) (nm_r (xw_ix u v) ⟨hin, nm_r (e' := upd aw (u * 8 + v) 0) (by rw [hcl]) ⟨hin, ?_⟩⟩)
        by_cases hu2 : up u v = true
        · refine br_f (by rw [e1]; exact xw_b_ne hu2) ⟨xw_i8 (by omega), xw_i8 (by omega), hin, ?_⟩
          rw [e2, e3, e4]
          refine yw_exported (hW u (by omega)).2.2.1 (rt_rl_le hr u v) ⟨xw_in (by omega) (by omega), ?_⟩
          have hex : (if E.2 u = 1 ∨ E.2 u = 2 ∨ rl u v = 2 then E.1 u else []) = rt_xp rl E.1 E.2 u v := rfl
          rw [hex]
          refine nm_r (e' := vp_updL ah (v * 8 + u) (xw_lc (rt_xp rl E.1 E.2 u v))) (by rw [xw_cl (by omega) (by omega)]) (nm_r (nI_1 v) (ihk (v + 1) (by omega) _ _ ⟨A1, A2, A3, ?_, A5', A6'⟩))
          rw [rt_Hp_t hu2, rt_tr_u]
          exact xw_C_64 A4 (by omega) rfl
        · refine br_t (by rw [e1]; exact xw_bn hu2) (nm_r (nI_1 v) (ihk (v + 1) (by omega) _ _ ⟨A1, A2, A3, ?_, A5', A6'⟩))
          rw [rt_Hp_f hu2]
          exact A4
    exact ⟨n + 1, row n 0 (by omega) ah aw hA⟩
theorem yw_settle (hI : rt_inv n d rl up og H Q) {ao ar al : Nat → Int32} {ah : Nat → Int64} {aw : Nat → Int32} {sl : Nat → Int64} (hA : xw_A rl up og (rt_tr H) Q ao ar al ah aw sl) (ac ab : Nat → Int64) (ak : Nat → Int32) {post : Int32 → SY → Prop}
    (hp : ∀ ac' ak' ab' u', yw_Y n d rl up og (rt_HE rl up (rt_fd n rl up og n).1 (rt_fd n rl up og n).2) (fun _ _ => []) ac' ak' ab' u' → post (nI (rt_chg (rt_pt n rl og H) (rt_pt n rl og (rt_HE rl up (rt_fd n rl up og n).1 (rt_fd n rl up og n).2)) n)) u') :
    wpY_settle post (nI n, nI d, ao, ar, al, ah, aw, sl, ac, ak, ab) := by
  have hc := hI.1
  have hn := hc.2.1
  have hgd := rt_gh_gd hI.2.2.1
  have hF := rt_fd_F hc og (m := n) (by have := hc.1; omega)
  have hW : rt_W n rl (rt_fd n rl up og n) := by
    rw [← rt_kq_3]
    exact rt_kq_W hc og 3 (by decide)
  have key : ∀ m i, i + m = n → ∀ ab : Nat → Int64, (∀ v, v < i → ab v = xw_lc (rt_pt n rl og H v)) → wY_settle_2 post (nI n) (nI d) (m + 1) (nI i) ao ar al ah aw sl ac ak ab := by
    intro m
    induction m with
    | zero =>
      intro i hi ab hb
      have e : i = n := by omega
      subst e
      refine br_t (xw_le (Nat.le_refl i) (by omega)) ?_
      refine yw_compute hA hc ac ak (fun ac' ak' hE => ?_)
      rw [← rt_Hp_0 (rl := rl) (up := up) (P := (rt_fd i rl up og i).1) (K := (rt_fd i rl up og i).2) (H := H), ← rt_Qp_0 (Q := Q)] at hA
      exact ⟨i + 1, yw_settle33 hI hW hF hE hb (fun u' hu' => hp ac' ak' ab u' hu') i 0 (by omega) ah aw hA⟩
    | succ m ih =>
      intro i hi ab hb
      refine br_f (xw_ge (by omega) (by omega)) ?_
      refine yw_codeOf hA hc hgd (by omega) ⟨xw_i8 (by omega), ?_⟩
      refine nm_r (e' := vp_updL ab i (xw_lc (rt_pt n rl og H i))) (by rw [xw_c8 (by omega)]) (nm_r (nI_1 i) (ih (i + 1) (by omega) _ (fun v hv => ?_)))
      by_cases e : v = i
      · subst e; exact pk_uLs
      · rw [pk_uLn e]; exact hb v (by omega)
  exact ⟨n + 1, key n 0 (by omega) ab (fun v hv => absurd hv (Nat.not_lt_zero v))⟩
end
