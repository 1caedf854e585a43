/-! messages in the cells -/
theorem rt_u2_id {α : Type} (g : Nat → Nat → α) (a b : Nat) : rt_u2 g a b (g a b) = g := by
  funext c e
  by_cases z : c = a ∧ e = b
  · obtain ⟨rfl, rfl⟩ := z
    exact rt_u2_s
  · exact rt_u2_n z
theorem xw_C_same {α β : Type} {f : α → β} {g : Nat → Nat → α} {ar : Nat → β} {a b : Nat} {x : α} (h : xw_C f g ar) (hx : f x = f (g a b)) : xw_C f (rt_u2 g a b x) ar := by
  intro c e hc he
  by_cases z : c = a ∧ e = b
  · obtain ⟨rfl, rfl⟩ := z
    rw [rt_u2_s, hx]
    exact h c e hc he
  · rw [rt_u2_n z]
    exact h c e hc he
theorem rt_app_at {q : List (List Nat)} {e m : List Nat} {k : Nat} (h : (q ++ [e])[k]? = some m) : (k = q.length ∧ m = e) ∨ (k ≠ q.length ∧ q[k]? = some m) := by
  rw [List.getElem?_append] at h
  by_cases z : k < q.length
  · rw [if_pos z] at h
    exact Or.inr ⟨by omega, h⟩
  · rw [if_neg z] at h
    have hk : k - q.length = 0 := by
      by_cases y : k - q.length = 0
      · exact y
      · rw [List.getElem?_eq_none (by rw [List.length_singleton]; omega)] at h
        cases h
    rw [hk] at h
    exact Or.inl ⟨by omega, (Option.some.inj h).symm⟩
theorem rt_rep_at {q : List (List Nat)} {e m : List Nat} {k : Nat} (h : (q.dropLast ++ [e])[k]? = some m) : (k = q.length - 1 ∧ m = e) ∨ (k ≠ q.length - 1 ∧ q[k]? = some m) := by
  rcases rt_app_at h with z | ⟨z1, z2⟩
  · rw [List.length_dropLast] at z
    exact Or.inl z
  · rw [List.length_dropLast] at z1
    refine Or.inr ⟨z1, ?_⟩
    rw [List.getElem?_dropLast] at z2
    by_cases y : k < q.length - 1
    · rw [if_pos y] at z2
      exact z2
    · rw [if_neg y] at z2
      cases z2
theorem rt_last_at {q : List (List Nat)} {h : List Nat} (hq : q ≠ []) : q[q.length - 1]? = some (q.getLastD h) := by
  rw [List.getLastD_eq_getLast?, ← List.getLast?_eq_getElem?]
  cases hl : q.getLast? with
  | none => exact absurd (List.getLast?_eq_none_iff.mp hl) hq
  | some m => rfl
theorem xw_S_put {Q : rt_QT} {sl : Nat → Int64} {a b j : Nat} {e : List Nat} {q' : List (List Nat)} (h : xw_S (rt_T Q) sl) (hb : b < 8) (hj : j < 4)
    (hT : ∀ k m, k < 4 → q'[k]? = some m → (k = j ∧ m = e) ∨ (k ≠ j ∧ (Q a b)[k]? = some m)) : xw_S (rt_T (rt_u2 Q a b q')) (vp_updL sl ((a * 8 + b) * 4 + j) (xw_lc e)) := by
  refine xw_S_u h hb hj rfl (fun a' b' k m ha' hb' hk hm => ?_)
  have hm2 : (rt_u2 Q a b q' a' b')[k]? = some m := hm
  by_cases z : a' = a ∧ b' = b
  · obtain ⟨rfl, rfl⟩ := z
    rw [rt_u2_s] at hm2
    rcases hT k m hk hm2 with ⟨y1, y2⟩ | ⟨y1, y2⟩
    · exact Or.inl ⟨⟨rfl, rfl, y1⟩, y2⟩
    · exact Or.inr ⟨fun w => y1 w.2.2, y2⟩
  · rw [rt_u2_n z] at hm2
    exact Or.inr ⟨fun w => z ⟨w.1, w.2.1⟩, hm2⟩
section
variable {n d : Nat} {rl : Nat → Nat → Nat} {up : Nat → Nat → Bool} {og : Nat → Bool} {H : rt_HT} {Q : rt_QT} {ao ar al : Nat → Int32} {ah : Nat → Int64} {aw : Nat → Int32} {sl ab ap : Nat → Int64} {ak : Nat → Int32}
theorem xw_send39 (hA : xw_A rl up og H Q ao ar al ah aw sl) (hn : n ≤ 8) (hd : 1 ≤ d ∧ d ≤ 4) {a b : Nat} (ha : a < 8) (hb : b < 8) (hq : (Q a b).length ≤ d) {e l0 : List Nat}
    (he : rt_ok n e) (hl : rt_ok n l0) (h0 : l0 = (Q a b).getLastD (H a b)) {post : St2 → Prop}
    (hp : ∀ u', xw_X n d rl up og H (rt_u2 Q a b (rt_sd d (Q a b) (H a b) e)) ab ap ak u' → post u') :
    wX_send_39 post (nI (a * 8 + b)) (xw_lc e) (nI (Q a b).length) (nI ((a * 8 + b) * 4 + (Q a b).length)) (xw_lc l0) (nI n) (nI d) ao ar al ah aw sl ab ap ak := by
  unfold rt_sd at hp
  by_cases z : e = l0
  · rw [if_pos (by rw [← h0]; exact z), rt_u2_id] at hp
    exact br_t (by rw [z]) (hp _ ⟨ao, ar, al, ah, aw, sl, rfl, hA⟩)
  · rw [if_neg (by rw [← h0]; exact z)] at hp
    refine br_f (fun y => z ((xw_lc_eq hn he hl).mp y)) ?_
    obtain ⟨A1, A2, A3, A4, A5, A6⟩ := hA
    by_cases hf : (Q a b).length < d
    · rw [if_pos hf] at hp
      refine br_f (xw_ge hf (by omega)) ⟨vp_in_nI (by omega) (by decide), nm_r (e' := vp_updL sl ((a * 8 + b) * 4 + (Q a b).length) (xw_lc e)) (by rw [nI_clamp (by omega)]) ?_⟩
      refine ⟨vp_in_nI (by omega) (by decide), nm_r (e' := upd aw (a * 8 + b) (nI ((Q a b).length + 1))) (by rw [nI_clamp (by omega), nI_1]) ?_⟩
      refine hp _ ⟨ao, ar, al, ah, _, _, rfl, A1, A2, A3, A4, xw_C_32 A5 hb ?_, xw_S_put A6 hb (by omega) (fun k m hk hm => rt_app_at hm)⟩
      show nI ((Q a b).length + 1) = nI ((Q a b) ++ [e]).length
      rw [List.length_append, List.length_singleton]
    · rw [if_neg hf] at hp
      have e1 : nI ((a * 8 + b) * 4 + (Q a b).length) - 1 = nI ((a * 8 + b) * 4 + ((Q a b).length - 1)) := by
        have := pk_sub (a := (a * 8 + b) * 4 + (Q a b).length) (b := 1) (by omega)
        rw [show (a * 8 + b) * 4 + (Q a b).length - 1 = (a * 8 + b) * 4 + ((Q a b).length - 1) by omega] at this
        exact this
      refine br_t (xw_le (by omega) (by omega)) ?_
      rw [e1]
      refine ⟨vp_in_nI (by omega) (by decide), nm_r (e' := vp_updL sl ((a * 8 + b) * 4 + ((Q a b).length - 1)) (xw_lc e)) (by rw [nI_clamp (by omega)]) ?_⟩
      refine hp _ ⟨ao, ar, al, ah, aw, _, rfl, A1, A2, A3, A4, xw_C_same A5 ?_, xw_S_put A6 hb (by omega) (fun k m hk hm => rt_rep_at hm)⟩
      show nI ((Q a b).dropLast ++ [e]).length = nI (Q a b).length
      rw [List.length_append, List.length_singleton, List.length_dropLast, show (Q a b).length - 1 + 1 = (Q a b).length by omega]
theorem xw_send (hA : xw_A rl up og H Q ao ar al ah aw sl) (hn : n ≤ 8) (hd : 1 ≤ d ∧ d ≤ 4) {a b : Nat} (ha : a < 8) (hb : b < 8) (hq : (Q a b).length ≤ d) {e : List Nat}
    (he : rt_ok n e) (hh : rt_ok n (H a b)) (hm : ∀ m, m ∈ Q a b → rt_ok n m) {post : St2 → Prop}
    (hp : ∀ u', xw_X n d rl up og H (rt_u2 Q a b (rt_sd d (Q a b) (H a b) e)) ab ap ak u' → post u') :
    wpX_send post (nI n, nI d, ao, ar, al, ah, aw, sl, ab, ap, ak) (nI (a * 8 + b)) (xw_lc e) := by
  refine ⟨vp_in_nI (by omega) (by decide), nm_r (e' := nI (Q a b).length) (by rw [nI_clamp (by omega)]; exact hA.2.2.2.2.1 a b ha hb) ?_⟩
  refine nm_r (e' := nI ((a * 8 + b) * 4 + (Q a b).length)) (by rw [show nI (a * 8 + b) * 4 = nI ((a * 8 + b) * 4) from pk_mul _ 4, nI_add]) ?_
  by_cases hz : Q a b = []
  · refine br_t (by rw [hz]; rfl) ⟨vp_in_nI (by omega) (by decide), ?_⟩
    have e1 : ah (nI (a * 8 + b)).toNatClampNeg = xw_lc (H a b) := by rw [nI_clamp (by omega)]; exact hA.2.2.2.1 a b ha hb
    rw [e1]
    exact xw_send39 hA hn hd ha hb hq he hh (by rw [hz]; rfl) hp
  · have hpos : 0 < (Q a b).length := List.length_pos_iff.mpr hz
    refine br_f (nI_ne0 hpos (by omega)) ?_
    have e1 : nI ((a * 8 + b) * 4 + (Q a b).length) - 1 = nI ((a * 8 + b) * 4 + ((Q a b).length - 1)) := by
      have := pk_sub (a := (a * 8 + b) * 4 + (Q a b).length) (b := 1) (by omega)
      rw [show (a * 8 + b) * 4 + (Q a b).length - 1 = (a * 8 + b) * 4 + ((Q a b).length - 1) by omega] at this
      exact this
    have hl := rt_last_at (h := H a b) hz
    have e2 : sl (nI ((a * 8 + b) * 4 + (Q a b).length) - 1).toNatClampNeg = xw_lc ((Q a b).getLastD (H a b)) := by
      rw [e1, nI_clamp (by omega)]
      exact hA.2.2.2.2.2 a b ((Q a b).length - 1) _ ha hb (by omega) hl
    refine ⟨by rw [e1]; exact vp_in_nI (by omega) (by decide), ?_⟩
    rw [e2]
    exact xw_send39 hA hn hd ha hb hq he (hm _ (List.mem_of_getElem? hl)) rfl hp
end
/-! all that is sent, direction by direction -/
def rt_part (n d : Nat) (rl : Nat → Nat → Nat) (up : Nat → Nat → Bool) (og : Nat → Bool) (H : rt_HT) (Q : rt_QT) (v i : Nat) : rt_QT :=
  fun a b => if (a < v ∨ (a = v ∧ b < i)) ∧ up a b = true then rt_sd d (Q a b) (H a b) (rt_ex n rl og H a b) else Q a b
section
variable {n d : Nat} {rl : Nat → Nat → Nat} {up : Nat → Nat → Bool} {og : Nat → Bool} {H : rt_HT} {Q : rt_QT}
theorem rt_part_0 : rt_part n d rl up og H Q 0 0 = Q := by
  funext a b
  exact if_neg (by omega)
theorem rt_part_at (v i : Nat) : rt_part n d rl up og H Q v i v i = Q v i := if_neg (by omega)
theorem rt_part_t {v i : Nat} (h : up v i = true) : rt_part n d rl up og H Q v (i + 1) = rt_u2 (rt_part n d rl up og H Q v i) v i (rt_sd d (Q v i) (H v i) (rt_ex n rl og H v i)) := by
  funext a b
  by_cases z : a = v ∧ b = i
  · obtain ⟨rfl, rfl⟩ := z
    rw [rt_u2_s]
    exact if_pos ⟨by omega, h⟩
  · rw [rt_u2_n z]
    unfold rt_part
    by_cases y : (a < v ∨ (a = v ∧ b < i)) ∧ up a b = true
    · rw [if_pos y, if_pos ⟨by omega, y.2⟩]
    · rw [if_neg y, if_neg (fun w => y ⟨by omega, w.2⟩)]
theorem rt_part_f {v i : Nat} (h : ¬ up v i = true) : rt_part n d rl up og H Q v (i + 1) = rt_part n d rl up og H Q v i := by
  funext a b
  unfold rt_part
  by_cases y : (a < v ∨ (a = v ∧ b < i)) ∧ up a b = true
  · rw [if_pos y, if_pos ⟨by omega, y.2⟩]
  · by_cases z : a = v ∧ b = i
    · obtain ⟨rfl, rfl⟩ := z
      rw [if_neg y, if_neg (fun w => h w.2)]
    · rw [if_neg y, if_neg (fun w => y ⟨by omega, w.2⟩)]
theorem rt_part_row (hc : rt_cf n rl up) (v : Nat) : rt_part n d rl up og H Q v n = rt_part n d rl up og H Q (v + 1) 0 := by
  funext a b
  unfold rt_part
  by_cases y : up a b = true
  · have := rt_up_lt hc y
    by_cases z : a < v ∨ (a = v ∧ b < n)
    · rw [if_pos ⟨z, y⟩, if_pos ⟨by omega, y⟩]
    · rw [if_neg (fun w => z w.1), if_neg (fun w => z (by omega))]
  · rw [if_neg (fun w => y w.2), if_neg (fun w => y w.2)]
theorem rt_part_end (hc : rt_cf n rl up) : rt_part n d rl up og H Q n 0 = rt_send n d rl up og H Q := by
  funext a b
  unfold rt_part rt_send
  by_cases y : up a b = true
  · have := rt_up_lt hc y
    rw [if_pos ⟨by omega, y⟩, if_pos y]
  · rw [if_neg (fun w => y w.2), if_neg y]
end
section
variable {n d : Nat} {rl : Nat → Nat → Nat} {up : Nat → Nat → Bool} {og : Nat → Bool} {H : rt_HT} {Q : rt_QT} {ab ap : Nat → Int64} {ak : Nat → Int32}
theorem xw_sf_loop (hc : rt_cf n rl up) (hd : 1 ≤ d ∧ d ≤ 4) (gh : rt_gh n up H) (gq : rt_gq n d up Q) {v : Nat} (hv : v < n) {post : St2 → Prop}
    (hp : ∀ u', xw_X n d rl up og H (rt_part n d rl up og H Q v n) ab ap ak u' → post u') : ∀ m i, i + m = n → ∀ (ao ar al : Nat → Int32) (ah : Nat → Int64) (aw : Nat → Int32) (sl : Nat → Int64),
    xw_A rl up og H (rt_part n d rl up og H Q v i) ao ar al ah aw sl →
    wX_sendFrom_43 post (nI v) (xw_lc (rt_pt n rl og H v)) (xw_b (decide (rt_kd n rl og H v = 1 ∨ rt_kd n rl og H v = 2))) (m + 1) (nI i) (nI n) (nI d) ao ar al ah aw sl ab ap ak := by
  have hc' := hc
  obtain ⟨_, hn, hr, hup, _⟩ := hc'
  intro m
  induction m with
  | zero =>
    intro i hi ao ar al ah aw sl hA
    have e : i = n := by omega
    subst e
    exact br_t (xw_le (Nat.le_refl i) (by omega)) (hp _ ⟨ao, ar, al, ah, aw, sl, rfl, hA⟩)
  | succ m ih =>
    intro i hi ao ar al ah aw sl hA
    refine br_f (xw_ge (by omega) (by omega)) ⟨xw_in (by omega) (by omega), ?_⟩
    have e1 : al (nI v * 8 + nI i).toNatClampNeg = xw_b (up v i) := by rw [xw_cl (by omega) (by omega)]; exact hA.2.2.1 v i (by omega) (by omega)
    have e2 : ar (nI v * 8 + nI i).toNatClampNeg = nI (rl v i) := by rw [xw_cl (by omega) (by omega)]; exact hA.2.1 v i (by omega) (by omega)
    by_cases hu : up v i = true
    · refine br_f (by rw [e1]; exact xw_b_ne hu) ?_
      have snd : wX_sendFrom_106 post (wX_sendFrom_43 post (nI v) (xw_lc (rt_pt n rl og H v)) (xw_b (decide (rt_kd n rl og H v = 1 ∨ rt_kd n rl og H v = 2))) (m + 1)) (nI v) (xw_lc (rt_pt n rl og H v)) (xw_b (decide (rt_kd n rl og H v = 1 ∨ rt_kd n rl og H v = 2))) (nI i) (xw_lc (rt_ex n rl og H v i)) (nI v * 8 + nI i) (nI n) (nI d) ao ar al ah aw sl ab ap ak := by
        unfold wX_sendFrom_106
        rw [xw_ix]
        refine xw_send hA hn hd (by omega) (by omega) (by rw [rt_part_at]; exact (gq v i).2.1) (rt_ex_pd (fun a b => (gh a b).1.1) i hv).1 (gh v i).1.1 (by rw [rt_part_at]; exact fun x hx => ((gq v i).2.2 x hx).1) (fun u' hu' => ?_)
        rw [rt_part_at, ← rt_part_t hu] at hu'
        obtain ⟨ao', ar', al', ah', aw', sl', rfl, hA'⟩ := hu'
        exact nm_r (nI_1 i) (ih (i + 1) (by omega) ao' ar' al' ah' aw' sl' hA')
      by_cases hk : rt_kd n rl og H v = 1 ∨ rt_kd n rl og H v = 2
      · have ex : rt_ex n rl og H v i = rt_pt n rl og H v := by
          unfold rt_ex rt_xp
          exact if_pos (by omega)
        rw [ex] at snd
        exact br_f (xw_b_ne (decide_eq_true hk)) (br_f xw_10 snd)
      · refine br_t (xw_bn (by rw [decide_eq_false hk]; decide)) ⟨xw_in (by omega) (by omega), ?_⟩
        have hle := rt_rl_le hr v i
        by_cases h2 : rl v i = 2
        · have ex : rt_ex n rl og H v i = rt_pt n rl og H v := by
            unfold rt_ex rt_xp
            exact if_pos (by omega)
          rw [ex] at snd
          exact br_t (by rw [e2, h2]; rfl) (br_f xw_10 snd)
        · have ex : rt_ex n rl og H v i = [] := by
            unfold rt_ex rt_xp
            exact if_neg (by omega)
          rw [ex] at snd
          exact br_f (by rw [e2]; exact xw_ne (b := 2) (by omega) (by decide) h2) (br_t rfl snd)
    · refine br_t (by rw [e1]; exact xw_bn hu) (nm_r (nI_1 i) ?_)
      rw [← rt_part_f hu] at hA
      exact ih (i + 1) (by omega) ao ar al ah aw sl hA
theorem xw_sendFrom (hc : rt_cf n rl up) (hd : 1 ≤ d ∧ d ≤ 4) (gh : rt_gh n up H) (gq : rt_gq n d up Q) {v : Nat} (hv : v < n) {post : St2 → Prop}
    (hp : ∀ u', xw_X n d rl up og H (rt_part n d rl up og H Q (v + 1) 0) ab ap ak u' → post u') (ao ar al : Nat → Int32) (ah : Nat → Int64) (aw : Nat → Int32) (sl : Nat → Int64)
    (hA : xw_A rl up og H (rt_part n d rl up og H Q v 0) ao ar al ah aw sl) : wpX_sendFrom post (nI n, nI d, ao, ar, al, ah, aw, sl, ab, ap, ak) (nI v) := by
  have hc' := hc
  obtain ⟨_, hn, hr, hup, _⟩ := hc'
  have hg : ∀ a b, rt_ok n (H a b) := fun a b => (gh a b).1.1
  rw [← rt_part_row hc] at hp
  have hl := xw_sf_loop (og := og) hc hd gh gq hv hp n 0 (by omega) ao ar al ah aw sl hA
  unfold wpX_sendFrom
  refine xw_chosenBy hA hn hr hg hv ?_
  refine xw_pathVia hA hn hv (fun u hu => rt_ch_lt hv hu) ?_
  refine xw_kindVia hA hn hv (fun u hu => rt_ch_lt hv hu) ?_
  have hk4 : rt_kd n rl og H v ≤ 4 := by
    show rt_kvia rl v (rt_ch n rl og H v) ≤ 4
    cases rt_ch n rl og H v with
    | none => exact Nat.zero_le 4
    | some u =>
      dsimp only [rt_kvia]
      by_cases e : u = v
      · rw [if_pos e]; decide
      · rw [if_neg e]; exact rt_rl_le hr v u
  by_cases h1 : rt_kd n rl og H v = 1
  · rw [decide_eq_true (Or.inl h1)] at hl
    exact br_t (congrArg nI h1) ⟨n + 1, hl⟩
  · refine br_f (xw_ne (b := 1) (Nat.le_trans hk4 (by decide)) (by decide) h1) ?_
    by_cases h2 : rt_kd n rl og H v = 2
    · rw [decide_eq_true (Or.inr h2)] at hl
      exact br_t (congrArg nI h2) ⟨n + 1, hl⟩
    · rw [decide_eq_false (by omega)] at hl
      exact br_f (xw_ne (b := 2) (Nat.le_trans hk4 (by decide)) (by decide) h2) ⟨n + 1, hl⟩
theorem xw_sendAll (hc : rt_cf n rl up) (hd : 1 ≤ d ∧ d ≤ 4) (gh : rt_gh n up H) (gq : rt_gq n d up Q) {post : St2 → Prop}
    (hp : ∀ u', xw_X n d rl up og H (rt_send n d rl up og H Q) ab ap ak u' → post u') (ao ar al : Nat → Int32) (ah : Nat → Int64) (aw : Nat → Int32) (sl : Nat → Int64)
    (hA : xw_A rl up og H Q ao ar al ah aw sl) : wpX_sendAll post (nI n, nI d, ao, ar, al, ah, aw, sl, ab, ap, ak) := by
  have hn := hc.2.1
  rw [← rt_part_end hc] at hp
  rw [← rt_part_0 (n := n) (d := d) (rl := rl) (up := up) (og := og) (H := H) (Q := Q)] at hA
  have key : ∀ m v, v + m = n → ∀ (ao ar al : Nat → Int32) (ah : Nat → Int64) (aw : Nat → Int32) (sl : Nat → Int64), xw_A rl up og H (rt_part n d rl up og H Q v 0) ao ar al ah aw sl → wX_sendAll_2 post (m + 1) (nI v) (nI n) (nI d) ao ar al ah aw sl ab ap ak := by
    intro m
    induction m with
    | zero =>
      intro v hv ao ar al ah aw sl hA
      have e : v = n := by omega
      subst e
      exact br_t (xw_le (Nat.le_refl v) (by omega)) (hp _ ⟨ao, ar, al, ah, aw, sl, rfl, hA⟩)
    | succ m ih =>
      intro v hv ao ar al ah aw sl hA
      refine br_f (xw_ge (by omega) (by omega)) ?_
      refine xw_sendFrom hc hd gh gq (by omega) (fun u' hu' => ?_) ao ar al ah aw sl hA
      obtain ⟨ao', ar', al', ah', aw', sl', rfl, hA'⟩ := hu'
      exact nm_r (nI_1 v) (ih (v + 1) (by omega) ao' ar' al' ah' aw' sl' hA')
  exact ⟨n + 1, key n 0 (by omega) ao ar al ah aw sl hA⟩
end
/-! the oldest message is heard -/
section
variable {n d : Nat} {rl : Nat → Nat → Nat} {up : Nat → Nat → Bool} {og : Nat → Bool} {H : rt_HT} {Q : rt_QT} {ao ar al : Nat → Int32} {ah : Nat → Int64} {aw : Nat → Int32} {sl ab ap : Nat → Int64} {ak : Nat → Int32}
theorem xw_hearOldest (hA : xw_A rl up og H Q ao ar al ah aw sl) (hd : d ≤ 4) {a b : Nat} (ha : a < 8) (hb : b < 8) {m : List Nat} {r : List (List Nat)} (hq : Q a b = m :: r) (hlen : (Q a b).length ≤ d) {post : St2 → Prop}
    (hp : ∀ u', xw_X n d rl up og (rt_u2 H a b m) (rt_u2 Q a b r) ab ap ak u' → post u') : wpX_hearOldest post (nI n, nI d, ao, ar, al, ah, aw, sl, ab, ap, ak) (nI (a * 8 + b)) := by
  obtain ⟨A1, A2, A3, A4, A5, A6⟩ := hA
  rw [hq, List.length_cons] at hlen
  have h4 : nI (a * 8 + b) * 4 = nI ((a * 8 + b) * 4) := pk_mul _ 4
  have key : ∀ j i, i + j = r.length → ∀ sl' : Nat → Int64, xw_S (fun a' b' k => if a' = a ∧ b' = b then (if k < i then r[k]? else (m :: r)[k]?) else (Q a' b')[k]?) sl' →
      wX_hearOldest_28 post (nI (a * 8 + b)) (nI ((a * 8 + b) * 4)) (nI r.length) (nI n) (nI d) (j + 1) (nI i) ao ar al (vp_updL ah (a * 8 + b) (xw_lc m)) aw sl' ab ap ak := by
    intro j
    induction j with
    | zero =>
      intro i hi sl' hS
      have e : i = r.length := by omega
      subst e
      refine br_t (xw_le (Nat.le_refl _) (by omega)) ⟨vp_in_nI (by omega) (by decide), nm_r (e' := upd aw (a * 8 + b) (nI r.length)) (by rw [nI_clamp (by omega)]) ?_⟩
      refine hp _ ⟨ao, ar, al, _, _, sl', rfl, A1, A2, A3, xw_C_64 A4 hb rfl, xw_C_32 A5 hb rfl, xw_S_mono hS (fun a' b' k x ha' hb' hk hx => ?_)⟩
      have hx2 : (rt_u2 Q a b r a' b')[k]? = some x := hx
      by_cases z : a' = a ∧ b' = b
      · obtain ⟨rfl, rfl⟩ := z
        rw [rt_u2_s] at hx2
        obtain ⟨hk2, _⟩ := List.getElem?_eq_some_iff.mp hx2
        rw [if_pos ⟨rfl, rfl⟩, if_pos hk2]
        exact hx2
      · rw [rt_u2_n z] at hx2
        rw [if_neg z]
        exact hx2
    | succ j ih =>
      intro i hi sl' hS
      have e1 : nI ((a * 8 + b) * 4) + nI i = nI ((a * 8 + b) * 4 + i) := nI_add _ _
      have e2 : nI ((a * 8 + b) * 4) + nI i + 1 = nI ((a * 8 + b) * 4 + (i + 1)) := by rw [e1, nI_1, Nat.add_assoc]
      obtain ⟨x, hx⟩ : ∃ x, r[i]? = some x := ⟨r[i], List.getElem?_eq_getElem (by omega)⟩
      have e3 : sl' (nI ((a * 8 + b) * 4) + nI i + 1).toNatClampNeg = xw_lc x := by
        rw [e2, nI_clamp (by omega)]
        refine hS a b (i + 1) x ha hb (by omega) ?_
        dsimp only
        rw [if_pos ⟨rfl, rfl⟩, if_neg (by omega), List.getElem?_cons_succ]
        exact hx
      refine br_f (xw_ge (by omega) (by omega)) ⟨by rw [e2]; exact vp_in_nI (by omega) (by decide), by rw [e1]; exact vp_in_nI (by omega) (by decide), ?_⟩
      refine nm_r (e' := vp_updL sl' ((a * 8 + b) * 4 + i) (xw_lc x)) (by rw [e3, e1, nI_clamp (by omega)]) ?_
      refine nm_r (nI_1 i) (ih (i + 1) (by omega) _ ?_)
      refine xw_S_u hS hb (by omega) rfl (fun a' b' k y ha' hb' hk hy => ?_)
      by_cases z : a' = a ∧ b' = b
      · obtain ⟨rfl, rfl⟩ := z
        rw [if_pos ⟨rfl, rfl⟩] at hy ⊢
        by_cases ek : k = i
        · subst ek
          rw [if_pos (by omega), hx] at hy
          exact Or.inl ⟨⟨rfl, rfl, rfl⟩, (Option.some.inj hy).symm⟩
        · refine Or.inr ⟨fun w => ek w.2.2, ?_⟩
          by_cases hlt : k < i
          · rw [if_pos (by omega)] at hy
            rw [if_pos hlt]
            exact hy
          · rw [if_neg (by omega)] at hy
            rw [if_neg hlt]
            exact hy
      · rw [if_neg z] at hy ⊢
        exact Or.inr ⟨fun w => z ⟨w.1, w.2.1⟩, hy⟩
  unfold wpX_hearOldest
  refine nm_r h4 ⟨vp_in_nI (by omega) (by decide), vp_in_nI (by omega) (by decide), ?_⟩
  refine nm_r (e' := vp_updL ah (a * 8 + b) (xw_lc m)) ?_ ⟨vp_in_nI (by omega) (by decide), ?_⟩
  · rw [nI_clamp (by omega), nI_clamp (by omega)]
    have := A6 a b 0 m ha hb (by decide) (by show (Q a b)[0]? = some m; rw [hq]; rfl)
    rw [← this]
    rfl
  · refine nm_r (e' := nI r.length) ?_ ⟨r.length + 1, key r.length 0 (by omega) sl (xw_S_mono A6 (fun a' b' k x ha' hb' hk hx => ?_))⟩
    · rw [nI_clamp (by omega), A5 a b ha hb]
      show nI (Q a b).length - 1 = nI r.length
      rw [hq, List.length_cons, nI_pred]
    · by_cases z : a' = a ∧ b' = b
      · obtain ⟨rfl, rfl⟩ := z
        rw [if_pos ⟨rfl, rfl⟩, if_neg (Nat.not_lt_zero _)] at hx
        show (Q a' b')[k]? = some x
        rw [hq]
        exact hx
      · rw [if_neg z] at hx
        exact hx
/-! links -/
theorem xw_forget (hA : xw_A rl up og H Q ao ar al ah aw sl) {a b : Nat} (ha : a < 8) (hb : b < 8) {post : St2 → Prop}
    (hp : ∀ u', xw_X n d rl up og (rt_u2 H a b []) (rt_u2 Q a b []) ab ap ak u' → post u') : wpX_forget post (nI n, nI d, ao, ar, al, ah, aw, sl, ab, ap, ak) (nI (a * 8 + b)) := by
  obtain ⟨A1, A2, A3, A4, A5, A6⟩ := hA
  refine ⟨vp_in_nI (by omega) (by decide), nm_r (e' := vp_updL ah (a * 8 + b) 0) (by rw [nI_clamp (by omega)]) ⟨vp_in_nI (by omega) (by decide), nm_r (e' := upd aw (a * 8 + b) 0) (by rw [nI_clamp (by omega)]) ?_⟩⟩
  refine hp _ ⟨ao, ar, al, _, _, sl, rfl, A1, A2, A3, xw_C_64 A4 hb rfl, xw_C_32 A5 hb rfl, xw_S_mono A6 (fun a' b' k x ha' hb' hk hx => ?_)⟩
  have hx2 : (rt_u2 Q a b [] a' b')[k]? = some x := hx
  by_cases z : a' = a ∧ b' = b
  · obtain ⟨rfl, rfl⟩ := z
    rw [rt_u2_s] at hx2
    cases hx2
  · rw [rt_u2_n z] at hx2
    exact hx2
theorem xw_setLink (hA : xw_A rl up og H Q ao ar al ah aw sl) {a b : Nat} (ha : a < 8) (hb : b < 8) (z : Bool) {post : St2 → Prop}
    (hp : ∀ u', xw_X n d rl (rt_lk up a b z z) og (rt_lk H a b [] []) (rt_lk Q a b [] []) ab ap ak u' → post u') : wpX_setLink post (nI n, nI d, ao, ar, al, ah, aw, sl, ab, ap, ak) (nI a) (nI b) (xw_b z) := by
  obtain ⟨A1, A2, A3, A4, A5, A6⟩ := hA
  unfold wpX_setLink wpX_pair
  dsimp only
  rw [xw_ix, xw_ix]
  refine ⟨vp_in_nI (by omega) (by decide), nm_r (e' := upd al (a * 8 + b) (xw_b z)) (by rw [nI_clamp (by omega), xw_nar]) ?_⟩
  refine ⟨vp_in_nI (by omega) (by decide), nm_r (e' := upd (upd al (a * 8 + b) (xw_b z)) (b * 8 + a) (xw_b z)) (by rw [nI_clamp (by omega), xw_nar]) ?_⟩
  refine xw_forget (up := rt_lk up a b z z) (og := og) (rl := rl) (H := H) (Q := Q) ⟨A1, A2, xw_C_32 (xw_C_32 A3 hb rfl) ha rfl, A4, A5, A6⟩ ha hb (fun u' hu' => ?_)
  obtain ⟨ao', ar', al', ah', aw', sl', rfl, hA'⟩ := hu'
  refine xw_forget hA' hb ha (fun u2 hu2 => ?_)
  obtain ⟨ao2, ar2, al2, ah2, aw2, sl2, rfl, hA2⟩ := hu2
  exact hp _ ⟨ao2, ar2, al2, ah2, aw2, sl2, rfl, hA2⟩
end
