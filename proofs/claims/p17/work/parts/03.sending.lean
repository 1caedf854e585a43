/-! messages: sending, delivering, rounds -/
abbrev rt_QT : Type := Nat → Nat → List (List Nat)
def rt_sd (d : Nat) (q : List (List Nat)) (h e : List Nat) : List (List Nat) :=
  if e = q.getLastD h then q else if q.length < d then q ++ [e] else q.dropLast ++ [e]
theorem rt_sd_last (d : Nat) (q : List (List Nat)) (h e : List Nat) : (rt_sd d q h e).getLastD h = e := by
  unfold rt_sd
  by_cases h1 : e = q.getLastD h
  · rw [if_pos h1]; exact h1.symm
  · rw [if_neg h1]
    by_cases h2 : q.length < d
    · rw [if_pos h2]; exact List.getLastD_concat
    · rw [if_neg h2]; exact List.getLastD_concat
theorem rt_sd_len {d : Nat} {q : List (List Nat)} (h e : List Nat) (hd : 1 ≤ d) (hq : q.length ≤ d) : (rt_sd d q h e).length ≤ d := by
  unfold rt_sd
  by_cases h1 : e = q.getLastD h
  · rw [if_pos h1]; exact hq
  · rw [if_neg h1]
    by_cases h2 : q.length < d
    · rw [if_pos h2, List.length_append, List.length_singleton]; omega
    · rw [if_neg h2, List.length_append, List.length_singleton, List.length_dropLast]; omega
theorem rt_sd_mem {d : Nat} {q : List (List Nat)} {h e m : List Nat} (hm : m ∈ rt_sd d q h e) : m ∈ q ∨ m = e := by
  unfold rt_sd at hm
  by_cases h1 : e = q.getLastD h
  · rw [if_pos h1] at hm; exact Or.inl hm
  · rw [if_neg h1] at hm
    by_cases h2 : q.length < d
    · rw [if_pos h2] at hm
      rcases List.mem_append.mp hm with z | z
      · exact Or.inl z
      · exact Or.inr (List.mem_singleton.mp z)
    · rw [if_neg h2] at hm
      rcases List.mem_append.mp hm with z | z
      · exact Or.inl (List.dropLast_subset q z)
      · exact Or.inr (List.mem_singleton.mp z)
theorem rt_sd_same {d : Nat} {q : List (List Nat)} {h e : List Nat} (hm : q.getLastD h = e) : rt_sd d q h e = q := by
  unfold rt_sd
  rw [if_pos hm.symm]
def rt_u2 {α : Type} (g : Nat → Nat → α) (f t : Nat) (x : α) : Nat → Nat → α := fun a b => if a = f ∧ b = t then x else g a b
theorem rt_u2_s {α : Type} {g : Nat → Nat → α} {f t : Nat} {x : α} : rt_u2 g f t x f t = x := if_pos ⟨rfl, rfl⟩
theorem rt_u2_n {α : Type} {g : Nat → Nat → α} {f t a b : Nat} {x : α} (h : ¬ (a = f ∧ b = t)) : rt_u2 g f t x a b = g a b := if_neg h
def rt_send (n d : Nat) (rl : Nat → Nat → Nat) (up : Nat → Nat → Bool) (og : Nat → Bool) (H : rt_HT) (Q : rt_QT) : rt_QT :=
  fun a b => if up a b = true then rt_sd d (Q a b) (H a b) (rt_ex n rl og H a b) else Q a b
/-- a path that comes from a -/
def rt_pd (n a : Nat) (l : List Nat) : Prop := rt_ok n l ∧ ∀ x r, l = x :: r → x = a
theorem rt_pd_nil (n a : Nat) : rt_pd n a [] := ⟨rt_ok_nil n, fun _ _ h => (nomatch h)⟩
def rt_gh (n : Nat) (up : Nat → Nat → Bool) (H : rt_HT) : Prop := ∀ a b, rt_pd n a (H a b) ∧ (H a b ≠ [] → up a b = true)
def rt_gq (n d : Nat) (up : Nat → Nat → Bool) (Q : rt_QT) : Prop :=
  ∀ a b, (Q a b ≠ [] → up a b = true) ∧ (Q a b).length ≤ d ∧ ∀ m, m ∈ Q a b → rt_pd n a m
def rt_sy (n : Nat) (rl : Nat → Nat → Nat) (up : Nat → Nat → Bool) (og : Nat → Bool) (H : rt_HT) (Q : rt_QT) : Prop :=
  ∀ a b, up a b = true → (Q a b).getLastD (H a b) = rt_ex n rl og H a b
def rt_inv (n d : Nat) (rl : Nat → Nat → Nat) (up : Nat → Nat → Bool) (og : Nat → Bool) (H : rt_HT) (Q : rt_QT) : Prop :=
  rt_cf n rl up ∧ (1 ≤ d ∧ d ≤ 4) ∧ rt_gh n up H ∧ rt_gq n d up Q ∧ rt_sy n rl up og H Q
theorem rt_gh_gd {n : Nat} {up : Nat → Nat → Bool} {H : rt_HT} (g : rt_gh n up H) : rt_gd n up H := fun a b => ⟨(g a b).1.1, (g a b).2⟩
theorem rt_pt_pd {n : Nat} {rl : Nat → Nat → Nat} {og : Nat → Bool} {H : rt_HT} (g : ∀ a b, rt_ok n (H a b)) {v : Nat} (hv : v < n) : rt_pd n v (rt_pt n rl og H v) := by
  unfold rt_pt
  have key : ∀ o, rt_ch n rl og H v = o → rt_pd n v (rt_via H v o) := by
    intro o ho
    cases o with
    | none => exact rt_pd_nil n v
    | some u =>
      by_cases e : u = v
      · have h1 : rt_via H v (some u) = [v] := if_pos e
        rw [h1]
        refine ⟨rt_ok_cons (rt_ok_nil n) hv List.not_mem_nil, fun x r h => ?_⟩
        cases h
        rfl
      · have h1 : rt_via H v (some u) = v :: H u v := if_neg e
        rw [h1]
        have h2 : rt_sc rl H v n = some u := by
          unfold rt_ch at ho
          by_cases hg : og v = true
          · rw [if_pos hg] at ho
            cases ho
            exact absurd rfl e
          · rw [if_neg hg] at ho
            exact ho
        have h3 := (rt_sc_spec rl H v n).1 u h2
        refine ⟨rt_ok_cons (g u v) hv h3.2.1.2, fun x r h => ?_⟩
        cases h
        rfl
  exact key _ rfl
theorem rt_ex_pd {n : Nat} {rl : Nat → Nat → Nat} {og : Nat → Bool} {H : rt_HT} (g : ∀ a b, rt_ok n (H a b)) {f : Nat} (t : Nat) (hv : f < n) : rt_pd n f (rt_ex n rl og H f t) := by
  unfold rt_ex rt_xp
  by_cases h : rt_kd n rl og H f = 1 ∨ rt_kd n rl og H f = 2 ∨ rl f t = 2
  · rw [if_pos h]; exact rt_pt_pd g hv
  · rw [if_neg h]; exact rt_pd_nil n f
theorem rt_up_lt {n : Nat} {rl : Nat → Nat → Nat} {up : Nat → Nat → Bool} (hc : rt_cf n rl up) {a b : Nat} (h : up a b = true) : a < n ∧ b < n ∧ a ≠ b := by
  obtain ⟨_, _, hr, hup, _⟩ := hc
  rcases hr a b with z | z
  · exact absurd z (hup a b h).1
  · exact ⟨z.1, z.2.1, z.2.2.1⟩
theorem rt_send_ok {n d : Nat} {rl : Nat → Nat → Nat} {up : Nat → Nat → Bool} {og : Nat → Bool} {H : rt_HT} {Q : rt_QT}
    (hc : rt_cf n rl up) (hd : 1 ≤ d ∧ d ≤ 4) (gh : rt_gh n up H) (gq : rt_gq n d up Q) : rt_inv n d rl up og H (rt_send n d rl up og H Q) := by
  refine ⟨hc, hd, gh, fun a b => ?_, fun a b hu => ?_⟩
  · unfold rt_send
    by_cases hu : up a b = true
    · rw [if_pos hu]
      refine ⟨fun _ => hu, rt_sd_len _ _ hd.1 (gq a b).2.1, fun m hm => ?_⟩
      rcases rt_sd_mem hm with z | z
      · exact (gq a b).2.2 m z
      · rw [z]
        exact rt_ex_pd (fun a b => (gh a b).1.1) b (rt_up_lt hc hu).1
    · rw [if_neg hu]
      exact gq a b
  · unfold rt_send
    rw [if_pos hu]
    exact rt_sd_last _ _ _ _
/-- one delivery, with the sending behind it -/
def rt_dl (n d : Nat) (rl : Nat → Nat → Nat) (up : Nat → Nat → Bool) (og : Nat → Bool) (f t : Nat) (s : rt_HT × rt_QT) : rt_HT × rt_QT :=
  match s.2 f t with
  | [] => s
  | m :: r => (rt_u2 s.1 f t m, rt_send n d rl up og (rt_u2 s.1 f t m) (rt_u2 s.2 f t r))
theorem rt_del {n d : Nat} {rl : Nat → Nat → Nat} {up : Nat → Nat → Bool} {og : Nat → Bool} {H : rt_HT} {Q : rt_QT}
    (hI : rt_inv n d rl up og H Q) {f t : Nat} {m : List Nat} {r : List (List Nat)} (hq : Q f t = m :: r) :
    rt_inv n d rl up og (rt_u2 H f t m) (rt_send n d rl up og (rt_u2 H f t m) (rt_u2 Q f t r)) ∧
    rt_send n d rl up og (rt_u2 H f t m) (rt_u2 Q f t r) f t = r ∧
    ∀ a b, up a b = true → rt_lv n rl a b ≤ rt_lv n rl f t → ¬ (a = f ∧ b = t) → rt_send n d rl up og (rt_u2 H f t m) (rt_u2 Q f t r) a b = Q a b := by
  obtain ⟨hc, hd, gh, gq, hs⟩ := hI
  have hu : up f t = true := (gq f t).1 (by rw [hq]; exact fun z => nomatch z)
  have gh' : rt_gh n up (rt_u2 H f t m) := by
    intro a b
    by_cases e : a = f ∧ b = t
    · obtain ⟨rfl, rfl⟩ := e
      rw [rt_u2_s]
      exact ⟨(gq a b).2.2 m (by rw [hq]; exact List.mem_cons_self), fun _ => hu⟩
    · rw [rt_u2_n e]
      exact gh a b
  have gq' : rt_gq n d up (rt_u2 Q f t r) := by
    intro a b
    by_cases e : a = f ∧ b = t
    · obtain ⟨rfl, rfl⟩ := e
      rw [rt_u2_s]
      have h2 := (gq a b).2.1
      rw [hq, List.length_cons] at h2
      exact ⟨fun _ => hu, by omega, fun x hx => (gq a b).2.2 x (by rw [hq]; exact List.mem_cons_of_mem _ hx)⟩
    · rw [rt_u2_n e]
      exact gq a b
  have hex : ∀ a b, rt_lv n rl a b ≤ rt_lv n rl f t → rt_ex n rl og (rt_u2 H f t m) a b = rt_ex n rl og H a b := by
    intro a b hl
    refine rt_loc hc og (rt_gh_gd gh') (rt_gh_gd gh) (fun c e _ hlt => ?_)
    refine rt_u2_n (fun z => ?_)
    obtain ⟨rfl, rfl⟩ := z
    omega
  refine ⟨rt_send_ok hc hd gh' gq', ?_, ?_⟩
  · unfold rt_send
    rw [if_pos hu, rt_u2_s, rt_u2_s]
    apply rt_sd_same
    rw [hex f t (Nat.le_refl _), ← hs f t hu, hq, List.getLastD_cons]
  · intro a b hab hl hne
    unfold rt_send
    rw [if_pos hab, rt_u2_n hne, rt_u2_n hne]
    apply rt_sd_same
    rw [hex a b hl, hs a b hab]
theorem rt_dl_inv {n d : Nat} {rl : Nat → Nat → Nat} {up : Nat → Nat → Bool} {og : Nat → Bool} {s : rt_HT × rt_QT}
    (hI : rt_inv n d rl up og s.1 s.2) (f t : Nat) : rt_inv n d rl up og (rt_dl n d rl up og f t s).1 (rt_dl n d rl up og f t s).2 := by
  unfold rt_dl
  cases hq : s.2 f t with
  | nil => exact hI
  | cons m r => exact (rt_del hI hq).1
/-- a round: each of the first k of the 64 directions once -/
def rt_rd (n d : Nat) (rl : Nat → Nat → Nat) (up : Nat → Nat → Bool) (og : Nat → Bool) (s : rt_HT × rt_QT) : Nat → rt_HT × rt_QT
  | 0 => s
  | k + 1 => rt_dl n d rl up og (k / 8) (k % 8) (rt_rd n d rl up og s k)
theorem rt_rd_lv {n d : Nat} {rl : Nat → Nat → Nat} {up : Nat → Nat → Bool} {og : Nat → Bool} {s : rt_HT × rt_QT}
    (hI : rt_inv n d rl up og s.1 s.2) (K : Nat) (hK : ∀ a b, up a b = true → rt_lv n rl a b < K → s.2 a b = []) : ∀ k : Nat,
    rt_inv n d rl up og (rt_rd n d rl up og s k).1 (rt_rd n d rl up og s k).2 ∧
    (∀ a b, up a b = true → rt_lv n rl a b < K → (rt_rd n d rl up og s k).2 a b = []) ∧
    ∀ a b, up a b = true → rt_lv n rl a b = K → (rt_rd n d rl up og s k).2 a b = if a * 8 + b < k then (s.2 a b).tail else s.2 a b := by
  intro k
  induction k with
  | zero => exact ⟨hI, hK, fun a b _ _ => by rw [if_neg (Nat.not_lt_zero _)]; rfl⟩
  | succ k ih =>
    obtain ⟨h1, h2, h3⟩ := ih
    have hc := h1.1
    have hn8 := hc.2.1
    show rt_inv n d rl up og (rt_dl n d rl up og (k / 8) (k % 8) (rt_rd n d rl up og s k)).1 (rt_dl n d rl up og (k / 8) (k % 8) (rt_rd n d rl up og s k)).2 ∧ (∀ a b, up a b = true → rt_lv n rl a b < K → (rt_dl n d rl up og (k / 8) (k % 8) (rt_rd n d rl up og s k)).2 a b = []) ∧ ∀ a b, up a b = true → rt_lv n rl a b = K → (rt_dl n d rl up og (k / 8) (k % 8) (rt_rd n d rl up og s k)).2 a b = if a * 8 + b < k + 1 then (s.2 a b).tail else s.2 a b
    generalize rt_rd n d rl up og s k = w at h1 h2 h3
    have hix : ∀ a b, up a b = true → ¬ (a = k / 8 ∧ b = k % 8) → (a * 8 + b < k + 1 ↔ a * 8 + b < k) := by
      intro a b hab hne
      have := rt_up_lt hc hab
      omega
    unfold rt_dl
    cases hq : w.2 (k / 8) (k % 8) with
    | nil =>
      refine ⟨h1, h2, fun a b hab hl => ?_⟩
      by_cases e : a = k / 8 ∧ b = k % 8
      · obtain ⟨rfl, rfl⟩ := e
        have h4 := h3 (k / 8) (k % 8) hab hl
        rw [if_neg (by omega), hq] at h4
        rw [if_pos (by omega)]
        show w.2 (k / 8) (k % 8) = _
        rw [hq, ← h4]
        rfl
      · have h4 := h3 a b hab hl
        show w.2 a b = _
        rw [h4]
        by_cases hlt : a * 8 + b < k
        · rw [if_pos hlt, if_pos ((hix a b hab e).mpr hlt)]
        · rw [if_neg hlt, if_neg (fun z => hlt ((hix a b hab e).mp z))]
    | cons m r =>
      have hD := rt_del h1 hq
      have hu : up (k / 8) (k % 8) = true := (h1.2.2.2.1 (k / 8) (k % 8)).1 (by rw [hq]; exact fun z => nomatch z)
      have hge : K ≤ rt_lv n rl (k / 8) (k % 8) := by
        by_cases z : rt_lv n rl (k / 8) (k % 8) < K
        · have := h2 _ _ hu z
          rw [hq] at this
          exact absurd this (fun z => nomatch z)
        · omega
      refine ⟨hD.1, fun a b hab hl => ?_, fun a b hab hl => ?_⟩
      · have e : ¬ (a = k / 8 ∧ b = k % 8) := by
          rintro ⟨rfl, rfl⟩
          omega
        exact (hD.2.2 a b hab (by omega) e).trans (h2 a b hab hl)
      · by_cases e : a = k / 8 ∧ b = k % 8
        · obtain ⟨rfl, rfl⟩ := e
          have h4 := h3 (k / 8) (k % 8) hab hl
          rw [if_neg (by omega), hq] at h4
          rw [if_pos (by omega), ← h4]
          exact hD.2.1
        · refine (hD.2.2 a b hab (by omega) e).trans ((h3 a b hab hl).trans ?_)
          by_cases hlt : a * 8 + b < k
          · rw [if_pos hlt, if_pos ((hix a b hab e).mpr hlt)]
          · rw [if_neg hlt, if_neg (fun z => hlt ((hix a b hab e).mp z))]
/-- after r rounds a direction of level l has at most 4 l - r messages -/
def rt_J (n : Nat) (rl : Nat → Nat → Nat) (up : Nat → Nat → Bool) (Q : rt_QT) (r : Nat) : Prop :=
  ∀ a b, up a b = true → (Q a b).length ≤ 4 * rt_lv n rl a b - r
theorem rt_lv_pos {n : Nat} {rl : Nat → Nat → Nat} {up : Nat → Nat → Bool} (hc : rt_cf n rl up) {a b : Nat} (h : up a b = true) : 1 ≤ rt_lv n rl a b ∧ rt_lv n rl a b ≤ 2 * n := by
  have h1 := (rt_up_lt hc h).1
  have h2 := rt_ht_pos (n := n) (rl := rl) h1
  have h3 := rt_ht_le n rl a
  unfold rt_lv
  by_cases e : rl a b = 2
  · rw [if_pos e]; omega
  · rw [if_neg e]; omega
theorem rt_J_0 {n d : Nat} {rl : Nat → Nat → Nat} {up : Nat → Nat → Bool} {og : Nat → Bool} {H : rt_HT} {Q : rt_QT} (hI : rt_inv n d rl up og H Q) : rt_J n rl up Q 0 := by
  intro a b hab
  have h1 := (rt_lv_pos hI.1 hab).1
  have h2 := (hI.2.2.2.1 a b).2.1
  have h3 := hI.2.1.2
  omega
theorem rt_J_s {n d : Nat} {rl : Nat → Nat → Nat} {up : Nat → Nat → Bool} {og : Nat → Bool} {s : rt_HT × rt_QT}
    (hI : rt_inv n d rl up og s.1 s.2) {r : Nat} (hJ : rt_J n rl up s.2 r) :
    rt_inv n d rl up og (rt_rd n d rl up og s 64).1 (rt_rd n d rl up og s 64).2 ∧ rt_J n rl up (rt_rd n d rl up og s 64).2 (r + 1) := by
  have h0 := (rt_rd_lv hI 0 (fun a b _ h => absurd h (Nat.not_lt_zero _)) 64).1
  refine ⟨h0, fun a b hab => ?_⟩
  by_cases hr : 4 * (rt_lv n rl a b - 1) ≤ r
  · have hK : ∀ c e, up c e = true → rt_lv n rl c e < rt_lv n rl a b → s.2 c e = [] := by
      intro c e hce hl
      have h1 := hJ c e hce
      exact List.length_eq_zero_iff.mp (by omega)
    have h2 := (rt_rd_lv hI _ hK 64).2.2 a b hab rfl
    have h3 := rt_up_lt hI.1 hab
    have h4 := hI.1.2.1
    rw [if_pos (by omega)] at h2
    rw [h2, List.length_tail]
    have := hJ a b hab
    omega
  · have h2 := (h0.2.2.2.1 a b).2.1
    have h3 := hI.2.1.2
    omega
theorem rt_J_end {n d : Nat} {rl : Nat → Nat → Nat} {up : Nat → Nat → Bool} {og : Nat → Bool} {H : rt_HT} {Q : rt_QT} (hI : rt_inv n d rl up og H Q)
    {r : Nat} (hr : 64 ≤ r) (hJ : rt_J n rl up Q r) (a b : Nat) : Q a b = [] := by
  by_cases hab : up a b = true
  · have h1 := hJ a b hab
    have h2 := (rt_lv_pos hI.1 hab).2
    have h3 := hI.1.2.1
    exact List.length_eq_zero_iff.mp (by omega)
  · by_cases e : Q a b = []
    · exact e
    · exact absurd ((hI.2.2.2.1 a b).1 e) hab
/-- nothing in flight: what is heard is what goes out, and there is one such state alone -/
theorem rt_quiet {n d : Nat} {rl : Nat → Nat → Nat} {up : Nat → Nat → Bool} {og : Nat → Bool} {H : rt_HT} {Q : rt_QT} (hI : rt_inv n d rl up og H Q)
    (hq : ∀ a b, Q a b = []) : ∀ a b, up a b = true → H a b = rt_ex n rl og H a b := by
  intro a b hab
  have := hI.2.2.2.2 a b hab
  rw [hq a b] at this
  exact this
theorem rt_quiet_uniq {n d d' : Nat} {rl : Nat → Nat → Nat} {up : Nat → Nat → Bool} {og : Nat → Bool} {H H' : rt_HT} {Q Q' : rt_QT} (hI : rt_inv n d rl up og H Q)
    (hI' : rt_inv n d' rl up og H' Q') (hq : ∀ a b, Q a b = []) (hq' : ∀ a b, Q' a b = []) : H = H' ∧ Q = Q' :=
  ⟨rt_uniq hI.1 og (rt_gh_gd hI.2.2.1) (rt_gh_gd hI'.2.2.1) (rt_quiet hI hq) (rt_quiet hI' hq'), by funext a b; rw [hq, hq']⟩
/-! a link comes, goes down, comes up again -/
def rt_lk {α : Type} (g : Nat → Nat → α) (a b : Nat) (x y : α) : Nat → Nat → α := rt_u2 (rt_u2 g a b x) b a y
theorem rt_lk_1 {α : Type} {g : Nat → Nat → α} {a b : Nat} {x y : α} (h : a ≠ b) : rt_lk g a b x y a b = x := by
  unfold rt_lk
  rw [rt_u2_n (fun z => h z.1), rt_u2_s]
theorem rt_lk_2 {α : Type} {g : Nat → Nat → α} {a b : Nat} {x y : α} : rt_lk g a b x y b a = y := rt_u2_s
theorem rt_lk_n {α : Type} {g : Nat → Nat → α} {a b c e : Nat} {x y : α} (h1 : ¬ (c = a ∧ e = b)) (h2 : ¬ (c = b ∧ e = a)) : rt_lk g a b x y c e = g c e := by
  unfold rt_lk
  rw [rt_u2_n h2, rt_u2_n h1]
theorem rt_set {n d : Nat} {rl : Nat → Nat → Nat} {up : Nat → Nat → Bool} {H : rt_HT} {Q : rt_QT} {a b : Nat} (hne : a ≠ b) (z : Bool)
    (gh : rt_gh n up H) (gq : rt_gq n d up Q) :
    rt_gh n (rt_lk up a b z z) (rt_lk H a b [] []) ∧ rt_gq n d (rt_lk up a b z z) (rt_lk Q a b [] []) := by
  constructor
  · intro c e
    by_cases h1 : c = a ∧ e = b
    · obtain ⟨rfl, rfl⟩ := h1
      rw [rt_lk_1 hne]
      exact ⟨rt_pd_nil n c, fun y => absurd rfl y⟩
    · by_cases h2 : c = b ∧ e = a
      · obtain ⟨rfl, rfl⟩ := h2
        rw [rt_lk_2]
        exact ⟨rt_pd_nil n c, fun y => absurd rfl y⟩
      · rw [rt_lk_n h1 h2, rt_lk_n h1 h2]
        exact gh c e
  · intro c e
    by_cases h1 : c = a ∧ e = b
    · obtain ⟨rfl, rfl⟩ := h1
      rw [rt_lk_1 hne]
      exact ⟨fun y => absurd rfl y, Nat.zero_le _, fun m hm => absurd hm List.not_mem_nil⟩
    · by_cases h2 : c = b ∧ e = a
      · obtain ⟨rfl, rfl⟩ := h2
        rw [rt_lk_2]
        exact ⟨fun y => absurd rfl y, Nat.zero_le _, fun m hm => absurd hm List.not_mem_nil⟩
      · rw [rt_lk_n h1 h2, rt_lk_n h1 h2]
        exact gq c e
theorem rt_set_up {rl : Nat → Nat → Nat} {up : Nat → Nat → Bool} {a b : Nat} (hne : a ≠ b) (z : Bool) (h : rt_up rl up) (h1 : rl a b ≠ 0) (h2 : rl b a ≠ 0) : rt_up rl (rt_lk up a b z z) := by
  intro c e hce
  by_cases k1 : c = a ∧ e = b
  · obtain ⟨rfl, rfl⟩ := k1
    rw [rt_lk_1 hne] at hce
    exact ⟨h1, by rw [rt_lk_2]; exact hce⟩
  · by_cases k2 : c = b ∧ e = a
    · obtain ⟨rfl, rfl⟩ := k2
      rw [rt_lk_2] at hce
      exact ⟨h2, by rw [rt_lk_1 hne]; exact hce⟩
    · rw [rt_lk_n k1 k2] at hce
      have h3 := h c e hce
      refine ⟨h3.1, ?_⟩
      rw [rt_lk_n (fun y => k2 ⟨y.2, y.1⟩) (fun y => k1 ⟨y.2, y.1⟩)]
      exact h3.2
theorem rt_R_new {rl rl' : Nat → Nat → Nat} {p c : Nat} (h : ∀ x y, rl' x y = 2 → rl x y = 2 ∨ (x = p ∧ y = c)) : ∀ (k x y : Nat), rt_rc rl' k x y → rt_R rl x y ∨ (rt_R rl x p ∧ rt_R rl c y) := by
  intro k
  induction k with
  | zero => intro x y e; cases e; exact Or.inl (rt_R_refl rl x)
  | succ k ih =>
    intro x y e
    obtain ⟨w, hw, hk⟩ := e
    rcases h x w hw with z | ⟨rfl, rfl⟩
    · rcases ih w y hk with q | q
      · exact Or.inl (rt_R_step z q)
      · exact Or.inr ⟨rt_R_step z q.1, q.2⟩
    · rcases ih w y hk with q | q
      · exact Or.inr ⟨rt_R_refl rl x, q⟩
      · exact Or.inr ⟨rt_R_refl rl x, q.2⟩
theorem rt_ac_new {rl rl' : Nat → Nat → Nat} {p c : Nat} (ha : rt_ac rl) (h : ∀ x y, rl' x y = 2 → rl x y = 2 ∨ (x = p ∧ y = c)) (hn : ¬ rt_R rl c p) : rt_ac rl' := by
  intro x y hxy hr
  obtain ⟨k, hk⟩ := hr
  rcases h x y hxy with z | ⟨rfl, rfl⟩
  · rcases rt_R_new h k y x hk with q | q
    · exact ha x y z q
    · exact hn (rt_R_trans q.2 (rt_R_step z q.1))
  · rcases rt_R_new h k y x hk with q | q
    · exact hn q
    · exact hn q.1
theorem rt_ac_same {rl rl' : Nat → Nat → Nat} (ha : rt_ac rl) (h : ∀ x y, rl' x y = 2 → rl x y = 2) : rt_ac rl' := by
  have h2 : ∀ (k x y : Nat), rt_rc rl' k x y → rt_R rl x y := by
    intro k
    induction k with
    | zero => intro x y e; cases e; exact rt_R_refl rl x
    | succ k ih =>
      intro x y e
      obtain ⟨w, hw, hk⟩ := e
      exact rt_R_step (h x w hw) (ih w y hk)
  intro x y hxy hr
  obtain ⟨k, hk⟩ := hr
  exact ha x y (h x y hxy) (h2 k y x hk)
theorem rt_add_rl {n : Nat} {rl : Nat → Nat → Nat} (hr : rt_rl n rl) {a b k : Nat} (ha : a < n) (hb : b < n) (hne : a ≠ b) (h2 : 2 ≤ k) (h4 : k ≤ 4) : rt_rl n (rt_lk rl a b k (6 - k)) := by
  intro c e
  by_cases k1 : c = a ∧ e = b
  · obtain ⟨rfl, rfl⟩ := k1
    rw [rt_lk_1 hne, rt_lk_2]
    exact Or.inr ⟨ha, hb, hne, by omega⟩
  · by_cases k2 : c = b ∧ e = a
    · obtain ⟨rfl, rfl⟩ := k2
      rw [rt_lk_1 hne, rt_lk_2]
      exact Or.inr ⟨hb, ha, fun y => hne y.symm, by omega⟩
    · rw [rt_lk_n k1 k2, rt_lk_n (fun y => k2 ⟨y.2, y.1⟩) (fun y => k1 ⟨y.2, y.1⟩)]
      exact hr c e
theorem rt_add_ac {rl : Nat → Nat → Nat} (hac : rt_ac rl) {a b k : Nat} (hne : a ≠ b) (h2 : 2 ≤ k) (h4 : k ≤ 4) (hk2 : k = 2 → ¬ rt_R rl b a) (hk4 : k = 4 → ¬ rt_R rl a b) : rt_ac (rt_lk rl a b k (6 - k)) := by
  by_cases e2 : k = 2
  · refine rt_ac_new (p := a) (c := b) hac (fun x y h => ?_) (hk2 e2)
    by_cases k1 : x = a ∧ y = b
    · exact Or.inr k1
    · by_cases k2 : x = b ∧ y = a
      · obtain ⟨rfl, rfl⟩ := k2
        rw [rt_lk_2] at h
        omega
      · rw [rt_lk_n k1 k2] at h
        exact Or.inl h
  · by_cases e4 : k = 4
    · refine rt_ac_new (p := b) (c := a) hac (fun x y h => ?_) (hk4 e4)
      by_cases k1 : x = a ∧ y = b
      · obtain ⟨rfl, rfl⟩ := k1
        rw [rt_lk_1 hne] at h
        omega
      · by_cases k2 : x = b ∧ y = a
        · exact Or.inr k2
        · rw [rt_lk_n k1 k2] at h
          exact Or.inl h
    · refine rt_ac_same hac (fun x y h => ?_)
      by_cases k1 : x = a ∧ y = b
      · obtain ⟨rfl, rfl⟩ := k1
        rw [rt_lk_1 hne] at h
        omega
      · by_cases k2 : x = b ∧ y = a
        · obtain ⟨rfl, rfl⟩ := k2
          rw [rt_lk_2] at h
          omega
        · rw [rt_lk_n k1 k2] at h
          exact h
