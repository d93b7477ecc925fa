/-! Texts: what is read off a tape. -/
variable {nb : Nat}
/-- the words, by the numbers of their strings -/
def an_wd (i : Nat) : List Nat := match i with
  | 0 => [104, 111, 108, 100]
  | 1 => [108, 105, 109, 105, 116]
  | 2 => [102, 101, 101]
  | 3 => [119, 104, 101, 110]
  | 4 => [111, 114]
  | 5 => [97, 110, 100]
  | 6 => [110, 111, 116]
  | 7 => [97, 109, 111, 117, 110, 116]
  | 8 => [102, 97, 114]
  | 9 => [114, 97, 105, 108]
  | 10 => [104, 111, 117, 115, 101]
  | 11 => [119, 101, 101, 107, 100, 97, 121]
  | 12 => [98, 111, 111, 107]
  | 13 => [99, 111, 117, 110, 116]
  | 14 => [99, 114, 121]
  | 15 => [116, 117, 114, 110]
  | 16 => [114, 111, 117, 110, 100]
  | 17 => [109, 97, 116, 99, 104]
  | 18 => [108, 111, 119]
  | _ => []
/-- n bytes from p on -/
def an_sl (B : Nat → Nat) : Nat → Nat → List Nat
  | _, 0 => []
  | p, n + 1 => B p :: an_sl B (p + 1) n
theorem an_sl_e {B : Nat → Nat} : ∀ (l : List Nat) (p n : Nat), an_sl B p n = l ↔ (n = l.length ∧ ∀ j, j < n → B (p + j) = l.getD j 0) := by
  intro l
  induction l with
  | nil =>
    intro p n
    cases n with
    | zero => exact ⟨fun _ => ⟨rfl, fun j hj => absurd hj (by omega)⟩, fun _ => rfl⟩
    | succ n => exact ⟨fun h => (by cases h), fun h => (by have := h.1; simp at this)⟩
  | cons a l ih =>
    intro p n
    cases n with
    | zero => exact ⟨fun h => (by cases h), fun h => (by have := h.1; simp at this)⟩
    | succ n =>
      rw [an_sl, List.cons.injEq, ih (p + 1) n, List.length_cons]
      constructor
      · rintro ⟨h1, h2, h3⟩
        refine ⟨by omega, fun j hj => ?_⟩
        cases j with
        | zero => exact h1
        | succ j =>
          have := h3 j (by omega)
          rw [show p + (j + 1) = p + 1 + j by omega]
          exact this
      · rintro ⟨h1, h2⟩
        refine ⟨h2 0 (by omega), by omega, fun j hj => ?_⟩
        have := h2 (j + 1) (by omega)
        rw [show p + 1 + j = p + (j + 1) by omega]
        exact this
/-- the string of the class's w-th word -/
def an_wx (sg : Bool) (w : Nat) : Nat := match sg with
  | false => w
  | true => match w with
    | 0 => 14
    | 3 => 3
    | 4 => 4
    | 5 => 5
    | 6 => 6
    | 7 => 15
    | 8 => 13
    | 9 => 16
    | 10 => 17
    | 11 => 12
    | 12 => 18
    | 13 => 8
    | _ => 19
/-- the class's token of a word: the last m words are tried -/
def an_wcr (sg : Bool) (s : List Nat) : Nat → Nat × Nat
  | 0 => (1, 0)
  | m + 1 => if s = an_wd (an_wx sg (13 - m)) then (if 13 - m < 7 then (100 + (13 - m), 0) else (3, 13 - m - 7)) else an_wcr sg s m
/-- the model's -/
def an_wm0 (sg : Bool) (s : List Nat) : Nat :=
  if s = an_wd 3 then 3 else if s = an_wd 4 then 4 else if s = an_wd 5 then 5 else if s = an_wd 6 then 6 else if s = an_wd 8 then 42 else if s = an_wd 12 then 46 else if s = an_wd 13 then 47 else
  match sg with
  | false => if s = an_wd 0 then 20 else if s = an_wd 1 then 21 else if s = an_wd 2 then 22 else if s = an_wd 7 then 41 else if s = an_wd 9 then 43 else if s = an_wd 10 then 44 else if s = an_wd 11 then 45 else 1
  | true => if s = an_wd 14 then 23 else if s = an_wd 15 then 48 else if s = an_wd 16 then 49 else if s = an_wd 17 then 50 else if s = an_wd 18 then 51 else 1
/-- the model's number of a fact -/
def an_sf (sg : Bool) (f : Nat) : Nat := match sg with
  | false => f + 1
  | true => match f with
    | 0 => 8
    | 1 => 7
    | 2 => 9
    | 3 => 10
    | 4 => 6
    | 5 => 11
    | _ => 2
/-- the model's token of the class's -/
def an_mt (sg : Bool) (k nm : Nat) : Nat :=
  if k = 0 then 0 else if k = 1 then 1 else if k = 2 then 2 else if k = 3 then 40 + an_sf sg nm else if k < 100 then 100 + k else if k < 103 then (match sg with | false => 20 + (k - 100) | true => 23) else k - 100
theorem an_wc_m (sg : Bool) (s : List Nat) (h : s ≠ []) : an_mt sg (an_wcr sg s 14).1 (an_wcr sg s 14).2 = an_wm0 sg s := by
  have key : ∀ i, i < 19 → s = an_wd i → an_mt sg (an_wcr sg s 14).1 (an_wcr sg s 14).2 = an_wm0 sg s := by
    intro i hi e
    subst e
    have : ∀ i, i < 19 → (an_mt false (an_wcr false (an_wd i) 14).1 (an_wcr false (an_wd i) 14).2 = an_wm0 false (an_wd i) ∧ an_mt true (an_wcr true (an_wd i) 14).1 (an_wcr true (an_wd i) 14).2 = an_wm0 true (an_wd i)) := by decide +kernel
    cases sg with
    | false => exact (this i hi).1
    | true => exact (this i hi).2
  by_cases q : ∃ i, i < 19 ∧ s = an_wd i
  · obtain ⟨i, hi, e⟩ := q
    exact key i hi e
  · have n : ∀ i, i < 19 → ¬ s = an_wd i := fun i hi e => q ⟨i, hi, e⟩
    have n19 : ¬ s = an_wd 19 := h
    have e1 : ∀ m, m ≤ 14 → an_wcr sg s m = (1, 0) := by
      intro m
      induction m with
      | zero => intro _; rfl
      | succ m ih =>
        intro hm
        rw [an_wcr, if_neg, ih (by omega)]
        have : ∀ w, w < 14 → ¬ s = an_wd (an_wx sg w) := by
          intro w hw
          cases sg with
          | false => exact n w (by omega)
          | true =>
            rcases (by omega : w = 0 ∨ w = 1 ∨ w = 2 ∨ w = 3 ∨ w = 4 ∨ w = 5 ∨ w = 6 ∨ w = 7 ∨ w = 8 ∨ w = 9 ∨ w = 10 ∨ w = 11 ∨ w = 12 ∨ w = 13) with rfl | rfl | rfl | rfl | rfl | rfl | rfl | rfl | rfl | rfl | rfl | rfl | rfl | rfl
            all_goals first
              | exact n19
              | exact n _ (by decide)
        exact this (13 - m) (by omega)
    rw [e1 14 (by omega)]
    unfold an_wm0
    rw [if_neg (n 3 (by omega)), if_neg (n 4 (by omega)), if_neg (n 5 (by omega)), if_neg (n 6 (by omega)), if_neg (n 8 (by omega)), if_neg (n 12 (by omega)), if_neg (n 13 (by omega))]
    cases sg with
    | false =>
      dsimp only
      rw [if_neg (n 0 (by omega)), if_neg (n 1 (by omega)), if_neg (n 2 (by omega)), if_neg (n 7 (by omega)), if_neg (n 9 (by omega)), if_neg (n 10 (by omega)), if_neg (n 11 (by omega))]
      rfl
    | true =>
      dsimp only
      rw [if_neg (n 14 (by omega)), if_neg (n 15 (by omega)), if_neg (n 16 (by omega)), if_neg (n 17 (by omega)), if_neg (n 18 (by omega))]
      rfl
def an_let (b : Nat) : Bool := (Nat.ble 97 b && Nat.ble b 122) || (Nat.ble 65 b && Nat.ble b 90)
def an_dig (b : Nat) : Bool := Nat.ble 48 b && Nat.ble b 57
def an_sgn (b : Nat) : Bool := [59, 43, 45, 42, 47, 40, 41, 60, 61, 62].any (fun x => Nat.beq x b)
/-- as far as a run goes -/
def an_run (P : Nat → Bool) (B : Nat → Nat) (T : Nat) : Nat → Nat → Nat
  | 0, p => p
  | f + 1, p => if p < T ∧ P (B p) = true then an_run P B T f (p + 1) else p
/-- a number of n figures -/
def an_num (B : Nat → Nat) (p : Nat) : Nat → Nat
  | 0 => 0
  | n + 1 => an_num B p n * 10 + (B (p + n) - 48)
abbrev an_tke : Type := Nat × Nat × Nat × Nat
/-- the token that begins at p, which is no space: kind, number, place, stop -/
def an_t0 (sg : Bool) (B : Nat → Nat) (T p : Nat) : an_tke :=
  match an_let (B p) with
  | true => ((an_wcr sg (an_sl B p (an_run an_let B T (T - p) p - p)) 14).1, (an_wcr sg (an_sl B p (an_run an_let B T (T - p) p - p)) 14).2, p, an_run an_let B T (T - p) p)
  | false => match an_dig (B p) with
    | true => (if 5 < an_run an_dig B T (T - p) p - p then 1 else 2, if 5 < an_run an_dig B T (T - p) p - p then 0 else an_num B p (an_run an_dig B T (T - p) p - p), p, an_run an_dig B T (T - p) p)
    | false => (if an_sgn (B p) = true then B p else 1, 0, p, p + 1)
/-- the token from p on; f is what is left of the tape -/
def an_tf (sg : Bool) (B : Nat → Nat) (T : Nat) : Nat → Nat → an_tke
  | 0, _ => (0, 0, T, T)
  | f + 1, p => if B p = 32 ∨ B p = 10 then an_tf sg B T f (p + 1) else an_t0 sg B T p
def an_tp (sg : Bool) (B : Nat → Nat) (T p : Nat) : an_tke := an_tf sg B T (T - p) p
/-- the j-th token of a tape -/
def an_tk (sg : Bool) (B : Nat → Nat) (T : Nat) : Nat → an_tke
  | 0 => an_tp sg B T 0
  | j + 1 => an_tp sg B T (an_tk sg B T j).2.2.2
theorem an_tp_end {sg : Bool} {B : Nat → Nat} {T p : Nat} (h : T ≤ p) : an_tp sg B T p = (0, 0, T, T) := by
  unfold an_tp
  rw [show T - p = 0 by omega]
  rfl
theorem an_tp_sp {sg : Bool} {B : Nat → Nat} {T p : Nat} (h : p < T) (hs : B p = 32 ∨ B p = 10) : an_tp sg B T p = an_tp sg B T (p + 1) := by
  unfold an_tp
  rw [show T - p = (T - (p + 1)) + 1 by omega, an_tf, if_pos hs]
theorem an_tp_t0 {sg : Bool} {B : Nat → Nat} {T p : Nat} (h : p < T) (hs : ¬ (B p = 32 ∨ B p = 10)) : an_tp sg B T p = an_t0 sg B T p := by
  unfold an_tp
  rw [show T - p = (T - (p + 1)) + 1 by omega, an_tf, if_neg hs]
theorem an_run_le {P : Nat → Bool} {B : Nat → Nat} {T : Nat} : ∀ f p, p ≤ an_run P B T f p ∧ (p ≤ T → an_run P B T f p ≤ T) := by
  intro f
  induction f with
  | zero => intro p; exact ⟨Nat.le_refl _, fun h => h⟩
  | succ f ih =>
    intro p
    rw [an_run]
    split
    · rename_i h
      have := ih (p + 1)
      exact ⟨by omega, fun _ => this.2 (by omega)⟩
    · exact ⟨Nat.le_refl _, fun h => h⟩
theorem an_run_1 {P : Nat → Bool} {B : Nat → Nat} {T p : Nat} (h : p < T) (hP : P (B p) = true) : an_run P B T (T - p) p = an_run P B T (T - (p + 1)) (p + 1) := by
  rw [show T - p = (T - (p + 1)) + 1 by omega, an_run, if_pos ⟨h, hP⟩]
theorem an_run_0 {P : Nat → Bool} {B : Nat → Nat} {T p : Nat} (h : ¬ (p < T ∧ P (B p) = true)) : an_run P B T (T - p) p = p := by
  cases T - p with
  | zero => rfl
  | succ f => rw [an_run, if_neg h]
/-- a token's stop lies behind its place -/
theorem an_t0_st {sg : Bool} {B : Nat → Nat} {T p : Nat} (h : p < T) : p + 1 ≤ (an_t0 sg B T p).2.2.2 ∧ (an_t0 sg B T p).2.2.2 ≤ T ∧ (an_t0 sg B T p).2.2.1 = p := by
  unfold an_t0
  cases hl : an_let (B p) with
  | true =>
    dsimp only
    rw [an_run_1 h hl]
    have := an_run_le (P := an_let) (B := B) (T := T) (T - (p + 1)) (p + 1)
    exact ⟨this.1, this.2 (by omega), rfl⟩
  | false =>
    cases hd : an_dig (B p) with
    | true =>
      dsimp only
      rw [an_run_1 h hd]
      have := an_run_le (P := an_dig) (B := B) (T := T) (T - (p + 1)) (p + 1)
      exact ⟨this.1, this.2 (by omega), rfl⟩
    | false => exact ⟨Nat.le_refl _, h, rfl⟩
theorem an_wcr_k {sg : Bool} {s : List Nat} : ∀ m, m ≤ 14 → (an_wcr sg s m = (1, 0) ∨ (∃ w, w < 7 ∧ an_wcr sg s m = (100 + w, 0)) ∨ ∃ f, f < 7 ∧ an_wcr sg s m = (3, f)) := by
  intro m
  induction m with
  | zero => intro _; exact Or.inl rfl
  | succ m ih =>
    intro hm
    rw [an_wcr]
    split
    · split
      · rename_i h
        exact Or.inr (Or.inl ⟨_, h, rfl⟩)
      · exact Or.inr (Or.inr ⟨_, by omega, rfl⟩)
    · exact ih (by omega)
theorem an_num_lt {B : Nat → Nat} {p : Nat} : ∀ n, (∀ i, i < n → B (p + i) ≤ 57) → an_num B p n < 10 ^ n := by
  intro n
  induction n with
  | zero => intro _; exact Nat.one_pos
  | succ n ih =>
    intro h
    have h1 := ih (fun i hi => h i (by omega))
    have h2 := h n (by omega)
    rw [an_num, Nat.pow_succ]
    omega
theorem an_run_in {P : Nat → Bool} {B : Nat → Nat} {T : Nat} : ∀ f p i, p ≤ i → i < an_run P B T f p → i < T ∧ P (B i) = true := by
  intro f
  induction f with
  | zero => intro p i h1 h2; rw [an_run] at h2; omega
  | succ f ih =>
    intro p i h1 h2
    rw [an_run] at h2
    split at h2
    · rename_i h
      by_cases q : i = p
      · rw [q]; exact h
      · exact ih (p + 1) i (by omega) h2
    · omega
theorem an_dig_i {b : Nat} (h : an_dig b = true) : 48 ≤ b ∧ b ≤ 57 := by
  unfold an_dig at h
  rw [Bool.and_eq_true, Nat.ble_eq, Nat.ble_eq] at h
  exact h
theorem an_sgn_i {b : Nat} (h : an_sgn b = true) : 40 ≤ b ∧ b ≤ 62 := by
  unfold an_sgn at h
  simp only [List.any_cons, List.any_nil, Bool.or_false, Bool.or_eq_true] at h
  rcases h with h | h | h | h | h | h | h | h | h | h
  all_goals
    have := Nat.eq_of_beq_eq_true h
    omega
/-- what a token may be -/
def an_tko (t : an_tke) : Prop := (t.1 = 0 ∨ t.1 = 1 ∨ (t.1 = 2 ∧ t.2.1 < 100000) ∨ (t.1 = 3 ∧ t.2.1 < 7) ∨ (an_sgn t.1 = true) ∨ (100 ≤ t.1 ∧ t.1 < 107))
theorem an_t0_ok {sg : Bool} {B : Nat → Nat} {T p : Nat} (h : p < T) : an_tko (an_t0 sg B T p) ∧ ¬ (an_t0 sg B T p).1 = 0 := by
  unfold an_t0
  cases hl : an_let (B p) with
  | true =>
    dsimp only
    unfold an_tko
    rcases an_wcr_k (sg := sg) (s := an_sl B p (an_run an_let B T (T - p) p - p)) 14 (by omega) with e | ⟨w, hw, e⟩ | ⟨f, hf, e⟩
    · rw [e]; exact ⟨Or.inr (Or.inl rfl), by decide⟩
    · rw [e]; exact ⟨Or.inr (Or.inr (Or.inr (Or.inr (Or.inr ⟨by omega, by omega⟩)))), by show ¬ 100 + w = 0; omega⟩
    · rw [e]; exact ⟨Or.inr (Or.inr (Or.inr (Or.inl ⟨rfl, hf⟩))), by show ¬ (3 : Nat) = 0; omega⟩
  | false =>
    cases hd : an_dig (B p) with
    | true =>
      dsimp only
      unfold an_tko
      by_cases q : 5 < an_run an_dig B T (T - p) p - p
      · rw [if_pos q, if_pos q]; exact ⟨Or.inr (Or.inl rfl), by decide⟩
      · rw [if_neg q, if_neg q]
        have l := an_num_lt (B := B) (p := p) (an_run an_dig B T (T - p) p - p) (fun i hi => (an_dig_i (an_run_in (T := T) (T - p) p (p + i) (by omega) (by omega)).2).2)
        have l2 : 10 ^ (an_run an_dig B T (T - p) p - p) ≤ 10 ^ 5 := Nat.pow_le_pow_right (by omega) (by omega)
        exact ⟨Or.inr (Or.inr (Or.inl ⟨rfl, by show an_num B p _ < 100000; omega⟩)), by decide⟩
    | false =>
      dsimp only
      unfold an_tko
      cases hs : an_sgn (B p) with
      | true =>
        rw [if_pos rfl]
        exact ⟨Or.inr (Or.inr (Or.inr (Or.inr (Or.inl hs)))), by have := an_sgn_i hs; show ¬ B p = 0; omega⟩
      | false =>
        rw [if_neg (by decide)]
        exact ⟨Or.inr (Or.inl rfl), by decide⟩
theorem an_tp_ok {sg : Bool} {B : Nat → Nat} {T : Nat} : ∀ (m p : Nat), p + m = T → ((an_tp sg B T p = (0, 0, T, T)) ∨ (∃ q, p ≤ q ∧ q < T ∧ an_tp sg B T p = an_t0 sg B T q)) := by
  intro m
  induction m with
  | zero => intro p hp; exact Or.inl (an_tp_end (by omega))
  | succ m ih =>
    intro p hp
    by_cases hs : B p = 32 ∨ B p = 10
    · rw [an_tp_sp (by omega) hs]
      rcases ih (p + 1) (by omega) with e | ⟨q, h1, h2, e⟩
      · exact Or.inl e
      · exact Or.inr ⟨q, by omega, h2, e⟩
    · exact Or.inr ⟨p, Nat.le_refl _, by omega, an_tp_t0 (by omega) hs⟩
/-- the tokens of a tape: N of them, the last one the end -/
theorem an_tk_N {sg : Bool} {B : Nat → Nat} {T : Nat} : ∃ N, 0 < N ∧ N ≤ T + 1 ∧ (∀ j, j + 1 < N → ¬ (an_tk sg B T j).1 = 0) ∧ (∀ j, N ≤ j + 1 → an_tk sg B T j = (0, 0, T, T)) ∧ (∀ j, an_tko (an_tk sg B T j)) ∧ (∀ j, (an_tk sg B T j).2.2.1 ≤ T ∧ (an_tk sg B T j).2.2.2 ≤ T) := by
  have ok : ∀ p, p ≤ T → (an_tp sg B T p = (0, 0, T, T) ∨ (¬ (an_tp sg B T p).1 = 0 ∧ p + 1 ≤ (an_tp sg B T p).2.2.2 ∧ (an_tp sg B T p).2.2.2 ≤ T ∧ (an_tp sg B T p).2.2.1 ≤ T ∧ an_tko (an_tp sg B T p))) := by
    intro p hp
    rcases an_tp_ok (sg := sg) (B := B) (T := T) (T - p) p (by omega) with e | ⟨q, h1, h2, e⟩
    · exact Or.inl e
    · rw [e]
      obtain ⟨s1, s2, s3⟩ := an_t0_st (sg := sg) (B := B) h2
      obtain ⟨o1, o2⟩ := an_t0_ok (sg := sg) (B := B) h2
      exact Or.inr ⟨o2, by omega, s2, by omega, o1⟩
  have all : ∀ j, (an_tk sg B T j = (0, 0, T, T)) ∨ (¬ (an_tk sg B T j).1 = 0 ∧ j + 1 ≤ (an_tk sg B T j).2.2.2 ∧ (an_tk sg B T j).2.2.2 ≤ T ∧ (an_tk sg B T j).2.2.1 ≤ T ∧ an_tko (an_tk sg B T j)) := by
    intro j
    induction j with
    | zero => exact ok 0 (by omega)
    | succ j ih =>
      show an_tp sg B T (an_tk sg B T j).2.2.2 = _ ∨ _
      rcases ih with e | ⟨h1, h2, h3, h4, h5⟩
      · rw [e]; exact Or.inl (an_tp_end (Nat.le_refl _))
      · rcases ok _ h3 with e | ⟨g1, g2, g3, g4, g5⟩
        · exact Or.inl e
        · exact Or.inr ⟨g1, Nat.le_trans (by omega) g2, g3, g4, g5⟩
  have stay : ∀ j, an_tk sg B T j = (0, 0, T, T) → an_tk sg B T (j + 1) = (0, 0, T, T) := fun j e => by
    show an_tp sg B T (an_tk sg B T j).2.2.2 = _
    rw [e]
    exact an_tp_end (Nat.le_refl _)
  have ex : ∃ n, an_tk sg B T n = (0, 0, T, T) := ⟨T, by
    rcases all T with e | ⟨h1, h2, h3, _⟩
    · exact e
    · omega⟩
  obtain ⟨n, hn, hl⟩ := pk_least (fun n => an_tk sg B T n = (0, 0, T, T)) ex
  refine ⟨n + 1, by omega, ?_, fun j hj h0 => ?_, fun j hj => ?_, fun j => ?_, fun j => ?_⟩
  · rcases Nat.eq_zero_or_pos n with q | q
    · omega
    · rcases all (n - 1) with e | ⟨h1, h2, h3, _⟩
      · exact absurd e (hl (n - 1) (by omega))
      · omega
  · rcases all j with e | ⟨h1, _⟩
    · exact hl j (by omega) e
    · exact h1 h0
  · obtain ⟨k, rfl⟩ : ∃ k, j = n + k := ⟨j - n, by omega⟩
    clear hj
    induction k with
    | zero => exact hn
    | succ k ih => exact stay _ ih
  · rcases all j with e | ⟨_, _, _, _, h5⟩
    · rw [e]; exact Or.inl rfl
    · exact h5
  · rcases all j with e | ⟨_, _, h3, h4, _⟩
    · rw [e]; exact ⟨Nat.le_refl _, Nat.le_refl _⟩
    · exact ⟨h4, h3⟩
