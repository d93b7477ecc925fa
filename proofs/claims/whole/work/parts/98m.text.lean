/-! Texts: the call. -/
variable {nb : Nat}
theorem an_nat (x : Int32) : ∃ n, x = nI n := ⟨x.toBitVec.toNat, by
  apply Int32.toBitVec_inj.mp
  show x.toBitVec = BitVec.ofNat 32 x.toBitVec.toNat
  simp⟩
/-- the same steps, but for what follows where no number belongs -/
def an_eqs : List (Nat × Nat) → List (Nat × Nat) → Prop
  | [], [] => True
  | e :: l, e' :: l' => e'.1 = e.1 ∧ ((e.1 = 0 ∨ e.1 = 15) → e'.2 = e.2) ∧ an_eqs l l'
  | _, _ => False
theorem an_eqs_nil {s' : List (Nat × Nat)} (h : an_eqs [] s') : s' = [] := by
  cases s' with
  | nil => rfl
  | cons _ _ => exact h.elim
theorem an_eqs_C {sg : Bool} {r : Nat → Int32} : ∀ (s s' : List (Nat × Nat)) (p q : Nat), an_eqs s s' → an_sq (an_C sg r) p s q → an_sq (an_C sg r) p s' q := by
  intro s
  induction s with
  | nil => intro s' p q h g; rw [an_eqs_nil h]; exact g
  | cons e l ih =>
    intro s' p q h g
    cases s' with
    | nil => exact h.elim
    | cons e' l' =>
      obtain ⟨h1, h2, h3⟩ := h
      obtain ⟨p1, g1, g2⟩ := g
      refine ⟨p1, ?_, ih _ _ _ h3 g2⟩
      unfold an_C at g1 ⊢
      rw [h1]
      rcases g1 with ⟨a, b, c⟩ | ⟨a, b, c⟩ | g1
      · exact Or.inl ⟨a, by rw [h2 (Or.inr a)]; exact b, c⟩
      · exact Or.inr (Or.inl ⟨a, by rw [h2 (Or.inl a)]; exact b, c⟩)
      · exact Or.inr (Or.inr g1)
theorem an_eqs_ty {sg : Bool} : ∀ (s s' : List (Nat × Nat)) (t t' : List Bool), an_eqs s s' → an_ty sg s t t' → an_ty sg s' t t' := by
  intro s
  induction s with
  | nil => intro s' t t' h g; rw [an_eqs_nil h]; exact g
  | cons e l ih =>
    intro s' t t' h g
    cases s' with
    | nil => exact h.elim
    | cons e' l' =>
      obtain ⟨h1, h2, h3⟩ := h
      obtain ⟨t1, g1, g2⟩ := g
      refine ⟨t1, ?_, ih _ _ _ h3 g2⟩
      unfold an_t1 at g1 ⊢
      rw [h1]
      rcases g1 with ⟨a, b⟩ | g1 | g1 | ⟨r, a, b⟩ | g1
      · exact Or.inl ⟨a, by rw [h2 (Or.inl a)]; exact b⟩
      · exact Or.inr (Or.inl g1)
      · exact Or.inr (Or.inr (Or.inl g1))
      · exact Or.inr (Or.inr (Or.inr (Or.inl ⟨r, a, by rw [h2 (Or.inr a)]; exact b⟩)))
      · exact Or.inr (Or.inr (Or.inr (Or.inr g1)))
theorem an_eqs_D {w : an_W} {k : Nat} : ∀ (s : List (Nat × Nat)) (p q : Nat), an_sq (an_rws (fun x => w (5710 + 820 * k + x))) p s q → ∃ s', an_eqs s s' ∧ an_sq (an_D w k) p s' q := by
  intro s
  induction s with
  | nil => intro p q g; exact ⟨[], trivial, g⟩
  | cons e l ih =>
    intro p q g
    obtain ⟨p1, ⟨g1, g2, g3⟩, g4⟩ := g
    obtain ⟨l', i1, i2⟩ := ih _ _ g4
    by_cases z : e.1 = 0 ∨ e.1 = 15
    · exact ⟨(e.1, e.2) :: l', ⟨rfl, fun _ => rfl, i1⟩, p1, ⟨g1, g2 z, g3⟩, i2⟩
    · obtain ⟨n, hn⟩ := an_nat (w (5710 + 820 * k + (2 * p + 1)))
      exact ⟨(e.1, n) :: l', ⟨rfl, fun y => absurd y z, i1⟩, p1, ⟨g1, hn, g3⟩, i2⟩
theorem an_chs {A : Type} : ∀ (l : List A) (R : Nat → A → A → Prop), (∀ i e, l[i]? = some e → ∃ e', R i e e') → ∃ l' : List A, l'.length = l.length ∧ ∀ i e', l'[i]? = some e' → ∃ e, l[i]? = some e ∧ R i e e' := by
  intro l
  induction l with
  | nil => intro R _; exact ⟨[], rfl, fun i e' h => by simp at h⟩
  | cons a l ih =>
    intro R h
    obtain ⟨a', ha⟩ := h 0 a rfl
    obtain ⟨l', i1, i2⟩ := ih (fun i => R (i + 1)) (fun i e he => h (i + 1) e (by simpa using he))
    refine ⟨a' :: l', by simp [i1], fun i e' he => ?_⟩
    cases i with
    | zero =>
      have : a' = e' := by simpa using he
      subst this
      exact ⟨a, rfl, ha⟩
    | succ i =>
      obtain ⟨e, j1, j2⟩ := i2 i e' (by simpa using he)
      exact ⟨e, by simpa using j1, j2⟩
/-- what the model's row holds of a text's lines -/
def an_txM (w : an_W) (k : Nat) (ls : List an_Ln) : Prop := ∀ i e, ls[i]? = some e → ∃ f g h, w (5470 + (12 * k + i)) = nI e.1 ∧ w (5530 + (12 * k + i)) = nI f ∧ w (5590 + (12 * k + i)) = nI g ∧ w (5650 + (12 * k + i)) = nI h ∧ h ≤ 410 ∧ an_sq (an_rws (fun x => w (5710 + 820 * k + x))) f e.2.1 g ∧ an_sq (an_rws (fun x => w (5710 + 820 * k + x))) g e.2.2 h
theorem an_tx_ls {w : an_W} {μ : am_M} {k c : Nat} {sg : Bool} {l : List an_Ln} (hk : an_okl sg l) (h0 : w (5460 + k) = nI l.length) (h : an_txM w k l) (hX : an_scX sg c μ l) : ∃ l', an_okl sg l' ∧ an_scX sg c μ l' ∧ an_scM w k l' := by
  obtain ⟨l', e1, e2⟩ := an_chs l (fun i e e' => e'.1 = e.1 ∧ an_eqs e.2.1 e'.2.1 ∧ an_eqs e.2.2 e'.2.2 ∧ ∃ f g h, w (5470 + (12 * k + i)) = nI e'.1 ∧ w (5530 + (12 * k + i)) = nI f ∧ w (5590 + (12 * k + i)) = nI g ∧ w (5650 + (12 * k + i)) = nI h ∧ h ≤ 410 ∧ an_sq (an_D w k) f e'.2.1 g ∧ an_sq (an_D w k) g e'.2.2 h) (fun i e he => by
    obtain ⟨f, g, x, g1, g2, g3, g4, g5, g6, g7⟩ := h i e he
    obtain ⟨s1, a1, a2⟩ := an_eqs_D _ _ _ g6
    obtain ⟨s2, b1, b2⟩ := an_eqs_D _ _ _ g7
    exact ⟨(e.1, s1, s2), rfl, a1, b1, f, g, x, g1, g2, g3, g4, g5, a2, b2⟩)
  refine ⟨l', ⟨by rw [e1]; exact hk.1, fun e' he' => ?_⟩, ⟨by rw [e1]; exact hX.1, fun i e' he' => ?_⟩, ⟨by rw [e1]; exact h0, fun i e' he' => ?_⟩⟩
  · obtain ⟨i, hi⟩ := List.mem_iff_getElem?.mp he'
    obtain ⟨e, j1, j2, j3, j4, -⟩ := e2 i e' hi
    obtain ⟨k1, k2, k3⟩ := hk.2 e (List.mem_of_getElem? j1)
    refine ⟨by rw [j2]; exact k1, fun z => an_eqs_ty _ _ _ _ j3 (k2 z), ?_⟩
    rcases k3 with ⟨k3, k4⟩ | k3
    · rw [k3] at j4
      exact Or.inl ⟨an_eqs_nil j4, k4⟩
    · exact Or.inr (an_eqs_ty _ _ _ _ j4 k3)
  · obtain ⟨e, j1, j2, j3, j4, -⟩ := e2 i e' he'
    obtain ⟨p, q, r, k1, k2, k3, k4, k5, k6, k7⟩ := hX.2 i e j1
    exact ⟨p, q, r, fun z => by rw [j2]; exact k1 z, k2, k3, k4, k5, an_eqs_C _ _ _ _ j3 k6, an_eqs_C _ _ _ _ j4 k7⟩
  · obtain ⟨e, j1, j2, j3, j4, f, g, x, g1, g2, g3, g4, g5, g6, g7⟩ := e2 i e' he'
    exact ⟨f, g, x, g1, g2, g3, g4, g5, g6, g7⟩
