/-! The state between calls: of the model's row w, and what the class's cells hold of it (cells moved by o: the world 0, the picture 55). -/
variable {nb : Nat}
def an_k1 (o : Nat) (w : an_W) (μ : am_M) : Prop := an_N (w 0) 90 ∧ an_N (w 1) 151 ∧ an_N (w 2) 7 ∧ an_N (w 3) 64 ∧ an_N (w 9810) 901
theorem an_k1_c {o : Nat} {w w' : an_W} {μ μ' : am_M} (h : an_k1 o w μ) (hw : ∀ j, (j < 4 ∨ j = 9810) → w' j = w j) (hc : ∀ c, False → μ' c = μ c) : an_k1 o w' μ' := by
  unfold an_k1 at h ⊢
  rw [hw 0 (by omega), hw 1 (by omega), hw 2 (by omega), hw 3 (by omega), hw 9810 (by omega)]
  exact h
def an_k2 (o : Nat) (w : an_W) (μ : am_M) : Prop := an_WT w ∧ (∀ a b, a < 3 → b < 3 → w (14 + 3 * a + b) = w (14 + 3 * b + a)) ∧ (∀ a, a < 3 → w (14 + 3 * a + a) = nI 0)
theorem an_k2_c {o : Nat} {w w' : an_W} {μ μ' : am_M} (h : an_k2 o w μ) (hw : ∀ j, (10 ≤ j ∧ j < 23) → w' j = w j) (hc : ∀ c, False → μ' c = μ c) : an_k2 o w' μ' := by
  obtain ⟨⟨h1, h2⟩, h3, h4⟩ := h
  refine ⟨⟨fun b hb => ?_, fun i hi => ?_⟩, fun a b ha hb => ?_, fun a ha => ?_⟩
  · rw [hw _ (by omega)]; exact h1 b hb
  · rw [hw _ (by omega)]; exact h2 i hi
  · rw [hw _ (by omega), hw _ (by omega)]; exact h3 a b ha hb
  · rw [hw _ (by omega)]; exact h4 a ha
def an_k3 (o : Nat) (w : an_W) (μ : am_M) : Prop := ∀ i, i < 180 → an_N (w (30 + i)) 2
theorem an_k3_c {o : Nat} {w w' : an_W} {μ μ' : am_M} (h : an_k3 o w μ) (hw : ∀ j, (30 ≤ j ∧ j < 210) → w' j = w j) (hc : ∀ c, False → μ' c = μ c) : an_k3 o w' μ' := by
  intro i hi
  rw [hw _ (by omega)]
  exact h i hi
def an_k4 (o : Nat) (w : an_W) (μ : am_M) : Prop := ∀ i, i < 90 → w (282 + i) = if 1 ≤ i ∧ i ≤ (w 0).toNatClampNeg then nI 1 else nI 0
theorem an_k4_c {o : Nat} {w w' : an_W} {μ μ' : am_M} (h : an_k4 o w μ) (hw : ∀ j, (j = 0 ∨ 282 ≤ j ∧ j < 372) → w' j = w j) (hc : ∀ c, False → μ' c = μ c) : an_k4 o w' μ' := by
  intro i hi
  rw [hw _ (by omega), hw 0 (by omega)]
  exact h i hi
/-- a cheque's fields, on the day D -/
def an_chq (w : an_W) (D k : Nat) : Prop := an_N (w (3640 + 12 * k + 0)) 6 ∧ an_N (w (3640 + 12 * k + 1)) 4 ∧ an_N (w (3640 + 12 * k + 2)) 6 ∧ an_N (w (3640 + 12 * k + 3)) 4 ∧ (∃ a, 1 ≤ a ∧ a < 100000 ∧ w (3640 + 12 * k + 4) = nI a) ∧ an_N (w (3640 + 12 * k + 5)) (D + 1) ∧ an_N (w (3640 + 12 * k + 6)) 4 ∧ an_N (w (3640 + 12 * k + 7)) 6 ∧ an_N (w (3640 + 12 * k + 8)) 21 ∧ (w (3640 + 12 * k + 9) = - nI 1 ∨ an_N (w (3640 + 12 * k + 9)) (D + 1)) ∧ (¬ w (3640 + 12 * k + 6) = nI 0 → an_N (w (3640 + 12 * k + 9)) (D + 1))
def an_k5 (o : Nat) (w : an_W) (μ : am_M) : Prop := ∀ k, k < an_cnt w → an_chq w (w 0).toNatClampNeg k
theorem an_k5_c {o : Nat} {w w' : an_W} {μ μ' : am_M} (hN150 : ∀ k, k < an_cnt w → k < 150) (h : an_k5 o w μ) (hw : ∀ j, (j < 2 ∨ 3640 ≤ j ∧ j < 5440) → w' j = w j) (hc : ∀ c, False → μ' c = μ c) : an_k5 o w' μ' := by
  have e1 : an_cnt w' = an_cnt w := by unfold an_cnt; rw [hw 1 (by omega)]
  intro k hk
  rw [e1] at hk
  by_cases h150 : k < 150
  · have := h k hk
    unfold an_chq at this ⊢
    rw [hw 0 (by omega), hw _ (by omega), hw (3640 + 12 * k + 1) (by omega), hw (3640 + 12 * k + 2) (by omega), hw (3640 + 12 * k + 3) (by omega), hw (3640 + 12 * k + 4) (by omega), hw (3640 + 12 * k + 5) (by omega), hw (3640 + 12 * k + 6) (by omega), hw (3640 + 12 * k + 7) (by omega), hw (3640 + 12 * k + 8) (by omega), hw (3640 + 12 * k + 9) (by omega)]
    exact this
  · exact absurd (hN150 k hk) h150
def an_k6 (o : Nat) (w : an_W) (μ : am_M) : Prop := ∀ i, i < (w 2).toNatClampNeg → i < 6 → (∃ a, 1 ≤ a ∧ a < 100000 ∧ w (5440 + 2 * i) = nI a) ∧ an_N (w (5440 + 2 * i + 1)) 3
theorem an_k6_c {o : Nat} {w w' : an_W} {μ μ' : am_M} (h : an_k6 o w μ) (hw : ∀ j, (j = 2 ∨ 5440 ≤ j ∧ j < 5452) → w' j = w j) (hc : ∀ c, False → μ' c = μ c) : an_k6 o w' μ' := by
  intro i hi h6
  rw [hw 2 (by omega)] at hi
  rw [hw _ (by omega), hw (5440 + 2 * i + 1) (by omega)]
  exact h i hi h6
/-- what a cheque may have taken from a book, by its state -/
def an_pch (s : Int32) : Nat := if s = nI 0 then 0 else if s = nI 1 then 99999 else if s = nI 2 then 9999 else 109998
def an_pot (w : an_W) : Nat → Nat
  | 0 => 0
  | n + 1 => an_pot w n + an_pch (w (3640 + 12 * n + 6))
/-- how far from nothing a book may be, behind nb calls -/
def an_bkl (nb : Nat) (w : an_W) : Nat := 999999 * nb + an_pot w (min (an_cnt w) 150)
def an_bd (nb : Nat) (w : an_W) : Prop := nb ≤ 600 → ∀ i, i < 24 → - ((an_bkl nb w : Nat) : Int) ≤ (w (210 + i)).toInt ∧ (w (210 + i)).toInt ≤ ((an_bkl nb w : Nat) : Int)
theorem an_pot_c {w w' : an_W} : ∀ n, (∀ k, k < n → w' (3640 + 12 * k + 6) = w (3640 + 12 * k + 6)) → an_pot w' n = an_pot w n := by
  intro n
  induction n with
  | zero => intro _; rfl
  | succ n ih => intro h; rw [an_pot, an_pot, ih (fun k hk => h k (by omega)), h n (by omega)]
theorem an_pch_le (s : Int32) : an_pch s ≤ 109998 := by
  unfold an_pch
  repeat' split
  all_goals omega
theorem an_pot_le {w : an_W} : ∀ n, an_pot w n ≤ 109998 * n := by
  intro n
  induction n with
  | zero => exact Nat.le_refl _
  | succ n ih => have := an_pch_le (w (3640 + 12 * n + 6)); rw [an_pot]; omega
theorem an_pot_u {w w' : an_W} {j : Nat} : ∀ n, j < n → (∀ k, k < n → k ≠ j → w' (3640 + 12 * k + 6) = w (3640 + 12 * k + 6)) → an_pot w' n + an_pch (w (3640 + 12 * j + 6)) = an_pot w n + an_pch (w' (3640 + 12 * j + 6)) := by
  intro n
  induction n with
  | zero => intro h _; omega
  | succ n ih =>
    intro hj h
    rw [an_pot, an_pot]
    by_cases q : j = n
    · rw [an_pot_c n (fun k hk => h k (by omega) (by omega)), q]; omega
    · have := ih (by omega) (fun k hk hk2 => h k (by omega) hk2)
      rw [h n (by omega) (fun z => q z.symm)]; omega
theorem an_bd_c {w w' : an_W} (h : an_bd nb w) (hw : ∀ j, (j = 1 ∨ 210 ≤ j ∧ j < 234 ∨ 3640 ≤ j ∧ j < 5440) → w' j = w j) : an_bd nb w' := by
  have e1 : an_cnt w' = an_cnt w := by unfold an_cnt; rw [hw 1 (by omega)]
  have e2 : an_bkl nb w' = an_bkl nb w := by
    unfold an_bkl
    rw [e1, an_pot_c _ (fun k hk => hw _ (by omega))]
  intro hn i hi
  rw [e2, hw _ (by omega)]
  exact h hn i hi
theorem an_bd_mo {w : an_W} (h : an_bd nb w) : an_bd (nb + 1) w := by
  intro hn i hi
  have := h (by omega) i hi
  unfold an_bkl at this ⊢
  omega
/-- one book moves by v, and the limit by as much at least -/
theorem an_bd_step {nb' i0 c : Nat} {w w' : an_W} {v : Int32} (h : an_bd nb w) (hn : nb ≤ nb') (hl : an_bkl nb w + c ≤ an_bkl nb' w') (hv : -((c : Nat) : Int) ≤ v.toInt ∧ v.toInt ≤ ((c : Nat) : Int)) (hc : c ≤ 1000000) (hs : w' (210 + i0) = w (210 + i0) + v) (ho : ∀ i, i < 24 → i ≠ i0 → w' (210 + i) = w (210 + i)) : an_bd nb' w' := by
  intro hn' i hi
  have h1 := h (by omega) i hi
  have hb : an_bkl nb w ≤ 616499100 := by
    have := an_pot_le (w := w) (min (an_cnt w) 150)
    unfold an_bkl
    omega
  by_cases q : i = i0
  · subst q
    rw [hs, Int32.toInt_add, Int.bmod_eq_of_le (by omega) (by omega)]
    omega
  · rw [ho i hi q]
    omega
theorem an_bd_nomin {w : an_W} (h : an_bd nb w) (hn : nb ≤ 600) : an_nomin w := by
  intro i hi e
  have h1 := h hn i hi
  have hb : an_bkl nb w ≤ 616499100 := by
    have := an_pot_le (w := w) (min (an_cnt w) 150)
    unfold an_bkl
    omega
  rw [e, show (-2147483648 : Int32).toInt = -2147483648 by decide] at h1
  omega
def an_k7 (nb o : Nat) (w : an_W) (μ : am_M) : Prop := (w 5 = am_sum (fun i => w (234 + i)) 24 ∧ w 4 = am_sum (fun i => w (258 + i)) 24) ∧ an_bd nb w
theorem an_k7_c {o : Nat} {w w' : an_W} {μ μ' : am_M} (h : an_k7 nb o w μ) (hw : ∀ j, (j = 1 ∨ j = 4 ∨ j = 5 ∨ 210 ≤ j ∧ j < 282 ∨ 3640 ≤ j ∧ j < 5440) → w' j = w j) (hc : ∀ c, False → μ' c = μ c) : an_k7 nb o w' μ' := by
  obtain ⟨⟨h1, h2⟩, h3⟩ := h
  refine ⟨⟨?_, ?_⟩, an_bd_c h3 (fun j hj => hw j (by omega))⟩
  · rw [hw 5 (by omega), h1]
    exact am_sum_congr 24 (fun k hk => (hw _ (by omega)).symm)
  · rw [hw 4 (by omega), h2]
    exact am_sum_congr 24 (fun k hk => (hw _ (by omega)).symm)
def an_k8 (o : Nat) (w : an_W) (μ : am_M) : Prop := an_RL (58 + o) w μ
theorem an_k8_c {o : Nat} {w w' : an_W} {μ μ' : am_M} (h : an_k8 o w μ) (hw : ∀ j, (j < 2 ∨ 210 ≤ j ∧ j < 282 ∨ 3640 ≤ j ∧ j < 5440) → w' j = w j) (hc : ∀ c, (58 + o ≤ c ∧ c ≤ 62 + o) → μ' c = μ c) : an_k8 o w' μ' := by
  obtain ⟨h1, h2, h3, h4, h5, h6⟩ := h
  unfold an_k8 an_RL
  rw [hc (58 + o) (by omega), hc (58 + o + 1) (by omega), hc (58 + o + 2) (by omega), hc (58 + o + 3) (by omega), hc (58 + o + 4) (by omega), hw 0 (by omega), hw 1 (by omega)]
  refine ⟨h1, h2, fun k f hk hf => ?_, fun i hi => ?_, fun i hi => ?_, fun i hi => ?_⟩
  · rw [hw _ (by omega)]; exact h3 k f hk hf
  · rw [hw _ (by omega)]; exact h4 i hi
  · rw [hw _ (by omega)]; exact h5 i hi
  · rw [hw _ (by omega)]; exact h6 i hi
def an_k9 (o : Nat) (w : an_W) (μ : am_M) : Prop := an_RC (15 + o) w μ ∧ ∀ i, i < 90 → μ (19 + o) i = w (120 + i)
theorem an_k9_c {o : Nat} {w w' : an_W} {μ μ' : am_M} (h : an_k9 o w μ) (hw : ∀ j, (10 ≤ j ∧ j < 23 ∨ 30 ≤ j ∧ j < 210) → w' j = w j) (hc : ∀ c, (16 + o ≤ c ∧ c ≤ 19 + o) → μ' c = μ c) : an_k9 o w' μ' := by
  obtain ⟨⟨h1, h2, h3⟩, h4⟩ := h
  unfold an_k9 an_RC
  rw [hc (15 + o + 1) (by omega), hc (15 + o + 2) (by omega), hc (15 + o + 3) (by omega), hc (19 + o) (by omega)]
  refine ⟨⟨fun i hi => ?_, fun i hi => ?_, fun i hi => ?_⟩, fun i hi => ?_⟩
  · rw [hw _ (by omega)]; exact h1 i hi
  · rw [hw _ (by omega)]; exact h2 i hi
  · rw [hw _ (by omega)]; exact h3 i hi
  · rw [hw _ (by omega)]; exact h4 i hi
def an_k10 (o : Nat) (w : an_W) (μ : am_M) : Prop := an_RE (56 + o) w μ
theorem an_k10_c {o : Nat} {w w' : an_W} {μ μ' : am_M} (h : an_k10 o w μ) (hw : ∀ j, (9810 ≤ j ∧ j < 16120) → w' j = w j) (hc : ∀ c, (56 + o ≤ c ∧ c ≤ 57 + o) → μ' c = μ c) : an_k10 o w' μ' := by
  obtain ⟨h1, h2⟩ := h
  unfold an_k10 an_RE
  rw [hc (56 + o) (by omega), hc (56 + o + 1) (by omega), hw 9810 (by omega)]
  refine ⟨h1, fun i hi => ?_⟩
  rw [hw _ (by omega)]; exact h2 i hi
def an_k11 (o : Nat) (w : an_W) (μ : am_M) : Prop := ∀ i, i < 3240 → μ (65 + o) i = w (372 + i)
theorem an_k11_c {o : Nat} {w w' : an_W} {μ μ' : am_M} (h : an_k11 o w μ) (hw : ∀ j, (372 ≤ j ∧ j < 3612) → w' j = w j) (hc : ∀ c, c = 65 + o → μ' c = μ c) : an_k11 o w' μ' := by
  intro i hi
  rw [hc (65 + o) rfl, hw _ (by omega)]
  exact h i hi
def an_k12 (o : Nat) (w : an_W) (μ : am_M) : Prop := ∀ i, i < 24 → μ (66 + o) i = w (3612 + i)
theorem an_k12_c {o : Nat} {w w' : an_W} {μ μ' : am_M} (h : an_k12 o w μ) (hw : ∀ j, (3612 ≤ j ∧ j < 3636) → w' j = w j) (hc : ∀ c, c = 66 + o → μ' c = μ c) : an_k12 o w' μ' := by
  intro i hi
  rw [hc (66 + o) rfl, hw _ (by omega)]
  exact h i hi
def an_k13 (o : Nat) (w : an_W) (μ : am_M) : Prop := (∀ i, i < 6 → μ (67 + o) i = w (5440 + 2 * i) ∧ μ (68 + o) i = w (5440 + 2 * i + 1)) ∧ μ (14 + o) 7 = w 2
theorem an_k13_c {o : Nat} {w w' : an_W} {μ μ' : am_M} (h : an_k13 o w μ) (hw : ∀ j, (j = 2 ∨ 5440 ≤ j ∧ j < 5452) → w' j = w j) (hc : ∀ c, (c = 14 + o ∨ c = 67 + o ∨ c = 68 + o) → μ' c = μ c) : an_k13 o w' μ' := by
  obtain ⟨h1, h2⟩ := h
  unfold an_k13
  rw [hc (14 + o) (by omega), hc (67 + o) (by omega), hc (68 + o) (by omega), hw 2 (by omega)]
  refine ⟨fun i hi => ?_, h2⟩
  rw [hw _ (by omega), hw (5440 + 2 * i + 1) (by omega)]
  exact h1 i hi
def an_k14 (o : Nat) (w : an_W) (μ : am_M) : Prop := μ (14 + o) 8 = w 3
theorem an_k14_c {o : Nat} {w w' : an_W} {μ μ' : am_M} (h : an_k14 o w μ) (hw : ∀ j, j = 3 → w' j = w j) (hc : ∀ c, c = 14 + o → μ' c = μ c) : an_k14 o w' μ' := by
  unfold an_k14
  rw [hc _ rfl, hw _ rfl]
  exact h
theorem an_sq_c {C C' : Nat → Nat × Nat → Nat → Prop} {Q : Nat} (hC : ∀ p e p', C p e p' → p < p') (h : ∀ p e p', p < Q → C p e p' → C' p e p') : ∀ (l : List (Nat × Nat)) (p q : Nat), an_sq C p l q → q ≤ Q → an_sq C' p l q := by
  intro l
  induction l with
  | nil => intro p q h _; exact h
  | cons e l ih =>
    intro p q h2 hq
    obtain ⟨p1, h3, h4⟩ := h2
    have := (an_sq_le hC l _ _ h4).1
    have := hC _ _ _ h3
    exact ⟨p1, h _ _ _ (by omega) h3, ih _ _ h4 hq⟩
def an_k15 (o : Nat) (w : an_W) (μ : am_M) : Prop := ∃ lss : Nat → List an_Ln, ∀ k, k < 5 → an_okl (Nat.beq k 4) (lss k) ∧ an_scX (Nat.beq k 4) (21 + o + 7 * k) μ (lss k) ∧ an_scM w k (lss k)
theorem an_k15_c {o : Nat} {w w' : an_W} {μ μ' : am_M} (h : an_k15 o w μ) (hw : ∀ j, (5460 ≤ j ∧ j < 9810) → w' j = w j) (hc : ∀ c, (∃ k, k < 5 ∧ 21 + o + 7 * k ≤ c ∧ c ≤ 26 + o + 7 * k) → μ' c = μ c) : an_k15 o w' μ' := by
  obtain ⟨lss, h⟩ := h
  refine ⟨lss, fun k hk => ?_⟩
  obtain ⟨h1, h2, h3, h4⟩ := h k hk
  refine ⟨h1, an_scX_c h2 (fun c' q1 q2 => hc c' ⟨k, hk, q1, by omega⟩), ?_, fun i e he => ?_⟩
  · rw [hw _ (by omega)]; exact h3
  · obtain ⟨f, g, hh, g1, g2, g3, g4, g5, g6, g7⟩ := h4 i e he
    have hi : i < 12 := Nat.lt_of_lt_of_le (List.getElem?_eq_some_iff.mp he).1 h1.1
    have hD : ∀ p e p', p < 410 → an_D w k p e p' → an_D w' k p e p' := by
      intro p e p' hp q
      obtain ⟨q1, q2, q3⟩ := q
      exact ⟨by rw [hw _ (by omega)]; exact q1, by rw [hw _ (by omega)]; exact q2, q3⟩
    have hle := (an_sq_le an_D_lt _ _ _ g7).1
    refine ⟨f, g, hh, ?_, ?_, ?_, ?_, g5, an_sq_c an_D_lt hD _ _ _ g6 (by omega), an_sq_c an_D_lt hD _ _ _ g7 (by omega)⟩
    · rw [hw _ (by omega)]; exact g1
    · rw [hw _ (by omega)]; exact g2
    · rw [hw _ (by omega)]; exact g3
    · rw [hw _ (by omega)]; exact g4
def an_S (nb o : Nat) (w : an_W) (μ : am_M) : Prop := an_k1 o w μ ∧ an_k2 o w μ ∧ an_k3 o w μ ∧ an_k4 o w μ ∧ an_k5 o w μ ∧ an_k6 o w μ ∧ an_k7 nb o w μ ∧ an_k8 o w μ ∧ an_k9 o w μ ∧ an_k10 o w μ ∧ an_k11 o w μ ∧ an_k12 o w μ ∧ an_k13 o w μ ∧ an_k14 o w μ ∧ an_k15 o w μ
/-- between two calls -/
def an_G (nb : Nat) (μ : am_M) : Prop := an_S nb 0 (μ 141) μ ∧ μ 0 9 = μ 140 3 ∧ (μ 140 3 = nI 0 ∨ (μ 140 3 = nI 1 ∧ an_S nb 55 (μ 142) μ)) ∧ (∃ T, T ≤ 400 ∧ μ 1 1 = nI T ∧ μ 140 12 = nI T ∧ ∀ i, i < T → ∃ b, b < 256 ∧ μ 2 i = nI b ∧ μ 146 i = nI b) ∧ μ 0 10 = μ 140 19 ∧ μ 0 11 = μ 140 21 ∧ μ 15 5 = - nI 1 ∧ μ 140 27 = - nI 1
theorem an_S_k150 {o : Nat} {w : an_W} {μ : am_M} (h : an_k1 o w μ) : ∀ k, k < an_cnt w → k < 150 := fun k hk => by have := (an_cnt_e h.2.1).2; omega
/-- the cells of a world that hold its state -/
def an_kc (o c : Nat) : Prop := 14 + o ≤ c ∧ c ≤ 68 + o ∧ ¬ c = 15 + o ∧ ¬ c = 27 + o ∧ ¬ c = 34 + o ∧ ¬ c = 41 + o ∧ ¬ c = 48 + o ∧ ¬ c = 55 + o ∧ ¬ c = 63 + o ∧ ¬ c = 64 + o
theorem an_S_c {o : Nat} {w : an_W} {μ μ' : am_M} (h : an_S nb o w μ) (hc : ∀ c, an_kc o c → μ' c = μ c) : an_S nb o w μ' := by
  obtain ⟨h1, h2, h3, h4, h5, h6, h7, h8, h9, h10, h11, h12, h13, h14, h15⟩ := h
  unfold an_kc at hc
  refine ⟨h1, h2, h3, h4, h5, h6, h7, an_k8_c h8 (fun _ _ => rfl) (fun c hq => hc c (by omega)), an_k9_c h9 (fun _ _ => rfl) (fun c hq => hc c (by omega)), an_k10_c h10 (fun _ _ => rfl) (fun c hq => hc c (by omega)), an_k11_c h11 (fun _ _ => rfl) (fun c hq => hc c (by omega)), an_k12_c h12 (fun _ _ => rfl) (fun c hq => hc c (by omega)), an_k13_c h13 (fun _ _ => rfl) (fun c hq => hc c (by omega)), an_k14_c h14 (fun _ _ => rfl) (fun c hq => hc c (by omega)), an_k15_c h15 (fun _ _ => rfl) (fun c hq => ?_)⟩
  obtain ⟨k, hk, q1, q2⟩ := hq
  exact hc c (by omega)
/-- what stays of the state beside the world -/
def an_rest0 (μ μ' : am_M) : Prop := (∀ c, an_kc 55 c → μ' c = μ c) ∧ μ' 142 = μ 142 ∧ μ' 1 = μ 1 ∧ μ' 2 = μ 2 ∧ μ' 146 = μ 146 ∧ (∀ f, f = 9 ∨ f = 10 ∨ f = 11 → μ' 0 f = μ 0 f) ∧ (∀ f, f = 3 ∨ f = 12 ∨ f = 19 ∨ f = 21 ∨ f = 27 → μ' 140 f = μ 140 f) ∧ μ' 15 5 = μ 15 5
theorem an_G_of {μ μ' : am_M} (hG : an_G nb μ) (hS : an_S nb 0 (μ' 141) μ') (hr : an_rest0 μ μ') : an_G nb μ' := by
  obtain ⟨-, g2, g3, ⟨T, hT, t1, t2, t3⟩, g5, g6, g7, g8⟩ := hG
  obtain ⟨r1, r2, r3, r4, r5, r6, r7, r8⟩ := hr
  refine ⟨hS, ?_, ?_, ⟨T, hT, ?_, ?_, fun i hi => ?_⟩, ?_, ?_, ?_, ?_⟩
  · rw [r6 9 (by omega), r7 3 (by omega)]; exact g2
  · rw [r7 3 (by omega)]
    rcases g3 with q | ⟨q1, q2⟩
    · exact Or.inl q
    · refine Or.inr ⟨q1, ?_⟩
      rw [r2]
      exact an_S_c q2 r1
  · rw [r3]; exact t1
  · rw [r7 12 (by omega)]; exact t2
  · rw [r4, r5]; exact t3 i hi
  · rw [r6 10 (by omega), r7 19 (by omega)]; exact g5
  · rw [r6 11 (by omega), r7 21 (by omega)]; exact g6
  · rw [r8]; exact g7
  · rw [r7 27 (by omega)]; exact g8
theorem an_rest0_un {l : List Nat} {μ μ' : am_M} (hu : an_un l μ μ') (h : ∀ c, c ∈ l → ¬ an_kc 55 c ∧ ¬ c = 142 ∧ ¬ c = 1 ∧ ¬ c = 2 ∧ ¬ c = 146 ∧ ¬ c = 0 ∧ ¬ c = 140 ∧ ¬ c = 15) : an_rest0 μ μ' := by
  have k : ∀ c, (an_kc 55 c ∨ c = 142 ∨ c = 1 ∨ c = 2 ∨ c = 146 ∨ c = 0 ∨ c = 140 ∨ c = 15) → μ' c = μ c := fun c q => hu c (fun z => by
    obtain ⟨z1, z2⟩ := h c z
    rcases q with q | q
    · exact z1 q
    · omega)
  exact ⟨fun c q => k c (Or.inl q), k 142 (by simp), k 1 (by simp), k 2 (by simp), k 146 (by simp), fun f _ => by rw [k 0 (by simp)], fun f _ => by rw [k 140 (by simp)], by rw [k 15 (by simp)]⟩
/-- an argument: too small, too large, or a number below n -/
theorem an_arg (x : Int32) (n : Nat) (h0 : 0 < n) (hn : n < 2147483648) : (x < 0 ∧ x < nI 0) ∨ (¬ x < 0 ∧ ¬ x < nI 0 ∧ nI n ≤ x ∧ nI (n - 1) < x) ∨ ∃ j, j < n ∧ x = nI j := by
  rcases pk_ix x hn with h | h | h
  · exact Or.inl ⟨h, by rw [nI_0]; exact h⟩
  · right; left
    have h2 : nI (n - 1) < x := Int32.lt_of_lt_of_le (nI_lt (by omega) hn) h
    have h3 : ¬ x < 0 := fun q => by
      have := Int32.lt_trans h2 q
      exact nI_pos (by omega) this
    exact ⟨h3, by rw [nI_0]; exact h3, h, h2⟩
  · exact Or.inr (Or.inr h)
theorem an_S_mo {o : Nat} {w : an_W} {μ : am_M} (h : an_S nb o w μ) : an_S (nb + 1) o w μ := by
  obtain ⟨h1, h2, h3, h4, h5, h6, h7, h8, h9, h10, h11, h12, h13, h14, h15⟩ := h
  exact ⟨h1, h2, h3, h4, h5, h6, ⟨h7.1, an_bd_mo h7.2⟩, h8, h9, h10, h11, h12, h13, h14, h15⟩
theorem an_G_mo {μ : am_M} (h : an_G nb μ) : an_G (nb + 1) μ := by
  obtain ⟨g1, g2, g3, g4⟩ := h
  refine ⟨an_S_mo g1, g2, ?_, g4⟩
  rcases g3 with q | ⟨q1, q2⟩
  · exact Or.inl q
  · exact Or.inr ⟨q1, an_S_mo q2⟩
theorem an_G_of1 {μ μ' : am_M} (hG : an_G nb μ) (hS : an_S (nb + 1) 0 (μ' 141) μ') (hr : an_rest0 μ μ') : an_G (nb + 1) μ' := an_G_of (an_G_mo hG) hS hr
