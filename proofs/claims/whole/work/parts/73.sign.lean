/-! Signs: matches, what was kept, turns. -/
theorem an_pk0 {a b : Nat} (h : a < b) (hb : b < 1000000) : ¬ 0 ≤ nI a - nI b := fun q => by
  have := pk_sneg (a := a) (b := b) (by omega) h
  exact absurd q (Int32.not_le.mpr this)
theorem an_apart {a b : Nat} (ha : a < 1000000) (hb : b < 1000000) : (if 0 ≤ nI a - nI b then nI a - nI b else 0 - (nI a - nI b)) = nI (if a ≤ b then b - a else a - b) := by
  by_cases h : a ≤ b
  · rw [if_pos h]
    by_cases h2 : a = b
    · subst h2
      rw [pk_sub (Nat.le_refl _), if_pos (nI_pos' (by omega))]
    · rw [if_neg (an_pk0 (by omega) hb), Int32.zero_sub, Int32.neg_sub, pk_sub h]
  · rw [if_neg h, pk_sub (by omega), if_pos (nI_pos' (by omega))]
/-- amounts and days of the cheques -/
def an_am (w : an_W) (D : Nat) : Prop := ∀ k, k < an_cnt w → (∃ a, a < 100000 ∧ w (3640 + 12 * k + 4) = nI a) ∧ (w (3640 + 12 * k + 6) = nI 1 → ¬ nI D < w (3640 + 12 * k + 9)) ∧ ¬ nI D < w (3640 + 12 * k + 5) ∧ an_N (w (3640 + 12 * k + 1)) 4 ∧ an_N (w (3640 + 12 * k + 3)) 4
/-- cheque i, drawn by h on bank b and paid of late, is near the amount a -/
def an_mc (w : an_W) (D : Nat) (h b : Int32) (a i : Nat) : Bool := decide (w (3640 + 12 * i + 0) = h ∧ w (3640 + 12 * i + 1) = b ∧ w (3640 + 12 * i + 6) = nI 1 ∧ ¬ w (3640 + 12 * i + 9) ≤ nI D - nI 7 ∧ ¬ a / 10 < (if (w (3640 + 12 * i + 4)).toNatClampNeg ≤ a then a - (w (3640 + 12 * i + 4)).toNatClampNeg else (w (3640 + 12 * i + 4)).toNatClampNeg - a))
def an_mf (w : an_W) (D : Nat) (h b : Int32) (a : Nat) : Nat → Nat → Bool
  | 0, _ => false
  | n + 1, i => an_mc w D h b a i || an_mf w D h b a n (i + 1)
def W_match (w : an_W) (D : Nat) (h b : Int32) (a : Nat) : Bool := an_mf w D h b a (an_cnt w) 0
theorem s_hasMatch {L d : Nat} {μ : am_M} {F : Int32 → am_M → Prop} {w : an_W} {D a : Nat} {h b : Int32} (hd : 6 ≤ d) (hR : an_RL 58 w μ) (hN : an_N (w 1) 151) (hD : w 0 = nI D) (ha : a < 100000) (hA : an_am w D) (hF : F (an_b (W_match w D h b a)) μ) : am_Ci L d 80 [.ref 131, .int h, .int b, .int (nI a)] μ F := by
  obtain ⟨eN, lN⟩ := an_cnt_e hN
  obtain ⟨r0, r1, r2, -, -, -⟩ := hR
  refine v_Watch_hasMatch ?_
  suffices ∀ n i, i + n = an_cnt w → F (an_b (an_mf w D h b a n i)) μ → am_Ji L d 80 12 [none, some (.int h), some (.int b), some (.int (nI a)), some (.ref 58), some (.int (nI i)), none, none] [] μ F from this (an_cnt w) 0 (by omega) hF
  intro n
  induction n with
  | zero =>
    intro i hi hF
    refine v_Watch_hasMatch_12 ?_
    rw [r1, eN, if_pos (nI_le (by omega) (by omega))]
    exact hF
  | succ n ih =>
    intro i hi hF
    obtain ⟨⟨a2, la2, ea2⟩, hp, -, -, -⟩ := hA i (by omega)
    refine v_Watch_hasMatch_12 ?_
    rw [r1, eN, if_neg (nI_ge (by omega) (by omega))]
    rw [an_mf] at hF
    have nx : an_mc w D h b a i = false → am_Ji L d 80 12 [none, some (.int h), some (.int b), some (.int (nI a)), some (.ref 58), some (.int (nI (i + 1))), none, none] [] μ F := fun e => by
      rw [e, Bool.false_or] at hF
      exact ih (i + 1) (by omega) hF
    simp (discharger := omega) only [pk_mul, nI_add, am_cl, am_gd_in, am_dp, r2 i, r0, hD, an_gdd, an_gdz, ea2, an_apart, pk_div]
    by_cases q1 : w (3640 + 12 * i + 0) = h
    · rw [if_neg (fun z => z q1)]
      by_cases q2 : w (3640 + 12 * i + 1) = b
      · rw [if_neg (fun z => z q2)]
        by_cases q3 : w (3640 + 12 * i + 6) = nI 1
        · rw [if_neg (fun z => z q3)]
          by_cases q4 : w (3640 + 12 * i + 9) ≤ nI D - nI 7
          · rw [if_pos q4]
            exact nx (decide_eq_false (fun z => z.2.2.2.1 q4))
          · rw [if_neg q4, if_neg (hp q3)]
            by_cases q5 : a / 10 < if a2 ≤ a then a - a2 else a2 - a
            · rw [if_pos (nI_lt q5 (by split <;> omega))]
              exact nx (decide_eq_false (fun z => z.2.2.2.2 (by rw [ea2, am_cl (by omega)]; exact q5)))
            · rw [if_neg (nI_nlt (by omega) (by omega))]
              have e : an_mc w D h b a i = true := decide_eq_true ⟨q1, q2, q3, q4, by rw [ea2, am_cl (by omega)]; exact q5⟩
              rw [e] at hF
              exact hF
        · rw [if_pos q3]
          exact nx (decide_eq_false (fun z => q3 z.2.2.1))
      · rw [if_pos q2]
        exact nx (decide_eq_false (fun z => q2 z.2.1))
    · rw [if_pos q1]
      exact nx (decide_eq_false (fun z => q1 z.1))
theorem an_lt_le {x y : Int32} {A B : Prop} : (if x < y then A else B) = if y ≤ x then B else A := by
  by_cases h : x < y
  · rw [if_pos h, if_neg (Int32.not_le.mpr h)]
  · rw [if_neg h, if_pos (Int32.not_lt.mp h)]
theorem s_M_isMatched {L d : Nat} {μ : am_M} {F : Int32 → am_M → Prop} {w : an_W} {D a k : Nat} (hd : 6 ≤ d) (hk : k < an_cnt w) (hw : μ 141 = w) (hN : an_N (w 1) 151) (hD : w 0 = nI D) (ha : a < 100000) (ea : w (3640 + 12 * k + 4) = nI a) (hA : an_am w D) (hF : F (an_b (W_match w D (w (3640 + 12 * k + 2)) (w (3640 + 12 * k + 3)) a)) μ) : am_Ci L d 218 [.ref 140, .int (nI k)] μ F := by
  obtain ⟨eN, lN⟩ := an_cnt_e hN
  refine v_M_isMatched ?_
  suffices ∀ n i, i + n = an_cnt w → F (an_b (an_mf w D (w (3640 + 12 * k + 2)) (w (3640 + 12 * k + 3)) a n i)) μ → am_Ji L d 218 2 [some (.ref 140), some (.int (nI k)), some (.int (nI i))] [] μ F from this (an_cnt w) 0 (by omega) hF
  intro n
  induction n with
  | zero =>
    intro i hi hF
    refine v_M_isMatched_2 ?_
    rw [hw, eN, if_pos (nI_le (by omega) (by omega))]
    exact hF
  | succ n ih =>
    intro i hi hF
    obtain ⟨⟨a2, la2, ea2⟩, hp, -, -, -⟩ := hA i (by omega)
    refine v_M_isMatched_2 ?_
    rw [hw, eN, if_neg (nI_ge (by omega) (by omega))]
    rw [an_mf] at hF
    have nx : an_mc w D (w (3640 + 12 * k + 2)) (w (3640 + 12 * k + 3)) a i = false → am_Ji L d 218 2 [some (.ref 140), some (.int (nI k)), some (.int (nI (i + 1)))] [] μ F := fun e => by
      rw [e, Bool.false_or] at hF
      exact ih (i + 1) (by omega) hF
    simp (discharger := omega) only [pk_mul, nI_add, am_cl, am_gd_in, am_dp, hw, hD, an_gdz, ea2, ea, pk_div, an_lt_le (x := nI D - nI 7), am_le']
    by_cases q1 : w (3640 + 12 * i + 0) = w (3640 + 12 * k + 2)
    · rw [if_neg (fun z => z q1)]
      by_cases q2 : w (3640 + 12 * i + 1) = w (3640 + 12 * k + 3)
      · rw [if_neg (fun z => z q2)]
        by_cases q3 : w (3640 + 12 * i + 6) = nI 1
        · rw [if_neg (fun z => z q3)]
          by_cases q4 : w (3640 + 12 * i + 9) ≤ nI D - nI 7
          · rw [if_pos q4]
            exact nx (decide_eq_false (fun z => z.2.2.2.1 q4))
          · rw [if_neg q4]
            by_cases q6 : a2 ≤ a
            · rw [if_pos q6, pk_sub q6]
              by_cases q5 : a / 10 < a - a2
              · rw [if_pos (nI_lt q5 (by omega))]
                exact nx (decide_eq_false (fun z => z.2.2.2.2 (by rw [ea2, am_cl (by omega), if_pos q6]; exact q5)))
              · rw [if_neg (nI_nlt (by omega) (by omega))]
                have e : an_mc w D (w (3640 + 12 * k + 2)) (w (3640 + 12 * k + 3)) a i = true := decide_eq_true ⟨q1, q2, q3, q4, by rw [ea2, am_cl (by omega), if_pos q6]; exact q5⟩
                rw [e] at hF
                exact hF
            · rw [if_neg q6, pk_sub (by omega)]
              by_cases q5 : a / 10 < a2 - a
              · rw [if_pos (nI_lt q5 (by omega))]
                exact nx (decide_eq_false (fun z => z.2.2.2.2 (by rw [ea2, am_cl (by omega), if_neg q6]; exact q5)))
              · rw [if_neg (nI_nlt (by omega) (by omega))]
                have e : an_mc w D (w (3640 + 12 * k + 2)) (w (3640 + 12 * k + 3)) a i = true := decide_eq_true ⟨q1, q2, q3, q4, by rw [ea2, am_cl (by omega), if_neg q6]; exact q5⟩
                rw [e] at hF
                exact hF
        · rw [if_pos q3]
          exact nx (decide_eq_false (fun z => q3 z.2.2.1))
      · rw [if_pos q2]
        exact nx (decide_eq_false (fun z => q2 z.2.1))
    · rw [if_pos q1]
      exact nx (decide_eq_false (fun z => q1 z.1))
/-- a bank's bit in a set -/
def an_bt (bk : Int32) (b : Int32) : Prop := (bk >>> (b &&& 31)) &&& nI 1 = nI 1
/-- the kept books of h on the day e at the banks of bk -/
def an_f_kp (w : an_W) (bk : Int32) (h e : Nat) (b : Nat) : Int32 := if (bk >>> (nI b &&& 31)) &&& nI 1 = nI 1 then w (372 + 36 * e + 6 * h + 2 + b) else nI 0
def W_kp (w : an_W) (bk : Int32) (h e : Nat) : Int32 := am_sum (an_f_kp w bk h e) 4
theorem s_keptAt {L d : Nat} {μ : am_M} {F : Int32 → am_M → Prop} {w : an_W} {bk : Int32} {h e : Nat} (hh : h < 6) (he : e < 90) (hk : ∀ i, i < 3240 → μ 65 i = w (372 + i)) (hF : F (W_kp w bk h e) μ) : am_Ci L d 91 [.ref 14, .int (nI e), .int (nI h), .int bk] μ F := by
  refine v_World_keptAt ?_
  refine am_down (P := fun j => am_Ji L d 91 6 [some (.ref 14), some (.int (nI e)), some (.int (nI h)), some (.int bk), some (.int (am_sum (an_f_kp w bk h e) j)), some (.int (nI j))] [] μ F) (N := 4) ?_ ?_ 0 (Nat.zero_le _)
  · refine v_World_keptAt_6 ?_
    rw [if_pos (nI_le (Nat.le_refl _) (by omega))]
    exact hF
  · intro j hj ih
    refine v_World_keptAt_6 ?_
    rw [if_neg (nI_ge hj (by omega))]
    rw [am_sum] at ih
    unfold an_f_kp at ih
    by_cases q : (bk >>> (nI j &&& 31)) &&& nI 1 = nI 1
    · rw [if_neg (fun z => z q)]
      rw [if_pos q] at ih
      simp (discharger := omega) only [pk_mul, nI_add, am_cl, am_gd_in]
      have r : μ 65 ((e * 6 + h) * 6 + 2 + j) = w (372 + 36 * e + 6 * h + 2 + j) := by
        rw [show 372 + 36 * e + 6 * h + 2 + j = 372 + ((e * 6 + h) * 6 + 2 + j) by omega]
        exact hk _ (by omega)
      rw [r]
      exact ih
    · rw [if_pos q, nI_add]
      rw [if_neg q, am_addz] at ih
      exact ih
/-- the least of the kept sums of n days from e on; s: one is met -/
def an_lw (w : an_W) (bk : Int32) (h : Nat) : Nat → Nat → Bool → Int32 → Int32
  | 0, _, _, low => low
  | n + 1, e, s, low => if s = true ∧ low ≤ W_kp w bk h e then an_lw w bk h n (e + 1) s low else an_lw w bk h n (e + 1) true (W_kp w bk h e)
def an_fst (D : Nat) : Nat := max 1 (D - 6)
def W_low (w : an_W) (D : Nat) (bk : Int32) (h : Nat) (book : Int32) : Int32 := an_lw w bk h (D + 1 - an_fst D) (an_fst D) false book
theorem an_st1 : ∀ D, D < 90 → (if nI 1 < (nI D - nI 7) + nI 1 then (nI D - nI 7) + nI 1 else nI 1) = nI (max 1 (D - 6)) := by decide
theorem s_lowOf {L d : Nat} {μ : am_M} {F : Int32 → am_M → Prop} {w : an_W} {D h : Nat} {bk book : Int32} (hd : 3 ≤ d) (hh : h < 6) (hD : μ 58 8 = nI D) (hD9 : D < 90) (hk : ∀ i, i < 3240 → μ 65 i = w (372 + i)) (hF : F (W_low w D bk h book) μ) : am_Ci L d 81 [.ref 131, .int (nI h), .int bk, .int book] μ F := by
  refine v_Watch_lowOf ?_
  rw [an_gdd (by omega), hD, an_st1 D hD9]
  have hf1 : 1 ≤ an_fst D := Nat.le_max_left _ _
  have hf2 : an_fst D ≤ 90 := Nat.max_le.mpr ⟨by omega, by omega⟩
  suffices ∀ n e s low, (n = 0 → D < e) → (n ≠ 0 → e + n = D + 1) → e ≤ 200 → (s = false ↔ e = an_fst D) → an_fst D ≤ e → F (an_lw w bk h n e s low) μ → am_Ji L d 81 32 [some (.ref 131), some (.int (nI h)), some (.int bk), none, some (.int (nI D)), some (.int (nI (an_fst D))), some (.int low), some (.int (nI e)), none] [] μ F from this (D + 1 - an_fst D) (an_fst D) false book (by omega) (by omega) (by omega) (by simp) (Nat.le_refl _) hF
  intro n
  induction n with
  | zero =>
    intro e s low h0 _ _ _ _ hF
    refine v_Watch_lowOf_32 ?_
    rw [if_pos (nI_lt (h0 rfl) (by omega))]
    exact hF
  | succ n ih =>
    intro e s low _ h1 h9 hs hle hF
    have h1 := h1 (by omega)
    refine v_Watch_lowOf_32 ?_
    rw [if_neg (nI_nlt (by omega) (by omega))]
    refine ⟨by omega, s_keptAt hh (by omega) hk ?_⟩
    rw [an_lw] at hF
    rw [nI_add]
    by_cases q : e = an_fst D
    · have hs0 : s = false := hs.mpr q
      rw [if_pos (by rw [q])]
      rw [if_neg (fun z => by rw [hs0] at z; cases z.1)] at hF
      exact ih (e + 1) true _ (by omega) (by omega) (by omega) ⟨fun z => absurd z (by simp), fun z => absurd z (by omega)⟩ (by omega) hF
    · have hs1 : s = true := by
        cases s with
        | true => rfl
        | false => exact absurd (hs.mp rfl) q
      rw [if_neg (fun z => q ((nI_eq (by omega) (by omega)).mp z))]
      by_cases q2 : low ≤ W_kp w bk h e
      · rw [if_pos q2]
        rw [if_pos ⟨hs1, q2⟩, hs1] at hF
        exact ih (e + 1) true _ (by omega) (by omega) (by omega) ⟨fun z => absurd z (by simp), fun z => absurd z (by omega)⟩ (by omega) hF
      · rw [if_neg q2]
        rw [if_neg (fun z => q2 z.2)] at hF
        exact ih (e + 1) true _ (by omega) (by omega) (by omega) ⟨fun z => absurd z (by simp), fun z => absurd z (by omega)⟩ (by omega) hF
