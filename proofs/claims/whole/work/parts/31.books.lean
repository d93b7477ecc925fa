/-! Books, losses, the calendar; class and model. -/
theorem an_RL_b {l : Nat} {w : an_W} {μ : am_M} (h : an_RL l w μ) : (∀ h b, h < 6 → b < 4 → μ (l + 2) (h * 4 + b) = w (210 + 4 * h + b)) ∧ (∀ h b, h < 6 → b < 4 → μ (l + 3) (h * 4 + b) = w (234 + 4 * h + b)) ∧ (∀ h b, h < 6 → b < 4 → μ (l + 4) (h * 4 + b) = w (258 + 4 * h + b)) := by
  obtain ⟨-, -, -, h4, h5, h6⟩ := h
  refine ⟨fun h b q1 q2 => ?_, fun h b q1 q2 => ?_, fun h b q1 q2 => ?_⟩
  · rw [h4 _ (by omega)]; congr 1; omega
  · rw [h5 _ (by omega)]; congr 1; omega
  · rw [h6 _ (by omega)]; congr 1; omega
def an_f_book (w : an_W) (h : Nat) (k : Nat) : Int32 := w (210 + 4 * h + k)
def W_booksOf (w : an_W) (h : Nat) : Int32 := am_sum (an_f_book w h) 4
def an_f_loss (w : an_W) (b : Nat) (k : Nat) : Int32 := if 0 ≤ w (210 + 4 * k + b) then nI 0 else -w (210 + 4 * k + b)
def W_lossOf (w : an_W) (b : Nat) : Int32 := am_sum (an_f_loss w b) 6
def W_lossOfAll (w : an_W) : Int32 := am_sum (W_lossOf w) 4
/-- no book is the least int of all -/
def an_nomin (w : an_W) : Prop := ∀ i, i < 24 → ¬ w (210 + i) = -2147483648
theorem an_neg_toInt {x : Int32} (h : ¬ x = -2147483648) : (-x).toInt = -x.toInt := by
  have h1 := x.le_toInt
  have h2 := x.toInt_lt
  have h3 : ¬ x.toInt = -2147483648 := fun e => h (Int32.toInt_inj.mp (by rw [e]; decide))
  rw [Int32.toInt_neg]
  exact Int.bmod_eq_of_le (by omega) (by omega)
theorem an_max0 {x : Int32} (h : ¬ x = -2147483648) : (if nI 0 < -x then -x else nI 0) = if 0 ≤ x then nI 0 else -x := by
  have e := an_neg_toInt h
  by_cases q : 0 ≤ x
  · rw [if_pos q, if_neg]
    intro z
    rw [nI_0, Int32.lt_iff_toInt_lt, e, Int32.toInt_zero] at z
    rw [Int32.le_iff_toInt_le, Int32.toInt_zero] at q
    omega
  · rw [if_neg q, if_pos]
    rw [nI_0, Int32.lt_iff_toInt_lt, e, Int32.toInt_zero]
    rw [Int32.le_iff_toInt_le, Int32.toInt_zero] at q
    omega
def W_usable (w : an_W) (h b : Nat) : Int32 := w (210 + 4 * h + b) - W_held w (nI h) (nI b)
theorem s_Ledger_booksOf {L d : Nat} {μ : am_M} {F : Int32 → am_M → Prop} {w : an_W} (hd : 4 ≤ d) {h : Nat} (hh : h < 6) (hR : an_RL 58 w μ)
    (hF : F (W_booksOf w h) μ) : am_Ci L d 30 [.ref 58, .int (nI h)] μ F := by
  have r3 := (an_RL_b hR).1
  refine v_Ledger_booksOf ?_
  skip
  refine am_down (P := fun j => am_Ji L d 30 4 [some (.ref 58), some (.int (nI h)), some (.int (am_sum (an_f_book w h) j)), some (.int (nI j))] [] μ F) (N := 4) ?_ ?_ 0 (Nat.zero_le _)
  · refine v_Ledger_booksOf_4 ?_
    rw [if_pos (nI_le (Nat.le_refl _) (by omega))]
    exact hF
  · intro j hj ih
    refine v_Ledger_booksOf_4 ?_
    rw [if_neg (nI_ge hj (by omega))]
    have ih1 : ∀ v, v = (an_f_book w h) j → am_Ji L d 30 4 [some (.ref 58), some (.int (nI h)), some (.int (am_sum (an_f_book w h) j + v)), some (.int (nI (j + 1)))] [] μ F := fun v e => by rw [e]; exact ih
    have ih0 : (an_f_book w h) j = nI 0 → am_Ji L d 30 4 [some (.ref 58), some (.int (nI h)), some (.int (am_sum (an_f_book w h) j)), some (.int (nI (j + 1)))] [] μ F := fun e => by have := ih1 _ e.symm; rwa [am_addz] at this
    simp (discharger := omega) only [pk_mul, nI_add, am_cl, am_gd_in, am_gd_t, am_dp, r3 h j]
    repeat' split
    all_goals first
      | (refine ih0 ?_; simp [an_f_book, *]; done)
      | (refine ih1 _ ?_; simp [an_f_book, *]; done)
theorem s_M_booksOf {L d : Nat} {μ : am_M} {F : Int32 → am_M → Prop} {w : an_W} (hd : 4 ≤ d) {h : Nat} (hh : h < 6) (hw : μ 141 = w)
    (hF : F (W_booksOf w h) μ) : am_Ci L d 196 [.ref 140, .int (nI h)] μ F := by
  skip
  refine v_M_booksOf ?_
  skip
  refine am_down (P := fun j => am_Ji L d 196 4 [some (.ref 140), some (.int (nI h)), some (.int (am_sum (an_f_book w h) j)), some (.int (nI j))] [] μ F) (N := 4) ?_ ?_ 0 (Nat.zero_le _)
  · refine v_M_booksOf_4 ?_
    rw [if_pos (nI_le (Nat.le_refl _) (by omega))]
    exact hF
  · intro j hj ih
    refine v_M_booksOf_4 ?_
    rw [if_neg (nI_ge hj (by omega))]
    have ih1 : ∀ v, v = (an_f_book w h) j → am_Ji L d 196 4 [some (.ref 140), some (.int (nI h)), some (.int (am_sum (an_f_book w h) j + v)), some (.int (nI (j + 1)))] [] μ F := fun v e => by rw [e]; exact ih
    have ih0 : (an_f_book w h) j = nI 0 → am_Ji L d 196 4 [some (.ref 140), some (.int (nI h)), some (.int (am_sum (an_f_book w h) j)), some (.int (nI (j + 1)))] [] μ F := fun e => by have := ih1 _ e.symm; rwa [am_addz] at this
    simp (discharger := omega) only [pk_mul, nI_add, am_cl, am_gd_in, am_gd_t, am_dp, hw]
    repeat' split
    all_goals first
      | (refine ih0 ?_; simp [an_f_book, *]; done)
      | (refine ih1 _ ?_; simp [an_f_book, *]; done)
theorem s_Ledger_lossOfT {L d : Nat} {μ : am_M} {F : Int32 → am_M → Prop} {w : an_W} (hd : 4 ≤ d) {b : Nat} (hb : b < 4) (hR : an_RL 124 w μ) (hm : an_nomin w)
    (hF : F (W_lossOf w b) μ) : am_Ci L d 34 [.ref 124, .int (nI b)] μ F := by
  have r3 := (an_RL_b hR).1
  refine v_Ledger_lossOfT ?_
  skip
  refine am_down (P := fun j => am_Ji L d 34 4 [some (.ref 124), some (.int (nI b)), some (.int (am_sum (an_f_loss w b) j)), some (.int (nI j))] [] μ F) (N := 6) ?_ ?_ 0 (Nat.zero_le _)
  · refine v_Ledger_lossOfT_4 ?_
    rw [if_pos (nI_le (Nat.le_refl _) (by omega))]
    exact hF
  · intro j hj ih
    refine v_Ledger_lossOfT_4 ?_
    rw [if_neg (nI_ge hj (by omega))]
    have ih1 : ∀ v, v = (an_f_loss w b) j → am_Ji L d 34 4 [some (.ref 124), some (.int (nI b)), some (.int (am_sum (an_f_loss w b) j + v)), some (.int (nI (j + 1)))] [] μ F := fun v e => by rw [e]; exact ih
    have ih0 : (an_f_loss w b) j = nI 0 → am_Ji L d 34 4 [some (.ref 124), some (.int (nI b)), some (.int (am_sum (an_f_loss w b) j)), some (.int (nI (j + 1)))] [] μ F := fun e => by have := ih1 _ e.symm; rwa [am_addz] at this
    have h0 : ¬ w (210 + 4 * j + b) = -2147483648 := by rw [show 210 + 4 * j + b = 210 + (4 * j + b) by omega]; exact hm _ (by omega)
    have g1 : (Nat.blt 0 d && true) = true := by rw [Bool.and_true]; exact am_blt.mpr (by omega)
    simp (discharger := omega) only [pk_mul, nI_add, am_cl, am_gd_in, am_gd_t, am_dp, r3 j b, g1]
    rw [an_max0 h0]
    exact ih
theorem s_M_lossOf {L d : Nat} {μ : am_M} {F : Int32 → am_M → Prop} {w : an_W} (hd : 4 ≤ d) {b : Nat} (hb : b < 4) (hw : μ 141 = w)
    (hF : F (W_lossOf w b) μ) : am_Ci L d 227 [.ref 140, .int (nI b)] μ F := by
  skip
  refine v_M_lossOf ?_
  skip
  refine am_down (P := fun j => am_Ji L d 227 4 [some (.ref 140), some (.int (nI b)), some (.int (am_sum (an_f_loss w b) j)), some (.int (nI j))] [] μ F) (N := 6) ?_ ?_ 0 (Nat.zero_le _)
  · refine v_M_lossOf_4 ?_
    rw [if_pos (nI_le (Nat.le_refl _) (by omega))]
    exact hF
  · intro j hj ih
    refine v_M_lossOf_4 ?_
    rw [if_neg (nI_ge hj (by omega))]
    have ih1 : ∀ v, v = (an_f_loss w b) j → am_Ji L d 227 4 [some (.ref 140), some (.int (nI b)), some (.int (am_sum (an_f_loss w b) j + v)), some (.int (nI (j + 1)))] [] μ F := fun v e => by rw [e]; exact ih
    have ih0 : (an_f_loss w b) j = nI 0 → am_Ji L d 227 4 [some (.ref 140), some (.int (nI b)), some (.int (am_sum (an_f_loss w b) j)), some (.int (nI (j + 1)))] [] μ F := fun e => by have := ih1 _ e.symm; rwa [am_addz] at this
    simp (discharger := omega) only [pk_mul, nI_add, am_cl, am_gd_in, am_gd_t, am_dp, hw]
    repeat' split
    all_goals first
      | (refine ih0 ?_; simp [an_f_loss, *]; done)
      | (refine ih1 _ ?_; simp [an_f_loss, *]; done)
theorem s_Ledger_lossOfAllT {L d : Nat} {μ : am_M} {F : Int32 → am_M → Prop} {w : an_W} (hd : 5 ≤ d) (hR : an_RL 124 w μ) (hm : an_nomin w) (hF : F (W_lossOfAll w) μ) : am_Ci L d 35 [.ref 124] μ F := by
  refine v_Ledger_lossOfAllT ?_
  refine am_down (P := fun j => am_Ji L d 35 4 [some (.ref 124), some (.int (am_sum (W_lossOf w) j)), some (.int (nI j))] [] μ F) (N := 4) ?_ ?_ 0 (Nat.zero_le _)
  · refine v_Ledger_lossOfAllT_4 ?_
    rw [if_pos (nI_le (Nat.le_refl _) (by omega))]
    exact hF
  · intro j hj ih
    refine v_Ledger_lossOfAllT_4 ?_
    rw [if_neg (nI_ge hj (by omega))]
    refine ⟨by omega, s_Ledger_lossOfT (by omega) hj hR hm ?_⟩
    rw [nI_add]
    exact ih
theorem s_M_lossOfAll {L d : Nat} {μ : am_M} {F : Int32 → am_M → Prop} {w : an_W} (hd : 5 ≤ d) (hw : μ 141 = w) (hF : F (W_lossOfAll w) μ) : am_Ci L d 228 [.ref 140] μ F := by
  refine v_M_lossOfAll ?_
  refine am_down (P := fun j => am_Ji L d 228 4 [some (.ref 140), some (.int (am_sum (W_lossOf w) j)), some (.int (nI j))] [] μ F) (N := 4) ?_ ?_ 0 (Nat.zero_le _)
  · refine v_M_lossOfAll_4 ?_
    rw [if_pos (nI_le (Nat.le_refl _) (by omega))]
    exact hF
  · intro j hj ih
    refine v_M_lossOfAll_4 ?_
    rw [if_neg (nI_ge hj (by omega))]
    refine ⟨by omega, s_M_lossOf (by omega) hj hw ?_⟩
    rw [nI_add]
    exact ih
theorem s_Ledger_usable {L d : Nat} {μ : am_M} {F : Int32 → am_M → Prop} {w : an_W} {h b : Nat} (hd : 5 ≤ d) (hh : h < 6) (hb : b < 4) (hR : an_RL 58 w μ) (hN : an_N (w 1) 151) (hF : F (W_usable w h b) μ) : am_Ci L d 19 [.ref 58, .int (nI h), .int (nI b)] μ F := by
  have r3 := (an_RL_b hR).1 h b hh hb
  refine v_Ledger_usable ?_
  simp (discharger := omega) only [pk_mul, nI_add, am_cl, am_gd_in, am_gd_t, am_dp]
  refine s_Ledger_held (by omega) hR hN ?_
  rw [r3]
  exact hF
theorem s_Ledger_usableT {L d : Nat} {μ : am_M} {F : Int32 → am_M → Prop} {w : an_W} {h b : Nat} (hd : 5 ≤ d) (hh : h < 6) (hb : b < 4) (hR : an_RL 124 w μ) (hN : an_N (w 1) 151) (hF : F (W_usable w h b) μ) : am_Ci L d 19 [.ref 124, .int (nI h), .int (nI b)] μ F := by
  have r3 := (an_RL_b hR).1 h b hh hb
  refine v_Ledger_usableT ?_
  simp (discharger := omega) only [pk_mul, nI_add, am_cl, am_gd_in, am_gd_t, am_dp]
  refine s_Ledger_heldT (by omega) hR hN ?_
  rw [r3]
  exact hF
theorem s_M_usable {L d : Nat} {μ : am_M} {F : Int32 → am_M → Prop} {w : an_W} {h b : Nat} (hd : 5 ≤ d) (hh : h < 6) (hb : b < 4) (hw : μ 141 = w) (hN : an_N (w 1) 151) (hF : F (W_usable w h b) μ) : am_Ci L d 187 [.ref 140, .int (nI h), .int (nI b)] μ F := by
  refine v_M_usable ?_
  simp (discharger := omega) only [pk_mul, nI_add, am_cl, am_gd_in, am_gd_t, am_dp]
  refine s_M_heldOf (by omega) hw hN ?_
  rw [hw]
  exact hF
/-- the calendar: days from 0 on -/
def W_biz (w : an_W) (day : Nat) : Bool := !(Nat.beq (day % 7) 6) && (Nat.ble 90 day || decide (w (30 + day) = 0))
def an_b (b : Bool) : Int32 := match b with
  | true => nI 1
  | false => nI 0
theorem s_Country_isBusiness {L d : Nat} {μ : am_M} {F : Int32 → am_M → Prop} {w : an_W} {day : Nat} (hR : an_RC 15 w μ) (hday : day < 1000000) (hF : F (an_b (W_biz w day)) μ) : am_Ci L d 3 [.ref 15, .int (nI day)] μ F := by
  obtain ⟨-, -, r3⟩ := hR
  refine v_Country_isBusiness ?_
  rw [if_neg (nI_pos (by omega)), an_gdz (by omega) (by omega), an_rem (by omega) (by omega) (by omega)]
  simp (discharger := omega) only [am_eq', am_le']
  unfold W_biz at hF
  by_cases h1 : day % 7 = 6
  · rw [if_neg (fun q => q h1)]
    rw [h1] at hF
    exact hF
  · rw [if_pos h1]
    have e1 : Nat.beq (day % 7) 6 = false := am_nb h1
    by_cases h2 : 90 ≤ day
    · rw [if_pos h2]
      have e2 : Nat.ble 90 day = true := Nat.ble_eq.mpr h2
      rw [e1, e2] at hF
      exact hF
    · rw [if_neg h2, am_gd_in (by omega) (by omega), am_cl (by omega), r3 day (by omega)]
      have e2 : Nat.ble 90 day = false := by
        cases hq : Nat.ble 90 day with
        | false => rfl
        | true => exact absurd (Nat.ble_eq.mp hq) h2
      rw [e1, e2] at hF
      by_cases h3 : w (30 + day) = 0
      · rw [if_neg (fun q => q h3)]
        rw [decide_eq_true h3] at hF
        exact hF
      · rw [if_pos h3]
        rw [decide_eq_false h3] at hF
        exact hF
theorem s_M_isBusiness {L d : Nat} {μ : am_M} {F : Int32 → am_M → Prop} {w : an_W} {day : Nat} (hw : μ 141 = w) (hday : day < 1000000) (hF : F (an_b (W_biz w day)) μ) : am_Ci L d 152 [.ref 140, .int (nI day)] μ F := by
  refine v_M_isBusiness ?_
  rw [an_gdz (by omega) (by omega), an_rem (by omega) (by omega) (by omega)]
  simp (discharger := omega) only [am_eq', am_le', hw]
  unfold W_biz at hF
  by_cases h1 : day % 7 = 6
  · rw [if_pos h1]
    rw [h1] at hF
    exact hF
  · rw [if_neg h1]
    have e1 : Nat.beq (day % 7) 6 = false := am_nb h1
    by_cases h2 : 90 ≤ day
    · rw [if_pos h2]
      have e2 : Nat.ble 90 day = true := Nat.ble_eq.mpr h2
      rw [e1, e2] at hF
      exact hF
    · rw [if_neg h2, nI_add, am_gd_in (by omega) (by omega), am_cl (by omega)]
      have e2 : Nat.ble 90 day = false := by
        cases hq : Nat.ble 90 day with
        | false => rfl
        | true => exact absurd (Nat.ble_eq.mp hq) h2
      rw [e1, e2] at hF
      by_cases h3 : w (30 + day) = 0
      · rw [if_neg (fun q => q h3)]
        rw [decide_eq_true h3] at hF
        exact hF
      · rw [if_pos h3]
        rw [decide_eq_false h3] at hF
        exact hF
/-- whether trains run -/
def W_train (w : an_W) (day : Nat) : Bool := Nat.ble 90 day || decide (w (120 + day) = 0)
/-- the class's snow: told, or only thought of -/
def an_RS (w : an_W) (μ : am_M) : Prop := (∀ i, i < 90 → ((nI i = μ 15 5 ∨ μ 19 i = nI 1) ↔ ¬ w (120 + i) = 0)) ∧ (∀ i, 90 ≤ i → i < 2147483648 → ¬ nI i = μ 15 5)
theorem s_Country_hasSnow {L d : Nat} {μ : am_M} {F : Int32 → am_M → Prop} {w : an_W} {day : Nat} (hd : 1 ≤ d) (hR : an_RS w μ) (hday : day < 1000000) (hF : F (an_b (!(W_train w day))) μ) : am_Ci L d 4 [.ref 15, .int (nI day)] μ F := by
  obtain ⟨r1, r2⟩ := hR
  refine v_Country_hasSnow ?_
  rw [am_dp (by omega), if_neg (nI_pos (by omega))]
  simp (discharger := omega) only [am_le']
  unfold W_train at hF
  by_cases h2 : 90 ≤ day
  · rw [if_neg (r2 day h2 (by omega)), if_pos h2]
    have e2 : Nat.ble 90 day = true := Nat.ble_eq.mpr h2
    rw [e2] at hF
    exact hF
  · have e2 : Nat.ble 90 day = false := by
      cases hq : Nat.ble 90 day with
      | false => rfl
      | true => exact absurd (Nat.ble_eq.mp hq) h2
    have r := r1 day (by omega)
    rw [e2] at hF
    rw [if_neg h2, am_gd_in (by omega) (by omega), am_cl (by omega)]
    by_cases h3 : w (120 + day) = 0
    · rw [decide_eq_true h3] at hF
      have q : ¬ (nI day = μ 15 5 ∨ μ 19 day = nI 1) := fun q => (r.mp q) h3
      rw [if_neg (fun z => q (Or.inl z)), if_pos (fun z => q (Or.inr z))]
      exact hF
    · rw [decide_eq_false h3] at hF
      have q := r.mpr h3
      by_cases h4 : nI day = μ 15 5
      · rw [if_pos h4]; exact hF
      · rw [if_neg h4, if_neg (fun z => z (q.resolve_left h4))]
        exact hF
theorem s_M_hasTrain {L d : Nat} {μ : am_M} {F : Int32 → am_M → Prop} {w : an_W} {day : Nat} (hw : μ 141 = w) (hday : day < 1000000) (hF : F (an_b (W_train w day)) μ) : am_Ci L d 153 [.ref 140, .int (nI day)] μ F := by
  refine v_M_hasTrain ?_
  simp (discharger := omega) only [am_le', hw]
  unfold W_train at hF
  by_cases h2 : 90 ≤ day
  · have e2 : Nat.ble 90 day = true := Nat.ble_eq.mpr h2
    rw [e2] at hF
    rw [if_pos h2]
    exact hF
  · have e2 : Nat.ble 90 day = false := by
      cases hq : Nat.ble 90 day with
      | false => rfl
      | true => exact absurd (Nat.ble_eq.mp hq) h2
    rw [e2] at hF
    rw [if_neg h2, nI_add, am_gd_in (by omega) (by omega), am_cl (by omega)]
    by_cases h3 : w (120 + day) = 0
    · rw [decide_eq_true h3] at hF
      rw [if_neg (fun z => z h3)]
      exact hF
    · rw [decide_eq_false h3] at hF
      rw [if_pos h3]
      exact hF
