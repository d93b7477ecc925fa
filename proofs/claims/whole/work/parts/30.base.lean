/-! What the class's cells hold of the model's row w; sums over cheques and books. -/
abbrev an_W : Type := Nat → Int32
/-- a number below n -/
def an_N (x : Int32) (n : Nat) : Prop := ∃ k, k < n ∧ x = nI k
/-- a ledger at the cell l: day, number of cheques, cheques, books, cash, fees -/
def an_RL (l : Nat) (w : an_W) (μ : am_M) : Prop :=
  μ l 8 = w 0 ∧ μ l 9 = w 1 ∧ (∀ k f, k < 150 → f < 10 → μ (l + 1) (k * 10 + f) = w (3640 + 12 * k + f)) ∧ (∀ i, i < 24 → μ (l + 2) i = w (210 + i)) ∧ (∀ i, i < 24 → μ (l + 3) i = w (234 + i)) ∧ (∀ i, i < 24 → μ (l + 4) i = w (258 + i))
/-- a country at the cell c: towns, rails, days told closed -/
def an_RC (c : Nat) (w : an_W) (μ : am_M) : Prop :=
  (∀ i, i < 4 → μ (c + 1) i = w (10 + i)) ∧ (∀ i, i < 9 → μ (c + 2) i = w (14 + i)) ∧ (∀ i, i < 90 → μ (c + 3) i = w (30 + i))
/-- nothing but the cells of l is written -/
def an_un (l : List Nat) (μ μ' : am_M) : Prop := ∀ c, c ∉ l → μ' c = μ c
theorem an_un_rf {l : List Nat} {μ : am_M} : an_un l μ μ := fun _ _ => rfl
theorem an_un_tr {l l' m : List Nat} {μ μ' μ'' : am_M} (h : an_un l μ μ') (h' : an_un l' μ' μ'') (h1 : ∀ c, c ∈ l → c ∈ m) (h2 : ∀ c, c ∈ l' → c ∈ m) : an_un m μ μ'' := fun c hc => (h' c (fun q => hc (h2 c q))).trans (h c (fun q => hc (h1 c q)))
theorem an_un_w {l : List Nat} {μ : am_M} {c i : Nat} {v : Int32} (h : c ∈ l) : an_un l μ (am_w μ c i v) := fun _ hc => am_w_ne (fun e => hc (e ▸ h))
theorem an_RL_c {l : Nat} {w : an_W} {μ μ' : am_M} (h : an_RL l w μ) (e : ∀ c, l ≤ c → c ≤ l + 4 → μ' c = μ c) : an_RL l w μ' := by
  obtain ⟨h1, h2, h3, h4, h5, h6⟩ := h
  unfold an_RL
  rw [e l (by omega) (by omega), e (l + 1) (by omega) (by omega), e (l + 2) (by omega) (by omega), e (l + 3) (by omega) (by omega), e (l + 4) (by omega) (by omega)]
  exact ⟨h1, h2, h3, h4, h5, h6⟩
theorem an_RC_c {l : Nat} {w : an_W} {μ μ' : am_M} (h : an_RC l w μ) (e : ∀ c, l + 1 ≤ c → c ≤ l + 3 → μ' c = μ c) : an_RC l w μ' := by
  obtain ⟨h1, h2, h3⟩ := h
  unfold an_RC
  rw [e (l + 1) (by omega) (by omega), e (l + 2) (by omega) (by omega), e (l + 3) (by omega) (by omega)]
  exact ⟨h1, h2, h3⟩
theorem an_nz {k : Nat} (h : 0 < k) (h2 : k < 2147483648) : (!(decide (nI k = 0))) = true := by
  rw [decide_eq_false (nI_ne0 h h2)]; rfl
theorem an_gdz {k : Nat} {A : Prop} (h : 0 < k) (h2 : k < 2147483648) : am_gd (!(decide (nI k = 0))) A = A := by rw [an_nz h h2]; rfl
theorem an_rem {a k : Nat} (h : a < 2147483648) (h0 : 0 < k) (hk : k < 2147483648) : nI a - nI a / nI k * nI k = nI (a % k) := pk_rem h h0 hk
theorem an_c20 : ¬ nI 2 = 0 := by decide
theorem an_c02 : ¬ 0 = nI 2 := by decide
/-- the number of cheques, as a Nat -/
def an_cnt (w : an_W) : Nat := (w 1).toNatClampNeg
theorem an_cnt_e {w : an_W} (h : an_N (w 1) 151) : w 1 = nI (an_cnt w) ∧ an_cnt w ≤ 150 := by
  obtain ⟨k, hk, e⟩ := h
  have : an_cnt w = k := by rw [an_cnt, e, am_cl (by omega)]
  rw [this]
  exact ⟨e, by omega⟩
def an_f_held (w : an_W) (h b : Int32) (k : Nat) : Int32 := if ¬ w (3640 + 12 * k + 5) + w (3640 + 12 * k + 8) ≤ w 0 ∧ ¬ w (3640 + 12 * k + 6) = nI 3 ∧ w (3640 + 12 * k + 2) = h ∧ w (3640 + 12 * k + 3) = b then w (3640 + 12 * k + 4) else nI 0
def W_held (w : an_W) (h b : Int32) : Int32 := am_sum (an_f_held w h b) (an_cnt w)
def an_f_lately (w : an_W) (h b : Int32) (k : Nat) : Int32 := if w (3640 + 12 * k + 2) = h ∧ w (3640 + 12 * k + 3) = b ∧ ¬ w (3640 + 12 * k + 5) ≤ w 0 - nI 7 then nI 1 else nI 0
def W_lately (w : an_W) (h b : Int32) : Int32 := am_sum (an_f_lately w h b) (an_cnt w)
def an_f_flyS (w : an_W)  (k : Nat) : Int32 := if w (3640 + 12 * k + 6) = 0 ∨ w (3640 + 12 * k + 6) = nI 2 then w (3640 + 12 * k + 4) else nI 0
def W_flyS (w : an_W)  : Int32 := am_sum (an_f_flyS w ) (an_cnt w)
def an_f_flyN (w : an_W)  (k : Nat) : Int32 := if w (3640 + 12 * k + 6) = 0 ∨ w (3640 + 12 * k + 6) = nI 2 then nI 1 else nI 0
def W_flyN (w : an_W)  : Int32 := am_sum (an_f_flyN w ) (an_cnt w)
def an_f_water (w : an_W) (h : Int32) (k : Nat) : Int32 := if w (3640 + 12 * k + 6) = 0 ∧ w (3640 + 12 * k + 0) = h ∨ w (3640 + 12 * k + 6) = nI 2 ∧ w (3640 + 12 * k + 2) = h then w (3640 + 12 * k + 4) else nI 0
def W_water (w : an_W) (h : Int32) : Int32 := am_sum (an_f_water w h) (an_cnt w)
theorem s_Ledger_held {L d : Nat} {μ : am_M} {F : Int32 → am_M → Prop} {w : an_W} {h b : Int32} (hd : 3 ≤ d) (hR : an_RL 58 w μ) (hN : an_N (w 1) 151)
    (hF : F (W_held w h b) μ) : am_Ci L d 18 [.ref 58, .int h, .int b] μ F := by
  obtain ⟨e1, hN1⟩ := an_cnt_e hN
  obtain ⟨r0, r1, r2, r3, r4, r5⟩ := hR
  refine v_Ledger_held ?_
  refine am_down (P := fun j => am_Ji L d 18 5 [some (.ref 58), some (.int h), some (.int b), some (.int (am_sum (an_f_held w h b) j)), some (.int (nI j)), none] [] μ F) (N := an_cnt w) ?_ ?_ 0 (Nat.zero_le _)
  · refine v_Ledger_held_5 ?_
    rw [r1, e1, if_pos (nI_le (Nat.le_refl _) (by omega))]
    exact hF
  · intro j hj ih
    refine v_Ledger_held_5 ?_
    rw [r1, e1, if_neg (nI_ge hj (by omega))]
    have ih1 : ∀ v, v = (an_f_held w h b) j → am_Ji L d 18 5 [some (.ref 58), some (.int h), some (.int b), some (.int (am_sum (an_f_held w h b) j + v)), some (.int (nI (j + 1))), none] [] μ F := fun v e => by rw [e]; exact ih
    have ih0 : (an_f_held w h b) j = nI 0 → am_Ji L d 18 5 [some (.ref 58), some (.int h), some (.int b), some (.int (am_sum (an_f_held w h b) j)), some (.int (nI (j + 1))), none] [] μ F := fun e => by have := ih1 _ e.symm; rwa [am_addz] at this
    simp (discharger := omega) only [pk_mul, nI_add, am_cl, am_gd_in, am_gd_t, am_dp, r0, r2 j]
    repeat' split
    all_goals first
      | (refine ih0 ?_; simp [an_f_held, *]; done)
      | (refine ih1 _ ?_; simp [an_f_held, *]; done)
      | (refine ih0 ?_; simp_all [an_f_held, an_c20, an_c02]; done)
      | (refine ih1 _ ?_; simp_all [an_f_held, an_c20, an_c02]; done)
      | (exfalso; simp_all [an_c20, an_c02]; done)
theorem s_Ledger_paidInLately {L d : Nat} {μ : am_M} {F : Int32 → am_M → Prop} {w : an_W} {h b : Int32} (hd : 3 ≤ d) (hR : an_RL 58 w μ) (hN : an_N (w 1) 151) (hday : ∀ k, k < an_cnt w → ¬ w 0 < w (3640 + 12 * k + 5))
    (hF : F (W_lately w h b) μ) : am_Ci L d 20 [.ref 58, .int h, .int b] μ F := by
  obtain ⟨e1, hN1⟩ := an_cnt_e hN
  obtain ⟨r0, r1, r2, r3, r4, r5⟩ := hR
  refine v_Ledger_paidInLately ?_
  refine am_down (P := fun j => am_Ji L d 20 5 [some (.ref 58), some (.int h), some (.int b), some (.int (am_sum (an_f_lately w h b) j)), some (.int (nI j))] [] μ F) (N := an_cnt w) ?_ ?_ 0 (Nat.zero_le _)
  · refine v_Ledger_paidInLately_5 ?_
    rw [r1, e1, if_pos (nI_le (Nat.le_refl _) (by omega))]
    exact hF
  · intro j hj ih
    refine v_Ledger_paidInLately_5 ?_
    rw [r1, e1, if_neg (nI_ge hj (by omega))]
    have ih1 : ∀ v, v = (an_f_lately w h b) j → am_Ji L d 20 5 [some (.ref 58), some (.int h), some (.int b), some (.int (am_sum (an_f_lately w h b) j + v)), some (.int (nI (j + 1)))] [] μ F := fun v e => by rw [e]; exact ih
    have ih0 : (an_f_lately w h b) j = nI 0 → am_Ji L d 20 5 [some (.ref 58), some (.int h), some (.int b), some (.int (am_sum (an_f_lately w h b) j)), some (.int (nI (j + 1)))] [] μ F := fun e => by have := ih1 _ e.symm; rwa [am_addz] at this
    simp (discharger := omega) only [pk_mul, nI_add, am_cl, am_gd_in, am_gd_t, am_dp, r0, r2 j, hday j hj, if_false]
    repeat' split
    all_goals first
      | (refine ih0 ?_; simp [an_f_lately, *]; done)
      | (refine ih1 _ ?_; simp [an_f_lately, *]; done)
      | (refine ih0 ?_; simp_all [an_f_lately, an_c20, an_c02]; done)
      | (refine ih1 _ ?_; simp_all [an_f_lately, an_c20, an_c02]; done)
      | (exfalso; simp_all [an_c20, an_c02]; done)
theorem s_Ledger_waterOf {L d : Nat} {μ : am_M} {F : Int32 → am_M → Prop} {w : an_W} {h : Int32} (hd : 3 ≤ d) (hR : an_RL 58 w μ) (hN : an_N (w 1) 151)
    (hF : F (W_water w h) μ) : am_Ci L d 31 [.ref 58, .int h] μ F := by
  obtain ⟨e1, hN1⟩ := an_cnt_e hN
  obtain ⟨r0, r1, r2, r3, r4, r5⟩ := hR
  refine v_Ledger_waterOf ?_
  refine am_down (P := fun j => am_Ji L d 31 4 [some (.ref 58), some (.int h), some (.int (am_sum (an_f_water w h) j)), some (.int (nI j))] [] μ F) (N := an_cnt w) ?_ ?_ 0 (Nat.zero_le _)
  · refine v_Ledger_waterOf_4 ?_
    rw [r1, e1, if_pos (nI_le (Nat.le_refl _) (by omega))]
    exact hF
  · intro j hj ih
    refine v_Ledger_waterOf_4 ?_
    rw [r1, e1, if_neg (nI_ge hj (by omega))]
    have ih1 : ∀ v, v = (an_f_water w h) j → am_Ji L d 31 4 [some (.ref 58), some (.int h), some (.int (am_sum (an_f_water w h) j + v)), some (.int (nI (j + 1)))] [] μ F := fun v e => by rw [e]; exact ih
    have ih0 : (an_f_water w h) j = nI 0 → am_Ji L d 31 4 [some (.ref 58), some (.int h), some (.int (am_sum (an_f_water w h) j)), some (.int (nI (j + 1)))] [] μ F := fun e => by have := ih1 _ e.symm; rwa [am_addz] at this
    simp (discharger := omega) only [pk_mul, nI_add, am_cl, am_gd_in, am_gd_t, am_dp, r0, r2 j]
    repeat' split
    all_goals first
      | (refine ih0 ?_; simp [an_f_water, *]; done)
      | (refine ih1 _ ?_; simp [an_f_water, *]; done)
      | (refine ih0 ?_; simp_all [an_f_water, an_c20, an_c02]; done)
      | (refine ih1 _ ?_; simp_all [an_f_water, an_c20, an_c02]; done)
      | (exfalso; simp_all [an_c20, an_c02]; done)
theorem s_Ledger_sumInFlight {L d : Nat} {μ : am_M} {F : Int32 → am_M → Prop} {w : an_W} (hd : 3 ≤ d) (hR : an_RL 58 w μ) (hN : an_N (w 1) 151)
    (hF : F (W_flyS w ) μ) : am_Ci L d 32 [.ref 58] μ F := by
  obtain ⟨e1, hN1⟩ := an_cnt_e hN
  obtain ⟨r0, r1, r2, r3, r4, r5⟩ := hR
  refine v_Ledger_sumInFlight ?_
  refine am_down (P := fun j => am_Ji L d 32 4 [some (.ref 58), some (.int (am_sum (an_f_flyS w ) j)), some (.int (nI j))] [] μ F) (N := an_cnt w) ?_ ?_ 0 (Nat.zero_le _)
  · refine v_Ledger_sumInFlight_4 ?_
    rw [r1, e1, if_pos (nI_le (Nat.le_refl _) (by omega))]
    exact hF
  · intro j hj ih
    refine v_Ledger_sumInFlight_4 ?_
    rw [r1, e1, if_neg (nI_ge hj (by omega))]
    have ih1 : ∀ v, v = (an_f_flyS w ) j → am_Ji L d 32 4 [some (.ref 58), some (.int (am_sum (an_f_flyS w ) j + v)), some (.int (nI (j + 1)))] [] μ F := fun v e => by rw [e]; exact ih
    have ih0 : (an_f_flyS w ) j = nI 0 → am_Ji L d 32 4 [some (.ref 58), some (.int (am_sum (an_f_flyS w ) j)), some (.int (nI (j + 1)))] [] μ F := fun e => by have := ih1 _ e.symm; rwa [am_addz] at this
    simp (discharger := omega) only [pk_mul, nI_add, am_cl, am_gd_in, am_gd_t, am_dp, r0, r2 j]
    repeat' split
    all_goals first
      | (refine ih0 ?_; simp [an_f_flyS, *]; done)
      | (refine ih1 _ ?_; simp [an_f_flyS, *]; done)
      | (refine ih0 ?_; simp_all [an_f_flyS, an_c20, an_c02]; done)
      | (refine ih1 _ ?_; simp_all [an_f_flyS, an_c20, an_c02]; done)
      | (exfalso; simp_all [an_c20, an_c02]; done)
theorem s_Ledger_countInFlight {L d : Nat} {μ : am_M} {F : Int32 → am_M → Prop} {w : an_W} (hd : 3 ≤ d) (hR : an_RL 58 w μ) (hN : an_N (w 1) 151)
    (hF : F (W_flyN w ) μ) : am_Ci L d 33 [.ref 58] μ F := by
  obtain ⟨e1, hN1⟩ := an_cnt_e hN
  obtain ⟨r0, r1, r2, r3, r4, r5⟩ := hR
  refine v_Ledger_countInFlight ?_
  refine am_down (P := fun j => am_Ji L d 33 4 [some (.ref 58), some (.int (am_sum (an_f_flyN w ) j)), some (.int (nI j))] [] μ F) (N := an_cnt w) ?_ ?_ 0 (Nat.zero_le _)
  · refine v_Ledger_countInFlight_4 ?_
    rw [r1, e1, if_pos (nI_le (Nat.le_refl _) (by omega))]
    exact hF
  · intro j hj ih
    refine v_Ledger_countInFlight_4 ?_
    rw [r1, e1, if_neg (nI_ge hj (by omega))]
    have ih1 : ∀ v, v = (an_f_flyN w ) j → am_Ji L d 33 4 [some (.ref 58), some (.int (am_sum (an_f_flyN w ) j + v)), some (.int (nI (j + 1)))] [] μ F := fun v e => by rw [e]; exact ih
    have ih0 : (an_f_flyN w ) j = nI 0 → am_Ji L d 33 4 [some (.ref 58), some (.int (am_sum (an_f_flyN w ) j)), some (.int (nI (j + 1)))] [] μ F := fun e => by have := ih1 _ e.symm; rwa [am_addz] at this
    simp (discharger := omega) only [pk_mul, nI_add, am_cl, am_gd_in, am_gd_t, am_dp, r0, r2 j]
    repeat' split
    all_goals first
      | (refine ih0 ?_; simp [an_f_flyN, *]; done)
      | (refine ih1 _ ?_; simp [an_f_flyN, *]; done)
      | (refine ih0 ?_; simp_all [an_f_flyN, an_c20, an_c02]; done)
      | (refine ih1 _ ?_; simp_all [an_f_flyN, an_c20, an_c02]; done)
      | (exfalso; simp_all [an_c20, an_c02]; done)
theorem s_Ledger_heldT {L d : Nat} {μ : am_M} {F : Int32 → am_M → Prop} {w : an_W} {h b : Int32} (hd : 3 ≤ d) (hR : an_RL 124 w μ) (hN : an_N (w 1) 151)
    (hF : F (W_held w h b) μ) : am_Ci L d 18 [.ref 124, .int h, .int b] μ F := by
  obtain ⟨e1, hN1⟩ := an_cnt_e hN
  obtain ⟨r0, r1, r2, r3, r4, r5⟩ := hR
  refine v_Ledger_heldT ?_
  refine am_down (P := fun j => am_Ji L d 18 5 [some (.ref 124), some (.int h), some (.int b), some (.int (am_sum (an_f_held w h b) j)), some (.int (nI j)), none] [] μ F) (N := an_cnt w) ?_ ?_ 0 (Nat.zero_le _)
  · refine v_Ledger_heldT_5 ?_
    rw [r1, e1, if_pos (nI_le (Nat.le_refl _) (by omega))]
    exact hF
  · intro j hj ih
    refine v_Ledger_heldT_5 ?_
    rw [r1, e1, if_neg (nI_ge hj (by omega))]
    have ih1 : ∀ v, v = (an_f_held w h b) j → am_Ji L d 18 5 [some (.ref 124), some (.int h), some (.int b), some (.int (am_sum (an_f_held w h b) j + v)), some (.int (nI (j + 1))), none] [] μ F := fun v e => by rw [e]; exact ih
    have ih0 : (an_f_held w h b) j = nI 0 → am_Ji L d 18 5 [some (.ref 124), some (.int h), some (.int b), some (.int (am_sum (an_f_held w h b) j)), some (.int (nI (j + 1))), none] [] μ F := fun e => by have := ih1 _ e.symm; rwa [am_addz] at this
    simp (discharger := omega) only [pk_mul, nI_add, am_cl, am_gd_in, am_gd_t, am_dp, r0, r2 j]
    repeat' split
    all_goals first
      | (refine ih0 ?_; simp [an_f_held, *]; done)
      | (refine ih1 _ ?_; simp [an_f_held, *]; done)
      | (refine ih0 ?_; simp_all [an_f_held, an_c20, an_c02]; done)
      | (refine ih1 _ ?_; simp_all [an_f_held, an_c20, an_c02]; done)
      | (exfalso; simp_all [an_c20, an_c02]; done)
theorem s_Ledger_paidInLatelyT {L d : Nat} {μ : am_M} {F : Int32 → am_M → Prop} {w : an_W} {h b : Int32} (hd : 3 ≤ d) (hR : an_RL 124 w μ) (hN : an_N (w 1) 151) (hday : ∀ k, k < an_cnt w → ¬ w 0 < w (3640 + 12 * k + 5))
    (hF : F (W_lately w h b) μ) : am_Ci L d 20 [.ref 124, .int h, .int b] μ F := by
  obtain ⟨e1, hN1⟩ := an_cnt_e hN
  obtain ⟨r0, r1, r2, r3, r4, r5⟩ := hR
  refine v_Ledger_paidInLatelyT ?_
  refine am_down (P := fun j => am_Ji L d 20 5 [some (.ref 124), some (.int h), some (.int b), some (.int (am_sum (an_f_lately w h b) j)), some (.int (nI j))] [] μ F) (N := an_cnt w) ?_ ?_ 0 (Nat.zero_le _)
  · refine v_Ledger_paidInLatelyT_5 ?_
    rw [r1, e1, if_pos (nI_le (Nat.le_refl _) (by omega))]
    exact hF
  · intro j hj ih
    refine v_Ledger_paidInLatelyT_5 ?_
    rw [r1, e1, if_neg (nI_ge hj (by omega))]
    have ih1 : ∀ v, v = (an_f_lately w h b) j → am_Ji L d 20 5 [some (.ref 124), some (.int h), some (.int b), some (.int (am_sum (an_f_lately w h b) j + v)), some (.int (nI (j + 1)))] [] μ F := fun v e => by rw [e]; exact ih
    have ih0 : (an_f_lately w h b) j = nI 0 → am_Ji L d 20 5 [some (.ref 124), some (.int h), some (.int b), some (.int (am_sum (an_f_lately w h b) j)), some (.int (nI (j + 1)))] [] μ F := fun e => by have := ih1 _ e.symm; rwa [am_addz] at this
    simp (discharger := omega) only [pk_mul, nI_add, am_cl, am_gd_in, am_gd_t, am_dp, r0, r2 j, hday j hj, if_false]
    repeat' split
    all_goals first
      | (refine ih0 ?_; simp [an_f_lately, *]; done)
      | (refine ih1 _ ?_; simp [an_f_lately, *]; done)
      | (refine ih0 ?_; simp_all [an_f_lately, an_c20, an_c02]; done)
      | (refine ih1 _ ?_; simp_all [an_f_lately, an_c20, an_c02]; done)
      | (exfalso; simp_all [an_c20, an_c02]; done)
theorem s_Ledger_countInFlightT {L d : Nat} {μ : am_M} {F : Int32 → am_M → Prop} {w : an_W} (hd : 3 ≤ d) (hR : an_RL 124 w μ) (hN : an_N (w 1) 151)
    (hF : F (W_flyN w ) μ) : am_Ci L d 33 [.ref 124] μ F := by
  obtain ⟨e1, hN1⟩ := an_cnt_e hN
  obtain ⟨r0, r1, r2, r3, r4, r5⟩ := hR
  refine v_Ledger_countInFlightT ?_
  refine am_down (P := fun j => am_Ji L d 33 4 [some (.ref 124), some (.int (am_sum (an_f_flyN w ) j)), some (.int (nI j))] [] μ F) (N := an_cnt w) ?_ ?_ 0 (Nat.zero_le _)
  · refine v_Ledger_countInFlightT_4 ?_
    rw [r1, e1, if_pos (nI_le (Nat.le_refl _) (by omega))]
    exact hF
  · intro j hj ih
    refine v_Ledger_countInFlightT_4 ?_
    rw [r1, e1, if_neg (nI_ge hj (by omega))]
    have ih1 : ∀ v, v = (an_f_flyN w ) j → am_Ji L d 33 4 [some (.ref 124), some (.int (am_sum (an_f_flyN w ) j + v)), some (.int (nI (j + 1)))] [] μ F := fun v e => by rw [e]; exact ih
    have ih0 : (an_f_flyN w ) j = nI 0 → am_Ji L d 33 4 [some (.ref 124), some (.int (am_sum (an_f_flyN w ) j)), some (.int (nI (j + 1)))] [] μ F := fun e => by have := ih1 _ e.symm; rwa [am_addz] at this
    simp (discharger := omega) only [pk_mul, nI_add, am_cl, am_gd_in, am_gd_t, am_dp, r0, r2 j]
    repeat' split
    all_goals first
      | (refine ih0 ?_; simp [an_f_flyN, *]; done)
      | (refine ih1 _ ?_; simp [an_f_flyN, *]; done)
      | (refine ih0 ?_; simp_all [an_f_flyN, an_c20, an_c02]; done)
      | (refine ih1 _ ?_; simp_all [an_f_flyN, an_c20, an_c02]; done)
      | (exfalso; simp_all [an_c20, an_c02]; done)
theorem s_M_heldOf {L d : Nat} {μ : am_M} {F : Int32 → am_M → Prop} {w : an_W} {h b : Int32} (hd : 3 ≤ d) (hw : μ 141 = w) (hN : an_N (w 1) 151)
    (hF : F (W_held w h b) μ) : am_Ci L d 186 [.ref 140, .int h, .int b] μ F := by
  obtain ⟨e1, hN1⟩ := an_cnt_e hN
  refine v_M_heldOf ?_
  refine am_down (P := fun j => am_Ji L d 186 5 [some (.ref 140), some (.int h), some (.int b), some (.int (am_sum (an_f_held w h b) j)), some (.int (nI j))] [] μ F) (N := an_cnt w) ?_ ?_ 0 (Nat.zero_le _)
  · refine v_M_heldOf_5 ?_
    rw [hw, e1, if_pos (nI_le (Nat.le_refl _) (by omega))]
    exact hF
  · intro j hj ih
    refine v_M_heldOf_5 ?_
    rw [hw, e1, if_neg (nI_ge hj (by omega))]
    have ih1 : ∀ v, v = (an_f_held w h b) j → am_Ji L d 186 5 [some (.ref 140), some (.int h), some (.int b), some (.int (am_sum (an_f_held w h b) j + v)), some (.int (nI (j + 1)))] [] μ F := fun v e => by rw [e]; exact ih
    have ih0 : (an_f_held w h b) j = nI 0 → am_Ji L d 186 5 [some (.ref 140), some (.int h), some (.int b), some (.int (am_sum (an_f_held w h b) j)), some (.int (nI (j + 1)))] [] μ F := fun e => by have := ih1 _ e.symm; rwa [am_addz] at this
    simp (discharger := omega) only [pk_mul, nI_add, am_cl, am_gd_in, am_gd_t, am_dp, hw]
    repeat' split
    all_goals first
      | (refine ih0 ?_; simp [an_f_held, *]; done)
      | (refine ih1 _ ?_; simp [an_f_held, *]; done)
      | (refine ih0 ?_; simp_all [an_f_held, an_c20, an_c02]; done)
      | (refine ih1 _ ?_; simp_all [an_f_held, an_c20, an_c02]; done)
      | (exfalso; simp_all [an_c20, an_c02]; done)
theorem s_M_countOf {L d : Nat} {μ : am_M} {F : Int32 → am_M → Prop} {w : an_W} {h b : Int32} (hd : 3 ≤ d) (hw : μ 141 = w) (hN : an_N (w 1) 151)
    (hF : F (W_lately w h b) μ) : am_Ci L d 182 [.ref 140, .int h, .int b] μ F := by
  obtain ⟨e1, hN1⟩ := an_cnt_e hN
  refine v_M_countOf ?_
  refine am_down (P := fun j => am_Ji L d 182 5 [some (.ref 140), some (.int h), some (.int b), some (.int (am_sum (an_f_lately w h b) j)), some (.int (nI j))] [] μ F) (N := an_cnt w) ?_ ?_ 0 (Nat.zero_le _)
  · refine v_M_countOf_5 ?_
    rw [hw, e1, if_pos (nI_le (Nat.le_refl _) (by omega))]
    exact hF
  · intro j hj ih
    refine v_M_countOf_5 ?_
    rw [hw, e1, if_neg (nI_ge hj (by omega))]
    have ih1 : ∀ v, v = (an_f_lately w h b) j → am_Ji L d 182 5 [some (.ref 140), some (.int h), some (.int b), some (.int (am_sum (an_f_lately w h b) j + v)), some (.int (nI (j + 1)))] [] μ F := fun v e => by rw [e]; exact ih
    have ih0 : (an_f_lately w h b) j = nI 0 → am_Ji L d 182 5 [some (.ref 140), some (.int h), some (.int b), some (.int (am_sum (an_f_lately w h b) j)), some (.int (nI (j + 1)))] [] μ F := fun e => by have := ih1 _ e.symm; rwa [am_addz] at this
    simp (discharger := omega) only [pk_mul, nI_add, am_cl, am_gd_in, am_gd_t, am_dp, hw]
    repeat' split
    all_goals first
      | (refine ih0 ?_; simp [an_f_lately, *]; done)
      | (refine ih1 _ ?_; simp [an_f_lately, *]; done)
      | (refine ih0 ?_; simp_all [an_f_lately, an_c20, an_c02]; done)
      | (refine ih1 _ ?_; simp_all [an_f_lately, an_c20, an_c02]; done)
      | (exfalso; simp_all [an_c20, an_c02]; done)
theorem s_M_waterOf {L d : Nat} {μ : am_M} {F : Int32 → am_M → Prop} {w : an_W} {h : Int32} (hd : 3 ≤ d) (hw : μ 141 = w) (hN : an_N (w 1) 151)
    (hF : F (W_water w h) μ) : am_Ci L d 197 [.ref 140, .int h] μ F := by
  obtain ⟨e1, hN1⟩ := an_cnt_e hN
  refine v_M_waterOf ?_
  refine am_down (P := fun j => am_Ji L d 197 4 [some (.ref 140), some (.int h), some (.int (am_sum (an_f_water w h) j)), some (.int (nI j))] [] μ F) (N := an_cnt w) ?_ ?_ 0 (Nat.zero_le _)
  · refine v_M_waterOf_4 ?_
    rw [hw, e1, if_pos (nI_le (Nat.le_refl _) (by omega))]
    exact hF
  · intro j hj ih
    refine v_M_waterOf_4 ?_
    rw [hw, e1, if_neg (nI_ge hj (by omega))]
    have ih1 : ∀ v, v = (an_f_water w h) j → am_Ji L d 197 4 [some (.ref 140), some (.int h), some (.int (am_sum (an_f_water w h) j + v)), some (.int (nI (j + 1)))] [] μ F := fun v e => by rw [e]; exact ih
    have ih0 : (an_f_water w h) j = nI 0 → am_Ji L d 197 4 [some (.ref 140), some (.int h), some (.int (am_sum (an_f_water w h) j)), some (.int (nI (j + 1)))] [] μ F := fun e => by have := ih1 _ e.symm; rwa [am_addz] at this
    simp (discharger := omega) only [pk_mul, nI_add, am_cl, am_gd_in, am_gd_t, am_dp, hw]
    repeat' split
    all_goals first
      | (refine ih0 ?_; simp [an_f_water, *]; done)
      | (refine ih1 _ ?_; simp [an_f_water, *]; done)
      | (refine ih0 ?_; simp_all [an_f_water, an_c20, an_c02]; done)
      | (refine ih1 _ ?_; simp_all [an_f_water, an_c20, an_c02]; done)
      | (exfalso; simp_all [an_c20, an_c02]; done)
