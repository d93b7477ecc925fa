/-! Calls side by side: sums, honest folk, growth. -/
variable {nb : Nat}
theorem s_M_flyingS {L d : Nat} {μ : am_M} {F : Int32 → am_M → Prop} {w : an_W} {p : Int32} (hd : 3 ≤ d) (hw : μ 141 = w) (hN : an_N (w 1) 151) (hp : (p = 0) = False)
    (hF : F (W_flyS w) μ) : am_Ci L d 201 [.ref 140, .int p] μ F := by
  obtain ⟨e1, hN1⟩ := an_cnt_e hN
  refine v_M_flying ?_
  refine am_down (P := fun j => am_Ji L d 201 4 [some (.ref 140), some (.int p), some (.int (am_sum (an_f_flyS w) j)), some (.int (nI j))] [] μ F) (N := an_cnt w) ?_ ?_ 0 (Nat.zero_le _)
  · refine v_M_flying_4 ?_
    rw [hw, e1, if_pos (nI_le (Nat.le_refl _) (by omega))]
    exact hF
  · intro j hj ih
    refine v_M_flying_4 ?_
    rw [hw, e1, if_neg (nI_ge hj (by omega))]
    have ih1 : ∀ v, v = (an_f_flyS w) j → am_Ji L d 201 4 [some (.ref 140), some (.int p), some (.int (am_sum (an_f_flyS w) j + v)), some (.int (nI (j + 1)))] [] μ F := fun v e => by rw [e]; exact ih
    have ih0 : (an_f_flyS w) j = nI 0 → am_Ji L d 201 4 [some (.ref 140), some (.int p), some (.int (am_sum (an_f_flyS w) j)), some (.int (nI (j + 1)))] [] μ F := fun e => by have := ih1 _ e.symm; rwa [am_addz] at this
    simp (discharger := omega) only [pk_mul, nI_add, am_cl, am_gd_in, am_gd_t, am_dp, hw, hp, if_false]
    repeat' split
    all_goals first
      | (refine ih0 ?_; simp [an_f_flyS, *]; done)
      | (refine ih1 _ ?_; simp [an_f_flyS, *]; done)
      | (refine ih0 ?_; simp_all [an_f_flyS, an_c20, an_c02]; done)
      | (refine ih1 _ ?_; simp_all [an_f_flyS, an_c20, an_c02]; done)
      | (exfalso; simp_all [an_c20, an_c02]; done)
theorem s_M_flyingN {L d : Nat} {μ : am_M} {F : Int32 → am_M → Prop} {w : an_W} {p : Int32} (hd : 3 ≤ d) (hw : μ 141 = w) (hN : an_N (w 1) 151) (hp : (p = 0) = True)
    (hF : F (W_flyN w) μ) : am_Ci L d 201 [.ref 140, .int p] μ F := by
  obtain ⟨e1, hN1⟩ := an_cnt_e hN
  refine v_M_flying ?_
  refine am_down (P := fun j => am_Ji L d 201 4 [some (.ref 140), some (.int p), some (.int (am_sum (an_f_flyN w) j)), some (.int (nI j))] [] μ F) (N := an_cnt w) ?_ ?_ 0 (Nat.zero_le _)
  · refine v_M_flying_4 ?_
    rw [hw, e1, if_pos (nI_le (Nat.le_refl _) (by omega))]
    exact hF
  · intro j hj ih
    refine v_M_flying_4 ?_
    rw [hw, e1, if_neg (nI_ge hj (by omega))]
    have ih1 : ∀ v, v = (an_f_flyN w) j → am_Ji L d 201 4 [some (.ref 140), some (.int p), some (.int (am_sum (an_f_flyN w) j + v)), some (.int (nI (j + 1)))] [] μ F := fun v e => by rw [e]; exact ih
    have ih0 : (an_f_flyN w) j = nI 0 → am_Ji L d 201 4 [some (.ref 140), some (.int p), some (.int (am_sum (an_f_flyN w) j)), some (.int (nI (j + 1)))] [] μ F := fun e => by have := ih1 _ e.symm; rwa [am_addz] at this
    simp (discharger := omega) only [pk_mul, nI_add, am_cl, am_gd_in, am_gd_t, am_dp, hw, hp, if_true]
    repeat' split
    all_goals first
      | (refine ih0 ?_; simp [an_f_flyN, *]; done)
      | (refine ih1 _ ?_; simp [an_f_flyN, *]; done)
      | (refine ih0 ?_; simp_all [an_f_flyN, an_c20, an_c02]; done)
      | (refine ih1 _ ?_; simp_all [an_f_flyN, an_c20, an_c02]; done)
      | (exfalso; simp_all [an_c20, an_c02]; done)
theorem s_sumOf_60 {L d : Nat} {μ : am_M} {F : Int32 → am_M → Prop} {w : an_W} (h : ∀ i, i < 24 → μ 60 i = w (210 + i)) (hF : F (am_sum (fun i => w (210 + i)) 24) μ) : am_Ci L d 139 [.ref 60] μ F := by
  refine v_X_sumOf_60 ?_
  refine am_down (P := fun j => am_Ji L d 139 10 [none, some (.int (am_sum (fun i => w (210 + i)) j)), some (.ref 60), some (.int (nI 24)), some (.int (nI j)), none] [] μ F) (N := 24) ?_ ?_ 0 (Nat.zero_le _)
  · refine v_X_sumOf_60_10 ?_
    rw [if_pos (nI_le (Nat.le_refl _) (by omega))]
    exact hF
  · intro j hj ih
    refine v_X_sumOf_60_10 ?_
    rw [if_neg (nI_ge hj (by omega)), am_gd_in hj (by omega), am_cl (by omega), h j hj, nI_add]
    exact ih
theorem s_sumOf_61 {L d : Nat} {μ : am_M} {F : Int32 → am_M → Prop} {w : an_W} (h : ∀ i, i < 24 → μ 61 i = w (234 + i)) (hF : F (am_sum (fun i => w (234 + i)) 24) μ) : am_Ci L d 139 [.ref 61] μ F := by
  refine v_X_sumOf_61 ?_
  refine am_down (P := fun j => am_Ji L d 139 10 [none, some (.int (am_sum (fun i => w (234 + i)) j)), some (.ref 61), some (.int (nI 24)), some (.int (nI j)), none] [] μ F) (N := 24) ?_ ?_ 0 (Nat.zero_le _)
  · refine v_X_sumOf_61_10 ?_
    rw [if_pos (nI_le (Nat.le_refl _) (by omega))]
    exact hF
  · intro j hj ih
    refine v_X_sumOf_61_10 ?_
    rw [if_neg (nI_ge hj (by omega)), am_gd_in hj (by omega), am_cl (by omega), h j hj, nI_add]
    exact ih
theorem s_sumOf_62 {L d : Nat} {μ : am_M} {F : Int32 → am_M → Prop} {w : an_W} (h : ∀ i, i < 24 → μ 62 i = w (258 + i)) (hF : F (am_sum (fun i => w (258 + i)) 24) μ) : am_Ci L d 139 [.ref 62] μ F := by
  refine v_X_sumOf_62 ?_
  refine am_down (P := fun j => am_Ji L d 139 10 [none, some (.int (am_sum (fun i => w (258 + i)) j)), some (.ref 62), some (.int (nI 24)), some (.int (nI j)), none] [] μ F) (N := 24) ?_ ?_ 0 (Nat.zero_le _)
  · refine v_X_sumOf_62_10 ?_
    rw [if_pos (nI_le (Nat.le_refl _) (by omega))]
    exact hF
  · intro j hj ih
    refine v_X_sumOf_62_10 ?_
    rw [if_neg (nI_ge hj (by omega)), am_gd_in hj (by omega), am_cl (by omega), h j hj, nI_add]
    exact ih
theorem an_sum24 (w : an_W) : am_sum (fun i => w (210 + i)) 24 = am_sum (W_booksOf w) 6 := by
  simp only [am_sum, W_booksOf, an_f_book, nI_0, Int32.zero_add, Int32.add_assoc, Nat.reduceMul, Nat.reduceAdd, Nat.add_zero, Nat.mul_zero]
theorem s_M_sums0 {L d : Nat} {μ : am_M} {F : Int32 → am_M → Prop} {w : an_W} (hd : 6 ≤ d) (hw : μ 141 = w) (hF : F (am_sum (W_booksOf w) 6) μ) : am_Ji L d 202 38 [some (.ref 140), none, some (.int (nI 0)), some (.int (nI 0))] [] μ F := by
  refine am_down (P := fun j => am_Ji L d 202 38 [some (.ref 140), none, some (.int (am_sum (W_booksOf w) j)), some (.int (nI j))] [] μ F) (N := 6) ?_ ?_ 0 (Nat.zero_le _)
  · refine v_M_sums_38 ?_
    rw [if_pos (nI_le (Nat.le_refl _) (by omega))]
    exact hF
  · intro j hj ih
    refine v_M_sums_38 ?_
    rw [if_neg (nI_ge hj (by omega))]
    refine ⟨by omega, s_M_booksOf (by omega) hj hw ?_⟩
    rw [nI_add]
    exact ih
theorem op_sums {L d : Nat} {μ : am_M} {p1 : Int32} {K : Int32 → Int32 → am_M → Prop} (hd : 30 ≤ d) (hG : an_G nb μ) (hK : ∀ r μ', an_G nb μ' → K r r μ') : am_Ci L d 107 [.ref 0, .int p1] μ (fun r1 μ1 => am_Ci L d 202 [.ref 140, .int p1] μ1 (fun r2 μ2 => K r1 r2 μ2)) := by
  have hS := hG.1
  generalize hw : μ 141 = w at hS
  obtain ⟨h1, h2, h3, h4, h5, h6, h7, h8, h9, h10, h11, h12, h13, h14, h15⟩ := id hS
  obtain ⟨hD, hN, hP, hKt, hE⟩ := id h1
  obtain ⟨eN, lN⟩ := an_cnt_e hN
  have hL : an_RL 58 w μ := h8
  have hC : an_RC 15 w μ := h9.1
  obtain ⟨D, lD, eD⟩ := hD
  refine v_X_sums ?_
  split
  · rename_i q
    refine ⟨by omega, s_sumOf_60 hL.2.2.2.1 ?_⟩
    rw [an_sum24]
    refine v_M_sums ?_
    rw [if_pos q]
    exact s_M_sums0 (by omega) hw (hK _ _ hG)
  · rename_i n0; split
    · rename_i q
      refine ⟨by omega, s_Ledger_sumInFlight (by omega) hL hN ?_⟩
      refine v_M_sums ?_
      rw [if_neg n0, if_pos q]
      exact ⟨by omega, s_M_flyingS (by omega) hw hN (by simp only [eq_iff_iff, iff_false]; decide) (hK _ _ hG)⟩
    · rename_i n1; split
      · rename_i q
        refine ⟨by omega, s_sumOf_61 hL.2.2.2.2.1 ?_⟩
        refine v_M_sums ?_
        rw [if_neg n0, if_neg n1, if_pos q, hw, h7.1.1]
        exact hK _ _ hG
      · rename_i n2; split
        · rename_i q
          refine ⟨by omega, s_sumOf_62 hL.2.2.2.2.2 ?_⟩
          refine v_M_sums ?_
          rw [if_neg n0, if_neg n1, if_neg n2, if_pos q, hw, h7.1.2]
          exact hK _ _ hG
        · rename_i n3; split
          · rename_i q
            refine ⟨by omega, s_Ledger_countInFlight (by omega) hL hN ?_⟩
            refine v_M_sums ?_
            rw [if_neg n0, if_neg n1, if_neg n2, if_neg n3, if_pos q]
            exact ⟨by omega, s_M_flyingN (by omega) hw hN (by simp only [eq_iff_iff, iff_true]; exact nI_0) (hK _ _ hG)⟩
          · rename_i n4
            refine v_M_sums ?_
            rw [if_neg n0, if_neg n1, if_neg n2, if_neg n3, if_neg n4]
            exact hK _ _ hG
theorem an_bit (x : Int32) : x &&& nI 1 = nI 1 ↔ ¬ x &&& nI 1 = 0 := by
  obtain ⟨j, hj, e⟩ := pk_andE x (m := nI 1) 1 (by decide)
  rw [e]
  rcases (by omega : j = 0 ∨ j = 1) with rfl | rfl
  · decide
  · decide
def an_f_hon (w : an_W) (h : Int32) (k : Nat) : Int32 := if (w 3 >>> (w (3640 + 12 * k + 2) &&& 31)) &&& nI 1 = 0 then w (3640 + 12 * k + 4) * h / nI 1000 else nI 0
theorem an_hon_x {L d : Nat} {μ : am_M} {F : Int32 → am_M → Prop} {w : an_W} {h : Int32} (hd : 6 ≤ d) (hR : an_RL 58 w μ) (h14 : μ 14 8 = w 3) (hN : an_N (w 1) 151) (hF : F (am_sum (an_f_hon w h) (an_cnt w)) μ) : am_Ji L d 127 25 [some (.ref 0), some (.int h), some (.ref 58), some (.int (nI 0)), some (.int (nI 0))] [] μ F := by
  obtain ⟨e1, hN1⟩ := an_cnt_e hN
  refine am_down (P := fun j => am_Ji L d 127 25 [some (.ref 0), some (.int h), some (.ref 58), some (.int (am_sum (an_f_hon w h) j)), some (.int (nI j))] [] μ F) (N := an_cnt w) ?_ ?_ 0 (Nat.zero_le _)
  · refine v_X_honest_25 ?_
    rw [hR.2.1, e1, if_pos (nI_le (Nat.le_refl _) (by omega))]
    exact hF
  · intro j hj ih
    refine v_X_honest_25 ?_
    rw [hR.2.1, e1, if_neg (nI_ge hj (by omega))]
    have ih1 : ∀ v, v = (an_f_hon w h) j → am_Ji L d 127 25 [some (.ref 0), some (.int h), some (.ref 58), some (.int (am_sum (an_f_hon w h) j + v)), some (.int (nI (j + 1)))] [] μ F := fun v e => by rw [e]; exact ih
    have ih0 : (an_f_hon w h) j = nI 0 → am_Ji L d 127 25 [some (.ref 0), some (.int h), some (.ref 58), some (.int (am_sum (an_f_hon w h) j)), some (.int (nI (j + 1)))] [] μ F := fun e => by have := ih1 _ e.symm; rwa [am_addz] at this
    simp (discharger := omega) only [pk_mul, nI_add, am_cl, am_gd_in, am_gd_t, am_dp, an_gdz, h14, hR.2.2.1 j, an_bit, Decidable.not_not]
    have hb := an_bit (w 3 >>> (w (3640 + 12 * j + 2) &&& 31))
    repeat' split
    all_goals first
      | (refine ih0 ?_; simp [an_f_hon, *]; done)
      | (refine ih1 _ ?_; simp [an_f_hon, *]; done)
      | (refine ih0 ?_; simp_all [an_f_hon]; done)
      | (refine ih1 _ ?_; simp_all [an_f_hon]; done)
theorem an_hon_m {L d : Nat} {μ : am_M} {F : Int32 → am_M → Prop} {w : an_W} {h : Int32} (hd : 6 ≤ d) (hw : μ 141 = w) (hN : an_N (w 1) 151) (hF : F (am_sum (an_f_hon w h) (an_cnt w)) μ) : am_Ji L d 238 16 [some (.ref 140), some (.int h), some (.int (nI 0)), some (.int (nI 0))] [] μ F := by
  obtain ⟨e1, hN1⟩ := an_cnt_e hN
  refine am_down (P := fun j => am_Ji L d 238 16 [some (.ref 140), some (.int h), some (.int (am_sum (an_f_hon w h) j)), some (.int (nI j))] [] μ F) (N := an_cnt w) ?_ ?_ 0 (Nat.zero_le _)
  · refine v_M_honest_16 ?_
    rw [hw, e1, if_pos (nI_le (Nat.le_refl _) (by omega))]
    exact hF
  · intro j hj ih
    refine v_M_honest_16 ?_
    rw [hw, e1, if_neg (nI_ge hj (by omega))]
    have ih1 : ∀ v, v = (an_f_hon w h) j → am_Ji L d 238 16 [some (.ref 140), some (.int h), some (.int (am_sum (an_f_hon w h) j + v)), some (.int (nI (j + 1)))] [] μ F := fun v e => by rw [e]; exact ih
    have ih0 : (an_f_hon w h) j = nI 0 → am_Ji L d 238 16 [some (.ref 140), some (.int h), some (.int (am_sum (an_f_hon w h) j)), some (.int (nI (j + 1)))] [] μ F := fun e => by have := ih1 _ e.symm; rwa [am_addz] at this
    simp (discharger := omega) only [pk_mul, nI_add, am_cl, am_gd_in, am_gd_t, am_dp, an_gdz, hw, an_bit, Decidable.not_not]
    have hb := an_bit (w 3 >>> (w (3640 + 12 * j + 2) &&& 31))
    repeat' split
    all_goals first
      | (refine ih0 ?_; simp [an_f_hon, *]; done)
      | (refine ih1 _ ?_; simp [an_f_hon, *]; done)
      | (refine ih0 ?_; simp_all [an_f_hon]; done)
      | (refine ih1 _ ?_; simp_all [an_f_hon]; done)
theorem op_honest {L d : Nat} {μ : am_M} {p1 : Int32} {K : Int32 → Int32 → am_M → Prop} (hd : 30 ≤ d) (hG : an_G nb μ) (hK : ∀ r μ', an_G nb μ' → K r r μ') : am_Ci L d 127 [.ref 0, .int p1] μ (fun r1 μ1 => am_Ci L d 238 [.ref 140, .int p1] μ1 (fun r2 μ2 => K r1 r2 μ2)) := by
  have hS := hG.1
  generalize hw : μ 141 = w at hS
  obtain ⟨h1, h2, h3, h4, h5, h6, h7, h8, h9, h10, h11, h12, h13, h14, h15⟩ := id hS
  obtain ⟨hD, hN, hP, hKt, hE⟩ := id h1
  obtain ⟨eN, lN⟩ := an_cnt_e hN
  have hL : an_RL 58 w μ := h8
  have hC : an_RC 15 w μ := h9.1
  obtain ⟨D, lD, eD⟩ := hD
  rcases an_arg p1 21 (by omega) (by omega) with ⟨a1, a2⟩ | ⟨a1, a2, a3, a4⟩ | ⟨h, hh, rfl⟩
  · refine v_X_honest ?_
    rw [if_pos a1]
    refine v_M_honest ?_
    rw [am_dp (by omega), if_pos a2]
    exact hK _ _ hG
  · have a5 : nI 20 < p1 := a4
    refine v_X_honest ?_
    rw [if_neg a1, if_neg (Int32.not_le.mpr a5)]
    refine v_M_honest ?_
    rw [am_dp (by omega), if_neg a2, if_pos a5]
    exact hK _ _ hG
  · refine v_X_honest ?_
    rw [if_neg (nI_pos (by omega)), if_pos (nI_le (by omega) (by omega))]
    refine an_hon_x (by omega) hL h14 hN ?_
    refine v_M_honest ?_
    rw [am_dp (by omega), if_neg (nI_nlt (by omega) (by omega)), if_neg (nI_nlt (by omega) (by omega))]
    exact an_hon_m (by omega) hw hN (hK _ _ hG)
def an_gcl (y : Int64) : Int64 := if y < lN 999999999 then y else lN 999999999
def an_gr (c : Int64) : Nat → Int64 → Int64
  | 0, x => x
  | n + 1, x => an_gr c n (an_gcl (x + x * c / lN 1000))
theorem an_gr1000 : (!(decide (lN 1000 = 0))) = true := by decide
theorem an_gr_x {L d : Nat} {μ : am_M} {F : Int32 → am_M → Prop} {c : Int32} {N : Nat} (hd : 6 ≤ d) (hN : N ≤ 60) : ∀ (n i : Nat) (x : Int64), i + n = N → F (an_gr c.toInt64 n x).toInt32 μ → am_Ji L d 114 53 [none, none, some (.int c), some (.int (nI N)), none, some (.long x), none, some (.int (nI i))] [] μ F := by
  intro n
  induction n with
  | zero =>
    intro i x hi hF
    refine v_X_growth_53 ?_
    rw [if_pos (nI_le (by omega) (by omega))]
    exact hF
  | succ n ih =>
    intro i x hi hF
    refine v_X_growth_53 ?_
    rw [if_neg (nI_ge (by omega) (by omega)), an_gr1000, am_gd_t, an_gdd (by omega), nI_add]
    exact ih (i + 1) _ (by omega) hF
theorem an_lgc {y z : Int64} : lg_cmp y z ≤ 0 ↔ ¬ z < y := by
  unfold lg_cmp
  by_cases h : y > z
  · rw [if_pos h]
    exact ⟨fun q => absurd q (by decide), fun q => absurd h q⟩
  · rw [if_neg h]
    refine ⟨fun _ => h, fun _ => ?_⟩
    split <;> decide
theorem an_gr_m {L d : Nat} {μ : am_M} {F : Int32 → am_M → Prop} {c : Int32} {N : Nat} (hN : N ≤ 60) : ∀ (n i : Nat) (x : Int64), i + n = N → F (an_gr c.toInt64 n x).toInt32 μ → am_Ji L d 217 41 [none, none, some (.int c), some (.int (nI N)), some (.long x), none, some (.int (nI i))] [] μ F := by
  intro n
  induction n with
  | zero =>
    intro i x hi hF
    refine v_M_growth_41 ?_
    rw [if_pos (nI_le (by omega) (by omega))]
    exact hF
  | succ n ih =>
    intro i x hi hF
    refine v_M_growth_41 ?_
    rw [if_neg (nI_ge (by omega) (by omega)), an_gr1000, am_gd_t, nI_add]
    rw [an_gr] at hF
    unfold an_gcl at hF
    by_cases h : lN 999999999 < x + x * c.toInt64 / lN 1000
    · rw [if_neg (fun q => an_lgc.mp q h)]
      rw [if_neg (fun q => Int64.lt_irrefl (Int64.lt_trans q h))] at hF
      exact ih (i + 1) _ (by omega) hF
    · rw [if_pos (an_lgc.mpr h)]
      refine ih (i + 1) _ (by omega) ?_
      by_cases h2 : x + x * c.toInt64 / lN 1000 < lN 999999999
      · rw [if_pos h2] at hF
        exact hF
      · rw [if_neg h2] at hF
        rw [Int64.le_antisymm (Int64.not_lt.mp h) (Int64.not_lt.mp h2)]
        exact hF
theorem op_growth {L d : Nat} {μ : am_M} {p1 p2 p3 : Int32} {K : Int32 → Int32 → am_M → Prop} (hd : 30 ≤ d) (hG : an_G nb μ) (hK : ∀ r μ', an_G nb μ' → K r r μ') : am_Ci L d 114 [.ref 0, .int p1, .int p2, .int p3] μ (fun r1 μ1 => am_Ci L d 217 [.ref 140, .int p1, .int p2, .int p3] μ1 (fun r2 μ2 => K r1 r2 μ2)) := by
  have hS := hG.1
  generalize hw : μ 141 = w at hS
  obtain ⟨h1, h2, h3, h4, h5, h6, h7, h8, h9, h10, h11, h12, h13, h14, h15⟩ := id hS
  obtain ⟨hD, hN, hP, hKt, hE⟩ := id h1
  obtain ⟨eN, lN⟩ := an_cnt_e hN
  have hL : an_RL 58 w μ := h8
  have hC : an_RC 15 w μ := h9.1
  obtain ⟨D, lD, eD⟩ := hD
  rcases an_arg p1 1000000000 (by omega) (by omega) with ⟨a1, a2⟩ | ⟨a1, a2, a3, a4⟩ | ⟨a, ha, rfl⟩
  · refine v_X_growth ?_
    simp (discharger := omega) only [am_dp, am_gd_in, am_gd_t, pk_mul, nI_add, am_cl, nI_pos, nI_nlt, nI_ge, nI_le, nI_lt, if_true, if_false, not_true_eq_false, not_false_eq_true, a1]
    refine v_M_growth ?_
    simp (discharger := omega) only [am_dp, am_gd_in, am_gd_t, pk_mul, nI_add, am_cl, nI_pos, nI_nlt, nI_ge, nI_le, nI_lt, if_true, if_false, not_true_eq_false, not_false_eq_true, a2]
    exact hK _ _ hG
  · have a5 : nI 999999999 < p1 := a4
    have a6 : ¬ p1 ≤ nI 999999999 := Int32.not_le.mpr a5
    refine v_X_growth ?_
    simp (discharger := omega) only [am_dp, am_gd_in, am_gd_t, pk_mul, nI_add, am_cl, nI_pos, nI_nlt, nI_ge, nI_le, nI_lt, if_true, if_false, not_true_eq_false, not_false_eq_true, a1, a5, a6]
    refine v_M_growth ?_
    simp (discharger := omega) only [am_dp, am_gd_in, am_gd_t, pk_mul, nI_add, am_cl, nI_pos, nI_nlt, nI_ge, nI_le, nI_lt, if_true, if_false, not_true_eq_false, not_false_eq_true, a2, a5]
    exact hK _ _ hG
  rcases an_arg p2 501 (by omega) (by omega) with ⟨a1, a2⟩ | ⟨a1, a2, a3, a4⟩ | ⟨b, hb, rfl⟩
  · refine v_X_growth ?_
    simp (discharger := omega) only [am_dp, am_gd_in, am_gd_t, pk_mul, nI_add, am_cl, nI_pos, nI_nlt, nI_ge, nI_le, nI_lt, if_true, if_false, not_true_eq_false, not_false_eq_true, a1]
    refine v_M_growth ?_
    simp (discharger := omega) only [am_dp, am_gd_in, am_gd_t, pk_mul, nI_add, am_cl, nI_pos, nI_nlt, nI_ge, nI_le, nI_lt, if_true, if_false, not_true_eq_false, not_false_eq_true, a2]
    exact hK _ _ hG
  · have a5 : nI 500 < p2 := a4
    have a6 : ¬ p2 ≤ nI 500 := Int32.not_le.mpr a5
    refine v_X_growth ?_
    simp (discharger := omega) only [am_dp, am_gd_in, am_gd_t, pk_mul, nI_add, am_cl, nI_pos, nI_nlt, nI_ge, nI_le, nI_lt, if_true, if_false, not_true_eq_false, not_false_eq_true, a1, a5, a6]
    refine v_M_growth ?_
    simp (discharger := omega) only [am_dp, am_gd_in, am_gd_t, pk_mul, nI_add, am_cl, nI_pos, nI_nlt, nI_ge, nI_le, nI_lt, if_true, if_false, not_true_eq_false, not_false_eq_true, a2, a5]
    exact hK _ _ hG
  rcases an_arg p3 61 (by omega) (by omega) with ⟨a1, a2⟩ | ⟨a1, a2, a3, a4⟩ | ⟨c, hc, rfl⟩
  · refine v_X_growth ?_
    simp (discharger := omega) only [am_dp, am_gd_in, am_gd_t, pk_mul, nI_add, am_cl, nI_pos, nI_nlt, nI_ge, nI_le, nI_lt, if_true, if_false, not_true_eq_false, not_false_eq_true, a1]
    refine v_M_growth ?_
    simp (discharger := omega) only [am_dp, am_gd_in, am_gd_t, pk_mul, nI_add, am_cl, nI_pos, nI_nlt, nI_ge, nI_le, nI_lt, if_true, if_false, not_true_eq_false, not_false_eq_true, a2]
    exact hK _ _ hG
  · have a5 : nI 60 < p3 := a4
    have a6 : ¬ p3 ≤ nI 60 := Int32.not_le.mpr a5
    refine v_X_growth ?_
    simp (discharger := omega) only [am_dp, am_gd_in, am_gd_t, pk_mul, nI_add, am_cl, nI_pos, nI_nlt, nI_ge, nI_le, nI_lt, if_true, if_false, not_true_eq_false, not_false_eq_true, a1, a5, a6]
    refine v_M_growth ?_
    simp (discharger := omega) only [am_dp, am_gd_in, am_gd_t, pk_mul, nI_add, am_cl, nI_pos, nI_nlt, nI_ge, nI_le, nI_lt, if_true, if_false, not_true_eq_false, not_false_eq_true, a2, a5]
    exact hK _ _ hG
  refine v_X_growth ?_
  simp (discharger := omega) only [am_dp, am_gd_in, am_gd_t, pk_mul, nI_add, am_cl, nI_pos, nI_nlt, nI_ge, nI_le, nI_lt, if_true, if_false, not_true_eq_false, not_false_eq_true]
  refine an_gr_x (by omega) (by omega) c 0 _ (by omega) ?_
  refine v_M_growth ?_
  simp (discharger := omega) only [am_dp, am_gd_in, am_gd_t, pk_mul, nI_add, am_cl, nI_pos, nI_nlt, nI_ge, nI_le, nI_lt, if_true, if_false, not_true_eq_false, not_false_eq_true]
  exact an_gr_m (by omega) c 0 _ (by omega) (hK _ _ hG)
