/-! Calls side by side: payments, what is really there, sums. -/
variable {nb : Nat}
theorem op_payment {L d : Nat} {μ : am_M} {p1 p2 : Int32} {K : Int32 → Int32 → am_M → Prop} (hd : 30 ≤ d) (hG : an_G nb μ) (hK : ∀ r μ', an_G nb μ' → K r r μ') : am_Ci L d 122 [.ref 0, .int p1, .int p2] μ (fun r1 μ1 => am_Ci L d 232 [.ref 140, .int p1, .int p2] μ1 (fun r2 μ2 => K r1 r2 μ2)) := by
  have hS := hG.1
  generalize hw : μ 141 = w at hS
  obtain ⟨h1, h2, h3, h4, h5, h6, h7, h8, h9, h10, h11, h12, h13, h14, h15⟩ := id hS
  obtain ⟨hD, hN, hP, hKt, hE⟩ := id h1
  obtain ⟨eN, lN⟩ := an_cnt_e hN
  have hL : an_RL 58 w μ := h8
  have hC : an_RC 15 w μ := h9.1
  obtain ⟨D, lD, eD⟩ := hD
  obtain ⟨P, lP, eP⟩ := id hP
  have c7 : μ 14 7 = w 2 := h13.2
  by_cases z0 : p1 = 0
  · refine v_X_payment ?_
    rw [if_neg (fun z => z z0)]
    intro μ1 e1
    refine v_M_payment ?_
    rw [if_neg (fun z => z z0)]
    intro μ2 e2
    have x2 : μ2 141 = upd w 2 (nI 0) := by rw [e2, am_w_at, an_w_c e1 (by omega), hw]
    have y2 : ∀ c', c' ≠ 141 → c' ≠ 14 → c' ≠ 67 → c' ≠ 68 → μ2 c' = μ c' := fun c' q1 q2 _ _ => (an_w_c e2 q1).trans (an_w_c e1 q2)
    have y5 : ∀ c', c' ≠ 141 → c' ≠ 14 → μ2 c' = μ c' := fun c' q1 q2 => (an_w_c e2 q1).trans (an_w_c e1 q2)
    have z2 : μ2 14 = upd (μ 14) 7 (nI 0) := by rw [an_w_c e2 (by omega), e1, am_w_at]
    refine hK _ _ (an_G_of hG ?_ ⟨fun c hc => y2 c (by have := hc.2.1; omega) (by have := hc.1; omega) (by have := hc.1; omega) (by have := hc.1; omega), y2 _ (by decide) (by decide) (by decide) (by decide), y2 _ (by decide) (by decide) (by decide) (by decide), y2 _ (by decide) (by decide) (by decide) (by decide), y2 _ (by decide) (by decide) (by decide) (by decide), fun f _ => by rw [y2 0 (by decide) (by decide) (by decide) (by decide)], fun f _ => by rw [y2 140 (by decide) (by decide) (by decide) (by decide)], by rw [y2 15 (by decide) (by decide) (by decide) (by decide)]⟩)
    rw [x2]
    refine ⟨?_, an_k2_c h2 (fun j hj => pk_un (by omega)) (fun c hc => hc.elim), an_k3_c h3 (fun j hj => pk_un (by omega)) (fun c hc => hc.elim), an_k4_c h4 (fun j hj => pk_un (by omega)) (fun c hc => hc.elim), an_k5_c (an_S_k150 h1) h5 (fun j hj => pk_un (by omega)) (fun c hc => hc.elim), ?_, an_k7_c h7 (fun j hj => pk_un (by omega)) (fun c hc => hc.elim), an_k8_c h8 (fun j hj => pk_un (by omega)) (fun c hc => y5 c (by omega) (by omega)), an_k9_c h9 (fun j hj => pk_un (by omega)) (fun c hc => y5 c (by omega) (by omega)), an_k10_c h10 (fun j hj => pk_un (by omega)) (fun c hc => y5 c (by omega) (by omega)), an_k11_c h11 (fun j hj => pk_un (by omega)) (fun c hc => y5 c (by omega) (by omega)), an_k12_c h12 (fun j hj => pk_un (by omega)) (fun c hc => y5 c (by omega) (by omega)), ?_, ?_, an_k15_c h15 (fun j hj => pk_un (by omega)) (fun c hc => by obtain ⟨k, hk, q1, q2⟩ := hc; exact y5 c (by omega) (by omega))⟩
    · refine ⟨by rw [pk_un (by omega)]; exact ⟨D, lD, eD⟩, by rw [pk_un (by omega)]; exact hN, by rw [pk_us]; exact ⟨0, by omega, rfl⟩, by rw [pk_un (by omega)]; exact hKt, by rw [pk_un (by omega)]; exact hE⟩
    · intro i hi
      rw [pk_us, am_cl (by omega)] at hi
      omega
    · obtain ⟨g1, g2⟩ := h13
      refine ⟨fun i hi => ?_, ?_⟩
      · show μ2 67 i = _ ∧ μ2 68 i = _
        rw [y5 67 (by decide) (by decide), y5 68 (by decide) (by decide), pk_un (by omega), pk_un (by omega)]
        exact g1 i hi
      · show μ2 14 7 = _
        rw [z2, pk_us, pk_us]
    · show μ2 14 8 = _
      rw [z2, pk_un (by omega), pk_un (by omega)]
      exact h14
  · rcases an_arg p1 100000 (by omega) (by omega) with ⟨a1, a2⟩ | ⟨a1, a2, a3, a4⟩ | ⟨a, ha, rfl⟩
    · have a5 : p1 < nI 1 := Int32.lt_trans a1 (by decide)
      refine v_X_payment ?_
      simp (discharger := omega) only [am_dp, am_gd_in, am_gd_t, pk_mul, nI_add, am_cl, nI_pos, nI_nlt, nI_ge, nI_le, nI_lt, if_true, if_false, not_true_eq_false, not_false_eq_true, z0, a5]
      refine v_M_payment ?_
      simp (discharger := omega) only [am_dp, am_gd_in, am_gd_t, pk_mul, nI_add, am_cl, nI_pos, nI_nlt, nI_ge, nI_le, nI_lt, if_true, if_false, not_true_eq_false, not_false_eq_true, z0, a5]
      exact hK _ _ hG
    · have a5 : nI 99999 < p1 := a4
      have a6 : ¬ p1 < nI 1 := fun q => absurd (Int32.lt_trans a5 q) (by decide)
      refine v_X_payment ?_
      simp (discharger := omega) only [am_dp, am_gd_in, am_gd_t, pk_mul, nI_add, am_cl, nI_pos, nI_nlt, nI_ge, nI_le, nI_lt, if_true, if_false, not_true_eq_false, not_false_eq_true, z0, a5, a6]
      refine v_M_payment ?_
      simp (discharger := omega) only [am_dp, am_gd_in, am_gd_t, pk_mul, nI_add, am_cl, nI_pos, nI_nlt, nI_ge, nI_le, nI_lt, if_true, if_false, not_true_eq_false, not_false_eq_true, z0, a5, a6]
      exact hK _ _ hG
    · have ha1 : 1 ≤ a := by
        rcases Nat.eq_zero_or_pos a with q | q
        · exact absurd (by rw [q]; exact nI_0) z0
        · exact q
      rcases an_arg p2 3 (by omega) (by omega) with ⟨b1, b2⟩ | ⟨b1, b2, b3, b4⟩ | ⟨t, ht, rfl⟩
      · refine v_X_payment ?_
        simp (discharger := omega) only [am_dp, am_gd_in, am_gd_t, pk_mul, nI_add, am_cl, nI_pos, nI_nlt, nI_ge, nI_le, nI_lt, if_true, if_false, not_true_eq_false, not_false_eq_true, z0, b1]
        refine v_M_payment ?_
        simp (discharger := omega) only [am_dp, am_gd_in, am_gd_t, pk_mul, nI_add, am_cl, nI_pos, nI_nlt, nI_ge, nI_le, nI_lt, if_true, if_false, not_true_eq_false, not_false_eq_true, z0, b2]
        exact hK _ _ hG
      · have b5 : nI 2 < p2 := b4
        refine v_X_payment ?_
        simp (discharger := omega) only [am_dp, am_gd_in, am_gd_t, pk_mul, nI_add, am_cl, nI_pos, nI_nlt, nI_ge, nI_le, nI_lt, if_true, if_false, not_true_eq_false, not_false_eq_true, z0, b1, b3]
        refine v_M_payment ?_
        simp (discharger := omega) only [am_dp, am_gd_in, am_gd_t, pk_mul, nI_add, am_cl, nI_pos, nI_nlt, nI_ge, nI_le, nI_lt, if_true, if_false, not_true_eq_false, not_false_eq_true, z0, b2, b5]
        exact hK _ _ hG
      · by_cases hP6 : P < 6
        · have n6 : ¬ nI P = nI 6 := fun z => by have := (nI_eq (by omega) (by omega)).mp z; omega
          refine v_X_payment ?_
          simp (discharger := omega) only [am_dp, am_gd_in, am_gd_t, pk_mul, nI_add, am_cl, nI_pos, nI_nlt, nI_ge, nI_le, nI_lt, if_true, if_false, not_true_eq_false, not_false_eq_true, z0, c7, eP]
          intro μ1 e1
          have w1 : μ1 14 7 = nI P := by rw [an_w_c e1 (by decide), c7, eP]
          rw [w1, am_gd_in hP6 (by omega), am_cl (by omega)]
          intro μ2 e2
          have w2 : μ2 14 7 = nI P := by rw [an_w_c e2 (by decide), w1]
          rw [w2, nI_add]
          intro μ3 e3
          have y3 : ∀ c', c' ≠ 14 → c' ≠ 67 → c' ≠ 68 → μ3 c' = μ c' := fun c' q1 q2 q3 => (an_w_c e3 q1).trans ((an_w_c e2 q3).trans (an_w_c e1 q2))
          have w3 : μ3 14 7 = nI (P + 1) := an_w_s e3
          have wm : μ3 141 = w := (y3 141 (by decide) (by decide) (by decide)).trans hw
          rw [w3]
          refine v_M_payment ?_
          simp (discharger := omega) only [am_dp, am_gd_in, am_gd_t, pk_mul, nI_add, am_cl, nI_pos, nI_nlt, nI_ge, nI_le, nI_lt, if_true, if_false, not_true_eq_false, not_false_eq_true, z0, wm, eP, n6]
          intro μ4 e4
          have v4 : μ4 141 2 = nI P := by rw [an_w_o e4 (by omega), wm, eP]
          rw [v4, pk_mul, nI_add, nI_add, am_gd_in (by omega) (by omega), am_cl (by omega)]
          intro μ5 e5
          have v5 : μ5 141 2 = nI P := by rw [an_w_o e5 (by omega), v4]
          rw [v5, nI_add]
          intro μ6 e6
          rw [an_w_s e6]
          have x6 : μ6 141 = upd (upd (upd w (5440 + 2 * P) (nI a)) (5440 + 2 * P + 1) (nI t)) 2 (nI (P + 1)) := by rw [e6, am_w_at, e5, am_w_at, e4, am_w_at, wm]
          have y6 : ∀ c', c' ≠ 141 → c' ≠ 14 → c' ≠ 67 → c' ≠ 68 → μ6 c' = μ c' := fun c' q0 q1 q2 q3 => (an_w_c e6 q0).trans ((an_w_c e5 q0).trans ((an_w_c e4 q0).trans (y3 c' q1 q2 q3)))
          have z14 : ∀ f, μ6 14 f = upd (μ 14) 7 (nI (P + 1)) f := fun f => by rw [an_w_c e6 (by decide), an_w_c e5 (by decide), an_w_c e4 (by decide), e3, am_w_at, an_w_c e2 (by decide), an_w_c e1 (by decide)]
          have z67 : μ6 67 = upd (μ 67) P (nI a) := by rw [an_w_c e6 (by decide), an_w_c e5 (by decide), an_w_c e4 (by decide), an_w_c e3 (by decide), an_w_c e2 (by decide), e1, am_w_at]
          have z68 : μ6 68 = upd (μ 68) P (nI t) := by rw [an_w_c e6 (by decide), an_w_c e5 (by decide), an_w_c e4 (by decide), an_w_c e3 (by decide), e2, am_w_at, an_w_c e1 (by decide)]
          refine hK _ _ (an_G_of hG ?_ ⟨fun c hc => y6 c (by have := hc.2.1; omega) (by have := hc.1; omega) (by have := hc.1; omega) (by have := hc.1; omega), y6 _ (by decide) (by decide) (by decide) (by decide), y6 _ (by decide) (by decide) (by decide) (by decide), y6 _ (by decide) (by decide) (by decide) (by decide), y6 _ (by decide) (by decide) (by decide) (by decide), fun f _ => by rw [y6 0 (by decide) (by decide) (by decide) (by decide)], fun f _ => by rw [y6 140 (by decide) (by decide) (by decide) (by decide)], by rw [y6 15 (by decide) (by decide) (by decide) (by decide)]⟩)
          rw [x6]
          refine ⟨?_, an_k2_c h2 (fun j hj => by rw [pk_un (by omega), pk_un (by omega), pk_un (by omega)]) (fun c hc => hc.elim), an_k3_c h3 (fun j hj => by rw [pk_un (by omega), pk_un (by omega), pk_un (by omega)]) (fun c hc => hc.elim), an_k4_c h4 (fun j hj => by rw [pk_un (by omega), pk_un (by omega), pk_un (by omega)]) (fun c hc => hc.elim), an_k5_c (an_S_k150 h1) h5 (fun j hj => by rw [pk_un (by omega), pk_un (by omega), pk_un (by omega)]) (fun c hc => hc.elim), ?_, an_k7_c h7 (fun j hj => by rw [pk_un (by omega), pk_un (by omega), pk_un (by omega)]) (fun c hc => hc.elim), an_k8_c h8 (fun j hj => by rw [pk_un (by omega), pk_un (by omega), pk_un (by omega)]) (fun c hc => y6 c (by omega) (by omega) (by omega) (by omega)), an_k9_c h9 (fun j hj => by rw [pk_un (by omega), pk_un (by omega), pk_un (by omega)]) (fun c hc => y6 c (by omega) (by omega) (by omega) (by omega)), an_k10_c h10 (fun j hj => by rw [pk_un (by omega), pk_un (by omega), pk_un (by omega)]) (fun c hc => y6 c (by omega) (by omega) (by omega) (by omega)), an_k11_c h11 (fun j hj => by rw [pk_un (by omega), pk_un (by omega), pk_un (by omega)]) (fun c hc => y6 c (by omega) (by omega) (by omega) (by omega)), an_k12_c h12 (fun j hj => by rw [pk_un (by omega), pk_un (by omega), pk_un (by omega)]) (fun c hc => y6 c (by omega) (by omega) (by omega) (by omega)), ?_, ?_, an_k15_c h15 (fun j hj => by rw [pk_un (by omega), pk_un (by omega), pk_un (by omega)]) (fun c hc => by obtain ⟨k, hk, q1, q2⟩ := hc; exact y6 c (by omega) (by omega) (by omega) (by omega))⟩
          · refine ⟨by rw [pk_un (by omega), pk_un (by omega), pk_un (by omega)]; exact ⟨D, lD, eD⟩, by rw [pk_un (by omega), pk_un (by omega), pk_un (by omega)]; exact hN, by rw [pk_us]; exact ⟨P + 1, by omega, rfl⟩, by rw [pk_un (by omega), pk_un (by omega), pk_un (by omega)]; exact hKt, by rw [pk_un (by omega), pk_un (by omega), pk_un (by omega)]; exact hE⟩
          · intro i hi hi6
            rw [pk_us, am_cl (by omega)] at hi
            by_cases q : i = P
            · subst q
              refine ⟨⟨a, ha1, ha, ?_⟩, ⟨t, ht, ?_⟩⟩
              · rw [pk_un (by omega), pk_un (by omega), pk_us]
              · rw [pk_un (by omega), pk_us]
            · have := h6 i (by rw [eP, am_cl (by omega)]; omega) hi6
              rw [pk_un (by omega), pk_un (by omega), pk_un (by omega), pk_un (by omega), pk_un (by omega), pk_un (by omega)]
              exact this
          · obtain ⟨g1, g2⟩ := h13
            refine ⟨fun i hi => ?_, ?_⟩
            · show μ6 67 i = _ ∧ μ6 68 i = _
              rw [z67, z68]
              by_cases q : i = P
              · rw [q, pk_us, pk_us, pk_un (by omega : 5440 + 2 * P ≠ 2), pk_un (by omega : 5440 + 2 * P ≠ 5440 + 2 * P + 1), pk_us, pk_un (by omega : 5440 + 2 * P + 1 ≠ 2), pk_us]
                exact ⟨rfl, rfl⟩
              · rw [pk_un q, pk_un q, pk_un (by omega : 5440 + 2 * i ≠ 2), pk_un (by omega : 5440 + 2 * i ≠ 5440 + 2 * P + 1), pk_un (by omega : 5440 + 2 * i ≠ 5440 + 2 * P), pk_un (by omega : 5440 + 2 * i + 1 ≠ 2), pk_un (by omega : 5440 + 2 * i + 1 ≠ 5440 + 2 * P + 1), pk_un (by omega : 5440 + 2 * i + 1 ≠ 5440 + 2 * P)]
                exact g1 i hi
            · show μ6 14 7 = _
              rw [z14, pk_us, pk_us]
          · show μ6 14 8 = _
            rw [z14, pk_un (by omega), pk_un (by omega), pk_un (by omega), pk_un (by omega)]
            exact h14
        · have q6 : P = 6 := by omega
          subst q6
          refine v_X_payment ?_
          simp (discharger := omega) only [am_dp, am_gd_in, am_gd_t, pk_mul, nI_add, am_cl, nI_pos, nI_nlt, nI_ge, nI_le, nI_lt, if_true, if_false, not_true_eq_false, not_false_eq_true, z0, c7, eP]
          refine v_M_payment ?_
          simp (discharger := omega) only [am_dp, am_gd_in, am_gd_t, pk_mul, nI_add, am_cl, nI_pos, nI_nlt, nI_ge, nI_le, nI_lt, if_true, if_false, not_true_eq_false, not_false_eq_true, z0, hw, eP]
          exact hK _ _ hG
theorem an_sub2 (x y : Int32) : x - (x - y) = y := by
  rw [Int32.sub_eq_add_neg, Int32.sub_eq_add_neg x y, Int32.neg_add, Int32.sub_eq_add_neg (-x), Int32.neg_neg, ← Int32.add_assoc, Int32.add_right_neg, Int32.zero_add]
theorem op_really {L d : Nat} {μ : am_M} {p1 p2 : Int32} {K : Int32 → Int32 → am_M → Prop} (hd : 30 ≤ d) (hG : an_G nb μ) (hK : ∀ r μ', an_G nb μ' → K r r μ') : am_Ci L d 105 [.ref 0, .int p1, .int p2] μ (fun r1 μ1 => am_Ci L d 198 [.ref 140, .int p1, .int p2] μ1 (fun r2 μ2 => K r1 r2 μ2)) := by
  have hS := hG.1
  generalize hw : μ 141 = w at hS
  obtain ⟨h1, h2, h3, h4, h5, h6, h7, h8, h9, h10, h11, h12, h13, h14, h15⟩ := id hS
  obtain ⟨hD, hN, hP, hKt, hE⟩ := id h1
  obtain ⟨eN, lN⟩ := an_cnt_e hN
  have hL : an_RL 58 w μ := h8
  have hC : an_RC 15 w μ := h9.1
  obtain ⟨D, lD, eD⟩ := hD
  rcases an_arg p1 6 (by omega) (by omega) with ⟨a1, a2⟩ | ⟨a1, a2, a3, a4⟩ | ⟨h, hh, rfl⟩
  · refine v_X_really ?_
    simp (discharger := omega) only [am_dp, am_gd_in, am_gd_t, pk_mul, nI_add, am_cl, nI_pos, nI_nlt, nI_ge, nI_le, nI_lt, if_true, if_false, not_true_eq_false, not_false_eq_true, a1]
    refine v_M_really ?_
    simp (discharger := omega) only [am_dp, am_gd_in, am_gd_t, pk_mul, nI_add, am_cl, nI_pos, nI_nlt, nI_ge, nI_le, nI_lt, if_true, if_false, not_true_eq_false, not_false_eq_true, a2]
    exact hK _ _ hG
  · have a5 : nI 5 < p1 := a4
    refine v_X_really ?_
    simp (discharger := omega) only [am_dp, am_gd_in, am_gd_t, pk_mul, nI_add, am_cl, nI_pos, nI_nlt, nI_ge, nI_le, nI_lt, if_true, if_false, not_true_eq_false, not_false_eq_true, a1, a3]
    refine v_M_really ?_
    simp (discharger := omega) only [am_dp, am_gd_in, am_gd_t, pk_mul, nI_add, am_cl, nI_pos, nI_nlt, nI_ge, nI_le, nI_lt, if_true, if_false, not_true_eq_false, not_false_eq_true, a2, a5]
    exact hK _ _ hG
  · refine v_X_really ?_
    simp (discharger := omega) only [am_dp, am_gd_in, am_gd_t, pk_mul, nI_add, am_cl, nI_pos, nI_nlt, nI_ge, nI_le, nI_lt, if_true, if_false, not_true_eq_false, not_false_eq_true]
    refine s_Ledger_booksOf (by omega) hh hL ?_
    refine s_Ledger_waterOf (by omega) hL hN ?_
    rcases an_arg p2 3 (by omega) (by omega) with ⟨b1, b2⟩ | ⟨b1, b2, b3, b4⟩ | ⟨c, hc, rfl⟩
    · rw [if_neg (an_ne_neg b1 (by omega)), if_neg (an_ne_neg b1 (by omega)), if_neg (an_ne_neg b1 (by omega))]
      refine v_M_really ?_
      simp (discharger := omega) only [am_dp, am_gd_in, am_gd_t, pk_mul, nI_add, am_cl, nI_pos, nI_nlt, nI_ge, nI_le, nI_lt, if_true, if_false, not_true_eq_false, not_false_eq_true, b2]
      exact hK _ _ hG
    · have b5 : nI 2 < p2 := b4
      rw [if_neg (an_ne_big b5 (by omega) (by omega)), if_neg (an_ne_big b5 (by omega) (by omega)), if_neg (an_ne_big b5 (by omega) (by omega))]
      refine v_M_really ?_
      simp (discharger := omega) only [am_dp, am_gd_in, am_gd_t, pk_mul, nI_add, am_cl, nI_pos, nI_nlt, nI_ge, nI_le, nI_lt, if_true, if_false, not_true_eq_false, not_false_eq_true, b2, b5]
      exact hK _ _ hG
    · rcases (by omega : c = 0 ∨ c = 1 ∨ c = 2) with rfl | rfl | rfl
      · rw [if_pos rfl]
        refine v_M_really ?_
        simp (discharger := omega) only [am_dp, am_gd_in, am_gd_t, pk_mul, nI_add, am_cl, nI_pos, nI_nlt, nI_ge, nI_le, nI_lt, if_true, if_false, not_true_eq_false, not_false_eq_true]
        rw [if_neg (fun z => z nI_0)]
        refine s_M_booksOf (by omega) hh hw ?_
        exact hK _ _ hG
      · rw [if_neg (by decide), if_pos rfl]
        refine v_M_really ?_
        simp (discharger := omega) only [am_dp, am_gd_in, am_gd_t, pk_mul, nI_add, am_cl, nI_pos, nI_nlt, nI_ge, nI_le, nI_lt, if_true, if_false, not_true_eq_false, not_false_eq_true]
        rw [if_pos (by decide)]
        refine s_M_booksOf (by omega) hh hw ?_
        refine s_M_waterOf (by omega) hw hN ?_
        exact hK _ _ hG
      · rw [if_neg (by decide), if_neg (by decide), if_pos rfl, an_sub2]
        refine v_M_really ?_
        simp (discharger := omega) only [am_dp, am_gd_in, am_gd_t, pk_mul, nI_add, am_cl, nI_pos, nI_nlt, nI_ge, nI_le, nI_lt, if_true, if_false, not_true_eq_false, not_false_eq_true]
        rw [if_pos (by decide), if_pos (by decide)]
        refine s_M_waterOf (by omega) hw hN ?_
        exact hK _ _ hG
