/-! Calls side by side: the class, then the model; small ones. -/
variable {nb : Nat}
theorem an_swap {x : Int32} {n : Nat} (hn : n < 2147483648) : (x ≤ nI n ↔ ¬ nI n < x) := Int32.not_lt.symm
theorem op_town {L d : Nat} {μ : am_M} {p1 p2 : Int32} {K : Int32 → Int32 → am_M → Prop} (hd : 30 ≤ d) (hG : an_G nb μ) (hK : ∀ r μ', an_G nb μ' → K r r μ') : am_Ci L d 93 [.ref 0, .int p1, .int p2] μ (fun r1 μ1 => am_Ci L d 149 [.ref 140, .int p1, .int p2] μ1 (fun r2 μ2 => K r1 r2 μ2)) := by
  have hS := hG.1
  generalize hw : μ 141 = w at hS
  obtain ⟨h1, h2, h3, h4, h5, h6, h7, h8, h9, h10, h11, h12, h13, h14, h15⟩ := id hS
  obtain ⟨hD, hN, hP, hKt, hE⟩ := id h1
  obtain ⟨eN, lN⟩ := an_cnt_e hN
  have hL : an_RL 58 w μ := h8
  have hC : an_RC 15 w μ := h9.1
  obtain ⟨D, lD, eD⟩ := hD
  rcases an_arg p1 4 (by omega) (by omega) with ⟨a1, a2⟩ | ⟨a1, a2, a3, a4⟩ | ⟨b, hb, rfl⟩
  · refine v_X_town ?_
    simp (discharger := omega) only [am_dp, am_gd_in, am_gd_t, pk_mul, nI_add, am_cl, nI_pos, nI_nlt, nI_ge, nI_le, nI_lt, if_true, if_false, not_true_eq_false, not_false_eq_true, a1, a2]
    refine v_M_town ?_
    simp (discharger := omega) only [am_dp, am_gd_in, am_gd_t, pk_mul, nI_add, am_cl, nI_pos, nI_nlt, nI_ge, nI_le, nI_lt, if_true, if_false, not_true_eq_false, not_false_eq_true, a1, a2]
    exact hK _ _ hG
  · have a5 : nI 3 < p1 := a4
    refine v_X_town ?_
    simp (discharger := omega) only [am_dp, am_gd_in, am_gd_t, pk_mul, nI_add, am_cl, nI_pos, nI_nlt, nI_ge, nI_le, nI_lt, if_true, if_false, not_true_eq_false, not_false_eq_true, a1, a2, a3, a5]
    refine v_M_town ?_
    simp (discharger := omega) only [am_dp, am_gd_in, am_gd_t, pk_mul, nI_add, am_cl, nI_pos, nI_nlt, nI_ge, nI_le, nI_lt, if_true, if_false, not_true_eq_false, not_false_eq_true, a1, a2, a3, a5]
    exact hK _ _ hG
  rcases an_arg p2 3 (by omega) (by omega) with ⟨a1, a2⟩ | ⟨a1, a2, a3, a4⟩ | ⟨t, ht, rfl⟩
  · refine v_X_town ?_
    simp (discharger := omega) only [am_dp, am_gd_in, am_gd_t, pk_mul, nI_add, am_cl, nI_pos, nI_nlt, nI_ge, nI_le, nI_lt, if_true, if_false, not_true_eq_false, not_false_eq_true, a1, a2]
    refine v_M_town ?_
    simp (discharger := omega) only [am_dp, am_gd_in, am_gd_t, pk_mul, nI_add, am_cl, nI_pos, nI_nlt, nI_ge, nI_le, nI_lt, if_true, if_false, not_true_eq_false, not_false_eq_true, a1, a2]
    exact hK _ _ hG
  · have a5 : nI 2 < p2 := a4
    refine v_X_town ?_
    simp (discharger := omega) only [am_dp, am_gd_in, am_gd_t, pk_mul, nI_add, am_cl, nI_pos, nI_nlt, nI_ge, nI_le, nI_lt, if_true, if_false, not_true_eq_false, not_false_eq_true, a1, a2, a3, a5]
    refine v_M_town ?_
    simp (discharger := omega) only [am_dp, am_gd_in, am_gd_t, pk_mul, nI_add, am_cl, nI_pos, nI_nlt, nI_ge, nI_le, nI_lt, if_true, if_false, not_true_eq_false, not_false_eq_true, a1, a2, a3, a5]
    exact hK _ _ hG
  by_cases q : w 1 ≤ 0
  · refine v_X_town ?_
    simp (discharger := omega) only [am_dp, am_gd_in, am_gd_t, pk_mul, nI_add, am_cl, nI_pos, nI_nlt, nI_ge, nI_le, nI_lt, if_true, if_false, not_true_eq_false, not_false_eq_true, hL.2.1, q]
    intro μ1 e1
    have x1 : μ1 141 = w := (an_w_c e1 (by decide)).trans hw
    refine v_M_town ?_
    simp (discharger := omega) only [am_dp, am_gd_in, am_gd_t, pk_mul, nI_add, am_cl, nI_pos, nI_nlt, nI_ge, nI_le, nI_lt, if_true, if_false, not_true_eq_false, not_false_eq_true, x1, q]
    intro μ2 e2
    have x2 : μ2 141 = upd w (10 + b) (nI t) := by rw [e2, am_w_at, x1]
    have y2 : ∀ c, c ≠ 141 → c ≠ 16 → μ2 c = μ c := fun c q1 q2 => (an_w_c e2 q1).trans (an_w_c e1 q2)
    have z2 : μ2 16 = upd (μ 16) b (nI t) := by rw [an_w_c e2 (by decide), e1, am_w_at]
    refine hK _ _ (an_G_of hG ?_ ⟨fun c hc => y2 c (by have := hc.2.1; omega) (by have := hc.1; omega), y2 _ (by decide) (by decide), y2 _ (by decide) (by decide), y2 _ (by decide) (by decide), y2 _ (by decide) (by decide), fun f _ => by rw [y2 0 (by decide) (by decide)], fun f _ => by rw [y2 140 (by decide) (by decide)], by rw [y2 15 (by decide) (by decide)]⟩)
    rw [x2]
    refine ⟨an_k1_c h1 (fun j hj => pk_un (by omega)) (fun c hc => hc.elim), ?_, an_k3_c h3 (fun j hj => pk_un (by omega)) (fun c hc => hc.elim), an_k4_c h4 (fun j hj => pk_un (by omega)) (fun c hc => hc.elim), an_k5_c (an_S_k150 h1) h5 (fun j hj => pk_un (by omega)) (fun c hc => hc.elim), an_k6_c h6 (fun j hj => pk_un (by omega)) (fun c hc => hc.elim), an_k7_c h7 (fun j hj => pk_un (by omega)) (fun c hc => hc.elim), an_k8_c h8 (fun j hj => pk_un (by omega)) (fun c hc => y2 c (by omega) (by omega)), ?_, an_k10_c h10 (fun j hj => pk_un (by omega)) (fun c hc => y2 c (by omega) (by omega)), an_k11_c h11 (fun j hj => pk_un (by omega)) (fun c hc => y2 c (by omega) (by omega)), an_k12_c h12 (fun j hj => pk_un (by omega)) (fun c hc => y2 c (by omega) (by omega)), an_k13_c h13 (fun j hj => pk_un (by omega)) (fun c hc => y2 c (by omega) (by omega)), an_k14_c h14 (fun j hj => pk_un (by omega)) (fun c hc => y2 c (by omega) (by omega)), an_k15_c h15 (fun j hj => pk_un (by omega)) (fun c hc => by obtain ⟨k, hk, q1, q2⟩ := hc; exact y2 c (by omega) (by omega))⟩
    · obtain ⟨⟨g1, g2⟩, g3, g4⟩ := h2
      refine ⟨⟨fun i hi => ?_, fun i hi => ?_⟩, fun a c ha hc => ?_, fun a ha => ?_⟩
      · by_cases hi2 : i = b
        · rw [hi2, pk_us]; exact ⟨t, ht, rfl⟩
        · rw [pk_un (by omega)]; exact g1 i hi
      · rw [pk_un (by omega)]; exact g2 i hi
      · rw [pk_un (by omega), pk_un (by omega)]; exact g3 a c ha hc
      · rw [pk_un (by omega)]; exact g4 a ha
    · obtain ⟨⟨g1, g2, g3⟩, g4⟩ := h9
      refine ⟨⟨fun i hi => ?_, fun i hi => ?_, fun i hi => ?_⟩, fun i hi => ?_⟩
      · show μ2 16 i = _
        rw [z2]
        by_cases hi2 : i = b
        · rw [hi2, pk_us, pk_us]
        · rw [pk_un hi2, pk_un (by omega)]; exact g1 i hi
      · show μ2 17 i = _
        rw [y2 17 (by decide) (by decide), pk_un (by omega)]; exact g2 i hi
      · show μ2 18 i = _
        rw [y2 18 (by decide) (by decide), pk_un (by omega)]; exact g3 i hi
      · show μ2 19 i = _
        rw [y2 19 (by decide) (by decide), pk_un (by omega)]; exact g4 i hi
  · refine v_X_town ?_
    simp (discharger := omega) only [am_dp, am_gd_in, am_gd_t, pk_mul, nI_add, am_cl, nI_pos, nI_nlt, nI_ge, nI_le, nI_lt, if_true, if_false, not_true_eq_false, not_false_eq_true, hL.2.1, q]
    refine v_M_town ?_
    simp (discharger := omega) only [am_dp, am_gd_in, am_gd_t, pk_mul, nI_add, am_cl, nI_pos, nI_nlt, nI_ge, nI_le, nI_lt, if_true, if_false, not_true_eq_false, not_false_eq_true, hw, q]
    exact hK _ _ hG
theorem op_alone {L d : Nat} {μ : am_M} {p1 p2 : Int32} {K : Int32 → Int32 → am_M → Prop} (hd : 30 ≤ d) (hG : an_G nb μ) (hK : ∀ r μ', an_G nb μ' → K r r μ') : am_Ci L d 119 [.ref 0, .int p1, .int p2] μ (fun r1 μ1 => am_Ci L d 226 [.ref 140, .int p1, .int p2] μ1 (fun r2 μ2 => K r1 r2 μ2)) := by
  have hS := hG.1
  generalize hw : μ 141 = w at hS
  obtain ⟨h1, h2, h3, h4, h5, h6, h7, h8, h9, h10, h11, h12, h13, h14, h15⟩ := id hS
  obtain ⟨hD, hN, hP, hKt, hE⟩ := id h1
  obtain ⟨eN, lN⟩ := an_cnt_e hN
  have hL : an_RL 58 w μ := h8
  have hC : an_RC 15 w μ := h9.1
  obtain ⟨D, lD, eD⟩ := hD
  rcases an_arg p1 6 (by omega) (by omega) with ⟨a1, a2⟩ | ⟨a1, a2, a3, a4⟩ | ⟨b, hb, rfl⟩
  · refine v_X_alone ?_
    simp (discharger := omega) only [am_dp, am_gd_in, am_gd_t, pk_mul, nI_add, am_cl, nI_pos, nI_nlt, nI_ge, nI_le, nI_lt, if_true, if_false, not_true_eq_false, not_false_eq_true, a1, a2]
    refine v_M_alone ?_
    simp (discharger := omega) only [am_dp, am_gd_in, am_gd_t, pk_mul, nI_add, am_cl, nI_pos, nI_nlt, nI_ge, nI_le, nI_lt, if_true, if_false, not_true_eq_false, not_false_eq_true, a1, a2]
    exact hK _ _ hG
  · have a5 : nI 5 < p1 := a4
    refine v_X_alone ?_
    simp (discharger := omega) only [am_dp, am_gd_in, am_gd_t, pk_mul, nI_add, am_cl, nI_pos, nI_nlt, nI_ge, nI_le, nI_lt, if_true, if_false, not_true_eq_false, not_false_eq_true, a1, a2, a3, a5]
    refine v_M_alone ?_
    simp (discharger := omega) only [am_dp, am_gd_in, am_gd_t, pk_mul, nI_add, am_cl, nI_pos, nI_nlt, nI_ge, nI_le, nI_lt, if_true, if_false, not_true_eq_false, not_false_eq_true, a1, a2, a3, a5]
    exact hK _ _ hG
  rcases an_arg p2 4 (by omega) (by omega) with ⟨a1, a2⟩ | ⟨a1, a2, a3, a4⟩ | ⟨t, ht, rfl⟩
  · refine v_X_alone ?_
    simp (discharger := omega) only [am_dp, am_gd_in, am_gd_t, pk_mul, nI_add, am_cl, nI_pos, nI_nlt, nI_ge, nI_le, nI_lt, if_true, if_false, not_true_eq_false, not_false_eq_true, a1, a2]
    refine v_M_alone ?_
    simp (discharger := omega) only [am_dp, am_gd_in, am_gd_t, pk_mul, nI_add, am_cl, nI_pos, nI_nlt, nI_ge, nI_le, nI_lt, if_true, if_false, not_true_eq_false, not_false_eq_true, a1, a2]
    exact hK _ _ hG
  · have a5 : nI 3 < p2 := a4
    refine v_X_alone ?_
    simp (discharger := omega) only [am_dp, am_gd_in, am_gd_t, pk_mul, nI_add, am_cl, nI_pos, nI_nlt, nI_ge, nI_le, nI_lt, if_true, if_false, not_true_eq_false, not_false_eq_true, a1, a2, a3, a5]
    refine v_M_alone ?_
    simp (discharger := omega) only [am_dp, am_gd_in, am_gd_t, pk_mul, nI_add, am_cl, nI_pos, nI_nlt, nI_ge, nI_le, nI_lt, if_true, if_false, not_true_eq_false, not_false_eq_true, a1, a2, a3, a5]
    exact hK _ _ hG
  refine v_X_alone ?_
  simp (discharger := omega) only [am_dp, am_gd_in, am_gd_t, pk_mul, nI_add, am_cl, nI_pos, nI_nlt, nI_ge, nI_le, nI_lt, if_true, if_false, not_true_eq_false, not_false_eq_true]
  refine v_M_alone ?_
  simp (discharger := omega) only [am_dp, am_gd_in, am_gd_t, pk_mul, nI_add, am_cl, nI_pos, nI_nlt, nI_ge, nI_le, nI_lt, if_true, if_false, not_true_eq_false, not_false_eq_true, hw]
  have e : μ 66 (b * 4 + t) = w (3612 + 4 * b + t) := by
    have := h12 (b * 4 + t) (by omega)
    rw [show 3612 + 4 * b + t = 3612 + (b * 4 + t) by omega]
    exact this
  rw [e]
  exact hK _ _ hG
theorem op_fault {L d : Nat} {μ : am_M} {p1 : Int32} {K : Int32 → Int32 → am_M → Prop} (hd : 30 ≤ d) (hG : an_G nb μ) (hK : ∀ r μ', an_G nb μ' → K r r μ') : am_Ci L d 99 [.ref 0, .int p1] μ (fun r1 μ1 => am_Ci L d 177 [.ref 140, .int p1] μ1 (fun r2 μ2 => K r1 r2 μ2)) := by
  obtain ⟨-, -, -, -, g5, g6, -⟩ := id hG
  refine v_X_fault ?_
  by_cases q : p1 = 0
  · rw [if_neg (fun z => z q)]
    refine v_M_fault ?_
    rw [if_neg (fun z => z q), g5]
    exact hK _ _ hG
  · rw [if_pos q]
    by_cases q2 : p1 = nI 1
    · rw [if_neg (fun z => z q2)]
      refine v_M_fault ?_
      rw [if_pos q, if_neg (fun z => z q2), g6]
      exact hK _ _ hG
    · rw [if_pos q2]
      refine v_M_fault ?_
      rw [if_pos q, if_pos q2]
      exact hK _ _ hG
theorem op_look {L d : Nat} {μ : am_M} {p1 : Int32} {K : Int32 → Int32 → am_M → Prop} (hd : 30 ≤ d) (hG : an_G nb μ) (hK : ∀ r μ', an_G nb μ' → K r r μ') : am_Ci L d 129 [.ref 0, .int p1] μ (fun r1 μ1 => am_Ci L d 240 [.ref 140, .int p1] μ1 (fun r2 μ2 => K r1 r2 μ2)) := by
  have hS := hG.1
  generalize hw : μ 141 = w at hS
  obtain ⟨h1, h2, h3, h4, h5, h6, h7, h8, h9, h10, h11, h12, h13, h14, h15⟩ := id hS
  obtain ⟨hD, hN, hP, hKt, hE⟩ := id h1
  obtain ⟨eN, lN⟩ := an_cnt_e hN
  have hL : an_RL 58 w μ := h8
  have hC : an_RC 15 w μ := h9.1
  obtain ⟨D, lD, eD⟩ := hD
  have g2 := hG.2.1
  refine v_X_look ?_
  split
  · rename_i q; refine v_M_look ?_; rw [if_pos q, hw, hL.1]; exact hK _ _ hG
  · rename_i n0; split
    · rename_i q; refine v_M_look ?_; rw [if_neg n0, if_pos q, hw, hL.2.1]; exact hK _ _ hG
    · rename_i n1; split
      · rename_i q; refine v_M_look ?_; rw [if_neg n0, if_neg n1, if_pos q, hw, show μ 14 7 = w 2 from h13.2]; exact hK _ _ hG
      · rename_i n2; split
        · rename_i q; refine v_M_look ?_; rw [if_neg n0, if_neg n1, if_neg n2, if_pos q, hw, show μ 14 8 = w 3 from h14]; exact hK _ _ hG
        · rename_i n3; split
          · rename_i q
            rw [hL.1, eD]
            refine ⟨by omega, s_Country_isBusiness hC (by omega) ?_⟩
            rw [an_bf]
            cases hb : W_biz w D with
            | true =>
              refine v_M_look ?_
              rw [if_neg n0, if_neg n1, if_neg n2, if_neg n3, if_pos q, hw, eD]
              refine ⟨by omega, s_M_isBusiness hw (by omega) ?_⟩
              rw [an_bf, hb]
              exact hK _ _ hG
            | false =>
              refine v_M_look ?_
              rw [if_neg n0, if_neg n1, if_neg n2, if_neg n3, if_pos q, hw, eD]
              refine ⟨by omega, s_M_isBusiness hw (by omega) ?_⟩
              rw [an_bf, hb]
              exact hK _ _ hG
          · rename_i n4; split
            · rename_i q
              rw [g2]
              split
              · rename_i z
                refine v_M_look ?_
                rw [if_neg n0, if_neg n1, if_neg n2, if_neg n3, if_neg n4, if_pos q, if_pos z]
                exact hK _ _ hG
              · rename_i z
                refine v_M_look ?_
                rw [if_neg n0, if_neg n1, if_neg n2, if_neg n3, if_neg n4, if_pos q, if_neg z]
                exact hK _ _ hG
            · rename_i n5; split
              · rename_i q
                refine v_M_look ?_
                rw [if_neg n0, if_neg n1, if_neg n2, if_neg n3, if_neg n4, if_neg n5, if_pos q, hw, show μ 56 1 = w 9810 from h10.1]
                exact hK _ _ hG
              · rename_i n6
                refine v_M_look ?_
                rw [if_neg n0, if_neg n1, if_neg n2, if_neg n3, if_neg n4, if_neg n5, if_neg n6]
                exact hK _ _ hG
