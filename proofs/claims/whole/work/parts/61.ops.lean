/-! Calls side by side: more small ones. -/
variable {nb : Nat}
theorem an_ne_neg {x : Int32} {n : Nat} (h : x < 0) (hn : n < 2147483648) : ¬ x = nI n := fun e => nI_pos hn (e ▸ h)
theorem an_ne_big {x : Int32} {n j : Nat} (h : nI n < x) (hj : j ≤ n) (hn : n < 2147483648) : ¬ x = nI j := fun e => nI_nlt hj hn (e ▸ h)
theorem an_ne_0 {x : Int32} (h : x < 0) : ¬ x = 0 := fun e => by rw [e] at h; exact Int32.lt_irrefl h
theorem an_ne_0b {x : Int32} {n : Nat} (h : nI n < x) (hn : n < 2147483648) : ¬ x = 0 := fun e => by have := an_ne_big (j := 0) h (by omega) hn; rw [nI_0] at this; exact this e
theorem an_k5_days {o : Nat} {w : an_W} {μ : am_M} (hD : an_N (w 0) 90) (h : an_k5 o w μ) : an_days w := by
  obtain ⟨D, lD, eD⟩ := hD
  intro k hk
  obtain ⟨-, -, -, -, -, ⟨q, lq, eq⟩, -⟩ := h k hk
  rw [eD, am_cl (by omega)] at lq
  rw [eq, eD]
  exact nI_nlt (by omega) (by omega)
theorem an_RS_of {w : an_W} {μ : am_M} (h3 : an_k3 0 w μ) (h9 : an_k9 0 w μ) (h : μ 15 5 = - nI 1) : an_RS w μ := by
  refine ⟨fun i hi => ?_, fun i h1 h2 => ?_⟩
  · have e : μ 19 i = w (120 + i) := h9.2 i hi
    rw [e, h]
    obtain ⟨v, hv, ev⟩ := h3 (90 + i) (by omega)
    rw [show 30 + (90 + i) = 120 + i by omega] at ev
    rw [ev]
    constructor
    · rintro (q | q)
      · exfalso
        have := nI_pos (n := i) (by omega)
        rw [q] at this
        exact this (by decide)
      · rw [q]; decide
    · intro q
      right
      rcases (by omega : v = 0 ∨ v = 1) with rfl | rfl
      · exact absurd nI_0 q
      · rfl
  · rw [h]
    intro q
    have := nI_pos h2
    rw [q] at this
    exact this (by decide)
theorem op_flight {L d : Nat} {μ : am_M} {p1 p2 p3 : Int32} {K : Int32 → Int32 → am_M → Prop} (hd : 30 ≤ d) (hG : an_G nb μ) (hK : ∀ r μ', an_G nb μ' → K r r μ') : am_Ci L d 108 [.ref 0, .int p1, .int p2, .int p3] μ (fun r1 μ1 => am_Ci L d 211 [.ref 140, .int p1, .int p2, .int p3] μ1 (fun r2 μ2 => K r1 r2 μ2)) := by
  have hS := hG.1
  generalize hw : μ 141 = w at hS
  obtain ⟨h1, h2, h3, h4, h5, h6, h7, h8, h9, h10, h11, h12, h13, h14, h15⟩ := id hS
  obtain ⟨hD, hN, hP, hKt, hE⟩ := id h1
  obtain ⟨eN, lN⟩ := an_cnt_e hN
  have hL : an_RL 58 w μ := h8
  have hC : an_RC 15 w μ := h9.1
  obtain ⟨D, lD, eD⟩ := hD
  rcases an_arg p1 4 (by omega) (by omega) with ⟨a1, a2⟩ | ⟨a1, a2, a3, a4⟩ | ⟨a, ha, rfl⟩
  · refine v_X_flight ?_
    simp (discharger := omega) only [am_dp, am_gd_in, am_gd_t, pk_mul, nI_add, am_cl, nI_pos, nI_nlt, nI_ge, nI_le, nI_lt, if_true, if_false, not_true_eq_false, not_false_eq_true, a1, a2]
    refine v_M_flight ?_
    simp (discharger := omega) only [am_dp, am_gd_in, am_gd_t, pk_mul, nI_add, am_cl, nI_pos, nI_nlt, nI_ge, nI_le, nI_lt, if_true, if_false, not_true_eq_false, not_false_eq_true, a1, a2]
    exact hK _ _ hG
  · have a5 : nI 3 < p1 := a4
    refine v_X_flight ?_
    simp (discharger := omega) only [am_dp, am_gd_in, am_gd_t, pk_mul, nI_add, am_cl, nI_pos, nI_nlt, nI_ge, nI_le, nI_lt, if_true, if_false, not_true_eq_false, not_false_eq_true, a1, a2, a3, a5]
    refine v_M_flight ?_
    simp (discharger := omega) only [am_dp, am_gd_in, am_gd_t, pk_mul, nI_add, am_cl, nI_pos, nI_nlt, nI_ge, nI_le, nI_lt, if_true, if_false, not_true_eq_false, not_false_eq_true, a1, a2, a3, a5]
    exact hK _ _ hG
  rcases an_arg p2 4 (by omega) (by omega) with ⟨a1, a2⟩ | ⟨a1, a2, a3, a4⟩ | ⟨b', hb', rfl⟩
  · refine v_X_flight ?_
    simp (discharger := omega) only [am_dp, am_gd_in, am_gd_t, pk_mul, nI_add, am_cl, nI_pos, nI_nlt, nI_ge, nI_le, nI_lt, if_true, if_false, not_true_eq_false, not_false_eq_true, a1, a2]
    refine v_M_flight ?_
    simp (discharger := omega) only [am_dp, am_gd_in, am_gd_t, pk_mul, nI_add, am_cl, nI_pos, nI_nlt, nI_ge, nI_le, nI_lt, if_true, if_false, not_true_eq_false, not_false_eq_true, a1, a2]
    exact hK _ _ hG
  · have a5 : nI 3 < p2 := a4
    refine v_X_flight ?_
    simp (discharger := omega) only [am_dp, am_gd_in, am_gd_t, pk_mul, nI_add, am_cl, nI_pos, nI_nlt, nI_ge, nI_le, nI_lt, if_true, if_false, not_true_eq_false, not_false_eq_true, a1, a2, a3, a5]
    refine v_M_flight ?_
    simp (discharger := omega) only [am_dp, am_gd_in, am_gd_t, pk_mul, nI_add, am_cl, nI_pos, nI_nlt, nI_ge, nI_le, nI_lt, if_true, if_false, not_true_eq_false, not_false_eq_true, a1, a2, a3, a5]
    exact hK _ _ hG
  rcases an_arg p3 90 (by omega) (by omega) with ⟨a1, a2⟩ | ⟨a1, a2, a3, a4⟩ | ⟨c, hc, rfl⟩
  · refine v_X_flight ?_
    simp (discharger := omega) only [am_dp, am_gd_in, am_gd_t, pk_mul, nI_add, am_cl, nI_pos, nI_nlt, nI_ge, nI_le, nI_lt, if_true, if_false, not_true_eq_false, not_false_eq_true, a1, a2]
    refine v_M_flight ?_
    simp (discharger := omega) only [am_dp, am_gd_in, am_gd_t, pk_mul, nI_add, am_cl, nI_pos, nI_nlt, nI_ge, nI_le, nI_lt, if_true, if_false, not_true_eq_false, not_false_eq_true, a1, a2]
    exact hK _ _ hG
  · have a5 : nI 89 < p3 := a4
    refine v_X_flight ?_
    simp (discharger := omega) only [am_dp, am_gd_in, am_gd_t, pk_mul, nI_add, am_cl, nI_pos, nI_nlt, nI_ge, nI_le, nI_lt, if_true, if_false, not_true_eq_false, not_false_eq_true, a1, a2, a3, a5]
    refine v_M_flight ?_
    simp (discharger := omega) only [am_dp, am_gd_in, am_gd_t, pk_mul, nI_add, am_cl, nI_pos, nI_nlt, nI_ge, nI_le, nI_lt, if_true, if_false, not_true_eq_false, not_false_eq_true, a1, a2, a3, a5]
    exact hK _ _ hG
  have hSn := an_RS_of h3 h9 hG.2.2.2.2.2.2.1
  have hT := h2.1
  refine v_X_flight ?_
  simp (discharger := omega) only [am_dp, am_gd_in, am_gd_t, pk_mul, nI_add, am_cl, nI_pos, nI_nlt, nI_ge, nI_le, nI_lt, if_true, if_false, not_true_eq_false, not_false_eq_true]
  refine s_Country_isBusiness hC (by omega) ?_
  rw [an_bf]
  cases hb : W_biz w c with
  | false =>
    refine v_M_flight ?_
    simp (discharger := omega) only [am_dp, am_gd_in, am_gd_t, pk_mul, nI_add, am_cl, nI_pos, nI_nlt, nI_ge, nI_le, nI_lt, if_true, if_false, not_true_eq_false, not_false_eq_true]
    refine s_M_isBusiness hw (by omega) ?_
    rw [an_bf, hb]
    exact hK _ _ hG
  | true =>
    refine s_Country_flightDays (by omega) ha hb' hC hSn hT hc ?_
    refine v_M_flight ?_
    simp (discharger := omega) only [am_dp, am_gd_in, am_gd_t, pk_mul, nI_add, am_cl, nI_pos, nI_nlt, nI_ge, nI_le, nI_lt, if_true, if_false, not_true_eq_false, not_false_eq_true]
    refine s_M_isBusiness hw (by omega) ?_
    rw [an_bf, hb]
    refine s_M_flightOf (by omega) ha hb' hw hT hc ?_
    exact hK _ _ hG
theorem op_book {L d : Nat} {μ : am_M} {p1 p2 p3 : Int32} {K : Int32 → Int32 → am_M → Prop} (hd : 30 ≤ d) (hG : an_G nb μ) (hK : ∀ r μ', an_G nb μ' → K r r μ') : am_Ci L d 103 [.ref 0, .int p1, .int p2, .int p3] μ (fun r1 μ1 => am_Ci L d 192 [.ref 140, .int p1, .int p2, .int p3] μ1 (fun r2 μ2 => K r1 r2 μ2)) := by
  have hS := hG.1
  generalize hw : μ 141 = w at hS
  obtain ⟨h1, h2, h3, h4, h5, h6, h7, h8, h9, h10, h11, h12, h13, h14, h15⟩ := id hS
  obtain ⟨hD, hN, hP, hKt, hE⟩ := id h1
  obtain ⟨eN, lN⟩ := an_cnt_e hN
  have hL : an_RL 58 w μ := h8
  have hC : an_RC 15 w μ := h9.1
  obtain ⟨D, lD, eD⟩ := hD
  rcases an_arg p1 6 (by omega) (by omega) with ⟨a1, a2⟩ | ⟨a1, a2, a3, a4⟩ | ⟨h, hh, rfl⟩
  · refine v_X_book ?_
    simp (discharger := omega) only [am_dp, am_gd_in, am_gd_t, pk_mul, nI_add, am_cl, nI_pos, nI_nlt, nI_ge, nI_le, nI_lt, if_true, if_false, not_true_eq_false, not_false_eq_true, a1, a2]
    refine v_M_book ?_
    simp (discharger := omega) only [am_dp, am_gd_in, am_gd_t, pk_mul, nI_add, am_cl, nI_pos, nI_nlt, nI_ge, nI_le, nI_lt, if_true, if_false, not_true_eq_false, not_false_eq_true, a1, a2]
    exact hK _ _ hG
  · have a5 : nI 5 < p1 := a4
    refine v_X_book ?_
    simp (discharger := omega) only [am_dp, am_gd_in, am_gd_t, pk_mul, nI_add, am_cl, nI_pos, nI_nlt, nI_ge, nI_le, nI_lt, if_true, if_false, not_true_eq_false, not_false_eq_true, a1, a2, a3, a5]
    refine v_M_book ?_
    simp (discharger := omega) only [am_dp, am_gd_in, am_gd_t, pk_mul, nI_add, am_cl, nI_pos, nI_nlt, nI_ge, nI_le, nI_lt, if_true, if_false, not_true_eq_false, not_false_eq_true, a1, a2, a3, a5]
    exact hK _ _ hG
  rcases an_arg p2 4 (by omega) (by omega) with ⟨a1, a2⟩ | ⟨a1, a2, a3, a4⟩ | ⟨b, hb, rfl⟩
  · refine v_X_book ?_
    simp (discharger := omega) only [am_dp, am_gd_in, am_gd_t, pk_mul, nI_add, am_cl, nI_pos, nI_nlt, nI_ge, nI_le, nI_lt, if_true, if_false, not_true_eq_false, not_false_eq_true, a1, a2]
    refine v_M_book ?_
    simp (discharger := omega) only [am_dp, am_gd_in, am_gd_t, pk_mul, nI_add, am_cl, nI_pos, nI_nlt, nI_ge, nI_le, nI_lt, if_true, if_false, not_true_eq_false, not_false_eq_true, a1, a2]
    exact hK _ _ hG
  · have a5 : nI 3 < p2 := a4
    refine v_X_book ?_
    simp (discharger := omega) only [am_dp, am_gd_in, am_gd_t, pk_mul, nI_add, am_cl, nI_pos, nI_nlt, nI_ge, nI_le, nI_lt, if_true, if_false, not_true_eq_false, not_false_eq_true, a1, a2, a3, a5]
    refine v_M_book ?_
    simp (discharger := omega) only [am_dp, am_gd_in, am_gd_t, pk_mul, nI_add, am_cl, nI_pos, nI_nlt, nI_ge, nI_le, nI_lt, if_true, if_false, not_true_eq_false, not_false_eq_true, a1, a2, a3, a5]
    exact hK _ _ hG
  have hday := an_k5_days (by exact ⟨D, lD, eD⟩) h5
  refine v_X_book ?_
  simp (discharger := omega) only [am_dp, am_gd_in, am_gd_t, pk_mul, nI_add, am_cl, nI_pos, nI_nlt, nI_ge, nI_le, nI_lt, if_true, if_false, not_true_eq_false, not_false_eq_true]
  split
  · rename_i q
    have e : μ 60 (h * 4 + b) = w (210 + 4 * h + b) := (an_RL_b hL).1 h b hh hb
    rw [e]
    refine v_M_book ?_
    simp (discharger := omega) only [am_dp, am_gd_in, am_gd_t, pk_mul, nI_add, am_cl, nI_pos, nI_nlt, nI_ge, nI_le, nI_lt, if_true, if_false, not_true_eq_false, not_false_eq_true, hw]
    rw [if_pos q]
    exact hK _ _ hG
  · rename_i n0
    split
    · rename_i q
      refine s_Ledger_usable (by omega) hh hb hL hN ?_
      refine v_M_book ?_
      simp (discharger := omega) only [am_dp, am_gd_in, am_gd_t, pk_mul, nI_add, am_cl, nI_pos, nI_nlt, nI_ge, nI_le, nI_lt, if_true, if_false, not_true_eq_false, not_false_eq_true, hw]
      rw [if_neg n0, if_pos q]
      refine s_M_usable (by omega) hh hb hw hN ?_
      exact hK _ _ hG
    · rename_i n1
      split
      · rename_i q
        refine s_Ledger_held (by omega) hL hN ?_
        refine v_M_book ?_
        simp (discharger := omega) only [am_dp, am_gd_in, am_gd_t, pk_mul, nI_add, am_cl, nI_pos, nI_nlt, nI_ge, nI_le, nI_lt, if_true, if_false, not_true_eq_false, not_false_eq_true, hw]
        rw [if_neg n0, if_neg n1, if_pos q]
        refine s_M_heldOf (by omega) hw hN ?_
        exact hK _ _ hG
      · rename_i n2
        split
        · rename_i q
          refine s_Ledger_paidInLately (by omega) hL hN hday ?_
          refine v_M_book ?_
          simp (discharger := omega) only [am_dp, am_gd_in, am_gd_t, pk_mul, nI_add, am_cl, nI_pos, nI_nlt, nI_ge, nI_le, nI_lt, if_true, if_false, not_true_eq_false, not_false_eq_true, hw]
          rw [if_neg n0, if_neg n1, if_neg n2, if_pos q]
          refine s_M_countOf (by omega) hw hN ?_
          exact hK _ _ hG
        · rename_i n3
          refine v_M_book ?_
          simp (discharger := omega) only [am_dp, am_gd_in, am_gd_t, pk_mul, nI_add, am_cl, nI_pos, nI_nlt, nI_ge, nI_le, nI_lt, if_true, if_false, not_true_eq_false, not_false_eq_true, hw]
          rw [if_neg n0, if_neg n1, if_neg n2, if_neg n3]
          exact hK _ _ hG
theorem an_told_G {μ μ1 μ2 : am_M} {c e v : Nat} (hG : an_G nb μ) (hc : c = 18 ∨ c = 19) (he : e < 90) (hv : v < 2) (e1 : μ1 = am_w μ c e (nI v)) (e2 : μ2 = am_w μ1 141 (30 + 90 * (c - 18) + e) (nI v)) : an_G nb μ2 := by
  have hS := hG.1
  generalize hw : μ 141 = w at hS
  obtain ⟨h1, h2, h3, h4, h5, h6, h7, h8, h9, h10, h11, h12, h13, h14, h15⟩ := id hS
  obtain ⟨hD, hN, hP, hKt, hE⟩ := id h1
  obtain ⟨eN, lN⟩ := an_cnt_e hN
  have hL : an_RL 58 w μ := h8
  have hC : an_RC 15 w μ := h9.1
  obtain ⟨D, lD, eD⟩ := hD
  have x2 : μ2 141 = upd w (30 + 90 * (c - 18) + e) (nI v) := by rw [e2, am_w_at, an_w_c e1 (by omega), hw]
  have y2 : ∀ c', c' ≠ 141 → c' ≠ c → μ2 c' = μ c' := fun c' q1 q2 => (an_w_c e2 q1).trans (an_w_c e1 q2)
  have z2 : μ2 c = upd (μ c) e (nI v) := by rw [an_w_c e2 (by omega), e1, am_w_at]
  refine an_G_of hG ?_ ⟨fun c hc => y2 c (by have := hc.2.1; omega) (by have := hc.1; omega), y2 _ (by decide) (by omega), y2 _ (by decide) (by omega), y2 _ (by decide) (by omega), y2 _ (by decide) (by omega), fun f _ => by rw [y2 0 (by decide) (by omega)], fun f _ => by rw [y2 140 (by decide) (by omega)], by rw [y2 15 (by decide) (by omega)]⟩
  rw [x2]
  refine ⟨an_k1_c h1 (fun j hj => pk_un (by omega)) (fun c hc => hc.elim), an_k2_c h2 (fun j hj => pk_un (by omega)) (fun c hc => hc.elim), ?_, an_k4_c h4 (fun j hj => pk_un (by omega)) (fun c hc => hc.elim), an_k5_c (an_S_k150 h1) h5 (fun j hj => pk_un (by omega)) (fun c hc => hc.elim), an_k6_c h6 (fun j hj => pk_un (by omega)) (fun c hc => hc.elim), an_k7_c h7 (fun j hj => pk_un (by omega)) (fun c hc => hc.elim), an_k8_c h8 (fun j hj => pk_un (by omega)) (fun c hc => y2 c (by omega) (by omega)), ?_, an_k10_c h10 (fun j hj => pk_un (by omega)) (fun c hc => y2 c (by omega) (by omega)), an_k11_c h11 (fun j hj => pk_un (by omega)) (fun c hc => y2 c (by omega) (by omega)), an_k12_c h12 (fun j hj => pk_un (by omega)) (fun c hc => y2 c (by omega) (by omega)), an_k13_c h13 (fun j hj => pk_un (by omega)) (fun c hc => y2 c (by omega) (by omega)), an_k14_c h14 (fun j hj => pk_un (by omega)) (fun c hc => y2 c (by omega) (by omega)), an_k15_c h15 (fun j hj => pk_un (by omega)) (fun c hc => by obtain ⟨k, hk, q1, q2⟩ := hc; exact y2 c (by omega) (by omega))⟩
  · intro i hi
    by_cases hi2 : i = 90 * (c - 18) + e
    · rw [hi2, ← Nat.add_assoc, pk_us]; exact ⟨v, hv, rfl⟩
    · rw [pk_un (by omega)]; exact h3 i hi
  · obtain ⟨⟨g1, g2, g3⟩, g4⟩ := h9
    refine ⟨⟨fun i hi => ?_, fun i hi => ?_, fun i hi => ?_⟩, fun i hi => ?_⟩
    · show μ2 16 i = _
      rw [y2 16 (by decide) (by omega), pk_un (by omega)]; exact g1 i hi
    · show μ2 17 i = _
      rw [y2 17 (by decide) (by omega), pk_un (by omega)]; exact g2 i hi
    · show μ2 18 i = _
      rcases hc with rfl | rfl
      · rw [z2]
        by_cases hi2 : i = e
        · rw [hi2, pk_us, show 30 + 90 * (18 - 18) + e = 30 + e by omega, pk_us]
        · rw [pk_un hi2, pk_un (by omega)]; exact g3 i hi
      · rw [y2 18 (by decide) (by decide), pk_un (by omega)]; exact g3 i hi
    · show μ2 19 i = _
      rcases hc with rfl | rfl
      · rw [y2 19 (by decide) (by decide), pk_un (by omega)]; exact g4 i hi
      · rw [z2]
        by_cases hi2 : i = e
        · rw [hi2, pk_us, show 30 + 90 * (19 - 18) + e = 120 + e by omega, pk_us]
        · rw [pk_un hi2, pk_un (by omega)]; exact g4 i hi
theorem op_told {L d : Nat} {μ : am_M} {p1 p2 p3 : Int32} {K : Int32 → Int32 → am_M → Prop} (hd : 30 ≤ d) (hG : an_G nb μ) (hK : ∀ r μ', an_G nb μ' → K r r μ') : am_Ci L d 95 [.ref 0, .int p1, .int p2, .int p3] μ (fun r1 μ1 => am_Ci L d 151 [.ref 140, .int p1, .int p2, .int p3] μ1 (fun r2 μ2 => K r1 r2 μ2)) := by
  have hS := hG.1
  generalize hw : μ 141 = w at hS
  obtain ⟨h1, h2, h3, h4, h5, h6, h7, h8, h9, h10, h11, h12, h13, h14, h15⟩ := id hS
  obtain ⟨hD, hN, hP, hKt, hE⟩ := id h1
  obtain ⟨eN, lN⟩ := an_cnt_e hN
  have hL : an_RL 58 w μ := h8
  have hC : an_RC 15 w μ := h9.1
  obtain ⟨D, lD, eD⟩ := hD
  have what : (p1 < 0 ∧ p1 < nI 0) ∨ (¬ p1 < nI 0 ∧ nI 1 < p1) ∨ p1 = nI 0 ∨ p1 = nI 1 := by
    rcases an_arg p1 2 (by omega) (by omega) with q | ⟨-, q2, -, q4⟩ | ⟨j, hj, rfl⟩
    · exact Or.inl q
    · exact Or.inr (Or.inl ⟨q2, q4⟩)
    · rcases (by omega : j = 0 ∨ j = 1) with rfl | rfl
      · exact Or.inr (Or.inr (Or.inl rfl))
      · exact Or.inr (Or.inr (Or.inr rfl))
  have mfail : (p2 < nI (D + 1) ∨ nI 89 < p2) → am_Ci L d 151 [.ref 140, .int p1, .int p2, .int p3] μ (fun r2 μ2 => K (nI 0) r2 μ2) := by
    intro hp2
    refine v_M_told ?_
    rw [am_dp (by omega), am_dp (by omega), hw, eD, nI_add]
    rcases what with ⟨q1, q2⟩ | ⟨q1, q2⟩ | rfl | rfl
    · rw [if_pos q2]; exact hK _ _ hG
    · rw [if_neg q1, if_pos q2]; exact hK _ _ hG
    · rw [if_neg (by decide), if_neg (by decide)]
      by_cases q : p2 < nI (D + 1)
      · rw [if_pos q]; exact hK _ _ hG
      · rw [if_neg q, if_pos (hp2.resolve_left q)]; exact hK _ _ hG
    · rw [if_neg (by decide), if_neg (by decide)]
      by_cases q : p2 < nI (D + 1)
      · rw [if_pos q]; exact hK _ _ hG
      · rw [if_neg q, if_pos (hp2.resolve_left q)]; exact hK _ _ hG
  refine v_X_told ?_
  rw [am_dp (by omega), hL.1, eD]
  rcases an_arg p2 90 (by omega) (by omega) with ⟨a1, a2⟩ | ⟨a1, a2, a3, a4⟩ | ⟨e, he, rfl⟩
  · rw [if_pos a1]
    exact mfail (Or.inl (Int32.lt_of_lt_of_le a1 (nI_pos' (by omega))))
  · rw [if_neg a1, if_pos a3]
    exact mfail (Or.inr a4)
  · rw [if_neg (nI_pos (by omega)), if_neg (nI_ge (by omega) (by omega))]
    by_cases q : D < e
    · rw [if_pos (nI_lt q (by omega))]
      rcases what with ⟨q1, q2⟩ | ⟨q1, q2⟩ | rfl | rfl
      · rw [if_pos (an_ne_0 q1), if_pos (an_ne_neg q1 (by omega))]
        refine v_M_told ?_
        rw [am_dp (by omega), if_pos q2]
        exact hK _ _ hG
      · rw [if_pos (an_ne_0b q2 (by omega)), if_pos (an_ne_big q2 (by omega) (by omega))]
        refine v_M_told ?_
        rw [am_dp (by omega), if_neg q1, if_pos q2]
        exact hK _ _ hG
      · rw [if_neg (fun z => z nI_0)]
        by_cases q3 : p3 = 0
        · rw [if_pos q3, am_gd_in he (by omega), am_cl (by omega)]
          intro μ1 e1
          refine v_M_told ?_
          rw [am_dp (by omega), am_dp (by omega), if_neg (by decide), if_neg (by decide), an_w_c e1 (by decide), hw, eD, nI_add, if_neg (nI_nlt (by omega) (by omega)), if_neg (nI_nlt (by omega) (by omega)), if_neg (fun z => z nI_0), if_pos q3, nI_add, am_gd_in (by omega) (by omega), am_cl (by omega)]
          intro μ2 e2
          exact hK _ _ (an_told_G hG (by omega) he (by omega) e1 e2)
        · rw [if_neg q3, am_gd_in he (by omega), am_cl (by omega)]
          intro μ1 e1
          refine v_M_told ?_
          rw [am_dp (by omega), am_dp (by omega), if_neg (by decide), if_neg (by decide), an_w_c e1 (by decide), hw, eD, nI_add, if_neg (nI_nlt (by omega) (by omega)), if_neg (nI_nlt (by omega) (by omega)), if_neg (fun z => z nI_0), if_neg q3, nI_add, am_gd_in (by omega) (by omega), am_cl (by omega)]
          intro μ2 e2
          exact hK _ _ (an_told_G hG (by omega) he (by omega) e1 e2)
      · rw [if_pos (by decide), if_neg (fun z => z rfl)]
        by_cases q3 : p3 = 0
        · rw [if_pos q3, am_gd_in he (by omega), am_cl (by omega)]
          intro μ1 e1
          refine v_M_told ?_
          rw [am_dp (by omega), am_dp (by omega), if_neg (by decide), if_neg (by decide), an_w_c e1 (by decide), hw, eD, nI_add, if_neg (nI_nlt (by omega) (by omega)), if_neg (nI_nlt (by omega) (by omega)), if_pos (by decide), if_pos q3, nI_add, am_gd_in (by omega) (by omega), am_cl (by omega)]
          intro μ2 e2
          exact hK _ _ (an_told_G hG (by omega) he (by omega) e1 e2)
        · rw [if_neg q3, am_gd_in he (by omega), am_cl (by omega)]
          intro μ1 e1
          refine v_M_told ?_
          rw [am_dp (by omega), am_dp (by omega), if_neg (by decide), if_neg (by decide), an_w_c e1 (by decide), hw, eD, nI_add, if_neg (nI_nlt (by omega) (by omega)), if_neg (nI_nlt (by omega) (by omega)), if_pos (by decide), if_neg q3, nI_add, am_gd_in (by omega) (by omega), am_cl (by omega)]
          intro μ2 e2
          exact hK _ _ (an_told_G hG (by omega) he (by omega) e1 e2)
    · rw [if_neg (nI_nlt (by omega) (by omega))]
      exact mfail (Or.inl (nI_lt (by omega) (by omega)))
theorem op_kiters {L d : Nat} {μ : am_M} {p1 : Int32} {K : Int32 → Int32 → am_M → Prop} (hd : 30 ≤ d) (hG : an_G nb μ) (hK : ∀ r μ', an_G nb μ' → K r r μ') : am_Ci L d 116 [.ref 0, .int p1] μ (fun r1 μ1 => am_Ci L d 222 [.ref 140, .int p1] μ1 (fun r2 μ2 => K r1 r2 μ2)) := by
  have hS := hG.1
  generalize hw : μ 141 = w at hS
  obtain ⟨h1, h2, h3, h4, h5, h6, h7, h8, h9, h10, h11, h12, h13, h14, h15⟩ := id hS
  obtain ⟨hD, hN, hP, hKt, hE⟩ := id h1
  obtain ⟨eN, lN⟩ := an_cnt_e hN
  have hL : an_RL 58 w μ := h8
  have hC : an_RC 15 w μ := h9.1
  obtain ⟨D, lD, eD⟩ := hD
  refine v_X_kiters ?_
  rcases an_arg p1 64 (by omega) (by omega) with ⟨a1, a2⟩ | ⟨a1, a2, a3, a4⟩ | ⟨e, he, rfl⟩
  · rw [if_pos a1]
    refine v_M_kiters ?_
    rw [am_dp (by omega), if_pos a2]
    exact hK _ _ hG
  · rw [if_neg a1, if_neg (Int32.not_le.mpr a4)]
    refine v_M_kiters ?_
    rw [am_dp (by omega), if_neg a2, if_pos a4]
    exact hK _ _ hG
  · rw [if_neg (nI_pos (by omega)), if_pos (nI_le (by omega) (by omega))]
    intro μ1 e1
    refine v_M_kiters ?_
    rw [am_dp (by omega), if_neg (nI_nlt (by omega) (by omega)), if_neg (nI_nlt (by omega) (by omega))]
    intro μ2 e2
    have x2 : μ2 141 = upd w 3 (nI e) := by rw [e2, am_w_at, an_w_c e1 (by omega), hw]
    have y2 : ∀ c', c' ≠ 141 → c' ≠ 14 → μ2 c' = μ c' := fun c' q1 q2 => (an_w_c e2 q1).trans (an_w_c e1 q2)
    have z2 : μ2 14 = upd (μ 14) 8 (nI e) := by rw [an_w_c e2 (by omega), e1, am_w_at]
    refine hK _ _ (an_G_of hG ?_ ⟨fun c hc => y2 c (by have := hc.2.1; omega) (by have := hc.1; omega), y2 _ (by decide) (by omega), y2 _ (by decide) (by omega), y2 _ (by decide) (by omega), y2 _ (by decide) (by omega), fun f _ => by rw [y2 0 (by decide) (by omega)], fun f _ => by rw [y2 140 (by decide) (by omega)], by rw [y2 15 (by decide) (by omega)]⟩)
    rw [x2]
    refine ⟨?_, an_k2_c h2 (fun j hj => pk_un (by omega)) (fun c hc => hc.elim), an_k3_c h3 (fun j hj => pk_un (by omega)) (fun c hc => hc.elim), an_k4_c h4 (fun j hj => pk_un (by omega)) (fun c hc => hc.elim), an_k5_c (an_S_k150 h1) h5 (fun j hj => pk_un (by omega)) (fun c hc => hc.elim), an_k6_c h6 (fun j hj => pk_un (by omega)) (fun c hc => hc.elim), an_k7_c h7 (fun j hj => pk_un (by omega)) (fun c hc => hc.elim), an_k8_c h8 (fun j hj => pk_un (by omega)) (fun c hc => y2 c (by omega) (by omega)), an_k9_c h9 (fun j hj => pk_un (by omega)) (fun c hc => y2 c (by omega) (by omega)), an_k10_c h10 (fun j hj => pk_un (by omega)) (fun c hc => y2 c (by omega) (by omega)), an_k11_c h11 (fun j hj => pk_un (by omega)) (fun c hc => y2 c (by omega) (by omega)), an_k12_c h12 (fun j hj => pk_un (by omega)) (fun c hc => y2 c (by omega) (by omega)), ?_, ?_, an_k15_c h15 (fun j hj => pk_un (by omega)) (fun c hc => by obtain ⟨k, hk, q1, q2⟩ := hc; exact y2 c (by omega) (by omega))⟩
    · refine ⟨by rw [pk_un (by omega)]; exact ⟨D, lD, eD⟩, by rw [pk_un (by omega)]; exact hN, by rw [pk_un (by omega)]; exact hP, by rw [pk_us]; exact ⟨e, he, rfl⟩, by rw [pk_un (by omega)]; exact hE⟩
    · obtain ⟨g1, g2⟩ := h13
      refine ⟨fun i hi => ?_, ?_⟩
      · show μ2 67 i = _ ∧ μ2 68 i = _
        rw [y2 67 (by decide) (by decide), y2 68 (by decide) (by decide), pk_un (by omega), pk_un (by omega)]
        exact g1 i hi
      · show μ2 14 7 = _
        rw [z2, pk_un (by omega), pk_un (by omega)]
        exact g2
    · show μ2 14 8 = _
      rw [z2, pk_us, pk_us]
