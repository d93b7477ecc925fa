/-! Calls side by side: rails, the tape's end, what is kept, payments. -/
variable {nb : Nat}
theorem an_pr_lt {n : Nat} {x : Int32} (hn : n < 2147483648) (h : nI n ≤ x) : an_pr n < x := by
  cases n with
  | zero => exact Int32.lt_of_lt_of_le (by decide : an_pr 0 < nI 0) h
  | succ n => exact Int32.lt_of_lt_of_le (nI_lt (by omega) hn) h
theorem an_pr_nlt {n j : Nat} (hj : j < n) (hn : n < 2147483648) : ¬ an_pr n < nI j := by
  obtain ⟨k, rfl⟩ : ∃ k, n = k + 1 := ⟨n - 1, by omega⟩
  exact nI_nlt (by omega) (by omega)
theorem an_nneg {n : Nat} {x : Int32} (hn : n < 2147483648) (h : nI n ≤ x) : ¬ x < 0 ∧ ¬ x < nI 0 := by
  have : ¬ x < 0 := fun q => by
    have := Int32.lt_of_le_of_lt h q
    exact nI_pos hn this
  exact ⟨this, by rw [nI_0]; exact this⟩
theorem op_rail {L d : Nat} {μ : am_M} {p1 p2 p3 : Int32} {K : Int32 → Int32 → am_M → Prop} (hd : 30 ≤ d) (hG : an_G nb μ) (hK : ∀ r μ', an_G nb μ' → K r r μ') : am_Ci L d 94 [.ref 0, .int p1, .int p2, .int p3] μ (fun r1 μ1 => am_Ci L d 150 [.ref 140, .int p1, .int p2, .int p3] μ1 (fun r2 μ2 => K r1 r2 μ2)) := by
  have hS := hG.1
  generalize hw : μ 141 = w at hS
  obtain ⟨h1, h2, h3, h4, h5, h6, h7, h8, h9, h10, h11, h12, h13, h14, h15⟩ := id hS
  obtain ⟨hD, hN, hP, hKt, hE⟩ := id h1
  obtain ⟨eN, lN⟩ := an_cnt_e hN
  have hL : an_RL 58 w μ := h8
  have hC : an_RC 15 w μ := h9.1
  obtain ⟨D, lD, eD⟩ := hD
  rcases an_arg p1 3 (by omega) (by omega) with ⟨a1, a2⟩ | ⟨a1, a2, a3, a4⟩ | ⟨a, ha, rfl⟩
  · refine v_X_rail ?_
    simp (discharger := omega) only [am_dp, am_gd_in, am_gd_t, pk_mul, nI_add, am_cl, nI_pos, nI_nlt, nI_ge, nI_le, nI_lt, if_true, if_false, not_true_eq_false, not_false_eq_true, a1, a2]
    refine v_M_rail ?_
    simp (discharger := omega) only [am_dp, am_gd_in, am_gd_t, pk_mul, nI_add, am_cl, nI_pos, nI_nlt, nI_ge, nI_le, nI_lt, if_true, if_false, not_true_eq_false, not_false_eq_true, a1, a2]
    exact hK _ _ hG
  · have a5 : nI 2 < p1 := a4
    refine v_X_rail ?_
    simp (discharger := omega) only [am_dp, am_gd_in, am_gd_t, pk_mul, nI_add, am_cl, nI_pos, nI_nlt, nI_ge, nI_le, nI_lt, if_true, if_false, not_true_eq_false, not_false_eq_true, a1, a2, a3, a5]
    refine v_M_rail ?_
    simp (discharger := omega) only [am_dp, am_gd_in, am_gd_t, pk_mul, nI_add, am_cl, nI_pos, nI_nlt, nI_ge, nI_le, nI_lt, if_true, if_false, not_true_eq_false, not_false_eq_true, a1, a2, a3, a5]
    exact hK _ _ hG
  rcases an_arg p2 3 (by omega) (by omega) with ⟨a1, a2⟩ | ⟨a1, a2, a3, a4⟩ | ⟨b, hb, rfl⟩
  · refine v_X_rail ?_
    simp (discharger := omega) only [am_dp, am_gd_in, am_gd_t, pk_mul, nI_add, am_cl, nI_pos, nI_nlt, nI_ge, nI_le, nI_lt, if_true, if_false, not_true_eq_false, not_false_eq_true, a1, a2]
    refine v_M_rail ?_
    simp (discharger := omega) only [am_dp, am_gd_in, am_gd_t, pk_mul, nI_add, am_cl, nI_pos, nI_nlt, nI_ge, nI_le, nI_lt, if_true, if_false, not_true_eq_false, not_false_eq_true, a1, a2]
    exact hK _ _ hG
  · have a5 : nI 2 < p2 := a4
    refine v_X_rail ?_
    simp (discharger := omega) only [am_dp, am_gd_in, am_gd_t, pk_mul, nI_add, am_cl, nI_pos, nI_nlt, nI_ge, nI_le, nI_lt, if_true, if_false, not_true_eq_false, not_false_eq_true, a1, a2, a3, a5]
    refine v_M_rail ?_
    simp (discharger := omega) only [am_dp, am_gd_in, am_gd_t, pk_mul, nI_add, am_cl, nI_pos, nI_nlt, nI_ge, nI_le, nI_lt, if_true, if_false, not_true_eq_false, not_false_eq_true, a1, a2, a3, a5]
    exact hK _ _ hG
  by_cases hab : a = b
  · subst hab
    refine v_X_rail ?_
    simp (discharger := omega) only [am_dp, am_gd_in, am_gd_t, pk_mul, nI_add, am_cl, nI_pos, nI_nlt, nI_ge, nI_le, nI_lt, if_true, if_false, not_true_eq_false, not_false_eq_true]
    refine v_M_rail ?_
    simp (discharger := omega) only [am_dp, am_gd_in, am_gd_t, pk_mul, nI_add, am_cl, nI_pos, nI_nlt, nI_ge, nI_le, nI_lt, if_true, if_false, not_true_eq_false, not_false_eq_true]
    exact hK _ _ hG
  have hne : ¬ nI a = nI b := fun z => hab ((nI_eq (by omega) (by omega)).mp z)
  refine v_X_rail ?_
  simp (discharger := omega) only [am_dp, am_gd_in, am_gd_t, pk_mul, nI_add, am_cl, nI_pos, nI_nlt, nI_ge, nI_le, nI_lt, if_true, if_false, not_true_eq_false, not_false_eq_true, hne]
  rcases an_arg p3 6 (by omega) (by omega) with ⟨a1, a2⟩ | ⟨a1, a2, a3, a4⟩ | ⟨r, hr, rfl⟩
  · rw [if_pos a1]
    refine v_M_rail ?_
    simp (discharger := omega) only [am_dp, am_gd_in, am_gd_t, pk_mul, nI_add, am_cl, nI_pos, nI_nlt, nI_ge, nI_le, nI_lt, if_true, if_false, not_true_eq_false, not_false_eq_true, hne]
    rw [if_pos a2]
    exact hK _ _ hG
  · rw [if_neg a1, if_neg (Int32.not_le.mpr a4)]
    refine v_M_rail ?_
    simp (discharger := omega) only [am_dp, am_gd_in, am_gd_t, pk_mul, nI_add, am_cl, nI_pos, nI_nlt, nI_ge, nI_le, nI_lt, if_true, if_false, not_true_eq_false, not_false_eq_true, hne]
    rw [if_neg a2, if_pos (show nI 5 < p3 from a4)]
    exact hK _ _ hG
  simp (discharger := omega) only [am_dp, am_gd_in, am_gd_t, pk_mul, nI_add, am_cl, nI_pos, nI_nlt, nI_ge, nI_le, nI_lt, if_true, if_false, not_true_eq_false, not_false_eq_true, hne]
  intro μ1 e1 μ2 e2
  have y2 : ∀ c', c' ≠ 17 → μ2 c' = μ c' := fun c' q1 => (an_w_c e2 q1).trans (an_w_c e1 q1)
  have z2 : μ2 17 = upd (upd (μ 17) (a * 3 + b) (nI r)) (b * 3 + a) (nI r) := by rw [e2, am_w_at, e1, am_w_at]
  have x2 : μ2 141 = w := (y2 141 (by decide)).trans hw
  refine v_M_rail ?_
  simp (discharger := omega) only [am_dp, am_gd_in, am_gd_t, pk_mul, nI_add, am_cl, nI_pos, nI_nlt, nI_ge, nI_le, nI_lt, if_true, if_false, not_true_eq_false, not_false_eq_true, hne, x2]
  intro μ3 e3 μ4 e4
  have x4 : μ4 141 = upd (upd w (14 + 3 * a + b) (nI r)) (14 + 3 * b + a) (nI r) := by rw [e4, am_w_at, e3, am_w_at, x2]
  have y4 : ∀ c', c' ≠ 141 → c' ≠ 17 → μ4 c' = μ c' := fun c' q1 q2 => (an_w_c e4 q1).trans ((an_w_c e3 q1).trans (y2 c' q2))
  have z4 : μ4 17 = upd (upd (μ 17) (a * 3 + b) (nI r)) (b * 3 + a) (nI r) := by rw [an_w_c e4 (by decide), an_w_c e3 (by decide), z2]
  refine hK _ _ (an_G_of hG ?_ ⟨fun c hc => y4 c (by have := hc.2.1; omega) (by have := hc.1; omega), y4 _ (by decide) (by omega), y4 _ (by decide) (by omega), y4 _ (by decide) (by omega), y4 _ (by decide) (by omega), fun f _ => by rw [y4 0 (by decide) (by omega)], fun f _ => by rw [y4 140 (by decide) (by omega)], by rw [y4 15 (by decide) (by omega)]⟩)
  rw [x4]
  refine ⟨an_k1_c h1 (fun j hj => by rw [pk_un (by omega), pk_un (by omega)]) (fun c hc => hc.elim), ?_, an_k3_c h3 (fun j hj => by rw [pk_un (by omega), pk_un (by omega)]) (fun c hc => hc.elim), an_k4_c h4 (fun j hj => by rw [pk_un (by omega), pk_un (by omega)]) (fun c hc => hc.elim), an_k5_c (an_S_k150 h1) h5 (fun j hj => by rw [pk_un (by omega), pk_un (by omega)]) (fun c hc => hc.elim), an_k6_c h6 (fun j hj => by rw [pk_un (by omega), pk_un (by omega)]) (fun c hc => hc.elim), an_k7_c h7 (fun j hj => by rw [pk_un (by omega), pk_un (by omega)]) (fun c hc => hc.elim), an_k8_c h8 (fun j hj => by rw [pk_un (by omega), pk_un (by omega)]) (fun c hc => y4 c (by omega) (by omega)), ?_, an_k10_c h10 (fun j hj => by rw [pk_un (by omega), pk_un (by omega)]) (fun c hc => y4 c (by omega) (by omega)), an_k11_c h11 (fun j hj => by rw [pk_un (by omega), pk_un (by omega)]) (fun c hc => y4 c (by omega) (by omega)), an_k12_c h12 (fun j hj => by rw [pk_un (by omega), pk_un (by omega)]) (fun c hc => y4 c (by omega) (by omega)), an_k13_c h13 (fun j hj => by rw [pk_un (by omega), pk_un (by omega)]) (fun c hc => y4 c (by omega) (by omega)), an_k14_c h14 (fun j hj => by rw [pk_un (by omega), pk_un (by omega)]) (fun c hc => y4 c (by omega) (by omega)), an_k15_c h15 (fun j hj => by rw [pk_un (by omega), pk_un (by omega)]) (fun c hc => by obtain ⟨k, hk, q1, q2⟩ := hc; exact y4 c (by omega) (by omega))⟩
  · obtain ⟨⟨g1, g2⟩, g3, g4⟩ := h2
    have val : ∀ i, i < 9 → upd (upd w (14 + 3 * a + b) (nI r)) (14 + 3 * b + a) (nI r) (14 + i) = if i = 3 * b + a ∨ i = 3 * a + b then nI r else w (14 + i) := by
      intro i hi
      by_cases q1 : i = 3 * b + a
      · rw [if_pos (Or.inl q1), q1, ← Nat.add_assoc, pk_us]
      · rw [pk_un (by omega)]
        by_cases q2 : i = 3 * a + b
        · rw [if_pos (Or.inr q2), q2, ← Nat.add_assoc, pk_us]
        · rw [pk_un (by omega), if_neg (by omega)]
    refine ⟨⟨fun i hi => by rw [pk_un (by omega), pk_un (by omega)]; exact g1 i hi, fun i hi => ?_⟩, fun x y hx hy => ?_, fun x hx => ?_⟩
    · rw [val i hi]
      split
      · exact ⟨r, hr, rfl⟩
      · exact g2 i hi
    · have j1 : 14 + 3 * x + y = 14 + (3 * x + y) := by omega
      have j2 : 14 + 3 * y + x = 14 + (3 * y + x) := by omega
      have g := g3 x y hx hy
      rw [j1, j2] at g ⊢
      rw [val _ (by omega), val _ (by omega)]
      by_cases q : 3 * x + y = 3 * b + a ∨ 3 * x + y = 3 * a + b
      · rw [if_pos q, if_pos (by omega)]
      · rw [if_neg q, if_neg (by omega)]
        exact g
    · have j1 : 14 + 3 * x + x = 14 + (3 * x + x) := by omega
      have g := g4 x hx
      rw [j1] at g ⊢
      rw [val _ (by omega), if_neg (by omega)]
      exact g
  · obtain ⟨⟨g1, g2, g3⟩, g4⟩ := h9
    refine ⟨⟨fun i hi => ?_, fun i hi => ?_, fun i hi => ?_⟩, fun i hi => ?_⟩
    · show μ4 16 i = _
      rw [y4 16 (by decide) (by decide), pk_un (by omega), pk_un (by omega)]; exact g1 i hi
    · show μ4 17 i = _
      rw [z4]
      by_cases q1 : i = b * 3 + a
      · rw [show 14 + i = 14 + 3 * b + a by omega, pk_us, q1, pk_us]
      · by_cases q2 : i = a * 3 + b
        · rw [show 14 + i = 14 + 3 * a + b by omega, q2, pk_un (by omega : a * 3 + b ≠ b * 3 + a), pk_us, pk_un (by omega : 14 + 3 * a + b ≠ 14 + 3 * b + a), pk_us]
        · rw [pk_un (by omega), pk_un (by omega), pk_un (by omega), pk_un (by omega)]; exact g2 i hi
    · show μ4 18 i = _
      rw [y4 18 (by decide) (by decide), pk_un (by omega), pk_un (by omega)]; exact g3 i hi
    · show μ4 19 i = _
      rw [y4 19 (by decide) (by decide), pk_un (by omega), pk_un (by omega)]; exact g4 i hi
theorem op_end {L d : Nat} {μ : am_M} {p1 : Int32} {K : Int32 → Int32 → am_M → Prop} (hd : 30 ≤ d) (hG : an_G nb μ) (hK : ∀ r μ', an_G nb μ' → K r r μ') : am_Ci L d 97 [.ref 0, .int p1] μ (fun r1 μ1 => am_Ci L d 156 [.ref 140, .int p1] μ1 (fun r2 μ2 => K r1 r2 μ2)) := by
  have hS := hG.1
  generalize hw : μ 141 = w at hS
  obtain ⟨h1, h2, h3, h4, h5, h6, h7, h8, h9, h10, h11, h12, h13, h14, h15⟩ := id hS
  obtain ⟨hD, hN, hP, hKt, hE⟩ := id h1
  obtain ⟨eN, lN⟩ := an_cnt_e hN
  have hL : an_RL 58 w μ := h8
  have hC : an_RC 15 w μ := h9.1
  obtain ⟨D, lD, eD⟩ := hD
  obtain ⟨-, g2, g3, ⟨T, hT, t1, t2, t3⟩, g5, g6, g7, g8⟩ := id hG
  refine v_X_end ?_
  rw [t1]
  rcases an_arg p1 (T + 1) (by omega) (by omega) with ⟨a1, a2⟩ | ⟨a1, a2, a3, a4⟩ | ⟨e, he, rfl⟩
  · rw [if_pos a1]
    refine v_M_end ?_
    rw [am_dp (by omega), if_pos a2]
    exact hK _ _ hG
  · have a5 : nI T < p1 := a4
    rw [if_neg a1, if_neg (Int32.not_le.mpr a5)]
    refine v_M_end ?_
    rw [am_dp (by omega), t2, if_neg a2, if_pos a5]
    exact hK _ _ hG
  · rw [if_neg (nI_pos (by omega)), if_pos (nI_le (by omega) (by omega))]
    intro μ1 e1
    refine v_M_end ?_
    rw [am_dp (by omega), an_w_c e1 (by decide), t2, if_neg (nI_nlt (by omega) (by omega)), if_neg (nI_nlt (by omega) (by omega))]
    intro μ2 e2
    have y2 : ∀ c', c' ≠ 140 → c' ≠ 1 → μ2 c' = μ c' := fun c' q1 q2 => (an_w_c e2 q1).trans (an_w_c e1 q2)
    have z1 : μ2 1 1 = nI e := by rw [an_w_c e2 (by decide), an_w_s e1]
    have z2 : μ2 140 12 = nI e := an_w_s e2
    have z3 : ∀ f, f ≠ 12 → μ2 140 f = μ 140 f := fun f hf => by rw [an_w_o e2 hf, an_w_c e1 (by decide)]
    refine hK _ _ ⟨?_, ?_, ?_, ⟨e, by omega, z1, z2, fun i hi => ?_⟩, ?_, ?_, ?_, ?_⟩
    · rw [y2 141 (by decide) (by decide), hw]
      exact an_S_c hS (fun c hc => y2 c (by have := hc.2.1; omega) (by have := hc.1; omega))
    · rw [y2 0 (by decide) (by decide), z3 3 (by decide)]; exact g2
    · rw [z3 3 (by decide), y2 142 (by decide) (by decide)]
      rcases g3 with q | ⟨q1, q2⟩
      · exact Or.inl q
      · exact Or.inr ⟨q1, an_S_c q2 (fun c hc => y2 c (by have := hc.2.1; omega) (by have := hc.1; omega))⟩
    · rw [y2 2 (by decide) (by decide), y2 146 (by decide) (by decide)]; exact t3 i (by omega)
    · rw [y2 0 (by decide) (by decide), z3 19 (by decide)]; exact g5
    · rw [y2 0 (by decide) (by decide), z3 21 (by decide)]; exact g6
    · rw [y2 15 (by decide) (by decide)]; exact g7
    · rw [z3 27 (by decide)]; exact g8
theorem op_cheque {L d : Nat} {μ : am_M} {p1 p2 : Int32} {K : Int32 → Int32 → am_M → Prop} (hd : 30 ≤ d) (hG : an_G nb μ) (hK : ∀ r μ', an_G nb μ' → K r r μ') : am_Ci L d 104 [.ref 0, .int p1, .int p2] μ (fun r1 μ1 => am_Ci L d 193 [.ref 140, .int p1, .int p2] μ1 (fun r2 μ2 => K r1 r2 μ2)) := by
  have hS := hG.1
  generalize hw : μ 141 = w at hS
  obtain ⟨h1, h2, h3, h4, h5, h6, h7, h8, h9, h10, h11, h12, h13, h14, h15⟩ := id hS
  obtain ⟨hD, hN, hP, hKt, hE⟩ := id h1
  obtain ⟨eN, lN⟩ := an_cnt_e hN
  have hL : an_RL 58 w μ := h8
  have hC : an_RC 15 w μ := h9.1
  obtain ⟨D, lD, eD⟩ := hD
  rcases pk_ix p1 (n := an_cnt w) (by omega) with a1 | a1 | ⟨k, hk, rfl⟩
  · have a2 : p1 < nI 0 := by rw [nI_0]; exact a1
    refine v_X_cheque ?_
    simp (discharger := omega) only [am_dp, am_gd_in, am_gd_t, pk_mul, nI_add, am_cl, nI_pos, nI_nlt, nI_ge, nI_le, nI_lt, if_true, if_false, not_true_eq_false, not_false_eq_true, a1]
    refine v_M_cheque ?_
    simp (discharger := omega) only [am_dp, am_gd_in, am_gd_t, pk_mul, nI_add, am_cl, nI_pos, nI_nlt, nI_ge, nI_le, nI_lt, if_true, if_false, not_true_eq_false, not_false_eq_true, a2]
    exact hK _ _ hG
  · obtain ⟨a2, a3⟩ := an_nneg (by omega) a1
    have a4 := an_pr_lt (by omega) a1
    refine v_X_cheque ?_
    simp (discharger := omega) only [am_dp, am_gd_in, am_gd_t, pk_mul, nI_add, am_cl, nI_pos, nI_nlt, nI_ge, nI_le, nI_lt, if_true, if_false, not_true_eq_false, not_false_eq_true, hL.2.1, eN, a1, a2]
    refine v_M_cheque ?_
    simp (discharger := omega) only [am_dp, am_gd_in, am_gd_t, pk_mul, nI_add, am_cl, nI_pos, nI_nlt, nI_ge, nI_le, nI_lt, if_true, if_false, not_true_eq_false, not_false_eq_true, hw, eN, an_pr_d, a3, a4]
    exact hK _ _ hG
  · have a4 := an_pr_nlt hk (by omega)
    rcases an_arg p2 10 (by omega) (by omega) with ⟨b1, b2⟩ | ⟨b1, b2, b3, b4⟩ | ⟨f, hf, rfl⟩
    · refine v_X_cheque ?_
      simp (discharger := omega) only [am_dp, am_gd_in, am_gd_t, pk_mul, nI_add, am_cl, nI_pos, nI_nlt, nI_ge, nI_le, nI_lt, if_true, if_false, not_true_eq_false, not_false_eq_true, hL.2.1, eN, b1]
      refine v_M_cheque ?_
      simp (discharger := omega) only [am_dp, am_gd_in, am_gd_t, pk_mul, nI_add, am_cl, nI_pos, nI_nlt, nI_ge, nI_le, nI_lt, if_true, if_false, not_true_eq_false, not_false_eq_true, hw, eN, an_pr_d, a4, b2]
      exact hK _ _ hG
    · have b5 : nI 9 < p2 := b4
      have b6 : ¬ p2 < nI 10 := Int32.not_lt.mpr b3
      refine v_X_cheque ?_
      simp (discharger := omega) only [am_dp, am_gd_in, am_gd_t, pk_mul, nI_add, am_cl, nI_pos, nI_nlt, nI_ge, nI_le, nI_lt, if_true, if_false, not_true_eq_false, not_false_eq_true, hL.2.1, eN, b1, b6]
      refine v_M_cheque ?_
      simp (discharger := omega) only [am_dp, am_gd_in, am_gd_t, pk_mul, nI_add, am_cl, nI_pos, nI_nlt, nI_ge, nI_le, nI_lt, if_true, if_false, not_true_eq_false, not_false_eq_true, hw, eN, an_pr_d, a4, b2, b5]
      exact hK _ _ hG
    · refine v_X_cheque ?_
      simp (discharger := omega) only [am_dp, am_gd_in, am_gd_t, pk_mul, nI_add, am_cl, nI_pos, nI_nlt, nI_ge, nI_le, nI_lt, if_true, if_false, not_true_eq_false, not_false_eq_true, hL.2.1, eN, hL.2.2.1 k f]
      refine v_M_cheque ?_
      simp (discharger := omega) only [am_dp, am_gd_in, am_gd_t, pk_mul, nI_add, am_cl, nI_pos, nI_nlt, nI_ge, nI_le, nI_lt, if_true, if_false, not_true_eq_false, not_false_eq_true, hw, eN, an_pr_d, a4]
      exact hK _ _ hG
theorem op_entry {L d : Nat} {μ : am_M} {p1 p2 : Int32} {K : Int32 → Int32 → am_M → Prop} (hd : 30 ≤ d) (hG : an_G nb μ) (hK : ∀ r μ', an_G nb μ' → K r r μ') : am_Ci L d 113 [.ref 0, .int p1, .int p2] μ (fun r1 μ1 => am_Ci L d 189 [.ref 140, .int p1, .int p2] μ1 (fun r2 μ2 => K r1 r2 μ2)) := by
  have hS := hG.1
  generalize hw : μ 141 = w at hS
  obtain ⟨h1, h2, h3, h4, h5, h6, h7, h8, h9, h10, h11, h12, h13, h14, h15⟩ := id hS
  obtain ⟨hD, hN, hP, hKt, hE⟩ := id h1
  obtain ⟨eN, lN⟩ := an_cnt_e hN
  have hL : an_RL 58 w μ := h8
  have hC : an_RC 15 w μ := h9.1
  obtain ⟨D, lD, eD⟩ := hD
  obtain ⟨eE, lE⟩ := an_E_e hE
  have hRE : an_RE 56 w μ := h10
  have r1 : μ 56 1 = w 9810 := hRE.1
  rcases pk_ix p1 (n := an_E w) (by omega) with a1 | a1 | ⟨k, hk, rfl⟩
  · have a2 : p1 < nI 0 := by rw [nI_0]; exact a1
    refine v_X_entry ?_
    simp (discharger := omega) only [am_dp, am_gd_in, am_gd_t, pk_mul, nI_add, am_cl, nI_pos, nI_nlt, nI_ge, nI_le, nI_lt, if_true, if_false, not_true_eq_false, not_false_eq_true, a1]
    refine v_M_entry ?_
    simp (discharger := omega) only [am_dp, am_gd_in, am_gd_t, pk_mul, nI_add, am_cl, nI_pos, nI_nlt, nI_ge, nI_le, nI_lt, if_true, if_false, not_true_eq_false, not_false_eq_true, a2]
    exact hK _ _ hG
  · obtain ⟨a2, a3⟩ := an_nneg (by omega) a1
    have a4 := an_pr_lt (by omega) a1
    refine v_X_entry ?_
    simp (discharger := omega) only [am_dp, am_gd_in, am_gd_t, pk_mul, nI_add, am_cl, nI_pos, nI_nlt, nI_ge, nI_le, nI_lt, if_true, if_false, not_true_eq_false, not_false_eq_true, r1, eE, a1, a2]
    refine v_M_entry ?_
    simp (discharger := omega) only [am_dp, am_gd_in, am_gd_t, pk_mul, nI_add, am_cl, nI_pos, nI_nlt, nI_ge, nI_le, nI_lt, if_true, if_false, not_true_eq_false, not_false_eq_true, hw, eE, an_pr_d, a3, a4]
    exact hK _ _ hG
  · have a4 := an_pr_nlt hk (by omega)
    rcases an_arg p2 7 (by omega) (by omega) with ⟨b1, b2⟩ | ⟨b1, b2, b3, b4⟩ | ⟨f, hf, rfl⟩
    · refine v_X_entry ?_
      simp (discharger := omega) only [am_dp, am_gd_in, am_gd_t, pk_mul, nI_add, am_cl, nI_pos, nI_nlt, nI_ge, nI_le, nI_lt, if_true, if_false, not_true_eq_false, not_false_eq_true, r1, eE, b1]
      refine v_M_entry ?_
      simp (discharger := omega) only [am_dp, am_gd_in, am_gd_t, pk_mul, nI_add, am_cl, nI_pos, nI_nlt, nI_ge, nI_le, nI_lt, if_true, if_false, not_true_eq_false, not_false_eq_true, hw, eE, an_pr_d, a4, b2]
      exact hK _ _ hG
    · have b5 : nI 6 < p2 := b4
      have b6 : ¬ p2 < nI 7 := Int32.not_lt.mpr b3
      refine v_X_entry ?_
      simp (discharger := omega) only [am_dp, am_gd_in, am_gd_t, pk_mul, nI_add, am_cl, nI_pos, nI_nlt, nI_ge, nI_le, nI_lt, if_true, if_false, not_true_eq_false, not_false_eq_true, r1, eE, b1, b6]
      refine v_M_entry ?_
      simp (discharger := omega) only [am_dp, am_gd_in, am_gd_t, pk_mul, nI_add, am_cl, nI_pos, nI_nlt, nI_ge, nI_le, nI_lt, if_true, if_false, not_true_eq_false, not_false_eq_true, hw, eE, an_pr_d, a4, b2, b5]
      exact hK _ _ hG
    · have r2 : μ 57 (k * 7 + f) = w (9820 + 7 * k + f) := by
        rw [show 9820 + 7 * k + f = 9820 + (k * 7 + f) by omega]
        exact hRE.2 _ (by omega)
      refine v_X_entry ?_
      simp (discharger := omega) only [am_dp, am_gd_in, am_gd_t, pk_mul, nI_add, am_cl, nI_pos, nI_nlt, nI_ge, nI_le, nI_lt, if_true, if_false, not_true_eq_false, not_false_eq_true, r1, eE]
      rw [r2]
      refine v_M_entry ?_
      simp (discharger := omega) only [am_dp, am_gd_in, am_gd_t, pk_mul, nI_add, am_cl, nI_pos, nI_nlt, nI_ge, nI_le, nI_lt, if_true, if_false, not_true_eq_false, not_false_eq_true, hw, eE, an_pr_d, a4]
      exact hK _ _ hG
theorem op_kept {L d : Nat} {μ : am_M} {p1 p2 p3 : Int32} {K : Int32 → Int32 → am_M → Prop} (hd : 30 ≤ d) (hG : an_G nb μ) (hK : ∀ r μ', an_G nb μ' → K r r μ') : am_Ci L d 106 [.ref 0, .int p1, .int p2, .int p3] μ (fun r1 μ1 => am_Ci L d 199 [.ref 140, .int p1, .int p2, .int p3] μ1 (fun r2 μ2 => K r1 r2 μ2)) := by
  have hS := hG.1
  generalize hw : μ 141 = w at hS
  obtain ⟨h1, h2, h3, h4, h5, h6, h7, h8, h9, h10, h11, h12, h13, h14, h15⟩ := id hS
  obtain ⟨hD, hN, hP, hKt, hE⟩ := id h1
  obtain ⟨eN, lN⟩ := an_cnt_e hN
  have hL : an_RL 58 w μ := h8
  have hC : an_RC 15 w μ := h9.1
  obtain ⟨D, lD, eD⟩ := hD
  have kp : ∀ e, e < 90 → w (282 + e) = if 1 ≤ e ∧ e ≤ D then nI 1 else nI 0 := fun e he => by
    have := h4 e he
    rw [eD, am_cl (by omega)] at this
    exact this
  rcases an_arg p1 90 (by omega) (by omega) with ⟨a1, a2⟩ | ⟨a1, a2, a3, a4⟩ | ⟨e, he, rfl⟩
  · have a5 : p1 ≤ 0 := Int32.le_of_lt a1
    refine v_X_kept ?_
    simp (discharger := omega) only [am_dp, am_gd_in, am_gd_t, pk_mul, nI_add, am_cl, nI_pos, nI_nlt, nI_ge, nI_le, nI_lt, if_true, if_false, not_true_eq_false, not_false_eq_true, a5]
    refine v_M_kept ?_
    simp (discharger := omega) only [am_dp, am_gd_in, am_gd_t, pk_mul, nI_add, am_cl, nI_pos, nI_nlt, nI_ge, nI_le, nI_lt, if_true, if_false, not_true_eq_false, not_false_eq_true, a2]
    exact hK _ _ hG
  · have a5 : nI 89 < p1 := a4
    have a6 : ¬ p1 ≤ 0 := Int32.not_le.mpr (Int32.lt_trans (by decide : (0 : Int32) < nI 89) a5)
    refine v_X_kept ?_
    simp (discharger := omega) only [am_dp, am_gd_in, am_gd_t, pk_mul, nI_add, am_cl, nI_pos, nI_nlt, nI_ge, nI_le, nI_lt, if_true, if_false, not_true_eq_false, not_false_eq_true, a3, a6]
    refine v_M_kept ?_
    simp (discharger := omega) only [am_dp, am_gd_in, am_gd_t, pk_mul, nI_add, am_cl, nI_pos, nI_nlt, nI_ge, nI_le, nI_lt, if_true, if_false, not_true_eq_false, not_false_eq_true, a2, a5]
    exact hK _ _ hG
  · by_cases ke : 1 ≤ e ∧ e ≤ D
    · have kv : w (282 + e) = nI 1 := by rw [kp e he, if_pos ke]
      have a6 : ¬ nI e ≤ 0 := nI_nle (by omega) (by omega)
      rcases an_arg p2 6 (by omega) (by omega) with ⟨b1, b2⟩ | ⟨b1, b2, b3, b4⟩ | ⟨h, hh, rfl⟩
      · refine v_X_kept ?_
        simp (discharger := omega) only [am_dp, am_gd_in, am_gd_t, pk_mul, nI_add, am_cl, nI_pos, nI_nlt, nI_ge, nI_le, nI_lt, if_true, if_false, not_true_eq_false, not_false_eq_true, hL.1, eD, a6, b1]
        refine v_M_kept ?_
        simp (discharger := omega) only [am_dp, am_gd_in, am_gd_t, pk_mul, nI_add, am_cl, nI_pos, nI_nlt, nI_ge, nI_le, nI_lt, if_true, if_false, not_true_eq_false, not_false_eq_true, hw, kv, b2]
        exact hK _ _ hG
      · have b5 : nI 5 < p2 := b4
        have b6 : ¬ p2 < nI 6 := Int32.not_lt.mpr b3
        refine v_X_kept ?_
        simp (discharger := omega) only [am_dp, am_gd_in, am_gd_t, pk_mul, nI_add, am_cl, nI_pos, nI_nlt, nI_ge, nI_le, nI_lt, if_true, if_false, not_true_eq_false, not_false_eq_true, hL.1, eD, a6, b1, b3, b6]
        refine v_M_kept ?_
        simp (discharger := omega) only [am_dp, am_gd_in, am_gd_t, pk_mul, nI_add, am_cl, nI_pos, nI_nlt, nI_ge, nI_le, nI_lt, if_true, if_false, not_true_eq_false, not_false_eq_true, hw, kv, b2, b5]
        exact hK _ _ hG
      rcases an_arg p3 6 (by omega) (by omega) with ⟨b1, b2⟩ | ⟨b1, b2, b3, b4⟩ | ⟨c, hc, rfl⟩
      · refine v_X_kept ?_
        simp (discharger := omega) only [am_dp, am_gd_in, am_gd_t, pk_mul, nI_add, am_cl, nI_pos, nI_nlt, nI_ge, nI_le, nI_lt, if_true, if_false, not_true_eq_false, not_false_eq_true, hL.1, eD, a6, b1]
        refine v_M_kept ?_
        simp (discharger := omega) only [am_dp, am_gd_in, am_gd_t, pk_mul, nI_add, am_cl, nI_pos, nI_nlt, nI_ge, nI_le, nI_lt, if_true, if_false, not_true_eq_false, not_false_eq_true, hw, kv, b2]
        exact hK _ _ hG
      · have b5 : nI 5 < p3 := b4
        have b6 : ¬ p3 < nI 6 := Int32.not_lt.mpr b3
        refine v_X_kept ?_
        simp (discharger := omega) only [am_dp, am_gd_in, am_gd_t, pk_mul, nI_add, am_cl, nI_pos, nI_nlt, nI_ge, nI_le, nI_lt, if_true, if_false, not_true_eq_false, not_false_eq_true, hL.1, eD, a6, b1, b3, b6]
        refine v_M_kept ?_
        simp (discharger := omega) only [am_dp, am_gd_in, am_gd_t, pk_mul, nI_add, am_cl, nI_pos, nI_nlt, nI_ge, nI_le, nI_lt, if_true, if_false, not_true_eq_false, not_false_eq_true, hw, kv, b2, b5]
        exact hK _ _ hG
      have r2 : μ 65 ((e * 6 + h) * 6 + c) = w (372 + 36 * e + 6 * h + c) := by
        rw [show 372 + 36 * e + 6 * h + c = 372 + ((e * 6 + h) * 6 + c) by omega]
        exact h11 _ (by omega)
      refine v_X_kept ?_
      simp (discharger := omega) only [am_dp, am_gd_in, am_gd_t, pk_mul, nI_add, am_cl, nI_pos, nI_nlt, nI_ge, nI_le, nI_lt, if_true, if_false, not_true_eq_false, not_false_eq_true, hL.1, eD, a6]
      rw [r2]
      refine v_M_kept ?_
      simp (discharger := omega) only [am_dp, am_gd_in, am_gd_t, pk_mul, nI_add, am_cl, nI_pos, nI_nlt, nI_ge, nI_le, nI_lt, if_true, if_false, not_true_eq_false, not_false_eq_true, hw, kv]
      exact hK _ _ hG
    · have kv : ¬ w (282 + e) = nI 1 := by rw [kp e he, if_neg ke]; decide
      by_cases e0 : e = 0
      · subst e0
        have a6 : nI 0 ≤ 0 := by decide
        refine v_X_kept ?_
        simp (discharger := omega) only [am_dp, am_gd_in, am_gd_t, pk_mul, nI_add, am_cl, nI_pos, nI_nlt, nI_ge, nI_le, nI_lt, if_true, if_false, not_true_eq_false, not_false_eq_true, a6]
        refine v_M_kept ?_
        simp (discharger := omega) only [am_dp, am_gd_in, am_gd_t, pk_mul, nI_add, am_cl, nI_pos, nI_nlt, nI_ge, nI_le, nI_lt, if_true, if_false, not_true_eq_false, not_false_eq_true, hw, kv]
        exact hK _ _ hG
      · have a6 : ¬ nI e ≤ 0 := nI_nle (by omega) (by omega)
        refine v_X_kept ?_
        simp (discharger := omega) only [am_dp, am_gd_in, am_gd_t, pk_mul, nI_add, am_cl, nI_pos, nI_nlt, nI_ge, nI_le, nI_lt, if_true, if_false, not_true_eq_false, not_false_eq_true, hL.1, eD, a6]
        refine v_M_kept ?_
        simp (discharger := omega) only [am_dp, am_gd_in, am_gd_t, pk_mul, nI_add, am_cl, nI_pos, nI_nlt, nI_ge, nI_le, nI_lt, if_true, if_false, not_true_eq_false, not_false_eq_true, hw, kv]
        exact hK _ _ hG
