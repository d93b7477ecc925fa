/-! A day, the call. -/
variable {nb : Nat}
theorem op_day {L d : Nat} {μ : am_M} {K : Int32 → Int32 → am_M → Prop} (hd : 30 ≤ d) (hG : an_G nb μ) (hK : ∀ r μ', an_G nb μ' → K r r μ') : am_Ci L d 102 [.ref 0] μ (fun r1 μ1 => am_Ci L d 208 [.ref 140] μ1 (fun r2 μ2 => K r1 r2 μ2)) := by
  have hS := hG.1
  generalize hw : μ 141 = w at hS
  obtain ⟨h1, h2, h3, h4, h5, h6, h7, h8, h9, h10, h11, h12, h13, h14, h15⟩ := id hS
  obtain ⟨hD, hN, hP, hKt, hE⟩ := id h1
  have hL : an_RL 58 w μ := h8
  have hC : an_RC 15 w μ := h9.1
  obtain ⟨D, lD, eD⟩ := hD
  have g15 : μ 15 5 = - nI 1 := hG.2.2.2.2.2.2.1
  obtain ⟨lss, hls⟩ := id h15
  have ho : ∀ b, b < 4 → an_okl false (lss b) := fun b hb => by have := (hls b (by omega)).1; rwa [show Nat.beq b 4 = false from am_nb (by omega)] at this
  have hX : ∀ b, b < 4 → an_scX false (21 + 7 * b) μ (lss b) := fun b hb => by have := (hls b (by omega)).2.1; rwa [show Nat.beq b 4 = false from am_nb (by omega)] at this
  have hM : ∀ b, b < 4 → an_scM w b (lss b) := fun b hb => (hls b (by omega)).2.2
  obtain ⟨ok4, x4, m4⟩ := hls 4 (by omega)
  have ok4 : an_okl true (lss 4) := ok4
  have x4 : an_scX true 49 μ (lss 4) := x4
  by_cases h89 : D = 89
  · refine v_X_day ?_
    rw [hL.1, eD, if_neg (nI_nlt (by omega) (by omega))]
    refine v_M_day ?_
    rw [hw, eD, if_neg (fun z => z (by rw [h89]))]
    exact hK _ _ hG
  have lD2 : D + 1 < 90 := by omega
  have led0 := an_S_led hS eD lD
  obtain ⟨-, -, led1, fr1, cn1⟩ := an_mor (lss := lss) (ord := nI 0) (D := D) (by omega) led0
  generalize hw1 : W_mor lss (nI 0) w D = w1 at led1 fr1 cn1
  have c1 : ∀ j, j < 9810 → ¬ j = 4 → ¬ (210 ≤ j ∧ j < 234) → ¬ (258 ≤ j ∧ j < 282) → ¬ (3640 ≤ j ∧ j < 5440) → ¬ j = 0 → w1 j = w j := fr1
  -- the states
  generalize hw2 : upd w1 (282 + (D + 1)) (nI 1) = w2
  have c2 : ∀ j, ¬ j = 282 + (D + 1) → w2 j = w1 j := fun j hj => by rw [← hw2, pk_un hj]
  have c2s : w2 (282 + (D + 1)) = nI 1 := by rw [← hw2, pk_us]
  generalize hw3 : an_ke w2 (D + 1) 36 = w3
  have c3 : ∀ j, (j < 372 + 36 * (D + 1) ∨ 372 + 36 * (D + 1) + 36 ≤ j) → w3 j = w2 j := fun j hj => by rw [← hw3, an_ke_o _ hj]
  generalize hw4 : an_al w3 (D + 1) (lss 4) 24 = w4
  have c4 : ∀ j, (j < 3612 ∨ 3636 ≤ j) → w4 j = w3 j := fun j hj => by rw [← hw4, an_al_o _ (by omega)]
  have c31 : ∀ j, (j < 282 ∨ 3612 ≤ j) → w3 j = w1 j := fun j hj => by rw [c3 j (by omega), c2 j (by omega)]
  have c41 : ∀ j, (j < 282 ∨ 3636 ≤ j) → w4 j = w1 j := fun j hj => by rw [c4 j (by omega), c31 j (by omega)]
  have c40 : ∀ j, j < 9810 → ¬ j = 4 → ¬ (210 ≤ j ∧ j < 234) → ¬ (258 ≤ j ∧ j < 372) → ¬ (372 ≤ j ∧ j < 5440) → ¬ j = 0 → w4 j = w j := fun j q1 q2 q3 q4 q5 q6 => by rw [c41 j (by omega), c1 j q1 q2 q3 (by omega) (by omega) q6]
  have led3 : an_led nb w3 (D + 1) := an_led_w led1 (fun j hj => c31 j (by omega))
  have led4 : an_led nb w4 (D + 1) := an_led_w led1 (fun j hj => c41 j (by omega))
  have k2 : an_k2 0 w4 μ := an_k2_c h2 (fun j hj => c40 j (by omega) (by omega) (by omega) (by omega) (by omega) (by omega)) (fun c hc => hc.elim)
  have k4 : an_k4 0 w4 μ := by
    intro i hi
    rw [led4.1, am_cl (by omega), c4 _ (by omega), c3 _ (by omega)]
    by_cases q : i = D + 1
    · rw [q, c2s, if_pos (by omega)]
    · rw [c2 _ (by omega), c1 _ (by omega) (by omega) (by omega) (by omega) (by omega) (by omega), h4 i hi, eD, am_cl (by omega)]
      by_cases q2 : 1 ≤ i ∧ i ≤ D
      · rw [if_pos q2, if_pos (by omega)]
      · rw [if_neg q2, if_neg (by omega)]
  have k5 : an_k5 0 w4 μ := by
    intro k hk
    rw [led4.1, am_cl (by omega)]
    exact led4.2.2.2.2.2.1 k hk
  have k7 : an_k7 nb 0 w4 μ := by
    refine ⟨⟨?_, led4.2.2.2.2.2.2.1⟩, led4.2.2.2.2.2.2.2⟩
    rw [c40 5 (by omega) (by omega) (by omega) (by omega) (by omega) (by omega), h7.1.1]
    exact am_sum_congr 24 (fun k hk => (c40 _ (by omega) (by omega) (by omega) (by omega) (by omega) (by omega)).symm)
  have am3 : an_am w3 (D + 1) := by
    refine an_k5_am (o := 0) (μ := μ) led3.1 lD2 ?_
    intro k hk
    rw [led3.1, am_cl (by omega)]
    exact led3.2.2.2.2.2.1 k hk
  have wm3 : an_wm w3 (D + 1) (lss 4) := by
    refine ⟨led3.1, lD2, led3.2.2.2.1, led3.2.1, am3, fun e he => ?_, ok4, an_scM_c (by omega) ok4 m4 (fun j z1 z2 => by rw [c31 j (by omega), c1 j (by omega) (by omega) (by omega) (by omega) (by omega) (by omega)])⟩
    have := k4 e he
    rw [led4.1, am_cl (by omega), c4 _ (by omega)] at this
    exact this
  -- the class
  refine v_X_day ?_
  rw [hL.1, eD, if_pos (nI_lt (by omega) (by omega))]
  refine ⟨by omega, t_morning (by omega) (by omega) led0 hL h10 hC (an_RS_of h3 h9 g15) ho hX (fun μ1 u1 R1 E1 => ?_)⟩
  rw [hw1] at R1 E1
  have R1' : an_RL 58 w2 μ1 := an_RL_w R1 (c2 _ (by omega)) (c2 _ (by omega)) (fun k f hk hf => c2 _ (by omega)) (fun j _ _ => c2 _ (by omega))
  refine ⟨by omega, s_keep (by omega) ((c2 0 (by omega)).trans led1.1) lD2 (by rw [c2 1 (by omega)]; exact led1.2.1) R1' (fun i hi => ?_) (fun μ3 u3 k3 => ?_)⟩
  · rw [u1 65 (by decide), h11 i hi]
    have : w2 (372 + i) = w (372 + i) := by rw [c2 _ (by omega), c1 _ (by omega) (by omega) (by omega) (by omega) (by omega) (by omega)]
    exact this.symm
  rw [hw3] at k3
  have R3 : an_RL 58 w3 μ3 := an_RL_w (an_RL_c R1 (fun c z1 z2 => u3 c (by simp; omega))) (c31 _ (by omega)) (c31 _ (by omega)) (fun k f hk hf => c31 _ (by omega)) (fun j _ _ => c31 _ (by omega))
  have u13 : ∀ c, c ∉ [56, 57, 58, 59, 60, 62, 63, 64, 27, 34, 41, 48] → c ≠ 65 → μ3 c = μ c := fun c z1 z2 => (u3 c (by simpa using z2)).trans (u1 c z1)
  have wt3 : an_wt w3 (D + 1) (lss 4) μ3 := by
    refine ⟨led3.1, lD2, R3, an_RC_w (an_RC_c hC (fun c z1 z2 => u13 c (by simp; omega) (by omega))) (fun j z1 z2 => by rw [c31 j (by omega), c1 j (by omega) (by omega) (by omega) (by omega) (by omega) (by omega)]), led3.2.2.2.1, led3.2.1, am3, k3, ok4, an_scX_c x4 (fun c z1 z2 => u13 c (by simp; omega) (by omega))⟩
  refine ⟨by omega, s_lookAlone (by omega) wt3 (fun i hi => ?_) (fun μ4 u4 k4' => ?_)⟩
  · rw [u13 66 (by decide) (by decide)]
    have e66 : μ 66 i = w (3612 + i) := h12 i hi
    rw [e66, c31 _ (by omega), c1 _ (by omega) (by omega) (by omega) (by omega) (by omega) (by omega)]
  rw [hw4] at k4'
  have u14 : ∀ c, c ∉ [56, 57, 58, 59, 60, 62, 63, 64, 27, 34, 41, 48] → c ≠ 65 → c ∉ [132, 55, 66] → μ4 c = μ c := fun c z1 z2 z3 => (u4 c z3).trans (u13 c z1 z2)
  have w4e : μ4 141 = w := (u14 141 (by decide) (by decide) (by decide)).trans hw
  -- the model
  refine v_M_day ?_
  rw [w4e, eD, if_pos (fun z => h89 ((nI_eq (by omega) (by omega)).mp z))]
  refine ⟨by omega, t_M_morning (by omega) (by omega) led0 w4e ho hM (fun μ5 u5 v5 w5 => ?_)⟩
  rw [hw1] at w5
  rw [w5, led1.1, nI_add, am_gd_in (by omega) (by omega), am_cl (by omega)]
  intro μ6 e6
  have w6 : μ6 141 = w2 := by rw [e6, am_w_at, w5, hw2]
  refine s_M_keep (by omega) lD2 (by rw [c2 1 (by omega)]; exact led1.2.1) w6 (fun μ7 u7 w7 => ?_)
  rw [hw3] at w7
  refine s_M_alone (by omega) wm3 w7 (fun μ8 u8 w8 => ?_)
  rw [hw4] at w8
  have u58 : ∀ c, c ∉ [140, 141, 147, 148, 149] → μ8 c = μ4 c := fun c hc => by
    simp only [List.mem_cons, List.not_mem_nil, or_false, not_or] at hc
    rw [u8 c (by simp; omega), u7 c (by simp; omega), an_w_c e6 (by omega), u5 c (by simp; omega)]
  have x140 : ∀ f, f ≠ 23 → μ8 140 f = μ 140 f := fun f hf => by
    rw [u8 140 (by decide), u7 140 (by decide), an_w_c e6 (by decide), v5 f hf, u14 140 (by decide) (by decide) (by decide)]
  have U : ∀ c, c ∉ [56, 57, 58, 59, 60, 62, 63, 64, 27, 34, 41, 48, 65, 132, 55, 66, 140, 141, 147, 148, 149] → μ8 c = μ c := fun c hc => by
    simp only [List.mem_cons, List.not_mem_nil, or_false, not_or] at hc
    rw [u58 c (by simp; omega), u14 c (by simp; omega) (by omega) (by simp; omega)]
  refine hK _ _ (an_G_of hG ?_ ⟨fun c hc => U c (by have := hc.1; have := hc.2.1; simp; omega), U _ (by decide), U _ (by decide), U _ (by decide), U _ (by decide), fun f _ => by rw [U 0 (by decide)], fun f hf => x140 f (by omega), by rw [U 15 (by decide)]⟩)
  rw [w8]
  refine ⟨⟨⟨D + 1, lD2, led4.1⟩, led4.2.1, ?_, ?_, led4.2.2.1⟩, k2, ?_, k4, k5, ?_, k7, ?_, ?_, ?_, ?_, ?_, ?_, ?_, ?_⟩
  · rw [c40 2 (by omega) (by omega) (by omega) (by omega) (by omega) (by omega)]; exact hP
  · rw [c40 3 (by omega) (by omega) (by omega) (by omega) (by omega) (by omega)]; exact hKt
  · exact an_k3_c h3 (fun j hj => c40 j (by omega) (by omega) (by omega) (by omega) (by omega) (by omega)) (fun c hc => hc.elim)
  · exact an_k6_c h6 (fun j hj => c40 j (by omega) (by omega) (by omega) (by omega) (by omega) (by omega)) (fun c hc => hc.elim)
  · refine an_RL_w (an_RL_c R3 (fun c z1 z2 => by rw [u58 c (by simp; omega), u4 c (by simp; omega)])) (c4 _ (by omega)) (c4 _ (by omega)) (fun k f hk hf => c4 _ (by omega)) (fun j _ _ => c4 _ (by omega))
  · exact an_k9_c h9 (fun j hj => c40 j (by omega) (by omega) (by omega) (by omega) (by omega) (by omega)) (fun c hc => U c (by simp; omega))
  · refine an_RE_w (an_RE_c E1 (fun c z1 z2 => by rw [u58 c (by simp; omega), u4 c (by simp; omega), u3 c (by simp; omega)])) (fun j hj => c41 j (by omega))
  · intro i hi
    show μ8 65 i = _
    rw [u58 65 (by decide), u4 65 (by decide), k3 i hi, c4 _ (by omega)]
  · intro i hi
    show μ8 66 i = _
    rw [u58 66 (by decide), k4' i hi]
  · exact an_k13_c h13 (fun j hj => c40 j (by omega) (by omega) (by omega) (by omega) (by omega) (by omega)) (fun c hc => U c (by simp; omega))
  · exact an_k14_c h14 (fun j hj => c40 j (by omega) (by omega) (by omega) (by omega) (by omega) (by omega)) (fun c hc => U c (by simp; omega))
  · exact an_k15_c h15 (fun j hj => c40 j (by omega) (by omega) (by omega) (by omega) (by omega) (by omega)) (fun c hc => by obtain ⟨k, hk, q1, q2⟩ := hc; exact U c (by simp; omega))
