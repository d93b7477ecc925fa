/-! Texts: the call. -/
variable {nb : Nat}
/-- the state behind a text -/
theorem an_G_tx {μ μ' : am_M} (hG : an_G nb μ) (hS : an_S nb 0 (μ' 141) μ') (hu : ∀ c, an_kc 55 c → μ' c = μ c) (h142 : μ' 142 = μ 142) (h15 : μ' 15 = μ 15) (h9 : μ' 0 9 = μ 0 9) (hf : ∀ f, f = 3 ∨ f = 27 → μ' 140 f = μ 140 f) (h1 : μ' 1 1 = nI 0) (h12 : μ' 140 12 = nI 0) (h10 : μ' 0 10 = μ' 140 19) (h11 : μ' 0 11 = μ' 140 21) : an_G nb μ' := by
  obtain ⟨-, g2, g3, -, g5, g6, g7, g8⟩ := hG
  refine ⟨hS, ?_, ?_, ⟨0, by omega, h1, h12, fun i hi => absurd hi (by omega)⟩, h10, h11, ?_, ?_⟩
  · rw [h9, hf 3 (by omega)]; exact g2
  · rw [hf 3 (by omega)]
    rcases g3 with q | ⟨q1, q2⟩
    · exact Or.inl q
    · refine Or.inr ⟨q1, ?_⟩
      rw [h142]
      exact an_S_c q2 hu
  · rw [h15]; exact g7
  · rw [hf 27 (by omega)]; exact g8
theorem op_text {L d : Nat} {μ : am_M} {p1 : Int32} {K : Int32 → Int32 → am_M → Prop} (hd : 50 ≤ d) (hG : an_G nb μ) (hK : ∀ r μ', an_G nb μ' → K r r μ') : am_Ci L d 98 [.ref 0, .int p1] μ (fun r1 μ1 => am_Ci L d 176 [.ref 140, .int p1] μ1 (fun r2 μ2 => K r1 r2 μ2)) := by
  obtain ⟨hS, g2, g3, ⟨T, hT, t1, t2, t3⟩, g5, g6, g7, g8⟩ := id hG
  have bad : ∀ (μ1 μ2 : am_M), an_un [0, 1, 3, 4, 5, 6, 7, 8, 9, 11, 12, 13] μ μ1 → μ1 0 9 = μ 0 9 → μ1 1 1 = nI 0 → an_un [140, 144, 145] μ1 μ2 → (∀ f, f = 3 ∨ f = 27 → μ2 140 f = μ1 140 f) → μ2 140 12 = nI 0 → μ1 0 10 = μ2 140 19 → μ1 0 11 = μ2 140 21 → an_G nb μ2 := by
    intro μ1 μ2 u1 a1 a2 u2 b1 b2 b3 b4
    have u : ∀ c, (14 ≤ c ∧ c < 140 ∨ c = 141 ∨ c = 142) → μ2 c = μ c := fun c hc => by rw [u2 c (by simp; omega), u1 c (by simp; omega)]
    refine an_G_tx hG ?_ (fun c hc => u c (by unfold an_kc at hc; omega)) (u 142 (by omega)) (u 15 (by omega)) ?_ (fun f hf => ?_) ?_ b2 ?_ ?_
    · rw [u 141 (by omega)]
      exact an_S_c hS (fun c hc => u c (by unfold an_kc at hc; omega))
    · rw [u2 0 (by decide)]; exact a1
    · rw [b1 f hf, u1 140 (by decide)]
    · rw [u2 1 (by decide)]; exact a2
    · rw [u2 0 (by decide)]; exact b3
    · rw [u2 0 (by decide)]; exact b4
  have out : (p1 < 0 ∧ p1 < nI 0) ∨ (¬ p1 < 0 ∧ ¬ p1 < nI 0 ∧ nI 5 ≤ p1 ∧ nI 4 < p1) → am_Ci L d 98 [.ref 0, .int p1] μ (fun r1 μ1 => am_Ci L d 176 [.ref 140, .int p1] μ1 (fun r2 μ2 => K r1 r2 μ2)) := by
    intro h
    have cls : ∀ μ1 μ2 μ3, μ1 = am_w μ 0 10 (nI 0) → μ2 = am_w μ1 0 11 (- nI 1) → μ3 = am_w μ2 1 1 (nI 0) → am_Ci L d 176 [.ref 140, .int p1] μ3 (fun r2 μ2 => K (- nI 1) r2 μ2) := by
      intro μ1 μ2 μ3 e1 e2 e3
      have fin : ∀ μ4 μ5 μ6 μ7, μ4 = am_w μ3 140 17 (nI 0) → μ5 = am_w μ4 140 12 (nI 0) → μ6 = am_w μ5 140 19 (nI 0) → μ7 = am_w μ6 140 21 (- nI 1) → K (- nI 1) (- nI 1) μ7 := by
        intro μ4 μ5 μ6 μ7 e4 e5 e6 e7
        refine hK _ _ (bad μ3 μ7 (fun c hc => ?_) ?_ ?_ (fun c hc => ?_) (fun f hf => ?_) ?_ ?_ ?_)
        · simp only [List.mem_cons, List.not_mem_nil, or_false, not_or] at hc
          rw [an_w_c e3 hc.2.1, an_w_c e2 hc.1, an_w_c e1 hc.1]
        · rw [an_w_c e3 (by decide), an_w_o e2 (by decide), an_w_o e1 (by decide)]
        · exact an_w_s e3
        · simp only [List.mem_cons, List.not_mem_nil, or_false, not_or] at hc
          rw [an_w_c e7 hc.1, an_w_c e6 hc.1, an_w_c e5 hc.1, an_w_c e4 hc.1]
        · rw [an_w_o e7 (by omega), an_w_o e6 (by omega), an_w_o e5 (by omega), an_w_o e4 (by omega)]
        · rw [an_w_o e7 (by decide), an_w_o e6 (by decide)]; exact an_w_s e5
        · rw [an_w_o e7 (by decide), an_w_s e6, an_w_c e3 (by decide), an_w_o e2 (by decide)]; exact an_w_s e1
        · rw [an_w_s e7, an_w_c e3 (by decide)]; exact an_w_s e2
      refine v_M_text ?_
      intro μ4 e4
      refine ⟨by omega, ?_⟩
      rcases h with ⟨a1, a2⟩ | ⟨a1, a2, a3, a4⟩
      · rw [if_pos a2]
        intro μ5 e5 μ6 e6 μ7 e7
        exact fin μ4 μ5 μ6 μ7 e4 e5 e6 e7
      · rw [if_neg a2, if_pos a4]
        intro μ5 e5 μ6 e6 μ7 e7
        exact fin μ4 μ5 μ6 μ7 e4 e5 e6 e7
    refine v_X_text ?_
    intro μ1 e1 μ2 e2
    rcases h with ⟨a1, a2⟩ | ⟨a1, a2, a3, a4⟩
    · rw [if_pos a1]
      intro μ3 e3
      exact cls μ1 μ2 μ3 e1 e2 e3
    · rw [if_neg a1, if_neg (Int32.not_lt.mpr a3)]
      intro μ3 e3
      exact cls μ1 μ2 μ3 e1 e2 e3
  rcases an_arg p1 5 (by omega) (by omega) with a | a | ⟨k, hk, rfl⟩
  · exact out (Or.inl a)
  · exact out (Or.inr a)
  have tB : ∀ i, i < T → (μ 2 i = nI ((μ 2 i).toNatClampNeg) ∧ (μ 2 i).toNatClampNeg < 256) ∧ (μ 146 i = nI ((μ 2 i).toNatClampNeg) ∧ (μ 2 i).toNatClampNeg < 256) := fun i hi => by
    obtain ⟨b, b1, b2, b3⟩ := t3 i hi
    rw [b2, b3, am_cl (by omega)]
    exact ⟨⟨rfl, b1⟩, rfl, b1⟩
  generalize hB : (fun i => (μ 2 i).toNatClampNeg) = B
  have tB : ∀ i, i < T → (μ 2 i = nI (B i) ∧ B i < 256) ∧ (μ 146 i = nI (B i) ∧ B i < 256) := by subst hB; exact tB
  generalize hsg : decide (k = 4) = sg
  have hsg2 : Nat.beq k 4 = sg := by
    rw [← hsg]
    by_cases z : k = 4
    · rw [decide_eq_true z, z]; rfl
    · rw [decide_eq_false z]; exact am_nb z
  refine s_X_text (B := B) (T := T) (by omega) hk hsg.symm ⟨hT, fun j hj => (tB j hj).1⟩ t1 (fun μ1 e u1 a1 a2 hP a3 a4 => ?_) (fun μ1 l u1 a1 a2 hP a3 a4 X1 => ?_)
  · refine s_M_text (B := B) (T := T) hd hk hsg.symm ⟨hT, fun j hj => by rw [u1 146 (by decide)]; exact (tB j hj).2⟩ (by rw [u1 140 (by decide)]; exact t2) (fun μ2 e2 u2 b1 b2 hP2 b3 b4 => ?_) (fun μ2 l u2 b1 b2 hP2 _ _ _ _ _ => ?_)
    · rw [hP] at hP2
      cases hP2
      exact hK _ _ (bad μ1 μ2 u1 a1 a2 u2 b1 b2 (a3.trans b3.symm) (a4.trans b4.symm))
    · rw [hP] at hP2
      cases hP2
  · have v1 : ∀ c, c ∉ [0, 1, 3, 4, 5, 6, 7, 8, 9, 11, 12, 13] → (c < 14 ∨ 55 < c) → μ1 c = μ c := fun c h1 h2 => u1 c h1 (by omega)
    refine s_M_text (B := B) (T := T) hd hk hsg.symm ⟨hT, fun j hj => by rw [v1 146 (by decide) (by omega)]; exact (tB j hj).2⟩ (by rw [v1 140 (by decide) (by omega)]; exact t2) (fun μ2 e2 u2 b1 b2 hP2 b3 b4 => ?_) (fun μ2 l2 u2 b1 b2 hP2 b3 b4 r2 y2 M2 => ?_)
    · rw [hP] at hP2
      cases hP2
    · rw [hP] at hP2
      cases hP2
      obtain ⟨N, n0, n1, n2, n3, n4, n5⟩ := an_tk_N (sg := sg) (B := B) (T := T)
      have ok : an_okl sg l := an_okl_tx n4 12 0 l hP
      have X2 : an_scX sg (21 + 7 * k) μ2 l := an_scX_c X1 (fun c' q1 q2 => u2 c' (by simp; omega))
      obtain ⟨l', o1, o2, o3⟩ := an_tx_ls ok y2 M2 X2
      have u : ∀ c, c ∉ [0, 1, 3, 4, 5, 6, 7, 8, 9, 11, 12, 13, 140, 141, 144, 145] → ¬ (21 + 7 * k ≤ c ∧ c ≤ 26 + 7 * k) → μ2 c = μ c := fun c h1 h2 => by
        simp only [List.mem_cons, List.not_mem_nil, or_false, not_or] at h1
        rw [u2 c (by simp; omega), u1 c (by simp; omega) h2]
      have uw : ∀ y, (y < 5460 ∨ 9810 ≤ y) → μ2 141 y = μ 141 y := fun y hy => by
        rw [r2 y (fun i' hi => by omega) (by omega) (by omega), v1 141 (by decide) (by omega)]
      refine hK _ _ (an_G_tx hG ?_ (fun c hc => u c (by unfold an_kc at hc; simp; omega) (by unfold an_kc at hc; omega)) (u 142 (by decide) (by omega)) (u 15 (by decide) (by omega)) ?_ (fun f hf => ?_) ?_ b2 ?_ ?_)
      · obtain ⟨h1, h2, h3, h4, h5, h6, h7, h8, h9, h10, h11, h12, h13, h14, h15⟩ := hS
        refine ⟨an_k1_c h1 (fun j hj => uw j (by omega)) (fun _ q => q.elim), an_k2_c h2 (fun j hj => uw j (by omega)) (fun _ q => q.elim), an_k3_c h3 (fun j hj => uw j (by omega)) (fun _ q => q.elim), an_k4_c h4 (fun j hj => uw j (by omega)) (fun _ q => q.elim), an_k5_c (an_S_k150 h1) h5 (fun j hj => uw j (by omega)) (fun _ q => q.elim), an_k6_c h6 (fun j hj => uw j (by omega)) (fun _ q => q.elim), an_k7_c h7 (fun j hj => uw j (by omega)) (fun _ q => q.elim), an_k8_c h8 (fun j hj => uw j (by omega)) (fun c hc => u c (by simp; omega) (by omega)), an_k9_c h9 (fun j hj => uw j (by omega)) (fun c hc => u c (by simp; omega) (by omega)), an_k10_c h10 (fun j hj => uw j (by omega)) (fun c hc => u c (by simp; omega) (by omega)), an_k11_c h11 (fun j hj => uw j (by omega)) (fun c hc => u c (by simp; omega) (by omega)), an_k12_c h12 (fun j hj => uw j (by omega)) (fun c hc => u c (by simp; omega) (by omega)), an_k13_c h13 (fun j hj => uw j (by omega)) (fun c hc => u c (by simp; omega) (by omega)), an_k14_c h14 (fun j hj => uw j (by omega)) (fun c hc => u c (by simp; omega) (by omega)), ?_⟩
        obtain ⟨lss, hl⟩ := h15
        refine ⟨fun k' => if k' = k then l' else lss k', fun k' hk' => ?_⟩
        show an_okl (Nat.beq k' 4) (if k' = k then l' else lss k') ∧ an_scX (Nat.beq k' 4) (21 + 0 + 7 * k') μ2 (if k' = k then l' else lss k') ∧ an_scM (μ2 141) k' (if k' = k then l' else lss k')
        by_cases z : k' = k
        · subst z
          rw [if_pos rfl, hsg2]
          exact ⟨o1, o2, o3⟩
        · rw [if_neg z]
          obtain ⟨q1, q2, q3, q4⟩ := hl k' hk'
          refine ⟨q1, an_scX_c q2 (fun c' w1 w2 => u c' (by simp; omega) (by omega)), ?_, fun i e he => ?_⟩
          · rw [r2 _ (fun i' hi => by omega) (by omega) (by omega), v1 141 (by decide) (by omega)]; exact q3
          · have hi : i < 12 := Nat.lt_of_lt_of_le (List.getElem?_eq_some_iff.mp he).1 q1.1
            obtain ⟨f, g, x, w1, w2, w3, w4, w5, w6, w7⟩ := q4 i e he
            have le := (an_sq_le an_D_lt _ _ _ w7).1
            have rr : ∀ b, (b = 5470 ∨ b = 5530 ∨ b = 5590 ∨ b = 5650) → μ2 141 (b + (12 * k' + i)) = μ 141 (b + (12 * k' + i)) := fun b hb => by
              rw [r2 _ (fun i' hi => by omega) (by omega) (by omega), v1 141 (by decide) (by omega)]
            have hD : ∀ p e p', p < 410 → an_D (μ 141) k' p e p' → an_D (μ2 141) k' p e p' := by
              intro p e p' hp q
              obtain ⟨c1, c2, c3⟩ := q
              refine ⟨?_, ?_, c3⟩
              · rw [r2 _ (fun i' hi => by omega) (by omega) (by omega), v1 141 (by decide) (by omega)]; exact c1
              · rw [r2 _ (fun i' hi => by omega) (by omega) (by omega), v1 141 (by decide) (by omega)]; exact c2
            exact ⟨f, g, x, by rw [rr _ (by omega)]; exact w1, by rw [rr _ (by omega)]; exact w2, by rw [rr _ (by omega)]; exact w3, by rw [rr _ (by omega)]; exact w4, w5, an_sq_c an_D_lt hD _ _ _ w6 (by omega), an_sq_c an_D_lt hD _ _ _ w7 (by omega)⟩
      · rw [u2 0 (by decide)]; exact a1
      · rw [b1 f hf, v1 140 (by decide) (by omega)]
      · rw [u2 1 (by decide)]; exact a2
      · rw [u2 0 (by decide), b3]; exact a3
      · rw [u2 0 (by decide), b4]; exact a4
