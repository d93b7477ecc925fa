/-! Texts: the call. -/
variable {nb : Nat}
theorem s_X_text {L d k T : Nat} {μ : am_M} {F : Int32 → am_M → Prop} {B : Nat → Nat} {sg : Bool} (hd : 44 ≤ d) (hk : k < 5) (hsg : sg = decide (k = 4)) (hB : an_tb 2 μ B T) (h1 : μ 1 1 = nI T)
    (hE : ∀ μ' e, an_un [0, 1, 3, 4, 5, 6, 7, 8, 9, 11, 12, 13] μ μ' → μ' 0 9 = μ 0 9 → μ' 1 1 = nI 0 → an_ptx sg (an_tk sg B T) 12 0 = .inr e → μ' 0 10 = nI e.1 → μ' 0 11 = nI (an_tk sg B T e.2).2.2.1 → F (- nI 1) μ')
    (hS : ∀ μ' l, (∀ c, c ∉ [0, 1, 3, 4, 5, 6, 7, 8, 9, 11, 12, 13] → ¬ (21 + 7 * k ≤ c ∧ c ≤ 26 + 7 * k) → μ' c = μ c) → μ' 0 9 = μ 0 9 → μ' 1 1 = nI 0 → an_ptx sg (an_tk sg B T) 12 0 = .inl l → μ' 0 10 = nI 0 → μ' 0 11 = - nI 1 → an_scX sg (21 + 7 * k) μ' l → F (nI l.length) μ') : am_Ci L d 98 [.ref 0, .int (nI k)] μ F := by
  obtain ⟨N, n0, n1, n2, n3, n4, n5⟩ := an_tk_N (sg := sg) (B := B) (T := T)
  refine v_X_text ?_
  intro μ1 e1 μ2 e2
  rw [if_neg (nI_pos (by omega)), if_pos (nI_lt (by omega) (by omega))]
  have B2 : an_tb 2 μ2 B T := ⟨hB.1, fun j hj => by rw [an_w_c e2 (by decide), an_w_c e1 (by decide)]; exact hB.2 j hj⟩
  have h2 : μ2 1 1 = nI T := by rw [an_w_c e2 (by decide), an_w_c e1 (by decide)]; exact h1
  have z10 : μ2 0 10 = nI 0 := by rw [an_w_o e2 (by decide)]; exact an_w_s e1
  have z11 : μ2 0 11 = - nI 1 := an_w_s e2
  have z9 : μ2 0 9 = μ 0 9 := by rw [an_w_o e2 (by decide), an_w_o e1 (by decide)]
  have go : am_Ci L (d - 1) 39 [.ref 3, .ref 1, .int (an_b sg)] μ2 (fun y5 μ4 => am_put (am_w μ4 1 1 (nI 0)) (fun μ6 => if ¬ y5 = 0 then am_gd (am_inb (nI k) 5) (if nI k = nI 0 then 0 < d ∧ am_Cv L (d - 1) 66 [.ref 21, .ref 4] μ6 (fun μ7 => F (μ7 4 6) μ7) else if nI k = nI 1 then 0 < d ∧ am_Cv L (d - 1) 66 [.ref 28, .ref 4] μ6 (fun μ8 => F (μ8 4 6) μ8) else if nI k = nI 2 then 0 < d ∧ am_Cv L (d - 1) 66 [.ref 35, .ref 4] μ6 (fun μ9 => F (μ9 4 6) μ9) else if nI k = nI 3 then 0 < d ∧ am_Cv L (d - 1) 66 [.ref 42, .ref 4] μ6 (fun μ10 => F (μ10 4 6) μ10) else if nI k = nI 4 then 0 < d ∧ am_Cv L (d - 1) 66 [.ref 49, .ref 4] μ6 (fun μ11 => F (μ11 4 6) μ11) else False) else am_put (am_w μ6 0 10 (μ6 3 7)) (fun μ12 => am_put (am_w μ12 0 11 (μ12 3 8)) (fun μ13 => F (- nI 1) μ13)))) := by
    refine c_compile (by omega) B2 h2 (fun r μ3 u3 p3 => ?_)
    have u0 : ∀ c, c ∉ [0, 1, 3, 4, 5, 6, 7, 8, 9, 11, 12, 13] → μ3 c = μ c := fun c hc => by
      simp only [List.mem_cons, List.not_mem_nil, or_false, not_or] at hc
      rw [u3 c (by simp; omega), an_w_c e2 hc.1, an_w_c e1 hc.1]
    have c0 : μ3 0 = μ2 0 := u3 0 (by decide)
    cases hP : an_ptx sg (an_tk sg B T) 12 0 with
    | inr e =>
      rw [hP] at p3
      obtain ⟨hr, a1, b1⟩ := p3
      subst hr
      intro μ4 e4
      rw [if_neg (fun z => z nI_0)]
      intro μ5 e5 μ6 e6
      refine hE μ6 e (fun c hc => ?_) ?_ ?_ hP ?_ ?_
      · have hc2 := hc
        simp only [List.mem_cons, List.not_mem_nil, or_false, not_or] at hc2
        rw [an_w_c e6 hc2.1, an_w_c e5 hc2.1, an_w_c e4 hc2.2.1, u0 c hc]
      · rw [an_w_o e6 (by decide), an_w_o e5 (by decide), an_w_c e4 (by decide), c0, z9]
      · rw [an_w_c e6 (by decide), an_w_c e5 (by decide)]; exact an_w_s e4
      · rw [an_w_o e6 (by decide), an_w_s e5, an_w_c e4 (by decide)]; exact a1
      · rw [an_w_s e6, an_w_c e5 (by decide), an_w_c e4 (by decide)]; exact b1
    | inl l =>
      rw [hP] at p3
      obtain ⟨hr, c, hc, X3⟩ := p3
      subst hr
      intro μ4 e4
      rw [if_pos (by decide)]
      have X4 : an_scX sg 4 μ4 l := an_scX_c (an_dX_scX X3 hc) (fun c' q1 q2 => an_w_c e4 (by omega))
      refine c_put (by omega) hk (an_okl_tx n4 12 0 l hP).1 X4 (fun μ5 u5 X5 => hS μ5 l (fun c hc1 hc2 => ?_) ?_ ?_ hP ?_ ?_ X5)
      · have hc3 := hc1
        simp only [List.mem_cons, List.not_mem_nil, or_false, not_or] at hc3
        rw [u5 c hc2, an_w_c e4 hc3.2.1, u0 c hc1]
      · rw [u5 0 (by omega), an_w_c e4 (by decide), c0, z9]
      · rw [u5 1 (by omega)]; exact an_w_s e4
      · rw [u5 0 (by omega), an_w_c e4 (by decide), c0]; exact z10
      · rw [u5 0 (by omega), an_w_c e4 (by decide), c0]; exact z11
  by_cases k4 : k = 4
  · rw [if_neg (fun z => z (by rw [k4]))]
    rw [show sg = true by rw [hsg]; exact decide_eq_true k4] at go
    exact ⟨by omega, go⟩
  · rw [if_pos (fun z => k4 ((an_ck (by omega) (by omega)).mp z))]
    rw [show sg = false by rw [hsg]; exact decide_eq_false k4] at go
    exact ⟨by omega, go⟩
