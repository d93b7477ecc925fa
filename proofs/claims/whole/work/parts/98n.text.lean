/-! Texts: the call. -/
variable {nb : Nat}
theorem s_M_text {L d k T : Nat} {μ : am_M} {F : Int32 → am_M → Prop} {B : Nat → Nat} {sg : Bool} (hd : 50 ≤ d) (hk : k < 5) (hsg : sg = decide (k = 4)) (hB : an_tb 146 μ B T) (h12 : μ 140 12 = nI T)
    (hE : ∀ μ' e, an_un [140, 144, 145] μ μ' → (∀ f, f = 3 ∨ f = 27 → μ' 140 f = μ 140 f) → μ' 140 12 = nI 0 → an_ptx sg (an_tk sg B T) 12 0 = .inr e → μ' 140 19 = nI e.1 → μ' 140 21 = nI (an_tk sg B T e.2).2.2.1 → F (- nI 1) μ')
    (hS : ∀ μ' l, an_un [140, 141, 144, 145] μ μ' → (∀ f, f = 3 ∨ f = 27 → μ' 140 f = μ 140 f) → μ' 140 12 = nI 0 → an_ptx sg (an_tk sg B T) 12 0 = .inl l → μ' 140 19 = nI 0 → μ' 140 21 = - nI 1 → (∀ y, (∀ i', i' < 12 → y ≠ 5470 + (12 * k + i') ∧ y ≠ 5530 + (12 * k + i') ∧ y ≠ 5590 + (12 * k + i') ∧ y ≠ 5650 + (12 * k + i')) → y ≠ 5460 + k → ¬ (5710 + 820 * k ≤ y ∧ y < 5710 + 820 * k + 820) → μ' 141 y = μ 141 y) → μ' 141 (5460 + k) = nI l.length → an_txM (μ' 141) k l → F (nI l.length) μ') : am_Ci L d 176 [.ref 140, .int (nI k)] μ F := by
  obtain ⟨N, n0, n1, n2, n3, n4, n5⟩ := an_tk_N (sg := sg) (B := B) (T := T)
  have ht : an_tkk sg B T N := ⟨⟨n4, fun j hj => by rw [n3 j hj]⟩, fun j => (n5 j).2⟩
  have hT := hB.1
  refine v_M_text ?_
  intro μ1 e1
  refine ⟨by omega, ?_⟩
  rw [if_neg (nI_nlt (by omega) (by omega)), if_neg (nI_nlt (by omega) (by omega))]
  intro μ2 e2 μ3 e3 μ4 e4 μ5 e5
  have x9 : μ5 140 9 = nI k := by rw [an_w_o e5 (by decide), an_w_o e4 (by decide), an_w_o e3 (by decide)]; exact an_w_s e2
  have x10 : μ5 140 10 = nI 0 := by rw [an_w_o e5 (by decide)]; exact an_w_s e4
  have x11 : μ5 140 11 = nI 0 := an_w_s e5
  have x13 : μ5 140 13 = nI 0 := by rw [an_w_o e5 (by decide), an_w_o e4 (by decide)]; exact an_w_s e3
  have x17 : μ5 140 17 = nI 0 := by rw [an_w_o e5 (by decide), an_w_o e4 (by decide), an_w_o e3 (by decide), an_w_o e2 (by decide)]; exact an_w_s e1
  have x12 : μ5 140 12 = nI T := by rw [an_w_o e5 (by decide), an_w_o e4 (by decide), an_w_o e3 (by decide), an_w_o e2 (by decide), an_w_o e1 (by decide)]; exact h12
  have c5 : ∀ c, c ≠ 140 → μ5 c = μ c := fun c hc => by rw [an_w_c e5 hc, an_w_c e4 hc, an_w_c e3 hc, an_w_c e2 hc, an_w_c e1 hc]
  have f5 : ∀ f, f = 3 ∨ f = 27 → μ5 140 f = μ 140 f := fun f hf => by rw [an_w_o e5 (by omega), an_w_o e4 (by omega), an_w_o e3 (by omega), an_w_o e2 (by omega), an_w_o e1 (by omega)]
  have B5 : an_tb 146 μ5 B T := ⟨hT, fun j hj => by rw [c5 146 (by decide)]; exact hB.2 j hj⟩
  have w5 : an_wh sg μ5 := ⟨k, hk, x9, hsg⟩
  refine ⟨by omega, w_next (p := 0) (by omega) B5 x12 w5 x13 (by omega) (fun μ6 u6 s6 => ?_)⟩
  have I6 : an_mI sg B T N μ6 0 0 := by
    refine ⟨⟨⟨hT, fun j hj => by rw [u6.1 146 (by decide)]; exact B5.2 j hj⟩, by rw [u6.2 12 (by decide) (by decide) (by decide) (by decide)]; exact x12, ?_⟩, s6, n0, by omega, ⟨by rw [u6.2 11 (by decide) (by decide) (by decide) (by decide)]; exact x11, by rw [u6.2 17 (by decide) (by decide) (by decide) (by decide)]; exact x17⟩, Nat.le_refl _⟩
    unfold an_wh
    rw [u6.2 9 (by decide) (by decide) (by decide) (by decide)]
    exact w5
  have y10 : μ6 140 10 = nI 0 := by rw [u6.2 10 (by decide) (by decide) (by decide) (by decide)]; exact x10
  have c6 : ∀ c, c ≠ 140 → μ6 c = μ c := fun c hc => by rw [u6.1 c (by simpa using hc), c5 c hc]
  have f6 : ∀ f, f = 3 ∨ f = 27 → μ6 140 f = μ 140 f := fun f hf => by rw [u6.2 f (by omega) (by omega) (by omega) (by omega), f5 f hf]
  refine m_lines (sg := sg) ht (fun z j => by subst z; exact an_tk_s j) 12 0 0 0 d [] μ6 F (by omega) (by omega) rfl I6 y10 (fun i e he => by simp at he) (fun μ7 e f7 p7 a7 b7 => ?_) (fun μ7 l j' n' f7 p7 I7 z7 y7 X7 => ?_)
  · have c7 : ∀ c, c ≠ 140 → c ≠ 144 → c ≠ 145 → μ7 c = μ c := fun c h1 h2 h3 => by rw [f7.1 c (by simp; omega), c6 c h1]
    have f7' : ∀ f, f = 3 ∨ f = 27 → μ7 140 f = μ 140 f := fun f hf => by rw [f7.2 f (by omega) (by omega) (by omega) (by omega) (by omega) (by omega) (by omega) (by omega) (by omega), f6 f hf]
    refine v_M_text_57 ?_
    rw [if_pos nI_0]
    intro μ8 e8 μ9 e9
    rw [if_pos nI_0]
    intro μ10 e10
    rw [if_neg (fun z => z nI_0)]
    refine hE μ10 e (fun c hc => ?_) (fun f hf => ?_) ?_ p7 ?_ ?_
    · simp only [List.mem_cons, List.not_mem_nil, or_false, not_or] at hc
      rw [an_w_c e10 hc.1, an_w_c e9 hc.1, an_w_c e8 hc.1, c7 c hc.1 hc.2.1 hc.2.2]
    · rw [an_w_o e10 (by omega), an_w_o e9 (by omega), an_w_o e8 (by omega), f7' f hf]
    · rw [an_w_o e10 (by decide), an_w_o e9 (by decide)]; exact an_w_s e8
    · rw [an_w_o e10 (by decide), an_w_s e9, an_w_o e8 (by decide)]; exact a7
    · rw [an_w_s e10, an_w_o e9 (by decide), an_w_o e8 (by decide)]; exact b7
  · have c7 : ∀ c, c ≠ 140 → c ≠ 144 → c ≠ 145 → μ7 c = μ c := fun c h1 h2 h3 => by rw [f7.1 c (by simp; omega), c6 c h1]
    have f7' : ∀ f, f = 3 ∨ f = 27 → μ7 140 f = μ 140 f := fun f hf => by rw [f7.2 f (by omega) (by omega) (by omega) (by omega) (by omega) (by omega) (by omega) (by omega) (by omega), f6 f hf]
    rw [List.nil_append] at y7 X7
    have l12 : l.length ≤ 12 := (an_okl_tx n4 12 0 l p7).1
    obtain ⟨i1, ⟨t1, t2, t3, t4⟩, i3, i4, ⟨i5, i7⟩, i6⟩ := I7
    have m0 : an_mt sg (an_tk sg B T j').1 (an_tk sg B T j').2.1 = 0 := by rw [z7]; rfl
    rw [m0] at t1
    refine v_M_text_57 ?_
    rw [if_neg (by decide), t1, if_pos nI_0]
    intro μ8 e8 μ9 e9
    rw [if_neg (by decide)]
    intro μ10 e10
    rw [if_pos (by decide), nI_add, am_gd_in (by omega) (by omega), am_cl (by omega)]
    have y10 : μ10 140 10 = nI l.length := by rw [an_w_o e10 (by decide), an_w_o e9 (by decide), an_w_o e8 (by decide)]; exact y7
    rw [y10]
    intro μ11 e11
    have z10 : μ11 140 10 = nI l.length := by rw [an_w_c e11 (by decide)]; exact y10
    have z11 : μ11 140 11 = nI n' := by rw [an_w_c e11 (by decide), an_w_o e10 (by decide), an_w_o e9 (by decide), an_w_o e8 (by decide)]; exact i5
    refine m_cl hk l12 l.length 0 μ11 (by omega) z10 (fun μ12 u12 o12 v12 => ?_)
    have z12 : μ12 140 11 = nI n' := by rw [u12 140 (by decide)]; exact z11
    refine m_cs hk (n := n') (by omega) (2 * n') 0 μ12 (by omega) z12 (fun μ13 u13 o13 v13 => ?_)
    have r140 : μ13 140 = μ10 140 := by rw [u13 140 (by decide), u12 140 (by decide), an_w_c e11 (by decide)]
    rw [r140, y10]
    have r141 : ∀ y, (∀ i', i' < 12 → y ≠ 5470 + (12 * k + i') ∧ y ≠ 5530 + (12 * k + i') ∧ y ≠ 5590 + (12 * k + i') ∧ y ≠ 5650 + (12 * k + i')) → y ≠ 5460 + k → ¬ (5710 + 820 * k ≤ y ∧ y < 5710 + 820 * k + 820) → μ13 141 y = μ 141 y := by
      intro y h1 h2 h3
      rw [o13 y (fun i' a b => by omega), o12 y (fun i' a b => h1 i' (by omega)), an_w_o e11 h2, an_w_c e10 (by decide), an_w_c e9 (by decide), an_w_c e8 (by decide), c7 141 (by decide) (by decide) (by decide)]
    refine hS μ13 l (fun c hc => ?_) (fun f hf => ?_) ?_ p7 ?_ ?_ r141 ?_ (fun i e he => ?_)
    · simp only [List.mem_cons, List.not_mem_nil, or_false, not_or] at hc
      rw [u13 c (by simp; omega), u12 c (by simp; omega), an_w_c e11 hc.2.1, an_w_c e10 hc.1, an_w_c e9 hc.1, an_w_c e8 hc.1, c7 c hc.1 hc.2.2.1 hc.2.2.2]
    · rw [r140, an_w_o e10 (by omega), an_w_o e9 (by omega), an_w_o e8 (by omega), f7' f hf]
    · rw [r140, an_w_o e10 (by decide), an_w_o e9 (by decide)]; exact an_w_s e8
    · rw [r140, an_w_o e10 (by decide), an_w_s e9, an_w_o e8 (by decide)]; exact i7
    · rw [r140]; exact an_w_s e10
    · rw [o13 _ (fun i' a b => by omega), o12 _ (fun i' a b => by omega)]; exact an_w_s e11
    · have hi := (List.getElem?_eq_some_iff.mp he).1
      obtain ⟨f, g, h, g1, g2, g3, g4, g5, g6, g7⟩ := X7 i e he
      obtain ⟨v1, v2, v3, v4⟩ := v12 i (by omega) hi
      have r144 : μ11 144 = μ7 144 := by rw [an_w_c e11 (by decide), an_w_c e10 (by decide), an_w_c e9 (by decide), an_w_c e8 (by decide)]
      have r145 : μ12 145 = μ7 145 := by rw [u12 145 (by decide), an_w_c e11 (by decide), an_w_c e10 (by decide), an_w_c e9 (by decide), an_w_c e8 (by decide)]
      have le := (an_sq_le an_rws_lt _ _ _ g7).1
      rw [r144] at v1 v2 v3 v4
      have row : ∀ x, x < 2 * h → μ13 141 (5710 + 820 * k + x) = μ7 145 x := fun x hx => by rw [v13 x (by omega) (by omega), r145]
      refine ⟨f, g, h, ?_, ?_, ?_, ?_, by omega, an_sqr_c g6 (fun x hx => row x (by omega)), an_sqr_c g7 row⟩
      · rw [o13 _ (fun i' a b => by omega), v1]; exact g1
      · rw [o13 _ (fun i' a b => by omega), v2]; exact g2
      · rw [o13 _ (fun i' a b => by omega), v3]; exact g3
      · rw [o13 _ (fun i' a b => by omega), v4]; exact g4
