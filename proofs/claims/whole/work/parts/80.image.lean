/-! image, the call. -/
variable {nb : Nat}
theorem an_im_take {L d : Nat} {μ : am_M} {F : Int32 → am_M → Prop} {v : Int32} (hv : ¬ v = 0) (hF : ∀ μ', an_un [142, 140] μ μ' → (∀ j, j < 16120 → μ' 142 j = μ 141 j) → (∀ f, f ≠ 3 → μ' 140 f = μ 140 f) → μ' 140 3 = nI 1 → F (nI 1) μ') : am_Ji L d 239 15 [some (.ref 140), some (.int v), some (.int (nI 0))] [] μ F := by
  suffices ∀ (n i : Nat) (μ1 : am_M), i + n = 16120 → an_un [142] μ μ1 → (∀ j, j < i → μ1 142 j = μ 141 j) → am_Ji L d 239 15 [some (.ref 140), some (.int v), some (.int (nI i))] [] μ1 F from this 16120 0 μ (by omega) an_un_rf (fun j hj => by omega)
  intro n
  induction n with
  | zero =>
    intro i μ1 hi u c
    obtain rfl : i = 16120 := by omega
    refine v_M_image_15 ?_
    rw [if_pos (nI_le (Nat.le_refl _) (by omega))]
    intro μ2 e2
    refine hF μ2 (an_un_tr u (e2 ▸ an_un_w (l := [140]) (by simp)) (by simp) (by simp)) (fun j hj => by rw [an_w_c e2 (by decide)]; exact c j hj) (fun f hf => by rw [an_w_o e2 hf, u 140 (by decide)]) (an_w_s e2)
  | succ n ih =>
    intro i μ1 hi u c
    refine v_M_image_15 ?_
    rw [if_neg (nI_ge (by omega) (by omega)), if_neg hv, am_gd_in (by omega) (by omega), am_gd_in (by omega) (by omega), am_cl (by omega), u 141 (by decide)]
    intro μ2 e2
    rw [nI_add]
    refine ih (i + 1) μ2 (by omega) (an_un_tr u (e2 ▸ an_un_w (by simp)) (fun _ q => q) (fun _ q => q)) (fun j hj => ?_)
    by_cases q : j = i
    · rw [q, an_w_s e2]
    · rw [an_w_o e2 q]; exact c j (by omega)
theorem an_im_give {L d : Nat} {μ : am_M} {F : Int32 → am_M → Prop} {v : Int32} (hv : v = 0) (hF : ∀ μ', an_un [141, 140] μ μ' → (∀ j, j < 16120 → μ' 141 j = μ 142 j) → (∀ f, f ≠ 3 → μ' 140 f = μ 140 f) → μ' 140 3 = nI 1 → F (nI 1) μ') : am_Ji L d 239 15 [some (.ref 140), some (.int v), some (.int (nI 0))] [] μ F := by
  suffices ∀ (n i : Nat) (μ1 : am_M), i + n = 16120 → an_un [141] μ μ1 → (∀ j, j < i → μ1 141 j = μ 142 j) → am_Ji L d 239 15 [some (.ref 140), some (.int v), some (.int (nI i))] [] μ1 F from this 16120 0 μ (by omega) an_un_rf (fun j hj => by omega)
  intro n
  induction n with
  | zero =>
    intro i μ1 hi u c
    obtain rfl : i = 16120 := by omega
    refine v_M_image_15 ?_
    rw [if_pos (nI_le (Nat.le_refl _) (by omega))]
    intro μ2 e2
    refine hF μ2 (an_un_tr u (e2 ▸ an_un_w (l := [140]) (by simp)) (by simp) (by simp)) (fun j hj => by rw [an_w_c e2 (by decide)]; exact c j hj) (fun f hf => by rw [an_w_o e2 hf, u 140 (by decide)]) (an_w_s e2)
  | succ n ih =>
    intro i μ1 hi u c
    refine v_M_image_15 ?_
    rw [if_neg (nI_ge (by omega) (by omega)), if_pos hv, am_gd_in (by omega) (by omega), am_gd_in (by omega) (by omega), am_cl (by omega), u 142 (by decide)]
    intro μ2 e2
    rw [nI_add]
    refine ih (i + 1) μ2 (by omega) (an_un_tr u (e2 ▸ an_un_w (by simp)) (fun _ q => q) (fun _ q => q)) (fun j hj => ?_)
    by_cases q : j = i
    · rw [q, an_w_s e2]
    · rw [an_w_o e2 q]; exact c j (by omega)
theorem op_image {L d : Nat} {μ : am_M} {p1 : Int32} {K : Int32 → Int32 → am_M → Prop} (hd : 30 ≤ d) (hG : an_G nb μ) (hK : ∀ r μ', an_G nb μ' → K r r μ') : am_Ci L d 128 [.ref 0, .int p1] μ (fun r1 μ1 => am_Ci L d 239 [.ref 140, .int p1] μ1 (fun r2 μ2 => K r1 r2 μ2)) := by
  have hS := hG.1
  generalize hw : μ 141 = w at hS
  obtain ⟨h1, h2, h3, h4, h5, h6, h7, h8, h9, h10, h11, h12, h13, h14, h15⟩ := id hS
  obtain ⟨hD, hN, hP, hKt, hE⟩ := id h1
  obtain ⟨eN, lN⟩ := an_cnt_e hN
  have hL : an_RL 58 w μ := h8
  have hC : an_RC 15 w μ := h9.1
  obtain ⟨D, lD, eD⟩ := hD
  obtain ⟨-, g2, g3, ⟨T, hT, t1, t2, t3⟩, g5, g6, g7, g8⟩ := id hG
  refine v_X_image ?_
  by_cases z : p1 = 0
  · rw [if_pos z, g2]
    rcases g3 with q | ⟨q, hS55⟩
    · rw [if_neg (fun y => y (by rw [q]; exact nI_0))]
      refine v_M_image ?_
      rw [if_neg (fun y => y z), if_neg (fun y => y (by rw [q]; exact nI_0))]
      exact hK _ _ hG
    · rw [if_pos (by rw [q]; decide)]
      refine ⟨by omega, s_World_copyFrom_out (by omega) (fun μ1 c1 => ?_)⟩
      have k1 : ∀ c, c < 14 ∨ c = 15 ∨ 69 ≤ c → μ1 c = μ c := fun c hc => c1.2 c (fun e he => by
        have : ∀ e, e ∈ an_full → 14 ≤ e.1 ∧ e.1 ≤ 68 ∧ e.1 ≠ 15 := by decide
        have := this e he
        omega)
      have hS1 := an_S_cp hS55 c1
      refine v_M_image ?_
      rw [if_neg (fun y => y z), k1 140 (by omega), if_pos (by rw [q]; decide)]
      refine an_im_give z (fun μ2 u2 w2 o2 t2' => ?_)
      have v : ∀ c, c < 14 ∨ c = 15 ∨ 69 ≤ c → c ≠ 141 → c ≠ 140 → μ2 c = μ c := fun c hc h1 h2 => (u2 c (by simp [h1, h2])).trans (k1 c hc)
      have hS2 : an_S nb 0 (μ2 141) μ2 := an_S_w (an_S_c hS1 (fun c hc => u2 c (by have := hc.2.1; simp; omega))) (fun j hj => by rw [w2 j hj, k1 142 (by omega)])
      refine hK _ _ ⟨hS2, ?_, ?_, ⟨T, hT, ?_, ?_, fun i hi => ?_⟩, ?_, ?_, ?_, ?_⟩
      · rw [v 0 (by omega) (by omega) (by omega), t2', g2]; exact q
      · refine Or.inr ⟨t2', ?_⟩
        rw [v 142 (by omega) (by omega) (by omega)]
        exact an_S_c hS55 (fun c hc => v c (by have := hc.1; omega) (by have := hc.2.1; omega) (by have := hc.2.1; omega))
      · rw [v 1 (by omega) (by omega) (by omega)]; exact t1
      · rw [o2 12 (by decide), k1 140 (by omega)]; exact t2
      · rw [v 2 (by omega) (by omega) (by omega), v 146 (by omega) (by omega) (by omega)]; exact t3 i hi
      · rw [v 0 (by omega) (by omega) (by omega), o2 19 (by decide), k1 140 (by omega)]; exact g5
      · rw [v 0 (by omega) (by omega) (by omega), o2 21 (by decide), k1 140 (by omega)]; exact g6
      · rw [v 15 (by omega) (by omega) (by omega)]; exact g7
      · rw [o2 27 (by decide), k1 140 (by omega)]; exact g8
  · rw [if_neg z]
    refine ⟨by omega, s_World_copyFrom_in (by omega) (fun μ1 c1 => ?_)⟩
    have k1 : ∀ c, c < 69 ∨ 124 ≤ c → μ1 c = μ c := fun c hc => c1.2 c (fun e he => by
      have : ∀ e, e ∈ an_full → 14 ≤ e.1 ∧ e.1 ≤ 68 ∧ e.1 ≠ 15 := by decide
      have := this e he
      omega)
    have hS1 := an_S_cp hS c1
    intro μ2 e2
    refine v_M_image ?_
    rw [if_pos z]
    refine an_im_take z (fun μ3 u3 w3 o3 t3' => ?_)
    have v : ∀ c, c < 69 ∨ 124 ≤ c → c ≠ 0 → c ≠ 142 → c ≠ 140 → μ3 c = μ c := fun c hc h0 h1 h2 => (u3 c (by simp [h1, h2])).trans ((an_w_c e2 h0).trans (k1 c hc))
    have v0 : ∀ f, f ≠ 9 → μ3 0 f = μ 0 f := fun f hf => by rw [u3 0 (by decide), an_w_o e2 hf, k1 0 (by omega)]
    have v140 : ∀ f, f ≠ 3 → μ3 140 f = μ 140 f := fun f hf => by rw [o3 f hf, an_w_c e2 (by decide), k1 140 (by omega)]
    have m2 : μ2 141 = w := by rw [an_w_c e2 (by decide), k1 141 (by omega), hw]
    refine hK _ _ ⟨?_, ?_, ?_, ⟨T, hT, ?_, ?_, fun i hi => ?_⟩, ?_, ?_, ?_, ?_⟩
    · rw [v 141 (by omega) (by omega) (by omega) (by omega), hw]
      exact an_S_c hS (fun c hc => v c (by have := hc.2.1; omega) (by have := hc.1; omega) (by have := hc.2.1; omega) (by have := hc.2.1; omega))
    · rw [u3 0 (by decide), an_w_s e2, t3']
    · refine Or.inr ⟨t3', ?_⟩
      refine an_S_w (an_S_c hS1 (fun c hc => ?_)) (fun j hj => by rw [w3 j hj, m2])
      have h1 := hc.1
      have h2 := hc.2.1
      rw [u3 c (by simp; omega), an_w_c e2 (by omega)]
    · rw [v 1 (by omega) (by omega) (by omega) (by omega)]; exact t1
    · rw [v140 12 (by decide)]; exact t2
    · rw [v 2 (by omega) (by omega) (by omega) (by omega), v 146 (by omega) (by omega) (by omega) (by omega)]; exact t3 i hi
    · rw [v0 10 (by decide), v140 19 (by decide)]; exact g5
    · rw [v0 11 (by decide), v140 21 (by decide)]; exact g6
    · rw [v 15 (by omega) (by omega) (by omega) (by omega)]; exact g7
    · rw [v140 27 (by decide)]; exact g8
