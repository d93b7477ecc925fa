/-! pay. -/
variable {nb : Nat}
theorem s_M_pay {L d : Nat} {μ : am_M} {F : Int32 → am_M → Prop} {w : an_W} {h x t b a D : Nat} {ls : List an_Ln} (hd : 8 ≤ d) (hh : h < 6) (hx : x < 4) (ht : t < 6) (hb : b < 4) (ha : 0 < a) (ha2 : a < 100000) (hD : w 0 = nI D) (hD9 : D < 90) (hw : μ 141 = w) (hT : an_WT w) (hE : an_N (w 9810) 901) (hN : an_N (w 1) 151) (h150 : an_cnt w < 150) (hbz : W_biz w D = true) (hk : an_okl false ls) (hM : an_scM w b ls)
    (hF : ∀ μ', an_un [141, 147, 148] μ μ' → μ' 141 = W_pay w ls h x t b a → F (nI (an_cnt w)) μ') : am_Ci L d 191 [.ref 140, .int (nI h), .int (nI x), .int (nI t), .int (nI b), .int (nI a)] μ F := by
  obtain ⟨eN, lN⟩ := an_cnt_e hN
  have eday : an_day w = D := by unfold an_day; rw [hD, am_cl (by omega)]
  obtain ⟨ea, la⟩ := an_T_e hT hb
  obtain ⟨eb, lb⟩ := an_T_e hT hx
  obtain ⟨er, lr⟩ := an_R_e hT hb hx
  refine v_M_pay ?_
  rw [am_dp (by omega), am_dp (by omega), if_neg (nI_nlt (by omega) (by omega)), if_neg (nI_nlt (by omega) (by omega)), am_dp (by omega), am_dp (by omega), if_neg (nI_nlt (by omega) (by omega)), if_neg (nI_nlt (by omega) (by omega)), am_dp (by omega), am_dp (by omega), if_neg (nI_nlt (by omega) (by omega)), if_neg (nI_nlt (by omega) (by omega)), am_dp (by omega), am_dp (by omega), if_neg (nI_nlt (by omega) (by omega)), if_neg (nI_nlt (by omega) (by omega)), am_dp (by omega), if_neg (nI_nlt (by omega) (by omega)), if_neg (nI_nlt (by omega) (by omega)), hw, hD]
  refine ⟨by omega, s_M_isBusiness hw (by omega) ?_⟩
  rw [an_bf, hbz]
  have n150 : ¬ nI (an_cnt w) = nI 150 := fun z => by have := (nI_eq (by omega) (by omega)).mp z; omega
  show if ¬ μ 141 1 = nI 150 then _ else _
  simp (discharger := omega) only [hw, eN, n150, not_false_eq_true, if_true, nI_add, pk_mul, am_gd_in, am_cl, am_dp, ea, eb, er, hD]
  by_cases hq : an_T w b = an_T w x
  · have hfar : an_far w b x = false := by unfold an_far; rw [hq, Nat.beq_refl]; rfl
    rw [if_pos (by rw [hq])]
    refine s_M_gathers (far := false) (by omega) ht hb (by omega) hw hN (fun μ3 u3 f3 => ?_)
    have w3 : μ3 141 = w := (u3 141 (by decide)).trans hw
    refine s_M_tells (by omega) hb (by omega) hk hM μ3 w3 f3 (fun μ4 u4 => ?_)
    have w4 : μ4 141 = w := (u4 141 (by decide)).trans w3
    have eh : an_cla (an_most 0) (an_val (W_fal w t b (nI a) (nI (an_R w b x)) (nI (D % 7)) false) 0 ls) = an_hold w ls t b x a := by
      unfold an_hold W_law
      rw [eday, hfar]
    rw [eh]
    intro μ6 e6 μ7 e7 μ8 e8 μ9 e9 μ10 e10
    have c10 : μ10 141 0 = w 0 := by rw [an_w_o e10 (by omega), an_w_o e9 (by omega), an_w_o e8 (by omega), an_w_o e7 (by omega), an_w_o e6 (by omega), w4]
    rw [c10]
    intro μ11 e11 μ12 e12
    have c12 : ∀ j, j < 3640 → μ12 141 j = w j := fun j hj => by rw [an_w_o e12 (by omega), an_w_o e11 (by omega), an_w_o e10 (by omega), an_w_o e9 (by omega), an_w_o e8 (by omega), an_w_o e7 (by omega), an_w_o e6 (by omega), w4]
    rw [c12 (10 + b) (by omega), c12 (10 + x) (by omega), ea, eb, pk_mul, nI_add, nI_add, am_gd_in (by omega) (by omega), am_cl (by omega), c12 _ (by omega), er]
    intro μ13 e13 μ14 e14 μ15 e15
    have w15 : μ15 141 = an_uf w (3640 + 12 * an_cnt w) (an_prow w ls h x t b a) := by
      rw [e15, am_w_at, e14, am_w_at, e13, am_w_at, e12, am_w_at, e11, am_w_at, e10, am_w_at, e9, am_w_at, e8, am_w_at, e7, am_w_at, e6, am_w_at, w4]
      rfl
    have hlen : (an_prow w ls h x t b a).length = 10 := rfl
    have w15E : an_N (an_uf w (3640 + 12 * an_cnt w) (an_prow w ls h x t b a) 9810) 901 := by rw [an_uf_out _ _ _ _ (by rw [hlen]; omega)]; exact hE
    refine s_M_books ht hb w15 w15E (fun μ16 u16 w16 => ?_)
    have c16 : μ16 141 1 = nI (an_cnt w) := by rw [w16, W_books_o (by omega) (by omega), an_uf_out _ _ _ _ (by omega), eN]
    rw [c16, nI_add]
    intro μ17 e17
    refine hF μ17 (fun c hc => ?_) ?_
    · simp only [List.mem_cons, List.not_mem_nil, or_false, not_or] at hc
      obtain ⟨h1, h2, h3⟩ := hc
      rw [an_w_c e17 h1, u16 c (by simp [h1]), an_w_c e15 h1, an_w_c e14 h1, an_w_c e13 h1, an_w_c e12 h1, an_w_c e11 h1, an_w_c e10 h1, an_w_c e9 h1, an_w_c e8 h1, an_w_c e7 h1, an_w_c e6 h1, u4 c (by simp [h2]), u3 c (by simp [h3])]
    · rw [e17, am_w_at, w16]
      rfl
  · have hfar : an_far w b x = true := by unfold an_far; rw [am_nb hq]; rfl
    rw [if_neg (fun z => hq ((nI_eq (by omega) (by omega)).mp z))]
    refine s_M_gathers (far := true) (by omega) ht hb (by omega) hw hN (fun μ3 u3 f3 => ?_)
    have w3 : μ3 141 = w := (u3 141 (by decide)).trans hw
    refine s_M_tells (by omega) hb (by omega) hk hM μ3 w3 f3 (fun μ4 u4 => ?_)
    have w4 : μ4 141 = w := (u4 141 (by decide)).trans w3
    have eh : an_cla (an_most 0) (an_val (W_fal w t b (nI a) (nI (an_R w b x)) (nI (D % 7)) true) 0 ls) = an_hold w ls t b x a := by
      unfold an_hold W_law
      rw [eday, hfar]
    rw [eh]
    intro μ6 e6 μ7 e7 μ8 e8 μ9 e9 μ10 e10
    have c10 : μ10 141 0 = w 0 := by rw [an_w_o e10 (by omega), an_w_o e9 (by omega), an_w_o e8 (by omega), an_w_o e7 (by omega), an_w_o e6 (by omega), w4]
    rw [c10]
    intro μ11 e11 μ12 e12
    have c12 : ∀ j, j < 3640 → μ12 141 j = w j := fun j hj => by rw [an_w_o e12 (by omega), an_w_o e11 (by omega), an_w_o e10 (by omega), an_w_o e9 (by omega), an_w_o e8 (by omega), an_w_o e7 (by omega), an_w_o e6 (by omega), w4]
    rw [c12 (10 + b) (by omega), c12 (10 + x) (by omega), ea, eb, pk_mul, nI_add, nI_add, am_gd_in (by omega) (by omega), am_cl (by omega), c12 _ (by omega), er]
    intro μ13 e13 μ14 e14 μ15 e15
    have w15 : μ15 141 = an_uf w (3640 + 12 * an_cnt w) (an_prow w ls h x t b a) := by
      rw [e15, am_w_at, e14, am_w_at, e13, am_w_at, e12, am_w_at, e11, am_w_at, e10, am_w_at, e9, am_w_at, e8, am_w_at, e7, am_w_at, e6, am_w_at, w4]
      rfl
    have hlen : (an_prow w ls h x t b a).length = 10 := rfl
    have w15E : an_N (an_uf w (3640 + 12 * an_cnt w) (an_prow w ls h x t b a) 9810) 901 := by rw [an_uf_out _ _ _ _ (by rw [hlen]; omega)]; exact hE
    refine s_M_books ht hb w15 w15E (fun μ16 u16 w16 => ?_)
    have c16 : μ16 141 1 = nI (an_cnt w) := by rw [w16, W_books_o (by omega) (by omega), an_uf_out _ _ _ _ (by omega), eN]
    rw [c16, nI_add]
    intro μ17 e17
    refine hF μ17 (fun c hc => ?_) ?_
    · simp only [List.mem_cons, List.not_mem_nil, or_false, not_or] at hc
      obtain ⟨h1, h2, h3⟩ := hc
      rw [an_w_c e17 h1, u16 c (by simp [h1]), an_w_c e15 h1, an_w_c e14 h1, an_w_c e13 h1, an_w_c e12 h1, an_w_c e11 h1, an_w_c e10 h1, an_w_c e9 h1, an_w_c e8 h1, an_w_c e7 h1, an_w_c e6 h1, u4 c (by simp [h2]), u3 c (by simp [h3])]
    · rw [e17, am_w_at, w16]
      rfl
theorem an_cla_N (m : Nat) (y : Int32) (hm : m < 2147483647) : an_N (an_cla m y) (m + 1) := by
  unfold an_cla
  split
  · split
    · rename_i h1 h2
      obtain ⟨j, hj, rfl⟩ := nI_of (Int32.not_lt.mpr h1)
      rcases Nat.lt_or_ge j (m + 1) with q | q
      · exact ⟨j, q, rfl⟩
      · exact absurd h2 (nI_ge (by omega) hj)
    · exact ⟨m, by omega, rfl⟩
  · exact ⟨0, by omega, rfl⟩
theorem W_pay_o {w : an_W} {ls : List an_Ln} {h x t b a j : Nat} (hj : j < 9810) (h1 : j ≠ 1) (h2 : j ≠ 210 + 4 * t + b) (h3 : j < 3640 + 12 * an_cnt w ∨ 3640 + 12 * an_cnt w + 10 ≤ j) : W_pay w ls h x t b a j = w j := by
  unfold W_pay
  rw [pk_un h1, W_books_o hj h2, an_uf_out _ _ _ _ (by exact h3)]
theorem W_pay_k {w : an_W} {ls : List an_Ln} {h x t b a f : Nat} (hk : an_cnt w < 150) (ht : t < 6) (hb : b < 4) (hf : f < 10) : W_pay w ls h x t b a (3640 + 12 * an_cnt w + f) = (an_prow w ls h x t b a).getD f 0 := by
  unfold W_pay
  rw [pk_un (by omega), W_books_o (by omega) (by omega), an_uf_in _ _ _ _ (by exact hf)]
theorem op_pay {L d : Nat} {μ : am_M} {p1 p2 p3 p4 p5 : Int32} {K : Int32 → Int32 → am_M → Prop} (hd : 30 ≤ d) (hG : an_G nb μ) (hK : ∀ r μ', an_G (nb + 1) μ' → K r r μ') : am_Ci L d 101 [.ref 0, .int p1, .int p2, .int p3, .int p4, .int p5] μ (fun r1 μ1 => am_Ci L d 191 [.ref 140, .int p1, .int p2, .int p3, .int p4, .int p5] μ1 (fun r2 μ2 => K r1 r2 μ2)) := by
  have hS := hG.1
  generalize hw : μ 141 = w at hS
  obtain ⟨h1, h2, h3, h4, h5, h6, h7, h8, h9, h10, h11, h12, h13, h14, h15⟩ := id hS
  obtain ⟨hD, hN, hP, hKt, hE⟩ := id h1
  obtain ⟨eN, lN⟩ := an_cnt_e hN
  have hL : an_RL 58 w μ := h8
  have hC : an_RC 15 w μ := h9.1
  obtain ⟨D, lD, eD⟩ := hD
  have hT := h2.1
  have hday := an_k5_days ⟨D, lD, eD⟩ h5
  rcases an_arg p1 6 (by omega) (by omega) with ⟨a1, a2⟩ | ⟨a1, a2, a3, a4⟩ | ⟨h, hh, rfl⟩
  · refine v_X_pay ?_
    rw [am_dp (by omega), if_pos a1]
    refine v_M_pay ?_
    rw [am_dp (by omega), am_dp (by omega), if_pos a2]
    exact hK _ _ (an_G_mo hG)
  · have a5 : nI 5 < p1 := a4
    refine v_X_pay ?_
    rw [am_dp (by omega), if_neg a1, if_pos a3]
    refine v_M_pay ?_
    rw [am_dp (by omega), am_dp (by omega), if_neg a2, if_pos a5]
    exact hK _ _ (an_G_mo hG)
  rcases an_arg p2 4 (by omega) (by omega) with ⟨a1, a2⟩ | ⟨a1, a2, a3, a4⟩ | ⟨x, hx, rfl⟩
  · refine v_X_pay ?_
    rw [am_dp (by omega), if_neg (nI_pos (by omega)), if_neg (nI_ge (by omega) (by omega)), am_dp (by omega), if_pos a1]
    refine v_M_pay ?_
    rw [am_dp (by omega), am_dp (by omega), if_neg (nI_nlt (by omega) (by omega)), if_neg (nI_nlt (by omega) (by omega)), am_dp (by omega), am_dp (by omega), if_pos a2]
    exact hK _ _ (an_G_mo hG)
  · have a5 : nI 3 < p2 := a4
    refine v_X_pay ?_
    rw [am_dp (by omega), if_neg (nI_pos (by omega)), if_neg (nI_ge (by omega) (by omega)), am_dp (by omega), if_neg a1, if_pos a3]
    refine v_M_pay ?_
    rw [am_dp (by omega), am_dp (by omega), if_neg (nI_nlt (by omega) (by omega)), if_neg (nI_nlt (by omega) (by omega)), am_dp (by omega), am_dp (by omega), if_neg a2, if_pos a5]
    exact hK _ _ (an_G_mo hG)
  rcases an_arg p3 6 (by omega) (by omega) with ⟨a1, a2⟩ | ⟨a1, a2, a3, a4⟩ | ⟨t, ht, rfl⟩
  · refine v_X_pay ?_
    rw [am_dp (by omega), if_neg (nI_pos (by omega)), if_neg (nI_ge (by omega) (by omega)), am_dp (by omega), if_neg (nI_pos (by omega)), if_neg (nI_ge (by omega) (by omega)), am_dp (by omega), if_pos a1]
    refine v_M_pay ?_
    rw [am_dp (by omega), am_dp (by omega), if_neg (nI_nlt (by omega) (by omega)), if_neg (nI_nlt (by omega) (by omega)), am_dp (by omega), am_dp (by omega), if_neg (nI_nlt (by omega) (by omega)), if_neg (nI_nlt (by omega) (by omega)), am_dp (by omega), am_dp (by omega), if_pos a2]
    exact hK _ _ (an_G_mo hG)
  · have a5 : nI 5 < p3 := a4
    refine v_X_pay ?_
    rw [am_dp (by omega), if_neg (nI_pos (by omega)), if_neg (nI_ge (by omega) (by omega)), am_dp (by omega), if_neg (nI_pos (by omega)), if_neg (nI_ge (by omega) (by omega)), am_dp (by omega), if_neg a1, if_pos a3]
    refine v_M_pay ?_
    rw [am_dp (by omega), am_dp (by omega), if_neg (nI_nlt (by omega) (by omega)), if_neg (nI_nlt (by omega) (by omega)), am_dp (by omega), am_dp (by omega), if_neg (nI_nlt (by omega) (by omega)), if_neg (nI_nlt (by omega) (by omega)), am_dp (by omega), am_dp (by omega), if_neg a2, if_pos a5]
    exact hK _ _ (an_G_mo hG)
  rcases an_arg p4 4 (by omega) (by omega) with ⟨a1, a2⟩ | ⟨a1, a2, a3, a4⟩ | ⟨b, hb, rfl⟩
  · refine v_X_pay ?_
    rw [am_dp (by omega), if_neg (nI_pos (by omega)), if_neg (nI_ge (by omega) (by omega)), am_dp (by omega), if_neg (nI_pos (by omega)), if_neg (nI_ge (by omega) (by omega)), am_dp (by omega), if_neg (nI_pos (by omega)), if_neg (nI_ge (by omega) (by omega)), am_dp (by omega), if_pos a1]
    refine v_M_pay ?_
    rw [am_dp (by omega), am_dp (by omega), if_neg (nI_nlt (by omega) (by omega)), if_neg (nI_nlt (by omega) (by omega)), am_dp (by omega), am_dp (by omega), if_neg (nI_nlt (by omega) (by omega)), if_neg (nI_nlt (by omega) (by omega)), am_dp (by omega), am_dp (by omega), if_neg (nI_nlt (by omega) (by omega)), if_neg (nI_nlt (by omega) (by omega)), am_dp (by omega), am_dp (by omega), if_pos a2]
    exact hK _ _ (an_G_mo hG)
  · have a5 : nI 3 < p4 := a4
    refine v_X_pay ?_
    rw [am_dp (by omega), if_neg (nI_pos (by omega)), if_neg (nI_ge (by omega) (by omega)), am_dp (by omega), if_neg (nI_pos (by omega)), if_neg (nI_ge (by omega) (by omega)), am_dp (by omega), if_neg (nI_pos (by omega)), if_neg (nI_ge (by omega) (by omega)), am_dp (by omega), if_neg a1, if_pos a3]
    refine v_M_pay ?_
    rw [am_dp (by omega), am_dp (by omega), if_neg (nI_nlt (by omega) (by omega)), if_neg (nI_nlt (by omega) (by omega)), am_dp (by omega), am_dp (by omega), if_neg (nI_nlt (by omega) (by omega)), if_neg (nI_nlt (by omega) (by omega)), am_dp (by omega), am_dp (by omega), if_neg (nI_nlt (by omega) (by omega)), if_neg (nI_nlt (by omega) (by omega)), am_dp (by omega), am_dp (by omega), if_neg a2, if_pos a5]
    exact hK _ _ (an_G_mo hG)
  have amt : p5 < nI 1 ∨ (¬ p5 < nI 1 ∧ nI 99999 < p5) ∨ ∃ a, 0 < a ∧ a < 100000 ∧ p5 = nI a := by
    rcases an_arg p5 100000 (by omega) (by omega) with ⟨a1, a2⟩ | ⟨a1, a2, a3, a4⟩ | ⟨a, ha, rfl⟩
    · exact Or.inl (Int32.lt_trans a1 (by decide))
    · have a5 : nI 99999 < p5 := a4
      exact Or.inr (Or.inl ⟨fun q => absurd (Int32.lt_trans a5 q) (by decide), a5⟩)
    · rcases Nat.eq_zero_or_pos a with q | q
      · exact Or.inl (by rw [q]; decide)
      · exact Or.inr (Or.inr ⟨a, q, ha, rfl⟩)
  rcases amt with a1 | ⟨a1, a2⟩ | ⟨a, ha0, ha, rfl⟩
  · refine v_X_pay ?_
    rw [am_dp (by omega), if_neg (nI_pos (by omega)), if_neg (nI_ge (by omega) (by omega)), am_dp (by omega), if_neg (nI_pos (by omega)), if_neg (nI_ge (by omega) (by omega)), am_dp (by omega), if_neg (nI_pos (by omega)), if_neg (nI_ge (by omega) (by omega)), am_dp (by omega), if_neg (nI_pos (by omega)), if_neg (nI_ge (by omega) (by omega)), am_dp (by omega), if_pos a1]
    refine v_M_pay ?_
    rw [am_dp (by omega), am_dp (by omega), if_neg (nI_nlt (by omega) (by omega)), if_neg (nI_nlt (by omega) (by omega)), am_dp (by omega), am_dp (by omega), if_neg (nI_nlt (by omega) (by omega)), if_neg (nI_nlt (by omega) (by omega)), am_dp (by omega), am_dp (by omega), if_neg (nI_nlt (by omega) (by omega)), if_neg (nI_nlt (by omega) (by omega)), am_dp (by omega), am_dp (by omega), if_neg (nI_nlt (by omega) (by omega)), if_neg (nI_nlt (by omega) (by omega)), am_dp (by omega), if_pos a1]
    exact hK _ _ (an_G_mo hG)
  · refine v_X_pay ?_
    rw [am_dp (by omega), if_neg (nI_pos (by omega)), if_neg (nI_ge (by omega) (by omega)), am_dp (by omega), if_neg (nI_pos (by omega)), if_neg (nI_ge (by omega) (by omega)), am_dp (by omega), if_neg (nI_pos (by omega)), if_neg (nI_ge (by omega) (by omega)), am_dp (by omega), if_neg (nI_pos (by omega)), if_neg (nI_ge (by omega) (by omega)), am_dp (by omega), if_neg a1, if_pos a2]
    refine v_M_pay ?_
    rw [am_dp (by omega), am_dp (by omega), if_neg (nI_nlt (by omega) (by omega)), if_neg (nI_nlt (by omega) (by omega)), am_dp (by omega), am_dp (by omega), if_neg (nI_nlt (by omega) (by omega)), if_neg (nI_nlt (by omega) (by omega)), am_dp (by omega), am_dp (by omega), if_neg (nI_nlt (by omega) (by omega)), if_neg (nI_nlt (by omega) (by omega)), am_dp (by omega), am_dp (by omega), if_neg (nI_nlt (by omega) (by omega)), if_neg (nI_nlt (by omega) (by omega)), am_dp (by omega), if_neg a1, if_pos a2]
    exact hK _ _ (an_G_mo hG)
  refine v_X_pay ?_
  rw [am_dp (by omega), if_neg (nI_pos (by omega)), if_neg (nI_ge (by omega) (by omega)), am_dp (by omega), if_neg (nI_pos (by omega)), if_neg (nI_ge (by omega) (by omega)), am_dp (by omega), if_neg (nI_pos (by omega)), if_neg (nI_ge (by omega) (by omega)), am_dp (by omega), if_neg (nI_pos (by omega)), if_neg (nI_ge (by omega) (by omega)), am_dp (by omega), if_neg (nI_nlt (by omega) (by omega)), if_neg (nI_nlt (by omega) (by omega)), hL.1, eD]
  refine ⟨by omega, s_Country_isBusiness hC (by omega) ?_⟩
  rw [an_bf]
  cases hbz : W_biz w D with
  | false =>
    refine v_M_pay ?_
    rw [am_dp (by omega), am_dp (by omega), if_neg (nI_nlt (by omega) (by omega)), if_neg (nI_nlt (by omega) (by omega)), am_dp (by omega), am_dp (by omega), if_neg (nI_nlt (by omega) (by omega)), if_neg (nI_nlt (by omega) (by omega)), am_dp (by omega), am_dp (by omega), if_neg (nI_nlt (by omega) (by omega)), if_neg (nI_nlt (by omega) (by omega)), am_dp (by omega), am_dp (by omega), if_neg (nI_nlt (by omega) (by omega)), if_neg (nI_nlt (by omega) (by omega)), am_dp (by omega), if_neg (nI_nlt (by omega) (by omega)), if_neg (nI_nlt (by omega) (by omega)), hw, eD]
    refine ⟨by omega, s_M_isBusiness hw (by omega) ?_⟩
    rw [an_bf, hbz]
    exact hK _ _ (an_G_mo hG)
  | true =>
    show if μ 58 9 < nI 150 then _ else _
    rw [hL.2.1, eN]
    by_cases h150 : an_cnt w < 150
    · rw [if_pos (nI_lt h150 (by omega))]
      obtain ⟨lss, hls⟩ := id h15
      obtain ⟨q1, q2, q3⟩ := hls b (by omega)
      have eb4 : Nat.beq b 4 = false := am_nb (by omega)
      rw [eb4] at q1 q2
      have q2 : an_scX false (21 + 7 * b) μ (lss b) := q2
      refine ⟨by omega, s_takeIn (by omega) hh hx ht hb ha0 ha eD lD hL hC hT h10 hE hN h150 hday q1 q2 (fun μ1 u1 gR gE => ?_)⟩
      have w1 : μ1 141 = w := (u1 141 (by decide)).trans hw
      refine s_M_pay (by omega) hh hx ht hb ha0 ha eD lD w1 hT hE hN h150 hbz q1 q3 (fun μ2 u2 w2 => ?_)
      have u12 : ∀ c, c ∉ [56, 57, 58, 59, 60, 64, 27, 34, 41, 48] → c ∉ [141, 147, 148] → μ2 c = μ c := fun c z1 z2 => (u2 c z2).trans (u1 c z1)
      have v12 : ∀ c, ¬ (56 ≤ c ∧ c ≤ 60) → c ≠ 64 → c ≠ 27 → c ≠ 34 → c ≠ 41 → c ≠ 48 → c ≠ 141 → c ≠ 147 → c ≠ 148 → μ2 c = μ c := fun c _ _ _ _ _ _ _ _ _ => u12 c (by simp; omega) (by simp; omega)
      refine hK _ _ (an_G_of1 hG ?_ ⟨fun c hc => v12 c (by have := hc.1; omega) (by have := hc.1; omega) (by have := hc.1; omega) (by have := hc.1; omega) (by have := hc.1; omega) (by have := hc.1; omega) (by have := hc.2.1; omega) (by have := hc.2.1; omega) (by have := hc.2.1; omega), u12 _ (by decide) (by decide), u12 _ (by decide) (by decide), u12 _ (by decide) (by decide), u12 _ (by decide) (by decide), fun f _ => by rw [u12 0 (by decide) (by decide)], fun f _ => by rw [u12 140 (by decide) (by decide)], by rw [u12 15 (by decide) (by decide)]⟩)
      rw [w2]
      have gR2 : an_RL 58 (W_pay w (lss b) h x t b a) μ2 := an_RL_c gR (fun c z1 z2 => u2 c (by simp; omega))
      have gE2 : an_RE 56 (W_pay w (lss b) h x t b a) μ2 := an_RE_c gE (fun c z1 z2 => u2 c (by simp; omega))
      have ecnt : an_cnt (W_pay w (lss b) h x t b a) = an_cnt w + 1 := by
        unfold W_pay an_cnt
        rw [pk_us, am_cl (by unfold an_cnt at h150; omega)]
      have e0 : W_pay w (lss b) h x t b a 0 = w 0 := W_pay_o (by omega) (by omega) (by omega) (by omega)
      have hk7 : an_k7 (nb + 1) 0 (W_pay w (lss b) h x t b a) μ2 := by
        obtain ⟨⟨g1, g2⟩, g3⟩ := h7
        refine ⟨⟨?_, ?_⟩, ?_⟩
        · rw [W_pay_o (by omega) (by omega) (by omega) (by omega), g1]
          exact am_sum_congr 24 (fun k hk => (W_pay_o (by omega) (by omega) (by omega) (by omega)).symm)
        · rw [W_pay_o (by omega) (by omega) (by omega) (by omega), g2]
          exact am_sum_congr 24 (fun k hk => (W_pay_o (by omega) (by omega) (by omega) (by omega)).symm)
        · refine an_bd_step (i0 := 4 * t + b) (v := nI a) (c := 999999) g3 (by omega) ?_ (by rw [nI_toInt (by omega)]; omega) (by omega) ?_ ?_
          · unfold an_bkl
            rw [ecnt, show min (an_cnt w + 1) 150 = an_cnt w + 1 by omega, show min (an_cnt w) 150 = an_cnt w by omega, an_pot, an_pot_c _ (fun k hk => W_pay_o (by omega) (by omega) (by omega) (by omega))]
            omega
          · rw [← Nat.add_assoc]
            unfold W_pay
            rw [pk_un (by omega), W_books_s ht hb, an_uf_out _ _ _ _ (Or.inl (by omega))]
          · intro i hi q
            exact W_pay_o (by omega) (by omega) (by omega) (by omega)
      refine ⟨?_, an_k2_c h2 (fun j hj => W_pay_o (by omega) (by omega) (by omega) (by omega)) (fun c hc => hc.elim), an_k3_c h3 (fun j hj => W_pay_o (by omega) (by omega) (by omega) (by omega)) (fun c hc => hc.elim), an_k4_c h4 (fun j hj => W_pay_o (by omega) (by omega) (by omega) (by omega)) (fun c hc => hc.elim), ?_, an_k6_c h6 (fun j hj => W_pay_o (by omega) (by omega) (by omega) (by omega)) (fun c hc => hc.elim), hk7, ?_, an_k9_c h9 (fun j hj => W_pay_o (by omega) (by omega) (by omega) (by omega)) (fun c hc => v12 c (by omega) (by omega) (by omega) (by omega) (by omega) (by omega) (by omega) (by omega) (by omega)), ?_, an_k11_c h11 (fun j hj => W_pay_o (by omega) (by omega) (by omega) (by omega)) (fun c hc => v12 c (by omega) (by omega) (by omega) (by omega) (by omega) (by omega) (by omega) (by omega) (by omega)), an_k12_c h12 (fun j hj => W_pay_o (by omega) (by omega) (by omega) (by omega)) (fun c hc => v12 c (by omega) (by omega) (by omega) (by omega) (by omega) (by omega) (by omega) (by omega) (by omega)), an_k13_c h13 (fun j hj => W_pay_o (by omega) (by omega) (by omega) (by omega)) (fun c hc => v12 c (by omega) (by omega) (by omega) (by omega) (by omega) (by omega) (by omega) (by omega) (by omega)), an_k14_c h14 (fun j hj => W_pay_o (by omega) (by omega) (by omega) (by omega)) (fun c hc => v12 c (by omega) (by omega) (by omega) (by omega) (by omega) (by omega) (by omega) (by omega) (by omega)), an_k15_c h15 (fun j hj => W_pay_o (by omega) (by omega) (by omega) (by omega)) (fun c hc => by obtain ⟨k, hk, q1, q2⟩ := hc; exact v12 c (by omega) (by omega) (by omega) (by omega) (by omega) (by omega) (by omega) (by omega) (by omega))⟩
      · refine ⟨by rw [e0]; exact ⟨D, lD, eD⟩, ?_, by rw [W_pay_o (by omega) (by omega) (by omega) (by omega)]; exact hP, by rw [W_pay_o (by omega) (by omega) (by omega) (by omega)]; exact hKt, ?_⟩
        · unfold W_pay; rw [pk_us]; exact ⟨_, by omega, rfl⟩
        · unfold W_pay; rw [pk_un (by omega)]
          exact W_books_E (by rw [an_uf_out _ _ _ _ (by show _ ∨ 3640 + 12 * an_cnt w + 10 ≤ _; omega)]; exact hE) ht hb
      · intro k hk
        rw [ecnt] at hk
        by_cases qk : k = an_cnt w
        · subst qk
          obtain ⟨er, lr⟩ := an_R_e hT hb hx
          unfold an_chq
          rw [W_pay_k h150 ht hb (by omega), W_pay_k h150 ht hb (by omega), W_pay_k h150 ht hb (by omega), W_pay_k h150 ht hb (by omega), W_pay_k h150 ht hb (by omega), W_pay_k h150 ht hb (by omega), W_pay_k h150 ht hb (by omega), W_pay_k h150 ht hb (by omega), W_pay_k h150 ht hb (by omega), W_pay_k h150 ht hb (by omega), e0]
          refine ⟨⟨h, hh, rfl⟩, ⟨x, hx, rfl⟩, ⟨t, ht, rfl⟩, ⟨b, hb, rfl⟩, ⟨a, ha0, ha, rfl⟩, ⟨D, ?_, eD⟩, ⟨0, by omega, rfl⟩, ⟨_, lr, rfl⟩, an_cla_N 20 _ (by omega), Or.inl rfl, fun z => absurd rfl z⟩
          rw [eD, am_cl (by omega)]
          omega
        · have h5k := h5 k (by omega)
          unfold an_chq at h5k ⊢
          have hk2 : k < an_cnt w := by omega
          rw [W_pay_o (by omega) (by omega) (by omega) (by omega), W_pay_o (j := 3640 + 12 * k + 1) (by omega) (by omega) (by omega) (by omega), W_pay_o (j := 3640 + 12 * k + 2) (by omega) (by omega) (by omega) (by omega), W_pay_o (j := 3640 + 12 * k + 3) (by omega) (by omega) (by omega) (by omega), W_pay_o (j := 3640 + 12 * k + 4) (by omega) (by omega) (by omega) (by omega), W_pay_o (j := 3640 + 12 * k + 5) (by omega) (by omega) (by omega) (by omega), W_pay_o (j := 3640 + 12 * k + 6) (by omega) (by omega) (by omega) (by omega), W_pay_o (j := 3640 + 12 * k + 7) (by omega) (by omega) (by omega) (by omega), W_pay_o (j := 3640 + 12 * k + 8) (by omega) (by omega) (by omega) (by omega), W_pay_o (j := 3640 + 12 * k + 9) (by omega) (by omega) (by omega) (by omega), e0]
          exact h5k
      · exact gR2
      · exact gE2
    · rw [if_neg (nI_nlt (by omega) (by omega))]
      have q150 : an_cnt w = 150 := by omega
      refine v_M_pay ?_
      rw [am_dp (by omega), am_dp (by omega), if_neg (nI_nlt (by omega) (by omega)), if_neg (nI_nlt (by omega) (by omega)), am_dp (by omega), am_dp (by omega), if_neg (nI_nlt (by omega) (by omega)), if_neg (nI_nlt (by omega) (by omega)), am_dp (by omega), am_dp (by omega), if_neg (nI_nlt (by omega) (by omega)), if_neg (nI_nlt (by omega) (by omega)), am_dp (by omega), am_dp (by omega), if_neg (nI_nlt (by omega) (by omega)), if_neg (nI_nlt (by omega) (by omega)), am_dp (by omega), if_neg (nI_nlt (by omega) (by omega)), if_neg (nI_nlt (by omega) (by omega)), hw, eD]
      refine ⟨by omega, s_M_isBusiness hw (by omega) ?_⟩
      rw [an_bf, hbz]
      show if ¬ μ 141 1 = nI 150 then _ else _
      rw [hw, eN, q150, if_neg (fun z => z rfl)]
      exact hK _ _ (an_G_mo hG)
