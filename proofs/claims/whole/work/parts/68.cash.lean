/-! cash, the call. -/
variable {nb : Nat}
theorem an_RR {w : an_W} {b : Nat} (hT : an_WT w) (h : ∀ a, a < 3 → w (14 + 3 * a + a) = nI 0) (hb : b < 4) : an_R w b b = 0 ∧ an_far w b b = false := by
  obtain ⟨ea, la⟩ := an_T_e hT hb
  refine ⟨?_, ?_⟩
  · unfold an_R
    rw [h _ la, am_cl (by omega)]
  · unfold an_far
    rw [Nat.beq_refl]
    rfl
theorem op_cash {L d : Nat} {μ : am_M} {p1 p2 p3 : Int32} {K : Int32 → Int32 → am_M → Prop} (hd : 30 ≤ d) (hG : an_G nb μ) (hK : ∀ r μ', an_G (nb + 1) μ' → K r r μ') : am_Ci L d 100 [.ref 0, .int p1, .int p2, .int p3] μ (fun r1 μ1 => am_Ci L d 190 [.ref 140, .int p1, .int p2, .int p3] μ1 (fun r2 μ2 => K r1 r2 μ2)) := by
  have hS := hG.1
  generalize hw : μ 141 = w at hS
  obtain ⟨h1, h2, h3, h4, h5, h6, h7, h8, h9, h10, h11, h12, h13, h14, h15⟩ := id hS
  obtain ⟨hD, hN, hP, hKt, hE⟩ := id h1
  obtain ⟨eN, lN⟩ := an_cnt_e hN
  have hL : an_RL 58 w μ := h8
  have hC : an_RC 15 w μ := h9.1
  obtain ⟨D, lD, eD⟩ := hD
  have hT := h2.1
  have hday := an_k5_days ⟨D, lD, eD⟩ h5
  rcases an_arg p1 6 (by omega) (by omega) with ⟨a1, a2⟩ | ⟨a1, a2, a3, a4⟩ | ⟨h, hh, rfl⟩
  · refine v_X_cash ?_
    rw [am_dp (by omega), if_pos a1]
    refine v_M_cash ?_
    rw [am_dp (by omega), am_dp (by omega), if_pos a2]
    exact hK _ _ (an_G_mo hG)
  · have a5 : nI 5 < p1 := a4
    refine v_X_cash ?_
    rw [am_dp (by omega), if_neg a1, if_pos a3]
    refine v_M_cash ?_
    rw [am_dp (by omega), am_dp (by omega), if_neg a2, if_pos a5]
    exact hK _ _ (an_G_mo hG)
  rcases an_arg p2 4 (by omega) (by omega) with ⟨a1, a2⟩ | ⟨a1, a2, a3, a4⟩ | ⟨b, hb, rfl⟩
  · refine v_X_cash ?_
    rw [am_dp (by omega), if_neg (nI_pos (by omega)), if_neg (nI_ge (by omega) (by omega)), am_dp (by omega), if_pos a1]
    refine v_M_cash ?_
    rw [am_dp (by omega), am_dp (by omega), if_neg (nI_nlt (by omega) (by omega)), if_neg (nI_nlt (by omega) (by omega)), am_dp (by omega), am_dp (by omega), if_pos a2]
    exact hK _ _ (an_G_mo hG)
  · have a5 : nI 3 < p2 := a4
    refine v_X_cash ?_
    rw [am_dp (by omega), if_neg (nI_pos (by omega)), if_neg (nI_ge (by omega) (by omega)), am_dp (by omega), if_neg a1, if_pos a3]
    refine v_M_cash ?_
    rw [am_dp (by omega), am_dp (by omega), if_neg (nI_nlt (by omega) (by omega)), if_neg (nI_nlt (by omega) (by omega)), am_dp (by omega), am_dp (by omega), if_neg a2, if_pos a5]
    exact hK _ _ (an_G_mo hG)
  by_cases z0 : p3 = 0
  · refine v_X_cash ?_
    rw [am_dp (by omega), if_neg (nI_pos (by omega)), if_neg (nI_ge (by omega) (by omega)), am_dp (by omega), if_neg (nI_pos (by omega)), if_neg (nI_ge (by omega) (by omega)), if_pos z0]
    refine v_M_cash ?_
    rw [am_dp (by omega), am_dp (by omega), if_neg (nI_nlt (by omega) (by omega)), if_neg (nI_nlt (by omega) (by omega)), am_dp (by omega), am_dp (by omega), if_neg (nI_nlt (by omega) (by omega)), if_neg (nI_nlt (by omega) (by omega)), if_pos z0]
    exact hK _ _ (an_G_mo hG)
  by_cases c1 : nI 999999 < p3
  · have c2 : ¬ p3 < - nI 999999 := fun q => absurd (Int32.lt_trans c1 q) (by decide)
    refine v_X_cash ?_
    rw [am_dp (by omega), if_neg (nI_pos (by omega)), if_neg (nI_ge (by omega) (by omega)), am_dp (by omega), if_neg (nI_pos (by omega)), if_neg (nI_ge (by omega) (by omega)), if_neg z0, if_pos c1]
    refine v_M_cash ?_
    rw [am_dp (by omega), am_dp (by omega), if_neg (nI_nlt (by omega) (by omega)), if_neg (nI_nlt (by omega) (by omega)), am_dp (by omega), am_dp (by omega), if_neg (nI_nlt (by omega) (by omega)), if_neg (nI_nlt (by omega) (by omega)), if_neg z0, am_dp (by omega), if_neg c2, if_pos c1]
    exact hK _ _ (an_G_mo hG)
  by_cases c2 : p3 < - nI 999999
  · refine v_X_cash ?_
    rw [am_dp (by omega), if_neg (nI_pos (by omega)), if_neg (nI_ge (by omega) (by omega)), am_dp (by omega), if_neg (nI_pos (by omega)), if_neg (nI_ge (by omega) (by omega)), if_neg z0, if_neg c1, if_neg (Int32.not_le.mpr c2)]
    refine v_M_cash ?_
    rw [am_dp (by omega), am_dp (by omega), if_neg (nI_nlt (by omega) (by omega)), if_neg (nI_nlt (by omega) (by omega)), am_dp (by omega), am_dp (by omega), if_neg (nI_nlt (by omega) (by omega)), if_neg (nI_nlt (by omega) (by omega)), if_neg z0, am_dp (by omega), if_pos c2]
    exact hK _ _ (an_G_mo hG)
  have hvb : -((999999 : Nat) : Int) ≤ p3.toInt ∧ p3.toInt ≤ ((999999 : Nat) : Int) := by
    rw [Int32.lt_iff_toInt_lt, show (nI 999999).toInt = 999999 by decide] at c1
    rw [Int32.lt_iff_toInt_lt, show (- nI 999999).toInt = -999999 by decide] at c2
    omega
  refine v_X_cash ?_
  rw [am_dp (by omega), if_neg (nI_pos (by omega)), if_neg (nI_ge (by omega) (by omega)), am_dp (by omega), if_neg (nI_pos (by omega)), if_neg (nI_ge (by omega) (by omega)), if_neg z0, if_neg c1, if_pos (Int32.not_lt.mp c2), hL.1, eD]
  refine ⟨by omega, s_Country_isBusiness hC (by omega) ?_⟩
  rw [an_bn]
  cases hbz : W_biz w D with
  | false =>
    refine v_M_cash ?_
    rw [am_dp (by omega), am_dp (by omega), if_neg (nI_nlt (by omega) (by omega)), if_neg (nI_nlt (by omega) (by omega)), am_dp (by omega), am_dp (by omega), if_neg (nI_nlt (by omega) (by omega)), if_neg (nI_nlt (by omega) (by omega)), if_neg z0, am_dp (by omega), if_neg c2, if_neg c1, hw, eD]
    refine ⟨by omega, s_M_isBusiness hw (by omega) ?_⟩
    rw [an_bn, hbz]
    exact hK _ _ (an_G_mo hG)
  | true =>
    dsimp only
    by_cases c0 : 0 ≤ p3
    · rw [if_pos c0]
      refine s_cash_x (L := L) (d := d) (by omega) hh hb z0 hL h10 hE (fun μ4 u4 gR gE => ?_)
      have w4 : μ4 141 = w := (u4 141 (by decide)).trans hw
      refine v_M_cash ?_
      rw [am_dp (by omega), am_dp (by omega), if_neg (nI_nlt (by omega) (by omega)), if_neg (nI_nlt (by omega) (by omega)), am_dp (by omega), am_dp (by omega), if_neg (nI_nlt (by omega) (by omega)), if_neg (nI_nlt (by omega) (by omega)), if_neg z0, am_dp (by omega), if_neg c2, if_neg c1, w4, eD]
      refine ⟨by omega, s_M_isBusiness w4 (by omega) ?_⟩
      rw [an_bn, hbz]
      dsimp only
      rw [if_pos c0]
      refine s_cash_m (by omega) hh hb w4 hE (fun μ5 u5 w5 => ?_)
      have u : an_un [56, 57, 60, 61, 141] μ μ5 := an_un_tr u4 u5 (by simp) (by simp)
      refine hK _ _ (an_cash_G hG hh hb hvb (by intro c hc; simp at hc; omega) u (by rw [hw]; exact w5) (by rw [hw]; exact an_RL_c gR (fun c z1 z2 => u5 c (by simp; omega))) (by rw [hw]; exact an_RE_c gE (fun c z1 z2 => u5 c (by simp; omega))))
    · rw [if_neg c0, hL.1, eD, an_gdz (by omega) (by omega), an_rem (by omega) (by omega) (by omega)]
      obtain ⟨lss, hls⟩ := id h15
      obtain ⟨q1, q2, q3⟩ := hls b (by omega)
      have eb4 : Nat.beq b 4 = false := am_nb (by omega)
      rw [eb4] at q1 q2
      have q2 : an_scX false (21 + 7 * b) μ (lss b) := q2
      obtain ⟨r0, f0⟩ := an_RR hT h2.2.2 hb
      refine ⟨by omega, s_lawValue (by omega) (by omega) hh hb hb hL hC hT hN hday q1 q2 (fun μ5 u5 => ?_)⟩
      rw [r0, f0]
      have hL5 : an_RL 58 w μ5 := an_RL_c hL (fun c z1 z2 => u5 c (by simp; omega))
      have hE5 : an_RE 56 w μ5 := an_RE_c h10 (fun c z1 z2 => u5 c (by simp; omega))
      have w5 : μ5 141 = w := (u5 141 (by decide)).trans hw
      refine ⟨by omega, s_Ledger_usable (by omega) hh hb hL5 hN ?_⟩
      have mm : ∀ (μ7 : am_M), μ7 141 = w → ∀ {G : Int32 → am_M → Prop}, (∀ μ9, an_un [147, 148] μ7 μ9 → if -p3 ≤ W_usable w h b + W_law w (lss b) 1 h b (-p3) (nI 0) (nI (D % 7)) false then 0 < d ∧ am_Cv L (d - 1) 188 [.ref 140, .int (nI h), .int (nI b), .int (nI 0), .int (- nI 1), .int p3] μ9 (fun μ11 => am_gd (am_inb (((nI 234) + ((nI 4) * nI h)) + nI b) 16120) (am_gd (am_inb (((nI 234) + ((nI 4) * nI h)) + nI b) 16120) (am_put (am_w μ11 141 ((((nI 234) + ((nI 4) * nI h)) + nI b).toNatClampNeg) ((μ11 141 (((nI 234) + ((nI 4) * nI h)) + nI b).toNatClampNeg) + p3)) (fun μ12 => am_put (am_w μ12 141 5 ((μ12 141 5) + p3)) (fun μ13 => G (nI 1) μ13))))) else G (nI 0) μ9) → am_Ci L d 190 [.ref 140, .int (nI h), .int (nI b), .int p3] μ7 G := by
        intro μ7 w7 G hG2
        refine v_M_cash ?_
        rw [am_dp (by omega), am_dp (by omega), if_neg (nI_nlt (by omega) (by omega)), if_neg (nI_nlt (by omega) (by omega)), am_dp (by omega), am_dp (by omega), if_neg (nI_nlt (by omega) (by omega)), if_neg (nI_nlt (by omega) (by omega)), if_neg z0, am_dp (by omega), if_neg c2, if_neg c1, w7, eD]
        refine ⟨by omega, s_M_isBusiness w7 (by omega) ?_⟩
        rw [an_bn, hbz]
        dsimp only
        rw [if_neg c0, w7, eD]
        refine ⟨by omega, s_M_gathers (far := false) (by omega) hh hb (by omega) w7 hN (fun μ8 u8 f8 => ?_)⟩
        have w8 : μ8 141 = w := (u8 141 (by decide)).trans w7
        refine ⟨by omega, s_M_usable (by omega) hh hb w8 hN ?_⟩
        refine ⟨by omega, s_M_tells (by omega) hb (by omega) q1 q3 μ8 w8 f8 (fun μ9 u9 => ?_)⟩
        exact hG2 μ9 (an_un_tr u8 u9 (by simp) (by simp))
      by_cases cmp : -p3 ≤ W_usable w h b + W_law w (lss b) 1 h b (-p3) (nI 0) (nI (D % 7)) false
      · rw [if_pos cmp]
        refine s_cash_x (L := L) (d := d) (by omega) hh hb z0 hL5 hE5 hE (fun μ6 u6 gR gE => ?_)
        have w6 : μ6 141 = w := (u6 141 (by decide)).trans w5
        refine mm μ6 w6 (fun μ9 u9 => ?_)
        rw [if_pos cmp]
        refine s_cash_m (by omega) hh hb ((u9 141 (by decide)).trans w6) hE (fun μ10 u10 w10 => ?_)
        have u : an_un [64, 27, 34, 41, 48, 56, 57, 60, 61, 147, 148, 141] μ μ10 := an_un_tr (m := [64, 27, 34, 41, 48, 56, 57, 60, 61, 147, 148, 141]) (an_un_tr (m := [64, 27, 34, 41, 48, 56, 57, 60, 61, 147, 148]) (an_un_tr (m := [64, 27, 34, 41, 48, 56, 57, 60, 61]) u5 u6 (by simp) (by simp)) u9 (by intro c hc; simp at hc ⊢; omega) (by simp)) u10 (by intro c hc; simp at hc ⊢; omega) (by simp)
        refine hK _ _ (an_cash_G hG hh hb hvb (by intro c hc; simp at hc; omega) u (by rw [hw]; exact w10) (by rw [hw]; exact an_RL_c gR (fun c z1 z2 => (u10 c (by simp; omega)).trans (u9 c (by simp; omega)))) (by rw [hw]; exact an_RE_c gE (fun c z1 z2 => (u10 c (by simp; omega)).trans (u9 c (by simp; omega)))))
      · rw [if_neg cmp]
        refine mm μ5 w5 (fun μ9 u9 => ?_)
        rw [if_neg cmp]
        have u : an_un [64, 27, 34, 41, 48, 147, 148] μ μ9 := an_un_tr u5 u9 (by simp) (by simp)
        refine hK _ _ (an_G_mo (an_G_of hG ?_ (an_rest0_un u (by intro c hc; simp at hc; unfold an_kc; omega))))
        rw [u 141 (by decide), hw]
        exact an_S_c hS (fun c hc => u c (by unfold an_kc at hc; simp; omega))
