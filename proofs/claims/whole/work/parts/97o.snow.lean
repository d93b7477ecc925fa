/-! snowed, the call. -/
variable {nb : Nat}
theorem an_led_w2 {w w' : an_W} {D : Nat} (h : an_led nb w D) (hw : ∀ j, (j < 30 ∨ 210 ≤ j) → w' j = w j) : an_led nb w' D := by
  obtain ⟨h0, hN, hE, hW, hs, hq, hf, hbd⟩ := h
  have hc : an_cnt w' = an_cnt w := by unfold an_cnt; rw [hw 1 (by omega)]
  refine ⟨(hw 0 (by omega)).trans h0, by rw [hw 1 (by omega)]; exact hN, by rw [hw 9810 (by omega)]; exact hE, an_WT_w hW (fun j _ _ => hw j (by omega)), fun a b ha hb => by rw [hw _ (by omega), hw _ (by omega)]; exact hs a b ha hb, fun k hk => ?_, an_fe_c hf (hw 4 (by omega)) (fun j _ _ => hw j (by omega)), an_bd_c hbd (fun j hj => hw j (by omega))⟩
  rw [hc] at hk
  have := hq k hk
  unfold an_chq at this ⊢
  rw [hw (3640 + 12 * k + 0) (by omega), hw (3640 + 12 * k + 1) (by omega), hw (3640 + 12 * k + 2) (by omega), hw (3640 + 12 * k + 3) (by omega), hw (3640 + 12 * k + 4) (by omega), hw (3640 + 12 * k + 5) (by omega), hw (3640 + 12 * k + 6) (by omega), hw (3640 + 12 * k + 7) (by omega), hw (3640 + 12 * k + 8) (by omega), hw (3640 + 12 * k + 9) (by omega)]
  exact this
/-- the first of m days, from e on, whose snow costs more -/
def an_sn (lss : Nat → List an_Ln) (w : an_W) (D : Nat) : Nat → Nat → Int32
  | 0, _ => - nI 1
  | m + 1, e => if w (120 + e) = 0 ∧ ¬ an_evl lss (nI 0) (upd w (120 + e) (nI 1)) D 2 ≤ an_evl lss (nI 0) w D 2 then nI e else an_sn lss w D m (e + 1)
theorem op_snowed {L d : Nat} {μ : am_M} {K : Int32 → Int32 → am_M → Prop} (hd : 30 ≤ d) (hnb : nb ≤ 600) (hG : an_G nb μ) (hK : ∀ r μ', an_G nb μ' → K r r μ') : am_Ci L d 121 [.ref 0] μ (fun r1 μ1 => am_Ci L d 231 [.ref 140] μ1 (fun r2 μ2 => K r1 r2 μ2)) := by
  have hS := hG.1
  generalize hw : μ 141 = w at hS
  obtain ⟨h1, h2, h3, h4, h5, h6, h7, h8, h9, h10, h11, h12, h13, h14, h15⟩ := id hS
  obtain ⟨hD, hN, hP, hKt, hE⟩ := id h1
  have hL : an_RL 58 w μ := h8
  obtain ⟨D, lD, eD⟩ := id hD
  have hC : an_RC 15 w μ := h9.1
  have hT := h2.1
  have g15 : μ 15 5 = - nI 1 := hG.2.2.2.2.2.2.1
  have hSn := an_RS_of h3 h9 g15
  obtain ⟨lss, hls⟩ := id h15
  have ho : ∀ b, b < 4 → an_okl false (lss b) := fun b hb => by have := (hls b (by omega)).1; rwa [show Nat.beq b 4 = false from am_nb (by omega)] at this
  have hX : ∀ b, b < 4 → an_scX false (21 + 7 * b) μ (lss b) := fun b hb => by have := (hls b (by omega)).2.1; rwa [show Nat.beq b 4 = false from am_nb (by omega)] at this
  have hM : ∀ b, b < 4 → an_scM w b (lss b) := fun b hb => (hls b (by omega)).2.2
  have led0 : an_led nb w D := an_S_led hS eD lD
  have bit : ∀ e, e < 90 → w (120 + e) = 0 ∨ w (120 + e) = nI 1 := fun e he => by
    obtain ⟨v, hv, ev⟩ := h3 (90 + e) (by omega)
    rw [show 30 + (90 + e) = 120 + e by omega] at ev
    rw [ev]
    rcases (by omega : v = 0 ∨ v = 1) with rfl | rfl
    · exact Or.inl nI_0
    · exact Or.inr rfl
  have led1 : ∀ e, e < 90 → an_led nb (upd w (120 + e) (nI 1)) D := fun e he => an_led_w2 led0 (fun j hj => pk_un (by omega))
  generalize hlast : min (D + 14) 89 = last
  -- the class
  have xo : ∀ (m e : Nat) (μ1 : am_M), e + m = last + 1 → D < e → an_un [0, 124, 125, 126, 127, 128, 129, 130, 27, 34, 41, 48] μ μ1 → (∀ f, f ≠ 13 → f ≠ 14 → μ1 0 f = μ 0 f) → ∀ {G : Int32 → am_M → Prop}, (∀ μ2, an_un [0, 124, 125, 126, 127, 128, 129, 130, 27, 34, 41, 48] μ μ2 → (∀ f, f ≠ 13 → f ≠ 14 → μ2 0 f = μ 0 f) → G (an_sn lss w D m e) μ2) → am_Ji L d 121 50 [some (.ref 0), some (.ref 15), some (.int (an_evl lss (nI 0) w D 2)), some (.int (nI last)), some (.int (- nI 1)), some (.int (nI e))] [] μ1 G := by
    intro m
    induction m with
    | zero =>
      intro e μ1 he hDe u1 v1 G hG2
      refine v_X_snowed_50 ?_
      rw [if_pos (nI_lt (by omega) (by omega))]
      exact hG2 μ1 u1 v1
    | succ m ih =>
      intro e μ1 he hDe u1 v1 G hG2
      have l90 : e < 90 := by omega
      refine v_X_snowed_50 ?_
      rw [if_neg (nI_nlt (by omega) (by omega)), if_neg (fun z => z rfl)]
      have S1 : an_RS w μ1 := an_RS_c hSn (by rw [u1 15 (by decide)]) (u1 19 (by decide))
      refine ⟨by omega, s_Country_hasSnow (by omega) S1 (by omega) ?_⟩
      have et : W_train w e = decide (w (120 + e) = 0) := by
        unfold W_train
        have : Nat.ble 90 e = false := by
          cases hq : Nat.ble 90 e with
          | false => rfl
          | true => have := Nat.ble_eq.mp hq; omega
        rw [this]
        rfl
      rw [an_sn] at hG2
      rw [et, an_bf]
      by_cases q0 : w (120 + e) = 0
      · rw [decide_eq_true q0]
        show am_put _ _
        intro μ3 e3
        have u3 : ∀ c, c ≠ 15 → μ3 c = μ1 c := fun c hc => an_w_c e3 hc
        have S3 : an_RS (upd w (120 + e) (nI 1)) μ3 := by
          refine ⟨fun i hi => ?_, fun i i1 i2 z => ?_⟩
          · rw [an_w_s e3, u3 19 (by decide)]
            by_cases z : i = e
            · rw [z, pk_us]
              exact ⟨fun _ => by decide, fun _ => Or.inl rfl⟩
            · rw [pk_un (by omega)]
              have s := S1.1 i hi
              have n15 : ¬ nI i = μ1 15 5 := by
                rw [u1 15 (by decide), g15]
                intro y
                have := nI_pos (n := i) (by omega)
                rw [y] at this
                exact this (by decide)
              constructor
              · rintro (y | y)
                · exact absurd ((nI_eq (by omega) (by omega)).mp y) z
                · exact s.mp (Or.inr y)
              · intro y
                exact Or.inr ((s.mpr y).resolve_left n15)
          · rw [an_w_s e3] at z
            have := (nI_eq (by omega) (by omega)).mp z
            omega
        refine ⟨by omega, s_thinkEnd (by omega) hnb (led1 e l90) lD (an_RL_w (an_RL_c hL (fun c z1 z2 => by rw [u3 c (by omega), u1 c (by simp; omega)])) (pk_un (by omega)) (pk_un (by omega)) (fun k f _ _ => pk_un (by omega)) (fun j _ _ => pk_un (by omega))) (an_RC_w (an_RC_c hC (fun c z1 z2 => by rw [u3 c (by omega), u1 c (by simp; omega)])) (fun j _ _ => pk_un (by omega))) S3 ho (fun b hb => an_scX_c (hX b hb) (fun c z1 z2 => by rw [u3 c (by omega), u1 c (by simp; omega)])) (fun μ4 u4 v4 _ _ _ _ => ?_)⟩
        rw [← an_evl_2]
        have back : ∀ (μ6 : am_M), μ6 = am_w μ4 15 5 (- nI 1) → an_un [0, 124, 125, 126, 127, 128, 129, 130, 27, 34, 41, 48] μ μ6 ∧ ∀ f, f ≠ 13 → f ≠ 14 → μ6 0 f = μ 0 f := by
          intro μ6 e6
          refine ⟨fun c hc => ?_, fun f f1 f2 => ?_⟩
          · by_cases z : c = 15
            · subst z
              funext f
              by_cases y : f = 5
              · rw [y, an_w_s e6, g15]
              · rw [an_w_o e6 y, u4 15 (by decide), an_w_o e3 y, u1 15 (by decide)]
            · rw [an_w_c e6 z, u4 c hc, u3 c z, u1 c hc]
          · rw [an_w_c e6 (by decide), v4 f f1 f2, u3 0 (by decide), v1 f f1 f2]
        by_cases q : an_evl lss (nI 0) (upd w (120 + e) (nI 1)) D 2 ≤ an_evl lss (nI 0) w D 2
        · rw [if_pos q]
          rw [if_neg (fun z => z.2 q)] at hG2
          intro μ6 e6
          obtain ⟨u6, v6⟩ := back μ6 e6
          rw [nI_add]
          exact ih (e + 1) μ6 (by omega) (by omega) u6 v6 hG2
        · rw [if_neg q]
          rw [if_pos ⟨q0, q⟩] at hG2
          intro μ6 e6
          obtain ⟨u6, v6⟩ := back μ6 e6
          refine v_X_snowed_50 ?_
          have h := hG2 μ6 u6 v6
          by_cases z : nI last < nI e + nI 1
          · rw [if_pos z]; exact h
          · rw [if_neg z, if_pos]
            · exact h
            · intro y
              have := nI_pos (n := e) (by omega)
              rw [y] at this
              exact this (by decide)
      · rw [decide_eq_false q0]
        rw [if_neg (fun z => q0 z.1)] at hG2
        show am_Ji L d 121 50 _ [] μ1 G
        rw [nI_add]
        exact ih (e + 1) μ1 (by omega) (by omega) u1 v1 hG2
  -- the model
  have mo : ∀ (m e : Nat) (μ1 : am_M), e + m = last + 1 → D < e → an_G nb μ1 → μ1 141 = w → ∀ {G : Int32 → am_M → Prop}, (∀ μ2, an_G nb μ2 → G (an_sn lss w D m e) μ2) → am_Ji L d 231 16 [some (.ref 140), some (.int (an_evl lss (nI 0) w D 2)), some (.int (nI e)), none] [] μ1 G := by
    intro m
    induction m with
    | zero =>
      intro e μ1 he hDe g1 w1 G hG2
      refine v_M_snowed_16 ?_
      rw [w1, eD, nI_add]
      by_cases z : D + 14 < e
      · rw [if_pos (nI_lt z (by omega))]
        exact hG2 μ1 g1
      · rw [if_neg (nI_nlt (by omega) (by omega)), if_pos (nI_le (by omega) (by omega))]
        exact hG2 μ1 g1
    | succ m ih =>
      intro e μ1 he hDe g1 w1 G hG2
      have l90 : e < 90 := by omega
      refine v_M_snowed_16 ?_
      rw [w1, eD, nI_add, if_neg (nI_nlt (by omega) (by omega)), if_neg (nI_ge (by omega) (by omega)), nI_add, am_gd_in (by omega) (by omega), am_cl (by omega)]
      rw [an_sn] at hG2
      rcases bit e l90 with q0 | q0
      · rw [if_pos (by rw [q0]; decide), am_gd_in (by omega) (by omega)]
        intro μ2 e2
        have w2 : μ2 141 = upd w (120 + e) (nI 1) := by rw [e2, am_w_at, w1]
        refine ⟨by omega, s_M_ends (q := 2) (by omega) (by omega) (led1 e l90) lD w2 ho (fun b hb => an_scM_c (by omega) (by rw [show Nat.beq b 4 = false from am_nb (by omega)]; exact ho b hb) (hM b hb) (fun j z1 z2 => pk_un (by omega))) (fun μ3 u3 v3 w3 => ?_)⟩
        rw [am_gd_in (by omega) (by omega)]
        intro μ4 e4
        have w4 : μ4 141 = w := by
          rw [e4, am_w_at, w3]
          funext j
          by_cases y : j = 120 + e
          · rw [y, pk_us, q0]; rfl
          · rw [pk_un y, pk_un y]
        have g4 : an_G nb μ4 := an_tG_m g1 (μ1 := μ4) (fun c hc => by
          have h1 : c ≠ 141 := fun z => hc (by simp [z])
          rw [an_w_c e4 h1, u3 c hc, an_w_c e2 h1]) (fun f f1 f2 f3 => by rw [an_w_c e4 (by decide), v3 f f1 f2 f3, an_w_c e2 (by decide)]) (w4.trans w1.symm)
        by_cases q : an_evl lss (nI 0) (upd w (120 + e) (nI 1)) D 2 ≤ an_evl lss (nI 0) w D 2
        · rw [if_pos q, nI_add]
          rw [if_neg (fun z => z.2 q)] at hG2
          exact ih (e + 1) μ4 (by omega) (by omega) g4 w4 hG2
        · rw [if_neg q]
          rw [if_pos ⟨q0, q⟩] at hG2
          exact hG2 μ4 g4
      · rw [if_neg (fun z => z q0), nI_add]
        rw [if_neg (fun z => by rw [q0] at z; exact absurd z.1 (by decide))] at hG2
        exact ih (e + 1) μ1 (by omega) (by omega) g1 w1 hG2
  refine v_X_snowed ?_
  refine ⟨by omega, s_thinkEnd (by omega) hnb led0 lD hL hC hSn ho hX (fun μ1 u1 v1 _ _ _ _ => ?_)⟩
  rw [← an_evl_2, an_gdd (by omega), u1 58 (by decide), hL.1, eD, nI_add, nI_add]
  have el : (if nI 89 < nI (D + 14) then nI 89 else nI (D + 14)) = nI last := by
    by_cases z : 89 < D + 14
    · rw [if_pos (nI_lt z (by omega)), show last = 89 by omega]
    · rw [if_neg (nI_nlt (by omega) (by omega)), show last = D + 14 by omega]
  rw [el]
  refine xo (last - D) (D + 1) μ1 (by omega) (by omega) u1 v1 (fun μ2 u2 v2 => ?_)
  have g2 := an_tG_x hG u2 v2
  have w2 : μ2 141 = w := (u2 141 (by decide)).trans hw
  refine v_M_snowed ?_
  refine ⟨by omega, s_M_ends (q := 2) (by omega) (by omega) led0 lD w2 ho hM (fun μ3 u3 v3 w3 => ?_)⟩
  rw [w3, eD, nI_add]
  exact mo (last - D) (D + 1) μ3 (by omega) (by omega) (an_tG_m g2 u3 v3 (w3.trans w2.symm)) w3 (fun μ4 g4 => hK _ _ g4)
