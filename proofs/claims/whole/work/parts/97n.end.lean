/-! ending, the call. -/
variable {nb : Nat}
theorem an_evl_2 {lss : Nat → List an_Ln} {ord : Int32} {w : an_W} {D : Nat} : an_evl lss ord w D 2 = W_lossOfAll (an_ew lss ord w D (an_eN lss ord w D 40 0)) := rfl
/-- the best of the first orders -/
def an_bs (lss : Nat → List an_Ln) (w : an_W) (D : Nat) : Nat → Nat
  | 0 => 0
  | k + 1 => if an_evl lss (nI (an_bs lss w D k)) w D 2 ≤ an_evl lss (nI (k + 1)) w D 2 then an_bs lss w D k else k + 1
theorem an_bs_le {lss : Nat → List an_Ln} {w : an_W} {D : Nat} : ∀ k, an_bs lss w D k ≤ k := by
  intro k
  induction k with
  | zero => exact Nat.le_refl _
  | succ k ih =>
    rw [an_bs]
    split <;> omega
theorem op_ending {L d : Nat} {μ : am_M} {p1 p2 : Int32} {K : Int32 → Int32 → am_M → Prop} (hd : 30 ≤ d) (hnb : nb ≤ 600) (hG : an_G nb μ) (hK : ∀ r μ', an_G nb μ' → K r r μ') : am_Ci L d 120 [.ref 0, .int p1, .int p2] μ (fun r1 μ1 => am_Ci L d 230 [.ref 140, .int p1, .int p2] μ1 (fun r2 μ2 => K r1 r2 μ2)) := by
  have hS := hG.1
  generalize hw : μ 141 = w at hS
  obtain ⟨h1, h2, h3, h4, h5, h6, h7, h8, h9, h10, h11, h12, h13, h14, h15⟩ := id hS
  obtain ⟨hD, hN, hP, hKt, hE⟩ := id h1
  have hL : an_RL 58 w μ := h8
  obtain ⟨D, lD, eD⟩ := id hD
  have hC : an_RC 15 w μ := h9.1
  have hT := h2.1
  have g15 : μ 15 5 = - nI 1 := hG.2.2.2.2.2.2.1
  have hSn := an_RS_of h3 h9 g15
  obtain ⟨lss, hls⟩ := id h15
  have ho : ∀ b, b < 4 → an_okl false (lss b) := fun b hb => by have := (hls b (by omega)).1; rwa [show Nat.beq b 4 = false from am_nb (by omega)] at this
  have hX : ∀ b, b < 4 → an_scX false (21 + 7 * b) μ (lss b) := fun b hb => by have := (hls b (by omega)).2.1; rwa [show Nat.beq b 4 = false from am_nb (by omega)] at this
  have hM : ∀ b, b < 4 → an_scM w b (lss b) := fun b hb => (hls b (by omega)).2.2
  have led0 : an_led nb w D := an_S_led hS eD lD
  -- a thought of the class, of the model
  have tx : ∀ (o : Nat) (μ1 : am_M), an_un [0, 124, 125, 126, 127, 128, 129, 130, 27, 34, 41, 48] μ μ1 → (∀ f, f ≠ 13 → f ≠ 14 → μ1 0 f = μ 0 f) → ∀ {G : Int32 → am_M → Prop}, (∀ μ2, an_un [0, 124, 125, 126, 127, 128, 129, 130, 27, 34, 41, 48] μ μ2 → (∀ f, f ≠ 13 → f ≠ 14 → μ2 0 f = μ 0 f) → μ2 0 13 = an_evl lss (nI o) w D 0 → μ2 0 14 = an_evl lss (nI o) w D 1 → an_RL 124 (an_ew lss (nI o) w D (an_eN lss (nI o) w D 40 0)) μ2 → an_nomin (an_ew lss (nI o) w D (an_eN lss (nI o) w D 40 0)) → G (an_evl lss (nI o) w D 2) μ2) → am_Ci L (d - 1) 141 [.ref 0, .int (nI o)] μ1 G := by
    intro o μ1 u1 v1 G hG2
    refine s_thinkEnd (by omega) hnb led0 lD (an_RL_c hL (fun c z1 z2 => u1 c (by simp; omega))) (an_RC_c hC (fun c z1 z2 => u1 c (by simp; omega))) (an_RS_c hSn (by rw [u1 15 (by decide)]) (u1 19 (by decide))) ho (fun b hb => an_scX_c (hX b hb) (fun c z1 z2 => u1 c (by simp; omega))) (fun μ2 u2 v2 x2 y2 R2 n2 => ?_)
    exact hG2 μ2 (an_un_tr u1 u2 (fun _ z => z) (fun _ z => z)) (fun f f1 f2 => (v2 f f1 f2).trans (v1 f f1 f2)) x2 y2 R2 n2
  have w_x : ∀ (μ1 : am_M), an_un [0, 124, 125, 126, 127, 128, 129, 130, 27, 34, 41, 48] μ μ1 → μ1 141 = w := fun μ1 u1 => (u1 141 (by decide)).trans hw
  have tm : ∀ (o q : Nat), (q < 3 ∨ 10 ≤ q ∧ q < 14) → ∀ (μ1 : am_M), an_G nb μ1 → μ1 141 = w → ∀ {G : Int32 → am_M → Prop}, (∀ μ2, an_G nb μ2 → μ2 141 = w → G (an_evl lss (nI o) w D q) μ2) → am_Ci L (d - 1) 229 [.ref 140, .int (nI o), .int (nI q)] μ1 G := by
    intro o q hq μ1 hG1 w1 G hG2
    refine s_M_ends (by omega) hq led0 lD w1 ho hM (fun μ2 u2 v2 w2 => ?_)
    exact hG2 μ2 (an_tG_m hG1 u2 v2 (w2.trans w1.symm)) w2
  by_cases pm : p1 = - nI 1
  · refine v_X_ending ?_
    rw [if_neg (fun z => z pm)]
    refine ⟨by omega, tx 0 μ an_un_rf (fun _ _ _ => rfl) (fun μ1 u1 v1 _ _ _ _ => ?_)⟩
    have mo : ∀ (m k : Nat) (μ2 : am_M), k + m = 3 → an_G nb μ2 → μ2 141 = w → am_Ji L d 230 10 [some (.ref 140), none, none, some (.int (nI (an_bs lss w D k))), some (.int (nI (k + 1)))] [] μ2 (fun r2 μ2 => K (nI (an_bs lss w D 3)) r2 μ2) := by
      intro m
      induction m with
      | zero =>
        intro k μ2 hk g2 w2
        obtain rfl : k = 3 := by omega
        refine v_M_ending_10 ?_
        rw [if_pos (nI_le (by omega) (by omega))]
        exact hK _ _ g2
      | succ m ih =>
        intro k μ2 hk g2 w2
        refine v_M_ending_10 ?_
        rw [if_neg (nI_ge (by omega) (by omega))]
        refine ⟨by omega, tm (k + 1) 2 (by omega) μ2 g2 w2 (fun μ3 g3 w3 => ?_)⟩
        refine ⟨by omega, tm (an_bs lss w D k) 2 (by omega) μ3 g3 w3 (fun μ4 g4 w4 => ?_)⟩
        rw [nI_add]
        have h := ih (k + 1) μ4 (by omega) g4 w4
        rw [an_bs] at h
        by_cases q : an_evl lss (nI (an_bs lss w D k)) w D 2 ≤ an_evl lss (nI (k + 1)) w D 2
        · rw [if_pos q]
          rw [if_pos q] at h
          exact h
        · rw [if_neg q]
          rw [if_neg q] at h
          exact h
    have xo : ∀ (m k : Nat) (μ2 : am_M), k + m = 3 → an_un [0, 124, 125, 126, 127, 128, 129, 130, 27, 34, 41, 48] μ μ2 → (∀ f, f ≠ 13 → f ≠ 14 → μ2 0 f = μ 0 f) → am_Ji L d 120 17 [some (.ref 0), none, none, some (.int (nI (an_bs lss w D k))), some (.int (an_evl lss (nI (an_bs lss w D k)) w D 2)), some (.int (nI (k + 1))), none] [] μ2 (fun r1 μ1 => am_Ci L d 230 [.ref 140, .int p1, .int p2] μ1 (fun r2 μ2 => K r1 r2 μ2)) := by
      intro m
      induction m with
      | zero =>
        intro k μ2 hk u2 v2
        obtain rfl : k = 3 := by omega
        refine v_X_ending_17 ?_
        rw [if_pos (nI_le (by omega) (by omega))]
        refine v_M_ending ?_
        rw [if_neg (fun z => z pm)]
        exact mo 3 0 μ2 (by omega) (an_tG_x hG u2 v2) (w_x μ2 u2)
      | succ m ih =>
        intro k μ2 hk u2 v2
        refine v_X_ending_17 ?_
        rw [if_neg (nI_ge (by omega) (by omega))]
        refine ⟨by omega, tx (k + 1) μ2 u2 v2 (fun μ3 u3 v3 _ _ _ _ => ?_)⟩
        rw [nI_add]
        have h := ih (k + 1) μ3 (by omega) u3 v3
        rw [an_bs] at h
        by_cases q : an_evl lss (nI (an_bs lss w D k)) w D 2 ≤ an_evl lss (nI (k + 1)) w D 2
        · rw [if_pos q]
          rw [if_pos q] at h
          exact h
        · rw [if_neg q]
          rw [if_neg q] at h
          exact h
    exact xo 3 0 μ1 (by omega) u1 v1
  rcases an_arg p1 4 (by omega) (by omega) with ⟨a1, a2⟩ | ⟨a1, a2, a3, a4⟩ | ⟨o, ho4, rfl⟩
  · refine v_X_ending ?_
    rw [if_pos pm, if_pos a1]
    refine v_M_ending ?_
    rw [if_pos pm, am_dp (by omega), if_pos a2]
    exact hK _ _ hG
  · refine v_X_ending ?_
    rw [if_pos pm, if_neg a1, if_neg (Int32.not_lt.mpr a3)]
    refine v_M_ending ?_
    rw [if_pos pm, am_dp (by omega), if_neg a2, if_pos a4]
    exact hK _ _ hG
  rcases an_arg p2 14 (by omega) (by omega) with ⟨a1, a2⟩ | ⟨a1, a2, a3, a4⟩ | ⟨q, hq14, rfl⟩
  · refine v_X_ending ?_
    rw [if_pos pm, if_neg (nI_pos (by omega)), if_pos (nI_lt (by omega) (by omega)), if_pos (Int32.lt_trans a2 (nI_lt (by omega) (by omega))), if_pos a1]
    refine v_M_ending ?_
    rw [if_pos pm, am_dp (by omega), if_neg (nI_nlt (by omega) (by omega)), if_neg (nI_nlt (by omega) (by omega)), am_dp (by omega), if_pos a2, am_dp (by omega), if_pos (Int32.lt_trans a2 (nI_lt (by omega) (by omega)))]
    exact hK _ _ hG
  · have b1 : ¬ p2 < nI 10 := fun z => absurd (Int32.lt_of_le_of_lt a3 z) (nI_nlt (by omega) (by omega))
    have b2 : nI 2 < p2 := Int32.lt_of_lt_of_le (nI_lt (by omega) (by omega)) a3
    refine v_X_ending ?_
    rw [if_pos pm, if_neg (nI_pos (by omega)), if_pos (nI_lt (by omega) (by omega)), if_neg b1, if_pos a3, if_neg a1, if_neg (Int32.not_le.mpr b2)]
    refine v_M_ending ?_
    rw [if_pos pm, am_dp (by omega), if_neg (nI_nlt (by omega) (by omega)), if_neg (nI_nlt (by omega) (by omega)), am_dp (by omega), if_neg a2, if_pos b2, am_dp (by omega), if_neg b1, if_pos a4]
    exact hK _ _ hG
  by_cases bad : ¬ (q < 3 ∨ 10 ≤ q ∧ q < 14)
  · refine v_X_ending ?_
    rw [if_pos pm, if_neg (nI_pos (by omega)), if_pos (nI_lt (by omega) (by omega)), if_pos (nI_lt (by omega) (by omega)), if_neg (nI_pos (by omega)), if_neg (nI_ge (by omega) (by omega))]
    refine v_M_ending ?_
    rw [if_pos pm, am_dp (by omega), if_neg (nI_nlt (by omega) (by omega)), if_neg (nI_nlt (by omega) (by omega)), am_dp (by omega), if_neg (nI_nlt (by omega) (by omega)), if_pos (nI_lt (by omega) (by omega)), am_dp (by omega), if_pos (nI_lt (by omega) (by omega))]
    exact hK _ _ hG
  have hq : q < 3 ∨ 10 ≤ q ∧ q < 14 := Classical.byContradiction bad
  have go : ∀ (μ1 : am_M), an_un [0, 124, 125, 126, 127, 128, 129, 130, 27, 34, 41, 48] μ μ1 → (∀ f, f ≠ 13 → f ≠ 14 → μ1 0 f = μ 0 f) → am_Ci L d 230 [.ref 140, .int (nI o), .int (nI q)] μ1 (fun r2 μ2 => K (an_evl lss (nI o) w D q) r2 μ2) := by
    intro μ1 u1 v1
    refine v_M_ending ?_
    rw [if_pos pm, am_dp (by omega), if_neg (nI_nlt (by omega) (by omega)), if_neg (nI_nlt (by omega) (by omega)), am_dp (by omega), if_neg (nI_nlt (by omega) (by omega))]
    have fin := tm o q hq μ1 (an_tG_x hG u1 v1) (w_x μ1 u1) (G := fun r2 μ2 => K (an_evl lss (nI o) w D q) r2 μ2) (fun μ2 g2 _ => hK _ _ g2)
    by_cases q2 : q < 3
    · rw [if_neg (nI_nlt (by omega) (by omega))]
      exact ⟨by omega, fin⟩
    · rw [if_pos (nI_lt (by omega) (by omega)), am_dp (by omega), if_neg (nI_nlt (by omega) (by omega)), if_neg (nI_nlt (by omega) (by omega))]
      exact ⟨by omega, fin⟩
  refine v_X_ending ?_
  rw [if_pos pm, if_neg (nI_pos (by omega)), if_pos (nI_lt (by omega) (by omega))]
  by_cases q2 : q < 3
  · rw [if_pos (nI_lt (by omega) (by omega)), if_neg (nI_pos (by omega)), if_pos (nI_le (by omega) (by omega))]
    refine ⟨by omega, tx o μ an_un_rf (fun _ _ _ => rfl) (fun μ1 u1 v1 x1 y1 _ _ => ?_)⟩
    rcases (by omega : q = 0 ∨ q = 1 ∨ q = 2) with rfl | rfl | rfl
    · rw [if_pos (by decide), if_neg (by decide), x1]
      exact go μ1 u1 v1
    · rw [if_pos (by decide), if_pos (by decide), y1]
      exact go μ1 u1 v1
    · rw [if_neg (by decide)]
      exact go μ1 u1 v1
  · rw [if_neg (nI_nlt (by omega) (by omega)), if_neg (nI_ge (by omega) (by omega))]
    refine ⟨by omega, tx o μ an_un_rf (fun _ _ _ => rfl) (fun μ1 u1 v1 x1 y1 R1 n1 => ?_)⟩
    rw [pk_sub (by omega)]
    refine ⟨by omega, s_Ledger_lossOfT (by omega) (by omega) R1 n1 ?_⟩
    have e : an_evl lss (nI o) w D q = W_lossOf (an_ew lss (nI o) w D (an_eN lss (nI o) w D 40 0)) (q - 10) := by
      unfold an_evl
      rw [if_neg (by omega), if_neg (by omega), if_neg (by omega)]
    rw [← e]
    exact go μ1 u1 v1
