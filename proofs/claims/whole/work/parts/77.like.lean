/-! like. -/
variable {nb : Nat}
noncomputable def W_turn (w : an_W) (D h : Nat) (bk : Int32) : Int32 := am_sum (an_g w D h bk 0) (an_cnt w)
theorem s_turnOf {L d : Nat} {μ : am_M} {F : Int32 → am_M → Prop} {w : an_W} {D h : Nat} {bk : Int32} {ls : List an_Ln} (hd : 6 ≤ d) (hW : an_wt w D ls μ) (hF : F (W_turn w D h bk) μ) : am_Ci L d 77 [.ref 131, .int (nI h), .int bk] μ F := by
  obtain ⟨hD, hD9, hR, -, -, hN, hA, -⟩ := hW
  obtain ⟨eN, lN⟩ := an_cnt_e hN
  obtain ⟨r0, r1, r2, -, -, -⟩ := hR
  refine v_Watch_turnOf ?_
  refine am_down (P := fun j => am_Ji L d 77 5 [some (.ref 131), some (.int (nI h)), some (.int bk), some (.int (am_sum (an_g w D h bk 0) j)), some (.int (nI j))] [] μ F) (N := an_cnt w) ?_ ?_ 0 (Nat.zero_le _)
  · refine v_Watch_turnOf_5 ?_
    rw [r1, eN, if_pos (nI_le (Nat.le_refl _) (by omega))]
    exact hF
  · intro j hj ih
    obtain ⟨-, -, hday, -, -⟩ := hA j hj
    rw [am_sum] at ih
    have skip : ¬ an_amg w D h bk j → am_Ji L d 77 5 [some (.ref 131), some (.int (nI h)), some (.int bk), some (.int (am_sum (an_g w D h bk 0) j)), some (.int (nI (j + 1)))] [] μ F := fun q => by
      rw [an_g_f q, am_addz] at ih
      exact ih
    refine v_Watch_turnOf_5 ?_
    rw [r1, eN, if_neg (nI_ge (by omega) (by omega)), r0, hD]
    simp (discharger := omega) only [am_dp, pk_mul, nI_add, am_gd_in, am_cl, r2 j]
    by_cases q3 : (bk >>> (w (3640 + 12 * j + 3) &&& 31)) &&& nI 1 = nI 1
    · rw [if_neg (fun z => z q3)]
      by_cases q2 : w (3640 + 12 * j + 2) = nI h
      · rw [if_neg (fun z => z q2)]
        by_cases q5 : w (3640 + 12 * j + 5) ≤ nI D - nI 7
        · rw [if_pos q5]
          exact skip (fun z => z.2.2 q5)
        · rw [if_neg q5, if_neg hday]
          rw [an_g_t ⟨q2, q3, q5⟩] at ih
          exact ih
      · rw [if_pos q2]
        exact skip (fun z => q2 z.1)
    · rw [if_pos q3]
      exact skip (fun z => q3 z.2.1)
def an_lkc (T O : Int32) (kt cr : Prop) (c : Nat) : Prop := ¬ kt ∧ ¬ T < O / nI 2 ∧ ¬ O * nI 2 < T ∧ (c = 0 ∨ cr)
noncomputable def an_like (w : an_W) (D h : Nat) (bk : Int32) (ls : List an_Ln) (c : Nat) : Nat → Nat
  | 0 => 0
  | q + 1 => @ite _ (¬ q = h ∧ an_lkc (W_turn w D q bk) (W_turn w D h bk) ((w 3 >>> (nI q &&& 31)) &&& nI 1 = nI 1) (W_cry w D q bk ls = true) c) (Classical.propDecidable _) (an_like w D h bk ls c q + 1) (an_like w D h bk ls c q)
theorem an_like_t {w : an_W} {D h q c : Nat} {bk : Int32} {ls : List an_Ln} (z : ¬ q = h ∧ an_lkc (W_turn w D q bk) (W_turn w D h bk) ((w 3 >>> (nI q &&& 31)) &&& nI 1 = nI 1) (W_cry w D q bk ls = true) c) : an_like w D h bk ls c (q + 1) = an_like w D h bk ls c q + 1 := by rw [an_like, if_pos z]
theorem an_like_f {w : an_W} {D h q c : Nat} {bk : Int32} {ls : List an_Ln} (z : ¬ (¬ q = h ∧ an_lkc (W_turn w D q bk) (W_turn w D h bk) ((w 3 >>> (nI q &&& 31)) &&& nI 1 = nI 1) (W_cry w D q bk ls = true) c)) : an_like w D h bk ls c (q + 1) = an_like w D h bk ls c q := by rw [an_like, if_neg z]
theorem an_lk_x {L d : Nat} {μ : am_M} {F : Int32 → am_M → Prop} {w : an_W} {D h c : Nat} {bk : Int32} {ls : List an_Ln} (hd : 18 ≤ d) (hh : h < 6) (hc : c < 2) (hW : an_wt w D ls μ) (h14 : μ 14 8 = w 3) (hF : ∀ μ', an_un [132, 55] μ μ' → F (nI (an_like w D h bk ls c 6)) μ') : ∀ (n q : Nat) (μ1 : am_M), q + n = 6 → an_un [132, 55] μ μ1 → am_Ji L d 118 42 [some (.ref 0), some (.int (nI h)), some (.int bk), some (.int (nI c)), some (.int (W_turn w D h bk)), some (.int (nI (an_like w D h bk ls c q))), some (.int (nI q)), none, none] [] μ1 F := by
  intro n
  induction n with
  | zero =>
    intro q μ1 hq u
    obtain rfl : q = 6 := by omega
    refine v_X_like_42 ?_
    rw [if_pos (nI_le (Nat.le_refl _) (by omega))]
    exact hF μ1 u
  | succ n ih =>
    intro q μ1 hq u
    have skip : ∀ μ2, an_un [132, 55] μ μ2 → ¬ (¬ q = h ∧ an_lkc (W_turn w D q bk) (W_turn w D h bk) ((w 3 >>> (nI q &&& 31)) &&& nI 1 = nI 1) (W_cry w D q bk ls = true) c) → am_Ji L d 118 42 [some (.ref 0), some (.int (nI h)), some (.int bk), some (.int (nI c)), some (.int (W_turn w D h bk)), some (.int (nI (an_like w D h bk ls c q))), some (.int (nI (q + 1))), none, none] [] μ2 F := fun μ2 u2 z => by
      have := ih (q + 1) μ2 (by omega) u2
      rw [an_like_f z] at this
      exact this
    have take : ∀ μ2, an_un [132, 55] μ μ2 → (¬ q = h ∧ an_lkc (W_turn w D q bk) (W_turn w D h bk) ((w 3 >>> (nI q &&& 31)) &&& nI 1 = nI 1) (W_cry w D q bk ls = true) c) → am_Ji L d 118 42 [some (.ref 0), some (.int (nI h)), some (.int bk), some (.int (nI c)), some (.int (W_turn w D h bk)), some (.int (nI (an_like w D h bk ls c q + 1))), some (.int (nI (q + 1))), none, none] [] μ2 F := fun μ2 u2 z => by
      have := ih (q + 1) μ2 (by omega) u2
      rw [an_like_t z] at this
      exact this
    refine v_X_like_42 ?_
    rw [if_neg (nI_ge (by omega) (by omega))]
    simp only [nI_add]
    by_cases k1 : q = h
    · rw [if_pos (by rw [k1])]
      exact skip μ1 u (fun z => z.1 k1)
    · rw [if_neg (fun z => k1 ((nI_eq (by omega) (by omega)).mp z)), am_dp (by omega), u 14 (by decide), h14]
      by_cases k2 : (w 3 >>> (nI q &&& 31)) &&& nI 1 = nI 1
      · rw [if_neg (fun z => z k2)]
        exact skip μ1 u (fun z => z.2.1 k2)
      · rw [if_pos k2]
        refine ⟨by omega, s_turnOf (by omega) (an_wt_c hW u) ?_⟩
        rw [an_gdz (by omega) (by omega)]
        by_cases k3 : W_turn w D q bk < W_turn w D h bk / nI 2
        · rw [if_pos k3]
          exact skip μ1 u (fun z => z.2.2.1 k3)
        · rw [if_neg k3]
          by_cases k4 : W_turn w D h bk * nI 2 < W_turn w D q bk
          · rw [if_pos k4]
            exact skip μ1 u (fun z => z.2.2.2.1 k4)
          · rw [if_neg k4]
            by_cases k5 : c = 0
            · rw [if_pos (by rw [k5]; exact nI_0)]
              exact take μ1 u ⟨k1, k2, k3, k4, Or.inl k5⟩
            · rw [if_neg (nI_ne0 (by omega) (by omega))]
              refine ⟨by omega, s_criesFor' (by omega) (by omega) (an_wt_c hW u) (fun μ2 u2 => ?_)⟩
              have u12 := an_un_tr u u2 (fun _ q => q) (fun _ q => q)
              rw [an_bf]
              cases hcr : W_cry w D q bk ls with
              | true => exact take μ2 u12 ⟨k1, k2, k3, k4, Or.inr hcr⟩
              | false => exact skip μ2 u12 (fun z => z.2.2.2.2.elim k5 (fun y => by rw [hcr] at y; cases y))
theorem an_lk_m {L d : Nat} {μ : am_M} {F : Int32 → am_M → Prop} {w : an_W} {D h c : Nat} {bk : Int32} {ls : List an_Ln} (hd : 18 ≤ d) (hh : h < 6) (hc : c < 2) (hW : an_wm w D ls) (hw : μ 141 = w) (hF : ∀ μ', an_un [148, 147] μ μ' → F (nI (an_like w D h bk ls c 6)) μ') : ∀ (n q : Nat) (μ1 : am_M), q + n = 6 → an_un [148, 147] μ μ1 → am_Ji L d 225 49 [some (.ref 140), some (.int (nI h)), some (.int bk), some (.int (nI c)), some (.int (W_turn w D h bk)), some (.int (nI (an_like w D h bk ls c q))), some (.int (nI q)), none] [] μ1 F := by
  intro n
  induction n with
  | zero =>
    intro q μ1 hq u
    obtain rfl : q = 6 := by omega
    refine v_M_like_49 ?_
    rw [if_pos (nI_le (Nat.le_refl _) (by omega))]
    exact hF μ1 u
  | succ n ih =>
    intro q μ1 hq u
    have skip : ∀ μ2, an_un [148, 147] μ μ2 → ¬ (¬ q = h ∧ an_lkc (W_turn w D q bk) (W_turn w D h bk) ((w 3 >>> (nI q &&& 31)) &&& nI 1 = nI 1) (W_cry w D q bk ls = true) c) → am_Ji L d 225 49 [some (.ref 140), some (.int (nI h)), some (.int bk), some (.int (nI c)), some (.int (W_turn w D h bk)), some (.int (nI (an_like w D h bk ls c q))), some (.int (nI (q + 1))), none] [] μ2 F := fun μ2 u2 z => by
      have := ih (q + 1) μ2 (by omega) u2
      rw [an_like_f z] at this
      exact this
    have take : ∀ μ2, an_un [148, 147] μ μ2 → (¬ q = h ∧ an_lkc (W_turn w D q bk) (W_turn w D h bk) ((w 3 >>> (nI q &&& 31)) &&& nI 1 = nI 1) (W_cry w D q bk ls = true) c) → am_Ji L d 225 49 [some (.ref 140), some (.int (nI h)), some (.int bk), some (.int (nI c)), some (.int (W_turn w D h bk)), some (.int (nI (an_like w D h bk ls c q + 1))), some (.int (nI (q + 1))), none] [] μ2 F := fun μ2 u2 z => by
      have := ih (q + 1) μ2 (by omega) u2
      rw [an_like_t z] at this
      exact this
    refine v_M_like_49 ?_
    rw [if_neg (nI_ge (by omega) (by omega))]
    simp only [nI_add, am_addz]
    by_cases k1 : q = h
    · rw [if_pos (by rw [k1])]
      exact skip μ1 u (fun z => z.1 k1)
    · rw [if_neg (fun z => k1 ((nI_eq (by omega) (by omega)).mp z)), u 141 (by decide), hw]
      by_cases k2 : (w 3 >>> (nI q &&& 31)) &&& nI 1 = nI 1
      · rw [if_neg (fun z => z k2)]
        exact skip μ1 u (fun z => z.2.1 k2)
      · rw [if_pos k2]
        refine ⟨by omega, s_M_cryOf' (by omega) (by omega) ((u 141 (by decide)).trans hw) hW (fun μ2 u2 f2 => ?_)⟩
        have u12 := an_un_tr u u2 (fun _ q => q) (fun _ q => q)
        rw [an_gdz (by omega) (by omega), show μ2 148 8 = W_turn w D q bk from f2 0 (by omega), Int32.mul_comm (nI 2)]
        by_cases k3 : W_turn w D q bk < W_turn w D h bk / nI 2
        · rw [if_pos k3]
          exact skip μ2 u12 (fun z => z.2.2.1 k3)
        · rw [if_neg k3]
          by_cases k4 : W_turn w D h bk * nI 2 < W_turn w D q bk
          · rw [if_pos k4]
            exact skip μ2 u12 (fun z => z.2.2.2.1 k4)
          · rw [if_neg k4]
            by_cases k5 : c = 0
            · rw [if_pos (by rw [k5]; exact nI_0)]
              exact take μ2 u12 ⟨k1, k2, k3, k4, Or.inl k5⟩
            · rw [if_neg (nI_ne0 (by omega) (by omega)), an_bf]
              cases hcr : W_cry w D q bk ls with
              | true => exact take μ2 u12 ⟨k1, k2, k3, k4, Or.inr hcr⟩
              | false => exact skip μ2 u12 (fun z => z.2.2.2.2.elim k5 (fun y => by rw [hcr] at y; cases y))
theorem op_like {L d : Nat} {μ : am_M} {p1 p2 p3 : Int32} {K : Int32 → Int32 → am_M → Prop} (hd : 30 ≤ d) (hG : an_G nb μ) (hK : ∀ r μ', an_G nb μ' → K r r μ') : am_Ci L d 118 [.ref 0, .int p1, .int p2, .int p3] μ (fun r1 μ1 => am_Ci L d 225 [.ref 140, .int p1, .int p2, .int p3] μ1 (fun r2 μ2 => K r1 r2 μ2)) := by
  have hS := hG.1
  generalize hw : μ 141 = w at hS
  obtain ⟨h1, h2, h3, h4, h5, h6, h7, h8, h9, h10, h11, h12, h13, h14, h15⟩ := id hS
  obtain ⟨hD, hN, hP, hKt, hE⟩ := id h1
  obtain ⟨eN, lN⟩ := an_cnt_e hN
  have hL : an_RL 58 w μ := h8
  have hC : an_RC 15 w μ := h9.1
  obtain ⟨D, lD, eD⟩ := hD
  have hT := h2.1
  have hA := an_k5_am eD lD h5
  have hkp := an_k4_kp eD lD h4
  obtain ⟨lss, hls⟩ := id h15
  obtain ⟨ok4, x4, m4⟩ := hls 4 (by omega)
  have hWX : an_wt w D (lss 4) μ := ⟨eD, lD, hL, hC, hT, hN, hA, h11, ok4, x4⟩
  have hWM : an_wm w D (lss 4) := ⟨eD, lD, hT, hN, hA, hkp, ok4, m4⟩
  obtain ⟨kk, lkk, ekk⟩ := id hKt
  rcases an_arg p1 6 (by omega) (by omega) with ⟨a1, a2⟩ | ⟨a1, a2, a3, a4⟩ | ⟨h, hh, rfl⟩
  · refine v_X_like ?_
    rw [am_dp (by omega), if_pos a1]
    refine v_M_like ?_
    rw [am_dp (by omega), am_dp (by omega), if_pos a2]
    exact hK _ _ hG
  · have a5 : nI 5 < p1 := a4
    refine v_X_like ?_
    rw [am_dp (by omega), if_neg a1, if_pos a3]
    refine v_M_like ?_
    rw [am_dp (by omega), am_dp (by omega), if_neg a2, if_pos a5]
    exact hK _ _ hG
  · rcases an_set p2 with b1 | ⟨b1, b2⟩ | ⟨b1, b2⟩
    · refine v_X_like ?_
      rw [am_dp (by omega), if_neg (nI_pos (by omega)), if_neg (nI_ge (by omega) (by omega)), am_dp (by omega), if_pos b1]
      refine v_M_like ?_
      rw [am_dp (by omega), am_dp (by omega), if_neg (nI_nlt (by omega) (by omega)), if_neg (nI_nlt (by omega) (by omega)), am_dp (by omega), if_pos b1]
      exact hK _ _ hG
    · refine v_X_like ?_
      rw [am_dp (by omega), if_neg (nI_pos (by omega)), if_neg (nI_ge (by omega) (by omega)), am_dp (by omega), if_neg b1, if_pos b2]
      refine v_M_like ?_
      rw [am_dp (by omega), am_dp (by omega), if_neg (nI_nlt (by omega) (by omega)), if_neg (nI_nlt (by omega) (by omega)), am_dp (by omega), if_neg b1, if_pos b2]
      exact hK _ _ hG
    · rcases an_arg p3 2 (by omega) (by omega) with ⟨c1, c2⟩ | ⟨c1, c2, c3, c4⟩ | ⟨c, hc, rfl⟩
      · refine v_X_like ?_
        rw [am_dp (by omega), if_neg (nI_pos (by omega)), if_neg (nI_ge (by omega) (by omega)), am_dp (by omega), if_neg b1, if_neg b2, if_pos c1]
        refine v_M_like ?_
        rw [am_dp (by omega), am_dp (by omega), if_neg (nI_nlt (by omega) (by omega)), if_neg (nI_nlt (by omega) (by omega)), am_dp (by omega), if_neg b1, if_neg b2, am_dp (by omega), if_pos c2]
        exact hK _ _ hG
      · have c5 : nI 1 < p3 := c4
        refine v_X_like ?_
        rw [am_dp (by omega), if_neg (nI_pos (by omega)), if_neg (nI_ge (by omega) (by omega)), am_dp (by omega), if_neg b1, if_neg b2, if_neg c1, if_neg (Int32.not_le.mpr c5)]
        refine v_M_like ?_
        rw [am_dp (by omega), am_dp (by omega), if_neg (nI_nlt (by omega) (by omega)), if_neg (nI_nlt (by omega) (by omega)), am_dp (by omega), if_neg b1, if_neg b2, am_dp (by omega), if_neg c2, if_pos c5]
        exact hK _ _ hG
      · refine v_X_like ?_
        rw [am_dp (by omega), if_neg (nI_pos (by omega)), if_neg (nI_ge (by omega) (by omega)), am_dp (by omega), if_neg b1, if_neg b2, if_neg (nI_pos (by omega)), if_pos (nI_le (by omega) (by omega))]
        refine ⟨by omega, s_turnOf (by omega) hWX ?_⟩
        refine an_lk_x (by omega) hh hc hWX h14 (fun μ1 u1 => ?_) 6 0 μ (by omega) an_un_rf
        have hG1 := an_un_G hG u1 (by intro c hc; simp at hc; unfold an_kc; omega)
        have w1 : μ1 141 = w := (u1 141 (by decide)).trans hw
        refine v_M_like ?_
        rw [am_dp (by omega), am_dp (by omega), if_neg (nI_nlt (by omega) (by omega)), if_neg (nI_nlt (by omega) (by omega)), am_dp (by omega), if_neg b1, if_neg b2, am_dp (by omega), if_neg (nI_nlt (by omega) (by omega)), if_neg (nI_nlt (by omega) (by omega))]
        refine ⟨by omega, s_M_signs (by omega) hh eD lD w1 hT hN hA hkp (fun μ2 u2 f2 => ?_)⟩
        rw [show μ2 148 8 = W_turn w D h p2 from f2 0 (by omega)]
        have hG2 := an_un_G hG1 u2 (by intro c hc; simp at hc; unfold an_kc; omega)
        exact an_lk_m (by omega) hh hc hWM ((u2 141 (by decide)).trans w1) (fun μ3 u3 => hK _ _ (an_un_G hG2 u3 (by intro c hc; simp at hc; unfold an_kc; omega))) 6 0 μ2 (by omega) an_un_rf
