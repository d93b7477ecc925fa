/-! ring and letIn, the calls. -/
variable {nb : Nat}
theorem an_rng {x : Int32} {lo hi : Nat} (hl : lo ≤ hi) (hh : hi < 1000000) (h1 : ¬ x < nI lo) (h2 : ¬ nI hi < x) : ∃ j, lo ≤ j ∧ j ≤ hi ∧ x = nI j := by
  rw [Int32.lt_iff_toInt_lt, nI_toInt (by omega)] at h1 h2
  obtain ⟨j, hj, rfl⟩ := nI_of (x := x) (by rw [Int32.lt_iff_toInt_lt, Int32.toInt_zero]; omega)
  rw [nI_toInt hj] at h1 h2
  exact ⟨j, by omega, by omega, rfl⟩
/-- what a ring is asked of is as it should be -/
def an_rok (w : an_W) (p1 p2 p3 : Int32) : Prop := (¬ p1 < nI 2 ∧ ¬ nI 4 < p1) ∧ (¬ p2 < nI 1 ∧ ¬ nI 9999 < p2) ∧ ∃ day, day < 90 ∧ p3 = nI day ∧ W_biz w day = true
theorem s_M_ring0 {L d : Nat} {μ : am_M} {F : Int32 → am_M → Prop} {w : an_W} {p1 p2 p3 p4 : Int32} (hd : 8 ≤ d) (hw : μ 141 = w) (hb : ¬ (an_rok w p1 p2 p3 ∧ ¬ p4 < nI 0 ∧ ¬ nI 1 < p4)) (hF : F (- nI 1) μ) : am_Ci L d 214 [.ref 140, .int p1, .int p2, .int p3, .int p4] μ F := by
  refine v_M_ring ?_
  rw [am_dp (by omega)]
  by_cases a1 : p1 < nI 2
  · rw [if_pos a1]; exact hF
  rw [if_neg a1]
  by_cases a2 : nI 4 < p1
  · rw [if_pos a2]; exact hF
  rw [if_neg a2, am_dp (by omega)]
  by_cases b1 : p2 < nI 1
  · rw [if_pos b1]; exact hF
  rw [if_neg b1]
  by_cases b2 : nI 9999 < p2
  · rw [if_pos b2]; exact hF
  rw [if_neg b2, am_dp (by omega), am_dp (by omega)]
  by_cases c1 : p3 < nI 0
  · rw [if_pos c1]; exact hF
  rw [if_neg c1]
  by_cases c2 : nI 89 < p3
  · rw [if_pos c2]; exact hF
  rw [if_neg c2]
  obtain ⟨day, _, l, rfl⟩ := an_rng (by omega) (by omega) c1 c2
  refine ⟨by omega, s_M_isBusiness hw (by omega) ?_⟩
  rw [an_bf]
  cases hz : W_biz w day with
  | false => exact hF
  | true =>
    dsimp only
    rw [am_dp (by omega)]
    by_cases e1 : p4 < nI 0
    · rw [if_pos e1]; exact hF
    rw [if_neg e1]
    by_cases e2 : nI 1 < p4
    · rw [if_pos e2]; exact hF
    exact absurd ⟨⟨⟨a1, a2⟩, ⟨b1, b2⟩, day, by omega, rfl, hz⟩, e1, e2⟩ hb
theorem s_M_ring {L d : Nat} {μ : am_M} {F : Int32 → am_M → Prop} {w : an_W} {lss : Nat → List an_Ln} {told : Int32} {k am day q : Nat} (hd : 17 ≤ d) (hk1 : 2 ≤ k) (hk : k ≤ 4) (ham : am < 10000) (ham1 : 1 ≤ am) (hday : day < 90) (hz : W_biz w day = true) (hq : q < 2) (hw : μ 141 = w) (h27 : μ 140 27 = told) (ht : an_told told) (hT : an_WT w) (hN : an_N (w 1) 151) (ho : ∀ b, b < 4 → an_okl false (lss b)) (hM : ∀ b, b < 4 → an_scM w b (lss b))
    (hF : ∀ μ' v c, an_un [140, 147, 148, 150, 151] μ μ' → (∀ f, f ≠ 26 → μ' 140 f = μ 140 f) → an_rfd (an_hu w lss told am day) k (4 ^ k) 0 none = some (v, c) → F (if q = 0 then nI v else nI (an_rnum k c k)) μ') :
    am_Ci L d 214 [.ref 140, .int (nI k), .int (nI am), .int (nI day), .int (nI q)] μ F := by
  refine v_M_ring ?_
  rw [am_dp (by omega), if_neg (nI_nlt (by omega) (by omega)), if_neg (nI_nlt (by omega) (by omega)), am_dp (by omega), if_neg (nI_nlt (by omega) (by omega)), if_neg (nI_nlt (by omega) (by omega)), am_dp (by omega), am_dp (by omega), if_neg (nI_nlt (by omega) (by omega)), if_neg (nI_nlt (by omega) (by omega))]
  refine ⟨by omega, s_M_isBusiness hw (by omega) ?_⟩
  rw [an_bf, hz]
  dsimp only
  rw [am_dp (by omega), if_neg (nI_nlt (by omega) (by omega)), if_neg (nI_nlt (by omega) (by omega))]
  intro μ1 e1
  have u1 : an_un [140] μ μ1 := e1 ▸ an_un_w (by simp)
  have sm : an_rfd (an_hu w lss told am day) k (4 ^ k) 0 none ≠ none := an_rfd_some _ _ _ (Or.inr (by
    rcases (by omega : k = 2 ∨ k = 3 ∨ k = 4) with rfl | rfl | rfl
    · exact ⟨1, by omega, by decide, by decide⟩
    · exact ⟨6, by omega, by decide, by decide⟩
    · exact ⟨27, by omega, by decide, by decide⟩))
  refine ⟨by omega, s_M_rings (lss := lss) (told := told) (w := w) hk1 hk ham ht hday hT hN ho hM k 0 0 (d - 1) μ1 _ none (by omega) (by omega) rfl (by decide) ((u1 141 (by decide)).trans hw) (by rw [an_w_o e1 (by decide)]; exact h27) (fun j hj => absurd hj (by omega)) (Or.inl ⟨rfl, an_w_s e1⟩) (fun μ2 g2 r2 => ?_)⟩
  rw [Nat.zero_mul] at r2
  have u2 : an_un [140, 147, 148, 150, 151] μ μ2 := an_un_tr u1 g2.1 (by simp) (fun _ z => z)
  have v2 : ∀ f, f ≠ 26 → μ2 140 f = μ 140 f := fun f hf => (g2.2.1 f hf).trans (an_w_o e1 hf)
  rcases r2 with ⟨n1, _⟩ | ⟨v, c, s1, s2, s3, s4⟩
  · exact absurd n1 sm
  have h := hF μ2 v c u2 v2 s1
  by_cases q0 : q = 0
  · rw [q0, if_neg (fun z => z nI_0), s3]
    rw [if_pos q0] at h
    exact h
  · rw [if_pos (nI_ne0 (by omega) (by omega))]
    rw [if_neg q0] at h
    have loop : ∀ (n j : Nat), j + n = k → am_Ji L d 214 70 [some (.ref 140), some (.int (nI k)), none, none, none, some (.int (nI (an_rnum k c j))), some (.int (nI j))] [] μ2 F := by
      intro n
      induction n with
      | zero =>
        intro j hj
        obtain rfl : j = k := by omega
        refine v_M_ring_70 ?_
        rw [if_pos (nI_le (Nat.le_refl _) (by omega))]
        exact h
      | succ n ih =>
        intro j hj
        refine v_M_ring_70 ?_
        rw [if_neg (nI_ge (by omega) (by omega)), am_gd_in (by omega) (by omega), am_cl (by omega), s4 j (by omega), pk_mul, nI_add, nI_add, Nat.mul_comm]
        exact ih (j + 1) (by omega)
    exact loop k 0 (by omega)
theorem s_X_ring0 {L d : Nat} {μ : am_M} {F : Int32 → am_M → Prop} {w : an_W} {p1 p2 p3 p4 : Int32} (hd : 8 ≤ d) (hC : an_RC 15 w μ) (hb : ¬ (an_rok w p1 p2 p3 ∧ ¬ p4 < nI 0 ∧ ¬ nI 1 < p4)) (hF : F (- nI 1) μ) : am_Ci L d 109 [.ref 0, .int p1, .int p2, .int p3, .int p4] μ F := by
  refine v_X_ring ?_
  rw [am_dp (by omega)]
  by_cases a1 : p1 < nI 2
  · rw [if_pos a1]; exact hF
  rw [if_neg a1]
  by_cases a2 : nI 4 < p1
  · rw [if_pos a2]; exact hF
  rw [if_neg a2, am_dp (by omega), am_dp (by omega)]
  by_cases c1 : p3 < 0
  · rw [if_pos c1]; exact hF
  rw [if_neg c1]
  by_cases c2 : nI 90 ≤ p3
  · rw [if_pos c2]; exact hF
  rw [if_neg c2]
  obtain ⟨day, l, rfl⟩ : ∃ day, day < 90 ∧ p3 = nI day := by
    rcases pk_ix p3 (n := 90) (by omega) with h | h | h
    · exact absurd h c1
    · exact absurd h c2
    · exact h
  refine ⟨by omega, s_Country_isBusiness hC (by omega) ?_⟩
  rw [an_bf]
  cases hz : W_biz w day with
  | false => exact hF
  | true =>
    dsimp only
    by_cases b1 : p2 < nI 1
    · rw [if_pos b1]; exact hF
    rw [if_neg b1]
    by_cases b2 : nI 9999 < p2
    · rw [if_pos b2]; exact hF
    rw [if_neg b2]
    by_cases e1 : p4 < 0
    · rw [if_pos e1]; exact hF
    rw [if_neg e1]
    by_cases e2 : p4 ≤ nI 1
    · exact absurd ⟨⟨⟨a1, a2⟩, ⟨b1, b2⟩, day, l, rfl, hz⟩, by rw [nI_0]; exact e1, Int32.not_lt.mpr e2⟩ hb
    · rw [if_neg e2]; exact hF
theorem s_X_letIn0 {L d : Nat} {μ : am_M} {F : Int32 → am_M → Prop} {w : an_W} {p1 p2 p3 p4 : Int32} (hd : 8 ≤ d) (hC : an_RC 15 w μ) (hb : ¬ (an_rok w p1 p2 p3 ∧ ¬ p4 < nI 0 ∧ ¬ nI 20 < p4)) (hF : F (- nI 1) μ) : am_Ci L d 110 [.ref 0, .int p1, .int p2, .int p3, .int p4] μ F := by
  refine v_X_letIn ?_
  rw [am_dp (by omega)]
  by_cases a1 : p1 < nI 2
  · rw [if_pos a1]; exact hF
  rw [if_neg a1]
  by_cases a2 : nI 4 < p1
  · rw [if_pos a2]; exact hF
  rw [if_neg a2, am_dp (by omega), am_dp (by omega)]
  by_cases c1 : p3 < 0
  · rw [if_pos c1]; exact hF
  rw [if_neg c1]
  by_cases c2 : nI 90 ≤ p3
  · rw [if_pos c2]; exact hF
  rw [if_neg c2]
  obtain ⟨day, l, rfl⟩ : ∃ day, day < 90 ∧ p3 = nI day := by
    rcases pk_ix p3 (n := 90) (by omega) with h | h | h
    · exact absurd h c1
    · exact absurd h c2
    · exact h
  refine ⟨by omega, s_Country_isBusiness hC (by omega) ?_⟩
  rw [an_bf]
  cases hz : W_biz w day with
  | false => exact hF
  | true =>
    dsimp only
    by_cases b1 : p2 < nI 1
    · rw [if_pos b1]; exact hF
    rw [if_neg b1]
    by_cases b2 : nI 9999 < p2
    · rw [if_pos b2]; exact hF
    rw [if_neg b2]
    by_cases e1 : p4 < 0
    · rw [if_pos e1]; exact hF
    rw [if_neg e1]
    by_cases e2 : p4 ≤ nI 20
    · exact absurd ⟨⟨⟨a1, a2⟩, ⟨b1, b2⟩, day, l, rfl, hz⟩, by rw [nI_0]; exact e1, Int32.not_lt.mpr e2⟩ hb
    · rw [if_neg e2]; exact hF
theorem op_ring {L d : Nat} {μ : am_M} {p1 p2 p3 p4 : Int32} {K : Int32 → Int32 → am_M → Prop} (hd : 30 ≤ d) (hG : an_G nb μ) (hK : ∀ r μ', an_G nb μ' → K r r μ') : am_Ci L d 109 [.ref 0, .int p1, .int p2, .int p3, .int p4] μ (fun r1 μ1 => am_Ci L d 214 [.ref 140, .int p1, .int p2, .int p3, .int p4] μ1 (fun r2 μ2 => K r1 r2 μ2)) := by
  have hS := hG.1
  generalize hw : μ 141 = w at hS
  obtain ⟨h1, h2, h3, h4, h5, h6, h7, h8, h9, h10, h11, h12, h13, h14, h15⟩ := id hS
  obtain ⟨hD, hN, hP, hKt, hE⟩ := id h1
  have hL : an_RL 58 w μ := h8
  have hC : an_RC 15 w μ := h9.1
  have hT := h2.1
  have hdy := an_k5_days hD h5
  have g15 : μ 15 5 = - nI 1 := hG.2.2.2.2.2.2.1
  have g27 : μ 140 27 = - nI 1 := hG.2.2.2.2.2.2.2
  have hSn := an_RS_of h3 h9 g15
  obtain ⟨lss, hls⟩ := id h15
  have ho : ∀ b, b < 4 → an_okl false (lss b) := fun b hb => by have := (hls b (by omega)).1; rwa [show Nat.beq b 4 = false from am_nb (by omega)] at this
  have hX : ∀ b, b < 4 → an_scX false (21 + 7 * b) μ (lss b) := fun b hb => by have := (hls b (by omega)).2.1; rwa [show Nat.beq b 4 = false from am_nb (by omega)] at this
  have hM : ∀ b, b < 4 → an_scM w b (lss b) := fun b hb => (hls b (by omega)).2.2
  by_cases hv : an_rok w p1 p2 p3 ∧ ¬ p4 < nI 0 ∧ ¬ nI 1 < p4
  · obtain ⟨⟨⟨a1, a2⟩, ⟨b1, b2⟩, day, lday, rfl, hz⟩, c1, c2⟩ := hv
    obtain ⟨k, k1, k2, rfl⟩ := an_rng (by omega) (by omega) a1 a2
    obtain ⟨am, am1, am2, rfl⟩ := an_rng (by omega) (by omega) b1 b2
    obtain ⟨q, _, q2, rfl⟩ := an_rng (by omega) (by omega) c1 c2
    refine v_X_ring ?_
    rw [am_dp (by omega), if_neg a1, if_neg a2, am_dp (by omega), am_dp (by omega), if_neg (nI_pos (by omega)), if_neg (nI_ge (by omega) (by omega))]
    refine ⟨by omega, s_Country_isBusiness hC (by omega) ?_⟩
    rw [an_bf, hz]
    dsimp only
    rw [if_neg b1, if_neg b2, if_neg (nI_pos (by omega)), if_pos (nI_le (by omega) (by omega))]
    refine ⟨by omega, s_fillRings (lss := lss) (by omega) (Or.inl rfl) lday hL hC hSn hT hN hdy ho hX (fun μ1 u1 m1 => ?_)⟩
    refine ⟨by omega, s_Rings_search (U := an_hu w lss (- nI 1) am day) (by omega) k1 k2 (fun a b _ _ => an_hu_lt (by omega)) (fun a b ha hb => m1 a b ha hb) (fun μ2 u2 r2 => ?_)⟩
    have hG1 := an_un_G hG u1 (by intro c hc; simp at hc; unfold an_kc; omega)
    have hG2 := an_un_G hG1 u2 (by intro c hc; simp at hc; unfold an_kc; omega)
    have w2 : μ2 141 = w := by rw [u2 141 (by decide), u1 141 (by decide), hw]
    have t2 : μ2 140 27 = - nI 1 := by rw [u2 140 (by decide), u1 140 (by decide), g27]
    have fin : ∀ (r : Int32), (∀ v c, an_rfd (an_hu w lss (- nI 1) am day) k (4 ^ k) 0 none = some (v, c) → r = if q = 0 then nI v else nI (an_rnum k c k)) → am_Ci L d 214 [.ref 140, .int (nI k), .int (nI am), .int (nI day), .int (nI q)] μ2 (fun r2 μ2 => K r r2 μ2) := by
      intro r hr
      refine s_M_ring (lss := lss) (by omega) k1 k2 (by omega) am1 lday hz (by omega) w2 t2 (Or.inl rfl) hT hN ho hM (fun μ3 v c u3 v3 s3 => ?_)
      rw [← hr v c s3]
      refine hK _ _ (an_G_of hG2 ?_ ⟨fun c hc => u3 c (by have := hc.1; have := hc.2.1; simp; omega), u3 _ (by decide), u3 _ (by decide), u3 _ (by decide), u3 _ (by decide), fun f _ => by rw [u3 0 (by decide)], fun f hf => v3 f (by omega), by rw [u3 15 (by decide)]⟩)
      rw [u3 141 (by decide)]
      exact an_S_c hG2.1 (fun c hc => u3 c (by have := hc.1; have := hc.2.1; simp; omega))
    rcases r2 with ⟨n1, _⟩ | ⟨v, c, s1, s2, s3, s4⟩
    · by_cases q0 : q = 0
      · rw [if_neg (fun z => z (by rw [q0]; exact nI_0))]
        exact fin _ (fun v c e => by rw [n1] at e; cases e)
      · rw [if_pos (nI_ne0 (by omega) (by omega))]
        exact fin _ (fun v c e => by rw [n1] at e; cases e)
    · by_cases q0 : q = 0
      · rw [if_neg (fun z => z (by rw [q0]; exact nI_0)), s3]
        exact fin _ (fun v' c' e => by rw [s1] at e; cases e; rw [if_pos q0])
      · rw [if_pos (nI_ne0 (by omega) (by omega)), s4]
        exact fin _ (fun v' c' e => by rw [s1] at e; cases e; rw [if_neg q0])
  · refine s_X_ring0 (by omega) hC hv ?_
    refine s_M_ring0 (by omega) hw hv ?_
    exact hK _ _ hG
theorem op_letIn {L d : Nat} {μ : am_M} {p1 p2 p3 p4 : Int32} {K : Int32 → Int32 → am_M → Prop} (hd : 30 ≤ d) (hG : an_G nb μ) (hK : ∀ r μ', an_G nb μ' → K r r μ') : am_Ci L d 110 [.ref 0, .int p1, .int p2, .int p3, .int p4] μ (fun r1 μ1 => am_Ci L d 215 [.ref 140, .int p1, .int p2, .int p3, .int p4] μ1 (fun r2 μ2 => K r1 r2 μ2)) := by
  have hS := hG.1
  generalize hw : μ 141 = w at hS
  obtain ⟨h1, h2, h3, h4, h5, h6, h7, h8, h9, h10, h11, h12, h13, h14, h15⟩ := id hS
  obtain ⟨hD, hN, hP, hKt, hE⟩ := id h1
  have hL : an_RL 58 w μ := h8
  have hC : an_RC 15 w μ := h9.1
  have hT := h2.1
  have hdy := an_k5_days hD h5
  have g15 : μ 15 5 = - nI 1 := hG.2.2.2.2.2.2.1
  have g27 : μ 140 27 = - nI 1 := hG.2.2.2.2.2.2.2
  have hSn := an_RS_of h3 h9 g15
  obtain ⟨lss, hls⟩ := id h15
  have ho : ∀ b, b < 4 → an_okl false (lss b) := fun b hb => by have := (hls b (by omega)).1; rwa [show Nat.beq b 4 = false from am_nb (by omega)] at this
  have hX : ∀ b, b < 4 → an_scX false (21 + 7 * b) μ (lss b) := fun b hb => by have := (hls b (by omega)).2.1; rwa [show Nat.beq b 4 = false from am_nb (by omega)] at this
  have hM : ∀ b, b < 4 → an_scM w b (lss b) := fun b hb => (hls b (by omega)).2.2
  have back : ∀ (μ2 μ3 : am_M), an_G nb μ2 → an_un [140, 147, 148, 150, 151] μ2 μ3 → (∀ f, f ≠ 26 → f ≠ 27 → μ3 140 f = μ2 140 f) → μ3 140 27 = - nI 1 → an_G nb μ3 := by
    intro μ2 μ3 hG2 u3 v3 t3
    have t2 : μ2 140 27 = - nI 1 := hG2.2.2.2.2.2.2.2
    refine an_G_of hG2 ?_ ⟨fun c hc => u3 c (by have := hc.1; have := hc.2.1; simp; omega), u3 _ (by decide), u3 _ (by decide), u3 _ (by decide), u3 _ (by decide), fun f _ => by rw [u3 0 (by decide)], fun f hf => ?_, by rw [u3 15 (by decide)]⟩
    · rw [u3 141 (by decide)]
      exact an_S_c hG2.1 (fun c hc => u3 c (by have := hc.1; have := hc.2.1; simp; omega))
    · by_cases z : f = 27
      · rw [z, t3, t2]
      · exact v3 f (by omega) z
  by_cases hv : an_rok w p1 p2 p3 ∧ ¬ p4 < nI 0 ∧ ¬ nI 20 < p4
  · obtain ⟨⟨⟨a1, a2⟩, ⟨b1, b2⟩, day, lday, rfl, hz⟩, c1, c2⟩ := hv
    obtain ⟨k, k1, k2, rfl⟩ := an_rng (by omega) (by omega) a1 a2
    obtain ⟨am, am1, am2, rfl⟩ := an_rng (by omega) (by omega) b1 b2
    obtain ⟨t, _, lt, rfl⟩ := an_rng (by omega) (by omega) c1 c2
    refine v_X_letIn ?_
    rw [am_dp (by omega), if_neg a1, if_neg a2, am_dp (by omega), am_dp (by omega), if_neg (nI_pos (by omega)), if_neg (nI_ge (by omega) (by omega))]
    refine ⟨by omega, s_Country_isBusiness hC (by omega) ?_⟩
    rw [an_bf, hz]
    dsimp only
    rw [if_neg b1, if_neg b2, if_neg (nI_pos (by omega)), if_pos (nI_le (by omega) (by omega))]
    refine ⟨by omega, s_fillRings (lss := lss) (by omega) (Or.inr ⟨t, lt, rfl⟩) lday hL hC hSn hT hN hdy ho hX (fun μ1 u1 m1 => ?_)⟩
    refine ⟨by omega, s_Rings_search (U := an_hu w lss (nI t) am day) (by omega) k1 k2 (fun a b _ _ => an_hu_lt (by omega)) (fun a b ha hb => m1 a b ha hb) (fun μ2 u2 r2 => ?_)⟩
    have hG1 := an_un_G hG u1 (by intro c hc; simp at hc; unfold an_kc; omega)
    have hG2 := an_un_G hG1 u2 (by intro c hc; simp at hc; unfold an_kc; omega)
    have w2 : μ2 141 = w := by rw [u2 141 (by decide), u1 141 (by decide), hw]
    have fin : ∀ (r : Int32), (∀ v c, an_rfd (an_hu w lss (nI t) am day) k (4 ^ k) 0 none = some (v, c) → r = nI v) → am_Ci L d 215 [.ref 140, .int (nI k), .int (nI am), .int (nI day), .int (nI t)] μ2 (fun r2 μ2 => K r r2 μ2) := by
      intro r hr
      refine v_M_letIn ?_
      rw [am_dp (by omega), if_neg c1, if_neg c2]
      intro μ3 e3
      refine ⟨by omega, s_M_ring (q := 0) (lss := lss) (told := nI t) (by omega) k1 k2 (by omega) am1 lday hz (by omega) (by rw [an_w_c e3 (by decide), w2]) (an_w_s e3) (Or.inr ⟨t, lt, rfl⟩) hT hN ho hM (fun μ4 v c u4 v4 s4 => ?_)⟩
      intro μ5 e5
      rw [if_pos rfl, ← hr v c s4]
      refine hK _ _ (back μ2 μ5 hG2 (fun c hc => ?_) (fun f f1 f2 => ?_) (an_w_s e5))
      · have h1 : c ≠ 140 := fun z => hc (by simp [z])
        rw [an_w_c e5 h1, u4 c hc, an_w_c e3 h1]
      · rw [an_w_o e5 f2, v4 f f1, an_w_o e3 f2]
    rcases r2 with ⟨n1, n2⟩ | ⟨v, c, s1, s2, s3, s4⟩
    · exact fin _ (fun v c e => by rw [n1] at e; cases e)
    · rw [s3]
      exact fin _ (fun v' c' e => by rw [s1] at e; cases e; rfl)
  · refine s_X_letIn0 (by omega) hC hv ?_
    refine v_M_letIn ?_
    rw [am_dp (by omega)]
    by_cases c1 : p4 < nI 0
    · rw [if_pos c1]; exact hK _ _ hG
    rw [if_neg c1]
    by_cases c2 : nI 20 < p4
    · rw [if_pos c2]; exact hK _ _ hG
    rw [if_neg c2]
    intro μ3 e3
    refine ⟨by omega, s_M_ring0 (by omega) (by rw [an_w_c e3 (by decide), hw]) (fun z => hv ⟨z.1, c1, c2⟩) ?_⟩
    intro μ5 e5
    refine hK _ _ (back μ μ5 hG (fun c hc => ?_) (fun f f1 f2 => ?_) (an_w_s e5))
    · have h1 : c ≠ 140 := fun z => hc (by simp [z])
      rw [an_w_c e5 h1, an_w_c e3 h1]
    · rw [an_w_o e5 f2, an_w_o e3 f2]
