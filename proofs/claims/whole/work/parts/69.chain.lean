/-! chain. -/
variable {nb : Nat}
def an_rn (w : an_W) (k : Nat) : Nat → Option Nat
  | 0 => none
  | i + 1 => if w (3640 + 12 * i + 2) = w (3640 + 12 * k + 0) ∧ w (3640 + 12 * i + 3) = w (3640 + 12 * k + 1) ∧ ¬ w (3640 + 12 * i + 6) = nI 3 then some i else an_rn w k i
theorem an_rn_e (w : an_W) (k : Nat) : ∀ i, an_rest w k i = match an_rn w k i with
    | some j => nI j
    | none => - nI 1 := by
  intro i
  induction i with
  | zero => rfl
  | succ i ih =>
    rw [an_rest, an_rn]
    split
    · rfl
    · exact ih
theorem an_rn_lt {w : an_W} {k j : Nat} : ∀ {i}, an_rn w k i = some j → j < i := by
  intro i
  induction i with
  | zero => intro h; cases h
  | succ i ih =>
    intro h
    rw [an_rn] at h
    split at h
    · cases h; omega
    · have := ih h; omega
/-- a chain from c: how many, the first -/
def an_chn (w : an_W) : Nat → Nat → Nat × Nat
  | 0, c => (1, c)
  | f + 1, c => match an_rn w c c with
    | none => (1, c)
    | some j => ((an_chn w f j).1 + 1, (an_chn w f j).2)
theorem an_chn_b (w : an_W) : ∀ (f c : Nat), c ≤ f → (an_chn w f c).1 ≤ c + 1 ∧ (an_chn w f c).2 ≤ c := by
  intro f
  induction f with
  | zero => intro c hc; exact ⟨by simp [an_chn], by simp [an_chn]⟩
  | succ f ih =>
    intro c hc
    rw [an_chn]
    cases h : an_rn w c c with
    | none => exact ⟨by simp, by simp⟩
    | some j =>
      have hj := an_rn_lt h
      have := ih j (by omega)
      exact ⟨by dsimp only; omega, by dsimp only; omega⟩
theorem an_neg1 {n : Nat} (h : n < 2147483648) : ¬ nI n = - nI 1 := fun q => by
  have := nI_pos h
  rw [q] at this
  exact this (by decide)
theorem an_ch_x {L d : Nat} {μ : am_M} {F : Int32 → am_M → Prop} {w : an_W} {k : Nat} {what : Int32} (hd : 6 ≤ d) (hR : an_RL 58 w μ) : ∀ (f c n : Nat) (x5 : Int32), c ≤ f → n + c ≤ 149 → (if what = nI 0 then 0 < d ∧ am_Ci L (d - 1) 36 [.ref 58, .int (nI k)] μ (fun y2 μ1 => F y2 μ1) else if what = nI 1 then F (nI (n + (an_chn w f c).1)) μ else if what = nI 2 then F (nI (an_chn w f c).2) μ else if what = nI 3 then 0 < d ∧ (am_gd (am_inb ((nI k * (nI 10)) + (nI 5)) 1500) (0 < d ∧ (am_gd (am_inb (((nI (an_chn w f c).2) * (nI 10)) + (nI 5)) 1500) (F ((μ 59 ((nI k * (nI 10)) + (nI 5)).toNatClampNeg) - (μ 59 (((nI (an_chn w f c).2) * (nI 10)) + (nI 5)).toNatClampNeg)) μ)))) else F (- nI 2) μ) → am_Ji L d 112 28 [none, some (.int (nI k)), some (.int what), some (.ref 58), some (.int (nI n)), some (.int x5), some (.int (nI c))] [] μ F := by
  intro f
  induction f with
  | zero =>
    intro c n x5 hc hn hF
    obtain rfl : c = 0 := by omega
    refine v_X_chain_28 ?_
    rw [if_neg (an_neg1 (by omega)), if_neg (nI_ge (by omega) (by omega))]
    refine ⟨by omega, s_Ledger_restsOn (by omega) hR (by omega) ?_⟩
    rw [nI_add]
    refine v_X_chain_28 ?_
    rw [show an_rest w 0 0 = - nI 1 from rfl, if_pos rfl]
    exact hF
  | succ f ih =>
    intro c n x5 hc hn hF
    refine v_X_chain_28 ?_
    rw [if_neg (an_neg1 (by omega)), if_neg (nI_ge (by omega) (by omega))]
    refine ⟨by omega, s_Ledger_restsOn (by omega) hR (by omega) ?_⟩
    rw [nI_add, an_rn_e]
    rw [an_chn] at hF
    cases h : an_rn w c c with
    | none =>
      rw [h] at hF
      refine v_X_chain_28 ?_
      rw [if_pos rfl]
      exact hF
    | some j =>
      rw [h] at hF
      have hj := an_rn_lt h
      refine ih j (n + 1) _ (by omega) (by omega) ?_
      rw [show n + 1 + (an_chn w f j).1 = n + ((an_chn w f j).1 + 1) by omega]
      exact hF
theorem an_ch_m {L d : Nat} {μ : am_M} {F : Int32 → am_M → Prop} {w : an_W} {k : Nat} {what : Int32} (hd : 6 ≤ d) (hw : μ 141 = w) : ∀ (f c n : Nat), c ≤ f → c ≤ 149 → n + c ≤ 300 → (if ¬ what = (nI 1) then if ¬ what = (nI 2) then 0 < d ∧ (am_gd (am_inb (((nI 3640) + ((nI 12) * nI k)) + (nI 5)) 16120) (0 < d ∧ (am_gd (am_inb (((nI 3640) + ((nI 12) * (nI (an_chn w f c).2))) + (nI 5)) 16120) (F ((μ 141 (((nI 3640) + ((nI 12) * nI k)) + (nI 5)).toNatClampNeg) - (μ 141 (((nI 3640) + ((nI 12) * (nI (an_chn w f c).2))) + (nI 5)).toNatClampNeg)) μ)))) else F (nI (an_chn w f c).2) μ else F (nI (n + (an_chn w f c).1)) μ) → am_Ji L d 195 50 [some (.ref 140), some (.int (nI k)), some (.int what), some (.int (nI c)), some (.int (nI (n + 1))), some (.int (an_rest w c c))] [] μ F := by
  intro f
  induction f with
  | zero =>
    intro c n hc hc9 hn hF
    obtain rfl : c = 0 := by omega
    refine v_M_chain_50 ?_
    rw [show an_rest w 0 0 = - nI 1 from rfl, if_pos rfl]
    exact hF
  | succ f ih =>
    intro c n hc hc9 hn hF
    refine v_M_chain_50 ?_
    rw [an_rn_e]
    rw [an_chn] at hF
    cases h : an_rn w c c with
    | none =>
      rw [h] at hF
      dsimp only
      rw [if_pos rfl]
      exact hF
    | some j =>
      rw [h] at hF
      have hj := an_rn_lt h
      dsimp only
      rw [if_neg (an_neg1 (by omega))]
      refine ⟨by omega, s_M_restsOn (by omega) hw (by omega) ?_⟩
      rw [nI_add]
      refine ih j (n + 1) (by omega) (by omega) (by omega) ?_
      rw [show n + 1 + (an_chn w f j).1 = n + ((an_chn w f j).1 + 1) by omega]
      exact hF
theorem op_chain {L d : Nat} {μ : am_M} {p1 p2 : Int32} {K : Int32 → Int32 → am_M → Prop} (hd : 30 ≤ d) (hG : an_G nb μ) (hK : ∀ r μ', an_G nb μ' → K r r μ') : am_Ci L d 112 [.ref 0, .int p1, .int p2] μ (fun r1 μ1 => am_Ci L d 195 [.ref 140, .int p1, .int p2] μ1 (fun r2 μ2 => K r1 r2 μ2)) := by
  have hS := hG.1
  generalize hw : μ 141 = w at hS
  obtain ⟨h1, h2, h3, h4, h5, h6, h7, h8, h9, h10, h11, h12, h13, h14, h15⟩ := id hS
  obtain ⟨hD, hN, hP, hKt, hE⟩ := id h1
  obtain ⟨eN, lN⟩ := an_cnt_e hN
  have hL : an_RL 58 w μ := h8
  have hC : an_RC 15 w μ := h9.1
  obtain ⟨D, lD, eD⟩ := hD
  rcases pk_ix p1 (n := an_cnt w) (by omega) with a1 | a1 | ⟨k, hk, rfl⟩
  · have a2 : p1 < nI 0 := by rw [nI_0]; exact a1
    refine v_X_chain ?_
    simp (discharger := omega) only [am_dp, am_gd_in, am_gd_t, pk_mul, nI_add, am_cl, nI_pos, nI_nlt, nI_ge, nI_le, nI_lt, if_true, if_false, not_true_eq_false, not_false_eq_true, a1]
    refine v_M_chain ?_
    simp (discharger := omega) only [am_dp, am_gd_in, am_gd_t, pk_mul, nI_add, am_cl, nI_pos, nI_nlt, nI_ge, nI_le, nI_lt, if_true, if_false, not_true_eq_false, not_false_eq_true, a2]
    exact hK _ _ hG
  · obtain ⟨a2, a3⟩ := an_nneg (by omega) a1
    have a4 := an_pr_lt (by omega) a1
    refine v_X_chain ?_
    simp (discharger := omega) only [am_dp, am_gd_in, am_gd_t, pk_mul, nI_add, am_cl, nI_pos, nI_nlt, nI_ge, nI_le, nI_lt, if_true, if_false, not_true_eq_false, not_false_eq_true, hL.2.1, eN, a1, a2]
    refine v_M_chain ?_
    simp (discharger := omega) only [am_dp, am_gd_in, am_gd_t, pk_mul, nI_add, am_cl, nI_pos, nI_nlt, nI_ge, nI_le, nI_lt, if_true, if_false, not_true_eq_false, not_false_eq_true, hw, eN, an_pr_d, a3, a4]
    exact hK _ _ hG
  · have a4 := an_pr_nlt hk (by omega)
    obtain ⟨b1, b2⟩ := an_chn_b w k k (Nat.le_refl _)
    refine v_X_chain ?_
    simp (discharger := omega) only [am_dp, am_gd_in, am_gd_t, pk_mul, nI_add, am_cl, nI_pos, nI_nlt, nI_ge, nI_le, nI_lt, if_true, if_false, not_true_eq_false, not_false_eq_true, hL.2.1, eN]
    refine an_ch_x (by omega) hL k k 0 _ (Nat.le_refl _) (by omega) ?_
    rw [Nat.zero_add]
    have mrest : ∀ {G : Int32 → am_M → Prop}, ¬ p2 = 0 → ¬ p2 < nI 0 → ¬ nI 3 < p2 → (if ¬ p2 = (nI 1) then if ¬ p2 = (nI 2) then G (w (3640 + 12 * k + 5) - w (3640 + 12 * (an_chn w k k).2 + 5)) μ else G (nI (an_chn w k k).2) μ else G (nI (an_chn w k k).1) μ) → am_Ci L d 195 [.ref 140, .int (nI k), .int p2] μ G := by
      intro G z0 z1 z2 hG2
      refine v_M_chain ?_
      rw [am_dp (by omega), if_neg (nI_nlt (by omega) (by omega)), hw, eN, an_pr_d, if_neg a4, am_dp (by omega), if_neg z1, if_neg z2, if_pos z0]
      refine ⟨by omega, s_M_restsOn (by omega) hw (by omega) ?_⟩
      refine an_ch_m (n := 0) (by omega) hw k k (Nat.le_refl _) (by omega) (by omega) ?_
      rw [Nat.zero_add]
      simp (discharger := omega) only [am_dp, pk_mul, nI_add, am_gd_in, am_cl, hw]
      exact hG2
    rcases an_arg p2 4 (by omega) (by omega) with ⟨c1, c2⟩ | ⟨c1, c2, c3, c4⟩ | ⟨f, hf, rfl⟩
    · rw [if_neg (an_ne_neg c1 (by omega)), if_neg (an_ne_neg c1 (by omega)), if_neg (an_ne_neg c1 (by omega)), if_neg (an_ne_neg c1 (by omega))]
      refine v_M_chain ?_
      rw [am_dp (by omega), if_neg (nI_nlt (by omega) (by omega)), hw, eN, an_pr_d, if_neg a4, am_dp (by omega), if_pos c2]
      exact hK _ _ hG
    · have c5 : nI 3 < p2 := c4
      rw [if_neg (an_ne_big c5 (by omega) (by omega)), if_neg (an_ne_big c5 (by omega) (by omega)), if_neg (an_ne_big c5 (by omega) (by omega)), if_neg (an_ne_big c5 (by omega) (by omega))]
      refine v_M_chain ?_
      rw [am_dp (by omega), if_neg (nI_nlt (by omega) (by omega)), hw, eN, an_pr_d, if_neg a4, am_dp (by omega), if_neg c2, if_pos c5]
      exact hK _ _ hG
    · rcases (by omega : f = 0 ∨ f = 1 ∨ f = 2 ∨ f = 3) with rfl | rfl | rfl | rfl
      · rw [if_pos rfl]
        refine ⟨by omega, s_Ledger_restsOn (by omega) hL (by omega) ?_⟩
        refine v_M_chain ?_
        rw [am_dp (by omega), if_neg (nI_nlt (by omega) (by omega)), hw, eN, an_pr_d, if_neg a4, am_dp (by omega), if_neg (by decide), if_neg (by decide), if_neg (fun z => z nI_0)]
        refine ⟨by omega, s_M_restsOn (by omega) hw (by omega) ?_⟩
        exact hK _ _ hG
      · rw [if_neg (by decide), if_pos rfl]
        refine mrest (by decide) (by decide) (by decide) ?_
        rw [if_neg (fun z => z rfl)]
        exact hK _ _ hG
      · rw [if_neg (by decide), if_neg (by decide), if_pos rfl]
        refine mrest (by decide) (by decide) (by decide) ?_
        rw [if_pos (by decide), if_neg (fun z => z rfl)]
        exact hK _ _ hG
      · rw [if_neg (by decide), if_neg (by decide), if_neg (by decide), if_pos rfl]
        simp (discharger := omega) only [am_dp, pk_mul, nI_add, am_gd_in, am_cl]
        rw [hL.2.2.1 k 5 (by omega) (by omega), hL.2.2.1 (an_chn w k k).2 5 (by omega) (by omega)]
        refine mrest (by decide) (by decide) (by decide) ?_
        rw [if_pos (by decide), if_pos (by decide)]
        exact hK _ _ hG
