/-! cries and like. -/
variable {nb : Nat}
def an_pop (n : Nat) : Nat := n % 2 + n / 2 % 2 + n / 4 % 2 + n / 8 % 2 + n / 16 % 2 + n / 32 % 2
def an_bce (p1 : Int32) : Int32 := ((((((((p1 - (((p1.toUInt32 >>> ((nI 1).toUInt32 &&& Int32.toUInt32 31)).toInt32) &&& (nI 1431655765))) &&& (nI 858993459)) + ((((p1 - (((p1.toUInt32 >>> ((nI 1).toUInt32 &&& Int32.toUInt32 31)).toInt32) &&& (nI 1431655765))).toUInt32 >>> ((nI 2).toUInt32 &&& Int32.toUInt32 31)).toInt32) &&& (nI 858993459))) + (((((p1 - (((p1.toUInt32 >>> ((nI 1).toUInt32 &&& Int32.toUInt32 31)).toInt32) &&& (nI 1431655765))) &&& (nI 858993459)) + ((((p1 - (((p1.toUInt32 >>> ((nI 1).toUInt32 &&& Int32.toUInt32 31)).toInt32) &&& (nI 1431655765))).toUInt32 >>> ((nI 2).toUInt32 &&& Int32.toUInt32 31)).toInt32) &&& (nI 858993459))).toUInt32 >>> ((nI 4).toUInt32 &&& Int32.toUInt32 31)).toInt32)) &&& (nI 252645135)) + (((((((p1 - (((p1.toUInt32 >>> ((nI 1).toUInt32 &&& Int32.toUInt32 31)).toInt32) &&& (nI 1431655765))) &&& (nI 858993459)) + ((((p1 - (((p1.toUInt32 >>> ((nI 1).toUInt32 &&& Int32.toUInt32 31)).toInt32) &&& (nI 1431655765))).toUInt32 >>> ((nI 2).toUInt32 &&& Int32.toUInt32 31)).toInt32) &&& (nI 858993459))) + (((((p1 - (((p1.toUInt32 >>> ((nI 1).toUInt32 &&& Int32.toUInt32 31)).toInt32) &&& (nI 1431655765))) &&& (nI 858993459)) + ((((p1 - (((p1.toUInt32 >>> ((nI 1).toUInt32 &&& Int32.toUInt32 31)).toInt32) &&& (nI 1431655765))).toUInt32 >>> ((nI 2).toUInt32 &&& Int32.toUInt32 31)).toInt32) &&& (nI 858993459))).toUInt32 >>> ((nI 4).toUInt32 &&& Int32.toUInt32 31)).toInt32)) &&& (nI 252645135)).toUInt32 >>> ((nI 8).toUInt32 &&& Int32.toUInt32 31)).toInt32)) + ((((((((p1 - (((p1.toUInt32 >>> ((nI 1).toUInt32 &&& Int32.toUInt32 31)).toInt32) &&& (nI 1431655765))) &&& (nI 858993459)) + ((((p1 - (((p1.toUInt32 >>> ((nI 1).toUInt32 &&& Int32.toUInt32 31)).toInt32) &&& (nI 1431655765))).toUInt32 >>> ((nI 2).toUInt32 &&& Int32.toUInt32 31)).toInt32) &&& (nI 858993459))) + (((((p1 - (((p1.toUInt32 >>> ((nI 1).toUInt32 &&& Int32.toUInt32 31)).toInt32) &&& (nI 1431655765))) &&& (nI 858993459)) + ((((p1 - (((p1.toUInt32 >>> ((nI 1).toUInt32 &&& Int32.toUInt32 31)).toInt32) &&& (nI 1431655765))).toUInt32 >>> ((nI 2).toUInt32 &&& Int32.toUInt32 31)).toInt32) &&& (nI 858993459))).toUInt32 >>> ((nI 4).toUInt32 &&& Int32.toUInt32 31)).toInt32)) &&& (nI 252645135)) + (((((((p1 - (((p1.toUInt32 >>> ((nI 1).toUInt32 &&& Int32.toUInt32 31)).toInt32) &&& (nI 1431655765))) &&& (nI 858993459)) + ((((p1 - (((p1.toUInt32 >>> ((nI 1).toUInt32 &&& Int32.toUInt32 31)).toInt32) &&& (nI 1431655765))).toUInt32 >>> ((nI 2).toUInt32 &&& Int32.toUInt32 31)).toInt32) &&& (nI 858993459))) + (((((p1 - (((p1.toUInt32 >>> ((nI 1).toUInt32 &&& Int32.toUInt32 31)).toInt32) &&& (nI 1431655765))) &&& (nI 858993459)) + ((((p1 - (((p1.toUInt32 >>> ((nI 1).toUInt32 &&& Int32.toUInt32 31)).toInt32) &&& (nI 1431655765))).toUInt32 >>> ((nI 2).toUInt32 &&& Int32.toUInt32 31)).toInt32) &&& (nI 858993459))).toUInt32 >>> ((nI 4).toUInt32 &&& Int32.toUInt32 31)).toInt32)) &&& (nI 252645135)).toUInt32 >>> ((nI 8).toUInt32 &&& Int32.toUInt32 31)).toInt32)).toUInt32 >>> ((nI 16).toUInt32 &&& Int32.toUInt32 31)).toInt32)) &&& (nI 63))
theorem an_bce_e : ∀ n, n < 64 → an_bce (nI n) = nI (an_pop n) := by decide +kernel
theorem s_bitCount {L d n : Nat} {μ : am_M} {F : Int32 → am_M → Prop} (hn : n < 64) (hF : F (nI (an_pop n)) μ) : am_Ci L d 253 [.int (nI n)] μ F := by
  refine v_Integer_bitCount ?_
  show F (an_bce (nI n)) μ
  rw [an_bce_e n hn]
  exact hF
theorem an_cnt6 : ∀ n, n < 64 → am_sum (fun k => (nI n >>> (nI k &&& 31)) &&& nI 1) 6 = nI (an_pop n) := by decide +kernel
theorem s_M_count {L d n : Nat} {μ : am_M} {F : Int32 → am_M → Prop} (hn : n < 64) (hF : F (nI (an_pop n)) μ) : am_Ci L d 223 [.int (nI n)] μ F := by
  refine v_M_count ?_
  refine am_down (P := fun j => am_Ji L d 223 4 [some (.int (nI n)), some (.int (am_sum (fun k => (nI n >>> (nI k &&& 31)) &&& nI 1) j)), some (.int (nI j))] [] μ F) (N := 6) ?_ ?_ 0 (Nat.zero_le _)
  · refine v_M_count_4 ?_
    rw [if_pos (nI_le (Nat.le_refl _) (by omega)), an_cnt6 n hn]
    exact hF
  · intro j hj ih
    refine v_M_count_4 ?_
    rw [if_neg (nI_ge hj (by omega)), nI_add]
    exact ih
theorem an_orb : ∀ j, j < 6 → ∀ n, n < 64 → n < 2 ^ j → nI n ||| (nI 1 <<< (nI j &&& 31)) = nI (n + 2 ^ j) := by decide +kernel
theorem an_andb : ∀ s, s < 64 → ∀ k, k < 64 → nI s &&& nI k = nI (s &&& k) ∧ nI s &&& (nI k ^^^ (- nI 1)) = nI (s &&& (63 ^^^ k)) ∧ (s &&& k) < 64 ∧ (s &&& (63 ^^^ k)) < 64 ∧ an_pop (s &&& k) + an_pop (s &&& (63 ^^^ k)) = an_pop s := by decide +kernel
theorem an_pop0 : ∀ s, s < 64 → (an_pop s = 0 ↔ s = 0) ∧ an_pop s ≤ 6 := by decide +kernel
/-- the houses below j that cry -/
noncomputable def an_cn (w : an_W) (D : Nat) (bk : Int32) (ls : List an_Ln) : Nat → Nat
  | 0 => 0
  | j + 1 => bif W_cry w D j bk ls then an_cn w D bk ls j + 2 ^ j else an_cn w D bk ls j
theorem an_cn_lt (w : an_W) (D : Nat) (bk : Int32) (ls : List an_Ln) : ∀ j, an_cn w D bk ls j < 2 ^ j := by
  intro j
  induction j with
  | zero => exact Nat.one_pos
  | succ j ih =>
    rw [an_cn, Nat.pow_succ]
    cases W_cry w D j bk ls with
    | true => rw [cond_true]; omega
    | false => rw [cond_false]; omega
theorem an_cn_64 {w : an_W} {D : Nat} {bk : Int32} {ls : List an_Ln} {j : Nat} (hj : j ≤ 6) : an_cn w D bk ls j < 64 := Nat.lt_of_lt_of_le (an_cn_lt w D bk ls j) (by
  have := Nat.pow_le_pow_right (n := 2) (by omega) hj
  exact this)
/-- what the class must hold for its watch -/
def an_wt (w : an_W) (D : Nat) (ls : List an_Ln) (μ : am_M) : Prop := w 0 = nI D ∧ D < 90 ∧ an_RL 58 w μ ∧ an_RC 15 w μ ∧ an_WT w ∧ an_N (w 1) 151 ∧ an_am w D ∧ (∀ i, i < 3240 → μ 65 i = w (372 + i)) ∧ an_okl true ls ∧ an_scX true 49 μ ls
theorem an_wt_c {w : an_W} {D : Nat} {ls : List an_Ln} {μ μ' : am_M} (h : an_wt w D ls μ) (u : an_un [132, 55] μ μ') : an_wt w D ls μ' := by
  obtain ⟨h1, h2, h3, h4, h5, h6, h7, h8, h9, h10⟩ := h
  exact ⟨h1, h2, an_RL_c h3 (fun c q1 q2 => u c (by simp; omega)), an_RC_c h4 (fun c q1 q2 => u c (by simp; omega)), h5, h6, h7, fun i hi => by rw [u 65 (by decide)]; exact h8 i hi, h9, an_scX_c h10 (fun c q1 q2 => u c (by simp; omega))⟩
theorem s_criesFor' {L d : Nat} {μ : am_M} {F : Int32 → am_M → Prop} {w : an_W} {D h : Nat} {bk : Int32} {ls : List an_Ln} (hd : 14 ≤ d) (hh : h < 6) (hW : an_wt w D ls μ)
    (hF : ∀ μ', an_un [132, 55] μ μ' → F (an_b (W_cry w D h bk ls)) μ') : am_Ci L d 74 [.ref 131, .int (nI h), .int bk] μ F := by
  obtain ⟨h1, h2, h3, h4, h5, h6, h7, h8, h9, h10⟩ := hW
  exact s_criesFor hd hh h1 h2 h3 h4 h5 h6 h7 h8 h9 h10 hF
theorem s_cryingHouses {L d : Nat} {μ : am_M} {F : Int32 → am_M → Prop} {w : an_W} {D : Nat} {bk : Int32} {ls : List an_Ln} (hd : 16 ≤ d) (hW : an_wt w D ls μ)
    (hF : ∀ μ', an_un [132, 55] μ μ' → F (nI (an_cn w D bk ls 6)) μ') : am_Ci L d 75 [.ref 131, .int bk] μ F := by
  refine v_Watch_cryingHouses ?_
  suffices ∀ (n j : Nat) (μ1 : am_M), j + n = 6 → an_un [132, 55] μ μ1 → am_Ji L d 75 4 [some (.ref 131), some (.int bk), some (.int (nI (an_cn w D bk ls j))), some (.int (nI j))] [] μ1 F from this 6 0 μ (by omega) an_un_rf
  intro n
  induction n with
  | zero =>
    intro j μ1 hj u
    obtain rfl : j = 6 := by omega
    refine v_Watch_cryingHouses_4 ?_
    rw [if_pos (nI_le (Nat.le_refl _) (by omega))]
    exact hF μ1 u
  | succ n ih =>
    intro j μ1 hj u
    refine v_Watch_cryingHouses_4 ?_
    rw [if_neg (nI_ge (by omega) (by omega))]
    refine ⟨by omega, s_criesFor' (by omega) (by omega) (an_wt_c hW u) (fun μ2 u2 => ?_)⟩
    have := ih (j + 1) μ2 (by omega) (an_un_tr u u2 (fun _ q => q) (fun _ q => q))
    rw [an_cn] at this
    rw [an_bf, nI_add]
    cases hc : W_cry w D j bk ls with
    | true =>
      rw [hc, cond_true, ← an_orb j (by omega) _ (an_cn_64 (by omega)) (an_cn_lt _ _ _ _ _)] at this
      exact this
    | false =>
      rw [hc, cond_false] at this
      exact this
/-- the model's side -/
def an_wm (w : an_W) (D : Nat) (ls : List an_Ln) : Prop := w 0 = nI D ∧ D < 90 ∧ an_WT w ∧ an_N (w 1) 151 ∧ an_am w D ∧ (∀ e, e < 90 → w (282 + e) = if 1 ≤ e ∧ e ≤ D then nI 1 else nI 0) ∧ an_okl true ls ∧ an_scM w 4 ls
theorem s_M_cryOf' {L d : Nat} {μ : am_M} {F : Int32 → am_M → Prop} {w : an_W} {D h : Nat} {bk : Int32} {ls : List an_Ln} (hd : 14 ≤ d) (hh : h < 6) (hw : μ 141 = w) (hW : an_wm w D ls)
    (hF : ∀ μ', an_un [148, 147] μ μ' → (∀ i, i < 7 → μ' 148 (an_sp i) = W_sg w D h bk i) → F (an_b (W_cry w D h bk ls)) μ') : am_Ci L d 220 [.ref 140, .int (nI h), .int bk] μ F := by
  obtain ⟨h1, h2, h3, h4, h5, h6, h7, h8⟩ := hW
  exact s_M_cryOf hd hh h1 h2 hw h3 h4 h5 h6 h7 h8 hF
theorem an_pc {L d : Nat} {F : Int32 → am_M → Prop} {w : an_W} {D : Nat} {bk c : Int32} {ls : List an_Ln} (hd : 16 ≤ d) (hW : an_wm w D ls) (μ : am_M) (hw : μ 141 = w) (hF : ∀ μ', an_un [148, 147] μ μ' → am_Ji L d 224 26 [some (.ref 140), some (.int bk), some (.int c), some (.int (nI (an_cn w D bk ls 6))), some (.int (nI 6))] [] μ' F) : am_Ji L d 224 26 [some (.ref 140), some (.int bk), some (.int c), some (.int (nI 0)), some (.int (nI 0))] [] μ F := by
  suffices ∀ (n j : Nat) (μ1 : am_M), j + n = 6 → an_un [148, 147] μ μ1 → am_Ji L d 224 26 [some (.ref 140), some (.int bk), some (.int c), some (.int (nI (an_cn w D bk ls j))), some (.int (nI j))] [] μ1 F from this 6 0 μ (by omega) an_un_rf
  intro n
  induction n with
  | zero =>
    intro j μ1 hj u
    obtain rfl : j = 6 := by omega
    exact hF μ1 u
  | succ n ih =>
    intro j μ1 hj u
    refine v_M_cries_26 ?_
    rw [if_neg (nI_ge (by omega) (by omega))]
    refine ⟨by omega, s_M_cryOf' (by omega) (by omega) ((u 141 (by decide)).trans hw) hW (fun μ2 u2 _ => ?_)⟩
    have := ih (j + 1) μ2 (by omega) (an_un_tr u u2 (fun _ q => q) (fun _ q => q))
    rw [an_cn] at this
    rw [an_bf, nI_add]
    cases hc : W_cry w D j bk ls with
    | true =>
      rw [hc, cond_true, ← an_orb j (by omega) _ (an_cn_64 (by omega)) (an_cn_lt _ _ _ _ _)] at this
      exact this
    | false =>
      rw [hc, cond_false] at this
      rw [nI_0, Int32.or_zero]
      exact this
theorem op_cries {L d : Nat} {μ : am_M} {p1 p2 : Int32} {K : Int32 → Int32 → am_M → Prop} (hd : 30 ≤ d) (hG : an_G nb μ) (hK : ∀ r μ', an_G nb μ' → K r r μ') : am_Ci L d 117 [.ref 0, .int p1, .int p2] μ (fun r1 μ1 => am_Ci L d 224 [.ref 140, .int p1, .int p2] μ1 (fun r2 μ2 => K r1 r2 μ2)) := by
  have hS := hG.1
  generalize hw : μ 141 = w at hS
  obtain ⟨h1, h2, h3, h4, h5, h6, h7, h8, h9, h10, h11, h12, h13, h14, h15⟩ := id hS
  obtain ⟨hD, hN, hP, hKt, hE⟩ := id h1
  obtain ⟨eN, lN⟩ := an_cnt_e hN
  have hL : an_RL 58 w μ := h8
  have hC : an_RC 15 w μ := h9.1
  obtain ⟨D, lD, eD⟩ := hD
  have hT := h2.1
  have hA := an_k5_am eD lD h5
  have hkp := an_k4_kp eD lD h4
  obtain ⟨lss, hls⟩ := id h15
  obtain ⟨ok4, x4, m4⟩ := hls 4 (by omega)
  have hWX : an_wt w D (lss 4) μ := ⟨eD, lD, hL, hC, hT, hN, hA, h11, ok4, x4⟩
  have hWM : an_wm w D (lss 4) := ⟨eD, lD, hT, hN, hA, hkp, ok4, m4⟩
  obtain ⟨kk, lkk, ekk⟩ := id hKt
  rcases an_set p1 with b1 | ⟨b1, b2⟩ | ⟨b1, b2⟩
  · refine v_X_cries ?_
    rw [am_dp (by omega), if_pos b1]
    refine v_M_cries ?_
    rw [am_dp (by omega), if_pos b1]
    exact hK _ _ hG
  · refine v_X_cries ?_
    rw [am_dp (by omega), if_neg b1, if_pos b2]
    refine v_M_cries ?_
    rw [am_dp (by omega), if_neg b1, if_pos b2]
    exact hK _ _ hG
  · have s64 : an_cn w D p1 (lss 4) 6 < 64 := an_cn_64 (Nat.le_refl _)
    obtain ⟨q1, q2, q3, q4, q5⟩ := an_andb _ s64 kk lkk
    obtain ⟨r1, r2, r3, r4, r5⟩ := an_andb kk lkk _ s64
    obtain ⟨z1, z2⟩ := an_pop0 _ s64
    refine v_X_cries ?_
    rw [am_dp (by omega), if_neg b1, if_neg b2]
    refine ⟨by omega, s_cryingHouses (by omega) hWX (fun μ1 u1 => ?_)⟩
    have e14 : μ1 14 8 = nI kk := by rw [u1 14 (by decide), show μ 14 8 = w 3 from h14, ekk]
    rw [e14, q1]
    refine ⟨by omega, s_bitCount q3 ?_⟩
    rw [e14, q2]
    refine ⟨by omega, s_bitCount q4 ?_⟩
    have hG1 := an_un_G hG u1 (by intro c hc; simp at hc; unfold an_kc; omega)
    have w1 : μ1 141 = w := (u1 141 (by decide)).trans hw
    rcases an_arg p2 5 (by omega) (by omega) with ⟨c1, c2⟩ | ⟨c1, c2, c3, c4⟩ | ⟨c, hc, rfl⟩
    · rw [if_neg (an_ne_neg c1 (by omega)), if_neg (an_ne_neg c1 (by omega)), if_neg (an_ne_neg c1 (by omega)), if_neg (an_ne_neg c1 (by omega)), if_neg (an_ne_neg c1 (by omega))]
      refine v_M_cries ?_
      rw [am_dp (by omega), if_neg b1, if_neg b2, am_dp (by omega), if_pos c2]
      exact hK _ _ hG1
    · have c5 : nI 4 < p2 := c4
      rw [if_neg (an_ne_big c5 (by omega) (by omega)), if_neg (an_ne_big c5 (by omega) (by omega)), if_neg (an_ne_big c5 (by omega) (by omega)), if_neg (an_ne_big c5 (by omega) (by omega)), if_neg (an_ne_big c5 (by omega) (by omega))]
      refine v_M_cries ?_
      rw [am_dp (by omega), if_neg b1, if_neg b2, am_dp (by omega), if_neg c2, if_pos c5]
      exact hK _ _ hG1
    · have mgo : ∀ {G : Int32 → am_M → Prop}, (∀ μ2, an_un [148, 147] μ1 μ2 → G (if c = 0 then nI (an_cn w D p1 (lss 4) 6) else if c = 1 then nI (an_pop (an_cn w D p1 (lss 4) 6 &&& kk)) else if c = 2 then nI (an_pop (an_cn w D p1 (lss 4) 6 &&& (63 ^^^ kk))) else if c = 3 then nI (an_pop (kk &&& (63 ^^^ an_cn w D p1 (lss 4) 6))) else if an_cn w D p1 (lss 4) 6 = 0 then - nI 1 else nI 1000 * nI (an_pop (an_cn w D p1 (lss 4) 6 &&& kk)) / nI (an_pop (an_cn w D p1 (lss 4) 6))) μ2) → am_Ci L d 224 [.ref 140, .int p1, .int (nI c)] μ1 G := by
        intro G hG2
        refine v_M_cries ?_
        rw [am_dp (by omega), if_neg b1, if_neg b2, am_dp (by omega), if_neg (nI_nlt (by omega) (by omega)), if_neg (nI_nlt (by omega) (by omega))]
        refine an_pc (by omega) hWM μ1 w1 (fun μ2 u2 => ?_)
        have g := hG2 μ2 u2
        have w2 : μ2 141 = w := (u2 141 (by decide)).trans w1
        refine v_M_cries_26 ?_
        rw [if_pos (nI_le (Nat.le_refl _) (by omega)), w2, ekk, q1]
        refine ⟨by omega, s_M_count q3 ?_⟩
        rw [w2, ekk]
        rcases (by omega : c = 0 ∨ c = 1 ∨ c = 2 ∨ c = 3 ∨ c = 4) with rfl | rfl | rfl | rfl | rfl
        · rw [if_pos rfl]
          exact g
        · rw [if_neg (by decide), if_pos rfl]
          exact g
        · rw [if_neg (by decide), if_neg (by decide), if_pos rfl, q2]
          exact ⟨by omega, s_M_count q4 g⟩
        · rw [if_neg (by decide), if_neg (by decide), if_neg (by decide), if_pos rfl, r2]
          exact ⟨by omega, s_M_count r4 g⟩
        · rw [if_neg (by decide), if_neg (by decide), if_neg (by decide), if_neg (by decide)]
          rw [if_neg (by omega), if_neg (by omega), if_neg (by omega), if_neg (by omega)] at g
          by_cases s0 : an_cn w D p1 (lss 4) 6 = 0
          · rw [if_pos s0] at g
            rw [if_neg (fun z => z (by rw [s0]; exact nI_0))]
            exact g
          · rw [if_neg s0] at g
            rw [if_pos (nI_ne0 (by omega) (by omega))]
            have : ¬ an_pop (an_cn w D p1 (lss 4) 6) = 0 := fun z => s0 (z1.mp z)
            refine ⟨by omega, s_M_count s64 ?_⟩
            rw [an_gdz (by omega) (by omega)]
            exact g
      have fin : ∀ r, r = (if c = 0 then nI (an_cn w D p1 (lss 4) 6) else if c = 1 then nI (an_pop (an_cn w D p1 (lss 4) 6 &&& kk)) else if c = 2 then nI (an_pop (an_cn w D p1 (lss 4) 6 &&& (63 ^^^ kk))) else if c = 3 then nI (an_pop (kk &&& (63 ^^^ an_cn w D p1 (lss 4) 6))) else if an_cn w D p1 (lss 4) 6 = 0 then - nI 1 else nI 1000 * nI (an_pop (an_cn w D p1 (lss 4) 6 &&& kk)) / nI (an_pop (an_cn w D p1 (lss 4) 6))) → am_Ci L d 224 [.ref 140, .int p1, .int (nI c)] μ1 (fun r2 μ2 => K r r2 μ2) := fun r hr => mgo (fun μ2 u2 => by
        rw [← hr]
        exact hK _ _ (an_un_G hG1 u2 (by intro c hc; simp at hc; unfold an_kc; omega)))
      rcases (by omega : c = 0 ∨ c = 1 ∨ c = 2 ∨ c = 3 ∨ c = 4) with rfl | rfl | rfl | rfl | rfl
      · rw [if_pos rfl]
        exact fin _ rfl
      · rw [if_neg (by decide), if_pos rfl]
        exact fin _ rfl
      · rw [if_neg (by decide), if_neg (by decide), if_pos rfl]
        exact fin _ rfl
      · rw [if_neg (by decide), if_neg (by decide), if_neg (by decide), if_pos rfl, e14, r2]
        exact ⟨by omega, s_bitCount r4 (fin _ rfl)⟩
      · rw [if_neg (by decide), if_neg (by decide), if_neg (by decide), if_neg (by decide), if_pos rfl, nI_add, q5]
        by_cases s0 : an_cn w D p1 (lss 4) 6 = 0
        · rw [if_neg (fun z => z (by rw [z1.mpr s0]; exact nI_0))]
          exact fin _ (by rw [if_neg (by omega), if_neg (by omega), if_neg (by omega), if_neg (by omega), if_pos s0])
        · have : ¬ an_pop (an_cn w D p1 (lss 4) 6) = 0 := fun z => s0 (z1.mp z)
          rw [if_pos (nI_ne0 (by omega) (by omega)), an_gdz (by omega) (by omega)]
          exact fin _ (by rw [if_neg (by omega), if_neg (by omega), if_neg (by omega), if_neg (by omega), if_neg s0])
