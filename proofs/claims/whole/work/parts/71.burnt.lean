/-! Burnt books; the least hold. -/
variable {nb : Nat}
def an_prv (w : an_W) (h b : Nat) : Nat → Int32
  | 0 => w (234 + 4 * h + b) - w (258 + 4 * h + b)
  | k + 1 => if w (3640 + 12 * k + 6) = nI 1 then (if w (3640 + 12 * k + 0) = nI h ∧ w (3640 + 12 * k + 1) = nI b then an_prv w h b k - w (3640 + 12 * k + 4) else if w (3640 + 12 * k + 2) = nI h ∧ w (3640 + 12 * k + 3) = nI b ∧ ¬ w (3640 + 12 * k + 1) = nI b then an_prv w h b k + w (3640 + 12 * k + 4) else an_prv w h b k) else an_prv w h b k
theorem an_subz (x : Int32) : x - nI 0 = x := by rw [nI_0]; simp
theorem s_provenBook {L d : Nat} {μ : am_M} {F : Int32 → am_M → Prop} {w : an_W} {h b : Nat} (hd : 6 ≤ d) (hh : h < 6) (hb : b < 4) (hR : an_RL 58 w μ) (hN : an_N (w 1) 151) (hF : F (an_prv w h b (an_cnt w)) μ) : am_Ci L d 37 [.ref 58, .int (nI h), .int (nI b)] μ F := by
  obtain ⟨eN, lN⟩ := an_cnt_e hN
  obtain ⟨q3, q4, q5⟩ := an_RL_b hR
  obtain ⟨r0, r1, r2, -, -, -⟩ := hR
  have c1 : μ 61 (h * 4 + b) = w (234 + 4 * h + b) := q4 h b hh hb
  have c2 : μ 62 (h * 4 + b) = w (258 + 4 * h + b) := q5 h b hh hb
  refine v_Ledger_provenBook ?_
  simp (discharger := omega) only [pk_mul, nI_add, am_gd_in, am_cl, c1, c2]
  refine am_down (P := fun j => am_Ji L d 37 25 [some (.ref 58), some (.int (nI h)), some (.int (nI b)), some (.int (an_prv w h b j)), some (.int (nI j))] [] μ F) (N := an_cnt w) ?_ ?_ 0 (Nat.zero_le _)
  · refine v_Ledger_provenBook_25 ?_
    rw [r1, eN, if_pos (nI_le (Nat.le_refl _) (by omega))]
    exact hF
  · intro j hj ih
    refine v_Ledger_provenBook_25 ?_
    rw [r1, eN, if_neg (nI_ge hj (by omega))]
    have ih0 : ∀ v, an_prv w h b (j + 1) = v → am_Ji L d 37 25 [some (.ref 58), some (.int (nI h)), some (.int (nI b)), some (.int v), some (.int (nI (j + 1)))] [] μ F := fun v e => by rw [← e]; exact ih
    simp (discharger := omega) only [pk_mul, nI_add, am_cl, am_gd_in, am_dp, r2 j]
    repeat' split
    all_goals first
      | (refine ih0 _ ?_; simp [an_prv, *]; done)
      | (refine ih0 _ ?_; simp_all [an_prv]; done)
def an_bsum (w : an_W) (a : Int32) : Nat → Nat → Int32 → Int32
  | 0, _, v => v
  | n + 1, e, v => an_bsum w a n (e + 1) (if W_biz w e = true then v + a else v)
theorem an_muls (a : Int32) (c : Nat) : a * nI (c + 1) = a * nI c + a := by
  rw [nI_succ, Int32.mul_add, Int32.mul_one]
theorem an_st7 : ∀ D, D < 90 → (if nI 0 < (nI D - nI 7) + nI 1 then (nI D - nI 7) + nI 1 else nI 0) = nI (D - 6) := by decide
theorem an_burnt_x {L d : Nat} {μ : am_M} {F : Int32 → am_M → Prop} {w : an_W} {D : Nat} {a low : Int32} (hd : 6 ≤ d) (hR : an_RL 58 w μ) (hC : an_RC 15 w μ) (hD : w 0 = nI D) (hD9 : D < 90) : ∀ (n e c : Nat), e + n = D + 1 → F (an_bsum w a n e (low + a * nI c)) μ → am_Ji L d 126 96 [some (.ref 0), none, none, some (.int a), none, none, some (.ref 58), some (.int low), some (.int (nI c)), some (.int (nI e))] [] μ F := by
  intro n
  induction n with
  | zero =>
    intro e c he hF
    refine v_X_burnt_96 ?_
    rw [hR.1, hD, if_pos (nI_lt (by omega) (by omega))]
    exact hF
  | succ n ih =>
    intro e c he hF
    refine v_X_burnt_96 ?_
    rw [hR.1, hD, if_neg (nI_nlt (by omega) (by omega))]
    refine ⟨by omega, s_Country_isBusiness hC (by omega) ?_⟩
    rw [an_bf, nI_add, nI_add]
    rw [an_bsum] at hF
    cases hb : W_biz w e with
    | true =>
      rw [hb, if_pos rfl, Int32.add_assoc, ← an_muls] at hF
      exact ih (e + 1) (c + 1) (by omega) hF
    | false =>
      rw [hb, if_neg (by simp)] at hF
      exact ih (e + 1) c (by omega) hF
theorem an_burnt_m1 {L d : Nat} {μ : am_M} {F : Int32 → am_M → Prop} {w : an_W} {D : Nat} {a : Int32} (hd : 6 ≤ d) (hw : μ 141 = w) (hD : w 0 = nI D) (hD9 : D < 90) : ∀ (n e : Nat) (v : Int32), e + n = D + 1 → F (an_bsum w a n e v) μ → am_Ji L d 237 216 [some (.ref 140), none, none, some (.int a), some (.int (nI 1)), some (.int v), some (.int (nI e))] [] μ F := by
  intro n
  induction n with
  | zero =>
    intro e v he hF
    refine v_M_burnt_216 ?_
    rw [hw, hD, if_pos (nI_lt (by omega) (by omega))]
    exact v_M_burnt_258 hF
  | succ n ih =>
    intro e v he hF
    refine v_M_burnt_216 ?_
    rw [hw, hD, if_neg (nI_nlt (by omega) (by omega)), if_neg (fun z => z rfl)]
    refine ⟨by omega, s_M_isBusiness hw (by omega) ?_⟩
    rw [an_bf]
    rw [an_bsum] at hF
    cases hb : W_biz w e with
    | true =>
      rw [hb, if_pos rfl] at hF
      refine v_M_burnt_252 ?_
      rw [nI_add]
      exact ih (e + 1) _ (by omega) hF
    | false =>
      rw [hb, if_neg (by simp)] at hF
      refine v_M_burnt_252 ?_
      rw [nI_add, am_addz]
      exact ih (e + 1) _ (by omega) hF
theorem an_burnt_m {L d : Nat} {μ : am_M} {F : Int32 → am_M → Prop} {w : an_W} {D h b c : Nat} {a : Int32} (hd : 6 ≤ d) (hh : h < 6) (hb : b < 4) (hc : c < 2) (hw : μ 141 = w) (hN : an_N (w 1) 151) (hD : w 0 = nI D) (hD9 : D < 90) (hF : F (if c = 0 then an_prv w h b (an_cnt w) else an_bsum w a (D + 1 - (D - 6)) (D - 6) (an_prv w h b (an_cnt w))) μ) : am_Ji L d 237 71 [some (.ref 140), some (.int (nI b)), some (.int (nI h)), some (.int a), some (.int (nI c)), some (.int (an_prv w h b 0)), some (.int (nI 0))] [] μ F := by
  obtain ⟨eN, lN⟩ := an_cnt_e hN
  have fin : am_Ji L d 237 216 [some (.ref 140), none, none, some (.int a), some (.int (nI c)), some (.int (an_prv w h b (an_cnt w))), some (.int (nI (D - 6)))] [] μ F := by
    rcases (by omega : c = 0 ∨ c = 1) with rfl | rfl
    · rw [if_pos rfl] at hF
      refine v_M_burnt_216 ?_
      rw [hw, hD, if_neg (nI_nlt (by omega) (by omega)), if_pos (by decide)]
      exact v_M_burnt_258 hF
    · rw [if_neg (by omega)] at hF
      exact an_burnt_m1 hd hw hD hD9 (D + 1 - (D - 6)) (D - 6) _ (by omega) hF
  refine am_down (P := fun j => am_Ji L d 237 71 [some (.ref 140), some (.int (nI b)), some (.int (nI h)), some (.int a), some (.int (nI c)), some (.int (an_prv w h b j)), some (.int (nI j))] [] μ F) (N := an_cnt w) ?_ ?_ 0 (Nat.zero_le _)
  · refine v_M_burnt_71 ?_
    rw [hw, eN, if_pos (nI_le (Nat.le_refl _) (by omega)), hD]
    by_cases q : 6 ≤ D
    · rw [if_pos (nI_le q (by omega)), pk_sub q]
      exact fin
    · rw [if_neg (nI_ge (by omega) (by omega))]
      rw [show D - 6 = 0 by omega] at fin
      exact fin
  · intro j hj ih
    have ih0 : ∀ v, an_prv w h b (j + 1) = v → am_Ji L d 237 184 [some (.ref 140), some (.int (nI b)), some (.int (nI h)), some (.int a), some (.int (nI c)), some (.int v), some (.int (nI j))] [] μ F := fun v e => by
      refine v_M_burnt_184 ?_
      rw [← e, nI_add]
      exact ih
    have mid : ∀ v, w (3640 + 12 * j + 6) = nI 1 → (v = if w (3640 + 12 * j + 0) = nI h ∧ w (3640 + 12 * j + 1) = nI b then an_prv w h b j - w (3640 + 12 * j + 4) else an_prv w h b j) → am_Ji L d 237 135 [some (.ref 140), some (.int (nI b)), some (.int (nI h)), some (.int a), some (.int (nI c)), some (.int v), some (.int (nI j))] [] μ F := by
      intro v h6 hv
      refine v_M_burnt_135 ?_
      simp (discharger := omega) only [pk_mul, nI_add, am_cl, am_gd_in, am_dp, hw, am_addz]
      subst hv
      repeat' split
      all_goals first
        | (refine ih0 _ ?_; simp [an_prv, *]; done)
        | (refine ih0 _ ?_; simp_all [an_prv]; done)
        | (refine ih0 _ ?_; simp_all [an_prv, am_addz]; done)
    refine v_M_burnt_71 ?_
    rw [hw, eN, if_neg (nI_ge hj (by omega))]
    simp (discharger := omega) only [pk_mul, nI_add, am_cl, am_gd_in, am_dp, an_subz]
    split
    · rename_i h6
      repeat' split
      all_goals (refine mid _ h6 ?_; simp_all; done)
    · rename_i h6
      exact ih0 _ (by rw [an_prv, if_neg h6])
theorem op_burnt {L d : Nat} {μ : am_M} {p1 p2 p3 p4 : Int32} {K : Int32 → Int32 → am_M → Prop} (hd : 30 ≤ d) (hG : an_G nb μ) (hK : ∀ r μ', an_G nb μ' → K r r μ') : am_Ci L d 126 [.ref 0, .int p1, .int p2, .int p3, .int p4] μ (fun r1 μ1 => am_Ci L d 237 [.ref 140, .int p1, .int p2, .int p3, .int p4] μ1 (fun r2 μ2 => K r1 r2 μ2)) := by
  have hS := hG.1
  generalize hw : μ 141 = w at hS
  obtain ⟨h1, h2, h3, h4, h5, h6, h7, h8, h9, h10, h11, h12, h13, h14, h15⟩ := id hS
  obtain ⟨hD, hN, hP, hKt, hE⟩ := id h1
  obtain ⟨eN, lN⟩ := an_cnt_e hN
  have hL : an_RL 58 w μ := h8
  have hC : an_RC 15 w μ := h9.1
  obtain ⟨D, lD, eD⟩ := hD
  rcases an_arg p1 4 (by omega) (by omega) with ⟨a1, a2⟩ | ⟨a1, a2, a3, a4⟩ | ⟨b, hb, rfl⟩
  · refine v_X_burnt ?_
    rw [am_dp (by omega), if_pos a1]
    refine v_M_burnt ?_
    rw [am_dp (by omega), am_dp (by omega), if_pos a2]
    exact v_M_burnt_34 (hK _ _ hG)
  · have a5 : nI 3 < p1 := a4
    refine v_X_burnt ?_
    rw [am_dp (by omega), if_neg a1, if_pos a3]
    refine v_M_burnt ?_
    rw [am_dp (by omega), am_dp (by omega), if_neg a2, if_pos a5]
    exact v_M_burnt_34 (hK _ _ hG)
  rcases an_arg p2 6 (by omega) (by omega) with ⟨a1, a2⟩ | ⟨a1, a2, a3, a4⟩ | ⟨h, hh, rfl⟩
  · refine v_X_burnt ?_
    rw [am_dp (by omega), if_neg (nI_pos (by omega)), if_neg (nI_ge (by omega) (by omega)), am_dp (by omega), if_pos a1]
    refine v_M_burnt ?_
    rw [am_dp (by omega), am_dp (by omega), if_neg (nI_nlt (by omega) (by omega)), if_neg (nI_nlt (by omega) (by omega)), am_dp (by omega), am_dp (by omega), if_pos a2]
    exact v_M_burnt_34 (hK _ _ hG)
  · have a5 : nI 5 < p2 := a4
    refine v_X_burnt ?_
    rw [am_dp (by omega), if_neg (nI_pos (by omega)), if_neg (nI_ge (by omega) (by omega)), am_dp (by omega), if_neg a1, if_pos a3]
    refine v_M_burnt ?_
    rw [am_dp (by omega), am_dp (by omega), if_neg (nI_nlt (by omega) (by omega)), if_neg (nI_nlt (by omega) (by omega)), am_dp (by omega), am_dp (by omega), if_neg a2, if_pos a5]
    exact v_M_burnt_34 (hK _ _ hG)
  rcases an_arg p3 100000 (by omega) (by omega) with ⟨a1, a2⟩ | ⟨a1, a2, a3, a4⟩ | ⟨a, ha, rfl⟩
  · refine v_X_burnt ?_
    rw [am_dp (by omega), if_neg (nI_pos (by omega)), if_neg (nI_ge (by omega) (by omega)), am_dp (by omega), if_neg (nI_pos (by omega)), if_neg (nI_ge (by omega) (by omega)), if_pos a1]
    refine v_M_burnt ?_
    rw [am_dp (by omega), am_dp (by omega), if_neg (nI_nlt (by omega) (by omega)), if_neg (nI_nlt (by omega) (by omega)), am_dp (by omega), am_dp (by omega), if_neg (nI_nlt (by omega) (by omega)), if_neg (nI_nlt (by omega) (by omega)), am_dp (by omega), if_pos a2]
    exact v_M_burnt_34 (hK _ _ hG)
  · have a5 : nI 99999 < p3 := a4
    refine v_X_burnt ?_
    rw [am_dp (by omega), if_neg (nI_pos (by omega)), if_neg (nI_ge (by omega) (by omega)), am_dp (by omega), if_neg (nI_pos (by omega)), if_neg (nI_ge (by omega) (by omega)), if_neg a1, if_pos a5]
    refine v_M_burnt ?_
    rw [am_dp (by omega), am_dp (by omega), if_neg (nI_nlt (by omega) (by omega)), if_neg (nI_nlt (by omega) (by omega)), am_dp (by omega), am_dp (by omega), if_neg (nI_nlt (by omega) (by omega)), if_neg (nI_nlt (by omega) (by omega)), am_dp (by omega), if_neg a2, if_pos a5]
    exact v_M_burnt_34 (hK _ _ hG)
  rcases an_arg p4 2 (by omega) (by omega) with ⟨a1, a2⟩ | ⟨a1, a2, a3, a4⟩ | ⟨c, hc, rfl⟩
  · refine v_X_burnt ?_
    rw [am_dp (by omega), if_neg (nI_pos (by omega)), if_neg (nI_ge (by omega) (by omega)), am_dp (by omega), if_neg (nI_pos (by omega)), if_neg (nI_ge (by omega) (by omega)), if_neg (nI_pos (by omega)), if_neg (nI_nlt (by omega) (by omega)), if_pos a1]
    refine v_M_burnt ?_
    rw [am_dp (by omega), am_dp (by omega), if_neg (nI_nlt (by omega) (by omega)), if_neg (nI_nlt (by omega) (by omega)), am_dp (by omega), am_dp (by omega), if_neg (nI_nlt (by omega) (by omega)), if_neg (nI_nlt (by omega) (by omega)), am_dp (by omega), if_neg (nI_nlt (by omega) (by omega)), if_neg (nI_nlt (by omega) (by omega)), am_dp (by omega), if_pos a2]
    exact v_M_burnt_34 (hK _ _ hG)
  · have a5 : nI 1 < p4 := a4
    refine v_X_burnt ?_
    rw [am_dp (by omega), if_neg (nI_pos (by omega)), if_neg (nI_ge (by omega) (by omega)), am_dp (by omega), if_neg (nI_pos (by omega)), if_neg (nI_ge (by omega) (by omega)), if_neg (nI_pos (by omega)), if_neg (nI_nlt (by omega) (by omega)), if_neg a1, if_neg (Int32.not_le.mpr a5)]
    refine v_M_burnt ?_
    rw [am_dp (by omega), am_dp (by omega), if_neg (nI_nlt (by omega) (by omega)), if_neg (nI_nlt (by omega) (by omega)), am_dp (by omega), am_dp (by omega), if_neg (nI_nlt (by omega) (by omega)), if_neg (nI_nlt (by omega) (by omega)), am_dp (by omega), if_neg (nI_nlt (by omega) (by omega)), if_neg (nI_nlt (by omega) (by omega)), am_dp (by omega), if_neg a2, if_pos a5]
    exact v_M_burnt_34 (hK _ _ hG)
  have mgo : ∀ {G : Int32 → am_M → Prop}, G (if c = 0 then an_prv w h b (an_cnt w) else an_bsum w (nI a) (D + 1 - (D - 6)) (D - 6) (an_prv w h b (an_cnt w))) μ → am_Ci L d 237 [.ref 140, .int (nI b), .int (nI h), .int (nI a), .int (nI c)] μ G := by
    intro G hG2
    refine v_M_burnt ?_
    rw [am_dp (by omega), am_dp (by omega), if_neg (nI_nlt (by omega) (by omega)), if_neg (nI_nlt (by omega) (by omega)), am_dp (by omega), am_dp (by omega), if_neg (nI_nlt (by omega) (by omega)), if_neg (nI_nlt (by omega) (by omega)), am_dp (by omega), if_neg (nI_nlt (by omega) (by omega)), if_neg (nI_nlt (by omega) (by omega)), am_dp (by omega), if_neg (nI_nlt (by omega) (by omega)), if_neg (nI_nlt (by omega) (by omega))]
    simp (discharger := omega) only [pk_mul, nI_add, am_cl, am_gd_in, hw]
    exact an_burnt_m (by omega) hh hb hc hw hN eD lD hG2
  refine v_X_burnt ?_
  rw [am_dp (by omega), if_neg (nI_pos (by omega)), if_neg (nI_ge (by omega) (by omega)), am_dp (by omega), if_neg (nI_pos (by omega)), if_neg (nI_ge (by omega) (by omega)), if_neg (nI_pos (by omega)), if_neg (nI_nlt (by omega) (by omega)), if_neg (nI_pos (by omega)), if_pos (nI_le (by omega) (by omega))]
  refine ⟨by omega, s_provenBook (by omega) hh hb hL hN ?_⟩
  rcases (by omega : c = 0 ∨ c = 1) with rfl | rfl
  · rw [if_neg (fun z => z nI_0)]
    exact mgo (by rw [if_pos rfl]; exact hK _ _ hG)
  · rw [if_pos (by decide), an_gdd (by omega), hL.1, eD, an_st7 D lD]
    refine an_burnt_x (by omega) hL hC eD lD (D + 1 - (D - 6)) (D - 6) 0 (by omega) ?_
    rw [show an_prv w h b (an_cnt w) + nI a * nI 0 = an_prv w h b (an_cnt w) by rw [nI_0, Int32.mul_zero, Int32.add_zero]]
    exact mgo (by rw [if_neg (by omega)]; exact hK _ _ hG)
