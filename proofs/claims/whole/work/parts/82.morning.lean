/-! A morning: trains, the model; the calendar looks at days alone. -/
theorem W_biz_c {w w' : an_W} {D : Nat} (h : ∀ i, 30 ≤ i → i < 120 → w' i = w i) : W_biz w' D = W_biz w D := by
  unfold W_biz
  by_cases q : 90 ≤ D
  · rw [Nat.ble_eq.mpr q]; rfl
  · rw [h (30 + D) (by omega) (by omega)]
theorem W_train_c {w w' : an_W} {D : Nat} (h : ∀ i, 120 ≤ i → i < 210 → w' i = w i) : W_train w' D = W_train w D := by
  unfold W_train
  by_cases q : 90 ≤ D
  · rw [Nat.ble_eq.mpr q]; rfl
  · rw [h (120 + D) (by omega) (by omega)]
theorem an_ride_m {L d : Nat} {μ : am_M} {F : Int32 → am_M → Prop} {w : an_W} {D : Nat} {ord : Int32} (hd : 6 ≤ d) (hD : w 0 = nI D) (hD9 : D < 1000) (hw : μ 141 = w) (hN : an_N (w 1) 151)
    (hF : ∀ μ', an_un [141] μ μ' → μ' 141 = W_ride w D → (match W_biz w D with
      | true => am_Ji L d 207 96 [some (.ref 140), some (.int ord), some (.int (nI 0)), none, none] [] μ' F
      | false => F (nI 0) μ')) : am_Ji L d 207 12 [some (.ref 140), some (.int ord), some (.int (nI 0)), none, none] [] μ F := by
  obtain ⟨eN, lN⟩ := an_cnt_e hN
  have ex : ∀ μ1, an_un [141] μ μ1 → μ1 141 = W_ride w D → 0 < d ∧ am_Ci L (d - 1) 152 [.ref 140, .int (μ1 141 0)] μ1 (fun y2 μ2 => if ¬ y2 = 0 then am_Ji L d 207 96 [some (.ref 140), some (.int ord), some (.int (nI 0)), none, none] [] μ2 F else F (nI 0) μ2) := by
    intro μ1 u e
    rw [e, W_ride_o (by intro k _; omega), hD]
    refine ⟨by omega, s_M_isBusiness e (by omega) ?_⟩
    rw [W_biz_c (w := w) (fun i h1 h2 => W_ride_o (by intro k _; omega)), an_bn]
    exact hF μ1 u e
  cases ht : W_train w D with
  | false =>
    have eW : W_ride w D = w := by unfold W_ride; rw [if_neg (by rw [ht]; simp)]
    refine v_M_morning_12 ?_
    by_cases q : an_cnt w = 0
    · rw [if_pos (by rw [hw, eN, q]; exact nI_le (Nat.le_refl _) (by omega))]
      exact ex μ an_un_rf (by rw [hw, eW])
    · rw [if_neg (by rw [hw, eN]; exact nI_ge (by omega) (by omega)), hw, hD]
      refine ⟨by omega, s_M_hasTrain hw (by omega) ?_⟩
      rw [an_bf, ht]
      exact ex μ an_un_rf (by rw [hw, eW])
  | true =>
    suffices ∀ (n j : Nat) (μ1 : am_M), j + n = an_cnt w → an_un [141] μ μ1 → μ1 141 = an_ride w j → am_Ji L d 207 12 [some (.ref 140), some (.int ord), some (.int (nI j)), none, none] [] μ1 F from this (an_cnt w) 0 μ (by omega) an_un_rf hw
    intro n
    induction n with
    | zero =>
      intro j μ1 hj u e
      obtain rfl : j = an_cnt w := by omega
      refine v_M_morning_12 ?_
      rw [if_pos (by rw [e, an_ride_o _ (fun k _ => by omega), eN]; exact nI_le (Nat.le_refl _) (by omega))]
      exact ex μ1 u (by rw [e]; unfold W_ride; rw [if_pos ht])
    | succ n ih =>
      intro j μ1 hj u e
      have o : ∀ i, (∀ k, k < j → i ≠ 3640 + 12 * k + 7) → an_ride w j i = w i := fun i h => an_ride_o _ h
      have c6 : an_ride w j (3640 + 12 * j + 6) = w (3640 + 12 * j + 6) := o _ (fun k hk => by omega)
      have c7 : an_ride w j (3640 + 12 * j + 7) = w (3640 + 12 * j + 7) := o _ (fun k hk => by omega)
      have skip : ¬ ((w (3640 + 12 * j + 6) = 0 ∨ w (3640 + 12 * j + 6) = nI 2) ∧ ¬ w (3640 + 12 * j + 7) ≤ 0) → am_Ji L d 207 12 [some (.ref 140), some (.int ord), some (.int (nI (j + 1))), none, none] [] μ1 F := fun q => by
        refine ih (j + 1) μ1 (by omega) u ?_
        rw [an_ride]
        unfold an_ride1
        rw [c6, c7, if_neg q]
        exact e
      have take : ((w (3640 + 12 * j + 6) = 0 ∨ w (3640 + 12 * j + 6) = nI 2) ∧ ¬ w (3640 + 12 * j + 7) ≤ 0) → ∀ μ2, μ2 = am_w μ1 141 (3640 + 12 * j + 7) (w (3640 + 12 * j + 7) - nI 1) → am_Ji L d 207 12 [some (.ref 140), some (.int ord), some (.int (nI (j + 1))), none, none] [] μ2 F := fun q μ2 e2 => by
        refine ih (j + 1) μ2 (by omega) (an_un_tr u (e2 ▸ an_un_w (by simp)) (fun _ q => q) (fun _ q => q)) ?_
        rw [an_ride]
        unfold an_ride1
        rw [c6, c7, if_pos q, e2, am_w_at, e]
      refine v_M_morning_12 ?_
      rw [if_neg (by rw [e, o 1 (fun k _ => by omega), eN]; exact nI_ge (by omega) (by omega)), e, o 0 (fun k _ => by omega), hD]
      refine ⟨by omega, s_M_hasTrain e (by omega) ?_⟩
      rw [W_train_c (w := w) (fun i h1 h2 => o i (fun k _ => by omega)), ht, an_bf]
      dsimp only
      rw [e]
      simp (discharger := omega) only [am_dp, pk_mul, nI_add, am_gd_in, am_cl, c6, c7]
      by_cases q6 : w (3640 + 12 * j + 6) = 0
      · rw [if_pos q6]
        by_cases q7 : w (3640 + 12 * j + 7) ≤ 0
        · rw [if_pos q7]; exact skip (fun z => z.2 q7)
        · rw [if_neg q7]; exact take ⟨Or.inl q6, q7⟩
      · rw [if_neg q6]
        by_cases q2 : w (3640 + 12 * j + 6) = nI 2
        · rw [if_neg (fun z => z q2)]
          by_cases q7 : w (3640 + 12 * j + 7) ≤ 0
          · rw [if_pos q7]; exact skip (fun z => z.2 q7)
          · rw [if_neg q7]; exact take ⟨Or.inr q2, q7⟩
        · rw [if_pos q2]; exact skip (fun z => z.1.elim q6 q2)
