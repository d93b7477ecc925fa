/-! A morning: trains, what comes back. -/
/-- a cheque's place of a ledger is written -/
theorem an_RL_put {l : Nat} {w : an_W} {μ μ' : am_M} {k f : Nat} {v : Int32} (hR : an_RL l w μ) (hk : k < 150) (hf : f < 10) (e : μ' = am_w μ (l + 1) (k * 10 + f) v) : an_RL l (upd w (3640 + 12 * k + f) v) μ' := by
  obtain ⟨h1, h2, h3, h4, h5, h6⟩ := hR
  have y : ∀ c, c ≠ l + 1 → μ' c = μ c := fun c q => an_w_c e q
  refine ⟨?_, ?_, fun k' f' hk' hf' => ?_, fun i hi => ?_, fun i hi => ?_, fun i hi => ?_⟩
  · rw [y _ (by omega), pk_un (by omega)]; exact h1
  · rw [y _ (by omega), pk_un (by omega)]; exact h2
  · by_cases q : k' * 10 + f' = k * 10 + f
    · have q1 : k' = k := by omega
      have q2 : f' = f := by omega
      rw [q1, q2, an_w_s e, pk_us]
    · rw [an_w_o e q, pk_un (by omega)]; exact h3 k' f' hk' hf'
  · rw [y _ (by omega), pk_un (by omega)]; exact h4 i hi
  · rw [y _ (by omega), pk_un (by omega)]; exact h5 i hi
  · rw [y _ (by omega), pk_un (by omega)]; exact h6 i hi
/-- what a morning asks of the cheques -/
def an_mq (w : an_W) : Prop := ∀ k, k < an_cnt w → an_N (w (3640 + 12 * k + 0)) 6 ∧ an_N (w (3640 + 12 * k + 1)) 4 ∧ an_N (w (3640 + 12 * k + 2)) 6 ∧ an_N (w (3640 + 12 * k + 3)) 4 ∧ (∃ a, 1 ≤ a ∧ a < 100000 ∧ w (3640 + 12 * k + 4) = nI a) ∧ an_N (w (3640 + 12 * k + 6)) 4 ∧ an_N (w (3640 + 12 * k + 7)) 6
def an_ride1 (w : an_W) (k : Nat) : an_W := if (w (3640 + 12 * k + 6) = 0 ∨ w (3640 + 12 * k + 6) = nI 2) ∧ ¬ w (3640 + 12 * k + 7) ≤ 0 then upd w (3640 + 12 * k + 7) (w (3640 + 12 * k + 7) - nI 1) else w
def an_ride (w : an_W) : Nat → an_W
  | 0 => w
  | k + 1 => an_ride1 (an_ride w k) k
theorem an_ride1_o {w : an_W} {k i : Nat} (h : i ≠ 3640 + 12 * k + 7) : an_ride1 w k i = w i := by
  unfold an_ride1
  split
  · exact pk_un h
  · rfl
theorem an_ride_o {w : an_W} {i : Nat} : ∀ n, (∀ k, k < n → i ≠ 3640 + 12 * k + 7) → an_ride w n i = w i := by
  intro n
  induction n with
  | zero => intro _; rfl
  | succ n ih => intro h; rw [an_ride, an_ride1_o (h n (by omega)), ih (fun k hk => h k (by omega))]
/-- the cheques behind the trains of the day -/
def W_ride (w : an_W) (D : Nat) : an_W := if W_train w D = true then an_ride w (an_cnt w) else w
theorem W_ride_o {w : an_W} {D i : Nat} (h : ∀ k, k < an_cnt w → i ≠ 3640 + 12 * k + 7) : W_ride w D i = w i := by
  unfold W_ride
  split
  · exact an_ride_o _ h
  · rfl
theorem s_rideTrains {L d : Nat} {μ : am_M} {F : am_M → Prop} {w : an_W} {D : Nat} (hd : 6 ≤ d) (hD : w 0 = nI D) (hD9 : D < 1000) (hR : an_RL 58 w μ) (hS : an_RS w μ) (hN : an_N (w 1) 151)
    (hF : ∀ μ', an_un [59] μ μ' → an_RL 58 (W_ride w D) μ' → F μ') : am_Cv L d 25 [.ref 58] μ F := by
  obtain ⟨eN, lN⟩ := an_cnt_e hN
  refine v_Ledger_rideTrains ?_
  rw [hR.1, hD]
  refine ⟨by omega, s_Country_hasSnow (by omega) hS (by omega) ?_⟩
  rw [an_bf]
  have loop : W_train w D = true → ∀ (n j : Nat) (μ1 : am_M), j + n = an_cnt w → an_un [59] μ μ1 → an_RL 58 (an_ride w j) μ1 → am_Jv L d 25 17 [some (.ref 58), some (.int (nI j))] [] μ1 F := by
    intro ht n
    induction n with
    | zero =>
      intro j μ1 hj u r
      obtain rfl : j = an_cnt w := by omega
      refine v_Ledger_rideTrains_17 ?_
      rw [r.2.1, an_ride_o _ (fun k _ => by omega), eN, if_pos (nI_le (Nat.le_refl _) (by omega))]
      refine hF μ1 u ?_
      unfold W_ride
      rw [if_pos ht]
      exact r
    | succ n ih =>
      intro j μ1 hj u r
      have rr : ∀ f, f < 10 → μ1 59 (j * 10 + f) = w (3640 + 12 * j + f) := fun f hf => by
        have := r.2.2.1 j f (by omega) hf
        rw [an_ride_o _ (fun k hk => by omega)] at this
        exact this
      have c6 : an_ride w j (3640 + 12 * j + 6) = w (3640 + 12 * j + 6) := an_ride_o _ (fun k hk => by omega)
      have c7 : an_ride w j (3640 + 12 * j + 7) = w (3640 + 12 * j + 7) := an_ride_o _ (fun k hk => by omega)
      have skip : ¬ ((w (3640 + 12 * j + 6) = 0 ∨ w (3640 + 12 * j + 6) = nI 2) ∧ ¬ w (3640 + 12 * j + 7) ≤ 0) → am_Jv L d 25 17 [some (.ref 58), some (.int (nI (j + 1)))] [] μ1 F := fun q => by
        refine ih (j + 1) μ1 (by omega) u ?_
        rw [an_ride]
        unfold an_ride1
        rw [c6, c7, if_neg q]
        exact r
      have take : ((w (3640 + 12 * j + 6) = 0 ∨ w (3640 + 12 * j + 6) = nI 2) ∧ ¬ w (3640 + 12 * j + 7) ≤ 0) → am_Cv L (d - 1) 14 [.ref 58, .int (nI j), .int (nI 7), .int (w (3640 + 12 * j + 7) - nI 1)] μ1 (fun μ2 => am_Jv L d 25 17 [some (.ref 58), some (.int (nI (j + 1)))] [] μ2 F) := fun q => by
        refine s_put (by omega) (by omega) (fun μ2 e2 => ?_)
        refine ih (j + 1) μ2 (by omega) (an_un_tr u (e2 ▸ an_un_w (by simp)) (fun _ q => q) (fun _ q => q)) ?_
        rw [an_ride]
        unfold an_ride1
        rw [c6, c7, if_pos q]
        exact an_RL_put r (by omega) (by omega) e2
      refine v_Ledger_rideTrains_17 ?_
      rw [r.2.1, an_ride_o _ (fun k _ => by omega), eN, if_neg (nI_ge (by omega) (by omega))]
      simp (discharger := omega) only [am_dp, pk_mul, nI_add, am_gd_in, am_cl, rr 6, rr 7]
      by_cases q6 : w (3640 + 12 * j + 6) = 0
      · rw [if_pos q6]
        by_cases q7 : w (3640 + 12 * j + 7) ≤ 0
        · rw [if_pos q7]; exact skip (fun z => z.2 q7)
        · rw [if_neg q7]; exact take ⟨Or.inl q6, q7⟩
      · rw [if_neg q6]
        by_cases q2 : w (3640 + 12 * j + 6) = nI 2
        · rw [if_neg (fun z => z q2)]
          by_cases q7 : w (3640 + 12 * j + 7) ≤ 0
          · rw [if_pos q7]; exact skip (fun z => z.2 q7)
          · rw [if_neg q7]; exact take ⟨Or.inr q2, q7⟩
        · rw [if_pos q2]; exact skip (fun z => z.1.elim q6 q2)
  cases ht : W_train w D with
  | true => exact loop ht (an_cnt w) 0 μ (by omega) an_un_rf hR
  | false =>
    refine hF μ an_un_rf ?_
    unfold W_ride
    rw [if_neg (by rw [ht]; simp)]
    exact hR
theorem s_rideTrainsT {L d : Nat} {μ : am_M} {F : am_M → Prop} {w : an_W} {D : Nat} (hd : 6 ≤ d) (hD : w 0 = nI D) (hD9 : D < 1000) (hR : an_RL 124 w μ) (hS : an_RS w μ) (hN : an_N (w 1) 151)
    (hF : ∀ μ', an_un [125] μ μ' → an_RL 124 (W_ride w D) μ' → F μ') : am_Cv L d 25 [.ref 124] μ F := by
  obtain ⟨eN, lN⟩ := an_cnt_e hN
  refine v_Ledger_rideTrainsT ?_
  rw [hR.1, hD]
  refine ⟨by omega, s_Country_hasSnow (by omega) hS (by omega) ?_⟩
  rw [an_bf]
  have loop : W_train w D = true → ∀ (n j : Nat) (μ1 : am_M), j + n = an_cnt w → an_un [125] μ μ1 → an_RL 124 (an_ride w j) μ1 → am_Jv L d 25 17 [some (.ref 124), some (.int (nI j))] [] μ1 F := by
    intro ht n
    induction n with
    | zero =>
      intro j μ1 hj u r
      obtain rfl : j = an_cnt w := by omega
      refine v_Ledger_rideTrainsT_17 ?_
      rw [r.2.1, an_ride_o _ (fun k _ => by omega), eN, if_pos (nI_le (Nat.le_refl _) (by omega))]
      refine hF μ1 u ?_
      unfold W_ride
      rw [if_pos ht]
      exact r
    | succ n ih =>
      intro j μ1 hj u r
      have rr : ∀ f, f < 10 → μ1 125 (j * 10 + f) = w (3640 + 12 * j + f) := fun f hf => by
        have := r.2.2.1 j f (by omega) hf
        rw [an_ride_o _ (fun k hk => by omega)] at this
        exact this
      have c6 : an_ride w j (3640 + 12 * j + 6) = w (3640 + 12 * j + 6) := an_ride_o _ (fun k hk => by omega)
      have c7 : an_ride w j (3640 + 12 * j + 7) = w (3640 + 12 * j + 7) := an_ride_o _ (fun k hk => by omega)
      have skip : ¬ ((w (3640 + 12 * j + 6) = 0 ∨ w (3640 + 12 * j + 6) = nI 2) ∧ ¬ w (3640 + 12 * j + 7) ≤ 0) → am_Jv L d 25 17 [some (.ref 124), some (.int (nI (j + 1)))] [] μ1 F := fun q => by
        refine ih (j + 1) μ1 (by omega) u ?_
        rw [an_ride]
        unfold an_ride1
        rw [c6, c7, if_neg q]
        exact r
      have take : ((w (3640 + 12 * j + 6) = 0 ∨ w (3640 + 12 * j + 6) = nI 2) ∧ ¬ w (3640 + 12 * j + 7) ≤ 0) → am_Cv L (d - 1) 14 [.ref 124, .int (nI j), .int (nI 7), .int (w (3640 + 12 * j + 7) - nI 1)] μ1 (fun μ2 => am_Jv L d 25 17 [some (.ref 124), some (.int (nI (j + 1)))] [] μ2 F) := fun q => by
        refine s_putT (by omega) (by omega) (fun μ2 e2 => ?_)
        refine ih (j + 1) μ2 (by omega) (an_un_tr u (e2 ▸ an_un_w (by simp)) (fun _ q => q) (fun _ q => q)) ?_
        rw [an_ride]
        unfold an_ride1
        rw [c6, c7, if_pos q]
        exact an_RL_put r (by omega) (by omega) e2
      refine v_Ledger_rideTrainsT_17 ?_
      rw [r.2.1, an_ride_o _ (fun k _ => by omega), eN, if_neg (nI_ge (by omega) (by omega))]
      simp (discharger := omega) only [am_dp, pk_mul, nI_add, am_gd_in, am_cl, rr 6, rr 7]
      by_cases q6 : w (3640 + 12 * j + 6) = 0
      · rw [if_pos q6]
        by_cases q7 : w (3640 + 12 * j + 7) ≤ 0
        · rw [if_pos q7]; exact skip (fun z => z.2 q7)
        · rw [if_neg q7]; exact take ⟨Or.inl q6, q7⟩
      · rw [if_neg q6]
        by_cases q2 : w (3640 + 12 * j + 6) = nI 2
        · rw [if_neg (fun z => z q2)]
          by_cases q7 : w (3640 + 12 * j + 7) ≤ 0
          · rw [if_pos q7]; exact skip (fun z => z.2 q7)
          · rw [if_neg q7]; exact take ⟨Or.inr q2, q7⟩
        · rw [if_pos q2]; exact skip (fun z => z.1.elim q6 q2)
  cases ht : W_train w D with
  | true => exact loop ht (an_cnt w) 0 μ (by omega) an_un_rf hR
  | false =>
    refine hF μ an_un_rf ?_
    unfold W_ride
    rw [if_neg (by rw [ht]; simp)]
    exact hR
def an_cb1 (w : an_W) (k : Nat) : an_W := if w (3640 + 12 * k + 6) = nI 2 ∧ w (3640 + 12 * k + 7) = 0 then W_books (upd w (3640 + 12 * k + 6) (nI 3)) (w (3640 + 12 * k + 2)).toNatClampNeg (w (3640 + 12 * k + 3)).toNatClampNeg (nI 4) (nI k) (-w (3640 + 12 * k + 4)) else w
def an_cb (w : an_W) : Nat → an_W
  | 0 => w
  | k + 1 => an_cb1 (an_cb w k) k
def W_cb (w : an_W) : an_W := an_cb w (an_cnt w)
