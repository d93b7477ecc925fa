/-! A morning: what comes back. -/
theorem an_cb_o {w : an_W} (hm : an_mq w) (hN : an_cnt w ≤ 150) : ∀ (n : Nat), n ≤ an_cnt w → ∀ i, i < 9810 → ¬ (210 ≤ i ∧ i < 234) → (∀ k, k < n → i ≠ 3640 + 12 * k + 6) → an_cb w n i = w i := by
  intro n
  induction n with
  | zero => intro _ i _ _ _; rfl
  | succ n ih =>
    intro hn i h9 h2 h
    have ih := ih (by omega)
    obtain ⟨-, -, ⟨a, la, ea⟩, ⟨b, lb, eb⟩, -⟩ := hm n (by omega)
    have e2 : an_cb w n (3640 + 12 * n + 2) = nI a := by rw [ih _ (by omega) (by omega) (fun k hk => by omega), ea]
    have e3 : an_cb w n (3640 + 12 * n + 3) = nI b := by rw [ih _ (by omega) (by omega) (fun k hk => by omega), eb]
    rw [an_cb]
    unfold an_cb1
    rw [e2, e3, am_cl (by omega), am_cl (by omega)]
    split
    · rw [W_books_o h9 (by omega), pk_un (h n (by omega)), ih i h9 h2 (fun k hk => h k (by omega))]
    · exact ih i h9 h2 (fun k hk => h k (by omega))
theorem an_cb_E {w : an_W} (hm : an_mq w) (hN : an_cnt w ≤ 150) (hE : an_N (w 9810) 901) : ∀ (n : Nat), n ≤ an_cnt w → an_N (an_cb w n 9810) 901 := by
  intro n
  induction n with
  | zero => intro _; exact hE
  | succ n ih =>
    intro hn
    obtain ⟨-, -, ⟨a, la, ea⟩, ⟨b, lb, eb⟩, -⟩ := hm n (by omega)
    have e2 : an_cb w n (3640 + 12 * n + 2) = nI a := by rw [an_cb_o hm hN n (by omega) _ (by omega) (by omega) (fun k hk => by omega), ea]
    have e3 : an_cb w n (3640 + 12 * n + 3) = nI b := by rw [an_cb_o hm hN n (by omega) _ (by omega) (by omega) (fun k hk => by omega), eb]
    rw [an_cb]
    unfold an_cb1
    rw [e2, e3, am_cl (by omega), am_cl (by omega)]
    split
    · exact W_books_E (by rw [pk_un (by omega)]; exact ih (by omega)) la lb
    · exact ih (by omega)
theorem an_negA {a : Nat} (h : 0 < a) (h2 : a < 1000000) : ¬ -nI a = 0 := fun q => by
  have : nI a = 0 := by
    have := congrArg (fun x => -x) q
    simpa using this
  exact nI_ne0 h (by omega) this
theorem s_comeBack {L d : Nat} {μ : am_M} {F : am_M → Prop} {w : an_W} (hd : 6 ≤ d) (hR : an_RL 58 w μ) (hRE : an_RE 56 w μ) (hE : an_N (w 9810) 901) (hN : an_N (w 1) 151) (hm : an_mq w)
    (hF : ∀ μ', an_un [56, 57, 59, 60] μ μ' → an_RL 58 (W_cb w) μ' → an_RE 56 (W_cb w) μ' → F μ') : am_Cv L d 26 [.ref 58] μ F := by
  obtain ⟨eN, lN⟩ := an_cnt_e hN
  refine v_Ledger_comeBack ?_
  suffices ∀ (n j : Nat) (μ1 : am_M), j + n = an_cnt w → an_un [56, 57, 59, 60] μ μ1 → an_RL 58 (an_cb w j) μ1 → an_RE 56 (an_cb w j) μ1 → am_Jv L d 26 2 [some (.ref 58), some (.int (nI j))] [] μ1 F from this (an_cnt w) 0 μ (by omega) an_un_rf hR hRE
  intro n
  induction n with
  | zero =>
    intro j μ1 hj u r re
    obtain rfl : j = an_cnt w := by omega
    refine v_Ledger_comeBack_2 ?_
    rw [r.2.1, an_cb_o hm lN _ (Nat.le_refl _) 1 (by omega) (by omega) (fun k _ => by omega), eN, if_pos (nI_le (Nat.le_refl _) (by omega))]
    exact hF μ1 u r re
  | succ n ih =>
    intro j μ1 hj u r re
    obtain ⟨-, -, ⟨h, la, ea⟩, ⟨b, lb, eb⟩, ⟨a, a1, a2, ea4⟩, -, -⟩ := hm j (by omega)
    have co : ∀ f, f < 10 → an_cb w j (3640 + 12 * j + f) = w (3640 + 12 * j + f) := fun f hf => an_cb_o hm lN j (by omega) _ (by omega) (by omega) (fun k hk => by omega)
    have c6 := co 6 (by omega)
    have c7 := co 7 (by omega)
    have rr : ∀ f, f < 10 → μ1 59 (j * 10 + f) = w (3640 + 12 * j + f) := fun f hf => by
      have := r.2.2.1 j f (by omega) hf
      rw [co f hf] at this
      exact this
    have skip : ¬ (w (3640 + 12 * j + 6) = nI 2 ∧ w (3640 + 12 * j + 7) = 0) → am_Jv L d 26 2 [some (.ref 58), some (.int (nI (j + 1)))] [] μ1 F := fun q => by
      refine ih (j + 1) μ1 (by omega) u ?_ ?_
      · rw [an_cb]
        unfold an_cb1
        rw [c6, c7, if_neg q]
        exact r
      · rw [an_cb]
        unfold an_cb1
        rw [c6, c7, if_neg q]
        exact re
    refine v_Ledger_comeBack_2 ?_
    rw [r.2.1, an_cb_o hm lN j (by omega) 1 (by omega) (by omega) (fun k _ => by omega), eN, if_neg (nI_ge (by omega) (by omega))]
    simp (discharger := omega) only [am_dp, pk_mul, nI_add, am_gd_in, am_cl, rr 6, rr 7]
    by_cases q6 : w (3640 + 12 * j + 6) = nI 2
    · rw [if_neg (fun z => z q6)]
      by_cases q7 : w (3640 + 12 * j + 7) = 0
      · rw [if_neg (fun z => z q7)]
        have step : an_cb w (j + 1) = W_books (upd (an_cb w j) (3640 + 12 * j + 6) (nI 3)) h b (nI 4) (nI j) (-nI a) := by
          rw [an_cb]
          unfold an_cb1
          rw [c6, c7, if_pos ⟨q6, q7⟩, co 2 (by omega), co 3 (by omega), co 4 (by omega), ea, eb, ea4, am_cl (by omega), am_cl (by omega)]
        refine s_put (by omega) (by omega) (fun μ2 e2 => ?_)
        have gR2 : an_RL 58 (upd (an_cb w j) (3640 + 12 * j + 6) (nI 3)) μ2 := an_RL_put r (by omega) (by omega) e2
        have rr2 : ∀ f, f < 10 → f ≠ 6 → μ2 59 (j * 10 + f) = w (3640 + 12 * j + f) := fun f hf h6 => by rw [an_w_o e2 (by omega)]; exact rr f hf
        rw [rr2 2 (by omega) (by omega), rr2 3 (by omega) (by omega), rr2 4 (by omega) (by omega), ea, eb, ea4]
        have gE2 : an_RE 56 (upd (an_cb w j) (3640 + 12 * j + 6) (nI 3)) μ2 := an_k10_c (o := 0) (show an_k10 0 (an_cb w j) μ1 from re) (fun i hi => pk_un (by omega)) (fun c hc => an_w_c e2 (by omega))
        refine s_Ledger_change (by omega) la lb gR2 gE2 (by rw [pk_un (by omega)]; exact an_cb_E hm lN hE j (by omega)) (an_negA (by omega) (by omega)) (fun μ3 u3 gR3 gE3 => ?_)
        refine ih (j + 1) μ3 (by omega) (an_un_tr (an_un_tr u (e2 ▸ an_un_w (l := [59]) (by simp)) (fun _ q => q) (by simp)) u3 (fun _ q => q) (by simp)) ?_ ?_
        · rw [step]; exact gR3
        · rw [step]; exact gE3
      · rw [if_pos q7]; exact skip (fun z => q7 z.2)
    · rw [if_pos q6]; exact skip (fun z => q6 z.1)
theorem s_comeBackT {L d : Nat} {μ : am_M} {F : am_M → Prop} {w : an_W} (hd : 6 ≤ d) (hR : an_RL 124 w μ) (hN : an_N (w 1) 151) (hm : an_mq w)
    (hF : ∀ μ', an_un [125, 126] μ μ' → an_RL 124 (W_cb w) μ' → F μ') : am_Cv L d 26 [.ref 124] μ F := by
  obtain ⟨eN, lN⟩ := an_cnt_e hN
  refine v_Ledger_comeBackT ?_
  suffices ∀ (n j : Nat) (μ1 : am_M), j + n = an_cnt w → an_un [125, 126] μ μ1 → an_RL 124 (an_cb w j) μ1 → am_Jv L d 26 2 [some (.ref 124), some (.int (nI j))] [] μ1 F from this (an_cnt w) 0 μ (by omega) an_un_rf hR
  intro n
  induction n with
  | zero =>
    intro j μ1 hj u r
    obtain rfl : j = an_cnt w := by omega
    refine v_Ledger_comeBackT_2 ?_
    rw [r.2.1, an_cb_o hm lN _ (Nat.le_refl _) 1 (by omega) (by omega) (fun k _ => by omega), eN, if_pos (nI_le (Nat.le_refl _) (by omega))]
    exact hF μ1 u r
  | succ n ih =>
    intro j μ1 hj u r
    obtain ⟨-, -, ⟨h, la, ea⟩, ⟨b, lb, eb⟩, ⟨a, a1, a2, ea4⟩, -, -⟩ := hm j (by omega)
    have co : ∀ f, f < 10 → an_cb w j (3640 + 12 * j + f) = w (3640 + 12 * j + f) := fun f hf => an_cb_o hm lN j (by omega) _ (by omega) (by omega) (fun k hk => by omega)
    have c6 := co 6 (by omega)
    have c7 := co 7 (by omega)
    have rr : ∀ f, f < 10 → μ1 125 (j * 10 + f) = w (3640 + 12 * j + f) := fun f hf => by
      have := r.2.2.1 j f (by omega) hf
      rw [co f hf] at this
      exact this
    have skip : ¬ (w (3640 + 12 * j + 6) = nI 2 ∧ w (3640 + 12 * j + 7) = 0) → am_Jv L d 26 2 [some (.ref 124), some (.int (nI (j + 1)))] [] μ1 F := fun q => by
      refine ih (j + 1) μ1 (by omega) u ?_
      · rw [an_cb]
        unfold an_cb1
        rw [c6, c7, if_neg q]
        exact r
    refine v_Ledger_comeBackT_2 ?_
    rw [r.2.1, an_cb_o hm lN j (by omega) 1 (by omega) (by omega) (fun k _ => by omega), eN, if_neg (nI_ge (by omega) (by omega))]
    simp (discharger := omega) only [am_dp, pk_mul, nI_add, am_gd_in, am_cl, rr 6, rr 7]
    by_cases q6 : w (3640 + 12 * j + 6) = nI 2
    · rw [if_neg (fun z => z q6)]
      by_cases q7 : w (3640 + 12 * j + 7) = 0
      · rw [if_neg (fun z => z q7)]
        have step : an_cb w (j + 1) = W_books (upd (an_cb w j) (3640 + 12 * j + 6) (nI 3)) h b (nI 4) (nI j) (-nI a) := by
          rw [an_cb]
          unfold an_cb1
          rw [c6, c7, if_pos ⟨q6, q7⟩, co 2 (by omega), co 3 (by omega), co 4 (by omega), ea, eb, ea4, am_cl (by omega), am_cl (by omega)]
        refine s_putT (by omega) (by omega) (fun μ2 e2 => ?_)
        have gR2 : an_RL 124 (upd (an_cb w j) (3640 + 12 * j + 6) (nI 3)) μ2 := an_RL_put r (by omega) (by omega) e2
        have rr2 : ∀ f, f < 10 → f ≠ 6 → μ2 125 (j * 10 + f) = w (3640 + 12 * j + f) := fun f hf h6 => by rw [an_w_o e2 (by omega)]; exact rr f hf
        rw [rr2 2 (by omega) (by omega), rr2 3 (by omega) (by omega), rr2 4 (by omega) (by omega), ea, eb, ea4]
        refine s_Ledger_changeT la lb gR2 (fun μ3 u3 gR3 => ?_)
        refine ih (j + 1) μ3 (by omega) (an_un_tr (an_un_tr u (e2 ▸ an_un_w (l := [125]) (by simp)) (fun _ q => q) (by simp)) u3 (fun _ q => q) (by simp)) ?_
        rw [step]; exact gR3
      · rw [if_pos q7]; exact skip (fun z => q7 z.2)
    · rw [if_pos q6]; exact skip (fun z => q6 z.1)
theorem an_cb_m {L d : Nat} {μ : am_M} {F : Int32 → am_M → Prop} {w : an_W} {ord : Int32} (hd : 6 ≤ d) (hw : μ 141 = w) (hE : an_N (w 9810) 901) (hN : an_N (w 1) 151) (hm : an_mq w) (hdue : ∀ k, k < an_cnt w → w (3640 + 12 * k + 6) = nI 2 → ¬ w 0 ≤ w (3640 + 12 * k + 9))
    (hF : ∀ μ', an_un [141] μ μ' → μ' 141 = W_cb w → am_Ji L d 207 170 [some (.ref 140), some (.int ord), some (.int (nI 0)), some (.int (nI 0)), none] [] μ' F) : am_Ji L d 207 96 [some (.ref 140), some (.int ord), some (.int (nI 0)), none, none] [] μ F := by
  obtain ⟨eN, lN⟩ := an_cnt_e hN
  suffices ∀ (n j : Nat) (μ1 : am_M), j + n = an_cnt w → an_un [141] μ μ1 → μ1 141 = an_cb w j → am_Ji L d 207 96 [some (.ref 140), some (.int ord), some (.int (nI j)), none, none] [] μ1 F from this (an_cnt w) 0 μ (by omega) an_un_rf hw
  intro n
  induction n with
  | zero =>
    intro j μ1 hj u e
    obtain rfl : j = an_cnt w := by omega
    refine v_M_morning_96 ?_
    rw [e, an_cb_o hm lN _ (Nat.le_refl _) 1 (by omega) (by omega) (fun k _ => by omega), eN, if_pos (nI_le (Nat.le_refl _) (by omega))]
    exact hF μ1 u e
  | succ n ih =>
    intro j μ1 hj u e
    obtain ⟨-, -, ⟨h, la, ea⟩, ⟨b, lb, eb⟩, ⟨a, a1, a2, ea4⟩, -, -⟩ := hm j (by omega)
    have co : ∀ f, f < 10 → an_cb w j (3640 + 12 * j + f) = w (3640 + 12 * j + f) := fun f hf => an_cb_o hm lN j (by omega) _ (by omega) (by omega) (fun k hk => by omega)
    have c6 := co 6 (by omega)
    have c7 := co 7 (by omega)
    have c9 := co 9 (by omega)
    have c0 : an_cb w j 0 = w 0 := an_cb_o hm lN j (by omega) 0 (by omega) (by omega) (fun k _ => by omega)
    have skip : ¬ (w (3640 + 12 * j + 6) = nI 2 ∧ w (3640 + 12 * j + 7) = 0) → am_Ji L d 207 96 [some (.ref 140), some (.int ord), some (.int (nI (j + 1))), none, none] [] μ1 F := fun q => by
      refine ih (j + 1) μ1 (by omega) u ?_
      rw [an_cb]
      unfold an_cb1
      rw [c6, c7, if_neg q]
      exact e
    refine v_M_morning_96 ?_
    rw [e, an_cb_o hm lN j (by omega) 1 (by omega) (by omega) (fun k _ => by omega), eN, if_neg (nI_ge (by omega) (by omega))]
    simp (discharger := omega) only [am_dp, pk_mul, nI_add, am_gd_in, am_cl, c6, c7, c9, c0]
    by_cases q6 : w (3640 + 12 * j + 6) = nI 2
    · rw [if_neg (fun z => z q6)]
      by_cases q7 : w (3640 + 12 * j + 7) = 0
      · rw [if_neg (fun z => z q7), if_neg (hdue j (by omega) q6)]
        have step : an_cb w (j + 1) = W_books (upd (an_cb w j) (3640 + 12 * j + 6) (nI 3)) h b (nI 4) (nI j) (-nI a) := by
          rw [an_cb]
          unfold an_cb1
          rw [c6, c7, if_pos ⟨q6, q7⟩, co 2 (by omega), co 3 (by omega), co 4 (by omega), ea, eb, ea4, am_cl (by omega), am_cl (by omega)]
        intro μ2 e2
        have w2 : μ2 141 = upd (an_cb w j) (3640 + 12 * j + 6) (nI 3) := by rw [e2, am_w_at, e]
        rw [w2, pk_un (by omega), pk_un (by omega), pk_un (by omega), co 2 (by omega), co 3 (by omega), co 4 (by omega), ea, eb, ea4]
        refine s_M_books la lb w2 (by rw [pk_un (by omega)]; exact an_cb_E hm lN hE j (by omega)) (fun μ3 u3 w3 => ?_)
        refine ih (j + 1) μ3 (by omega) (an_un_tr (an_un_tr u (e2 ▸ an_un_w (l := [141]) (by simp)) (fun _ q => q) (fun _ q => q)) u3 (fun _ q => q) (fun _ q => q)) ?_
        rw [step]; exact w3
      · rw [if_pos q7]; exact skip (fun z => q7 z.2)
    · rw [if_pos q6]; exact skip (fun z => q6 z.1)
