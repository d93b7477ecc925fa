/-! A morning as a whole, the class. -/

theorem an_RL_now {l : Nat} {w : an_W} {μ μ' : am_M} {v : Int32} (hR : an_RL l w μ) (e : μ' = am_w μ l 8 v) : an_RL l (upd w 0 v) μ' := by
  obtain ⟨h1, h2, h3, h4, h5, h6⟩ := hR
  have y : ∀ c, c ≠ l → μ' c = μ c := fun c q => an_w_c e q
  refine ⟨?_, ?_, fun k' f' hk' hf' => ?_, fun i hi => ?_, fun i hi => ?_, fun i hi => ?_⟩
  · rw [an_w_s e, pk_us]
  · rw [an_w_o e (by omega), pk_un (by omega)]; exact h2
  · rw [y _ (by omega), pk_un (by omega)]; exact h3 k' f' hk' hf'
  · rw [y _ (by omega), pk_un (by omega)]; exact h4 i hi
  · rw [y _ (by omega), pk_un (by omega)]; exact h5 i hi
  · rw [y _ (by omega), pk_un (by omega)]; exact h6 i hi

theorem s_morning {L d : Nat} {μ : am_M} {F : Int32 → am_M → Prop} {w : an_W} {lss : Nat → List an_Ln} {D : Nat} {ord : Int32} (hd : 10 ≤ d) (hD : w 0 = nI D) (hD9 : D < 199) (hR : an_RL 58 w μ) (hRE : an_RE 56 w μ) (hC : an_RC 15 w μ) (hS : an_RS w μ) (hN : an_N (w 1) 151) (ho : ∀ b, b < 4 → an_okl false (lss b)) (hX : ∀ b, b < 4 → an_scX false (21 + 7 * b) μ (lss b)) (hN1 : an_N (W_mor1 w D 1) 151) (hE1 : an_N (W_mor1 w D 9810) 901) (hm1 : an_mq (W_mor1 w D)) (hEw : ∀ j, 9810 ≤ j → W_mor1 w D j = w j) (hA : an_ain (W_cb (W_mor1 w D)) (D + 1)) (hO : an_old (W_cb (W_mor1 w D))) (hCw : ∀ j, 10 ≤ j → j < 120 → W_cb (W_mor1 w D) j = w j)
    (hF : ∀ μ', an_un [56, 57, 58, 59, 60, 62, 63, 64, 27, 34, 41, 48] μ μ' → an_RL 58 (W_mor lss ord w D) μ' → an_RE 56 (W_mor lss ord w D) μ' → F (nI (an_morn lss ord w D)) μ') : am_Ci L d 24 [.ref 58, .int ord] μ F := by
  refine v_Ledger_morning ?_
  intro μ1 e1
  rw [hR.1, hD, nI_add] at e1
  have R1 := an_RL_now hR e1
  have C1 : an_RC 15 (upd w 0 (nI (D + 1))) μ1 := by
    have := an_RC_c hC (μ' := μ1) (fun c q1 q2 => by rw [an_w_c e1 (by omega)])
    exact ⟨fun i hi => by rw [pk_un (by omega)]; exact this.1 i hi, fun i hi => by rw [pk_un (by omega)]; exact this.2.1 i hi, fun i hi => by rw [pk_un (by omega)]; exact this.2.2 i hi⟩
  have S1 : an_RS (upd w 0 (nI (D + 1))) μ1 := by
    unfold an_RS
    rw [an_w_c e1 (show 15 ≠ 58 by decide), an_w_c e1 (show 19 ≠ 58 by decide)]
    exact ⟨fun i hi => by rw [pk_un (by omega)]; exact hS.1 i hi, hS.2⟩
  rw [am_dp (by omega)]
  refine s_rideTrains (by omega) (D := D + 1) (by rw [pk_us]) (by omega) R1 S1 (by rw [pk_un (by omega)]; exact hN) (fun μ2 u2 R2 => ?_)
  have R2 : an_RL 58 (W_mor1 w D) μ2 := R2
  have RE2 : an_RE 56 (W_mor1 w D) μ2 := an_RE_w (an_RE_c hRE (fun c q1 q2 => by rw [u2 c (by simp; omega), an_w_c e1 (by omega)])) hEw
  have x2 : μ2 58 8 = nI (D + 1) := by rw [u2 58 (by decide), an_w_s e1]
  rw [x2, am_dp (by omega)]
  refine s_Country_isBusiness (an_RC_c C1 (fun c q1 q2 => u2 c (by simp; omega))) (by omega) ?_
  unfold W_mor an_morn at hF
  cases hz : W_biz (upd w 0 (nI (D + 1))) (D + 1) with
  | true =>
    rw [hz] at hF
    rw [if_pos (show ¬ an_b true = 0 by decide), am_dp (by omega)]
    refine s_comeBack (by omega) R2 RE2 hE1 hN1 hm1 (fun μ3 u3 R3 re3 => ?_)
    have C3 := an_RC_c hC (μ' := μ3) (fun c q1 q2 => by rw [u3 c (by simp; omega), u2 c (by simp; omega), an_w_c e1 (by omega)])
    have C3' : an_RC 15 (W_cb (W_mor1 w D)) μ3 := ⟨fun i hi => by rw [hCw _ (by omega) (by omega)]; exact C3.1 i hi, fun i hi => by rw [hCw _ (by omega) (by omega)]; exact C3.2.1 i hi, fun i hi => by rw [hCw _ (by omega) (by omega)]; exact C3.2.2 i hi⟩
    refine s_banks hd (by omega) ho 4 0 0 μ3 _ (by omega) hA hO R3 C3' re3 (fun b hb => an_scX_c (hX b hb) (fun c q1 q2 => by rw [u3 c (by simp; omega), u2 c (by simp; omega), an_w_c e1 (by omega)])) (fun μ4 u4 R4 re4 => ?_)
    rw [Nat.zero_add]
    refine hF μ4 (fun c hc => ?_) R4 re4
    simp only [List.mem_cons, List.not_mem_nil, or_false, not_or] at hc
    rw [u4 c (by simp; omega), u3 c (by simp; omega), u2 c (by simp; omega), an_w_c e1 (by omega)]
  | false =>
    rw [hz] at hF
    rw [if_neg (show ¬ ¬ an_b false = 0 by decide)]
    refine hF μ2 (fun c hc => ?_) R2 RE2
    simp only [List.mem_cons, List.not_mem_nil, or_false, not_or] at hc
    rw [u2 c (by simp; omega), an_w_c e1 (by omega)]

theorem s_morningT {L d : Nat} {μ : am_M} {F : Int32 → am_M → Prop} {w : an_W} {lss : Nat → List an_Ln} {D : Nat} {ord : Int32} (hd : 10 ≤ d) (hD : w 0 = nI D) (hD9 : D < 199) (hR : an_RL 124 w μ) (hC : an_RC 15 w μ) (hS : an_RS w μ) (hN : an_N (w 1) 151) (ho : ∀ b, b < 4 → an_okl false (lss b)) (hX : ∀ b, b < 4 → an_scX false (21 + 7 * b) μ (lss b)) (hN1 : an_N (W_mor1 w D 1) 151) (hE1 : an_N (W_mor1 w D 9810) 901) (hm1 : an_mq (W_mor1 w D)) (hA : an_ain (W_cb (W_mor1 w D)) (D + 1)) (hO : an_old (W_cb (W_mor1 w D))) (hCw : ∀ j, 10 ≤ j → j < 120 → W_cb (W_mor1 w D) j = w j)
    (hF : ∀ μ', an_un [124, 125, 126, 128, 129, 130, 27, 34, 41, 48] μ μ' → an_RL 124 (W_mor lss ord w D) μ' → F (nI (an_morn lss ord w D)) μ') : am_Ci L d 24 [.ref 124, .int ord] μ F := by
  refine v_Ledger_morningT ?_
  intro μ1 e1
  rw [hR.1, hD, nI_add] at e1
  have R1 := an_RL_now hR e1
  have C1 : an_RC 15 (upd w 0 (nI (D + 1))) μ1 := by
    have := an_RC_c hC (μ' := μ1) (fun c q1 q2 => by rw [an_w_c e1 (by omega)])
    exact ⟨fun i hi => by rw [pk_un (by omega)]; exact this.1 i hi, fun i hi => by rw [pk_un (by omega)]; exact this.2.1 i hi, fun i hi => by rw [pk_un (by omega)]; exact this.2.2 i hi⟩
  have S1 : an_RS (upd w 0 (nI (D + 1))) μ1 := by
    unfold an_RS
    rw [an_w_c e1 (show 15 ≠ 124 by decide), an_w_c e1 (show 19 ≠ 124 by decide)]
    exact ⟨fun i hi => by rw [pk_un (by omega)]; exact hS.1 i hi, hS.2⟩
  rw [am_dp (by omega)]
  refine s_rideTrainsT (by omega) (D := D + 1) (by rw [pk_us]) (by omega) R1 S1 (by rw [pk_un (by omega)]; exact hN) (fun μ2 u2 R2 => ?_)
  have R2 : an_RL 124 (W_mor1 w D) μ2 := R2
  have x2 : μ2 124 8 = nI (D + 1) := by rw [u2 124 (by decide), an_w_s e1]
  rw [x2, am_dp (by omega)]
  refine s_Country_isBusiness (an_RC_c C1 (fun c q1 q2 => u2 c (by simp; omega))) (by omega) ?_
  unfold W_mor an_morn at hF
  cases hz : W_biz (upd w 0 (nI (D + 1))) (D + 1) with
  | true =>
    rw [hz] at hF
    rw [if_pos (show ¬ an_b true = 0 by decide), am_dp (by omega)]
    refine s_comeBackT (by omega) R2 hN1 hm1 (fun μ3 u3 R3 => ?_)
    have C3 := an_RC_c hC (μ' := μ3) (fun c q1 q2 => by rw [u3 c (by simp; omega), u2 c (by simp; omega), an_w_c e1 (by omega)])
    have C3' : an_RC 15 (W_cb (W_mor1 w D)) μ3 := ⟨fun i hi => by rw [hCw _ (by omega) (by omega)]; exact C3.1 i hi, fun i hi => by rw [hCw _ (by omega) (by omega)]; exact C3.2.1 i hi, fun i hi => by rw [hCw _ (by omega) (by omega)]; exact C3.2.2 i hi⟩
    refine s_banksT hd (by omega) ho 4 0 0 μ3 _ (by omega) hA hO R3 C3' (fun b hb => an_scX_c (hX b hb) (fun c q1 q2 => by rw [u3 c (by simp; omega), u2 c (by simp; omega), an_w_c e1 (by omega)])) (fun μ4 u4 R4 => ?_)
    rw [Nat.zero_add]
    refine hF μ4 (fun c hc => ?_) R4
    simp only [List.mem_cons, List.not_mem_nil, or_false, not_or] at hc
    rw [u4 c (by simp; omega), u3 c (by simp; omega), u2 c (by simp; omega), an_w_c e1 (by omega)]
  | false =>
    rw [hz] at hF
    rw [if_neg (show ¬ ¬ an_b false = 0 by decide)]
    refine hF μ2 (fun c hc => ?_) R2
    simp only [List.mem_cons, List.not_mem_nil, or_false, not_or] at hc
    rw [u2 c (by simp; omega), an_w_c e1 (by omega)]
