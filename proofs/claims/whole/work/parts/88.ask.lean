/-! A morning: a cheque is asked for, the class. -/

theorem W_at_0 {w : an_W} {k h b : Nat} {st nd : Int32} (hk : k < 150) (hh : h < 6) (hb : b < 4) : W_at w k h b (nI 0) st nd = upd (upd (upd w (3640 + 12 * k + 9) (w 0)) (3640 + 12 * k + 6) st) (3640 + 12 * k + 7) nd := by
  funext i
  unfold W_at
  by_cases q : i = 258 + 4 * h + b
  · rw [q, pk_us, pk_un (by omega), pk_un (by omega), pk_un (by omega), nI_0]; simp
  · rw [pk_un q]
theorem W_at_1 {w : an_W} {k h b : Nat} {st : Int32} (hk : k < 150) (hh : h < 6) (hb : b < 4) (h7 : w (3640 + 12 * k + 7) = nI 0) : W_at w k h b (nI 0) st (nI 0) = upd (upd w (3640 + 12 * k + 9) (w 0)) (3640 + 12 * k + 6) st := by
  rw [W_at_0 hk hh hb]
  funext i
  by_cases q : i = 3640 + 12 * k + 7
  · rw [q, pk_us, pk_un (by omega), pk_un (by omega), h7]
  · rw [pk_un q]
theorem an_neg0 {y : Int32} (h : ¬ y = 0) : ¬ - y = 0 := fun z => h (by have := congrArg (fun t => - t) z; simpa using this)

theorem s_askFor {L d : Nat} {μ : am_M} {F : Int32 → am_M → Prop} {w : an_W} {k h b x D : Nat} {ls : List an_Ln} (hd : 8 ≤ d) (hk : k < 150) (hq : an_cq w k h b x) (hD : w 0 = nI D) (hD9 : D < 200) (hR : an_RL 58 w μ) (hRE : an_RE 56 w μ) (hE : an_N (w 9810) 901) (hC : an_RC 15 w μ) (hN : an_N (w 1) 151) (hT : an_WT w) (hday : an_days w) (ho : an_okl false ls) (hX : an_scX false (21 + 7 * b) μ ls) (h4 : ∃ a, 1 ≤ a ∧ a < 100000 ∧ w (3640 + 12 * k + 4) = nI a) (h7 : w (3640 + 12 * k + 7) = nI 0)
    (hF : ∀ μ', an_un [56, 57, 59, 60, 62, 64, 27, 34, 41, 48] μ μ' → an_RL 58 (W_ask w ls k h b x (w (3640 + 12 * k + 4))) μ' → an_RE 56 (W_ask w ls k h b x (w (3640 + 12 * k + 4))) μ' → F (nI (if W_usable w h b + W_lim w ls 1 h b x (w (3640 + 12 * k + 4)) < w (3640 + 12 * k + 4) then 0 else 1)) μ') : am_Ci L d 29 [.ref 58, .int (nI k)] μ F := by
  obtain ⟨hh, hb, hx, q0, q1, q3⟩ := hq
  obtain ⟨a, a1, a9, ea4⟩ := h4
  obtain ⟨ea, la⟩ := an_T_e hT hb
  obtain ⟨eb, lb⟩ := an_T_e hT hx
  obtain ⟨er, lr⟩ := an_R_e hT hb hx
  have eday : an_day w = D := by unfold an_day; rw [hD, am_cl (by omega)]
  have r0 : μ 59 (k * 10 + 0) = nI h := (hR.2.2.1 k 0 hk (by omega)).trans q0
  have r1 : μ 59 (k * 10 + 1) = nI b := (hR.2.2.1 k 1 hk (by omega)).trans q1
  have r3 : μ 59 (k * 10 + 3) = nI x := (hR.2.2.1 k 3 hk (by omega)).trans q3
  have r4 : μ 59 (k * 10 + 4) = w (3640 + 12 * k + 4) := hR.2.2.1 k 4 hk (by omega)
  have A : ∀ i, ¬ i = 3640 + 12 * k + 9 → upd w (3640 + 12 * k + 9) (w 0) i = w i := fun i q => pk_un q
  have hN1 : an_N (upd w (3640 + 12 * k + 9) (w 0) 1) 151 := by rw [A _ (by omega)]; exact hN
  have hT1 : an_WT (upd w (3640 + 12 * k + 9) (w 0)) := ⟨fun b hb => by rw [A _ (by omega)]; exact hT.1 b hb, fun i hi => by rw [A _ (by omega)]; exact hT.2 i hi⟩
  have hday1 : an_days (upd w (3640 + 12 * k + 9) (w 0)) := fun i hi => by
    have : an_cnt (upd w (3640 + 12 * k + 9) (w 0)) = an_cnt w := by unfold an_cnt; rw [A _ (by omega)]
    rw [A _ (by omega), A _ (by omega)]
    exact hday i (this ▸ hi)
  have eT : ∀ b, b < 4 → an_T (upd w (3640 + 12 * k + 9) (w 0)) b = an_T w b := fun b hb => by unfold an_T; rw [A _ (by omega)]
  have eR : an_R (upd w (3640 + 12 * k + 9) (w 0)) b x = an_R w b x := by unfold an_R; rw [eT b hb, eT x hx, A _ (by omega)]
  have eF : an_far (upd w (3640 + 12 * k + 9) (w 0)) b x = an_far w b x := by unfold an_far; rw [eT b hb, eT x hx]
  have el : ∀ wd, W_law (upd w (3640 + 12 * k + 9) (w 0)) ls wd h b (w (3640 + 12 * k + 4)) (nI (an_R (upd w (3640 + 12 * k + 9) (w 0)) b x)) (nI (D % 7)) (an_far (upd w (3640 + 12 * k + 9) (w 0)) b x) = W_lim w ls wd h b x (w (3640 + 12 * k + 4)) := fun wd => by
    rw [W_law_9 hh hb, eR, eF]; unfold W_lim; rw [eday]
  unfold W_ask at hF
  refine v_Ledger_askFor ?_
  simp (discharger := omega) only [pk_mul, nI_add, am_gd_in, am_cl, am_dp, an_gdz, r0, r1, r3, r4]
  refine s_put hk (by omega) (fun μ1 e1 => ?_)
  have R1 : an_RL 58 (upd w (3640 + 12 * k + 9) (w 0)) μ1 := by
    rw [hR.1] at e1
    exact an_RL_put hR hk (by omega) e1
  have x1 : μ1 58 8 = nI D := by rw [R1.1, A _ (by omega), hD]
  rw [x1, an_rem (by omega) (by omega) (by omega)]
  have C1 : an_RC 15 (upd w (3640 + 12 * k + 9) (w 0)) μ1 := by
    have := an_RC_c hC (μ' := μ1) (fun c q1 q2 => by rw [an_w_c e1 (by omega)])
    exact ⟨fun i hi => by rw [A _ (by omega)]; exact this.1 i hi, fun i hi => by rw [A _ (by omega)]; exact this.2.1 i hi, fun i hi => by rw [A _ (by omega)]; exact this.2.2 i hi⟩
  refine s_lawValue (by omega) (by omega) hh hb hx R1 C1 hT1 hN1 hday1 ho (an_scX_c hX (fun c q1 q2 => by rw [an_w_c e1 (by omega)])) (fun μ2 u2 => ?_)
  rw [el]
  have R2 : an_RL 58 (upd w (3640 + 12 * k + 9) (w 0)) μ2 := an_RL_c R1 (fun c q1 q2 => u2 c (by simp; omega))
  have C2 : an_RC 15 (upd w (3640 + 12 * k + 9) (w 0)) μ2 := an_RC_c C1 (fun c q1 q2 => u2 c (by simp; omega))
  refine s_Ledger_usable (by omega) hh hb R2 hN1 ?_
  rw [W_usable_9 hN hh hb]
  by_cases hp : W_usable w h b + W_lim w ls 1 h b x (w (3640 + 12 * k + 4)) < w (3640 + 12 * k + 4)
  · simp only [if_pos hp] at hF
    rw [if_pos hp, show μ2 58 8 = nI D by rw [R2.1, A _ (by omega), hD], an_rem (by omega) (by omega) (by omega)]
    refine s_lawValue (by omega) (by omega) hh hb hx R2 C2 hT1 hN1 hday1 ho (an_scX_c hX (fun c q1 q2 => by rw [u2 c (by simp; omega), an_w_c e1 (by omega)])) (fun μ3 u3 => ?_)
    rw [el]
    have R3 : an_RL 58 (upd w (3640 + 12 * k + 9) (w 0)) μ3 := an_RL_c R2 (fun c q1 q2 => u3 c (by simp; omega))
    have C3 : an_RC 15 w μ3 := an_RC_c hC (fun c q1 q2 => by rw [u3 c (by simp; omega), u2 c (by simp; omega), an_w_c e1 (by omega)])
    refine s_put hk (by omega) (fun μ4 e4 => ?_)
    have R4 := an_RL_put R3 hk (by omega) e4
    have C4 : an_RC 15 w μ4 := an_RC_c C3 (fun c q1 q2 => by rw [an_w_c e4 (by omega)])
    have t1 : μ4 16 b = nI (an_T w b) := (C4.1 b hb).trans ea
    have t2 : μ4 16 x = nI (an_T w x) := (C4.1 x hx).trans eb
    have t3 : μ4 17 (an_T w b * 3 + an_T w x) = nI (an_R w b x) := (an_RC_r C4 la lb).trans er
    rw [t1, t2, pk_mul, nI_add, am_gd_in (by omega) (by omega), am_cl (by omega), t3]
    refine s_put hk (by omega) (fun μ5 e5 => ?_)
    have R5 := an_RL_put R4 hk (by omega) e5
    obtain ⟨f, lf, ef⟩ : an_N (W_lim w ls 2 h b x (w (3640 + 12 * k + 4))) (an_most 2 + 1) := an_cla_N _ _ (by decide)
    rcases Nat.eq_zero_or_pos f with f0 | f0
    · have ef0 : W_lim w ls 2 h b x (w (3640 + 12 * k + 4)) = nI 0 := by rw [ef, f0]
      rw [if_pos (by rw [ef0]; decide)]
      have z : ∀ j, ¬ j = 4 → W_as w k h b (nI 3) (- W_lim w ls 2 h b x (w (3640 + 12 * k + 4))) (W_lim w ls 2 h b x (w (3640 + 12 * k + 4))) (nI 2) (nI (an_R w b x)) j = upd (upd (upd w (3640 + 12 * k + 9) (w 0)) (3640 + 12 * k + 6) (nI 2)) (3640 + 12 * k + 7) (nI (an_R w b x)) j := fun j hj => by
        rw [W_as_e hk hh hb hj, ef0, W_at_0 hk hh hb]
        unfold W_books
        rw [if_pos (by decide)]
      exact hF μ5 (fun c hc => by
        simp only [List.mem_cons, List.not_mem_nil, or_false, not_or] at hc
        rw [an_w_c e5 (by omega), an_w_c e4 (by omega), u3 c (by simp; omega), u2 c (by simp; omega), an_w_c e1 (by omega)]) (an_RL_w R5 (z 0 (by omega)) (z 1 (by omega)) (fun k f _ _ => z _ (by omega)) (fun j _ _ => z j (by omega))) (an_RE_w (an_RE_c hRE (fun c q1 q2 => by rw [an_w_c e5 (by omega), an_w_c e4 (by omega), u3 c (by simp; omega), u2 c (by simp; omega), an_w_c e1 (by omega)])) (fun j hj => (z j (by omega)).trans (by rw [pk_un (by omega), pk_un (by omega), pk_un (by omega)])))
    · have m2 : an_most 2 + 1 ≤ 2147483647 := by decide
      rw [if_neg (show ¬ W_lim w ls 2 h b x (w (3640 + 12 * k + 4)) ≤ 0 by rw [ef, ← nI_0]; exact nI_ge f0 (by omega))]
      intro μ6 e6
      have b5 : μ5 62 (h * 4 + b) = w (258 + 4 * h + b) := by
        refine ((an_RL_b R5).2.2 h b hh hb).trans ?_
        rw [pk_un (by omega), pk_un (by omega), pk_un (by omega)]
      rw [b5] at e6
      have R6 : an_RL 58 (W_at w k h b (W_lim w ls 2 h b x (w (3640 + 12 * k + 4))) (nI 2) (nI (an_R w b x))) μ6 := an_RL_fee R5 hh hb e6
      have RE6 : an_RE 56 (W_at w k h b (W_lim w ls 2 h b x (w (3640 + 12 * k + 4))) (nI 2) (nI (an_R w b x))) μ6 := an_RE_w (an_RE_c hRE (fun c q1 q2 => by rw [an_w_c e6 (by omega), an_w_c e5 (by omega), an_w_c e4 (by omega), u3 c (by simp; omega), u2 c (by simp; omega), an_w_c e1 (by omega)])) (fun j hj => by unfold W_at; rw [pk_un (by omega), pk_un (by omega), pk_un (by omega), pk_un (by omega)])
      refine s_Ledger_change (by omega) hh hb R6 RE6 (by unfold W_at; rw [pk_un (by omega), pk_un (by omega), pk_un (by omega), pk_un (by omega)]; exact hE) (an_neg0 (by rw [ef]; exact nI_ne0 f0 (by omega))) (fun μ7 u7 R7 RE7 => ?_)
      exact hF μ7 (fun c hc => by
        simp only [List.mem_cons, List.not_mem_nil, or_false, not_or] at hc
        rw [u7 c (by simp; omega), an_w_c e6 (by omega), an_w_c e5 (by omega), an_w_c e4 (by omega), u3 c (by simp; omega), u2 c (by simp; omega), an_w_c e1 (by omega)]) (an_RL_w R7 (W_as_e hk hh hb (by omega)) (W_as_e hk hh hb (by omega)) (fun _ f _ _ => W_as_e hk hh hb (by omega)) (fun j _ _ => W_as_e hk hh hb (by omega))) (an_RE_w RE7 (fun j hj => W_as_e hk hh hb (by omega)))
  · simp only [if_neg hp] at hF
    rw [if_neg hp]
    refine s_put hk (by omega) (fun μ4 e4 => ?_)
    have R4 := an_RL_put R2 hk (by omega) e4
    refine s_Ledger_change (by omega) hh hb R4 (an_RE_w (an_RE_c hRE (fun c q1 q2 => by rw [an_w_c e4 (by omega), u2 c (by simp; omega), an_w_c e1 (by omega)])) (fun j hj => by rw [pk_un (by omega), pk_un (by omega)])) (by rw [pk_un (by omega), pk_un (by omega)]; exact hE) (an_neg0 (by rw [ea4]; exact nI_ne0 (by omega) (by omega))) (fun μ7 u7 R7 RE7 => ?_)
    have z : ∀ j, ¬ j = 4 → W_as w k h b (nI 2) (- w (3640 + 12 * k + 4)) (nI 0) (nI 1) (nI 0) j = W_books (upd (upd w (3640 + 12 * k + 9) (w 0)) (3640 + 12 * k + 6) (nI 1)) h b (nI 2) (nI k) (- w (3640 + 12 * k + 4)) j := fun j hj => by
      rw [W_as_e hk hh hb hj, W_at_1 hk hh hb h7]
    exact hF μ7 (fun c hc => by
      simp only [List.mem_cons, List.not_mem_nil, or_false, not_or] at hc
      rw [u7 c (by simp; omega), an_w_c e4 (by omega), u2 c (by simp; omega), an_w_c e1 (by omega)]) (an_RL_w R7 (z 0 (by omega)) (z 1 (by omega)) (fun k f _ _ => z _ (by omega)) (fun j _ _ => z j (by omega))) (an_RE_w RE7 (fun j hj => z j (by omega)))

theorem s_askForT {L d : Nat} {μ : am_M} {F : Int32 → am_M → Prop} {w : an_W} {k h b x D : Nat} {ls : List an_Ln} (hd : 8 ≤ d) (hk : k < 150) (hq : an_cq w k h b x) (hD : w 0 = nI D) (hD9 : D < 200) (hR : an_RL 124 w μ) (hC : an_RC 15 w μ) (hN : an_N (w 1) 151) (hT : an_WT w) (hday : an_days w) (ho : an_okl false ls) (hX : an_scX false (21 + 7 * b) μ ls) (h4 : ∃ a, 1 ≤ a ∧ a < 100000 ∧ w (3640 + 12 * k + 4) = nI a) (h7 : w (3640 + 12 * k + 7) = nI 0)
    (hF : ∀ μ', an_un [125, 126, 128, 130, 27, 34, 41, 48] μ μ' → an_RL 124 (W_ask w ls k h b x (w (3640 + 12 * k + 4))) μ' → F (nI (if W_usable w h b + W_lim w ls 1 h b x (w (3640 + 12 * k + 4)) < w (3640 + 12 * k + 4) then 0 else 1)) μ') : am_Ci L d 29 [.ref 124, .int (nI k)] μ F := by
  obtain ⟨hh, hb, hx, q0, q1, q3⟩ := hq
  obtain ⟨a, a1, a9, ea4⟩ := h4
  obtain ⟨ea, la⟩ := an_T_e hT hb
  obtain ⟨eb, lb⟩ := an_T_e hT hx
  obtain ⟨er, lr⟩ := an_R_e hT hb hx
  have eday : an_day w = D := by unfold an_day; rw [hD, am_cl (by omega)]
  have r0 : μ 125 (k * 10 + 0) = nI h := (hR.2.2.1 k 0 hk (by omega)).trans q0
  have r1 : μ 125 (k * 10 + 1) = nI b := (hR.2.2.1 k 1 hk (by omega)).trans q1
  have r3 : μ 125 (k * 10 + 3) = nI x := (hR.2.2.1 k 3 hk (by omega)).trans q3
  have r4 : μ 125 (k * 10 + 4) = w (3640 + 12 * k + 4) := hR.2.2.1 k 4 hk (by omega)
  have A : ∀ i, ¬ i = 3640 + 12 * k + 9 → upd w (3640 + 12 * k + 9) (w 0) i = w i := fun i q => pk_un q
  have hN1 : an_N (upd w (3640 + 12 * k + 9) (w 0) 1) 151 := by rw [A _ (by omega)]; exact hN
  have hT1 : an_WT (upd w (3640 + 12 * k + 9) (w 0)) := ⟨fun b hb => by rw [A _ (by omega)]; exact hT.1 b hb, fun i hi => by rw [A _ (by omega)]; exact hT.2 i hi⟩
  have hday1 : an_days (upd w (3640 + 12 * k + 9) (w 0)) := fun i hi => by
    have : an_cnt (upd w (3640 + 12 * k + 9) (w 0)) = an_cnt w := by unfold an_cnt; rw [A _ (by omega)]
    rw [A _ (by omega), A _ (by omega)]
    exact hday i (this ▸ hi)
  have eT : ∀ b, b < 4 → an_T (upd w (3640 + 12 * k + 9) (w 0)) b = an_T w b := fun b hb => by unfold an_T; rw [A _ (by omega)]
  have eR : an_R (upd w (3640 + 12 * k + 9) (w 0)) b x = an_R w b x := by unfold an_R; rw [eT b hb, eT x hx, A _ (by omega)]
  have eF : an_far (upd w (3640 + 12 * k + 9) (w 0)) b x = an_far w b x := by unfold an_far; rw [eT b hb, eT x hx]
  have el : ∀ wd, W_law (upd w (3640 + 12 * k + 9) (w 0)) ls wd h b (w (3640 + 12 * k + 4)) (nI (an_R (upd w (3640 + 12 * k + 9) (w 0)) b x)) (nI (D % 7)) (an_far (upd w (3640 + 12 * k + 9) (w 0)) b x) = W_lim w ls wd h b x (w (3640 + 12 * k + 4)) := fun wd => by
    rw [W_law_9 hh hb, eR, eF]; unfold W_lim; rw [eday]
  unfold W_ask at hF
  refine v_Ledger_askForT ?_
  simp (discharger := omega) only [pk_mul, nI_add, am_gd_in, am_cl, am_dp, an_gdz, r0, r1, r3, r4]
  refine s_putT hk (by omega) (fun μ1 e1 => ?_)
  have R1 : an_RL 124 (upd w (3640 + 12 * k + 9) (w 0)) μ1 := by
    rw [hR.1] at e1
    exact an_RL_put hR hk (by omega) e1
  have x1 : μ1 124 8 = nI D := by rw [R1.1, A _ (by omega), hD]
  rw [x1, an_rem (by omega) (by omega) (by omega)]
  have C1 : an_RC 15 (upd w (3640 + 12 * k + 9) (w 0)) μ1 := by
    have := an_RC_c hC (μ' := μ1) (fun c q1 q2 => by rw [an_w_c e1 (by omega)])
    exact ⟨fun i hi => by rw [A _ (by omega)]; exact this.1 i hi, fun i hi => by rw [A _ (by omega)]; exact this.2.1 i hi, fun i hi => by rw [A _ (by omega)]; exact this.2.2 i hi⟩
  refine s_lawValueT (by omega) (by omega) hh hb hx R1 C1 hT1 hN1 hday1 ho (an_scX_c hX (fun c q1 q2 => by rw [an_w_c e1 (by omega)])) (fun μ2 u2 => ?_)
  rw [el]
  have R2 : an_RL 124 (upd w (3640 + 12 * k + 9) (w 0)) μ2 := an_RL_c R1 (fun c q1 q2 => u2 c (by simp; omega))
  have C2 : an_RC 15 (upd w (3640 + 12 * k + 9) (w 0)) μ2 := an_RC_c C1 (fun c q1 q2 => u2 c (by simp; omega))
  refine s_Ledger_usableT (by omega) hh hb R2 hN1 ?_
  rw [W_usable_9 hN hh hb]
  by_cases hp : W_usable w h b + W_lim w ls 1 h b x (w (3640 + 12 * k + 4)) < w (3640 + 12 * k + 4)
  · simp only [if_pos hp] at hF
    rw [if_pos hp, show μ2 124 8 = nI D by rw [R2.1, A _ (by omega), hD], an_rem (by omega) (by omega) (by omega)]
    refine s_lawValueT (by omega) (by omega) hh hb hx R2 C2 hT1 hN1 hday1 ho (an_scX_c hX (fun c q1 q2 => by rw [u2 c (by simp; omega), an_w_c e1 (by omega)])) (fun μ3 u3 => ?_)
    rw [el]
    have R3 : an_RL 124 (upd w (3640 + 12 * k + 9) (w 0)) μ3 := an_RL_c R2 (fun c q1 q2 => u3 c (by simp; omega))
    have C3 : an_RC 15 w μ3 := an_RC_c hC (fun c q1 q2 => by rw [u3 c (by simp; omega), u2 c (by simp; omega), an_w_c e1 (by omega)])
    refine s_putT hk (by omega) (fun μ4 e4 => ?_)
    have R4 := an_RL_put R3 hk (by omega) e4
    have C4 : an_RC 15 w μ4 := an_RC_c C3 (fun c q1 q2 => by rw [an_w_c e4 (by omega)])
    have t1 : μ4 16 b = nI (an_T w b) := (C4.1 b hb).trans ea
    have t2 : μ4 16 x = nI (an_T w x) := (C4.1 x hx).trans eb
    have t3 : μ4 17 (an_T w b * 3 + an_T w x) = nI (an_R w b x) := (an_RC_r C4 la lb).trans er
    rw [t1, t2, pk_mul, nI_add, am_gd_in (by omega) (by omega), am_cl (by omega), t3]
    refine s_putT hk (by omega) (fun μ5 e5 => ?_)
    have R5 := an_RL_put R4 hk (by omega) e5
    obtain ⟨f, lf, ef⟩ : an_N (W_lim w ls 2 h b x (w (3640 + 12 * k + 4))) (an_most 2 + 1) := an_cla_N _ _ (by decide)
    rcases Nat.eq_zero_or_pos f with f0 | f0
    · have ef0 : W_lim w ls 2 h b x (w (3640 + 12 * k + 4)) = nI 0 := by rw [ef, f0]
      rw [if_pos (by rw [ef0]; decide)]
      have z : ∀ j, ¬ j = 4 → W_as w k h b (nI 3) (- W_lim w ls 2 h b x (w (3640 + 12 * k + 4))) (W_lim w ls 2 h b x (w (3640 + 12 * k + 4))) (nI 2) (nI (an_R w b x)) j = upd (upd (upd w (3640 + 12 * k + 9) (w 0)) (3640 + 12 * k + 6) (nI 2)) (3640 + 12 * k + 7) (nI (an_R w b x)) j := fun j hj => by
        rw [W_as_e hk hh hb hj, ef0, W_at_0 hk hh hb]
        unfold W_books
        rw [if_pos (by decide)]
      exact hF μ5 (fun c hc => by
        simp only [List.mem_cons, List.not_mem_nil, or_false, not_or] at hc
        rw [an_w_c e5 (by omega), an_w_c e4 (by omega), u3 c (by simp; omega), u2 c (by simp; omega), an_w_c e1 (by omega)]) (an_RL_w R5 (z 0 (by omega)) (z 1 (by omega)) (fun k f _ _ => z _ (by omega)) (fun j _ _ => z j (by omega))) 
    · have m2 : an_most 2 + 1 ≤ 2147483647 := by decide
      rw [if_neg (show ¬ W_lim w ls 2 h b x (w (3640 + 12 * k + 4)) ≤ 0 by rw [ef, ← nI_0]; exact nI_ge f0 (by omega))]
      intro μ6 e6
      have b5 : μ5 128 (h * 4 + b) = w (258 + 4 * h + b) := by
        refine ((an_RL_b R5).2.2 h b hh hb).trans ?_
        rw [pk_un (by omega), pk_un (by omega), pk_un (by omega)]
      rw [b5] at e6
      have R6 : an_RL 124 (W_at w k h b (W_lim w ls 2 h b x (w (3640 + 12 * k + 4))) (nI 2) (nI (an_R w b x))) μ6 := an_RL_fee R5 hh hb e6
      refine s_Ledger_changeT hh hb R6 (fun μ7 u7 R7 => ?_)
      exact hF μ7 (fun c hc => by
        simp only [List.mem_cons, List.not_mem_nil, or_false, not_or] at hc
        rw [u7 c (by simp; omega), an_w_c e6 (by omega), an_w_c e5 (by omega), an_w_c e4 (by omega), u3 c (by simp; omega), u2 c (by simp; omega), an_w_c e1 (by omega)]) (an_RL_w R7 (W_as_e hk hh hb (by omega)) (W_as_e hk hh hb (by omega)) (fun _ f _ _ => W_as_e hk hh hb (by omega)) (fun j _ _ => W_as_e hk hh hb (by omega)))
  · simp only [if_neg hp] at hF
    rw [if_neg hp]
    refine s_putT hk (by omega) (fun μ4 e4 => ?_)
    have R4 := an_RL_put R2 hk (by omega) e4
    refine s_Ledger_changeT hh hb R4 (fun μ7 u7 R7 => ?_)
    have z : ∀ j, ¬ j = 4 → W_as w k h b (nI 2) (- w (3640 + 12 * k + 4)) (nI 0) (nI 1) (nI 0) j = W_books (upd (upd w (3640 + 12 * k + 9) (w 0)) (3640 + 12 * k + 6) (nI 1)) h b (nI 2) (nI k) (- w (3640 + 12 * k + 4)) j := fun j hj => by
      rw [W_as_e hk hh hb hj, W_at_1 hk hh hb h7]
    exact hF μ7 (fun c hc => by
      simp only [List.mem_cons, List.not_mem_nil, or_false, not_or] at hc
      rw [u7 c (by simp; omega), an_w_c e4 (by omega), u2 c (by simp; omega), an_w_c e1 (by omega)]) (an_RL_w R7 (z 0 (by omega)) (z 1 (by omega)) (fun k f _ _ => z _ (by omega)) (fun j _ _ => z j (by omega)))
