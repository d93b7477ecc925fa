/-! A morning: the banks in a row are asked. -/

theorem s_M_banks {L d : Nat} {F : Int32 → am_M → Prop} {lss : Nat → List an_Ln} {D : Nat} {ord : Int32} (hd : 10 ≤ d) (hD9 : D < 200) (ho : ∀ b, b < 4 → an_okl false (lss b)) : ∀ (n b c : Nat) (μ : am_M) (w : an_W), b + n = 4 → an_ain w D → an_old w → μ 141 = w → (∀ b, b < 4 → ∀ w', (∀ j, 5440 ≤ j → j < 9810 → w' j = w j) → an_scM w' b (lss b)) → (∀ μ', an_un [140, 141, 147, 148, 149] μ μ' → (∀ f, f ≠ 23 → μ' 140 f = μ 140 f) → μ' 141 = W_bks lss ord n b w → F (nI (c + an_bkn lss ord n b w)) μ') → am_Ji L d 207 170 [some (.ref 140), some (.int ord), some (.int (nI c)), some (.int (nI b)), none] [] μ F := by
  intro n
  induction n with
  | zero =>
    intro b c μ w hb hA hO hw hM h
    obtain rfl : b = 4 := by omega
    refine v_M_morning_170 ?_
    rw [if_pos (by decide)]
    exact h μ an_un_rf (fun _ _ => rfl) hw
  | succ n ih =>
    intro b c μ w hb hA hO hw hM h
    have lN := (an_cnt_e hA.2.1).2
    obtain ⟨z1, z2, z3⟩ := an_lis_q (w := w) (b := b) (ord := ord)
    refine v_M_morning_170 ?_
    rw [if_neg (nI_ge (by omega) (by omega)), am_dp (by omega)]
    refine s_M_gathersAsked (by omega) hw hA.2.1 hO (fun μ1 u1 h23 hl => ?_)
    have ll : (an_lis w b ord).length = (an_lst w b ord (an_cnt w)).length := List.length_reverse ..
    refine s_M_asks hd (by omega) hD9 (ho b (by omega)) (an_lis w b ord) 0 c μ1 w hA z1 z2 ((u1.1 141 (by decide)).trans hw) (by rw [h23, Nat.zero_add, ll]) (fun j q hj => by rw [Nat.zero_add]; exact an_nl_rev _ hl j q hj) (hM b (by omega)) (by omega) (fun μ2 u2 w2 => ?_)
    obtain ⟨r1, r2, r3, r4⟩ := W_asl_ain (ls := lss b) (b := b) (by omega) (an_lis w b ord) w hA hO z1 z2
    refine ih (b + 1) _ μ2 _ (by omega) r1 r2 w2 (fun b' hb' w' hw' => hM b' hb' w' (fun j q1 q2 => by rw [hw' j q1 q2, r4 j q2 (by omega) (by omega)])) (fun μ3 u3 v3 w3 => ?_)
    rw [Nat.add_assoc]
    exact h μ3 (an_un_tr (an_un_tr u1.1 u2 (m := [140, 141, 147, 148, 149]) (fun c hc => by simp at hc ⊢; omega) (fun c hc => by simp at hc ⊢; omega)) u3 (fun _ z => z) (fun _ z => z)) (fun f hf => by rw [v3 f hf, u2 140 (by decide), u1.2 f hf]) w3

theorem s_banks {L d : Nat} {F : Int32 → am_M → Prop} {lss : Nat → List an_Ln} {D : Nat} {ord : Int32} (hd : 10 ≤ d) (hD9 : D < 200) (ho : ∀ b, b < 4 → an_okl false (lss b)) : ∀ (n b c : Nat) (μ : am_M) (w : an_W), b + n = 4 → an_ain w D → an_old w → an_RL 58 w μ → an_RC 15 w μ → an_RE 56 w μ → (∀ b, b < 4 → an_scX false (21 + 7 * b) μ (lss b)) → (∀ μ', an_un [56, 57, 59, 60, 62, 63, 64, 27, 34, 41, 48] μ μ' → an_RL 58 (W_bks lss ord n b w) μ' → an_RE 56 (W_bks lss ord n b w) μ' → F (nI (c + an_bkn lss ord n b w)) μ') → am_Ji L d 24 38 [some (.ref 58), some (.int ord), some (.int (nI c)), some (.int (nI b)), none, none] [] μ F := by
  intro n
  induction n with
  | zero =>
    intro b c μ w hb hA hO hR hC hRE hX h
    obtain rfl : b = 4 := by omega
    refine v_Ledger_morning_38 ?_
    rw [if_pos (by decide)]
    exact h μ an_un_rf hR hRE
  | succ n ih =>
    intro b c μ w hb hA hO hR hC hRE hX h
    have lN := (an_cnt_e hA.2.1).2
    obtain ⟨z1, z2, z3⟩ := an_lis_q (w := w) (b := b) (ord := ord)
    refine v_Ledger_morning_38 ?_
    rw [if_neg (nI_ge (by omega) (by omega)), am_dp (by omega)]
    refine s_listAsked (by omega) hR hA.2.1 (fun μ1 u1 hl => ?_)
    have ll : (an_lis w b ord).length = (an_lst w b ord (an_cnt w)).length := List.length_reverse ..
    have R1 : an_RL 58 w μ1 := by
      obtain ⟨r1, r2, r3, r4, r5, r6⟩ := hR
      exact an_RL_c ⟨r1, r2, r3, r4, r5, r6⟩ (fun c q1 q2 => u1 c (by simp; omega))
    have C1 : an_RC 15 w μ1 := an_RC_c hC (fun c q1 q2 => u1 c (by simp; omega))
    refine s_asks hd (by omega) hD9 (ho b (by omega)) (n := (an_lst w b ord (an_cnt w)).length) (by omega) (an_lis w b ord) 0 c μ1 w hA z1 z2 R1 C1 (an_RE_c hRE (fun c q1 q2 => u1 c (by simp; omega))) (by omega) (fun j q hj => by rw [Nat.zero_add]; exact an_nl_rev _ hl j q hj) (an_scX_c (hX b (by omega)) (fun c q1 q2 => u1 c (by simp; omega))) (fun μ2 u2 R2 re2 => ?_)
    obtain ⟨r1, r2, r3, r4⟩ := W_asl_ain (ls := lss b) (b := b) (by omega) (an_lis w b ord) w hA hO z1 z2
    have C2 := an_RC_c C1 (fun c q1 q2 => u2 c (by simp; omega))
    have C2' : an_RC 15 (W_asl (lss b) b w (an_lis w b ord)) μ2 := ⟨fun i hi => by rw [r4 _ (by omega) (by omega) (by omega)]; exact C2.1 i hi, fun i hi => by rw [r4 _ (by omega) (by omega) (by omega)]; exact C2.2.1 i hi, fun i hi => by rw [r4 _ (by omega) (by omega) (by omega)]; exact C2.2.2 i hi⟩
    refine ih (b + 1) _ μ2 _ (by omega) r1 r2 R2 C2' re2 (fun b' hb' => an_scX_c (hX b' hb') (fun c q1 q2 => by rw [u2 c (by simp; omega), u1 c (by simp; omega)])) (fun μ3 u3 R3 re3 => ?_)
    rw [Nat.add_assoc]
    exact h μ3 (an_un_tr (an_un_tr u1 u2 (m := [56, 57, 59, 60, 62, 63, 64, 27, 34, 41, 48]) (fun c hc => by simp at hc ⊢; omega) (fun c hc => by simp at hc ⊢; omega)) u3 (fun _ z => z) (fun _ z => z)) R3 re3

theorem s_banksT {L d : Nat} {F : Int32 → am_M → Prop} {lss : Nat → List an_Ln} {D : Nat} {ord : Int32} (hd : 10 ≤ d) (hD9 : D < 200) (ho : ∀ b, b < 4 → an_okl false (lss b)) : ∀ (n b c : Nat) (μ : am_M) (w : an_W), b + n = 4 → an_ain w D → an_old w → an_RL 124 w μ → an_RC 15 w μ → (∀ b, b < 4 → an_scX false (21 + 7 * b) μ (lss b)) → (∀ μ', an_un [125, 126, 128, 129, 130, 27, 34, 41, 48] μ μ' → an_RL 124 (W_bks lss ord n b w) μ' → F (nI (c + an_bkn lss ord n b w)) μ') → am_Ji L d 24 38 [some (.ref 124), some (.int ord), some (.int (nI c)), some (.int (nI b)), none, none] [] μ F := by
  intro n
  induction n with
  | zero =>
    intro b c μ w hb hA hO hR hC hX h
    obtain rfl : b = 4 := by omega
    refine v_Ledger_morningT_38 ?_
    rw [if_pos (by decide)]
    exact h μ an_un_rf hR
  | succ n ih =>
    intro b c μ w hb hA hO hR hC hX h
    have lN := (an_cnt_e hA.2.1).2
    obtain ⟨z1, z2, z3⟩ := an_lis_q (w := w) (b := b) (ord := ord)
    refine v_Ledger_morningT_38 ?_
    rw [if_neg (nI_ge (by omega) (by omega)), am_dp (by omega)]
    refine s_listAskedT (by omega) hR hA.2.1 (fun μ1 u1 hl => ?_)
    have ll : (an_lis w b ord).length = (an_lst w b ord (an_cnt w)).length := List.length_reverse ..
    have R1 : an_RL 124 w μ1 := by
      obtain ⟨r1, r2, r3, r4, r5, r6⟩ := hR
      exact an_RL_c ⟨r1, r2, r3, r4, r5, r6⟩ (fun c q1 q2 => u1 c (by simp; omega))
    have C1 : an_RC 15 w μ1 := an_RC_c hC (fun c q1 q2 => u1 c (by simp; omega))
    refine s_asksT hd (by omega) hD9 (ho b (by omega)) (n := (an_lst w b ord (an_cnt w)).length) (by omega) (an_lis w b ord) 0 c μ1 w hA z1 z2 R1 C1 (by omega) (fun j q hj => by rw [Nat.zero_add]; exact an_nl_rev _ hl j q hj) (an_scX_c (hX b (by omega)) (fun c q1 q2 => u1 c (by simp; omega))) (fun μ2 u2 R2 => ?_)
    obtain ⟨r1, r2, r3, r4⟩ := W_asl_ain (ls := lss b) (b := b) (by omega) (an_lis w b ord) w hA hO z1 z2
    have C2 := an_RC_c C1 (fun c q1 q2 => u2 c (by simp; omega))
    have C2' : an_RC 15 (W_asl (lss b) b w (an_lis w b ord)) μ2 := ⟨fun i hi => by rw [r4 _ (by omega) (by omega) (by omega)]; exact C2.1 i hi, fun i hi => by rw [r4 _ (by omega) (by omega) (by omega)]; exact C2.2.1 i hi, fun i hi => by rw [r4 _ (by omega) (by omega) (by omega)]; exact C2.2.2 i hi⟩
    refine ih (b + 1) _ μ2 _ (by omega) r1 r2 R2 C2' (fun b' hb' => an_scX_c (hX b' hb') (fun c q1 q2 => by rw [u2 c (by simp; omega), u1 c (by simp; omega)])) (fun μ3 u3 R3 => ?_)
    rw [Nat.add_assoc]
    exact h μ3 (an_un_tr (an_un_tr u1 u2 (m := [125, 126, 128, 129, 130, 27, 34, 41, 48]) (fun c hc => by simp at hc ⊢; omega) (fun c hc => by simp at hc ⊢; omega)) u3 (fun _ z => z) (fun _ z => z)) R3
