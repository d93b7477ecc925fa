/-! A morning: a list is asked for, the class. -/

theorem s_asks {L d : Nat} {F : Int32 → am_M → Prop} {ls : List an_Ln} {b D n : Nat} {ord : Int32} (hd : 10 ≤ d) (hb : b < 4) (hD9 : D < 200) (ho : an_okl false ls) (hn150 : n ≤ 150) : ∀ (s : List Nat) (i c : Nat) (μ : am_M) (w : an_W), an_ain w D → (∀ q ∈ s, q < an_cnt w ∧ w (3640 + 12 * q + 7) = 0 ∧ w (3640 + 12 * q + 1) = nI b) → s.Nodup → an_RL 58 w μ → an_RC 15 w μ → an_RE 56 w μ → n = i + s.length → (∀ j q, s[j]? = some q → μ 63 (i + j) = nI q) → an_scX false (21 + 7 * b) μ ls → (∀ μ', an_un [56, 57, 59, 60, 62, 64, 27, 34, 41, 48] μ μ' → an_RL 58 (W_asl ls b w s) μ' → an_RE 56 (W_asl ls b w s) μ' → am_Ji L d 24 38 [some (.ref 58), some (.int ord), some (.int (nI (c + an_asn ls b w s))), some (.int (nI (b + 1))), none, none] [] μ' F) → am_Ji L d 24 54 [some (.ref 58), some (.int ord), some (.int (nI c)), some (.int (nI b)), some (.int (nI n)), some (.int (nI i))] [] μ F := by
  intro s
  induction s with
  | nil =>
    intro i c μ w hA hq hn hR hC hRE hi hr hX h
    simp only [List.length_nil] at hi
    refine v_Ledger_morning_54 ?_
    rw [if_pos (nI_le (by omega) (by omega)), nI_add]
    exact h μ an_un_rf hR hRE
  | cons k t ih =>
    intro i c μ w hA hq hn hR hC hRE hi hr hX h
    simp only [List.length_cons] at hi
    obtain ⟨k1, k2, k3⟩ := hq k (List.mem_cons_self ..)
    obtain ⟨n1, n2⟩ := List.nodup_cons.mp hn
    obtain ⟨k150, cq⟩ := an_ain_q hA k1 hb k3
    obtain ⟨A1, ec⟩ := W_a1_ain (ls := ls) hA k1 hb k3
    have hA' := hA
    obtain ⟨hm, hN, hT, hdy, hE, hD, hs⟩ := hA'
    have m4 := (hm k k1).2.2.2.2.1
    refine v_Ledger_morning_54 ?_
    have r0 : μ 63 i = nI k := by have := hr 0 k rfl; simpa using this
    rw [if_neg (nI_ge (by omega) (by omega)), am_gd_in (by omega) (by omega), am_cl (by omega), r0, am_dp (by omega)]
    refine s_askFor (by omega) k150 cq hD hD9 hR hRE hE hC hN hT hdy ho hX m4 k2 (fun μ1 u1 R1 re1 => ?_)
    have nx : ∀ (y : Nat), y = an_sh w ls b k → am_Ji L d 24 54 [some (.ref 58), some (.int ord), some (.int (nI (c + y))), some (.int (nI b)), some (.int (nI n)), some (.int (nI (i + 1)))] [] μ1 F := fun y ey => by
      have C1 := an_RC_c hC (fun c q1 q2 => u1 c (by simp; omega))
      have C1' : an_RC 15 (W_a1 w ls b k) μ1 := ⟨fun i hi => by rw [W_a1_o hA k1 hb k3 (by omega) (by omega) (by omega) (by omega) (by omega) (by omega)]; exact C1.1 i hi, fun i hi => by rw [W_a1_o hA k1 hb k3 (by omega) (by omega) (by omega) (by omega) (by omega) (by omega)]; exact C1.2.1 i hi, fun i hi => by rw [W_a1_o hA k1 hb k3 (by omega) (by omega) (by omega) (by omega) (by omega) (by omega)]; exact C1.2.2 i hi⟩
      refine ih (i + 1) (c + y) μ1 (W_a1 w ls b k) A1 (fun q hq' => ?_) n2 R1 C1' re1 (by omega) (fun j q hj => ?_) (an_scX_c hX (fun c q1 q2 => u1 c (by simp; omega))) (fun μ' u' R' re' => ?_)
      · obtain ⟨z1, z2, z3⟩ := hq q (List.mem_cons_of_mem _ hq')
        have ne : ¬ q = k := fun z => n1 (z ▸ hq')
        have q150 := (an_cnt_e hN).2
        exact ⟨by rw [ec]; exact z1, by rw [W_a1_o hA k1 hb k3 (by omega) (by omega) (by omega) (by omega) (by omega) (by omega)]; exact z2, by rw [W_a1_o hA k1 hb k3 (by omega) (by omega) (by omega) (by omega) (by omega) (by omega)]; exact z3⟩
      · rw [u1 63 (by decide), show i + 1 + j = i + (j + 1) by omega]
        exact hr (j + 1) q (by simpa using hj)
      · have := h μ' (an_un_tr u1 u' (fun _ z => z) (fun _ z => z)) R' re'
        rw [show c + y + an_asn ls b (W_a1 w ls b k) t = c + an_asn ls b w (k :: t) by rw [an_asn, ← ey]; omega]
        exact this
    unfold an_sh at nx
    split
    · rename_i hp
      rw [if_neg (by decide), nI_add, nI_add]
      exact nx 1 (by rw [if_pos hp])
    · rename_i hp
      rw [if_pos (by decide), nI_add]
      exact nx 0 (by rw [if_neg hp])

theorem s_asksT {L d : Nat} {F : Int32 → am_M → Prop} {ls : List an_Ln} {b D n : Nat} {ord : Int32} (hd : 10 ≤ d) (hb : b < 4) (hD9 : D < 200) (ho : an_okl false ls) (hn150 : n ≤ 150) : ∀ (s : List Nat) (i c : Nat) (μ : am_M) (w : an_W), an_ain w D → (∀ q ∈ s, q < an_cnt w ∧ w (3640 + 12 * q + 7) = 0 ∧ w (3640 + 12 * q + 1) = nI b) → s.Nodup → an_RL 124 w μ → an_RC 15 w μ → n = i + s.length → (∀ j q, s[j]? = some q → μ 129 (i + j) = nI q) → an_scX false (21 + 7 * b) μ ls → (∀ μ', an_un [125, 126, 128, 130, 27, 34, 41, 48] μ μ' → an_RL 124 (W_asl ls b w s) μ' → am_Ji L d 24 38 [some (.ref 124), some (.int ord), some (.int (nI (c + an_asn ls b w s))), some (.int (nI (b + 1))), none, none] [] μ' F) → am_Ji L d 24 54 [some (.ref 124), some (.int ord), some (.int (nI c)), some (.int (nI b)), some (.int (nI n)), some (.int (nI i))] [] μ F := by
  intro s
  induction s with
  | nil =>
    intro i c μ w hA hq hn hR hC hi hr hX h
    simp only [List.length_nil] at hi
    refine v_Ledger_morningT_54 ?_
    rw [if_pos (nI_le (by omega) (by omega)), nI_add]
    exact h μ an_un_rf hR
  | cons k t ih =>
    intro i c μ w hA hq hn hR hC hi hr hX h
    simp only [List.length_cons] at hi
    obtain ⟨k1, k2, k3⟩ := hq k (List.mem_cons_self ..)
    obtain ⟨n1, n2⟩ := List.nodup_cons.mp hn
    obtain ⟨k150, cq⟩ := an_ain_q hA k1 hb k3
    obtain ⟨A1, ec⟩ := W_a1_ain (ls := ls) hA k1 hb k3
    have hA' := hA
    obtain ⟨hm, hN, hT, hdy, hE, hD, hs⟩ := hA'
    have m4 := (hm k k1).2.2.2.2.1
    refine v_Ledger_morningT_54 ?_
    have r0 : μ 129 i = nI k := by have := hr 0 k rfl; simpa using this
    rw [if_neg (nI_ge (by omega) (by omega)), am_gd_in (by omega) (by omega), am_cl (by omega), r0, am_dp (by omega)]
    refine s_askForT (by omega) k150 cq hD hD9 hR hC hN hT hdy ho hX m4 k2 (fun μ1 u1 R1 => ?_)
    have nx : ∀ (y : Nat), y = an_sh w ls b k → am_Ji L d 24 54 [some (.ref 124), some (.int ord), some (.int (nI (c + y))), some (.int (nI b)), some (.int (nI n)), some (.int (nI (i + 1)))] [] μ1 F := fun y ey => by
      have C1 := an_RC_c hC (fun c q1 q2 => u1 c (by simp; omega))
      have C1' : an_RC 15 (W_a1 w ls b k) μ1 := ⟨fun i hi => by rw [W_a1_o hA k1 hb k3 (by omega) (by omega) (by omega) (by omega) (by omega) (by omega)]; exact C1.1 i hi, fun i hi => by rw [W_a1_o hA k1 hb k3 (by omega) (by omega) (by omega) (by omega) (by omega) (by omega)]; exact C1.2.1 i hi, fun i hi => by rw [W_a1_o hA k1 hb k3 (by omega) (by omega) (by omega) (by omega) (by omega) (by omega)]; exact C1.2.2 i hi⟩
      refine ih (i + 1) (c + y) μ1 (W_a1 w ls b k) A1 (fun q hq' => ?_) n2 R1 C1' (by omega) (fun j q hj => ?_) (an_scX_c hX (fun c q1 q2 => u1 c (by simp; omega))) (fun μ' u' R' => ?_)
      · obtain ⟨z1, z2, z3⟩ := hq q (List.mem_cons_of_mem _ hq')
        have ne : ¬ q = k := fun z => n1 (z ▸ hq')
        have q150 := (an_cnt_e hN).2
        exact ⟨by rw [ec]; exact z1, by rw [W_a1_o hA k1 hb k3 (by omega) (by omega) (by omega) (by omega) (by omega) (by omega)]; exact z2, by rw [W_a1_o hA k1 hb k3 (by omega) (by omega) (by omega) (by omega) (by omega) (by omega)]; exact z3⟩
      · rw [u1 129 (by decide), show i + 1 + j = i + (j + 1) by omega]
        exact hr (j + 1) q (by simpa using hj)
      · have := h μ' (an_un_tr u1 u' (fun _ z => z) (fun _ z => z)) R'
        rw [show c + y + an_asn ls b (W_a1 w ls b k) t = c + an_asn ls b w (k :: t) by rw [an_asn, ← ey]; omega]
        exact this
    unfold an_sh at nx
    split
    · rename_i hp
      rw [if_neg (by decide), nI_add, nI_add]
      exact nx 1 (by rw [if_pos hp])
    · rename_i hp
      rw [if_pos (by decide), nI_add]
      exact nx 0 (by rw [if_neg hp])
