/-! The law. -/
variable {nb : Nat}
theorem an_stop {L n : Nat} (hL : L ≤ 3072) (hn : n ≤ 600) : (nI (L + 1 - 1)) - (nI 6) < nI (6 * n) ↔ L < 6 * n + 6 := by
  rw [Nat.add_sub_cancel]
  by_cases h : 6 ≤ L
  · rw [pk_sub (by omega)]
    constructor
    · intro z
      rcases Nat.lt_or_ge L (6 * n + 6) with y | y
      · exact y
      · exact absurd z (nI_nlt (by omega) (by omega))
    · intro z
      exact nI_lt (by omega) (by omega)
  · refine ⟨fun _ => by omega, fun _ => Int32.lt_of_lt_of_le (b := 0) ?_ (nI_pos' (by omega))⟩
    rcases (by omega : L = 0 ∨ L = 1 ∨ L = 2 ∨ L = 3 ∨ L = 4 ∨ L = 5) with rfl | rfl | rfl | rfl | rfl | rfl
    all_goals decide
theorem am_lawJ {L : Nat} (hL : L ≤ 3072) : ∀ (m n : Nat) (μ : am_M), n + m = 513 → an_G n μ → am_Ji (L + 1) 60 0 18 [some (.ref 3000), some (.ref 0), some (.ref 140), some (.int (nI (6 * n)))] [] μ (fun x _ => x = 1) := by
  intro m
  induction m with
  | zero =>
    intro n μ hn hG
    refine v_law_18 ?_
    rw [if_pos ((an_stop hL (by omega)).mpr (by omega))]
    rfl
  | succ m ih =>
    intro n μ hn hG
    refine v_law_18 ?_
    by_cases hl : L < 6 * n + 6
    · rw [if_pos ((an_stop hL (by omega)).mpr hl)]
      rfl
    rw [if_neg (fun z => hl ((an_stop hL (by omega)).mp z)), am_gd_in (by omega) (by omega)]
    have nx : ∀ μ', an_G n μ' ∨ an_G (n + 1) μ' → am_Ji (L + 1) 60 0 1539 [some (.ref 3000), some (.ref 0), some (.ref 140), some (.int (nI (6 * n)))] [] μ' (fun x _ => x = 1) := by
      intro μ' g
      refine v_law_1539 ?_
      rw [nI_add, show 6 * n + 6 = 6 * (n + 1) by omega]
      exact ih (n + 1) μ' (by omega) (g.elim an_G_mo id)
    generalize hq : ((μ 3000 (nI (6 * n)).toNatClampNeg) &&& (nI 63)) = q
    clear hq
    by_cases q0 : q = nI 0
    · rw [if_pos q0]
      simp (discharger := omega) only [nI_add, am_gd_in, am_cl, Nat.add_sub_cancel]
      refine ⟨by simp, (am_Ci_fr (op_town (nb := n) (p1 := μ 3000 (6 * n + 1)) (p2 := μ 3000 (6 * n + 2)) (K := fun r1 r2 μ2 => if r1 = r2 then am_Ji (L + 1) 60 0 1539 [some (.ref 3000), some (.ref 0), some (.ref 140), some (.int (nI (6 * n)))] [] μ2 (fun x _ => x = 1) else (nI 0 : Int32) = 1) (by omega) hG (fun r μ' g => by rw [if_pos rfl]; exact nx μ' (Or.inl g)))).mono (fun r1 μ1 h => ?_)⟩
      obtain ⟨h1, h2⟩ := h
      rw [h1]
      exact ⟨by simp, h2⟩
    rw [if_neg q0]
    by_cases q1 : q = nI 1
    · rw [if_pos q1]
      simp (discharger := omega) only [nI_add, am_gd_in, am_cl, Nat.add_sub_cancel]
      refine ⟨by simp, (am_Ci_fr (op_rail (nb := n) (p1 := μ 3000 (6 * n + 1)) (p2 := μ 3000 (6 * n + 2)) (p3 := μ 3000 (6 * n + 3)) (K := fun r1 r2 μ2 => if r1 = r2 then am_Ji (L + 1) 60 0 1539 [some (.ref 3000), some (.ref 0), some (.ref 140), some (.int (nI (6 * n)))] [] μ2 (fun x _ => x = 1) else (nI 0 : Int32) = 1) (by omega) hG (fun r μ' g => by rw [if_pos rfl]; exact nx μ' (Or.inl g)))).mono (fun r1 μ1 h => ?_)⟩
      obtain ⟨h1, h2⟩ := h
      rw [h1]
      exact ⟨by simp, h2⟩
    rw [if_neg q1]
    by_cases q2 : q = nI 2
    · rw [if_pos q2]
      simp (discharger := omega) only [nI_add, am_gd_in, am_cl, Nat.add_sub_cancel]
      by_cases bz : μ 3000 (6 * n + 3) = 0
      · rw [if_pos bz]
        refine ⟨by simp, (am_Ci_fr (op_told (nb := n) (p1 := μ 3000 (6 * n + 1)) (p2 := μ 3000 (6 * n + 2)) (p3 := nI 0) (K := fun r1 r2 μ2 => if r1 = r2 then am_Ji (L + 1) 60 0 1539 [some (.ref 3000), some (.ref 0), some (.ref 140), some (.int (nI (6 * n)))] [] μ2 (fun x _ => x = 1) else (nI 0 : Int32) = 1) (by omega) hG (fun r μ' g => by rw [if_pos rfl]; exact nx μ' (Or.inl g)))).mono (fun r1 μ1 h => ?_)⟩
        obtain ⟨h1, h2⟩ := h
        rw [h1]
        rw [if_pos bz]
        exact ⟨by simp, h2⟩
      · rw [if_neg bz]
        refine ⟨by simp, (am_Ci_fr (op_told (nb := n) (p1 := μ 3000 (6 * n + 1)) (p2 := μ 3000 (6 * n + 2)) (p3 := nI 1) (K := fun r1 r2 μ2 => if r1 = r2 then am_Ji (L + 1) 60 0 1539 [some (.ref 3000), some (.ref 0), some (.ref 140), some (.int (nI (6 * n)))] [] μ2 (fun x _ => x = 1) else (nI 0 : Int32) = 1) (by omega) hG (fun r μ' g => by rw [if_pos rfl]; exact nx μ' (Or.inl g)))).mono (fun r1 μ1 h => ?_)⟩
        obtain ⟨h1, h2⟩ := h
        rw [h1]
        rw [if_neg bz]
        exact ⟨by simp, h2⟩
    rw [if_neg q2]
    by_cases q3 : q = nI 3
    · rw [if_pos q3]
      simp (discharger := omega) only [nI_add, am_gd_in, am_cl, Nat.add_sub_cancel]
      refine ⟨by simp, (am_Ci_fr (op_feed (nb := n) (p1 := μ 3000 (6 * n + 1)) (p2 := μ 3000 (6 * n + 2)) (p3 := μ 3000 (6 * n + 3)) (p4 := μ 3000 (6 * n + 4)) (p5 := μ 3000 (6 * n + 5)) (K := fun r1 r2 μ2 => if r1 = r2 then am_Ji (L + 1) 60 0 1539 [some (.ref 3000), some (.ref 0), some (.ref 140), some (.int (nI (6 * n)))] [] μ2 (fun x _ => x = 1) else (nI 0 : Int32) = 1) (by omega) hG (fun r μ' g => by rw [if_pos rfl]; exact nx μ' (Or.inl g)))).mono (fun r1 μ1 h => ?_)⟩
      obtain ⟨h1, h2⟩ := h
      rw [h1]
      exact ⟨by simp, h2⟩
    rw [if_neg q3]
    by_cases q4 : q = nI 4
    · rw [if_pos q4]
      simp (discharger := omega) only [nI_add, am_gd_in, am_cl, Nat.add_sub_cancel]
      refine ⟨by simp, (am_Ci_fr (op_end (nb := n) (p1 := μ 3000 (6 * n + 1)) (K := fun r1 r2 μ2 => if r1 = r2 then am_Ji (L + 1) 60 0 1539 [some (.ref 3000), some (.ref 0), some (.ref 140), some (.int (nI (6 * n)))] [] μ2 (fun x _ => x = 1) else (nI 0 : Int32) = 1) (by omega) hG (fun r μ' g => by rw [if_pos rfl]; exact nx μ' (Or.inl g)))).mono (fun r1 μ1 h => ?_)⟩
      obtain ⟨h1, h2⟩ := h
      rw [h1]
      exact ⟨by simp, h2⟩
    rw [if_neg q4]
    by_cases q5 : q = nI 5
    · rw [if_pos q5]
      simp (discharger := omega) only [nI_add, am_gd_in, am_cl, Nat.add_sub_cancel]
      refine ⟨by simp, (am_Ci_fr (op_text (nb := n) (p1 := μ 3000 (6 * n + 1)) (K := fun r1 r2 μ2 => if r1 = r2 then am_Ji (L + 1) 60 0 1539 [some (.ref 3000), some (.ref 0), some (.ref 140), some (.int (nI (6 * n)))] [] μ2 (fun x _ => x = 1) else (nI 0 : Int32) = 1) (by omega) hG (fun r μ' g => by rw [if_pos rfl]; exact nx μ' (Or.inl g)))).mono (fun r1 μ1 h => ?_)⟩
      obtain ⟨h1, h2⟩ := h
      rw [h1]
      exact ⟨by simp, h2⟩
    rw [if_neg q5]
    by_cases q6 : q = nI 6
    · rw [if_pos q6]
      simp (discharger := omega) only [nI_add, am_gd_in, am_cl, Nat.add_sub_cancel]
      refine ⟨by simp, (am_Ci_fr (op_fault (nb := n) (p1 := μ 3000 (6 * n + 1)) (K := fun r1 r2 μ2 => if r1 = r2 then am_Ji (L + 1) 60 0 1539 [some (.ref 3000), some (.ref 0), some (.ref 140), some (.int (nI (6 * n)))] [] μ2 (fun x _ => x = 1) else (nI 0 : Int32) = 1) (by omega) hG (fun r μ' g => by rw [if_pos rfl]; exact nx μ' (Or.inl g)))).mono (fun r1 μ1 h => ?_)⟩
      obtain ⟨h1, h2⟩ := h
      rw [h1]
      exact ⟨by simp, h2⟩
    rw [if_neg q6]
    by_cases q7 : q = nI 7
    · rw [if_pos q7]
      simp (discharger := omega) only [nI_add, am_gd_in, am_cl, Nat.add_sub_cancel]
      refine ⟨by simp, (am_Ci_fr (op_cash (nb := n) (p1 := μ 3000 (6 * n + 1)) (p2 := μ 3000 (6 * n + 2)) (p3 := μ 3000 (6 * n + 3)) (K := fun r1 r2 μ2 => if r1 = r2 then am_Ji (L + 1) 60 0 1539 [some (.ref 3000), some (.ref 0), some (.ref 140), some (.int (nI (6 * n)))] [] μ2 (fun x _ => x = 1) else (nI 0 : Int32) = 1) (by omega) hG (fun r μ' g => by rw [if_pos rfl]; exact nx μ' (Or.inr g)))).mono (fun r1 μ1 h => ?_)⟩
      obtain ⟨h1, h2⟩ := h
      rw [h1]
      exact ⟨by simp, h2⟩
    rw [if_neg q7]
    by_cases q8 : q = nI 8
    · rw [if_pos q8]
      simp (discharger := omega) only [nI_add, am_gd_in, am_cl, Nat.add_sub_cancel]
      refine ⟨by simp, (am_Ci_fr (op_pay (nb := n) (p1 := μ 3000 (6 * n + 1)) (p2 := μ 3000 (6 * n + 2)) (p3 := μ 3000 (6 * n + 3)) (p4 := μ 3000 (6 * n + 4)) (p5 := μ 3000 (6 * n + 5)) (K := fun r1 r2 μ2 => if r1 = r2 then am_Ji (L + 1) 60 0 1539 [some (.ref 3000), some (.ref 0), some (.ref 140), some (.int (nI (6 * n)))] [] μ2 (fun x _ => x = 1) else (nI 0 : Int32) = 1) (by omega) hG (fun r μ' g => by rw [if_pos rfl]; exact nx μ' (Or.inr g)))).mono (fun r1 μ1 h => ?_)⟩
      obtain ⟨h1, h2⟩ := h
      rw [h1]
      exact ⟨by simp, h2⟩
    rw [if_neg q8]
    by_cases q9 : q = nI 9
    · rw [if_pos q9]
      refine ⟨by simp, (am_Ci_fr (op_day (nb := n)  (K := fun r1 r2 μ2 => if r1 = r2 then am_Ji (L + 1) 60 0 1539 [some (.ref 3000), some (.ref 0), some (.ref 140), some (.int (nI (6 * n)))] [] μ2 (fun x _ => x = 1) else (nI 0 : Int32) = 1) (by omega) hG (fun r μ' g => by rw [if_pos rfl]; exact nx μ' (Or.inl g)))).mono (fun r1 μ1 h => ?_)⟩
      obtain ⟨h1, h2⟩ := h
      exact ⟨by simp, h2⟩
    rw [if_neg q9]
    by_cases q10 : q = nI 10
    · rw [if_pos q10]
      simp (discharger := omega) only [nI_add, am_gd_in, am_cl, Nat.add_sub_cancel]
      refine ⟨by simp, (am_Ci_fr (op_book (nb := n) (p1 := μ 3000 (6 * n + 1)) (p2 := μ 3000 (6 * n + 2)) (p3 := μ 3000 (6 * n + 3)) (K := fun r1 r2 μ2 => if r1 = r2 then am_Ji (L + 1) 60 0 1539 [some (.ref 3000), some (.ref 0), some (.ref 140), some (.int (nI (6 * n)))] [] μ2 (fun x _ => x = 1) else (nI 0 : Int32) = 1) (by omega) hG (fun r μ' g => by rw [if_pos rfl]; exact nx μ' (Or.inl g)))).mono (fun r1 μ1 h => ?_)⟩
      obtain ⟨h1, h2⟩ := h
      rw [h1]
      exact ⟨by simp, h2⟩
    rw [if_neg q10]
    by_cases q11 : q = nI 11
    · rw [if_pos q11]
      simp (discharger := omega) only [nI_add, am_gd_in, am_cl, Nat.add_sub_cancel]
      refine ⟨by simp, (am_Ci_fr (op_cheque (nb := n) (p1 := μ 3000 (6 * n + 1)) (p2 := μ 3000 (6 * n + 2)) (K := fun r1 r2 μ2 => if r1 = r2 then am_Ji (L + 1) 60 0 1539 [some (.ref 3000), some (.ref 0), some (.ref 140), some (.int (nI (6 * n)))] [] μ2 (fun x _ => x = 1) else (nI 0 : Int32) = 1) (by omega) hG (fun r μ' g => by rw [if_pos rfl]; exact nx μ' (Or.inl g)))).mono (fun r1 μ1 h => ?_)⟩
      obtain ⟨h1, h2⟩ := h
      rw [h1]
      exact ⟨by simp, h2⟩
    rw [if_neg q11]
    by_cases q12 : q = nI 12
    · rw [if_pos q12]
      simp (discharger := omega) only [nI_add, am_gd_in, am_cl, Nat.add_sub_cancel]
      refine ⟨by simp, (am_Ci_fr (op_really (nb := n) (p1 := μ 3000 (6 * n + 1)) (p2 := μ 3000 (6 * n + 2)) (K := fun r1 r2 μ2 => if r1 = r2 then am_Ji (L + 1) 60 0 1539 [some (.ref 3000), some (.ref 0), some (.ref 140), some (.int (nI (6 * n)))] [] μ2 (fun x _ => x = 1) else (nI 0 : Int32) = 1) (by omega) hG (fun r μ' g => by rw [if_pos rfl]; exact nx μ' (Or.inl g)))).mono (fun r1 μ1 h => ?_)⟩
      obtain ⟨h1, h2⟩ := h
      rw [h1]
      exact ⟨by simp, h2⟩
    rw [if_neg q12]
    by_cases q13 : q = nI 13
    · rw [if_pos q13]
      simp (discharger := omega) only [nI_add, am_gd_in, am_cl, Nat.add_sub_cancel]
      refine ⟨by simp, (am_Ci_fr (op_kept (nb := n) (p1 := μ 3000 (6 * n + 1)) (p2 := μ 3000 (6 * n + 2)) (p3 := μ 3000 (6 * n + 3)) (K := fun r1 r2 μ2 => if r1 = r2 then am_Ji (L + 1) 60 0 1539 [some (.ref 3000), some (.ref 0), some (.ref 140), some (.int (nI (6 * n)))] [] μ2 (fun x _ => x = 1) else (nI 0 : Int32) = 1) (by omega) hG (fun r μ' g => by rw [if_pos rfl]; exact nx μ' (Or.inl g)))).mono (fun r1 μ1 h => ?_)⟩
      obtain ⟨h1, h2⟩ := h
      rw [h1]
      exact ⟨by simp, h2⟩
    rw [if_neg q13]
    by_cases q14 : q = nI 14
    · rw [if_pos q14]
      simp (discharger := omega) only [nI_add, am_gd_in, am_cl, Nat.add_sub_cancel]
      refine ⟨by simp, (am_Ci_fr (op_sums (nb := n) (p1 := μ 3000 (6 * n + 1)) (K := fun r1 r2 μ2 => if r1 = r2 then am_Ji (L + 1) 60 0 1539 [some (.ref 3000), some (.ref 0), some (.ref 140), some (.int (nI (6 * n)))] [] μ2 (fun x _ => x = 1) else (nI 0 : Int32) = 1) (by omega) hG (fun r μ' g => by rw [if_pos rfl]; exact nx μ' (Or.inl g)))).mono (fun r1 μ1 h => ?_)⟩
      obtain ⟨h1, h2⟩ := h
      rw [h1]
      exact ⟨by simp, h2⟩
    rw [if_neg q14]
    by_cases q15 : q = nI 15
    · rw [if_pos q15]
      simp (discharger := omega) only [nI_add, am_gd_in, am_cl, Nat.add_sub_cancel]
      refine ⟨by simp, (am_Ci_fr (op_flight (nb := n) (p1 := μ 3000 (6 * n + 1)) (p2 := μ 3000 (6 * n + 2)) (p3 := μ 3000 (6 * n + 3)) (K := fun r1 r2 μ2 => if r1 = r2 then am_Ji (L + 1) 60 0 1539 [some (.ref 3000), some (.ref 0), some (.ref 140), some (.int (nI (6 * n)))] [] μ2 (fun x _ => x = 1) else (nI 0 : Int32) = 1) (by omega) hG (fun r μ' g => by rw [if_pos rfl]; exact nx μ' (Or.inl g)))).mono (fun r1 μ1 h => ?_)⟩
      obtain ⟨h1, h2⟩ := h
      rw [h1]
      exact ⟨by simp, h2⟩
    rw [if_neg q15]
    by_cases q16 : q = nI 16
    · rw [if_pos q16]
      simp (discharger := omega) only [nI_add, am_gd_in, am_cl, Nat.add_sub_cancel]
      refine ⟨by simp, (am_Ci_fr (op_ring (nb := n) (p1 := μ 3000 (6 * n + 1)) (p2 := μ 3000 (6 * n + 2)) (p3 := μ 3000 (6 * n + 3)) (p4 := μ 3000 (6 * n + 4)) (K := fun r1 r2 μ2 => if r1 = r2 then am_Ji (L + 1) 60 0 1539 [some (.ref 3000), some (.ref 0), some (.ref 140), some (.int (nI (6 * n)))] [] μ2 (fun x _ => x = 1) else (nI 0 : Int32) = 1) (by omega) hG (fun r μ' g => by rw [if_pos rfl]; exact nx μ' (Or.inl g)))).mono (fun r1 μ1 h => ?_)⟩
      obtain ⟨h1, h2⟩ := h
      rw [h1]
      exact ⟨by simp, h2⟩
    rw [if_neg q16]
    by_cases q17 : q = nI 17
    · rw [if_pos q17]
      simp (discharger := omega) only [nI_add, am_gd_in, am_cl, Nat.add_sub_cancel]
      refine ⟨by simp, (am_Ci_fr (op_letIn (nb := n) (p1 := μ 3000 (6 * n + 1)) (p2 := μ 3000 (6 * n + 2)) (p3 := μ 3000 (6 * n + 3)) (p4 := μ 3000 (6 * n + 4)) (K := fun r1 r2 μ2 => if r1 = r2 then am_Ji (L + 1) 60 0 1539 [some (.ref 3000), some (.ref 0), some (.ref 140), some (.int (nI (6 * n)))] [] μ2 (fun x _ => x = 1) else (nI 0 : Int32) = 1) (by omega) hG (fun r μ' g => by rw [if_pos rfl]; exact nx μ' (Or.inl g)))).mono (fun r1 μ1 h => ?_)⟩
      obtain ⟨h1, h2⟩ := h
      rw [h1]
      exact ⟨by simp, h2⟩
    rw [if_neg q17]
    by_cases q18 : q = nI 18
    · rw [if_pos q18]
      simp (discharger := omega) only [nI_add, am_gd_in, am_cl, Nat.add_sub_cancel]
      refine ⟨by simp, (am_Ci_fr (op_leastHold (nb := n) (p1 := μ 3000 (6 * n + 1)) (p2 := μ 3000 (6 * n + 2)) (p3 := μ 3000 (6 * n + 3)) (K := fun r1 r2 μ2 => if r1 = r2 then am_Ji (L + 1) 60 0 1539 [some (.ref 3000), some (.ref 0), some (.ref 140), some (.int (nI (6 * n)))] [] μ2 (fun x _ => x = 1) else (nI 0 : Int32) = 1) (by omega) hG (fun r μ' g => by rw [if_pos rfl]; exact nx μ' (Or.inl g)))).mono (fun r1 μ1 h => ?_)⟩
      obtain ⟨h1, h2⟩ := h
      rw [h1]
      exact ⟨by simp, h2⟩
    rw [if_neg q18]
    by_cases q19 : q = nI 19
    · rw [if_pos q19]
      simp (discharger := omega) only [nI_add, am_gd_in, am_cl, Nat.add_sub_cancel]
      refine ⟨by simp, (am_Ci_fr (op_chain (nb := n) (p1 := μ 3000 (6 * n + 1)) (p2 := μ 3000 (6 * n + 2)) (K := fun r1 r2 μ2 => if r1 = r2 then am_Ji (L + 1) 60 0 1539 [some (.ref 3000), some (.ref 0), some (.ref 140), some (.int (nI (6 * n)))] [] μ2 (fun x _ => x = 1) else (nI 0 : Int32) = 1) (by omega) hG (fun r μ' g => by rw [if_pos rfl]; exact nx μ' (Or.inl g)))).mono (fun r1 μ1 h => ?_)⟩
      obtain ⟨h1, h2⟩ := h
      rw [h1]
      exact ⟨by simp, h2⟩
    rw [if_neg q19]
    by_cases q20 : q = nI 20
    · rw [if_pos q20]
      simp (discharger := omega) only [nI_add, am_gd_in, am_cl, Nat.add_sub_cancel]
      refine ⟨by simp, (am_Ci_fr (op_entry (nb := n) (p1 := μ 3000 (6 * n + 1)) (p2 := μ 3000 (6 * n + 2)) (K := fun r1 r2 μ2 => if r1 = r2 then am_Ji (L + 1) 60 0 1539 [some (.ref 3000), some (.ref 0), some (.ref 140), some (.int (nI (6 * n)))] [] μ2 (fun x _ => x = 1) else (nI 0 : Int32) = 1) (by omega) hG (fun r μ' g => by rw [if_pos rfl]; exact nx μ' (Or.inl g)))).mono (fun r1 μ1 h => ?_)⟩
      obtain ⟨h1, h2⟩ := h
      rw [h1]
      exact ⟨by simp, h2⟩
    rw [if_neg q20]
    by_cases q21 : q = nI 21
    · rw [if_pos q21]
      simp (discharger := omega) only [nI_add, am_gd_in, am_cl, Nat.add_sub_cancel]
      refine ⟨by simp, (am_Ci_fr (op_growth (nb := n) (p1 := μ 3000 (6 * n + 1)) (p2 := μ 3000 (6 * n + 2)) (p3 := μ 3000 (6 * n + 3)) (K := fun r1 r2 μ2 => if r1 = r2 then am_Ji (L + 1) 60 0 1539 [some (.ref 3000), some (.ref 0), some (.ref 140), some (.int (nI (6 * n)))] [] μ2 (fun x _ => x = 1) else (nI 0 : Int32) = 1) (by omega) hG (fun r μ' g => by rw [if_pos rfl]; exact nx μ' (Or.inl g)))).mono (fun r1 μ1 h => ?_)⟩
      obtain ⟨h1, h2⟩ := h
      rw [h1]
      exact ⟨by simp, h2⟩
    rw [if_neg q21]
    by_cases q22 : q = nI 22
    · rw [if_pos q22]
      simp (discharger := omega) only [nI_add, am_gd_in, am_cl, Nat.add_sub_cancel]
      refine ⟨by simp, (am_Ci_fr (op_sign (nb := n) (p1 := μ 3000 (6 * n + 1)) (p2 := μ 3000 (6 * n + 2)) (p3 := μ 3000 (6 * n + 3)) (K := fun r1 r2 μ2 => if r1 = r2 then am_Ji (L + 1) 60 0 1539 [some (.ref 3000), some (.ref 0), some (.ref 140), some (.int (nI (6 * n)))] [] μ2 (fun x _ => x = 1) else (nI 0 : Int32) = 1) (by omega) hG (fun r μ' g => by rw [if_pos rfl]; exact nx μ' (Or.inl g)))).mono (fun r1 μ1 h => ?_)⟩
      obtain ⟨h1, h2⟩ := h
      rw [h1]
      exact ⟨by simp, h2⟩
    rw [if_neg q22]
    by_cases q23 : q = nI 23
    · rw [if_pos q23]
      simp (discharger := omega) only [nI_add, am_gd_in, am_cl, Nat.add_sub_cancel]
      refine ⟨by simp, (am_Ci_fr (op_kiters (nb := n) (p1 := μ 3000 (6 * n + 1)) (K := fun r1 r2 μ2 => if r1 = r2 then am_Ji (L + 1) 60 0 1539 [some (.ref 3000), some (.ref 0), some (.ref 140), some (.int (nI (6 * n)))] [] μ2 (fun x _ => x = 1) else (nI 0 : Int32) = 1) (by omega) hG (fun r μ' g => by rw [if_pos rfl]; exact nx μ' (Or.inl g)))).mono (fun r1 μ1 h => ?_)⟩
      obtain ⟨h1, h2⟩ := h
      rw [h1]
      exact ⟨by simp, h2⟩
    rw [if_neg q23]
    by_cases q24 : q = nI 24
    · rw [if_pos q24]
      simp (discharger := omega) only [nI_add, am_gd_in, am_cl, Nat.add_sub_cancel]
      refine ⟨by simp, (am_Ci_fr (op_cries (nb := n) (p1 := μ 3000 (6 * n + 1)) (p2 := μ 3000 (6 * n + 2)) (K := fun r1 r2 μ2 => if r1 = r2 then am_Ji (L + 1) 60 0 1539 [some (.ref 3000), some (.ref 0), some (.ref 140), some (.int (nI (6 * n)))] [] μ2 (fun x _ => x = 1) else (nI 0 : Int32) = 1) (by omega) hG (fun r μ' g => by rw [if_pos rfl]; exact nx μ' (Or.inl g)))).mono (fun r1 μ1 h => ?_)⟩
      obtain ⟨h1, h2⟩ := h
      rw [h1]
      exact ⟨by simp, h2⟩
    rw [if_neg q24]
    by_cases q25 : q = nI 25
    · rw [if_pos q25]
      simp (discharger := omega) only [nI_add, am_gd_in, am_cl, Nat.add_sub_cancel]
      refine ⟨by simp, (am_Ci_fr (op_like (nb := n) (p1 := μ 3000 (6 * n + 1)) (p2 := μ 3000 (6 * n + 2)) (p3 := μ 3000 (6 * n + 3)) (K := fun r1 r2 μ2 => if r1 = r2 then am_Ji (L + 1) 60 0 1539 [some (.ref 3000), some (.ref 0), some (.ref 140), some (.int (nI (6 * n)))] [] μ2 (fun x _ => x = 1) else (nI 0 : Int32) = 1) (by omega) hG (fun r μ' g => by rw [if_pos rfl]; exact nx μ' (Or.inl g)))).mono (fun r1 μ1 h => ?_)⟩
      obtain ⟨h1, h2⟩ := h
      rw [h1]
      exact ⟨by simp, h2⟩
    rw [if_neg q25]
    by_cases q26 : q = nI 26
    · rw [if_pos q26]
      simp (discharger := omega) only [nI_add, am_gd_in, am_cl, Nat.add_sub_cancel]
      refine ⟨by simp, (am_Ci_fr (op_alone (nb := n) (p1 := μ 3000 (6 * n + 1)) (p2 := μ 3000 (6 * n + 2)) (K := fun r1 r2 μ2 => if r1 = r2 then am_Ji (L + 1) 60 0 1539 [some (.ref 3000), some (.ref 0), some (.ref 140), some (.int (nI (6 * n)))] [] μ2 (fun x _ => x = 1) else (nI 0 : Int32) = 1) (by omega) hG (fun r μ' g => by rw [if_pos rfl]; exact nx μ' (Or.inl g)))).mono (fun r1 μ1 h => ?_)⟩
      obtain ⟨h1, h2⟩ := h
      rw [h1]
      exact ⟨by simp, h2⟩
    rw [if_neg q26]
    by_cases q27 : q = nI 27
    · rw [if_pos q27]
      simp (discharger := omega) only [nI_add, am_gd_in, am_cl, Nat.add_sub_cancel]
      refine ⟨by simp, (am_Ci_fr (op_ending (nb := n) (p1 := μ 3000 (6 * n + 1)) (p2 := μ 3000 (6 * n + 2)) (K := fun r1 r2 μ2 => if r1 = r2 then am_Ji (L + 1) 60 0 1539 [some (.ref 3000), some (.ref 0), some (.ref 140), some (.int (nI (6 * n)))] [] μ2 (fun x _ => x = 1) else (nI 0 : Int32) = 1) (by omega) (by omega) hG (fun r μ' g => by rw [if_pos rfl]; exact nx μ' (Or.inl g)))).mono (fun r1 μ1 h => ?_)⟩
      obtain ⟨h1, h2⟩ := h
      rw [h1]
      exact ⟨by simp, h2⟩
    rw [if_neg q27]
    by_cases q28 : q = nI 28
    · rw [if_pos q28]
      refine ⟨by simp, (am_Ci_fr (op_snowed (nb := n)  (K := fun r1 r2 μ2 => if r1 = r2 then am_Ji (L + 1) 60 0 1539 [some (.ref 3000), some (.ref 0), some (.ref 140), some (.int (nI (6 * n)))] [] μ2 (fun x _ => x = 1) else (nI 0 : Int32) = 1) (by omega) (by omega) hG (fun r μ' g => by rw [if_pos rfl]; exact nx μ' (Or.inl g)))).mono (fun r1 μ1 h => ?_)⟩
      obtain ⟨h1, h2⟩ := h
      exact ⟨by simp, h2⟩
    rw [if_neg q28]
    by_cases q29 : q = nI 29
    · rw [if_pos q29]
      simp (discharger := omega) only [nI_add, am_gd_in, am_cl, Nat.add_sub_cancel]
      refine ⟨by simp, (am_Ci_fr (op_payment (nb := n) (p1 := μ 3000 (6 * n + 1)) (p2 := μ 3000 (6 * n + 2)) (K := fun r1 r2 μ2 => if r1 = r2 then am_Ji (L + 1) 60 0 1539 [some (.ref 3000), some (.ref 0), some (.ref 140), some (.int (nI (6 * n)))] [] μ2 (fun x _ => x = 1) else (nI 0 : Int32) = 1) (by omega) hG (fun r μ' g => by rw [if_pos rfl]; exact nx μ' (Or.inl g)))).mono (fun r1 μ1 h => ?_)⟩
      obtain ⟨h1, h2⟩ := h
      rw [h1]
      exact ⟨by simp, h2⟩
    rw [if_neg q29]
    by_cases q30 : q = nI 30
    · rw [if_pos q30]
      simp (discharger := omega) only [nI_add, am_gd_in, am_cl, Nat.add_sub_cancel]
      refine ⟨by simp, (am_Ci_fr (op_payFloat (nb := n) (p1 := μ 3000 (6 * n + 1)) (p2 := μ 3000 (6 * n + 2)) (K := fun r1 r2 μ2 => if r1 = r2 then am_Ji (L + 1) 60 0 1539 [some (.ref 3000), some (.ref 0), some (.ref 140), some (.int (nI (6 * n)))] [] μ2 (fun x _ => x = 1) else (nI 0 : Int32) = 1) (by omega) hG (fun r μ' g => by rw [if_pos rfl]; exact nx μ' (Or.inl g)))).mono (fun r1 μ1 h => ?_)⟩
      obtain ⟨h1, h2⟩ := h
      rw [h1]
      exact ⟨by simp, h2⟩
    rw [if_neg q30]
    by_cases q31 : q = nI 31
    · rw [if_pos q31]
      simp (discharger := omega) only [nI_add, am_gd_in, am_cl, Nat.add_sub_cancel]
      refine ⟨by simp, (am_Ci_fr (op_room (nb := n) (p1 := μ 3000 (6 * n + 1)) (p2 := μ 3000 (6 * n + 2)) (K := fun r1 r2 μ2 => if r1 = r2 then am_Ji (L + 1) 60 0 1539 [some (.ref 3000), some (.ref 0), some (.ref 140), some (.int (nI (6 * n)))] [] μ2 (fun x _ => x = 1) else (nI 0 : Int32) = 1) (by omega) hG (fun r μ' g => by rw [if_pos rfl]; exact nx μ' (Or.inl g)))).mono (fun r1 μ1 h => ?_)⟩
      obtain ⟨h1, h2⟩ := h
      rw [h1]
      exact ⟨by simp, h2⟩
    rw [if_neg q31]
    by_cases q32 : q = nI 32
    · rw [if_pos q32]
      simp (discharger := omega) only [nI_add, am_gd_in, am_cl, Nat.add_sub_cancel]
      refine ⟨by simp, (am_Ci_fr (op_seen (nb := n) (p1 := μ 3000 (6 * n + 1)) (K := fun r1 r2 μ2 => if r1 = r2 then am_Ji (L + 1) 60 0 1539 [some (.ref 3000), some (.ref 0), some (.ref 140), some (.int (nI (6 * n)))] [] μ2 (fun x _ => x = 1) else (nI 0 : Int32) = 1) (by omega) hG (fun r μ' g => by rw [if_pos rfl]; exact nx μ' (Or.inl g)))).mono (fun r1 μ1 h => ?_)⟩
      obtain ⟨h1, h2⟩ := h
      rw [h1]
      exact ⟨by simp, h2⟩
    rw [if_neg q32]
    by_cases q33 : q = nI 33
    · rw [if_pos q33]
      simp (discharger := omega) only [nI_add, am_gd_in, am_cl, Nat.add_sub_cancel]
      refine ⟨by simp, (am_Ci_fr (op_burnt (nb := n) (p1 := μ 3000 (6 * n + 1)) (p2 := μ 3000 (6 * n + 2)) (p3 := μ 3000 (6 * n + 3)) (p4 := μ 3000 (6 * n + 4)) (K := fun r1 r2 μ2 => if r1 = r2 then am_Ji (L + 1) 60 0 1539 [some (.ref 3000), some (.ref 0), some (.ref 140), some (.int (nI (6 * n)))] [] μ2 (fun x _ => x = 1) else (nI 0 : Int32) = 1) (by omega) hG (fun r μ' g => by rw [if_pos rfl]; exact nx μ' (Or.inl g)))).mono (fun r1 μ1 h => ?_)⟩
      obtain ⟨h1, h2⟩ := h
      rw [h1]
      exact ⟨by simp, h2⟩
    rw [if_neg q33]
    by_cases q34 : q = nI 34
    · rw [if_pos q34]
      simp (discharger := omega) only [nI_add, am_gd_in, am_cl, Nat.add_sub_cancel]
      refine ⟨by simp, (am_Ci_fr (op_honest (nb := n) (p1 := μ 3000 (6 * n + 1)) (K := fun r1 r2 μ2 => if r1 = r2 then am_Ji (L + 1) 60 0 1539 [some (.ref 3000), some (.ref 0), some (.ref 140), some (.int (nI (6 * n)))] [] μ2 (fun x _ => x = 1) else (nI 0 : Int32) = 1) (by omega) hG (fun r μ' g => by rw [if_pos rfl]; exact nx μ' (Or.inl g)))).mono (fun r1 μ1 h => ?_)⟩
      obtain ⟨h1, h2⟩ := h
      rw [h1]
      exact ⟨by simp, h2⟩
    rw [if_neg q34]
    by_cases q35 : q = nI 35
    · rw [if_pos q35]
      simp (discharger := omega) only [nI_add, am_gd_in, am_cl, Nat.add_sub_cancel]
      by_cases bz : μ 3000 (6 * n + 1) = 0
      · rw [if_pos bz]
        refine ⟨by simp, (am_Ci_fr (op_image (nb := n) (p1 := nI 0) (K := fun r1 r2 μ2 => if r1 = r2 then am_Ji (L + 1) 60 0 1539 [some (.ref 3000), some (.ref 0), some (.ref 140), some (.int (nI (6 * n)))] [] μ2 (fun x _ => x = 1) else (nI 0 : Int32) = 1) (by omega) hG (fun r μ' g => by rw [if_pos rfl]; exact nx μ' (Or.inl g)))).mono (fun r1 μ1 h => ?_)⟩
        obtain ⟨h1, h2⟩ := h
        rw [h1]
        rw [if_pos bz]
        exact ⟨by simp, h2⟩
      · rw [if_neg bz]
        refine ⟨by simp, (am_Ci_fr (op_image (nb := n) (p1 := nI 1) (K := fun r1 r2 μ2 => if r1 = r2 then am_Ji (L + 1) 60 0 1539 [some (.ref 3000), some (.ref 0), some (.ref 140), some (.int (nI (6 * n)))] [] μ2 (fun x _ => x = 1) else (nI 0 : Int32) = 1) (by omega) hG (fun r μ' g => by rw [if_pos rfl]; exact nx μ' (Or.inl g)))).mono (fun r1 μ1 h => ?_)⟩
        obtain ⟨h1, h2⟩ := h
        rw [h1]
        rw [if_neg bz]
        exact ⟨by simp, h2⟩
    rw [if_neg q35]
    by_cases q36 : q = nI 36
    · rw [if_pos q36]
      simp (discharger := omega) only [nI_add, am_gd_in, am_cl, Nat.add_sub_cancel]
      refine ⟨by simp, (am_Ci_fr (op_look (nb := n) (p1 := μ 3000 (6 * n + 1)) (K := fun r1 r2 μ2 => if r1 = r2 then am_Ji (L + 1) 60 0 1539 [some (.ref 3000), some (.ref 0), some (.ref 140), some (.int (nI (6 * n)))] [] μ2 (fun x _ => x = 1) else (nI 0 : Int32) = 1) (by omega) hG (fun r μ' g => by rw [if_pos rfl]; exact nx μ' (Or.inl g)))).mono (fun r1 μ1 h => ?_)⟩
      obtain ⟨h1, h2⟩ := h
      rw [h1]
      exact ⟨by simp, h2⟩
    rw [if_neg q36]
    exact nx μ (Or.inl hG)
theorem am_law {L : Nat} {xs : Nat → Int32} (hL : L ≤ 3072) : am_Ji (L + 1) 60 0 18 [some (.ref 3000), some (.ref 0), some (.ref 140), some (.int (nI 0))] [] (am_m0 xs) (fun x _ => x = 1) := am_lawJ hL 513 0 _ rfl an_G_0
