/-! cash. -/
variable {nb : Nat}
theorem an_sum_upd {f g : Nat → Int32} {i : Nat} {v : Int32} (h1 : g i = f i + v) (N : Nat) (h2 : ∀ j, j < N → j ≠ i → g j = f j) : ∀ n, n ≤ N → am_sum g n = if i < n then am_sum f n + v else am_sum f n := by
  intro n
  induction n with
  | zero => intro _; rfl
  | succ n ih =>
    intro hn
    rw [am_sum, am_sum, ih (by omega)]
    by_cases q : i < n
    · rw [if_pos q, if_pos (by omega), h2 n (by omega) (by omega), Int32.add_assoc, Int32.add_comm v, ← Int32.add_assoc]
    · rw [if_neg q]
      by_cases q2 : i = n
      · rw [if_pos (by omega), ← q2, h1, Int32.add_assoc]
      · rw [if_neg (by omega), h2 n (by omega) (fun z => q2 z.symm)]
def W_cash (w : an_W) (h b : Nat) (v : Int32) : an_W := upd (upd (W_books w h b (nI 0) (- nI 1) v) (234 + 4 * h + b) (w (234 + 4 * h + b) + v)) 5 (w 5 + v)
theorem W_cash_o {w : an_W} {h b j : Nat} {v : Int32} (hj : j < 9810) (h1 : j ≠ 5) (h2 : j ≠ 234 + 4 * h + b) (h3 : j ≠ 210 + 4 * h + b) : W_cash w h b v j = w j := by
  unfold W_cash
  rw [pk_un h1, pk_un h2, W_books_o hj h3]
theorem s_cash_x {L d : Nat} {μ : am_M} {F : am_M → Prop} {w : an_W} {h b : Nat} {v : Int32} (hd : 3 ≤ d) (hh : h < 6) (hb : b < 4) (hv : ¬ v = 0) (hR : an_RL 58 w μ) (hRE : an_RE 56 w μ) (hE : an_N (w 9810) 901)
    (hF : ∀ μ', an_un [56, 57, 60, 61] μ μ' → an_RL 58 (W_cash w h b v) μ' → an_RE 56 (W_cash w h b v) μ' → F μ') : am_gd (am_inb ((nI h * (nI 4)) + nI b) 24) (am_gd (am_inb ((nI h * (nI 4)) + nI b) 24) (am_put (am_w μ 61 (((nI h * (nI 4)) + nI b).toNatClampNeg) ((μ 61 ((nI h * (nI 4)) + nI b).toNatClampNeg) + v)) (fun μ3 => 0 < d ∧ am_Cv L (d - 1) 22 [.ref 58, .int (nI h), .int (nI b), .int (nI 0), .int (- nI 1), .int v] μ3 (fun μ4 => F μ4)))) := by
  have hc := (an_RL_b hR).2.1 h b hh hb
  rw [pk_mul, nI_add, am_gd_in (by omega) (by omega), am_gd_in (by omega) (by omega), am_cl (by omega)]
  have hc : μ 61 (h * 4 + b) = w (234 + 4 * h + b) := hc
  rw [hc]
  intro μ3 e3
  have y3 : ∀ c, c ≠ 61 → μ3 c = μ c := fun c q => an_w_c e3 q
  have z3 : μ3 61 = upd (μ 61) (h * 4 + b) (w (234 + 4 * h + b) + v) := by rw [e3, am_w_at]
  obtain ⟨g1, g2, g3, g4, g5, g6⟩ := id hR
  have hRs : an_RL 58 (upd w (234 + 4 * h + b) (w (234 + 4 * h + b) + v)) μ3 := by
    refine ⟨?_, ?_, fun k f hk hf => ?_, fun i hi => ?_, fun i hi => ?_, fun i hi => ?_⟩
    · rw [y3 58 (by decide), pk_un (by omega)]; exact g1
    · rw [y3 58 (by decide), pk_un (by omega)]; exact g2
    · rw [y3 _ (by decide), pk_un (by omega)]; exact g3 k f hk hf
    · rw [y3 _ (by decide), pk_un (by omega)]; exact g4 i hi
    · show μ3 61 i = _
      rw [z3]
      by_cases q : i = h * 4 + b
      · rw [q, pk_us, show 234 + (h * 4 + b) = 234 + 4 * h + b by omega, pk_us]
      · rw [pk_un q, pk_un (by omega)]; exact g5 i hi
    · rw [y3 _ (by decide), pk_un (by omega)]; exact g6 i hi
  have hREs : an_RE 56 (upd w (234 + 4 * h + b) (w (234 + 4 * h + b) + v)) μ3 := by
    refine ⟨?_, fun i hi => ?_⟩
    · rw [y3 _ (by decide), pk_un (by omega)]; exact hRE.1
    · rw [y3 _ (by decide), pk_un (by omega)]; exact hRE.2 i hi
  refine ⟨by omega, s_Ledger_change (by omega) hh hb hRs hREs (by rw [pk_un (by omega)]; exact hE) hv (fun μ4 u4 gR gE => ?_)⟩
  rw [W_books_upd (by omega) (by omega) (by omega) hh hb] at gR gE
  refine hF μ4 (fun c hc => ?_) ?_ ?_
  · simp only [List.mem_cons, List.not_mem_nil, or_false, not_or] at hc
    rw [u4 c (by simp; omega), y3 c (by omega)]
  · exact an_k8_c (o := 0) gR (fun j hj => by unfold W_cash; rw [pk_un (by omega)]) (fun _ _ => rfl)
  · exact an_k10_c (o := 0) gE (fun j hj => by unfold W_cash; rw [pk_un (by omega)]) (fun _ _ => rfl)
theorem s_cash_m {L d : Nat} {μ : am_M} {F : am_M → Prop} {w : an_W} {h b : Nat} {v : Int32} (hd : 3 ≤ d) (hh : h < 6) (hb : b < 4) (hw : μ 141 = w) (hE : an_N (w 9810) 901)
    (hF : ∀ μ', an_un [141] μ μ' → μ' 141 = W_cash w h b v → F μ') : 0 < d ∧ am_Cv L (d - 1) 188 [.ref 140, .int (nI h), .int (nI b), .int (nI 0), .int (- nI 1), .int v] μ (fun μ3 => am_gd (am_inb (((nI 234) + ((nI 4) * nI h)) + nI b) 16120) (am_gd (am_inb (((nI 234) + ((nI 4) * nI h)) + nI b) 16120) (am_put (am_w μ3 141 ((((nI 234) + ((nI 4) * nI h)) + nI b).toNatClampNeg) ((μ3 141 (((nI 234) + ((nI 4) * nI h)) + nI b).toNatClampNeg) + v)) (fun μ4 => am_put (am_w μ4 141 5 ((μ4 141 5) + v)) (fun μ5 => F μ5))))) := by
  refine ⟨by omega, s_M_books hh hb hw hE (fun μ3 u3 w3 => ?_)⟩
  rw [pk_mul, nI_add, nI_add, am_gd_in (by omega) (by omega), am_gd_in (by omega) (by omega), am_cl (by omega), w3, W_books_o (by omega) (by omega)]
  intro μ4 e4
  have c4 : μ4 141 5 = w 5 := by rw [an_w_o e4 (by omega), w3, W_books_o (by omega) (by omega)]
  rw [c4]
  intro μ5 e5
  refine hF μ5 (fun c hc => ?_) ?_
  · have hc1 : c ≠ 141 := by simpa using hc
    rw [an_w_c e5 hc1, an_w_c e4 hc1, u3 c hc]
  · rw [e5, am_w_at, e4, am_w_at, w3]
    rfl
theorem an_cash_G {μ μ2 : am_M} {h b : Nat} {v : Int32} {ls : List Nat} (hG : an_G nb μ) (hh : h < 6) (hb : b < 4) (hvb : -((999999 : Nat) : Int) ≤ v.toInt ∧ v.toInt ≤ ((999999 : Nat) : Int)) (hv : ∀ c, c ∈ ls → c = 64 ∨ c = 27 ∨ c = 34 ∨ c = 41 ∨ c = 48 ∨ c = 147 ∨ c = 148 ∨ c = 56 ∨ c = 57 ∨ c = 60 ∨ c = 61 ∨ c = 141) (u : an_un ls μ μ2) (w2 : μ2 141 = W_cash (μ 141) h b v) (gR : an_RL 58 (W_cash (μ 141) h b v) μ2) (gE : an_RE 56 (W_cash (μ 141) h b v) μ2) : an_G (nb + 1) μ2 := by
  have hS := hG.1
  generalize hw : μ 141 = w at hS
  obtain ⟨h1, h2, h3, h4, h5, h6, h7, h8, h9, h10, h11, h12, h13, h14, h15⟩ := id hS
  obtain ⟨hD, hN, hP, hKt, hE⟩ := id h1
  obtain ⟨eN, lN⟩ := an_cnt_e hN
  have hL : an_RL 58 w μ := h8
  have hC : an_RC 15 w μ := h9.1
  obtain ⟨D, lD, eD⟩ := hD
  rw [hw] at w2 gR gE
  have v12 : ∀ c, c ≠ 64 → c ≠ 27 → c ≠ 34 → c ≠ 41 → c ≠ 48 → c ≠ 147 → c ≠ 148 → c ≠ 56 → c ≠ 57 → c ≠ 60 → c ≠ 61 → c ≠ 141 → μ2 c = μ c := fun c _ _ _ _ _ _ _ _ _ _ _ _ => u c (fun z => by have := hv c z; omega)
  have k12 : ∀ c, c < 27 ∨ (c ≥ 69 ∧ c ≤ 140) ∨ (c ≥ 142 ∧ c ≤ 146) → μ2 c = μ c := fun c hc => v12 c (by omega) (by omega) (by omega) (by omega) (by omega) (by omega) (by omega) (by omega) (by omega) (by omega) (by omega) (by omega)
  refine an_G_of1 hG ?_ ⟨fun c hc => k12 c (by have := hc.1; have := hc.2.1; omega), k12 _ (by decide), k12 _ (by decide), k12 _ (by decide), k12 _ (by decide), fun f _ => by rw [k12 0 (by decide)], fun f _ => by rw [k12 140 (by decide)], by rw [k12 15 (by decide)]⟩
  rw [w2]
  refine ⟨?_, an_k2_c h2 (fun j hj => W_cash_o (by omega) (by omega) (by omega) (by omega)) (fun c hc => hc.elim), an_k3_c h3 (fun j hj => W_cash_o (by omega) (by omega) (by omega) (by omega)) (fun c hc => hc.elim), an_k4_c h4 (fun j hj => W_cash_o (by omega) (by omega) (by omega) (by omega)) (fun c hc => hc.elim), an_k5_c (an_S_k150 h1) h5 (fun j hj => W_cash_o (by omega) (by omega) (by omega) (by omega)) (fun c hc => hc.elim), an_k6_c h6 (fun j hj => W_cash_o (by omega) (by omega) (by omega) (by omega)) (fun c hc => hc.elim), ?_, gR, an_k9_c h9 (fun j hj => W_cash_o (by omega) (by omega) (by omega) (by omega)) (fun c hc => v12 c (by omega) (by omega) (by omega) (by omega) (by omega) (by omega) (by omega) (by omega) (by omega) (by omega) (by omega) (by omega)), gE, an_k11_c h11 (fun j hj => W_cash_o (by omega) (by omega) (by omega) (by omega)) (fun c hc => v12 c (by omega) (by omega) (by omega) (by omega) (by omega) (by omega) (by omega) (by omega) (by omega) (by omega) (by omega) (by omega)), an_k12_c h12 (fun j hj => W_cash_o (by omega) (by omega) (by omega) (by omega)) (fun c hc => v12 c (by omega) (by omega) (by omega) (by omega) (by omega) (by omega) (by omega) (by omega) (by omega) (by omega) (by omega) (by omega)), an_k13_c h13 (fun j hj => W_cash_o (by omega) (by omega) (by omega) (by omega)) (fun c hc => v12 c (by omega) (by omega) (by omega) (by omega) (by omega) (by omega) (by omega) (by omega) (by omega) (by omega) (by omega) (by omega)), an_k14_c h14 (fun j hj => W_cash_o (by omega) (by omega) (by omega) (by omega)) (fun c hc => v12 c (by omega) (by omega) (by omega) (by omega) (by omega) (by omega) (by omega) (by omega) (by omega) (by omega) (by omega) (by omega)), an_k15_c h15 (fun j hj => W_cash_o (by omega) (by omega) (by omega) (by omega)) (fun c hc => by obtain ⟨k, hk, q1, q2⟩ := hc; exact v12 c (by omega) (by omega) (by omega) (by omega) (by omega) (by omega) (by omega) (by omega) (by omega) (by omega) (by omega) (by omega))⟩
  · refine ⟨by rw [W_cash_o (by omega) (by omega) (by omega) (by omega)]; exact ⟨D, lD, eD⟩, by rw [W_cash_o (by omega) (by omega) (by omega) (by omega)]; exact hN, by rw [W_cash_o (by omega) (by omega) (by omega) (by omega)]; exact hP, by rw [W_cash_o (by omega) (by omega) (by omega) (by omega)]; exact hKt, ?_⟩
    unfold W_cash
    rw [pk_un (by omega), pk_un (by omega)]
    exact W_books_E hE hh hb
  · obtain ⟨⟨g1, g2⟩, g3⟩ := h7
    refine ⟨⟨?_, ?_⟩, ?_⟩
    · rw [an_sum_upd (f := fun i => w (234 + i)) (i := 4 * h + b) (v := v) ?_ 24 ?_ 24 (by omega), if_pos (by omega), ← g1]
      · unfold W_cash; rw [pk_us]
      · show W_cash w h b v (234 + (4 * h + b)) = w (234 + (4 * h + b)) + v
        rw [← Nat.add_assoc]
        unfold W_cash
        rw [pk_un (by omega), pk_us]
      · intro j hj2 hj
        exact W_cash_o (by omega) (by omega) (by omega) (by omega)
    · rw [W_cash_o (by omega) (by omega) (by omega) (by omega), g2]
      exact am_sum_congr 24 (fun k hk => (W_cash_o (by omega) (by omega) (by omega) (by omega)).symm)
    · refine an_bd_step (i0 := 4 * h + b) (v := v) (c := 999999) g3 (by omega) ?_ hvb (by omega) ?_ ?_
      · have e1 : an_cnt (W_cash w h b v) = an_cnt w := by unfold an_cnt; rw [W_cash_o (by omega) (by omega) (by omega) (by omega)]
        unfold an_bkl
        rw [e1, an_pot_c _ (fun k hk => W_cash_o (by omega) (by omega) (by omega) (by omega))]
        omega
      · rw [← Nat.add_assoc]
        unfold W_cash
        rw [pk_un (by omega), pk_un (by omega), W_books_s hh hb]
      · intro i hi q
        exact W_cash_o (by omega) (by omega) (by omega) (by omega)
