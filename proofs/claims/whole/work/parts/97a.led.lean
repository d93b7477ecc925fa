/-! A morning: what stands behind it. -/
variable {nb : Nat}
theorem an_bd_c2 {w w' : an_W} (h : an_bd nb w) (h1 : w' 1 = w 1) (hb : ∀ j, 210 ≤ j → j < 234 → w' j = w j) (h6 : ∀ k, k < 150 → w' (3640 + 12 * k + 6) = w (3640 + 12 * k + 6)) : an_bd nb w' := by
  have e1 : an_cnt w' = an_cnt w := by unfold an_cnt; rw [h1]
  have e2 : an_bkl nb w' = an_bkl nb w := by
    unfold an_bkl
    rw [e1, an_pot_c _ (fun k hk => h6 k (by omega))]
  intro hn i hi
  rw [e2, hb _ (by omega) (by omega)]
  exact h hn i hi
theorem an_toI_neg {a : Nat} (h : a < 2147483648) : (- nI a).toInt = - (a : Int) := by
  rw [an_neg_toInt, nI_toInt h]
  intro q
  have := nI_pos h
  rw [q] at this
  exact this (by decide)
/-- fees, summed up -/
def an_fe (w : an_W) : Prop := w 4 = am_sum (fun i => w (258 + i)) 24
theorem an_fe_c {w w' : an_W} (h : an_fe w) (h4 : w' 4 = w 4) (hb : ∀ j, 258 ≤ j → j < 282 → w' j = w j) : an_fe w' := by
  unfold an_fe
  rw [h4, h]
  exact am_sum_congr 24 (fun k hk => (hb _ (by omega) (by omega)).symm)
def an_c9 (w : an_W) (T k : Nat) : Prop := an_N (w (3640 + 12 * k + 5)) T ∧ an_N (w (3640 + 12 * k + 8)) 21 ∧ (w (3640 + 12 * k + 9) = - nI 1 ∨ an_N (w (3640 + 12 * k + 9)) (T + 1)) ∧ (¬ w (3640 + 12 * k + 6) = nI 0 → an_N (w (3640 + 12 * k + 9)) (T + 1))
/-- a ledger between two mornings, on the day D; and within the morning of the day T -/
def an_led (nb : Nat) (w : an_W) (D : Nat) : Prop := w 0 = nI D ∧ an_N (w 1) 151 ∧ an_N (w 9810) 901 ∧ an_WT w ∧ (∀ a b, a < 3 → b < 3 → w (14 + 3 * a + b) = w (14 + 3 * b + a)) ∧ (∀ k, k < an_cnt w → an_chq w D k) ∧ an_fe w ∧ an_bd nb w
def an_mid (nb : Nat) (w : an_W) (T : Nat) : Prop := w 0 = nI T ∧ an_N (w 1) 151 ∧ an_N (w 9810) 901 ∧ an_WT w ∧ (∀ a b, a < 3 → b < 3 → w (14 + 3 * a + b) = w (14 + 3 * b + a)) ∧ an_mq w ∧ (∀ k, k < an_cnt w → an_c9 w T k) ∧ an_fe w ∧ an_bd nb w
/-- what a morning leaves -/
def an_fr (w w' : an_W) : Prop := ∀ j, j < 9810 → ¬ j = 4 → ¬ (210 ≤ j ∧ j < 234) → ¬ (258 ≤ j ∧ j < 282) → ¬ (3640 ≤ j ∧ j < 5440) → ¬ j = 0 → w' j = w j
theorem an_fr_rf {w : an_W} : an_fr w w := fun _ _ _ _ _ _ _ => rfl
theorem an_fr_tr {w w' w'' : an_W} (h : an_fr w w') (h' : an_fr w' w'') : an_fr w w'' := fun j a b c d e f => (h' j a b c d e f).trans (h j a b c d e f)
theorem an_N_mo {x : Int32} {n m : Nat} (h : an_N x n) (hm : n ≤ m) : an_N x m := by
  obtain ⟨k, hk, e⟩ := h
  exact ⟨k, by omega, e⟩
theorem an_mid_c {w w' : an_W} {T : Nat} (h : an_mid nb w T) (hf : an_fr w w') (h0 : w' 0 = w 0) (hE : an_N (w' 9810) 901) (hm : an_mq w') (h9 : ∀ k, k < an_cnt w' → an_c9 w' T k) (hfe : an_fe w') (hb : an_bd nb w') : an_mid nb w' T := by
  obtain ⟨g0, gN, gE, gT, gs, gm, g9, gf, gb⟩ := h
  refine ⟨h0.trans g0, ?_, hE, ⟨fun i hi => ?_, fun i hi => ?_⟩, fun a b ha hb => ?_, hm, h9, hfe, hb⟩
  · rw [hf 1 (by omega) (by omega) (by omega) (by omega) (by omega) (by omega)]; exact gN
  · rw [hf (10 + i) (by omega) (by omega) (by omega) (by omega) (by omega) (by omega)]; exact gT.1 i hi
  · rw [hf (14 + i) (by omega) (by omega) (by omega) (by omega) (by omega) (by omega)]; exact gT.2 i hi
  · rw [hf (14 + 3 * a + b) (by omega) (by omega) (by omega) (by omega) (by omega) (by omega), hf (14 + 3 * b + a) (by omega) (by omega) (by omega) (by omega) (by omega) (by omega)]; exact gs a b ha hb
theorem an_mid_ride1 {w : an_W} {T k : Nat} (h : an_mid nb w T) (hk : k < an_cnt w) : an_mid nb (an_ride1 w k) T ∧ an_fr w (an_ride1 w k) ∧ an_cnt (an_ride1 w k) = an_cnt w := by
  obtain ⟨h0, hN, hE, hT, hs, hm, h9, hf, hb⟩ := id h
  have lN := (an_cnt_e hN).2
  have o : ∀ j, j ≠ 3640 + 12 * k + 7 → an_ride1 w k j = w j := fun j q => an_ride1_o q
  have hc : an_cnt (an_ride1 w k) = an_cnt w := by unfold an_cnt; rw [o 1 (by omega)]
  have fr : an_fr w (an_ride1 w k) := fun j _ _ _ _ q _ => o j (by omega)
  refine ⟨an_mid_c h fr (o 0 (by omega)) (by rw [o 9810 (by omega)]; exact hE) (an_ride1_mq hm lN hk) (fun i hi => ?_) (an_fe_c hf (o 4 (by omega)) (fun j _ _ => o j (by omega))) (an_bd_c2 hb (o 1 (by omega)) (fun j _ _ => o j (by omega)) (fun i hi => o _ (by omega))), fr, hc⟩
  rw [hc] at hi
  unfold an_c9
  rw [o (3640 + 12 * i + 5) (by omega), o (3640 + 12 * i + 8) (by omega), o (3640 + 12 * i + 9) (by omega), o (3640 + 12 * i + 6) (by omega)]
  exact h9 i hi
theorem an_mid_ride {w : an_W} {T : Nat} (h : an_mid nb w T) : ∀ n, n ≤ an_cnt w → an_mid nb (an_ride w n) T ∧ an_fr w (an_ride w n) ∧ an_cnt (an_ride w n) = an_cnt w := by
  intro n
  induction n with
  | zero => intro _; exact ⟨h, an_fr_rf, rfl⟩
  | succ n ih =>
    intro hn
    obtain ⟨r1, r2, r3⟩ := ih (by omega)
    obtain ⟨s1, s2, s3⟩ := an_mid_ride1 r1 (k := n) (by omega)
    exact ⟨s1, an_fr_tr r2 s2, s3.trans r3⟩
theorem an_mid_cb1 {w : an_W} {T k : Nat} (h : an_mid nb w T) (hk : k < an_cnt w) : an_mid nb (an_cb1 w k) T ∧ an_fr w (an_cb1 w k) ∧ an_cnt (an_cb1 w k) = an_cnt w := by
  obtain ⟨h0, hN, hE, hT, hs, hm, h9, hf, hb⟩ := id h
  have lN := (an_cnt_e hN).2
  by_cases z : w (3640 + 12 * k + 6) = nI 2 ∧ w (3640 + 12 * k + 7) = 0
  · obtain ⟨n0, n1, n2, n3, ⟨a, a1, a2, ea⟩, n6, n7⟩ := hm k hk
    obtain ⟨e2, l2⟩ := an_N_e n2 (by omega)
    obtain ⟨e3, l3⟩ := an_N_e n3 (by omega)
    have hmq := an_cb1_mq hm lN hk
    have e : an_cb1 w k = W_books (upd w (3640 + 12 * k + 6) (nI 3)) (w (3640 + 12 * k + 2)).toNatClampNeg (w (3640 + 12 * k + 3)).toNatClampNeg (nI 4) (nI k) (-w (3640 + 12 * k + 4)) := by unfold an_cb1; rw [if_pos z]
    generalize (w (3640 + 12 * k + 2)).toNatClampNeg = hh at e l2 e2
    generalize (w (3640 + 12 * k + 3)).toNatClampNeg = bb at e l3 e3
    have o : ∀ j, j < 9810 → ¬ j = 210 + 4 * hh + bb → ¬ j = 3640 + 12 * k + 6 → an_cb1 w k j = w j := fun j q1 q2 q3 => by rw [e, W_books_o q1 q2, pk_un q3]
    have s6 : an_cb1 w k (3640 + 12 * k + 6) = nI 3 := by rw [e, W_books_o (by omega) (by omega), pk_us]
    have hc : an_cnt (an_cb1 w k) = an_cnt w := by unfold an_cnt; rw [o 1 (by omega) (by omega) (by omega)]
    have fr : an_fr w (an_cb1 w k) := fun j q1 _ q2 _ q _ => o j q1 (by omega) (by omega)
    refine ⟨an_mid_c h fr (o 0 (by omega) (by omega) (by omega)) (by rw [e]; exact W_books_E (by rw [pk_un (by omega)]; exact hE) l2 l3) hmq (fun i hi => ?_) (an_fe_c hf (o 4 (by omega) (by omega) (by omega)) (fun j _ _ => o j (by omega) (by omega) (by omega))) ?_, fr, hc⟩
    · rw [hc] at hi
      obtain ⟨c5, c8, c9, c6⟩ := h9 i hi
      unfold an_c9
      rw [o (3640 + 12 * i + 5) (by omega) (by omega) (by omega), o (3640 + 12 * i + 8) (by omega) (by omega) (by omega), o (3640 + 12 * i + 9) (by omega) (by omega) (by omega)]
      refine ⟨c5, c8, c9, fun q => ?_⟩
      by_cases qi : i = k
      · subst qi
        exact c6 (by rw [z.1]; decide)
      · rw [o (3640 + 12 * i + 6) (by omega) (by omega) (by omega)] at q
        exact c6 q
    · refine an_bd_step (i0 := 4 * hh + bb) (v := -w (3640 + 12 * k + 4)) (c := 99999) hb (Nat.le_refl _) ?_ ?_ (by omega) ?_ ?_
      · have u := an_pot_u (w := w) (w' := an_cb1 w k) (j := k) (min (an_cnt w) 150) (by omega) (fun i hi q => o _ (by omega) (by omega) (by omega))
        rw [s6, z.1, show an_pch (nI 2) = 9999 by decide, show an_pch (nI 3) = 109998 by decide] at u
        unfold an_bkl
        rw [hc]
        omega
      · rw [ea, an_toI_neg (by omega)]
        omega
      · rw [← Nat.add_assoc, e, W_books_s l2 l3, pk_un (by omega)]
      · intro i hi q
        exact o _ (by omega) (by omega) (by omega)
  · have e : an_cb1 w k = w := by unfold an_cb1; rw [if_neg z]
    rw [e]
    exact ⟨h, an_fr_rf, rfl⟩
theorem an_mid_cb {w : an_W} {T : Nat} (h : an_mid nb w T) : ∀ n, n ≤ an_cnt w → an_mid nb (an_cb w n) T ∧ an_fr w (an_cb w n) ∧ an_cnt (an_cb w n) = an_cnt w := by
  intro n
  induction n with
  | zero => intro _; exact ⟨h, an_fr_rf, rfl⟩
  | succ n ih =>
    intro hn
    obtain ⟨r1, r2, r3⟩ := ih (by omega)
    obtain ⟨s1, s2, s3⟩ := an_mid_cb1 r1 (k := n) (by omega)
    exact ⟨s1, an_fr_tr r2 s2, s3.trans r3⟩
theorem an_mid_as {w : an_W} {T k h b c : Nat} {kind v fee st nd : Int32} (hw : an_mid nb w T) (hk : k < an_cnt w) (hh : h < 6) (hb : b < 4) (h6 : w (3640 + 12 * k + 6) = 0) (hst : an_N st 4) (hnd : an_N nd 6) (hv : -((c : Nat) : Int) ≤ v.toInt ∧ v.toInt ≤ ((c : Nat) : Int)) (hc : c ≤ an_pch st) : an_mid nb (W_as w k h b kind v fee st nd) T ∧ an_fr w (W_as w k h b kind v fee st nd) ∧ an_cnt (W_as w k h b kind v fee st nd) = an_cnt w := by
  obtain ⟨h0, hN, hE, hT, hs, hm, h9, hf, hbd⟩ := id hw
  have lN := (an_cnt_e hN).2
  have o : ∀ j, j < 9810 → ¬ j = 4 → ¬ j = 210 + 4 * h + b → ¬ j = 258 + 4 * h + b → ¬ j = 3640 + 12 * k + 6 → ¬ j = 3640 + 12 * k + 7 → ¬ j = 3640 + 12 * k + 9 → W_as w k h b kind v fee st nd j = w j := fun j q1 q2 q3 q4 q5 q6 q7 => W_as_o q1 q2 q3 q4 q5 q6 q7
  have s6 : W_as w k h b kind v fee st nd (3640 + 12 * k + 6) = st := by unfold W_as; rw [pk_un (by omega), pk_un (by omega), pk_us]
  have s7 : W_as w k h b kind v fee st nd (3640 + 12 * k + 7) = nd := by unfold W_as; rw [pk_us]
  have s9 : W_as w k h b kind v fee st nd (3640 + 12 * k + 9) = w 0 := by unfold W_as; rw [pk_un (by omega), pk_us]
  have s4 : W_as w k h b kind v fee st nd 4 = w 4 + fee := by unfold W_as; rw [pk_un (by omega), pk_un (by omega), pk_un (by omega), pk_us, pk_un (by omega), W_books_o (by omega) (by omega)]
  have sf : W_as w k h b kind v fee st nd (258 + 4 * h + b) = w (258 + 4 * h + b) + fee := by unfold W_as; rw [pk_un (by omega), pk_un (by omega), pk_un (by omega), pk_un (by omega), pk_us, W_books_o (by omega) (by omega)]
  have sb : W_as w k h b kind v fee st nd (210 + 4 * h + b) = w (210 + 4 * h + b) + v := by unfold W_as; rw [pk_un (by omega), pk_un (by omega), pk_un (by omega), pk_un (by omega), pk_un (by omega), W_books_s hh hb]
  have hcn : an_cnt (W_as w k h b kind v fee st nd) = an_cnt w := by unfold an_cnt; rw [o 1 (by omega) (by omega) (by omega) (by omega) (by omega) (by omega) (by omega)]
  have fr : an_fr w (W_as w k h b kind v fee st nd) := fun j q1 q2 q3 q4 q5 _ => o j q1 q2 (by omega) (by omega) (by omega) (by omega) (by omega)
  have pst : an_pch st ≤ 109998 := an_pch_le _
  refine ⟨an_mid_c hw fr (o 0 (by omega) (by omega) (by omega) (by omega) (by omega) (by omega) (by omega)) (W_as_E hE (by omega) hh hb) (fun i hi => ?_) (fun i hi => ?_) ?_ ?_, fr, hcn⟩
  · rw [hcn] at hi
    obtain ⟨m0, m1, m2, m3, m4, m6, m7⟩ := hm i hi
    have of : ∀ f, f < 6 → W_as w k h b kind v fee st nd (3640 + 12 * i + f) = w (3640 + 12 * i + f) := fun f hf => o _ (by omega) (by omega) (by omega) (by omega) (by omega) (by omega) (by omega)
    rw [of 0 (by omega), of 1 (by omega), of 2 (by omega), of 3 (by omega), of 4 (by omega)]
    refine ⟨m0, m1, m2, m3, m4, ?_, ?_⟩
    · by_cases q : i = k
      · rw [q, s6]; exact hst
      · rw [o _ (by omega) (by omega) (by omega) (by omega) (by omega) (by omega) (by omega)]; exact m6
    · by_cases q : i = k
      · rw [q, s7]; exact hnd
      · rw [o _ (by omega) (by omega) (by omega) (by omega) (by omega) (by omega) (by omega)]; exact m7
  · rw [hcn] at hi
    obtain ⟨c5, c8, c9, c6⟩ := h9 i hi
    unfold an_c9
    rw [o (3640 + 12 * i + 5) (by omega) (by omega) (by omega) (by omega) (by omega) (by omega) (by omega), o (3640 + 12 * i + 8) (by omega) (by omega) (by omega) (by omega) (by omega) (by omega) (by omega)]
    by_cases q : i = k
    · subst q
      rw [s9, s6, h0]
      exact ⟨c5, c8, Or.inr ⟨T, by omega, rfl⟩, fun _ => ⟨T, by omega, rfl⟩⟩
    · rw [o (3640 + 12 * i + 9) (by omega) (by omega) (by omega) (by omega) (by omega) (by omega) (by omega), o (3640 + 12 * i + 6) (by omega) (by omega) (by omega) (by omega) (by omega) (by omega) (by omega)]
      exact ⟨c5, c8, c9, c6⟩
  · unfold an_fe
    rw [s4, an_sum_upd (f := fun i => w (258 + i)) (i := 4 * h + b) (v := fee) ?_ 24 ?_ 24 (by omega), if_pos (by omega), ← hf]
    · show W_as w k h b kind v fee st nd (258 + (4 * h + b)) = w (258 + (4 * h + b)) + fee
      rw [← Nat.add_assoc]
      exact sf
    · intro j hj2 hj
      exact o _ (by omega) (by omega) (by omega) (by omega) (by omega) (by omega) (by omega)
  · refine an_bd_step (i0 := 4 * h + b) (v := v) (c := c) hbd (Nat.le_refl _) ?_ hv (by omega) ?_ ?_
    · have u := an_pot_u (w := w) (w' := W_as w k h b kind v fee st nd) (j := k) (min (an_cnt w) 150) (by omega) (fun i hi q => o _ (by omega) (by omega) (by omega) (by omega) (by omega) (by omega) (by omega))
      rw [s6, h6, show an_pch 0 = 0 by decide] at u
      unfold an_bkl
      rw [hcn]
      omega
    · rw [← Nat.add_assoc]; exact sb
    · intro i hi q
      exact o _ (by omega) (by omega) (by omega) (by omega) (by omega) (by omega) (by omega)
theorem an_mid_a1 {w : an_W} {ls : List an_Ln} {T k b : Nat} (hw : an_mid nb w T) (hk : k < an_cnt w) (hb : b < 4) (h6 : w (3640 + 12 * k + 6) = 0) : an_mid nb (W_a1 w ls b k) T ∧ an_fr w (W_a1 w ls b k) ∧ an_cnt (W_a1 w ls b k) = an_cnt w := by
  obtain ⟨h0, hN, hE, hT, hs, hm, h9, hf, hbd⟩ := id hw
  obtain ⟨m0, m1, m2, m3, ⟨a, a1, a2, ea⟩, m6, m7⟩ := hm k hk
  obtain ⟨e0, l0⟩ := an_N_e m0 (by omega)
  obtain ⟨e3, l3⟩ := an_N_e m3 (by omega)
  unfold W_a1 W_ask
  split
  · obtain ⟨f, lf, ef⟩ : an_N (W_lim w ls 2 (w (3640 + 12 * k + 0)).toNatClampNeg b (w (3640 + 12 * k + 3)).toNatClampNeg (w (3640 + 12 * k + 4))) 10000 := an_cla_N 9999 _ (by omega)
    refine an_mid_as (c := 9999) hw hk l0 hb h6 ⟨2, by omega, rfl⟩ ⟨_, (an_R_e hT hb l3).2, rfl⟩ ?_ (by decide)
    rw [ef, an_toI_neg (by omega)]
    omega
  · refine an_mid_as (c := 99999) hw hk l0 hb h6 ⟨1, by omega, rfl⟩ ⟨0, by omega, rfl⟩ ?_ (by decide)
    rw [ea, an_toI_neg (by omega)]
    omega
theorem an_mid_ain {w : an_W} {T : Nat} (hT : T < 2147483648) (h : an_mid nb w T) : an_ain w T ∧ an_old w := by
  obtain ⟨h0, hN, hE, hW, hs, hm, h9, hf, hbd⟩ := h
  refine ⟨⟨hm, hN, hW, fun k hk => ?_, hE, h0, hs⟩, fun k hk _ => ?_⟩
  · obtain ⟨⟨q, lq, eq⟩, -⟩ := h9 k hk
    rw [h0, eq]
    exact nI_nlt (by omega) (by omega)
  · obtain ⟨⟨q, lq, eq⟩, -⟩ := h9 k hk
    rw [h0, eq]
    exact nI_ge (by omega) (by omega)
theorem an_mid_asl {ls : List an_Ln} {b T : Nat} (hb : b < 4) (hT : T < 2147483648) : ∀ (s : List Nat) (w : an_W), an_mid nb w T → (∀ q ∈ s, q < an_cnt w ∧ w (3640 + 12 * q + 6) = 0 ∧ w (3640 + 12 * q + 1) = nI b) → s.Nodup → an_mid nb (W_asl ls b w s) T ∧ an_fr w (W_asl ls b w s) ∧ an_cnt (W_asl ls b w s) = an_cnt w := by
  intro s
  induction s with
  | nil => intro w h _ _; exact ⟨h, an_fr_rf, rfl⟩
  | cons k t ih =>
    intro w h hq hn
    obtain ⟨k1, k2, k3⟩ := hq k (List.mem_cons_self ..)
    obtain ⟨n1, n2⟩ := List.nodup_cons.mp hn
    obtain ⟨A, _⟩ := an_mid_ain hT h
    have q150 := (an_cnt_e h.2.1).2
    obtain ⟨r1, r2, r3⟩ := an_mid_a1 (ls := ls) h k1 hb k2
    obtain ⟨s1, s2, s3⟩ := ih (W_a1 w ls b k) r1 (fun q hq' => by
      obtain ⟨z1, z2, z3⟩ := hq q (List.mem_cons_of_mem _ hq')
      have ne : ¬ q = k := fun z => n1 (z ▸ hq')
      exact ⟨by rw [r3]; exact z1, by rw [W_a1_o A k1 hb k3 (by omega) (by omega) (by omega) (by omega) (by omega) (by omega)]; exact z2, by rw [W_a1_o A k1 hb k3 (by omega) (by omega) (by omega) (by omega) (by omega) (by omega)]; exact z3⟩) n2
    exact ⟨s1, an_fr_tr r2 s2, s3.trans r3⟩
theorem an_mid_bks {lss : Nat → List an_Ln} {ord : Int32} {T : Nat} (hT : T < 2147483648) : ∀ (n b : Nat) (w : an_W), b + n ≤ 4 → an_mid nb w T → an_mid nb (W_bks lss ord n b w) T ∧ an_fr w (W_bks lss ord n b w) ∧ an_cnt (W_bks lss ord n b w) = an_cnt w := by
  intro n
  induction n with
  | zero => intro b w _ h; exact ⟨h, an_fr_rf, rfl⟩
  | succ n ih =>
    intro b w hb h
    obtain ⟨r1, r2, r3⟩ := an_mid_asl (ls := lss b) (b := b) (by omega) hT (an_lis w b ord) w h (fun q hq => by
      obtain ⟨z0, -, z1⟩ := (an_lis_q (w := w) (b := b) (ord := ord)).1 q hq
      exact ⟨z0, (an_lst_7 _ q (List.mem_reverse.mp hq)).1, z1⟩) (an_lis_q (w := w) (b := b) (ord := ord)).2.1
    obtain ⟨s1, s2, s3⟩ := ih (b + 1) _ (by omega) r1
    exact ⟨s1, an_fr_tr r2 s2, s3.trans r3⟩
theorem an_mid_led {w : an_W} {T : Nat} (h : an_mid nb w T) : an_led nb w T := by
  obtain ⟨h0, hN, hE, hW, hs, hm, h9, hf, hbd⟩ := h
  refine ⟨h0, hN, hE, hW, hs, fun k hk => ?_, hf, hbd⟩
  obtain ⟨m0, m1, m2, m3, m4, m6, m7⟩ := hm k hk
  obtain ⟨c5, c8, c9, c6⟩ := h9 k hk
  exact ⟨m0, m1, m2, m3, m4, an_N_mo c5 (by omega), m6, m7, c8, c9, c6⟩
theorem an_led_mid {w : an_W} {D : Nat} (h : an_led nb w D) : an_mid nb (upd w 0 (nI (D + 1))) (D + 1) := by
  obtain ⟨h0, hN, hE, hW, hs, hq, hf, hbd⟩ := h
  have hc : an_cnt (upd w 0 (nI (D + 1))) = an_cnt w := by unfold an_cnt; rw [pk_un (by omega)]
  refine ⟨pk_us, by rw [pk_un (by omega)]; exact hN, by rw [pk_un (by omega)]; exact hE, ⟨fun i hi => by rw [pk_un (by omega)]; exact hW.1 i hi, fun i hi => by rw [pk_un (by omega)]; exact hW.2 i hi⟩, fun a b ha hb => by rw [pk_un (by omega), pk_un (by omega)]; exact hs a b ha hb, fun k hk => ?_, fun k hk => ?_, an_fe_c hf (pk_un (by omega)) (fun j _ _ => pk_un (by omega)), an_bd_c2 hbd (pk_un (by omega)) (fun j _ _ => pk_un (by omega)) (fun k _ => pk_un (by omega))⟩
  · rw [hc] at hk
    obtain ⟨m0, m1, m2, m3, m4, m5, m6, m7, m8, m9, m10⟩ := hq k hk
    rw [pk_un (by omega), pk_un (by omega), pk_un (by omega), pk_un (by omega), pk_un (by omega), pk_un (by omega), pk_un (by omega)]
    exact ⟨m0, m1, m2, m3, m4, m6, m7⟩
  · rw [hc] at hk
    obtain ⟨m0, m1, m2, m3, m4, m5, m6, m7, m8, m9, m10⟩ := hq k hk
    unfold an_c9
    rw [pk_un (by omega), pk_un (by omega), pk_un (by omega), pk_un (by omega)]
    exact ⟨m5, m8, m9.imp id (fun q => an_N_mo q (by omega)), fun q => an_N_mo (m10 q) (by omega)⟩
/-- all that a morning asks for, and what stands behind it -/
theorem an_mor {lss : Nat → List an_Ln} {ord : Int32} {w : an_W} {D : Nat} (hD9 : D < 199) (h : an_led nb w D) :
    (an_N (W_mor1 w D 1) 151 ∧ an_N (W_mor1 w D 9810) 901 ∧ an_mq (W_mor1 w D) ∧ (∀ k, k < an_cnt (W_mor1 w D) → W_mor1 w D (3640 + 12 * k + 6) = nI 2 → ¬ W_mor1 w D 0 ≤ W_mor1 w D (3640 + 12 * k + 9)) ∧ (∀ j, 9810 ≤ j → W_mor1 w D j = w j)) ∧ (an_ain (W_cb (W_mor1 w D)) (D + 1) ∧ an_old (W_cb (W_mor1 w D)) ∧ an_fr w (W_cb (W_mor1 w D))) ∧ an_led nb (W_mor lss ord w D) (D + 1) ∧ an_fr w (W_mor lss ord w D) ∧ an_cnt (W_mor lss ord w D) = an_cnt w := by
  have m0 := an_led_mid h
  have hc0 : an_cnt (upd w 0 (nI (D + 1))) = an_cnt w := by unfold an_cnt; rw [pk_un (by omega)]
  have l150 := (an_cnt_e h.2.1).2
  have f0 : an_fr w (upd w 0 (nI (D + 1))) := fun j _ _ _ _ _ q => pk_un q
  have e1 : ∀ j, ¬ j = 0 → (∀ k, k < an_cnt w → ¬ j = 3640 + 12 * k + 7) → W_mor1 w D j = w j := fun j q1 q2 => by
    unfold W_mor1
    rw [W_ride_o (by rw [hc0]; exact q2), pk_un q1]
  have z1 : W_mor1 w D 0 = nI (D + 1) := by
    unfold W_mor1
    rw [W_ride_o (fun k _ => by omega), pk_us]
  obtain ⟨r1, r2, r3⟩ : an_mid nb (W_mor1 w D) (D + 1) ∧ an_fr w (W_mor1 w D) ∧ an_cnt (W_mor1 w D) = an_cnt w := by
    unfold W_mor1 W_ride
    split
    · obtain ⟨s1, s2, s3⟩ := an_mid_ride m0 _ (Nat.le_refl _)
      exact ⟨s1, an_fr_tr f0 s2, s3.trans hc0⟩
    · exact ⟨m0, f0, hc0⟩
  obtain ⟨c1, c2, c3⟩ := an_mid_cb r1 _ (Nat.le_refl _)
  obtain ⟨A1, A2⟩ := an_mid_ain (by omega) c1
  refine ⟨⟨r1.2.1, r1.2.2.1, r1.2.2.2.2.2.1, fun k hk h6 => ?_, fun j hj => e1 j (by omega) (fun k hk => by omega)⟩, ⟨A1, A2, an_fr_tr r2 c2⟩, ?_⟩
  · rw [r3] at hk
    rw [z1, e1 (3640 + 12 * k + 9) (by omega) (fun k' hk' => by omega)]
    rw [e1 (3640 + 12 * k + 6) (by omega) (fun k' hk' => by omega)] at h6
    obtain ⟨-, -, -, -, -, -, -, -, -, -, m10⟩ := h.2.2.2.2.2.1 k hk
    obtain ⟨q, lq, eq⟩ := m10 (by rw [h6]; decide)
    rw [eq]
    exact nI_ge (by omega) (by omega)
  · unfold W_mor
    cases W_biz (upd w 0 (nI (D + 1))) (D + 1) with
    | true =>
      obtain ⟨b1, b2, b3⟩ := an_mid_bks (lss := lss) (ord := ord) (T := D + 1) (by omega) 4 0 (W_cb (W_mor1 w D)) (by omega) c1
      exact ⟨an_mid_led b1, an_fr_tr (an_fr_tr r2 c2) b2, b3.trans (c3.trans r3)⟩
    | false => exact ⟨an_mid_led r1, r2, r3⟩
