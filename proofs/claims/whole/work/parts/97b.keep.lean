/-! A morning from a ledger; a day is kept. -/
variable {nb : Nat}
theorem an_scM_c {w w' : an_W} {k : Nat} {ls : List an_Ln} (hk : k < 5) (ho : an_okl (Nat.beq k 4) ls) (h : an_scM w k ls) (hw : ∀ j, 5460 ≤ j → j < 9810 → w' j = w j) : an_scM w' k ls := by
  obtain ⟨h3, h4⟩ := h
  refine ⟨?_, fun i e he => ?_⟩
  · rw [hw _ (by omega) (by omega)]; exact h3
  · obtain ⟨f, g, hh, g1, g2, g3, g4, g5, g6, g7⟩ := h4 i e he
    have hi : i < 12 := Nat.lt_of_lt_of_le (List.getElem?_eq_some_iff.mp he).1 ho.1
    have hD : ∀ p e p', p < 410 → an_D w k p e p' → an_D w' k p e p' := by
      intro p e p' hp q
      obtain ⟨q1, q2, q3⟩ := q
      exact ⟨by rw [hw _ (by omega) (by omega)]; exact q1, by rw [hw _ (by omega) (by omega)]; exact q2, q3⟩
    have hle := (an_sq_le an_D_lt _ _ _ g7).1
    refine ⟨f, g, hh, ?_, ?_, ?_, ?_, g5, an_sq_c an_D_lt hD _ _ _ g6 (by omega), an_sq_c an_D_lt hD _ _ _ g7 (by omega)⟩
    · rw [hw _ (by omega) (by omega)]; exact g1
    · rw [hw _ (by omega) (by omega)]; exact g2
    · rw [hw _ (by omega) (by omega)]; exact g3
    · rw [hw _ (by omega) (by omega)]; exact g4
theorem t_M_morning {L d : Nat} {μ : am_M} {F : Int32 → am_M → Prop} {w : an_W} {lss : Nat → List an_Ln} {D : Nat} {ord : Int32} (hd : 10 ≤ d) (hD9 : D < 199) (hl : an_led nb w D) (hw : μ 141 = w) (ho : ∀ b, b < 4 → an_okl false (lss b)) (hM : ∀ b, b < 4 → an_scM w b (lss b))
    (hF : ∀ μ', an_un [140, 141, 147, 148, 149] μ μ' → (∀ f, f ≠ 23 → μ' 140 f = μ 140 f) → μ' 141 = W_mor lss ord w D → F (nI (an_morn lss ord w D)) μ') : am_Ci L d 207 [.ref 140, .int ord] μ F := by
  obtain ⟨⟨q1, q2, q3, q4, q5⟩, ⟨q6, q7, q8⟩, q9⟩ := an_mor (lss := lss) (ord := ord) hD9 hl
  refine s_M_morning hd hl.1 hD9 hw hl.2.1 ho q1 q2 q3 q4 q6 q7 (fun b hb w' hw' => ?_) hF
  have e4 : Nat.beq b 4 = false := am_nb (by omega)
  exact an_scM_c (by omega) (by rw [e4]; exact ho b hb) (hM b hb) (fun j z1 z2 => (hw' j (by omega) z2).trans (q8 j z2 (by omega) (by omega) (by omega) (by omega) (by omega)))
theorem t_morning {L d : Nat} {μ : am_M} {F : Int32 → am_M → Prop} {w : an_W} {lss : Nat → List an_Ln} {D : Nat} {ord : Int32} (hd : 10 ≤ d) (hD9 : D < 199) (hl : an_led nb w D) (hR : an_RL 58 w μ) (hRE : an_RE 56 w μ) (hC : an_RC 15 w μ) (hS : an_RS w μ) (ho : ∀ b, b < 4 → an_okl false (lss b)) (hX : ∀ b, b < 4 → an_scX false (21 + 7 * b) μ (lss b))
    (hF : ∀ μ', an_un [56, 57, 58, 59, 60, 62, 63, 64, 27, 34, 41, 48] μ μ' → an_RL 58 (W_mor lss ord w D) μ' → an_RE 56 (W_mor lss ord w D) μ' → F (nI (an_morn lss ord w D)) μ') : am_Ci L d 24 [.ref 58, .int ord] μ F := by
  obtain ⟨⟨q1, q2, q3, q4, q5⟩, ⟨q6, q7, q8⟩, q9⟩ := an_mor (lss := lss) (ord := ord) hD9 hl
  exact s_morning hd hl.1 hD9 hR hRE hC hS hl.2.1 ho hX q1 q2 q3 q5 q6 q7 (fun j z1 z2 => q8 j (by omega) (by omega) (by omega) (by omega) (by omega) (by omega)) hF
theorem t_morningT {L d : Nat} {μ : am_M} {F : Int32 → am_M → Prop} {w : an_W} {lss : Nat → List an_Ln} {D : Nat} {ord : Int32} (hd : 10 ≤ d) (hD9 : D < 199) (hl : an_led nb w D) (hR : an_RL 124 w μ) (hC : an_RC 15 w μ) (hS : an_RS w μ) (ho : ∀ b, b < 4 → an_okl false (lss b)) (hX : ∀ b, b < 4 → an_scX false (21 + 7 * b) μ (lss b))
    (hF : ∀ μ', an_un [124, 125, 126, 128, 129, 130, 27, 34, 41, 48] μ μ' → an_RL 124 (W_mor lss ord w D) μ' → F (nI (an_morn lss ord w D)) μ') : am_Ci L d 24 [.ref 124, .int ord] μ F := by
  obtain ⟨⟨q1, q2, q3, q4, q5⟩, ⟨q6, q7, q8⟩, q9⟩ := an_mor (lss := lss) (ord := ord) hD9 hl
  exact s_morningT hd hl.1 hD9 hR hC hS hl.2.1 ho hX q1 q2 q3 q6 q7 (fun j z1 z2 => q8 j (by omega) (by omega) (by omega) (by omega) (by omega) (by omega)) hF
theorem W_booksOf_c {w w' : an_W} {h : Nat} (hh : h < 6) (e : ∀ j, 210 ≤ j → j < 234 → w' j = w j) : W_booksOf w' h = W_booksOf w h := am_sum_congr 4 (fun k hk => e _ (by omega) (by omega))
theorem W_water_c {w w' : an_W} {h : Int32} (e1 : w' 1 = w 1) (hN : an_N (w 1) 151) (e : ∀ j, 3640 ≤ j → j < 5440 → w' j = w j) : W_water w' h = W_water w h := by
  have l := (an_cnt_e hN).2
  have ec : an_cnt w' = an_cnt w := by unfold an_cnt; rw [e1]
  unfold W_water
  rw [ec]
  refine am_sum_congr _ (fun k hk => ?_)
  unfold an_f_water
  rw [e _ (by omega) (by omega), e (3640 + 12 * k + 0) (by omega) (by omega), e (3640 + 12 * k + 2) (by omega) (by omega), e (3640 + 12 * k + 4) (by omega) (by omega)]
/-- what is kept of a house -/
def an_kv (w : an_W) (h f : Nat) : Int32 := if f = 0 then W_booksOf w h else if f = 1 then W_booksOf w h - W_water w (nI h) else w (210 + 4 * h + (f - 2))
/-- the first n kept numbers of the day T stand -/
def an_ke (w : an_W) (T : Nat) : Nat → an_W
  | 0 => w
  | n + 1 => upd (an_ke w T n) (372 + 36 * T + n) (an_kv w (n / 6) (n % 6))
theorem an_ke_o {w : an_W} {T j : Nat} : ∀ n, (j < 372 + 36 * T ∨ 372 + 36 * T + n ≤ j) → an_ke w T n j = w j := by
  intro n
  induction n with
  | zero => intro _; rfl
  | succ n ih => intro h; rw [an_ke, pk_un (by omega), ih (by omega)]
theorem an_ke_s {w : an_W} {T h f n : Nat} (hn : n = 6 * h + f) (hf : f < 6) : an_ke w T (n + 1) = upd (an_ke w T n) (372 + 36 * T + n) (an_kv w h f) := by
  rw [an_ke, show n / 6 = h by omega, show n % 6 = f by omega]
theorem an_ke_x {w : an_W} {T h f n q : Nat} {μ μ' : am_M} (hT : T < 90) (hh : h < 6) (hn : n = 6 * h + f) (hf : f < 6) (hq : q = 36 * T + n) (hk : ∀ i, i < 3240 → μ 65 i = an_ke w T n (372 + i)) (e : μ' = am_w μ 65 q (an_kv w h f)) : ∀ i, i < 3240 → μ' 65 i = an_ke w T (n + 1) (372 + i) := by
  intro i hi
  rw [an_ke_s hn hf]
  by_cases z : i = q
  · rw [z, an_w_s e, show 372 + q = 372 + 36 * T + n by omega, pk_us]
  · rw [an_w_o e z, pk_un (by omega)]; exact hk i hi
theorem s_keep {L d : Nat} {μ : am_M} {F : am_M → Prop} {w : an_W} {T : Nat} (hd : 8 ≤ d) (h0 : w 0 = nI T) (hT : T < 90) (hN : an_N (w 1) 151) (hR : an_RL 58 w μ) (hk : ∀ i, i < 3240 → μ 65 i = w (372 + i))
    (hF : ∀ μ', an_un [65] μ μ' → (∀ i, i < 3240 → μ' 65 i = an_ke w T 36 (372 + i)) → F μ') : am_Cv L d 90 [.ref 14] μ F := by
  have e0 : μ 58 8 = nI T := hR.1.trans h0
  have inner : ∀ (n b h : Nat) (μ1 : am_M), b + n = 4 → h < 6 → an_un [65] μ μ1 → (∀ i, i < 3240 → μ1 65 i = an_ke w T (6 * h + 2 + b) (372 + i)) → (∀ μ2, an_un [65] μ μ2 → (∀ i, i < 3240 → μ2 65 i = an_ke w T (6 * (h + 1)) (372 + i)) → am_Jv L d 90 16 [some (.ref 14), some (.int (nI (h + 1))), none, none] [] μ2 F) → am_Jv L d 90 77 [some (.ref 14), some (.int (nI h)), some (.int (nI ((T * 6 + h) * 6))), some (.int (nI b))] [] μ1 F := by
    intro n
    induction n with
    | zero =>
      intro b h μ1 hb hh u1 k1 hx
      obtain rfl : b = 4 := by omega
      refine v_World_keep_77 ?_
      rw [if_pos (nI_le (Nat.le_refl _) (by omega)), nI_add]
      exact hx μ1 u1 (by rw [show 6 * (h + 1) = 6 * h + 2 + 4 by omega]; exact k1)
    | succ n ih =>
      intro b h μ1 hb hh u1 k1 hx
      refine v_World_keep_77 ?_
      rw [if_neg (nI_ge (by omega) (by omega)), pk_mul, nI_add, nI_add, nI_add, am_gd_in (by omega) (by omega), am_gd_in (by omega) (by omega), am_cl (by omega), am_cl (by omega), u1 60 (by decide)]
      intro μ2 e2
      rw [(an_RL_b hR).1 h b hh (by omega)] at e2
      rw [nI_add]
      refine ih (b + 1) h μ2 (by omega) hh (an_un_tr u1 (e2 ▸ an_un_w (by simp)) (fun _ q => q) (fun _ q => q)) ?_ hx
      refine an_ke_x (h := h) (f := 2 + b) (n := 6 * h + 2 + b) hT hh (by omega) (by omega) (by omega) k1 (μ' := μ2) (q := (T * 6 + h) * 6 + 2 + b) ?_
      rw [e2]
      unfold an_kv
      rw [if_neg (by omega), if_neg (by omega), show 2 + b - 2 = b by omega]
  have outer : ∀ (n h : Nat) (μ1 : am_M), h + n = 6 → an_un [65] μ μ1 → (∀ i, i < 3240 → μ1 65 i = an_ke w T (6 * h) (372 + i)) → am_Jv L d 90 16 [some (.ref 14), some (.int (nI h)), none, none] [] μ1 F := by
    intro n
    induction n with
    | zero =>
      intro h μ1 hh u1 k1
      obtain rfl : h = 6 := by omega
      refine v_World_keep_16 ?_
      rw [if_pos (nI_le (Nat.le_refl _) (by omega))]
      exact hF μ1 u1 k1
    | succ n ih =>
      intro h μ1 hh u1 k1
      refine v_World_keep_16 ?_
      have R1 : an_RL 58 w μ1 := an_RL_c hR (fun c q1 q2 => u1 c (by simp; omega))
      rw [if_neg (nI_ge (by omega) (by omega)), u1 58 (by decide), e0]
      simp only [pk_mul, nI_add]
      refine ⟨by omega, s_Ledger_booksOf (by omega) (by omega) R1 ?_⟩
      rw [am_gd_in (by omega) (by omega), am_cl (by omega)]
      intro μ3 e3
      have u3 : an_un [65] μ μ3 := an_un_tr u1 (e3 ▸ an_un_w (by simp)) (fun _ q => q) (fun _ q => q)
      have k3 := an_ke_x (h := h) (f := 0) (n := 6 * h) hT (by omega) (by omega) (by omega) (by omega) k1 (μ' := μ3) (q := (T * 6 + h) * 6) (by rw [e3]; rfl)
      rw [am_gd_in (by omega) (by omega)]
      have R3 : an_RL 58 w μ3 := an_RL_c hR (fun c q1 q2 => u3 c (by simp; omega))
      refine ⟨by omega, s_Ledger_waterOf (by omega) R3 hN ?_⟩
      rw [am_gd_in (by omega) (by omega), am_cl (by omega), an_w_s e3]
      intro μ6 e6
      have u6 : an_un [65] μ μ6 := an_un_tr u3 (e6 ▸ an_un_w (by simp)) (fun _ q => q) (fun _ q => q)
      have k6 := an_ke_x (h := h) (f := 1) (n := 6 * h + 1) hT (by omega) (by omega) (by omega) (by omega) k3 (μ' := μ6) (q := (T * 6 + h) * 6 + 1) (by rw [e6]; rfl)
      refine inner 4 0 h μ6 (by omega) (by omega) u6 k6 (fun μ7 u7 k7 => ih (h + 1) μ7 (by omega) u7 k7)
  refine v_World_keep ?_
  rw [am_dp (by omega), e0, if_neg (nI_pos (by omega)), if_neg (nI_ge (by omega) (by omega))]
  exact outer 6 0 μ (by omega) an_un_rf hk
theorem s_M_keep {L d : Nat} {F : Int32 → am_M → Prop} {w : an_W} {T : Nat} {x1 : Int32} (hd : 8 ≤ d) (hT : T < 90) (hN : an_N (w 1) 151) {μ : am_M} (hw : μ 141 = w)
    (hF : ∀ μ', an_un [141] μ μ' → μ' 141 = an_ke w T 36 → am_Ji L d 208 142 [some (.ref 140), some (.int x1), some (.int (nI T)), some (.int (nI 0)), none, none] [] μ' F) : am_Ji L d 208 39 [some (.ref 140), some (.int x1), some (.int (nI T)), some (.int (nI 0)), none, none] [] μ F := by
  have inner : ∀ (n b h : Nat) (μ1 : am_M), b + n = 4 → h < 6 → an_un [141] μ μ1 → μ1 141 = an_ke w T (6 * h + 2 + b) → (∀ μ2, an_un [141] μ μ2 → μ2 141 = an_ke w T (6 * (h + 1)) → am_Ji L d 208 39 [some (.ref 140), some (.int x1), some (.int (nI T)), some (.int (nI (h + 1))), none, none] [] μ2 F) → am_Ji L d 208 95 [some (.ref 140), some (.int x1), some (.int (nI T)), some (.int (nI h)), some (.int (nI (372 + 36 * T + 6 * h))), some (.int (nI b))] [] μ1 F := by
    intro n
    induction n with
    | zero =>
      intro b h μ1 hb hh u1 k1 hx
      obtain rfl : b = 4 := by omega
      refine v_M_day_95 ?_
      rw [if_pos (nI_le (Nat.le_refl _) (by omega)), nI_add]
      exact hx μ1 u1 (by rw [k1, show 6 * (h + 1) = 6 * h + 2 + 4 by omega])
    | succ n ih =>
      intro b h μ1 hb hh u1 k1 hx
      refine v_M_day_95 ?_
      rw [if_neg (nI_ge (by omega) (by omega))]
      simp only [pk_mul, nI_add]
      rw [am_gd_in (by omega) (by omega), am_gd_in (by omega) (by omega), am_cl (by omega), am_cl (by omega), k1, an_ke_o _ (by omega)]
      intro μ2 e2
      refine ih (b + 1) h μ2 (by omega) hh (an_un_tr u1 (e2 ▸ an_un_w (by simp)) (fun _ q => q) (fun _ q => q)) ?_ hx
      rw [e2, am_w_at, k1, ← Nat.add_assoc, an_ke_s (n := 6 * h + 2 + b) (h := h) (f := 2 + b) (by omega) (by omega), show 372 + 36 * T + 6 * h + 2 + b = 372 + 36 * T + (6 * h + 2 + b) by omega]
      unfold an_kv
      rw [if_neg (by omega), if_neg (by omega), show 2 + b - 2 = b by omega]
  have outer : ∀ (n h : Nat) (μ1 : am_M), h + n = 6 → an_un [141] μ μ1 → μ1 141 = an_ke w T (6 * h) → am_Ji L d 208 39 [some (.ref 140), some (.int x1), some (.int (nI T)), some (.int (nI h)), none, none] [] μ1 F := by
    intro n
    induction n with
    | zero =>
      intro h μ1 hh u1 k1
      obtain rfl : h = 6 := by omega
      refine v_M_day_39 ?_
      rw [if_pos (nI_le (Nat.le_refl _) (by omega))]
      exact hF μ1 u1 k1
    | succ n ih =>
      intro h μ1 hh u1 k1
      refine v_M_day_39 ?_
      rw [if_neg (nI_ge (by omega) (by omega))]
      simp only [pk_mul, nI_add]
      have bk : ∀ n, W_booksOf (an_ke w T n) h = W_booksOf w h := fun n => W_booksOf_c (by omega) (fun j z1 z2 => an_ke_o _ (by omega))
      have wt : ∀ n, n ≤ 36 → W_water (an_ke w T n) (nI h) = W_water w (nI h) := fun n hn => W_water_c (an_ke_o _ (by omega)) hN (fun j z1 z2 => an_ke_o _ (by omega))
      refine ⟨by omega, s_M_booksOf (by omega) (by omega) k1 ?_⟩
      rw [bk, am_gd_in (by omega) (by omega), am_cl (by omega)]
      intro μ3 e3
      have u3 : an_un [141] μ μ3 := an_un_tr u1 (e3 ▸ an_un_w (by simp)) (fun _ q => q) (fun _ q => q)
      have k3 : μ3 141 = an_ke w T (6 * h + 1) := by rw [e3, am_w_at, k1, an_ke_s (n := 6 * h) (h := h) (f := 0) (by omega) (by omega)]; rfl
      refine ⟨by omega, s_M_booksOf (by omega) (by omega) k3 ?_⟩
      rw [bk]
      refine ⟨by omega, s_M_waterOf (by omega) k3 (by rw [an_ke_o _ (by omega)]; exact hN) ?_⟩
      rw [wt _ (by omega), am_gd_in (by omega) (by omega), am_cl (by omega)]
      intro μ6 e6
      have u6 : an_un [141] μ μ6 := an_un_tr u3 (e6 ▸ an_un_w (by simp)) (fun _ q => q) (fun _ q => q)
      have k6 : μ6 141 = an_ke w T (6 * h + 1 + 1) := by rw [e6, am_w_at, k3, an_ke_s (n := 6 * h + 1) (h := h) (f := 1) (by omega) (by omega), Nat.add_assoc]; rfl
      exact inner 4 0 h μ6 (by omega) (by omega) u6 k6 (fun μ7 u7 k7 => ih (h + 1) μ7 (by omega) u7 k7)
  exact outer 6 0 μ (by omega) an_un_rf hw
