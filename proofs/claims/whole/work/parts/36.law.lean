/-! What a law says: class and model. -/
/-- the facts of a law, by the model's numbers -/
def an_fal (am far rl hs wk bk ct : Int32) (s : Nat) : Int32 := match s with
  | 1 => am
  | 2 => far
  | 3 => rl
  | 4 => hs
  | 5 => wk
  | 6 => bk
  | _ => ct
theorem an_cla_e {m : Nat} {y : Int32} (hm : m < 2147483648) : (if (nI 0) < (if y < nI m then y else nI m) then (if y < nI m then y else nI m) else nI 0) = an_cla m y := by
  unfold an_cla
  rw [nI_0]
  have hm0 := nI_pos' hm
  by_cases h1 : y < nI m
  · rw [if_pos h1]
    by_cases h2 : 0 ≤ y
    · rw [if_pos h2, if_pos (Int32.le_of_lt h1)]
      by_cases h3 : 0 < y
      · rw [if_pos h3]
      · rw [if_neg h3]
        exact (Int32.le_antisymm (Int32.not_lt.mp h3) h2).symm
    · rw [if_neg h2, if_neg (fun q => h2 (Int32.le_of_lt q))]
  · rw [if_neg h1]
    have h1 := Int32.not_lt.mp h1
    have h2 : 0 ≤ y := Int32.le_trans hm0 h1
    have h5 : (if 0 < nI m then nI m else 0) = nI m := by
      by_cases h3 : 0 < nI m
      · rw [if_pos h3]
      · rw [if_neg h3]
        exact (Int32.le_antisymm (Int32.not_lt.mp h3) hm0).symm
    rw [if_pos h2, h5]
    by_cases h4 : y ≤ nI m
    · rw [if_pos h4]
      exact Int32.le_antisymm h1 h4
    · rw [if_neg h4]
/-- the facts that a law of b's is asked with -/
def W_fal (w : an_W) (h b : Nat) (am rl wk : Int32) (far : Bool) : Nat → Int32 := an_fal am (an_b far) rl (nI h) wk (w (210 + 4 * h + b)) (W_lately w (nI h) (nI b))
def an_far (w : an_W) (a b : Nat) : Bool := !(Nat.beq (an_T w a) (an_T w b))
/-- no cheque of a later day -/
def an_days (w : an_W) : Prop := ∀ k, k < an_cnt w → ¬ w 0 < w (3640 + 12 * k + 5)
/-- what b's law says of a word -/
def W_law (w : an_W) (ls : List an_Ln) (wd h b : Nat) (am rl wk : Int32) (far : Bool) : Int32 := an_cla (an_most wd) (an_val (W_fal w h b am rl wk far) wd ls)
theorem an_w_s {μ μ' : am_M} {c i : Nat} {v : Int32} (e : μ' = am_w μ c i v) : μ' c i = v := by rw [e, am_w_at, pk_us]
theorem an_w_o {μ μ' : am_M} {c i j : Nat} {v : Int32} (e : μ' = am_w μ c i v) (h : j ≠ i) : μ' c j = μ c j := by rw [e, am_w_at, pk_un h]
theorem an_w_c {μ μ' : am_M} {c c' i : Nat} {v : Int32} (e : μ' = am_w μ c i v) (h : c' ≠ c) : μ' c' = μ c' := by rw [e, am_w_ne h]
theorem an_gdd {d : Nat} {A : Prop} (h : 0 < d) : am_gd (Nat.blt 0 d && true) A = A := by rw [am_blt.mpr h]; rfl
theorem an_most_lt (wd : Nat) : an_most wd < 2147483648 := by
  unfold an_most
  split <;> decide
theorem s_lawValue {L d : Nat} {μ : am_M} {F : Int32 → am_M → Prop} {w : an_W} {wd h b x : Nat} {am wk : Int32} {ls : List an_Ln} (hd : 5 ≤ d) (hwd : wd < 3) (hh : h < 6) (hb : b < 4) (hx : x < 4) (hR : an_RL 58 w μ) (hC : an_RC 15 w μ) (hT : an_WT w) (hN : an_N (w 1) 151) (hday : an_days w) (hk : an_okl false ls) (hX : an_scX false (21 + 7 * b) μ ls)
    (hF : ∀ μ', an_un [64, 27, 34, 41, 48] μ μ' → F (W_law w ls wd h b am (nI (an_R w b x)) wk (an_far w b x)) μ') : am_Ci L d 21 [.ref 58, .int (nI wd), .int (nI h), .int (nI b), .int (nI x), .int am, .int wk] μ F := by
  obtain ⟨ea, la⟩ := an_T_e hT hb
  obtain ⟨eb, lb⟩ := an_T_e hT hx
  obtain ⟨er, lr⟩ := an_R_e hT hb hx
  have hbk := (an_RL_b hR).1 h b hh hb
  have ca := hC.1 b hb
  have cb := hC.1 x hx
  have cr := an_RC_r hC la lb
  have tail : ∀ (μ7 : am_M), an_un [64] μ μ7 → (∀ s, an_fs false s → μ7 64 (an_fi false s) = W_fal w h b am (nI (an_R w b x)) wk (an_far w b x) s) → am_Ji L d 21 116 [some (.ref 58), some (.int (nI wd)), none, some (.int (nI b)), none, none, none, some (.int (nI (an_most wd)))] [] μ7 F := by
    intro μ7 u7 hf7
    have hX7 : an_scX false (21 + 7 * b) μ7 ls := an_scX_c hX (fun c' q1 q2 => u7 c' (by simp; omega))
    refine v_Ledger_lawValue_116 ?_
    rw [am_gd_in (by omega) (by omega)]
    rcases (by omega : b = 0 ∨ b = 1 ∨ b = 2 ∨ b = 3) with rfl | rfl | rfl | rfl
    · rw [if_pos rfl]
      refine ⟨by omega, s_firstValue_21 (by omega) (by omega) hk μ7 hX7 hf7 (fun μ8 u8 => ?_)⟩
      rw [an_gdd (by omega), an_gdd (by omega), an_cla_e (an_most_lt _)]
      exact hF μ8 (an_un_tr u7 u8 (by simp) (by simp))
    · rw [if_neg (by decide), if_pos rfl]
      refine ⟨by omega, s_firstValue_28 (by omega) (by omega) hk μ7 hX7 hf7 (fun μ8 u8 => ?_)⟩
      rw [an_gdd (by omega), an_gdd (by omega), an_cla_e (an_most_lt _)]
      exact hF μ8 (an_un_tr u7 u8 (by simp) (by simp))
    · rw [if_neg (by decide), if_neg (by decide), if_pos rfl]
      refine ⟨by omega, s_firstValue_35 (by omega) (by omega) hk μ7 hX7 hf7 (fun μ8 u8 => ?_)⟩
      rw [an_gdd (by omega), an_gdd (by omega), an_cla_e (an_most_lt _)]
      exact hF μ8 (an_un_tr u7 u8 (by simp) (by simp))
    · rw [if_neg (by decide), if_neg (by decide), if_neg (by decide), if_pos rfl]
      refine ⟨by omega, s_firstValue_42 (by omega) (by omega) hk μ7 hX7 hf7 (fun μ8 u8 => ?_)⟩
      rw [an_gdd (by omega), an_gdd (by omega), an_cla_e (an_most_lt _)]
      exact hF μ8 (an_un_tr u7 u8 (by simp) (by simp))
  have main : ∀ (μ2 : am_M), an_un [64] μ μ2 → μ2 64 0 = am → μ2 64 1 = an_b (an_far w b x) → am_Ji L d 21 32 [some (.ref 58), some (.int (nI wd)), some (.int (nI h)), some (.int (nI b)), some (.int (nI x)), none, some (.int wk), none] [] μ2 F := by
    intro μ2 u2 f0 f1
    refine v_Ledger_lawValue_32 ?_
    rw [am_dp (by omega), am_gd_in (by omega) (by omega), am_gd_in (by omega) (by omega), am_cl (by omega : b < 2147483648), am_cl (by omega : x < 2147483648), u2 16 (by decide), ca, cb, ea, eb, pk_mul, nI_add, am_gd_in (by omega) (by omega), am_cl (by omega), u2 17 (by decide), cr, er]
    intro μ3 e3 μ4 e4 μ5 e5
    have u3 : an_un [64] μ μ3 := an_un_tr u2 (e3 ▸ an_un_w (by simp)) (fun _ q => q) (fun _ q => q)
    have u4 : an_un [64] μ μ4 := an_un_tr u3 (e4 ▸ an_un_w (by simp)) (fun _ q => q) (fun _ q => q)
    have u5 : an_un [64] μ μ5 := an_un_tr u4 (e5 ▸ an_un_w (by simp)) (fun _ q => q) (fun _ q => q)
    rw [pk_mul, nI_add, am_gd_in (by omega) (by omega), am_cl (by omega), u5 60 (by decide), hbk]
    intro μ6 e6
    have u6 : an_un [64] μ μ6 := an_un_tr u5 (e6 ▸ an_un_w (by simp)) (fun _ q => q) (fun _ q => q)
    refine ⟨by omega, s_Ledger_paidInLately (by omega) (an_RL_c hR (fun c q1 q2 => u6 c (by simp; omega))) hN hday ?_⟩
    intro μ7 e7
    have u7 : an_un [64] μ μ7 := an_un_tr u6 (e7 ▸ an_un_w (by simp)) (fun _ q => q) (fun _ q => q)
    have hf7 : ∀ s, an_fs false s → μ7 64 (an_fi false s) = W_fal w h b am (nI (an_R w b x)) wk (an_far w b x) s := by
      intro s hs
      obtain ⟨hs1, hs2⟩ := hs
      rcases (by omega : s = 1 ∨ s = 2 ∨ s = 3 ∨ s = 4 ∨ s = 5 ∨ s = 6 ∨ s = 7) with rfl | rfl | rfl | rfl | rfl | rfl | rfl
      · exact (an_w_o e7 (by decide)).trans ((an_w_o e6 (by decide)).trans ((an_w_o e5 (by decide)).trans ((an_w_o e4 (by decide)).trans ((an_w_o e3 (by decide)).trans f0))))
      · exact (an_w_o e7 (by decide)).trans ((an_w_o e6 (by decide)).trans ((an_w_o e5 (by decide)).trans ((an_w_o e4 (by decide)).trans ((an_w_o e3 (by decide)).trans f1))))
      · exact (an_w_o e7 (by decide)).trans ((an_w_o e6 (by decide)).trans ((an_w_o e5 (by decide)).trans ((an_w_o e4 (by decide)).trans (an_w_s e3))))
      · exact (an_w_o e7 (by decide)).trans ((an_w_o e6 (by decide)).trans ((an_w_o e5 (by decide)).trans (an_w_s e4)))
      · exact (an_w_o e7 (by decide)).trans ((an_w_o e6 (by decide)).trans (an_w_s e5))
      · exact (an_w_o e7 (by decide)).trans (an_w_s e6)
      · exact an_w_s e7
    have ht := tail μ7 u7 hf7
    rcases (by omega : wd = 0 ∨ wd = 1 ∨ wd = 2) with rfl | rfl | rfl
    · rw [if_neg (by decide)]; exact ht
    · rw [if_pos (by decide), if_neg (by decide)]; exact ht
    · rw [if_pos (by decide), if_pos (by decide)]; exact ht
  refine v_Ledger_lawValue ?_
  intro μ1 e1
  have u1 : an_un [64] μ μ1 := e1 ▸ an_un_w (by simp)
  rw [am_dp (by omega), am_gd_in (by omega) (by omega), am_gd_in (by omega) (by omega), am_cl (by omega : b < 2147483648), am_cl (by omega : x < 2147483648), u1 16 (by decide), ca, cb, ea, eb]
  by_cases hq : an_T w b = an_T w x
  · rw [if_pos (by rw [hq])]
    intro μ2 e2
    refine main μ2 (an_un_tr u1 (e2 ▸ an_un_w (by simp)) (fun _ q => q) (fun _ q => q)) ((an_w_o e2 (by decide)).trans (an_w_s e1)) ((an_w_s e2).trans ?_)
    unfold an_far
    rw [hq, Nat.beq_refl]
    rfl
  · rw [if_neg (fun z => hq ((nI_eq (by omega) (by omega)).mp z))]
    intro μ2 e2
    refine main μ2 (an_un_tr u1 (e2 ▸ an_un_w (by simp)) (fun _ q => q) (fun _ q => q)) ((an_w_o e2 (by decide)).trans (an_w_s e1)) ((an_w_s e2).trans ?_)
    unfold an_far
    rw [am_nb hq]
    rfl
theorem s_lawValueT {L d : Nat} {μ : am_M} {F : Int32 → am_M → Prop} {w : an_W} {wd h b x : Nat} {am wk : Int32} {ls : List an_Ln} (hd : 5 ≤ d) (hwd : wd < 3) (hh : h < 6) (hb : b < 4) (hx : x < 4) (hR : an_RL 124 w μ) (hC : an_RC 15 w μ) (hT : an_WT w) (hN : an_N (w 1) 151) (hday : an_days w) (hk : an_okl false ls) (hX : an_scX false (21 + 7 * b) μ ls)
    (hF : ∀ μ', an_un [130, 27, 34, 41, 48] μ μ' → F (W_law w ls wd h b am (nI (an_R w b x)) wk (an_far w b x)) μ') : am_Ci L d 21 [.ref 124, .int (nI wd), .int (nI h), .int (nI b), .int (nI x), .int am, .int wk] μ F := by
  obtain ⟨ea, la⟩ := an_T_e hT hb
  obtain ⟨eb, lb⟩ := an_T_e hT hx
  obtain ⟨er, lr⟩ := an_R_e hT hb hx
  have hbk := (an_RL_b hR).1 h b hh hb
  have ca := hC.1 b hb
  have cb := hC.1 x hx
  have cr := an_RC_r hC la lb
  have tail : ∀ (μ7 : am_M), an_un [130] μ μ7 → (∀ s, an_fs false s → μ7 130 (an_fi false s) = W_fal w h b am (nI (an_R w b x)) wk (an_far w b x) s) → am_Ji L d 21 116 [some (.ref 124), some (.int (nI wd)), none, some (.int (nI b)), none, none, none, some (.int (nI (an_most wd)))] [] μ7 F := by
    intro μ7 u7 hf7
    have hX7 : an_scX false (21 + 7 * b) μ7 ls := an_scX_c hX (fun c' q1 q2 => u7 c' (by simp; omega))
    refine v_Ledger_lawValueT_116 ?_
    rw [am_gd_in (by omega) (by omega)]
    rcases (by omega : b = 0 ∨ b = 1 ∨ b = 2 ∨ b = 3) with rfl | rfl | rfl | rfl
    · rw [if_pos rfl]
      refine ⟨by omega, s_firstValue_21T (by omega) (by omega) hk μ7 hX7 hf7 (fun μ8 u8 => ?_)⟩
      rw [an_gdd (by omega), an_gdd (by omega), an_cla_e (an_most_lt _)]
      exact hF μ8 (an_un_tr u7 u8 (by simp) (by simp))
    · rw [if_neg (by decide), if_pos rfl]
      refine ⟨by omega, s_firstValue_28T (by omega) (by omega) hk μ7 hX7 hf7 (fun μ8 u8 => ?_)⟩
      rw [an_gdd (by omega), an_gdd (by omega), an_cla_e (an_most_lt _)]
      exact hF μ8 (an_un_tr u7 u8 (by simp) (by simp))
    · rw [if_neg (by decide), if_neg (by decide), if_pos rfl]
      refine ⟨by omega, s_firstValue_35T (by omega) (by omega) hk μ7 hX7 hf7 (fun μ8 u8 => ?_)⟩
      rw [an_gdd (by omega), an_gdd (by omega), an_cla_e (an_most_lt _)]
      exact hF μ8 (an_un_tr u7 u8 (by simp) (by simp))
    · rw [if_neg (by decide), if_neg (by decide), if_neg (by decide), if_pos rfl]
      refine ⟨by omega, s_firstValue_42T (by omega) (by omega) hk μ7 hX7 hf7 (fun μ8 u8 => ?_)⟩
      rw [an_gdd (by omega), an_gdd (by omega), an_cla_e (an_most_lt _)]
      exact hF μ8 (an_un_tr u7 u8 (by simp) (by simp))
  have main : ∀ (μ2 : am_M), an_un [130] μ μ2 → μ2 130 0 = am → μ2 130 1 = an_b (an_far w b x) → am_Ji L d 21 32 [some (.ref 124), some (.int (nI wd)), some (.int (nI h)), some (.int (nI b)), some (.int (nI x)), none, some (.int wk), none] [] μ2 F := by
    intro μ2 u2 f0 f1
    refine v_Ledger_lawValueT_32 ?_
    rw [am_dp (by omega), am_gd_in (by omega) (by omega), am_gd_in (by omega) (by omega), am_cl (by omega : b < 2147483648), am_cl (by omega : x < 2147483648), u2 16 (by decide), ca, cb, ea, eb, pk_mul, nI_add, am_gd_in (by omega) (by omega), am_cl (by omega), u2 17 (by decide), cr, er]
    intro μ3 e3 μ4 e4 μ5 e5
    have u3 : an_un [130] μ μ3 := an_un_tr u2 (e3 ▸ an_un_w (by simp)) (fun _ q => q) (fun _ q => q)
    have u4 : an_un [130] μ μ4 := an_un_tr u3 (e4 ▸ an_un_w (by simp)) (fun _ q => q) (fun _ q => q)
    have u5 : an_un [130] μ μ5 := an_un_tr u4 (e5 ▸ an_un_w (by simp)) (fun _ q => q) (fun _ q => q)
    rw [pk_mul, nI_add, am_gd_in (by omega) (by omega), am_cl (by omega), u5 126 (by decide), hbk]
    intro μ6 e6
    have u6 : an_un [130] μ μ6 := an_un_tr u5 (e6 ▸ an_un_w (by simp)) (fun _ q => q) (fun _ q => q)
    refine ⟨by omega, s_Ledger_paidInLatelyT (by omega) (an_RL_c hR (fun c q1 q2 => u6 c (by simp; omega))) hN hday ?_⟩
    intro μ7 e7
    have u7 : an_un [130] μ μ7 := an_un_tr u6 (e7 ▸ an_un_w (by simp)) (fun _ q => q) (fun _ q => q)
    have hf7 : ∀ s, an_fs false s → μ7 130 (an_fi false s) = W_fal w h b am (nI (an_R w b x)) wk (an_far w b x) s := by
      intro s hs
      obtain ⟨hs1, hs2⟩ := hs
      rcases (by omega : s = 1 ∨ s = 2 ∨ s = 3 ∨ s = 4 ∨ s = 5 ∨ s = 6 ∨ s = 7) with rfl | rfl | rfl | rfl | rfl | rfl | rfl
      · exact (an_w_o e7 (by decide)).trans ((an_w_o e6 (by decide)).trans ((an_w_o e5 (by decide)).trans ((an_w_o e4 (by decide)).trans ((an_w_o e3 (by decide)).trans f0))))
      · exact (an_w_o e7 (by decide)).trans ((an_w_o e6 (by decide)).trans ((an_w_o e5 (by decide)).trans ((an_w_o e4 (by decide)).trans ((an_w_o e3 (by decide)).trans f1))))
      · exact (an_w_o e7 (by decide)).trans ((an_w_o e6 (by decide)).trans ((an_w_o e5 (by decide)).trans ((an_w_o e4 (by decide)).trans (an_w_s e3))))
      · exact (an_w_o e7 (by decide)).trans ((an_w_o e6 (by decide)).trans ((an_w_o e5 (by decide)).trans (an_w_s e4)))
      · exact (an_w_o e7 (by decide)).trans ((an_w_o e6 (by decide)).trans (an_w_s e5))
      · exact (an_w_o e7 (by decide)).trans (an_w_s e6)
      · exact an_w_s e7
    have ht := tail μ7 u7 hf7
    rcases (by omega : wd = 0 ∨ wd = 1 ∨ wd = 2) with rfl | rfl | rfl
    · rw [if_neg (by decide)]; exact ht
    · rw [if_pos (by decide), if_neg (by decide)]; exact ht
    · rw [if_pos (by decide), if_pos (by decide)]; exact ht
  refine v_Ledger_lawValueT ?_
  intro μ1 e1
  have u1 : an_un [130] μ μ1 := e1 ▸ an_un_w (by simp)
  rw [am_dp (by omega), am_gd_in (by omega) (by omega), am_gd_in (by omega) (by omega), am_cl (by omega : b < 2147483648), am_cl (by omega : x < 2147483648), u1 16 (by decide), ca, cb, ea, eb]
  by_cases hq : an_T w b = an_T w x
  · rw [if_pos (by rw [hq])]
    intro μ2 e2
    refine main μ2 (an_un_tr u1 (e2 ▸ an_un_w (by simp)) (fun _ q => q) (fun _ q => q)) ((an_w_o e2 (by decide)).trans (an_w_s e1)) ((an_w_s e2).trans ?_)
    unfold an_far
    rw [hq, Nat.beq_refl]
    rfl
  · rw [if_neg (fun z => hq ((nI_eq (by omega) (by omega)).mp z))]
    intro μ2 e2
    refine main μ2 (an_un_tr u1 (e2 ▸ an_un_w (by simp)) (fun _ q => q) (fun _ q => q)) ((an_w_o e2 (by decide)).trans (an_w_s e1)) ((an_w_s e2).trans ?_)
    unfold an_far
    rw [am_nb hq]
    rfl
theorem s_M_gathers {L d : Nat} {μ : am_M} {F : am_M → Prop} {w : an_W} {h b dd : Nat} {am rl : Int32} {far : Bool} (hd : 4 ≤ d) (hh : h < 6) (hb : b < 4) (hdd : dd < 1000000) (hw : μ 141 = w) (hN : an_N (w 1) 151)
    (hF : ∀ μ', an_un [148] μ μ' → (∀ s, an_fs false s → μ' 148 s = W_fal w h b am rl (nI (dd % 7)) far s) → F μ') : am_Cv L d 183 [.ref 140, .int (nI h), .int (nI b), .int am, .int rl, .int (an_b far), .int (nI dd)] μ F := by
  have main : ∀ (μ2 : am_M), an_un [148] μ μ2 → μ2 148 1 = am → μ2 148 2 = an_b far → μ2 148 3 = rl → am_Jv L d 183 31 [some (.ref 140), some (.int (nI h)), some (.int (nI b)), none, none, none, some (.int (nI dd))] [] μ2 F := by
    intro μ2 u2 f1 f2 f3
    refine v_M_gathers_31 ?_
    intro μ4 e4
    rw [an_gdz (by omega) (by omega), an_rem (by omega) (by omega) (by omega)]
    intro μ5 e5
    have u4 : an_un [148] μ μ4 := an_un_tr u2 (e4 ▸ an_un_w (by simp)) (fun _ q => q) (fun _ q => q)
    have u5 : an_un [148] μ μ5 := an_un_tr u4 (e5 ▸ an_un_w (by simp)) (fun _ q => q) (fun _ q => q)
    rw [pk_mul, nI_add, nI_add, am_gd_in (by omega) (by omega), am_cl (by omega), u5 141 (by decide), hw]
    intro μ6 e6
    have u6 : an_un [148] μ μ6 := an_un_tr u5 (e6 ▸ an_un_w (by simp)) (fun _ q => q) (fun _ q => q)
    refine ⟨by omega, s_M_countOf (by omega) ((u6 141 (by decide)).trans hw) hN ?_⟩
    intro μ7 e7
    have u7 : an_un [148] μ μ7 := an_un_tr u6 (e7 ▸ an_un_w (by simp)) (fun _ q => q) (fun _ q => q)
    refine hF μ7 u7 ?_
    intro s hs
    obtain ⟨hs1, hs2⟩ := hs
    rcases (by omega : s = 1 ∨ s = 2 ∨ s = 3 ∨ s = 4 ∨ s = 5 ∨ s = 6 ∨ s = 7) with rfl | rfl | rfl | rfl | rfl | rfl | rfl
    · exact (an_w_o e7 (by decide)).trans ((an_w_o e6 (by decide)).trans ((an_w_o e5 (by decide)).trans ((an_w_o e4 (by decide)).trans f1)))
    · exact (an_w_o e7 (by decide)).trans ((an_w_o e6 (by decide)).trans ((an_w_o e5 (by decide)).trans ((an_w_o e4 (by decide)).trans f2)))
    · exact (an_w_o e7 (by decide)).trans ((an_w_o e6 (by decide)).trans ((an_w_o e5 (by decide)).trans ((an_w_o e4 (by decide)).trans f3)))
    · exact (an_w_o e7 (by decide)).trans ((an_w_o e6 (by decide)).trans ((an_w_o e5 (by decide)).trans (an_w_s e4)))
    · exact (an_w_o e7 (by decide)).trans ((an_w_o e6 (by decide)).trans (an_w_s e5))
    · exact (an_w_o e7 (by decide)).trans (an_w_s e6)
    · exact an_w_s e7
  refine v_M_gathers ?_
  intro μ1 e1 μ2 e2
  have u1 : an_un [148] μ μ1 := e1 ▸ an_un_w (by simp)
  have u2 : an_un [148] μ μ2 := an_un_tr u1 (e2 ▸ an_un_w (by simp)) (fun _ q => q) (fun _ q => q)
  rw [an_bf]
  cases far with
  | true =>
    intro μ3 e3
    exact main μ3 (an_un_tr u2 (e3 ▸ an_un_w (by simp)) (fun _ q => q) (fun _ q => q)) ((an_w_o e3 (by decide)).trans ((an_w_o e2 (by decide)).trans (an_w_s e1))) (an_w_s e3) ((an_w_o e3 (by decide)).trans (an_w_s e2))
  | false =>
    intro μ3 e3
    exact main μ3 (an_un_tr u2 (e3 ▸ an_un_w (by simp)) (fun _ q => q) (fun _ q => q)) ((an_w_o e3 (by decide)).trans ((an_w_o e2 (by decide)).trans (an_w_s e1))) (an_w_s e3) ((an_w_o e3 (by decide)).trans (an_w_s e2))
