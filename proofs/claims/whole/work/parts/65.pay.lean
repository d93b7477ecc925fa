/-! A cheque is paid in. -/
theorem an_upd_comm {w : an_W} {i j : Nat} {x y : Int32} (h : i ≠ j) : upd (upd w i x) j y = upd (upd w j y) i x := by
  funext q
  unfold upd
  by_cases h1 : q = j
  · rw [if_pos h1, if_neg (by omega), if_pos h1]
  · rw [if_neg h1, if_neg h1]
theorem an_uf_upd : ∀ (l : List Int32) (w : an_W) (e i : Nat) (x : Int32), i < e → an_uf (upd w i x) e l = upd (an_uf w e l) i x := by
  intro l
  induction l with
  | nil => intro w e i x _; rfl
  | cons a l ih =>
    intro w e i x h
    rw [an_uf, an_uf, an_upd_comm (by omega), ih _ _ _ _ (by omega)]
theorem W_books_upd {w : an_W} {h b i : Nat} {kind k v x : Int32} (h1 : 0 < i) (h2 : i < 9810) (h3 : ¬ i = 210 + 4 * h + b) (hh : h < 6) (hb : b < 4) : W_books (upd w i x) h b kind k v = upd (W_books w h b kind k v) i x := by
  unfold W_books an_E
  rw [pk_un (show 210 + 4 * h + b ≠ i by omega), pk_un (show 9810 ≠ i by omega), pk_un (show 0 ≠ i by omega)]
  split
  · rfl
  · split
    · rw [an_upd_comm (by omega)]
    · rw [an_upd_comm (show i ≠ 210 + 4 * h + b by omega), an_uf_upd _ _ _ _ _ (by omega), an_upd_comm (by omega)]
def an_day (w : an_W) : Nat := (w 0).toNatClampNeg
def an_hold (w : an_W) (ls : List an_Ln) (t b x a : Nat) : Int32 := W_law w ls 0 t b (nI a) (nI (an_R w b x)) (nI (an_day w % 7)) (an_far w b x)
def an_prow (w : an_W) (ls : List an_Ln) (h x t b a : Nat) : List Int32 := [nI h, nI x, nI t, nI b, nI a, w 0, nI 0, nI (an_R w b x), an_hold w ls t b x a, - nI 1]
def W_pay (w : an_W) (ls : List an_Ln) (h x t b a : Nat) : an_W := upd (W_books (an_uf w (3640 + 12 * an_cnt w) (an_prow w ls h x t b a)) t b (nI 1) (nI (an_cnt w)) (nI a)) 1 (nI (an_cnt w + 1))
theorem s_put {L d : Nat} {μ : am_M} {F : am_M → Prop} {k f : Nat} {v : Int32} (hk : k < 150) (hf : f < 10) (hF : ∀ μ', μ' = am_w μ 59 (k * 10 + f) v → F μ') : am_Cv L d 14 [.ref 58, .int (nI k), .int (nI f), .int v] μ F := by
  refine v_Ledger_put ?_
  rw [pk_mul, nI_add, am_gd_in (by omega) (by omega), am_cl (by omega)]
  exact hF
theorem s_putT {L d : Nat} {μ : am_M} {F : am_M → Prop} {k f : Nat} {v : Int32} (hk : k < 150) (hf : f < 10) (hF : ∀ μ', μ' = am_w μ 125 (k * 10 + f) v → F μ') : am_Cv L d 14 [.ref 124, .int (nI k), .int (nI f), .int v] μ F := by
  refine v_Ledger_putT ?_
  rw [pk_mul, nI_add, am_gd_in (by omega) (by omega), am_cl (by omega)]
  exact hF
theorem s_takeIn {L d : Nat} {μ : am_M} {F : Int32 → am_M → Prop} {w : an_W} {h x t b a D : Nat} {ls : List an_Ln} (hd : 8 ≤ d) (hh : h < 6) (hx : x < 4) (ht : t < 6) (hb : b < 4) (ha : 0 < a) (ha2 : a < 100000) (hD : w 0 = nI D) (hD9 : D < 90) (hR : an_RL 58 w μ) (hC : an_RC 15 w μ) (hT : an_WT w) (hRE : an_RE 56 w μ) (hE : an_N (w 9810) 901) (hN : an_N (w 1) 151) (h150 : an_cnt w < 150) (hday : an_days w) (hk : an_okl false ls) (hX : an_scX false (21 + 7 * b) μ ls)
    (hF : ∀ μ', an_un [56, 57, 58, 59, 60, 64, 27, 34, 41, 48] μ μ' → an_RL 58 (W_pay w ls h x t b a) μ' → an_RE 56 (W_pay w ls h x t b a) μ' → F (nI (an_cnt w)) μ') : am_Ci L d 23 [.ref 58, .int (nI h), .int (nI x), .int (nI t), .int (nI b), .int (nI a)] μ F := by
  obtain ⟨eN, lN⟩ := an_cnt_e hN
  have eday : an_day w = D := by unfold an_day; rw [hD, am_cl (by omega)]
  refine v_Ledger_takeIn ?_
  rw [hR.2.1, eN, if_pos (nI_lt h150 (by omega)), an_gdz (by omega) (by omega), hR.1, hD, an_rem (by omega) (by omega) (by omega)]
  refine ⟨by omega, s_lawValue (by omega) (by omega) ht hb hx hR hC hT hN hday hk hX (fun μ1 u1 => ?_)⟩
  have c1 : μ1 58 9 = nI (an_cnt w) := by rw [u1 58 (by decide), hR.2.1, eN]
  rw [c1, nI_add]
  intro μ3 e3
  refine ⟨by omega, s_put h150 (by omega) (fun μ4 e4 => ?_)⟩
  refine ⟨by omega, s_put h150 (by omega) (fun μ5 e5 => ?_)⟩
  refine ⟨by omega, s_put h150 (by omega) (fun μ6 e6 => ?_)⟩
  refine ⟨by omega, s_put h150 (by omega) (fun μ7 e7 => ?_)⟩
  refine ⟨by omega, s_put h150 (by omega) (fun μ8 e8 => ?_)⟩
  have c8 : μ8 58 8 = w 0 := by rw [an_w_c e8 (by decide), an_w_c e7 (by decide), an_w_c e6 (by decide), an_w_c e5 (by decide), an_w_c e4 (by decide), an_w_o e3 (by decide), u1 58 (by decide)]; exact hR.1
  rw [c8]
  refine ⟨by omega, s_put h150 (by omega) (fun μ9 e9 => ?_)⟩
  refine ⟨by omega, s_put h150 (by omega) (fun μ10 e10 => ?_)⟩
  have k10 : ∀ c, c ≠ 58 → c ≠ 59 → c ∉ [64, 27, 34, 41, 48] → μ10 c = μ c := fun c q1 q2 q3 => by rw [an_w_c e10 q2, an_w_c e9 q2, an_w_c e8 q2, an_w_c e7 q2, an_w_c e6 q2, an_w_c e5 q2, an_w_c e4 q2, an_w_c e3 q1, u1 c q3]
  obtain ⟨ea, la⟩ := an_T_e hT hb
  obtain ⟨eb, lb⟩ := an_T_e hT hx
  obtain ⟨er, lr⟩ := an_R_e hT hb hx
  rw [am_dp (by omega), am_gd_in (by omega) (by omega), am_gd_in (by omega) (by omega), am_cl (by omega : b < 2147483648), am_cl (by omega : x < 2147483648), k10 16 (by decide) (by decide) (by decide), hC.1 b hb, hC.1 x hx, ea, eb, pk_mul, nI_add, am_gd_in (by omega) (by omega), am_cl (by omega), k10 17 (by decide) (by decide) (by decide), an_RC_r hC la lb, er]
  refine ⟨by omega, s_put h150 (by omega) (fun μ11 e11 => ?_)⟩
  refine ⟨by omega, s_put h150 (by omega) (fun μ12 e12 => ?_)⟩
  refine ⟨by omega, s_put h150 (by omega) (fun μ13 e13 => ?_)⟩
  have k13 : ∀ c, c ≠ 58 → c ≠ 59 → c ∉ [64, 27, 34, 41, 48] → μ13 c = μ c := fun c q1 q2 q3 => by rw [an_w_c e13 q2, an_w_c e12 q2, an_w_c e11 q2, k10 c q1 q2 q3]
  have r13 : μ13 59 = an_uf (μ 59) (an_cnt w * 10) (an_prow w ls h x t b a) := by
    rw [e13, am_w_at, e12, am_w_at, e11, am_w_at, e10, am_w_at, e9, am_w_at, e8, am_w_at, e7, am_w_at, e6, am_w_at, e5, am_w_at, e4, am_w_at, an_w_c e3 (by decide), u1 59 (by decide)]
    unfold an_prow an_hold
    rw [eday, hD]
    rfl
  have d13 : ∀ f, μ13 58 f = upd (μ 58) 9 (nI (an_cnt w + 1)) f := fun f => by rw [an_w_c e13 (by decide), an_w_c e12 (by decide), an_w_c e11 (by decide), an_w_c e10 (by decide), an_w_c e9 (by decide), an_w_c e8 (by decide), an_w_c e7 (by decide), an_w_c e6 (by decide), an_w_c e5 (by decide), an_w_c e4 (by decide), e3, am_w_at, u1 58 (by decide)]
  have hlen : (an_prow w ls h x t b a).length = 10 := rfl
  obtain ⟨g1, g2, g3, g4, g5, g6⟩ := id hR
  have W1 : ∀ j, j < 9810 → j ≠ 1 → (j < 3640 + 12 * an_cnt w ∨ 3640 + 12 * an_cnt w + 10 ≤ j) → upd (an_uf w (3640 + 12 * an_cnt w) (an_prow w ls h x t b a)) 1 (nI (an_cnt w + 1)) j = w j := fun j q1 q2 q3 => by rw [pk_un q2, an_uf_out _ _ _ _ (by rw [hlen]; exact q3)]
  have W2 : ∀ j, 9810 ≤ j → upd (an_uf w (3640 + 12 * an_cnt w) (an_prow w ls h x t b a)) 1 (nI (an_cnt w + 1)) j = w j := fun j q1 => by rw [pk_un (by omega), an_uf_out _ _ _ _ (by rw [hlen]; omega)]
  have hRs : an_RL 58 (upd (an_uf w (3640 + 12 * an_cnt w) (an_prow w ls h x t b a)) 1 (nI (an_cnt w + 1))) μ13 := by
    refine ⟨?_, ?_, fun k f hk hf => ?_, fun i hi => ?_, fun i hi => ?_, fun i hi => ?_⟩
    · rw [d13, pk_un (by omega), W1 0 (by omega) (by omega) (by omega)]; exact g1
    · rw [d13, pk_us, pk_us]
    · show μ13 59 _ = _
      rw [r13]
      by_cases q : k = an_cnt w
      · subst q
        rw [an_uf_in _ _ _ _ (by rw [hlen]; exact hf), pk_un (by omega), an_uf_in _ _ _ _ (by rw [hlen]; exact hf)]
      · rw [an_uf_out _ _ _ _ (by rw [hlen]; omega), W1 _ (by omega) (by omega) (by omega)]
        exact g3 k f hk hf
    · show μ13 60 _ = _
      rw [k13 60 (by decide) (by decide) (by decide), W1 _ (by omega) (by omega) (by omega)]; exact g4 i hi
    · show μ13 61 _ = _
      rw [k13 61 (by decide) (by decide) (by decide), W1 _ (by omega) (by omega) (by omega)]; exact g5 i hi
    · show μ13 62 _ = _
      rw [k13 62 (by decide) (by decide) (by decide), W1 _ (by omega) (by omega) (by omega)]; exact g6 i hi
  have hREs : an_RE 56 (upd (an_uf w (3640 + 12 * an_cnt w) (an_prow w ls h x t b a)) 1 (nI (an_cnt w + 1))) μ13 := by
    refine ⟨?_, fun i hi => ?_⟩
    · rw [k13 56 (by decide) (by decide) (by decide), W2 _ (by omega)]; exact hRE.1
    · show μ13 57 i = _
      rw [k13 57 (by decide) (by decide) (by decide), W2 _ (by omega)]; exact hRE.2 i hi
  refine ⟨by omega, s_Ledger_change (by omega) ht hb hRs hREs (by rw [W2 _ (by omega)]; exact hE) (nI_ne0 ha (by omega)) (fun μ14 u14 gR gE => ?_)⟩
  have eW : W_books (upd (an_uf w (3640 + 12 * an_cnt w) (an_prow w ls h x t b a)) 1 (nI (an_cnt w + 1))) t b (nI 1) (nI (an_cnt w)) (nI a) = W_pay w ls h x t b a := W_books_upd (by omega) (by omega) (by omega) ht hb
  rw [eW] at gR gE
  refine hF μ14 (fun c hc => ?_) gR gE
  simp only [List.mem_cons, List.not_mem_nil, or_false, not_or] at hc
  rw [u14 c (by simp; omega), k13 c (by omega) (by omega) (by simp; omega)]
