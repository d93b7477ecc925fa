/-! Texts: the model's lines. -/
variable {nb : Nat}
theorem an_wcr_s {s : List Nat} (hs : s ≠ []) : ∀ m, m ≤ 14 → ¬ (an_wcr true s m).1 = 101 ∧ ¬ (an_wcr true s m).1 = 102 := by
  intro m
  induction m with
  | zero => intro _; exact ⟨by show ¬ 1 = 101; omega, by show ¬ 1 = 102; omega⟩
  | succ m ih =>
    intro hm
    rw [an_wcr]
    by_cases q : s = an_wd (an_wx true (13 - m))
    · rw [if_pos q]
      have n1 : ¬ 13 - m = 1 := fun z => hs (by rw [q, z]; rfl)
      have n2 : ¬ 13 - m = 2 := fun z => hs (by rw [q, z]; rfl)
      split
      · exact ⟨by show ¬ 100 + (13 - m) = 101; omega, by show ¬ 100 + (13 - m) = 102; omega⟩
      · exact ⟨by show ¬ 3 = 101; omega, by show ¬ 3 = 102; omega⟩
    · rw [if_neg q]
      exact ih (by omega)
theorem an_t0_s {B : Nat → Nat} {T p : Nat} (h : p < T) : ¬ (an_t0 true B T p).1 = 101 ∧ ¬ (an_t0 true B T p).1 = 102 := by
  unfold an_t0
  cases hl : an_let (B p) with
  | true =>
    refine an_wcr_s (fun z => ?_) 14 (by omega)
    have r := an_run_le (P := an_let) (B := B) (T := T) (T - (p + 1)) (p + 1)
    rw [an_run_1 h hl, show an_run an_let B T (T - (p + 1)) (p + 1) - p = (an_run an_let B T (T - (p + 1)) (p + 1) - p - 1) + 1 by omega, an_sl] at z
    cases z
  | false =>
    cases hd : an_dig (B p) with
    | true =>
      dsimp only
      by_cases q : 5 < an_run an_dig B T (T - p) p - p
      · rw [if_pos q]; exact ⟨by omega, by omega⟩
      · rw [if_neg q]; exact ⟨by omega, by omega⟩
    | false =>
      dsimp only
      cases hs : an_sgn (B p) with
      | true =>
        have := an_sgn_i hs
        rw [if_pos rfl]
        exact ⟨by omega, by omega⟩
      | false =>
        rw [if_neg (by decide)]
        exact ⟨by omega, by omega⟩
theorem an_tk_s {B : Nat → Nat} {T : Nat} : ∀ j, ¬ (an_tk true B T j).1 = 101 ∧ ¬ (an_tk true B T j).1 = 102 := by
  have ok : ∀ p, p ≤ T → ¬ (an_tp true B T p).1 = 101 ∧ ¬ (an_tp true B T p).1 = 102 := by
    intro p hp
    rcases an_tp_ok (sg := true) (B := B) (T := T) (T - p) p (by omega) with e | ⟨q, h1, h2, e⟩
    · rw [e]; exact ⟨by show ¬ 0 = 101; omega, by show ¬ 0 = 102; omega⟩
    · rw [e]; exact an_t0_s h2
  obtain ⟨N, _, _, _, _, _, h⟩ := an_tk_N (sg := true) (B := B) (T := T)
  intro j
  cases j with
  | zero => exact ok 0 (by omega)
  | succ j => exact ok _ (h j).2
def an_mF (μ μ' : am_M) : Prop := an_un [140, 144, 145] μ μ' ∧ ∀ f, f ≠ 10 → f ≠ 11 → f ≠ 13 → f ≠ 14 → f ≠ 15 → f ≠ 16 → f ≠ 17 → f ≠ 18 → f ≠ 20 → μ' 140 f = μ 140 f
theorem an_mF_rf {μ : am_M} : an_mF μ μ := ⟨an_un_rf, fun _ _ _ _ _ _ _ _ _ _ => rfl⟩
theorem an_mF_tr {μ μ' μ'' : am_M} (h : an_mF μ μ') (h' : an_mF μ' μ'') : an_mF μ μ'' := ⟨an_un_tr h.1 h'.1 (fun _ z => z) (fun _ z => z), fun f a b c e g i k l m => (h'.2 f a b c e g i k l m).trans (h.2 f a b c e g i k l m)⟩
theorem an_mF_f {μ μ' : am_M} (h : an_mfr μ μ') : an_mF μ μ' := ⟨fun c hc => h.1 c (fun z => hc (by simp at z ⊢; omega)), fun f _ b c e g i k l m => h.2 f b c e g i k l m⟩
theorem an_mF_w {μ μ' : am_M} {f : Nat} {v : Int32} (e : μ' = am_w μ 140 f v) (hf : f = 10 ∨ f = 20) : an_mF μ μ' := ⟨e ▸ an_un_w (by simp), fun g _ _ _ _ _ _ _ _ _ => an_w_o e (by omega)⟩
theorem an_mF_4 {μ μ' : am_M} {i : Nat} {v : Int32} (e : μ' = am_w μ 144 i v) : an_mF μ μ' := ⟨e ▸ an_un_w (by simp), fun g _ _ _ _ _ _ _ _ _ => by rw [an_w_c e (by decide)]⟩
/-- the lines laid, within n steps -/
def an_mX (μ : am_M) (ls : List an_Ln) (n : Nat) : Prop := ∀ i e, ls[i]? = some e → ∃ f g h, μ 144 (4 * i) = nI e.1 ∧ μ 144 (4 * i + 1) = nI f ∧ μ 144 (4 * i + 2) = nI g ∧ μ 144 (4 * i + 3) = nI h ∧ h ≤ n ∧ an_sq (an_rws (μ 145)) f e.2.1 g ∧ an_sq (an_rws (μ 145)) g e.2.2 h
theorem an_mX_c {μ μ' : am_M} {ls : List an_Ln} {n : Nat} (h : an_mX μ ls n) (h4 : ∀ i, i < 4 * ls.length → μ' 144 i = μ 144 i) (h5 : ∀ i, i < 2 * n → μ' 145 i = μ 145 i) : an_mX μ' ls n := by
  intro i e he
  have hi := (List.getElem?_eq_some_iff.mp he).1
  obtain ⟨f, g, x, g1, g2, g3, g4, g5, g6, g7⟩ := h i e he
  have l := (an_sq_le an_rws_lt _ _ _ g7).1
  exact ⟨f, g, x, by rw [h4 _ (by omega)]; exact g1, by rw [h4 _ (by omega)]; exact g2, by rw [h4 _ (by omega)]; exact g3, by rw [h4 _ (by omega)]; exact g4, g5, an_sqr_c g6 (fun y hy => h5 y (by omega)), an_sqr_c g7 (fun y hy => h5 y (by omega))⟩
theorem an_mX_a {μ : am_M} {ls : List an_Ln} {c wd n0 n2 n : Nat} {s s' : List (Nat × Nat)} (h : an_mX μ ls n0) (hc : ls.length = c) (hn : n0 ≤ n) (a0 : μ 144 (4 * c) = nI wd) (a1 : μ 144 (4 * c + 1) = nI n0) (a2 : μ 144 (4 * c + 2) = nI n2) (a3 : μ 144 (4 * c + 3) = nI n) (q1 : an_sq (an_rws (μ 145)) n0 s n2) (q2 : an_sq (an_rws (μ 145)) n2 s' n) : an_mX μ (ls ++ [(wd, s, s')]) n := by
  intro i e he
  rcases Nat.lt_or_ge i ls.length with q | q
  · rw [List.getElem?_append_left q] at he
    obtain ⟨f, g, x, g1, g2, g3, g4, g5, g6, g7⟩ := h i e he
    exact ⟨f, g, x, g1, g2, g3, g4, by omega, g6, g7⟩
  · rw [List.getElem?_append_right q] at he
    have hi0 : i - ls.length = 0 := by
      rcases Nat.eq_zero_or_pos (i - ls.length) with y | y
      · exact y
      · rw [List.getElem?_eq_none (by simp; omega)] at he; cases he
    have ei : i = c := by omega
    rw [hi0] at he
    have he : (wd, s, s') = e := by simpa using he
    subst he
    subst ei
    exact ⟨n0, n2, n, a0, a1, a2, a3, Nat.le_refl _, q1, q2⟩
theorem an_mI_4 {sg : Bool} {B : Nat → Nat} {T N : Nat} {μ μ' : am_M} {j n i : Nat} {x : Int32} (h : an_mI sg B T N μ j n) (e : μ' = am_w μ 144 i x) : an_mI sg B T N μ' j n := by
  obtain ⟨⟨h1, h1b, h1c⟩, h2, h3, h4, h5, h6⟩ := h
  have r : μ' 140 = μ 140 := an_w_c e (by decide)
  have r6 : μ' 146 = μ 146 := an_w_c e (by decide)
  refine ⟨⟨⟨h1.1, fun j hj => by rw [r6]; exact h1.2 j hj⟩, by rw [r]; exact h1b, ?_⟩, ?_, h3, h4, by rw [r]; exact h5, h6⟩
  · unfold an_wh
    rw [r]
    exact h1c
  · unfold an_ntk
    rw [r]
    exact h2
/-- a line begun: its word and from where, and what is laid of it -/
def an_mP1 (sg : Bool) (B : Nat → Nat) (T N c : Nat) (ls : List an_Ln) (wd n0 : Nat) (s : List (Nat × Nat)) (μ : am_M) (j n : Nat) : Prop := an_mI sg B T N μ j n ∧ μ 140 10 = nI c ∧ an_mX μ ls n0 ∧ μ 144 (4 * c) = nI wd ∧ μ 144 (4 * c + 1) = nI n0 ∧ n0 ≤ n ∧ an_sq (an_rws (μ 145)) n0 s n
/-- and its condition begun -/
def an_mP2 (sg : Bool) (B : Nat → Nat) (T N c : Nat) (ls : List an_Ln) (wd n0 n2 : Nat) (s s' : List (Nat × Nat)) (μ : am_M) (j n : Nat) : Prop := an_mI sg B T N μ j n ∧ μ 140 10 = nI c ∧ an_mX μ ls n0 ∧ μ 144 (4 * c) = nI wd ∧ μ 144 (4 * c + 1) = nI n0 ∧ μ 144 (4 * c + 2) = nI n2 ∧ n0 ≤ n2 ∧ n2 ≤ n ∧ an_sq (an_rws (μ 145)) n0 s n2 ∧ an_sq (an_rws (μ 145)) n2 s' n
theorem an_mP1_g {sg : Bool} {B : Nat → Nat} {T N c wd n0 j n j' n' : Nat} {ls : List an_Ln} {s s2 : List (Nat × Nat)} {μ μ' : am_M} (h : an_mP1 sg B T N c ls wd n0 s μ j n) (g : an_mg sg B T N μ j n s2 μ' j' n') : an_mP1 sg B T N c ls wd n0 (s ++ s2) μ' j' n' := by
  have l := an_mg_le g
  obtain ⟨h1, h2, h3, h4, h5, h6, h7⟩ := h
  obtain ⟨g1, g2, g3, g4, g5, g6⟩ := g
  have r : μ' 144 = μ 144 := g1.1 144 (by decide)
  exact ⟨g2, by rw [g1.2 10 (by decide) (by decide) (by decide) (by decide) (by decide) (by decide) (by decide) (by decide)]; exact h2, an_mX_c h3 (fun i _ => by rw [r]) (fun i hi => g5 i (by omega)), by rw [r]; exact h4, by rw [r]; exact h5, by omega, an_sq_app _ _ _ _ _ (an_sqr_c h7 g5) g4⟩
theorem an_mP2_g {sg : Bool} {B : Nat → Nat} {T N c wd n0 n2 j n j' n' : Nat} {ls : List an_Ln} {s s' s2 : List (Nat × Nat)} {μ μ' : am_M} (h : an_mP2 sg B T N c ls wd n0 n2 s s' μ j n) (g : an_mg sg B T N μ j n s2 μ' j' n') : an_mP2 sg B T N c ls wd n0 n2 s (s' ++ s2) μ' j' n' := by
  have l := an_mg_le g
  obtain ⟨h1, h2, h3, h4, h5, h6, h7, h8, h9, h10⟩ := h
  obtain ⟨g1, g2, g3, g4, g5, g6⟩ := g
  have r : μ' 144 = μ 144 := g1.1 144 (by decide)
  exact ⟨g2, by rw [g1.2 10 (by decide) (by decide) (by decide) (by decide) (by decide) (by decide) (by decide) (by decide)]; exact h2, an_mX_c h3 (fun i _ => by rw [r]) (fun i hi => g5 i (by omega)), by rw [r]; exact h4, by rw [r]; exact h5, by rw [r]; exact h6, h7, by omega, an_sqr_c h9 (fun i hi => g5 i (by omega)), an_sq_app _ _ _ _ _ (an_sqr_c h10 g5) g4⟩
theorem m_opn {L d c wd N T j n : Nat} {sg : Bool} {B : Nat → Nat} {ls : List an_Ln} {μ : am_M} {G : am_M → Prop} (ht : an_tkk sg B T N) (hd : 15 ≤ d) (hI : an_mI sg B T N μ j n) (h10 : μ 140 10 = nI c) (c12 : c < 12) (hc : ls.length = c) (hX : an_mX μ ls n) (hk : ¬ (an_tk sg B T j).1 = 0) (hw : an_mt sg (an_tk sg B T j).1 (an_tk sg B T j).2.1 = 20 + wd) (hG : ∀ μ', an_mF μ μ' → an_mP1 sg B T N c ls wd n [] μ' (j + 1) n → μ' 140 20 = nI 0 → G μ') : am_put (am_w μ 140 20 (nI 0)) (fun μ5 => am_gd (am_inb ((nI 4) * (μ5 140 10)) 48) (am_put (am_w μ5 144 (((nI 4) * (μ5 140 10)).toNatClampNeg) ((μ5 140 14) - (nI 20))) (fun μ6 => am_gd (am_inb (((nI 4) * (μ6 140 10)) + (nI 1)) 48) (am_put (am_w μ6 144 ((((nI 4) * (μ6 140 10)) + (nI 1)).toNatClampNeg) (μ6 140 11)) (fun μ7 => 0 < d ∧ am_Cv L (d - 1) 164 [.ref 140] μ7 (fun μ8 => G μ8)))))) := by
  intro μ5 e5
  have I5 := an_mI_20 hI e5
  have x5 : μ5 140 10 = nI c := by rw [an_w_o e5 (by decide)]; exact h10
  rw [x5, I5.2.1.1, hw, pk_mul, am_gd_in (by omega) (by omega), am_cl (by omega), pk_sub (by omega), show 20 + wd - 20 = wd by omega]
  intro μ6 e6
  have I6 := an_mI_4 I5 e6
  have x6 : μ6 140 10 = nI c := by rw [an_w_c e6 (by decide)]; exact x5
  rw [x6, pk_mul, nI_add, am_gd_in (by omega) (by omega), am_cl (by omega), I6.2.2.2.2.1.1]
  intro μ7 e7
  have I7 := an_mI_4 I6 e7
  refine ⟨by omega, m_next ht (by omega) I7 hk (fun μ8 g8 r8 => ?_)⟩
  have q4 : μ8 144 = μ7 144 := g8.1.1 144 (by decide)
  have q5 : μ8 145 = μ 145 := by rw [r8, an_w_c e7 (by decide), an_w_c e6 (by decide), an_w_c e5 (by decide)]
  refine hG μ8 (an_mF_tr (an_mF_tr (an_mF_w e5 (by omega)) (an_mF_4 e6)) (an_mF_tr (an_mF_4 e7) (an_mF_f g8.1))) ⟨g8.2.1, ?_, ?_, ?_, ?_, Nat.le_refl _, rfl⟩ ?_
  · rw [g8.1.2 10 (by decide) (by decide) (by decide) (by decide) (by decide) (by decide) (by decide) (by decide), an_w_c e7 (by decide)]
    exact x6
  · refine an_mX_c hX (fun i hi => ?_) (fun i hi => by rw [q5])
    rw [q4, an_w_o e7 (by omega), an_w_o e6 (by omega), an_w_c e5 (by decide)]
  · rw [q4, an_w_o e7 (by omega)]; exact an_w_s e6
  · rw [q4]; exact an_w_s e7
  · rw [g8.2.2.2.2.2, an_w_c e7 (by decide), an_w_c e6 (by decide)]; exact an_w_s e5
theorem m_mid {c wd n0 N T j n : Nat} {sg : Bool} {B : Nat → Nat} {ls : List an_Ln} {s : List (Nat × Nat)} {μ : am_M} {G : am_M → Prop} (h : an_mP1 sg B T N c ls wd n0 s μ j n) (c12 : c < 12) (hc : ls.length = c) (hG : ∀ μ', an_mF μ μ' → an_mP2 sg B T N c ls wd n0 n s [] μ' j n → μ' 140 20 = μ 140 20 → G μ') : am_gd (am_inb (((nI 4) * (μ 140 10)) + (nI 2)) 48) (am_put (am_w μ 144 ((((nI 4) * (μ 140 10)) + (nI 2)).toNatClampNeg) (μ 140 11)) (fun μ11 => G μ11)) := by
  obtain ⟨h1, h2, h3, h4, h5, h6, h7⟩ := h
  rw [h2, pk_mul, nI_add, am_gd_in (by omega) (by omega), am_cl (by omega), h1.2.2.2.2.1.1]
  intro μ1 e1
  have r5 : μ1 145 = μ 145 := an_w_c e1 (by decide)
  refine hG μ1 (an_mF_4 e1) ⟨an_mI_4 h1 e1, by rw [an_w_c e1 (by decide)]; exact h2, an_mX_c h3 (fun i hi => an_w_o e1 (by omega)) (fun i _ => by rw [r5]), by rw [an_w_o e1 (by omega)]; exact h4, by rw [an_w_o e1 (by omega)]; exact h5, an_w_s e1, h6, Nat.le_refl _, by rw [r5]; exact h7, rfl⟩ (by rw [an_w_c e1 (by decide)])
theorem m_lst {L d c wd n0 n2 N T j n : Nat} {sg : Bool} {B : Nat → Nat} {ls : List an_Ln} {s s' : List (Nat × Nat)} {μ : am_M} {F : Int32 → am_M → Prop} (ht : an_tkk sg B T N) (hd : 15 ≤ d) (h : an_mP2 sg B T N c ls wd n0 n2 s s' μ j n) (c12 : c < 12) (hc : ls.length = c)
    (hok : (an_tk sg B T j).1 = 59 → ∀ μ', an_mF μ μ' → an_mI sg B T N μ' (j + 1) n → μ' 140 10 = nI c → an_mX μ' (ls ++ [(wd, s, s')]) n → F (nI 1) μ') (hbad : ¬ (an_tk sg B T j).1 = 59 → ∀ μ', an_mF μ μ' → μ' 140 17 = nI 1 → μ' 140 18 = nI (an_tk sg B T j).2.2.1 → F (nI 0) μ') : am_gd (am_inb (((nI 4) * (μ 140 10)) + (nI 3)) 48) (am_put (am_w μ 144 ((((nI 4) * (μ 140 10)) + (nI 3)).toNatClampNeg) (μ 140 11)) (fun μ12 => 0 < d ∧ am_Ci L (d - 1) 166 [.ref 140, .int (nI 159)] μ12 (fun y14 μ13 => am_gd (am_nar 1 y14) (F y14 μ13)))) := by
  obtain ⟨h1, h2, h3, h4, h5, h6, h7, h8, h9, hA⟩ := h
  rw [h2, pk_mul, nI_add, am_gd_in (by omega) (by omega), am_cl (by omega), h1.2.2.2.2.1.1]
  intro μ1 e1
  have I1 := an_mI_4 h1 e1
  have hv := an_mtv (sg := sg) (ht.1.1 j)
  refine ⟨by omega, m_need (v := 159) (k := 59) ht (by omega) I1 (by omega) (by omega) (by omega) (fun k μ2 g2 r2 => ?_) (fun k μ2 p2 => ?_)⟩
  · have q4 : μ2 144 = μ1 144 := g2.1.1 144 (by decide)
    have q5 : μ2 145 = μ 145 := by rw [r2, an_w_c e1 (by decide)]
    show am_gd true _
    refine hok k μ2 (an_mF_tr (an_mF_4 e1) (an_mF_f g2.1)) g2.2.1 ?_ ?_
    · rw [g2.1.2 10 (by decide) (by decide) (by decide) (by decide) (by decide) (by decide) (by decide) (by decide), an_w_c e1 (by decide)]
      exact h2
    · refine an_mX_a (n0 := n0) (n2 := n2) (c := c) (an_mX_c h3 (fun i hi => by rw [q4, an_w_o e1 (by omega)]) (fun i _ => by rw [q5])) hc (by omega) ?_ ?_ ?_ ?_ ?_ ?_
      · rw [q4, an_w_o e1 (by omega)]; exact h4
      · rw [q4, an_w_o e1 (by omega)]; exact h5
      · rw [q4, an_w_o e1 (by omega)]; exact h6
      · rw [q4]; exact an_w_s e1
      · rw [q5]; exact h9
      · rw [q5]; exact hA
  · show am_gd true _
    exact hbad k μ2 (an_mF_tr (an_mF_4 e1) (an_mF_f p2.2.1)) p2.2.2.1 p2.2.2.2
/-- a line is laid: what is answered -/
def an_mL (sg : Bool) (B : Nat → Nat) (T N c : Nat) (ls : List an_Ln) (wd : Nat) (R : an_LR) (r : Int32) (μ' : am_M) : Prop := match R with
  | .inr e => r = nI 0 ∧ μ' 140 17 = nI e.1 ∧ μ' 140 18 = nI (an_tk sg B T e.2).2.2.1
  | .inl q => r = nI 1 ∧ ∃ n', an_mI sg B T N μ' q.2.2 n' ∧ μ' 140 10 = nI c ∧ an_mX μ' (ls ++ [(wd, q.1, q.2.1)]) n'
theorem m_cond {L d c wd n0 n2 N T j : Nat} {sg : Bool} {B : Nat → Nat} {ls : List an_Ln} {s : List (Nat × Nat)} {μ : am_M} {F : Int32 → am_M → Prop} (ht : an_tkk sg B T N) (hd : 46 ≤ d) (h : an_mP2 sg B T N c ls wd n0 n2 s [] μ j n2) (hz : μ 140 20 = nI 0) (c12 : c < 12) (hc : ls.length = c) (hs : sg = true ∨ (an_tk sg B T j).1 = 103)
    (hF : ∀ r μ', an_mF μ μ' → an_mL sg B T N c ls wd (an_pl2 sg (an_tk sg B T) s j) r μ' → F r μ') : am_Ci L (d - 1) 166 [.ref 140, .int (nI 3)] μ (fun y16 μ15 => if y16 = 0 then F (nI 0) μ15 else 0 < d ∧ am_Ci L (d - 1) 172 [.ref 140] μ15 (fun y18 μ17 => if ¬ y18 = 0 then am_gd (am_inb (((nI 4) * (μ17 140 10)) + (nI 3)) 48) (am_put (am_w μ17 144 ((((nI 4) * (μ17 140 10)) + (nI 3)).toNatClampNeg) (μ17 140 11)) (fun μ19 => 0 < d ∧ am_Ci L (d - 1) 166 [.ref 140, .int (nI 159)] μ19 (fun y21 μ20 => am_gd (am_nar 1 y21) (F y21 μ20)))) else F (nI 0) μ17)) := by
  have hv := an_mtv (sg := sg) (ht.1.1 j)
  refine m_need (v := 3) (k := 103) ht (by omega) h.1 (by omega) (by omega) (by omega) (fun k μ1 g1 r1 => ?_) (fun k μ1 p1 => ?_)
  · rw [if_neg (by decide)]
    unfold an_pl2 at hF
    rw [if_pos k] at hF
    refine ⟨by omega, m_when ht (d - 1) (j + 1) n2 μ1 _ (by omega) g1.2.1 (by rw [g1.2.2.2.2.2]; exact hz) (fun r μ2 p2 => ?_)⟩
    cases hP : an_pwh sg (an_tk sg B T) (j + 1) with
    | inr e =>
      rw [hP] at p2 hF
      have hr := p2.1
      subst hr
      rw [if_neg (fun z => z nI_0)]
      exact hF _ μ2 (an_mF_tr (an_mF_f g1.1) (an_mF_f p2.2.1)) ⟨rfl, p2.2.2.1, p2.2.2.2⟩
    | inl pp =>
      rw [hP] at p2 hF
      obtain ⟨hr, n3, g2⟩ := p2
      subst hr
      rw [if_pos (by decide)]
      have P2 := an_mP2_g h (an_mg_tr g1 g2)
      have f2 := an_mF_tr (an_mF_f g1.1) (an_mF_f g2.1)
      dsimp only at hF
      refine m_lst ht (by omega) P2 c12 hc (fun k59 μ3 f3 I3 x3 X3 => ?_) (fun k59 μ3 f3 a3 b3 => ?_)
      · rw [if_pos k59] at hF
        exact hF _ μ3 (an_mF_tr f2 f3) ⟨rfl, n3, I3, x3, X3⟩
      · rw [if_neg k59] at hF
        exact hF _ μ3 (an_mF_tr f2 f3) ⟨rfl, a3, b3⟩
  · rw [if_pos nI_0]
    unfold an_pl2 at hF
    rw [if_neg k] at hF
    rcases hs with hs | hs
    · subst hs
      exact hF _ μ1 (an_mF_f p1.2.1) ⟨rfl, p1.2.2.1, p1.2.2.2⟩
    · exact absurd hs k
theorem m_aLine {L d c N T j n : Nat} {sg : Bool} {B : Nat → Nat} {ls : List an_Ln} {μ : am_M} {F : Int32 → am_M → Prop} (ht : an_tkk sg B T N) (hs : sg = true → ¬ (an_tk sg B T j).1 = 101 ∧ ¬ (an_tk sg B T j).1 = 102) (hd : 46 ≤ d) (hI : an_mI sg B T N μ j n) (h10 : μ 140 10 = nI c) (hc : ls.length = c) (c12 : c ≤ 12) (hX : an_mX μ ls n) (k0 : ¬ (an_tk sg B T j).1 = 0)
    (hF : ∀ r μ', an_mF μ μ' → an_mL sg B T N c ls (an_lwd sg (an_tk sg B T j).1) (if 100 ≤ (an_tk sg B T j).1 ∧ (an_tk sg B T j).1 ≤ an_lwm sg then (if c = 12 then .inr (3, j) else an_pln sg (an_tk sg B T) (j + 1)) else .inr (1, j)) r μ' → F r μ') : am_Ci L d 175 [.ref 140] μ F := by
  have hv := an_mtv (sg := sg) (ht.1.1 j)
  have hl := an_mt_lt (sg := sg) (ht.1.1 j)
  have t1 := hI.2.1.1
  obtain ⟨k, k5, k9, ks⟩ := hI.1.2.2
  have bad : ∀ m, ((if 100 ≤ (an_tk sg B T j).1 ∧ (an_tk sg B T j).1 ≤ an_lwm sg then (if c = 12 then .inr (3, j) else an_pln sg (an_tk sg B T) (j + 1)) else .inr (1, j)) : an_LR) = .inr (m, j) → am_put (am_w μ 140 17 (nI m)) (fun μ5 => am_put (am_w μ5 140 18 (μ5 140 15)) (fun μ6 => F (nI 0) μ6)) := by
    intro m hm
    rw [hm] at hF
    exact m_bad (L := L) (d := d) hI (fun μ' p => hF _ μ' (an_mF_f p.2.1) ⟨rfl, p.2.2.1, p.2.2.2⟩)
  refine v_M_aLine ?_
  rw [t1, k9, h10]
  cases sg with
  | false =>
    have k4 : ¬ k = 4 := by intro z; subst z; simp at ks
    rw [if_pos (fun z => k4 ((an_ck (by omega) (by omega)).mp z))]
    refine ⟨by omega, ?_⟩
    have hm : 100 ≤ (an_tk false B T j).1 → (an_tk false B T j).1 ≤ 102 → an_mt false (an_tk false B T j).1 (an_tk false B T j).2.1 = (an_tk false B T j).1 - 80 := by
      intro a b
      unfold an_mt
      rw [if_neg (by omega), if_neg (by omega), if_neg (by omega), if_neg (by omega), if_neg (by omega), if_pos (by omega)]
      show 20 + ((an_tk false B T j).1 - 100) = _
      omega
    generalize hM : an_mt false (an_tk false B T j).1 (an_tk false B T j).2.1 = M at hv hl hm
    by_cases q1 : M < 20
    · rw [if_pos (nI_lt q1 (by omega))]
      exact ⟨by omega, bad 1 (by rw [if_neg (by simp only [an_lwm]; omega)])⟩
    rw [if_neg (nI_nlt (by omega) (by omega))]
    by_cases q2 : 22 < M
    · rw [if_pos (nI_lt q2 (by omega))]
      exact ⟨by omega, bad 1 (by rw [if_neg (by simp only [an_lwm]; omega)])⟩
    rw [if_neg (nI_nlt (by omega) (by omega))]
    have kr : 100 ≤ (an_tk false B T j).1 ∧ (an_tk false B T j).1 ≤ an_lwm false := by simp only [an_lwm]; omega
    by_cases c2 : c = 12
    · rw [if_neg (fun z => z (by rw [c2]))]
      exact ⟨by omega, bad 3 (by rw [if_pos kr, if_pos c2])⟩
    rw [if_pos (fun z => c2 ((an_ck (by omega) (by omega)).mp z))]
    rw [if_pos kr, if_neg c2] at hF
    unfold an_pln at hF
    dsimp only at hF
    refine m_opn (wd := (an_tk false B T j).1 - 100) ht (by omega) hI h10 (by omega) hc hX k0 (by omega) (fun μ8 f8 P8 z8 => ?_)
    refine ⟨by omega, m_sum ht (d - 1) (j + 1) n μ8 _ (by omega) P8.1 z8 (fun r μ9 p9 => ?_)⟩
    cases hP : an_psum false (an_tk false B T) (j + 1) with
    | inr e =>
      rw [hP] at p9 hF
      have hr := p9.1
      subst hr
      rw [if_neg (fun z => z nI_0)]
      exact hF _ μ9 (an_mF_tr f8 (an_mF_f p9.2.1)) ⟨rfl, p9.2.2.1, p9.2.2.2⟩
    | inl pp =>
      rw [hP] at p9 hF
      obtain ⟨hr, n9, g9⟩ := p9
      subst hr
      rw [if_pos (by decide)]
      have P9 := an_mP1_g P8 g9
      rw [List.nil_append] at P9
      have f9 := an_mF_tr f8 (an_mF_f g9.1)
      dsimp only at hF
      refine m_mid P9 (by omega) hc (fun μ11 f11 P11 z11 => ?_)
      have hv1 := an_mtv (sg := false) (ht.1.1 pp.2)
      have hl1 := an_mt_lt (sg := false) (ht.1.1 pp.2)
      have z0 : μ11 140 20 = nI 0 := by rw [z11, g9.2.2.2.2.2]; exact z8
      have f10 := an_mF_tr f9 f11
      rw [P11.1.2.1.1]
      by_cases k103 : (an_tk false B T pp.2).1 = 103
      · rw [if_neg (fun z => z (by rw [show an_mt false (an_tk false B T pp.2).1 (an_tk false B T pp.2).2.1 = 3 by omega]))]
        exact ⟨by omega, m_cond ht (by omega) P11 z0 (by omega) hc (Or.inr k103) (fun r μ' f' p' => hF r μ' (an_mF_tr f10 f') p')⟩
      · rw [if_pos (fun z => by have := (an_ck hl1 (by omega)).mp z; omega)]
        unfold an_pl2 at hF
        rw [if_neg k103] at hF
        dsimp only at hF
        refine m_lst ht (by omega) P11 (by omega) hc (fun k59 μ3 f3 I3 x3 X3 => ?_) (fun k59 μ3 f3 a3 b3 => ?_)
        · rw [if_pos k59] at hF
          exact hF _ μ3 (an_mF_tr f10 f3) ⟨rfl, n9, I3, x3, X3⟩
        · rw [if_neg k59] at hF
          exact hF _ μ3 (an_mF_tr f10 f3) ⟨rfl, a3, b3⟩
  | true =>
    have k4 : k = 4 := by simpa using ks.symm
    obtain ⟨hs1, hs2⟩ := hs rfl
    rw [if_neg (fun z => z (by rw [k4]))]
    have hm : 100 ≤ (an_tk true B T j).1 → (an_tk true B T j).1 ≤ 102 → an_mt true (an_tk true B T j).1 (an_tk true B T j).2.1 = 23 := by
      intro a b
      unfold an_mt
      rw [if_neg (by omega), if_neg (by omega), if_neg (by omega), if_neg (by omega), if_neg (by omega), if_pos (by omega)]
    generalize hM : an_mt true (an_tk true B T j).1 (an_tk true B T j).2.1 = M at hv hl hm
    by_cases q1 : M = 23
    · have kr : 100 ≤ (an_tk true B T j).1 ∧ (an_tk true B T j).1 ≤ an_lwm true := by simp only [an_lwm]; omega
      rw [if_pos (by rw [q1])]
      by_cases c2 : c = 12
      · rw [if_neg (fun z => z (by rw [c2]))]
        exact ⟨by omega, bad 3 (by rw [if_pos kr, if_pos c2])⟩
      rw [if_pos (fun z => c2 ((an_ck (by omega) (by omega)).mp z))]
      rw [if_pos kr, if_neg c2] at hF
      unfold an_pln at hF
      dsimp only at hF
      refine m_opn (wd := 3) ht (by omega) hI h10 (by omega) hc hX k0 (by omega) (fun μ8 f8 P8 z8 => ?_)
      refine m_mid P8 (by omega) hc (fun μ11 f11 P11 z11 => ?_)
      exact ⟨by omega, m_cond ht (by omega) P11 (by rw [z11]; exact z8) (by omega) hc (Or.inl rfl) (fun r μ' f' p' => hF r μ' (an_mF_tr (an_mF_tr f8 f11) f') p')⟩
    · rw [if_neg (fun z => q1 ((an_ck hl (by omega)).mp z))]
      exact ⟨by omega, bad 1 (by rw [if_neg (by simp only [an_lwm]; omega)])⟩
theorem m_lines {L N k T : Nat} {sg : Bool} {B : Nat → Nat} (ht : an_tkk sg B T N) (hs : sg = true → ∀ j, ¬ (an_tk sg B T j).1 = 101 ∧ ¬ (an_tk sg B T j).1 = 102) : ∀ (m c j n d : Nat) (ls : List an_Ln) (μ : am_M) (F : Int32 → am_M → Prop), c + m = 12 → 47 ≤ d → ls.length = c → an_mI sg B T N μ j n → μ 140 10 = nI c → an_mX μ ls n →
    (∀ μ' e, an_mF μ μ' → an_ptx sg (an_tk sg B T) m j = .inr e → μ' 140 17 = nI e.1 → μ' 140 18 = nI (an_tk sg B T e.2).2.2.1 → am_Ji L d 176 57 [some (.ref 140), some (.int (nI k)), some (.int (nI 0)), none] [] μ' F) →
    (∀ μ' l j' n', an_mF μ μ' → an_ptx sg (an_tk sg B T) m j = .inl l → an_mI sg B T N μ' j' n' → (an_tk sg B T j').1 = 0 → μ' 140 10 = nI (ls ++ l).length → an_mX μ' (ls ++ l) n' → am_Ji L d 176 57 [some (.ref 140), some (.int (nI k)), some (.int (nI 1)), none] [] μ' F) →
    am_Ji L d 176 57 [some (.ref 140), some (.int (nI k)), some (.int (nI 1)), none] [] μ F := by
  intro m
  induction m with
  | zero =>
    intro c j n d ls μ F hn hd hl hI h10 hX hE hS
    have hv := an_mtv (sg := sg) (ht.1.1 j)
    have hlt := an_mt_lt (sg := sg) (ht.1.1 j)
    by_cases k0 : (an_tk sg B T j).1 = 0
    · exact hS μ [] j n an_mF_rf (by rw [an_ptx_0, if_pos k0]) hI k0 (by rw [List.append_nil, hl]; exact h10) (by rw [List.append_nil]; exact hX)
    refine v_M_text_57 ?_
    rw [if_neg (by decide), hI.2.1.1, if_neg (nI_ne0 (by omega) (by omega))]
    refine ⟨by omega, m_aLine (c := c) ht (fun z => hs z j) (by omega) hI h10 hl (by omega) hX k0 (fun r μ1 f1 p1 => ?_)⟩
    have hc : c = 12 := by omega
    have x0 : an_ptx sg (an_tk sg B T) 0 j = if 100 ≤ (an_tk sg B T j).1 ∧ (an_tk sg B T j).1 ≤ an_lwm sg then .inr (3, j) else .inr (1, j) := by rw [an_ptx_0, if_neg k0]
    by_cases q : 100 ≤ (an_tk sg B T j).1 ∧ (an_tk sg B T j).1 ≤ an_lwm sg
    · rw [if_pos q, if_pos hc] at p1
      rw [if_pos q] at x0
      obtain ⟨hr, a1, b1⟩ := p1
      subst hr
      rw [if_pos nI_0]
      intro μ2 e2
      exact hE μ2 (3, j) (an_mF_tr f1 (an_mF_w e2 (by omega))) x0 (by rw [an_w_o e2 (by decide)]; exact a1) (by rw [an_w_o e2 (by decide)]; exact b1)
    · rw [if_neg q] at p1
      rw [if_neg q] at x0
      obtain ⟨hr, a1, b1⟩ := p1
      subst hr
      rw [if_pos nI_0]
      intro μ2 e2
      exact hE μ2 (1, j) (an_mF_tr f1 (an_mF_w e2 (by omega))) x0 (by rw [an_w_o e2 (by decide)]; exact a1) (by rw [an_w_o e2 (by decide)]; exact b1)
  | succ m ih =>
    intro c j n d ls μ F hn hd hl hI h10 hX hE hS
    have hv := an_mtv (sg := sg) (ht.1.1 j)
    have hlt := an_mt_lt (sg := sg) (ht.1.1 j)
    by_cases k0 : (an_tk sg B T j).1 = 0
    · exact hS μ [] j n an_mF_rf (by rw [an_ptx_s, if_pos k0]) hI k0 (by rw [List.append_nil, hl]; exact h10) (by rw [List.append_nil]; exact hX)
    refine v_M_text_57 ?_
    rw [if_neg (by decide), hI.2.1.1, if_neg (nI_ne0 (by omega) (by omega))]
    refine ⟨by omega, m_aLine (c := c) ht (fun z => hs z j) (by omega) hI h10 hl (by omega) hX k0 (fun r μ1 f1 p1 => ?_)⟩
    by_cases q : 100 ≤ (an_tk sg B T j).1 ∧ (an_tk sg B T j).1 ≤ an_lwm sg
    · rw [if_pos q, if_neg (by omega)] at p1
      cases hP : an_pln sg (an_tk sg B T) (j + 1) with
      | inr e =>
        rw [hP] at p1
        obtain ⟨hr, a1, b1⟩ := p1
        subst hr
        rw [if_pos nI_0]
        intro μ2 e2
        exact hE μ2 e (an_mF_tr f1 (an_mF_w e2 (by omega))) (by rw [an_ptx_s, if_neg k0, if_pos q, hP]) (by rw [an_w_o e2 (by decide)]; exact a1) (by rw [an_w_o e2 (by decide)]; exact b1)
      | inl qq =>
        rw [hP] at p1
        obtain ⟨hr, n1, I1, x1, X1⟩ := p1
        subst hr
        rw [if_neg (by decide), x1, nI_add]
        intro μ2 e2
        have f2 := an_mF_tr f1 (an_mF_w e2 (by omega))
        have I2 : an_mI sg B T N μ2 qq.2.2 n1 := by
          obtain ⟨⟨h1, h1b, h1c⟩, ⟨t1, t2, t3, t4⟩, h3, h4, h5, h6⟩ := I1
          refine ⟨⟨⟨h1.1, fun j hj => by rw [an_w_c e2 (by decide)]; exact h1.2 j hj⟩, by rw [an_w_o e2 (by decide)]; exact h1b, ?_⟩, ⟨by rw [an_w_o e2 (by decide)]; exact t1, by rw [an_w_o e2 (by decide)]; exact t2, by rw [an_w_o e2 (by decide)]; exact t3, fun z => by rw [an_w_o e2 (by decide)]; exact t4 z⟩, h3, h4, ⟨by rw [an_w_o e2 (by decide)]; exact h5.1, by rw [an_w_o e2 (by decide)]; exact h5.2⟩, h6⟩
          unfold an_wh
          rw [an_w_o e2 (by decide)]
          exact h1c
        have X2 : an_mX μ2 (ls ++ [(an_lwd sg (an_tk sg B T j).1, qq.1, qq.2.1)]) n1 := an_mX_c X1 (fun i _ => by rw [an_w_c e2 (by decide)]) (fun i _ => by rw [an_w_c e2 (by decide)])
        refine ih (c + 1) qq.2.2 n1 d _ μ2 F (by omega) hd (by rw [List.length_append, hl]; rfl) I2 (an_w_s e2) X2 (fun μ' e f' h1 h2 h3 => ?_) (fun μ' l j' n' f' h1 h2 h3 h4 h5 => ?_)
        · exact hE μ' e (an_mF_tr f2 f') (by rw [an_ptx_s, if_neg k0, if_pos q, hP]; dsimp only; rw [h1]) h2 h3
        · rw [List.append_assoc] at h4 h5
          exact hS μ' _ j' n' (an_mF_tr f2 f') (by rw [an_ptx_s, if_neg k0, if_pos q, hP]; dsimp only; rw [h1]; rfl) h2 h3 h4 h5
    · rw [if_neg q] at p1
      obtain ⟨hr, a1, b1⟩ := p1
      subst hr
      rw [if_pos nI_0]
      intro μ2 e2
      exact hE μ2 (1, j) (an_mF_tr f1 (an_mF_w e2 (by omega))) (by rw [an_ptx_s, if_neg k0, if_neg q]) (by rw [an_w_o e2 (by decide)]; exact a1) (by rw [an_w_o e2 (by decide)]; exact b1)
