/-! image. -/
variable {nb : Nat}
abbrev an_En : Type := Nat × Nat × Nat
/-- places copied from the world at a to the world at b; else nothing is written but in the world at b -/
def an_cs (done : List an_En) (a b : Nat) (μ μ' : am_M) : Prop := (∀ e, e ∈ done → ∀ i, e.2.1 ≤ i → i < e.2.2 → μ' (e.1 + b) i = μ (e.1 + a) i) ∧ (∀ c, (∀ e, e ∈ done → e.1 + b ≠ c) → μ' c = μ c)
theorem an_cs_0 {a b : Nat} {μ : am_M} : an_cs [] a b μ μ := ⟨fun e h => absurd h (by simp), fun _ _ => rfl⟩
theorem an_cs_row {done : List an_En} {a b c n cs cd : Nat} {μ μ1 μ2 : am_M} (h : an_cs done a b μ μ1) (e2 : μ2 = am_row μ1 cd (va_cpy (μ1 cs) (μ1 cd) 0 0 n)) (hs : cs = c + a) (hd : cd = c + b) (h1 : 14 ≤ c) (h2 : c ≤ 68) (hab : ∀ e, e ∈ done → e.1 + b ≠ cs) (hn : ∀ e, e ∈ done → e.1 ≠ c) : an_cs ((c, 0, n) :: done) a b μ μ2 := by
  obtain ⟨g1, g2⟩ := h
  refine ⟨fun e he i i1 i2 => ?_, fun c' hc' => ?_⟩
  · rcases List.mem_cons.mp he with rfl | he
    · dsimp only at i1 i2 ⊢
      rw [e2, hd, am_row_at, pk_cpy_in (by omega) (by omega), g2 cs hab, hs]
      congr 1
      omega
    · rw [e2, am_row_ne (by have := hn e he; omega)]
      exact g1 e he i i1 i2
  · rw [e2, am_row_ne (by have := hc' _ (List.mem_cons_self ..); dsimp only at this; omega)]
    exact g2 c' (fun e he => hc' e (List.mem_cons_of_mem _ he))
theorem an_cs_w {done : List an_En} {a b c p cs cd : Nat} {μ μ1 μ2 : am_M} (h : an_cs done a b μ μ1) (e2 : μ2 = am_w μ1 cd p (μ1 cs p)) (hs : cs = c + a) (hd : cd = c + b) (h1 : 14 ≤ c) (h2 : c ≤ 68) (hab : ∀ e, e ∈ done → e.1 + b ≠ cs) (hn : ∀ e, e ∈ done → e.1 = c → p < e.2.1 ∨ e.2.2 ≤ p) : an_cs ((c, p, p + 1) :: done) a b μ μ2 := by
  obtain ⟨g1, g2⟩ := h
  refine ⟨fun e he i i1 i2 => ?_, fun c' hc' => ?_⟩
  · rcases List.mem_cons.mp he with rfl | he
    · dsimp only at i1 i2 ⊢
      obtain rfl : i = p := by omega
      rw [e2, hd, am_w_at, pk_us, g2 cs hab, hs]
    · by_cases q : e.1 = c
      · have := hn e he q
        rw [e2, hd, q, am_w_at, pk_un (by omega)]
        have := g1 e he i i1 i2
        rw [q] at this
        exact this
      · rw [e2, am_w_ne (by omega)]
        exact g1 e he i i1 i2
  · rw [e2, am_w_ne (by have := hc' _ (List.mem_cons_self ..); dsimp only at this; omega)]
    exact g2 c' (fun e he => hc' e (List.mem_cons_of_mem _ he))
theorem an_gd2 {d : Nat} {A : Prop} (h : 0 < d) : am_gd (Nat.blt 0 d && true && true) A = A := by rw [am_blt.mpr h]; rfl
theorem an_sq_c2 {C C' : Nat → Nat × Nat → Nat → Prop} {Q : Nat} (hC : ∀ p e p', C p e p' → p < p') (h : ∀ p e p', p' ≤ Q → C p e p' → C' p e p') : ∀ (l : List (Nat × Nat)) (p q : Nat), an_sq C p l q → q ≤ Q → an_sq C' p l q := by
  intro l
  induction l with
  | nil => intro p q h _; exact h
  | cons e l ih =>
    intro p q h2 hq
    obtain ⟨p1, h3, h4⟩ := h2
    have := (an_sq_le hC l _ _ h4).1
    exact ⟨p1, h _ _ _ (by omega) h3, ih _ _ h4 hq⟩
theorem an_C_row {sg : Bool} {r r' : Nat → Int32} {p p' : Nat} {e : Nat × Nat} (hr : ∀ i, i < 400 → r' i = r i) (hp : p' ≤ 400) (h : an_C sg r p e p') : an_C sg r' p e p' := by
  rcases h with ⟨h1, h2, h3, h4⟩ | ⟨h1, h2, h3⟩ | ⟨h1, h2, h3⟩ | ⟨h1, h2, h3, h4, h5⟩
  · exact Or.inl ⟨h1, by rw [hr _ (by omega)]; exact h2, by rw [hr _ (by omega)]; exact h3, h4⟩
  · exact Or.inr (Or.inl ⟨h1, by rw [hr _ (by omega)]; exact h2, h3⟩)
  · exact Or.inr (Or.inr (Or.inl ⟨h1, by rw [hr _ (by omega)]; exact h2, h3⟩))
  · exact Or.inr (Or.inr (Or.inr ⟨h1, h2, h3, by rw [hr _ (by omega)]; exact h4, h5⟩))
theorem an_scX_row {sg : Bool} {c c' : Nat} {μ μ' : am_M} {ls : List an_Ln} (hk : ls.length ≤ 12) (h : an_scX sg c μ ls) (h0 : μ' c' 6 = μ c 6) (h1 : ∀ i, i < 400 → μ' (c' + 1) i = μ (c + 1) i) (h2 : ∀ i, i < 12 → μ' (c' + 2) i = μ (c + 2) i) (h3 : ∀ i, i < 12 → μ' (c' + 3) i = μ (c + 3) i) (h4 : ∀ i, i < 12 → μ' (c' + 4) i = μ (c + 4) i) (h5 : ∀ i, i < 12 → μ' (c' + 5) i = μ (c + 5) i) : an_scX sg c' μ' ls := by
  obtain ⟨g1, g2⟩ := h
  refine ⟨h0.trans g1, fun i e he => ?_⟩
  have hi : i < 12 := Nat.lt_of_lt_of_le (List.getElem?_eq_some_iff.mp he).1 hk
  obtain ⟨p, q, r, k1, k2, k3, k4, k5, k6, k7⟩ := g2 i e he
  have hle := (an_sq_le an_C_lt _ _ _ k7).1
  exact ⟨p, q, r, fun z => (h2 i hi).trans (k1 z), (h3 i hi).trans k2, (h4 i hi).trans k3, (h5 i hi).trans k4, k5, an_sq_c2 (Q := 400) an_C_lt (fun p e p' hp hC => an_C_row h1 hp hC) _ _ _ k6 (by omega), an_sq_c2 (Q := 400) an_C_lt (fun p e p' hp hC => an_C_row h1 hp hC) _ _ _ k7 (by omega)⟩
def an_full : List an_En := [(14, 8, 9), (14, 7, 8), (68, 0, 6), (67, 0, 6), (66, 0, 24), (65, 0, 3240), (62, 0, 24), (61, 0, 24), (60, 0, 24), (59, 0, 1500), (58, 9, 10), (58, 8, 9), (57, 0, 6300), (56, 1, 2), (54, 0, 12), (53, 0, 12), (52, 0, 12), (51, 0, 12), (50, 0, 400), (49, 7, 8), (49, 6, 7), (47, 0, 12), (46, 0, 12), (45, 0, 12), (44, 0, 12), (43, 0, 400), (42, 7, 8), (42, 6, 7), (40, 0, 12), (39, 0, 12), (38, 0, 12), (37, 0, 12), (36, 0, 400), (35, 7, 8), (35, 6, 7), (33, 0, 12), (32, 0, 12), (31, 0, 12), (30, 0, 12), (29, 0, 400), (28, 7, 8), (28, 6, 7), (26, 0, 12), (25, 0, 12), (24, 0, 12), (23, 0, 12), (22, 0, 400), (21, 7, 8), (21, 6, 7), (19, 0, 90), (18, 0, 90), (17, 0, 9), (16, 0, 4)]
theorem an_S_cp {a b : Nat} {w : an_W} {μ μ' : am_M} (h : an_S nb a w μ) (hc : an_cs an_full a b μ μ') : an_S nb b w μ' := by
  obtain ⟨h1, h2, h3, h4, h5, h6, h7, h8, h9, h10, h11, h12, h13, h14, h15⟩ := h
  obtain ⟨g, -⟩ := hc
  have e : ∀ c lo hi, (c, lo, hi) ∈ an_full → ∀ i, lo ≤ i → i < hi → μ' (c + b) i = μ (c + a) i := fun c lo hi hm i i1 i2 => g (c, lo, hi) hm i i1 i2
  refine ⟨h1, h2, h3, h4, h5, h6, h7, ?_, ?_, ?_, ?_, ?_, ?_, ?_, ?_⟩
  · obtain ⟨k1, k2, k3, k4, k5, k6⟩ := h8
    refine ⟨?_, ?_, fun k f hk hf => ?_, fun i hi => ?_, fun i hi => ?_, fun i hi => ?_⟩
    · rw [e 58 8 9 (by decide) 8 (by omega) (by omega)]; exact k1
    · rw [e 58 9 10 (by decide) 9 (by omega) (by omega)]; exact k2
    · have := e 59 0 1500 (by decide) (k * 10 + f) (by omega) (by omega)
      rw [show 58 + b + 1 = 59 + b by omega, this, show 59 + a = 58 + a + 1 by omega]; exact k3 k f hk hf
    · have := e 60 0 24 (by decide) i (by omega) hi
      rw [show 58 + b + 2 = 60 + b by omega, this, show 60 + a = 58 + a + 2 by omega]; exact k4 i hi
    · have := e 61 0 24 (by decide) i (by omega) hi
      rw [show 58 + b + 3 = 61 + b by omega, this, show 61 + a = 58 + a + 3 by omega]; exact k5 i hi
    · have := e 62 0 24 (by decide) i (by omega) hi
      rw [show 58 + b + 4 = 62 + b by omega, this, show 62 + a = 58 + a + 4 by omega]; exact k6 i hi
  · obtain ⟨⟨k1, k2, k3⟩, k4⟩ := h9
    refine ⟨⟨fun i hi => ?_, fun i hi => ?_, fun i hi => ?_⟩, fun i hi => ?_⟩
    · rw [show 15 + b + 1 = 16 + b by omega, e 16 0 4 (by decide) i (by omega) hi, show 16 + a = 15 + a + 1 by omega]; exact k1 i hi
    · rw [show 15 + b + 2 = 17 + b by omega, e 17 0 9 (by decide) i (by omega) hi, show 17 + a = 15 + a + 2 by omega]; exact k2 i hi
    · rw [show 15 + b + 3 = 18 + b by omega, e 18 0 90 (by decide) i (by omega) hi, show 18 + a = 15 + a + 3 by omega]; exact k3 i hi
    · rw [e 19 0 90 (by decide) i (by omega) hi]; exact k4 i hi
  · obtain ⟨k1, k2⟩ := h10
    refine ⟨?_, fun i hi => ?_⟩
    · rw [e 56 1 2 (by decide) 1 (by omega) (by omega)]; exact k1
    · rw [show 56 + b + 1 = 57 + b by omega, e 57 0 6300 (by decide) i (by omega) hi, show 57 + a = 56 + a + 1 by omega]; exact k2 i hi
  · intro i hi
    rw [e 65 0 3240 (by decide) i (by omega) hi]; exact h11 i hi
  · intro i hi
    rw [e 66 0 24 (by decide) i (by omega) hi]; exact h12 i hi
  · obtain ⟨k1, k2⟩ := h13
    refine ⟨fun i hi => ?_, ?_⟩
    · rw [e 67 0 6 (by decide) i (by omega) hi, e 68 0 6 (by decide) i (by omega) hi]; exact k1 i hi
    · rw [e 14 7 8 (by decide) 7 (by omega) (by omega)]; exact k2
  · show μ' (14 + b) 8 = w 3
    rw [e 14 8 9 (by decide) 8 (by omega) (by omega)]; exact h14
  · obtain ⟨lss, hl⟩ := h15
    refine ⟨lss, fun k hk => ?_⟩
    obtain ⟨q1, q2, q3⟩ := hl k hk
    refine ⟨q1, ?_, q3⟩
    have ee : ∀ j lo hi, (21 + 7 * k + j, lo, hi) ∈ an_full → ∀ i, lo ≤ i → i < hi → μ' (21 + b + 7 * k + j) i = μ (21 + a + 7 * k + j) i := fun j lo hi hm i i1 i2 => by
      have := e _ lo hi hm i i1 i2
      rw [show 21 + b + 7 * k + j = 21 + 7 * k + j + b by omega, this, show 21 + 7 * k + j + a = 21 + a + 7 * k + j by omega]
    rcases (by omega : k = 0 ∨ k = 1 ∨ k = 2 ∨ k = 3 ∨ k = 4) with rfl | rfl | rfl | rfl | rfl
    all_goals
      refine an_scX_row q1.1 q2 ?_ ?_ ?_ ?_ ?_ ?_
      · exact ee 0 6 7 (by decide) 6 (by omega) (by omega)
      · exact fun i hi => ee 1 0 400 (by decide) i (by omega) hi
      · exact fun i hi => ee 2 0 12 (by decide) i (by omega) hi
      · exact fun i hi => ee 3 0 12 (by decide) i (by omega) hi
      · exact fun i hi => ee 4 0 12 (by decide) i (by omega) hi
      · exact fun i hi => ee 5 0 12 (by decide) i (by omega) hi
theorem an_S_w {a : Nat} {w w' : an_W} {μ : am_M} (h : an_S nb a w μ) (hw : ∀ j, j < 16120 → w' j = w j) : an_S nb a w' μ := by
  obtain ⟨h1, h2, h3, h4, h5, h6, h7, h8, h9, h10, h11, h12, h13, h14, h15⟩ := h
  exact ⟨an_k1_c h1 (fun j hj => hw j (by omega)) (fun _ q => q.elim), an_k2_c h2 (fun j hj => hw j (by omega)) (fun _ q => q.elim), an_k3_c h3 (fun j hj => hw j (by omega)) (fun _ q => q.elim), an_k4_c h4 (fun j hj => hw j (by omega)) (fun _ q => q.elim), an_k5_c (an_S_k150 h1) h5 (fun j hj => hw j (by omega)) (fun _ q => q.elim), an_k6_c h6 (fun j hj => hw j (by omega)) (fun _ q => q.elim), an_k7_c h7 (fun j hj => hw j (by omega)) (fun _ q => q.elim), an_k8_c h8 (fun j hj => hw j (by omega)) (fun _ _ => rfl), an_k9_c h9 (fun j hj => hw j (by omega)) (fun _ _ => rfl), an_k10_c h10 (fun j hj => hw j (by omega)) (fun _ _ => rfl), an_k11_c h11 (fun j hj => hw j (by omega)) (fun _ _ => rfl), an_k12_c h12 (fun j hj => hw j (by omega)) (fun _ _ => rfl), an_k13_c h13 (fun j hj => hw j (by omega)) (fun _ _ => rfl), an_k14_c h14 (fun j hj => hw j (by omega)) (fun _ _ => rfl), an_k15_c h15 (fun j hj => hw j (by omega)) (fun _ _ => rfl)⟩
theorem s_World_copyFrom_in {L d : Nat} {μ : am_M} {F : am_M → Prop} (hd : 6 ≤ d) (hF : ∀ μ', an_cs an_full 0 55 μ μ' → F μ') : am_Cv L d 88 [.ref 69, .ref 14] μ F := by
  refine v_World_copyFrom_in ?_
  refine ⟨by omega, v_Country_copyFrom_in ?_⟩
  rw [an_gd2 (by omega)]
  intro m0 e0
  have s0 := an_cs_row (c := 16) (a := 0) (b := 55) (an_cs_0 (a := 0) (b := 55) (μ := μ)) e0 (by omega) (by omega) (by omega) (by omega) (by decide) (by decide)
  rw [an_gd2 (by omega)]
  intro m1 e1
  have s1 := an_cs_row (c := 17) (a := 0) (b := 55) s0 e1 (by omega) (by omega) (by omega) (by omega) (by decide) (by decide)
  rw [an_gd2 (by omega)]
  intro m2 e2
  have s2 := an_cs_row (c := 18) (a := 0) (b := 55) s1 e2 (by omega) (by omega) (by omega) (by omega) (by decide) (by decide)
  rw [an_gd2 (by omega)]
  intro m3 e3
  have s3 := an_cs_row (c := 19) (a := 0) (b := 55) s2 e3 (by omega) (by omega) (by omega) (by omega) (by decide) (by decide)
  refine v_Country_copyFrom_in_61 ?_
  rw [if_neg (by decide), am_gd_in (by omega) (by omega), if_pos rfl, am_gd_in (by omega) (by omega), if_pos rfl, nI_add]
  refine ⟨by omega, v_Script_copyFrom_i21 ?_⟩
  intro m4 e4
  have s4 := an_cs_w (c := 21) (a := 0) (b := 55) s3 e4 (by omega) (by omega) (by omega) (by omega) (by decide) (by decide)
  intro m5 e5
  have s5 := an_cs_w (c := 21) (a := 0) (b := 55) s4 e5 (by omega) (by omega) (by omega) (by omega) (by decide) (by decide)
  rw [an_gd2 (by omega)]
  intro m6 e6
  have s6 := an_cs_row (c := 22) (a := 0) (b := 55) s5 e6 (by omega) (by omega) (by omega) (by omega) (by decide) (by decide)
  rw [an_gd2 (by omega)]
  intro m7 e7
  have s7 := an_cs_row (c := 23) (a := 0) (b := 55) s6 e7 (by omega) (by omega) (by omega) (by omega) (by decide) (by decide)
  rw [an_gd2 (by omega)]
  intro m8 e8
  have s8 := an_cs_row (c := 24) (a := 0) (b := 55) s7 e8 (by omega) (by omega) (by omega) (by omega) (by decide) (by decide)
  rw [an_gd2 (by omega)]
  intro m9 e9
  have s9 := an_cs_row (c := 25) (a := 0) (b := 55) s8 e9 (by omega) (by omega) (by omega) (by omega) (by decide) (by decide)
  rw [an_gd2 (by omega)]
  intro m10 e10
  have s10 := an_cs_row (c := 26) (a := 0) (b := 55) s9 e10 (by omega) (by omega) (by omega) (by omega) (by decide) (by decide)
  refine v_Country_copyFrom_in_61 ?_
  rw [if_neg (by decide), am_gd_in (by omega) (by omega), if_neg (by decide), if_pos rfl, am_gd_in (by omega) (by omega), if_neg (by decide), if_pos rfl, nI_add]
  refine ⟨by omega, v_Script_copyFrom_i28 ?_⟩
  intro m11 e11
  have s11 := an_cs_w (c := 28) (a := 0) (b := 55) s10 e11 (by omega) (by omega) (by omega) (by omega) (by decide) (by decide)
  intro m12 e12
  have s12 := an_cs_w (c := 28) (a := 0) (b := 55) s11 e12 (by omega) (by omega) (by omega) (by omega) (by decide) (by decide)
  rw [an_gd2 (by omega)]
  intro m13 e13
  have s13 := an_cs_row (c := 29) (a := 0) (b := 55) s12 e13 (by omega) (by omega) (by omega) (by omega) (by decide) (by decide)
  rw [an_gd2 (by omega)]
  intro m14 e14
  have s14 := an_cs_row (c := 30) (a := 0) (b := 55) s13 e14 (by omega) (by omega) (by omega) (by omega) (by decide) (by decide)
  rw [an_gd2 (by omega)]
  intro m15 e15
  have s15 := an_cs_row (c := 31) (a := 0) (b := 55) s14 e15 (by omega) (by omega) (by omega) (by omega) (by decide) (by decide)
  rw [an_gd2 (by omega)]
  intro m16 e16
  have s16 := an_cs_row (c := 32) (a := 0) (b := 55) s15 e16 (by omega) (by omega) (by omega) (by omega) (by decide) (by decide)
  rw [an_gd2 (by omega)]
  intro m17 e17
  have s17 := an_cs_row (c := 33) (a := 0) (b := 55) s16 e17 (by omega) (by omega) (by omega) (by omega) (by decide) (by decide)
  refine v_Country_copyFrom_in_61 ?_
  rw [if_neg (by decide), am_gd_in (by omega) (by omega), if_neg (by decide), if_neg (by decide), if_pos rfl, am_gd_in (by omega) (by omega), if_neg (by decide), if_neg (by decide), if_pos rfl, nI_add]
  refine ⟨by omega, v_Script_copyFrom_i35 ?_⟩
  intro m18 e18
  have s18 := an_cs_w (c := 35) (a := 0) (b := 55) s17 e18 (by omega) (by omega) (by omega) (by omega) (by decide) (by decide)
  intro m19 e19
  have s19 := an_cs_w (c := 35) (a := 0) (b := 55) s18 e19 (by omega) (by omega) (by omega) (by omega) (by decide) (by decide)
  rw [an_gd2 (by omega)]
  intro m20 e20
  have s20 := an_cs_row (c := 36) (a := 0) (b := 55) s19 e20 (by omega) (by omega) (by omega) (by omega) (by decide) (by decide)
  rw [an_gd2 (by omega)]
  intro m21 e21
  have s21 := an_cs_row (c := 37) (a := 0) (b := 55) s20 e21 (by omega) (by omega) (by omega) (by omega) (by decide) (by decide)
  rw [an_gd2 (by omega)]
  intro m22 e22
  have s22 := an_cs_row (c := 38) (a := 0) (b := 55) s21 e22 (by omega) (by omega) (by omega) (by omega) (by decide) (by decide)
  rw [an_gd2 (by omega)]
  intro m23 e23
  have s23 := an_cs_row (c := 39) (a := 0) (b := 55) s22 e23 (by omega) (by omega) (by omega) (by omega) (by decide) (by decide)
  rw [an_gd2 (by omega)]
  intro m24 e24
  have s24 := an_cs_row (c := 40) (a := 0) (b := 55) s23 e24 (by omega) (by omega) (by omega) (by omega) (by decide) (by decide)
  refine v_Country_copyFrom_in_61 ?_
  rw [if_neg (by decide), am_gd_in (by omega) (by omega), if_neg (by decide), if_neg (by decide), if_neg (by decide), if_pos rfl, am_gd_in (by omega) (by omega), if_neg (by decide), if_neg (by decide), if_neg (by decide), if_pos rfl, nI_add]
  refine ⟨by omega, v_Script_copyFrom_i42 ?_⟩
  intro m25 e25
  have s25 := an_cs_w (c := 42) (a := 0) (b := 55) s24 e25 (by omega) (by omega) (by omega) (by omega) (by decide) (by decide)
  intro m26 e26
  have s26 := an_cs_w (c := 42) (a := 0) (b := 55) s25 e26 (by omega) (by omega) (by omega) (by omega) (by decide) (by decide)
  rw [an_gd2 (by omega)]
  intro m27 e27
  have s27 := an_cs_row (c := 43) (a := 0) (b := 55) s26 e27 (by omega) (by omega) (by omega) (by omega) (by decide) (by decide)
  rw [an_gd2 (by omega)]
  intro m28 e28
  have s28 := an_cs_row (c := 44) (a := 0) (b := 55) s27 e28 (by omega) (by omega) (by omega) (by omega) (by decide) (by decide)
  rw [an_gd2 (by omega)]
  intro m29 e29
  have s29 := an_cs_row (c := 45) (a := 0) (b := 55) s28 e29 (by omega) (by omega) (by omega) (by omega) (by decide) (by decide)
  rw [an_gd2 (by omega)]
  intro m30 e30
  have s30 := an_cs_row (c := 46) (a := 0) (b := 55) s29 e30 (by omega) (by omega) (by omega) (by omega) (by decide) (by decide)
  rw [an_gd2 (by omega)]
  intro m31 e31
  have s31 := an_cs_row (c := 47) (a := 0) (b := 55) s30 e31 (by omega) (by omega) (by omega) (by omega) (by decide) (by decide)
  refine v_Country_copyFrom_in_61 ?_
  rw [if_neg (by decide), am_gd_in (by omega) (by omega), if_neg (by decide), if_neg (by decide), if_neg (by decide), if_neg (by decide), if_pos rfl, am_gd_in (by omega) (by omega), if_neg (by decide), if_neg (by decide), if_neg (by decide), if_neg (by decide), if_pos rfl, nI_add]
  refine ⟨by omega, v_Script_copyFrom_i49 ?_⟩
  intro m32 e32
  have s32 := an_cs_w (c := 49) (a := 0) (b := 55) s31 e32 (by omega) (by omega) (by omega) (by omega) (by decide) (by decide)
  intro m33 e33
  have s33 := an_cs_w (c := 49) (a := 0) (b := 55) s32 e33 (by omega) (by omega) (by omega) (by omega) (by decide) (by decide)
  rw [an_gd2 (by omega)]
  intro m34 e34
  have s34 := an_cs_row (c := 50) (a := 0) (b := 55) s33 e34 (by omega) (by omega) (by omega) (by omega) (by decide) (by decide)
  rw [an_gd2 (by omega)]
  intro m35 e35
  have s35 := an_cs_row (c := 51) (a := 0) (b := 55) s34 e35 (by omega) (by omega) (by omega) (by omega) (by decide) (by decide)
  rw [an_gd2 (by omega)]
  intro m36 e36
  have s36 := an_cs_row (c := 52) (a := 0) (b := 55) s35 e36 (by omega) (by omega) (by omega) (by omega) (by decide) (by decide)
  rw [an_gd2 (by omega)]
  intro m37 e37
  have s37 := an_cs_row (c := 53) (a := 0) (b := 55) s36 e37 (by omega) (by omega) (by omega) (by omega) (by decide) (by decide)
  rw [an_gd2 (by omega)]
  intro m38 e38
  have s38 := an_cs_row (c := 54) (a := 0) (b := 55) s37 e38 (by omega) (by omega) (by omega) (by omega) (by decide) (by decide)
  refine v_Country_copyFrom_in_61 ?_
  rw [if_pos (by decide)]
  refine ⟨by omega, v_Entries_copyFrom_in ?_⟩
  intro m39 e39
  have s39 := an_cs_w (c := 56) (a := 0) (b := 55) s38 e39 (by omega) (by omega) (by omega) (by omega) (by decide) (by decide)
  rw [an_gd2 (by omega)]
  intro m40 e40
  have s40 := an_cs_row (c := 57) (a := 0) (b := 55) s39 e40 (by omega) (by omega) (by omega) (by omega) (by decide) (by decide)
  refine ⟨by omega, v_Ledger_copyFrom_in ?_⟩
  intro m41 e41
  have s41 := an_cs_w (c := 58) (a := 0) (b := 55) s40 e41 (by omega) (by omega) (by omega) (by omega) (by decide) (by decide)
  intro m42 e42
  have s42 := an_cs_w (c := 58) (a := 0) (b := 55) s41 e42 (by omega) (by omega) (by omega) (by omega) (by decide) (by decide)
  rw [an_gd2 (by omega)]
  intro m43 e43
  have s43 := an_cs_row (c := 59) (a := 0) (b := 55) s42 e43 (by omega) (by omega) (by omega) (by omega) (by decide) (by decide)
  rw [an_gd2 (by omega)]
  intro m44 e44
  have s44 := an_cs_row (c := 60) (a := 0) (b := 55) s43 e44 (by omega) (by omega) (by omega) (by omega) (by decide) (by decide)
  rw [an_gd2 (by omega)]
  intro m45 e45
  have s45 := an_cs_row (c := 61) (a := 0) (b := 55) s44 e45 (by omega) (by omega) (by omega) (by omega) (by decide) (by decide)
  rw [an_gd2 (by omega)]
  intro m46 e46
  have s46 := an_cs_row (c := 62) (a := 0) (b := 55) s45 e46 (by omega) (by omega) (by omega) (by omega) (by decide) (by decide)
  rw [an_gd2 (by omega)]
  intro m47 e47
  have s47 := an_cs_row (c := 65) (a := 0) (b := 55) s46 e47 (by omega) (by omega) (by omega) (by omega) (by decide) (by decide)
  rw [an_gd2 (by omega)]
  intro m48 e48
  have s48 := an_cs_row (c := 66) (a := 0) (b := 55) s47 e48 (by omega) (by omega) (by omega) (by omega) (by decide) (by decide)
  rw [an_gd2 (by omega)]
  intro m49 e49
  have s49 := an_cs_row (c := 67) (a := 0) (b := 55) s48 e49 (by omega) (by omega) (by omega) (by omega) (by decide) (by decide)
  rw [an_gd2 (by omega)]
  intro m50 e50
  have s50 := an_cs_row (c := 68) (a := 0) (b := 55) s49 e50 (by omega) (by omega) (by omega) (by omega) (by decide) (by decide)
  intro m51 e51
  have s51 := an_cs_w (c := 14) (a := 0) (b := 55) s50 e51 (by omega) (by omega) (by omega) (by omega) (by decide) (by decide)
  intro m52 e52
  have s52 := an_cs_w (c := 14) (a := 0) (b := 55) s51 e52 (by omega) (by omega) (by omega) (by omega) (by decide) (by decide)
  exact hF _ s52
theorem s_World_copyFrom_out {L d : Nat} {μ : am_M} {F : am_M → Prop} (hd : 6 ≤ d) (hF : ∀ μ', an_cs an_full 55 0 μ μ' → F μ') : am_Cv L d 88 [.ref 14, .ref 69] μ F := by
  refine v_World_copyFrom_out ?_
  refine ⟨by omega, v_Country_copyFrom_out ?_⟩
  rw [an_gd2 (by omega)]
  intro m0 e0
  have s0 := an_cs_row (c := 16) (a := 55) (b := 0) (an_cs_0 (a := 55) (b := 0) (μ := μ)) e0 (by omega) (by omega) (by omega) (by omega) (by decide) (by decide)
  rw [an_gd2 (by omega)]
  intro m1 e1
  have s1 := an_cs_row (c := 17) (a := 55) (b := 0) s0 e1 (by omega) (by omega) (by omega) (by omega) (by decide) (by decide)
  rw [an_gd2 (by omega)]
  intro m2 e2
  have s2 := an_cs_row (c := 18) (a := 55) (b := 0) s1 e2 (by omega) (by omega) (by omega) (by omega) (by decide) (by decide)
  rw [an_gd2 (by omega)]
  intro m3 e3
  have s3 := an_cs_row (c := 19) (a := 55) (b := 0) s2 e3 (by omega) (by omega) (by omega) (by omega) (by decide) (by decide)
  refine v_Country_copyFrom_out_61 ?_
  rw [if_neg (by decide), am_gd_in (by omega) (by omega), if_pos rfl, am_gd_in (by omega) (by omega), if_pos rfl, nI_add]
  refine ⟨by omega, v_Script_copyFrom_o21 ?_⟩
  intro m4 e4
  have s4 := an_cs_w (c := 21) (a := 55) (b := 0) s3 e4 (by omega) (by omega) (by omega) (by omega) (by decide) (by decide)
  intro m5 e5
  have s5 := an_cs_w (c := 21) (a := 55) (b := 0) s4 e5 (by omega) (by omega) (by omega) (by omega) (by decide) (by decide)
  rw [an_gd2 (by omega)]
  intro m6 e6
  have s6 := an_cs_row (c := 22) (a := 55) (b := 0) s5 e6 (by omega) (by omega) (by omega) (by omega) (by decide) (by decide)
  rw [an_gd2 (by omega)]
  intro m7 e7
  have s7 := an_cs_row (c := 23) (a := 55) (b := 0) s6 e7 (by omega) (by omega) (by omega) (by omega) (by decide) (by decide)
  rw [an_gd2 (by omega)]
  intro m8 e8
  have s8 := an_cs_row (c := 24) (a := 55) (b := 0) s7 e8 (by omega) (by omega) (by omega) (by omega) (by decide) (by decide)
  rw [an_gd2 (by omega)]
  intro m9 e9
  have s9 := an_cs_row (c := 25) (a := 55) (b := 0) s8 e9 (by omega) (by omega) (by omega) (by omega) (by decide) (by decide)
  rw [an_gd2 (by omega)]
  intro m10 e10
  have s10 := an_cs_row (c := 26) (a := 55) (b := 0) s9 e10 (by omega) (by omega) (by omega) (by omega) (by decide) (by decide)
  refine v_Country_copyFrom_out_61 ?_
  rw [if_neg (by decide), am_gd_in (by omega) (by omega), if_neg (by decide), if_pos rfl, am_gd_in (by omega) (by omega), if_neg (by decide), if_pos rfl, nI_add]
  refine ⟨by omega, v_Script_copyFrom_o28 ?_⟩
  intro m11 e11
  have s11 := an_cs_w (c := 28) (a := 55) (b := 0) s10 e11 (by omega) (by omega) (by omega) (by omega) (by decide) (by decide)
  intro m12 e12
  have s12 := an_cs_w (c := 28) (a := 55) (b := 0) s11 e12 (by omega) (by omega) (by omega) (by omega) (by decide) (by decide)
  rw [an_gd2 (by omega)]
  intro m13 e13
  have s13 := an_cs_row (c := 29) (a := 55) (b := 0) s12 e13 (by omega) (by omega) (by omega) (by omega) (by decide) (by decide)
  rw [an_gd2 (by omega)]
  intro m14 e14
  have s14 := an_cs_row (c := 30) (a := 55) (b := 0) s13 e14 (by omega) (by omega) (by omega) (by omega) (by decide) (by decide)
  rw [an_gd2 (by omega)]
  intro m15 e15
  have s15 := an_cs_row (c := 31) (a := 55) (b := 0) s14 e15 (by omega) (by omega) (by omega) (by omega) (by decide) (by decide)
  rw [an_gd2 (by omega)]
  intro m16 e16
  have s16 := an_cs_row (c := 32) (a := 55) (b := 0) s15 e16 (by omega) (by omega) (by omega) (by omega) (by decide) (by decide)
  rw [an_gd2 (by omega)]
  intro m17 e17
  have s17 := an_cs_row (c := 33) (a := 55) (b := 0) s16 e17 (by omega) (by omega) (by omega) (by omega) (by decide) (by decide)
  refine v_Country_copyFrom_out_61 ?_
  rw [if_neg (by decide), am_gd_in (by omega) (by omega), if_neg (by decide), if_neg (by decide), if_pos rfl, am_gd_in (by omega) (by omega), if_neg (by decide), if_neg (by decide), if_pos rfl, nI_add]
  refine ⟨by omega, v_Script_copyFrom_o35 ?_⟩
  intro m18 e18
  have s18 := an_cs_w (c := 35) (a := 55) (b := 0) s17 e18 (by omega) (by omega) (by omega) (by omega) (by decide) (by decide)
  intro m19 e19
  have s19 := an_cs_w (c := 35) (a := 55) (b := 0) s18 e19 (by omega) (by omega) (by omega) (by omega) (by decide) (by decide)
  rw [an_gd2 (by omega)]
  intro m20 e20
  have s20 := an_cs_row (c := 36) (a := 55) (b := 0) s19 e20 (by omega) (by omega) (by omega) (by omega) (by decide) (by decide)
  rw [an_gd2 (by omega)]
  intro m21 e21
  have s21 := an_cs_row (c := 37) (a := 55) (b := 0) s20 e21 (by omega) (by omega) (by omega) (by omega) (by decide) (by decide)
  rw [an_gd2 (by omega)]
  intro m22 e22
  have s22 := an_cs_row (c := 38) (a := 55) (b := 0) s21 e22 (by omega) (by omega) (by omega) (by omega) (by decide) (by decide)
  rw [an_gd2 (by omega)]
  intro m23 e23
  have s23 := an_cs_row (c := 39) (a := 55) (b := 0) s22 e23 (by omega) (by omega) (by omega) (by omega) (by decide) (by decide)
  rw [an_gd2 (by omega)]
  intro m24 e24
  have s24 := an_cs_row (c := 40) (a := 55) (b := 0) s23 e24 (by omega) (by omega) (by omega) (by omega) (by decide) (by decide)
  refine v_Country_copyFrom_out_61 ?_
  rw [if_neg (by decide), am_gd_in (by omega) (by omega), if_neg (by decide), if_neg (by decide), if_neg (by decide), if_pos rfl, am_gd_in (by omega) (by omega), if_neg (by decide), if_neg (by decide), if_neg (by decide), if_pos rfl, nI_add]
  refine ⟨by omega, v_Script_copyFrom_o42 ?_⟩
  intro m25 e25
  have s25 := an_cs_w (c := 42) (a := 55) (b := 0) s24 e25 (by omega) (by omega) (by omega) (by omega) (by decide) (by decide)
  intro m26 e26
  have s26 := an_cs_w (c := 42) (a := 55) (b := 0) s25 e26 (by omega) (by omega) (by omega) (by omega) (by decide) (by decide)
  rw [an_gd2 (by omega)]
  intro m27 e27
  have s27 := an_cs_row (c := 43) (a := 55) (b := 0) s26 e27 (by omega) (by omega) (by omega) (by omega) (by decide) (by decide)
  rw [an_gd2 (by omega)]
  intro m28 e28
  have s28 := an_cs_row (c := 44) (a := 55) (b := 0) s27 e28 (by omega) (by omega) (by omega) (by omega) (by decide) (by decide)
  rw [an_gd2 (by omega)]
  intro m29 e29
  have s29 := an_cs_row (c := 45) (a := 55) (b := 0) s28 e29 (by omega) (by omega) (by omega) (by omega) (by decide) (by decide)
  rw [an_gd2 (by omega)]
  intro m30 e30
  have s30 := an_cs_row (c := 46) (a := 55) (b := 0) s29 e30 (by omega) (by omega) (by omega) (by omega) (by decide) (by decide)
  rw [an_gd2 (by omega)]
  intro m31 e31
  have s31 := an_cs_row (c := 47) (a := 55) (b := 0) s30 e31 (by omega) (by omega) (by omega) (by omega) (by decide) (by decide)
  refine v_Country_copyFrom_out_61 ?_
  rw [if_neg (by decide), am_gd_in (by omega) (by omega), if_neg (by decide), if_neg (by decide), if_neg (by decide), if_neg (by decide), if_pos rfl, am_gd_in (by omega) (by omega), if_neg (by decide), if_neg (by decide), if_neg (by decide), if_neg (by decide), if_pos rfl, nI_add]
  refine ⟨by omega, v_Script_copyFrom_o49 ?_⟩
  intro m32 e32
  have s32 := an_cs_w (c := 49) (a := 55) (b := 0) s31 e32 (by omega) (by omega) (by omega) (by omega) (by decide) (by decide)
  intro m33 e33
  have s33 := an_cs_w (c := 49) (a := 55) (b := 0) s32 e33 (by omega) (by omega) (by omega) (by omega) (by decide) (by decide)
  rw [an_gd2 (by omega)]
  intro m34 e34
  have s34 := an_cs_row (c := 50) (a := 55) (b := 0) s33 e34 (by omega) (by omega) (by omega) (by omega) (by decide) (by decide)
  rw [an_gd2 (by omega)]
  intro m35 e35
  have s35 := an_cs_row (c := 51) (a := 55) (b := 0) s34 e35 (by omega) (by omega) (by omega) (by omega) (by decide) (by decide)
  rw [an_gd2 (by omega)]
  intro m36 e36
  have s36 := an_cs_row (c := 52) (a := 55) (b := 0) s35 e36 (by omega) (by omega) (by omega) (by omega) (by decide) (by decide)
  rw [an_gd2 (by omega)]
  intro m37 e37
  have s37 := an_cs_row (c := 53) (a := 55) (b := 0) s36 e37 (by omega) (by omega) (by omega) (by omega) (by decide) (by decide)
  rw [an_gd2 (by omega)]
  intro m38 e38
  have s38 := an_cs_row (c := 54) (a := 55) (b := 0) s37 e38 (by omega) (by omega) (by omega) (by omega) (by decide) (by decide)
  refine v_Country_copyFrom_out_61 ?_
  rw [if_pos (by decide)]
  refine ⟨by omega, v_Entries_copyFrom_out ?_⟩
  intro m39 e39
  have s39 := an_cs_w (c := 56) (a := 55) (b := 0) s38 e39 (by omega) (by omega) (by omega) (by omega) (by decide) (by decide)
  rw [an_gd2 (by omega)]
  intro m40 e40
  have s40 := an_cs_row (c := 57) (a := 55) (b := 0) s39 e40 (by omega) (by omega) (by omega) (by omega) (by decide) (by decide)
  refine ⟨by omega, v_Ledger_copyFrom_out ?_⟩
  intro m41 e41
  have s41 := an_cs_w (c := 58) (a := 55) (b := 0) s40 e41 (by omega) (by omega) (by omega) (by omega) (by decide) (by decide)
  intro m42 e42
  have s42 := an_cs_w (c := 58) (a := 55) (b := 0) s41 e42 (by omega) (by omega) (by omega) (by omega) (by decide) (by decide)
  rw [an_gd2 (by omega)]
  intro m43 e43
  have s43 := an_cs_row (c := 59) (a := 55) (b := 0) s42 e43 (by omega) (by omega) (by omega) (by omega) (by decide) (by decide)
  rw [an_gd2 (by omega)]
  intro m44 e44
  have s44 := an_cs_row (c := 60) (a := 55) (b := 0) s43 e44 (by omega) (by omega) (by omega) (by omega) (by decide) (by decide)
  rw [an_gd2 (by omega)]
  intro m45 e45
  have s45 := an_cs_row (c := 61) (a := 55) (b := 0) s44 e45 (by omega) (by omega) (by omega) (by omega) (by decide) (by decide)
  rw [an_gd2 (by omega)]
  intro m46 e46
  have s46 := an_cs_row (c := 62) (a := 55) (b := 0) s45 e46 (by omega) (by omega) (by omega) (by omega) (by decide) (by decide)
  rw [an_gd2 (by omega)]
  intro m47 e47
  have s47 := an_cs_row (c := 65) (a := 55) (b := 0) s46 e47 (by omega) (by omega) (by omega) (by omega) (by decide) (by decide)
  rw [an_gd2 (by omega)]
  intro m48 e48
  have s48 := an_cs_row (c := 66) (a := 55) (b := 0) s47 e48 (by omega) (by omega) (by omega) (by omega) (by decide) (by decide)
  rw [an_gd2 (by omega)]
  intro m49 e49
  have s49 := an_cs_row (c := 67) (a := 55) (b := 0) s48 e49 (by omega) (by omega) (by omega) (by omega) (by decide) (by decide)
  rw [an_gd2 (by omega)]
  intro m50 e50
  have s50 := an_cs_row (c := 68) (a := 55) (b := 0) s49 e50 (by omega) (by omega) (by omega) (by omega) (by decide) (by decide)
  intro m51 e51
  have s51 := an_cs_w (c := 14) (a := 55) (b := 0) s50 e51 (by omega) (by omega) (by omega) (by omega) (by decide) (by decide)
  intro m52 e52
  have s52 := an_cs_w (c := 14) (a := 55) (b := 0) s51 e52 (by omega) (by omega) (by omega) (by omega) (by decide) (by decide)
  exact hF _ s52
