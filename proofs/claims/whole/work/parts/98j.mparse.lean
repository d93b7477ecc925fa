/-! Texts: the model parses; products and sums. -/
variable {nb : Nat}
theorem an_mtv {sg : Bool} {t : an_tke} (h : an_tko t) : (t.1 = 0 ∧ an_mt sg t.1 t.2.1 = 0) ∨ (t.1 = 1 ∧ an_mt sg t.1 t.2.1 = 1) ∨ (t.1 = 2 ∧ an_mt sg t.1 t.2.1 = 2) ∨ (t.1 = 3 ∧ 41 ≤ an_mt sg t.1 t.2.1 ∧ an_mt sg t.1 t.2.1 ≤ 51 ∧ an_mt sg t.1 t.2.1 = 40 + an_sf sg t.2.1) ∨ (40 ≤ t.1 ∧ t.1 ≤ 62 ∧ an_mt sg t.1 t.2.1 = 100 + t.1) ∨ (100 ≤ t.1 ∧ t.1 ≤ 102 ∧ ((sg = false ∧ an_mt sg t.1 t.2.1 = t.1 - 80) ∨ (sg = true ∧ an_mt sg t.1 t.2.1 = 23))) ∨ (103 ≤ t.1 ∧ t.1 ≤ 106 ∧ an_mt sg t.1 t.2.1 = t.1 - 100) := by
  unfold an_mt
  rcases h with h | h | ⟨h, _⟩ | ⟨h, h2⟩ | h | h
  · exact Or.inl ⟨h, by rw [if_pos h]⟩
  · exact Or.inr (Or.inl ⟨h, by rw [if_neg (by omega), if_pos h]⟩)
  · exact Or.inr (Or.inr (Or.inl ⟨h, by rw [if_neg (by omega), if_neg (by omega), if_pos h]⟩))
  · have hs : 1 ≤ an_sf sg t.2.1 ∧ an_sf sg t.2.1 ≤ 11 := by
      have key : ∀ f, f < 7 → (1 ≤ an_sf false f ∧ an_sf false f ≤ 11) ∧ (1 ≤ an_sf true f ∧ an_sf true f ≤ 11) := by decide
      cases sg with
      | false => exact (key _ h2).1
      | true => exact (key _ h2).2
    rw [if_neg (by omega), if_neg (by omega), if_neg (by omega), if_pos h]
    exact Or.inr (Or.inr (Or.inr (Or.inl ⟨h, by omega, by omega, rfl⟩)))
  · have := an_sgn_i h
    rw [if_neg (by omega), if_neg (by omega), if_neg (by omega), if_neg (by omega), if_pos (by omega)]
    exact Or.inr (Or.inr (Or.inr (Or.inr (Or.inl ⟨by omega, by omega, rfl⟩))))
  · rw [if_neg (by omega), if_neg (by omega), if_neg (by omega), if_neg (by omega), if_neg (by omega)]
    by_cases q : t.1 < 103
    · rw [if_pos q]
      refine Or.inr (Or.inr (Or.inr (Or.inr (Or.inr (Or.inl ⟨by omega, by omega, ?_⟩)))))
      cases sg with
      | false => exact Or.inl ⟨rfl, by show 20 + (t.1 - 100) = t.1 - 80; omega⟩
      | true => exact Or.inr ⟨rfl, rfl⟩
    · rw [if_neg q]
      exact Or.inr (Or.inr (Or.inr (Or.inr (Or.inr (Or.inr ⟨by omega, by omega, rfl⟩)))))
/-- what parsing needs, and leaves -/
def an_me (sg : Bool) (B : Nat → Nat) (T : Nat) (μ : am_M) : Prop := an_tb 146 μ B T ∧ μ 140 12 = nI T ∧ an_wh sg μ
def an_mfr (μ μ' : am_M) : Prop := an_un [140, 145] μ μ' ∧ ∀ f, f ≠ 11 → f ≠ 13 → f ≠ 14 → f ≠ 15 → f ≠ 16 → f ≠ 17 → f ≠ 18 → f ≠ 20 → μ' 140 f = μ 140 f
theorem an_mf_rf {μ : am_M} : an_mfr μ μ := ⟨an_un_rf, fun _ _ _ _ _ _ _ _ _ => rfl⟩
theorem an_mf_tr {μ μ' μ'' : am_M} (h : an_mfr μ μ') (h' : an_mfr μ' μ'') : an_mfr μ μ'' := ⟨an_un_tr h.1 h'.1 (fun _ z => z) (fun _ z => z), fun f a b c e g i k l => (h'.2 f a b c e g i k l).trans (h.2 f a b c e g i k l)⟩
theorem an_mf_w {μ μ' : am_M} {f : Nat} {v : Int32} (e : μ' = am_w μ 140 f v) (hf : f = 11 ∨ f = 13 ∨ f = 14 ∨ f = 15 ∨ f = 16 ∨ f = 17 ∨ f = 18 ∨ f = 20) : an_mfr μ μ' := ⟨e ▸ an_un_w (by simp), fun g _ _ _ _ _ _ _ _ => an_w_o e (by omega)⟩
theorem an_me_c {sg : Bool} {B : Nat → Nat} {T : Nat} {μ μ' : am_M} (h : an_me sg B T μ) (f : an_mfr μ μ') : an_me sg B T μ' := ⟨⟨h.1.1, fun j hj => by rw [f.1 146 (by decide)]; exact h.1.2 j hj⟩, by rw [f.2 12 (by decide) (by decide) (by decide) (by decide) (by decide) (by decide) (by decide) (by decide)]; exact h.2.1, by unfold an_wh; rw [f.2 9 (by decide) (by decide) (by decide) (by decide) (by decide) (by decide) (by decide) (by decide)]; exact h.2.2⟩
/-- the model's row of steps: a step at p -/
def an_rws (row : Nat → Int32) (p : Nat) (e : Nat × Nat) (p' : Nat) : Prop := row (2 * p) = nI e.1 ∧ ((e.1 = 0 ∨ e.1 = 15) → row (2 * p + 1) = nI e.2) ∧ p' = p + 1
theorem an_rws_lt {row : Nat → Int32} (p : Nat) (e : Nat × Nat) (p' : Nat) (h : an_rws row p e p') : p < p' := by have := h.2.2; omega
theorem an_sqr_c {r0 r1 : Nat → Int32} {p q : Nat} {l : List (Nat × Nat)} (h : an_sq (an_rws r0) p l q) (hr : ∀ i, i < 2 * q → r1 i = r0 i) : an_sq (an_rws r1) p l q :=
  an_sq_mo (fun p' e p'' z => by
    obtain ⟨z1, z2, z3, z4⟩ := z
    exact ⟨by rw [hr _ (by omega)]; exact z2, fun y => by rw [hr _ (by omega)]; exact z3 y, z4⟩) _ _ _ (an_sq_in an_rws_lt _ _ _ h (Nat.le_refl _))
/-- the model at the token j, n steps laid -/
def an_mI (sg : Bool) (B : Nat → Nat) (T N : Nat) (μ : am_M) (j n : Nat) : Prop := an_me sg B T μ ∧ an_ntk sg (an_tk sg B T j) μ ∧ j < N ∧ N ≤ 401 ∧ (μ 140 11 = nI n ∧ μ 140 17 = nI 0) ∧ n ≤ j
def an_mg (sg : Bool) (B : Nat → Nat) (T N : Nat) (μ : am_M) (j n : Nat) (s : List (Nat × Nat)) (μ1 : am_M) (j1 n1 : Nat) : Prop := an_mfr μ μ1 ∧ an_mI sg B T N μ1 j1 n1 ∧ n1 + j ≤ n + j1 ∧ an_sq (an_rws (μ1 145)) n s n1 ∧ (∀ i, i < 2 * n → μ1 145 i = μ 145 i) ∧ μ1 140 20 = μ 140 20
def an_mp (sg : Bool) (B : Nat → Nat) (T N : Nat) (μ : am_M) (j n : Nat) (R : an_PR) (r : Int32) (μ' : am_M) : Prop := match R with
  | .inl p => r = nI 1 ∧ ∃ n', an_mg sg B T N μ j n p.1 μ' p.2 n'
  | .inr e => r = nI 0 ∧ an_mfr μ μ' ∧ μ' 140 17 = nI e.1 ∧ μ' 140 18 = nI (an_tk sg B T e.2).2.2.1
theorem an_mg_le {sg : Bool} {B : Nat → Nat} {T N : Nat} {μ μ1 : am_M} {j n j1 n1 : Nat} {s : List (Nat × Nat)} (h : an_mg sg B T N μ j n s μ1 j1 n1) : n ≤ n1 := by
  have := (an_sq_le an_rws_lt _ _ _ h.2.2.2.1).1
  omega
theorem an_mg_tr {sg : Bool} {B : Nat → Nat} {T N : Nat} {μ μ1 μ2 : am_M} {j n j1 n1 j2 n2 : Nat} {s s' : List (Nat × Nat)} (h : an_mg sg B T N μ j n s μ1 j1 n1) (h' : an_mg sg B T N μ1 j1 n1 s' μ2 j2 n2) : an_mg sg B T N μ j n (s ++ s') μ2 j2 n2 := by
  have hl := an_mg_le h
  obtain ⟨a1, a2, a3, a4, a5, a6⟩ := h
  obtain ⟨b1, b2, b3, b4, b5, b6⟩ := h'
  exact ⟨an_mf_tr a1 b1, b2, by omega, an_sq_app _ _ _ _ _ (an_sqr_c a4 b5) b4, fun i hi => (b5 i (by omega)).trans (a5 i hi), b6.trans a6⟩
theorem an_mp_g {sg : Bool} {B : Nat → Nat} {T N : Nat} {μ μ1 μ2 : am_M} {j n j1 n1 : Nat} {s : List (Nat × Nat)} {R : an_PR} {r : Int32} (h : an_mg sg B T N μ j n s μ1 j1 n1) (h' : an_mp sg B T N μ1 j1 n1 R r μ2) : an_mp sg B T N μ j n (an_pre s R) r μ2 := by
  cases R with
  | inr e =>
    obtain ⟨h1, h2, h3⟩ := h'
    exact ⟨h1, an_mf_tr h.1 h2, h3⟩
  | inl q =>
    obtain ⟨h1, c', h2⟩ := h'
    exact ⟨h1, c', an_mg_tr h h2⟩
theorem an_mp_1 {sg : Bool} {B : Nat → Nat} {T N : Nat} {μ μ1 : am_M} {j n j1 n1 : Nat} {s : List (Nat × Nat)} (h : an_mg sg B T N μ j n s μ1 j1 n1) : an_mp sg B T N μ j n (.inl (s, j1)) (nI 1) μ1 := ⟨rfl, n1, h⟩
theorem an_mg_rf {sg : Bool} {B : Nat → Nat} {T N : Nat} {μ : am_M} {j n : Nat} (h : an_mI sg B T N μ j n) : an_mg sg B T N μ j n [] μ j n := ⟨an_mf_rf, h, Nat.le_refl _, rfl, fun _ _ => rfl, rfl⟩
/-- the tokens of a tape: what is known of them -/
def an_tkk (sg : Bool) (B : Nat → Nat) (T N : Nat) : Prop := an_tko2 (an_tk sg B T) N ∧ ∀ j, (an_tk sg B T j).2.2.2 ≤ T
theorem m_next {L d : Nat} {μ : am_M} {F : am_M → Prop} {sg : Bool} {B : Nat → Nat} {T N j n : Nat} (ht : an_tkk sg B T N) (hd : 13 ≤ d) (hI : an_mI sg B T N μ j n) (hk : ¬ (an_tk sg B T j).1 = 0) (hF : ∀ μ', an_mg sg B T N μ j n [] μ' (j + 1) n → μ' 145 = μ 145 → F μ') : am_Cv L d 164 [.ref 140] μ F := by
  obtain ⟨⟨e1, e2, e3⟩, ⟨t1, t2, t3, t4⟩, i3, i4, i5, i6⟩ := id hI
  have hj : j + 1 < N := by
    rcases Nat.lt_or_ge (j + 1) N with q | q
    · exact q
    · exact absurd (ht.1.2 j q) hk
  refine w_next hd e1 e2 e3 t3 (ht.2 j) (fun μ' u' s' => ?_)
  have f : an_mfr μ μ' := ⟨fun c hc => u'.1 c (fun z => hc (by simp at z ⊢; omega)), fun f _ a b c e _ _ _ => u'.2 f a b c e⟩
  exact hF μ' ⟨f, ⟨an_me_c hI.1 f, s', hj, i4, ⟨by rw [u'.2 11 (by decide) (by decide) (by decide) (by decide)]; exact i5.1, by rw [u'.2 17 (by decide) (by decide) (by decide) (by decide)]; exact i5.2⟩, by omega⟩, by omega, rfl, fun i _ => by rw [u'.1 145 (by decide)], by rw [u'.2 20 (by decide) (by decide) (by decide) (by decide)]⟩ (u'.1 145 (by decide))
theorem m_bad {L d : Nat} {μ : am_M} {F : Int32 → am_M → Prop} {sg : Bool} {B : Nat → Nat} {T N j n k : Nat} (hI : an_mI sg B T N μ j n) (hF : ∀ μ', an_mp sg B T N μ j n (.inr (k, j)) (nI 0) μ' → F (nI 0) μ') : am_put (am_w μ 140 17 (nI k)) (fun μ5 => am_put (am_w μ5 140 18 (μ5 140 15)) (fun μ6 => F (nI 0) μ6)) := by
  intro μ5 e5
  rw [an_w_o e5 (show 15 ≠ 17 by decide), hI.2.1.2.1]
  intro μ6 e6
  exact hF μ6 ⟨rfl, an_mf_tr (an_mf_w e5 (by omega)) (an_mf_w e6 (by omega)), by rw [an_w_o e6 (by decide)]; exact an_w_s e5, an_w_s e6⟩
theorem m_lay {μ : am_M} {G : am_M → Prop} {n : Nat} {x y : Int32} (hn : n < 410) (h11 : μ 140 11 = nI n) (hG : ∀ μ', an_mfr μ μ' → (∀ f, f ≠ 11 → μ' 140 f = μ 140 f) → μ' 140 11 = nI (n + 1) → μ' 145 (2 * n) = x → μ' 145 (2 * n + 1) = y → (∀ i, i ≠ 2 * n → i ≠ 2 * n + 1 → μ' 145 i = μ 145 i) → G μ') : am_gd (am_inb ((nI 2) * (μ 140 11)) 820) (am_put (am_w μ 145 (((nI 2) * (μ 140 11)).toNatClampNeg) x) (fun μ1 => am_gd (am_inb (((nI 2) * (μ1 140 11)) + (nI 1)) 820) (am_put (am_w μ1 145 ((((nI 2) * (μ1 140 11)) + (nI 1)).toNatClampNeg) y) (fun μ2 => am_put (am_w μ2 140 11 ((μ2 140 11) + (nI 1))) (fun μ3 => G μ3))))) := by
  rw [h11, pk_mul, am_gd_in (by omega) (by omega), am_cl (by omega)]
  intro μ1 e1
  have x1 : μ1 140 11 = nI n := by rw [an_w_c e1 (by decide)]; exact h11
  rw [x1, pk_mul, nI_add, am_gd_in (by omega) (by omega), am_cl (by omega)]
  intro μ2 e2
  have x2 : μ2 140 11 = nI n := by rw [an_w_c e2 (by decide)]; exact x1
  rw [x2, nI_add]
  intro μ3 e3
  have f : ∀ f, f ≠ 11 → μ3 140 f = μ 140 f := fun f hf => by rw [an_w_o e3 hf, an_w_c e2 (by decide), an_w_c e1 (by decide)]
  refine hG μ3 ⟨fun c hc => ?_, fun g a _ _ _ _ _ _ _ => f g a⟩ f (an_w_s e3) ?_ ?_ (fun i a b => ?_)
  · simp only [List.mem_cons, List.not_mem_nil, or_false, not_or] at hc
    rw [an_w_c e3 (by omega), an_w_c e2 (by omega), an_w_c e1 (by omega)]
  · rw [an_w_c e3 (by decide), an_w_o e2 (by omega), an_w_s e1]
  · rw [an_w_c e3 (by decide), an_w_s e2]
  · rw [an_w_c e3 (by decide), an_w_o e2 b, an_w_o e1 a]
/-- a step laid, a token's worth behind -/
theorem m_op {μ μa μ1 : am_M} {G : am_M → Prop} {sg : Bool} {B : Nat → Nat} {T N j n j1 n1 : Nat} {s : List (Nat × Nat)} {e1 : Nat} (ha : an_mg sg B T N μ j n [] μa (j + 1) n) (h : an_mg sg B T N μa (j + 1) n s μ1 j1 n1) (hnj : n ≤ j) (hG : ∀ μ', an_mg sg B T N μ j n (s ++ [(e1, 0)]) μ' j1 (n1 + 1) → G μ') : am_gd (am_inb ((nI 2) * (μ1 140 11)) 820) (am_put (am_w μ1 145 (((nI 2) * (μ1 140 11)).toNatClampNeg) (nI e1)) (fun μ2 => am_gd (am_inb (((nI 2) * (μ2 140 11)) + (nI 1)) 820) (am_put (am_w μ2 145 ((((nI 2) * (μ2 140 11)) + (nI 1)).toNatClampNeg) (nI 0)) (fun μ3 => am_put (am_w μ3 140 11 ((μ3 140 11) + (nI 1))) (fun μ4 => G μ4))))) := by
  have g := an_mg_tr ha h
  have l := an_mg_le g
  obtain ⟨b1, ⟨i1, i2, i3, i4, i5, i6⟩, b3, b4, b5, b6⟩ := h
  refine m_lay (by omega) i5.1 (fun μ2 f2 v2 w2 r0 r1 r2 => hG μ2 ?_)
  have nt : an_ntk sg (an_tk sg B T j1) μ2 := by
    obtain ⟨t1, t2, t3, t4⟩ := i2
    exact ⟨by rw [v2 14 (by decide)]; exact t1, by rw [v2 15 (by decide)]; exact t2, by rw [v2 13 (by decide)]; exact t3, fun z => by rw [v2 16 (by decide)]; exact t4 z⟩
  exact ⟨an_mf_tr g.1 f2, ⟨an_me_c i1 f2, nt, i3, i4, ⟨w2, by rw [v2 17 (by decide)]; exact i5.2⟩, by omega⟩, by omega, an_sq_app _ _ _ _ _ (an_sqr_c b4 (fun i hi => r2 i (by omega) (by omega))) ⟨n1 + 1, ⟨r0, fun _ => r1, rfl⟩, rfl⟩, fun i hi => (r2 i (by omega) (by omega)).trans (g.2.2.2.2.1 i hi), by rw [v2 20 (by decide)]; exact g.2.2.2.2.2⟩
def an_mok (sg : Bool) (B : Nat → Nat) (T N dd dp : Nat) (P : Nat → an_PR) (call : Nat → am_M → (Int32 → am_M → Prop) → Prop) : Prop := ∀ (d j n : Nat) (μ : am_M) (F : Int32 → am_M → Prop), dd ≤ d → an_mI sg B T N μ j n → μ 140 20 = nI dp → (∀ r μ', an_mp sg B T N μ j n (P j) r μ' → F r μ') → call d μ F
theorem an_mt_lt {sg : Bool} {t : an_tke} (h : an_tko t) : an_mt sg t.1 t.2.1 < 1000 := by
  have := an_mtv (sg := sg) h
  omega
theorem m_unit {L d : Nat} {μ : am_M} {F : Int32 → am_M → Prop} {G : am_M → Prop} {sg : Bool} {B : Nat → Nat} {T N j n : Nat} (ht : an_tkk sg B T N) (hd : 16 ≤ d) (hI : an_mI sg B T N μ j n) (hok : ∀ sp μ', an_pu sg (an_tk sg B T) j = .inl (sp, j + 1) → an_mg sg B T N μ j n sp μ' (j + 1) (n + 1) → G μ') (hbad : an_pu sg (an_tk sg B T) j = .inr (1, j) → ∀ μ', an_mp sg B T N μ j n (.inr (1, j)) (nI 0) μ' → F (nI 0) μ') :
    0 < d ∧ (0 < d - 1 ∧ (if (μ 140 14) < (nI 41) then if (μ 140 14) = (nI 2) then 0 < d - 1 ∧ (am_gd (am_inb ((nI 2) * (μ 140 11)) 820) (am_put (am_w μ 145 (((nI 2) * (μ 140 11)).toNatClampNeg) (nI 0)) (fun μ1 => am_gd (am_inb (((nI 2) * (μ1 140 11)) + (nI 1)) 820) (am_put (am_w μ1 145 ((((nI 2) * (μ1 140 11)) + (nI 1)).toNatClampNeg) (μ 140 16)) (fun μ2 => am_put (am_w μ2 140 11 ((μ2 140 11) + (nI 1))) (fun μ3 => 0 < d - 1 ∧ am_Cv L ((d - 1) - 1) 164 [.ref 140] μ3 (fun μ4 => G μ4))))))) else 0 < d - 1 ∧ (am_put (am_w μ 140 17 (nI 1)) (fun μ5 => am_put (am_w μ5 140 18 (μ5 140 15)) (fun μ6 => F (nI 0) μ6))) else if (nI 51) < (μ 140 14) then if (μ 140 14) = (nI 2) then 0 < d - 1 ∧ (am_gd (am_inb ((nI 2) * (μ 140 11)) 820) (am_put (am_w μ 145 (((nI 2) * (μ 140 11)).toNatClampNeg) (nI 0)) (fun μ7 => am_gd (am_inb (((nI 2) * (μ7 140 11)) + (nI 1)) 820) (am_put (am_w μ7 145 ((((nI 2) * (μ7 140 11)) + (nI 1)).toNatClampNeg) (μ 140 16)) (fun μ8 => am_put (am_w μ8 140 11 ((μ8 140 11) + (nI 1))) (fun μ9 => 0 < d - 1 ∧ am_Cv L ((d - 1) - 1) 164 [.ref 140] μ9 (fun μ10 => G μ10))))))) else 0 < d - 1 ∧ (am_put (am_w μ 140 17 (nI 1)) (fun μ11 => am_put (am_w μ11 140 18 (μ11 140 15)) (fun μ12 => F (nI 0) μ12))) else if (μ 140 14) = (nI 2) then 0 < d - 1 ∧ (am_gd (am_inb ((nI 2) * (μ 140 11)) 820) (am_put (am_w μ 145 (((nI 2) * (μ 140 11)).toNatClampNeg) ((μ 140 14) - (nI 40))) (fun μ13 => am_gd (am_inb (((nI 2) * (μ13 140 11)) + (nI 1)) 820) (am_put (am_w μ13 145 ((((nI 2) * (μ13 140 11)) + (nI 1)).toNatClampNeg) (μ 140 16)) (fun μ14 => am_put (am_w μ14 140 11 ((μ14 140 11) + (nI 1))) (fun μ15 => 0 < d - 1 ∧ am_Cv L ((d - 1) - 1) 164 [.ref 140] μ15 (fun μ16 => G μ16))))))) else 0 < d - 1 ∧ (am_gd (am_inb ((nI 2) * (μ 140 11)) 820) (am_put (am_w μ 145 (((nI 2) * (μ 140 11)).toNatClampNeg) ((μ 140 14) - (nI 40))) (fun μ17 => am_gd (am_inb (((nI 2) * (μ17 140 11)) + (nI 1)) 820) (am_put (am_w μ17 145 ((((nI 2) * (μ17 140 11)) + (nI 1)).toNatClampNeg) (μ 140 16)) (fun μ18 => am_put (am_w μ18 140 11 ((μ18 140 11) + (nI 1))) (fun μ19 => 0 < d - 1 ∧ am_Cv L ((d - 1) - 1) 164 [.ref 140] μ19 (fun μ20 => G μ20))))))))) := by
  have hv := an_mtv (sg := sg) (ht.1.1 j)
  have hl := an_mt_lt (sg := sg) (ht.1.1 j)
  obtain ⟨i1, ⟨t1, t2, t3, t4⟩, i3, i4, i5, i6⟩ := id hI
  -- laid, and behind it
  have go : ∀ (x s v : Nat) (sp : List (Nat × Nat)), sp = [(s, v)] → x = s → an_pu sg (an_tk sg B T) j = .inl (sp, j + 1) → ((s = 0 ∨ s = 15) → μ 140 16 = nI v) → ¬ (an_tk sg B T j).1 = 0 → am_gd (am_inb ((nI 2) * (μ 140 11)) 820) (am_put (am_w μ 145 (((nI 2) * (μ 140 11)).toNatClampNeg) (nI x)) (fun μ1 => am_gd (am_inb (((nI 2) * (μ1 140 11)) + (nI 1)) 820) (am_put (am_w μ1 145 ((((nI 2) * (μ1 140 11)) + (nI 1)).toNatClampNeg) (μ 140 16)) (fun μ2 => am_put (am_w μ2 140 11 ((μ2 140 11) + (nI 1))) (fun μ3 => 0 < d - 1 ∧ am_Cv L ((d - 1) - 1) 164 [.ref 140] μ3 (fun μ4 => G μ4)))))) := by
    intro x s v sp hsp hx hp hval hk
    subst hsp
    subst hx
    refine m_lay (by omega) i5.1 (fun μ2 f2 v2 w2 r0 r1 r2 => ?_)
    have nt : an_ntk sg (an_tk sg B T j) μ2 := ⟨by rw [v2 14 (by decide)]; exact t1, by rw [v2 15 (by decide)]; exact t2, by rw [v2 13 (by decide)]; exact t3, fun z => by rw [v2 16 (by decide)]; exact t4 z⟩
    have hj : j + 1 < N := by
      rcases Nat.lt_or_ge (j + 1) N with q | q
      · exact q
      · exact absurd (ht.1.2 j q) hk
    obtain ⟨e1, e2, e3⟩ := an_me_c i1 f2
    refine ⟨by omega, w_next (by omega) e1 e2 e3 nt.2.2.1 (ht.2 j) (fun μ' u' s' => ?_)⟩
    have f : an_mfr μ2 μ' := ⟨fun c hc => u'.1 c (fun z => hc (by simp at z ⊢; omega)), fun f _ a b c e _ _ _ => u'.2 f a b c e⟩
    have r145 : μ' 145 = μ2 145 := u'.1 145 (by decide)
    refine hok _ μ' hp ⟨an_mf_tr f2 f, ⟨an_me_c (an_me_c i1 f2) f, s', hj, i4, ⟨by rw [u'.2 11 (by decide) (by decide) (by decide) (by decide)]; exact w2, by rw [u'.2 17 (by decide) (by decide) (by decide) (by decide), v2 17 (by decide)]; exact i5.2⟩, by omega⟩, by omega, ⟨n + 1, ⟨by rw [r145]; exact r0, fun z => by rw [r145, r1]; exact hval z, rfl⟩, rfl⟩, fun i hi => by rw [r145]; exact r2 i (by omega) (by omega), by rw [u'.2 20 (by decide) (by decide) (by decide) (by decide)]; exact v2 20 (by decide)⟩
  have bad : ¬ (an_tk sg B T j).1 = 2 → ¬ (an_tk sg B T j).1 = 3 → am_put (am_w μ 140 17 (nI 1)) (fun μ5 => am_put (am_w μ5 140 18 (μ5 140 15)) (fun μ6 => F (nI 0) μ6)) := by
    intro k2 k3
    exact m_bad (L := L) (d := d) hI (hbad (by unfold an_pu; rw [if_neg k2, if_neg k3]))
  have num : (an_tk sg B T j).1 = 2 → am_gd (am_inb ((nI 2) * (μ 140 11)) 820) (am_put (am_w μ 145 (((nI 2) * (μ 140 11)).toNatClampNeg) (nI 0)) (fun μ1 => am_gd (am_inb (((nI 2) * (μ1 140 11)) + (nI 1)) 820) (am_put (am_w μ1 145 ((((nI 2) * (μ1 140 11)) + (nI 1)).toNatClampNeg) (μ 140 16)) (fun μ2 => am_put (am_w μ2 140 11 ((μ2 140 11) + (nI 1))) (fun μ3 => 0 < d - 1 ∧ am_Cv L ((d - 1) - 1) 164 [.ref 140] μ3 (fun μ4 => G μ4)))))) := fun k2 => go 0 0 _ _ rfl rfl (by unfold an_pu; rw [if_pos k2]) (fun _ => t4 k2) (by omega)
  rw [am_dp (by omega), am_dp (by omega), t1]
  generalize hM : an_mt sg (an_tk sg B T j).1 (an_tk sg B T j).2.1 = M at hv hl
  by_cases q1 : M < 41
  · rw [if_pos (nI_lt q1 (by omega))]
    by_cases q2 : M = 2
    · rw [if_pos (by rw [q2])]
      exact ⟨by omega, num (by omega)⟩
    · rw [if_neg (fun z => q2 ((an_ck hl (by omega)).mp z))]
      exact ⟨by omega, bad (by omega) (by omega)⟩
  · rw [if_neg (nI_nlt (by omega) (by omega))]
    by_cases q3 : 51 < M
    · rw [if_pos (nI_lt q3 (by omega)), if_neg (fun z => by have := (an_ck hl (by omega)).mp z; omega)]
      exact ⟨by omega, bad (by omega) (by omega)⟩
    · rw [if_neg (nI_nlt (by omega) (by omega)), if_neg (fun z => by have := (an_ck hl (by omega)).mp z; omega), pk_sub (by omega)]
      have k3 : (an_tk sg B T j).1 = 3 := by omega
      refine ⟨by omega, go (M - 40) (an_sf sg (an_tk sg B T j).2.1) 0 _ rfl (by omega) (by unfold an_pu; rw [if_neg (by omega), if_pos k3]) (fun z => ?_) (by omega)⟩
      exfalso
      have := an_tk_3 ht.1.1 k3
      have hs := (an_sf_ok (sg := sg) this).1
      cases sg with
      | false => have := hs.1; have := hs.2; omega
      | true => rcases hs with h | h | h | h | h | h | h <;> omega
theorem m_product {L N dp : Nat} {sg : Bool} {B : Nat → Nat} {T : Nat} (ht : an_tkk sg B T N) : an_mok sg B T N 17 dp (an_pprod sg (an_tk sg B T)) (fun d μ F => am_Ci L d 170 [.ref 140] μ F) := by
  have loop : ∀ (f d j n : Nat) (μ : am_M) (F : Int32 → am_M → Prop), 17 ≤ d → an_mI sg B T N μ j n → 401 ≤ f + j → (∀ r μ', an_mp sg B T N μ j n (an_ppl sg (an_tk sg B T) f j) r μ' → F r μ') → am_Ji L d 170 9 [some (.ref 140), none] [] μ F := by
    intro f
    induction f with
    | zero =>
      intro d j n μ F hd hI hf hF
      have := hI.2.2.1
      have := hI.2.2.2.1
      omega
    | succ f ih =>
      intro d j n μ F hd hI hf hF
      have hv := an_mtv (sg := sg) (ht.1.1 j)
      have hl := an_mt_lt (sg := sg) (ht.1.1 j)
      have t1 := hI.2.1.1
      rw [an_ppl] at hF
      refine v_M_product_9 ?_
      rw [t1]
      generalize hM : an_mt sg (an_tk sg B T j).1 (an_tk sg B T j).2.1 = M at hv hl t1
      by_cases q42 : M = 142
      · have k42 : (an_tk sg B T j).1 = 42 := by omega
        rw [if_pos (by rw [q42])]
        rw [if_pos k42] at hF
        refine v_M_product_29 ?_
        rw [t1, if_pos (fun z => by have := (an_ck hl (by omega)).mp z; omega)]
        refine v_M_product_45 ?_
        refine ⟨by omega, m_next ht (by omega) hI (by omega) (fun μ1 g1 _ => ?_)⟩
        rw [if_pos nI_0]
        refine m_unit ht (by omega) g1.2.1 (fun sp μ2 hp g2 => ?_) (fun hp μ2 p2 => ?_)
        · refine ⟨by omega, m_op g1 g2 hI.2.2.2.2.2 (fun μ3 g3 => ?_)⟩
          refine v_M_product_113 ?_
          refine ih d (j + 1 + 1) (n + 1 + 1) μ3 F hd g3.2.1 (by omega) (fun r μ' p' => hF r μ' ?_)
          have := an_mp_g g3 p'
          rw [hp, an_th_pre]
          show an_mp sg B T N μ j n (an_pre sp (an_th (.inl ([(14, 0)], j + 1 + 1)) (an_ppl sg (an_tk sg B T) f))) r μ'
          rw [an_th_pre, an_pre_pre]
          exact this
        · refine hF _ μ2 ?_
          rw [hp]
          exact an_mp_g (s := []) g1 p2
      · rw [if_neg (fun z => q42 ((an_ck hl (by omega)).mp z))]
        rw [if_neg (by omega)] at hF
        by_cases q47 : M = 147
        · have k47 : (an_tk sg B T j).1 = 47 := by omega
          rw [if_neg (fun z => z (by rw [q47]))]
          rw [if_pos k47] at hF
          refine v_M_product_29 ?_
          rw [t1, if_neg (fun z => z (by rw [q47]))]
          refine v_M_product_45 ?_
          refine ⟨by omega, m_next ht (by omega) hI (by omega) (fun μ1 g1 _ => ?_)⟩
          rw [if_neg (by decide)]
          have I1 := g1.2.1
          have hv1 := an_mtv (sg := sg) (ht.1.1 (j + 1))
          have hl1 := an_mt_lt (sg := sg) (ht.1.1 (j + 1))
          have s1 := I1.2.1.1
          have s4 := I1.2.1.2.2.2
          rw [s1]
          generalize hM1 : an_mt sg (an_tk sg B T (j + 1)).1 (an_tk sg B T (j + 1)).2.1 = M1 at hv1 hl1
          by_cases q2 : M1 = 2
          · have k2 : (an_tk sg B T (j + 1)).1 = 2 := by omega
            have l5 := an_tk_2 ht.1.1 k2
            rw [if_pos (by rw [q2]), s4 k2]
            rw [if_pos k2] at hF
            by_cases kz : (an_tk sg B T (j + 1)).2.1 = 0
            · rw [if_pos kz] at hF
              rw [kz, if_neg (fun z => z nI_0)]
              exact ⟨by omega, m_bad (L := L) (d := d) I1 (fun μ2 p2 => hF _ μ2 (an_mp_g (s := []) g1 p2))⟩
            · rw [if_neg kz] at hF
              rw [if_pos (nI_ne0 (by omega) (by omega))]
              refine ⟨by omega, m_lay (by have := I1.2.2.1; have := I1.2.2.2.1; have := I1.2.2.2.2.2; omega) I1.2.2.2.2.1.1 (fun μ2 f2 v2 w2 r0 r1 r2 => ?_)⟩
              obtain ⟨x1, x2, x3, x4, x5, x6⟩ := I1
              have nt : an_ntk sg (an_tk sg B T (j + 1)) μ2 := ⟨by rw [v2 14 (by decide)]; exact x2.1, by rw [v2 15 (by decide)]; exact x2.2.1, by rw [v2 13 (by decide)]; exact x2.2.2.1, fun z => by rw [v2 16 (by decide)]; exact x2.2.2.2 z⟩
              have g2 : an_mg sg B T N μ j n [(15, (an_tk sg B T (j + 1)).2.1)] μ2 (j + 1) (n + 1) := ⟨an_mf_tr g1.1 f2, ⟨an_me_c x1 f2, nt, x3, x4, ⟨w2, by rw [v2 17 (by decide)]; exact x5.2⟩, by have := hI.2.2.2.2.2; omega⟩, by omega, ⟨n + 1, ⟨r0, fun _ => r1, rfl⟩, rfl⟩, fun i hi => (r2 i (by omega) (by omega)).trans (g1.2.2.2.2.1 i hi), by rw [v2 20 (by decide)]; exact g1.2.2.2.2.2⟩
              refine ⟨by omega, m_next ht (by omega) g2.2.1 (by omega) (fun μ3 g3 _ => ?_)⟩
              refine v_M_product_113 ?_
              have g4 := an_mg_tr g2 g3
              refine ih d (j + 1 + 1) (n + 1) μ3 F hd g4.2.1 (by omega) (fun r μ' p' => hF r μ' ?_)
              have := an_mp_g g4 p'
              show an_mp sg B T N μ j n (an_th (.inl ([(15, (an_tk sg B T (j + 1)).2.1)], j + 2)) (an_ppl sg (an_tk sg B T) f)) r μ'
              rw [an_th_pre]
              exact this
          · rw [if_neg (fun z => q2 ((an_ck hl1 (by omega)).mp z))]
            rw [if_neg (by omega)] at hF
            exact ⟨by omega, m_bad (L := L) (d := d) I1 (fun μ2 p2 => hF _ μ2 (an_mp_g (s := []) g1 p2))⟩
        · rw [if_pos (fun z => q47 ((an_ck hl (by omega)).mp z))]
          rw [if_neg (by omega)] at hF
          exact hF _ μ (an_mp_1 (an_mg_rf hI))
  intro d j n μ F hd hI _ hF
  refine v_M_product ?_
  refine m_unit ht (by omega) hI (fun sp μ2 hp g2 => ?_) (fun hp μ2 p2 => ?_)
  · refine loop 401 d (j + 1) (n + 1) μ2 F hd g2.2.1 (by omega) (fun r μ' p' => hF r μ' ?_)
    unfold an_pprod
    rw [hp, an_th_pre]
    exact an_mp_g g2 p'
  · refine hF _ μ2 ?_
    unfold an_pprod
    rw [hp]
    exact p2
