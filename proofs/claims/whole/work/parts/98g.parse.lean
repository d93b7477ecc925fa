/-! Texts: the class parses its tokens. -/
variable {nb : Nat}
theorem an_sq_app {C : Nat → Nat × Nat → Nat → Prop} : ∀ (l l' : List (Nat × Nat)) (p q r : Nat), an_sq C p l q → an_sq C q l' r → an_sq C p (l ++ l') r := by
  intro l
  induction l with
  | nil => intro l' p q r h h'; cases h; exact h'
  | cons e l ih =>
    intro l' p q r h h'
    obtain ⟨p1, g1, g2⟩ := h
    exact ⟨p1, g1, ih l' p1 q r g2 h'⟩
theorem an_sq_mo {C C' : Nat → Nat × Nat → Nat → Prop} (h : ∀ p e p', C p e p' → C' p e p') : ∀ (l : List (Nat × Nat)) (p q : Nat), an_sq C p l q → an_sq C' p l q := by
  intro l
  induction l with
  | nil => intro p q g; exact g
  | cons e l ih =>
    intro p q g
    obtain ⟨p1, g1, g2⟩ := g
    exact ⟨p1, h _ _ _ g1, ih _ _ g2⟩
theorem an_C_c {sg : Bool} {r0 r1 : Nat → Int32} {p p' : Nat} {e : Nat × Nat} (h : an_C sg r0 p e p') (hr : ∀ i, i < p' → r1 i = r0 i) : an_C sg r1 p e p' := by
  rcases h with ⟨a, b, c, d⟩ | ⟨a, b, d⟩ | ⟨a, b, d⟩ | ⟨a1, a2, a3, b, d⟩
  · exact Or.inl ⟨a, by rw [hr p (by omega)]; exact b, by rw [hr (p + 1) (by omega)]; exact c, d⟩
  · exact Or.inr (Or.inl ⟨a, by rw [hr p (by omega)]; exact b, d⟩)
  · exact Or.inr (Or.inr (Or.inl ⟨a, by rw [hr p (by omega)]; exact b, d⟩))
  · exact Or.inr (Or.inr (Or.inr ⟨a1, a2, a3, by rw [hr p (by omega)]; exact b, d⟩))
theorem an_sqC_c {sg : Bool} {r0 r1 : Nat → Int32} {p q : Nat} {l : List (Nat × Nat)} (h : an_sq (an_C sg r0) p l q) (hr : ∀ i, i < q → r1 i = r0 i) : an_sq (an_C sg r1) p l q :=
  an_sq_mo (fun _ _ p' z => an_C_c z.2 (fun i hi => hr i (by have := z.1; omega))) _ _ _ (an_sq_in an_C_lt _ _ _ h (Nat.le_refl _))
/-- the reader at the token j, c codes laid -/
def an_cI (tk : Nat → an_tke) (N : Nat) (μ : am_M) (j c : Nat) : Prop := an_ts tk μ N ∧ μ 3 5 = nI j ∧ j < N ∧ N ≤ 401 ∧ μ 4 7 = nI c ∧ c ≤ j
def an_cf (μ μ' : am_M) : Prop := an_un [3, 4, 5] μ μ' ∧ (∀ f, f ≠ 5 → f ≠ 7 → f ≠ 8 → μ' 3 f = μ 3 f) ∧ ∀ f, f ≠ 7 → μ' 4 f = μ 4 f
theorem an_cf_rf {μ : am_M} : an_cf μ μ := ⟨an_un_rf, fun _ _ _ _ => rfl, fun _ _ => rfl⟩
theorem an_cf_tr {μ μ' μ'' : am_M} (h : an_cf μ μ') (h' : an_cf μ' μ'') : an_cf μ μ'' := ⟨an_un_tr h.1 h'.1 (fun _ z => z) (fun _ z => z), fun f a b c => (h'.2.1 f a b c).trans (h.2.1 f a b c), fun f a => (h'.2.2 f a).trans (h.2.2 f a)⟩
theorem an_cf_3 {μ μ' : am_M} {f : Nat} {v : Int32} (e : μ' = am_w μ 3 f v) (hf : f = 5 ∨ f = 7 ∨ f = 8) : an_cf μ μ' := ⟨e ▸ an_un_w (by simp), fun g g1 g2 g3 => an_w_o e (by omega), fun g _ => by rw [an_w_c e (by decide)]⟩
/-- progress: steps laid, tokens taken -/
def an_cg (sg : Bool) (tk : Nat → an_tke) (N : Nat) (μ : am_M) (j c : Nat) (s : List (Nat × Nat)) (μ1 : am_M) (j1 c1 : Nat) : Prop := an_cf μ μ1 ∧ an_cI tk N μ1 j1 c1 ∧ c1 + j ≤ c + j1 ∧ an_sq (an_C sg (μ1 5)) c s c1 ∧ ∀ i, i < c → μ1 5 i = μ 5 i
def an_cp (sg : Bool) (tk : Nat → an_tke) (N : Nat) (μ : am_M) (j c : Nat) (R : an_PR) (r : Int32) (μ' : am_M) : Prop := match R with
  | .inl p => r = nI 1 ∧ ∃ c', an_cg sg tk N μ j c p.1 μ' p.2 c'
  | .inr e => r = nI 0 ∧ an_cf μ μ' ∧ μ' 3 7 = nI e.1 ∧ μ' 3 8 = nI (tk e.2).2.2.1
def an_pre (s : List (Nat × Nat)) (R : an_PR) : an_PR := match R with
  | .inr e => .inr e
  | .inl q => .inl (s ++ q.1, q.2)
theorem an_th_pre {s : List (Nat × Nat)} {j : Nat} {g : Nat → an_PR} : an_th (.inl (s, j)) g = an_pre s (g j) := by
  unfold an_th an_pre
  rfl
theorem an_pre_pre {s s' : List (Nat × Nat)} {R : an_PR} : an_pre s (an_pre s' R) = an_pre (s ++ s') R := by
  cases R with
  | inr e => rfl
  | inl q => unfold an_pre; simp [List.append_assoc]
theorem an_cg_le {sg : Bool} {tk : Nat → an_tke} {N : Nat} {μ μ1 : am_M} {j c j1 c1 : Nat} {s : List (Nat × Nat)} (h : an_cg sg tk N μ j c s μ1 j1 c1) : c ≤ c1 := by
  have := (an_sq_le an_C_lt _ _ _ h.2.2.2.1).1
  omega
theorem an_cg_tr {sg : Bool} {tk : Nat → an_tke} {N : Nat} {μ μ1 μ2 : am_M} {j c j1 c1 j2 c2 : Nat} {s s' : List (Nat × Nat)} (h : an_cg sg tk N μ j c s μ1 j1 c1) (h' : an_cg sg tk N μ1 j1 c1 s' μ2 j2 c2) : an_cg sg tk N μ j c (s ++ s') μ2 j2 c2 := by
  have hl := an_cg_le h
  obtain ⟨a1, a2, a3, a4, a5⟩ := h
  obtain ⟨b1, b2, b3, b4, b5⟩ := h'
  exact ⟨an_cf_tr a1 b1, b2, by omega, an_sq_app _ _ _ _ _ (an_sqC_c a4 b5) b4, fun i hi => (b5 i (by omega)).trans (a5 i hi)⟩
theorem an_cp_g {sg : Bool} {tk : Nat → an_tke} {N : Nat} {μ μ1 μ2 : am_M} {j c j1 c1 : Nat} {s : List (Nat × Nat)} {R : an_PR} {r : Int32} (h : an_cg sg tk N μ j c s μ1 j1 c1) (h' : an_cp sg tk N μ1 j1 c1 R r μ2) : an_cp sg tk N μ j c (an_pre s R) r μ2 := by
  cases R with
  | inr e =>
    obtain ⟨h1, h2, h3⟩ := h'
    exact ⟨h1, an_cf_tr h.1 h2, h3⟩
  | inl q =>
    obtain ⟨h1, c', h2⟩ := h'
    exact ⟨h1, c', an_cg_tr h h2⟩
theorem an_cp_1 {sg : Bool} {tk : Nat → an_tke} {N : Nat} {μ μ1 : am_M} {j c j1 c1 : Nat} {s : List (Nat × Nat)} (h : an_cg sg tk N μ j c s μ1 j1 c1) : an_cp sg tk N μ j c (.inl (s, j1)) (nI 1) μ1 := ⟨rfl, c1, h⟩
theorem an_cg_rf {sg : Bool} {tk : Nat → an_tke} {N : Nat} {μ : am_M} {j c : Nat} (h : an_cI tk N μ j c) : an_cg sg tk N μ j c [] μ j c := ⟨an_cf_rf, h, Nat.le_refl _, rfl, fun _ _ => rfl⟩
/-- what is known of the tokens -/
def an_tko2 (tk : Nat → an_tke) (N : Nat) : Prop := (∀ j, an_tko (tk j)) ∧ (∀ j, N ≤ j + 1 → (tk j).1 = 0)
theorem an_adv {sg : Bool} {tk : Nat → an_tke} {N : Nat} {μ μ1 : am_M} {j c : Nat} (ht : an_tko2 tk N) (h : an_cI tk N μ j c) (hk : ¬ (tk j).1 = 0) (e : μ1 = am_w μ 3 5 (nI (j + 1))) : an_cg sg tk N μ j c [] μ1 (j + 1) c := by
  obtain ⟨⟨h1, h2⟩, h3, h4, h5, h6, h7⟩ := h
  have hj : j + 1 < N := by
    rcases Nat.lt_or_ge (j + 1) N with q | q
    · exact q
    · exact absurd (ht.2 j q) hk
  refine ⟨an_cf_3 e (by omega), ⟨⟨by rw [an_w_o e (by decide)]; exact h1, fun i hi => ?_⟩, an_w_s e, hj, h5, by rw [an_w_c e (by decide)]; exact h6, by omega⟩, by omega, rfl, fun i _ => by rw [an_w_c e (by decide)]⟩
  rw [an_w_c e (by decide), an_w_c e (by decide), an_w_c e (by decide)]
  exact h2 i hi
theorem c_kind {L d N j c : Nat} {μ : am_M} {F : Int32 → am_M → Prop} {tk : Nat → an_tke} (h : an_cI tk N μ j c) (hF : F (nI (tk j).1) μ) : am_Ci L d 41 [.ref 3] μ F := by
  obtain ⟨⟨h1, h2⟩, h3, h4, h5, h6, h7⟩ := h
  refine v_Reader_kind ?_
  rw [h3, h1, if_neg (nI_pos (by omega)), if_neg (nI_ge h4 (by omega)), am_gd_in (by omega) (by omega), am_cl (by omega), (h2 j h4).1]
  exact hF
theorem c_fail {L d N j c k : Nat} {μ : am_M} {F : Int32 → am_M → Prop} {sg : Bool} {tk : Nat → an_tke} (h : an_cI tk N μ j c) (hF : ∀ μ', an_cp sg tk N μ j c (.inr (k, j)) (nI 0) μ' → F (nI 0) μ') : am_Ci L d 42 [.ref 3, .int (nI k)] μ (fun y μ1 => am_gd (am_nar 1 y) (F y μ1)) := by
  obtain ⟨⟨h1, h2⟩, h3, h4, h5, h6, h7⟩ := h
  refine v_Reader_fails ?_
  intro μ1 e1
  have x5 : μ1 3 5 = nI j := by rw [an_w_o e1 (by decide)]; exact h3
  have x4 : μ1 3 4 = nI N := by rw [an_w_o e1 (by decide)]; exact h1
  rw [x5, x4, if_neg (nI_pos (by omega)), if_neg (nI_ge h4 (by omega)), am_gd_in (by omega) (by omega), am_cl (by omega), an_w_c e1 (by decide), (h2 j h4).2.1]
  intro μ2 e2
  show am_gd true _
  exact hF μ2 ⟨rfl, an_cf_tr (an_cf_3 e1 (by omega)) (an_cf_3 e2 (by omega)), by rw [an_w_o e2 (by decide)]; exact an_w_s e1, an_w_s e2⟩
theorem c_add {L d c : Nat} {μ : am_M} {F : am_M → Prop} {x : Int32} (hc : c < 400) (h7 : μ 4 7 = nI c) (hF : ∀ μ', an_un [4, 5] μ μ' → (∀ f, f ≠ 7 → μ' 4 f = μ 4 f) → μ' 4 7 = nI (c + 1) → μ' 5 = upd (μ 5) c x → F μ') : am_Cv L d 62 [.ref 4, .int x] μ F := by
  refine v_Script_add ?_
  rw [h7, if_neg (nI_ge hc (by omega)), am_gd_in (by omega) (by omega), am_cl (by omega)]
  intro μ1 e1
  have x7 : μ1 4 7 = nI c := by rw [an_w_c e1 (by decide)]; exact h7
  rw [x7, nI_add]
  intro μ2 e2
  refine hF μ2 (an_un_tr (e1 ▸ an_un_w (l := [4, 5]) (by simp)) (e2 ▸ an_un_w (l := [4, 5]) (by simp)) (fun _ z => z) (fun _ z => z)) (fun f hf => by rw [an_w_o e2 hf, an_w_c e1 (by decide)]) (an_w_s e2) ?_
  rw [an_w_c e2 (by decide), e1, am_w_at]
/-- a code laid, a token's worth behind -/
theorem c_op {L d N j c j1 c1 : Nat} {μ μa μ1 : am_M} {F : am_M → Prop} {sg : Bool} {tk : Nat → an_tke} {s : List (Nat × Nat)} {e : Nat × Nat} {x : Int32} (ha : an_cg sg tk N μ j c [] μa (j + 1) c) (h : an_cg sg tk N μa (j + 1) c s μ1 j1 c1) (hx : ∀ r0 : Nat → Int32, r0 c1 = x → an_C sg r0 c1 e (c1 + 1)) (hcj : c ≤ j) (hF : ∀ μ', an_cg sg tk N μ j c (s ++ [e]) μ' j1 (c1 + 1) → F μ') : am_Cv L d 62 [.ref 4, .int x] μ1 F := by
  have g := an_cg_tr ha h
  obtain ⟨b1, ⟨⟨t1, t2⟩, i3, i4, i5, i6, i7⟩, b3, b4, b5⟩ := h
  refine c_add (by omega) i6 (fun μ2 u2 v2 w2 r2 => hF μ2 ?_)
  have l := an_cg_le g
  refine ⟨⟨fun q hq => ?_, fun f f1 f2 f3 => ?_, fun f hf => ?_⟩, ⟨⟨?_, fun i hi => ?_⟩, ?_, i4, i5, w2, by omega⟩, by omega, an_sq_app _ _ _ _ _ (an_sqC_c b4 (fun i hi => by rw [r2, pk_un (by omega)])) ⟨c1 + 1, hx _ (by rw [r2, pk_us]), rfl⟩, fun i hi => ?_⟩
  · rw [u2 q (by simp at hq ⊢; omega)]; exact g.1.1 q hq
  · rw [u2 3 (by decide)]; exact g.1.2.1 f f1 f2 f3
  · rw [v2 f hf]; exact g.1.2.2 f hf
  · rw [u2 3 (by decide)]; exact t1
  · rw [u2 11 (by decide), u2 12 (by decide), u2 13 (by decide)]; exact t2 i hi
  · rw [u2 3 (by decide)]; exact i3
  · rw [r2, pk_un (by omega)]; exact g.2.2.2.2 i hi
/-- a parse is what a method does -/
def an_cok (sg : Bool) (tk : Nat → an_tke) (N dd : Nat) (P : Nat → an_PR) (call : Nat → am_M → (Int32 → am_M → Prop) → Prop) : Prop := ∀ (d j c : Nat) (μ : am_M) (F : Int32 → am_M → Prop), dd ≤ d → an_cI tk N μ j c → (∀ r μ', an_cp sg tk N μ j c (P j) r μ' → F r μ') → call d μ F
theorem an_ngi : ∀ i, i < 7 → (- nI 1) - nI i = - nI (i + 1) := by decide
theorem an_ck {k m : Nat} (hk : k < 1000) (hm : m < 1000) : (nI k = nI m) ↔ k = m := nI_eq (by omega) (by omega)
theorem an_tk_lt {tk : Nat → an_tke} {N : Nat} (ht : an_tko2 tk N) (j : Nat) : (tk j).1 < 1000 := by
  rcases ht.1 j with q | q | ⟨q, _⟩ | ⟨q, _⟩ | q | q
  · omega
  · omega
  · omega
  · omega
  · have := an_sgn_i q; omega
  · omega
theorem c_product {L N : Nat} {sg : Bool} {tk : Nat → an_tke} (ht : an_tko2 tk N) : an_cok sg tk N 3 (an_pprod sg tk) (fun d μ F => am_Ci L d 47 [.ref 3] μ F) := by
  -- a number or a fact: laid, and behind it
  have unit : ∀ (d j c sn n : Nat) (μ : am_M) (F : Int32 → am_M → Prop) (s0 : Nat), 3 ≤ d → an_cI tk N μ j c → sn < 1000 → ((tk j).1 = 2 ∧ ¬ (sn = 47 ∧ (tk j).2.1 = 0) ∨ (tk j).1 = 3 ∧ ¬ sn = 47) → (∀ μ1 x, (∀ r0 : Nat → Int32, r0 c = x → (sn = 47 → r0 c = nI (tk j).2.1) ∧ (¬ sn = 47 → ∀ sp j', an_pu sg tk j = .inl (sp, j') → an_sq (an_C sg r0) c sp (c + 1))) → an_un [4, 5] μ μ1 → (∀ f, f ≠ 7 → μ1 4 f = μ 4 f) → μ1 4 7 = nI (c + 1) → μ1 5 = upd (μ 5) c x → am_Ji L d 47 97 [some (.ref 3), some (.int (nI sn)), some (.int (nI n)), none] [] μ1 F) → am_Ji L d 47 38 [some (.ref 3), some (.int (nI sn)), some (.int (nI n)), some (.int (nI (tk j).1))] [] μ F := by
    intro d j c sn n μ F s0 hd hI hsn hk hnx
    obtain ⟨⟨h1, h2⟩, h3, h4, h5, h6, h7⟩ := hI
    have hj : j + 1 < N := by
      rcases Nat.lt_or_ge (j + 1) N with q | q
      · exact q
      · have := ht.2 j q; omega
    have lt := an_tk_lt ht j
    have e13 : μ 13 j = nI (tk j).2.1 := (h2 j h4).2.2
    have go : am_Ji L d 47 62 [some (.ref 3), some (.int (nI sn)), some (.int (nI n)), some (.int (nI (tk j).1))] [] μ F := by
      refine v_Reader_product_62 ?_
      rw [h3]
      rcases hk with ⟨k2, kz⟩ | ⟨k3, kz⟩
      · rw [k2, if_neg (fun z => z rfl), am_gd_in (by omega) (by omega), am_cl (by omega), e13]
        refine ⟨by omega, c_add (by omega) h6 (fun μ1 u1 v1 w1 r1 => hnx μ1 _ (fun r0 hr => ⟨fun _ => hr, fun _ sp j' hp => ?_⟩) u1 v1 w1 r1)⟩
        unfold an_pu at hp
        rw [if_pos k2] at hp
        cases hp
        exact ⟨c + 1, Or.inr (Or.inl ⟨rfl, hr, rfl⟩), rfl⟩
      · have l7 := an_tk_3 ht.1 k3
        rw [k3, if_pos (by decide), am_gd_in (by omega) (by omega), am_cl (by omega), e13, an_ngi _ l7]
        refine ⟨by omega, c_add (by omega) h6 (fun μ1 u1 v1 w1 r1 => hnx μ1 _ (fun r0 hr => ⟨fun z => absurd z kz, fun _ sp j' hp => ?_⟩) u1 v1 w1 r1)⟩
        unfold an_pu at hp
        rw [if_neg (by omega), if_pos k3] at hp
        cases hp
        obtain ⟨o1, o2⟩ := an_sf_ok (sg := sg) l7
        exact ⟨c + 1, Or.inr (Or.inr (Or.inl ⟨o1, by show r0 c = - nI (an_fi sg (an_sf sg (tk j).2.1) + 1); rw [o2]; exact hr, rfl⟩)), rfl⟩
    refine v_Reader_product_38 ?_
    rw [h3]
    by_cases z : sn = 47
    · rw [if_neg (fun y => y (by rw [z])), am_gd_in (by omega) (by omega), am_cl (by omega), e13]
      rcases hk with ⟨k2, kz⟩ | ⟨k3, kz⟩
      · have l5 := an_tk_2 ht.1 k2
        rw [if_pos (nI_ne0 (by omega) (by omega))]
        exact go
      · exact absurd z kz
    · rw [if_pos (fun y => z ((an_ck hsn (by omega)).mp y))]
      exact go
  -- the loop
  have loop : ∀ (f d j c n : Nat) (μ : am_M) (F : Int32 → am_M → Prop), 3 ≤ d → an_cI tk N μ j c → n ≤ j → 401 ≤ f + j → (∀ r μ', an_cp sg tk N μ j c (an_ppl sg tk f j) r μ' → F r μ') → am_Ji L d 47 131 [some (.ref 3), none, some (.int (nI n)), none] [] μ F := by
    intro f
    induction f with
    | zero =>
      intro d j c n μ F hd hI hn hf hF
      have := hI.2.2.1
      have := hI.2.2.2.1
      omega
    | succ f ih =>
      intro d j c n μ F hd hI hn hf hF
      have lt := an_tk_lt ht j
      rw [an_ppl] at hF
      refine v_Reader_product_131 ?_
      refine ⟨by omega, c_kind hI ?_⟩
      by_cases q42 : (tk j).1 = 42
      · rw [q42, if_pos rfl]
        rw [if_pos q42] at hF
        refine v_Reader_product_150 ?_
        rw [hI.2.1, nI_add, nI_add]
        intro μ1 e1
        have g1 := an_adv (sg := sg) ht hI (by omega) e1
        have I1 := g1.2.1
        have lt1 := an_tk_lt ht (j + 1)
        refine v_Reader_product_4 ?_
        rw [if_neg (nI_nlt (by have := I1.2.2.1; have := I1.2.2.2.1; omega) (by omega))]
        refine ⟨by omega, c_kind I1 ?_⟩
        have bad : an_pu sg tk (j + 1) = .inr (1, j + 1) → am_Ji L d 47 32 [some (.ref 3), none, none, none] [] μ1 F := by
          intro hp
          refine v_Reader_product_32 ?_
          refine ⟨by omega, c_fail (sg := sg) I1 (fun μ2 p2 => hF _ μ2 ?_)⟩
          rw [hp]
          exact an_cp_g (s := []) g1 p2
        have ok : ((tk (j + 1)).1 = 2 ∨ (tk (j + 1)).1 = 3) → am_Ji L d 47 38 [some (.ref 3), some (.int (nI 42)), some (.int (nI (n + 1))), some (.int (nI (tk (j + 1)).1))] [] μ1 F := by
          intro hk
          obtain ⟨sp, hp⟩ : ∃ sp, an_pu sg tk (j + 1) = .inl (sp, j + 1 + 1) := by
            unfold an_pu
            by_cases k2 : (tk (j + 1)).1 = 2
            · rw [if_pos k2]; exact ⟨_, rfl⟩
            · rw [if_neg k2, if_pos (by omega)]; exact ⟨_, rfl⟩
          refine unit d (j + 1) c 42 (n + 1) μ1 F 0 hd I1 (by omega) (by omega) (fun μ2 x hx u2 v2 w2 r2 => ?_)
          have sq2 := (hx (μ2 5) (by rw [r2, pk_us])).2 (by omega) sp _ hp
          refine v_Reader_product_97 ?_
          have x5 : μ2 3 5 = nI (j + 1) := by rw [u2 3 (by decide)]; exact I1.2.1
          rw [x5, nI_add]
          intro μ3 e3
          -- behind the unit
          have g3 : an_cg sg tk N μ1 (j + 1) c sp μ3 (j + 1 + 1) (c + 1) := by
            obtain ⟨⟨t1, t2⟩, i3, i4, i5, i6, i7⟩ := I1
            have hj : j + 1 + 1 < N := by
              rcases Nat.lt_or_ge (j + 1 + 1) N with q | q
              · exact q
              · have := ht.2 (j + 1) q; omega
            refine ⟨⟨fun q hq => ?_, fun f f1 f2 f3 => ?_, fun f hf => ?_⟩, ⟨⟨?_, fun i hi => ?_⟩, an_w_s e3, hj, i5, ?_, by omega⟩, by omega, ?_, fun i hi => ?_⟩
            · simp only [List.mem_cons, List.not_mem_nil, or_false, not_or] at hq
              rw [an_w_c e3 (by omega), u2 q (by simp; omega)]
            · rw [an_w_o e3 f1, u2 3 (by decide)]
            · rw [an_w_c e3 (by decide), v2 f hf]
            · rw [an_w_o e3 (by decide), u2 3 (by decide)]; exact t1
            · rw [an_w_c e3 (by decide), an_w_c e3 (by decide), an_w_c e3 (by decide), u2 11 (by decide), u2 12 (by decide), u2 13 (by decide)]; exact t2 i hi
            · rw [an_w_c e3 (by decide)]; exact w2
            · rw [an_w_c e3 (by decide)]; exact sq2
            · rw [an_w_c e3 (by decide), r2, pk_un (by omega)]
          rw [if_neg (by decide), if_neg (by decide)]
          refine ⟨by omega, c_op (e := (14, 0)) g1 g3 (fun r0 hr => Or.inr (Or.inr (Or.inr ⟨by decide, by decide, by decide, hr, rfl⟩))) hI.2.2.2.2.2 (fun μ4 g4 => ?_)⟩
          refine ih d (j + 1 + 1) (c + 1 + 1) (n + 1) μ4 F hd g4.2.1 (by omega) (by omega) (fun r μ' p' => hF r μ' ?_)
          have := an_cp_g g4 p'
          rw [hp, an_th_pre]
          show an_cp sg tk N μ j c (an_pre sp (an_th (.inl ([(14, 0)], j + 1 + 1)) (an_ppl sg tk f))) r μ'
          rw [an_th_pre, an_pre_pre]
          exact this
        by_cases k2 : (tk (j + 1)).1 = 2
        · rw [if_pos (by rw [k2])]
          exact ok (Or.inl k2)
        · rw [if_neg (fun z => k2 ((an_ck lt1 (by omega)).mp z))]
          by_cases k3 : (tk (j + 1)).1 = 3
          · rw [if_neg (fun z => z (by rw [k3])), if_pos (by decide)]
            exact ok (Or.inr k3)
          · rw [if_pos (fun z => k3 ((an_ck lt1 (by omega)).mp z))]
            refine bad ?_
            unfold an_pu
            rw [if_neg k2, if_neg k3]
      · rw [if_neg (fun z => q42 ((an_ck lt (by omega)).mp z))]
        rw [if_neg q42] at hF
        by_cases q47 : (tk j).1 = 47
        · rw [q47, if_pos rfl]
          rw [if_pos q47] at hF
          refine v_Reader_product_150 ?_
          rw [hI.2.1, nI_add, nI_add]
          intro μ1 e1
          have g1 := an_adv (sg := sg) ht hI (by omega) e1
          have I1 := g1.2.1
          have lt1 := an_tk_lt ht (j + 1)
          refine v_Reader_product_4 ?_
          rw [if_neg (nI_nlt (by have := I1.2.2.1; have := I1.2.2.2.1; omega) (by omega))]
          refine ⟨by omega, c_kind I1 ?_⟩
          by_cases k2 : (tk (j + 1)).1 = 2
          · rw [if_pos (by rw [k2])]
            rw [if_pos k2] at hF
            by_cases kz : (tk (j + 1)).2.1 = 0
            · rw [if_pos kz] at hF
              refine v_Reader_product_38 ?_
              have e13 : μ1 13 (j + 1) = nI (tk (j + 1)).2.1 := (I1.1.2 (j + 1) I1.2.2.1).2.2
              rw [if_neg (fun z => z rfl), I1.2.1, am_gd_in (by have := I1.2.2.1; have := I1.2.2.2.1; omega) (by omega), am_cl (by have := I1.2.2.1; have := I1.2.2.2.1; omega), e13, kz, if_neg (fun z => z nI_0)]
              refine ⟨by omega, c_fail (sg := sg) I1 (fun μ2 p2 => hF _ μ2 (an_cp_g (s := []) g1 p2))⟩
            · rw [if_neg kz] at hF
              refine unit d (j + 1) c 47 (n + 1) μ1 F 0 hd I1 (by omega) (by omega) (fun μ2 x hx u2 v2 w2 r2 => ?_)
              have sq2 := (hx (μ2 5) (by rw [r2, pk_us])).1 rfl
              refine v_Reader_product_97 ?_
              have x5 : μ2 3 5 = nI (j + 1) := by rw [u2 3 (by decide)]; exact I1.2.1
              rw [x5, nI_add]
              intro μ3 e3
              rw [if_neg (by decide), if_pos (by decide)]
              obtain ⟨⟨t1, t2⟩, i3, i4, i5, i6, i7⟩ := I1
              have c7 := hI.2.2.2.2.2
              have hj : j + 1 + 1 < N := by
                rcases Nat.lt_or_ge (j + 1 + 1) N with q | q
                · exact q
                · have := ht.2 (j + 1) q; omega
              refine ⟨by omega, c_add (c := c + 1) (by omega) (by rw [an_w_c e3 (by decide)]; exact w2) (fun μ4 u4 v4 w4 r4 => ?_)⟩
              have g4 : an_cg sg tk N μ j c [(15, (tk (j + 1)).2.1)] μ4 (j + 2) (c + 1 + 1) := by
                refine ⟨⟨fun q hq => ?_, fun f f1 f2 f3 => ?_, fun f hf => ?_⟩, ⟨⟨?_, fun i hi => ?_⟩, ?_, hj, i5, w4, by omega⟩, by omega, ⟨c + 2, Or.inl ⟨rfl, ?_, ?_, rfl⟩, rfl⟩, fun i hi => ?_⟩
                · have hq2 := hq
                  simp only [List.mem_cons, List.not_mem_nil, or_false, not_or] at hq
                  rw [u4 q (by simp; omega), an_w_c e3 (by omega), u2 q (by simp; omega)]
                  exact g1.1.1 q hq2
                · rw [u4 3 (by decide), an_w_o e3 f1, u2 3 (by decide)]
                  exact g1.1.2.1 f f1 f2 f3
                · rw [v4 f hf, an_w_c e3 (by decide), v2 f hf]
                  exact g1.1.2.2 f hf
                · rw [u4 3 (by decide), an_w_o e3 (by decide), u2 3 (by decide)]; exact t1
                · rw [u4 11 (by decide), u4 12 (by decide), u4 13 (by decide), an_w_c e3 (by decide), an_w_c e3 (by decide), an_w_c e3 (by decide), u2 11 (by decide), u2 12 (by decide), u2 13 (by decide)]; exact t2 i hi
                · rw [u4 3 (by decide)]; exact an_w_s e3
                · rw [r4, pk_un (by omega), an_w_c e3 (by decide)]; exact sq2
                · rw [r4, pk_us]
                · rw [r4, pk_un (by omega), an_w_c e3 (by decide), r2, pk_un (by omega)]
                  exact g1.2.2.2.2 i hi
              refine ih d (j + 2) (c + 1 + 1) (n + 1) μ4 F hd g4.2.1 (by omega) (by omega) (fun r μ' p' => hF r μ' ?_)
              have := an_cp_g g4 p'
              show an_cp sg tk N μ j c (an_th (.inl ([(15, (tk (j + 1)).2.1)], j + 2)) (an_ppl sg tk f)) r μ'
              rw [an_th_pre]
              exact this
          · rw [if_neg (fun z => k2 ((an_ck lt1 (by omega)).mp z))]
            rw [if_neg k2] at hF
            have bad : am_Ji L d 47 32 [some (.ref 3), none, none, none] [] μ1 F := by
              refine v_Reader_product_32 ?_
              exact ⟨by omega, c_fail (sg := sg) I1 (fun μ2 p2 => hF _ μ2 (an_cp_g (s := []) g1 p2))⟩
            split
            · exact bad
            · rw [if_neg (fun z => z rfl)]
              exact bad
        · rw [if_neg (fun z => q47 ((an_ck lt (by omega)).mp z))]
          rw [if_neg q47] at hF
          exact hF _ μ (an_cp_1 (an_cg_rf hI))
  intro d j c μ F hd hI hF
  have lt := an_tk_lt ht j
  refine v_Reader_product (v_Reader_product_4 ?_)
  rw [if_neg (by decide)]
  refine ⟨by omega, c_kind hI ?_⟩
  have ok : ((tk j).1 = 2 ∨ (tk j).1 = 3) → am_Ji L d 47 38 [some (.ref 3), some (.int (nI 0)), some (.int (nI 0)), some (.int (nI (tk j).1))] [] μ F := by
    intro hk
    obtain ⟨sp, hp⟩ : ∃ sp, an_pu sg tk j = .inl (sp, j + 1) := by
      unfold an_pu
      by_cases k2 : (tk j).1 = 2
      · rw [if_pos k2]; exact ⟨_, rfl⟩
      · rw [if_neg k2, if_pos (by omega)]; exact ⟨_, rfl⟩
    refine unit d j c 0 0 μ F 0 hd hI (by omega) (by omega) (fun μ2 x hx u2 v2 w2 r2 => ?_)
    have sq2 := (hx (μ2 5) (by rw [r2, pk_us])).2 (by omega) sp _ hp
    refine v_Reader_product_97 ?_
    have x5 : μ2 3 5 = nI j := by rw [u2 3 (by decide)]; exact hI.2.1
    rw [x5, nI_add]
    intro μ3 e3
    have g3 : an_cg sg tk N μ j c sp μ3 (j + 1) (c + 1) := by
      obtain ⟨⟨t1, t2⟩, i3, i4, i5, i6, i7⟩ := hI
      have hj : j + 1 < N := by
        rcases Nat.lt_or_ge (j + 1) N with q | q
        · exact q
        · have := ht.2 j q; omega
      refine ⟨⟨fun q hq => ?_, fun f f1 f2 f3 => ?_, fun f hf => ?_⟩, ⟨⟨?_, fun i hi => ?_⟩, an_w_s e3, hj, i5, ?_, by omega⟩, by omega, ?_, fun i hi => ?_⟩
      · simp only [List.mem_cons, List.not_mem_nil, or_false, not_or] at hq
        rw [an_w_c e3 (by omega), u2 q (by simp; omega)]
      · rw [an_w_o e3 f1, u2 3 (by decide)]
      · rw [an_w_c e3 (by decide), v2 f hf]
      · rw [an_w_o e3 (by decide), u2 3 (by decide)]; exact t1
      · rw [an_w_c e3 (by decide), an_w_c e3 (by decide), an_w_c e3 (by decide), u2 11 (by decide), u2 12 (by decide), u2 13 (by decide)]; exact t2 i hi
      · rw [an_w_c e3 (by decide)]; exact w2
      · rw [an_w_c e3 (by decide)]; exact sq2
      · rw [an_w_c e3 (by decide), r2, pk_un (by omega)]
    rw [if_pos nI_0]
    refine loop 401 d (j + 1) (c + 1) 0 μ3 F hd g3.2.1 (by omega) (by omega) (fun r μ' p' => hF r μ' ?_)
    unfold an_pprod
    rw [hp, an_th_pre]
    exact an_cp_g g3 p'
  by_cases k2 : (tk j).1 = 2
  · rw [if_pos (by rw [k2])]
    exact ok (Or.inl k2)
  · rw [if_neg (fun z => k2 ((an_ck lt (by omega)).mp z))]
    by_cases k3 : (tk j).1 = 3
    · rw [if_neg (fun z => z (by rw [k3])), if_pos (by decide)]
      exact ok (Or.inr k3)
    · rw [if_pos (fun z => k3 ((an_ck lt (by omega)).mp z))]
      refine v_Reader_product_32 ?_
      refine ⟨by omega, c_fail (sg := sg) hI (fun μ2 p2 => hF _ μ2 ?_)⟩
      unfold an_pprod an_pu
      rw [if_neg k2, if_neg k3]
      exact p2
