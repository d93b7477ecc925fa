/-! Lines of a text. -/
abbrev an_Ln : Type := Nat × List (Nat × Nat) × List (Nat × Nat)
def an_okl (sg : Bool) (ls : List an_Ln) : Prop := ls.length ≤ 12 ∧ ∀ e ∈ ls, e.1 < 4 ∧ (sg = false → an_ty sg e.2.1 [] [false]) ∧ ((e.2.2 = [] ∧ sg = false) ∨ an_ty sg e.2.2 [] [true])
def an_scX (sg : Bool) (c : Nat) (μ : am_M) (ls : List an_Ln) : Prop := μ c 6 = nI ls.length ∧ ∀ i e, ls[i]? = some e → ∃ p q r, (sg = false → μ (c + 2) i = nI e.1) ∧ μ (c + 3) i = nI p ∧ μ (c + 4) i = nI q ∧ μ (c + 5) i = nI r ∧ r ≤ 400 ∧ an_sq (an_C sg (μ (c + 1))) p e.2.1 q ∧ an_sq (an_C sg (μ (c + 1))) q e.2.2 r
def an_scM (w : an_W) (k : Nat) (ls : List an_Ln) : Prop := w (5460 + k) = nI ls.length ∧ ∀ i e, ls[i]? = some e → ∃ f g h, w (5470 + (12 * k + i)) = nI e.1 ∧ w (5530 + (12 * k + i)) = nI f ∧ w (5590 + (12 * k + i)) = nI g ∧ w (5650 + (12 * k + i)) = nI h ∧ h ≤ 410 ∧ an_sq (an_D w k) f e.2.1 g ∧ an_sq (an_D w k) g e.2.2 h
theorem an_scX_c {sg : Bool} {c : Nat} {μ μ' : am_M} {ls : List an_Ln} (h : an_scX sg c μ ls) (e : ∀ c', c ≤ c' → c' ≤ c + 5 → μ' c' = μ c') : an_scX sg c μ' ls := by
  unfold an_scX
  rw [e c (by omega) (by omega), e (c + 1) (by omega) (by omega), e (c + 2) (by omega) (by omega), e (c + 3) (by omega) (by omega), e (c + 4) (by omega) (by omega), e (c + 5) (by omega) (by omega)]
  exact h
theorem an_sq_le {C : Nat → Nat × Nat → Nat → Prop} (hC : ∀ p e p', C p e p' → p < p') : ∀ (l : List (Nat × Nat)) (p q : Nat), an_sq C p l q → p + l.length ≤ q ∧ (l = [] → q = p) := by
  intro l
  induction l with
  | nil => intro p q h; cases h; exact ⟨by simp, fun _ => rfl⟩
  | cons e l ih =>
    intro p q h
    obtain ⟨p1, h1, h2⟩ := h
    have := (ih _ _ h2).1
    have := hC _ _ _ h1
    exact ⟨by simp only [List.length_cons]; omega, fun q => by cases q⟩
theorem an_sq_in {C : Nat → Nat × Nat → Nat → Prop} (hC : ∀ p e p', C p e p' → p < p') {Q : Nat} : ∀ (l : List (Nat × Nat)) (p q : Nat), an_sq C p l q → q ≤ Q → an_sq (fun p e p' => p' ≤ Q ∧ C p e p') p l q := by
  intro l
  induction l with
  | nil => intro p q h _; exact h
  | cons e l ih =>
    intro p q h hq
    obtain ⟨p1, h1, h2⟩ := h
    have := (an_sq_le hC l _ _ h2).1
    exact ⟨p1, ⟨by omega, h1⟩, ih _ _ h2 hq⟩
theorem an_sq_lt {C : Nat → Nat × Nat → Nat → Prop} (hC : ∀ p e p', C p e p' → p < p') {Q : Nat} : ∀ (l : List (Nat × Nat)) (p q : Nat), an_sq C p l q → q ≤ Q → an_sq (fun p e p' => p < Q ∧ C p e p') p l q := by
  intro l
  induction l with
  | nil => intro p q h _; exact h
  | cons e l ih =>
    intro p q h hq
    obtain ⟨p1, h1, h2⟩ := h
    have := (an_sq_le hC l _ _ h2).1
    have := hC _ _ _ h1
    exact ⟨p1, ⟨by omega, h1⟩, ih _ _ h2 hq⟩
theorem an_C_lt {sg : Bool} {r0 : Nat → Int32} (p : Nat) (e : Nat × Nat) (p' : Nat) (h : an_C sg r0 p e p') : p < p' := by
  rcases h with ⟨-, -, -, h⟩ | ⟨-, -, h⟩ | ⟨-, -, h⟩ | ⟨-, -, -, -, h⟩ <;> omega
theorem an_D_lt {w : an_W} {k : Nat} (p : Nat) (e : Nat × Nat) (p' : Nat) (h : an_D w k p e p') : p < p' := by
  obtain ⟨-, -, h⟩ := h
  omega
/-- a condition is 0 or 1 -/
def an_bl : List Bool → List Int32 → Prop
  | [], [] => True
  | b :: t, x :: r => (b = true → x = nI 0 ∨ x = nI 1) ∧ an_bl t r
  | _, _ => False
theorem an_bl_ev {sg : Bool} {fa : Nat → Int32} : ∀ (l : List (Nat × Nat)) (t t' : List Bool) (st : List Int32), an_ty sg l t t' → an_bl t st → an_bl t' (an_ev fa l st) := by
  intro l
  induction l with
  | nil => intro t t' st h hb; cases h; exact hb
  | cons e l ih =>
    intro t t' st h hb
    obtain ⟨s, v⟩ := e
    obtain ⟨t1, h1, h2⟩ := h
    refine ih t1 t' _ h2 ?_
    rcases h1 with ⟨rfl, -, -, rfl⟩ | ⟨hs, -, rfl⟩ | ⟨r, hs, rfl, rfl, -⟩ | ⟨r, rfl, -, -, -, rfl, rfl⟩ | ⟨r, hs, rfl, rfl, -⟩ | ⟨r, rfl, rfl, rfl, -⟩ | ⟨r, hs, rfl, rfl, -⟩
    · exact ⟨fun q => by simp at q, hb⟩
    · have hs12 := an_fs_lt hs
      have e1 : an_e1 fa s v st = fa s :: st := by
        show (bif Nat.blt s 12 then (bif Nat.beq s 0 then nI v else fa s) :: st else _) = _
        rw [am_blt.mpr hs12.2, am_nb (by omega : ¬ s = 0)]
        rfl
      show an_bl _ (an_e1 fa s v st)
      rw [e1]
      exact ⟨fun q => by simp at q, hb⟩
    · match st, hb with
      | y :: x :: rs, hb =>
        rcases hs with rfl | rfl | rfl <;> exact ⟨fun q => by simp at q, hb.2.2⟩
    · match st, hb with
      | y :: rs, hb => exact ⟨fun q => by simp at q, hb.2⟩
    · match st, hb with
      | y :: x :: rs, hb =>
        rcases hs with rfl | rfl | rfl
        all_goals
          refine ⟨fun _ => ?_, hb.2.2⟩
          simp only [an_bop]
          split
          · exact Or.inr rfl
          · exact Or.inl rfl
    · match st, hb with
      | y :: rs, hb =>
        refine ⟨fun _ => ?_, hb.2⟩
        show nI 1 - y = nI 0 ∨ nI 1 - y = nI 1
        rcases hb.1 rfl with q | q <;> rw [q]
        · exact Or.inr (by decide)
        · exact Or.inl (by decide)
    · match st, hb with
      | y :: x :: rs, hb =>
        have hy := hb.1 rfl
        have hx := hb.2.1 rfl
        rcases hs with rfl | rfl
        · refine ⟨fun _ => ?_, hb.2.2⟩
          show x &&& y = nI 0 ∨ x &&& y = nI 1
          rcases hx with q | q <;> rcases hy with z | z <;> rw [q, z]
          · exact Or.inl (by decide)
          · exact Or.inl (by decide)
          · exact Or.inl (by decide)
          · exact Or.inr (by decide)
        · refine ⟨fun _ => ?_, hb.2.2⟩
          show x ||| y = nI 0 ∨ x ||| y = nI 1
          rcases hx with q | q <;> rcases hy with z | z <;> rw [q, z]
          · exact Or.inl (by decide)
          · exact Or.inr (by decide)
          · exact Or.inr (by decide)
          · exact Or.inr (by decide)
theorem an_cond01 {sg : Bool} {fa : Nat → Int32} {l : List (Nat × Nat)} (h : an_ty sg l [] [true]) : an_bot (an_ev fa l []) = nI 0 ∨ an_bot (an_ev fa l []) = nI 1 := by
  have := an_bl_ev (fa := fa) l [] [true] [] h trivial
  match h2 : an_ev fa l [], this with
  | [x], hb => exact hb.1 rfl
/-- whether a condition is so; the first line's value; within its bounds -/
def an_so (fa : Nat → Int32) (cl : List (Nat × Nat)) : Bool := cl.isEmpty || decide (an_bot (an_ev fa cl []) = nI 1)
def an_val (fa : Nat → Int32) (wd : Nat) : List an_Ln → Int32
  | [] => nI 0
  | e :: t => bif Nat.beq e.1 wd && an_so fa e.2.2 then an_bot (an_ev fa e.2.1 []) else an_val fa wd t
def an_any (fa : Nat → Int32) : List an_Ln → Bool
  | [] => false
  | e :: t => an_so fa e.2.2 || an_any fa t
def an_cla (m : Nat) (x : Int32) : Int32 := if 0 ≤ x then (if x ≤ nI m then x else nI m) else nI 0
def an_most (wd : Nat) : Nat := match wd with
  | 0 => 20
  | 1 => 999999
  | _ => 9999
theorem an_dropE {α : Type} {ls : List α} {i : Nat} {e : α} {t : List α} (h : ls.drop i = e :: t) : ls[i]? = some e ∧ i < ls.length ∧ ls.drop (i + 1) = t := by
  have h1 : ls[i]? = some e := by
    have := congrArg List.head? h
    rwa [List.head?_drop] at this
  refine ⟨h1, ?_, ?_⟩
  · rcases Nat.lt_or_ge i ls.length with q | q
    · exact q
    · rw [List.drop_eq_nil_of_le q] at h; cases h
  · have := congrArg List.tail h
    rwa [List.tail_drop] at this
theorem an_dropN {α : Type} {ls : List α} {i : Nat} (h : ls.drop i = []) : ls.length ≤ i := List.drop_eq_nil_iff.mp h
theorem an_memE {ls : List an_Ln} {i : Nat} {e : an_Ln} (h : ls[i]? = some e) : e ∈ ls := List.mem_of_getElem? h
/-- the condition's two marks are one only if it has no step -/
theorem an_nil_iff {C : Nat → Nat × Nat → Nat → Prop} (hC : ∀ p e p', C p e p' → p < p') {l : List (Nat × Nat)} {p q : Nat} (h : an_sq C p l q) : (p = q ↔ l = []) := by
  obtain ⟨h1, h2⟩ := an_sq_le hC l p q h
  constructor
  · intro e
    cases l with
    | nil => rfl
    | cons a l => simp only [List.length_cons] at h1; omega
  · intro e
    exact (h2 e).symm
theorem s_isSo_21 {L d : Nat} {μ : am_M} {F : Int32 → am_M → Prop} {fa : Nat → Int32} {ls : List an_Ln} {i : Nat} {e : an_Ln} (hd : 2 ≤ d) (hk : an_okl false ls) (hX : an_scX false 21 μ ls) (hf : ∀ s, an_fs false s → μ 64 (an_fi false s) = fa s) (he : ls[i]? = some e) (hi : i < 12) (hF : ∀ μ', an_un [27] μ μ' → F (an_b (an_so fa e.2.2)) μ') : am_Ci L d 69 [.ref 21, .int (nI i), .ref 64] μ F := by
  obtain ⟨p, q, r, -, g2, g3, g4, hr, hs1, hs2⟩ := hX.2 i e he
  have hle := an_sq_le an_C_lt _ _ _ hs2
  refine v_Script_isSo_21 ?_
  simp (discharger := omega) only [am_cl, am_gd_in, am_dp, g3, g4, am_eq']
  by_cases hq : q = r
  · rw [if_neg (fun z => z hq)]
    have := (an_nil_iff an_C_lt hs2).mp hq
    have := hF μ an_un_rf
    rw [show an_so fa e.2.2 = true by rw [(an_nil_iff an_C_lt hs2).mp hq]; rfl] at this
    exact this
  · rw [if_pos hq]
    have hne : ¬ e.2.2 = [] := fun z => hq ((an_nil_iff an_C_lt hs2).mpr z)
    have hty : an_ty false e.2.2 [] [true] := by
      rcases (hk.2 e (an_memE he)).2.2 with z | z
      · exact absurd z.1 hne
      · exact z
    refine an_cx_21 hr e.2.2 q [true] μ (an_sq_in an_C_lt _ _ _ hs2 (Nat.le_refl _)) hty rfl rfl hf (fun μ' hu => ?_)
    have h2 := hF μ' hu
    have hem : e.2.2.isEmpty = false := by
      cases h3 : e.2.2 with
      | nil => exact absurd h3 hne
      | cons a b => rfl
    unfold an_so at h2
    rw [hem, Bool.false_or] at h2
    rcases an_cond01 (fa := fa) hty with z | z
    · rw [z] at h2 ⊢
      rw [if_pos nI_0]
      exact h2
    · rw [z] at h2 ⊢
      rw [if_neg (by decide)]
      exact h2
theorem s_firstValue_21 {L d : Nat} {F : Int32 → am_M → Prop} {fa : Nat → Int32} {ls : List an_Ln} {wd : Nat} (hd : 3 ≤ d) (hwd : wd < 4) (hk : an_okl false ls) (μ : am_M) (hX : an_scX false 21 μ ls) (hf : ∀ s, an_fs false s → μ 64 (an_fi false s) = fa s) (hF : ∀ μ', an_un [27] μ μ' → F (an_val fa wd ls) μ') : am_Ci L d 67 [.ref 21, .int (nI wd), .ref 64] μ F := by
  refine v_Script_firstValue_21 ?_
  suffices ∀ (l : List an_Ln) (i : Nat) (μ : am_M), an_scX false 21 μ ls → (∀ s, an_fs false s → μ 64 (an_fi false s) = fa s) → i ≤ ls.length → ls.drop i = l → (∀ μ', an_un [27] μ μ' → F (an_val fa wd l) μ') → am_Ji L d 67 2 [some (.ref 21), some (.int (nI wd)), some (.ref 64), some (.int (nI i))] [] μ F from this ls 0 μ hX hf (Nat.zero_le _) rfl hF
  intro l
  induction l with
  | nil =>
    intro i μ hX hf hil hl hF
    have := an_dropN hl
    refine v_Script_firstValue_21_2 ?_
    rw [hX.1, if_pos (nI_le (by omega) (by have := hk.1; omega))]
    exact hF μ an_un_rf
  | cons e t ih =>
    intro i μ hX hf hil hl hF
    obtain ⟨he, hi, ht⟩ := an_dropE hl
    have hlen := hk.1
    obtain ⟨p, q, r, g1, g2, g3, g4, hr, hs1, hs2⟩ := hX.2 i e he
    have he4 := (hk.2 e (an_memE he)).1
    refine v_Script_firstValue_21_2 ?_
    rw [hX.1, if_neg (nI_ge hi (by omega)), am_gd_in (by omega) (by omega), am_cl (by omega), g1 rfl]
    by_cases hw : e.1 = wd
    · rw [hw, if_neg (fun z => z rfl)]
      refine ⟨by omega, s_isSo_21 (by omega) hk hX hf he (by omega) (fun μ1 hu => ?_)⟩
      have hX1 : an_scX false 21 μ1 ls := an_scX_c hX (fun c' q1 q2 => hu c' (by simp; omega))
      have hf1 : ∀ s, an_fs false s → μ1 64 (an_fi false s) = fa s := fun s hs => by rw [hu 64 (by decide)]; exact hf s hs
      rw [an_bf]
      cases hso : an_so fa e.2.2 with
      | true =>
        dsimp only
        obtain ⟨p, q, r, g1, g2, g3, g4, hr, hs1, hs2⟩ := hX1.2 i e he
        have hle := (an_sq_le an_C_lt _ _ _ hs2).1
        rw [am_gd_in (by omega) (by omega), am_gd_in (by omega) (by omega), g2, g3]
        refine ⟨by omega, an_cx_21 (by omega) e.2.1 p [false] μ1 (an_sq_in an_C_lt _ _ _ hs1 (Nat.le_refl _)) ((hk.2 e (an_memE he)).2.1 rfl) rfl rfl hf1 (fun μ2 hu2 => ?_)⟩
        have h2 := hF μ2 (an_un_tr hu hu2 (fun _ q => q) (fun _ q => q))
        rw [an_val, hw, hso, Nat.beq_refl] at h2
        exact h2
      | false =>
        dsimp only
        rw [nI_add]
        refine ih (i + 1) μ1 hX1 hf1 hi ht (fun μ2 hu2 => ?_)
        have h2 := hF μ2 (an_un_tr hu hu2 (fun _ q => q) (fun _ q => q))
        rw [an_val, hso, Bool.and_false] at h2
        exact h2
    · rw [if_pos (fun z => hw ((nI_eq (by omega) (by omega)).mp z)), nI_add]
      refine ih (i + 1) μ hX hf hi ht (fun μ2 hu2 => ?_)
      have h2 := hF μ2 hu2
      rw [an_val, am_nb hw] at h2
      exact h2
theorem s_isSo_28 {L d : Nat} {μ : am_M} {F : Int32 → am_M → Prop} {fa : Nat → Int32} {ls : List an_Ln} {i : Nat} {e : an_Ln} (hd : 2 ≤ d) (hk : an_okl false ls) (hX : an_scX false 28 μ ls) (hf : ∀ s, an_fs false s → μ 64 (an_fi false s) = fa s) (he : ls[i]? = some e) (hi : i < 12) (hF : ∀ μ', an_un [34] μ μ' → F (an_b (an_so fa e.2.2)) μ') : am_Ci L d 69 [.ref 28, .int (nI i), .ref 64] μ F := by
  obtain ⟨p, q, r, -, g2, g3, g4, hr, hs1, hs2⟩ := hX.2 i e he
  have hle := an_sq_le an_C_lt _ _ _ hs2
  refine v_Script_isSo_28 ?_
  simp (discharger := omega) only [am_cl, am_gd_in, am_dp, g3, g4, am_eq']
  by_cases hq : q = r
  · rw [if_neg (fun z => z hq)]
    have := (an_nil_iff an_C_lt hs2).mp hq
    have := hF μ an_un_rf
    rw [show an_so fa e.2.2 = true by rw [(an_nil_iff an_C_lt hs2).mp hq]; rfl] at this
    exact this
  · rw [if_pos hq]
    have hne : ¬ e.2.2 = [] := fun z => hq ((an_nil_iff an_C_lt hs2).mpr z)
    have hty : an_ty false e.2.2 [] [true] := by
      rcases (hk.2 e (an_memE he)).2.2 with z | z
      · exact absurd z.1 hne
      · exact z
    refine an_cx_28 hr e.2.2 q [true] μ (an_sq_in an_C_lt _ _ _ hs2 (Nat.le_refl _)) hty rfl rfl hf (fun μ' hu => ?_)
    have h2 := hF μ' hu
    have hem : e.2.2.isEmpty = false := by
      cases h3 : e.2.2 with
      | nil => exact absurd h3 hne
      | cons a b => rfl
    unfold an_so at h2
    rw [hem, Bool.false_or] at h2
    rcases an_cond01 (fa := fa) hty with z | z
    · rw [z] at h2 ⊢
      rw [if_pos nI_0]
      exact h2
    · rw [z] at h2 ⊢
      rw [if_neg (by decide)]
      exact h2
theorem s_firstValue_28 {L d : Nat} {F : Int32 → am_M → Prop} {fa : Nat → Int32} {ls : List an_Ln} {wd : Nat} (hd : 3 ≤ d) (hwd : wd < 4) (hk : an_okl false ls) (μ : am_M) (hX : an_scX false 28 μ ls) (hf : ∀ s, an_fs false s → μ 64 (an_fi false s) = fa s) (hF : ∀ μ', an_un [34] μ μ' → F (an_val fa wd ls) μ') : am_Ci L d 67 [.ref 28, .int (nI wd), .ref 64] μ F := by
  refine v_Script_firstValue_28 ?_
  suffices ∀ (l : List an_Ln) (i : Nat) (μ : am_M), an_scX false 28 μ ls → (∀ s, an_fs false s → μ 64 (an_fi false s) = fa s) → i ≤ ls.length → ls.drop i = l → (∀ μ', an_un [34] μ μ' → F (an_val fa wd l) μ') → am_Ji L d 67 2 [some (.ref 28), some (.int (nI wd)), some (.ref 64), some (.int (nI i))] [] μ F from this ls 0 μ hX hf (Nat.zero_le _) rfl hF
  intro l
  induction l with
  | nil =>
    intro i μ hX hf hil hl hF
    have := an_dropN hl
    refine v_Script_firstValue_28_2 ?_
    rw [hX.1, if_pos (nI_le (by omega) (by have := hk.1; omega))]
    exact hF μ an_un_rf
  | cons e t ih =>
    intro i μ hX hf hil hl hF
    obtain ⟨he, hi, ht⟩ := an_dropE hl
    have hlen := hk.1
    obtain ⟨p, q, r, g1, g2, g3, g4, hr, hs1, hs2⟩ := hX.2 i e he
    have he4 := (hk.2 e (an_memE he)).1
    refine v_Script_firstValue_28_2 ?_
    rw [hX.1, if_neg (nI_ge hi (by omega)), am_gd_in (by omega) (by omega), am_cl (by omega), g1 rfl]
    by_cases hw : e.1 = wd
    · rw [hw, if_neg (fun z => z rfl)]
      refine ⟨by omega, s_isSo_28 (by omega) hk hX hf he (by omega) (fun μ1 hu => ?_)⟩
      have hX1 : an_scX false 28 μ1 ls := an_scX_c hX (fun c' q1 q2 => hu c' (by simp; omega))
      have hf1 : ∀ s, an_fs false s → μ1 64 (an_fi false s) = fa s := fun s hs => by rw [hu 64 (by decide)]; exact hf s hs
      rw [an_bf]
      cases hso : an_so fa e.2.2 with
      | true =>
        dsimp only
        obtain ⟨p, q, r, g1, g2, g3, g4, hr, hs1, hs2⟩ := hX1.2 i e he
        have hle := (an_sq_le an_C_lt _ _ _ hs2).1
        rw [am_gd_in (by omega) (by omega), am_gd_in (by omega) (by omega), g2, g3]
        refine ⟨by omega, an_cx_28 (by omega) e.2.1 p [false] μ1 (an_sq_in an_C_lt _ _ _ hs1 (Nat.le_refl _)) ((hk.2 e (an_memE he)).2.1 rfl) rfl rfl hf1 (fun μ2 hu2 => ?_)⟩
        have h2 := hF μ2 (an_un_tr hu hu2 (fun _ q => q) (fun _ q => q))
        rw [an_val, hw, hso, Nat.beq_refl] at h2
        exact h2
      | false =>
        dsimp only
        rw [nI_add]
        refine ih (i + 1) μ1 hX1 hf1 hi ht (fun μ2 hu2 => ?_)
        have h2 := hF μ2 (an_un_tr hu hu2 (fun _ q => q) (fun _ q => q))
        rw [an_val, hso, Bool.and_false] at h2
        exact h2
    · rw [if_pos (fun z => hw ((nI_eq (by omega) (by omega)).mp z)), nI_add]
      refine ih (i + 1) μ hX hf hi ht (fun μ2 hu2 => ?_)
      have h2 := hF μ2 hu2
      rw [an_val, am_nb hw] at h2
      exact h2
theorem s_isSo_35 {L d : Nat} {μ : am_M} {F : Int32 → am_M → Prop} {fa : Nat → Int32} {ls : List an_Ln} {i : Nat} {e : an_Ln} (hd : 2 ≤ d) (hk : an_okl false ls) (hX : an_scX false 35 μ ls) (hf : ∀ s, an_fs false s → μ 64 (an_fi false s) = fa s) (he : ls[i]? = some e) (hi : i < 12) (hF : ∀ μ', an_un [41] μ μ' → F (an_b (an_so fa e.2.2)) μ') : am_Ci L d 69 [.ref 35, .int (nI i), .ref 64] μ F := by
  obtain ⟨p, q, r, -, g2, g3, g4, hr, hs1, hs2⟩ := hX.2 i e he
  have hle := an_sq_le an_C_lt _ _ _ hs2
  refine v_Script_isSo_35 ?_
  simp (discharger := omega) only [am_cl, am_gd_in, am_dp, g3, g4, am_eq']
  by_cases hq : q = r
  · rw [if_neg (fun z => z hq)]
    have := (an_nil_iff an_C_lt hs2).mp hq
    have := hF μ an_un_rf
    rw [show an_so fa e.2.2 = true by rw [(an_nil_iff an_C_lt hs2).mp hq]; rfl] at this
    exact this
  · rw [if_pos hq]
    have hne : ¬ e.2.2 = [] := fun z => hq ((an_nil_iff an_C_lt hs2).mpr z)
    have hty : an_ty false e.2.2 [] [true] := by
      rcases (hk.2 e (an_memE he)).2.2 with z | z
      · exact absurd z.1 hne
      · exact z
    refine an_cx_35 hr e.2.2 q [true] μ (an_sq_in an_C_lt _ _ _ hs2 (Nat.le_refl _)) hty rfl rfl hf (fun μ' hu => ?_)
    have h2 := hF μ' hu
    have hem : e.2.2.isEmpty = false := by
      cases h3 : e.2.2 with
      | nil => exact absurd h3 hne
      | cons a b => rfl
    unfold an_so at h2
    rw [hem, Bool.false_or] at h2
    rcases an_cond01 (fa := fa) hty with z | z
    · rw [z] at h2 ⊢
      rw [if_pos nI_0]
      exact h2
    · rw [z] at h2 ⊢
      rw [if_neg (by decide)]
      exact h2
theorem s_firstValue_35 {L d : Nat} {F : Int32 → am_M → Prop} {fa : Nat → Int32} {ls : List an_Ln} {wd : Nat} (hd : 3 ≤ d) (hwd : wd < 4) (hk : an_okl false ls) (μ : am_M) (hX : an_scX false 35 μ ls) (hf : ∀ s, an_fs false s → μ 64 (an_fi false s) = fa s) (hF : ∀ μ', an_un [41] μ μ' → F (an_val fa wd ls) μ') : am_Ci L d 67 [.ref 35, .int (nI wd), .ref 64] μ F := by
  refine v_Script_firstValue_35 ?_
  suffices ∀ (l : List an_Ln) (i : Nat) (μ : am_M), an_scX false 35 μ ls → (∀ s, an_fs false s → μ 64 (an_fi false s) = fa s) → i ≤ ls.length → ls.drop i = l → (∀ μ', an_un [41] μ μ' → F (an_val fa wd l) μ') → am_Ji L d 67 2 [some (.ref 35), some (.int (nI wd)), some (.ref 64), some (.int (nI i))] [] μ F from this ls 0 μ hX hf (Nat.zero_le _) rfl hF
  intro l
  induction l with
  | nil =>
    intro i μ hX hf hil hl hF
    have := an_dropN hl
    refine v_Script_firstValue_35_2 ?_
    rw [hX.1, if_pos (nI_le (by omega) (by have := hk.1; omega))]
    exact hF μ an_un_rf
  | cons e t ih =>
    intro i μ hX hf hil hl hF
    obtain ⟨he, hi, ht⟩ := an_dropE hl
    have hlen := hk.1
    obtain ⟨p, q, r, g1, g2, g3, g4, hr, hs1, hs2⟩ := hX.2 i e he
    have he4 := (hk.2 e (an_memE he)).1
    refine v_Script_firstValue_35_2 ?_
    rw [hX.1, if_neg (nI_ge hi (by omega)), am_gd_in (by omega) (by omega), am_cl (by omega), g1 rfl]
    by_cases hw : e.1 = wd
    · rw [hw, if_neg (fun z => z rfl)]
      refine ⟨by omega, s_isSo_35 (by omega) hk hX hf he (by omega) (fun μ1 hu => ?_)⟩
      have hX1 : an_scX false 35 μ1 ls := an_scX_c hX (fun c' q1 q2 => hu c' (by simp; omega))
      have hf1 : ∀ s, an_fs false s → μ1 64 (an_fi false s) = fa s := fun s hs => by rw [hu 64 (by decide)]; exact hf s hs
      rw [an_bf]
      cases hso : an_so fa e.2.2 with
      | true =>
        dsimp only
        obtain ⟨p, q, r, g1, g2, g3, g4, hr, hs1, hs2⟩ := hX1.2 i e he
        have hle := (an_sq_le an_C_lt _ _ _ hs2).1
        rw [am_gd_in (by omega) (by omega), am_gd_in (by omega) (by omega), g2, g3]
        refine ⟨by omega, an_cx_35 (by omega) e.2.1 p [false] μ1 (an_sq_in an_C_lt _ _ _ hs1 (Nat.le_refl _)) ((hk.2 e (an_memE he)).2.1 rfl) rfl rfl hf1 (fun μ2 hu2 => ?_)⟩
        have h2 := hF μ2 (an_un_tr hu hu2 (fun _ q => q) (fun _ q => q))
        rw [an_val, hw, hso, Nat.beq_refl] at h2
        exact h2
      | false =>
        dsimp only
        rw [nI_add]
        refine ih (i + 1) μ1 hX1 hf1 hi ht (fun μ2 hu2 => ?_)
        have h2 := hF μ2 (an_un_tr hu hu2 (fun _ q => q) (fun _ q => q))
        rw [an_val, hso, Bool.and_false] at h2
        exact h2
    · rw [if_pos (fun z => hw ((nI_eq (by omega) (by omega)).mp z)), nI_add]
      refine ih (i + 1) μ hX hf hi ht (fun μ2 hu2 => ?_)
      have h2 := hF μ2 hu2
      rw [an_val, am_nb hw] at h2
      exact h2
theorem s_isSo_42 {L d : Nat} {μ : am_M} {F : Int32 → am_M → Prop} {fa : Nat → Int32} {ls : List an_Ln} {i : Nat} {e : an_Ln} (hd : 2 ≤ d) (hk : an_okl false ls) (hX : an_scX false 42 μ ls) (hf : ∀ s, an_fs false s → μ 64 (an_fi false s) = fa s) (he : ls[i]? = some e) (hi : i < 12) (hF : ∀ μ', an_un [48] μ μ' → F (an_b (an_so fa e.2.2)) μ') : am_Ci L d 69 [.ref 42, .int (nI i), .ref 64] μ F := by
  obtain ⟨p, q, r, -, g2, g3, g4, hr, hs1, hs2⟩ := hX.2 i e he
  have hle := an_sq_le an_C_lt _ _ _ hs2
  refine v_Script_isSo_42 ?_
  simp (discharger := omega) only [am_cl, am_gd_in, am_dp, g3, g4, am_eq']
  by_cases hq : q = r
  · rw [if_neg (fun z => z hq)]
    have := (an_nil_iff an_C_lt hs2).mp hq
    have := hF μ an_un_rf
    rw [show an_so fa e.2.2 = true by rw [(an_nil_iff an_C_lt hs2).mp hq]; rfl] at this
    exact this
  · rw [if_pos hq]
    have hne : ¬ e.2.2 = [] := fun z => hq ((an_nil_iff an_C_lt hs2).mpr z)
    have hty : an_ty false e.2.2 [] [true] := by
      rcases (hk.2 e (an_memE he)).2.2 with z | z
      · exact absurd z.1 hne
      · exact z
    refine an_cx_42 hr e.2.2 q [true] μ (an_sq_in an_C_lt _ _ _ hs2 (Nat.le_refl _)) hty rfl rfl hf (fun μ' hu => ?_)
    have h2 := hF μ' hu
    have hem : e.2.2.isEmpty = false := by
      cases h3 : e.2.2 with
      | nil => exact absurd h3 hne
      | cons a b => rfl
    unfold an_so at h2
    rw [hem, Bool.false_or] at h2
    rcases an_cond01 (fa := fa) hty with z | z
    · rw [z] at h2 ⊢
      rw [if_pos nI_0]
      exact h2
    · rw [z] at h2 ⊢
      rw [if_neg (by decide)]
      exact h2
theorem s_firstValue_42 {L d : Nat} {F : Int32 → am_M → Prop} {fa : Nat → Int32} {ls : List an_Ln} {wd : Nat} (hd : 3 ≤ d) (hwd : wd < 4) (hk : an_okl false ls) (μ : am_M) (hX : an_scX false 42 μ ls) (hf : ∀ s, an_fs false s → μ 64 (an_fi false s) = fa s) (hF : ∀ μ', an_un [48] μ μ' → F (an_val fa wd ls) μ') : am_Ci L d 67 [.ref 42, .int (nI wd), .ref 64] μ F := by
  refine v_Script_firstValue_42 ?_
  suffices ∀ (l : List an_Ln) (i : Nat) (μ : am_M), an_scX false 42 μ ls → (∀ s, an_fs false s → μ 64 (an_fi false s) = fa s) → i ≤ ls.length → ls.drop i = l → (∀ μ', an_un [48] μ μ' → F (an_val fa wd l) μ') → am_Ji L d 67 2 [some (.ref 42), some (.int (nI wd)), some (.ref 64), some (.int (nI i))] [] μ F from this ls 0 μ hX hf (Nat.zero_le _) rfl hF
  intro l
  induction l with
  | nil =>
    intro i μ hX hf hil hl hF
    have := an_dropN hl
    refine v_Script_firstValue_42_2 ?_
    rw [hX.1, if_pos (nI_le (by omega) (by have := hk.1; omega))]
    exact hF μ an_un_rf
  | cons e t ih =>
    intro i μ hX hf hil hl hF
    obtain ⟨he, hi, ht⟩ := an_dropE hl
    have hlen := hk.1
    obtain ⟨p, q, r, g1, g2, g3, g4, hr, hs1, hs2⟩ := hX.2 i e he
    have he4 := (hk.2 e (an_memE he)).1
    refine v_Script_firstValue_42_2 ?_
    rw [hX.1, if_neg (nI_ge hi (by omega)), am_gd_in (by omega) (by omega), am_cl (by omega), g1 rfl]
    by_cases hw : e.1 = wd
    · rw [hw, if_neg (fun z => z rfl)]
      refine ⟨by omega, s_isSo_42 (by omega) hk hX hf he (by omega) (fun μ1 hu => ?_)⟩
      have hX1 : an_scX false 42 μ1 ls := an_scX_c hX (fun c' q1 q2 => hu c' (by simp; omega))
      have hf1 : ∀ s, an_fs false s → μ1 64 (an_fi false s) = fa s := fun s hs => by rw [hu 64 (by decide)]; exact hf s hs
      rw [an_bf]
      cases hso : an_so fa e.2.2 with
      | true =>
        dsimp only
        obtain ⟨p, q, r, g1, g2, g3, g4, hr, hs1, hs2⟩ := hX1.2 i e he
        have hle := (an_sq_le an_C_lt _ _ _ hs2).1
        rw [am_gd_in (by omega) (by omega), am_gd_in (by omega) (by omega), g2, g3]
        refine ⟨by omega, an_cx_42 (by omega) e.2.1 p [false] μ1 (an_sq_in an_C_lt _ _ _ hs1 (Nat.le_refl _)) ((hk.2 e (an_memE he)).2.1 rfl) rfl rfl hf1 (fun μ2 hu2 => ?_)⟩
        have h2 := hF μ2 (an_un_tr hu hu2 (fun _ q => q) (fun _ q => q))
        rw [an_val, hw, hso, Nat.beq_refl] at h2
        exact h2
      | false =>
        dsimp only
        rw [nI_add]
        refine ih (i + 1) μ1 hX1 hf1 hi ht (fun μ2 hu2 => ?_)
        have h2 := hF μ2 (an_un_tr hu hu2 (fun _ q => q) (fun _ q => q))
        rw [an_val, hso, Bool.and_false] at h2
        exact h2
    · rw [if_pos (fun z => hw ((nI_eq (by omega) (by omega)).mp z)), nI_add]
      refine ih (i + 1) μ hX hf hi ht (fun μ2 hu2 => ?_)
      have h2 := hF μ2 hu2
      rw [an_val, am_nb hw] at h2
      exact h2
theorem s_isSo_21T {L d : Nat} {μ : am_M} {F : Int32 → am_M → Prop} {fa : Nat → Int32} {ls : List an_Ln} {i : Nat} {e : an_Ln} (hd : 2 ≤ d) (hk : an_okl false ls) (hX : an_scX false 21 μ ls) (hf : ∀ s, an_fs false s → μ 130 (an_fi false s) = fa s) (he : ls[i]? = some e) (hi : i < 12) (hF : ∀ μ', an_un [27] μ μ' → F (an_b (an_so fa e.2.2)) μ') : am_Ci L d 69 [.ref 21, .int (nI i), .ref 130] μ F := by
  obtain ⟨p, q, r, -, g2, g3, g4, hr, hs1, hs2⟩ := hX.2 i e he
  have hle := an_sq_le an_C_lt _ _ _ hs2
  refine v_Script_isSo_21T ?_
  simp (discharger := omega) only [am_cl, am_gd_in, am_dp, g3, g4, am_eq']
  by_cases hq : q = r
  · rw [if_neg (fun z => z hq)]
    have := (an_nil_iff an_C_lt hs2).mp hq
    have := hF μ an_un_rf
    rw [show an_so fa e.2.2 = true by rw [(an_nil_iff an_C_lt hs2).mp hq]; rfl] at this
    exact this
  · rw [if_pos hq]
    have hne : ¬ e.2.2 = [] := fun z => hq ((an_nil_iff an_C_lt hs2).mpr z)
    have hty : an_ty false e.2.2 [] [true] := by
      rcases (hk.2 e (an_memE he)).2.2 with z | z
      · exact absurd z.1 hne
      · exact z
    refine an_cx_21T hr e.2.2 q [true] μ (an_sq_in an_C_lt _ _ _ hs2 (Nat.le_refl _)) hty rfl rfl hf (fun μ' hu => ?_)
    have h2 := hF μ' hu
    have hem : e.2.2.isEmpty = false := by
      cases h3 : e.2.2 with
      | nil => exact absurd h3 hne
      | cons a b => rfl
    unfold an_so at h2
    rw [hem, Bool.false_or] at h2
    rcases an_cond01 (fa := fa) hty with z | z
    · rw [z] at h2 ⊢
      rw [if_pos nI_0]
      exact h2
    · rw [z] at h2 ⊢
      rw [if_neg (by decide)]
      exact h2
theorem s_firstValue_21T {L d : Nat} {F : Int32 → am_M → Prop} {fa : Nat → Int32} {ls : List an_Ln} {wd : Nat} (hd : 3 ≤ d) (hwd : wd < 4) (hk : an_okl false ls) (μ : am_M) (hX : an_scX false 21 μ ls) (hf : ∀ s, an_fs false s → μ 130 (an_fi false s) = fa s) (hF : ∀ μ', an_un [27] μ μ' → F (an_val fa wd ls) μ') : am_Ci L d 67 [.ref 21, .int (nI wd), .ref 130] μ F := by
  refine v_Script_firstValue_21T ?_
  suffices ∀ (l : List an_Ln) (i : Nat) (μ : am_M), an_scX false 21 μ ls → (∀ s, an_fs false s → μ 130 (an_fi false s) = fa s) → i ≤ ls.length → ls.drop i = l → (∀ μ', an_un [27] μ μ' → F (an_val fa wd l) μ') → am_Ji L d 67 2 [some (.ref 21), some (.int (nI wd)), some (.ref 130), some (.int (nI i))] [] μ F from this ls 0 μ hX hf (Nat.zero_le _) rfl hF
  intro l
  induction l with
  | nil =>
    intro i μ hX hf hil hl hF
    have := an_dropN hl
    refine v_Script_firstValue_21T_2 ?_
    rw [hX.1, if_pos (nI_le (by omega) (by have := hk.1; omega))]
    exact hF μ an_un_rf
  | cons e t ih =>
    intro i μ hX hf hil hl hF
    obtain ⟨he, hi, ht⟩ := an_dropE hl
    have hlen := hk.1
    obtain ⟨p, q, r, g1, g2, g3, g4, hr, hs1, hs2⟩ := hX.2 i e he
    have he4 := (hk.2 e (an_memE he)).1
    refine v_Script_firstValue_21T_2 ?_
    rw [hX.1, if_neg (nI_ge hi (by omega)), am_gd_in (by omega) (by omega), am_cl (by omega), g1 rfl]
    by_cases hw : e.1 = wd
    · rw [hw, if_neg (fun z => z rfl)]
      refine ⟨by omega, s_isSo_21T (by omega) hk hX hf he (by omega) (fun μ1 hu => ?_)⟩
      have hX1 : an_scX false 21 μ1 ls := an_scX_c hX (fun c' q1 q2 => hu c' (by simp; omega))
      have hf1 : ∀ s, an_fs false s → μ1 130 (an_fi false s) = fa s := fun s hs => by rw [hu 130 (by decide)]; exact hf s hs
      rw [an_bf]
      cases hso : an_so fa e.2.2 with
      | true =>
        dsimp only
        obtain ⟨p, q, r, g1, g2, g3, g4, hr, hs1, hs2⟩ := hX1.2 i e he
        have hle := (an_sq_le an_C_lt _ _ _ hs2).1
        rw [am_gd_in (by omega) (by omega), am_gd_in (by omega) (by omega), g2, g3]
        refine ⟨by omega, an_cx_21T (by omega) e.2.1 p [false] μ1 (an_sq_in an_C_lt _ _ _ hs1 (Nat.le_refl _)) ((hk.2 e (an_memE he)).2.1 rfl) rfl rfl hf1 (fun μ2 hu2 => ?_)⟩
        have h2 := hF μ2 (an_un_tr hu hu2 (fun _ q => q) (fun _ q => q))
        rw [an_val, hw, hso, Nat.beq_refl] at h2
        exact h2
      | false =>
        dsimp only
        rw [nI_add]
        refine ih (i + 1) μ1 hX1 hf1 hi ht (fun μ2 hu2 => ?_)
        have h2 := hF μ2 (an_un_tr hu hu2 (fun _ q => q) (fun _ q => q))
        rw [an_val, hso, Bool.and_false] at h2
        exact h2
    · rw [if_pos (fun z => hw ((nI_eq (by omega) (by omega)).mp z)), nI_add]
      refine ih (i + 1) μ hX hf hi ht (fun μ2 hu2 => ?_)
      have h2 := hF μ2 hu2
      rw [an_val, am_nb hw] at h2
      exact h2
theorem s_isSo_28T {L d : Nat} {μ : am_M} {F : Int32 → am_M → Prop} {fa : Nat → Int32} {ls : List an_Ln} {i : Nat} {e : an_Ln} (hd : 2 ≤ d) (hk : an_okl false ls) (hX : an_scX false 28 μ ls) (hf : ∀ s, an_fs false s → μ 130 (an_fi false s) = fa s) (he : ls[i]? = some e) (hi : i < 12) (hF : ∀ μ', an_un [34] μ μ' → F (an_b (an_so fa e.2.2)) μ') : am_Ci L d 69 [.ref 28, .int (nI i), .ref 130] μ F := by
  obtain ⟨p, q, r, -, g2, g3, g4, hr, hs1, hs2⟩ := hX.2 i e he
  have hle := an_sq_le an_C_lt _ _ _ hs2
  refine v_Script_isSo_28T ?_
  simp (discharger := omega) only [am_cl, am_gd_in, am_dp, g3, g4, am_eq']
  by_cases hq : q = r
  · rw [if_neg (fun z => z hq)]
    have := (an_nil_iff an_C_lt hs2).mp hq
    have := hF μ an_un_rf
    rw [show an_so fa e.2.2 = true by rw [(an_nil_iff an_C_lt hs2).mp hq]; rfl] at this
    exact this
  · rw [if_pos hq]
    have hne : ¬ e.2.2 = [] := fun z => hq ((an_nil_iff an_C_lt hs2).mpr z)
    have hty : an_ty false e.2.2 [] [true] := by
      rcases (hk.2 e (an_memE he)).2.2 with z | z
      · exact absurd z.1 hne
      · exact z
    refine an_cx_28T hr e.2.2 q [true] μ (an_sq_in an_C_lt _ _ _ hs2 (Nat.le_refl _)) hty rfl rfl hf (fun μ' hu => ?_)
    have h2 := hF μ' hu
    have hem : e.2.2.isEmpty = false := by
      cases h3 : e.2.2 with
      | nil => exact absurd h3 hne
      | cons a b => rfl
    unfold an_so at h2
    rw [hem, Bool.false_or] at h2
    rcases an_cond01 (fa := fa) hty with z | z
    · rw [z] at h2 ⊢
      rw [if_pos nI_0]
      exact h2
    · rw [z] at h2 ⊢
      rw [if_neg (by decide)]
      exact h2
theorem s_firstValue_28T {L d : Nat} {F : Int32 → am_M → Prop} {fa : Nat → Int32} {ls : List an_Ln} {wd : Nat} (hd : 3 ≤ d) (hwd : wd < 4) (hk : an_okl false ls) (μ : am_M) (hX : an_scX false 28 μ ls) (hf : ∀ s, an_fs false s → μ 130 (an_fi false s) = fa s) (hF : ∀ μ', an_un [34] μ μ' → F (an_val fa wd ls) μ') : am_Ci L d 67 [.ref 28, .int (nI wd), .ref 130] μ F := by
  refine v_Script_firstValue_28T ?_
  suffices ∀ (l : List an_Ln) (i : Nat) (μ : am_M), an_scX false 28 μ ls → (∀ s, an_fs false s → μ 130 (an_fi false s) = fa s) → i ≤ ls.length → ls.drop i = l → (∀ μ', an_un [34] μ μ' → F (an_val fa wd l) μ') → am_Ji L d 67 2 [some (.ref 28), some (.int (nI wd)), some (.ref 130), some (.int (nI i))] [] μ F from this ls 0 μ hX hf (Nat.zero_le _) rfl hF
  intro l
  induction l with
  | nil =>
    intro i μ hX hf hil hl hF
    have := an_dropN hl
    refine v_Script_firstValue_28T_2 ?_
    rw [hX.1, if_pos (nI_le (by omega) (by have := hk.1; omega))]
    exact hF μ an_un_rf
  | cons e t ih =>
    intro i μ hX hf hil hl hF
    obtain ⟨he, hi, ht⟩ := an_dropE hl
    have hlen := hk.1
    obtain ⟨p, q, r, g1, g2, g3, g4, hr, hs1, hs2⟩ := hX.2 i e he
    have he4 := (hk.2 e (an_memE he)).1
    refine v_Script_firstValue_28T_2 ?_
    rw [hX.1, if_neg (nI_ge hi (by omega)), am_gd_in (by omega) (by omega), am_cl (by omega), g1 rfl]
    by_cases hw : e.1 = wd
    · rw [hw, if_neg (fun z => z rfl)]
      refine ⟨by omega, s_isSo_28T (by omega) hk hX hf he (by omega) (fun μ1 hu => ?_)⟩
      have hX1 : an_scX false 28 μ1 ls := an_scX_c hX (fun c' q1 q2 => hu c' (by simp; omega))
      have hf1 : ∀ s, an_fs false s → μ1 130 (an_fi false s) = fa s := fun s hs => by rw [hu 130 (by decide)]; exact hf s hs
      rw [an_bf]
      cases hso : an_so fa e.2.2 with
      | true =>
        dsimp only
        obtain ⟨p, q, r, g1, g2, g3, g4, hr, hs1, hs2⟩ := hX1.2 i e he
        have hle := (an_sq_le an_C_lt _ _ _ hs2).1
        rw [am_gd_in (by omega) (by omega), am_gd_in (by omega) (by omega), g2, g3]
        refine ⟨by omega, an_cx_28T (by omega) e.2.1 p [false] μ1 (an_sq_in an_C_lt _ _ _ hs1 (Nat.le_refl _)) ((hk.2 e (an_memE he)).2.1 rfl) rfl rfl hf1 (fun μ2 hu2 => ?_)⟩
        have h2 := hF μ2 (an_un_tr hu hu2 (fun _ q => q) (fun _ q => q))
        rw [an_val, hw, hso, Nat.beq_refl] at h2
        exact h2
      | false =>
        dsimp only
        rw [nI_add]
        refine ih (i + 1) μ1 hX1 hf1 hi ht (fun μ2 hu2 => ?_)
        have h2 := hF μ2 (an_un_tr hu hu2 (fun _ q => q) (fun _ q => q))
        rw [an_val, hso, Bool.and_false] at h2
        exact h2
    · rw [if_pos (fun z => hw ((nI_eq (by omega) (by omega)).mp z)), nI_add]
      refine ih (i + 1) μ hX hf hi ht (fun μ2 hu2 => ?_)
      have h2 := hF μ2 hu2
      rw [an_val, am_nb hw] at h2
      exact h2
theorem s_isSo_35T {L d : Nat} {μ : am_M} {F : Int32 → am_M → Prop} {fa : Nat → Int32} {ls : List an_Ln} {i : Nat} {e : an_Ln} (hd : 2 ≤ d) (hk : an_okl false ls) (hX : an_scX false 35 μ ls) (hf : ∀ s, an_fs false s → μ 130 (an_fi false s) = fa s) (he : ls[i]? = some e) (hi : i < 12) (hF : ∀ μ', an_un [41] μ μ' → F (an_b (an_so fa e.2.2)) μ') : am_Ci L d 69 [.ref 35, .int (nI i), .ref 130] μ F := by
  obtain ⟨p, q, r, -, g2, g3, g4, hr, hs1, hs2⟩ := hX.2 i e he
  have hle := an_sq_le an_C_lt _ _ _ hs2
  refine v_Script_isSo_35T ?_
  simp (discharger := omega) only [am_cl, am_gd_in, am_dp, g3, g4, am_eq']
  by_cases hq : q = r
  · rw [if_neg (fun z => z hq)]
    have := (an_nil_iff an_C_lt hs2).mp hq
    have := hF μ an_un_rf
    rw [show an_so fa e.2.2 = true by rw [(an_nil_iff an_C_lt hs2).mp hq]; rfl] at this
    exact this
  · rw [if_pos hq]
    have hne : ¬ e.2.2 = [] := fun z => hq ((an_nil_iff an_C_lt hs2).mpr z)
    have hty : an_ty false e.2.2 [] [true] := by
      rcases (hk.2 e (an_memE he)).2.2 with z | z
      · exact absurd z.1 hne
      · exact z
    refine an_cx_35T hr e.2.2 q [true] μ (an_sq_in an_C_lt _ _ _ hs2 (Nat.le_refl _)) hty rfl rfl hf (fun μ' hu => ?_)
    have h2 := hF μ' hu
    have hem : e.2.2.isEmpty = false := by
      cases h3 : e.2.2 with
      | nil => exact absurd h3 hne
      | cons a b => rfl
    unfold an_so at h2
    rw [hem, Bool.false_or] at h2
    rcases an_cond01 (fa := fa) hty with z | z
    · rw [z] at h2 ⊢
      rw [if_pos nI_0]
      exact h2
    · rw [z] at h2 ⊢
      rw [if_neg (by decide)]
      exact h2
theorem s_firstValue_35T {L d : Nat} {F : Int32 → am_M → Prop} {fa : Nat → Int32} {ls : List an_Ln} {wd : Nat} (hd : 3 ≤ d) (hwd : wd < 4) (hk : an_okl false ls) (μ : am_M) (hX : an_scX false 35 μ ls) (hf : ∀ s, an_fs false s → μ 130 (an_fi false s) = fa s) (hF : ∀ μ', an_un [41] μ μ' → F (an_val fa wd ls) μ') : am_Ci L d 67 [.ref 35, .int (nI wd), .ref 130] μ F := by
  refine v_Script_firstValue_35T ?_
  suffices ∀ (l : List an_Ln) (i : Nat) (μ : am_M), an_scX false 35 μ ls → (∀ s, an_fs false s → μ 130 (an_fi false s) = fa s) → i ≤ ls.length → ls.drop i = l → (∀ μ', an_un [41] μ μ' → F (an_val fa wd l) μ') → am_Ji L d 67 2 [some (.ref 35), some (.int (nI wd)), some (.ref 130), some (.int (nI i))] [] μ F from this ls 0 μ hX hf (Nat.zero_le _) rfl hF
  intro l
  induction l with
  | nil =>
    intro i μ hX hf hil hl hF
    have := an_dropN hl
    refine v_Script_firstValue_35T_2 ?_
    rw [hX.1, if_pos (nI_le (by omega) (by have := hk.1; omega))]
    exact hF μ an_un_rf
  | cons e t ih =>
    intro i μ hX hf hil hl hF
    obtain ⟨he, hi, ht⟩ := an_dropE hl
    have hlen := hk.1
    obtain ⟨p, q, r, g1, g2, g3, g4, hr, hs1, hs2⟩ := hX.2 i e he
    have he4 := (hk.2 e (an_memE he)).1
    refine v_Script_firstValue_35T_2 ?_
    rw [hX.1, if_neg (nI_ge hi (by omega)), am_gd_in (by omega) (by omega), am_cl (by omega), g1 rfl]
    by_cases hw : e.1 = wd
    · rw [hw, if_neg (fun z => z rfl)]
      refine ⟨by omega, s_isSo_35T (by omega) hk hX hf he (by omega) (fun μ1 hu => ?_)⟩
      have hX1 : an_scX false 35 μ1 ls := an_scX_c hX (fun c' q1 q2 => hu c' (by simp; omega))
      have hf1 : ∀ s, an_fs false s → μ1 130 (an_fi false s) = fa s := fun s hs => by rw [hu 130 (by decide)]; exact hf s hs
      rw [an_bf]
      cases hso : an_so fa e.2.2 with
      | true =>
        dsimp only
        obtain ⟨p, q, r, g1, g2, g3, g4, hr, hs1, hs2⟩ := hX1.2 i e he
        have hle := (an_sq_le an_C_lt _ _ _ hs2).1
        rw [am_gd_in (by omega) (by omega), am_gd_in (by omega) (by omega), g2, g3]
        refine ⟨by omega, an_cx_35T (by omega) e.2.1 p [false] μ1 (an_sq_in an_C_lt _ _ _ hs1 (Nat.le_refl _)) ((hk.2 e (an_memE he)).2.1 rfl) rfl rfl hf1 (fun μ2 hu2 => ?_)⟩
        have h2 := hF μ2 (an_un_tr hu hu2 (fun _ q => q) (fun _ q => q))
        rw [an_val, hw, hso, Nat.beq_refl] at h2
        exact h2
      | false =>
        dsimp only
        rw [nI_add]
        refine ih (i + 1) μ1 hX1 hf1 hi ht (fun μ2 hu2 => ?_)
        have h2 := hF μ2 (an_un_tr hu hu2 (fun _ q => q) (fun _ q => q))
        rw [an_val, hso, Bool.and_false] at h2
        exact h2
    · rw [if_pos (fun z => hw ((nI_eq (by omega) (by omega)).mp z)), nI_add]
      refine ih (i + 1) μ hX hf hi ht (fun μ2 hu2 => ?_)
      have h2 := hF μ2 hu2
      rw [an_val, am_nb hw] at h2
      exact h2
theorem s_isSo_42T {L d : Nat} {μ : am_M} {F : Int32 → am_M → Prop} {fa : Nat → Int32} {ls : List an_Ln} {i : Nat} {e : an_Ln} (hd : 2 ≤ d) (hk : an_okl false ls) (hX : an_scX false 42 μ ls) (hf : ∀ s, an_fs false s → μ 130 (an_fi false s) = fa s) (he : ls[i]? = some e) (hi : i < 12) (hF : ∀ μ', an_un [48] μ μ' → F (an_b (an_so fa e.2.2)) μ') : am_Ci L d 69 [.ref 42, .int (nI i), .ref 130] μ F := by
  obtain ⟨p, q, r, -, g2, g3, g4, hr, hs1, hs2⟩ := hX.2 i e he
  have hle := an_sq_le an_C_lt _ _ _ hs2
  refine v_Script_isSo_42T ?_
  simp (discharger := omega) only [am_cl, am_gd_in, am_dp, g3, g4, am_eq']
  by_cases hq : q = r
  · rw [if_neg (fun z => z hq)]
    have := (an_nil_iff an_C_lt hs2).mp hq
    have := hF μ an_un_rf
    rw [show an_so fa e.2.2 = true by rw [(an_nil_iff an_C_lt hs2).mp hq]; rfl] at this
    exact this
  · rw [if_pos hq]
    have hne : ¬ e.2.2 = [] := fun z => hq ((an_nil_iff an_C_lt hs2).mpr z)
    have hty : an_ty false e.2.2 [] [true] := by
      rcases (hk.2 e (an_memE he)).2.2 with z | z
      · exact absurd z.1 hne
      · exact z
    refine an_cx_42T hr e.2.2 q [true] μ (an_sq_in an_C_lt _ _ _ hs2 (Nat.le_refl _)) hty rfl rfl hf (fun μ' hu => ?_)
    have h2 := hF μ' hu
    have hem : e.2.2.isEmpty = false := by
      cases h3 : e.2.2 with
      | nil => exact absurd h3 hne
      | cons a b => rfl
    unfold an_so at h2
    rw [hem, Bool.false_or] at h2
    rcases an_cond01 (fa := fa) hty with z | z
    · rw [z] at h2 ⊢
      rw [if_pos nI_0]
      exact h2
    · rw [z] at h2 ⊢
      rw [if_neg (by decide)]
      exact h2
theorem s_firstValue_42T {L d : Nat} {F : Int32 → am_M → Prop} {fa : Nat → Int32} {ls : List an_Ln} {wd : Nat} (hd : 3 ≤ d) (hwd : wd < 4) (hk : an_okl false ls) (μ : am_M) (hX : an_scX false 42 μ ls) (hf : ∀ s, an_fs false s → μ 130 (an_fi false s) = fa s) (hF : ∀ μ', an_un [48] μ μ' → F (an_val fa wd ls) μ') : am_Ci L d 67 [.ref 42, .int (nI wd), .ref 130] μ F := by
  refine v_Script_firstValue_42T ?_
  suffices ∀ (l : List an_Ln) (i : Nat) (μ : am_M), an_scX false 42 μ ls → (∀ s, an_fs false s → μ 130 (an_fi false s) = fa s) → i ≤ ls.length → ls.drop i = l → (∀ μ', an_un [48] μ μ' → F (an_val fa wd l) μ') → am_Ji L d 67 2 [some (.ref 42), some (.int (nI wd)), some (.ref 130), some (.int (nI i))] [] μ F from this ls 0 μ hX hf (Nat.zero_le _) rfl hF
  intro l
  induction l with
  | nil =>
    intro i μ hX hf hil hl hF
    have := an_dropN hl
    refine v_Script_firstValue_42T_2 ?_
    rw [hX.1, if_pos (nI_le (by omega) (by have := hk.1; omega))]
    exact hF μ an_un_rf
  | cons e t ih =>
    intro i μ hX hf hil hl hF
    obtain ⟨he, hi, ht⟩ := an_dropE hl
    have hlen := hk.1
    obtain ⟨p, q, r, g1, g2, g3, g4, hr, hs1, hs2⟩ := hX.2 i e he
    have he4 := (hk.2 e (an_memE he)).1
    refine v_Script_firstValue_42T_2 ?_
    rw [hX.1, if_neg (nI_ge hi (by omega)), am_gd_in (by omega) (by omega), am_cl (by omega), g1 rfl]
    by_cases hw : e.1 = wd
    · rw [hw, if_neg (fun z => z rfl)]
      refine ⟨by omega, s_isSo_42T (by omega) hk hX hf he (by omega) (fun μ1 hu => ?_)⟩
      have hX1 : an_scX false 42 μ1 ls := an_scX_c hX (fun c' q1 q2 => hu c' (by simp; omega))
      have hf1 : ∀ s, an_fs false s → μ1 130 (an_fi false s) = fa s := fun s hs => by rw [hu 130 (by decide)]; exact hf s hs
      rw [an_bf]
      cases hso : an_so fa e.2.2 with
      | true =>
        dsimp only
        obtain ⟨p, q, r, g1, g2, g3, g4, hr, hs1, hs2⟩ := hX1.2 i e he
        have hle := (an_sq_le an_C_lt _ _ _ hs2).1
        rw [am_gd_in (by omega) (by omega), am_gd_in (by omega) (by omega), g2, g3]
        refine ⟨by omega, an_cx_42T (by omega) e.2.1 p [false] μ1 (an_sq_in an_C_lt _ _ _ hs1 (Nat.le_refl _)) ((hk.2 e (an_memE he)).2.1 rfl) rfl rfl hf1 (fun μ2 hu2 => ?_)⟩
        have h2 := hF μ2 (an_un_tr hu hu2 (fun _ q => q) (fun _ q => q))
        rw [an_val, hw, hso, Nat.beq_refl] at h2
        exact h2
      | false =>
        dsimp only
        rw [nI_add]
        refine ih (i + 1) μ1 hX1 hf1 hi ht (fun μ2 hu2 => ?_)
        have h2 := hF μ2 (an_un_tr hu hu2 (fun _ q => q) (fun _ q => q))
        rw [an_val, hso, Bool.and_false] at h2
        exact h2
    · rw [if_pos (fun z => hw ((nI_eq (by omega) (by omega)).mp z)), nI_add]
      refine ih (i + 1) μ hX hf hi ht (fun μ2 hu2 => ?_)
      have h2 := hF μ2 hu2
      rw [an_val, am_nb hw] at h2
      exact h2
theorem s_isSo_49 {L d : Nat} {μ : am_M} {F : Int32 → am_M → Prop} {fa : Nat → Int32} {ls : List an_Ln} {i : Nat} {e : an_Ln} (hd : 2 ≤ d) (hk : an_okl true ls) (hX : an_scX true 49 μ ls) (hf : ∀ s, an_fs true s → μ 132 (an_fi true s) = fa s) (he : ls[i]? = some e) (hi : i < 12) (hF : ∀ μ', an_un [55] μ μ' → F (an_b (an_so fa e.2.2)) μ') : am_Ci L d 69 [.ref 49, .int (nI i), .ref 132] μ F := by
  obtain ⟨p, q, r, -, g2, g3, g4, hr, hs1, hs2⟩ := hX.2 i e he
  have hle := an_sq_le an_C_lt _ _ _ hs2
  refine v_Script_isSo_49 ?_
  simp (discharger := omega) only [am_cl, am_gd_in, am_dp, g3, g4, am_eq']
  by_cases hq : q = r
  · rw [if_neg (fun z => z hq)]
    have := (an_nil_iff an_C_lt hs2).mp hq
    have := hF μ an_un_rf
    rw [show an_so fa e.2.2 = true by rw [(an_nil_iff an_C_lt hs2).mp hq]; rfl] at this
    exact this
  · rw [if_pos hq]
    have hne : ¬ e.2.2 = [] := fun z => hq ((an_nil_iff an_C_lt hs2).mpr z)
    have hty : an_ty true e.2.2 [] [true] := by
      rcases (hk.2 e (an_memE he)).2.2 with z | z
      · exact absurd z.1 hne
      · exact z
    refine an_cx_49 hr e.2.2 q [true] μ (an_sq_in an_C_lt _ _ _ hs2 (Nat.le_refl _)) hty rfl rfl hf (fun μ' hu => ?_)
    have h2 := hF μ' hu
    have hem : e.2.2.isEmpty = false := by
      cases h3 : e.2.2 with
      | nil => exact absurd h3 hne
      | cons a b => rfl
    unfold an_so at h2
    rw [hem, Bool.false_or] at h2
    rcases an_cond01 (fa := fa) hty with z | z
    · rw [z] at h2 ⊢
      rw [if_pos nI_0]
      exact h2
    · rw [z] at h2 ⊢
      rw [if_neg (by decide)]
      exact h2
theorem s_anyIsSo {L d : Nat} {F : Int32 → am_M → Prop} {fa : Nat → Int32} {ls : List an_Ln} (hd : 3 ≤ d) (hk : an_okl true ls) (μ : am_M) (hX : an_scX true 49 μ ls) (hf : ∀ s, an_fs true s → μ 132 (an_fi true s) = fa s) (hF : ∀ μ', an_un [55] μ μ' → F (an_b (an_any fa ls)) μ') : am_Ci L d 68 [.ref 49, .ref 132] μ F := by
  refine v_Script_anyIsSo ?_
  suffices ∀ (l : List an_Ln) (i : Nat) (μ : am_M), an_scX true 49 μ ls → (∀ s, an_fs true s → μ 132 (an_fi true s) = fa s) → i ≤ ls.length → ls.drop i = l → (∀ μ', an_un [55] μ μ' → F (an_b (an_any fa l)) μ') → am_Ji L d 68 2 [some (.ref 49), some (.ref 132), some (.int (nI i))] [] μ F from this ls 0 μ hX hf (Nat.zero_le _) rfl hF
  intro l
  induction l with
  | nil =>
    intro i μ hX hf hil hl hF
    have := an_dropN hl
    refine v_Script_anyIsSo_2 ?_
    rw [hX.1, if_pos (nI_le (by omega) (by have := hk.1; omega))]
    exact hF μ an_un_rf
  | cons e t ih =>
    intro i μ hX hf hil hl hF
    obtain ⟨he, hi, ht⟩ := an_dropE hl
    have hlen := hk.1
    refine v_Script_anyIsSo_2 ?_
    rw [hX.1, if_neg (nI_ge hi (by omega))]
    refine ⟨by omega, s_isSo_49 (by omega) hk hX hf he (by omega) (fun μ1 hu => ?_)⟩
    have hX1 : an_scX true 49 μ1 ls := an_scX_c hX (fun c' q1 q2 => hu c' (by simp; omega))
    have hf1 : ∀ s, an_fs true s → μ1 132 (an_fi true s) = fa s := fun s hs => by rw [hu 132 (by decide)]; exact hf s hs
    rw [an_bf]
    cases hso : an_so fa e.2.2 with
    | true =>
      have h2 := hF μ1 hu
      rw [an_any, hso] at h2
      exact h2
    | false =>
      dsimp only
      rw [nI_add]
      refine ih (i + 1) μ1 hX1 hf1 hi ht (fun μ2 hu2 => ?_)
      have h2 := hF μ2 (an_un_tr hu hu2 (fun _ q => q) (fun _ q => q))
      rw [an_any, hso, Bool.false_or] at h2
      exact h2
/-- the model's condition of a sign, from its steps -/
theorem an_any_m {L d : Nat} {F : Int32 → am_M → Prop} {fa : Nat → Int32} {ls : List an_Ln} {w : an_W} (hd : 4 ≤ d) (hk : an_okl true ls) (hM : an_scM w 4 ls) (μ : am_M) (hw : μ 141 = w) (hf : ∀ s, an_fs true s → μ 148 s = fa s) (hF : ∀ μ', an_un [147] μ μ' → F (an_b (an_any fa ls)) μ') : am_Ji L d 220 8 [some (.ref 140), none, none, some (.int (nI 0))] [] μ F := by
  suffices ∀ (l : List an_Ln) (i : Nat) (μ : am_M), μ 141 = w → (∀ s, an_fs true s → μ 148 s = fa s) → i ≤ ls.length → ls.drop i = l → (∀ μ', an_un [147] μ μ' → F (an_b (an_any fa l)) μ') → am_Ji L d 220 8 [some (.ref 140), none, none, some (.int (nI i))] [] μ F from this ls 0 μ hw hf (Nat.zero_le _) rfl hF
  have hm1 : w 5464 = nI ls.length := hM.1
  have hlen := hk.1
  intro l
  induction l with
  | nil =>
    intro i μ hw hf hil hl hF
    have := an_dropN hl
    refine v_M_cryOf_8 ?_
    rw [hw, hm1, if_pos (nI_le (by omega) (by omega))]
    exact hF μ an_un_rf
  | cons e t ih =>
    intro i μ hw hf hil hl hF
    obtain ⟨he, hi, ht⟩ := an_dropE hl
    obtain ⟨f, g, h, g1, g2, g3, g4, hh, hs1, hs2⟩ := hM.2 i e he
    have hle := (an_sq_le an_D_lt _ _ _ hs2).1
    rw [show 5590 + (12 * 4 + i) = 5638 + i by omega] at g3
    rw [show 5650 + (12 * 4 + i) = 5698 + i by omega] at g4
    have hty : an_ty true e.2.2 [] [true] := by
      rcases (hk.2 e (an_memE he)).2.2 with z | z
      · exact absurd z.2 (by simp)
      · exact z
    refine v_M_cryOf_8 ?_
    rw [hw, hm1, if_neg (nI_ge hi (by omega))]
    simp (discharger := omega) only [nI_add, am_gd_in, am_cl, am_dp, g3, g4]
    refine an_cm (by omega) (by omega) hh e.2.2 g [true] μ (an_sq_lt an_D_lt _ _ _ hs2 (Nat.le_refl _)) hty rfl hw hf (fun μ1 hu => ?_)
    have hw1 : μ1 141 = w := (hu 141 (by decide)).trans hw
    have hf1 : ∀ s, an_fs true s → μ1 148 s = fa s := fun s hs => by rw [hu 148 (by decide)]; exact hf s hs
    have hem : e.2.2.isEmpty = false := by
      cases h3 : e.2.2 with
      | nil => rw [h3] at hty; simp [an_ty] at hty
      | cons a b => rfl
    rcases an_cond01 (fa := fa) hty with z | z
    · rw [z, if_pos (by decide)]
      refine ih (i + 1) μ1 hw1 hf1 hi ht (fun μ2 hu2 => ?_)
      have h2 := hF μ2 (an_un_tr hu hu2 (fun _ q => q) (fun _ q => q))
      rw [an_any, show an_so fa e.2.2 = false by rw [an_so, hem, z]; decide, Bool.false_or] at h2
      exact h2
    · rw [z, if_neg (fun q => q rfl)]
      have h2 := hF μ1 hu
      rw [an_any, show an_so fa e.2.2 = true by rw [an_so, hem, z]; decide, Bool.true_or] at h2
      exact h2
theorem an_cla0 (m : Nat) (hm : m < 2147483648) : an_cla m (nI 0) = nI 0 := by
  unfold an_cla
  rw [if_pos (by decide), if_pos (nI_le (by omega) hm)]
theorem an_cla_i {F : Int32 → am_M → Prop} {μ : am_M} {m : Nat} {y : Int32} (h : F (an_cla m y) μ) : if 0 ≤ y then if y ≤ nI m then F y μ else F (nI m) μ else F (nI 0) μ := by
  unfold an_cla at h
  by_cases h1 : 0 ≤ y
  · rw [if_pos h1] at h ⊢
    by_cases h2 : y ≤ nI m
    · rw [if_pos h2] at h ⊢; exact h
    · rw [if_neg h2] at h ⊢; exact h
  · rw [if_neg h1] at h ⊢; exact h
theorem s_M_tells {L d : Nat} {F : Int32 → am_M → Prop} {fa : Nat → Int32} {ls : List an_Ln} {w : an_W} {b wd : Nat} (hd : 4 ≤ d) (hb : b < 4) (hwd : wd < 3) (hk : an_okl false ls) (hM : an_scM w b ls) (μ : am_M) (hw : μ 141 = w) (hf : ∀ s, an_fs false s → μ 148 s = fa s) (hF : ∀ μ', an_un [147] μ μ' → F (an_cla (an_most wd) (an_val fa wd ls)) μ') : am_Ci L d 180 [.ref 140, .int (nI b), .int (nI wd)] μ F := by
  have hmost : an_most wd < 2147483648 := by
    rcases (by omega : wd = 0 ∨ wd = 1 ∨ wd = 2) with rfl | rfl | rfl <;> decide
  suffices ∀ (l : List an_Ln) (i : Nat) (μ : am_M), μ 141 = w → (∀ s, an_fs false s → μ 148 s = fa s) → i ≤ ls.length → ls.drop i = l → (∀ μ', an_un [147] μ μ' → F (an_cla (an_most wd) (an_val fa wd l)) μ') → am_Ji L d 180 26 [some (.ref 140), some (.int (nI b)), some (.int (nI wd)), some (.int (nI (an_most wd))), some (.int (nI i)), none, none] [] μ F by
    refine v_M_tells ?_
    have h0 := this ls 0 μ hw hf (Nat.zero_le _) rfl hF
    rcases (by omega : wd = 0 ∨ wd = 1 ∨ wd = 2) with rfl | rfl | rfl
    · rw [if_neg (by decide)]; exact h0
    · rw [if_pos (by decide), if_neg (by decide)]; exact h0
    · rw [if_pos (by decide), if_pos (by decide)]; exact h0
  have hm1 := hM.1
  have hlen := hk.1
  intro l
  induction l with
  | nil =>
    intro i μ hw hf hil hl hF
    have := an_dropN hl
    refine v_M_tells_26 ?_
    simp (discharger := omega) only [nI_add, am_gd_in, am_cl, hw, hm1]
    rw [if_pos (nI_le (by omega) (by omega))]
    have := hF μ an_un_rf
    rw [an_val, an_cla0 _ hmost] at this
    exact this
  | cons e t ih =>
    intro i μ hw hf hil hl hF
    obtain ⟨he, hi, ht⟩ := an_dropE hl
    obtain ⟨f, g, h, g1, g2, g3, g4, hh, hs1, hs2⟩ := hM.2 i e he
    have hle := (an_sq_le an_D_lt _ _ _ hs2).1
    have hle1 := (an_sq_le an_D_lt _ _ _ hs1).1
    have hnil := an_nil_iff an_D_lt hs2
    have he4 := (hk.2 e (an_memE he)).1
    refine v_M_tells_26 ?_
    rw [nI_add, am_gd_in (by omega) (by omega), am_cl (by omega), hw, hm1, if_neg (nI_ge hi (by omega))]
    simp (discharger := omega) only [pk_mul, nI_add, am_gd_in, am_cl, am_dp, g1, g2, g3, g4, am_eq', am_le']
    by_cases hwd2 : e.1 = wd
    · rw [if_pos hwd2]
      by_cases hq : h ≤ g
      · rw [if_pos hq]
        have hcl : e.2.2 = [] := hnil.mp (by omega)
        refine an_cm (by omega) (by omega) (by omega) e.2.1 f [false] μ (an_sq_lt an_D_lt _ _ _ hs1 (Nat.le_refl _)) ((hk.2 e (an_memE he)).2.1 rfl) rfl hw hf (fun μ1 hu => an_cla_i ?_)
        have h2 := hF μ1 hu
        rw [an_val, hwd2, hcl, Nat.beq_refl] at h2
        exact h2
      · rw [if_neg hq]
        have hne : ¬ e.2.2 = [] := fun z => hq (by have := hnil.mpr z; omega)
        have hty : an_ty false e.2.2 [] [true] := by
          rcases (hk.2 e (an_memE he)).2.2 with z | z
          · exact absurd z.1 hne
          · exact z
        have hem : e.2.2.isEmpty = false := by
          cases h3 : e.2.2 with
          | nil => exact absurd h3 hne
          | cons a b => rfl
        refine an_cm (by omega) (by omega) hh e.2.2 g [true] μ (an_sq_lt an_D_lt _ _ _ hs2 (Nat.le_refl _)) hty rfl hw hf (fun μ1 hu => ?_)
        have hw1 : μ1 141 = w := (hu 141 (by decide)).trans hw
        have hf1 : ∀ s, an_fs false s → μ1 148 s = fa s := fun s hs => by rw [hu 148 (by decide)]; exact hf s hs
        rcases an_cond01 (fa := fa) hty with z | z
        · rw [z, if_neg (by decide)]
          refine ih (i + 1) μ1 hw1 hf1 hi ht (fun μ2 hu2 => ?_)
          have h2 := hF μ2 (an_un_tr hu hu2 (fun _ q => q) (fun _ q => q))
          rw [an_val, show an_so fa e.2.2 = false by rw [an_so, hem, z]; decide, Bool.and_false] at h2
          exact h2
        · rw [z, if_pos rfl]
          simp (discharger := omega) only [hw1, g2, g3]
          refine an_cm (by omega) (by omega) (by omega) e.2.1 f [false] μ1 (an_sq_lt an_D_lt _ _ _ hs1 (Nat.le_refl _)) ((hk.2 e (an_memE he)).2.1 rfl) rfl hw1 hf1 (fun μ2 hu2 => an_cla_i ?_)
          have h2 := hF μ2 (an_un_tr hu hu2 (fun _ q => q) (fun _ q => q))
          rw [an_val, hwd2, show an_so fa e.2.2 = true by rw [an_so, hem, z]; decide, Nat.beq_refl] at h2
          exact h2
    · rw [if_neg hwd2]
      refine ih (i + 1) μ hw hf hi ht (fun μ2 hu2 => ?_)
      have h2 := hF μ2 hu2
      rw [an_val, am_nb hwd2] at h2
      exact h2
