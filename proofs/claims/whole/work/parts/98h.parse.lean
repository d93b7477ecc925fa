/-! Texts: the class parses sums and conditions. -/
variable {nb : Nat}
theorem c_sum {L N : Nat} {sg : Bool} {tk : Nat → an_tke} (ht : an_tko2 tk N) : an_cok sg tk N 4 (an_psum sg tk) (fun d μ F => am_Ci L d 46 [.ref 3] μ F) := by
  have loop : ∀ (f d j c n : Nat) (μ : am_M) (F : Int32 → am_M → Prop), 4 ≤ d → an_cI tk N μ j c → n ≤ j → 401 ≤ f + j → (∀ r μ', an_cp sg tk N μ j c (an_pse tk (an_pprod sg tk) an_oS f j) r μ' → F r μ') → am_Ji L d 46 11 [some (.ref 3), some (.int (nI n)), none] [] μ F := by
    intro f
    induction f with
    | zero =>
      intro d j c n μ F hd hI hn hf hF
      have := hI.2.2.1
      have := hI.2.2.2.1
      omega
    | succ f ih =>
      intro d j c n μ F hd hI hn hf hF
      have lt := an_tk_lt ht j
      rw [an_pse] at hF
      refine v_Reader_sum_11 ?_
      by_cases h400 : 400 ≤ n
      · rw [if_pos (nI_le h400 (by have := hI.2.2.1; have := hI.2.2.2.1; omega))]
        have e0 : (tk j).1 = 0 := ht.2 j (by have := hI.2.2.1; have := hI.2.2.2.1; omega)
        rw [e0] at hF
        exact hF _ μ (an_cp_1 (an_cg_rf hI))
      rw [if_neg (nI_ge (by omega) (by omega))]
      refine ⟨by omega, c_kind hI ?_⟩
      -- behind the sign
      have go : ∀ (x : Int32) (s : Nat), an_oS (tk j).1 = some (s, 0) → 12 ≤ s → ¬ s = 15 → s ≤ 21 → x = - nI (s - 2) → ∀ {G : am_M → Prop}, (∀ μ1, am_Ji L d 46 11 [some (.ref 3), some (.int (nI n + nI 1)), none] [] μ1 F → G μ1) → ∀ μ5, μ5 = am_w μ 3 5 ((μ 3 5) + nI 1) → am_Ci L (d - 1) 47 [.ref 3] μ5 (fun y7 μ6 => if ¬ y7 = 0 then am_Cv L (d - 1) 62 [.ref 4, .int x] μ6 (fun μ8 => G μ8) else F (nI 0) μ6) := by
        intro x s hs s1 s2 s3 hx G hG μ5 e5
        rw [hI.2.1, nI_add] at e5
        have k0 : ¬ (tk j).1 = 0 := fun z => by rw [z, show an_oS 0 = none from rfl] at hs; cases hs
        have g1 := an_adv (sg := sg) ht hI k0 e5
        refine c_product (sg := sg) ht (d - 1) (j + 1) c μ5 _ (by omega) g1.2.1 (fun r μ6 p6 => ?_)
        rw [hs] at hF
        cases hP : an_pprod sg tk (j + 1) with
        | inr e =>
          rw [hP] at p6 hF
          have hr := p6.1
          subst hr
          rw [if_neg (fun z => z nI_0)]
          exact hF _ μ6 (an_cp_g (s := []) g1 p6)
        | inl p =>
          rw [hP] at p6 hF
          obtain ⟨hr, c1, g6⟩ := p6
          subst hr
          rw [if_pos (by decide)]
          refine c_op (e := (s, 0)) g1 g6 (fun r0 hr => Or.inr (Or.inr (Or.inr ⟨s1, s2, s3, by rw [hr, hx], rfl⟩))) hI.2.2.2.2.2 (fun μ7 g7 => hG μ7 ?_)
          rw [nI_add]
          have adv := (an_pty_prod (sg := sg) ht.1 (j + 1) p.1 p.2 [] (by rw [hP]) (by simp)).2
          refine ih d p.2 (c1 + 1) (n + 1) μ7 F hd g7.2.1 (by omega) (by omega) (fun r μ' p' => hF r μ' ?_)
          have := an_cp_g g7 p'
          show an_cp sg tk N μ j c (an_th (.inl (p.1, p.2)) (fun j1 => an_th (an_ly (s, 0) j1) (an_pse tk (an_pprod sg tk) an_oS f))) r μ'
          rw [an_th_pre]
          show an_cp sg tk N μ j c (an_pre p.1 (an_th (.inl ([(s, 0)], p.2)) (an_pse tk (an_pprod sg tk) an_oS f))) r μ'
          rw [an_th_pre, an_pre_pre]
          exact this
      by_cases q43 : (tk j).1 = 43
      · rw [q43, if_pos rfl]
        refine ⟨by omega, c_kind hI ?_⟩
        rw [q43]
        intro μ5 e5
        refine ⟨by omega, ?_⟩
        have := go (- nI 10) 12 (by rw [q43]; rfl) (by decide) (by decide) (by decide) rfl (G := fun μ9 => am_Ji L d 46 11 [some (.ref 3), some (.int (nI n + nI 1)), none] [] μ9 F) (fun _ h => h) μ5 e5
        refine this.mono (fun y μ6 h => ?_)
        by_cases z : y = 0
        · rw [if_neg (fun w => w z)] at h ⊢; exact h
        · rw [if_pos z] at h ⊢
          rw [if_neg (fun w => w rfl)]
          exact ⟨by omega, h⟩
      · rw [if_neg (fun z => q43 ((an_ck lt (by omega)).mp z))]
        refine ⟨by omega, c_kind hI ?_⟩
        by_cases q45 : (tk j).1 = 45
        · rw [q45, if_neg (fun z => z rfl)]
          refine ⟨by omega, c_kind hI ?_⟩
          rw [q45]
          intro μ5 e5
          refine ⟨by omega, ?_⟩
          have := go (- nI 11) 13 (by rw [q45]; rfl) (by decide) (by decide) (by decide) rfl (G := fun μ9 => am_Ji L d 46 11 [some (.ref 3), some (.int (nI n + nI 1)), none] [] μ9 F) (fun _ h => h) μ5 e5
          refine this.mono (fun y μ6 h => ?_)
          by_cases z : y = 0
          · rw [if_neg (fun w => w z)] at h ⊢; exact h
          · rw [if_pos z] at h ⊢
            rw [if_pos (by decide)]
            exact ⟨by omega, h⟩
        · rw [if_pos (fun z => q45 ((an_ck lt (by omega)).mp z))]
          have e0 : an_oS (tk j).1 = none := by unfold an_oS; rw [if_neg q43, if_neg q45]
          rw [e0] at hF
          exact hF _ μ (an_cp_1 (an_cg_rf hI))
  intro d j c μ F hd hI hF
  refine v_Reader_sum ?_
  refine ⟨by omega, c_product (sg := sg) ht (d - 1) j c μ _ (by omega) hI (fun r μ1 p1 => ?_)⟩
  unfold an_psum an_sep at hF
  cases hP : an_pprod sg tk j with
  | inr e =>
    rw [hP] at p1 hF
    have hr := p1.1
    subst hr
    rw [if_neg (fun z => z nI_0)]
    exact hF _ μ1 p1
  | inl p =>
    rw [hP] at p1 hF
    obtain ⟨hr, c1, g1⟩ := p1
    subst hr
    rw [if_pos (by decide)]
    refine loop 401 d p.2 c1 0 μ1 F hd g1.2.1 (by omega) (by omega) (fun r μ' p' => hF r μ' ?_)
    have := an_cp_g g1 p'
    show an_cp sg tk N μ j c (an_th (.inl (p.1, p.2)) _) r μ'
    rw [an_th_pre]
    exact this
theorem c_both {L N p dd : Nat} {sg : Bool} {tk : Nat → an_tke} {P : Nat → an_PR} (ht : an_tko2 tk N) (hd0 : 1 ≤ dd) (hP0 : ∀ j s j', P j = .inl (s, j') → j + s.length ≤ j') (hc : an_cok sg tk N dd P (fun d μ F => am_Ci L d 45 [.ref 3, .int (nI p)] μ F)) : an_cok sg tk N (dd + 1) (an_sep tk P an_oA) (fun d μ F => am_Ci L d 44 [.ref 3, .int (nI p)] μ F) := by
  have loop : ∀ (f d j c n : Nat) (μ : am_M) (F : Int32 → am_M → Prop), dd + 1 ≤ d → an_cI tk N μ j c → n ≤ j → 401 ≤ f + j → (∀ r μ', an_cp sg tk N μ j c (an_pse tk P an_oA f j) r μ' → F r μ') → am_Ji L d 44 12 [some (.ref 3), some (.int (nI p)), some (.int (nI n))] [] μ F := by
    intro f
    induction f with
    | zero =>
      intro d j c n μ F hd hI hn hf hF
      have := hI.2.2.1
      have := hI.2.2.2.1
      omega
    | succ f ih =>
      intro d j c n μ F hd hI hn hf hF
      have lt := an_tk_lt ht j
      rw [an_pse] at hF
      refine v_Reader_both_12 ?_
      by_cases h400 : 400 ≤ n
      · rw [if_pos (nI_le h400 (by have := hI.2.2.1; have := hI.2.2.2.1; omega))]
        have e0 : (tk j).1 = 0 := ht.2 j (by have := hI.2.2.1; have := hI.2.2.2.1; omega)
        rw [e0] at hF
        exact hF _ μ (an_cp_1 (an_cg_rf hI))
      rw [if_neg (nI_ge (by omega) (by omega))]
      refine ⟨by omega, c_kind hI ?_⟩
      by_cases q : (tk j).1 = 105
      · rw [q, if_neg (fun z => z rfl), hI.2.1, nI_add]
        have eo : an_oA (tk j).1 = some (20, 0) := by rw [q]; rfl
        rw [eo] at hF
        intro μ3 e3
        have g1 := an_adv (sg := sg) ht hI (by omega) e3
        refine ⟨by omega, hc (d - 1) (j + 1) c μ3 _ (by omega) g1.2.1 (fun r μ4 p4 => ?_)⟩
        cases hP : P (j + 1) with
        | inr e =>
          rw [hP] at p4 hF
          have hr := p4.1
          subst hr
          rw [if_neg (fun z => z nI_0)]
          exact hF _ μ4 (an_cp_g (s := []) g1 p4)
        | inl pp =>
          rw [hP] at p4 hF
          obtain ⟨hr, c1, g4⟩ := p4
          subst hr
          rw [if_pos (by decide)]
          refine ⟨by omega, c_op (e := (20, 0)) g1 g4 (fun r0 hr => Or.inr (Or.inr (Or.inr ⟨by decide, by decide, by decide, hr, rfl⟩))) hI.2.2.2.2.2 (fun μ6 g6 => ?_)⟩
          rw [nI_add]
          have adv := hP0 _ _ _ (show P (j + 1) = .inl (pp.1, pp.2) by rw [hP])
          refine ih d pp.2 (c1 + 1) (n + 1) μ6 F hd g6.2.1 (by omega) (by omega) (fun r μ' p' => hF r μ' ?_)
          have := an_cp_g g6 p'
          show an_cp sg tk N μ j c (an_th (.inl (pp.1, pp.2)) (fun j1 => an_th (an_ly (20, 0) j1) (an_pse tk P an_oA f))) r μ'
          rw [an_th_pre]
          show an_cp sg tk N μ j c (an_pre pp.1 (an_th (.inl ([(20, 0)], pp.2)) (an_pse tk P an_oA f))) r μ'
          rw [an_th_pre, an_pre_pre]
          exact this
      · rw [if_pos (fun z => q ((an_ck lt (by omega)).mp z))]
        have e0 : an_oA (tk j).1 = none := by unfold an_oA; rw [if_neg q]
        rw [e0] at hF
        exact hF _ μ (an_cp_1 (an_cg_rf hI))
  intro d j c μ F hd hI hF
  refine v_Reader_both ?_
  refine ⟨by omega, hc (d - 1) j c μ _ (by omega) hI (fun r μ1 p1 => ?_)⟩
  unfold an_sep at hF
  cases hP : P j with
  | inr e =>
    rw [hP] at p1 hF
    have hr := p1.1
    subst hr
    rw [if_neg (fun z => z nI_0)]
    exact hF _ μ1 p1
  | inl pp =>
    rw [hP] at p1 hF
    obtain ⟨hr, c1, g1⟩ := p1
    subst hr
    rw [if_pos (by decide)]
    refine loop 401 d pp.2 c1 0 μ1 F hd g1.2.1 (by omega) (by omega) (fun r μ' p' => hF r μ' ?_)
    have := an_cp_g g1 p'
    show an_cp sg tk N μ j c (an_th (.inl (pp.1, pp.2)) _) r μ'
    rw [an_th_pre]
    exact this
theorem c_either {L N p dd : Nat} {sg : Bool} {tk : Nat → an_tke} {P : Nat → an_PR} (ht : an_tko2 tk N) (hd0 : 1 ≤ dd) (hP0 : ∀ j s j', P j = .inl (s, j') → j + s.length ≤ j') (hc : an_cok sg tk N dd P (fun d μ F => am_Ci L d 44 [.ref 3, .int (nI p)] μ F)) : an_cok sg tk N (dd + 1) (an_sep tk P an_oO) (fun d μ F => am_Ci L d 43 [.ref 3, .int (nI p)] μ F) := by
  have loop : ∀ (f d j c n : Nat) (μ : am_M) (F : Int32 → am_M → Prop), dd + 1 ≤ d → an_cI tk N μ j c → n ≤ j → 401 ≤ f + j → (∀ r μ', an_cp sg tk N μ j c (an_pse tk P an_oO f j) r μ' → F r μ') → am_Ji L d 43 12 [some (.ref 3), some (.int (nI p)), some (.int (nI n))] [] μ F := by
    intro f
    induction f with
    | zero =>
      intro d j c n μ F hd hI hn hf hF
      have := hI.2.2.1
      have := hI.2.2.2.1
      omega
    | succ f ih =>
      intro d j c n μ F hd hI hn hf hF
      have lt := an_tk_lt ht j
      rw [an_pse] at hF
      refine v_Reader_either_12 ?_
      by_cases h400 : 400 ≤ n
      · rw [if_pos (nI_le h400 (by have := hI.2.2.1; have := hI.2.2.2.1; omega))]
        have e0 : (tk j).1 = 0 := ht.2 j (by have := hI.2.2.1; have := hI.2.2.2.1; omega)
        rw [e0] at hF
        exact hF _ μ (an_cp_1 (an_cg_rf hI))
      rw [if_neg (nI_ge (by omega) (by omega))]
      refine ⟨by omega, c_kind hI ?_⟩
      by_cases q : (tk j).1 = 104
      · rw [q, if_neg (fun z => z rfl), hI.2.1, nI_add]
        have eo : an_oO (tk j).1 = some (21, 0) := by rw [q]; rfl
        rw [eo] at hF
        intro μ3 e3
        have g1 := an_adv (sg := sg) ht hI (by omega) e3
        refine ⟨by omega, hc (d - 1) (j + 1) c μ3 _ (by omega) g1.2.1 (fun r μ4 p4 => ?_)⟩
        cases hP : P (j + 1) with
        | inr e =>
          rw [hP] at p4 hF
          have hr := p4.1
          subst hr
          rw [if_neg (fun z => z nI_0)]
          exact hF _ μ4 (an_cp_g (s := []) g1 p4)
        | inl pp =>
          rw [hP] at p4 hF
          obtain ⟨hr, c1, g4⟩ := p4
          subst hr
          rw [if_pos (by decide)]
          refine ⟨by omega, c_op (e := (21, 0)) g1 g4 (fun r0 hr => Or.inr (Or.inr (Or.inr ⟨by decide, by decide, by decide, hr, rfl⟩))) hI.2.2.2.2.2 (fun μ6 g6 => ?_)⟩
          rw [nI_add]
          have adv := hP0 _ _ _ (show P (j + 1) = .inl (pp.1, pp.2) by rw [hP])
          refine ih d pp.2 (c1 + 1) (n + 1) μ6 F hd g6.2.1 (by omega) (by omega) (fun r μ' p' => hF r μ' ?_)
          have := an_cp_g g6 p'
          show an_cp sg tk N μ j c (an_th (.inl (pp.1, pp.2)) (fun j1 => an_th (an_ly (21, 0) j1) (an_pse tk P an_oO f))) r μ'
          rw [an_th_pre]
          show an_cp sg tk N μ j c (an_pre pp.1 (an_th (.inl ([(21, 0)], pp.2)) (an_pse tk P an_oO f))) r μ'
          rw [an_th_pre, an_pre_pre]
          exact this
      · rw [if_pos (fun z => q ((an_ck lt (by omega)).mp z))]
        have e0 : an_oO (tk j).1 = none := by unfold an_oO; rw [if_neg q]
        rw [e0] at hF
        exact hF _ μ (an_cp_1 (an_cg_rf hI))
  intro d j c μ F hd hI hF
  refine v_Reader_either ?_
  refine ⟨by omega, hc (d - 1) j c μ _ (by omega) hI (fun r μ1 p1 => ?_)⟩
  unfold an_sep at hF
  cases hP : P j with
  | inr e =>
    rw [hP] at p1 hF
    have hr := p1.1
    subst hr
    rw [if_neg (fun z => z nI_0)]
    exact hF _ μ1 p1
  | inl pp =>
    rw [hP] at p1 hF
    obtain ⟨hr, c1, g1⟩ := p1
    subst hr
    rw [if_pos (by decide)]
    refine loop 401 d pp.2 c1 0 μ1 F hd g1.2.1 (by omega) (by omega) (fun r μ' p' => hF r μ' ?_)
    have := an_cp_g g1 p'
    show an_cp sg tk N μ j c (an_th (.inl (pp.1, pp.2)) _) r μ'
    rw [an_th_pre]
    exact this
/-- a comparison, where nothing is opened -/
theorem c_cnd {L N : Nat} {sg : Bool} {tk : Nat → an_tke} (ht : an_tko2 tk N) {d j c p : Nat} {μ : am_M} {F : Int32 → am_M → Prop} {x1 : Int32} (hd : 6 ≤ d) (hI : an_cI tk N μ j c) (h106 : ¬ (tk j).1 = 106) (h40 : ¬ (tk j).1 = 40) (hF : ∀ r μ', an_cp sg tk N μ j c (an_pcnd sg tk j) r μ' → F r μ') : am_Ji L d 45 39 [some (.ref 3), some (.int x1), some (.int (nI (tk j).1)), none, none] [] μ F := by
  have lt := an_tk_lt ht j
  refine v_Reader_single_39 ?_
  rw [if_pos (fun z => h106 ((an_ck lt (by omega)).mp z)), if_pos (fun z => h40 ((an_ck lt (by omega)).mp z))]
  refine ⟨by omega, c_sum (sg := sg) ht (d - 1) j c μ _ (by omega) hI (fun r μ1 p1 => ?_)⟩
  unfold an_pcnd at hF
  cases hP : an_psum sg tk j with
  | inr e =>
    rw [hP] at p1 hF
    have hr := p1.1
    subst hr
    rw [if_neg (fun z => z nI_0)]
    exact hF _ μ1 p1
  | inl pp =>
    rw [hP] at p1 hF
    obtain ⟨hr, c1, g1⟩ := p1
    subst hr
    rw [if_pos (by decide)]
    have hF : ∀ r μ', an_cp sg tk N μ j c (an_pre pp.1 (match an_oC (tk pp.2).1 with | none => .inr (1, pp.2) | some e => an_th (an_psum sg tk (pp.2 + 1)) (an_ly e))) r μ' → F r μ' := fun r μ' h => hF r μ' (by
      show an_cp sg tk N μ j c (an_th (.inl (pp.1, pp.2)) _) r μ'
      rw [an_th_pre]
      exact h)
    have I1 := g1.2.1
    have lt1 := an_tk_lt ht pp.2
    refine ⟨by omega, c_kind I1 ?_⟩
    have go : ∀ s, (s = 16 ∧ (tk pp.2).1 = 60 ∨ s = 17 ∧ (tk pp.2).1 = 61 ∨ s = 18 ∧ (tk pp.2).1 = 62) → am_Ji L d 45 175 [some (.ref 3), none, none, none, some (.int (nI (tk pp.2).1))] [] μ1 F := by
      intro s hs
      have eo : an_oC (tk pp.2).1 = some (s, 0) := by
        rcases hs with ⟨rfl, e⟩ | ⟨rfl, e⟩ | ⟨rfl, e⟩
        · rw [e]; rfl
        · rw [e]; rfl
        · rw [e]; rfl
      rw [eo] at hF
      refine v_Reader_single_175 ?_
      rw [I1.2.1, nI_add]
      intro μ2 e2
      have g2 := an_adv (sg := sg) ht I1 (by omega) e2
      refine ⟨by omega, c_sum (sg := sg) ht (d - 1) (pp.2 + 1) c1 μ2 _ (by omega) g2.2.1 (fun r μ3 p3 => ?_)⟩
      dsimp only at hF
      cases hQ : an_psum sg tk (pp.2 + 1) with
      | inr e =>
        rw [hQ] at p3 hF
        have hr := p3.1
        subst hr
        rw [if_neg (fun z => z nI_0)]
        exact hF _ μ3 (an_cp_g g1 (an_cp_g (s := []) g2 p3))
      | inl qq =>
        rw [hQ] at p3 hF
        obtain ⟨hr, c3, g3⟩ := p3
        subst hr
        rw [if_pos (by decide)]
        have fin : ∀ (x : Int32), x = - nI (s - 2) → am_Cv L (d - 1) 62 [.ref 4, .int x] μ3 (fun μ4 => F (nI 1) μ4) := by
          intro x hx
          refine c_op (e := (s, 0)) g2 g3 (fun r0 hr => Or.inr (Or.inr (Or.inr ⟨by show 12 ≤ s; omega, by show ¬ s = 15; omega, by show s ≤ 21; omega, by rw [hr, hx], rfl⟩))) I1.2.2.2.2.2 (fun μ4 g4 => hF _ μ4 ?_)
          show an_cp sg tk N μ j c (an_pre pp.1 (.inl (qq.1 ++ [(s, 0)], qq.2))) (nI 1) μ4
          exact an_cp_g g1 (an_cp_1 g4)
        rcases hs with ⟨rfl, e⟩ | ⟨rfl, e⟩ | ⟨rfl, e⟩
        · rw [e, if_neg (fun z => z rfl)]
          exact ⟨by omega, fin _ rfl⟩
        · rw [e, if_pos (by decide), if_neg (fun z => z rfl)]
          exact ⟨by omega, fin _ rfl⟩
        · rw [e, if_pos (by decide), if_pos (by decide)]
          exact ⟨by omega, fin _ rfl⟩
    by_cases k60 : (tk pp.2).1 = 60
    · rw [if_pos (by rw [k60])]
      exact go 16 (by omega)
    rw [if_neg (fun z => k60 ((an_ck lt1 (by omega)).mp z))]
    by_cases k61 : (tk pp.2).1 = 61
    · rw [if_pos (by rw [k61])]
      exact go 17 (by omega)
    rw [if_neg (fun z => k61 ((an_ck lt1 (by omega)).mp z))]
    by_cases k62 : (tk pp.2).1 = 62
    · rw [if_pos (by rw [k62])]
      exact go 18 (by omega)
    rw [if_neg (fun z => k62 ((an_ck lt1 (by omega)).mp z))]
    have eo : an_oC (tk pp.2).1 = none := by unfold an_oC; rw [if_neg k60, if_neg k61, if_neg k62]
    rw [eo] at hF
    exact ⟨by omega, c_fail (sg := sg) I1 (fun μ2 p2 => hF _ μ2 (an_cp_g g1 p2))⟩
theorem an_len_one {sg : Bool} {tk : Nat → an_tke} (hk : ∀ j, an_tko (tk j)) {r : Nat} (hr : r ≤ 8) : ∀ j s j', an_pone sg tk r j = .inl (s, j') → j + s.length ≤ j' := fun j s j' h => (an_pty_one hk r hr j s j' [] h (by simp)).2
theorem an_len_and {sg : Bool} {tk : Nat → an_tke} (hk : ∀ j, an_tko (tk j)) {r : Nat} (hr : r ≤ 8) : ∀ j s j', an_sep tk (an_pone sg tk r) an_oA j = .inl (s, j') → j + s.length ≤ j' := fun j s j' h => (an_pty_sep (h := 0) (an_pty_mo (an_pty_one hk r hr) (by omega)) (fun k e t ho ht => by
    unfold an_oA at ho
    split at ho
    · cases ho; exact Or.inr (Or.inr (Or.inr (Or.inr (Or.inr (Or.inr ⟨t, Or.inl rfl, rfl, rfl, by omega⟩)))))
    · cases ho) j s j' [] h (by simp)).2
theorem c_one {L N : Nat} {sg : Bool} {tk : Nat → an_tke} (ht : an_tko2 tk N) : ∀ (r p : Nat), p + r = 8 → an_cok sg tk N (6 + 3 * r) (an_pone sg tk r) (fun d μ F => am_Ci L d 45 [.ref 3, .int (nI p)] μ F) := by
  intro r
  induction r with
  | zero =>
    intro p hp d j c μ F hd hI hF
    have lt := an_tk_lt ht j
    rw [an_pone] at hF
    refine v_Reader_single ?_
    refine ⟨by omega, c_kind hI ?_⟩
    have op : (∀ μ', an_cp sg tk N μ j c (.inr (3, j)) (nI 0) μ' → F (nI 0) μ') → am_Ji L d 45 17 [some (.ref 3), some (.int (nI p)), some (.int (nI (tk j).1)), none, none] [] μ F := by
      intro h
      refine v_Reader_single_17 (v_Reader_single_23 ?_)
      rw [if_neg (by decide), if_neg (nI_nlt (by omega) (by omega))]
      exact ⟨by omega, c_fail (sg := sg) hI h⟩
    by_cases k1 : (tk j).1 = 106
    · rw [if_pos (by rw [k1])]
      rw [if_pos k1] at hF
      exact op (fun μ' h => hF _ μ' h)
    rw [if_neg (fun z => k1 ((an_ck lt (by omega)).mp z))]
    rw [if_neg k1] at hF
    by_cases k2 : (tk j).1 = 40
    · rw [if_neg (fun z => z (by rw [k2]))]
      rw [if_pos k2] at hF
      exact op (fun μ' h => hF _ μ' h)
    rw [if_pos (fun z => k2 ((an_ck lt (by omega)).mp z))]
    rw [if_neg k2] at hF
    refine v_Reader_single_23 ?_
    rw [if_pos nI_0]
    exact c_cnd (p := p) ht (by omega) hI k1 k2 hF
  | succ r ih =>
    intro p hp d j c μ F hd hI hF
    have ih := ih (p + 1) (by omega)
    have lt := an_tk_lt ht j
    rw [an_pone] at hF
    refine v_Reader_single ?_
    refine ⟨by omega, c_kind hI ?_⟩
    have op : am_Ji L d 45 39 [some (.ref 3), some (.int (nI p)), some (.int (nI (tk j).1)), none, none] [] μ F → am_Ji L d 45 17 [some (.ref 3), some (.int (nI p)), some (.int (nI (tk j).1)), none, none] [] μ F := by
      intro h
      refine v_Reader_single_17 (v_Reader_single_23 ?_)
      rw [if_neg (by decide), if_pos (nI_lt (by omega) (by omega))]
      exact h
    by_cases k1 : (tk j).1 = 106
    · rw [if_pos (by rw [k1])]
      rw [if_pos k1] at hF
      refine op (v_Reader_single_39 ?_)
      rw [if_neg (fun z => z (by rw [k1])), hI.2.1, nI_add, nI_add]
      intro μ1 e1
      have g1 := an_adv (sg := sg) ht hI (by omega) e1
      refine ⟨by omega, ih (d - 1) (j + 1) c μ1 _ (by omega) g1.2.1 (fun r' μ2 p2 => ?_)⟩
      cases hP : an_pone sg tk r (j + 1) with
      | inr e =>
        rw [hP] at p2 hF
        have hr := p2.1
        subst hr
        rw [if_neg (fun z => z nI_0)]
        exact hF _ μ2 (an_cp_g (s := []) g1 p2)
      | inl pp =>
        rw [hP] at p2 hF
        obtain ⟨hr, c2, g2⟩ := p2
        subst hr
        rw [if_pos (by decide)]
        refine ⟨by omega, c_op (e := (19, 0)) g1 g2 (fun r0 hr => Or.inr (Or.inr (Or.inr ⟨by decide, by decide, by decide, hr, rfl⟩))) hI.2.2.2.2.2 (fun μ3 g3 => hF _ μ3 ?_)⟩
        exact an_cp_1 g3
    rw [if_neg (fun z => k1 ((an_ck lt (by omega)).mp z))]
    rw [if_neg k1] at hF
    by_cases k2 : (tk j).1 = 40
    · rw [if_neg (fun z => z (by rw [k2]))]
      rw [if_pos k2] at hF
      refine op (v_Reader_single_39 ?_)
      rw [if_pos (fun z => k1 ((an_ck lt (by omega)).mp z)), if_neg (fun z => z (by rw [k2])), hI.2.1, nI_add, nI_add]
      intro μ1 e1
      have g1 := an_adv (sg := sg) ht hI (by omega) e1
      refine ⟨by omega, c_either ht (by omega) (an_len_and ht.1 (by omega)) (c_both ht (by omega) (an_len_one ht.1 (by omega)) ih) (d - 1) (j + 1) c μ1 _ (by omega) g1.2.1 (fun r' μ2 p2 => ?_)⟩
      cases hP : an_pany tk (an_pone sg tk r) (j + 1) with
      | inr e =>
        have p2 : an_cp sg tk N μ1 (j + 1) c (.inr e) r' μ2 := by rw [← hP]; exact p2
        rw [hP] at hF
        have hr := p2.1
        subst hr
        rw [if_neg (fun z => z nI_0)]
        exact hF _ μ2 (an_cp_g (s := []) g1 p2)
      | inl pp =>
        have p2 : an_cp sg tk N μ1 (j + 1) c (.inl pp) r' μ2 := by rw [← hP]; exact p2
        rw [hP] at hF
        obtain ⟨hr, c2, g2⟩ := p2
        subst hr
        rw [if_pos (by decide)]
        have hF : ∀ r μ', an_cp sg tk N μ j c (an_pre pp.1 (if (tk pp.2).1 = 41 then .inl ([], pp.2 + 1) else .inr (1, pp.2))) r μ' → F r μ' := fun r μ' h => hF r μ' (by
          show an_cp sg tk N μ j c (an_th (.inl (pp.1, pp.2)) _) r μ'
          rw [an_th_pre]
          exact h)
        have I2 := g2.2.1
        have lt2 := an_tk_lt ht pp.2
        have g12 := an_cg_tr g1 g2
        refine ⟨by omega, c_kind I2 ?_⟩
        by_cases k3 : (tk pp.2).1 = 41
        · rw [if_pos (by rw [k3]), I2.2.1, nI_add]
          rw [if_pos k3] at hF
          intro μ3 e3
          have g3 := an_adv (sg := sg) ht I2 (by omega) e3
          refine hF _ μ3 ?_
          exact an_cp_g g12 (an_cp_1 g3)
        · rw [if_neg (fun z => k3 ((an_ck lt2 (by omega)).mp z))]
          rw [if_neg k3] at hF
          exact ⟨by omega, c_fail (sg := sg) I2 (fun μ3 p3 => hF _ μ3 (an_cp_g g12 p3))⟩
    rw [if_pos (fun z => k2 ((an_ck lt (by omega)).mp z))]
    rw [if_neg k2] at hF
    refine v_Reader_single_23 ?_
    rw [if_pos nI_0]
    exact c_cnd (p := p) ht (by omega) hI k1 k2 hF
theorem c_when {L N : Nat} {sg : Bool} {tk : Nat → an_tke} (ht : an_tko2 tk N) : an_cok sg tk N 32 (an_pwh sg tk) (fun d μ F => am_Ci L d 43 [.ref 3, .int (nI 0)] μ F) :=
  c_either ht (by omega) (an_len_and ht.1 (by omega)) (c_both ht (by omega) (an_len_one ht.1 (by omega)) (c_one ht 8 0 (by omega)))
