/-! Texts: the model parses sums and conditions. -/
variable {nb : Nat}
theorem m_sum {L N dp : Nat} {sg : Bool} {B : Nat → Nat} {T : Nat} (ht : an_tkk sg B T N) : an_mok sg B T N 18 dp (an_psum sg (an_tk sg B T)) (fun d μ F => am_Ci L d 169 [.ref 140] μ F) := by
  have loop : ∀ (f d j n : Nat) (μ : am_M) (F : Int32 → am_M → Prop), 18 ≤ d → an_mI sg B T N μ j n → μ 140 20 = nI dp → 401 ≤ f + j → (∀ r μ', an_mp sg B T N μ j n (an_pse (an_tk sg B T) (an_pprod sg (an_tk sg B T)) an_oS f j) r μ' → F r μ') → am_Ji L d 169 9 [some (.ref 140), none] [] μ F := by
    intro f
    induction f with
    | zero =>
      intro d j n μ F hd hI hz hf hF
      have := hI.2.2.1
      have := hI.2.2.2.1
      omega
    | succ f ih =>
      intro d j n μ F hd hI hz hf hF
      have hv := an_mtv (sg := sg) (ht.1.1 j)
      have hl := an_mt_lt (sg := sg) (ht.1.1 j)
      have t1 := hI.2.1.1
      rw [an_pse] at hF
      refine v_M_sumUp_9 ?_
      rw [t1]
      generalize hM : an_mt sg (an_tk sg B T j).1 (an_tk sg B T j).2.1 = M at hv hl t1
      have go : ∀ s, an_oS (an_tk sg B T j).1 = some (s, 0) → 0 < d ∧ am_Cv L (d - 1) 164 [.ref 140] μ (fun μ1 => 0 < d ∧ am_Ci L (d - 1) 170 [.ref 140] μ1 (fun y3 μ2 => if ¬ y3 = 0 then 0 < d ∧ (am_gd (am_inb ((nI 2) * (μ2 140 11)) 820) (am_put (am_w μ2 145 (((nI 2) * (μ2 140 11)).toNatClampNeg) (nI s)) (fun μ4 => am_gd (am_inb (((nI 2) * (μ4 140 11)) + (nI 1)) 820) (am_put (am_w μ4 145 ((((nI 2) * (μ4 140 11)) + (nI 1)).toNatClampNeg) (nI 0)) (fun μ5 => am_put (am_w μ5 140 11 ((μ5 140 11) + (nI 1))) (fun μ6 => am_Ji L d 169 9 [some (.ref 140), none] [] μ6 F)))))) else F (nI 0) μ2)) := by
        intro s eo
        rw [eo] at hF
        have k0 : ¬ (an_tk sg B T j).1 = 0 := fun z => by rw [z, show an_oS 0 = none from rfl] at eo; cases eo
        refine ⟨by omega, m_next ht (by omega) hI k0 (fun μ1 g1 _ => ?_)⟩
        refine ⟨by omega, m_product ht (d - 1) (j + 1) n μ1 _ (by omega) g1.2.1 (by rw [g1.2.2.2.2.2]; exact hz) (fun r μ2 p2 => ?_)⟩
        cases hP : an_pprod sg (an_tk sg B T) (j + 1) with
        | inr e =>
          rw [hP] at p2 hF
          have hr := p2.1
          subst hr
          rw [if_neg (fun z => z nI_0)]
          exact hF _ μ2 (an_mp_g (s := []) g1 p2)
        | inl pp =>
          rw [hP] at p2 hF
          obtain ⟨hr, n1, g2⟩ := p2
          subst hr
          rw [if_pos (by decide)]
          refine ⟨by omega, m_op g1 g2 hI.2.2.2.2.2 (fun μ3 g3 => ?_)⟩
          have adv := (an_pty_prod (sg := sg) ht.1.1 (j + 1) pp.1 pp.2 [] (by rw [hP]) (by simp)).2
          refine ih d pp.2 (n1 + 1) μ3 F hd g3.2.1 (by rw [g3.2.2.2.2.2]; exact hz) (by omega) (fun r μ' p' => hF r μ' ?_)
          have := an_mp_g g3 p'
          show an_mp sg B T N μ j n (an_th (.inl (pp.1, pp.2)) (fun j1 => an_th (an_ly (s, 0) j1) (an_pse (an_tk sg B T) (an_pprod sg (an_tk sg B T)) an_oS f))) r μ'
          rw [an_th_pre]
          show an_mp sg B T N μ j n (an_pre pp.1 (an_th (.inl ([(s, 0)], pp.2)) (an_pse (an_tk sg B T) (an_pprod sg (an_tk sg B T)) an_oS f))) r μ'
          rw [an_th_pre, an_pre_pre]
          exact this
      by_cases q43 : M = 143
      · have k : (an_tk sg B T j).1 = 43 := by omega
        rw [if_pos (by rw [q43]), if_neg (fun z => z (by rw [q43]))]
        exact go 12 (by rw [k]; rfl)
      · rw [if_neg (fun z => q43 ((an_ck hl (by omega)).mp z))]
        by_cases q45 : M = 145
        · have k : (an_tk sg B T j).1 = 45 := by omega
          rw [if_neg (fun z => z (by rw [q45])), if_pos (fun z => q43 ((an_ck hl (by omega)).mp z))]
          exact go 13 (by rw [k]; rfl)
        · rw [if_pos (fun z => q45 ((an_ck hl (by omega)).mp z))]
          have e0 : an_oS (an_tk sg B T j).1 = none := by unfold an_oS; rw [if_neg (by omega), if_neg (by omega)]
          rw [e0] at hF
          exact hF _ μ (an_mp_1 (an_mg_rf hI))
  intro d j n μ F hd hI hz hF
  refine v_M_sumUp ?_
  refine ⟨by omega, m_product ht (d - 1) j n μ _ (by omega) hI hz (fun r μ1 p1 => ?_)⟩
  unfold an_psum an_sep at hF
  cases hP : an_pprod sg (an_tk sg B T) j with
  | inr e =>
    rw [hP] at p1 hF
    have hr := p1.1
    subst hr
    rw [if_neg (fun z => z nI_0)]
    exact hF _ μ1 p1
  | inl p =>
    rw [hP] at p1 hF
    obtain ⟨hr, n1, g1⟩ := p1
    subst hr
    rw [if_pos (by decide)]
    refine loop 401 d p.2 n1 μ1 F hd g1.2.1 (by rw [g1.2.2.2.2.2]; exact hz) (by omega) (fun r μ' p' => hF r μ' ?_)
    have := an_mp_g g1 p'
    show an_mp sg B T N μ j n (an_th (.inl (p.1, p.2)) _) r μ'
    rw [an_th_pre]
    exact this
theorem m_every {L N dd dp : Nat} {sg : Bool} {B : Nat → Nat} {T : Nat} {P : Nat → an_PR} (ht : an_tkk sg B T N) (hd0 : 14 ≤ dd) (hP0 : ∀ j s j', P j = .inl (s, j') → j + s.length ≤ j') (hc : an_mok sg B T N dd dp P (fun d μ F => am_Ci L d 174 [.ref 140] μ F)) : an_mok sg B T N (dd + 1) dp (an_sep (an_tk sg B T) P an_oA) (fun d μ F => am_Ci L d 173 [.ref 140] μ F) := by
  have loop : ∀ (f d j n : Nat) (μ : am_M) (F : Int32 → am_M → Prop), dd + 1 ≤ d → an_mI sg B T N μ j n → μ 140 20 = nI dp → 401 ≤ f + j → (∀ r μ', an_mp sg B T N μ j n (an_pse (an_tk sg B T) P an_oA f j) r μ' → F r μ') → am_Ji L d 173 9 [some (.ref 140)] [] μ F := by
    intro f
    induction f with
    | zero =>
      intro d j n μ F hd hI hz hf hF
      have := hI.2.2.1
      have := hI.2.2.2.1
      omega
    | succ f ih =>
      intro d j n μ F hd hI hz hf hF
      have hv := an_mtv (sg := sg) (ht.1.1 j)
      have hl := an_mt_lt (sg := sg) (ht.1.1 j)
      have t1 := hI.2.1.1
      rw [an_pse] at hF
      refine v_M_every_9 ?_
      rw [t1]
      generalize hM : an_mt sg (an_tk sg B T j).1 (an_tk sg B T j).2.1 = M at hv hl t1
      by_cases q : M = 5
      · have k : (an_tk sg B T j).1 = 105 := by omega
        have eo : an_oA (an_tk sg B T j).1 = some (20, 0) := by rw [k]; rfl
        rw [eo] at hF
        rw [if_neg (fun z => z (by rw [q]))]
        refine ⟨by omega, m_next ht (by omega) hI (by omega) (fun μ1 g1 _ => ?_)⟩
        refine ⟨by omega, hc (d - 1) (j + 1) n μ1 _ (by omega) g1.2.1 (by rw [g1.2.2.2.2.2]; exact hz) (fun r μ2 p2 => ?_)⟩
        cases hP : P (j + 1) with
        | inr e =>
          rw [hP] at p2 hF
          have hr := p2.1
          subst hr
          rw [if_neg (fun z => z nI_0)]
          exact hF _ μ2 (an_mp_g (s := []) g1 p2)
        | inl pp =>
          rw [hP] at p2 hF
          obtain ⟨hr, n1, g2⟩ := p2
          subst hr
          rw [if_pos (by decide)]
          refine ⟨by omega, m_op g1 g2 hI.2.2.2.2.2 (fun μ3 g3 => ?_)⟩
          have adv := hP0 _ _ _ (show P (j + 1) = .inl (pp.1, pp.2) by rw [hP])
          refine ih d pp.2 (n1 + 1) μ3 F hd g3.2.1 (by rw [g3.2.2.2.2.2]; exact hz) (by omega) (fun r μ' p' => hF r μ' ?_)
          have := an_mp_g g3 p'
          show an_mp sg B T N μ j n (an_th (.inl (pp.1, pp.2)) (fun j1 => an_th (an_ly (20, 0) j1) (an_pse (an_tk sg B T) P an_oA f))) r μ'
          rw [an_th_pre]
          show an_mp sg B T N μ j n (an_pre pp.1 (an_th (.inl ([(20, 0)], pp.2)) (an_pse (an_tk sg B T) P an_oA f))) r μ'
          rw [an_th_pre, an_pre_pre]
          exact this
      · rw [if_pos (fun z => q ((an_ck hl (by omega)).mp z))]
        have e0 : an_oA (an_tk sg B T j).1 = none := by unfold an_oA; rw [if_neg (by omega)]
        rw [e0] at hF
        exact hF _ μ (an_mp_1 (an_mg_rf hI))
  intro d j n μ F hd hI hz hF
  refine v_M_every ?_
  refine ⟨by omega, hc (d - 1) j n μ _ (by omega) hI hz (fun r μ1 p1 => ?_)⟩
  unfold an_sep at hF
  cases hP : P j with
  | inr e =>
    rw [hP] at p1 hF
    have hr := p1.1
    subst hr
    rw [if_neg (fun z => z nI_0)]
    exact hF _ μ1 p1
  | inl p =>
    rw [hP] at p1 hF
    obtain ⟨hr, n1, g1⟩ := p1
    subst hr
    rw [if_pos (by decide)]
    refine loop 401 d p.2 n1 μ1 F hd g1.2.1 (by rw [g1.2.2.2.2.2]; exact hz) (by omega) (fun r μ' p' => hF r μ' ?_)
    have := an_mp_g g1 p'
    show an_mp sg B T N μ j n (an_th (.inl (p.1, p.2)) _) r μ'
    rw [an_th_pre]
    exact this
theorem m_any {L N dd dp : Nat} {sg : Bool} {B : Nat → Nat} {T : Nat} {P : Nat → an_PR} (ht : an_tkk sg B T N) (hd0 : 14 ≤ dd) (hP0 : ∀ j s j', P j = .inl (s, j') → j + s.length ≤ j') (hc : an_mok sg B T N dd dp P (fun d μ F => am_Ci L d 173 [.ref 140] μ F)) : an_mok sg B T N (dd + 1) dp (an_sep (an_tk sg B T) P an_oO) (fun d μ F => am_Ci L d 172 [.ref 140] μ F) := by
  have loop : ∀ (f d j n : Nat) (μ : am_M) (F : Int32 → am_M → Prop), dd + 1 ≤ d → an_mI sg B T N μ j n → μ 140 20 = nI dp → 401 ≤ f + j → (∀ r μ', an_mp sg B T N μ j n (an_pse (an_tk sg B T) P an_oO f j) r μ' → F r μ') → am_Ji L d 172 9 [some (.ref 140)] [] μ F := by
    intro f
    induction f with
    | zero =>
      intro d j n μ F hd hI hz hf hF
      have := hI.2.2.1
      have := hI.2.2.2.1
      omega
    | succ f ih =>
      intro d j n μ F hd hI hz hf hF
      have hv := an_mtv (sg := sg) (ht.1.1 j)
      have hl := an_mt_lt (sg := sg) (ht.1.1 j)
      have t1 := hI.2.1.1
      rw [an_pse] at hF
      refine v_M_any_9 ?_
      rw [t1]
      generalize hM : an_mt sg (an_tk sg B T j).1 (an_tk sg B T j).2.1 = M at hv hl t1
      by_cases q : M = 4
      · have k : (an_tk sg B T j).1 = 104 := by omega
        have eo : an_oO (an_tk sg B T j).1 = some (21, 0) := by rw [k]; rfl
        rw [eo] at hF
        rw [if_neg (fun z => z (by rw [q]))]
        refine ⟨by omega, m_next ht (by omega) hI (by omega) (fun μ1 g1 _ => ?_)⟩
        refine ⟨by omega, hc (d - 1) (j + 1) n μ1 _ (by omega) g1.2.1 (by rw [g1.2.2.2.2.2]; exact hz) (fun r μ2 p2 => ?_)⟩
        cases hP : P (j + 1) with
        | inr e =>
          rw [hP] at p2 hF
          have hr := p2.1
          subst hr
          rw [if_neg (fun z => z nI_0)]
          exact hF _ μ2 (an_mp_g (s := []) g1 p2)
        | inl pp =>
          rw [hP] at p2 hF
          obtain ⟨hr, n1, g2⟩ := p2
          subst hr
          rw [if_pos (by decide)]
          refine ⟨by omega, m_op g1 g2 hI.2.2.2.2.2 (fun μ3 g3 => ?_)⟩
          have adv := hP0 _ _ _ (show P (j + 1) = .inl (pp.1, pp.2) by rw [hP])
          refine ih d pp.2 (n1 + 1) μ3 F hd g3.2.1 (by rw [g3.2.2.2.2.2]; exact hz) (by omega) (fun r μ' p' => hF r μ' ?_)
          have := an_mp_g g3 p'
          show an_mp sg B T N μ j n (an_th (.inl (pp.1, pp.2)) (fun j1 => an_th (an_ly (21, 0) j1) (an_pse (an_tk sg B T) P an_oO f))) r μ'
          rw [an_th_pre]
          show an_mp sg B T N μ j n (an_pre pp.1 (an_th (.inl ([(21, 0)], pp.2)) (an_pse (an_tk sg B T) P an_oO f))) r μ'
          rw [an_th_pre, an_pre_pre]
          exact this
      · rw [if_pos (fun z => q ((an_ck hl (by omega)).mp z))]
        have e0 : an_oO (an_tk sg B T j).1 = none := by unfold an_oO; rw [if_neg (by omega)]
        rw [e0] at hF
        exact hF _ μ (an_mp_1 (an_mg_rf hI))
  intro d j n μ F hd hI hz hF
  refine v_M_any ?_
  refine ⟨by omega, hc (d - 1) j n μ _ (by omega) hI hz (fun r μ1 p1 => ?_)⟩
  unfold an_sep at hF
  cases hP : P j with
  | inr e =>
    rw [hP] at p1 hF
    have hr := p1.1
    subst hr
    rw [if_neg (fun z => z nI_0)]
    exact hF _ μ1 p1
  | inl p =>
    rw [hP] at p1 hF
    obtain ⟨hr, n1, g1⟩ := p1
    subst hr
    rw [if_pos (by decide)]
    refine loop 401 d p.2 n1 μ1 F hd g1.2.1 (by rw [g1.2.2.2.2.2]; exact hz) (by omega) (fun r μ' p' => hF r μ' ?_)
    have := an_mp_g g1 p'
    show an_mp sg B T N μ j n (an_th (.inl (p.1, p.2)) _) r μ'
    rw [an_th_pre]
    exact this
theorem m_need {L d v k : Nat} {μ : am_M} {F : Int32 → am_M → Prop} {sg : Bool} {B : Nat → Nat} {T N j n : Nat} (ht : an_tkk sg B T N) (hd : 14 ≤ d) (hI : an_mI sg B T N μ j n) (hv : v < 1000) (hk : an_mt sg (an_tk sg B T j).1 (an_tk sg B T j).2.1 = v ↔ (an_tk sg B T j).1 = k) (h0 : ¬ k = 0) (hok : (an_tk sg B T j).1 = k → ∀ μ', an_mg sg B T N μ j n [] μ' (j + 1) n → μ' 145 = μ 145 → F (nI 1) μ') (hbad : ¬ (an_tk sg B T j).1 = k → ∀ μ', an_mp sg B T N μ j n (.inr (1, j)) (nI 0) μ' → F (nI 0) μ') : am_Ci L d 166 [.ref 140, .int (nI v)] μ F := by
  have hl := an_mt_lt (sg := sg) (ht.1.1 j)
  refine v_M_need ?_
  rw [hI.2.1.1]
  by_cases q : (an_tk sg B T j).1 = k
  · rw [if_pos (by rw [hk.mpr q])]
    exact ⟨by omega, m_next ht (by omega) hI (by omega) (fun μ1 g1 h1 => hok q μ1 g1 h1)⟩
  · rw [if_neg (fun z => q (hk.mp ((an_ck hl hv).mp z)))]
    exact ⟨by omega, m_bad (L := L) (d := d) hI (hbad q)⟩
theorem an_mI_20 {sg : Bool} {B : Nat → Nat} {T N : Nat} {μ μ' : am_M} {j n : Nat} {x : Int32} (h : an_mI sg B T N μ j n) (e : μ' = am_w μ 140 20 x) : an_mI sg B T N μ' j n := by
  obtain ⟨h1, ⟨t1, t2, t3, t4⟩, h3, h4, h5, h6⟩ := h
  exact ⟨an_me_c h1 (an_mf_w e (by omega)), ⟨by rw [an_w_o e (by decide)]; exact t1, by rw [an_w_o e (by decide)]; exact t2, by rw [an_w_o e (by decide)]; exact t3, fun z => by rw [an_w_o e (by decide)]; exact t4 z⟩, h3, h4, ⟨by rw [an_w_o e (by decide)]; exact h5.1, by rw [an_w_o e (by decide)]; exact h5.2⟩, h6⟩
theorem an_mg_20 {sg : Bool} {B : Nat → Nat} {T N : Nat} {μ μa μc μd : am_M} {j n j1 n1 : Nat} {x y : Int32} {s : List (Nat × Nat)} (ea : μa = am_w μ 140 20 x) (h : an_mg sg B T N μa j n s μc j1 n1) (ed : μd = am_w μc 140 20 y) (hy : y = μ 140 20) : an_mg sg B T N μ j n s μd j1 n1 := by
  obtain ⟨a1, a2, a3, a4, a5, a6⟩ := h
  exact ⟨an_mf_tr (an_mf_w ea (by omega)) (an_mf_tr a1 (an_mf_w ed (by omega))), an_mI_20 a2 ed, a3, by rw [an_w_c ed (by decide)]; exact a4, fun i hi => by rw [an_w_c ed (by decide), a5 i hi, an_w_c ea (by decide)], by rw [an_w_s ed]; exact hy⟩
theorem an_mp_20 {sg : Bool} {B : Nat → Nat} {T N : Nat} {μ μa μc : am_M} {j n : Nat} {x r : Int32} {e : Nat × Nat} (ea : μa = am_w μ 140 20 x) (h : an_mp sg B T N μa j n (.inr e) r μc) : an_mp sg B T N μ j n (.inr e) r μc := ⟨h.1, an_mf_tr (an_mf_w ea (by omega)) h.2.1, h.2.2⟩
/-- a comparison, where nothing is opened -/
theorem m_cnd {L N dp d j n : Nat} {sg : Bool} {B : Nat → Nat} {T : Nat} {μ : am_M} {F : Int32 → am_M → Prop} (ht : an_tkk sg B T N) (hd : 19 ≤ d) (hI : an_mI sg B T N μ j n) (hz : μ 140 20 = nI dp) (hF : ∀ r μ', an_mp sg B T N μ j n (an_pcnd sg (an_tk sg B T) j) r μ' → F r μ') :
    0 < d ∧ am_Ci L (d - 1) 169 [.ref 140] μ (fun y2 μ1 => if ¬ y2 = 0 then if ¬ (μ1 140 14) = (nI 160) then if ¬ (μ1 140 14) = (nI 161) then if ¬ (μ1 140 14) = (nI 162) then 0 < d ∧ (am_put (am_w μ1 140 17 (nI 1)) (fun μ3 => am_put (am_w μ3 140 18 (μ3 140 15)) (fun μ4 => F (nI 0) μ4))) else 0 < d ∧ am_Cv L (d - 1) 164 [.ref 140] μ1 (fun μ5 => 0 < d ∧ am_Ci L (d - 1) 169 [.ref 140] μ5 (fun y7 μ6 => if ¬ y7 = 0 then 0 < d ∧ (am_gd (am_inb ((nI 2) * (μ6 140 11)) 820) (am_put (am_w μ6 145 (((nI 2) * (μ6 140 11)).toNatClampNeg) (nI 18)) (fun μ8 => am_gd (am_inb (((nI 2) * (μ8 140 11)) + (nI 1)) 820) (am_put (am_w μ8 145 ((((nI 2) * (μ8 140 11)) + (nI 1)).toNatClampNeg) (nI 0)) (fun μ9 => am_put (am_w μ9 140 11 ((μ9 140 11) + (nI 1))) (fun μ10 => F (nI 1) μ10)))))) else F (nI 0) μ6)) else 0 < d ∧ am_Cv L (d - 1) 164 [.ref 140] μ1 (fun μ11 => 0 < d ∧ am_Ci L (d - 1) 169 [.ref 140] μ11 (fun y13 μ12 => if ¬ y13 = 0 then 0 < d ∧ (am_gd (am_inb ((nI 2) * (μ12 140 11)) 820) (am_put (am_w μ12 145 (((nI 2) * (μ12 140 11)).toNatClampNeg) (nI 17)) (fun μ14 => am_gd (am_inb (((nI 2) * (μ14 140 11)) + (nI 1)) 820) (am_put (am_w μ14 145 ((((nI 2) * (μ14 140 11)) + (nI 1)).toNatClampNeg) (nI 0)) (fun μ15 => am_put (am_w μ15 140 11 ((μ15 140 11) + (nI 1))) (fun μ16 => F (nI 1) μ16)))))) else F (nI 0) μ12)) else 0 < d ∧ am_Cv L (d - 1) 164 [.ref 140] μ1 (fun μ17 => 0 < d ∧ am_Ci L (d - 1) 169 [.ref 140] μ17 (fun y19 μ18 => if ¬ y19 = 0 then 0 < d ∧ (am_gd (am_inb ((nI 2) * (μ18 140 11)) 820) (am_put (am_w μ18 145 (((nI 2) * (μ18 140 11)).toNatClampNeg) (nI 16)) (fun μ20 => am_gd (am_inb (((nI 2) * (μ20 140 11)) + (nI 1)) 820) (am_put (am_w μ20 145 ((((nI 2) * (μ20 140 11)) + (nI 1)).toNatClampNeg) (nI 0)) (fun μ21 => am_put (am_w μ21 140 11 ((μ21 140 11) + (nI 1))) (fun μ22 => F (nI 1) μ22)))))) else F (nI 0) μ18)) else F (nI 0) μ1) := by
  refine ⟨by omega, m_sum ht (d - 1) j n μ _ (by omega) hI hz (fun r μ1 p1 => ?_)⟩
  unfold an_pcnd at hF
  cases hP : an_psum sg (an_tk sg B T) j with
  | inr e =>
    rw [hP] at p1 hF
    have hr := p1.1
    subst hr
    rw [if_neg (fun z => z nI_0)]
    exact hF _ μ1 p1
  | inl pp =>
    rw [hP] at p1 hF
    obtain ⟨hr, n1, g1⟩ := p1
    subst hr
    rw [if_pos (by decide)]
    have hF : ∀ r μ', an_mp sg B T N μ j n (an_pre pp.1 (match an_oC (an_tk sg B T pp.2).1 with | none => .inr (1, pp.2) | some e => an_th (an_psum sg (an_tk sg B T) (pp.2 + 1)) (an_ly e))) r μ' → F r μ' := fun r μ' h => hF r μ' (by
      show an_mp sg B T N μ j n (an_th (.inl (pp.1, pp.2)) _) r μ'
      rw [an_th_pre]
      exact h)
    have I1 := g1.2.1
    have hv := an_mtv (sg := sg) (ht.1.1 pp.2)
    have hl := an_mt_lt (sg := sg) (ht.1.1 pp.2)
    rw [I1.2.1.1]
    generalize hM : an_mt sg (an_tk sg B T pp.2).1 (an_tk sg B T pp.2).2.1 = M at hv hl
    have go : ∀ s, an_oC (an_tk sg B T pp.2).1 = some (s, 0) → 0 < d ∧ am_Cv L (d - 1) 164 [.ref 140] μ1 (fun μ5 => 0 < d ∧ am_Ci L (d - 1) 169 [.ref 140] μ5 (fun y7 μ6 => if ¬ y7 = 0 then 0 < d ∧ (am_gd (am_inb ((nI 2) * (μ6 140 11)) 820) (am_put (am_w μ6 145 (((nI 2) * (μ6 140 11)).toNatClampNeg) (nI s)) (fun μ8 => am_gd (am_inb (((nI 2) * (μ8 140 11)) + (nI 1)) 820) (am_put (am_w μ8 145 ((((nI 2) * (μ8 140 11)) + (nI 1)).toNatClampNeg) (nI 0)) (fun μ9 => am_put (am_w μ9 140 11 ((μ9 140 11) + (nI 1))) (fun μ10 => F (nI 1) μ10)))))) else F (nI 0) μ6)) := by
      intro s eo
      rw [eo] at hF
      have k0 : ¬ (an_tk sg B T pp.2).1 = 0 := fun z => by rw [z, show an_oC 0 = none from rfl] at eo; cases eo
      refine ⟨by omega, m_next ht (by omega) I1 k0 (fun μ2 g2 _ => ?_)⟩
      refine ⟨by omega, m_sum ht (d - 1) (pp.2 + 1) n1 μ2 _ (by omega) g2.2.1 (by rw [g2.2.2.2.2.2, g1.2.2.2.2.2]; exact hz) (fun r μ3 p3 => ?_)⟩
      dsimp only at hF
      cases hQ : an_psum sg (an_tk sg B T) (pp.2 + 1) with
      | inr e =>
        rw [hQ] at p3 hF
        have hr := p3.1
        subst hr
        rw [if_neg (fun z => z nI_0)]
        exact hF _ μ3 (an_mp_g g1 (an_mp_g (s := []) g2 p3))
      | inl qq =>
        rw [hQ] at p3 hF
        obtain ⟨hr, n3, g3⟩ := p3
        subst hr
        rw [if_pos (by decide)]
        refine ⟨by omega, m_op g2 g3 I1.2.2.2.2.2 (fun μ4 g4 => hF _ μ4 ?_)⟩
        show an_mp sg B T N μ j n (an_pre pp.1 (.inl (qq.1 ++ [(s, 0)], qq.2))) (nI 1) μ4
        exact an_mp_g g1 (an_mp_1 g4)
    by_cases q60 : M = 160
    · have k : (an_tk sg B T pp.2).1 = 60 := by omega
      rw [if_neg (fun z => z (by rw [q60]))]
      exact go 16 (by rw [k]; rfl)
    rw [if_pos (fun z => q60 ((an_ck hl (by omega)).mp z))]
    by_cases q61 : M = 161
    · have k : (an_tk sg B T pp.2).1 = 61 := by omega
      rw [if_neg (fun z => z (by rw [q61]))]
      exact go 17 (by rw [k]; rfl)
    rw [if_pos (fun z => q61 ((an_ck hl (by omega)).mp z))]
    by_cases q62 : M = 162
    · have k : (an_tk sg B T pp.2).1 = 62 := by omega
      rw [if_neg (fun z => z (by rw [q62]))]
      exact go 18 (by rw [k]; rfl)
    rw [if_pos (fun z => q62 ((an_ck hl (by omega)).mp z))]
    have eo : an_oC (an_tk sg B T pp.2).1 = none := by unfold an_oC; rw [if_neg (by omega), if_neg (by omega), if_neg (by omega)]
    rw [eo] at hF
    exact ⟨by omega, m_bad (L := L) (d := d) I1 (fun μ2 p2 => hF _ μ2 (an_mp_g g1 p2))⟩
theorem m_one {L N : Nat} {sg : Bool} {B : Nat → Nat} {T : Nat} (ht : an_tkk sg B T N) : ∀ (r dp : Nat), dp + r = 8 → an_mok sg B T N (19 + 3 * r) dp (an_pone sg (an_tk sg B T) r) (fun d μ F => am_Ci L d 174 [.ref 140] μ F) := by
  intro r
  induction r with
  | zero =>
    intro dp hp d j n μ F hd hI hz hF
    have hv := an_mtv (sg := sg) (ht.1.1 j)
    have hl := an_mt_lt (sg := sg) (ht.1.1 j)
    have hz8 : μ 140 20 = nI 8 := by rw [hz, show dp = 8 by omega]
    rw [an_pone] at hF
    refine v_M_one ?_
    rw [hI.2.1.1]
    generalize hM : an_mt sg (an_tk sg B T j).1 (an_tk sg B T j).2.1 = M at hv hl
    by_cases q6 : M = 6
    · have k : (an_tk sg B T j).1 = 106 := by omega
      rw [if_pos k] at hF
      rw [if_neg (fun z => z (by rw [q6])), hz8, if_neg (fun z => z rfl)]
      exact ⟨by omega, by omega, m_bad (L := L) (d := d) hI (fun μ' p => hF _ μ' p)⟩
    rw [if_pos (fun z => q6 ((an_ck hl (by omega)).mp z))]
    rw [if_neg (by omega)] at hF
    by_cases q40 : M = 140
    · have k : (an_tk sg B T j).1 = 40 := by omega
      rw [if_pos k] at hF
      rw [if_neg (fun z => z (by rw [q40])), hz8, if_neg (fun z => z rfl)]
      exact ⟨by omega, by omega, m_bad (L := L) (d := d) hI (fun μ' p => hF _ μ' p)⟩
    rw [if_pos (fun z => q40 ((an_ck hl (by omega)).mp z))]
    rw [if_neg (by omega)] at hF
    exact m_cnd ht (by omega) hI hz hF
  | succ r ih =>
    intro dp hp d j n μ F hd hI hz hF
    have ih := ih (dp + 1) (by omega)
    have hv := an_mtv (sg := sg) (ht.1.1 j)
    have hl := an_mt_lt (sg := sg) (ht.1.1 j)
    rw [an_pone] at hF
    refine v_M_one ?_
    rw [hI.2.1.1]
    generalize hM : an_mt sg (an_tk sg B T j).1 (an_tk sg B T j).2.1 = M at hv hl
    by_cases q6 : M = 6
    · have k : (an_tk sg B T j).1 = 106 := by omega
      rw [if_pos k] at hF
      rw [if_neg (fun z => z (by rw [q6])), hz, if_pos (fun z => by have := (an_ck (by omega) (by omega)).mp z; omega), nI_add]
      refine ⟨by omega, ?_⟩
      intro μa ea
      have Ia := an_mI_20 hI ea
      refine ⟨by omega, m_next ht (by omega) Ia (by omega) (fun μ1 g1 _ => ?_)⟩
      refine ⟨by omega, ih (d - 1) (j + 1) n μ1 _ (by omega) g1.2.1 (by rw [g1.2.2.2.2.2, an_w_s ea]) (fun r' μ2 p2 => ?_)⟩
      cases hP : an_pone sg (an_tk sg B T) r (j + 1) with
      | inr e =>
        rw [hP] at p2 hF
        have hr := p2.1
        subst hr
        rw [if_neg (fun z => z nI_0)]
        exact hF _ μ2 (an_mp_20 ea (an_mp_g (s := []) g1 p2))
      | inl pp =>
        rw [hP] at p2 hF
        obtain ⟨hr, n2, g2⟩ := p2
        subst hr
        rw [if_pos (by decide), g2.2.2.2.2.2, g1.2.2.2.2.2, an_w_s ea, pk_sub (by omega)]
        intro μd ed
        have g1' : an_mg sg B T N μ j n [] μ1 (j + 1) n → True := fun _ => trivial
        refine ⟨by omega, ?_⟩
        have gd := an_mg_20 ea (an_mg_tr g1 g2) ed (by rw [hz, show dp + 1 - 1 = dp by omega])
        have ld := an_mg_le gd
        have Id := gd.2.1
        refine m_lay (by have := Id.2.2.1; have := Id.2.2.2.1; have := Id.2.2.2.2.2; omega) Id.2.2.2.2.1.1 (fun μ3 f3 v3 w3 r0 r1 r2 => hF _ μ3 ?_)
        obtain ⟨x1, x2, x3, x4, x5, x6⟩ := Id
        have nt : an_ntk sg (an_tk sg B T pp.2) μ3 := ⟨by rw [v3 14 (by decide)]; exact x2.1, by rw [v3 15 (by decide)]; exact x2.2.1, by rw [v3 13 (by decide)]; exact x2.2.2.1, fun z => by rw [v3 16 (by decide)]; exact x2.2.2.2 z⟩
        have hn2 : n2 + 1 ≤ pp.2 := by have := g2.2.2.1; have := hI.2.2.2.2.2; omega
        have g3 : an_mg sg B T N μ j n (([] ++ pp.1) ++ [(19, 0)]) μ3 pp.2 (n2 + 1) := ⟨an_mf_tr gd.1 f3, ⟨an_me_c x1 f3, nt, x3, x4, ⟨w3, by rw [v3 17 (by decide)]; exact x5.2⟩, hn2⟩, by have := g2.2.2.1; omega, an_sq_app _ _ _ _ _ (an_sqr_c gd.2.2.2.1 (fun i hi => r2 i (by omega) (by omega))) ⟨n2 + 1, ⟨r0, fun _ => r1, rfl⟩, rfl⟩, fun i hi => (r2 i (by omega) (by omega)).trans (gd.2.2.2.2.1 i hi), by rw [v3 20 (by decide)]; exact gd.2.2.2.2.2⟩
        exact an_mp_1 g3
    rw [if_pos (fun z => q6 ((an_ck hl (by omega)).mp z))]
    rw [if_neg (by omega)] at hF
    by_cases q40 : M = 140
    · have k : (an_tk sg B T j).1 = 40 := by omega
      rw [if_pos k] at hF
      rw [if_neg (fun z => z (by rw [q40])), hz, if_pos (fun z => by have := (an_ck (by omega) (by omega)).mp z; omega), nI_add]
      refine ⟨by omega, ?_⟩
      intro μa ea
      have Ia := an_mI_20 hI ea
      refine ⟨by omega, m_next ht (by omega) Ia (by omega) (fun μ1 g1 _ => ?_)⟩
      refine ⟨by omega, m_any ht (by omega) (an_len_and ht.1.1 (by omega)) (m_every ht (by omega) (an_len_one ht.1.1 (by omega)) ih) (d - 1) (j + 1) n μ1 _ (by omega) g1.2.1 (by rw [g1.2.2.2.2.2, an_w_s ea]) (fun r' μ2 p2 => ?_)⟩
      cases hP : an_pany (an_tk sg B T) (an_pone sg (an_tk sg B T) r) (j + 1) with
      | inr e =>
        have p2 : an_mp sg B T N μ1 (j + 1) n (.inr e) r' μ2 := by rw [← hP]; exact p2
        rw [hP] at hF
        have hr := p2.1
        subst hr
        rw [if_pos nI_0]
        exact hF _ μ2 (an_mp_20 ea (an_mp_g (s := []) g1 p2))
      | inl pp =>
        have p2 : an_mp sg B T N μ1 (j + 1) n (.inl pp) r' μ2 := by rw [← hP]; exact p2
        rw [hP] at hF
        obtain ⟨hr, n2, g2⟩ := p2
        subst hr
        rw [if_neg (by decide)]
        have hF : ∀ r μ', an_mp sg B T N μ j n (an_pre pp.1 (if (an_tk sg B T pp.2).1 = 41 then .inl ([], pp.2 + 1) else .inr (1, pp.2))) r μ' → F r μ' := fun r μ' h => hF r μ' (by
          show an_mp sg B T N μ j n (an_th (.inl (pp.1, pp.2)) _) r μ'
          rw [an_th_pre]
          exact h)
        have g12 := an_mg_tr g1 g2
        have I2 := g2.2.1
        have hv2 := an_mtv (sg := sg) (ht.1.1 pp.2)
        refine ⟨by omega, m_need (v := 141) (k := 41) ht (by omega) I2 (by omega) (by omega) (by omega) (fun k3 μ3 g3 _ => ?_) (fun k3 μ3 p3 => ?_)⟩
        · rw [if_pos k3] at hF
          rw [if_pos (by decide), g3.2.2.2.2.2, g2.2.2.2.2.2, g1.2.2.2.2.2, an_w_s ea, pk_sub (by omega)]
          intro μd ed
          have gd := an_mg_20 ea (an_mg_tr g12 g3) ed (by rw [hz, show dp + 1 - 1 = dp by omega])
          exact hF _ μd (an_mp_1 gd)
        · rw [if_neg k3] at hF
          rw [if_neg (fun z => z nI_0)]
          exact hF _ μ3 (an_mp_20 ea (an_mp_g g12 p3))
    rw [if_pos (fun z => q40 ((an_ck hl (by omega)).mp z))]
    rw [if_neg (by omega)] at hF
    exact m_cnd ht (by omega) hI hz hF
theorem m_when {L N : Nat} {sg : Bool} {B : Nat → Nat} {T : Nat} (ht : an_tkk sg B T N) : an_mok sg B T N 45 0 (an_pwh sg (an_tk sg B T)) (fun d μ F => am_Ci L d 172 [.ref 140] μ F) :=
  m_any ht (by omega) (an_len_and ht.1.1 (by omega)) (m_every ht (by omega) (an_len_one ht.1.1 (by omega)) (m_one ht 8 0 (by omega)))
