/-! Texts: the model reads a token. -/
variable {nb : Nat}
theorem an_sgn_e {b : Nat} : an_sgn b = true ↔ (b = 59 ∨ b = 43 ∨ b = 45 ∨ b = 42 ∨ b = 47 ∨ b = 40 ∨ b = 41 ∨ b = 60 ∨ b = 61 ∨ b = 62) := by
  constructor
  · intro h
    unfold an_sgn at h
    simp only [List.any_cons, List.any_nil, Bool.or_false, Bool.or_eq_true] at h
    rcases h with h | h | h | h | h | h | h | h | h | h
    all_goals
      have := Nat.eq_of_beq_eq_true h
      omega
  · intro h
    rcases h with rfl | rfl | rfl | rfl | rfl | rfl | rfl | rfl | rfl | rfl
    all_goals rfl
theorem an_mt_s {sg : Bool} {b : Nat} (h : an_sgn b = true) : an_mt sg b 0 = 100 + b := by
  have := an_sgn_i h
  unfold an_mt
  rw [if_neg (by omega), if_neg (by omega), if_neg (by omega), if_neg (by omega), if_pos (by omega)]
/-- which text is read -/
def an_wh (sg : Bool) (μ : am_M) : Prop := ∃ k, k < 5 ∧ μ 140 9 = nI k ∧ sg = decide (k = 4)
theorem w_see {L d k : Nat} {μ : am_M} {F : Int32 → am_M → Prop} {B : Nat → Nat} {T : Nat} (hB : an_tb 146 μ B T) (h12 : μ 140 12 = nI T) (hk : k < 100000) (hF : F (if k < T then nI (B k) else - nI 1) μ) : am_Ci L d 157 [.ref 140, .int (nI k)] μ F := by
  have hT := hB.1
  refine v_M_see ?_
  rw [h12]
  by_cases z : k < T
  · rw [if_pos z] at hF
    rw [if_neg (nI_ge z (by omega)), am_gd_in (by omega) (by omega), am_cl (by omega), (hB.2 k z).1]
    exact hF
  · rw [if_neg z] at hF
    rw [if_pos (nI_le (by omega) (by omega))]
    exact hF
theorem w_M_word {L d p q : Nat} {μ : am_M} {F : Int32 → am_M → Prop} {B : Nat → Nat} {T : Nat} {sg : Bool} (hd : 9 ≤ d) (hB : an_tb 146 μ B T) (hp : p ≤ q) (hq : q ≤ T) (h13 : μ 140 13 = nI q) (h15 : μ 140 15 = nI p) (h9 : an_wh sg μ) (hF : F (nI (an_wm0 sg (an_sl B p (q - p)))) μ) : am_Ci L d 163 [.ref 140] μ F := by
  obtain ⟨k, k5, k9, ks⟩ := h9
  unfold an_wm0 at hF
  refine v_M_word ?_
  refine ⟨by omega, w_isM_3 (by omega) hB hp hq h13 h15 ?_⟩
  rw [an_bf]
  by_cases e3 : an_sl B p (q - p) = an_wd 3
  · rw [decide_eq_true e3]
    rw [if_pos e3] at hF
    exact hF
  rw [decide_eq_false e3]
  dsimp only
  rw [if_neg e3] at hF
  refine ⟨by omega, w_isM_4 (by omega) hB hp hq h13 h15 ?_⟩
  rw [an_bf]
  by_cases e4 : an_sl B p (q - p) = an_wd 4
  · rw [decide_eq_true e4]
    rw [if_pos e4] at hF
    exact hF
  rw [decide_eq_false e4]
  dsimp only
  rw [if_neg e4] at hF
  refine ⟨by omega, w_isM_5 (by omega) hB hp hq h13 h15 ?_⟩
  rw [an_bf]
  by_cases e5 : an_sl B p (q - p) = an_wd 5
  · rw [decide_eq_true e5]
    rw [if_pos e5] at hF
    exact hF
  rw [decide_eq_false e5]
  dsimp only
  rw [if_neg e5] at hF
  refine ⟨by omega, w_isM_6 (by omega) hB hp hq h13 h15 ?_⟩
  rw [an_bf]
  by_cases e6 : an_sl B p (q - p) = an_wd 6
  · rw [decide_eq_true e6]
    rw [if_pos e6] at hF
    exact hF
  rw [decide_eq_false e6]
  dsimp only
  rw [if_neg e6] at hF
  refine ⟨by omega, w_isM_8 (by omega) hB hp hq h13 h15 ?_⟩
  rw [an_bf]
  by_cases e8 : an_sl B p (q - p) = an_wd 8
  · rw [decide_eq_true e8]
    rw [if_pos e8] at hF
    exact hF
  rw [decide_eq_false e8]
  dsimp only
  rw [if_neg e8] at hF
  refine ⟨by omega, w_isM_12 (by omega) hB hp hq h13 h15 ?_⟩
  rw [an_bf]
  by_cases e12 : an_sl B p (q - p) = an_wd 12
  · rw [decide_eq_true e12]
    rw [if_pos e12] at hF
    exact hF
  rw [decide_eq_false e12]
  dsimp only
  rw [if_neg e12] at hF
  refine ⟨by omega, w_isM_13 (by omega) hB hp hq h13 h15 ?_⟩
  rw [an_bf]
  by_cases e13 : an_sl B p (q - p) = an_wd 13
  · rw [decide_eq_true e13]
    rw [if_pos e13] at hF
    exact hF
  rw [decide_eq_false e13]
  dsimp only
  rw [if_neg e13] at hF
  rw [k9]
  by_cases k4 : k = 4
  · rw [if_pos (nI_le (by omega) (by omega))]
    rw [decide_eq_true k4] at ks
    subst ks
    dsimp only at hF
    refine ⟨by omega, v_M_signWord ?_⟩
    refine ⟨by omega, w_isM_14 (by omega) hB hp hq h13 h15 ?_⟩
    rw [an_bf]
    by_cases e14 : an_sl B p (q - p) = an_wd 14
    · rw [decide_eq_true e14]
      rw [if_pos e14] at hF
      exact hF
    rw [decide_eq_false e14]
    dsimp only
    rw [if_neg e14] at hF
    refine ⟨by omega, w_isM_15 (by omega) hB hp hq h13 h15 ?_⟩
    rw [an_bf]
    by_cases e15 : an_sl B p (q - p) = an_wd 15
    · rw [decide_eq_true e15]
      rw [if_pos e15] at hF
      exact hF
    rw [decide_eq_false e15]
    dsimp only
    rw [if_neg e15] at hF
    refine ⟨by omega, w_isM_16 (by omega) hB hp hq h13 h15 ?_⟩
    rw [an_bf]
    by_cases e16 : an_sl B p (q - p) = an_wd 16
    · rw [decide_eq_true e16]
      rw [if_pos e16] at hF
      exact hF
    rw [decide_eq_false e16]
    dsimp only
    rw [if_neg e16] at hF
    refine ⟨by omega, w_isM_17 (by omega) hB hp hq h13 h15 ?_⟩
    rw [an_bf]
    by_cases e17 : an_sl B p (q - p) = an_wd 17
    · rw [decide_eq_true e17]
      rw [if_pos e17] at hF
      exact hF
    rw [decide_eq_false e17]
    dsimp only
    rw [if_neg e17] at hF
    refine ⟨by omega, w_isM_18 (by omega) hB hp hq h13 h15 ?_⟩
    rw [an_bf]
    by_cases e18 : an_sl B p (q - p) = an_wd 18
    · rw [decide_eq_true e18]
      rw [if_pos e18] at hF
      exact hF
    rw [decide_eq_false e18]
    dsimp only
    rw [if_neg e18] at hF
    exact hF
  · rw [if_neg (nI_ge (by omega) (by omega))]
    rw [decide_eq_false k4] at ks
    subst ks
    dsimp only at hF
    refine ⟨by omega, v_M_lawWord ?_⟩
    refine ⟨by omega, w_isM_0 (by omega) hB hp hq h13 h15 ?_⟩
    rw [an_bf]
    by_cases e0 : an_sl B p (q - p) = an_wd 0
    · rw [decide_eq_true e0]
      rw [if_pos e0] at hF
      exact hF
    rw [decide_eq_false e0]
    dsimp only
    rw [if_neg e0] at hF
    refine ⟨by omega, w_isM_1 (by omega) hB hp hq h13 h15 ?_⟩
    rw [an_bf]
    by_cases e1 : an_sl B p (q - p) = an_wd 1
    · rw [decide_eq_true e1]
      rw [if_pos e1] at hF
      exact hF
    rw [decide_eq_false e1]
    dsimp only
    rw [if_neg e1] at hF
    refine ⟨by omega, w_isM_2 (by omega) hB hp hq h13 h15 ?_⟩
    rw [an_bf]
    by_cases e2 : an_sl B p (q - p) = an_wd 2
    · rw [decide_eq_true e2]
      rw [if_pos e2] at hF
      exact hF
    rw [decide_eq_false e2]
    dsimp only
    rw [if_neg e2] at hF
    refine ⟨by omega, w_isM_7 (by omega) hB hp hq h13 h15 ?_⟩
    rw [an_bf]
    by_cases e7 : an_sl B p (q - p) = an_wd 7
    · rw [decide_eq_true e7]
      rw [if_pos e7] at hF
      exact hF
    rw [decide_eq_false e7]
    dsimp only
    rw [if_neg e7] at hF
    refine ⟨by omega, w_isM_9 (by omega) hB hp hq h13 h15 ?_⟩
    rw [an_bf]
    by_cases e9 : an_sl B p (q - p) = an_wd 9
    · rw [decide_eq_true e9]
      rw [if_pos e9] at hF
      exact hF
    rw [decide_eq_false e9]
    dsimp only
    rw [if_neg e9] at hF
    refine ⟨by omega, w_isM_10 (by omega) hB hp hq h13 h15 ?_⟩
    rw [an_bf]
    by_cases e10 : an_sl B p (q - p) = an_wd 10
    · rw [decide_eq_true e10]
      rw [if_pos e10] at hF
      exact hF
    rw [decide_eq_false e10]
    dsimp only
    rw [if_neg e10] at hF
    refine ⟨by omega, w_isM_11 (by omega) hB hp hq h13 h15 ?_⟩
    rw [an_bf]
    by_cases e11 : an_sl B p (q - p) = an_wd 11
    · rw [decide_eq_true e11]
      rw [if_pos e11] at hF
      exact hF
    rw [decide_eq_false e11]
    dsimp only
    rw [if_neg e11] at hF
    exact hF
/-- what reading a token writes -/
def an_nf (μ μ' : am_M) : Prop := an_un [140] μ μ' ∧ ∀ f, f ≠ 13 → f ≠ 14 → f ≠ 15 → f ≠ 16 → μ' 140 f = μ 140 f
theorem an_nf_w {μ μ' : am_M} {f : Nat} {v : Int32} (e : μ' = am_w μ 140 f v) (hf : f = 13 ∨ f = 14 ∨ f = 15 ∨ f = 16) : an_nf μ μ' := ⟨e ▸ an_un_w (by simp), fun g g1 g2 g3 g4 => an_w_o e (by omega)⟩
theorem an_nf_tr {μ μ' μ'' : am_M} (h : an_nf μ μ') (h' : an_nf μ' μ'') : an_nf μ μ'' := ⟨an_un_tr h.1 h'.1 (fun _ z => z) (fun _ z => z), fun f a b c e => (h'.2 f a b c e).trans (h.2 f a b c e)⟩
theorem an_nf_rf {μ : am_M} : an_nf μ μ := ⟨an_un_rf, fun _ _ _ _ _ => rfl⟩
/-- a token stands -/
def an_ntk (sg : Bool) (t : an_tke) (μ : am_M) : Prop := μ 140 14 = nI (an_mt sg t.1 t.2.1) ∧ μ 140 15 = nI t.2.2.1 ∧ μ 140 13 = nI t.2.2.2 ∧ (t.1 = 2 → μ 140 16 = nI t.2.1)
theorem w_next {L d : Nat} {F : am_M → Prop} {B : Nat → Nat} {T : Nat} {sg : Bool} {μ : am_M} {p : Nat} (hd : 13 ≤ d) (hB : an_tb 146 μ B T) (h12 : μ 140 12 = nI T) (h9 : an_wh sg μ) (h13 : μ 140 13 = nI p) (hp : p ≤ T) (hF : ∀ μ', an_nf μ μ' → an_ntk sg (an_tp sg B T p) μ' → F μ') : am_Cv L d 164 [.ref 140] μ F := by
  have hT := hB.1
  have fr : ∀ μ1, an_nf μ μ1 → an_tb 146 μ1 B T ∧ μ1 140 12 = nI T ∧ an_wh sg μ1 := fun μ1 u => ⟨⟨hT, fun j hj => by rw [u.1 146 (by decide)]; exact hB.2 j hj⟩, by rw [u.2 12 (by decide) (by decide) (by decide) (by decide)]; exact h12, by unfold an_wh; rw [u.2 9 (by decide) (by decide) (by decide) (by decide)]; exact h9⟩
  have key : ∀ (m p : Nat) (μ1 : am_M), p + m = T → an_nf μ μ1 → μ1 140 13 = nI p → (∀ μ', an_nf μ μ' → an_ntk sg (an_tp sg B T p) μ' → F μ') → am_Jv L d 164 0 [some (.ref 140), none, none] [] μ1 F := by
    intro m
    induction m with
    | zero =>
      intro p μ1 hpm u1 x1 hF
      obtain rfl : p = T := by omega
      obtain ⟨f1, f2, f3⟩ := fr μ1 u1
      refine v_M_next0_0 ?_
      rw [x1]
      refine ⟨by omega, w_see f1 f2 (by omega) ?_⟩
      rw [if_neg (Nat.lt_irrefl _), if_neg (by decide), x1]
      refine ⟨by omega, w_see f1 f2 (by omega) ?_⟩
      rw [if_neg (Nat.lt_irrefl _), if_pos (by decide), x1]
      intro μ5 e5
      have u5 := an_nf_tr u1 (an_nf_w e5 (by omega))
      obtain ⟨g1, g2, g3⟩ := fr μ5 u5
      have x5 : μ5 140 13 = nI p := by rw [an_w_o e5 (by decide)]; exact x1
      rw [x5]
      refine ⟨by omega, w_see g1 g2 (by omega) ?_⟩
      rw [if_neg (Nat.lt_irrefl _), if_neg (fun z => z rfl)]
      intro μ6 e6
      refine hF μ6 (an_nf_tr u5 (an_nf_w e6 (by omega))) ?_
      rw [an_tp_end (Nat.le_refl _)]
      exact ⟨an_w_s e6, by rw [an_w_o e6 (by decide)]; exact an_w_s e5, by rw [an_w_o e6 (by decide)]; exact x5, fun z => absurd z (by show ¬ (0 : Nat) = 2; omega)⟩
    | succ m ih =>
      intro p μ1 hpm u1 x1 hF
      have hi : p < T := by omega
      obtain ⟨f1, f2, f3⟩ := fr μ1 u1
      obtain ⟨b1, b2⟩ := f1.2 p hi
      have neg1 : ¬ nI (B p) = - nI 1 := fun z => by
        have := nI_pos (n := B p) (by omega)
        rw [z] at this
        exact this (by decide)
      refine v_M_next0_0 ?_
      rw [x1]
      refine ⟨by omega, w_see f1 f2 (by omega) ?_⟩
      rw [if_pos hi]
      have sp : (B p = 32 ∨ B p = 10) → am_Jv L d 164 26 [some (.ref 140), none, none] [] μ1 F := by
        intro hs
        refine v_M_next0_26 ?_
        rw [x1, nI_add]
        intro μ2 e2
        refine ih (p + 1) μ2 (by omega) (an_nf_tr u1 (an_nf_w e2 (by omega))) (an_w_s e2) ?_
        rw [← an_tp_sp hi hs]
        exact hF
      by_cases z32 : B p = 32
      · rw [if_pos (by rw [z32])]
        exact sp (Or.inl z32)
      rw [if_neg (fun z => z32 ((nI_eq (by omega) (by omega)).mp z)), x1]
      refine ⟨by omega, w_see f1 f2 (by omega) ?_⟩
      rw [if_pos hi]
      by_cases z10 : B p = 10
      · rw [if_neg (fun z => z (by rw [z10]))]
        exact sp (Or.inr z10)
      rw [if_pos (fun z => z10 ((nI_eq (by omega) (by omega)).mp z)), x1]
      rw [an_tp_t0 hi (by omega)] at hF
      intro μ5 e5
      have u5 := an_nf_tr u1 (an_nf_w e5 (by omega))
      obtain ⟨g1, g2, g3⟩ := fr μ5 u5
      have x5 : μ5 140 13 = nI p := by rw [an_w_o e5 (by decide)]; exact x1
      have y5 : μ5 140 15 = nI p := an_w_s e5
      rw [x5]
      refine ⟨by omega, w_see g1 g2 (by omega) ?_⟩
      rw [if_pos hi, if_pos neg1]
      obtain ⟨st1, st2, st3⟩ := an_t0_st (sg := sg) (B := B) hi
      have hLe : (97 ≤ B p ∧ B p ≤ 122 ∨ 65 ≤ B p ∧ B p ≤ 90) → am_Jv L d 164 76 [some (.ref 140), none, none] [] μ5 F := by
        intro hl
        have hlb : an_let (B p) = true := an_let_e.mpr hl
        have et : an_t0 sg B T p = ((an_wcr sg (an_sl B p (an_run an_let B T (T - p) p - p)) 14).1, (an_wcr sg (an_sl B p (an_run an_let B T (T - p) p - p)) 14).2, p, an_run an_let B T (T - p) p) := by unfold an_t0; rw [hlb]
        suffices ∀ (k s : Nat) (μ6 : am_M), p ≤ s → s + k = T → an_run an_let B T (T - s) s = an_run an_let B T (T - p) p → an_nf μ μ6 → μ6 140 13 = nI s → μ6 140 15 = nI p → am_Jv L d 164 76 [some (.ref 140), none, none] [] μ6 F from this (T - p) p μ5 (Nat.le_refl _) (by omega) rfl u5 x5 y5
        have out : ∀ (s : Nat) (μ6 : am_M), p ≤ s → s ≤ T → an_run an_let B T (T - p) p = s → an_nf μ μ6 → μ6 140 13 = nI s → μ6 140 15 = nI p → am_Ci L (d - 1) 163 [.ref 140] μ6 (fun y4 μ3 => am_put (am_w μ3 140 14 y4) (fun μ5 => F μ5)) := by
          intro s μ6 h1 h2 h3 u6 x6 y6
          obtain ⟨q1, q2, q3⟩ := fr μ6 u6
          have hps : p < s := by rw [et] at st1; dsimp only at st1; omega
          refine w_M_word (by omega) q1 h1 h2 x6 y6 q3 ?_
          intro μ7 e7
          refine hF μ7 (an_nf_tr u6 (an_nf_w e7 (by omega))) ?_
          rw [et, h3]
          refine ⟨?_, ?_, ?_, fun z => ?_⟩
          · rw [an_w_s e7]
            dsimp only
            rw [an_wc_m]
            intro z
            have := ((an_sl_e [] p (s - p)).mp z).1
            simp at this
            omega
          · rw [an_w_o e7 (by decide)]; exact y6
          · rw [an_w_o e7 (by decide)]; exact x6
          · exfalso
            dsimp only at z
            rcases an_wcr_k (sg := sg) (s := an_sl B p (s - p)) 14 (by omega) with e | ⟨w, hw, e⟩ | ⟨f, hf, e⟩
            · rw [e] at z; dsimp only at z; omega
            · rw [e] at z; dsimp only at z; omega
            · rw [e] at z; dsimp only at z; omega
        intro k
        induction k with
        | zero =>
          intro s μ6 h1 h2 h3 u6 x6 y6
          obtain ⟨q1, q2, q3⟩ := fr μ6 u6
          have oo := out s μ6 h1 (by omega) (by rw [← h3, an_run_0 (by omega)]) u6 x6 y6
          refine v_M_next0_76 ?_
          rw [x6]
          refine ⟨by omega, w_see q1 q2 (by omega) ?_⟩
          rw [if_neg (show ¬ s < T by omega), am_dp (by omega), am_dp (by omega), if_pos (by decide), am_dp (by omega), if_pos (by decide)]
          exact ⟨by omega, oo⟩
        | succ k ihk =>
          intro s μ6 h1 h2 h3 u6 x6 y6
          obtain ⟨q1, q2, q3⟩ := fr μ6 u6
          obtain ⟨c1, c2⟩ := q1.2 s (by omega)
          refine v_M_next0_76 ?_
          rw [x6]
          refine ⟨by omega, w_see q1 q2 (by omega) ?_⟩
          rw [if_pos (show s < T by omega), x6, nI_add]
          have go : (97 ≤ B s ∧ B s ≤ 122 ∨ 65 ≤ B s ∧ B s ≤ 90) → am_put (am_w μ6 140 13 (nI (s + 1))) (fun μ9 => am_Jv L d 164 76 [some (.ref 140), none, none] [] μ9 F) := by
            intro hl2 μ9 e9
            exact ihk (s + 1) μ9 (by omega) (by omega) (by rw [← h3, ← an_run_1 (by omega) (an_let_e.mpr hl2)]) (an_nf_tr u6 (an_nf_w e9 (by omega))) (an_w_s e9) (by rw [an_w_o e9 (by decide)]; exact y6)
          have stop : ¬ (97 ≤ B s ∧ B s ≤ 122 ∨ 65 ≤ B s ∧ B s ≤ 90) → am_Ci L (d - 1) 163 [.ref 140] μ6 (fun y4 μ3 => am_put (am_w μ3 140 14 y4) (fun μ5 => F μ5)) := by
            intro hl2
            exact out s μ6 h1 (by omega) (by rw [← h3, an_run_0 (fun z => hl2 (an_let_e.mp z.2))]) u6 x6 y6
          simp (discharger := omega) only [am_dp, am_lt', am_le']
          repeat' split
          all_goals first
            | exact go (by omega)
            | exact stop (by omega)
      have hDi : (48 ≤ B p ∧ B p ≤ 57) → am_put (am_w μ5 140 16 (nI 0)) (fun μ10 => am_Jv L d 164 126 [some (.ref 140), none, none] [] μ10 F) := by
        intro hl μ6' e6'
        have hlb : an_dig (B p) = true := an_dig_e.mpr hl
        have hlf : an_let (B p) = false := an_bool_f (fun z => by have := an_let_e.mp z; omega)
        have et : an_t0 sg B T p = (if 5 < an_run an_dig B T (T - p) p - p then 1 else 2, if 5 < an_run an_dig B T (T - p) p - p then 0 else an_num B p (an_run an_dig B T (T - p) p - p), p, an_run an_dig B T (T - p) p) := by unfold an_t0; rw [hlf]; dsimp only; rw [hlb]
        suffices ∀ (k s : Nat) (μ6 : am_M), p ≤ s → s + k = T → an_run an_dig B T (T - s) s = an_run an_dig B T (T - p) p → an_nf μ μ6 → μ6 140 13 = nI s → μ6 140 15 = nI p → μ6 140 16 = nI (an_num B p (min (s - p) 5)) → am_Jv L d 164 126 [some (.ref 140), none, none] [] μ6 F from this (T - p) p μ6' (Nat.le_refl _) (by omega) rfl (an_nf_tr u5 (an_nf_w e6' (by omega))) (by rw [an_w_o e6' (by decide)]; exact x5) (by rw [an_w_o e6' (by decide)]; exact y5) (by rw [an_w_s e6', Nat.sub_self]; rfl)
        have out : ∀ (s : Nat) (μ6 : am_M), p ≤ s → s ≤ T → an_run an_dig B T (T - p) p = s → an_nf μ μ6 → μ6 140 13 = nI s → μ6 140 15 = nI p → μ6 140 16 = nI (an_num B p (min (s - p) 5)) → (if 6 ≤ s - p then am_put (am_w μ6 140 14 (nI 1)) (fun μ3 => am_Jv L d 164 212 [none, none, none] [] μ3 F) else am_put (am_w μ6 140 14 (nI 2)) (fun μ4 => am_Jv L d 164 212 [none, none, none] [] μ4 F)) := by
          intro s μ6 h1 h2 h3 u6 x6 y6 v6
          by_cases q : 6 ≤ s - p
          · rw [if_pos q]
            intro μ7 e7
            refine v_M_next0_212 (hF μ7 (an_nf_tr u6 (an_nf_w e7 (by omega))) ?_)
            rw [et, h3, if_pos (by omega), if_pos (by omega)]
            exact ⟨an_w_s e7, by rw [an_w_o e7 (by decide)]; exact y6, by rw [an_w_o e7 (by decide)]; exact x6, fun z => absurd z (by show ¬ (1 : Nat) = 2; omega)⟩
          · rw [if_neg q]
            intro μ7 e7
            refine v_M_next0_212 (hF μ7 (an_nf_tr u6 (an_nf_w e7 (by omega))) ?_)
            rw [et, h3, if_neg (by omega), if_neg (by omega)]
            refine ⟨an_w_s e7, by rw [an_w_o e7 (by decide)]; exact y6, by rw [an_w_o e7 (by decide)]; exact x6, fun _ => ?_⟩
            rw [an_w_o e7 (by decide), v6, show min (s - p) 5 = s - p by omega]
        intro k
        induction k with
        | zero =>
          intro s μ6 h1 h2 h3 u6 x6 y6 v6
          obtain ⟨q1, q2, q3⟩ := fr μ6 u6
          have oo := out s μ6 h1 (by omega) (by rw [← h3, an_run_0 (by omega)]) u6 x6 y6 v6
          refine v_M_next0_126 ?_
          rw [x6]
          refine ⟨by omega, w_see q1 q2 (by omega) ?_⟩
          rw [if_neg (show ¬ s < T by omega), am_dp (by omega), am_dp (by omega), if_pos (by decide), x6, y6, pk_sub h1]
          simp (discharger := omega) only [am_le']
          exact oo
        | succ k ihk =>
          intro s μ6 h1 h2 h3 u6 x6 y6 v6
          obtain ⟨q1, q2, q3⟩ := fr μ6 u6
          obtain ⟨c1, c2⟩ := q1.2 s (by omega)
          refine v_M_next0_126 ?_
          rw [x6]
          refine ⟨by omega, w_see q1 q2 (by omega) ?_⟩
          rw [if_pos (show s < T by omega), x6, y6, pk_sub h1, nI_add, am_dp (by omega), am_dp (by omega)]
          by_cases hdg : 48 ≤ B s ∧ B s ≤ 57
          · rw [if_neg (nI_nlt (by omega) (by omega)), if_neg (nI_nlt (by omega) (by omega))]
            have r1 : an_run an_dig B T (T - (s + 1)) (s + 1) = an_run an_dig B T (T - p) p := by rw [← h3, ← an_run_1 (by omega) (an_dig_e.mpr hdg)]
            by_cases q5 : p + 5 ≤ s
            · rw [if_pos (nI_le q5 (by omega))]
              refine v_M_next0_176 ?_
              rw [x6, nI_add]
              intro μ9 e9
              refine ihk (s + 1) μ9 (by omega) (by omega) r1 (an_nf_tr u6 (an_nf_w e9 (by omega))) (an_w_s e9) (by rw [an_w_o e9 (by decide)]; exact y6) ?_
              rw [an_w_o e9 (by decide), v6, show min (s - p) 5 = min (s + 1 - p) 5 by omega]
            · rw [if_neg (nI_ge (by omega) (by omega))]
              refine ⟨by omega, w_see q1 q2 (by omega) ?_⟩
              rw [if_pos (show s < T by omega), v6, pk_mul, nI_add, pk_sub (by omega)]
              intro μ8 e8
              have x8 : μ8 140 13 = nI s := by rw [an_w_o e8 (by decide)]; exact x6
              refine v_M_next0_176 ?_
              rw [x8, nI_add]
              intro μ9 e9
              refine ihk (s + 1) μ9 (by omega) (by omega) r1 (an_nf_tr (an_nf_tr u6 (an_nf_w e8 (by omega))) (an_nf_w e9 (by omega))) (an_w_s e9) (by rw [an_w_o e9 (by decide), an_w_o e8 (by decide)]; exact y6) ?_
              rw [an_w_o e9 (by decide), an_w_s e8, show min (s + 1 - p) 5 = min (s - p) 5 + 1 by omega, an_num, show p + min (s - p) 5 = s by omega]
              congr 1
              omega
          · have oo := out s μ6 h1 (by omega) (by rw [← h3, an_run_0 (fun z => hdg (an_dig_e.mp z.2))]) u6 x6 y6 v6
            by_cases z48 : B s < 48
            · rw [if_pos (nI_lt z48 (by omega))]
              simp (discharger := omega) only [am_le']
              exact oo
            · rw [if_neg (nI_nlt (by omega) (by omega)), if_pos (nI_lt (by omega) (by omega))]
              simp (discharger := omega) only [am_le']
              exact oo
      have hOt : ¬ (97 ≤ B p ∧ B p ≤ 122 ∨ 65 ≤ B p ∧ B p ≤ 90) → ¬ (48 ≤ B p ∧ B p ≤ 57) → am_put (am_w μ5 140 13 (nI (p + 1))) (fun μ8 => if nI (B p) = nI 59 then am_Jv L d 164 285 [some (.ref 140), some (.int (nI (B p))), none] [] μ8 F else if nI (B p) = nI 43 then am_Jv L d 164 285 [some (.ref 140), some (.int (nI (B p))), none] [] μ8 F else if nI (B p) = nI 45 then am_Jv L d 164 285 [some (.ref 140), some (.int (nI (B p))), none] [] μ8 F else if nI (B p) = nI 42 then am_Jv L d 164 285 [some (.ref 140), some (.int (nI (B p))), none] [] μ8 F else if nI (B p) = nI 47 then am_Jv L d 164 285 [some (.ref 140), some (.int (nI (B p))), none] [] μ8 F else if nI (B p) = nI 40 then am_Jv L d 164 285 [some (.ref 140), some (.int (nI (B p))), none] [] μ8 F else if nI (B p) = nI 41 then am_Jv L d 164 285 [some (.ref 140), some (.int (nI (B p))), none] [] μ8 F else if nI (B p) = nI 60 then am_Jv L d 164 285 [some (.ref 140), some (.int (nI (B p))), none] [] μ8 F else if nI (B p) = nI 61 then am_Jv L d 164 285 [some (.ref 140), some (.int (nI (B p))), none] [] μ8 F else if ¬ nI (B p) = nI 62 then am_Jv L d 164 291 [some (.ref 140), some (.int (nI (B p))), some (.int (nI 0))] [] μ8 F else am_Jv L d 164 285 [some (.ref 140), some (.int (nI (B p))), none] [] μ8 F) := by
        intro h2 h3 μ8 e8
        have hlf : an_let (B p) = false := an_bool_f (fun z => h2 (an_let_e.mp z))
        have hdf : an_dig (B p) = false := an_bool_f (fun z => h3 (an_dig_e.mp z))
        have et : an_t0 sg B T p = (if an_sgn (B p) = true then B p else 1, 0, p, p + 1) := by unfold an_t0; rw [hlf]; dsimp only; rw [hdf]
        have u8 := an_nf_tr u5 (an_nf_w e8 (by omega))
        have x8 : μ8 140 13 = nI (p + 1) := an_w_s e8
        have y8 : μ8 140 15 = nI p := by rw [an_w_o e8 (by decide)]; exact y5
        have hS : an_sgn (B p) = true → am_Jv L d 164 285 [some (.ref 140), some (.int (nI (B p))), none] [] μ8 F := by
          intro hs
          refine v_M_next0_285 (v_M_next0_291 ?_)
          rw [if_neg (by decide), nI_add]
          intro μ9 e9
          refine hF μ9 (an_nf_tr u8 (an_nf_w e9 (by omega))) ?_
          rw [et, if_pos hs]
          refine ⟨by rw [an_w_s e9, an_mt_s hs], by rw [an_w_o e9 (by decide)]; exact y8, by rw [an_w_o e9 (by decide)]; exact x8, fun z => ?_⟩
          have := an_sgn_i hs
          dsimp only at z
          omega
        have hN : an_sgn (B p) = false → am_Jv L d 164 291 [some (.ref 140), some (.int (nI (B p))), some (.int (nI 0))] [] μ8 F := by
          intro hs
          refine v_M_next0_291 ?_
          rw [if_pos nI_0]
          intro μ9 e9
          refine hF μ9 (an_nf_tr u8 (an_nf_w e9 (by omega))) ?_
          rw [et, if_neg (by rw [hs]; decide)]
          exact ⟨an_w_s e9, by rw [an_w_o e9 (by decide)]; exact y8, by rw [an_w_o e9 (by decide)]; exact x8, fun z => absurd z (by show ¬ (1 : Nat) = 2; omega)⟩
        have nc : ∀ c, c < 256 → ¬ B p = c → ¬ nI (B p) = nI c := fun c hc h z => h ((nI_eq (by omega) (by omega)).mp z)
        by_cases q59 : B p = 59
        · rw [if_pos (show nI (B p) = nI 59 by rw [q59])]
          exact hS (an_sgn_e.mpr (by omega))
        rw [if_neg (nc 59 (by omega) q59)]
        by_cases q43 : B p = 43
        · rw [if_pos (show nI (B p) = nI 43 by rw [q43])]
          exact hS (an_sgn_e.mpr (by omega))
        rw [if_neg (nc 43 (by omega) q43)]
        by_cases q45 : B p = 45
        · rw [if_pos (show nI (B p) = nI 45 by rw [q45])]
          exact hS (an_sgn_e.mpr (by omega))
        rw [if_neg (nc 45 (by omega) q45)]
        by_cases q42 : B p = 42
        · rw [if_pos (show nI (B p) = nI 42 by rw [q42])]
          exact hS (an_sgn_e.mpr (by omega))
        rw [if_neg (nc 42 (by omega) q42)]
        by_cases q47 : B p = 47
        · rw [if_pos (show nI (B p) = nI 47 by rw [q47])]
          exact hS (an_sgn_e.mpr (by omega))
        rw [if_neg (nc 47 (by omega) q47)]
        by_cases q40 : B p = 40
        · rw [if_pos (show nI (B p) = nI 40 by rw [q40])]
          exact hS (an_sgn_e.mpr (by omega))
        rw [if_neg (nc 40 (by omega) q40)]
        by_cases q41 : B p = 41
        · rw [if_pos (show nI (B p) = nI 41 by rw [q41])]
          exact hS (an_sgn_e.mpr (by omega))
        rw [if_neg (nc 41 (by omega) q41)]
        by_cases q60 : B p = 60
        · rw [if_pos (show nI (B p) = nI 60 by rw [q60])]
          exact hS (an_sgn_e.mpr (by omega))
        rw [if_neg (nc 60 (by omega) q60)]
        by_cases q61 : B p = 61
        · rw [if_pos (show nI (B p) = nI 61 by rw [q61])]
          exact hS (an_sgn_e.mpr (by omega))
        rw [if_neg (nc 61 (by omega) q61)]
        by_cases q62 : B p = 62
        · rw [if_neg (fun z => z (by rw [q62]))]
          exact hS (an_sgn_e.mpr (by omega))
        rw [if_pos (nc 62 (by omega) q62)]
        exact hN (an_bool_f (fun z => by have := an_sgn_e.mp z; omega))
      rw [x5, nI_add]
      rcases (by omega : B p < 48 ∨ (48 ≤ B p ∧ B p ≤ 57) ∨ (57 < B p ∧ B p < 65) ∨ (65 ≤ B p ∧ B p ≤ 90) ∨ (90 < B p ∧ B p < 97) ∨ (97 ≤ B p ∧ B p ≤ 122) ∨ 122 < B p) with r | r | r | r | r | r | r
      · rw [am_dp (by omega), am_dp (by omega), if_pos (show nI (B p) < nI 97 from nI_lt (by omega) (by omega)), am_dp (by omega), if_pos (show nI (B p) < nI 65 from nI_lt (by omega) (by omega)), am_dp (by omega), am_dp (by omega), if_pos (show nI (B p) < nI 48 from nI_lt (by omega) (by omega))]
        exact hOt (by omega) (by omega)
      · rw [am_dp (by omega), am_dp (by omega), if_pos (show nI (B p) < nI 97 from nI_lt (by omega) (by omega)), am_dp (by omega), if_pos (show nI (B p) < nI 65 from nI_lt (by omega) (by omega)), am_dp (by omega), am_dp (by omega), if_neg (show ¬ nI (B p) < nI 48 from nI_nlt (by omega) (by omega)), if_neg (show ¬ nI 57 < nI (B p) from nI_nlt (by omega) (by omega))]
        exact hDi r
      · rw [am_dp (by omega), am_dp (by omega), if_pos (show nI (B p) < nI 97 from nI_lt (by omega) (by omega)), am_dp (by omega), if_pos (show nI (B p) < nI 65 from nI_lt (by omega) (by omega)), am_dp (by omega), am_dp (by omega), if_neg (show ¬ nI (B p) < nI 48 from nI_nlt (by omega) (by omega)), if_pos (show nI 57 < nI (B p) from nI_lt (by omega) (by omega))]
        exact hOt (by omega) (by omega)
      · rw [am_dp (by omega), am_dp (by omega), if_pos (show nI (B p) < nI 97 from nI_lt (by omega) (by omega)), am_dp (by omega), if_neg (show ¬ nI (B p) < nI 65 from nI_nlt (by omega) (by omega)), if_neg (show ¬ nI 90 < nI (B p) from nI_nlt (by omega) (by omega))]
        exact hLe (Or.inr r)
      · rw [am_dp (by omega), am_dp (by omega), if_pos (show nI (B p) < nI 97 from nI_lt (by omega) (by omega)), am_dp (by omega), if_neg (show ¬ nI (B p) < nI 65 from nI_nlt (by omega) (by omega)), if_pos (show nI 90 < nI (B p) from nI_lt (by omega) (by omega)), am_dp (by omega), am_dp (by omega), if_neg (show ¬ nI (B p) < nI 48 from nI_nlt (by omega) (by omega)), if_pos (show nI 57 < nI (B p) from nI_lt (by omega) (by omega))]
        exact hOt (by omega) (by omega)
      · rw [am_dp (by omega), am_dp (by omega), if_neg (show ¬ nI (B p) < nI 97 from nI_nlt (by omega) (by omega)), if_neg (show ¬ nI 122 < nI (B p) from nI_nlt (by omega) (by omega))]
        exact hLe (Or.inl r)
      · rw [am_dp (by omega), am_dp (by omega), if_neg (show ¬ nI (B p) < nI 97 from nI_nlt (by omega) (by omega)), if_pos (show nI 122 < nI (B p) from nI_lt (by omega) (by omega)), am_dp (by omega), if_neg (show ¬ nI (B p) < nI 65 from nI_nlt (by omega) (by omega)), if_pos (show nI 90 < nI (B p) from nI_lt (by omega) (by omega)), am_dp (by omega), am_dp (by omega), if_neg (show ¬ nI (B p) < nI 48 from nI_nlt (by omega) (by omega)), if_pos (show nI 57 < nI (B p) from nI_lt (by omega) (by omega))]
        exact hOt (by omega) (by omega)
  exact key (T - p) p μ (by omega) an_nf_rf h13 hF
