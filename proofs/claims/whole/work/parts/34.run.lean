/-! The class runs a script: each script, each row of facts. -/
theorem an_nlt7 {v : Nat} (h : v < 2147483648) : ¬ nI v < - nI 7 := fun q => by
  rw [Int32.lt_iff_toInt_lt, nI_toInt h, show (- nI 7 : Int32).toInt = -7 by decide] at q
  omega
theorem an_ngf : ∀ i, i < 7 → (- nI 1) - (- nI (i + 1)) = nI i ∧ ¬ (- nI (i + 1) : Int32) < - nI 7 ∧ (- nI (i + 1) : Int32) < 0 := by decide
theorem an_fi_lt {sg : Bool} {s : Nat} (h : an_fs sg s) : an_fi sg s < 7 := by
  cases sg with
  | false => obtain ⟨h1, h2⟩ := h; show s - 1 < 7; omega
  | true => rcases h with rfl | rfl | rfl | rfl | rfl | rfl | rfl <;> decide
theorem an_fs_lt {sg : Bool} {s : Nat} (h : an_fs sg s) : 0 < s ∧ s < 12 := by
  cases sg with
  | false => exact ⟨h.1, by have := h.2; omega⟩
  | true => rcases h with rfl | rfl | rfl | rfl | rfl | rfl | rfl <;> exact ⟨by omega, by omega⟩
theorem an_C0 {sg : Bool} {r0 : Nat → Int32} {p p' v : Nat} (h : an_C sg r0 p (0, v) p') : r0 p = nI v ∧ p' = p + 1 := by
  rcases h with ⟨h, -⟩ | ⟨-, h⟩ | ⟨h, -⟩ | ⟨h, -⟩
  · cases h
  · exact h
  · exact absurd (an_fs_lt h).1 (by simp)
  · simp at h
theorem an_C1 {sg : Bool} {r0 : Nat → Int32} {p p' s v : Nat} (hs : an_fs sg s) (h : an_C sg r0 p (s, v) p') : r0 p = - nI (an_fi sg s + 1) ∧ p' = p + 1 := by
  have := an_fs_lt hs
  rcases h with ⟨h, -⟩ | ⟨h, -⟩ | ⟨-, h⟩ | ⟨h, -⟩
  · dsimp only at h; omega
  · dsimp only at h; omega
  · exact h
  · dsimp only at h; omega
theorem an_C2 {sg : Bool} {r0 : Nat → Int32} {p p' s v : Nat} (h1 : 12 ≤ s) (h2 : ¬ s = 15) (h : an_C sg r0 p (s, v) p') : r0 p = - nI (s - 2) ∧ p' = p + 1 := by
  rcases h with ⟨h, -⟩ | ⟨h, -⟩ | ⟨h, -⟩ | ⟨-, -, -, h⟩
  · exact absurd h h2
  · dsimp only at h; omega
  · have := an_fs_lt h; dsimp only at this; omega
  · exact h
theorem an_C3 {sg : Bool} {r0 : Nat → Int32} {p p' v : Nat} (h : an_C sg r0 p (15, v) p') : r0 p = nI v ∧ r0 (p + 1) = - nI 13 ∧ p' = p + 2 := by
  rcases h with ⟨-, h⟩ | ⟨h, -⟩ | ⟨h, -⟩ | ⟨-, h, -⟩
  · exact h
  · cases h
  · have := an_fs_lt h; dsimp only at this; omega
  · exact absurd rfl h
theorem an_gdv {x : Int32} {A : Prop} (h : ¬ x = 0) : am_gd (!(decide (x = 0))) A = A := by rw [decide_eq_false h]; rfl
theorem an_cx_21 {L d : Nat} {F : Int32 → am_M → Prop} {r0 fa : Nat → Int32} {Q : Nat} (hQ : Q ≤ 400)
    (sl : List (Nat × Nat)) (p : Nat) (t' : List Bool) (μ : am_M) (hs : an_sq (fun p e p' => p' ≤ Q ∧ an_C false r0 p e p') p sl Q) (ht : an_ty false sl [] t') (h1 : t'.length = 1) (hw : μ 22 = r0) (hf : ∀ s, an_fs false s → μ 64 (an_fi false s) = fa s)
    (hF : ∀ μ', an_un [27] μ μ' → F (an_bot (an_ev fa sl [])) μ') : am_Ci L d 70 [.ref 21, .int (nI p), .int (nI Q), .ref 64] μ F := by
  refine v_Script_run_21 ?_
  refine an_go (J := fun μ n p => am_Ji L d 70 6 [some (.ref 21), none, some (.int (nI Q)), some (.ref 64), some (.int (nI n)), some (.int (nI p)), none, none, none, none] [] μ F) (cs := 27) (sg := false) (fa := fa) (C := fun p e p' => p' ≤ Q ∧ an_C false r0 p e p') (I := fun μ => μ 22 = r0 ∧ ∀ s, an_fs false s → μ 64 (an_fi false s) = fa s)
    ?_ ?_ ?_ ?_ ?_ ?_ sl p Q [] [] t' μ hs ht rfl trivial ⟨hw, hf⟩ ?_
  · intro μ μ' hu hi
    exact ⟨(hu 22 (by decide)).trans hi.1, fun s hs => by rw [hu 64 (by decide)]; exact hi.2 s hs⟩
  · rintro μ n p p' v ⟨hpQ, g⟩ ⟨hr, hf⟩ hn hv hk2
    obtain ⟨g1, rfl⟩ := an_C0 g
    refine v_Script_run_21_6 ?_
    rw [if_neg (nI_ge (by omega : p < Q) (by omega)), am_gd_in (by omega) (by omega), am_cl (by omega)]
    simp only [hr, g1]
    rw [if_neg (an_nlt7 (by omega)), if_pos (nI_lt (by omega) (by omega)), if_neg (nI_pos (by omega)), am_gd_in (by omega) (by omega), am_cl (by omega)]
    intro μ1 e1; rw [nI_add, nI_add]; exact hk2 μ1 (an_top_w e1)
  · rintro μ n p p' s v ⟨hpQ, g⟩ ⟨hr, hf⟩ hn hs hk2
    obtain ⟨g1, rfl⟩ := an_C1 hs g
    have hi := an_fi_lt hs
    obtain ⟨z1, z2, z3⟩ := an_ngf _ hi
    have hfs := hf s hs
    refine v_Script_run_21_6 ?_
    rw [if_neg (nI_ge (by omega : p < Q) (by omega)), am_gd_in (by omega) (by omega), am_cl (by omega)]
    simp only [hr, g1]
    rw [if_neg z2, if_pos (nI_lt (by omega) (by omega)), if_pos z3, z1, am_gd_in (by omega) (by omega), am_gd_in (by omega) (by omega), am_cl (by omega), am_cl (by omega), hfs]
    intro μ1 e1; rw [nI_add, nI_add]; exact hk2 μ1 (an_top_w e1)
  · rintro μ n p p' s v ⟨hpQ, g⟩ ⟨hr, hf⟩ hn hs hk2
    obtain ⟨g1, rfl⟩ := an_C2 (by omega) (by omega) g
    have x1 : n + 2 - 1 = n + 1 := by omega
    have x2 : n + 2 - 2 = n := by omega
    refine v_Script_run_21_6 ?_
    rw [if_neg (nI_ge (by omega : p < Q) (by omega)), am_gd_in (by omega) (by omega), am_cl (by omega)]
    simp only [hr, g1]
    rw [pk_sub (by omega : 1 ≤ n + 2), pk_sub (by omega : 2 ≤ n + 2), x1, x2]
    simp only [am_cl (show n < 2147483648 by omega), am_cl (show n + 1 < 2147483648 by omega)]
    rcases hs with rfl | rfl | rfl | rfl | rfl | rfl | rfl | rfl
    · rw [if_pos (by decide), if_pos (by decide), if_pos (nI_le (by omega) (by omega)), am_gd_in (by omega) (by omega), am_gd_in (by omega) (by omega), if_neg (by decide), if_neg (by decide), if_neg (by decide), if_neg (by decide), if_neg (by decide), if_neg (by decide), if_neg (by decide), if_neg (by decide), if_pos (by decide)]
      rw [am_gd_in (by omega) (by omega)]
      intro μ1 e1; rw [nI_add, nI_add]; exact hk2 μ1 (an_top_w e1)
    · rw [if_pos (by decide), if_pos (by decide), if_pos (nI_le (by omega) (by omega)), am_gd_in (by omega) (by omega), am_gd_in (by omega) (by omega), if_neg (by decide), if_neg (by decide), if_neg (by decide), if_neg (by decide), if_neg (by decide), if_neg (by decide), if_neg (by decide), if_pos (by decide)]
      rw [am_gd_in (by omega) (by omega)]
      intro μ1 e1; rw [nI_add, nI_add]; exact hk2 μ1 (an_top_w e1)
    · rw [if_pos (by decide), if_pos (by decide), if_pos (nI_le (by omega) (by omega)), am_gd_in (by omega) (by omega), am_gd_in (by omega) (by omega), if_neg (by decide), if_neg (by decide), if_neg (by decide), if_neg (by decide), if_neg (by decide), if_neg (by decide), if_pos (by decide)]
      rw [am_gd_in (by omega) (by omega)]
      intro μ1 e1; rw [nI_add, nI_add]; exact hk2 μ1 (an_top_w e1)
    · rw [if_pos (by decide), if_pos (by decide), if_pos (nI_le (by omega) (by omega)), am_gd_in (by omega) (by omega), am_gd_in (by omega) (by omega), if_neg (by decide), if_neg (by decide), if_neg (by decide), if_neg (by decide), if_pos (by decide)]
      simp only [an_bop] at hk2
      by_cases hq : μ 27 (n + 1) ≤ μ 27 n
      · rw [if_pos hq, am_gd_in (by omega) (by omega)]
        rw [if_neg (Int32.not_lt.mpr hq)] at hk2
        intro μ1 e1; rw [nI_add, nI_add]; exact hk2 μ1 (an_top_w e1)
      · rw [if_neg hq, am_gd_in (by omega) (by omega)]
        rw [if_pos (Int32.not_le.mp hq)] at hk2
        intro μ1 e1; rw [nI_add, nI_add]; exact hk2 μ1 (an_top_w e1)
    · rw [if_pos (by decide), if_pos (by decide), if_pos (nI_le (by omega) (by omega)), am_gd_in (by omega) (by omega), am_gd_in (by omega) (by omega), if_neg (by decide), if_neg (by decide), if_neg (by decide), if_pos (by decide)]
      simp only [an_bop] at hk2
      by_cases hq : μ 27 n = μ 27 (n + 1)
      · rw [if_neg (fun z => z hq), am_gd_in (by omega) (by omega)]
        rw [if_pos hq] at hk2
        intro μ1 e1; rw [nI_add, nI_add]; exact hk2 μ1 (an_top_w e1)
      · rw [if_pos hq, am_gd_in (by omega) (by omega)]
        rw [if_neg hq] at hk2
        intro μ1 e1; rw [nI_add, nI_add]; exact hk2 μ1 (an_top_w e1)
    · rw [if_pos (by decide), if_pos (by decide), if_pos (nI_le (by omega) (by omega)), am_gd_in (by omega) (by omega), am_gd_in (by omega) (by omega), if_neg (by decide), if_neg (by decide), if_pos (by decide)]
      simp only [an_bop] at hk2
      by_cases hq : μ 27 n ≤ μ 27 (n + 1)
      · rw [if_pos hq, am_gd_in (by omega) (by omega)]
        rw [if_neg (Int32.not_lt.mpr hq)] at hk2
        intro μ1 e1; rw [nI_add, nI_add]; exact hk2 μ1 (an_top_w e1)
      · rw [if_neg hq, am_gd_in (by omega) (by omega)]
        rw [if_pos (Int32.not_le.mp hq)] at hk2
        intro μ1 e1; rw [nI_add, nI_add]; exact hk2 μ1 (an_top_w e1)
    · rw [if_pos (by decide), if_pos (by decide), if_pos (nI_le (by omega) (by omega)), am_gd_in (by omega) (by omega), am_gd_in (by omega) (by omega), if_pos (by decide)]
      rw [am_gd_in (by omega) (by omega)]
      intro μ1 e1; rw [nI_add, nI_add]; exact hk2 μ1 (an_top_w e1)
    · rw [if_pos (by decide), if_pos (by decide), if_pos (nI_le (by omega) (by omega)), am_gd_in (by omega) (by omega), am_gd_in (by omega) (by omega), if_neg (by decide), if_neg (by decide), if_neg (by decide), if_neg (by decide), if_neg (by decide), if_neg (by decide), if_neg (by decide), if_neg (by decide), if_neg (by decide)]
      rw [am_gd_in (by omega) (by omega)]
      intro μ1 e1; rw [nI_add, nI_add]; exact hk2 μ1 (an_top_w e1)
  · rintro μ n p p' v ⟨hpQ, g⟩ ⟨hr, hf⟩ hn hv0 hv hk2
    obtain ⟨g1, g2, rfl⟩ := an_C3 g
    refine v_Script_run_21_6 ?_
    rw [if_neg (nI_ge (by omega : p < Q) (by omega)), am_gd_in (by omega) (by omega), am_cl (by omega)]
    simp only [hr, g1]
    rw [if_neg (an_nlt7 (by omega)), if_pos (nI_lt (by omega) (by omega)), if_neg (nI_pos (by omega)), am_gd_in (by omega) (by omega), am_cl (by omega)]
    intro μ1 e1
    have ht1 := an_top_w e1
    have hr1 : μ1 22 = r0 := (ht1.1 22 (by decide)).trans hr
    rw [nI_add, nI_add]
    refine v_Script_run_21_6 ?_
    rw [if_neg (nI_ge (by omega : p + 1 < Q) (by omega)), am_gd_in (by omega) (by omega), am_cl (by omega)]
    simp only [hr1, g2]
    have x1 : n + 1 + 1 - 1 = n + 1 := by omega
    have x2 : n + 1 + 1 - 2 = n := by omega
    have v1 : μ1 27 (n + 1) = nI v := ht1.2.2
    have v2 : μ1 27 n = μ 27 n := ht1.2.1 n (by omega)
    rw [pk_sub (by omega : 1 ≤ n + 1 + 1), pk_sub (by omega : 2 ≤ n + 1 + 1), x1, x2]
    simp only [am_cl (show n < 2147483648 by omega), am_cl (show n + 1 < 2147483648 by omega), v1, v2]
    rw [if_pos (by decide), if_pos (by decide), if_pos (nI_le (by omega) (by omega)), am_gd_in (by omega) (by omega), am_gd_in (by omega) (by omega), if_neg (by decide), if_neg (by decide), if_neg (by decide), if_neg (by decide), if_neg (by decide), if_pos (by decide), if_pos (nI_ne0 hv0 (by omega)), an_gdv (nI_ne0 hv0 (by omega)), am_gd_in (by omega) (by omega)]
    intro μ2 e2
    rw [nI_add, nI_add]
    exact hk2 μ2 (an_top_w2 ht1 (an_top_w e2))
  · rintro μ n p p' v ⟨hpQ, g⟩ ⟨hr, hf⟩ hn hk2
    obtain ⟨g1, rfl⟩ := an_C2 (by omega) (by omega) g
    have x1 : n + 1 - 1 = n := by omega
    refine v_Script_run_21_6 ?_
    rw [if_neg (nI_ge (by omega : p < Q) (by omega)), am_gd_in (by omega) (by omega), am_cl (by omega)]
    simp only [hr, g1]
    rw [pk_sub (by omega : 1 ≤ n + 1), x1]
    simp only [am_cl (show n < 2147483648 by omega)]
    rw [if_pos (by decide), if_neg (by decide), if_pos (nI_le (by omega) (by omega)), am_gd_in (by omega) (by omega), am_gd_in (by omega) (by omega), if_neg (by decide), if_pos (by decide), am_gd_in (by omega) (by omega)]
    intro μ1 e1; rw [nI_add, nI_add]; exact hk2 μ1 (an_top_w e1)
  · intro μ' hu hp hl
    refine v_Script_run_21_6 ?_
    rw [if_pos (nI_le (Nat.le_refl _) (by omega)), h1, if_neg (nI_nle (by omega) (by omega))]
    have := hF μ' hu
    rw [h1] at hl
    match h : an_ev fa sl [], hl, hp with
    | [x], hl, hp =>
      rw [h] at this
      have e : μ' 27 0 = x := hp.1
      rw [e]
      exact this
theorem an_cx_28 {L d : Nat} {F : Int32 → am_M → Prop} {r0 fa : Nat → Int32} {Q : Nat} (hQ : Q ≤ 400)
    (sl : List (Nat × Nat)) (p : Nat) (t' : List Bool) (μ : am_M) (hs : an_sq (fun p e p' => p' ≤ Q ∧ an_C false r0 p e p') p sl Q) (ht : an_ty false sl [] t') (h1 : t'.length = 1) (hw : μ 29 = r0) (hf : ∀ s, an_fs false s → μ 64 (an_fi false s) = fa s)
    (hF : ∀ μ', an_un [34] μ μ' → F (an_bot (an_ev fa sl [])) μ') : am_Ci L d 70 [.ref 28, .int (nI p), .int (nI Q), .ref 64] μ F := by
  refine v_Script_run_28 ?_
  refine an_go (J := fun μ n p => am_Ji L d 70 6 [some (.ref 28), none, some (.int (nI Q)), some (.ref 64), some (.int (nI n)), some (.int (nI p)), none, none, none, none] [] μ F) (cs := 34) (sg := false) (fa := fa) (C := fun p e p' => p' ≤ Q ∧ an_C false r0 p e p') (I := fun μ => μ 29 = r0 ∧ ∀ s, an_fs false s → μ 64 (an_fi false s) = fa s)
    ?_ ?_ ?_ ?_ ?_ ?_ sl p Q [] [] t' μ hs ht rfl trivial ⟨hw, hf⟩ ?_
  · intro μ μ' hu hi
    exact ⟨(hu 29 (by decide)).trans hi.1, fun s hs => by rw [hu 64 (by decide)]; exact hi.2 s hs⟩
  · rintro μ n p p' v ⟨hpQ, g⟩ ⟨hr, hf⟩ hn hv hk2
    obtain ⟨g1, rfl⟩ := an_C0 g
    refine v_Script_run_28_6 ?_
    rw [if_neg (nI_ge (by omega : p < Q) (by omega)), am_gd_in (by omega) (by omega), am_cl (by omega)]
    simp only [hr, g1]
    rw [if_neg (an_nlt7 (by omega)), if_pos (nI_lt (by omega) (by omega)), if_neg (nI_pos (by omega)), am_gd_in (by omega) (by omega), am_cl (by omega)]
    intro μ1 e1; rw [nI_add, nI_add]; exact hk2 μ1 (an_top_w e1)
  · rintro μ n p p' s v ⟨hpQ, g⟩ ⟨hr, hf⟩ hn hs hk2
    obtain ⟨g1, rfl⟩ := an_C1 hs g
    have hi := an_fi_lt hs
    obtain ⟨z1, z2, z3⟩ := an_ngf _ hi
    have hfs := hf s hs
    refine v_Script_run_28_6 ?_
    rw [if_neg (nI_ge (by omega : p < Q) (by omega)), am_gd_in (by omega) (by omega), am_cl (by omega)]
    simp only [hr, g1]
    rw [if_neg z2, if_pos (nI_lt (by omega) (by omega)), if_pos z3, z1, am_gd_in (by omega) (by omega), am_gd_in (by omega) (by omega), am_cl (by omega), am_cl (by omega), hfs]
    intro μ1 e1; rw [nI_add, nI_add]; exact hk2 μ1 (an_top_w e1)
  · rintro μ n p p' s v ⟨hpQ, g⟩ ⟨hr, hf⟩ hn hs hk2
    obtain ⟨g1, rfl⟩ := an_C2 (by omega) (by omega) g
    have x1 : n + 2 - 1 = n + 1 := by omega
    have x2 : n + 2 - 2 = n := by omega
    refine v_Script_run_28_6 ?_
    rw [if_neg (nI_ge (by omega : p < Q) (by omega)), am_gd_in (by omega) (by omega), am_cl (by omega)]
    simp only [hr, g1]
    rw [pk_sub (by omega : 1 ≤ n + 2), pk_sub (by omega : 2 ≤ n + 2), x1, x2]
    simp only [am_cl (show n < 2147483648 by omega), am_cl (show n + 1 < 2147483648 by omega)]
    rcases hs with rfl | rfl | rfl | rfl | rfl | rfl | rfl | rfl
    · rw [if_pos (by decide), if_pos (by decide), if_pos (nI_le (by omega) (by omega)), am_gd_in (by omega) (by omega), am_gd_in (by omega) (by omega), if_neg (by decide), if_neg (by decide), if_neg (by decide), if_neg (by decide), if_neg (by decide), if_neg (by decide), if_neg (by decide), if_neg (by decide), if_pos (by decide)]
      rw [am_gd_in (by omega) (by omega)]
      intro μ1 e1; rw [nI_add, nI_add]; exact hk2 μ1 (an_top_w e1)
    · rw [if_pos (by decide), if_pos (by decide), if_pos (nI_le (by omega) (by omega)), am_gd_in (by omega) (by omega), am_gd_in (by omega) (by omega), if_neg (by decide), if_neg (by decide), if_neg (by decide), if_neg (by decide), if_neg (by decide), if_neg (by decide), if_neg (by decide), if_pos (by decide)]
      rw [am_gd_in (by omega) (by omega)]
      intro μ1 e1; rw [nI_add, nI_add]; exact hk2 μ1 (an_top_w e1)
    · rw [if_pos (by decide), if_pos (by decide), if_pos (nI_le (by omega) (by omega)), am_gd_in (by omega) (by omega), am_gd_in (by omega) (by omega), if_neg (by decide), if_neg (by decide), if_neg (by decide), if_neg (by decide), if_neg (by decide), if_neg (by decide), if_pos (by decide)]
      rw [am_gd_in (by omega) (by omega)]
      intro μ1 e1; rw [nI_add, nI_add]; exact hk2 μ1 (an_top_w e1)
    · rw [if_pos (by decide), if_pos (by decide), if_pos (nI_le (by omega) (by omega)), am_gd_in (by omega) (by omega), am_gd_in (by omega) (by omega), if_neg (by decide), if_neg (by decide), if_neg (by decide), if_neg (by decide), if_pos (by decide)]
      simp only [an_bop] at hk2
      by_cases hq : μ 34 (n + 1) ≤ μ 34 n
      · rw [if_pos hq, am_gd_in (by omega) (by omega)]
        rw [if_neg (Int32.not_lt.mpr hq)] at hk2
        intro μ1 e1; rw [nI_add, nI_add]; exact hk2 μ1 (an_top_w e1)
      · rw [if_neg hq, am_gd_in (by omega) (by omega)]
        rw [if_pos (Int32.not_le.mp hq)] at hk2
        intro μ1 e1; rw [nI_add, nI_add]; exact hk2 μ1 (an_top_w e1)
    · rw [if_pos (by decide), if_pos (by decide), if_pos (nI_le (by omega) (by omega)), am_gd_in (by omega) (by omega), am_gd_in (by omega) (by omega), if_neg (by decide), if_neg (by decide), if_neg (by decide), if_pos (by decide)]
      simp only [an_bop] at hk2
      by_cases hq : μ 34 n = μ 34 (n + 1)
      · rw [if_neg (fun z => z hq), am_gd_in (by omega) (by omega)]
        rw [if_pos hq] at hk2
        intro μ1 e1; rw [nI_add, nI_add]; exact hk2 μ1 (an_top_w e1)
      · rw [if_pos hq, am_gd_in (by omega) (by omega)]
        rw [if_neg hq] at hk2
        intro μ1 e1; rw [nI_add, nI_add]; exact hk2 μ1 (an_top_w e1)
    · rw [if_pos (by decide), if_pos (by decide), if_pos (nI_le (by omega) (by omega)), am_gd_in (by omega) (by omega), am_gd_in (by omega) (by omega), if_neg (by decide), if_neg (by decide), if_pos (by decide)]
      simp only [an_bop] at hk2
      by_cases hq : μ 34 n ≤ μ 34 (n + 1)
      · rw [if_pos hq, am_gd_in (by omega) (by omega)]
        rw [if_neg (Int32.not_lt.mpr hq)] at hk2
        intro μ1 e1; rw [nI_add, nI_add]; exact hk2 μ1 (an_top_w e1)
      · rw [if_neg hq, am_gd_in (by omega) (by omega)]
        rw [if_pos (Int32.not_le.mp hq)] at hk2
        intro μ1 e1; rw [nI_add, nI_add]; exact hk2 μ1 (an_top_w e1)
    · rw [if_pos (by decide), if_pos (by decide), if_pos (nI_le (by omega) (by omega)), am_gd_in (by omega) (by omega), am_gd_in (by omega) (by omega), if_pos (by decide)]
      rw [am_gd_in (by omega) (by omega)]
      intro μ1 e1; rw [nI_add, nI_add]; exact hk2 μ1 (an_top_w e1)
    · rw [if_pos (by decide), if_pos (by decide), if_pos (nI_le (by omega) (by omega)), am_gd_in (by omega) (by omega), am_gd_in (by omega) (by omega), if_neg (by decide), if_neg (by decide), if_neg (by decide), if_neg (by decide), if_neg (by decide), if_neg (by decide), if_neg (by decide), if_neg (by decide), if_neg (by decide)]
      rw [am_gd_in (by omega) (by omega)]
      intro μ1 e1; rw [nI_add, nI_add]; exact hk2 μ1 (an_top_w e1)
  · rintro μ n p p' v ⟨hpQ, g⟩ ⟨hr, hf⟩ hn hv0 hv hk2
    obtain ⟨g1, g2, rfl⟩ := an_C3 g
    refine v_Script_run_28_6 ?_
    rw [if_neg (nI_ge (by omega : p < Q) (by omega)), am_gd_in (by omega) (by omega), am_cl (by omega)]
    simp only [hr, g1]
    rw [if_neg (an_nlt7 (by omega)), if_pos (nI_lt (by omega) (by omega)), if_neg (nI_pos (by omega)), am_gd_in (by omega) (by omega), am_cl (by omega)]
    intro μ1 e1
    have ht1 := an_top_w e1
    have hr1 : μ1 29 = r0 := (ht1.1 29 (by decide)).trans hr
    rw [nI_add, nI_add]
    refine v_Script_run_28_6 ?_
    rw [if_neg (nI_ge (by omega : p + 1 < Q) (by omega)), am_gd_in (by omega) (by omega), am_cl (by omega)]
    simp only [hr1, g2]
    have x1 : n + 1 + 1 - 1 = n + 1 := by omega
    have x2 : n + 1 + 1 - 2 = n := by omega
    have v1 : μ1 34 (n + 1) = nI v := ht1.2.2
    have v2 : μ1 34 n = μ 34 n := ht1.2.1 n (by omega)
    rw [pk_sub (by omega : 1 ≤ n + 1 + 1), pk_sub (by omega : 2 ≤ n + 1 + 1), x1, x2]
    simp only [am_cl (show n < 2147483648 by omega), am_cl (show n + 1 < 2147483648 by omega), v1, v2]
    rw [if_pos (by decide), if_pos (by decide), if_pos (nI_le (by omega) (by omega)), am_gd_in (by omega) (by omega), am_gd_in (by omega) (by omega), if_neg (by decide), if_neg (by decide), if_neg (by decide), if_neg (by decide), if_neg (by decide), if_pos (by decide), if_pos (nI_ne0 hv0 (by omega)), an_gdv (nI_ne0 hv0 (by omega)), am_gd_in (by omega) (by omega)]
    intro μ2 e2
    rw [nI_add, nI_add]
    exact hk2 μ2 (an_top_w2 ht1 (an_top_w e2))
  · rintro μ n p p' v ⟨hpQ, g⟩ ⟨hr, hf⟩ hn hk2
    obtain ⟨g1, rfl⟩ := an_C2 (by omega) (by omega) g
    have x1 : n + 1 - 1 = n := by omega
    refine v_Script_run_28_6 ?_
    rw [if_neg (nI_ge (by omega : p < Q) (by omega)), am_gd_in (by omega) (by omega), am_cl (by omega)]
    simp only [hr, g1]
    rw [pk_sub (by omega : 1 ≤ n + 1), x1]
    simp only [am_cl (show n < 2147483648 by omega)]
    rw [if_pos (by decide), if_neg (by decide), if_pos (nI_le (by omega) (by omega)), am_gd_in (by omega) (by omega), am_gd_in (by omega) (by omega), if_neg (by decide), if_pos (by decide), am_gd_in (by omega) (by omega)]
    intro μ1 e1; rw [nI_add, nI_add]; exact hk2 μ1 (an_top_w e1)
  · intro μ' hu hp hl
    refine v_Script_run_28_6 ?_
    rw [if_pos (nI_le (Nat.le_refl _) (by omega)), h1, if_neg (nI_nle (by omega) (by omega))]
    have := hF μ' hu
    rw [h1] at hl
    match h : an_ev fa sl [], hl, hp with
    | [x], hl, hp =>
      rw [h] at this
      have e : μ' 34 0 = x := hp.1
      rw [e]
      exact this
theorem an_cx_35 {L d : Nat} {F : Int32 → am_M → Prop} {r0 fa : Nat → Int32} {Q : Nat} (hQ : Q ≤ 400)
    (sl : List (Nat × Nat)) (p : Nat) (t' : List Bool) (μ : am_M) (hs : an_sq (fun p e p' => p' ≤ Q ∧ an_C false r0 p e p') p sl Q) (ht : an_ty false sl [] t') (h1 : t'.length = 1) (hw : μ 36 = r0) (hf : ∀ s, an_fs false s → μ 64 (an_fi false s) = fa s)
    (hF : ∀ μ', an_un [41] μ μ' → F (an_bot (an_ev fa sl [])) μ') : am_Ci L d 70 [.ref 35, .int (nI p), .int (nI Q), .ref 64] μ F := by
  refine v_Script_run_35 ?_
  refine an_go (J := fun μ n p => am_Ji L d 70 6 [some (.ref 35), none, some (.int (nI Q)), some (.ref 64), some (.int (nI n)), some (.int (nI p)), none, none, none, none] [] μ F) (cs := 41) (sg := false) (fa := fa) (C := fun p e p' => p' ≤ Q ∧ an_C false r0 p e p') (I := fun μ => μ 36 = r0 ∧ ∀ s, an_fs false s → μ 64 (an_fi false s) = fa s)
    ?_ ?_ ?_ ?_ ?_ ?_ sl p Q [] [] t' μ hs ht rfl trivial ⟨hw, hf⟩ ?_
  · intro μ μ' hu hi
    exact ⟨(hu 36 (by decide)).trans hi.1, fun s hs => by rw [hu 64 (by decide)]; exact hi.2 s hs⟩
  · rintro μ n p p' v ⟨hpQ, g⟩ ⟨hr, hf⟩ hn hv hk2
    obtain ⟨g1, rfl⟩ := an_C0 g
    refine v_Script_run_35_6 ?_
    rw [if_neg (nI_ge (by omega : p < Q) (by omega)), am_gd_in (by omega) (by omega), am_cl (by omega)]
    simp only [hr, g1]
    rw [if_neg (an_nlt7 (by omega)), if_pos (nI_lt (by omega) (by omega)), if_neg (nI_pos (by omega)), am_gd_in (by omega) (by omega), am_cl (by omega)]
    intro μ1 e1; rw [nI_add, nI_add]; exact hk2 μ1 (an_top_w e1)
  · rintro μ n p p' s v ⟨hpQ, g⟩ ⟨hr, hf⟩ hn hs hk2
    obtain ⟨g1, rfl⟩ := an_C1 hs g
    have hi := an_fi_lt hs
    obtain ⟨z1, z2, z3⟩ := an_ngf _ hi
    have hfs := hf s hs
    refine v_Script_run_35_6 ?_
    rw [if_neg (nI_ge (by omega : p < Q) (by omega)), am_gd_in (by omega) (by omega), am_cl (by omega)]
    simp only [hr, g1]
    rw [if_neg z2, if_pos (nI_lt (by omega) (by omega)), if_pos z3, z1, am_gd_in (by omega) (by omega), am_gd_in (by omega) (by omega), am_cl (by omega), am_cl (by omega), hfs]
    intro μ1 e1; rw [nI_add, nI_add]; exact hk2 μ1 (an_top_w e1)
  · rintro μ n p p' s v ⟨hpQ, g⟩ ⟨hr, hf⟩ hn hs hk2
    obtain ⟨g1, rfl⟩ := an_C2 (by omega) (by omega) g
    have x1 : n + 2 - 1 = n + 1 := by omega
    have x2 : n + 2 - 2 = n := by omega
    refine v_Script_run_35_6 ?_
    rw [if_neg (nI_ge (by omega : p < Q) (by omega)), am_gd_in (by omega) (by omega), am_cl (by omega)]
    simp only [hr, g1]
    rw [pk_sub (by omega : 1 ≤ n + 2), pk_sub (by omega : 2 ≤ n + 2), x1, x2]
    simp only [am_cl (show n < 2147483648 by omega), am_cl (show n + 1 < 2147483648 by omega)]
    rcases hs with rfl | rfl | rfl | rfl | rfl | rfl | rfl | rfl
    · rw [if_pos (by decide), if_pos (by decide), if_pos (nI_le (by omega) (by omega)), am_gd_in (by omega) (by omega), am_gd_in (by omega) (by omega), if_neg (by decide), if_neg (by decide), if_neg (by decide), if_neg (by decide), if_neg (by decide), if_neg (by decide), if_neg (by decide), if_neg (by decide), if_pos (by decide)]
      rw [am_gd_in (by omega) (by omega)]
      intro μ1 e1; rw [nI_add, nI_add]; exact hk2 μ1 (an_top_w e1)
    · rw [if_pos (by decide), if_pos (by decide), if_pos (nI_le (by omega) (by omega)), am_gd_in (by omega) (by omega), am_gd_in (by omega) (by omega), if_neg (by decide), if_neg (by decide), if_neg (by decide), if_neg (by decide), if_neg (by decide), if_neg (by decide), if_neg (by decide), if_pos (by decide)]
      rw [am_gd_in (by omega) (by omega)]
      intro μ1 e1; rw [nI_add, nI_add]; exact hk2 μ1 (an_top_w e1)
    · rw [if_pos (by decide), if_pos (by decide), if_pos (nI_le (by omega) (by omega)), am_gd_in (by omega) (by omega), am_gd_in (by omega) (by omega), if_neg (by decide), if_neg (by decide), if_neg (by decide), if_neg (by decide), if_neg (by decide), if_neg (by decide), if_pos (by decide)]
      rw [am_gd_in (by omega) (by omega)]
      intro μ1 e1; rw [nI_add, nI_add]; exact hk2 μ1 (an_top_w e1)
    · rw [if_pos (by decide), if_pos (by decide), if_pos (nI_le (by omega) (by omega)), am_gd_in (by omega) (by omega), am_gd_in (by omega) (by omega), if_neg (by decide), if_neg (by decide), if_neg (by decide), if_neg (by decide), if_pos (by decide)]
      simp only [an_bop] at hk2
      by_cases hq : μ 41 (n + 1) ≤ μ 41 n
      · rw [if_pos hq, am_gd_in (by omega) (by omega)]
        rw [if_neg (Int32.not_lt.mpr hq)] at hk2
        intro μ1 e1; rw [nI_add, nI_add]; exact hk2 μ1 (an_top_w e1)
      · rw [if_neg hq, am_gd_in (by omega) (by omega)]
        rw [if_pos (Int32.not_le.mp hq)] at hk2
        intro μ1 e1; rw [nI_add, nI_add]; exact hk2 μ1 (an_top_w e1)
    · rw [if_pos (by decide), if_pos (by decide), if_pos (nI_le (by omega) (by omega)), am_gd_in (by omega) (by omega), am_gd_in (by omega) (by omega), if_neg (by decide), if_neg (by decide), if_neg (by decide), if_pos (by decide)]
      simp only [an_bop] at hk2
      by_cases hq : μ 41 n = μ 41 (n + 1)
      · rw [if_neg (fun z => z hq), am_gd_in (by omega) (by omega)]
        rw [if_pos hq] at hk2
        intro μ1 e1; rw [nI_add, nI_add]; exact hk2 μ1 (an_top_w e1)
      · rw [if_pos hq, am_gd_in (by omega) (by omega)]
        rw [if_neg hq] at hk2
        intro μ1 e1; rw [nI_add, nI_add]; exact hk2 μ1 (an_top_w e1)
    · rw [if_pos (by decide), if_pos (by decide), if_pos (nI_le (by omega) (by omega)), am_gd_in (by omega) (by omega), am_gd_in (by omega) (by omega), if_neg (by decide), if_neg (by decide), if_pos (by decide)]
      simp only [an_bop] at hk2
      by_cases hq : μ 41 n ≤ μ 41 (n + 1)
      · rw [if_pos hq, am_gd_in (by omega) (by omega)]
        rw [if_neg (Int32.not_lt.mpr hq)] at hk2
        intro μ1 e1; rw [nI_add, nI_add]; exact hk2 μ1 (an_top_w e1)
      · rw [if_neg hq, am_gd_in (by omega) (by omega)]
        rw [if_pos (Int32.not_le.mp hq)] at hk2
        intro μ1 e1; rw [nI_add, nI_add]; exact hk2 μ1 (an_top_w e1)
    · rw [if_pos (by decide), if_pos (by decide), if_pos (nI_le (by omega) (by omega)), am_gd_in (by omega) (by omega), am_gd_in (by omega) (by omega), if_pos (by decide)]
      rw [am_gd_in (by omega) (by omega)]
      intro μ1 e1; rw [nI_add, nI_add]; exact hk2 μ1 (an_top_w e1)
    · rw [if_pos (by decide), if_pos (by decide), if_pos (nI_le (by omega) (by omega)), am_gd_in (by omega) (by omega), am_gd_in (by omega) (by omega), if_neg (by decide), if_neg (by decide), if_neg (by decide), if_neg (by decide), if_neg (by decide), if_neg (by decide), if_neg (by decide), if_neg (by decide), if_neg (by decide)]
      rw [am_gd_in (by omega) (by omega)]
      intro μ1 e1; rw [nI_add, nI_add]; exact hk2 μ1 (an_top_w e1)
  · rintro μ n p p' v ⟨hpQ, g⟩ ⟨hr, hf⟩ hn hv0 hv hk2
    obtain ⟨g1, g2, rfl⟩ := an_C3 g
    refine v_Script_run_35_6 ?_
    rw [if_neg (nI_ge (by omega : p < Q) (by omega)), am_gd_in (by omega) (by omega), am_cl (by omega)]
    simp only [hr, g1]
    rw [if_neg (an_nlt7 (by omega)), if_pos (nI_lt (by omega) (by omega)), if_neg (nI_pos (by omega)), am_gd_in (by omega) (by omega), am_cl (by omega)]
    intro μ1 e1
    have ht1 := an_top_w e1
    have hr1 : μ1 36 = r0 := (ht1.1 36 (by decide)).trans hr
    rw [nI_add, nI_add]
    refine v_Script_run_35_6 ?_
    rw [if_neg (nI_ge (by omega : p + 1 < Q) (by omega)), am_gd_in (by omega) (by omega), am_cl (by omega)]
    simp only [hr1, g2]
    have x1 : n + 1 + 1 - 1 = n + 1 := by omega
    have x2 : n + 1 + 1 - 2 = n := by omega
    have v1 : μ1 41 (n + 1) = nI v := ht1.2.2
    have v2 : μ1 41 n = μ 41 n := ht1.2.1 n (by omega)
    rw [pk_sub (by omega : 1 ≤ n + 1 + 1), pk_sub (by omega : 2 ≤ n + 1 + 1), x1, x2]
    simp only [am_cl (show n < 2147483648 by omega), am_cl (show n + 1 < 2147483648 by omega), v1, v2]
    rw [if_pos (by decide), if_pos (by decide), if_pos (nI_le (by omega) (by omega)), am_gd_in (by omega) (by omega), am_gd_in (by omega) (by omega), if_neg (by decide), if_neg (by decide), if_neg (by decide), if_neg (by decide), if_neg (by decide), if_pos (by decide), if_pos (nI_ne0 hv0 (by omega)), an_gdv (nI_ne0 hv0 (by omega)), am_gd_in (by omega) (by omega)]
    intro μ2 e2
    rw [nI_add, nI_add]
    exact hk2 μ2 (an_top_w2 ht1 (an_top_w e2))
  · rintro μ n p p' v ⟨hpQ, g⟩ ⟨hr, hf⟩ hn hk2
    obtain ⟨g1, rfl⟩ := an_C2 (by omega) (by omega) g
    have x1 : n + 1 - 1 = n := by omega
    refine v_Script_run_35_6 ?_
    rw [if_neg (nI_ge (by omega : p < Q) (by omega)), am_gd_in (by omega) (by omega), am_cl (by omega)]
    simp only [hr, g1]
    rw [pk_sub (by omega : 1 ≤ n + 1), x1]
    simp only [am_cl (show n < 2147483648 by omega)]
    rw [if_pos (by decide), if_neg (by decide), if_pos (nI_le (by omega) (by omega)), am_gd_in (by omega) (by omega), am_gd_in (by omega) (by omega), if_neg (by decide), if_pos (by decide), am_gd_in (by omega) (by omega)]
    intro μ1 e1; rw [nI_add, nI_add]; exact hk2 μ1 (an_top_w e1)
  · intro μ' hu hp hl
    refine v_Script_run_35_6 ?_
    rw [if_pos (nI_le (Nat.le_refl _) (by omega)), h1, if_neg (nI_nle (by omega) (by omega))]
    have := hF μ' hu
    rw [h1] at hl
    match h : an_ev fa sl [], hl, hp with
    | [x], hl, hp =>
      rw [h] at this
      have e : μ' 41 0 = x := hp.1
      rw [e]
      exact this
theorem an_cx_42 {L d : Nat} {F : Int32 → am_M → Prop} {r0 fa : Nat → Int32} {Q : Nat} (hQ : Q ≤ 400)
    (sl : List (Nat × Nat)) (p : Nat) (t' : List Bool) (μ : am_M) (hs : an_sq (fun p e p' => p' ≤ Q ∧ an_C false r0 p e p') p sl Q) (ht : an_ty false sl [] t') (h1 : t'.length = 1) (hw : μ 43 = r0) (hf : ∀ s, an_fs false s → μ 64 (an_fi false s) = fa s)
    (hF : ∀ μ', an_un [48] μ μ' → F (an_bot (an_ev fa sl [])) μ') : am_Ci L d 70 [.ref 42, .int (nI p), .int (nI Q), .ref 64] μ F := by
  refine v_Script_run_42 ?_
  refine an_go (J := fun μ n p => am_Ji L d 70 6 [some (.ref 42), none, some (.int (nI Q)), some (.ref 64), some (.int (nI n)), some (.int (nI p)), none, none, none, none] [] μ F) (cs := 48) (sg := false) (fa := fa) (C := fun p e p' => p' ≤ Q ∧ an_C false r0 p e p') (I := fun μ => μ 43 = r0 ∧ ∀ s, an_fs false s → μ 64 (an_fi false s) = fa s)
    ?_ ?_ ?_ ?_ ?_ ?_ sl p Q [] [] t' μ hs ht rfl trivial ⟨hw, hf⟩ ?_
  · intro μ μ' hu hi
    exact ⟨(hu 43 (by decide)).trans hi.1, fun s hs => by rw [hu 64 (by decide)]; exact hi.2 s hs⟩
  · rintro μ n p p' v ⟨hpQ, g⟩ ⟨hr, hf⟩ hn hv hk2
    obtain ⟨g1, rfl⟩ := an_C0 g
    refine v_Script_run_42_6 ?_
    rw [if_neg (nI_ge (by omega : p < Q) (by omega)), am_gd_in (by omega) (by omega), am_cl (by omega)]
    simp only [hr, g1]
    rw [if_neg (an_nlt7 (by omega)), if_pos (nI_lt (by omega) (by omega)), if_neg (nI_pos (by omega)), am_gd_in (by omega) (by omega), am_cl (by omega)]
    intro μ1 e1; rw [nI_add, nI_add]; exact hk2 μ1 (an_top_w e1)
  · rintro μ n p p' s v ⟨hpQ, g⟩ ⟨hr, hf⟩ hn hs hk2
    obtain ⟨g1, rfl⟩ := an_C1 hs g
    have hi := an_fi_lt hs
    obtain ⟨z1, z2, z3⟩ := an_ngf _ hi
    have hfs := hf s hs
    refine v_Script_run_42_6 ?_
    rw [if_neg (nI_ge (by omega : p < Q) (by omega)), am_gd_in (by omega) (by omega), am_cl (by omega)]
    simp only [hr, g1]
    rw [if_neg z2, if_pos (nI_lt (by omega) (by omega)), if_pos z3, z1, am_gd_in (by omega) (by omega), am_gd_in (by omega) (by omega), am_cl (by omega), am_cl (by omega), hfs]
    intro μ1 e1; rw [nI_add, nI_add]; exact hk2 μ1 (an_top_w e1)
  · rintro μ n p p' s v ⟨hpQ, g⟩ ⟨hr, hf⟩ hn hs hk2
    obtain ⟨g1, rfl⟩ := an_C2 (by omega) (by omega) g
    have x1 : n + 2 - 1 = n + 1 := by omega
    have x2 : n + 2 - 2 = n := by omega
    refine v_Script_run_42_6 ?_
    rw [if_neg (nI_ge (by omega : p < Q) (by omega)), am_gd_in (by omega) (by omega), am_cl (by omega)]
    simp only [hr, g1]
    rw [pk_sub (by omega : 1 ≤ n + 2), pk_sub (by omega : 2 ≤ n + 2), x1, x2]
    simp only [am_cl (show n < 2147483648 by omega), am_cl (show n + 1 < 2147483648 by omega)]
    rcases hs with rfl | rfl | rfl | rfl | rfl | rfl | rfl | rfl
    · rw [if_pos (by decide), if_pos (by decide), if_pos (nI_le (by omega) (by omega)), am_gd_in (by omega) (by omega), am_gd_in (by omega) (by omega), if_neg (by decide), if_neg (by decide), if_neg (by decide), if_neg (by decide), if_neg (by decide), if_neg (by decide), if_neg (by decide), if_neg (by decide), if_pos (by decide)]
      rw [am_gd_in (by omega) (by omega)]
      intro μ1 e1; rw [nI_add, nI_add]; exact hk2 μ1 (an_top_w e1)
    · rw [if_pos (by decide), if_pos (by decide), if_pos (nI_le (by omega) (by omega)), am_gd_in (by omega) (by omega), am_gd_in (by omega) (by omega), if_neg (by decide), if_neg (by decide), if_neg (by decide), if_neg (by decide), if_neg (by decide), if_neg (by decide), if_neg (by decide), if_pos (by decide)]
      rw [am_gd_in (by omega) (by omega)]
      intro μ1 e1; rw [nI_add, nI_add]; exact hk2 μ1 (an_top_w e1)
    · rw [if_pos (by decide), if_pos (by decide), if_pos (nI_le (by omega) (by omega)), am_gd_in (by omega) (by omega), am_gd_in (by omega) (by omega), if_neg (by decide), if_neg (by decide), if_neg (by decide), if_neg (by decide), if_neg (by decide), if_neg (by decide), if_pos (by decide)]
      rw [am_gd_in (by omega) (by omega)]
      intro μ1 e1; rw [nI_add, nI_add]; exact hk2 μ1 (an_top_w e1)
    · rw [if_pos (by decide), if_pos (by decide), if_pos (nI_le (by omega) (by omega)), am_gd_in (by omega) (by omega), am_gd_in (by omega) (by omega), if_neg (by decide), if_neg (by decide), if_neg (by decide), if_neg (by decide), if_pos (by decide)]
      simp only [an_bop] at hk2
      by_cases hq : μ 48 (n + 1) ≤ μ 48 n
      · rw [if_pos hq, am_gd_in (by omega) (by omega)]
        rw [if_neg (Int32.not_lt.mpr hq)] at hk2
        intro μ1 e1; rw [nI_add, nI_add]; exact hk2 μ1 (an_top_w e1)
      · rw [if_neg hq, am_gd_in (by omega) (by omega)]
        rw [if_pos (Int32.not_le.mp hq)] at hk2
        intro μ1 e1; rw [nI_add, nI_add]; exact hk2 μ1 (an_top_w e1)
    · rw [if_pos (by decide), if_pos (by decide), if_pos (nI_le (by omega) (by omega)), am_gd_in (by omega) (by omega), am_gd_in (by omega) (by omega), if_neg (by decide), if_neg (by decide), if_neg (by decide), if_pos (by decide)]
      simp only [an_bop] at hk2
      by_cases hq : μ 48 n = μ 48 (n + 1)
      · rw [if_neg (fun z => z hq), am_gd_in (by omega) (by omega)]
        rw [if_pos hq] at hk2
        intro μ1 e1; rw [nI_add, nI_add]; exact hk2 μ1 (an_top_w e1)
      · rw [if_pos hq, am_gd_in (by omega) (by omega)]
        rw [if_neg hq] at hk2
        intro μ1 e1; rw [nI_add, nI_add]; exact hk2 μ1 (an_top_w e1)
    · rw [if_pos (by decide), if_pos (by decide), if_pos (nI_le (by omega) (by omega)), am_gd_in (by omega) (by omega), am_gd_in (by omega) (by omega), if_neg (by decide), if_neg (by decide), if_pos (by decide)]
      simp only [an_bop] at hk2
      by_cases hq : μ 48 n ≤ μ 48 (n + 1)
      · rw [if_pos hq, am_gd_in (by omega) (by omega)]
        rw [if_neg (Int32.not_lt.mpr hq)] at hk2
        intro μ1 e1; rw [nI_add, nI_add]; exact hk2 μ1 (an_top_w e1)
      · rw [if_neg hq, am_gd_in (by omega) (by omega)]
        rw [if_pos (Int32.not_le.mp hq)] at hk2
        intro μ1 e1; rw [nI_add, nI_add]; exact hk2 μ1 (an_top_w e1)
    · rw [if_pos (by decide), if_pos (by decide), if_pos (nI_le (by omega) (by omega)), am_gd_in (by omega) (by omega), am_gd_in (by omega) (by omega), if_pos (by decide)]
      rw [am_gd_in (by omega) (by omega)]
      intro μ1 e1; rw [nI_add, nI_add]; exact hk2 μ1 (an_top_w e1)
    · rw [if_pos (by decide), if_pos (by decide), if_pos (nI_le (by omega) (by omega)), am_gd_in (by omega) (by omega), am_gd_in (by omega) (by omega), if_neg (by decide), if_neg (by decide), if_neg (by decide), if_neg (by decide), if_neg (by decide), if_neg (by decide), if_neg (by decide), if_neg (by decide), if_neg (by decide)]
      rw [am_gd_in (by omega) (by omega)]
      intro μ1 e1; rw [nI_add, nI_add]; exact hk2 μ1 (an_top_w e1)
  · rintro μ n p p' v ⟨hpQ, g⟩ ⟨hr, hf⟩ hn hv0 hv hk2
    obtain ⟨g1, g2, rfl⟩ := an_C3 g
    refine v_Script_run_42_6 ?_
    rw [if_neg (nI_ge (by omega : p < Q) (by omega)), am_gd_in (by omega) (by omega), am_cl (by omega)]
    simp only [hr, g1]
    rw [if_neg (an_nlt7 (by omega)), if_pos (nI_lt (by omega) (by omega)), if_neg (nI_pos (by omega)), am_gd_in (by omega) (by omega), am_cl (by omega)]
    intro μ1 e1
    have ht1 := an_top_w e1
    have hr1 : μ1 43 = r0 := (ht1.1 43 (by decide)).trans hr
    rw [nI_add, nI_add]
    refine v_Script_run_42_6 ?_
    rw [if_neg (nI_ge (by omega : p + 1 < Q) (by omega)), am_gd_in (by omega) (by omega), am_cl (by omega)]
    simp only [hr1, g2]
    have x1 : n + 1 + 1 - 1 = n + 1 := by omega
    have x2 : n + 1 + 1 - 2 = n := by omega
    have v1 : μ1 48 (n + 1) = nI v := ht1.2.2
    have v2 : μ1 48 n = μ 48 n := ht1.2.1 n (by omega)
    rw [pk_sub (by omega : 1 ≤ n + 1 + 1), pk_sub (by omega : 2 ≤ n + 1 + 1), x1, x2]
    simp only [am_cl (show n < 2147483648 by omega), am_cl (show n + 1 < 2147483648 by omega), v1, v2]
    rw [if_pos (by decide), if_pos (by decide), if_pos (nI_le (by omega) (by omega)), am_gd_in (by omega) (by omega), am_gd_in (by omega) (by omega), if_neg (by decide), if_neg (by decide), if_neg (by decide), if_neg (by decide), if_neg (by decide), if_pos (by decide), if_pos (nI_ne0 hv0 (by omega)), an_gdv (nI_ne0 hv0 (by omega)), am_gd_in (by omega) (by omega)]
    intro μ2 e2
    rw [nI_add, nI_add]
    exact hk2 μ2 (an_top_w2 ht1 (an_top_w e2))
  · rintro μ n p p' v ⟨hpQ, g⟩ ⟨hr, hf⟩ hn hk2
    obtain ⟨g1, rfl⟩ := an_C2 (by omega) (by omega) g
    have x1 : n + 1 - 1 = n := by omega
    refine v_Script_run_42_6 ?_
    rw [if_neg (nI_ge (by omega : p < Q) (by omega)), am_gd_in (by omega) (by omega), am_cl (by omega)]
    simp only [hr, g1]
    rw [pk_sub (by omega : 1 ≤ n + 1), x1]
    simp only [am_cl (show n < 2147483648 by omega)]
    rw [if_pos (by decide), if_neg (by decide), if_pos (nI_le (by omega) (by omega)), am_gd_in (by omega) (by omega), am_gd_in (by omega) (by omega), if_neg (by decide), if_pos (by decide), am_gd_in (by omega) (by omega)]
    intro μ1 e1; rw [nI_add, nI_add]; exact hk2 μ1 (an_top_w e1)
  · intro μ' hu hp hl
    refine v_Script_run_42_6 ?_
    rw [if_pos (nI_le (Nat.le_refl _) (by omega)), h1, if_neg (nI_nle (by omega) (by omega))]
    have := hF μ' hu
    rw [h1] at hl
    match h : an_ev fa sl [], hl, hp with
    | [x], hl, hp =>
      rw [h] at this
      have e : μ' 48 0 = x := hp.1
      rw [e]
      exact this
theorem an_cx_21T {L d : Nat} {F : Int32 → am_M → Prop} {r0 fa : Nat → Int32} {Q : Nat} (hQ : Q ≤ 400)
    (sl : List (Nat × Nat)) (p : Nat) (t' : List Bool) (μ : am_M) (hs : an_sq (fun p e p' => p' ≤ Q ∧ an_C false r0 p e p') p sl Q) (ht : an_ty false sl [] t') (h1 : t'.length = 1) (hw : μ 22 = r0) (hf : ∀ s, an_fs false s → μ 130 (an_fi false s) = fa s)
    (hF : ∀ μ', an_un [27] μ μ' → F (an_bot (an_ev fa sl [])) μ') : am_Ci L d 70 [.ref 21, .int (nI p), .int (nI Q), .ref 130] μ F := by
  refine v_Script_run_21T ?_
  refine an_go (J := fun μ n p => am_Ji L d 70 6 [some (.ref 21), none, some (.int (nI Q)), some (.ref 130), some (.int (nI n)), some (.int (nI p)), none, none, none, none] [] μ F) (cs := 27) (sg := false) (fa := fa) (C := fun p e p' => p' ≤ Q ∧ an_C false r0 p e p') (I := fun μ => μ 22 = r0 ∧ ∀ s, an_fs false s → μ 130 (an_fi false s) = fa s)
    ?_ ?_ ?_ ?_ ?_ ?_ sl p Q [] [] t' μ hs ht rfl trivial ⟨hw, hf⟩ ?_
  · intro μ μ' hu hi
    exact ⟨(hu 22 (by decide)).trans hi.1, fun s hs => by rw [hu 130 (by decide)]; exact hi.2 s hs⟩
  · rintro μ n p p' v ⟨hpQ, g⟩ ⟨hr, hf⟩ hn hv hk2
    obtain ⟨g1, rfl⟩ := an_C0 g
    refine v_Script_run_21T_6 ?_
    rw [if_neg (nI_ge (by omega : p < Q) (by omega)), am_gd_in (by omega) (by omega), am_cl (by omega)]
    simp only [hr, g1]
    rw [if_neg (an_nlt7 (by omega)), if_pos (nI_lt (by omega) (by omega)), if_neg (nI_pos (by omega)), am_gd_in (by omega) (by omega), am_cl (by omega)]
    intro μ1 e1; rw [nI_add, nI_add]; exact hk2 μ1 (an_top_w e1)
  · rintro μ n p p' s v ⟨hpQ, g⟩ ⟨hr, hf⟩ hn hs hk2
    obtain ⟨g1, rfl⟩ := an_C1 hs g
    have hi := an_fi_lt hs
    obtain ⟨z1, z2, z3⟩ := an_ngf _ hi
    have hfs := hf s hs
    refine v_Script_run_21T_6 ?_
    rw [if_neg (nI_ge (by omega : p < Q) (by omega)), am_gd_in (by omega) (by omega), am_cl (by omega)]
    simp only [hr, g1]
    rw [if_neg z2, if_pos (nI_lt (by omega) (by omega)), if_pos z3, z1, am_gd_in (by omega) (by omega), am_gd_in (by omega) (by omega), am_cl (by omega), am_cl (by omega), hfs]
    intro μ1 e1; rw [nI_add, nI_add]; exact hk2 μ1 (an_top_w e1)
  · rintro μ n p p' s v ⟨hpQ, g⟩ ⟨hr, hf⟩ hn hs hk2
    obtain ⟨g1, rfl⟩ := an_C2 (by omega) (by omega) g
    have x1 : n + 2 - 1 = n + 1 := by omega
    have x2 : n + 2 - 2 = n := by omega
    refine v_Script_run_21T_6 ?_
    rw [if_neg (nI_ge (by omega : p < Q) (by omega)), am_gd_in (by omega) (by omega), am_cl (by omega)]
    simp only [hr, g1]
    rw [pk_sub (by omega : 1 ≤ n + 2), pk_sub (by omega : 2 ≤ n + 2), x1, x2]
    simp only [am_cl (show n < 2147483648 by omega), am_cl (show n + 1 < 2147483648 by omega)]
    rcases hs with rfl | rfl | rfl | rfl | rfl | rfl | rfl | rfl
    · rw [if_pos (by decide), if_pos (by decide), if_pos (nI_le (by omega) (by omega)), am_gd_in (by omega) (by omega), am_gd_in (by omega) (by omega), if_neg (by decide), if_neg (by decide), if_neg (by decide), if_neg (by decide), if_neg (by decide), if_neg (by decide), if_neg (by decide), if_neg (by decide), if_pos (by decide)]
      rw [am_gd_in (by omega) (by omega)]
      intro μ1 e1; rw [nI_add, nI_add]; exact hk2 μ1 (an_top_w e1)
    · rw [if_pos (by decide), if_pos (by decide), if_pos (nI_le (by omega) (by omega)), am_gd_in (by omega) (by omega), am_gd_in (by omega) (by omega), if_neg (by decide), if_neg (by decide), if_neg (by decide), if_neg (by decide), if_neg (by decide), if_neg (by decide), if_neg (by decide), if_pos (by decide)]
      rw [am_gd_in (by omega) (by omega)]
      intro μ1 e1; rw [nI_add, nI_add]; exact hk2 μ1 (an_top_w e1)
    · rw [if_pos (by decide), if_pos (by decide), if_pos (nI_le (by omega) (by omega)), am_gd_in (by omega) (by omega), am_gd_in (by omega) (by omega), if_neg (by decide), if_neg (by decide), if_neg (by decide), if_neg (by decide), if_neg (by decide), if_neg (by decide), if_pos (by decide)]
      rw [am_gd_in (by omega) (by omega)]
      intro μ1 e1; rw [nI_add, nI_add]; exact hk2 μ1 (an_top_w e1)
    · rw [if_pos (by decide), if_pos (by decide), if_pos (nI_le (by omega) (by omega)), am_gd_in (by omega) (by omega), am_gd_in (by omega) (by omega), if_neg (by decide), if_neg (by decide), if_neg (by decide), if_neg (by decide), if_pos (by decide)]
      simp only [an_bop] at hk2
      by_cases hq : μ 27 (n + 1) ≤ μ 27 n
      · rw [if_pos hq, am_gd_in (by omega) (by omega)]
        rw [if_neg (Int32.not_lt.mpr hq)] at hk2
        intro μ1 e1; rw [nI_add, nI_add]; exact hk2 μ1 (an_top_w e1)
      · rw [if_neg hq, am_gd_in (by omega) (by omega)]
        rw [if_pos (Int32.not_le.mp hq)] at hk2
        intro μ1 e1; rw [nI_add, nI_add]; exact hk2 μ1 (an_top_w e1)
    · rw [if_pos (by decide), if_pos (by decide), if_pos (nI_le (by omega) (by omega)), am_gd_in (by omega) (by omega), am_gd_in (by omega) (by omega), if_neg (by decide), if_neg (by decide), if_neg (by decide), if_pos (by decide)]
      simp only [an_bop] at hk2
      by_cases hq : μ 27 n = μ 27 (n + 1)
      · rw [if_neg (fun z => z hq), am_gd_in (by omega) (by omega)]
        rw [if_pos hq] at hk2
        intro μ1 e1; rw [nI_add, nI_add]; exact hk2 μ1 (an_top_w e1)
      · rw [if_pos hq, am_gd_in (by omega) (by omega)]
        rw [if_neg hq] at hk2
        intro μ1 e1; rw [nI_add, nI_add]; exact hk2 μ1 (an_top_w e1)
    · rw [if_pos (by decide), if_pos (by decide), if_pos (nI_le (by omega) (by omega)), am_gd_in (by omega) (by omega), am_gd_in (by omega) (by omega), if_neg (by decide), if_neg (by decide), if_pos (by decide)]
      simp only [an_bop] at hk2
      by_cases hq : μ 27 n ≤ μ 27 (n + 1)
      · rw [if_pos hq, am_gd_in (by omega) (by omega)]
        rw [if_neg (Int32.not_lt.mpr hq)] at hk2
        intro μ1 e1; rw [nI_add, nI_add]; exact hk2 μ1 (an_top_w e1)
      · rw [if_neg hq, am_gd_in (by omega) (by omega)]
        rw [if_pos (Int32.not_le.mp hq)] at hk2
        intro μ1 e1; rw [nI_add, nI_add]; exact hk2 μ1 (an_top_w e1)
    · rw [if_pos (by decide), if_pos (by decide), if_pos (nI_le (by omega) (by omega)), am_gd_in (by omega) (by omega), am_gd_in (by omega) (by omega), if_pos (by decide)]
      rw [am_gd_in (by omega) (by omega)]
      intro μ1 e1; rw [nI_add, nI_add]; exact hk2 μ1 (an_top_w e1)
    · rw [if_pos (by decide), if_pos (by decide), if_pos (nI_le (by omega) (by omega)), am_gd_in (by omega) (by omega), am_gd_in (by omega) (by omega), if_neg (by decide), if_neg (by decide), if_neg (by decide), if_neg (by decide), if_neg (by decide), if_neg (by decide), if_neg (by decide), if_neg (by decide), if_neg (by decide)]
      rw [am_gd_in (by omega) (by omega)]
      intro μ1 e1; rw [nI_add, nI_add]; exact hk2 μ1 (an_top_w e1)
  · rintro μ n p p' v ⟨hpQ, g⟩ ⟨hr, hf⟩ hn hv0 hv hk2
    obtain ⟨g1, g2, rfl⟩ := an_C3 g
    refine v_Script_run_21T_6 ?_
    rw [if_neg (nI_ge (by omega : p < Q) (by omega)), am_gd_in (by omega) (by omega), am_cl (by omega)]
    simp only [hr, g1]
    rw [if_neg (an_nlt7 (by omega)), if_pos (nI_lt (by omega) (by omega)), if_neg (nI_pos (by omega)), am_gd_in (by omega) (by omega), am_cl (by omega)]
    intro μ1 e1
    have ht1 := an_top_w e1
    have hr1 : μ1 22 = r0 := (ht1.1 22 (by decide)).trans hr
    rw [nI_add, nI_add]
    refine v_Script_run_21T_6 ?_
    rw [if_neg (nI_ge (by omega : p + 1 < Q) (by omega)), am_gd_in (by omega) (by omega), am_cl (by omega)]
    simp only [hr1, g2]
    have x1 : n + 1 + 1 - 1 = n + 1 := by omega
    have x2 : n + 1 + 1 - 2 = n := by omega
    have v1 : μ1 27 (n + 1) = nI v := ht1.2.2
    have v2 : μ1 27 n = μ 27 n := ht1.2.1 n (by omega)
    rw [pk_sub (by omega : 1 ≤ n + 1 + 1), pk_sub (by omega : 2 ≤ n + 1 + 1), x1, x2]
    simp only [am_cl (show n < 2147483648 by omega), am_cl (show n + 1 < 2147483648 by omega), v1, v2]
    rw [if_pos (by decide), if_pos (by decide), if_pos (nI_le (by omega) (by omega)), am_gd_in (by omega) (by omega), am_gd_in (by omega) (by omega), if_neg (by decide), if_neg (by decide), if_neg (by decide), if_neg (by decide), if_neg (by decide), if_pos (by decide), if_pos (nI_ne0 hv0 (by omega)), an_gdv (nI_ne0 hv0 (by omega)), am_gd_in (by omega) (by omega)]
    intro μ2 e2
    rw [nI_add, nI_add]
    exact hk2 μ2 (an_top_w2 ht1 (an_top_w e2))
  · rintro μ n p p' v ⟨hpQ, g⟩ ⟨hr, hf⟩ hn hk2
    obtain ⟨g1, rfl⟩ := an_C2 (by omega) (by omega) g
    have x1 : n + 1 - 1 = n := by omega
    refine v_Script_run_21T_6 ?_
    rw [if_neg (nI_ge (by omega : p < Q) (by omega)), am_gd_in (by omega) (by omega), am_cl (by omega)]
    simp only [hr, g1]
    rw [pk_sub (by omega : 1 ≤ n + 1), x1]
    simp only [am_cl (show n < 2147483648 by omega)]
    rw [if_pos (by decide), if_neg (by decide), if_pos (nI_le (by omega) (by omega)), am_gd_in (by omega) (by omega), am_gd_in (by omega) (by omega), if_neg (by decide), if_pos (by decide), am_gd_in (by omega) (by omega)]
    intro μ1 e1; rw [nI_add, nI_add]; exact hk2 μ1 (an_top_w e1)
  · intro μ' hu hp hl
    refine v_Script_run_21T_6 ?_
    rw [if_pos (nI_le (Nat.le_refl _) (by omega)), h1, if_neg (nI_nle (by omega) (by omega))]
    have := hF μ' hu
    rw [h1] at hl
    match h : an_ev fa sl [], hl, hp with
    | [x], hl, hp =>
      rw [h] at this
      have e : μ' 27 0 = x := hp.1
      rw [e]
      exact this
theorem an_cx_28T {L d : Nat} {F : Int32 → am_M → Prop} {r0 fa : Nat → Int32} {Q : Nat} (hQ : Q ≤ 400)
    (sl : List (Nat × Nat)) (p : Nat) (t' : List Bool) (μ : am_M) (hs : an_sq (fun p e p' => p' ≤ Q ∧ an_C false r0 p e p') p sl Q) (ht : an_ty false sl [] t') (h1 : t'.length = 1) (hw : μ 29 = r0) (hf : ∀ s, an_fs false s → μ 130 (an_fi false s) = fa s)
    (hF : ∀ μ', an_un [34] μ μ' → F (an_bot (an_ev fa sl [])) μ') : am_Ci L d 70 [.ref 28, .int (nI p), .int (nI Q), .ref 130] μ F := by
  refine v_Script_run_28T ?_
  refine an_go (J := fun μ n p => am_Ji L d 70 6 [some (.ref 28), none, some (.int (nI Q)), some (.ref 130), some (.int (nI n)), some (.int (nI p)), none, none, none, none] [] μ F) (cs := 34) (sg := false) (fa := fa) (C := fun p e p' => p' ≤ Q ∧ an_C false r0 p e p') (I := fun μ => μ 29 = r0 ∧ ∀ s, an_fs false s → μ 130 (an_fi false s) = fa s)
    ?_ ?_ ?_ ?_ ?_ ?_ sl p Q [] [] t' μ hs ht rfl trivial ⟨hw, hf⟩ ?_
  · intro μ μ' hu hi
    exact ⟨(hu 29 (by decide)).trans hi.1, fun s hs => by rw [hu 130 (by decide)]; exact hi.2 s hs⟩
  · rintro μ n p p' v ⟨hpQ, g⟩ ⟨hr, hf⟩ hn hv hk2
    obtain ⟨g1, rfl⟩ := an_C0 g
    refine v_Script_run_28T_6 ?_
    rw [if_neg (nI_ge (by omega : p < Q) (by omega)), am_gd_in (by omega) (by omega), am_cl (by omega)]
    simp only [hr, g1]
    rw [if_neg (an_nlt7 (by omega)), if_pos (nI_lt (by omega) (by omega)), if_neg (nI_pos (by omega)), am_gd_in (by omega) (by omega), am_cl (by omega)]
    intro μ1 e1; rw [nI_add, nI_add]; exact hk2 μ1 (an_top_w e1)
  · rintro μ n p p' s v ⟨hpQ, g⟩ ⟨hr, hf⟩ hn hs hk2
    obtain ⟨g1, rfl⟩ := an_C1 hs g
    have hi := an_fi_lt hs
    obtain ⟨z1, z2, z3⟩ := an_ngf _ hi
    have hfs := hf s hs
    refine v_Script_run_28T_6 ?_
    rw [if_neg (nI_ge (by omega : p < Q) (by omega)), am_gd_in (by omega) (by omega), am_cl (by omega)]
    simp only [hr, g1]
    rw [if_neg z2, if_pos (nI_lt (by omega) (by omega)), if_pos z3, z1, am_gd_in (by omega) (by omega), am_gd_in (by omega) (by omega), am_cl (by omega), am_cl (by omega), hfs]
    intro μ1 e1; rw [nI_add, nI_add]; exact hk2 μ1 (an_top_w e1)
  · rintro μ n p p' s v ⟨hpQ, g⟩ ⟨hr, hf⟩ hn hs hk2
    obtain ⟨g1, rfl⟩ := an_C2 (by omega) (by omega) g
    have x1 : n + 2 - 1 = n + 1 := by omega
    have x2 : n + 2 - 2 = n := by omega
    refine v_Script_run_28T_6 ?_
    rw [if_neg (nI_ge (by omega : p < Q) (by omega)), am_gd_in (by omega) (by omega), am_cl (by omega)]
    simp only [hr, g1]
    rw [pk_sub (by omega : 1 ≤ n + 2), pk_sub (by omega : 2 ≤ n + 2), x1, x2]
    simp only [am_cl (show n < 2147483648 by omega), am_cl (show n + 1 < 2147483648 by omega)]
    rcases hs with rfl | rfl | rfl | rfl | rfl | rfl | rfl | rfl
    · rw [if_pos (by decide), if_pos (by decide), if_pos (nI_le (by omega) (by omega)), am_gd_in (by omega) (by omega), am_gd_in (by omega) (by omega), if_neg (by decide), if_neg (by decide), if_neg (by decide), if_neg (by decide), if_neg (by decide), if_neg (by decide), if_neg (by decide), if_neg (by decide), if_pos (by decide)]
      rw [am_gd_in (by omega) (by omega)]
      intro μ1 e1; rw [nI_add, nI_add]; exact hk2 μ1 (an_top_w e1)
    · rw [if_pos (by decide), if_pos (by decide), if_pos (nI_le (by omega) (by omega)), am_gd_in (by omega) (by omega), am_gd_in (by omega) (by omega), if_neg (by decide), if_neg (by decide), if_neg (by decide), if_neg (by decide), if_neg (by decide), if_neg (by decide), if_neg (by decide), if_pos (by decide)]
      rw [am_gd_in (by omega) (by omega)]
      intro μ1 e1; rw [nI_add, nI_add]; exact hk2 μ1 (an_top_w e1)
    · rw [if_pos (by decide), if_pos (by decide), if_pos (nI_le (by omega) (by omega)), am_gd_in (by omega) (by omega), am_gd_in (by omega) (by omega), if_neg (by decide), if_neg (by decide), if_neg (by decide), if_neg (by decide), if_neg (by decide), if_neg (by decide), if_pos (by decide)]
      rw [am_gd_in (by omega) (by omega)]
      intro μ1 e1; rw [nI_add, nI_add]; exact hk2 μ1 (an_top_w e1)
    · rw [if_pos (by decide), if_pos (by decide), if_pos (nI_le (by omega) (by omega)), am_gd_in (by omega) (by omega), am_gd_in (by omega) (by omega), if_neg (by decide), if_neg (by decide), if_neg (by decide), if_neg (by decide), if_pos (by decide)]
      simp only [an_bop] at hk2
      by_cases hq : μ 34 (n + 1) ≤ μ 34 n
      · rw [if_pos hq, am_gd_in (by omega) (by omega)]
        rw [if_neg (Int32.not_lt.mpr hq)] at hk2
        intro μ1 e1; rw [nI_add, nI_add]; exact hk2 μ1 (an_top_w e1)
      · rw [if_neg hq, am_gd_in (by omega) (by omega)]
        rw [if_pos (Int32.not_le.mp hq)] at hk2
        intro μ1 e1; rw [nI_add, nI_add]; exact hk2 μ1 (an_top_w e1)
    · rw [if_pos (by decide), if_pos (by decide), if_pos (nI_le (by omega) (by omega)), am_gd_in (by omega) (by omega), am_gd_in (by omega) (by omega), if_neg (by decide), if_neg (by decide), if_neg (by decide), if_pos (by decide)]
      simp only [an_bop] at hk2
      by_cases hq : μ 34 n = μ 34 (n + 1)
      · rw [if_neg (fun z => z hq), am_gd_in (by omega) (by omega)]
        rw [if_pos hq] at hk2
        intro μ1 e1; rw [nI_add, nI_add]; exact hk2 μ1 (an_top_w e1)
      · rw [if_pos hq, am_gd_in (by omega) (by omega)]
        rw [if_neg hq] at hk2
        intro μ1 e1; rw [nI_add, nI_add]; exact hk2 μ1 (an_top_w e1)
    · rw [if_pos (by decide), if_pos (by decide), if_pos (nI_le (by omega) (by omega)), am_gd_in (by omega) (by omega), am_gd_in (by omega) (by omega), if_neg (by decide), if_neg (by decide), if_pos (by decide)]
      simp only [an_bop] at hk2
      by_cases hq : μ 34 n ≤ μ 34 (n + 1)
      · rw [if_pos hq, am_gd_in (by omega) (by omega)]
        rw [if_neg (Int32.not_lt.mpr hq)] at hk2
        intro μ1 e1; rw [nI_add, nI_add]; exact hk2 μ1 (an_top_w e1)
      · rw [if_neg hq, am_gd_in (by omega) (by omega)]
        rw [if_pos (Int32.not_le.mp hq)] at hk2
        intro μ1 e1; rw [nI_add, nI_add]; exact hk2 μ1 (an_top_w e1)
    · rw [if_pos (by decide), if_pos (by decide), if_pos (nI_le (by omega) (by omega)), am_gd_in (by omega) (by omega), am_gd_in (by omega) (by omega), if_pos (by decide)]
      rw [am_gd_in (by omega) (by omega)]
      intro μ1 e1; rw [nI_add, nI_add]; exact hk2 μ1 (an_top_w e1)
    · rw [if_pos (by decide), if_pos (by decide), if_pos (nI_le (by omega) (by omega)), am_gd_in (by omega) (by omega), am_gd_in (by omega) (by omega), if_neg (by decide), if_neg (by decide), if_neg (by decide), if_neg (by decide), if_neg (by decide), if_neg (by decide), if_neg (by decide), if_neg (by decide), if_neg (by decide)]
      rw [am_gd_in (by omega) (by omega)]
      intro μ1 e1; rw [nI_add, nI_add]; exact hk2 μ1 (an_top_w e1)
  · rintro μ n p p' v ⟨hpQ, g⟩ ⟨hr, hf⟩ hn hv0 hv hk2
    obtain ⟨g1, g2, rfl⟩ := an_C3 g
    refine v_Script_run_28T_6 ?_
    rw [if_neg (nI_ge (by omega : p < Q) (by omega)), am_gd_in (by omega) (by omega), am_cl (by omega)]
    simp only [hr, g1]
    rw [if_neg (an_nlt7 (by omega)), if_pos (nI_lt (by omega) (by omega)), if_neg (nI_pos (by omega)), am_gd_in (by omega) (by omega), am_cl (by omega)]
    intro μ1 e1
    have ht1 := an_top_w e1
    have hr1 : μ1 29 = r0 := (ht1.1 29 (by decide)).trans hr
    rw [nI_add, nI_add]
    refine v_Script_run_28T_6 ?_
    rw [if_neg (nI_ge (by omega : p + 1 < Q) (by omega)), am_gd_in (by omega) (by omega), am_cl (by omega)]
    simp only [hr1, g2]
    have x1 : n + 1 + 1 - 1 = n + 1 := by omega
    have x2 : n + 1 + 1 - 2 = n := by omega
    have v1 : μ1 34 (n + 1) = nI v := ht1.2.2
    have v2 : μ1 34 n = μ 34 n := ht1.2.1 n (by omega)
    rw [pk_sub (by omega : 1 ≤ n + 1 + 1), pk_sub (by omega : 2 ≤ n + 1 + 1), x1, x2]
    simp only [am_cl (show n < 2147483648 by omega), am_cl (show n + 1 < 2147483648 by omega), v1, v2]
    rw [if_pos (by decide), if_pos (by decide), if_pos (nI_le (by omega) (by omega)), am_gd_in (by omega) (by omega), am_gd_in (by omega) (by omega), if_neg (by decide), if_neg (by decide), if_neg (by decide), if_neg (by decide), if_neg (by decide), if_pos (by decide), if_pos (nI_ne0 hv0 (by omega)), an_gdv (nI_ne0 hv0 (by omega)), am_gd_in (by omega) (by omega)]
    intro μ2 e2
    rw [nI_add, nI_add]
    exact hk2 μ2 (an_top_w2 ht1 (an_top_w e2))
  · rintro μ n p p' v ⟨hpQ, g⟩ ⟨hr, hf⟩ hn hk2
    obtain ⟨g1, rfl⟩ := an_C2 (by omega) (by omega) g
    have x1 : n + 1 - 1 = n := by omega
    refine v_Script_run_28T_6 ?_
    rw [if_neg (nI_ge (by omega : p < Q) (by omega)), am_gd_in (by omega) (by omega), am_cl (by omega)]
    simp only [hr, g1]
    rw [pk_sub (by omega : 1 ≤ n + 1), x1]
    simp only [am_cl (show n < 2147483648 by omega)]
    rw [if_pos (by decide), if_neg (by decide), if_pos (nI_le (by omega) (by omega)), am_gd_in (by omega) (by omega), am_gd_in (by omega) (by omega), if_neg (by decide), if_pos (by decide), am_gd_in (by omega) (by omega)]
    intro μ1 e1; rw [nI_add, nI_add]; exact hk2 μ1 (an_top_w e1)
  · intro μ' hu hp hl
    refine v_Script_run_28T_6 ?_
    rw [if_pos (nI_le (Nat.le_refl _) (by omega)), h1, if_neg (nI_nle (by omega) (by omega))]
    have := hF μ' hu
    rw [h1] at hl
    match h : an_ev fa sl [], hl, hp with
    | [x], hl, hp =>
      rw [h] at this
      have e : μ' 34 0 = x := hp.1
      rw [e]
      exact this
theorem an_cx_35T {L d : Nat} {F : Int32 → am_M → Prop} {r0 fa : Nat → Int32} {Q : Nat} (hQ : Q ≤ 400)
    (sl : List (Nat × Nat)) (p : Nat) (t' : List Bool) (μ : am_M) (hs : an_sq (fun p e p' => p' ≤ Q ∧ an_C false r0 p e p') p sl Q) (ht : an_ty false sl [] t') (h1 : t'.length = 1) (hw : μ 36 = r0) (hf : ∀ s, an_fs false s → μ 130 (an_fi false s) = fa s)
    (hF : ∀ μ', an_un [41] μ μ' → F (an_bot (an_ev fa sl [])) μ') : am_Ci L d 70 [.ref 35, .int (nI p), .int (nI Q), .ref 130] μ F := by
  refine v_Script_run_35T ?_
  refine an_go (J := fun μ n p => am_Ji L d 70 6 [some (.ref 35), none, some (.int (nI Q)), some (.ref 130), some (.int (nI n)), some (.int (nI p)), none, none, none, none] [] μ F) (cs := 41) (sg := false) (fa := fa) (C := fun p e p' => p' ≤ Q ∧ an_C false r0 p e p') (I := fun μ => μ 36 = r0 ∧ ∀ s, an_fs false s → μ 130 (an_fi false s) = fa s)
    ?_ ?_ ?_ ?_ ?_ ?_ sl p Q [] [] t' μ hs ht rfl trivial ⟨hw, hf⟩ ?_
  · intro μ μ' hu hi
    exact ⟨(hu 36 (by decide)).trans hi.1, fun s hs => by rw [hu 130 (by decide)]; exact hi.2 s hs⟩
  · rintro μ n p p' v ⟨hpQ, g⟩ ⟨hr, hf⟩ hn hv hk2
    obtain ⟨g1, rfl⟩ := an_C0 g
    refine v_Script_run_35T_6 ?_
    rw [if_neg (nI_ge (by omega : p < Q) (by omega)), am_gd_in (by omega) (by omega), am_cl (by omega)]
    simp only [hr, g1]
    rw [if_neg (an_nlt7 (by omega)), if_pos (nI_lt (by omega) (by omega)), if_neg (nI_pos (by omega)), am_gd_in (by omega) (by omega), am_cl (by omega)]
    intro μ1 e1; rw [nI_add, nI_add]; exact hk2 μ1 (an_top_w e1)
  · rintro μ n p p' s v ⟨hpQ, g⟩ ⟨hr, hf⟩ hn hs hk2
    obtain ⟨g1, rfl⟩ := an_C1 hs g
    have hi := an_fi_lt hs
    obtain ⟨z1, z2, z3⟩ := an_ngf _ hi
    have hfs := hf s hs
    refine v_Script_run_35T_6 ?_
    rw [if_neg (nI_ge (by omega : p < Q) (by omega)), am_gd_in (by omega) (by omega), am_cl (by omega)]
    simp only [hr, g1]
    rw [if_neg z2, if_pos (nI_lt (by omega) (by omega)), if_pos z3, z1, am_gd_in (by omega) (by omega), am_gd_in (by omega) (by omega), am_cl (by omega), am_cl (by omega), hfs]
    intro μ1 e1; rw [nI_add, nI_add]; exact hk2 μ1 (an_top_w e1)
  · rintro μ n p p' s v ⟨hpQ, g⟩ ⟨hr, hf⟩ hn hs hk2
    obtain ⟨g1, rfl⟩ := an_C2 (by omega) (by omega) g
    have x1 : n + 2 - 1 = n + 1 := by omega
    have x2 : n + 2 - 2 = n := by omega
    refine v_Script_run_35T_6 ?_
    rw [if_neg (nI_ge (by omega : p < Q) (by omega)), am_gd_in (by omega) (by omega), am_cl (by omega)]
    simp only [hr, g1]
    rw [pk_sub (by omega : 1 ≤ n + 2), pk_sub (by omega : 2 ≤ n + 2), x1, x2]
    simp only [am_cl (show n < 2147483648 by omega), am_cl (show n + 1 < 2147483648 by omega)]
    rcases hs with rfl | rfl | rfl | rfl | rfl | rfl | rfl | rfl
    · rw [if_pos (by decide), if_pos (by decide), if_pos (nI_le (by omega) (by omega)), am_gd_in (by omega) (by omega), am_gd_in (by omega) (by omega), if_neg (by decide), if_neg (by decide), if_neg (by decide), if_neg (by decide), if_neg (by decide), if_neg (by decide), if_neg (by decide), if_neg (by decide), if_pos (by decide)]
      rw [am_gd_in (by omega) (by omega)]
      intro μ1 e1; rw [nI_add, nI_add]; exact hk2 μ1 (an_top_w e1)
    · rw [if_pos (by decide), if_pos (by decide), if_pos (nI_le (by omega) (by omega)), am_gd_in (by omega) (by omega), am_gd_in (by omega) (by omega), if_neg (by decide), if_neg (by decide), if_neg (by decide), if_neg (by decide), if_neg (by decide), if_neg (by decide), if_neg (by decide), if_pos (by decide)]
      rw [am_gd_in (by omega) (by omega)]
      intro μ1 e1; rw [nI_add, nI_add]; exact hk2 μ1 (an_top_w e1)
    · rw [if_pos (by decide), if_pos (by decide), if_pos (nI_le (by omega) (by omega)), am_gd_in (by omega) (by omega), am_gd_in (by omega) (by omega), if_neg (by decide), if_neg (by decide), if_neg (by decide), if_neg (by decide), if_neg (by decide), if_neg (by decide), if_pos (by decide)]
      rw [am_gd_in (by omega) (by omega)]
      intro μ1 e1; rw [nI_add, nI_add]; exact hk2 μ1 (an_top_w e1)
    · rw [if_pos (by decide), if_pos (by decide), if_pos (nI_le (by omega) (by omega)), am_gd_in (by omega) (by omega), am_gd_in (by omega) (by omega), if_neg (by decide), if_neg (by decide), if_neg (by decide), if_neg (by decide), if_pos (by decide)]
      simp only [an_bop] at hk2
      by_cases hq : μ 41 (n + 1) ≤ μ 41 n
      · rw [if_pos hq, am_gd_in (by omega) (by omega)]
        rw [if_neg (Int32.not_lt.mpr hq)] at hk2
        intro μ1 e1; rw [nI_add, nI_add]; exact hk2 μ1 (an_top_w e1)
      · rw [if_neg hq, am_gd_in (by omega) (by omega)]
        rw [if_pos (Int32.not_le.mp hq)] at hk2
        intro μ1 e1; rw [nI_add, nI_add]; exact hk2 μ1 (an_top_w e1)
    · rw [if_pos (by decide), if_pos (by decide), if_pos (nI_le (by omega) (by omega)), am_gd_in (by omega) (by omega), am_gd_in (by omega) (by omega), if_neg (by decide), if_neg (by decide), if_neg (by decide), if_pos (by decide)]
      simp only [an_bop] at hk2
      by_cases hq : μ 41 n = μ 41 (n + 1)
      · rw [if_neg (fun z => z hq), am_gd_in (by omega) (by omega)]
        rw [if_pos hq] at hk2
        intro μ1 e1; rw [nI_add, nI_add]; exact hk2 μ1 (an_top_w e1)
      · rw [if_pos hq, am_gd_in (by omega) (by omega)]
        rw [if_neg hq] at hk2
        intro μ1 e1; rw [nI_add, nI_add]; exact hk2 μ1 (an_top_w e1)
    · rw [if_pos (by decide), if_pos (by decide), if_pos (nI_le (by omega) (by omega)), am_gd_in (by omega) (by omega), am_gd_in (by omega) (by omega), if_neg (by decide), if_neg (by decide), if_pos (by decide)]
      simp only [an_bop] at hk2
      by_cases hq : μ 41 n ≤ μ 41 (n + 1)
      · rw [if_pos hq, am_gd_in (by omega) (by omega)]
        rw [if_neg (Int32.not_lt.mpr hq)] at hk2
        intro μ1 e1; rw [nI_add, nI_add]; exact hk2 μ1 (an_top_w e1)
      · rw [if_neg hq, am_gd_in (by omega) (by omega)]
        rw [if_pos (Int32.not_le.mp hq)] at hk2
        intro μ1 e1; rw [nI_add, nI_add]; exact hk2 μ1 (an_top_w e1)
    · rw [if_pos (by decide), if_pos (by decide), if_pos (nI_le (by omega) (by omega)), am_gd_in (by omega) (by omega), am_gd_in (by omega) (by omega), if_pos (by decide)]
      rw [am_gd_in (by omega) (by omega)]
      intro μ1 e1; rw [nI_add, nI_add]; exact hk2 μ1 (an_top_w e1)
    · rw [if_pos (by decide), if_pos (by decide), if_pos (nI_le (by omega) (by omega)), am_gd_in (by omega) (by omega), am_gd_in (by omega) (by omega), if_neg (by decide), if_neg (by decide), if_neg (by decide), if_neg (by decide), if_neg (by decide), if_neg (by decide), if_neg (by decide), if_neg (by decide), if_neg (by decide)]
      rw [am_gd_in (by omega) (by omega)]
      intro μ1 e1; rw [nI_add, nI_add]; exact hk2 μ1 (an_top_w e1)
  · rintro μ n p p' v ⟨hpQ, g⟩ ⟨hr, hf⟩ hn hv0 hv hk2
    obtain ⟨g1, g2, rfl⟩ := an_C3 g
    refine v_Script_run_35T_6 ?_
    rw [if_neg (nI_ge (by omega : p < Q) (by omega)), am_gd_in (by omega) (by omega), am_cl (by omega)]
    simp only [hr, g1]
    rw [if_neg (an_nlt7 (by omega)), if_pos (nI_lt (by omega) (by omega)), if_neg (nI_pos (by omega)), am_gd_in (by omega) (by omega), am_cl (by omega)]
    intro μ1 e1
    have ht1 := an_top_w e1
    have hr1 : μ1 36 = r0 := (ht1.1 36 (by decide)).trans hr
    rw [nI_add, nI_add]
    refine v_Script_run_35T_6 ?_
    rw [if_neg (nI_ge (by omega : p + 1 < Q) (by omega)), am_gd_in (by omega) (by omega), am_cl (by omega)]
    simp only [hr1, g2]
    have x1 : n + 1 + 1 - 1 = n + 1 := by omega
    have x2 : n + 1 + 1 - 2 = n := by omega
    have v1 : μ1 41 (n + 1) = nI v := ht1.2.2
    have v2 : μ1 41 n = μ 41 n := ht1.2.1 n (by omega)
    rw [pk_sub (by omega : 1 ≤ n + 1 + 1), pk_sub (by omega : 2 ≤ n + 1 + 1), x1, x2]
    simp only [am_cl (show n < 2147483648 by omega), am_cl (show n + 1 < 2147483648 by omega), v1, v2]
    rw [if_pos (by decide), if_pos (by decide), if_pos (nI_le (by omega) (by omega)), am_gd_in (by omega) (by omega), am_gd_in (by omega) (by omega), if_neg (by decide), if_neg (by decide), if_neg (by decide), if_neg (by decide), if_neg (by decide), if_pos (by decide), if_pos (nI_ne0 hv0 (by omega)), an_gdv (nI_ne0 hv0 (by omega)), am_gd_in (by omega) (by omega)]
    intro μ2 e2
    rw [nI_add, nI_add]
    exact hk2 μ2 (an_top_w2 ht1 (an_top_w e2))
  · rintro μ n p p' v ⟨hpQ, g⟩ ⟨hr, hf⟩ hn hk2
    obtain ⟨g1, rfl⟩ := an_C2 (by omega) (by omega) g
    have x1 : n + 1 - 1 = n := by omega
    refine v_Script_run_35T_6 ?_
    rw [if_neg (nI_ge (by omega : p < Q) (by omega)), am_gd_in (by omega) (by omega), am_cl (by omega)]
    simp only [hr, g1]
    rw [pk_sub (by omega : 1 ≤ n + 1), x1]
    simp only [am_cl (show n < 2147483648 by omega)]
    rw [if_pos (by decide), if_neg (by decide), if_pos (nI_le (by omega) (by omega)), am_gd_in (by omega) (by omega), am_gd_in (by omega) (by omega), if_neg (by decide), if_pos (by decide), am_gd_in (by omega) (by omega)]
    intro μ1 e1; rw [nI_add, nI_add]; exact hk2 μ1 (an_top_w e1)
  · intro μ' hu hp hl
    refine v_Script_run_35T_6 ?_
    rw [if_pos (nI_le (Nat.le_refl _) (by omega)), h1, if_neg (nI_nle (by omega) (by omega))]
    have := hF μ' hu
    rw [h1] at hl
    match h : an_ev fa sl [], hl, hp with
    | [x], hl, hp =>
      rw [h] at this
      have e : μ' 41 0 = x := hp.1
      rw [e]
      exact this
theorem an_cx_42T {L d : Nat} {F : Int32 → am_M → Prop} {r0 fa : Nat → Int32} {Q : Nat} (hQ : Q ≤ 400)
    (sl : List (Nat × Nat)) (p : Nat) (t' : List Bool) (μ : am_M) (hs : an_sq (fun p e p' => p' ≤ Q ∧ an_C false r0 p e p') p sl Q) (ht : an_ty false sl [] t') (h1 : t'.length = 1) (hw : μ 43 = r0) (hf : ∀ s, an_fs false s → μ 130 (an_fi false s) = fa s)
    (hF : ∀ μ', an_un [48] μ μ' → F (an_bot (an_ev fa sl [])) μ') : am_Ci L d 70 [.ref 42, .int (nI p), .int (nI Q), .ref 130] μ F := by
  refine v_Script_run_42T ?_
  refine an_go (J := fun μ n p => am_Ji L d 70 6 [some (.ref 42), none, some (.int (nI Q)), some (.ref 130), some (.int (nI n)), some (.int (nI p)), none, none, none, none] [] μ F) (cs := 48) (sg := false) (fa := fa) (C := fun p e p' => p' ≤ Q ∧ an_C false r0 p e p') (I := fun μ => μ 43 = r0 ∧ ∀ s, an_fs false s → μ 130 (an_fi false s) = fa s)
    ?_ ?_ ?_ ?_ ?_ ?_ sl p Q [] [] t' μ hs ht rfl trivial ⟨hw, hf⟩ ?_
  · intro μ μ' hu hi
    exact ⟨(hu 43 (by decide)).trans hi.1, fun s hs => by rw [hu 130 (by decide)]; exact hi.2 s hs⟩
  · rintro μ n p p' v ⟨hpQ, g⟩ ⟨hr, hf⟩ hn hv hk2
    obtain ⟨g1, rfl⟩ := an_C0 g
    refine v_Script_run_42T_6 ?_
    rw [if_neg (nI_ge (by omega : p < Q) (by omega)), am_gd_in (by omega) (by omega), am_cl (by omega)]
    simp only [hr, g1]
    rw [if_neg (an_nlt7 (by omega)), if_pos (nI_lt (by omega) (by omega)), if_neg (nI_pos (by omega)), am_gd_in (by omega) (by omega), am_cl (by omega)]
    intro μ1 e1; rw [nI_add, nI_add]; exact hk2 μ1 (an_top_w e1)
  · rintro μ n p p' s v ⟨hpQ, g⟩ ⟨hr, hf⟩ hn hs hk2
    obtain ⟨g1, rfl⟩ := an_C1 hs g
    have hi := an_fi_lt hs
    obtain ⟨z1, z2, z3⟩ := an_ngf _ hi
    have hfs := hf s hs
    refine v_Script_run_42T_6 ?_
    rw [if_neg (nI_ge (by omega : p < Q) (by omega)), am_gd_in (by omega) (by omega), am_cl (by omega)]
    simp only [hr, g1]
    rw [if_neg z2, if_pos (nI_lt (by omega) (by omega)), if_pos z3, z1, am_gd_in (by omega) (by omega), am_gd_in (by omega) (by omega), am_cl (by omega), am_cl (by omega), hfs]
    intro μ1 e1; rw [nI_add, nI_add]; exact hk2 μ1 (an_top_w e1)
  · rintro μ n p p' s v ⟨hpQ, g⟩ ⟨hr, hf⟩ hn hs hk2
    obtain ⟨g1, rfl⟩ := an_C2 (by omega) (by omega) g
    have x1 : n + 2 - 1 = n + 1 := by omega
    have x2 : n + 2 - 2 = n := by omega
    refine v_Script_run_42T_6 ?_
    rw [if_neg (nI_ge (by omega : p < Q) (by omega)), am_gd_in (by omega) (by omega), am_cl (by omega)]
    simp only [hr, g1]
    rw [pk_sub (by omega : 1 ≤ n + 2), pk_sub (by omega : 2 ≤ n + 2), x1, x2]
    simp only [am_cl (show n < 2147483648 by omega), am_cl (show n + 1 < 2147483648 by omega)]
    rcases hs with rfl | rfl | rfl | rfl | rfl | rfl | rfl | rfl
    · rw [if_pos (by decide), if_pos (by decide), if_pos (nI_le (by omega) (by omega)), am_gd_in (by omega) (by omega), am_gd_in (by omega) (by omega), if_neg (by decide), if_neg (by decide), if_neg (by decide), if_neg (by decide), if_neg (by decide), if_neg (by decide), if_neg (by decide), if_neg (by decide), if_pos (by decide)]
      rw [am_gd_in (by omega) (by omega)]
      intro μ1 e1; rw [nI_add, nI_add]; exact hk2 μ1 (an_top_w e1)
    · rw [if_pos (by decide), if_pos (by decide), if_pos (nI_le (by omega) (by omega)), am_gd_in (by omega) (by omega), am_gd_in (by omega) (by omega), if_neg (by decide), if_neg (by decide), if_neg (by decide), if_neg (by decide), if_neg (by decide), if_neg (by decide), if_neg (by decide), if_pos (by decide)]
      rw [am_gd_in (by omega) (by omega)]
      intro μ1 e1; rw [nI_add, nI_add]; exact hk2 μ1 (an_top_w e1)
    · rw [if_pos (by decide), if_pos (by decide), if_pos (nI_le (by omega) (by omega)), am_gd_in (by omega) (by omega), am_gd_in (by omega) (by omega), if_neg (by decide), if_neg (by decide), if_neg (by decide), if_neg (by decide), if_neg (by decide), if_neg (by decide), if_pos (by decide)]
      rw [am_gd_in (by omega) (by omega)]
      intro μ1 e1; rw [nI_add, nI_add]; exact hk2 μ1 (an_top_w e1)
    · rw [if_pos (by decide), if_pos (by decide), if_pos (nI_le (by omega) (by omega)), am_gd_in (by omega) (by omega), am_gd_in (by omega) (by omega), if_neg (by decide), if_neg (by decide), if_neg (by decide), if_neg (by decide), if_pos (by decide)]
      simp only [an_bop] at hk2
      by_cases hq : μ 48 (n + 1) ≤ μ 48 n
      · rw [if_pos hq, am_gd_in (by omega) (by omega)]
        rw [if_neg (Int32.not_lt.mpr hq)] at hk2
        intro μ1 e1; rw [nI_add, nI_add]; exact hk2 μ1 (an_top_w e1)
      · rw [if_neg hq, am_gd_in (by omega) (by omega)]
        rw [if_pos (Int32.not_le.mp hq)] at hk2
        intro μ1 e1; rw [nI_add, nI_add]; exact hk2 μ1 (an_top_w e1)
    · rw [if_pos (by decide), if_pos (by decide), if_pos (nI_le (by omega) (by omega)), am_gd_in (by omega) (by omega), am_gd_in (by omega) (by omega), if_neg (by decide), if_neg (by decide), if_neg (by decide), if_pos (by decide)]
      simp only [an_bop] at hk2
      by_cases hq : μ 48 n = μ 48 (n + 1)
      · rw [if_neg (fun z => z hq), am_gd_in (by omega) (by omega)]
        rw [if_pos hq] at hk2
        intro μ1 e1; rw [nI_add, nI_add]; exact hk2 μ1 (an_top_w e1)
      · rw [if_pos hq, am_gd_in (by omega) (by omega)]
        rw [if_neg hq] at hk2
        intro μ1 e1; rw [nI_add, nI_add]; exact hk2 μ1 (an_top_w e1)
    · rw [if_pos (by decide), if_pos (by decide), if_pos (nI_le (by omega) (by omega)), am_gd_in (by omega) (by omega), am_gd_in (by omega) (by omega), if_neg (by decide), if_neg (by decide), if_pos (by decide)]
      simp only [an_bop] at hk2
      by_cases hq : μ 48 n ≤ μ 48 (n + 1)
      · rw [if_pos hq, am_gd_in (by omega) (by omega)]
        rw [if_neg (Int32.not_lt.mpr hq)] at hk2
        intro μ1 e1; rw [nI_add, nI_add]; exact hk2 μ1 (an_top_w e1)
      · rw [if_neg hq, am_gd_in (by omega) (by omega)]
        rw [if_pos (Int32.not_le.mp hq)] at hk2
        intro μ1 e1; rw [nI_add, nI_add]; exact hk2 μ1 (an_top_w e1)
    · rw [if_pos (by decide), if_pos (by decide), if_pos (nI_le (by omega) (by omega)), am_gd_in (by omega) (by omega), am_gd_in (by omega) (by omega), if_pos (by decide)]
      rw [am_gd_in (by omega) (by omega)]
      intro μ1 e1; rw [nI_add, nI_add]; exact hk2 μ1 (an_top_w e1)
    · rw [if_pos (by decide), if_pos (by decide), if_pos (nI_le (by omega) (by omega)), am_gd_in (by omega) (by omega), am_gd_in (by omega) (by omega), if_neg (by decide), if_neg (by decide), if_neg (by decide), if_neg (by decide), if_neg (by decide), if_neg (by decide), if_neg (by decide), if_neg (by decide), if_neg (by decide)]
      rw [am_gd_in (by omega) (by omega)]
      intro μ1 e1; rw [nI_add, nI_add]; exact hk2 μ1 (an_top_w e1)
  · rintro μ n p p' v ⟨hpQ, g⟩ ⟨hr, hf⟩ hn hv0 hv hk2
    obtain ⟨g1, g2, rfl⟩ := an_C3 g
    refine v_Script_run_42T_6 ?_
    rw [if_neg (nI_ge (by omega : p < Q) (by omega)), am_gd_in (by omega) (by omega), am_cl (by omega)]
    simp only [hr, g1]
    rw [if_neg (an_nlt7 (by omega)), if_pos (nI_lt (by omega) (by omega)), if_neg (nI_pos (by omega)), am_gd_in (by omega) (by omega), am_cl (by omega)]
    intro μ1 e1
    have ht1 := an_top_w e1
    have hr1 : μ1 43 = r0 := (ht1.1 43 (by decide)).trans hr
    rw [nI_add, nI_add]
    refine v_Script_run_42T_6 ?_
    rw [if_neg (nI_ge (by omega : p + 1 < Q) (by omega)), am_gd_in (by omega) (by omega), am_cl (by omega)]
    simp only [hr1, g2]
    have x1 : n + 1 + 1 - 1 = n + 1 := by omega
    have x2 : n + 1 + 1 - 2 = n := by omega
    have v1 : μ1 48 (n + 1) = nI v := ht1.2.2
    have v2 : μ1 48 n = μ 48 n := ht1.2.1 n (by omega)
    rw [pk_sub (by omega : 1 ≤ n + 1 + 1), pk_sub (by omega : 2 ≤ n + 1 + 1), x1, x2]
    simp only [am_cl (show n < 2147483648 by omega), am_cl (show n + 1 < 2147483648 by omega), v1, v2]
    rw [if_pos (by decide), if_pos (by decide), if_pos (nI_le (by omega) (by omega)), am_gd_in (by omega) (by omega), am_gd_in (by omega) (by omega), if_neg (by decide), if_neg (by decide), if_neg (by decide), if_neg (by decide), if_neg (by decide), if_pos (by decide), if_pos (nI_ne0 hv0 (by omega)), an_gdv (nI_ne0 hv0 (by omega)), am_gd_in (by omega) (by omega)]
    intro μ2 e2
    rw [nI_add, nI_add]
    exact hk2 μ2 (an_top_w2 ht1 (an_top_w e2))
  · rintro μ n p p' v ⟨hpQ, g⟩ ⟨hr, hf⟩ hn hk2
    obtain ⟨g1, rfl⟩ := an_C2 (by omega) (by omega) g
    have x1 : n + 1 - 1 = n := by omega
    refine v_Script_run_42T_6 ?_
    rw [if_neg (nI_ge (by omega : p < Q) (by omega)), am_gd_in (by omega) (by omega), am_cl (by omega)]
    simp only [hr, g1]
    rw [pk_sub (by omega : 1 ≤ n + 1), x1]
    simp only [am_cl (show n < 2147483648 by omega)]
    rw [if_pos (by decide), if_neg (by decide), if_pos (nI_le (by omega) (by omega)), am_gd_in (by omega) (by omega), am_gd_in (by omega) (by omega), if_neg (by decide), if_pos (by decide), am_gd_in (by omega) (by omega)]
    intro μ1 e1; rw [nI_add, nI_add]; exact hk2 μ1 (an_top_w e1)
  · intro μ' hu hp hl
    refine v_Script_run_42T_6 ?_
    rw [if_pos (nI_le (Nat.le_refl _) (by omega)), h1, if_neg (nI_nle (by omega) (by omega))]
    have := hF μ' hu
    rw [h1] at hl
    match h : an_ev fa sl [], hl, hp with
    | [x], hl, hp =>
      rw [h] at this
      have e : μ' 48 0 = x := hp.1
      rw [e]
      exact this
theorem an_cx_49 {L d : Nat} {F : Int32 → am_M → Prop} {r0 fa : Nat → Int32} {Q : Nat} (hQ : Q ≤ 400)
    (sl : List (Nat × Nat)) (p : Nat) (t' : List Bool) (μ : am_M) (hs : an_sq (fun p e p' => p' ≤ Q ∧ an_C true r0 p e p') p sl Q) (ht : an_ty true sl [] t') (h1 : t'.length = 1) (hw : μ 50 = r0) (hf : ∀ s, an_fs true s → μ 132 (an_fi true s) = fa s)
    (hF : ∀ μ', an_un [55] μ μ' → F (an_bot (an_ev fa sl [])) μ') : am_Ci L d 70 [.ref 49, .int (nI p), .int (nI Q), .ref 132] μ F := by
  refine v_Script_run_49 ?_
  refine an_go (J := fun μ n p => am_Ji L d 70 6 [some (.ref 49), none, some (.int (nI Q)), some (.ref 132), some (.int (nI n)), some (.int (nI p)), none, none, none, none] [] μ F) (cs := 55) (sg := true) (fa := fa) (C := fun p e p' => p' ≤ Q ∧ an_C true r0 p e p') (I := fun μ => μ 50 = r0 ∧ ∀ s, an_fs true s → μ 132 (an_fi true s) = fa s)
    ?_ ?_ ?_ ?_ ?_ ?_ sl p Q [] [] t' μ hs ht rfl trivial ⟨hw, hf⟩ ?_
  · intro μ μ' hu hi
    exact ⟨(hu 50 (by decide)).trans hi.1, fun s hs => by rw [hu 132 (by decide)]; exact hi.2 s hs⟩
  · rintro μ n p p' v ⟨hpQ, g⟩ ⟨hr, hf⟩ hn hv hk2
    obtain ⟨g1, rfl⟩ := an_C0 g
    refine v_Script_run_49_6 ?_
    rw [if_neg (nI_ge (by omega : p < Q) (by omega)), am_gd_in (by omega) (by omega), am_cl (by omega)]
    simp only [hr, g1]
    rw [if_neg (an_nlt7 (by omega)), if_pos (nI_lt (by omega) (by omega)), if_neg (nI_pos (by omega)), am_gd_in (by omega) (by omega), am_cl (by omega)]
    intro μ1 e1; rw [nI_add, nI_add]; exact hk2 μ1 (an_top_w e1)
  · rintro μ n p p' s v ⟨hpQ, g⟩ ⟨hr, hf⟩ hn hs hk2
    obtain ⟨g1, rfl⟩ := an_C1 hs g
    have hi := an_fi_lt hs
    obtain ⟨z1, z2, z3⟩ := an_ngf _ hi
    have hfs := hf s hs
    refine v_Script_run_49_6 ?_
    rw [if_neg (nI_ge (by omega : p < Q) (by omega)), am_gd_in (by omega) (by omega), am_cl (by omega)]
    simp only [hr, g1]
    rw [if_neg z2, if_pos (nI_lt (by omega) (by omega)), if_pos z3, z1, am_gd_in (by omega) (by omega), am_gd_in (by omega) (by omega), am_cl (by omega), am_cl (by omega), hfs]
    intro μ1 e1; rw [nI_add, nI_add]; exact hk2 μ1 (an_top_w e1)
  · rintro μ n p p' s v ⟨hpQ, g⟩ ⟨hr, hf⟩ hn hs hk2
    obtain ⟨g1, rfl⟩ := an_C2 (by omega) (by omega) g
    have x1 : n + 2 - 1 = n + 1 := by omega
    have x2 : n + 2 - 2 = n := by omega
    refine v_Script_run_49_6 ?_
    rw [if_neg (nI_ge (by omega : p < Q) (by omega)), am_gd_in (by omega) (by omega), am_cl (by omega)]
    simp only [hr, g1]
    rw [pk_sub (by omega : 1 ≤ n + 2), pk_sub (by omega : 2 ≤ n + 2), x1, x2]
    simp only [am_cl (show n < 2147483648 by omega), am_cl (show n + 1 < 2147483648 by omega)]
    rcases hs with rfl | rfl | rfl | rfl | rfl | rfl | rfl | rfl
    · rw [if_pos (by decide), if_pos (by decide), if_pos (nI_le (by omega) (by omega)), am_gd_in (by omega) (by omega), am_gd_in (by omega) (by omega), if_neg (by decide), if_neg (by decide), if_neg (by decide), if_neg (by decide), if_neg (by decide), if_neg (by decide), if_neg (by decide), if_neg (by decide), if_pos (by decide)]
      rw [am_gd_in (by omega) (by omega)]
      intro μ1 e1; rw [nI_add, nI_add]; exact hk2 μ1 (an_top_w e1)
    · rw [if_pos (by decide), if_pos (by decide), if_pos (nI_le (by omega) (by omega)), am_gd_in (by omega) (by omega), am_gd_in (by omega) (by omega), if_neg (by decide), if_neg (by decide), if_neg (by decide), if_neg (by decide), if_neg (by decide), if_neg (by decide), if_neg (by decide), if_pos (by decide)]
      rw [am_gd_in (by omega) (by omega)]
      intro μ1 e1; rw [nI_add, nI_add]; exact hk2 μ1 (an_top_w e1)
    · rw [if_pos (by decide), if_pos (by decide), if_pos (nI_le (by omega) (by omega)), am_gd_in (by omega) (by omega), am_gd_in (by omega) (by omega), if_neg (by decide), if_neg (by decide), if_neg (by decide), if_neg (by decide), if_neg (by decide), if_neg (by decide), if_pos (by decide)]
      rw [am_gd_in (by omega) (by omega)]
      intro μ1 e1; rw [nI_add, nI_add]; exact hk2 μ1 (an_top_w e1)
    · rw [if_pos (by decide), if_pos (by decide), if_pos (nI_le (by omega) (by omega)), am_gd_in (by omega) (by omega), am_gd_in (by omega) (by omega), if_neg (by decide), if_neg (by decide), if_neg (by decide), if_neg (by decide), if_pos (by decide)]
      simp only [an_bop] at hk2
      by_cases hq : μ 55 (n + 1) ≤ μ 55 n
      · rw [if_pos hq, am_gd_in (by omega) (by omega)]
        rw [if_neg (Int32.not_lt.mpr hq)] at hk2
        intro μ1 e1; rw [nI_add, nI_add]; exact hk2 μ1 (an_top_w e1)
      · rw [if_neg hq, am_gd_in (by omega) (by omega)]
        rw [if_pos (Int32.not_le.mp hq)] at hk2
        intro μ1 e1; rw [nI_add, nI_add]; exact hk2 μ1 (an_top_w e1)
    · rw [if_pos (by decide), if_pos (by decide), if_pos (nI_le (by omega) (by omega)), am_gd_in (by omega) (by omega), am_gd_in (by omega) (by omega), if_neg (by decide), if_neg (by decide), if_neg (by decide), if_pos (by decide)]
      simp only [an_bop] at hk2
      by_cases hq : μ 55 n = μ 55 (n + 1)
      · rw [if_neg (fun z => z hq), am_gd_in (by omega) (by omega)]
        rw [if_pos hq] at hk2
        intro μ1 e1; rw [nI_add, nI_add]; exact hk2 μ1 (an_top_w e1)
      · rw [if_pos hq, am_gd_in (by omega) (by omega)]
        rw [if_neg hq] at hk2
        intro μ1 e1; rw [nI_add, nI_add]; exact hk2 μ1 (an_top_w e1)
    · rw [if_pos (by decide), if_pos (by decide), if_pos (nI_le (by omega) (by omega)), am_gd_in (by omega) (by omega), am_gd_in (by omega) (by omega), if_neg (by decide), if_neg (by decide), if_pos (by decide)]
      simp only [an_bop] at hk2
      by_cases hq : μ 55 n ≤ μ 55 (n + 1)
      · rw [if_pos hq, am_gd_in (by omega) (by omega)]
        rw [if_neg (Int32.not_lt.mpr hq)] at hk2
        intro μ1 e1; rw [nI_add, nI_add]; exact hk2 μ1 (an_top_w e1)
      · rw [if_neg hq, am_gd_in (by omega) (by omega)]
        rw [if_pos (Int32.not_le.mp hq)] at hk2
        intro μ1 e1; rw [nI_add, nI_add]; exact hk2 μ1 (an_top_w e1)
    · rw [if_pos (by decide), if_pos (by decide), if_pos (nI_le (by omega) (by omega)), am_gd_in (by omega) (by omega), am_gd_in (by omega) (by omega), if_pos (by decide)]
      rw [am_gd_in (by omega) (by omega)]
      intro μ1 e1; rw [nI_add, nI_add]; exact hk2 μ1 (an_top_w e1)
    · rw [if_pos (by decide), if_pos (by decide), if_pos (nI_le (by omega) (by omega)), am_gd_in (by omega) (by omega), am_gd_in (by omega) (by omega), if_neg (by decide), if_neg (by decide), if_neg (by decide), if_neg (by decide), if_neg (by decide), if_neg (by decide), if_neg (by decide), if_neg (by decide), if_neg (by decide)]
      rw [am_gd_in (by omega) (by omega)]
      intro μ1 e1; rw [nI_add, nI_add]; exact hk2 μ1 (an_top_w e1)
  · rintro μ n p p' v ⟨hpQ, g⟩ ⟨hr, hf⟩ hn hv0 hv hk2
    obtain ⟨g1, g2, rfl⟩ := an_C3 g
    refine v_Script_run_49_6 ?_
    rw [if_neg (nI_ge (by omega : p < Q) (by omega)), am_gd_in (by omega) (by omega), am_cl (by omega)]
    simp only [hr, g1]
    rw [if_neg (an_nlt7 (by omega)), if_pos (nI_lt (by omega) (by omega)), if_neg (nI_pos (by omega)), am_gd_in (by omega) (by omega), am_cl (by omega)]
    intro μ1 e1
    have ht1 := an_top_w e1
    have hr1 : μ1 50 = r0 := (ht1.1 50 (by decide)).trans hr
    rw [nI_add, nI_add]
    refine v_Script_run_49_6 ?_
    rw [if_neg (nI_ge (by omega : p + 1 < Q) (by omega)), am_gd_in (by omega) (by omega), am_cl (by omega)]
    simp only [hr1, g2]
    have x1 : n + 1 + 1 - 1 = n + 1 := by omega
    have x2 : n + 1 + 1 - 2 = n := by omega
    have v1 : μ1 55 (n + 1) = nI v := ht1.2.2
    have v2 : μ1 55 n = μ 55 n := ht1.2.1 n (by omega)
    rw [pk_sub (by omega : 1 ≤ n + 1 + 1), pk_sub (by omega : 2 ≤ n + 1 + 1), x1, x2]
    simp only [am_cl (show n < 2147483648 by omega), am_cl (show n + 1 < 2147483648 by omega), v1, v2]
    rw [if_pos (by decide), if_pos (by decide), if_pos (nI_le (by omega) (by omega)), am_gd_in (by omega) (by omega), am_gd_in (by omega) (by omega), if_neg (by decide), if_neg (by decide), if_neg (by decide), if_neg (by decide), if_neg (by decide), if_pos (by decide), if_pos (nI_ne0 hv0 (by omega)), an_gdv (nI_ne0 hv0 (by omega)), am_gd_in (by omega) (by omega)]
    intro μ2 e2
    rw [nI_add, nI_add]
    exact hk2 μ2 (an_top_w2 ht1 (an_top_w e2))
  · rintro μ n p p' v ⟨hpQ, g⟩ ⟨hr, hf⟩ hn hk2
    obtain ⟨g1, rfl⟩ := an_C2 (by omega) (by omega) g
    have x1 : n + 1 - 1 = n := by omega
    refine v_Script_run_49_6 ?_
    rw [if_neg (nI_ge (by omega : p < Q) (by omega)), am_gd_in (by omega) (by omega), am_cl (by omega)]
    simp only [hr, g1]
    rw [pk_sub (by omega : 1 ≤ n + 1), x1]
    simp only [am_cl (show n < 2147483648 by omega)]
    rw [if_pos (by decide), if_neg (by decide), if_pos (nI_le (by omega) (by omega)), am_gd_in (by omega) (by omega), am_gd_in (by omega) (by omega), if_neg (by decide), if_pos (by decide), am_gd_in (by omega) (by omega)]
    intro μ1 e1; rw [nI_add, nI_add]; exact hk2 μ1 (an_top_w e1)
  · intro μ' hu hp hl
    refine v_Script_run_49_6 ?_
    rw [if_pos (nI_le (Nat.le_refl _) (by omega)), h1, if_neg (nI_nle (by omega) (by omega))]
    have := hF μ' hu
    rw [h1] at hl
    match h : an_ev fa sl [], hl, hp with
    | [x], hl, hp =>
      rw [h] at this
      have e : μ' 55 0 = x := hp.1
      rw [e]
      exact this
