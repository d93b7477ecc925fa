/-! Texts: the class reads the tape. -/
variable {nb : Nat}
theorem an_let_e {b : Nat} : (an_let b = true ↔ (97 ≤ b ∧ b ≤ 122 ∨ 65 ≤ b ∧ b ≤ 90)) := by
  unfold an_let
  rw [Bool.or_eq_true, Bool.and_eq_true, Bool.and_eq_true, Nat.ble_eq, Nat.ble_eq, Nat.ble_eq, Nat.ble_eq]
theorem an_dig_e {b : Nat} : (an_dig b = true ↔ (48 ≤ b ∧ b ≤ 57)) := by
  unfold an_dig
  rw [Bool.and_eq_true, Nat.ble_eq, Nat.ble_eq]
theorem an_ch16 {b : Nat} (h : b < 256) : ((nI b).toUInt32 % 65536).toInt32 = nI b := by
  rw [pk_char, pk_tn (by omega), Nat.mod_eq_of_lt (by omega)]
theorem an_bool_f {x : Bool} (h : ¬ x = true) : x = false := by
  cases x with
  | false => rfl
  | true => exact absurd rfl h
theorem w_scan {L d : Nat} {μ : am_M} {F : am_M → Prop} {B : Nat → Nat} {T N : Nat} {sg : Bool} (hd : 12 ≤ d) (hB : an_tb 2 μ B T) (h1 : μ 1 1 = nI T) (h6 : μ 3 6 = an_b sg) (hN0 : 0 < N) (hN : ∀ j, j + 1 < N → ¬ (an_tk sg B T j).1 = 0) (hN2 : ∀ j, N ≤ j + 1 → an_tk sg B T j = (0, 0, T, T))
    (hF : ∀ μ', an_tf0 μ μ' → an_ts (an_tk sg B T) μ' N → F μ') : am_Cv L d 48 [.ref 3, .ref 1] μ F := by
  have hT := hB.1
  have tbc : ∀ μ1, an_tf0 μ μ1 → an_tb 2 μ1 B T := fun μ1 u => ⟨hT, fun j hj => by rw [u.1 2 (by decide)]; exact hB.2 j hj⟩
  have loop : ∀ (m i n : Nat) (μ1 : am_M), i + m = T → n ≤ i → n < N → an_tf0 μ μ1 → an_ts (an_tk sg B T) μ1 n → an_tk sg B T n = an_tp sg B T i → am_Jv L d 48 9 [some (.ref 3), some (.ref 1), none, some (.int (nI i)), none, none] [] μ1 F := by
    intro m
    induction m using Nat.strongRecOn with
    | _ m ih =>
      intro i n μ1 him hni hnN u1 s1 t1
      have g1 : μ1 1 1 = nI T := by rw [u1.1 1 (by decide)]; exact h1
      have g6 : μ1 3 6 = an_b sg := by rw [u1.2 6 (by decide)]; exact h6
      have B1 := tbc μ1 u1
      by_cases hiT : T ≤ i
      · refine v_Reader_scan_9 ?_
        rw [g1, if_pos (nI_le hiT (by omega))]
        rw [an_tp_end hiT] at t1
        have eN : n + 1 = N := by
          rcases Nat.lt_or_ge (n + 1) N with q | q
          · exact absurd (by rw [t1]) (hN n q)
          · omega
        refine ⟨by omega, w_addToken (n := n) (nm := 0) (by omega) s1 (by rw [t1]) (by rw [t1]) (by rw [t1]) (fun μ2 u2 s2 => ?_)⟩
        rw [eN] at s2
        exact hF μ2 (an_tf0_tr u1 u2) s2
      · have hi : i < T := by omega
        obtain ⟨b1, b2⟩ := B1.2 i hi
        -- behind a token
        have nx : ∀ (μ2 : am_M) (q : Nat), an_tf0 μ1 μ2 → an_ts (an_tk sg B T) μ2 (n + 1) → an_tk sg B T n = an_t0 sg B T i → (an_t0 sg B T i).2.2.2 = q → am_Jv L d 48 166 [some (.ref 3), some (.ref 1), some (.int (nI q)), none, none, none] [] μ2 F := by
          intro μ2 q u2 s2 t2 e2
          obtain ⟨st1, st2, _⟩ := an_t0_st (sg := sg) (B := B) hi
          have k0 := (an_t0_ok (sg := sg) (B := B) hi).2
          refine v_Reader_scan_166 ?_
          refine ih (T - q) (by omega) q (n + 1) μ2 (by omega) (by omega) ?_ (an_tf0_tr u1 u2) s2 ?_
          · rcases Nat.lt_or_ge (n + 1) N with z | z
            · exact z
            · have := hN2 n z
              rw [t2] at this
              rw [this] at k0
              exact absurd rfl k0
          · show an_tp sg B T (an_tk sg B T n).2.2.2 = _
            rw [t2, e2]
        have hSp : (B i = 32 ∨ B i = 10) → am_Jv L d 48 166 [some (.ref 3), some (.ref 1), some (.int (nI i + nI 1)), none, none, none] [] μ1 F := by
          intro hs
          rw [nI_add]
          refine v_Reader_scan_166 ?_
          exact ih (T - (i + 1)) (by omega) (i + 1) n μ1 (by omega) (by omega) hnN u1 s1 (by rw [t1, an_tp_sp hi hs])
        have hLe : (97 ≤ B i ∧ B i ≤ 122 ∨ 65 ≤ B i ∧ B i ≤ 90) → am_Jv L d 48 37 [some (.ref 3), some (.ref 1), some (.int (nI i + nI 1)), some (.int (nI i)), none, none] [] μ1 F := by
          intro hl
          have hlb : an_let (B i) = true := an_let_e.mpr hl
          have e0 : an_tk sg B T n = an_t0 sg B T i := by rw [t1, an_tp_t0 hi (by omega)]
          have et : an_t0 sg B T i = ((an_wcr sg (an_sl B i (an_run an_let B T (T - i) i - i)) 14).1, (an_wcr sg (an_sl B i (an_run an_let B T (T - i) i - i)) 14).2, i, an_run an_let B T (T - i) i) := by unfold an_t0; rw [hlb]
          have er := an_run_1 hi hlb
          rw [nI_add]
          suffices ∀ (k s : Nat), i < s → s + k = T → an_run an_let B T (T - s) s = an_run an_let B T (T - i) i → am_Jv L d 48 37 [some (.ref 3), some (.ref 1), some (.int (nI s)), some (.int (nI i)), none, none] [] μ1 F from this (T - (i + 1)) (i + 1) (by omega) (by omega) er.symm
          have out : ∀ s, i < s → s ≤ T → an_run an_let B T (T - i) i = s → am_Jv L d 48 63 [some (.ref 3), some (.ref 1), some (.int (nI s)), some (.int (nI i)), none, none] [] μ1 F := by
            intro s h1 h2 h3
            refine v_Reader_scan_63 ?_
            refine ⟨by omega, w_addWord (tk := an_tk sg B T) (n := n) (B := B) (T := T) (by omega) (by omega) s1 B1 h1 h2 g6 ?_ ?_ ?_ (fun μ2 u2 s2 => nx μ2 s u2 s2 e0 (by rw [et]; exact h3))⟩
            · rw [e0, et, h3]
            · rw [e0, et, h3]
            · rw [e0, et]
          intro k
          induction k with
          | zero =>
            intro s h1 h2 h3
            refine v_Reader_scan_37 ?_
            rw [g1, if_pos (nI_le (by omega) (by omega))]
            exact out s h1 (by omega) (by rw [← h3, an_run_0 (by omega)])
          | succ k ihk =>
            intro s h1 h2 h3
            obtain ⟨c1, c2⟩ := B1.2 s (by omega)
            refine v_Reader_scan_37 ?_
            rw [g1, if_neg (nI_ge (by omega) (by omega)), am_gd_in (by omega) (by omega), am_cl (by omega), c1]
            have go : (97 ≤ B s ∧ B s ≤ 122 ∨ 65 ≤ B s ∧ B s ≤ 90) → am_Jv L d 48 37 [some (.ref 3), some (.ref 1), some (.int (nI s + nI 1)), some (.int (nI i)), none, none] [] μ1 F := by
              intro hl2
              rw [nI_add]
              exact ihk (s + 1) (by omega) (by omega) (by rw [← h3, ← an_run_1 (by omega) (an_let_e.mpr hl2)])
            have stop : ¬ (97 ≤ B s ∧ B s ≤ 122 ∨ 65 ≤ B s ∧ B s ≤ 90) → am_Jv L d 48 63 [some (.ref 3), some (.ref 1), some (.int (nI s)), some (.int (nI i)), none, none] [] μ1 F := by
              intro hl2
              exact out s h1 (by omega) (by rw [← h3, an_run_0 (fun z => hl2 (an_let_e.mp z.2))])
            simp (discharger := omega) only [am_dp, am_lt', am_le']
            repeat' split
            all_goals first
              | exact go (by omega)
              | exact stop (by omega)
        have hDi : (48 ≤ B i ∧ B i ≤ 57) → am_Jv L d 48 81 [some (.ref 3), some (.ref 1), some (.int (nI i + nI 1)), some (.int (nI i)), none, none] [] μ1 F := by
          intro hl
          have hlb : an_dig (B i) = true := an_dig_e.mpr hl
          have hlf : an_let (B i) = false := an_bool_f (fun z => by have := an_let_e.mp z; omega)
          have e0 : an_tk sg B T n = an_t0 sg B T i := by rw [t1, an_tp_t0 hi (by omega)]
          have et : an_t0 sg B T i = (if 5 < an_run an_dig B T (T - i) i - i then 1 else 2, if 5 < an_run an_dig B T (T - i) i - i then 0 else an_num B i (an_run an_dig B T (T - i) i - i), i, an_run an_dig B T (T - i) i) := by unfold an_t0; rw [hlf]; dsimp only; rw [hlb]
          have er := an_run_1 hi hlb
          rw [nI_add]
          suffices ∀ (k s : Nat), i < s → s + k = T → an_run an_dig B T (T - s) s = an_run an_dig B T (T - i) i → am_Jv L d 48 81 [some (.ref 3), some (.ref 1), some (.int (nI s)), some (.int (nI i)), none, none] [] μ1 F from this (T - (i + 1)) (i + 1) (by omega) (by omega) er.symm
          have out : ∀ s, i < s → s ≤ T → an_run an_dig B T (T - i) i = s → am_Jv L d 48 107 [some (.ref 3), some (.ref 1), some (.int (nI s)), some (.int (nI i)), none, none] [] μ1 F := by
            intro s h1 h2 h3
            refine v_Reader_scan_107 ?_
            refine ⟨by omega, w_addNumber (tk := an_tk sg B T) (n := n) (B := B) (T := T) (by omega) (by omega) s1 B1 (by omega) h2 (fun x x1 x2 => an_dig_i (an_run_in (T - i) i x x1 (by rw [h3]; exact x2)).2) ?_ ?_ ?_ (fun μ2 u2 s2 => nx μ2 s u2 s2 e0 (by rw [et]; exact h3))⟩
            · rw [e0, et, h3]
            · rw [e0, et, h3]
            · rw [e0, et]
          intro k
          induction k with
          | zero =>
            intro s h1 h2 h3
            refine v_Reader_scan_81 ?_
            rw [g1, if_pos (nI_le (by omega) (by omega))]
            exact out s h1 (by omega) (by rw [← h3, an_run_0 (by omega)])
          | succ k ihk =>
            intro s h1 h2 h3
            obtain ⟨c1, c2⟩ := B1.2 s (by omega)
            refine v_Reader_scan_81 ?_
            rw [g1, if_neg (nI_ge (by omega) (by omega)), am_gd_in (by omega) (by omega), am_cl (by omega), c1]
            have go : (48 ≤ B s ∧ B s ≤ 57) → am_Jv L d 48 81 [some (.ref 3), some (.ref 1), some (.int (nI s + nI 1)), some (.int (nI i)), none, none] [] μ1 F := by
              intro hl2
              rw [nI_add]
              exact ihk (s + 1) (by omega) (by omega) (by rw [← h3, ← an_run_1 (by omega) (an_dig_e.mpr hl2)])
            have stop : ¬ (48 ≤ B s ∧ B s ≤ 57) → am_Jv L d 48 107 [some (.ref 3), some (.ref 1), some (.int (nI s)), some (.int (nI i)), none, none] [] μ1 F := by
              intro hl2
              exact out s h1 (by omega) (by rw [← h3, an_run_0 (fun z => hl2 (an_dig_e.mp z.2))])
            simp (discharger := omega) only [am_dp, am_lt', am_le']
            repeat' split
            all_goals first
              | exact go (by omega)
              | exact stop (by omega)
        have hOt : ¬ (B i = 32 ∨ B i = 10) → ¬ (97 ≤ B i ∧ B i ≤ 122 ∨ 65 ≤ B i ∧ B i ≤ 90) → ¬ (48 ≤ B i ∧ B i ≤ 57) → am_Ci L (d - 1) 243 [.ref 1020, .int (nI (B i))] μ1 (fun y3 μ2 => if y3 < 0 then am_Jv L d 48 149 [some (.ref 3), some (.ref 1), some (.int (nI i + nI 1)), some (.int (nI i)), some (.int (nI (B i))), some (.int (nI 0))] [] μ2 F else am_Jv L d 48 149 [some (.ref 3), some (.ref 1), some (.int (nI i + nI 1)), some (.int (nI i)), some (.int (nI (B i))), some (.int (nI 1))] [] μ2 F) := by
          intro h1 h2 h3
          have hlf : an_let (B i) = false := an_bool_f (fun z => h2 (an_let_e.mp z))
          have hdf : an_dig (B i) = false := an_bool_f (fun z => h3 (an_dig_e.mp z))
          have e0 : an_tk sg B T n = an_t0 sg B T i := by rw [t1, an_tp_t0 hi h1]
          have et : an_t0 sg B T i = (if an_sgn (B i) = true then B i else 1, 0, i, i + 1) := by unfold an_t0; rw [hlf]; dsimp only; rw [hdf]
          refine w_indexOf (by omega) b2 (fun r hr => ?_)
          rw [nI_add]
          rcases hr with ⟨hs, hr⟩ | ⟨hs, hr⟩
          · rw [if_neg hr]
            refine v_Reader_scan_149 ?_
            rw [if_neg (by decide)]
            refine ⟨by omega, w_addToken (n := n) (nm := 0) (by omega) s1 (by rw [e0, et, if_pos hs]) (by rw [e0, et]) (by rw [e0, et]) (fun μ2 u2 s2 => nx μ2 (i + 1) u2 s2 e0 (by rw [et]))⟩
          · rw [if_pos hr]
            refine v_Reader_scan_149 ?_
            rw [if_pos nI_0]
            refine ⟨by omega, w_addToken (n := n) (nm := 0) (by omega) s1 (by rw [e0, et, if_neg (by rw [hs]; decide)]) (by rw [e0, et]) (by rw [e0, et]) (fun μ2 u2 s2 => nx μ2 (i + 1) u2 s2 e0 (by rw [et]))⟩
        refine v_Reader_scan_9 ?_
        rw [g1, if_neg (nI_ge (by omega) (by omega)), am_gd_in (by omega) (by omega), am_cl (by omega), b1]
        rw [an_ch16 b2]
        have n32 : ¬ B i = 32 → ¬ nI (B i) = nI 32 := fun h z => h ((nI_eq (by omega) (by omega)).mp z)
        have n10 : ¬ B i = 10 → ¬ nI (B i) = nI 10 := fun h z => h ((nI_eq (by omega) (by omega)).mp z)
        rcases (by omega : B i < 48 ∨ (48 ≤ B i ∧ B i ≤ 57) ∨ (57 < B i ∧ B i < 65) ∨ (65 ≤ B i ∧ B i ≤ 90) ∨ (90 < B i ∧ B i < 97) ∨ (97 ≤ B i ∧ B i ≤ 122) ∨ 122 < B i) with r | r | r | r | r | r | r
        · rw [am_dp (by omega), if_pos (show nI (B i) < nI 97 from nI_lt (by omega) (by omega)), if_pos (show nI (B i) < nI 65 from nI_lt (by omega) (by omega)), am_dp (by omega), if_pos (show nI (B i) < nI 48 from nI_lt (by omega) (by omega))]
          by_cases q32 : B i = 32
          · rw [if_pos (show nI (B i) = nI 32 by rw [q32])]
            exact hSp (Or.inl q32)
          rw [if_neg (n32 q32)]
          by_cases q10 : B i = 10
          · rw [if_pos (show nI (B i) = nI 10 by rw [q10])]
            exact hSp (Or.inr q10)
          rw [if_neg (n10 q10)]
          exact ⟨by omega, hOt (by omega) (by omega) (by omega)⟩
        · rw [am_dp (by omega), if_pos (show nI (B i) < nI 97 from nI_lt (by omega) (by omega)), if_pos (show nI (B i) < nI 65 from nI_lt (by omega) (by omega)), am_dp (by omega), if_neg (show ¬ nI (B i) < nI 48 from nI_nlt (by omega) (by omega)), if_neg (show ¬ nI 57 < nI (B i) from nI_nlt (by omega) (by omega))]
          exact hDi r
        · rw [am_dp (by omega), if_pos (show nI (B i) < nI 97 from nI_lt (by omega) (by omega)), if_pos (show nI (B i) < nI 65 from nI_lt (by omega) (by omega)), am_dp (by omega), if_neg (show ¬ nI (B i) < nI 48 from nI_nlt (by omega) (by omega)), if_pos (show nI 57 < nI (B i) from nI_lt (by omega) (by omega)), if_neg (n32 (by omega)), if_neg (n10 (by omega))]
          exact ⟨by omega, hOt (by omega) (by omega) (by omega)⟩
        · rw [am_dp (by omega), if_pos (show nI (B i) < nI 97 from nI_lt (by omega) (by omega)), if_neg (show ¬ nI (B i) < nI 65 from nI_nlt (by omega) (by omega)), if_neg (show ¬ nI 90 < nI (B i) from nI_nlt (by omega) (by omega))]
          exact hLe (Or.inr r)
        · rw [am_dp (by omega), if_pos (show nI (B i) < nI 97 from nI_lt (by omega) (by omega)), if_neg (show ¬ nI (B i) < nI 65 from nI_nlt (by omega) (by omega)), if_pos (show nI 90 < nI (B i) from nI_lt (by omega) (by omega)), am_dp (by omega), if_neg (show ¬ nI (B i) < nI 48 from nI_nlt (by omega) (by omega)), if_pos (show nI 57 < nI (B i) from nI_lt (by omega) (by omega)), if_neg (n32 (by omega)), if_neg (n10 (by omega))]
          exact ⟨by omega, hOt (by omega) (by omega) (by omega)⟩
        · rw [am_dp (by omega), if_neg (show ¬ nI (B i) < nI 97 from nI_nlt (by omega) (by omega)), if_pos (show nI (B i) ≤ nI 122 from nI_le (by omega) (by omega))]
          exact hLe (Or.inl r)
        · rw [am_dp (by omega), if_neg (show ¬ nI (B i) < nI 97 from nI_nlt (by omega) (by omega)), if_neg (show ¬ nI (B i) ≤ nI 122 from nI_ge (by omega) (by omega)), if_neg (show ¬ nI (B i) < nI 65 from nI_nlt (by omega) (by omega)), if_pos (show nI 90 < nI (B i) from nI_lt (by omega) (by omega)), am_dp (by omega), if_neg (show ¬ nI (B i) < nI 48 from nI_nlt (by omega) (by omega)), if_pos (show nI 57 < nI (B i) from nI_lt (by omega) (by omega)), if_neg (n32 (by omega)), if_neg (n10 (by omega))]
          exact ⟨by omega, hOt (by omega) (by omega) (by omega)⟩
  refine v_Reader_scan ?_
  intro μ1 e1
  refine loop T 0 0 μ1 (by omega) (by omega) hN0 ⟨e1 ▸ an_un_w (by simp), fun f hf => an_w_o e1 hf⟩ ⟨an_w_s e1, fun i hi => absurd hi (by omega)⟩ rfl
