/-! Signs gathered: class and model. -/
def an_amg (w : an_W) (D h : Nat) (bk : Int32) (k : Nat) : Prop := w (3640 + 12 * k + 2) = nI h ∧ (bk >>> (w (3640 + 12 * k + 3) &&& 31)) &&& nI 1 = nI 1 ∧ ¬ w (3640 + 12 * k + 5) ≤ nI D - nI 7
noncomputable def an_g (w : an_W) (D h : Nat) (bk : Int32) (i k : Nat) : Int32 := @ite _ (an_amg w D h bk k) (Classical.propDecidable _) (match i with
  | 0 => w (3640 + 12 * k + 4)
  | 1 => nI 1
  | 2 => if w (3640 + 12 * k + 4) - w (3640 + 12 * k + 4) / nI 100 * nI 100 = 0 then nI 1 else nI 0
  | 3 => an_b (W_match w D (nI h) (w (3640 + 12 * k + 3)) (w (3640 + 12 * k + 4)).toNatClampNeg)
  | _ => an_b (an_far w (w (3640 + 12 * k + 3)).toNatClampNeg (w (3640 + 12 * k + 1)).toNatClampNeg)) (nI 0)
theorem an_g_t {w : an_W} {D h k i : Nat} {bk : Int32} (q : an_amg w D h bk k) : an_g w D h bk i k = match i with
  | 0 => w (3640 + 12 * k + 4)
  | 1 => nI 1
  | 2 => if w (3640 + 12 * k + 4) - w (3640 + 12 * k + 4) / nI 100 * nI 100 = 0 then nI 1 else nI 0
  | 3 => an_b (W_match w D (nI h) (w (3640 + 12 * k + 3)) (w (3640 + 12 * k + 4)).toNatClampNeg)
  | _ => an_b (an_far w (w (3640 + 12 * k + 3)).toNatClampNeg (w (3640 + 12 * k + 1)).toNatClampNeg) := by
  unfold an_g
  exact if_pos q
theorem an_g_f {w : an_W} {D h k i : Nat} {bk : Int32} (q : ¬ an_amg w D h bk k) : an_g w D h bk i k = nI 0 := by
  unfold an_g
  exact if_neg q
def an_f_bk (w : an_W) (h : Nat) (bk : Int32) (b : Nat) : Int32 := if (bk >>> (nI b &&& 31)) &&& nI 1 = nI 1 then w (210 + 4 * h + b) else nI 0
def W_bk (w : an_W) (h : Nat) (bk : Int32) : Int32 := am_sum (an_f_bk w h bk) 4
/-- what a sign is asked with, by the class's numbers -/
noncomputable def W_sg (w : an_W) (D h : Nat) (bk : Int32) (i : Nat) : Int32 := match i with
  | 4 => W_bk w h bk
  | 5 => W_low w D bk h (W_bk w h bk)
  | i => am_sum (an_g w D h bk i) (an_cnt w)
/-- five of them, of the first j cheques, lie in the row at q0 .. q6 -/
def an_rw (w : an_W) (D h : Nat) (bk : Int32) (q0 q1 q2 q3 q6 : Nat) (row : Nat → Int32) (j : Nat) : Prop := row q0 = am_sum (an_g w D h bk 0) j ∧ row q1 = am_sum (an_g w D h bk 1) j ∧ row q2 = am_sum (an_g w D h bk 2) j ∧ row q3 = am_sum (an_g w D h bk 3) j ∧ row q6 = am_sum (an_g w D h bk 6) j
theorem an_rw_skip {w : an_W} {D h j : Nat} {bk : Int32} {q0 q1 q2 q3 q6 : Nat} {row : Nat → Int32} (q : ¬ an_amg w D h bk j) (h0 : an_rw w D h bk q0 q1 q2 q3 q6 row j) : an_rw w D h bk q0 q1 q2 q3 q6 row (j + 1) := by
  obtain ⟨a, b, c, e, f⟩ := h0
  refine ⟨?_, ?_, ?_, ?_, ?_⟩
  all_goals (rw [am_sum, an_g_f q, am_addz]; assumption)
theorem an_if01 {c : Prop} [Decidable c] {A B : Int32 → Prop} (h1 : c → A (nI 1)) (h0 : ¬ c → A (nI 0)) : A (if c then nI 1 else nI 0) := by
  by_cases q : c
  · rw [if_pos q]; exact h1 q
  · rw [if_neg q]; exact h0 q
theorem an_gx {L d : Nat} {μ : am_M} {F : am_M → Prop} {w : an_W} {D h : Nat} {bk : Int32} (hd : 9 ≤ d) (hh : h < 6) (hD : w 0 = nI D) (hD9 : D < 90) (hR : an_RL 58 w μ) (hC : an_RC 15 w μ) (hT : an_WT w) (hN : an_N (w 1) 151) (hA : an_am w D)
    (hF : ∀ μ', an_un [132] μ μ' → an_rw w D h bk 0 1 2 3 6 (μ' 132) (an_cnt w) → μ' 132 4 = nI 0 → am_Jv L d 78 188 [some (.ref 131), some (.int (nI h)), some (.int bk), some (.ref 58), some (.int (nI (0))), none, none] [] μ' F) : ∀ (n j : Nat) (μ1 : am_M), j + n = an_cnt w → an_un [132] μ μ1 → an_rw w D h bk 0 1 2 3 6 (μ1 132) j → μ1 132 4 = nI 0 → am_Jv L d 78 35 [some (.ref 131), some (.int (nI h)), some (.int bk), some (.ref 58), some (.int (nI (j))), none, none] [] μ1 F := by
  obtain ⟨eN, lN⟩ := an_cnt_e hN
  intro n
  induction n with
  | zero =>
    intro j μ1 hj hu hr h4
    obtain rfl : j = an_cnt w := by omega
    refine v_Watch_gather_35 ?_
    rw [hu 58 (by decide), hR.2.1, eN, if_pos (nI_le (Nat.le_refl _) (by omega))]
    exact hF μ1 hu hr h4
  | succ n ih =>
    intro j μ1 hj hu hr h4
    obtain ⟨⟨a, la, ea⟩, -, hday, ⟨on, lo, eo⟩, ⟨at', lat, eat⟩⟩ := hA j (by omega)
    have r59 : ∀ (μ2 : am_M), an_un [132] μ μ2 → ∀ f, f < 10 → μ2 59 (j * 10 + f) = w (3640 + 12 * j + f) := fun μ2 u f hf => by rw [u 59 (by decide)]; exact hR.2.2.1 j f (by omega) hf
    have h179 : ∀ μ2, an_un [132] μ μ2 → an_rw w D h bk 0 1 2 3 6 (μ2 132) (j + 1) → μ2 132 4 = nI 0 → am_Jv L d 78 179 [some (.ref 131), some (.int (nI h)), some (.int bk), some (.ref 58), some (.int (nI (j))), none, none] [] μ2 F := fun μ2 u r q => by
      refine v_Watch_gather_179 ?_
      rw [nI_add]
      exact ih (j + 1) μ2 (by omega) u r q
    have skip : ¬ an_amg w D h bk j → am_Jv L d 78 179 [some (.ref 131), some (.int (nI h)), some (.int bk), some (.ref 58), some (.int (nI (j))), none, none] [] μ1 F := fun q => h179 μ1 hu (an_rw_skip q hr) h4
    have r1 := r59 μ1 hu
    refine v_Watch_gather_35 ?_
    rw [hu 58 (by decide), hR.2.1, eN, if_neg (nI_ge (by omega) (by omega)), hR.1, hD]
    simp (discharger := omega) only [am_dp, pk_mul, nI_add, am_gd_in, am_cl, an_gdz, r1 2, r1 3, r1 4, r1 5]
    by_cases q3 : (bk >>> (w (3640 + 12 * j + 3) &&& 31)) &&& nI 1 = nI 1
    · rw [if_neg (fun z => z q3)]
      by_cases q2 : w (3640 + 12 * j + 2) = nI h
      · rw [if_neg (fun z => z q2)]
        by_cases q5 : w (3640 + 12 * j + 5) ≤ nI D - nI 7
        · rw [if_pos q5]
          exact skip (fun z => z.2.2 q5)
        · rw [if_neg q5, if_neg hday]
          have amg : an_amg w D h bk j := ⟨q2, q3, q5⟩
          have h142 : ∀ μ2, an_un [132] μ μ2 → (μ2 132 0 = am_sum (an_g w D h bk 0) (j + 1) ∧ μ2 132 1 = am_sum (an_g w D h bk 1) (j + 1) ∧ μ2 132 2 = am_sum (an_g w D h bk 2) (j + 1) ∧ μ2 132 3 = am_sum (an_g w D h bk 3) (j + 1) ∧ μ2 132 6 = am_sum (an_g w D h bk 6) j) → μ2 132 4 = nI 0 → am_Jv L d 78 142 [some (.ref 131), some (.int (nI h)), some (.int bk), some (.ref 58), some (.int (nI (j))), none, some (.int (w (3640 + 12 * j + 3)))] [] μ2 F := by
            intro μ2 u ⟨s0, s1, s2, s3, s6⟩ s4
            obtain ⟨ta, tla⟩ := an_T_e hT lat
            obtain ⟨tb, tlb⟩ := an_T_e hT lo
            have fin : ∀ μ3, μ3 = am_w μ2 132 6 (μ2 132 6 + an_b (an_far w at' on)) → am_Jv L d 78 179 [some (.ref 131), some (.int (nI h)), some (.int bk), some (.ref 58), some (.int (nI (j))), none, none] [] μ3 F := fun μ3 e3 => by
              refine h179 μ3 (an_un_tr u (e3 ▸ an_un_w (by simp)) (fun _ q => q) (fun _ q => q)) ⟨?_, ?_, ?_, ?_, ?_⟩ ?_
              · rw [an_w_o e3 (by decide)]; exact s0
              · rw [an_w_o e3 (by decide)]; exact s1
              · rw [an_w_o e3 (by decide)]; exact s2
              · rw [an_w_o e3 (by decide)]; exact s3
              · rw [an_w_s e3, s6, am_sum, an_g_t amg]
                show _ = _ + an_b (an_far w (w (3640 + 12 * j + 3)).toNatClampNeg (w (3640 + 12 * j + 1)).toNatClampNeg)
                rw [eo, eat, am_cl (by omega), am_cl (by omega)]
              · rw [an_w_o e3 (by decide)]; exact s4
            refine v_Watch_gather_142 ?_
            have r2 := r59 μ2 u
            simp (discharger := omega) only [am_dp, pk_mul, nI_add, am_gd_in, am_cl, r2 1, eo, eat]
            rw [u 16 (by decide), hC.1 _ lat, hC.1 _ lo, ta, tb]
            by_cases qf : an_T w at' = an_T w on
            · rw [if_pos (by rw [qf])]
              intro μ3 e3
              refine fin μ3 ?_
              rw [show an_far w at' on = false by unfold an_far; rw [qf, Nat.beq_refl]; rfl]
              exact e3
            · rw [if_neg (fun z => qf ((nI_eq (by omega) (by omega)).mp z))]
              intro μ3 e3
              refine fin μ3 ?_
              rw [show an_far w at' on = true by unfold an_far; rw [am_nb qf]; rfl]
              exact e3
          have h116 : ∀ μ2, an_un [132] μ μ2 → (μ2 132 0 = am_sum (an_g w D h bk 0) (j + 1) ∧ μ2 132 1 = am_sum (an_g w D h bk 1) (j + 1) ∧ μ2 132 2 = am_sum (an_g w D h bk 2) (j + 1) ∧ μ2 132 3 = am_sum (an_g w D h bk 3) j ∧ μ2 132 6 = am_sum (an_g w D h bk 6) j) → μ2 132 4 = nI 0 → am_Jv L d 78 116 [some (.ref 131), some (.int (nI h)), some (.int bk), some (.ref 58), some (.int (nI (j))), some (.int (w (3640 + 12 * j + 4))), some (.int (w (3640 + 12 * j + 3)))] [] μ2 F := by
            intro μ2 u ⟨s0, s1, s2, s3, s6⟩ s4
            have fin : ∀ μ3, μ3 = am_w μ2 132 3 (μ2 132 3 + an_b (W_match w D (nI h) (w (3640 + 12 * j + 3)) a)) → am_Jv L d 78 142 [some (.ref 131), some (.int (nI h)), some (.int bk), some (.ref 58), some (.int (nI (j))), none, some (.int (w (3640 + 12 * j + 3)))] [] μ3 F := fun μ3 e3 => by
              refine h142 μ3 (an_un_tr u (e3 ▸ an_un_w (by simp)) (fun _ q => q) (fun _ q => q)) ⟨?_, ?_, ?_, ?_, ?_⟩ ?_
              · rw [an_w_o e3 (by decide)]; exact s0
              · rw [an_w_o e3 (by decide)]; exact s1
              · rw [an_w_o e3 (by decide)]; exact s2
              · rw [an_w_s e3, s3, am_sum, an_g_t amg]
                show _ = _ + an_b (W_match w D (nI h) (w (3640 + 12 * j + 3)) (w (3640 + 12 * j + 4)).toNatClampNeg)
                rw [ea, am_cl (by omega)]
              · rw [an_w_o e3 (by decide)]; exact s6
              · rw [an_w_o e3 (by decide)]; exact s4
            refine v_Watch_gather_116 ?_
            rw [ea]
            refine ⟨by omega, s_hasMatch (by omega) (an_RL_c hR (fun c z1 z2 => u c (by simp; omega))) hN hD la hA ?_⟩
            rw [an_bf]
            cases hm : W_match w D (nI h) (w (3640 + 12 * j + 3)) a with
            | true =>
              rw [hm] at fin
              exact fun μ3 e3 => fin μ3 e3
            | false =>
              rw [hm] at fin
              exact fun μ3 e3 => fin μ3 e3
          intro μ2 e2 μ3 e3
          obtain ⟨s0, s1, s2, s3, s6⟩ := hr
          have go : ∀ v μ4, v = an_g w D h bk 2 j → μ4 = am_w μ3 132 2 (μ3 132 2 + v) → am_Jv L d 78 116 [some (.ref 131), some (.int (nI h)), some (.int bk), some (.ref 58), some (.int (nI (j))), some (.int (w (3640 + 12 * j + 4))), some (.int (w (3640 + 12 * j + 3)))] [] μ4 F := fun v μ4 ev e4 => by
            refine h116 μ4 (an_un_tr (an_un_tr (an_un_tr hu (e2 ▸ an_un_w (by simp)) (fun _ q => q) (fun _ q => q)) (e3 ▸ an_un_w (by simp)) (fun _ q => q) (fun _ q => q)) (e4 ▸ an_un_w (by simp)) (fun _ q => q) (fun _ q => q)) ⟨?_, ?_, ?_, ?_, ?_⟩ ?_
            · rw [an_w_o e4 (by decide), an_w_o e3 (by decide), an_w_s e2, s0, am_sum, an_g_t amg]
              rfl
            · rw [an_w_o e4 (by decide), an_w_s e3, an_w_o e2 (by decide), s1, am_sum, an_g_t amg]
              rfl
            · rw [an_w_s e4, an_w_o e3 (by decide), an_w_o e2 (by decide), s2, am_sum, ev]
            · rw [an_w_o e4 (by decide), an_w_o e3 (by decide), an_w_o e2 (by decide), s3]
            · rw [an_w_o e4 (by decide), an_w_o e3 (by decide), an_w_o e2 (by decide), s6]
            · rw [an_w_o e4 (by decide), an_w_o e3 (by decide), an_w_o e2 (by decide), h4]
          have e2v : an_g w D h bk 2 j = if w (3640 + 12 * j + 4) - w (3640 + 12 * j + 4) / nI 100 * nI 100 = 0 then nI 1 else nI 0 := an_g_t amg
          by_cases qr : w (3640 + 12 * j + 4) - w (3640 + 12 * j + 4) / nI 100 * nI 100 = 0
          · rw [if_neg (fun z => z qr)]
            intro μ4 e4
            exact go _ μ4 (by rw [e2v, if_pos qr]) e4
          · rw [if_pos qr]
            intro μ4 e4
            exact go _ μ4 (by rw [e2v, if_neg qr]) e4
      · rw [if_pos q2]
        exact skip (fun z => q2 z.1)
    · rw [if_pos q3]
      exact skip (fun z => q3 z.2.1)
theorem s_gather {L d : Nat} {μ : am_M} {F : am_M → Prop} {w : an_W} {D h : Nat} {bk : Int32} (hd : 12 ≤ d) (hh : h < 6) (hD : w 0 = nI D) (hD9 : D < 90) (hR : an_RL 58 w μ) (hC : an_RC 15 w μ) (hT : an_WT w) (hN : an_N (w 1) 151) (hA : an_am w D) (hk : ∀ i, i < 3240 → μ 65 i = w (372 + i))
    (hF : ∀ μ', an_un [132] μ μ' → (∀ i, i < 7 → μ' 132 i = W_sg w D h bk i) → F μ') : am_Cv L d 78 [.ref 131, .int (nI h), .int bk] μ F := by
  have tail : ∀ (μ1 : am_M), an_un [132] μ μ1 → an_rw w D h bk 0 1 2 3 6 (μ1 132) (an_cnt w) → μ1 132 4 = nI 0 → am_Jv L d 78 188 [some (.ref 131), some (.int (nI h)), some (.int bk), some (.ref 58), some (.int (nI (0))), none, none] [] μ1 F := by
    intro μ1 hu hr h4
    have hr' : ∀ μ2 : am_M, (∀ i : Nat, i ≠ 4 → i ≠ 5 → μ2 132 i = μ1 132 i) → an_rw w D h bk 0 1 2 3 6 (μ2 132) (an_cnt w) := fun μ2 e => by
      obtain ⟨s0, s1, s2, s3, s6⟩ := hr
      exact ⟨(e 0 (by decide) (by decide)).trans s0, (e 1 (by decide) (by decide)).trans s1, (e 2 (by decide) (by decide)).trans s2, (e 3 (by decide) (by decide)).trans s3, (e 6 (by decide) (by decide)).trans s6⟩
    suffices ∀ (n b : Nat) (μ2 : am_M), b + n = 4 → an_un [132] μ μ2 → (∀ i, i ≠ 4 → i ≠ 5 → μ2 132 i = μ1 132 i) → μ2 132 4 = am_sum (an_f_bk w h bk) b → am_Jv L d 78 188 [some (.ref 131), some (.int (nI h)), some (.int bk), some (.ref 58), some (.int (nI (b))), none, none] [] μ2 F from this 4 0 μ1 (by omega) hu (fun _ _ _ => rfl) h4
    intro n
    induction n with
    | zero =>
      intro b μ2 hb u e h4
      obtain rfl : b = 4 := by omega
      refine v_Watch_gather_188 ?_
      rw [if_pos (nI_le (Nat.le_refl _) (by omega)), h4]
      refine ⟨by omega, s_lowOf (by omega) hh (by rw [u 58 (by decide), hR.1, hD]) hD9 (fun i hi => by rw [u 65 (by decide)]; exact hk i hi) ?_⟩
      intro μ3 e3
      refine hF μ3 (an_un_tr u (e3 ▸ an_un_w (by simp)) (fun _ q => q) (fun _ q => q)) (fun i hi => ?_)
      obtain ⟨s0, s1, s2, s3, s6⟩ := hr' μ2 e
      rcases (by omega : i = 0 ∨ i = 1 ∨ i = 2 ∨ i = 3 ∨ i = 4 ∨ i = 5 ∨ i = 6) with rfl | rfl | rfl | rfl | rfl | rfl | rfl
      · rw [an_w_o e3 (by decide)]; exact s0
      · rw [an_w_o e3 (by decide)]; exact s1
      · rw [an_w_o e3 (by decide)]; exact s2
      · rw [an_w_o e3 (by decide)]; exact s3
      · rw [an_w_o e3 (by decide)]; exact h4
      · rw [an_w_s e3]; rfl
      · rw [an_w_o e3 (by decide)]; exact s6
    | succ n ih =>
      intro b μ2 hb u e h4
      have eb := (an_RL_b hR).1 h b hh (by omega)
      refine v_Watch_gather_188 ?_
      rw [if_neg (nI_ge (by omega) (by omega))]
      by_cases q : (bk >>> (nI b &&& 31)) &&& nI 1 = nI 1
      · rw [if_neg (fun z => z q), pk_mul, nI_add, am_gd_in (by omega) (by omega), am_cl (by omega), u 60 (by decide), eb]
        intro μ3 e3
        refine v_Watch_gather_224 ?_
        rw [nI_add]
        refine ih (b + 1) μ3 (by omega) (an_un_tr u (e3 ▸ an_un_w (by simp)) (fun _ q => q) (fun _ q => q)) (fun i h1 h2 => (an_w_o e3 h1).trans (e i h1 h2)) ?_
        rw [an_w_s e3, h4, am_sum]
        unfold an_f_bk
        rw [if_pos q]
      · rw [if_pos q]
        refine v_Watch_gather_224 ?_
        rw [nI_add]
        refine ih (b + 1) μ2 (by omega) u e ?_
        rw [h4, am_sum]
        unfold an_f_bk
        rw [if_neg q, am_addz]
  refine v_Watch_gather ?_
  suffices ∀ (n i : Nat) (μ1 : am_M), i + n = 7 → an_un [132] μ μ1 → (∀ k, k < i → μ1 132 k = nI 0) → am_Jv L d 78 11 [some (.ref 131), some (.int (nI h)), some (.int bk), some (.ref 58), some (.int (nI (i))), none, none] [] μ1 F from this 7 0 μ (by omega) an_un_rf (fun k hk => by omega)
  intro n
  induction n with
  | zero =>
    intro i μ1 hi u z
    obtain rfl : i = 7 := by omega
    refine v_Watch_gather_11 ?_
    rw [if_pos (nI_le (Nat.le_refl _) (by omega))]
    exact an_gx (by omega) hh hD hD9 hR hC hT hN hA tail (an_cnt w) 0 μ1 (by omega) u ⟨z 0 (by omega), z 1 (by omega), z 2 (by omega), z 3 (by omega), z 6 (by omega)⟩ (z 4 (by omega))
  | succ n ih =>
    intro i μ1 hi u z
    refine v_Watch_gather_11 ?_
    rw [if_neg (nI_ge (by omega) (by omega)), am_gd_in (by omega) (by omega), am_cl (by omega)]
    intro μ2 e2
    rw [nI_add]
    refine ih (i + 1) μ2 (by omega) (an_un_tr u (e2 ▸ an_un_w (by simp)) (fun _ q => q) (fun _ q => q)) (fun k hk => ?_)
    by_cases q : k = i
    · rw [q, an_w_s e2]
    · rw [an_w_o e2 q]; exact z k (by omega)
theorem an_gm {L d : Nat} {μ : am_M} {F : am_M → Prop} {w : an_W} {D h : Nat} {bk : Int32} (hd : 9 ≤ d) (hh : h < 6) (hD : w 0 = nI D) (hD9 : D < 90) (hw : μ 141 = w) (hT : an_WT w) (hN : an_N (w 1) 151) (hA : an_am w D)
    (hF : ∀ μ', an_un [148] μ μ' → an_rw w D h bk 8 7 9 10 2 (μ' 148) (an_cnt w) → μ' 148 6 = nI 0 → am_Jv L d 219 195 [some (.ref 140), some (.int (nI h)), some (.int bk), some (.int (nI (0))), none, none, none] [] μ' F) : ∀ (n j : Nat) (μ1 : am_M), j + n = an_cnt w → an_un [148] μ μ1 → an_rw w D h bk 8 7 9 10 2 (μ1 148) j → μ1 148 6 = nI 0 → am_Jv L d 219 23 [some (.ref 140), some (.int (nI h)), some (.int bk), some (.int (nI (j))), none, none, none] [] μ1 F := by
  obtain ⟨eN, lN⟩ := an_cnt_e hN
  intro n
  induction n with
  | zero =>
    intro j μ1 hj hu hr h4
    obtain rfl : j = an_cnt w := by omega
    refine v_M_signs_23 ?_
    rw [hu 141 (by decide), hw, eN, if_pos (nI_le (Nat.le_refl _) (by omega))]
    exact hF μ1 hu hr h4
  | succ n ih =>
    intro j μ1 hj hu hr h4
    obtain ⟨⟨a, la, ea⟩, -, hday, ⟨on, lo, eo⟩, ⟨at', lat, eat⟩⟩ := hA j (by omega)
    have wm : ∀ (μ2 : am_M), an_un [148] μ μ2 → μ2 141 = w := fun μ2 u => (u 141 (by decide)).trans hw
    have h187 : ∀ μ2, an_un [148] μ μ2 → an_rw w D h bk 8 7 9 10 2 (μ2 148) (j + 1) → μ2 148 6 = nI 0 → am_Jv L d 219 187 [some (.ref 140), some (.int (nI h)), some (.int bk), some (.int (nI (j))), none, none, none] [] μ2 F := fun μ2 u r q => by
      refine v_M_signs_187 ?_
      rw [nI_add]
      exact ih (j + 1) μ2 (by omega) u r q
    have skip : ¬ an_amg w D h bk j → am_Jv L d 219 187 [some (.ref 140), some (.int (nI h)), some (.int bk), some (.int (nI (j))), none, none, none] [] μ1 F := fun q => h187 μ1 hu (an_rw_skip q hr) h4
    have w1 := wm μ1 hu
    refine v_M_signs_23 ?_
    rw [w1, eN, if_neg (nI_ge (by omega) (by omega)), hD]
    simp (discharger := omega) only [am_dp, pk_mul, nI_add, am_gd_in, am_cl, an_gdz, an_lt_le (x := nI D - nI 7)]
    by_cases q2 : w (3640 + 12 * j + 2) = nI h
    · rw [if_neg (fun z => z q2)]
      by_cases q3 : (bk >>> (w (3640 + 12 * j + 3) &&& 31)) &&& nI 1 = nI 1
      · rw [if_neg ((an_bit _).mp q3)]
        by_cases q5 : w (3640 + 12 * j + 5) ≤ nI D - nI 7
        · rw [if_pos q5]
          exact skip (fun z => z.2.2 q5)
        · rw [if_neg q5]
          have amg : an_amg w D h bk j := ⟨q2, q3, q5⟩
          have h164 : ∀ μ2, an_un [148] μ μ2 → (μ2 148 8 = am_sum (an_g w D h bk 0) (j + 1) ∧ μ2 148 7 = am_sum (an_g w D h bk 1) (j + 1) ∧ μ2 148 9 = am_sum (an_g w D h bk 2) (j + 1) ∧ μ2 148 10 = am_sum (an_g w D h bk 3) j ∧ μ2 148 2 = am_sum (an_g w D h bk 6) (j + 1)) → μ2 148 6 = nI 0 → am_Jv L d 219 164 [some (.ref 140), some (.int (nI h)), some (.int bk), some (.int (nI (j))), none, none, none] [] μ2 F := by
            intro μ2 u ⟨s0, s1, s2, s3, s6⟩ s4
            have fin : ∀ μ3, μ3 = am_w μ2 148 10 (μ2 148 10 + an_b (W_match w D (w (3640 + 12 * j + 2)) (w (3640 + 12 * j + 3)) a)) → am_Jv L d 219 187 [some (.ref 140), some (.int (nI h)), some (.int bk), some (.int (nI (j))), none, none, none] [] μ3 F := fun μ3 e3 => by
              refine h187 μ3 (an_un_tr u (e3 ▸ an_un_w (by simp)) (fun _ q => q) (fun _ q => q)) ⟨?_, ?_, ?_, ?_, ?_⟩ ?_
              · rw [an_w_o e3 (by decide)]; exact s0
              · rw [an_w_o e3 (by decide)]; exact s1
              · rw [an_w_o e3 (by decide)]; exact s2
              · rw [an_w_s e3, s3, am_sum, an_g_t amg]
                show _ = _ + an_b (W_match w D (nI h) (w (3640 + 12 * j + 3)) (w (3640 + 12 * j + 4)).toNatClampNeg)
                rw [ea, am_cl (by omega), q2]
              · rw [an_w_o e3 (by decide)]; exact s6
              · rw [an_w_o e3 (by decide)]; exact s4
            refine v_M_signs_164 ?_
            refine ⟨by omega, s_M_isMatched (by omega) (by omega) (wm μ2 u) hN hD la ea hA ?_⟩
            rw [an_bf]
            cases hm : W_match w D (w (3640 + 12 * j + 2)) (w (3640 + 12 * j + 3)) a with
            | true =>
              rw [hm] at fin
              exact fun μ3 e3 => fin μ3 e3
            | false =>
              rw [hm] at fin
              exact fun μ3 e3 => fin μ3 e3
          have h131 : ∀ μ2, an_un [148] μ μ2 → (μ2 148 8 = am_sum (an_g w D h bk 0) (j + 1) ∧ μ2 148 7 = am_sum (an_g w D h bk 1) (j + 1) ∧ μ2 148 9 = am_sum (an_g w D h bk 2) (j + 1) ∧ μ2 148 10 = am_sum (an_g w D h bk 3) j ∧ μ2 148 2 = am_sum (an_g w D h bk 6) j) → μ2 148 6 = nI 0 → am_Jv L d 219 131 [some (.ref 140), some (.int (nI h)), some (.int bk), some (.int (nI (j))), none, none, none] [] μ2 F := by
            intro μ2 u ⟨s0, s1, s2, s3, s6⟩ s4
            obtain ⟨ta, tla⟩ := an_T_e hT lat
            obtain ⟨tb, tlb⟩ := an_T_e hT lo
            have fin : ∀ μ3, μ3 = am_w μ2 148 2 (μ2 148 2 + an_b (an_far w at' on)) → am_Jv L d 219 164 [some (.ref 140), some (.int (nI h)), some (.int bk), some (.int (nI (j))), none, none, none] [] μ3 F := fun μ3 e3 => by
              refine h164 μ3 (an_un_tr u (e3 ▸ an_un_w (by simp)) (fun _ q => q) (fun _ q => q)) ⟨?_, ?_, ?_, ?_, ?_⟩ ?_
              · rw [an_w_o e3 (by decide)]; exact s0
              · rw [an_w_o e3 (by decide)]; exact s1
              · rw [an_w_o e3 (by decide)]; exact s2
              · rw [an_w_o e3 (by decide)]; exact s3
              · rw [an_w_s e3, s6, am_sum, an_g_t amg]
                show _ = _ + an_b (an_far w (w (3640 + 12 * j + 3)).toNatClampNeg (w (3640 + 12 * j + 1)).toNatClampNeg)
                rw [eo, eat, am_cl (by omega), am_cl (by omega)]
              · rw [an_w_o e3 (by decide)]; exact s4
            refine v_M_signs_131 ?_
            simp (discharger := omega) only [am_dp, pk_mul, nI_add, am_gd_in, am_cl, wm μ2 u, eo, eat, ta, tb]
            by_cases qf : an_T w at' = an_T w on
            · rw [if_pos (by rw [qf])]
              intro μ3 e3
              refine fin μ3 ?_
              rw [show an_far w at' on = false by unfold an_far; rw [qf, Nat.beq_refl]; rfl]
              exact e3
            · rw [if_neg (fun z => qf ((nI_eq (by omega) (by omega)).mp z))]
              intro μ3 e3
              refine fin μ3 ?_
              rw [show an_far w at' on = true by unfold an_far; rw [am_nb qf]; rfl]
              exact e3
          intro μ2 e2 μ3 e3
          obtain ⟨s0, s1, s2, s3, s6⟩ := hr
          rw [show μ3 141 = w by rw [an_w_c e3 (by decide), an_w_c e2 (by decide), w1]]
          have go : ∀ v μ4, v = an_g w D h bk 2 j → μ4 = am_w μ3 148 9 (μ3 148 9 + v) → am_Jv L d 219 131 [some (.ref 140), some (.int (nI h)), some (.int bk), some (.int (nI (j))), none, none, none] [] μ4 F := fun v μ4 ev e4 => by
            refine h131 μ4 (an_un_tr (an_un_tr (an_un_tr hu (e2 ▸ an_un_w (by simp)) (fun _ q => q) (fun _ q => q)) (e3 ▸ an_un_w (by simp)) (fun _ q => q) (fun _ q => q)) (e4 ▸ an_un_w (by simp)) (fun _ q => q) (fun _ q => q)) ⟨?_, ?_, ?_, ?_, ?_⟩ ?_
            · rw [an_w_o e4 (by decide), an_w_o e3 (by decide), an_w_s e2, s0, am_sum, an_g_t amg]
              rfl
            · rw [an_w_o e4 (by decide), an_w_s e3, an_w_o e2 (by decide), s1, am_sum, an_g_t amg]
              rfl
            · rw [an_w_s e4, an_w_o e3 (by decide), an_w_o e2 (by decide), s2, am_sum, ev]
            · rw [an_w_o e4 (by decide), an_w_o e3 (by decide), an_w_o e2 (by decide), s3]
            · rw [an_w_o e4 (by decide), an_w_o e3 (by decide), an_w_o e2 (by decide), s6]
            · rw [an_w_o e4 (by decide), an_w_o e3 (by decide), an_w_o e2 (by decide), h4]
          have e2v : an_g w D h bk 2 j = if w (3640 + 12 * j + 4) - w (3640 + 12 * j + 4) / nI 100 * nI 100 = 0 then nI 1 else nI 0 := an_g_t amg
          by_cases qr : w (3640 + 12 * j + 4) - w (3640 + 12 * j + 4) / nI 100 * nI 100 = 0
          · rw [if_neg (fun z => z qr)]
            intro μ4 e4
            exact go _ μ4 (by rw [e2v, if_pos qr]) e4
          · rw [if_pos qr]
            intro μ4 e4
            exact go _ μ4 (by rw [e2v, if_neg qr]) e4
      · rw [if_pos (Decidable.byContradiction fun z => q3 ((an_bit _).mpr z))]
        exact skip (fun z => q3 z.2.1)
    · rw [if_pos q2]
      exact skip (fun z => q2 z.1)
theorem nI_one_mul (x : Int32) : nI 1 * x = x := Int32.one_mul x
theorem an_mlow {L d : Nat} {F : am_M → Prop} {w : an_W} {D h : Nat} {bk : Int32} (hd : 4 ≤ d) (hh : h < 6) (hD : w 0 = nI D) (hD9 : D < 90) (hkp : ∀ e, e < 90 → w (282 + e) = if 1 ≤ e ∧ e ≤ D then nI 1 else nI 0) : ∀ (n e : Nat) (s : Bool) (μ1 : am_M), e + n = D + 1 → μ1 141 = w → (∀ μ', an_un [148] μ1 μ' → (∀ i, i ≠ 11 → μ' 148 i = μ1 148 i) → μ' 148 11 = (if 1 ≤ e then an_lw w bk h n e s (μ1 148 11) else an_lw w bk h (n - 1) 1 s (μ1 148 11)) → F μ') → am_Jv L d 219 278 [some (.ref 140), some (.int (nI h)), some (.int bk), some (.int (an_b s)), some (.int (nI e)), none, none] [] μ1 F := by
  intro n
  induction n with
  | zero =>
    intro e s μ1 he hw hF
    refine v_M_signs_278 ?_
    rw [hw, hD, if_pos (nI_lt (by omega) (by omega))]
    refine hF μ1 an_un_rf (fun _ _ => rfl) ?_
    rw [if_pos (by omega)]
    rfl
  | succ n ih =>
    intro e s μ1 he hw hF
    refine v_M_signs_278 ?_
    rw [hw, hD, if_neg (nI_nlt (by omega) (by omega))]
    refine am_down (P := fun j => am_Jv L d 219 295 [some (.ref 140), some (.int (nI h)), some (.int bk), some (.int (an_b s)), some (.int (nI e)), some (.int (am_sum (an_f_kp w bk h e) j)), some (.int (nI j))] [] μ1 F) (N := 4) ?_ ?_ 0 (Nat.zero_le _)
    · refine v_M_signs_295 ?_
      rw [if_pos (nI_le (Nat.le_refl _) (by omega)), nI_add, am_gd_in (by omega) (by omega), am_cl (by omega), hw, hkp e (by omega)]
      by_cases q1 : 1 ≤ e
      · rw [show (if 1 ≤ e ∧ e ≤ D then nI 1 else nI 0) = nI 1 from if_pos ⟨q1, by omega⟩, if_neg (by decide)]
        have take : (∀ μ', an_un [148] μ1 μ' → (∀ i, i ≠ 11 → μ' 148 i = μ1 148 i) → μ' 148 11 = an_lw w bk h n (e + 1) true (W_kp w bk h e) → F μ') → am_Jv L d 219 376 [some (.ref 140), some (.int (nI h)), some (.int bk), none, some (.int (nI e)), some (.int (W_kp w bk h e)), none] [] μ1 F := fun hF2 => by
          refine v_M_signs_376 ?_
          intro μ2 e2
          refine v_M_signs_387 ?_
          rw [nI_add]
          refine ih (e + 1) true μ2 (by omega) ((an_w_c e2 (by decide)).trans hw) (fun μ3 u3 o3 v3 => ?_)
          refine hF2 μ3 (an_un_tr (e2 ▸ an_un_w (by simp)) u3 (fun _ q => q) (fun _ q => q)) (fun i hi => (o3 i hi).trans (an_w_o e2 hi)) ?_
          rw [v3, if_pos (by omega), an_w_s e2]
        have keep : s = true → (∀ μ', an_un [148] μ1 μ' → (∀ i, i ≠ 11 → μ' 148 i = μ1 148 i) → μ' 148 11 = an_lw w bk h n (e + 1) s (μ1 148 11) → F μ') → am_Jv L d 219 387 [some (.ref 140), some (.int (nI h)), some (.int bk), some (.int (an_b s)), some (.int (nI e)), none, none] [] μ1 F := fun _ hF2 => by
          refine v_M_signs_387 ?_
          rw [nI_add]
          refine ih (e + 1) s μ1 (by omega) hw (fun μ3 u3 o3 v3 => ?_)
          refine hF2 μ3 u3 o3 ?_
          rw [v3, if_pos (by omega)]
        have hF : ∀ μ', an_un [148] μ1 μ' → (∀ i, i ≠ 11 → μ' 148 i = μ1 148 i) → (μ' 148 11 = if s = true ∧ μ1 148 11 ≤ W_kp w bk h e then an_lw w bk h n (e + 1) s (μ1 148 11) else an_lw w bk h n (e + 1) true (W_kp w bk h e)) → F μ' := fun μ' a b c => hF μ' a b (by rw [if_pos q1, an_lw]; exact c)
        cases s with
        | false =>
          rw [if_pos (show an_b false = 0 from nI_0)]
          exact take (fun μ' a b c => hF μ' a b (by rw [if_neg (fun z => by cases z.1)]; exact c))
        | true =>
          rw [if_neg (show ¬ an_b true = 0 by decide)]
          show if W_kp w bk h e < μ1 148 11 then _ else _
          by_cases q2 : μ1 148 11 ≤ W_kp w bk h e
          · rw [if_neg (Int32.not_lt.mpr q2)]
            exact keep rfl (fun μ' a b c => hF μ' a b (by rw [if_pos ⟨rfl, q2⟩]; exact c))
          · rw [if_pos (Int32.not_le.mp q2)]
            exact take (fun μ' a b c => hF μ' a b (by rw [if_neg (fun z => q2 z.2)]; exact c))
      · rw [show (if 1 ≤ e ∧ e ≤ D then nI 1 else nI 0) = nI 0 from if_neg (fun z => q1 z.1), if_pos nI_0]
        refine v_M_signs_387 ?_
        rw [nI_add]
        refine ih (e + 1) s μ1 (by omega) hw (fun μ3 u3 o3 v3 => ?_)
        refine hF μ3 u3 o3 ?_
        rw [v3, if_pos (by omega), if_neg q1]
        obtain rfl : e = 0 := by omega
        rfl
    · intro j hj ih2
      refine v_M_signs_295 ?_
      rw [if_neg (nI_ge hj (by omega))]
      simp (discharger := omega) only [pk_mul, nI_add, am_cl, am_gd_in, hw]
      rw [am_sum] at ih2
      unfold an_f_kp at ih2
      by_cases q : (bk >>> (nI j &&& 31)) &&& nI 1 = nI 1
      · rw [q, nI_one_mul]
        rw [if_pos q] at ih2
        exact ih2
      · have q0 := Decidable.byContradiction fun z => q ((an_bit _).mpr z)
        rw [q0, Int32.zero_mul, Int32.add_zero]
        rw [if_neg q, am_addz] at ih2
        exact ih2
