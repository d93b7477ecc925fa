/-! Cries; sign. -/
variable {nb : Nat}
/-- the model's places of the facts -/
def an_sp (i : Nat) : Nat := match i with
  | 0 => 8
  | 1 => 7
  | 2 => 9
  | 3 => 10
  | 4 => 6
  | 5 => 11
  | _ => 2
theorem s_M_signs {L d : Nat} {μ : am_M} {F : am_M → Prop} {w : an_W} {D h : Nat} {bk : Int32} (hd : 12 ≤ d) (hh : h < 6) (hD : w 0 = nI D) (hD9 : D < 90) (hw : μ 141 = w) (hT : an_WT w) (hN : an_N (w 1) 151) (hA : an_am w D) (hkp : ∀ e, e < 90 → w (282 + e) = if 1 ≤ e ∧ e ≤ D then nI 1 else nI 0)
    (hF : ∀ μ', an_un [148] μ μ' → (∀ i, i < 7 → μ' 148 (an_sp i) = W_sg w D h bk i) → F μ') : am_Cv L d 219 [.ref 140, .int (nI h), .int bk] μ F := by
  have tail : ∀ (μ1 : am_M), an_un [148] μ μ1 → an_rw w D h bk 8 7 9 10 2 (μ1 148) (an_cnt w) → μ1 148 6 = nI 0 → am_Jv L d 219 195 [some (.ref 140), some (.int (nI h)), some (.int bk), some (.int (nI (0))), none, none, none] [] μ1 F := by
    intro μ1 hu hr h4
    have hr' : ∀ μ2 : am_M, (∀ i : Nat, i ≠ 6 → i ≠ 11 → μ2 148 i = μ1 148 i) → an_rw w D h bk 8 7 9 10 2 (μ2 148) (an_cnt w) := fun μ2 e => by
      obtain ⟨s0, s1, s2, s3, s6⟩ := hr
      exact ⟨(e 8 (by decide) (by decide)).trans s0, (e 7 (by decide) (by decide)).trans s1, (e 9 (by decide) (by decide)).trans s2, (e 10 (by decide) (by decide)).trans s3, (e 2 (by decide) (by decide)).trans s6⟩
    suffices ∀ (n b : Nat) (μ2 : am_M), b + n = 4 → an_un [148] μ μ2 → (∀ i, i ≠ 6 → i ≠ 11 → μ2 148 i = μ1 148 i) → μ2 148 6 = am_sum (an_f_bk w h bk) b → am_Jv L d 219 195 [some (.ref 140), some (.int (nI h)), some (.int bk), some (.int (nI (b))), none, none, none] [] μ2 F from this 4 0 μ1 (by omega) hu (fun _ _ _ => rfl) h4
    intro n
    induction n with
    | zero =>
      intro b μ2 hb u e h4
      obtain rfl : b = 4 := by omega
      refine v_M_signs_195 ?_
      rw [if_pos (nI_le (Nat.le_refl _) (by omega)), h4]
      intro μ3 e3
      have w3 : μ3 141 = w := by rw [an_w_c e3 (by decide), u 141 (by decide), hw]
      have u3 : an_un [148] μ μ3 := an_un_tr u (e3 ▸ an_un_w (by simp)) (fun _ q => q) (fun _ q => q)
      have fin : ∀ (e : Nat), e ≤ D → (1 ≤ e → e = an_fst D) → (¬ 1 ≤ e → an_fst D = 1) → am_Jv L d 219 278 [some (.ref 140), some (.int (nI h)), some (.int bk), some (.int (nI 0)), some (.int (nI e)), none, none] [] μ3 F := by
        intro e0 he0 k1 k2
        refine an_mlow (s := false) (by omega) hh hD hD9 hkp (D + 1 - e0) e0 μ3 (by omega) w3 (fun μ4 u4 o4 v4 => ?_)
        refine hF μ4 (an_un_tr u3 u4 (fun _ q => q) (fun _ q => q)) (fun i hi => ?_)
        obtain ⟨s0, s1, s2, s3, s6⟩ := hr' μ4 (fun i h1 h2 => (o4 i h2).trans ((an_w_o e3 h2).trans (e i h1 h2)))
        rcases (by omega : i = 0 ∨ i = 1 ∨ i = 2 ∨ i = 3 ∨ i = 4 ∨ i = 5 ∨ i = 6) with rfl | rfl | rfl | rfl | rfl | rfl | rfl
        · exact s0
        · exact s1
        · exact s2
        · exact s3
        · exact (o4 6 (by decide)).trans ((an_w_o e3 (by decide)).trans h4)
        · show μ4 148 11 = W_low w D bk h (W_bk w h bk)
          rw [v4, an_w_s e3]
          unfold W_low W_bk
          by_cases q : 1 ≤ e0
          · rw [if_pos q, ← k1 q]
          · rw [if_neg q, k2 q]
            rw [show D + 1 - e0 - 1 = D + 1 - 1 by omega]
        · exact s6
      rw [w3, hD]
      by_cases q6 : 6 ≤ D
      · rw [if_pos (nI_le q6 (by omega)), pk_sub q6]
        exact fin (D - 6) (by omega) (fun z => by unfold an_fst; omega) (fun z => by unfold an_fst; omega)
      · rw [if_neg (nI_ge (by omega) (by omega))]
        exact fin 0 (by omega) (fun z => by omega) (fun z => by unfold an_fst; omega)
    | succ n ih =>
      intro b μ2 hb u e h4
      refine v_M_signs_195 ?_
      rw [if_neg (nI_ge (by omega) (by omega)), pk_mul, nI_add, nI_add, am_gd_in (by omega) (by omega), am_cl (by omega), u 141 (by decide), hw]
      intro μ3 e3
      rw [nI_add]
      refine ih (b + 1) μ3 (by omega) (an_un_tr u (e3 ▸ an_un_w (by simp)) (fun _ q => q) (fun _ q => q)) (fun i h1 h2 => (an_w_o e3 h1).trans (e i h1 h2)) ?_
      rw [an_w_s e3, h4, am_sum]
      unfold an_f_bk
      by_cases q : (bk >>> (nI b &&& 31)) &&& nI 1 = nI 1
      · rw [q, nI_one_mul, if_pos rfl]
      · have q0 := Decidable.byContradiction fun z => q ((an_bit _).mpr z)
        rw [if_neg q, q0, Int32.zero_mul, am_addz, Int32.add_zero]
  refine v_M_signs ?_
  suffices ∀ (n i : Nat) (μ1 : am_M), i + n = 12 → an_un [148] μ μ1 → (∀ k, k < i → μ1 148 k = nI 0) → am_Jv L d 219 2 [some (.ref 140), some (.int (nI h)), some (.int bk), some (.int (nI (i))), none, none, none] [] μ1 F from this 12 0 μ (by omega) an_un_rf (fun k hk => by omega)
  intro n
  induction n with
  | zero =>
    intro i μ1 hi u z
    obtain rfl : i = 12 := by omega
    refine v_M_signs_2 ?_
    rw [if_pos (nI_le (Nat.le_refl _) (by omega))]
    exact an_gm (by omega) hh hD hD9 hw hT hN hA tail (an_cnt w) 0 μ1 (by omega) u ⟨z 8 (by omega), z 7 (by omega), z 9 (by omega), z 10 (by omega), z 2 (by omega)⟩ (z 6 (by omega))
  | succ n ih =>
    intro i μ1 hi u z
    refine v_M_signs_2 ?_
    rw [if_neg (nI_ge (by omega) (by omega)), am_gd_in (by omega) (by omega), am_cl (by omega)]
    intro μ2 e2
    rw [nI_add]
    refine ih (i + 1) μ2 (by omega) (an_un_tr u (e2 ▸ an_un_w (by simp)) (fun _ q => q) (fun _ q => q)) (fun k hk => ?_)
    by_cases q : k = i
    · rw [q, an_w_s e2]
    · rw [an_w_o e2 q]; exact z k (by omega)
noncomputable def an_fas (w : an_W) (D h : Nat) (bk : Int32) (s : Nat) : Int32 := W_sg w D h bk (an_fi true s)
noncomputable def W_cry (w : an_W) (D h : Nat) (bk : Int32) (ls : List an_Ln) : Bool := an_any (an_fas w D h bk) ls
theorem an_nar_b (b : Bool) : am_nar 1 (an_b b) = true := by cases b <;> decide
theorem an_fi7 {s : Nat} (h : an_fs true s) : an_fi true s < 7 ∧ an_sp (an_fi true s) = s := by
  rcases h with rfl | rfl | rfl | rfl | rfl | rfl | rfl <;> exact ⟨by decide, rfl⟩
theorem s_criesFor {L d : Nat} {μ : am_M} {F : Int32 → am_M → Prop} {w : an_W} {D h : Nat} {bk : Int32} {ls : List an_Ln} (hd : 14 ≤ d) (hh : h < 6) (hD : w 0 = nI D) (hD9 : D < 90) (hR : an_RL 58 w μ) (hC : an_RC 15 w μ) (hT : an_WT w) (hN : an_N (w 1) 151) (hA : an_am w D) (hk : ∀ i, i < 3240 → μ 65 i = w (372 + i)) (hok : an_okl true ls) (hX : an_scX true 49 μ ls)
    (hF : ∀ μ', an_un [132, 55] μ μ' → F (an_b (W_cry w D h bk ls)) μ') : am_Ci L d 74 [.ref 131, .int (nI h), .int bk] μ F := by
  refine v_Watch_criesFor ?_
  refine ⟨by omega, s_gather (by omega) hh hD hD9 hR hC hT hN hA hk (fun μ1 u1 f1 => ?_)⟩
  refine ⟨by omega, s_anyIsSo (fa := an_fas w D h bk) (by omega) hok μ1 (an_scX_c hX (fun c z1 z2 => u1 c (by simp; omega))) (fun s hs => f1 _ (an_fi7 hs).1) (fun μ2 u2 => ?_)⟩
  rw [an_nar_b]
  exact hF μ2 (an_un_tr u1 u2 (by simp) (by simp))
theorem s_M_cryOf {L d : Nat} {μ : am_M} {F : Int32 → am_M → Prop} {w : an_W} {D h : Nat} {bk : Int32} {ls : List an_Ln} (hd : 14 ≤ d) (hh : h < 6) (hD : w 0 = nI D) (hD9 : D < 90) (hw : μ 141 = w) (hT : an_WT w) (hN : an_N (w 1) 151) (hA : an_am w D) (hkp : ∀ e, e < 90 → w (282 + e) = if 1 ≤ e ∧ e ≤ D then nI 1 else nI 0) (hok : an_okl true ls) (hM : an_scM w 4 ls)
    (hF : ∀ μ', an_un [148, 147] μ μ' → (∀ i, i < 7 → μ' 148 (an_sp i) = W_sg w D h bk i) → F (an_b (W_cry w D h bk ls)) μ') : am_Ci L d 220 [.ref 140, .int (nI h), .int bk] μ F := by
  refine v_M_cryOf ?_
  refine ⟨by omega, s_M_signs (by omega) hh hD hD9 hw hT hN hA hkp (fun μ1 u1 f1 => ?_)⟩
  refine an_any_m (fa := an_fas w D h bk) (by omega) hok hM μ1 ((u1 141 (by decide)).trans hw) (fun s hs => ?_) (fun μ2 u2 => ?_)
  · obtain ⟨q1, q2⟩ := an_fi7 hs
    have := f1 _ q1
    rw [q2] at this
    exact this
  · exact hF μ2 (an_un_tr u1 u2 (by simp) (by simp)) (fun i hi => by rw [u2 148 (by decide)]; exact f1 i hi)
theorem an_k5_am {o : Nat} {w : an_W} {μ : am_M} {D : Nat} (hD : w 0 = nI D) (hD9 : D < 90) (h : an_k5 o w μ) : an_am w D := by
  intro k hk
  obtain ⟨-, h1, -, h3, ⟨a, a1, a2, ea⟩, ⟨q5, l5, e5⟩, -, -, -, -, h9⟩ := h k hk
  rw [hD, am_cl (by omega)] at l5 h9
  refine ⟨⟨a, a2, ea⟩, fun z => ?_, ?_, h1, h3⟩
  · obtain ⟨q9, l9, e9⟩ := h9 (by rw [z]; decide)
    rw [e9]
    exact nI_nlt (by omega) (by omega)
  · rw [e5]
    exact nI_nlt (by omega) (by omega)
theorem an_k4_kp {o : Nat} {w : an_W} {μ : am_M} {D : Nat} (hD : w 0 = nI D) (hD9 : D < 90) (h : an_k4 o w μ) : ∀ e, e < 90 → w (282 + e) = if 1 ≤ e ∧ e ≤ D then nI 1 else nI 0 := fun e he => by
  have := h e he
  rw [hD, am_cl (by omega)] at this
  exact this
/-- a set of banks -/
theorem an_set (x : Int32) : x < nI 1 ∨ (¬ x < nI 1 ∧ nI 15 < x) ∨ (¬ x < nI 1 ∧ ¬ nI 15 < x) := by
  by_cases q1 : x < nI 1
  · exact Or.inl q1
  · by_cases q2 : nI 15 < x
    · exact Or.inr (Or.inl ⟨q1, q2⟩)
    · exact Or.inr (Or.inr ⟨q1, q2⟩)
theorem op_sign {L d : Nat} {μ : am_M} {p1 p2 p3 : Int32} {K : Int32 → Int32 → am_M → Prop} (hd : 30 ≤ d) (hG : an_G nb μ) (hK : ∀ r μ', an_G nb μ' → K r r μ') : am_Ci L d 115 [.ref 0, .int p1, .int p2, .int p3] μ (fun r1 μ1 => am_Ci L d 221 [.ref 140, .int p1, .int p2, .int p3] μ1 (fun r2 μ2 => K r1 r2 μ2)) := by
  have hS := hG.1
  generalize hw : μ 141 = w at hS
  obtain ⟨h1, h2, h3, h4, h5, h6, h7, h8, h9, h10, h11, h12, h13, h14, h15⟩ := id hS
  obtain ⟨hD, hN, hP, hKt, hE⟩ := id h1
  obtain ⟨eN, lN⟩ := an_cnt_e hN
  have hL : an_RL 58 w μ := h8
  have hC : an_RC 15 w μ := h9.1
  obtain ⟨D, lD, eD⟩ := hD
  have hT := h2.1
  have hA := an_k5_am eD lD h5
  have hkp := an_k4_kp eD lD h4
  obtain ⟨lss, hls⟩ := id h15
  obtain ⟨ok4, x4, m4⟩ := hls 4 (by omega)
  have ok4 : an_okl true (lss 4) := ok4
  have x4 : an_scX true 49 μ (lss 4) := x4
  rcases an_arg p1 6 (by omega) (by omega) with ⟨a1, a2⟩ | ⟨a1, a2, a3, a4⟩ | ⟨h, hh, rfl⟩
  · refine v_X_sign ?_
    rw [am_dp (by omega), if_pos a1]
    refine v_M_sign ?_
    rw [am_dp (by omega), am_dp (by omega), if_pos a2]
    exact hK _ _ hG
  · have a5 : nI 5 < p1 := a4
    refine v_X_sign ?_
    rw [am_dp (by omega), if_neg a1, if_pos a3]
    refine v_M_sign ?_
    rw [am_dp (by omega), am_dp (by omega), if_neg a2, if_pos a5]
    exact hK _ _ hG
  · rcases an_set p2 with b1 | ⟨b1, b2⟩ | ⟨b1, b2⟩
    · refine v_X_sign ?_
      rw [am_dp (by omega), if_neg (nI_pos (by omega)), if_neg (nI_ge (by omega) (by omega)), am_dp (by omega), if_pos b1]
      refine v_M_sign ?_
      rw [am_dp (by omega), am_dp (by omega), if_neg (nI_nlt (by omega) (by omega)), if_neg (nI_nlt (by omega) (by omega)), am_dp (by omega), if_pos b1]
      exact hK _ _ hG
    · refine v_X_sign ?_
      rw [am_dp (by omega), if_neg (nI_pos (by omega)), if_neg (nI_ge (by omega) (by omega)), am_dp (by omega), if_neg b1, if_pos b2]
      refine v_M_sign ?_
      rw [am_dp (by omega), am_dp (by omega), if_neg (nI_nlt (by omega) (by omega)), if_neg (nI_nlt (by omega) (by omega)), am_dp (by omega), if_neg b1, if_pos b2]
      exact hK _ _ hG
    · rcases an_arg p3 8 (by omega) (by omega) with ⟨c1, c2⟩ | ⟨c1, c2, c3, c4⟩ | ⟨c, hc, rfl⟩
      · refine v_X_sign ?_
        rw [am_dp (by omega), if_neg (nI_pos (by omega)), if_neg (nI_ge (by omega) (by omega)), am_dp (by omega), if_neg b1, if_neg b2, if_pos c1]
        refine v_M_sign ?_
        rw [am_dp (by omega), am_dp (by omega), if_neg (nI_nlt (by omega) (by omega)), if_neg (nI_nlt (by omega) (by omega)), am_dp (by omega), if_neg b1, if_neg b2, am_dp (by omega), if_pos c2]
        exact hK _ _ hG
      · have c5 : nI 7 < p3 := c4
        refine v_X_sign ?_
        rw [am_dp (by omega), if_neg (nI_pos (by omega)), if_neg (nI_ge (by omega) (by omega)), am_dp (by omega), if_neg b1, if_neg b2, if_neg c1, if_neg (Int32.not_le.mpr c5)]
        refine v_M_sign ?_
        rw [am_dp (by omega), am_dp (by omega), if_neg (nI_nlt (by omega) (by omega)), if_neg (nI_nlt (by omega) (by omega)), am_dp (by omega), if_neg b1, if_neg b2, am_dp (by omega), if_neg c2, if_pos c5]
        exact hK _ _ hG
      · have mgo : ∀ (μ1 : am_M), μ1 141 = w → ∀ {G : Int32 → am_M → Prop}, (∀ μ', an_un [148, 147] μ1 μ' → G (if c < 7 then W_sg w D h p2 c else an_b (W_cry w D h p2 (lss 4))) μ') → am_Ci L d 221 [.ref 140, .int (nI h), .int p2, .int (nI c)] μ1 G := by
          intro μ1 w1 G hG2
          refine v_M_sign ?_
          rw [am_dp (by omega), am_dp (by omega), if_neg (nI_nlt (by omega) (by omega)), if_neg (nI_nlt (by omega) (by omega)), am_dp (by omega), if_neg b1, if_neg b2, am_dp (by omega), if_neg (nI_nlt (by omega) (by omega)), if_neg (nI_nlt (by omega) (by omega))]
          refine ⟨by omega, s_M_cryOf (by omega) hh eD lD w1 hT hN hA hkp ok4 m4 (fun μ2 u2 f2 => ?_)⟩
          have := hG2 μ2 u2
          rcases (by omega : c = 0 ∨ c = 1 ∨ c = 2 ∨ c = 3 ∨ c = 4 ∨ c = 5 ∨ c = 6 ∨ c = 7) with rfl | rfl | rfl | rfl | rfl | rfl | rfl | rfl
          · rw [if_pos rfl, show μ2 148 8 = _ from f2 0 (by omega)]
            exact this
          · rw [if_neg (by decide), if_pos rfl, show μ2 148 7 = _ from f2 1 (by omega)]
            exact this
          · rw [if_neg (by decide), if_neg (by decide), if_pos rfl, show μ2 148 9 = _ from f2 2 (by omega)]
            exact this
          · rw [if_neg (by decide), if_neg (by decide), if_neg (by decide), if_pos rfl, show μ2 148 10 = _ from f2 3 (by omega)]
            exact this
          · rw [if_neg (by decide), if_neg (by decide), if_neg (by decide), if_neg (by decide), if_pos rfl, show μ2 148 6 = _ from f2 4 (by omega)]
            exact this
          · rw [if_neg (by decide), if_neg (by decide), if_neg (by decide), if_neg (by decide), if_neg (by decide), if_pos rfl, show μ2 148 11 = _ from f2 5 (by omega)]
            exact this
          · rw [if_neg (by decide), if_neg (by decide), if_neg (by decide), if_neg (by decide), if_neg (by decide), if_neg (by decide), if_pos rfl, show μ2 148 2 = _ from f2 6 (by omega)]
            exact this
          · rw [if_neg (by decide), if_neg (by decide), if_neg (by decide), if_neg (by decide), if_neg (by decide), if_neg (by decide), if_neg (by decide), an_bf]
            rw [if_neg (by omega)] at this
            cases hcr : W_cry w D h p2 (lss 4) with
            | true => rw [hcr] at this; exact this
            | false => rw [hcr] at this; exact this
        refine v_X_sign ?_
        rw [am_dp (by omega), if_neg (nI_pos (by omega)), if_neg (nI_ge (by omega) (by omega)), am_dp (by omega), if_neg b1, if_neg b2, if_neg (nI_pos (by omega)), if_pos (nI_le (by omega) (by omega))]
        by_cases q7 : c < 7
        · rw [if_pos (fun z => by have := (nI_eq (by omega) (by omega)).mp z; omega)]
          refine ⟨by omega, s_gather (by omega) hh eD lD hL hC hT hN hA h11 (fun μ1 u1 f1 => ?_)⟩
          rw [am_gd_in q7 (by omega), am_cl (by omega), f1 c q7]
          have hG1 := an_un_G hG u1 (by intro c hc; simp at hc; unfold an_kc; omega)
          refine mgo μ1 ((u1 141 (by decide)).trans hw) (fun μ2 u2 => ?_)
          rw [if_pos q7]
          exact hK _ _ (an_un_G hG1 u2 (by intro c hc; simp at hc; unfold an_kc; omega))
        · obtain rfl : c = 7 := by omega
          rw [if_neg (fun z => z rfl)]
          refine ⟨by omega, s_criesFor (by omega) hh eD lD hL hC hT hN hA h11 ok4 x4 (fun μ1 u1 => ?_)⟩
          have hG1 := an_un_G hG u1 (by intro c hc; simp at hc; unfold an_kc; omega)
          have w1 : μ1 141 = w := (u1 141 (by decide)).trans hw
          rw [an_bf]
          cases hcr : W_cry w D h p2 (lss 4) with
          | true =>
            refine mgo μ1 w1 (fun μ2 u2 => ?_)
            rw [if_neg (by omega), hcr]
            exact hK _ _ (an_un_G hG1 u2 (by intro c hc; simp at hc; unfold an_kc; omega))
          | false =>
            refine mgo μ1 w1 (fun μ2 u2 => ?_)
            rw [if_neg (by omega), hcr]
            exact hK _ _ (an_un_G hG1 u2 (by intro c hc; simp at hc; unfold an_kc; omega))
