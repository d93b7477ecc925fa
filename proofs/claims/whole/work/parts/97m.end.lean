/-! The end of all flights, in thought: the model; ending, the call. -/
variable {nb : Nat}
def an_evl (lss : Nat → List an_Ln) (ord : Int32) (w : an_W) (D q : Nat) : Int32 :=
  if q = 0 then nI (an_eN lss ord w D 40 0) else if q = 1 then nI (an_er lss ord w D (an_eN lss ord w D 40 0)) else if q = 2 then W_lossOfAll (an_ew lss ord w D (an_eN lss ord w D 40 0)) else W_lossOf (an_ew lss ord w D (an_eN lss ord w D 40 0)) (q - 10)
theorem s_M_ends {L d : Nat} {μ : am_M} {F : Int32 → am_M → Prop} {w : an_W} {lss : Nat → List an_Ln} {D q : Nat} {ord : Int32} (hd : 14 ≤ d) (hq : q < 3 ∨ 10 ≤ q ∧ q < 14) (hl : an_led nb w D) (hD : D < 90) (hw : μ 141 = w) (ho : ∀ b, b < 4 → an_okl false (lss b)) (hM : ∀ b, b < 4 → an_scM w b (lss b))
    (hF : ∀ μ', an_un [140, 141, 143, 147, 148, 149] μ μ' → (∀ f, f ≠ 23 → f ≠ 28 → f ≠ 29 → μ' 140 f = μ 140 f) → μ' 141 = w → F (an_evl lss ord w D q) μ') : am_Ci L d 229 [.ref 140, .int ord, .int (nI q)] μ F := by
  have back : ∀ (x : Int32) (m i : Nat) (μ1 : am_M), x = an_evl lss ord w D q → i + m = 16120 → an_un [140, 141, 143, 147, 148, 149] μ μ1 → (∀ f, f ≠ 23 → f ≠ 28 → f ≠ 29 → μ1 140 f = μ 140 f) → (∀ j, j < 16120 → μ1 143 j = w j) → (∀ j, (j < i ∨ 16120 ≤ j) → μ1 141 j = w j) → am_Ji L d 229 128 [some (.ref 140), none, none, some (.int x), some (.int (nI i))] [] μ1 F := by
    intro x m
    induction m with
    | zero =>
      intro i μ1 hx hi u1 v1 t1 w1
      obtain rfl : i = 16120 := by omega
      refine v_M_ends_128 ?_
      rw [if_pos (nI_le (Nat.le_refl _) (by omega)), hx]
      exact hF μ1 u1 v1 (funext fun j => w1 j (by omega))
    | succ m ih =>
      intro i μ1 hx hi u1 v1 t1 w1
      refine v_M_ends_128 ?_
      rw [if_neg (nI_ge (by omega) (by omega)), am_gd_in (by omega) (by omega), am_gd_in (by omega) (by omega), am_cl (by omega), t1 i (by omega), nI_add]
      intro μ2 e2
      refine ih (i + 1) μ2 hx (by omega) (an_un_tr u1 (e2 ▸ an_un_w (by simp)) (fun _ z => z) (fun _ z => z)) (fun f f1 f2 f3 => by rw [an_w_c e2 (by decide)]; exact v1 f f1 f2 f3) (fun j hj => by rw [an_w_c e2 (by decide)]; exact t1 j hj) (fun j hj => ?_)
      by_cases z : j = i
      · rw [z, an_w_s e2]
      · rw [an_w_o e2 z]; exact w1 j (by omega)
  have loop : ∀ (f n : Nat) (μ1 : am_M), n + f = 40 → an_un [140, 141, 143, 147, 148, 149] μ μ1 → (∀ f, f ≠ 23 → f ≠ 28 → f ≠ 29 → μ1 140 f = μ 140 f) → (∀ j, j < 16120 → μ1 143 j = w j) → μ1 141 = an_ew lss ord w D n → μ1 140 28 = nI n → μ1 140 29 = nI (an_er lss ord w D n) → an_eN lss ord w D 40 0 = an_eN lss ord w D f n → am_Ji L d 229 37 [some (.ref 140), some (.int ord), some (.int (nI q)), none, none] [] μ1 F := by
    intro f
    induction f with
    | zero =>
      intro n μ1 hn u1 v1 t1 w1 x1 y1 eN
      obtain rfl : n = 40 := by omega
      obtain ⟨l1, l2, l3⟩ := an_ew_led (lss := lss) (ord := ord) hl 40 (by omega)
      have eN : an_eN lss ord w D 40 0 = 40 := eN
      have w1' : ∀ j, (j < 0 ∨ 16120 ≤ j) → μ1 141 j = w j := fun j hj => by rw [w1]; exact l3 j (by omega)
      refine v_M_ends_37 ?_
      refine ⟨by omega, s_M_flyingN (by omega) w1 l1.2.1 (eq_true nI_0) ?_⟩
      rw [x1, y1]
      have fin : (if ¬ nI q = 0 then if ¬ nI q = (nI 1) then if ¬ nI q = (nI 2) then 0 < d ∧ am_Ci L (d - 1) 227 [.ref 140, .int (nI q - (nI 10))] μ1 (fun y4 μ3 => am_Ji L d 229 128 [some (.ref 140), none, none, some (.int y4), some (.int (nI 0))] [] μ3 F) else 0 < d ∧ am_Ci L (d - 1) 228 [.ref 140] μ1 (fun y6 μ5 => am_Ji L d 229 128 [some (.ref 140), none, none, some (.int y6), some (.int (nI 0))] [] μ5 F) else am_Ji L d 229 128 [some (.ref 140), none, none, some (.int (nI (an_er lss ord w D 40))), some (.int (nI 0))] [] μ1 F else am_Ji L d 229 128 [some (.ref 140), none, none, some (.int (nI 40)), some (.int (nI 0))] [] μ1 F) := by
        by_cases q0 : q = 0
        · rw [if_neg (fun z => z (by rw [q0]; exact nI_0))]
          exact back _ 16120 0 μ1 (by unfold an_evl; rw [if_pos q0, eN]) (by omega) u1 v1 t1 w1'
        rw [if_pos (nI_ne0 (by omega) (by omega))]
        by_cases q1 : q = 1
        · rw [if_neg (fun z => z (by rw [q1]))]
          exact back _ 16120 0 μ1 (by unfold an_evl; rw [if_neg q0, if_pos q1, eN]) (by omega) u1 v1 t1 w1'
        rw [if_pos (fun z => q1 ((nI_eq (by omega) (by omega)).mp z))]
        by_cases q2 : q = 2
        · rw [if_neg (fun z => z (by rw [q2]))]
          refine ⟨by omega, s_M_lossOfAll (by omega) w1 ?_⟩
          exact back _ 16120 0 μ1 (by unfold an_evl; rw [if_neg q0, if_neg q1, if_pos q2, eN]) (by omega) u1 v1 t1 w1'
        rw [if_pos (fun z => q2 ((nI_eq (by omega) (by omega)).mp z)), pk_sub (by omega)]
        refine ⟨by omega, s_M_lossOf (by omega) (by omega) w1 ?_⟩
        exact back _ 16120 0 μ1 (by unfold an_evl; rw [if_neg q0, if_neg q1, if_neg q2, eN]) (by omega) u1 v1 t1 w1'
      by_cases z : W_flyN (an_ew lss ord w D 40) ≤ 0
      · rw [if_pos z]; exact fin
      · rw [if_neg z, if_pos (nI_le (Nat.le_refl _) (by omega))]; exact fin
    | succ f ih =>
      intro n μ1 hn u1 v1 t1 w1 x1 y1 eN
      obtain ⟨l1, l2, l3⟩ := an_ew_led (lss := lss) (ord := ord) hl n (by omega)
      have es : an_eN lss ord w D (f + 1) n = if W_flyN (an_ew lss ord w D n) ≤ 0 then n else an_eN lss ord w D f (n + 1) := rfl
      rw [es] at eN
      have w1' : ∀ j, (j < 0 ∨ 16120 ≤ j) → μ1 141 j = w j := fun j hj => by rw [w1]; exact l3 j (by omega)
      refine v_M_ends_37 ?_
      refine ⟨by omega, s_M_flyingN (by omega) w1 l1.2.1 (eq_true nI_0) ?_⟩
      rw [x1, y1]
      by_cases z : W_flyN (an_ew lss ord w D n) ≤ 0
      · rw [if_pos z] at eN
        rw [if_pos z]
        by_cases q0 : q = 0
        · rw [if_neg (fun z => z (by rw [q0]; exact nI_0))]
          exact back _ 16120 0 μ1 (by unfold an_evl; rw [if_pos q0, eN]) (by omega) u1 v1 t1 w1'
        rw [if_pos (nI_ne0 (by omega) (by omega))]
        by_cases q1 : q = 1
        · rw [if_neg (fun z => z (by rw [q1]))]
          exact back _ 16120 0 μ1 (by unfold an_evl; rw [if_neg q0, if_pos q1, eN]) (by omega) u1 v1 t1 w1'
        rw [if_pos (fun z => q1 ((nI_eq (by omega) (by omega)).mp z))]
        by_cases q2 : q = 2
        · rw [if_neg (fun z => z (by rw [q2]))]
          refine ⟨by omega, s_M_lossOfAll (by omega) w1 ?_⟩
          exact back _ 16120 0 μ1 (by unfold an_evl; rw [if_neg q0, if_neg q1, if_pos q2, eN]) (by omega) u1 v1 t1 w1'
        rw [if_pos (fun z => q2 ((nI_eq (by omega) (by omega)).mp z)), pk_sub (by omega)]
        refine ⟨by omega, s_M_lossOf (by omega) (by omega) w1 ?_⟩
        exact back _ 16120 0 μ1 (by unfold an_evl; rw [if_neg q0, if_neg q1, if_neg q2, eN]) (by omega) u1 v1 t1 w1'
      · rw [if_neg z] at eN
        rw [if_neg z, if_neg (nI_ge (by omega) (by omega))]
        refine ⟨by omega, t_M_morning (by omega) (by omega) l1 w1 ho (fun b hb => an_scM_c (by omega) (by rw [show Nat.beq b 4 = false from am_nb (by omega)]; exact ho b hb) (hM b hb) (fun j z1 z2 => l2 j z2 (by omega) (by omega) (by omega) (by omega) (by omega))) (fun μ2 u2 v2 w2 => ?_)⟩
        intro μ3 e3 μ4 e4
        rw [nI_add] at e3
        have x3 : μ3 140 28 = nI n := by rw [an_w_o e3 (by decide), v2 28 (by decide)]; exact x1
        rw [x3, nI_add] at e4
        have c4 : ∀ c, c ≠ 140 → μ4 c = μ2 c := fun c hc => (an_w_c e4 hc).trans (an_w_c e3 hc)
        refine ih (n + 1) μ4 (by omega) (fun c hc => ?_) (fun g g1 g2 g3 => ?_) (fun j hj => ?_) ?_ (an_w_s e4) ?_ eN
        · simp only [List.mem_cons, List.not_mem_nil, or_false, not_or] at hc
          rw [c4 c (by omega), u2 c (by simp; omega), u1 c (by simp; omega)]
        · rw [an_w_o e4 g2, an_w_o e3 g3, v2 g g1]
          exact v1 g g1 g2 g3
        · rw [c4 143 (by decide), u2 143 (by decide)]; exact t1 j hj
        · rw [c4 141 (by decide), w2]; rfl
        · rw [an_w_o e4 (by decide), an_w_s e3]; rfl
  have cpy : ∀ (m i : Nat) (μ1 : am_M), i + m = 16120 → an_un [143] μ μ1 → (∀ j, j < i → μ1 143 j = w j) → am_Ji L d 229 2 [some (.ref 140), some (.int ord), some (.int (nI q)), some (.int (nI i)), none] [] μ1 F := by
    intro m
    induction m with
    | zero =>
      intro i μ1 hi u1 t1
      obtain rfl : i = 16120 := by omega
      refine v_M_ends_2 ?_
      rw [if_pos (nI_le (Nat.le_refl _) (by omega))]
      intro μ2 e2 μ3 e3
      have c3 : ∀ c, c ≠ 140 → μ3 c = μ1 c := fun c hc => (an_w_c e3 hc).trans (an_w_c e2 hc)
      refine loop 40 0 μ3 (by omega) (fun c hc => ?_) (fun g g1 g2 g3 => ?_) (fun j hj => ?_) ?_ ?_ (an_w_s e3) rfl
      · simp only [List.mem_cons, List.not_mem_nil, or_false, not_or] at hc
        rw [c3 c (by omega), u1 c (by simp; omega)]
      · rw [an_w_o e3 g3, an_w_o e2 g2, u1 140 (by decide)]
      · rw [c3 143 (by decide)]; exact t1 j hj
      · rw [c3 141 (by decide), u1 141 (by decide), hw]; rfl
      · rw [an_w_o e3 (by decide), an_w_s e2]
    | succ m ih =>
      intro i μ1 hi u1 t1
      refine v_M_ends_2 ?_
      rw [if_neg (nI_ge (by omega) (by omega)), am_gd_in (by omega) (by omega), am_gd_in (by omega) (by omega), am_cl (by omega), u1 141 (by decide), hw, nI_add]
      intro μ2 e2
      refine ih (i + 1) μ2 (by omega) (an_un_tr u1 (e2 ▸ an_un_w (by simp)) (fun _ z => z) (fun _ z => z)) (fun j hj => ?_)
      by_cases z : j = i
      · rw [z, an_w_s e2]
      · rw [an_w_o e2 z]; exact t1 j (by omega)
  refine v_M_ends ?_
  exact cpy 16120 0 μ (by omega) an_un_rf (fun j hj => absurd hj (by omega))
/-- what stays of a state over thoughts -/
theorem an_tG_x {μ μ1 : am_M} (hG : an_G nb μ) (u : an_un [0, 124, 125, 126, 127, 128, 129, 130, 27, 34, 41, 48] μ μ1) (v : ∀ f, f ≠ 13 → f ≠ 14 → μ1 0 f = μ 0 f) : an_G nb μ1 := by
  refine an_G_of hG ?_ ⟨fun c hc => u c (by have := hc.1; have := hc.2.1; simp; omega), u _ (by decide), u _ (by decide), u _ (by decide), u _ (by decide), fun f hf => v f (by omega) (by omega), fun f _ => by rw [u 140 (by decide)], by rw [u 15 (by decide)]⟩
  rw [u 141 (by decide)]
  exact an_S_c hG.1 (fun c hc => u c (by have h1 := hc.1; have h2 := hc.2.1; have h3 := hc.2.2; simp; omega))
theorem an_tG_m {μ μ1 : am_M} (hG : an_G nb μ) (u : an_un [140, 141, 143, 147, 148, 149] μ μ1) (v : ∀ f, f ≠ 23 → f ≠ 28 → f ≠ 29 → μ1 140 f = μ 140 f) (w : μ1 141 = μ 141) : an_G nb μ1 := by
  refine an_G_of hG ?_ ⟨fun c hc => u c (by have := hc.1; have := hc.2.1; simp; omega), u _ (by decide), u _ (by decide), u _ (by decide), u _ (by decide), fun f hf => by rw [u 0 (by decide)], fun f hf => v f (by omega) (by omega) (by omega), by rw [u 15 (by decide)]⟩
  rw [w]
  exact an_S_c hG.1 (fun c hc => u c (by have h1 := hc.1; have h2 := hc.2.1; simp; omega))
