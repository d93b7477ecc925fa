/-! Payments by far banks: all ways. -/
variable {nb : Nat}
theorem an_s31 : ∀ s, s < 32 → ((nI s &&& 31).toBitVec.smod 32).toNat = s := by decide +kernel
theorem an_4p : ∀ n, n ≤ 6 → nI 1 <<< ((nI 2 * nI n) &&& 31) = nI (4 ^ n) ∧ 4 ^ n ≤ 4096 := by decide +kernel
/-- the bank of the i-th figure of a way -/
def an_bo (n way i : Nat) : Nat := way / 2 ^ (2 * (n - 1 - i)) % 4
theorem an_bo_lt {n way i : Nat} : an_bo n way i < 4 := Nat.mod_lt _ (by omega)
theorem an_bo_e {n way i : Nat} (hi : i < n) (hn : n ≤ 6) (hw : way < 4097) : (nI way >>> ((nI 2 * ((nI n - nI 1) - nI i)) &&& 31)) &&& nI 3 = nI (an_bo n way i) := by
  rw [pk_sub (by omega), pk_sub (by omega), pk_mul, pk_shrN (by omega) _ (2 * (n - 1 - i)) (an_s31 _ (by omega)), pk_andN (Nat.lt_of_le_of_lt (Nat.div_le_self _ _) (by omega)) 2 (by decide)]
  rfl
def an_pa (w : an_W) (i : Nat) : Nat := (w (5440 + 2 * i)).toNatClampNeg
def an_pt (w : an_W) (i : Nat) : Nat := (w (5440 + 2 * i + 1)).toNatClampNeg
/-- the payments as they stand -/
def an_pok (w : an_W) (n : Nat) : Prop := n ≤ 6 ∧ w 2 = nI n ∧ ∀ i, i < n → (w (5440 + 2 * i) = nI (an_pa w i) ∧ 1 ≤ an_pa w i ∧ an_pa w i < 100000) ∧ (w (5440 + 2 * i + 1) = nI (an_pt w i) ∧ an_pt w i < 3)
theorem an_k6_pok {o : Nat} {w : an_W} {μ : am_M} (h2 : an_N (w 2) 7) (h6 : an_k6 o w μ) : ∃ n, an_pok w n := by
  obtain ⟨n, ln, en⟩ := h2
  refine ⟨n, by omega, en, fun i hi => ?_⟩
  obtain ⟨⟨a, a1, a2, ea⟩, t⟩ := h6 i (by rw [en, am_cl (by omega)]; exact hi) (by omega)
  refine ⟨?_, an_N_e t (by omega)⟩
  unfold an_pa
  rw [ea, am_cl (by omega)]
  exact ⟨rfl, a1, a2⟩
/-- what is drawn on the bank b by the first i payments -/
def an_ps (w : an_W) (n way b : Nat) : Nat → Nat
  | 0 => 0
  | i + 1 => an_ps w n way b i + if an_bo n way i = b then an_pa w i else 0
/-- the float of the first i payments -/
def an_fv (w : an_W) (n way : Nat) : Nat → Nat
  | 0 => 0
  | i + 1 => an_fv w n way i + an_pa w i * (w (14 + 3 * an_pt w i + an_T w (an_bo n way i))).toNatClampNeg
theorem an_ps_le {w : an_W} {n way b : Nat} (hp : an_pok w n) : ∀ i, i ≤ n → an_ps w n way b i ≤ 99999 * i := by
  intro i
  induction i with
  | zero => intro _; exact Nat.le_refl _
  | succ i ih =>
    intro hi
    have := ih (by omega)
    have := (hp.2.2 i (by omega)).1.2.2
    rw [an_ps]
    split <;> omega
theorem an_rl {w : an_W} {n way i : Nat} (hp : an_pok w n) (hT : an_WT w) (hi : i < n) : 14 + 3 * an_pt w i + an_T w (an_bo n way i) < 23 ∧ w (14 + 3 * an_pt w i + an_T w (an_bo n way i)) = nI (w (14 + 3 * an_pt w i + an_T w (an_bo n way i))).toNatClampNeg ∧ (w (14 + 3 * an_pt w i + an_T w (an_bo n way i))).toNatClampNeg < 6 := by
  have h1 := (hp.2.2 i hi).2.2
  obtain ⟨e, l⟩ := an_T_e hT (b := an_bo n way i) an_bo_lt
  have := an_N_e (hT.2 (3 * an_pt w i + an_T w (an_bo n way i)) (by omega)) (by omega)
  rw [← Nat.add_assoc] at this
  exact ⟨by omega, this⟩
theorem an_fv_le {w : an_W} {n way : Nat} (hp : an_pok w n) (hT : an_WT w) : ∀ i, i ≤ n → an_fv w n way i ≤ 500000 * i := by
  intro i
  induction i with
  | zero => intro _; exact Nat.le_refl _
  | succ i ih =>
    intro hi
    have h1 := ih (by omega)
    have h2 := (hp.2.2 i (by omega)).1.2.2
    have h3 := (an_rl (way := way) hp hT (show i < n by omega)).2.2
    have h4 : an_pa w i * (w (14 + 3 * an_pt w i + an_T w (an_bo n way i))).toNatClampNeg ≤ 99999 * 5 := Nat.mul_le_mul (by omega) (by omega)
    rw [an_fv]
    omega
theorem an_ps_mo {w : an_W} {n way b : Nat} : ∀ (m i : Nat), an_ps w n way b i ≤ an_ps w n way b (i + m) := by
  intro m
  induction m with
  | zero => intro i; exact Nat.le_refl _
  | succ m ih => intro i; rw [← Nat.add_assoc, an_ps]; have := ih i; omega
theorem an_ps_last {w : an_W} {n way b : Nat} : ∀ m, 0 < an_ps w n way b m → ∃ i, i < m ∧ an_bo n way i = b ∧ an_ps w n way b (i + 1) = an_ps w n way b m := by
  intro m
  induction m with
  | zero => intro h; exact absurd h (Nat.lt_irrefl 0)
  | succ m ih =>
    intro h
    by_cases q : an_bo n way m = b
    · exact ⟨m, by omega, q, rfl⟩
    · have e : an_ps w n way b (m + 1) = an_ps w n way b m := by rw [an_ps, if_neg q]; rfl
      rw [e] at h ⊢
      obtain ⟨i, i1, i2, i3⟩ := ih h
      exact ⟨i, by omega, i2, i3⟩
/-- whether a way can be gone -/
def an_okw (w : an_W) (h n way : Nat) : Prop := ∀ b, b < 4 → ¬ (0 < an_ps w n way b n ∧ W_usable w h b < nI (an_ps w n way b n))
theorem an_okw_1 {w : an_W} {h n way : Nat} (hs : ∀ i, i < n → ¬ W_usable w h (an_bo n way i) < nI (an_ps w n way (an_bo n way i) (i + 1))) : an_okw w h n way := by
  intro b hb ⟨h1, h2⟩
  obtain ⟨i, i1, i2, i3⟩ := an_ps_last n h1
  have := hs i i1
  rw [i2, i3] at this
  exact this h2
theorem an_okw_0 {w : an_W} {h n way i : Nat} (hp : an_pok w n) (hi : i < n) (hs : W_usable w h (an_bo n way i) < nI (an_ps w n way (an_bo n way i) (i + 1))) : ¬ an_okw w h n way := by
  intro q
  have l := an_ps_le (way := way) (b := an_bo n way i) hp n (Nat.le_refl _)
  have m := an_ps_mo (w := w) (n := n) (way := way) (b := an_bo n way i) (n - (i + 1)) (i + 1)
  rw [show i + 1 + (n - (i + 1)) = n by omega] at m
  have p : 0 < an_ps w n way (an_bo n way i) (i + 1) := by
    rw [an_ps, if_pos rfl]
    have := (hp.2.2 i hi).1.2.1
    omega
  have hn := hp.1
  exact q _ an_bo_lt ⟨by omega, Int32.lt_of_lt_of_le hs (nI_le m (by omega))⟩
/-- the class's payments -/
def an_pX (w : an_W) (μ : am_M) : Prop := (∀ i, i < 6 → μ 67 i = w (5440 + 2 * i) ∧ μ 68 i = w (5440 + 2 * i + 1)) ∧ μ 14 7 = w 2
theorem s_isWay {L d : Nat} {μ : am_M} {F : Int32 → am_M → Prop} {w : an_W} {h n way : Nat} (hd : 3 ≤ d) (hp : an_pok w n) (hX : an_pX w μ) (hw : way < 4097) (hU : ∀ b, b < 4 → μ 138 b = W_usable w h b)
    (hF : ∀ μ' r, an_un [137] μ μ' → (an_okw w h n way ∧ r = nI 1 ∨ ¬ an_okw w h n way ∧ r = nI 0) → F r μ') : am_Ci L d 85 [.ref 136, .ref 14, .int (nI way)] μ F := by
  have hn := hp.1
  have loop : ∀ (m i : Nat) (μ1 : am_M), i + m = n → an_un [137] μ μ1 → (∀ b, b < 4 → μ1 137 b = nI (an_ps w n way b i)) → (∀ j, j < i → ¬ W_usable w h (an_bo n way j) < nI (an_ps w n way (an_bo n way j) (j + 1))) → am_Ji L d 85 22 [some (.ref 136), some (.ref 14), some (.int (nI way)), some (.int (nI i)), none] [] μ1 F := by
    intro m
    induction m with
    | zero =>
      intro i μ1 hi u1 s1 o1
      obtain rfl : i = n := by omega
      refine v_Ways_isWay_22 ?_
      rw [u1 14 (by decide), hX.2, hp.2.1, if_pos (nI_le (Nat.le_refl _) (by omega))]
      exact hF μ1 _ u1 (Or.inl ⟨an_okw_1 o1, rfl⟩)
    | succ m ih =>
      intro i μ1 hi u1 s1 o1
      refine v_Ways_isWay_22 ?_
      have hb := an_bo_lt (n := n) (way := way) (i := i)
      have e67 : μ1 67 i = nI (an_pa w i) := by rw [u1 67 (by decide), (hX.1 i (by omega)).1, (hp.2.2 i (by omega)).1.1]
      rw [u1 14 (by decide), hX.2, hp.2.1, if_neg (nI_ge (by omega) (by omega)), am_dp (by omega), an_bo_e (by omega) hn hw]
      rw [am_gd_in (by omega) (by omega), am_gd_in (by omega) (by omega), am_gd_in (by omega) (by omega), am_cl (by omega), am_cl (by omega), s1 _ hb, e67, nI_add]
      intro μ2 e2
      rw [am_gd_in (by omega) (by omega), am_gd_in (by omega) (by omega)]
      have u2 : an_un [137] μ μ2 := an_un_tr u1 (e2 ▸ an_un_w (by simp)) (fun _ z => z) (fun _ z => z)
      have es : an_ps w n way (an_bo n way i) (i + 1) = an_ps w n way (an_bo n way i) i + an_pa w i := by rw [an_ps, if_pos rfl]
      rw [an_w_s e2, u2 138 (by decide), hU _ hb, ← es]
      by_cases q : nI (an_ps w n way (an_bo n way i) (i + 1)) ≤ W_usable w h (an_bo n way i)
      · rw [if_pos q, nI_add]
        refine ih (i + 1) μ2 (by omega) u2 (fun b hb2 => ?_) (fun j hj => ?_)
        · by_cases z : b = an_bo n way i
          · rw [z, an_w_s e2, es]
          · rw [an_w_o e2 z, s1 b hb2, an_ps, if_neg (fun y => z y.symm)]; rfl
        · by_cases z : j = i
          · rw [z]; exact Int32.not_lt.mpr q
          · exact o1 j (by omega)
      · rw [if_neg q]
        exact hF μ2 _ u2 (Or.inr ⟨an_okw_0 hp (by omega) (Int32.not_le.mp q), rfl⟩)
  have clr : ∀ (m j : Nat) (μ1 : am_M), j + m = 4 → an_un [137] μ μ1 → (∀ b, b < j → μ1 137 b = nI 0) → am_Ji L d 85 2 [some (.ref 136), some (.ref 14), some (.int (nI way)), some (.int (nI j)), none] [] μ1 F := by
    intro m
    induction m with
    | zero =>
      intro j μ1 hj u1 z1
      obtain rfl : j = 4 := by omega
      refine v_Ways_isWay_2 ?_
      rw [if_pos (nI_le (Nat.le_refl _) (by omega))]
      exact loop n 0 μ1 (by omega) u1 z1 (fun j hj => absurd hj (by omega))
    | succ m ih =>
      intro j μ1 hj u1 z1
      refine v_Ways_isWay_2 ?_
      rw [if_neg (nI_ge (by omega) (by omega)), am_gd_in (by omega) (by omega), am_cl (by omega), nI_add]
      intro μ2 e2
      refine ih (j + 1) μ2 (by omega) (an_un_tr u1 (e2 ▸ an_un_w (by simp)) (fun _ z => z) (fun _ z => z)) (fun b hb => ?_)
      by_cases z : b = j
      · rw [z, an_w_s e2]
      · rw [an_w_o e2 z]; exact z1 b (by omega)
  refine v_Ways_isWay ?_
  exact clr 4 0 μ (by omega) an_un_rf (fun b hb => absurd hb (by omega))
theorem s_floatOf {L d : Nat} {μ : am_M} {F : Int32 → am_M → Prop} {w : an_W} {n way : Nat} (hd : 3 ≤ d) (hp : an_pok w n) (hX : an_pX w μ) (hT : an_WT w) (hC : an_RC 15 w μ) (hw : way < 4097)
    (hF : F (nI (an_fv w n way n)) μ) : am_Ci L d 86 [.ref 136, .ref 14, .int (nI way)] μ F := by
  have hn := hp.1
  have loop : ∀ (m i : Nat), i + m = n → am_Ji L d 86 5 [some (.ref 136), some (.ref 14), some (.int (nI way)), some (.int (nI (an_fv w n way i))), some (.int (nI i)), none] [] μ F := by
    intro m
    induction m with
    | zero =>
      intro i hi
      obtain rfl : i = n := by omega
      refine v_Ways_floatOf_5 ?_
      rw [hX.2, hp.2.1, if_pos (nI_le (Nat.le_refl _) (by omega))]
      exact hF
    | succ m ih =>
      intro i hi
      refine v_Ways_floatOf_5 ?_
      have hb := an_bo_lt (n := n) (way := way) (i := i)
      obtain ⟨⟨ea, _, _⟩, et, lt⟩ := hp.2.2 i (by omega)
      obtain ⟨eT, lT⟩ := an_T_e hT hb
      obtain ⟨r1, r2, r3⟩ := an_rl (way := way) hp hT (show i < n by omega)
      have c1 : μ 16 (an_bo n way i) = nI (an_T w (an_bo n way i)) := by rw [← eT]; exact hC.1 _ hb
      have c2 : μ 17 (an_pt w i * 3 + an_T w (an_bo n way i)) = nI (w (14 + 3 * an_pt w i + an_T w (an_bo n way i))).toNatClampNeg := by rw [← r2]; exact an_RC_r hC lt lT
      rw [hX.2, hp.2.1, if_neg (nI_ge (by omega) (by omega)), am_dp (by omega), an_bo_e (by omega) hn hw]
      rw [am_gd_in (by omega) (by omega), am_gd_in (by omega) (by omega), am_gd_in (by omega) (by omega), am_cl (by omega), am_cl (by omega), (hX.1 i (by omega)).1, (hX.1 i (by omega)).2, ea, et, c1, pk_mul, nI_add, am_gd_in (by omega) (by omega), am_cl (by omega), c2, pk_mul, nI_add, nI_add]
      exact ih (i + 1) (by omega)
  refine v_Ways_floatOf ?_
  exact loop n 0 (by omega)
theorem s_M_floats {L d : Nat} {μ : am_M} {F : Int32 → am_M → Prop} {w : an_W} {h n way : Nat} (hd : 7 ≤ d) (hh : h < 6) (hp : an_pok w n) (hT : an_WT w) (hN : an_N (w 1) 151) (hm : μ 141 = w) (hw : way < 4097)
    (hF : ∀ μ' r, an_un [152] μ μ' → (an_okw w h n way ∧ r = nI (an_fv w n way n) ∨ ¬ an_okw w h n way ∧ r = - nI 1) → F r μ') : am_Ci L d 233 [.ref 140, .int (nI h), .int (nI way)] μ F := by
  have hn := hp.1
  have tail : ∀ (m b : Nat) (μ1 : am_M), b + m = 4 → an_un [152] μ μ1 → (∀ b, b < 4 → μ1 152 b = nI (an_ps w n way b n)) → (∀ c, c < b → ¬ (0 < an_ps w n way c n ∧ W_usable w h c < nI (an_ps w n way c n))) → am_Ji L d 233 133 [some (.ref 140), some (.int (nI h)), none, some (.int (nI (an_fv w n way n))), some (.int (nI b)), none, none] [] μ1 F := by
    intro m
    induction m with
    | zero =>
      intro b μ1 hb u1 s1 o1
      obtain rfl : b = 4 := by omega
      refine v_M_floats_133 ?_
      rw [if_pos (nI_le (Nat.le_refl _) (by omega))]
      exact hF μ1 _ u1 (Or.inl ⟨o1, rfl⟩)
    | succ m ih =>
      intro b μ1 hb u1 s1 o1
      refine v_M_floats_133 ?_
      have l := an_ps_le (way := way) (b := b) hp n (Nat.le_refl _)
      rw [if_neg (nI_ge (by omega) (by omega)), am_gd_in (by omega) (by omega), am_cl (by omega), s1 b (by omega)]
      by_cases q0 : an_ps w n way b n = 0
      · rw [q0, if_pos (by decide), nI_add]
        refine ih (b + 1) μ1 (by omega) u1 s1 (fun c hc => ?_)
        by_cases z : c = b
        · rw [z]; intro y; omega
        · exact o1 c (by omega)
      · rw [if_neg (nI_nle (by omega) (by omega)), am_gd_in (by omega) (by omega)]
        refine ⟨by omega, s_M_usable (by omega) hh (by omega) ((u1 141 (by decide)).trans hm) hN ?_⟩
        by_cases q : nI (an_ps w n way b n) ≤ W_usable w h b
        · rw [if_pos q, nI_add]
          refine ih (b + 1) μ1 (by omega) u1 s1 (fun c hc => ?_)
          by_cases z : c = b
          · rw [z]; intro y; exact Int32.not_lt.mpr q y.2
          · exact o1 c (by omega)
        · rw [if_neg q]
          exact hF μ1 _ u1 (Or.inr ⟨fun y => y b (by omega) ⟨by omega, Int32.not_le.mp q⟩, rfl⟩)
  have loop : ∀ (m i : Nat) (μ1 : am_M), i + m = n → an_un [152] μ μ1 → (∀ b, b < 4 → μ1 152 b = nI (an_ps w n way b i)) → am_Ji L d 233 25 [some (.ref 140), some (.int (nI h)), some (.int (nI way)), some (.int (nI (an_fv w n way i))), some (.int (nI i)), none, none] [] μ1 F := by
    intro m
    induction m with
    | zero =>
      intro i μ1 hi u1 s1
      obtain rfl : i = n := by omega
      refine v_M_floats_25 ?_
      rw [u1 141 (by decide), hm, hp.2.1, if_pos (nI_le (Nat.le_refl _) (by omega))]
      exact tail 4 0 μ1 (by omega) u1 s1 (fun c hc => absurd hc (by omega))
    | succ m ih =>
      intro i μ1 hi u1 s1
      refine v_M_floats_25 ?_
      have hb := an_bo_lt (n := n) (way := way) (i := i)
      obtain ⟨⟨ea, _, _⟩, et, lt⟩ := hp.2.2 i (by omega)
      obtain ⟨eT, lT⟩ := an_T_e hT hb
      obtain ⟨r1, r2, r3⟩ := an_rl (way := way) hp hT (show i < n by omega)
      rw [u1 141 (by decide), hm, hp.2.1, if_neg (nI_ge (by omega) (by omega)), an_bo_e (by omega) hn hw]
      simp only [pk_mul, nI_add]
      rw [am_gd_in (by omega) (by omega), am_gd_in (by omega) (by omega), am_gd_in (by omega) (by omega), am_cl (by omega), am_cl (by omega), s1 _ hb, ea, nI_add]
      intro μ2 e2
      have u2 : an_un [152] μ μ2 := an_un_tr u1 (e2 ▸ an_un_w (by simp)) (fun _ z => z) (fun _ z => z)
      rw [am_gd_in (by omega) (by omega), am_gd_in (by omega) (by omega), am_cl (by omega), am_cl (by omega), u2 141 (by decide), hm, et, eT, pk_mul, nI_add, nI_add, am_gd_in (by omega) (by omega), am_cl (by omega), r2, pk_mul, nI_add]
      refine ih (i + 1) μ2 (by omega) u2 (fun b hb2 => ?_)
      by_cases z : b = an_bo n way i
      · rw [z, an_w_s e2, an_ps, if_pos rfl]
      · rw [an_w_o e2 z, s1 b hb2, an_ps, if_neg (fun y => z y.symm)]; rfl
  have clr : ∀ (m j : Nat) (μ1 : am_M), j + m = 4 → an_un [152] μ μ1 → (∀ b, b < j → μ1 152 b = nI 0) → am_Ji L d 233 2 [some (.ref 140), some (.int (nI h)), some (.int (nI way)), some (.int (nI j)), none, none, none] [] μ1 F := by
    intro m
    induction m with
    | zero =>
      intro j μ1 hj u1 z1
      obtain rfl : j = 4 := by omega
      refine v_M_floats_2 ?_
      rw [if_pos (nI_le (Nat.le_refl _) (by omega))]
      exact loop n 0 μ1 (by omega) u1 z1
    | succ m ih =>
      intro j μ1 hj u1 z1
      refine v_M_floats_2 ?_
      rw [if_neg (nI_ge (by omega) (by omega)), am_gd_in (by omega) (by omega), am_cl (by omega), nI_add]
      intro μ2 e2
      refine ih (j + 1) μ2 (by omega) (an_un_tr u1 (e2 ▸ an_un_w (by simp)) (fun _ z => z) (fun _ z => z)) (fun b hb => ?_)
      by_cases z : b = j
      · rw [z, an_w_s e2]
      · rw [an_w_o e2 z]; exact z1 b (by omega)
  refine v_M_floats ?_
  exact clr 4 0 μ (by omega) an_un_rf (fun b hb => absurd hb (by omega))
