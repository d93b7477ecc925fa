/-! Rings: all of them, the model. -/
variable {nb : Nat}
/-- the model's best ring so far -/
def an_rm (k : Nat) (o : Option (Nat × Nat)) (μ : am_M) : Prop := (o = none ∧ μ 140 26 = - nI 1) ∨ ∃ v c, o = some (v, c) ∧ v < 10000000 ∧ μ 140 26 = nI v ∧ ∀ j, j < k → μ 151 j = nI (an_bo k c j)
theorem an_rm_c {k : Nat} {o : Option (Nat × Nat)} {μ μ' : am_M} (h : an_rm k o μ) (e1 : μ' 140 26 = μ 140 26) (e2 : μ' 151 = μ 151) : an_rm k o μ' := by
  unfold an_rm
  rw [e1, e2]
  exact h
/-- what the search writes, beside the best -/
def an_rg (i : Nat) (μ μ' : am_M) : Prop := an_un [140, 147, 148, 150, 151] μ μ' ∧ (∀ f, f ≠ 26 → μ' 140 f = μ 140 f) ∧ ∀ j, j < i → μ' 150 j = μ 150 j
theorem an_rg_rf {i : Nat} {μ : am_M} : an_rg i μ μ := ⟨an_un_rf, fun _ _ => rfl, fun _ _ => rfl⟩
theorem an_rg_tr {i : Nat} {μ μ' μ'' : am_M} (h : an_rg i μ μ') (h' : an_rg i μ' μ'') : an_rg i μ μ'' := ⟨an_un_tr h.1 h'.1 (fun _ z => z) (fun _ z => z), fun f hf => (h'.2.1 f hf).trans (h.2.1 f hf), fun j hj => (h'.2.2 j hj).trans (h.2.2 j hj)⟩
theorem s_M_rings {L : Nat} {w : an_W} {lss : Nat → List an_Ln} {told : Int32} {am day k : Nat} (hk1 : 2 ≤ k) (hk : k ≤ 4) (ham : am < 10000) (ht : an_told told) (hday : day < 90) (hT : an_WT w) (hN : an_N (w 1) 151) (ho : ∀ b, b < 4 → an_okl false (lss b)) (hM : ∀ b, b < 4 → an_scM w b (lss b)) :
    ∀ (m i c d : Nat) (μ : am_M) (F : am_M → Prop) (o : Option (Nat × Nat)), i + m = k → 10 + m ≤ d → an_dst i c = true → c < 4 ^ i → μ 141 = w → μ 140 27 = told → (∀ j, j < i → μ 150 j = nI (an_bo i c j)) → an_rm k o μ →
    (∀ μ', an_rg i μ μ' → an_rm k (an_rfd (an_hu w lss told am day) k (4 ^ m) (c * 4 ^ m) o) μ' → F μ') → am_Cv L d 213 [.ref 140, .int (nI k), .int (nI i), .int (nI (an_msk i c)), .int (nI am), .int (nI day)] μ F := by
  have hU : ∀ a b, a < 4 → b < 4 → an_hu w lss told am day a b < 2000000 := fun a b _ _ => an_hu_lt ham
  intro m
  induction m with
  | zero =>
    intro i c d μ F o hi hd hdst hc hw h27 hr hrm hF
    obtain rfl : i = k := by omega
    refine v_M_rings ?_
    rw [if_neg (fun z => z rfl)]
    have l8 := an_rsum_le (k := i) (c := c) hU i
    -- the best is written
    have cpy : ∀ (n j : Nat) (μ1 : am_M), j + n = i → an_rg i μ μ1 → μ1 140 26 = nI (an_rsum (an_hu w lss told am day) i c i) → (∀ q, q < j → μ1 151 q = nI (an_bo i c q)) → (∀ μ', an_rg i μ μ' → μ' 140 26 = nI (an_rsum (an_hu w lss told am day) i c i) → (∀ q, q < i → μ' 151 q = nI (an_bo i c q)) → F μ') → am_Jv L d 213 73 [some (.ref 140), some (.int (nI i)), none, none, none, none, none, some (.int (nI j))] [] μ1 F := by
      intro n
      induction n with
      | zero =>
        intro j μ1 hj g1 v1 k1 hx
        obtain rfl : j = i := by omega
        refine v_M_rings_73 ?_
        rw [if_pos (nI_le (Nat.le_refl _) (by omega))]
        exact hx μ1 g1 v1 k1
      | succ n ih =>
        intro j μ1 hj g1 v1 k1 hx
        refine v_M_rings_73 ?_
        rw [if_neg (nI_ge (by omega) (by omega)), am_gd_in (by omega) (by omega), am_gd_in (by omega) (by omega), am_cl (by omega), nI_add, g1.2.2 j (by omega), hr j (by omega)]
        intro μ2 e2
        refine ih (j + 1) μ2 (by omega) (an_rg_tr g1 ⟨e2 ▸ an_un_w (by simp), fun f _ => by rw [an_w_c e2 (by decide)], fun q _ => by rw [an_w_c e2 (by decide)]⟩) (by rw [an_w_c e2 (by decide)]; exact v1) (fun q hq => ?_) hx
        by_cases z : q = j
        · rw [z, an_w_s e2]
        · rw [an_w_o e2 z]; exact k1 q (by omega)
    have fin : ∀ (μ1 : am_M), an_rg i μ μ1 → μ1 140 26 = μ 140 26 → μ1 151 = μ 151 → am_Jv L d 213 11 [some (.ref 140), some (.int (nI i)), none, none, some (.int (nI am)), some (.int (nI day)), some (.int (nI (an_rsum (an_hu w lss told am day) i c i))), some (.int (nI i))] [] μ1 F := by
      intro μ1 g1 e26 e151
      refine v_M_rings_11 ?_
      rw [if_pos (nI_le (Nat.le_refl _) (by omega)), e26]
      have ef : an_rfd (an_hu w lss told am day) i (4 ^ 0) (c * 4 ^ 0) o = an_rsp (an_hu w lss told am day) i o c := by
        rw [Nat.pow_zero, Nat.mul_one]
        rfl
      rw [ef] at hF
      unfold an_rsp at hF
      rw [hdst] at hF
      rcases hrm with ⟨n1, n2⟩ | ⟨v, c', s1, s2, s3, s4⟩
      · rw [n1] at hF
        dsimp only at hF
        rw [n2, if_pos (Int32.lt_of_lt_of_le (by decide : - nI 1 < 0) (nI_pos' (by omega)))]
        intro μ2 e2
        refine cpy i 0 μ2 (by omega) (an_rg_tr g1 ⟨e2 ▸ an_un_w (by simp), fun f hf => an_w_o e2 hf, fun q _ => by rw [an_w_c e2 (by decide)]⟩) (an_w_s e2) (fun q hq => absurd hq (by omega)) (fun μ' g' v' k' => ?_)
        exact hF μ' g' (Or.inr ⟨_, _, rfl, by omega, v', k'⟩)
      · rw [s1] at hF
        dsimp only at hF
        rw [s3]
        by_cases q : v < an_rsum (an_hu w lss told am day) i c i
        · rw [if_pos q] at hF
          rw [if_pos (nI_lt q (by omega))]
          intro μ2 e2
          refine cpy i 0 μ2 (by omega) (an_rg_tr g1 ⟨e2 ▸ an_un_w (by simp), fun f hf => an_w_o e2 hf, fun q _ => by rw [an_w_c e2 (by decide)]⟩) (an_w_s e2) (fun q hq => absurd hq (by omega)) (fun μ' g' v' k' => ?_)
          exact hF μ' g' (Or.inr ⟨_, _, rfl, by omega, v', k'⟩)
        · rw [if_neg q] at hF
          rw [if_neg (nI_nlt (by omega) (by omega))]
          exact hF μ1 g1 (Or.inr ⟨v, c', rfl, s2, by rw [e26]; exact s3, by rw [e151]; exact s4⟩)
    have loop : ∀ (n j : Nat) (μ1 : am_M), j + n = i → an_rg i μ μ1 → μ1 140 26 = μ 140 26 → μ1 151 = μ 151 → am_Jv L d 213 11 [some (.ref 140), some (.int (nI i)), none, none, some (.int (nI am)), some (.int (nI day)), some (.int (nI (an_rsum (an_hu w lss told am day) i c j))), some (.int (nI j))] [] μ1 F := by
      intro n
      induction n with
      | zero =>
        intro j μ1 hj g1 e26 e151
        obtain rfl : j = i := by omega
        exact fin μ1 g1 e26 e151
      | succ n ih =>
        intro j μ1 hj g1 e26 e151
        refine v_M_rings_11 ?_
        have hml : (j + 1) % i < i := Nat.mod_lt _ (by omega)
        rw [if_neg (nI_ge (by omega) (by omega)), am_gd_in (by omega) (by omega), an_gdz (by omega) (by omega), nI_add, an_rem (by omega) (by omega) (by omega), am_gd_in (by omega) (by omega), am_cl (by omega), am_cl (by omega), g1.2.2 j (by omega), g1.2.2 _ hml, hr j (by omega), hr _ hml]
        refine ⟨by omega, s_holdsUp (lss := lss) (told := told) (by omega) ht hday an_bo_lt an_bo_lt ((g1.1 141 (by decide)).trans hw) ((g1.2.1 27 (by decide)).trans h27) hT hN ho hM (fun μ2 u2 => ?_)⟩
        rw [nI_add]
        refine ih (j + 1) μ2 (by omega) (an_rg_tr g1 ⟨an_un_tr u2 an_un_rf (m := [140, 147, 148, 150, 151]) (by simp) (fun _ z => z), fun f _ => by rw [u2 140 (by decide)], fun q _ => by rw [u2 150 (by decide)]⟩) (by rw [u2 140 (by decide)]; exact e26) (by rw [u2 151 (by decide)]; exact e151)
    exact loop i 0 μ (by omega) an_rg_rf rfl rfl
  | succ m ihm =>
    intro i c d μ F o hi hd hdst hc hw h27 hr hrm hF
    refine v_M_rings ?_
    rw [if_pos (fun z => by have := (nI_eq (by omega) (by omega)).mp z; omega)]
    have e4 : c * 4 ^ (m + 1) + 4 * 4 ^ m = (c + 1) * 4 ^ (m + 1) := by rw [Nat.pow_succ, Nat.add_mul]; omega
    have loop : ∀ (n b : Nat) (μ1 : am_M), b + n = 4 → an_rg i μ μ1 → an_rm k (an_rfd (an_hu w lss told am day) k (b * 4 ^ m) (c * 4 ^ (m + 1)) o) μ1 → am_Jv L d 213 103 [some (.ref 140), some (.int (nI k)), some (.int (nI i)), some (.int (nI (an_msk i c))), some (.int (nI am)), some (.int (nI day)), some (.int (nI b)), none] [] μ1 F := by
      intro n
      induction n with
      | zero =>
        intro b μ1 hb g1 r1
        obtain rfl : b = 4 := by omega
        refine v_M_rings_103 ?_
        rw [if_pos (nI_le (Nat.le_refl _) (by omega))]
        rw [show 4 * 4 ^ m = 4 ^ (m + 1) by rw [Nat.pow_succ]; omega] at r1
        exact hF μ1 g1 r1
      | succ n ih =>
        intro b μ1 hb g1 r1
        have hb4 : b < 4 := by omega
        refine v_M_rings_103 ?_
        obtain ⟨o1, o2, o3⟩ := an_ms1_e _ (an_msk_16 i c) b hb4
        have eb : c * 4 ^ (m + 1) + b * 4 ^ m = (4 * c + b) * 4 ^ m := by rw [Nat.pow_succ, Nat.add_mul, Nat.mul_comm (4 ^ m) 4, ← Nat.mul_assoc, Nat.mul_comm c 4]
        have ea : an_rfd (an_hu w lss told am day) k ((b + 1) * 4 ^ m) (c * 4 ^ (m + 1)) o = an_rfd (an_hu w lss told am day) k (4 ^ m) ((4 * c + b) * 4 ^ m) (an_rfd (an_hu w lss told am day) k (b * 4 ^ m) (c * 4 ^ (m + 1)) o) := by
          rw [Nat.add_mul, Nat.one_mul, an_rfd_add, eb]
        rw [if_neg (nI_ge (by omega) (by omega)), o3]
        by_cases q : an_msk i c / 2 ^ b % 2 = 1
        · rw [q, if_neg (fun z => z rfl), nI_add]
          refine ih (b + 1) μ1 (by omega) g1 ?_
          rw [ea, an_rfd_id]
          · exact r1
          · intro x h1 h2
            have e1 : x / 4 ^ m = 4 * c + b := by
              rw [Nat.div_eq_iff (Nat.pow_pos (by omega))]
              constructor
              · omega
              · omega
            have f1 : an_dst (i + 1) (4 * c + b) = false := by
              rw [an_dst_n hb4, q, Nat.beq_refl]
              simp
            cases hx : an_dst k x with
            | false => rfl
            | true =>
              rw [show k = i + 1 + m by omega] at hx
              have := an_dst_pre m x hx
              rw [e1, f1] at this
              exact this.symm
        · have q0 : an_msk i c / 2 ^ b % 2 = 0 := by omega
          rw [q0, if_pos (by decide), am_gd_in (by omega) (by omega), am_cl (by omega), nI_add, o1, nI_add]
          intro μ2 e2
          have g2 : an_rg i μ1 μ2 := ⟨e2 ▸ an_un_w (by simp), fun f _ => by rw [an_w_c e2 (by decide)], fun j hj => an_w_o e2 (by omega)⟩
          have d2 : an_dst (i + 1) (4 * c + b) = true := by
            rw [an_dst_n hb4, hdst, q0]
            rfl
          have c2 : 4 * c + b < 4 ^ (i + 1) := by rw [Nat.pow_succ]; omega
          refine ⟨by omega, ?_⟩
          rw [← an_msk_n hb4]
          refine ihm (i + 1) (4 * c + b) (d - 1) μ2 _ (an_rfd (an_hu w lss told am day) k (b * 4 ^ m) (c * 4 ^ (m + 1)) o) (by omega) (by omega) d2 c2 (((an_rg_tr g1 g2).1 141 (by decide)).trans hw) (((an_rg_tr g1 g2).2.1 27 (by decide)).trans h27) (fun j hj => ?_) (an_rm_c r1 (by rw [an_w_c e2 (by decide)]) (by rw [an_w_c e2 (by decide)])) (fun μ3 g3 r3 => ?_)
          · by_cases z : j = i
            · rw [z, an_w_s e2, an_bo_q hb4]
            · rw [an_w_o e2 z, g1.2.2 j (by omega), hr j (by omega), an_bo_p hb4 (by omega)]
          · rw [← ea] at r3
            exact ih (b + 1) μ3 (by omega) (an_rg_tr (an_rg_tr g1 g2) ⟨g3.1, g3.2.1, fun j hj => g3.2.2 j (by omega)⟩) r3
    refine loop 4 0 μ (by omega) an_rg_rf ?_
    rw [Nat.zero_mul]
    exact hrm
