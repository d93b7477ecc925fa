/-! feed. -/
variable {nb : Nat}
theorem an_toN (x : Int32) : (x.toInt = (x.toBitVec.toNat : Int) ∧ x.toBitVec.toNat < 2147483648) ∨ (x.toInt = (x.toBitVec.toNat : Int) - 4294967296 ∧ 2147483648 ≤ x.toBitVec.toNat ∧ x.toBitVec.toNat < 4294967296) := by
  have h := BitVec.toInt_eq_toNat_cond x.toBitVec
  have h2 := x.toBitVec.isLt
  have h3 : x.toInt = x.toBitVec.toInt := rfl
  rw [h3, h]
  by_cases q : 2 * x.toBitVec.toNat < 2 ^ 32
  · rw [if_pos q]
    exact Or.inl ⟨rfl, by omega⟩
  · rw [if_neg q]
    exact Or.inr ⟨by omega, by omega, by omega⟩
/-- a byte of a number -/
def an_byte (x : Int32) (k : Nat) : Nat := x.toBitVec.toNat / 2 ^ k % 256
theorem an_byte_x {x : Int32} {k : Nat} (hk : k = 24 ∨ k = 16 ∨ k = 8 ∨ k = 0) : ((x.toUInt32 >>> ((nI k).toUInt32 &&& Int32.toUInt32 31)).toInt32) &&& nI 255 = nI (an_byte x k) := by
  rw [pk_and _ 8 (by decide)]
  have := pk_ushr x (nI k) k (by rcases hk with rfl | rfl | rfl | rfl <;> decide)
  rw [this]
  rfl
theorem an_byte_m {x : Int32} {k : Nat} (hk : k = 24 ∨ k = 16 ∨ k = 8 ∨ k = 0) : (x >>> (nI k &&& 31)) &&& nI 255 = nI (an_byte x k) := by
  rw [pk_and _ 8 (by decide)]
  have h := pk_shr x (nI k &&& 31) k (by rcases hk with rfl | rfl | rfl | rfl <;> decide)
  rw [Int.shiftRight_eq_div_pow] at h
  have h1 := an_toN x
  have h2 := an_toN (x >>> (nI k &&& 31))
  unfold an_byte
  congr 1
  rcases hk with rfl | rfl | rfl | rfl <;> omega
theorem an_byte_lt (x : Int32) (k : Nat) : an_byte x k < 256 := Nat.mod_lt _ (by omega)
def an_by4 (x : Int32) (i : Nat) : Nat := an_byte x (24 - 8 * i)
theorem s_tput {L d T : Nat} {μ : am_M} {F : am_M → Prop} {x : Int32} (hT : μ 1 1 = nI T) (hT4 : T + 4 ≤ 400)
    (hF : ∀ μ', an_un [1, 2] μ μ' → μ' 1 1 = nI (T + 4) → (∀ i, i < T → μ' 2 i = μ 2 i) → (∀ i, i < 4 → μ' 2 (T + i) = nI (an_by4 x i)) → F μ') : am_Cv L d 72 [.ref 1, .int x] μ F := by
  have step : ∀ (k j : Nat) (μ1 : am_M), (k = 24 ∨ k = 16 ∨ k = 8 ∨ k = 0) → j < 4 → μ1 1 1 = nI (T + j) → (∀ μ3, an_un [1, 2] μ1 μ3 → μ3 1 1 = nI (T + (j + 1)) → (∀ i, i ≠ T + j → μ3 2 i = μ1 2 i) → μ3 2 (T + j) = nI (an_byte x k) → am_Jv L d 72 3 [some (.ref 1), some (.int x), some (.int (nI k + (- nI 8)))] [] μ3 F) → am_Jv L d 72 3 [some (.ref 1), some (.int x), some (.int (nI k))] [] μ1 F := by
    intro k j μ1 hk hj h1 h
    refine v_Tape_put_3 ?_
    rw [if_neg (nI_pos (by omega)), h1, if_neg (nI_ge (by omega) (by omega)), am_gd_in (by omega) (by omega), am_cl (by omega), an_byte_x hk]
    intro μ2 e2
    have h2 : μ2 1 1 = nI (T + j) := by rw [an_w_c e2 (by decide), h1]
    rw [h2, nI_add]
    intro μ3 e3
    refine h μ3 (an_un_tr (e2 ▸ an_un_w (l := [1, 2]) (by simp)) (e3 ▸ an_un_w (l := [1, 2]) (by simp)) (fun _ q => q) (fun _ q => q)) (an_w_s e3) (fun i hi => ?_) ?_
    · rw [an_w_c e3 (by decide), an_w_o e2 hi]
    · rw [an_w_c e3 (by decide), an_w_s e2]
  refine v_Tape_put ?_
  refine step 24 0 μ (by omega) (by omega) hT (fun μ1 u1 t1 o1 b1 => ?_)
  rw [show nI 24 + (- nI 8) = nI 16 by decide]
  refine step 16 1 μ1 (by omega) (by omega) t1 (fun μ2 u2 t2 o2 b2 => ?_)
  rw [show nI 16 + (- nI 8) = nI 8 by decide]
  refine step 8 2 μ2 (by omega) (by omega) t2 (fun μ3 u3 t3 o3 b3 => ?_)
  rw [show nI 8 + (- nI 8) = nI 0 by decide]
  refine step 0 3 μ3 (by omega) (by omega) t3 (fun μ4 u4 t4 o4 b4 => ?_)
  refine v_Tape_put_3 ?_
  rw [if_pos (by decide)]
  refine hF μ4 (an_un_tr (an_un_tr (an_un_tr u1 u2 (fun _ q => q) (fun _ q => q)) u3 (fun _ q => q) (fun _ q => q)) u4 (fun _ q => q) (fun _ q => q)) t4 (fun i hi => ?_) (fun i hi => ?_)
  · rw [o4 i (by omega), o3 i (by omega), o2 i (by omega), o1 i (by omega)]
  · rcases (by omega : i = 0 ∨ i = 1 ∨ i = 2 ∨ i = 3) with rfl | rfl | rfl | rfl
    · rw [o4 _ (by omega), o3 _ (by omega), o2 _ (by omega)]; exact b1
    · rw [o4 _ (by omega), o3 _ (by omega)]; exact b2
    · rw [o4 _ (by omega)]; exact b3
    · exact b4
/-- the five numbers' bytes -/
def an_arg5 (a b c e f : Int32) (k : Nat) : Int32 := if k < 4 then a else if k < 8 then b else if k < 12 then c else if k < 16 then e else f
def an_by20 (a b c e f : Int32) (k : Nat) : Nat := an_by4 (an_arg5 a b c e f k) (k % 4)
theorem an_feed_m {L d T : Nat} {μ : am_M} {F : Int32 → am_M → Prop} {a b c e f : Int32} (hT : μ 140 12 = nI T) (hT4 : T + 20 ≤ 400)
    (hF : ∀ μ', an_un [140, 146] μ μ' → (∀ p, p ≠ 12 → μ' 140 p = μ 140 p) → μ' 140 12 = nI (T + 20) → (∀ i, i < T → μ' 146 i = μ 146 i) → (∀ i, i < 20 → μ' 146 (T + i) = nI (an_by20 a b c e f i)) → F (nI (T + 20)) μ') : ∀ (n k : Nat) (μ1 : am_M), k + n = 20 → an_un [140, 146] μ μ1 → (∀ p, p ≠ 12 → μ1 140 p = μ 140 p) → μ1 140 12 = nI (T + k) → (∀ i, i < T → μ1 146 i = μ 146 i) → (∀ i, i < k → μ1 146 (T + i) = nI (an_by20 a b c e f i)) → am_Ji L d 155 18 [some (.ref 140), some (.int a), some (.int b), some (.int c), some (.int e), some (.int f), some (.int (nI k)), none] [] μ1 F := by
  intro n
  induction n with
  | zero =>
    intro k μ1 hk u o t old new
    obtain rfl : k = 20 := by omega
    refine v_M_feed_18 ?_
    rw [if_pos (nI_le (Nat.le_refl _) (by omega)), t]
    exact hF μ1 u o t old new
  | succ n ih =>
    intro k μ1 hk u o t old new
    have nx : ∀ μ2 μ3, μ2 = am_w μ1 146 (T + k) (nI (an_by20 a b c e f k)) → μ3 = am_w μ2 140 12 (nI (T + (k + 1))) → am_Ji L d 155 18 [some (.ref 140), some (.int a), some (.int b), some (.int c), some (.int e), some (.int f), some (.int (nI (k + 1))), none] [] μ3 F := fun μ2 μ3 e2 e3 => by
      refine ih (k + 1) μ3 (by omega) (an_un_tr (an_un_tr u (e2 ▸ an_un_w (l := [140, 146]) (by simp)) (fun _ q => q) (fun _ q => q)) (e3 ▸ an_un_w (l := [140, 146]) (by simp)) (fun _ q => q) (fun _ q => q)) (fun p hp => by rw [an_w_o e3 hp, an_w_c e2 (by decide)]; exact o p hp) (an_w_s e3) (fun i hi => ?_) (fun i hi => ?_)
      · rw [an_w_c e3 (by decide), an_w_o e2 (by omega)]; exact old i hi
      · rw [an_w_c e3 (by decide)]
        by_cases q : i = k
        · rw [q, an_w_s e2]
        · rw [an_w_o e2 (by omega)]; exact new i (by omega)
    have m4 : k % 4 < 4 := Nat.mod_lt _ (by omega)
    have sh : nI 24 - nI 8 * (nI k - nI k / nI 4 * nI 4) = nI (24 - 8 * (k % 4)) := by
      rw [an_rem (by omega) (by omega) (by omega), pk_mul, pk_sub (by omega)]
    have by' : ∀ y, an_arg5 a b c e f k = y → (y >>> (nI (24 - 8 * (k % 4)) &&& 31)) &&& nI 255 = nI (an_by20 a b c e f k) := fun y hy => by
      rw [an_byte_m (by omega), ← hy]
      rfl
    refine v_M_feed_18 ?_
    rw [if_neg (nI_ge (by omega) (by omega)), sh, t]
    simp only [an_gdz (show 0 < 4 by omega) (show 4 < 2147483648 by omega), am_gd_in (show T + k < 400 by omega) (show 400 ≤ 2147483648 by omega), am_cl (show T + k < 2147483648 by omega), nI_add]
    by_cases q1 : k < 4
    · rw [if_neg (nI_ge q1 (by omega)), by' a (by unfold an_arg5; rw [if_pos q1])]
      intro μ2 e2 μ3 e3
      rw [an_w_c e2 (by decide), t, nI_add] at e3
      exact nx μ2 μ3 e2 e3
    · rw [if_pos (nI_le (by omega) (by omega))]
      by_cases q2 : k < 8
      · rw [if_neg (nI_ge q2 (by omega)), by' b (by unfold an_arg5; rw [if_neg q1, if_pos q2])]
        intro μ2 e2 μ3 e3
        rw [an_w_c e2 (by decide), t, nI_add] at e3
        exact nx μ2 μ3 e2 e3
      · rw [if_pos (nI_le (by omega) (by omega))]
        by_cases q3 : k < 12
        · rw [if_neg (nI_ge q3 (by omega)), by' c (by unfold an_arg5; rw [if_neg q1, if_neg q2, if_pos q3])]
          intro μ2 e2 μ3 e3
          rw [an_w_c e2 (by decide), t, nI_add] at e3
          exact nx μ2 μ3 e2 e3
        · rw [if_pos (nI_le (by omega) (by omega))]
          by_cases q4 : k < 16
          · rw [if_neg (nI_ge q4 (by omega)), by' e (by unfold an_arg5; rw [if_neg q1, if_neg q2, if_neg q3, if_pos q4])]
            intro μ2 e2 μ3 e3
            rw [an_w_c e2 (by decide), t, nI_add] at e3
            exact nx μ2 μ3 e2 e3
          · rw [if_pos (nI_le (by omega) (by omega)), by' f (by unfold an_arg5; rw [if_neg q1, if_neg q2, if_neg q3, if_neg q4])]
            intro μ2 e2 μ3 e3
            rw [an_w_c e2 (by decide), t, nI_add] at e3
            exact nx μ2 μ3 e2 e3
theorem op_feed {L d : Nat} {μ : am_M} {p1 p2 p3 p4 p5 : Int32} {K : Int32 → Int32 → am_M → Prop} (hd : 30 ≤ d) (hG : an_G nb μ) (hK : ∀ r μ', an_G nb μ' → K r r μ') : am_Ci L d 96 [.ref 0, .int p1, .int p2, .int p3, .int p4, .int p5] μ (fun r1 μ1 => am_Ci L d 155 [.ref 140, .int p1, .int p2, .int p3, .int p4, .int p5] μ1 (fun r2 μ2 => K r1 r2 μ2)) := by
  have hS := hG.1
  generalize hw : μ 141 = w at hS
  obtain ⟨h1, h2, h3, h4, h5, h6, h7, h8, h9, h10, h11, h12, h13, h14, h15⟩ := id hS
  obtain ⟨hD, hN, hP, hKt, hE⟩ := id h1
  obtain ⟨eN, lN⟩ := an_cnt_e hN
  have hL : an_RL 58 w μ := h8
  have hC : an_RC 15 w μ := h9.1
  obtain ⟨D, lD, eD⟩ := hD
  obtain ⟨-, g2, g3, ⟨T, hT, t1, t2, t3⟩, g5, g6, g7, g8⟩ := id hG
  refine v_X_feed ?_
  rw [t1, nI_add]
  by_cases q : T + 20 ≤ 400
  · rw [if_pos (nI_le q (by omega))]
    refine ⟨by omega, s_tput t1 (by omega) (fun μ1 u1 s1 o1 b1 => ?_)⟩
    refine ⟨by omega, s_tput s1 (by omega) (fun μ2 u2 s2 o2 b2 => ?_)⟩
    refine ⟨by omega, s_tput s2 (by omega) (fun μ3 u3 s3 o3 b3 => ?_)⟩
    refine ⟨by omega, s_tput s3 (by omega) (fun μ4 u4 s4 o4 b4 => ?_)⟩
    refine ⟨by omega, s_tput s4 (by omega) (fun μ5 u5 s5 o5 b5 => ?_)⟩
    have u : an_un [1, 2] μ μ5 := an_un_tr (an_un_tr (an_un_tr (an_un_tr u1 u2 (fun _ q => q) (fun _ q => q)) u3 (fun _ q => q) (fun _ q => q)) u4 (fun _ q => q) (fun _ q => q)) u5 (fun _ q => q) (fun _ q => q)
    have old : ∀ i, i < T → μ5 2 i = μ 2 i := fun i hi => by rw [o5 i (by omega), o4 i (by omega), o3 i (by omega), o2 i (by omega), o1 i hi]
    have new : ∀ i, i < 20 → μ5 2 (T + i) = nI (an_by20 p1 p2 p3 p4 p5 i) := fun i hi => by
      unfold an_by20 an_arg5
      by_cases q1 : i < 4
      · rw [if_pos q1, o5 _ (by omega), o4 _ (by omega), o3 _ (by omega), o2 _ (by omega), b1 i q1, Nat.mod_eq_of_lt q1]
      · rw [if_neg q1]
        by_cases q2 : i < 8
        · rw [if_pos q2, o5 _ (by omega), o4 _ (by omega), o3 _ (by omega), show T + i = T + 4 + (i - 4) by omega, b2 (i - 4) (by omega), show (i - 4) = i % 4 by omega]
        · rw [if_neg q2]
          by_cases q3 : i < 12
          · rw [if_pos q3, o5 _ (by omega), o4 _ (by omega), show T + i = T + 4 + 4 + (i - 8) by omega, b3 (i - 8) (by omega), show (i - 8) = i % 4 by omega]
          · rw [if_neg q3]
            by_cases q4 : i < 16
            · rw [if_pos q4, o5 _ (by omega), show T + i = T + 4 + 4 + 4 + (i - 12) by omega, b4 (i - 12) (by omega), show (i - 12) = i % 4 by omega]
            · rw [if_neg q4, show T + i = T + 4 + 4 + 4 + 4 + (i - 16) by omega, b5 (i - 16) (by omega), show (i - 16) = i % 4 by omega]
    rw [s5]
    refine v_M_feed ?_
    rw [u 140 (by decide), t2, nI_add, if_pos (nI_le q (by omega))]
    refine an_feed_m (μ := μ5) (by rw [u 140 (by decide), t2]) q (fun μ6 u6 z6 s6 o6 b6 => ?_) 20 0 μ5 (by omega) an_un_rf (fun _ _ => rfl) (by rw [u 140 (by decide), t2, Nat.add_zero]) (fun _ _ => rfl) (fun i hi => by omega)
    have v : ∀ c', c' ≠ 1 → c' ≠ 2 → c' ≠ 140 → c' ≠ 146 → μ6 c' = μ c' := fun c' k1 k2 k3 k4 => (u6 c' (by simp [k3, k4])).trans (u c' (by simp [k1, k2]))
    have z : ∀ f, f ≠ 12 → μ6 140 f = μ 140 f := fun f hf => by rw [z6 f hf, u 140 (by decide)]
    refine hK _ _ ⟨?_, ?_, ?_, ⟨T + 20, q, by rw [u6 1 (by decide)]; exact s5, s6, fun i hi => ?_⟩, ?_, ?_, ?_, ?_⟩
    · rw [v 141 (by decide) (by decide) (by decide) (by decide), hw]
      exact an_S_c hS (fun c hc => v c (by have := hc.1; omega) (by have := hc.1; omega) (by have := hc.2.1; omega) (by have := hc.2.1; omega))
    · rw [v 0 (by decide) (by decide) (by decide) (by decide), z 3 (by decide)]; exact g2
    · rw [z 3 (by decide), v 142 (by decide) (by decide) (by decide) (by decide)]
      rcases g3 with k | ⟨k1, k2⟩
      · exact Or.inl k
      · exact Or.inr ⟨k1, an_S_c k2 (fun c hc => v c (by have := hc.1; omega) (by have := hc.1; omega) (by have := hc.2.1; omega) (by have := hc.2.1; omega))⟩
    · by_cases k : i < T
      · obtain ⟨b, lb, e1, e2⟩ := t3 i k
        exact ⟨b, lb, by rw [u6 2 (by decide), old i k, e1], by rw [o6 i k, u 146 (by decide), e2]⟩
      · obtain ⟨j, rfl⟩ : ∃ j, i = T + j := ⟨i - T, by omega⟩
        exact ⟨_, an_byte_lt _ _, by rw [u6 2 (by decide)]; exact new j (by omega), b6 j (by omega)⟩
    · rw [v 0 (by decide) (by decide) (by decide) (by decide), z 19 (by decide)]; exact g5
    · rw [v 0 (by decide) (by decide) (by decide) (by decide), z 21 (by decide)]; exact g6
    · rw [v 15 (by decide) (by decide) (by decide) (by decide)]; exact g7
    · rw [z 27 (by decide)]; exact g8
  · rw [if_neg (nI_ge (by omega) (by omega))]
    refine v_M_feed ?_
    rw [t2, nI_add, if_neg (nI_ge (by omega) (by omega))]
    exact hK _ _ hG
