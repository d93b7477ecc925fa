/-! Texts: the call. -/
variable {nb : Nat}
theorem c_put0 {L d : Nat} {μ : am_M} {F : am_M → Prop} (hd : 1 ≤ d) (hF : ∀ μ', (∀ c, ¬ (21 ≤ c ∧ c ≤ 26) → μ' c = μ c) → μ' 21 6 = μ 4 6 → (∀ i, i < 400 → μ' 22 i = μ 5 i) → (∀ i, i < 12 → μ' 23 i = μ 6 i) → (∀ i, i < 12 → μ' 24 i = μ 7 i) → (∀ i, i < 12 → μ' 25 i = μ 8 i) → (∀ i, i < 12 → μ' 26 i = μ 9 i) → F μ') : am_Cv L d 66 [.ref 21, .ref 4] μ F := by
  refine v_Script_copyFrom_d21 ?_
  intro m1 e1 m2 e2
  rw [an_gd2 (by omega)]
  intro m3 e3
  rw [an_gd2 (by omega)]
  intro m4 e4
  rw [an_gd2 (by omega)]
  intro m5 e5
  rw [an_gd2 (by omega)]
  intro m6 e6
  rw [an_gd2 (by omega)]
  intro m7 e7
  have r : ∀ {μ μ' : am_M} {c c' : Nat} {f : Nat → Int32}, μ' = am_row μ c f → c' ≠ c → μ' c' = μ c' := fun e h => by rw [e, am_row_ne h]
  refine hF m7 (fun c hc => ?_) ?_ (fun i hi => ?_) (fun i hi => ?_) (fun i hi => ?_) (fun i hi => ?_) (fun i hi => ?_)
  · rw [r e7 (by omega), r e6 (by omega), r e5 (by omega), r e4 (by omega), r e3 (by omega), an_w_c e2 (by omega), an_w_c e1 (by omega)]
  · rw [r e7 (by decide), r e6 (by decide), r e5 (by decide), r e4 (by decide), r e3 (by decide), an_w_o e2 (by decide), an_w_s e1]
  · rw [r e7 (by decide), r e6 (by decide), r e5 (by decide), r e4 (by decide), e3, am_row_at, pk_cpy_in (by omega) (by omega), an_w_c e2 (by decide), an_w_c e1 (by decide)]
    congr 1
    omega
  · rw [r e7 (by decide), r e6 (by decide), r e5 (by decide), e4, am_row_at, pk_cpy_in (by omega) (by omega), r e3 (by decide), an_w_c e2 (by decide), an_w_c e1 (by decide)]
    congr 1
    omega
  · rw [r e7 (by decide), r e6 (by decide), e5, am_row_at, pk_cpy_in (by omega) (by omega), r e4 (by decide), r e3 (by decide), an_w_c e2 (by decide), an_w_c e1 (by decide)]
    congr 1
    omega
  · rw [r e7 (by decide), e6, am_row_at, pk_cpy_in (by omega) (by omega), r e5 (by decide), r e4 (by decide), r e3 (by decide), an_w_c e2 (by decide), an_w_c e1 (by decide)]
    congr 1
    omega
  · rw [e7, am_row_at, pk_cpy_in (by omega) (by omega), r e6 (by decide), r e5 (by decide), r e4 (by decide), r e3 (by decide), an_w_c e2 (by decide), an_w_c e1 (by decide)]
    congr 1
    omega
theorem c_put1 {L d : Nat} {μ : am_M} {F : am_M → Prop} (hd : 1 ≤ d) (hF : ∀ μ', (∀ c, ¬ (28 ≤ c ∧ c ≤ 33) → μ' c = μ c) → μ' 28 6 = μ 4 6 → (∀ i, i < 400 → μ' 29 i = μ 5 i) → (∀ i, i < 12 → μ' 30 i = μ 6 i) → (∀ i, i < 12 → μ' 31 i = μ 7 i) → (∀ i, i < 12 → μ' 32 i = μ 8 i) → (∀ i, i < 12 → μ' 33 i = μ 9 i) → F μ') : am_Cv L d 66 [.ref 28, .ref 4] μ F := by
  refine v_Script_copyFrom_d28 ?_
  intro m1 e1 m2 e2
  rw [an_gd2 (by omega)]
  intro m3 e3
  rw [an_gd2 (by omega)]
  intro m4 e4
  rw [an_gd2 (by omega)]
  intro m5 e5
  rw [an_gd2 (by omega)]
  intro m6 e6
  rw [an_gd2 (by omega)]
  intro m7 e7
  have r : ∀ {μ μ' : am_M} {c c' : Nat} {f : Nat → Int32}, μ' = am_row μ c f → c' ≠ c → μ' c' = μ c' := fun e h => by rw [e, am_row_ne h]
  refine hF m7 (fun c hc => ?_) ?_ (fun i hi => ?_) (fun i hi => ?_) (fun i hi => ?_) (fun i hi => ?_) (fun i hi => ?_)
  · rw [r e7 (by omega), r e6 (by omega), r e5 (by omega), r e4 (by omega), r e3 (by omega), an_w_c e2 (by omega), an_w_c e1 (by omega)]
  · rw [r e7 (by decide), r e6 (by decide), r e5 (by decide), r e4 (by decide), r e3 (by decide), an_w_o e2 (by decide), an_w_s e1]
  · rw [r e7 (by decide), r e6 (by decide), r e5 (by decide), r e4 (by decide), e3, am_row_at, pk_cpy_in (by omega) (by omega), an_w_c e2 (by decide), an_w_c e1 (by decide)]
    congr 1
    omega
  · rw [r e7 (by decide), r e6 (by decide), r e5 (by decide), e4, am_row_at, pk_cpy_in (by omega) (by omega), r e3 (by decide), an_w_c e2 (by decide), an_w_c e1 (by decide)]
    congr 1
    omega
  · rw [r e7 (by decide), r e6 (by decide), e5, am_row_at, pk_cpy_in (by omega) (by omega), r e4 (by decide), r e3 (by decide), an_w_c e2 (by decide), an_w_c e1 (by decide)]
    congr 1
    omega
  · rw [r e7 (by decide), e6, am_row_at, pk_cpy_in (by omega) (by omega), r e5 (by decide), r e4 (by decide), r e3 (by decide), an_w_c e2 (by decide), an_w_c e1 (by decide)]
    congr 1
    omega
  · rw [e7, am_row_at, pk_cpy_in (by omega) (by omega), r e6 (by decide), r e5 (by decide), r e4 (by decide), r e3 (by decide), an_w_c e2 (by decide), an_w_c e1 (by decide)]
    congr 1
    omega
theorem c_put2 {L d : Nat} {μ : am_M} {F : am_M → Prop} (hd : 1 ≤ d) (hF : ∀ μ', (∀ c, ¬ (35 ≤ c ∧ c ≤ 40) → μ' c = μ c) → μ' 35 6 = μ 4 6 → (∀ i, i < 400 → μ' 36 i = μ 5 i) → (∀ i, i < 12 → μ' 37 i = μ 6 i) → (∀ i, i < 12 → μ' 38 i = μ 7 i) → (∀ i, i < 12 → μ' 39 i = μ 8 i) → (∀ i, i < 12 → μ' 40 i = μ 9 i) → F μ') : am_Cv L d 66 [.ref 35, .ref 4] μ F := by
  refine v_Script_copyFrom_d35 ?_
  intro m1 e1 m2 e2
  rw [an_gd2 (by omega)]
  intro m3 e3
  rw [an_gd2 (by omega)]
  intro m4 e4
  rw [an_gd2 (by omega)]
  intro m5 e5
  rw [an_gd2 (by omega)]
  intro m6 e6
  rw [an_gd2 (by omega)]
  intro m7 e7
  have r : ∀ {μ μ' : am_M} {c c' : Nat} {f : Nat → Int32}, μ' = am_row μ c f → c' ≠ c → μ' c' = μ c' := fun e h => by rw [e, am_row_ne h]
  refine hF m7 (fun c hc => ?_) ?_ (fun i hi => ?_) (fun i hi => ?_) (fun i hi => ?_) (fun i hi => ?_) (fun i hi => ?_)
  · rw [r e7 (by omega), r e6 (by omega), r e5 (by omega), r e4 (by omega), r e3 (by omega), an_w_c e2 (by omega), an_w_c e1 (by omega)]
  · rw [r e7 (by decide), r e6 (by decide), r e5 (by decide), r e4 (by decide), r e3 (by decide), an_w_o e2 (by decide), an_w_s e1]
  · rw [r e7 (by decide), r e6 (by decide), r e5 (by decide), r e4 (by decide), e3, am_row_at, pk_cpy_in (by omega) (by omega), an_w_c e2 (by decide), an_w_c e1 (by decide)]
    congr 1
    omega
  · rw [r e7 (by decide), r e6 (by decide), r e5 (by decide), e4, am_row_at, pk_cpy_in (by omega) (by omega), r e3 (by decide), an_w_c e2 (by decide), an_w_c e1 (by decide)]
    congr 1
    omega
  · rw [r e7 (by decide), r e6 (by decide), e5, am_row_at, pk_cpy_in (by omega) (by omega), r e4 (by decide), r e3 (by decide), an_w_c e2 (by decide), an_w_c e1 (by decide)]
    congr 1
    omega
  · rw [r e7 (by decide), e6, am_row_at, pk_cpy_in (by omega) (by omega), r e5 (by decide), r e4 (by decide), r e3 (by decide), an_w_c e2 (by decide), an_w_c e1 (by decide)]
    congr 1
    omega
  · rw [e7, am_row_at, pk_cpy_in (by omega) (by omega), r e6 (by decide), r e5 (by decide), r e4 (by decide), r e3 (by decide), an_w_c e2 (by decide), an_w_c e1 (by decide)]
    congr 1
    omega
theorem c_put3 {L d : Nat} {μ : am_M} {F : am_M → Prop} (hd : 1 ≤ d) (hF : ∀ μ', (∀ c, ¬ (42 ≤ c ∧ c ≤ 47) → μ' c = μ c) → μ' 42 6 = μ 4 6 → (∀ i, i < 400 → μ' 43 i = μ 5 i) → (∀ i, i < 12 → μ' 44 i = μ 6 i) → (∀ i, i < 12 → μ' 45 i = μ 7 i) → (∀ i, i < 12 → μ' 46 i = μ 8 i) → (∀ i, i < 12 → μ' 47 i = μ 9 i) → F μ') : am_Cv L d 66 [.ref 42, .ref 4] μ F := by
  refine v_Script_copyFrom_d42 ?_
  intro m1 e1 m2 e2
  rw [an_gd2 (by omega)]
  intro m3 e3
  rw [an_gd2 (by omega)]
  intro m4 e4
  rw [an_gd2 (by omega)]
  intro m5 e5
  rw [an_gd2 (by omega)]
  intro m6 e6
  rw [an_gd2 (by omega)]
  intro m7 e7
  have r : ∀ {μ μ' : am_M} {c c' : Nat} {f : Nat → Int32}, μ' = am_row μ c f → c' ≠ c → μ' c' = μ c' := fun e h => by rw [e, am_row_ne h]
  refine hF m7 (fun c hc => ?_) ?_ (fun i hi => ?_) (fun i hi => ?_) (fun i hi => ?_) (fun i hi => ?_) (fun i hi => ?_)
  · rw [r e7 (by omega), r e6 (by omega), r e5 (by omega), r e4 (by omega), r e3 (by omega), an_w_c e2 (by omega), an_w_c e1 (by omega)]
  · rw [r e7 (by decide), r e6 (by decide), r e5 (by decide), r e4 (by decide), r e3 (by decide), an_w_o e2 (by decide), an_w_s e1]
  · rw [r e7 (by decide), r e6 (by decide), r e5 (by decide), r e4 (by decide), e3, am_row_at, pk_cpy_in (by omega) (by omega), an_w_c e2 (by decide), an_w_c e1 (by decide)]
    congr 1
    omega
  · rw [r e7 (by decide), r e6 (by decide), r e5 (by decide), e4, am_row_at, pk_cpy_in (by omega) (by omega), r e3 (by decide), an_w_c e2 (by decide), an_w_c e1 (by decide)]
    congr 1
    omega
  · rw [r e7 (by decide), r e6 (by decide), e5, am_row_at, pk_cpy_in (by omega) (by omega), r e4 (by decide), r e3 (by decide), an_w_c e2 (by decide), an_w_c e1 (by decide)]
    congr 1
    omega
  · rw [r e7 (by decide), e6, am_row_at, pk_cpy_in (by omega) (by omega), r e5 (by decide), r e4 (by decide), r e3 (by decide), an_w_c e2 (by decide), an_w_c e1 (by decide)]
    congr 1
    omega
  · rw [e7, am_row_at, pk_cpy_in (by omega) (by omega), r e6 (by decide), r e5 (by decide), r e4 (by decide), r e3 (by decide), an_w_c e2 (by decide), an_w_c e1 (by decide)]
    congr 1
    omega
theorem c_put4 {L d : Nat} {μ : am_M} {F : am_M → Prop} (hd : 1 ≤ d) (hF : ∀ μ', (∀ c, ¬ (49 ≤ c ∧ c ≤ 54) → μ' c = μ c) → μ' 49 6 = μ 4 6 → (∀ i, i < 400 → μ' 50 i = μ 5 i) → (∀ i, i < 12 → μ' 51 i = μ 6 i) → (∀ i, i < 12 → μ' 52 i = μ 7 i) → (∀ i, i < 12 → μ' 53 i = μ 8 i) → (∀ i, i < 12 → μ' 54 i = μ 9 i) → F μ') : am_Cv L d 66 [.ref 49, .ref 4] μ F := by
  refine v_Script_copyFrom_d49 ?_
  intro m1 e1 m2 e2
  rw [an_gd2 (by omega)]
  intro m3 e3
  rw [an_gd2 (by omega)]
  intro m4 e4
  rw [an_gd2 (by omega)]
  intro m5 e5
  rw [an_gd2 (by omega)]
  intro m6 e6
  rw [an_gd2 (by omega)]
  intro m7 e7
  have r : ∀ {μ μ' : am_M} {c c' : Nat} {f : Nat → Int32}, μ' = am_row μ c f → c' ≠ c → μ' c' = μ c' := fun e h => by rw [e, am_row_ne h]
  refine hF m7 (fun c hc => ?_) ?_ (fun i hi => ?_) (fun i hi => ?_) (fun i hi => ?_) (fun i hi => ?_) (fun i hi => ?_)
  · rw [r e7 (by omega), r e6 (by omega), r e5 (by omega), r e4 (by omega), r e3 (by omega), an_w_c e2 (by omega), an_w_c e1 (by omega)]
  · rw [r e7 (by decide), r e6 (by decide), r e5 (by decide), r e4 (by decide), r e3 (by decide), an_w_o e2 (by decide), an_w_s e1]
  · rw [r e7 (by decide), r e6 (by decide), r e5 (by decide), r e4 (by decide), e3, am_row_at, pk_cpy_in (by omega) (by omega), an_w_c e2 (by decide), an_w_c e1 (by decide)]
    congr 1
    omega
  · rw [r e7 (by decide), r e6 (by decide), r e5 (by decide), e4, am_row_at, pk_cpy_in (by omega) (by omega), r e3 (by decide), an_w_c e2 (by decide), an_w_c e1 (by decide)]
    congr 1
    omega
  · rw [r e7 (by decide), r e6 (by decide), e5, am_row_at, pk_cpy_in (by omega) (by omega), r e4 (by decide), r e3 (by decide), an_w_c e2 (by decide), an_w_c e1 (by decide)]
    congr 1
    omega
  · rw [r e7 (by decide), e6, am_row_at, pk_cpy_in (by omega) (by omega), r e5 (by decide), r e4 (by decide), r e3 (by decide), an_w_c e2 (by decide), an_w_c e1 (by decide)]
    congr 1
    omega
  · rw [e7, am_row_at, pk_cpy_in (by omega) (by omega), r e6 (by decide), r e5 (by decide), r e4 (by decide), r e3 (by decide), an_w_c e2 (by decide), an_w_c e1 (by decide)]
    congr 1
    omega
theorem c_put {L d k : Nat} {sg : Bool} {l : List an_Ln} {μ : am_M} {F : Int32 → am_M → Prop} (hd : 2 ≤ d) (hk : k < 5) (hl : l.length ≤ 12) (hX : an_scX sg 4 μ l) (hF : ∀ μ', (∀ c, ¬ (21 + 7 * k ≤ c ∧ c ≤ 26 + 7 * k) → μ' c = μ c) → an_scX sg (21 + 7 * k) μ' l → F (nI l.length) μ') : am_gd (am_inb (nI k) 5) (if nI k = nI 0 then 0 < d ∧ am_Cv L (d - 1) 66 [.ref 21, .ref 4] μ (fun μ7 => F (μ7 4 6) μ7) else if nI k = nI 1 then 0 < d ∧ am_Cv L (d - 1) 66 [.ref 28, .ref 4] μ (fun μ8 => F (μ8 4 6) μ8) else if nI k = nI 2 then 0 < d ∧ am_Cv L (d - 1) 66 [.ref 35, .ref 4] μ (fun μ9 => F (μ9 4 6) μ9) else if nI k = nI 3 then 0 < d ∧ am_Cv L (d - 1) 66 [.ref 42, .ref 4] μ (fun μ10 => F (μ10 4 6) μ10) else if nI k = nI 4 then 0 < d ∧ am_Cv L (d - 1) 66 [.ref 49, .ref 4] μ (fun μ11 => F (μ11 4 6) μ11) else False) := by
  rw [am_gd_in (by omega) (by omega)]
  have fin : ∀ μ', (∀ c, ¬ (21 + 7 * k ≤ c ∧ c ≤ 26 + 7 * k) → μ' c = μ c) → μ' (21 + 7 * k) 6 = μ 4 6 → (∀ i, i < 400 → μ' (21 + 7 * k + 1) i = μ 5 i) → (∀ i, i < 12 → μ' (21 + 7 * k + 2) i = μ 6 i) → (∀ i, i < 12 → μ' (21 + 7 * k + 3) i = μ 7 i) → (∀ i, i < 12 → μ' (21 + 7 * k + 4) i = μ 8 i) → (∀ i, i < 12 → μ' (21 + 7 * k + 5) i = μ 9 i) → F (μ' 4 6) μ' := by
    intro μ' u a0 a1 a2 a3 a4 a5
    rw [u 4 (by omega), hX.1]
    exact hF μ' u (an_scX_row hl hX a0 a1 a2 a3 a4 a5)
  rcases (by omega : k = 0 ∨ k = 1 ∨ k = 2 ∨ k = 3 ∨ k = 4) with rfl | rfl | rfl | rfl | rfl
  · rw [if_pos rfl]
    exact ⟨by omega, c_put0 (by omega) fin⟩
  · rw [if_neg (by decide), if_pos rfl]
    exact ⟨by omega, c_put1 (by omega) fin⟩
  · rw [if_neg (by decide), if_neg (by decide), if_pos rfl]
    exact ⟨by omega, c_put2 (by omega) fin⟩
  · rw [if_neg (by decide), if_neg (by decide), if_neg (by decide), if_pos rfl]
    exact ⟨by omega, c_put3 (by omega) fin⟩
  · rw [if_neg (by decide), if_neg (by decide), if_neg (by decide), if_neg (by decide), if_pos rfl]
    exact ⟨by omega, c_put4 (by omega) fin⟩
