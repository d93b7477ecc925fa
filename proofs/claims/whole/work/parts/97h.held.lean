/-! Rings: what a pair of banks holds up. -/
variable {nb : Nat}
def an_hv (w : an_W) (lss : Nat → List an_Ln) (told : Int32) (am day on at' : Nat) : Nat := if told = - nI 1 then (W_law w (lss at') 0 0 at' (nI am) (nI (an_R w at' on)) (nI (day % 7)) (an_far w at' on)).toNatClampNeg else told.toNatClampNeg
/-- what the cheque on a bank, paid in at another, holds up -/
def an_hu (w : an_W) (lss : Nat → List an_Ln) (told : Int32) (am day on at' : Nat) : Nat := am * (W_flight w at' on day - an_hv w lss told am day on at')
/-- no hold is told, or one of up to 20 days -/
def an_told (told : Int32) : Prop := told = - nI 1 ∨ ∃ t, t ≤ 20 ∧ told = nI t
theorem an_told_n {t : Nat} (h : t ≤ 20) : ¬ nI t = - nI 1 := fun z => by
  have := nI_pos (n := t) (by omega)
  rw [z] at this
  exact this (by decide)
theorem an_hv_law {w : an_W} {lss : Nat → List an_Ln} {am day on at' : Nat} : W_law w (lss at') 0 0 at' (nI am) (nI (an_R w at' on)) (nI (day % 7)) (an_far w at' on) = nI (an_hv w lss (- nI 1) am day on at') ∧ an_hv w lss (- nI 1) am day on at' ≤ 20 := by
  have h : an_N (W_law w (lss at') 0 0 at' (nI am) (nI (an_R w at' on)) (nI (day % 7)) (an_far w at' on)) 21 := an_cla_N 20 _ (by omega)
  unfold an_hv
  rw [if_pos rfl]
  have := an_N_e h (by omega)
  exact ⟨this.1, by omega⟩
theorem an_hv_t {w : an_W} {lss : Nat → List an_Ln} {am day on at' t : Nat} (h : t ≤ 20) : an_hv w lss (nI t) am day on at' = t := by
  unfold an_hv
  rw [if_neg (an_told_n h), am_cl (by omega)]
theorem an_hu_lt {w : an_W} {lss : Nat → List an_Ln} {told : Int32} {am day on at' : Nat} (h : am < 10000) : an_hu w lss told am day on at' < 2000000 := by
  have h1 := an_flight_200 w at' on day
  have h2 : am * (W_flight w at' on day - an_hv w lss told am day on at') ≤ 9999 * 200 := Nat.mul_le_mul (by omega) (by omega)
  unfold an_hu
  omega
theorem an_mxh {f h : Nat} (hf : f ≤ 200) (hh : h ≤ 20) : (if nI 0 < (nI f - nI h) then nI f - nI h else nI 0) = nI (f - h) := by
  by_cases q : h ≤ f
  · rw [pk_sub q]
    by_cases z : f - h = 0
    · rw [z, if_neg (Int32.lt_irrefl)]
    · rw [if_pos (nI_lt (by omega) (by omega))]
  · rw [if_neg, show f - h = 0 by omega]
    intro z
    have := pk_sneg (a := f) (b := h) (by omega) (by omega)
    rw [nI_0] at z
    exact Int32.lt_irrefl (Int32.lt_trans z this)
theorem s_fillRings {L d : Nat} {μ : am_M} {F : am_M → Prop} {w : an_W} {lss : Nat → List an_Ln} {told : Int32} {am day : Nat} (hd : 8 ≤ d) (ht : an_told told) (hday : day < 90) (hR : an_RL 58 w μ) (hC : an_RC 15 w μ) (hS : an_RS w μ) (hT : an_WT w) (hN : an_N (w 1) 151) (hdy : an_days w) (ho : ∀ b, b < 4 → an_okl false (lss b)) (hX : ∀ b, b < 4 → an_scX false (21 + 7 * b) μ (lss b))
    (hF : ∀ μ', an_un [134, 64, 27, 34, 41, 48] μ μ' → (∀ on at', on < 4 → at' < 4 → μ' 134 (on * 4 + at') = nI (an_hu w lss told am day on at')) → F μ') : am_Cv L d 140 [.ref 0, .int (nI am), .int (nI day), .int told] μ F := by
  have inner : ∀ (m b on : Nat) (μ1 : am_M), b + m = 4 → on < 4 → an_un [134, 64, 27, 34, 41, 48] μ μ1 → (∀ o' a', o' < 4 → a' < 4 → (o' < on ∨ o' = on ∧ a' < b) → μ1 134 (o' * 4 + a') = nI (an_hu w lss told am day o' a')) → (∀ μ2, an_un [134, 64, 27, 34, 41, 48] μ μ2 → (∀ o' a', o' < 4 → a' < 4 → o' < on + 1 → μ2 134 (o' * 4 + a') = nI (an_hu w lss told am day o' a')) → am_Jv L d 140 3 [some (.ref 0), some (.int (nI am)), some (.int (nI day)), some (.int told), some (.int (nI (on + 1))), none, none, none] [] μ2 F) → am_Jv L d 140 12 [some (.ref 0), some (.int (nI am)), some (.int (nI day)), some (.int told), some (.int (nI on)), some (.int (nI b)), none, none] [] μ1 F := by
    intro m
    induction m with
    | zero =>
      intro b on μ1 hb hon u1 k1 hx
      obtain rfl : b = 4 := by omega
      refine v_X_fillRings_12 ?_
      rw [if_pos (nI_le (Nat.le_refl _) (by omega)), nI_add]
      exact hx μ1 u1 (fun o' a' q1 q2 q3 => k1 o' a' q1 q2 (by omega))
    | succ m ih =>
      intro b on μ1 hb hon u1 k1 hx
      refine v_X_fillRings_12 ?_
      have C1 : an_RC 15 w μ1 := an_RC_c hC (fun c z1 z2 => u1 c (by simp; omega))
      have S1 : an_RS w μ1 := by unfold an_RS; rw [u1 15 (by decide), u1 19 (by decide)]; exact hS
      have f200 := an_flight_200 w b on day
      have fin : ∀ (μ2 : am_M) (hv : Nat), an_un [134, 64, 27, 34, 41, 48] μ μ2 → μ2 134 = μ1 134 → hv = an_hv w lss told am day on b → hv ≤ 20 → am_gd (Nat.blt 0 d && true) (am_gd (am_inb ((nI on * (nI 4)) + nI b) 16) (am_put (am_w μ2 134 (((nI on * (nI 4)) + nI b).toNatClampNeg) (nI am * (if (nI 0) < (nI (W_flight w b on day) - nI hv) then nI (W_flight w b on day) - nI hv else nI 0))) (fun μ3 => am_Jv L d 140 12 [some (.ref 0), some (.int (nI am)), some (.int (nI day)), some (.int told), some (.int (nI on)), some (.int (nI b + (nI 1))), none, none] [] μ3 F))) := by
        intro μ2 hv u2 e2 eh lh
        rw [an_gdd (by omega), pk_mul, nI_add, am_gd_in (by omega) (by omega), am_cl (by omega), an_mxh f200 lh, pk_mul, nI_add]
        intro μ3 e3
        refine ih (b + 1) on μ3 (by omega) hon (an_un_tr u2 (e3 ▸ an_un_w (by simp)) (fun _ z => z) (fun _ z => z)) (fun o' a' q1 q2 q3 => ?_) hx
        by_cases z : o' * 4 + a' = on * 4 + b
        · obtain rfl : o' = on := by omega
          obtain rfl : a' = b := by omega
          rw [an_w_s e3, eh]
          rfl
        · rw [an_w_o e3 z, e2]
          exact k1 o' a' q1 q2 (by omega)
      rw [if_neg (nI_ge (by omega) (by omega))]
      rcases ht with rfl | ⟨t, lt, rfl⟩
      · rw [if_neg (fun z => z rfl), an_gdz (by omega) (by omega), an_rem (by omega) (by omega) (by omega)]
        obtain ⟨el, ll⟩ := an_hv_law (w := w) (lss := lss) (am := am) (day := day) (on := on) (at' := b)
        refine ⟨by omega, s_lawValue (ls := lss b) (by omega) (by omega) (by omega) (by omega) hon (an_RL_c hR (fun c z1 z2 => u1 c (by simp; omega))) C1 hT hN hdy (ho b (by omega)) (an_scX_c (hX b (by omega)) (fun c z1 z2 => u1 c (by simp; omega))) (fun μ2 u2 => ?_)⟩
        have u2' : an_un [134, 64, 27, 34, 41, 48] μ μ2 := an_un_tr u1 u2 (fun _ z => z) (by simp)
        rw [el]
        refine ⟨by omega, s_Country_flightDays (by omega) (by omega) hon (an_RC_c hC (fun c z1 z2 => u2' c (by simp; omega))) (by unfold an_RS; rw [u2' 15 (by decide), u2' 19 (by decide)]; exact hS) hT hday ?_⟩
        exact fin μ2 _ u2' (u2 134 (by decide)) rfl ll
      · rw [if_pos (an_told_n lt)]
        refine ⟨by omega, s_Country_flightDays (by omega) (by omega) hon C1 S1 hT hday ?_⟩
        exact fin μ1 t u1 rfl (an_hv_t lt).symm lt
  have outer : ∀ (m on : Nat) (μ1 : am_M), on + m = 4 → an_un [134, 64, 27, 34, 41, 48] μ μ1 → (∀ o' a', o' < 4 → a' < 4 → o' < on → μ1 134 (o' * 4 + a') = nI (an_hu w lss told am day o' a')) → am_Jv L d 140 3 [some (.ref 0), some (.int (nI am)), some (.int (nI day)), some (.int told), some (.int (nI on)), none, none, none] [] μ1 F := by
    intro m
    induction m with
    | zero =>
      intro on μ1 hon u1 k1
      obtain rfl : on = 4 := by omega
      refine v_X_fillRings_3 ?_
      rw [if_pos (nI_le (Nat.le_refl _) (by omega))]
      exact hF μ1 u1 (fun o' a' q1 q2 => k1 o' a' q1 q2 q1)
    | succ m ih =>
      intro on μ1 hon u1 k1
      refine v_X_fillRings_3 ?_
      rw [if_neg (nI_ge (by omega) (by omega))]
      exact inner 4 0 on μ1 (by omega) (by omega) u1 (fun o' a' q1 q2 q3 => k1 o' a' q1 q2 (by omega)) (fun μ2 u2 k2 => ih (on + 1) μ2 (by omega) u2 k2)
  refine v_X_fillRings ?_
  exact outer 4 0 μ (by omega) an_un_rf (fun o' a' q1 q2 q3 => absurd q3 (by omega))
theorem s_holdsUp {L d : Nat} {μ : am_M} {F : Int32 → am_M → Prop} {w : an_W} {lss : Nat → List an_Ln} {told : Int32} {am day on at' : Nat} (hd : 8 ≤ d) (ht : an_told told) (hday : day < 90) (hon : on < 4) (hat : at' < 4) (hm : μ 141 = w) (h27 : μ 140 27 = told) (hT : an_WT w) (hN : an_N (w 1) 151) (ho : ∀ b, b < 4 → an_okl false (lss b)) (hM : ∀ b, b < 4 → an_scM w b (lss b))
    (hF : ∀ μ', an_un [147, 148] μ μ' → F (nI (an_hu w lss told am day on at')) μ') : am_Ci L d 212 [.ref 140, .int (nI on), .int (nI at'), .int (nI am), .int (nI day)] μ F := by
  obtain ⟨ea, la⟩ := an_T_e hT hat
  obtain ⟨eo, lo⟩ := an_T_e hT hon
  obtain ⟨er, lr⟩ := an_R_e hT hat hon
  have f200 := an_flight_200 w at' on day
  have go : ∀ (far : Bool), far = an_far w at' on → 0 < d ∧ am_Cv L (d - 1) 183 [.ref 140, .int (nI 0), .int (nI at'), .int (nI am), .int (nI (an_R w at' on)), .int (an_b far), .int (nI day)] μ (fun μ1 => 0 < d ∧ am_Ci L (d - 1) 209 [.ref 140, .int (nI at'), .int (nI on), .int (nI day)] μ1 (fun y3 μ2 => if ¬ (μ2 140 27) = (- nI 1) then if (y3 - (μ2 140 27)) ≤ 0 then F (nI 0) μ2 else F (nI am * (y3 - (μ2 140 27))) μ2 else 0 < d ∧ am_Ci L (d - 1) 180 [.ref 140, .int (nI at'), .int (nI 0)] μ2 (fun y5 μ4 => if (y3 - y5) ≤ 0 then F (nI 0) μ4 else F (nI am * (y3 - y5)) μ4))) := by
    intro far hfar
    refine ⟨by omega, s_M_gathers (far := far) (by omega) (by omega) hat (by omega) hm hN (fun μ1 u1 f1 => ?_)⟩
    refine ⟨by omega, s_M_flightOf (by omega) hat hon ((u1 141 (by decide)).trans hm) hT hday ?_⟩
    have fin : ∀ (μ2 : am_M) (hv : Nat), an_un [147, 148] μ μ2 → hv = an_hv w lss told am day on at' → hv ≤ 20 → if (nI (W_flight w at' on day) - nI hv) ≤ 0 then F (nI 0) μ2 else F (nI am * (nI (W_flight w at' on day) - nI hv)) μ2 := by
      intro μ2 hv u2 eh lh
      have h := hF μ2 u2
      unfold an_hu at h
      rw [← eh] at h
      by_cases q : hv < W_flight w at' on day
      · rw [pk_sub (by omega), if_neg (nI_nle (by omega) (by omega)), pk_mul]
        exact h
      · rw [show W_flight w at' on day - hv = 0 by omega, Nat.mul_zero] at h
        rw [if_pos]
        · exact h
        · by_cases z : hv = W_flight w at' on day
          · rw [z, pk_sub (Nat.le_refl _), Nat.sub_self]; decide
          · exact Int32.le_of_lt (pk_sneg (by omega) (by omega))
    rw [u1 140 (by decide), h27]
    rcases ht with rfl | ⟨t, lt, rfl⟩
    · rw [if_neg (fun z => z rfl)]
      obtain ⟨el, ll⟩ := an_hv_law (w := w) (lss := lss) (am := am) (day := day) (on := on) (at' := at')
      refine ⟨by omega, s_M_tells (by omega) hat (by omega) (ho at' hat) (hM at' hat) μ1 ((u1 141 (by decide)).trans hm) f1 (fun μ2 u2 => ?_)⟩
      have e5 : an_cla (an_most 0) (an_val (W_fal w 0 at' (nI am) (nI (an_R w at' on)) (nI (day % 7)) far) 0 (lss at')) = nI (an_hv w lss (- nI 1) am day on at') := by rw [hfar]; exact el
      rw [e5]
      exact fin μ2 _ (an_un_tr u1 u2 (by simp) (by simp)) rfl ll
    · rw [if_pos (an_told_n lt)]
      exact fin μ1 t (an_un_tr u1 an_un_rf (by simp) (fun _ z => z)) (an_hv_t lt).symm lt
  refine v_M_holdsUp ?_
  rw [hm, am_dp (by omega)]
  simp only [nI_add]
  rw [am_gd_in (by omega) (by omega), am_gd_in (by omega) (by omega), am_cl (by omega), am_cl (by omega), ea, eo, pk_mul, nI_add, nI_add, am_gd_in (by omega) (by omega), am_dp (by omega), am_gd_in (by omega) (by omega), am_gd_in (by omega) (by omega), am_cl (by omega), er]
  by_cases q : an_T w at' = an_T w on
  · rw [if_pos (by rw [q])]
    exact go false (by unfold an_far; rw [q, Nat.beq_refl]; rfl)
  · rw [if_neg (fun z => q ((nI_eq (by omega) (by omega)).mp z))]
    exact go true (by unfold an_far; rw [am_nb q]; rfl)
