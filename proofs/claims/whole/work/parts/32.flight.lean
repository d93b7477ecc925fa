/-! Flights; what a cheque rests on. -/
theorem an_N_e {x : Int32} {n : Nat} (h : an_N x n) (hn : n ≤ 2147483648) : x = nI x.toNatClampNeg ∧ x.toNatClampNeg < n := by
  obtain ⟨k, hk, rfl⟩ := h
  rw [am_cl (by omega)]
  exact ⟨rfl, hk⟩
/-- towns and rails -/
def an_WT (w : an_W) : Prop := (∀ b, b < 4 → an_N (w (10 + b)) 3) ∧ (∀ i, i < 9 → an_N (w (14 + i)) 6)
def an_T (w : an_W) (b : Nat) : Nat := (w (10 + b)).toNatClampNeg
def an_R (w : an_W) (a b : Nat) : Nat := (w (14 + 3 * an_T w a + an_T w b)).toNatClampNeg
theorem an_T_e {w : an_W} (h : an_WT w) {b : Nat} (hb : b < 4) : w (10 + b) = nI (an_T w b) ∧ an_T w b < 3 := an_N_e (h.1 b hb) (by omega)
theorem an_R_e {w : an_W} (h : an_WT w) {a b : Nat} (ha : a < 4) (hb : b < 4) : w (14 + 3 * an_T w a + an_T w b) = nI (an_R w a b) ∧ an_R w a b < 6 := by
  have h1 := (an_T_e h ha).2
  have h2 := (an_T_e h hb).2
  have := h.2 (3 * an_T w a + an_T w b) (by omega)
  rw [← Nat.add_assoc] at this
  exact an_N_e this (by omega)
theorem an_RC_r {c : Nat} {w : an_W} {μ : am_M} (h : an_RC c w μ) {a b : Nat} (ha : a < 3) (hb : b < 3) : μ (c + 2) (a * 3 + b) = w (14 + 3 * a + b) := by
  rw [h.2.1 _ (by omega)]; congr 1; omega
def an_step (w : an_W) (day t n : Nat) : Nat := bif Nat.blt 0 t && W_train w (day + n) then t - 1 else t
def an_fl (w : an_W) (day : Nat) : Nat → Nat → Nat → Nat
  | 0, _, _ => 200
  | f + 1, t, n => bif Nat.beq (an_step w day t n) 0 && W_biz w (day + n) then n else an_fl w day f (an_step w day t n) (n + 1)
def W_flight (w : an_W) (a b day : Nat) : Nat := an_fl w day 199 (an_R w a b) 1
theorem an_step_le (w : an_W) (day t n : Nat) : an_step w day t n ≤ t := by
  unfold an_step
  cases (Nat.blt 0 t && W_train w (day + n)) <;> simp
theorem an_bf {A B : Prop} (b : Bool) : (if an_b b = 0 then A else B) = match b with
  | true => B
  | false => A := by
  cases b with
  | true => exact if_neg (nI_ne0 (by omega) (by omega))
  | false => exact if_pos nI_0
theorem an_bn {A B : Prop} (b : Bool) : (if ¬ an_b b = 0 then A else B) = match b with
  | true => A
  | false => B := by
  cases b with
  | true => exact if_pos (nI_ne0 (by omega) (by omega))
  | false => exact if_neg (fun q => q nI_0)
theorem an_pos {n : Nat} (h : 0 < n) (h2 : n < 2147483648) : (0 : Int32) < nI n := by
  have := nI_lt h h2
  rwa [nI_0] at this
theorem an_m1 {n : Nat} (h : 0 < n) : nI n + (- nI 1) = nI (n - 1) := by
  obtain ⟨k, rfl⟩ : ∃ k, n = k + 1 := ⟨n - 1, by omega⟩
  have := pk_m1 k
  rw [show (- nI 1 : Int32) = -1 from rfl]
  exact this
theorem an_fl_x {L d : Nat} {μ : am_M} {F : Int32 → am_M → Prop} {w : an_W} {day : Nat} (hd : 2 ≤ d) (hC : an_RC 15 w μ) (hS : an_RS w μ) (hday : day < 90) : ∀ (f n t : Nat), n + f = 200 → t ≤ 5 → F (nI (an_fl w day f t n)) μ → am_Ji L d 7 11 [some (.ref 15), none, none, some (.int (nI day)), some (.int (nI t)), some (.int (nI n))] [] μ F := by
  intro f
  induction f with
  | zero =>
    intro n t hn ht hF
    refine v_Country_flightDays_11 ?_
    rw [show n = 200 by omega, if_pos (nI_le (Nat.le_refl _) (by omega))]
    exact hF
  | succ f ih =>
    intro n t hn ht hF
    have hle := an_step_le w day t n
    have back : am_Ji L d 7 38 [some (.ref 15), none, none, some (.int (nI day)), some (.int (nI (an_step w day t n))), some (.int (nI n))] [] μ F := by
      refine v_Country_flightDays_38 ?_
      rw [an_fl] at hF
      have next : F (nI (an_fl w day f (an_step w day t n) (n + 1))) μ → am_Ji L d 7 57 [some (.ref 15), none, none, some (.int (nI day)), some (.int (nI (an_step w day t n))), some (.int (nI n))] [] μ F := by
        intro hF
        refine v_Country_flightDays_57 ?_
        rw [nI_add]
        exact ih (n + 1) _ (by omega) (by omega) hF
      by_cases h0 : an_step w day t n = 0
      · rw [h0] at hF next ⊢
        rw [if_neg (fun q => q nI_0)]
        refine ⟨by omega, ?_⟩
        rw [nI_add]
        refine s_Country_isBusiness hC (by omega) ?_
        rw [an_bf]
        cases hb : W_biz w (day + n) with
        | true => rw [hb] at hF; exact hF
        | false => rw [hb] at hF; exact next hF
      · rw [if_pos (nI_ne0 (by omega) (by omega))]
        rw [am_nb h0] at hF
        exact next hF
    refine v_Country_flightDays_11 ?_
    rw [if_neg (nI_ge (by omega) (by omega))]
    by_cases h0 : t = 0
    · subst h0
      have e0 : an_step w day 0 n = 0 := by omega
      rw [e0] at back
      rw [if_pos (by rw [nI_0]; exact Int32.le_refl _)]
      exact back
    · rw [if_neg (nI_nle (by omega) (by omega)), nI_add]
      refine ⟨by omega, s_Country_hasSnow (by omega) hS (by omega) ?_⟩
      rw [an_bn]
      have e1 : Nat.blt 0 t = true := am_blt.mpr (by omega)
      unfold an_step at back
      rw [e1, Bool.true_and] at back
      cases hb : W_train w (day + n) with
      | true =>
        rw [hb, cond_true] at back
        rw [← an_m1 (by omega)] at back
        exact back
      | false =>
        rw [hb, cond_false] at back
        exact back
theorem s_Country_flightDays {L d : Nat} {μ : am_M} {F : Int32 → am_M → Prop} {w : an_W} {a b day : Nat} (hd : 3 ≤ d) (ha : a < 4) (hb : b < 4) (hC : an_RC 15 w μ) (hS : an_RS w μ) (hT : an_WT w) (hday : day < 90) (hF : F (nI (W_flight w a b day)) μ) : am_Ci L d 7 [.ref 15, .int (nI a), .int (nI b), .int (nI day)] μ F := by
  obtain ⟨ea, la⟩ := an_T_e hT ha
  obtain ⟨eb, lb⟩ := an_T_e hT hb
  obtain ⟨er, lr⟩ := an_R_e hT ha hb
  refine v_Country_flightDays ?_
  simp (discharger := omega) only [pk_mul, nI_add, am_cl, am_gd_in, am_dp, hC.1 a ha, hC.1 b hb, ea, eb]
  rw [an_RC_r hC la lb, er]
  exact an_fl_x (by omega) hC hS hday 199 1 _ rfl (by omega) hF
theorem an_biz90 {w : an_W} {n : Nat} (h : 90 ≤ n) (h2 : ¬ n % 7 = 6) : W_biz w n = true := by
  unfold W_biz
  rw [am_nb h2, Nat.ble_eq.mpr h]
  rfl
theorem an_train90 {w : an_W} {n : Nat} (h : 90 ≤ n) : W_train w n = true := by
  unfold W_train
  rw [Nat.ble_eq.mpr h]
  rfl
theorem an_fl_e {L d : Nat} {μ : am_M} {F : Int32 → am_M → Prop} {w : an_W} {day n t : Nat} (hd : 1 ≤ d) (hw : μ 141 = w) (hday : day + n < 1000000) (ht : t ≤ 5) (h : am_Ji L d 209 11 [some (.ref 140), none, none, some (.int (nI day)), some (.int (nI (an_step w day t n))), some (.int (nI (day + n)))] [] μ F) : if (nI t : Int32) ≤ 0 then am_Ji L d 209 11 [some (.ref 140), none, none, some (.int (nI day)), some (.int (nI t)), some (.int (nI (day + n)))] [] μ F else 0 < d ∧ am_Ci L (d - 1) 153 [.ref 140, .int (nI (day + n))] μ (fun y2 μ1 => if y2 = 0 then am_Ji L d 209 11 [some (.ref 140), none, none, some (.int (nI day)), some (.int (nI t)), some (.int (nI (day + n)))] [] μ1 F else am_Ji L d 209 11 [some (.ref 140), none, none, some (.int (nI day)), some (.int (nI t + (- nI 1))), some (.int (nI (day + n)))] [] μ1 F) := by
  have hle := an_step_le w day t n
  by_cases h0 : t = 0
  · subst h0
    rw [show an_step w day 0 n = 0 by omega] at h
    rw [if_pos (by rw [nI_0]; exact Int32.le_refl _)]
    exact h
  · rw [if_neg (nI_nle (by omega) (by omega))]
    refine ⟨by omega, s_M_hasTrain hw (by omega) ?_⟩
    rw [an_bf]
    have e1 : Nat.blt 0 t = true := am_blt.mpr (by omega)
    unfold an_step at h
    rw [e1, Bool.true_and] at h
    cases hb : W_train w (day + n) with
    | true =>
      rw [hb, cond_true, ← an_m1 (by omega)] at h
      exact h
    | false =>
      rw [hb, cond_false] at h
      exact h
theorem an_fl_m {L d : Nat} {μ : am_M} {F : Int32 → am_M → Prop} {w : an_W} {day : Nat} (hd : 2 ≤ d) (hw : μ 141 = w) (hday : day < 90) : ∀ (f n t : Nat), n + f = 200 → 1 ≤ n → t ≤ 5 → (90 - (day + n) + t + 2 ≤ f ∨ (1 ≤ f ∧ t = 0 ∧ 90 ≤ day + n ∧ ¬ (day + n) % 7 = 6)) → F (nI (an_fl w day f t n)) μ → am_Ji L d 209 11 [some (.ref 140), none, none, some (.int (nI day)), some (.int (nI (an_step w day t n))), some (.int (nI (day + n)))] [] μ F := by
  intro f
  induction f with
  | zero => intro n t hn h1 ht hneed hF; omega
  | succ f ih =>
    intro n t hn h1 ht hneed hF
    have hle := an_step_le w day t n
    rw [an_fl] at hF
    refine v_M_flightOf_11 ?_
    rw [if_neg (fun q => absurd ((nI_eq (by omega) (by omega)).mp q) (by omega)), nI_add, Nat.add_assoc]
    have go : ¬ (an_step w day t n = 0 ∧ W_biz w (day + n) = true) → F (nI (an_fl w day f (an_step w day t n) (n + 1))) μ → _ := fun hno hF => an_fl_e (L := L) (d := d) (μ := μ) (F := F) (w := w) (day := day) (n := n + 1) (t := an_step w day t n) (by omega) hw (by omega) (by omega) (ih (n + 1) (an_step w day t n) (by omega) (by omega) (by omega) (by
      rcases hneed with q | ⟨q1, q2, q3, q4⟩
      · by_cases h9 : 90 ≤ day + n
        · by_cases h0 : t = 0
          · right
            have e0 : an_step w day t n = 0 := by omega
            have h6 : (day + n) % 7 = 6 := Decidable.byContradiction fun z => hno ⟨e0, an_biz90 h9 z⟩
            exact ⟨by omega, e0, by omega, by omega⟩
          · left
            have : an_step w day t n = t - 1 := by
              unfold an_step
              rw [an_train90 h9, am_blt.mpr (by omega : 0 < t)]
              rfl
            omega
        · left; omega
      · exact absurd ⟨by omega, an_biz90 q3 q4⟩ hno) hF)
    by_cases h0 : an_step w day t n = 0
    · rw [if_neg (by rw [h0]; decide)]
      refine ⟨by omega, s_M_isBusiness hw (by omega) ?_⟩
      rw [an_bn]
      rw [h0] at hF go ⊢
      cases hb : W_biz w (day + n) with
      | true =>
        rw [hb] at hF
        have e : nI (day + n) - nI day = nI n := by rw [pk_sub (by omega)]; congr 1; omega
        have hF : F (nI n) μ := hF
        rw [← e] at hF
        exact hF
      | false =>
        rw [hb] at hF
        exact go (fun q => by rw [hb] at q; cases q.2) hF
    · rw [am_nb h0] at hF
      rw [if_pos (an_pos (by omega) (by omega))]
      exact go (fun q => h0 q.1) hF
theorem s_M_flightOf {L d : Nat} {μ : am_M} {F : Int32 → am_M → Prop} {w : an_W} {a b day : Nat} (hd : 3 ≤ d) (ha : a < 4) (hb : b < 4) (hw : μ 141 = w) (hT : an_WT w) (hday : day < 90) (hF : F (nI (W_flight w a b day)) μ) : am_Ci L d 209 [.ref 140, .int (nI a), .int (nI b), .int (nI day)] μ F := by
  obtain ⟨ea, la⟩ := an_T_e hT ha
  obtain ⟨eb, lb⟩ := an_T_e hT hb
  obtain ⟨er, lr⟩ := an_R_e hT ha hb
  refine v_M_flightOf ?_
  simp (discharger := omega) only [pk_mul, nI_add, am_cl, am_gd_in, am_dp, hw, ea, eb, er]
  refine v_M_flightOf_11 ?_
  rw [if_pos rfl, nI_add]
  exact an_fl_e (by omega) hw (by omega) (by omega) (an_fl_m (by omega) hw hday 199 1 _ rfl (by omega) (by omega) (by omega) hF)
/-- the cheque that k rests on, looked for below i -/
def an_rest (w : an_W) (k : Nat) : Nat → Int32
  | 0 => - nI 1
  | i + 1 => if w (3640 + 12 * i + 2) = w (3640 + 12 * k + 0) ∧ w (3640 + 12 * i + 3) = w (3640 + 12 * k + 1) ∧ ¬ w (3640 + 12 * i + 6) = nI 3 then nI i else an_rest w k i
def an_pr (n : Nat) : Int32 := match n with
  | 0 => - nI 1
  | i + 1 => nI i
theorem an_pr_s (n : Nat) (h : n < 2147483648) : nI n + (- nI 1) = an_pr n := by
  cases n with
  | zero => rfl
  | succ i => exact an_m1 (by omega)
theorem an_pr_d (n : Nat) : nI n - nI 1 = an_pr n := by
  cases n with
  | zero => rfl
  | succ i => exact pk_sub (by omega)
theorem s_Ledger_restsOn {L d : Nat} {μ : am_M} {F : Int32 → am_M → Prop} {w : an_W} {k : Nat} (hd : 3 ≤ d) (hR : an_RL 58 w μ) (hk : k < 150) (hF : F (an_rest w k k) μ) : am_Ci L d 36 [.ref 58, .int (nI k)] μ F := by
  have r2 := hR.2.2.1
  refine v_Ledger_restsOn ?_
  rw [an_pr_d]
  suffices ∀ i, i ≤ k → F (an_rest w k i) μ → am_Ji L d 36 4 [some (.ref 58), some (.int (nI k)), some (.int (an_pr i)), none] [] μ F from this k (Nat.le_refl _) hF
  intro i
  induction i with
  | zero =>
    intro _ hF
    refine v_Ledger_restsOn_4 ?_
    rw [if_pos (by decide)]
    exact hF
  | succ i ih =>
    intro hi hF
    rw [an_rest] at hF
    have ih := ih (by omega)
    refine v_Ledger_restsOn_4 ?_
    rw [show an_pr (i + 1) = nI i from rfl, if_neg (nI_pos (by omega))]
    simp (discharger := omega) only [pk_mul, nI_add, am_cl, am_gd_in, am_dp, r2 i, r2 k, an_pr_s]
    repeat' split
    all_goals first
      | (refine ih ?_; simp_all; done)
      | (simp_all; done)
theorem s_M_restsOn {L d : Nat} {μ : am_M} {F : Int32 → am_M → Prop} {w : an_W} {k : Nat} (hd : 3 ≤ d) (hw : μ 141 = w) (hk : k < 150) (hF : F (an_rest w k k) μ) : am_Ci L d 194 [.ref 140, .int (nI k)] μ F := by
  refine v_M_restsOn ?_
  rw [an_pr_d]
  suffices ∀ i, i ≤ k → F (an_rest w k i) μ → am_Ji L d 194 4 [some (.ref 140), some (.int (nI k)), some (.int (an_pr i))] [] μ F from this k (Nat.le_refl _) hF
  intro i
  induction i with
  | zero =>
    intro _ hF
    refine v_M_restsOn_4 ?_
    rw [if_pos (by decide)]
    exact hF
  | succ i ih =>
    intro hi hF
    rw [an_rest] at hF
    have ih := ih (by omega)
    refine v_M_restsOn_4 ?_
    rw [show an_pr (i + 1) = nI i from rfl, if_neg (nI_pos (by omega))]
    simp (discharger := omega) only [pk_mul, nI_add, am_cl, am_gd_in, am_dp, hw, an_pr_s]
    repeat' split
    all_goals first
      | (refine ih ?_; simp_all; done)
      | (simp_all; done)
