/-! The least hold. -/
variable {nb : Nat}
/-- the greatest of the first n -/
def an_mx (f : Nat → Nat) : Nat → Nat
  | 0 => 0
  | n + 1 => max (an_mx f n) (f n)
theorem an_mx_le {f : Nat → Nat} {c : Nat} : ∀ {n}, (∀ i, i < n → f i ≤ c) → an_mx f n ≤ c := by
  intro n
  induction n with
  | zero => intro _; exact Nat.zero_le _
  | succ n ih => intro h; exact Nat.max_le.mpr ⟨ih (fun i hi => h i (by omega)), h n (by omega)⟩
theorem an_le_mx {f : Nat → Nat} : ∀ {n i}, i < n → f i ≤ an_mx f n := by
  intro n
  induction n with
  | zero => intro i hi; omega
  | succ n ih =>
    intro i hi
    rw [an_mx]
    by_cases q : i = n
    · rw [q]; exact Nat.le_max_right _ _
    · exact Nat.le_trans (ih (by omega)) (Nat.le_max_left _ _)
theorem an_mx_sw (g : Nat → Nat → Nat) (n : Nat) : an_mx (fun p => an_mx (fun q => g q p) n) n = an_mx (fun p => an_mx (fun q => g p q) n) n := by
  apply Nat.le_antisymm
  · exact an_mx_le (fun p hp => an_mx_le (fun q hq => Nat.le_trans (an_le_mx (f := fun p' => g q p') hp) (an_le_mx (f := fun q' => an_mx (fun p' => g q' p') n) hq)))
  · exact an_mx_le (fun p hp => an_mx_le (fun q hq => Nat.le_trans (an_le_mx (f := fun p' => g p' q) hp) (an_le_mx (f := fun q' => an_mx (fun p' => g p' q') n) hq)))
theorem an_max_i {m f : Nat} (hm : m < 1000) (hf : f < 1000) : (if nI m < nI f then nI f else nI m) = nI (max m f) := by
  by_cases q : m < f
  · rw [if_pos (nI_lt q (by omega)), Nat.max_eq_right (by omega)]
  · rw [if_neg (nI_nlt (by omega) (by omega)), Nat.max_eq_left (by omega)]
def an_ask (w : an_W) (c p q : Nat) : Bool := Nat.beq c 0 || (Nat.beq c 1 && !(an_far w p q)) || (Nat.beq c 2 && an_far w p q)
def an_lg (w : an_W) (c day p q : Nat) : Nat := bif !(Nat.beq p q) && an_ask w c p q then W_flight w p q day else 0
theorem an_fl_200 (w : an_W) (day : Nat) : ∀ (f t n : Nat), n + f ≤ 200 → an_fl w day f t n ≤ 200 := by
  intro f
  induction f with
  | zero => intro t n _; exact Nat.le_refl _
  | succ f ih =>
    intro t n h
    rw [an_fl]
    cases (Nat.beq (an_step w day t n) 0 && W_biz w (day + n)) with
    | true => show n ≤ 200; omega
    | false => exact ih _ _ (by omega)
theorem an_flight_200 (w : an_W) (a b day : Nat) : W_flight w a b day ≤ 200 := an_fl_200 w day 199 _ 1 (by omega)
theorem an_lg_200 (w : an_W) (c day p q : Nat) : an_lg w c day p q ≤ 200 := by
  unfold an_lg
  cases (!(Nat.beq p q) && an_ask w c p q) with
  | true => exact an_flight_200 w p q day
  | false => exact Nat.zero_le _
theorem an_lh_xs {L d : Nat} {μ : am_M} {F : Int32 → am_M → Prop} {w : an_W} {day c m on at' : Nat} (hd : 8 ≤ d) (hC : an_RC 15 w μ) (hS : an_RS w μ) (hT : an_WT w) (hday : day < 90) (hc : c < 3) (hm : m ≤ 200) (ho : on < 4) (ha : at' < 4) (h : am_Ji L d 111 45 [none, none, some (.int (nI day)), some (.int (nI c)), some (.ref 15), some (.int (nI (max m (an_lg w c day at' on)))), some (.int (nI (on))), some (.int (nI (at' + 1))), none, none] [] μ F) : am_Ji L d 111 45 [none, none, some (.int (nI day)), some (.int (nI c)), some (.ref 15), some (.int (nI (m))), some (.int (nI (on))), some (.int (nI (at'))), none, none] [] μ F := by
  obtain ⟨ea, la⟩ := an_T_e hT ha
  obtain ⟨eb, lb⟩ := an_T_e hT ho
  have h122 : ∀ m', m' = max m (an_lg w c day at' on) → am_Ji L d 111 122 [none, none, some (.int (nI day)), some (.int (nI c)), some (.ref 15), some (.int (nI (m'))), some (.int (nI (on))), some (.int (nI (at'))), none, none] [] μ F := fun m' e => by
    refine v_X_leastHold_122 ?_
    rw [nI_add, e]
    exact h
  have h93 : am_Ji L d 111 93 [none, none, some (.int (nI day)), some (.int (nI c)), some (.ref 15), some (.int (nI (m))), some (.int (nI (on))), some (.int (nI (at'))), none, some (.int (an_b (an_ask w c at' on)))] [] μ F := by
    refine v_X_leastHold_93 ?_
    by_cases q : on = at'
    · rw [if_pos (by rw [q])]
      refine h122 m ?_
      unfold an_lg
      rw [q, Nat.beq_refl]
      exact (Nat.max_eq_left (Nat.zero_le _)).symm
    · rw [if_neg (fun z => q ((nI_eq (by omega) (by omega)).mp z)), an_bf]
      have e1 : Nat.beq at' on = false := am_nb (fun z => q z.symm)
      cases hk : an_ask w c at' on with
      | false =>
        refine h122 m ?_
        unfold an_lg
        rw [hk, Bool.and_false]
        exact (Nat.max_eq_left (Nat.zero_le _)).symm
      | true =>
        refine ⟨by omega, s_Country_flightDays (by omega) ha ho hC hS hT hday ?_⟩
        have := an_flight_200 w at' on day
        rw [an_gdd (by omega), an_max_i (by omega) (by omega)]
        refine h122 _ ?_
        unfold an_lg
        rw [hk, e1]
        rfl
  have h86 : an_ask w c at' on = true → am_Ji L d 111 86 [none, none, some (.int (nI day)), some (.int (nI c)), some (.ref 15), some (.int (nI (m))), some (.int (nI (on))), some (.int (nI (at'))), none, none] [] μ F := fun e => by
    refine v_X_leastHold_86 ?_
    rw [e] at h93
    exact h93
  have h90 : an_ask w c at' on = false → am_Ji L d 111 90 [none, none, some (.int (nI day)), some (.int (nI c)), some (.ref 15), some (.int (nI (m))), some (.int (nI (on))), some (.int (nI (at'))), none, none] [] μ F := fun e => by
    refine v_X_leastHold_90 ?_
    rw [e] at h93
    exact h93
  have efar : ∀ t, (an_T w at' = an_T w on ↔ t = false) → an_far w at' on = t := by
    intro t ht
    unfold an_far
    by_cases q : an_T w at' = an_T w on
    · rw [q, Nat.beq_refl, ht.mp q]; rfl
    · rw [am_nb q]
      cases t with
      | false => exact absurd (ht.mpr rfl) q
      | true => rfl
  refine v_X_leastHold_45 ?_
  rw [if_neg (nI_ge (by omega) (by omega)), am_dp (by omega), am_gd_in ha (by omega), am_gd_in ho (by omega), am_cl (by omega : at' < 2147483648), am_cl (by omega : on < 2147483648), hC.1 _ ha, hC.1 _ ho, ea, eb]
  by_cases q : an_T w at' = an_T w on
  · have hf : an_far w at' on = false := efar false ⟨fun _ => rfl, fun _ => q⟩
    rw [if_pos (by rw [q])]
    rcases (by omega : c = 0 ∨ c = 1 ∨ c = 2) with rfl | rfl | rfl
    · rw [if_pos nI_0]
      exact h86 rfl
    · rw [if_neg (by decide), if_neg (fun z => z rfl)]
      exact h86 (by unfold an_ask; rw [hf]; rfl)
    · rw [if_neg (by decide), if_pos (by decide)]
      refine v_X_leastHold_76 ?_
      rw [if_neg (fun z => z rfl), if_pos nI_0]
      exact h90 (by unfold an_ask; rw [hf]; rfl)
  · have hf : an_far w at' on = true := efar true ⟨fun z => absurd z q, fun z => by cases z⟩
    rw [if_neg (fun z => q ((nI_eq (by omega) (by omega)).mp z))]
    rcases (by omega : c = 0 ∨ c = 1 ∨ c = 2) with rfl | rfl | rfl
    · rw [if_pos nI_0]
      exact h86 rfl
    · rw [if_neg (by decide), if_neg (fun z => z rfl)]
      refine v_X_leastHold_76 ?_
      rw [if_pos (by decide)]
      exact h90 (by unfold an_ask; rw [hf]; rfl)
    · rw [if_neg (by decide), if_pos (by decide)]
      refine v_X_leastHold_76 ?_
      rw [if_neg (fun z => z rfl), if_neg (by decide)]
      exact h86 (by unfold an_ask; rw [hf]; rfl)
theorem an_lh_x {L d : Nat} {μ : am_M} {F : Int32 → am_M → Prop} {w : an_W} {day c : Nat} (hd : 8 ≤ d) (hC : an_RC 15 w μ) (hS : an_RS w μ) (hT : an_WT w) (hday : day < 90) (hc : c < 3) (hF : F (nI (an_mx (fun on => an_mx (fun at' => an_lg w c day at' on) 4) 4)) μ) : am_Ji L d 111 36 [none, none, some (.int (nI day)), some (.int (nI c)), some (.ref 15), some (.int (nI (0))), some (.int (nI (0))), none, none, none] [] μ F := by
  have b1 : ∀ on n, an_mx (fun at' => an_lg w c day at' on) n ≤ 200 := fun on n => an_mx_le (fun i _ => an_lg_200 w c day i on)
  have b2 : ∀ n, an_mx (fun on => an_mx (fun at' => an_lg w c day at' on) 4) n ≤ 200 := fun n => an_mx_le (fun i _ => b1 i 4)
  refine am_down (P := fun on => am_Ji L d 111 36 [none, none, some (.int (nI day)), some (.int (nI c)), some (.ref 15), some (.int (nI (an_mx (fun on => an_mx (fun at' => an_lg w c day at' on) 4) on))), some (.int (nI (on))), none, none, none] [] μ F) (N := 4) ?_ ?_ 0 (Nat.zero_le _)
  · refine v_X_leastHold_36 ?_
    rw [if_pos (nI_le (Nat.le_refl _) (by omega))]
    exact hF
  · intro on ho ih
    refine v_X_leastHold_36 ?_
    rw [if_neg (nI_ge ho (by omega))]
    have := am_down (P := fun at' => am_Ji L d 111 45 [none, none, some (.int (nI day)), some (.int (nI c)), some (.ref 15), some (.int (nI (max (an_mx (fun on => an_mx (fun at' => an_lg w c day at' on) 4) on) (an_mx (fun at' => an_lg w c day at' on) at')))), some (.int (nI (on))), some (.int (nI (at'))), none, none] [] μ F) (N := 4) (by
      refine v_X_leastHold_45 ?_
      rw [if_pos (nI_le (Nat.le_refl _) (by omega)), nI_add]
      exact ih) (fun at' ha h => an_lh_xs hd hC hS hT hday hc (Nat.max_le.mpr ⟨b2 on, b1 on at'⟩) ho ha (by
      rw [Nat.max_assoc]
      exact h)) 0 (Nat.zero_le _)
    rw [an_mx, Nat.max_eq_left (Nat.zero_le _)] at this
    exact this
theorem an_lh_ms {L d : Nat} {μ : am_M} {F : Int32 → am_M → Prop} {w : an_W} {day c m a b : Nat} (hd : 8 ≤ d) (hw : μ 141 = w) (hT : an_WT w) (hday : day < 90) (hc : c < 3) (hm : m ≤ 200) (ha : a < 4) (hb : b < 4) (h : am_Ji L d 216 43 [some (.ref 140), none, some (.int (nI day)), some (.int (nI c)), some (.int (nI (max m (an_lg w c day a b)))), some (.int (nI (a))), some (.int (nI (b + 1))), none] [] μ F) : am_Ji L d 216 43 [some (.ref 140), none, some (.int (nI day)), some (.int (nI c)), some (.int (nI (m))), some (.int (nI (a))), some (.int (nI (b))), none] [] μ F := by
  obtain ⟨ea, la⟩ := an_T_e hT ha
  obtain ⟨eb, lb⟩ := an_T_e hT hb
  have hfl := an_flight_200 w a b day
  have skip : an_lg w c day a b = 0 → am_Ji L d 216 43 [some (.ref 140), none, some (.int (nI day)), some (.int (nI c)), some (.int (nI (m))), some (.int (nI (a))), some (.int (nI b + nI 1)), none] [] μ F := fun e => by
    rw [e, Nat.max_eq_left (Nat.zero_le _)] at h
    rw [nI_add]
    exact h
  have go : an_lg w c day a b = W_flight w a b day → 0 < d ∧ am_Ci L (d - 1) 209 [.ref 140, .int (nI a), .int (nI b), .int (nI day)] μ (fun y2 μ1 => if y2 ≤ nI m then am_Ji L d 216 43 [some (.ref 140), none, some (.int (nI day)), some (.int (nI c)), some (.int (nI (m))), some (.int (nI (a))), some (.int (nI b + nI 1)), none] [] μ1 F else am_Ji L d 216 43 [some (.ref 140), none, some (.int (nI day)), some (.int (nI c)), some (.int y2), some (.int (nI (a))), some (.int (nI b + nI 1)), none] [] μ1 F) := fun e => by
    refine ⟨by omega, s_M_flightOf (by omega) ha hb hw hT hday ?_⟩
    rw [e] at h
    by_cases q : W_flight w a b day ≤ m
    · rw [if_pos (nI_le q (by omega)), nI_add]
      rw [Nat.max_eq_left q] at h
      exact h
    · rw [if_neg (nI_ge (by omega) (by omega)), nI_add]
      rw [Nat.max_eq_right (by omega)] at h
      exact h
  refine v_M_leastHold_43 ?_
  rw [if_neg (nI_ge (by omega) (by omega))]
  by_cases qab : a = b
  · rw [if_pos (by rw [qab])]
    exact skip (by unfold an_lg; rw [qab, Nat.beq_refl]; rfl)
  · rw [if_neg (fun z => qab ((nI_eq (by omega) (by omega)).mp z))]
    have e1 : Nat.beq a b = false := am_nb qab
    have lgt : an_ask w c a b = true → an_lg w c day a b = W_flight w a b day := fun e => by unfold an_lg; rw [e, e1]; rfl
    have lgf : an_ask w c a b = false → an_lg w c day a b = 0 := fun e => by unfold an_lg; rw [e, e1]; rfl
    by_cases q0 : c = 0
    · subst q0
      rw [if_pos nI_0]
      exact go (lgt rfl)
    · rw [if_neg (nI_ne0 (by omega) (by omega)), am_dp (by omega), nI_add, nI_add, am_gd_in (by omega) (by omega), am_gd_in (by omega) (by omega), am_cl (by omega), am_cl (by omega), hw, ea, eb]
      by_cases q : an_T w a = an_T w b
      · have hf : an_far w a b = false := by unfold an_far; rw [q, Nat.beq_refl]; rfl
        rw [if_pos (by rw [q])]
        rcases (by omega : c = 1 ∨ c = 2) with rfl | rfl
        · rw [if_pos (by decide)]
          exact go (lgt (by unfold an_ask; rw [hf]; rfl))
        · rw [if_neg (fun z => z rfl)]
          exact skip (lgf (by unfold an_ask; rw [hf]; rfl))
      · have hf : an_far w a b = true := by unfold an_far; rw [am_nb q]; rfl
        rw [if_neg (fun z => q ((nI_eq (by omega) (by omega)).mp z))]
        rcases (by omega : c = 1 ∨ c = 2) with rfl | rfl
        · rw [if_pos (by decide)]
          exact skip (lgf (by unfold an_ask; rw [hf]; rfl))
        · rw [if_neg (fun z => z rfl)]
          exact go (lgt (by unfold an_ask; rw [hf]; rfl))
theorem an_lh_m {L d : Nat} {μ : am_M} {F : Int32 → am_M → Prop} {w : an_W} {day c : Nat} (hd : 8 ≤ d) (hw : μ 141 = w) (hT : an_WT w) (hday : day < 90) (hc : c < 3) (hF : F (nI (an_mx (fun a => an_mx (fun b => an_lg w c day a b) 4) 4)) μ) : am_Ji L d 216 34 [some (.ref 140), none, some (.int (nI day)), some (.int (nI c)), some (.int (nI (0))), some (.int (nI (0))), none, none] [] μ F := by
  have b1 : ∀ a n, an_mx (fun b => an_lg w c day a b) n ≤ 200 := fun a n => an_mx_le (fun i _ => an_lg_200 w c day a i)
  have b2 : ∀ n, an_mx (fun a => an_mx (fun b => an_lg w c day a b) 4) n ≤ 200 := fun n => an_mx_le (fun i _ => b1 i 4)
  refine am_down (P := fun a => am_Ji L d 216 34 [some (.ref 140), none, some (.int (nI day)), some (.int (nI c)), some (.int (nI (an_mx (fun a => an_mx (fun b => an_lg w c day a b) 4) a))), some (.int (nI (a))), none, none] [] μ F) (N := 4) ?_ ?_ 0 (Nat.zero_le _)
  · refine v_M_leastHold_34 ?_
    rw [if_pos (nI_le (Nat.le_refl _) (by omega))]
    exact hF
  · intro a ha ih
    refine v_M_leastHold_34 ?_
    rw [if_neg (nI_ge ha (by omega))]
    have := am_down (P := fun b => am_Ji L d 216 43 [some (.ref 140), none, some (.int (nI day)), some (.int (nI c)), some (.int (nI (max (an_mx (fun a => an_mx (fun b => an_lg w c day a b) 4) a) (an_mx (fun b => an_lg w c day a b) b)))), some (.int (nI (a))), some (.int (nI (b))), none] [] μ F) (N := 4) (by
      refine v_M_leastHold_43 ?_
      rw [if_pos (nI_le (Nat.le_refl _) (by omega)), nI_add]
      exact ih) (fun b hb h => an_lh_ms hd hw hT hday hc (Nat.max_le.mpr ⟨b2 a, b1 a b⟩) ha hb (by
      rw [Nat.max_assoc]
      exact h)) 0 (Nat.zero_le _)
    rw [an_mx, Nat.max_eq_left (Nat.zero_le _)] at this
    exact this
theorem op_leastHold {L d : Nat} {μ : am_M} {p1 p2 p3 : Int32} {K : Int32 → Int32 → am_M → Prop} (hd : 30 ≤ d) (hG : an_G nb μ) (hK : ∀ r μ', an_G nb μ' → K r r μ') : am_Ci L d 111 [.ref 0, .int p1, .int p2, .int p3] μ (fun r1 μ1 => am_Ci L d 216 [.ref 140, .int p1, .int p2, .int p3] μ1 (fun r2 μ2 => K r1 r2 μ2)) := by
  have hS := hG.1
  generalize hw : μ 141 = w at hS
  obtain ⟨h1, h2, h3, h4, h5, h6, h7, h8, h9, h10, h11, h12, h13, h14, h15⟩ := id hS
  obtain ⟨hD, hN, hP, hKt, hE⟩ := id h1
  obtain ⟨eN, lN⟩ := an_cnt_e hN
  have hL : an_RL 58 w μ := h8
  have hC : an_RC 15 w μ := h9.1
  obtain ⟨D, lD, eD⟩ := hD
  have hSn := an_RS_of h3 h9 hG.2.2.2.2.2.2.1
  have hT := h2.1
  by_cases k1 : p1 < nI 2
  · refine v_X_leastHold ?_
    rw [am_dp (by omega), if_pos k1]
    refine v_M_leastHold ?_
    rw [am_dp (by omega), if_pos k1]
    exact hK _ _ hG
  by_cases k2 : nI 4 < p1
  · refine v_X_leastHold ?_
    rw [am_dp (by omega), if_neg k1, if_pos k2]
    refine v_M_leastHold ?_
    rw [am_dp (by omega), if_neg k1, if_pos k2]
    exact hK _ _ hG
  refine v_X_leastHold ?_
  rw [am_dp (by omega), if_neg k1, if_neg k2, am_dp (by omega), am_dp (by omega)]
  rcases an_arg p2 90 (by omega) (by omega) with ⟨a1, a2⟩ | ⟨a1, a2, a3, a4⟩ | ⟨e, he, rfl⟩
  · rw [if_pos a1]
    refine v_M_leastHold ?_
    rw [am_dp (by omega), if_neg k1, if_neg k2, am_dp (by omega), am_dp (by omega), if_pos a2]
    exact hK _ _ hG
  · have a5 : nI 89 < p2 := a4
    rw [if_neg a1, if_pos a3]
    refine v_M_leastHold ?_
    rw [am_dp (by omega), if_neg k1, if_neg k2, am_dp (by omega), am_dp (by omega), if_neg a2, if_pos a5]
    exact hK _ _ hG
  · rw [if_neg (nI_pos (by omega)), if_neg (nI_ge (by omega) (by omega))]
    refine ⟨by omega, s_Country_isBusiness hC (by omega) ?_⟩
    rw [an_bf]
    have mgo : ∀ {G : Int32 → am_M → Prop}, (match W_biz w e with
        | true => (if p3 < nI 0 then G (- nI 1) μ else if nI 2 < p3 then G (- nI 1) μ else am_Ji L d 216 34 [some (.ref 140), none, some (.int (nI e)), some (.int p3), some (.int (nI 0)), some (.int (nI 0)), none, none] [] μ G)
        | false => G (- nI 1) μ) → am_Ci L d 216 [.ref 140, .int p1, .int (nI e), .int p3] μ G := by
      intro G hG2
      refine v_M_leastHold ?_
      rw [am_dp (by omega), if_neg k1, if_neg k2, am_dp (by omega), am_dp (by omega), if_neg (nI_nlt (by omega) (by omega)), if_neg (nI_nlt (by omega) (by omega))]
      refine ⟨by omega, s_M_isBusiness hw (by omega) ?_⟩
      rw [an_bf]
      cases hb : W_biz w e with
      | true =>
        rw [hb] at hG2
        exact ⟨by omega, hG2⟩
      | false =>
        rw [hb] at hG2
        exact hG2
    cases hb : W_biz w e with
    | false => exact mgo (by rw [hb]; exact hK _ _ hG)
    | true =>
      rw [hb] at mgo
      dsimp only at mgo ⊢
      rcases an_arg p3 3 (by omega) (by omega) with ⟨a1, a2⟩ | ⟨a1, a2, a3, a4⟩ | ⟨c, hc, rfl⟩
      · rw [if_pos a1]
        exact mgo (by rw [if_pos a2]; exact hK _ _ hG)
      · have a5 : nI 2 < p3 := a4
        rw [if_neg a1, if_neg (Int32.not_le.mpr a5)]
        exact mgo (by rw [if_neg a2, if_pos a5]; exact hK _ _ hG)
      · rw [if_neg (nI_pos (by omega)), if_pos (nI_le (by omega) (by omega))]
        refine an_lh_x (by omega) hC hSn hT he hc ?_
        rw [an_mx_sw]
        exact mgo (by
          rw [if_neg (nI_nlt (by omega) (by omega)), if_neg (nI_nlt (by omega) (by omega))]
          exact an_lh_m (by omega) hw hT he hc (hK _ _ hG))
