/-! A morning: a cheque is asked for, the model. -/

def W_lim (w : an_W) (ls : List an_Ln) (wd h b x : Nat) (am : Int32) : Int32 := W_law w ls wd h b am (nI (an_R w b x)) (nI (an_day w % 7)) (an_far w b x)
def W_as (w : an_W) (k h b : Nat) (kind v fee st nd : Int32) : an_W :=
  let w1 := W_books w h b kind (nI k) v
  let w2 := upd w1 (258 + 4 * h + b) (w1 (258 + 4 * h + b) + fee)
  let w3 := upd w2 4 (w2 4 + fee)
  upd (upd (upd w3 (3640 + 12 * k + 6) st) (3640 + 12 * k + 9) (w 0)) (3640 + 12 * k + 7) nd
/-- a cheque is asked for -/
def W_ask (w : an_W) (ls : List an_Ln) (k h b x : Nat) (am : Int32) : an_W :=
  if W_usable w h b + W_lim w ls 1 h b x am < am then W_as w k h b (nI 3) (- W_lim w ls 2 h b x am) (W_lim w ls 2 h b x am) (nI 2) (nI (an_R w b x))
  else W_as w k h b (nI 2) (- am) (nI 0) (nI 1) (nI 0)
/-- a cheque's row -/
def an_cq (w : an_W) (k h b x : Nat) : Prop := h < 6 ∧ b < 4 ∧ x < 4 ∧ w (3640 + 12 * k + 0) = nI h ∧ w (3640 + 12 * k + 1) = nI b ∧ w (3640 + 12 * k + 3) = nI x
theorem s_M_gathersOf {L d : Nat} {μ : am_M} {F : am_M → Prop} {w : an_W} {k h b x D : Nat} (hd : 6 ≤ d) (hk : k < 150) (hq : an_cq w k h b x) (hD : w 0 = nI D) (hD9 : D < 200) (hw : μ 141 = w) (hN : an_N (w 1) 151) (hT : an_WT w) (hs : ∀ a b, a < 3 → b < 3 → w (14 + 3 * a + b) = w (14 + 3 * b + a))
    (hF : ∀ μ', an_un [148] μ μ' → (∀ s, an_fs false s → μ' 148 s = W_fal w h b (w (3640 + 12 * k + 4)) (nI (an_R w b x)) (nI (an_day w % 7)) (an_far w b x) s) → F μ') : am_Cv L d 185 [.ref 140, .int (nI k), .int (nI h), .int (nI b)] μ F := by
  obtain ⟨hh, hb, hx, q0, q1, q3⟩ := hq
  obtain ⟨ea, la⟩ := an_T_e hT hb
  obtain ⟨eb, lb⟩ := an_T_e hT hx
  obtain ⟨er, lr⟩ := an_R_e hT hb hx
  have er' : w (14 + 3 * an_T w x + an_T w b) = nI (an_R w b x) := (hs _ _ lb la).trans er
  have eday : an_day w = D := by unfold an_day; rw [hD, am_cl (by omega)]
  rw [eday] at hF
  refine v_M_gathersOf ?_
  simp (discharger := omega) only [hw, pk_mul, nI_add, am_gd_in, am_cl, am_dp, q1, q3, ea, eb, er', hD]
  by_cases hq : an_T w b = an_T w x
  · have hfar : an_far w b x = false := by unfold an_far; rw [hq, Nat.beq_refl]; rfl
    rw [hfar] at hF
    rw [if_pos (by rw [hq])]
    exact s_M_gathers (far := false) (by omega) hh hb (by omega) hw hN hF
  · have hfar : an_far w b x = true := by unfold an_far; rw [am_nb hq]; rfl
    rw [hfar] at hF
    rw [if_neg (fun z => hq ((nI_eq (by omega) (by omega)).mp z).symm)]
    exact s_M_gathers (far := true) (by omega) hh hb (by omega) hw hN hF
theorem an_ask_end {L d : Nat} {μ : am_M} {F : Int32 → am_M → Prop} {w : an_W} {k h b x : Nat} {kind v fee : Int32} (pd : Bool) (hd : 1 ≤ d) (hk : k < 150) (hq : an_cq w k h b x) (hT : an_WT w) (hs : ∀ a b, a < 3 → b < 3 → w (14 + 3 * a + b) = w (14 + 3 * b + a)) (hw : μ 141 = W_books w h b kind (nI k) v)
    (hF : ∀ μ', an_un [141] μ μ' → μ' 141 = W_as w k h b kind v fee (nI (if pd then 1 else 2)) (nI (if pd then 0 else an_R w b x)) → F (nI (if pd then 0 else 1)) μ') : am_Ji L d 206 102 [some (.ref 140), some (.int (nI k)), some (.int (nI h)), some (.int (nI b)), some (.int (nI (if pd then 1 else 0))), some (.int fee)] [] μ F := by
  obtain ⟨hh, hb, hx, q0, q1, q3⟩ := hq
  obtain ⟨ea, la⟩ := an_T_e hT hb
  obtain ⟨eb, lb⟩ := an_T_e hT hx
  obtain ⟨er, lr⟩ := an_R_e hT hb hx
  have er' : w (14 + 3 * an_T w x + an_T w b) = nI (an_R w b x) := (hs _ _ lb la).trans er
  refine v_M_isReturned_102 ?_
  simp only [pk_mul, nI_add]
  rw [am_gd_in (by omega) (by omega), am_gd_in (by omega) (by omega), am_cl (by omega), hw]
  intro μ1 e1 μ2 e2
  have w2 : μ2 141 = upd (upd (W_books w h b kind (nI k) v) (258 + 4 * h + b) (W_books w h b kind (nI k) v (258 + 4 * h + b) + fee)) 4 (upd (W_books w h b kind (nI k) v) (258 + 4 * h + b) (W_books w h b kind (nI k) v (258 + 4 * h + b) + fee) 4 + fee) := by
    rw [e2, am_w_at, e1, am_w_at, hw]
  have r2 : ∀ j, j < 210 → j ≠ 4 → μ2 141 j = w j := fun j h1 h2 => by
    rw [w2, pk_un h2, pk_un (by omega), W_books_o (by omega) (by omega)]
  have r2' : μ2 141 (3640 + 12 * k + 3) = nI x := by rw [w2, pk_un (by omega), pk_un (by omega), W_books_o (by omega) (by omega), q3]
  cases pd with
  | false =>
    rw [if_pos (by rfl), am_gd_in (by omega) (by omega), am_cl (by omega)]
    intro μ3 e3
    refine v_M_isReturned_158 ?_
    simp only [pk_mul, nI_add]
    rw [am_gd_in (by omega) (by omega), am_cl (by omega), an_w_o e3 (by omega), r2 0 (by omega) (by omega)]
    intro μ4 e4
    rw [if_pos (by rfl)]
    have r4 : ∀ j, j < 210 → j ≠ 4 → μ4 141 j = w j := fun j h1 h2 => by rw [an_w_o e4 (by omega), an_w_o e3 (by omega), r2 j h1 h2]
    have r4' : μ4 141 (3640 + 12 * k + 3) = nI x := by rw [an_w_o e4 (by omega), an_w_o e3 (by omega), r2']
    rw [am_dp (by omega), am_gd_in (by omega) (by omega), am_cl (by omega), r4', am_dp (by omega), nI_add, am_gd_in (by omega) (by omega), am_gd_in (by omega) (by omega), am_cl (by omega), am_cl (by omega), r4 (10 + x) (by omega) (by omega), r4 (10 + b) (by omega) (by omega), ea, eb]
    simp only [pk_mul, nI_add]
    rw [am_gd_in (by omega) (by omega), am_gd_in (by omega) (by omega), am_cl (by omega), am_cl (by omega), r4 _ (by omega) (by omega), er']
    intro μ5 e5
    refine v_M_isReturned_216 ?_
    rw [if_neg (fun z => z (by rfl))]
    refine hF μ5 (fun c hc => ?_) ?_
    · have hc : c ≠ 141 := by simpa using hc
      rw [an_w_c e5 hc, an_w_c e4 hc, an_w_c e3 hc, an_w_c e2 hc, an_w_c e1 hc]
    · rw [e5, am_w_at, e4, am_w_at, e3, am_w_at, w2]
      rfl
  | true =>
    rw [if_neg (show ¬ nI (if true = true then 1 else 0) = 0 by decide), am_gd_in (by omega) (by omega), am_cl (by omega)]
    intro μ3 e3
    refine v_M_isReturned_158 ?_
    simp only [pk_mul, nI_add]
    rw [am_gd_in (by omega) (by omega), am_cl (by omega), an_w_o e3 (by omega), r2 0 (by omega) (by omega)]
    intro μ4 e4
    rw [if_neg (show ¬ nI (if True then 1 else 0) = 0 by decide), am_gd_in (by omega) (by omega), am_cl (by omega)]
    intro μ5 e5
    refine v_M_isReturned_216 ?_
    rw [if_pos (show ¬ nI (if True then 1 else 0) = 0 by decide)]
    refine hF μ5 (fun c hc => ?_) ?_
    · have hc : c ≠ 141 := by simpa using hc
      rw [an_w_c e5 hc, an_w_c e4 hc, an_w_c e3 hc, an_w_c e2 hc, an_w_c e1 hc]
    · rw [e5, am_w_at, e4, am_w_at, e3, am_w_at, w2]
      rfl
theorem s_M_isReturned {L d : Nat} {μ : am_M} {F : Int32 → am_M → Prop} {w : an_W} {k h b x D : Nat} {ls : List an_Ln} (hd : 8 ≤ d) (hk : k < 150) (hq : an_cq w k h b x) (hD : w 0 = nI D) (hD9 : D < 200) (hw : μ 141 = w) (hE : an_N (w 9810) 901) (hN : an_N (w 1) 151) (hT : an_WT w) (hs : ∀ a b, a < 3 → b < 3 → w (14 + 3 * a + b) = w (14 + 3 * b + a)) (ho : an_okl false ls) (hM : an_scM w b ls)
    (hF : ∀ μ', an_un [141, 147, 148] μ μ' → μ' 141 = W_ask w ls k h b x (w (3640 + 12 * k + 4)) → F (nI (if W_usable w h b + W_lim w ls 1 h b x (w (3640 + 12 * k + 4)) < w (3640 + 12 * k + 4) then 1 else 0)) μ') : am_Ci L d 206 [.ref 140, .int (nI k)] μ F := by
  have hq' := hq
  obtain ⟨hh, hb, hx, q0, q1, q3⟩ := hq'
  refine v_M_isReturned ?_
  simp (discharger := omega) only [hw, pk_mul, nI_add, am_gd_in, am_cl, am_dp, q0, q1]
  refine s_M_gathersOf (by omega) hk hq hD hD9 hw hN hT hs (fun μ1 u1 f1 => ?_)
  have w1 : μ1 141 = w := (u1 141 (by decide)).trans hw
  refine s_M_usable (by omega) hh hb w1 hN ?_
  refine s_M_tells (by omega) hb (by omega) ho hM μ1 w1 f1 (fun μ4 u4 => ?_)
  have w4 : μ4 141 = w := (u4 141 (by decide)).trans w1
  have f4 : ∀ s, an_fs false s → μ4 148 s = W_fal w h b (w (3640 + 12 * k + 4)) (nI (an_R w b x)) (nI (an_day w % 7)) (an_far w b x) s := fun s z => by rw [u4 148 (by decide)]; exact f1 s z
  have el : ∀ wd, an_cla (an_most wd) (an_val (W_fal w h b (w (3640 + 12 * k + 4)) (nI (an_R w b x)) (nI (an_day w % 7)) (an_far w b x)) wd ls) = W_lim w ls wd h b x (w (3640 + 12 * k + 4)) := fun wd => rfl
  rw [el, w4]
  have un : ∀ {μ5 μ6 : am_M}, an_un [147] μ4 μ5 → an_un [141] μ5 μ6 → an_un [141, 147, 148] μ μ6 := fun {μ5 μ6} z1 z2 c hc => by
    simp only [List.mem_cons, List.not_mem_nil, or_false, not_or] at hc
    rw [z2 c (by simp [hc]), z1 c (by simp [hc]), u4 c (by simp [hc]), u1 c (by simp [hc])]
  unfold W_ask at hF
  by_cases hp : W_usable w h b + W_lim w ls 1 h b x (w (3640 + 12 * k + 4)) < w (3640 + 12 * k + 4)
  · simp only [if_pos hp] at hF
    rw [if_pos hp]
    refine v_M_isReturned_50 ?_
    rw [if_pos (by rfl), am_dp (by omega)]
    refine s_M_tells (by omega) hb (by omega) ho hM μ4 w4 f4 (fun μ5 u5 => ?_)
    have w5 : μ5 141 = w := (u5 141 (by decide)).trans w4
    rw [el]
    refine v_M_isReturned_67 ?_
    rw [if_pos (by rfl), if_pos (by rfl), am_dp (by omega)]
    refine s_M_books hh hb w5 hE (fun μ6 u6 w6 => ?_)
    refine an_ask_end false (by omega) hk hq hT hs w6 (fun μ7 u7 w7 => ?_)
    exact hF μ7 (un u5 (an_un_tr u6 u7 (fun _ z => z) (fun _ z => z))) w7
  · simp only [if_neg hp] at hF
    rw [if_neg hp]
    refine v_M_isReturned_50 ?_
    rw [if_neg (show ¬ nI 1 = 0 by decide)]
    refine v_M_isReturned_67 ?_
    rw [if_neg (show ¬ nI 1 = 0 by decide), if_neg (show ¬ nI 1 = 0 by decide)]
    simp (discharger := omega) only [w4, pk_mul, nI_add, am_gd_in, am_cl, am_dp]
    refine s_M_books hh hb w4 hE (fun μ6 u6 w6 => ?_)
    refine an_ask_end true (by omega) hk hq hT hs w6 (fun μ7 u7 w7 => ?_)
    exact hF μ7 (un an_un_rf (an_un_tr u6 u7 (fun _ z => z) (fun _ z => z))) w7
