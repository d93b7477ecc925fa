/-! A day: the first day on which a bank alone cries; the call. -/
variable {nb : Nat}
noncomputable def an_al (w : an_W) (T : Nat) (ls : List an_Ln) : Nat → an_W
  | 0 => w
  | n + 1 => if an_al w T ls n (3612 + n) = - nI 1 ∧ W_cry (an_al w T ls n) T (n / 4) (nI 1 <<< (nI (n % 4) &&& 31)) ls = true then upd (an_al w T ls n) (3612 + n) (nI T) else an_al w T ls n
theorem an_al_o {w : an_W} {T j : Nat} {ls : List an_Ln} : ∀ n, (j < 3612 ∨ 3612 + n ≤ j) → an_al w T ls n j = w j := by
  intro n
  induction n with
  | zero => intro _; rfl
  | succ n ih =>
    intro h
    rw [an_al]
    split
    · rw [pk_un (by omega), ih (by omega)]
    · exact ih (by omega)
theorem an_al_s {w : an_W} {T h b n : Nat} {ls : List an_Ln} (hn : n = 4 * h + b) (hb : b < 4) : an_al w T ls (n + 1) = if an_al w T ls n (3612 + n) = - nI 1 ∧ W_cry (an_al w T ls n) T h (nI 1 <<< (nI b &&& 31)) ls = true then upd (an_al w T ls n) (3612 + n) (nI T) else an_al w T ls n := by
  rw [an_al, show n / 4 = h by omega, show n % 4 = b by omega]
theorem an_RC_w {c : Nat} {w w' : an_W} {μ : am_M} (h : an_RC c w μ) (hw : ∀ j, 10 ≤ j → j < 120 → w' j = w j) : an_RC c w' μ :=
  ⟨fun i hi => by rw [hw _ (by omega) (by omega)]; exact h.1 i hi, fun i hi => by rw [hw _ (by omega) (by omega)]; exact h.2.1 i hi, fun i hi => by rw [hw _ (by omega) (by omega)]; exact h.2.2 i hi⟩
theorem an_WT_w {w w' : an_W} (h : an_WT w) (hw : ∀ j, 10 ≤ j → j < 23 → w' j = w j) : an_WT w' :=
  ⟨fun i hi => by rw [hw _ (by omega) (by omega)]; exact h.1 i hi, fun i hi => by rw [hw _ (by omega) (by omega)]; exact h.2 i hi⟩
theorem an_am_w {w w' : an_W} {D : Nat} (hN : an_N (w 1) 151) (h : an_am w D) (h1 : w' 1 = w 1) (hw : ∀ j, 3640 ≤ j → j < 5440 → w' j = w j) : an_am w' D := by
  have l := (an_cnt_e hN).2
  have ec : an_cnt w' = an_cnt w := by unfold an_cnt; rw [h1]
  intro k hk
  rw [ec] at hk
  rw [hw (3640 + 12 * k + 4) (by omega) (by omega), hw (3640 + 12 * k + 6) (by omega) (by omega), hw (3640 + 12 * k + 9) (by omega) (by omega), hw (3640 + 12 * k + 5) (by omega) (by omega), hw (3640 + 12 * k + 1) (by omega) (by omega), hw (3640 + 12 * k + 3) (by omega) (by omega)]
  exact h k hk
theorem an_wt_w {w w' : an_W} {D : Nat} {ls : List an_Ln} {μ : am_M} (h : an_wt w D ls μ) (hw : ∀ j, (j < 3612 ∨ 3636 ≤ j) → w' j = w j) : an_wt w' D ls μ := by
  obtain ⟨h1, h2, h3, h4, h5, h6, h7, h8, h9, h10⟩ := h
  exact ⟨(hw 0 (by omega)).trans h1, h2, an_RL_w h3 (hw 0 (by omega)) (hw 1 (by omega)) (fun k f _ _ => hw _ (by omega)) (fun j _ _ => hw j (by omega)), an_RC_w h4 (fun j _ _ => hw j (by omega)), an_WT_w h5 (fun j _ _ => hw j (by omega)), by rw [hw 1 (by omega)]; exact h6, an_am_w h6 h7 (hw 1 (by omega)) (fun j _ _ => hw j (by omega)), fun i hi => by rw [hw _ (by omega)]; exact h8 i hi, h9, h10⟩
theorem an_wm_w {w w' : an_W} {D : Nat} {ls : List an_Ln} (h : an_wm w D ls) (hw : ∀ j, (j < 3612 ∨ 3636 ≤ j) → w' j = w j) : an_wm w' D ls := by
  obtain ⟨h1, h2, h3, h4, h5, h6, h7, h8⟩ := h
  exact ⟨(hw 0 (by omega)).trans h1, h2, an_WT_w h3 (fun j _ _ => hw j (by omega)), by rw [hw 1 (by omega)]; exact h4, an_am_w h4 h5 (hw 1 (by omega)) (fun j _ _ => hw j (by omega)), fun e he => by rw [hw _ (by omega)]; exact h6 e he, h7, an_scM_c (by omega) h7 h8 (fun j _ _ => hw j (by omega))⟩
theorem s_lookAlone {L d : Nat} {μ : am_M} {F : am_M → Prop} {w : an_W} {T : Nat} {ls : List an_Ln} (hd : 16 ≤ d) (hW : an_wt w T ls μ) (ha : ∀ i, i < 24 → μ 66 i = w (3612 + i))
    (hF : ∀ μ', an_un [132, 55, 66] μ μ' → (∀ i, i < 24 → μ' 66 i = an_al w T ls 24 (3612 + i)) → F μ') : am_Cv L d 76 [.ref 131] μ F := by
  have hc : ∀ μ1, an_un [132, 55, 66] μ μ1 → ∀ n, n ≤ 24 → an_wt (an_al w T ls n) T ls μ1 := by
    intro μ1 u1 n hn
    obtain ⟨h1, h2, h3, h4, h5, h6, h7, h8, h9, h10⟩ := hW
    have : an_wt w T ls μ1 := ⟨h1, h2, an_RL_c h3 (fun c q1 q2 => u1 c (by simp; omega)), an_RC_c h4 (fun c q1 q2 => u1 c (by simp; omega)), h5, h6, h7, fun i hi => by rw [u1 65 (by decide)]; exact h8 i hi, h9, an_scX_c h10 (fun c q1 q2 => u1 c (by simp; omega))⟩
    exact an_wt_w this (fun j hj => an_al_o _ (by omega))
  have inner : ∀ (n b h : Nat) (μ1 : am_M), b + n = 4 → h < 6 → an_un [132, 55, 66] μ μ1 → (∀ i, i < 24 → μ1 66 i = an_al w T ls (4 * h + b) (3612 + i)) → (∀ μ2, an_un [132, 55, 66] μ μ2 → (∀ i, i < 24 → μ2 66 i = an_al w T ls (4 * (h + 1)) (3612 + i)) → am_Jv L d 76 2 [some (.ref 131), some (.int (nI (h + 1))), none, none] [] μ2 F) → am_Jv L d 76 10 [some (.ref 131), some (.int (nI h)), some (.int (nI b)), none] [] μ1 F := by
    intro n
    induction n with
    | zero =>
      intro b h μ1 hb hh u1 k1 hx
      obtain rfl : b = 4 := by omega
      refine v_Watch_lookAlone_10 ?_
      rw [if_pos (nI_le (Nat.le_refl _) (by omega)), nI_add]
      exact hx μ1 u1 (by rw [show 4 * (h + 1) = 4 * h + 4 by omega]; exact k1)
    | succ n ih =>
      intro b h μ1 hb hh u1 k1 hx
      refine v_Watch_lookAlone_10 ?_
      rw [if_neg (nI_ge (by omega) (by omega)), pk_mul, nI_add, am_gd_in (by omega) (by omega), am_cl (by omega), nI_add, k1 _ (by omega), show 3612 + (h * 4 + b) = 3612 + (4 * h + b) by omega]
      have es := an_al_s (w := w) (T := T) (ls := ls) (h := h) (b := b) (n := 4 * h + b) rfl (by omega)
      by_cases q : an_al w T ls (4 * h + b) (3612 + (4 * h + b)) = - nI 1
      · rw [if_neg (fun z => z q)]
        refine ⟨by omega, s_criesFor' (by omega) hh (hc μ1 u1 (4 * h + b) (by omega)) (fun μ2 u2 => ?_)⟩
        have u2' : an_un [132, 55, 66] μ μ2 := an_un_tr u1 u2 (fun _ z => z) (by simp)
        rw [an_bf]
        cases hcr : W_cry (an_al w T ls (4 * h + b)) T h (nI 1 <<< (nI b &&& 31)) ls with
        | true =>
          rw [if_pos ⟨q, hcr⟩] at es
          dsimp only
          rw [am_gd_in (by omega) (by omega)]
          intro μ3 e3
          have x3 : μ2 58 8 = nI T := (hc μ2 u2' 0 (by omega)).2.2.1.1.trans (hc μ2 u2' 0 (by omega)).1
          rw [x3] at e3
          refine ih (b + 1) h μ3 (by omega) hh (an_un_tr u2' (e3 ▸ an_un_w (by simp)) (fun _ z => z) (fun _ z => z)) (fun i hi => ?_) hx
          rw [← Nat.add_assoc, es]
          by_cases z : i = h * 4 + b
          · rw [z, an_w_s e3, show 3612 + (h * 4 + b) = 3612 + (4 * h + b) by omega, pk_us]
          · rw [an_w_o e3 z, pk_un (by omega), u2 66 (by decide)]; exact k1 i hi
        | false =>
          rw [if_neg (fun z => by rw [hcr] at z; exact absurd z.2 (by decide))] at es
          refine ih (b + 1) h μ2 (by omega) hh u2' (fun i hi => ?_) hx
          rw [← Nat.add_assoc, es, u2 66 (by decide)]; exact k1 i hi
      · rw [if_pos q]
        rw [if_neg (fun z => q z.1)] at es
        refine ih (b + 1) h μ1 (by omega) hh u1 (fun i hi => ?_) hx
        rw [← Nat.add_assoc, es]; exact k1 i hi
  have outer : ∀ (n h : Nat) (μ1 : am_M), h + n = 6 → an_un [132, 55, 66] μ μ1 → (∀ i, i < 24 → μ1 66 i = an_al w T ls (4 * h) (3612 + i)) → am_Jv L d 76 2 [some (.ref 131), some (.int (nI h)), none, none] [] μ1 F := by
    intro n
    induction n with
    | zero =>
      intro h μ1 hh u1 k1
      obtain rfl : h = 6 := by omega
      refine v_Watch_lookAlone_2 ?_
      rw [if_pos (nI_le (Nat.le_refl _) (by omega))]
      exact hF μ1 u1 k1
    | succ n ih =>
      intro h μ1 hh u1 k1
      refine v_Watch_lookAlone_2 ?_
      rw [if_neg (nI_ge (by omega) (by omega))]
      exact inner 4 0 h μ1 (by omega) (by omega) u1 k1 (fun μ7 u7 k7 => ih (h + 1) μ7 (by omega) u7 k7)
  refine v_Watch_lookAlone ?_
  exact outer 6 0 μ (by omega) an_un_rf ha
theorem s_M_alone {L d : Nat} {μ : am_M} {F : Int32 → am_M → Prop} {w : an_W} {T : Nat} {ls : List an_Ln} {x1 : Int32} (hd : 16 ≤ d) (hW : an_wm w T ls) (hw : μ 141 = w)
    (hF : ∀ μ', an_un [148, 147, 141] μ μ' → μ' 141 = an_al w T ls 24 → F x1 μ') : am_Ji L d 208 142 [some (.ref 140), some (.int x1), some (.int (nI T)), some (.int (nI 0)), none, none] [] μ F := by
  have hc : ∀ n, n ≤ 24 → an_wm (an_al w T ls n) T ls := fun n hn => an_wm_w hW (fun j hj => an_al_o _ (by omega))
  have inner : ∀ (n b h : Nat) (μ1 : am_M), b + n = 4 → h < 6 → an_un [148, 147, 141] μ μ1 → μ1 141 = an_al w T ls (4 * h + b) → (∀ μ2, an_un [148, 147, 141] μ μ2 → μ2 141 = an_al w T ls (4 * (h + 1)) → am_Ji L d 208 142 [some (.ref 140), some (.int x1), some (.int (nI T)), some (.int (nI (h + 1))), none, none] [] μ2 F) → am_Ji L d 208 151 [some (.ref 140), some (.int x1), some (.int (nI T)), some (.int (nI h)), some (.int (nI b)), none] [] μ1 F := by
    intro n
    induction n with
    | zero =>
      intro b h μ1 hb hh u1 k1 hx
      obtain rfl : b = 4 := by omega
      refine v_M_day_151 ?_
      rw [if_pos (nI_le (Nat.le_refl _) (by omega)), nI_add]
      exact hx μ1 u1 (by rw [k1, show 4 * (h + 1) = 4 * h + 4 by omega])
    | succ n ih =>
      intro b h μ1 hb hh u1 k1 hx
      refine v_M_day_151 ?_
      rw [if_neg (nI_ge (by omega) (by omega)), pk_mul, nI_add, nI_add, am_gd_in (by omega) (by omega), am_cl (by omega), nI_add, k1, show 3612 + 4 * h + b = 3612 + (4 * h + b) by omega]
      have es := an_al_s (w := w) (T := T) (ls := ls) (h := h) (b := b) (n := 4 * h + b) rfl (by omega)
      by_cases q : an_al w T ls (4 * h + b) (3612 + (4 * h + b)) = - nI 1
      · rw [if_neg (fun z => z q)]
        refine ⟨by omega, s_M_cryOf' (by omega) hh k1 (hc (4 * h + b) (by omega)) (fun μ2 u2 _ => ?_)⟩
        have u2' : an_un [148, 147, 141] μ μ2 := an_un_tr u1 u2 (fun _ z => z) (by simp)
        rw [an_bf]
        cases hcr : W_cry (an_al w T ls (4 * h + b)) T h (nI 1 <<< (nI b &&& 31)) ls with
        | true =>
          rw [if_pos ⟨q, hcr⟩] at es
          dsimp only
          rw [am_gd_in (by omega) (by omega)]
          intro μ3 e3
          refine ih (b + 1) h μ3 (by omega) hh (an_un_tr u2' (e3 ▸ an_un_w (by simp)) (fun _ z => z) (fun _ z => z)) ?_ hx
          rw [← Nat.add_assoc, es, e3, am_w_at, u2 141 (by decide), k1]
        | false =>
          rw [if_neg (fun z => by rw [hcr] at z; exact absurd z.2 (by decide))] at es
          refine ih (b + 1) h μ2 (by omega) hh u2' ?_ hx
          rw [← Nat.add_assoc, es, u2 141 (by decide), k1]
      · rw [if_pos q]
        rw [if_neg (fun z => q z.1)] at es
        refine ih (b + 1) h μ1 (by omega) hh u1 ?_ hx
        rw [← Nat.add_assoc, es]; exact k1
  have outer : ∀ (n h : Nat) (μ1 : am_M), h + n = 6 → an_un [148, 147, 141] μ μ1 → μ1 141 = an_al w T ls (4 * h) → am_Ji L d 208 142 [some (.ref 140), some (.int x1), some (.int (nI T)), some (.int (nI h)), none, none] [] μ1 F := by
    intro n
    induction n with
    | zero =>
      intro h μ1 hh u1 k1
      obtain rfl : h = 6 := by omega
      refine v_M_day_142 ?_
      rw [if_pos (nI_le (Nat.le_refl _) (by omega))]
      exact hF μ1 u1 k1
    | succ n ih =>
      intro h μ1 hh u1 k1
      refine v_M_day_142 ?_
      rw [if_neg (nI_ge (by omega) (by omega))]
      exact inner 4 0 h μ1 (by omega) (by omega) u1 k1 (fun μ7 u7 k7 => ih (h + 1) μ7 (by omega) u7 k7)
  exact outer 6 0 μ (by omega) an_un_rf hw
theorem an_led_w {w w' : an_W} {D : Nat} (h : an_led nb w D) (hw : ∀ j, (j < 282 ∨ 3640 ≤ j) → w' j = w j) : an_led nb w' D := by
  obtain ⟨h0, hN, hE, hW, hs, hq, hf, hbd⟩ := h
  have hc : an_cnt w' = an_cnt w := by unfold an_cnt; rw [hw 1 (by omega)]
  refine ⟨(hw 0 (by omega)).trans h0, by rw [hw 1 (by omega)]; exact hN, by rw [hw 9810 (by omega)]; exact hE, an_WT_w hW (fun j _ _ => hw j (by omega)), fun a b ha hb => by rw [hw _ (by omega), hw _ (by omega)]; exact hs a b ha hb, fun k hk => ?_, an_fe_c hf (hw 4 (by omega)) (fun j _ _ => hw j (by omega)), an_bd_c hbd (fun j hj => hw j (by omega))⟩
  rw [hc] at hk
  have := hq k hk
  unfold an_chq at this ⊢
  rw [hw (3640 + 12 * k + 0) (by omega), hw (3640 + 12 * k + 1) (by omega), hw (3640 + 12 * k + 2) (by omega), hw (3640 + 12 * k + 3) (by omega), hw (3640 + 12 * k + 4) (by omega), hw (3640 + 12 * k + 5) (by omega), hw (3640 + 12 * k + 6) (by omega), hw (3640 + 12 * k + 7) (by omega), hw (3640 + 12 * k + 8) (by omega), hw (3640 + 12 * k + 9) (by omega)]
  exact this
/-- a state's ledger -/
theorem an_S_led {o D : Nat} {w : an_W} {μ : am_M} (hS : an_S nb o w μ) (hD : w 0 = nI D) (hD9 : D < 90) : an_led nb w D := by
  obtain ⟨h1, h2, h3, h4, h5, h6, h7, h8, h9, h10, h11, h12, h13, h14, h15⟩ := hS
  refine ⟨hD, h1.2.1, h1.2.2.2.2, h2.1, h2.2.1, fun k hk => ?_, h7.1.2, h7.2⟩
  have := h5 k hk
  rw [hD, am_cl (by omega)] at this
  exact this
