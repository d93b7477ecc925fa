/-! The room that nets. -/
variable {nb : Nat}
/-- gross, and each bank's net, of the first k cheques -/
def an_rst (w : an_W) (day : Int32) : Nat → Int32 × (Nat → Int32)
  | 0 => (nI 0, fun _ => nI 0)
  | k + 1 => if w (3640 + 12 * k + 6) = nI 1 ∧ w (3640 + 12 * k + 9) = day then ((an_rst w day k).1 + w (3640 + 12 * k + 4), upd (upd (an_rst w day k).2 (w (3640 + 12 * k + 3)).toNatClampNeg ((an_rst w day k).2 (w (3640 + 12 * k + 3)).toNatClampNeg + w (3640 + 12 * k + 4))) (w (3640 + 12 * k + 1)).toNatClampNeg (upd (an_rst w day k).2 (w (3640 + 12 * k + 3)).toNatClampNeg ((an_rst w day k).2 (w (3640 + 12 * k + 3)).toNatClampNeg + w (3640 + 12 * k + 4)) (w (3640 + 12 * k + 1)).toNatClampNeg - w (3640 + 12 * k + 4))) else an_rst w day k
def an_abs (x : Int32) : Int32 := if 0 ≤ x then x else -x
def W_gross (w : an_W) (day : Int32) : Int32 := (an_rst w day (an_cnt w)).1
def W_net (w : an_W) (day : Int32) : Nat → Int32 := (an_rst w day (an_cnt w)).2
def W_round (w : an_W) (day : Int32) : Int32 := W_gross w day - am_sum (fun i => an_abs (W_net w day i)) 4 / nI 2
/-- banks of the cheques -/
def an_bk (w : an_W) : Prop := ∀ k, k < an_cnt w → an_N (w (3640 + 12 * k + 1)) 4 ∧ an_N (w (3640 + 12 * k + 3)) 4
def an_nt (μ μ' : am_M) (g : Int32) (ne : Nat → Int32) : Prop := (∀ c, c ≠ 0 → c ≠ 139 → μ' c = μ c) ∧ (∀ f, f ≠ 12 → μ' 0 f = μ 0 f) ∧ μ' 0 12 = g ∧ (∀ i, i < 4 → μ' 139 i = ne i)
theorem s_netOut {L d : Nat} {μ : am_M} {F : am_M → Prop} {w : an_W} {day : Int32} (hd : 4 ≤ d) (hR : an_RL 58 w μ) (hN : an_N (w 1) 151) (hb : an_bk w) (hF : ∀ μ', an_nt μ μ' (W_gross w day) (W_net w day) → F μ') : am_Cv L d 142 [.ref 0, .int day] μ F := by
  obtain ⟨eN, lN⟩ := an_cnt_e hN
  obtain ⟨g1, g2, g3, -, -, -⟩ := id hR
  have loop : ∀ (n j : Nat) (μ1 : am_M), j + n = an_cnt w → an_nt μ μ1 (an_rst w day j).1 (an_rst w day j).2 → am_Jv L d 142 35 [some (.ref 0), some (.int day), some (.ref 58), some (.int (nI j)), none] [] μ1 F := by
    intro n
    induction n with
    | zero =>
      intro j μ1 hj hs
      obtain rfl : j = an_cnt w := by omega
      refine v_X_netOut_35 ?_
      rw [hs.1 58 (by decide) (by decide), g2, eN, if_pos (nI_le (Nat.le_refl _) (by omega))]
      exact hF μ1 hs
    | succ n ih =>
      intro j μ1 hj hs
      obtain ⟨s1, s2, s3, s4⟩ := id hs
      obtain ⟨⟨on, lo, eo⟩, ⟨at', la, ea⟩⟩ := hb j (by omega)
      have r59 : ∀ f, f < 10 → μ1 59 (j * 10 + f) = w (3640 + 12 * j + f) := fun f hf => by rw [s1 59 (by decide) (by decide)]; exact g3 j f (by omega) hf
      refine v_X_netOut_35 ?_
      rw [s1 58 (by decide) (by decide), g2, eN, if_neg (nI_ge (by omega) (by omega))]
      simp (discharger := omega) only [am_dp, pk_mul, nI_add, am_gd_in, am_cl]
      rw [r59 6 (by omega), r59 9 (by omega)]
      by_cases q1 : w (3640 + 12 * j + 6) = nI 1
      · rw [if_neg (fun z => z q1)]
        by_cases q2 : w (3640 + 12 * j + 9) = day
        · rw [if_neg (fun z => z q2), r59 4 (by omega)]
          intro μ2 e2
          have t59 : ∀ f, f < 10 → μ2 59 (j * 10 + f) = w (3640 + 12 * j + f) := fun f hf => by rw [an_w_c e2 (by decide)]; exact r59 f hf
          rw [t59 3 (by omega), ea, am_gd_in la (by omega), am_gd_in la (by omega), am_cl (by omega)]
          intro μ3 e3
          have v59 : ∀ f, f < 10 → μ3 59 (j * 10 + f) = w (3640 + 12 * j + f) := fun f hf => by rw [an_w_c e3 (by decide)]; exact t59 f hf
          rw [v59 1 (by omega), eo, am_gd_in lo (by omega), am_gd_in lo (by omega), am_cl (by omega)]
          intro μ4 e4
          refine ih (j + 1) μ4 (by omega) ?_
          have hst : an_rst w day (j + 1) = ((an_rst w day j).1 + w (3640 + 12 * j + 4), upd (upd (an_rst w day j).2 at' ((an_rst w day j).2 at' + w (3640 + 12 * j + 4))) on (upd (an_rst w day j).2 at' ((an_rst w day j).2 at' + w (3640 + 12 * j + 4)) on - w (3640 + 12 * j + 4))) := by
            rw [an_rst, if_pos ⟨q1, q2⟩, ea, eo, am_cl (by omega), am_cl (by omega)]
          rw [hst]
          refine ⟨fun c z1 z2 => by rw [an_w_c e4 z2, an_w_c e3 z2, an_w_c e2 z1]; exact s1 c z1 z2, fun f hf => by rw [an_w_c e4 (by decide), an_w_c e3 (by decide), an_w_o e2 hf]; exact s2 f hf, by rw [an_w_c e4 (by decide), an_w_c e3 (by decide), an_w_s e2, s3], fun i hi => ?_⟩
          have m3 : ∀ i, i < 4 → μ3 139 i = upd (an_rst w day j).2 at' ((an_rst w day j).2 at' + w (3640 + 12 * j + 4)) i := fun i hi => by
            rw [e3, am_w_at, an_w_c e2 (by decide), s4 at' la]
            by_cases q : i = at'
            · rw [q, pk_us, pk_us]
            · rw [pk_un q, pk_un q]; exact s4 i hi
          dsimp only
          rw [e4, am_w_at, m3 on lo]
          by_cases q : i = on
          · rw [q, pk_us, pk_us]
          · rw [pk_un q, pk_un q]; exact m3 i hi
        · rw [if_pos q2]
          refine ih (j + 1) μ1 (by omega) ?_
          rw [an_rst, if_neg (fun z => q2 z.2)]
          exact hs
      · rw [if_pos q1]
        refine ih (j + 1) μ1 (by omega) ?_
        rw [an_rst, if_neg (fun z => q1 z.1)]
        exact hs
  refine v_X_netOut ?_
  intro μ1 e1
  refine v_X_netOut_15 ?_
  rw [if_neg (by decide), am_gd_in (by omega) (by omega), am_cl (by omega), nI_add]
  intro μ2 e2
  refine v_X_netOut_15 ?_
  rw [if_neg (by decide), am_gd_in (by omega) (by omega), am_cl (by omega), nI_add]
  intro μ3 e3
  refine v_X_netOut_15 ?_
  rw [if_neg (by decide), am_gd_in (by omega) (by omega), am_cl (by omega), nI_add]
  intro μ4 e4
  refine v_X_netOut_15 ?_
  rw [if_neg (by decide), am_gd_in (by omega) (by omega), am_cl (by omega), nI_add]
  intro μ5 e5
  refine v_X_netOut_15 ?_
  rw [if_pos (by decide)]
  refine loop (an_cnt w) 0 μ5 (by omega) ⟨fun c z1 z2 => by rw [an_w_c e5 z2, an_w_c e4 z2, an_w_c e3 z2, an_w_c e2 z2, an_w_c e1 z1], fun f hf => by rw [an_w_c e5 (by decide), an_w_c e4 (by decide), an_w_c e3 (by decide), an_w_c e2 (by decide), an_w_o e1 hf], by rw [an_w_c e5 (by decide), an_w_c e4 (by decide), an_w_c e3 (by decide), an_w_c e2 (by decide), an_w_s e1]; rfl, fun i hi => ?_⟩
  show μ5 139 i = nI 0
  rcases (by omega : i = 0 ∨ i = 1 ∨ i = 2 ∨ i = 3) with rfl | rfl | rfl | rfl
  · rw [an_w_o e5 (by decide), an_w_o e4 (by decide), an_w_o e3 (by decide), an_w_s e2]
  · rw [an_w_o e5 (by decide), an_w_o e4 (by decide), an_w_s e3]
  · rw [an_w_o e5 (by decide), an_w_s e4]
  · rw [an_w_s e5]
theorem s_roundOfRoom {L d : Nat} {μ : am_M} {F : Int32 → am_M → Prop} {g : Int32} {ne : Nat → Int32} (hd : 4 ≤ d) (hg : μ 0 12 = g) (hn : ∀ i, i < 4 → μ 139 i = ne i) (hF : F (g - am_sum (fun i => an_abs (ne i)) 4 / nI 2) μ) : am_Ci L d 143 [.ref 0] μ F := by
  refine v_X_roundOfRoom ?_
  refine am_down (P := fun j => am_Ji L d 143 13 [some (.ref 0), some (.int (am_sum (fun i => an_abs (ne i)) j)), some (.ref 139), some (.int (nI 4)), some (.int (nI j)), none] [] μ F) (N := 4) ?_ ?_ 0 (Nat.zero_le _)
  · refine v_X_roundOfRoom_13 ?_
    rw [if_pos (nI_le (Nat.le_refl _) (by omega)), an_gdz (by omega) (by omega), hg]
    exact hF
  · intro j hj ih
    refine v_X_roundOfRoom_13 ?_
    rw [if_neg (nI_ge hj (by omega)), am_gd_in hj (by omega), an_gdd (by omega), am_cl (by omega), hn j hj, nI_add, Int32.zero_sub]
    exact ih
theorem s_M_room {L d : Nat} {μ : am_M} {F : Int32 → am_M → Prop} {w : an_W} {D e c : Nat} (hd : 4 ≤ d) (hw : μ 141 = w) (hD : w 0 = nI D) (hD9 : D < 90) (he : e ≤ D) (hc : c < 6) (hN : an_N (w 1) 151) (hb : an_bk w) (hF : ∀ μ', an_un [152] μ μ' → F (if c < 4 then W_net w (nI e) c else if c = 4 then W_gross w (nI e) else W_round w (nI e)) μ') : am_Ci L d 235 [.ref 140, .int (nI e), .int (nI c)] μ F := by
  obtain ⟨eN, lN⟩ := an_cnt_e hN
  have fin : ∀ (μ1 : am_M) (g : Int32) (ne : Nat → Int32), (∀ i, i < 4 → μ1 152 i = ne i) → (F (if c = 4 then g else g - am_sum (fun i => an_abs (ne i)) 4 / nI 2) μ1) → am_Ji L d 235 170 [some (.ref 140), none, some (.int (nI c)), some (.int g), some (.int (nI 0)), some (.int (nI 0))] [] μ1 F := by
    intro μ1 g ne hn hF
    refine am_down (P := fun j => am_Ji L d 235 170 [some (.ref 140), none, some (.int (nI c)), some (.int g), some (.int (am_sum (fun i => an_abs (ne i)) j)), some (.int (nI j))] [] μ1 F) (N := 4) ?_ ?_ 0 (Nat.zero_le _)
    · refine v_M_room_170 ?_
      rw [if_pos (nI_le (Nat.le_refl _) (by omega)), an_gdz (by omega) (by omega)]
      by_cases q : c = 4
      · rw [if_pos q] at hF
        rw [if_neg (fun z => z (by rw [q]))]
        exact hF
      · rw [if_neg q] at hF
        rw [if_pos (fun z => q ((nI_eq (by omega) (by omega)).mp z))]
        exact hF
    · intro j hj ih
      refine v_M_room_170 ?_
      rw [if_neg (nI_ge hj (by omega)), am_gd_in hj (by omega), am_cl (by omega), hn j hj]
      rw [am_sum] at ih
      unfold an_abs at ih
      by_cases q : 0 ≤ ne j
      · rw [if_pos q, am_gd_in hj (by omega), nI_add]
        rw [if_pos q] at ih
        exact ih
      · rw [if_neg q, am_gd_in hj (by omega), nI_add]
        rw [if_neg q] at ih
        exact ih
  have loop : ∀ (n j : Nat) (μ1 : am_M), j + n = an_cnt w → an_un [152] μ μ1 → (∀ i, i < 4 → μ1 152 i = (an_rst w (nI e) j).2 i) → am_Ji L d 235 54 [some (.ref 140), some (.int (nI e)), some (.int (nI c)), some (.int (an_rst w (nI e) j).1), some (.int (nI j)), none] [] μ1 F := by
    intro n
    induction n with
    | zero =>
      intro j μ1 hj hu hs
      obtain rfl : j = an_cnt w := by omega
      refine v_M_room_54 ?_
      rw [hu 141 (by decide), hw, eN, if_pos (nI_le (Nat.le_refl _) (by omega))]
      have := hF μ1 hu
      by_cases q : c < 4
      · rw [if_pos q] at this
        rw [if_neg (nI_ge q (by omega)), am_gd_in q (by omega), am_cl (by omega), hs c q]
        exact this
      · rw [if_neg q] at this
        rw [if_pos (nI_le (by omega) (by omega))]
        exact fin μ1 _ _ hs this
    | succ n ih =>
      intro j μ1 hj hu hs
      obtain ⟨⟨on, lo, eo⟩, ⟨at', la, ea⟩⟩ := hb j (by omega)
      have w1 : μ1 141 = w := (hu 141 (by decide)).trans hw
      refine v_M_room_54 ?_
      rw [w1, eN, if_neg (nI_ge (by omega) (by omega))]
      simp (discharger := omega) only [am_dp, pk_mul, nI_add, am_gd_in, am_cl, ea]
      by_cases q1 : w (3640 + 12 * j + 6) = nI 1
      · rw [if_neg (fun z => z q1)]
        by_cases q2 : w (3640 + 12 * j + 9) = nI e
        · rw [if_pos q2]
          intro μ2 e2
          have w2 : μ2 141 = w := (an_w_c e2 (by decide)).trans w1
          rw [w2, eo, am_gd_in lo (by omega), am_gd_in lo (by omega), am_cl (by omega)]
          intro μ3 e3
          have hst : an_rst w (nI e) (j + 1) = ((an_rst w (nI e) j).1 + w (3640 + 12 * j + 4), upd (upd (an_rst w (nI e) j).2 at' ((an_rst w (nI e) j).2 at' + w (3640 + 12 * j + 4))) on (upd (an_rst w (nI e) j).2 at' ((an_rst w (nI e) j).2 at' + w (3640 + 12 * j + 4)) on - w (3640 + 12 * j + 4))) := by
            rw [an_rst, if_pos ⟨q1, q2⟩, ea, eo, am_cl (by omega), am_cl (by omega)]
          have := ih (j + 1) μ3 (by omega) (an_un_tr (an_un_tr hu (e2 ▸ an_un_w (by simp)) (fun _ q => q) (fun _ q => q)) (e3 ▸ an_un_w (by simp)) (fun _ q => q) (fun _ q => q)) (by
            rw [hst]
            intro i hi
            have m2 : ∀ i, i < 4 → μ2 152 i = upd (an_rst w (nI e) j).2 at' ((an_rst w (nI e) j).2 at' + w (3640 + 12 * j + 4)) i := fun i hi => by
              rw [e2, am_w_at, hs at' la]
              by_cases q : i = at'
              · rw [q, pk_us, pk_us]
              · rw [pk_un q, pk_un q]; exact hs i hi
            dsimp only
            rw [e3, am_w_at, m2 on lo]
            by_cases q : i = on
            · rw [q, pk_us, pk_us]
            · rw [pk_un q, pk_un q]; exact m2 i hi)
          rw [hst] at this
          exact this
        · rw [if_neg q2]
          have := ih (j + 1) μ1 (by omega) hu (by rw [an_rst, if_neg (fun z => q2 z.2)]; exact hs)
          rw [an_rst, if_neg (fun z => q2 z.2)] at this
          exact this
      · rw [if_pos q1]
        have := ih (j + 1) μ1 (by omega) hu (by rw [an_rst, if_neg (fun z => q1 z.1)]; exact hs)
        rw [an_rst, if_neg (fun z => q1 z.1)] at this
        exact this
  refine v_M_room ?_
  rw [am_dp (by omega), if_neg (nI_nlt (by omega) (by omega)), hw, hD, if_neg (nI_nlt (by omega) (by omega)), am_dp (by omega), if_neg (nI_nlt (by omega) (by omega)), if_neg (nI_nlt (by omega) (by omega))]
  refine v_M_room_31 ?_
  rw [if_neg (by decide), am_gd_in (by omega) (by omega), am_cl (by omega), nI_add]
  intro μ2 e2
  refine v_M_room_31 ?_
  rw [if_neg (by decide), am_gd_in (by omega) (by omega), am_cl (by omega), nI_add]
  intro μ3 e3
  refine v_M_room_31 ?_
  rw [if_neg (by decide), am_gd_in (by omega) (by omega), am_cl (by omega), nI_add]
  intro μ4 e4
  refine v_M_room_31 ?_
  rw [if_neg (by decide), am_gd_in (by omega) (by omega), am_cl (by omega), nI_add]
  intro μ5 e5
  refine v_M_room_31 ?_
  rw [if_pos (by decide)]
  refine loop (an_cnt w) 0 μ5 (by omega) (fun c hc => by have hc : c ≠ 152 := by simpa using hc
                                                         rw [an_w_c e5 hc, an_w_c e4 hc, an_w_c e3 hc, an_w_c e2 hc]) (fun i hi => ?_)
  show μ5 152 i = nI 0
  rcases (by omega : i = 0 ∨ i = 1 ∨ i = 2 ∨ i = 3) with rfl | rfl | rfl | rfl
  · rw [an_w_o e5 (by decide), an_w_o e4 (by decide), an_w_o e3 (by decide), an_w_s e2]
  · rw [an_w_o e5 (by decide), an_w_o e4 (by decide), an_w_s e3]
  · rw [an_w_o e5 (by decide), an_w_s e4]
  · rw [an_w_s e5]
theorem an_nt_G {μ μ1 : am_M} {g : Int32} {ne : Nat → Int32} (hG : an_G nb μ) (h : an_nt μ μ1 g ne) : an_G nb μ1 := by
  obtain ⟨s1, s2, -, -⟩ := h
  refine an_G_of hG ?_ ⟨fun c hc => s1 c (by have := hc.1; omega) (by have := hc.2.1; omega), s1 _ (by decide) (by decide), s1 _ (by decide) (by decide), s1 _ (by decide) (by decide), s1 _ (by decide) (by decide), fun f hf => s2 f (by omega), fun f hf => by rw [s1 140 (by decide) (by decide)], by rw [s1 15 (by decide) (by decide)]⟩
  rw [s1 141 (by decide) (by decide)]
  exact an_S_c hG.1 (fun c hc => s1 c (by have := hc.1; omega) (by have := hc.2.1; omega))
theorem an_un_G {μ μ1 : am_M} {l : List Nat} (hG : an_G nb μ) (hu : an_un l μ μ1) (h : ∀ c, c ∈ l → ¬ an_kc 0 c ∧ ¬ an_kc 55 c ∧ ¬ c = 142 ∧ ¬ c = 1 ∧ ¬ c = 2 ∧ ¬ c = 146 ∧ ¬ c = 0 ∧ ¬ c = 140 ∧ ¬ c = 15 ∧ ¬ c = 141) : an_G nb μ1 := by
  refine an_G_of hG ?_ (an_rest0_un hu (fun c hc => by obtain ⟨-, q2, q3, q4, q5, q6, q7, q8, q9, -⟩ := h c hc; exact ⟨q2, q3, q4, q5, q6, q7, q8, q9⟩))
  rw [hu 141 (fun q => (h _ q).2.2.2.2.2.2.2.2.2 rfl)]
  exact an_S_c hG.1 (fun c hc => hu c (fun q => (h _ q).1 hc))
theorem an_k5_bk {o : Nat} {w : an_W} {μ : am_M} (h : an_k5 o w μ) : an_bk w := fun k hk => ⟨(h k hk).2.1, (h k hk).2.2.2.1⟩
theorem op_room {L d : Nat} {μ : am_M} {p1 p2 : Int32} {K : Int32 → Int32 → am_M → Prop} (hd : 30 ≤ d) (hG : an_G nb μ) (hK : ∀ r μ', an_G nb μ' → K r r μ') : am_Ci L d 124 [.ref 0, .int p1, .int p2] μ (fun r1 μ1 => am_Ci L d 235 [.ref 140, .int p1, .int p2] μ1 (fun r2 μ2 => K r1 r2 μ2)) := by
  have hS := hG.1
  generalize hw : μ 141 = w at hS
  obtain ⟨h1, h2, h3, h4, h5, h6, h7, h8, h9, h10, h11, h12, h13, h14, h15⟩ := id hS
  obtain ⟨hD, hN, hP, hKt, hE⟩ := id h1
  obtain ⟨eN, lN⟩ := an_cnt_e hN
  have hL : an_RL 58 w μ := h8
  have hC : an_RC 15 w μ := h9.1
  obtain ⟨D, lD, eD⟩ := hD
  have hbk := an_k5_bk h5
  rcases an_arg p1 (D + 1) (by omega) (by omega) with ⟨a1, a2⟩ | ⟨a1, a2, a3, a4⟩ | ⟨e, he, rfl⟩
  · refine v_X_room ?_
    simp (discharger := omega) only [am_dp, am_gd_in, am_gd_t, pk_mul, nI_add, am_cl, nI_pos, nI_nlt, nI_ge, nI_le, nI_lt, if_true, if_false, not_true_eq_false, not_false_eq_true, a1]
    refine v_M_room ?_
    simp (discharger := omega) only [am_dp, am_gd_in, am_gd_t, pk_mul, nI_add, am_cl, nI_pos, nI_nlt, nI_ge, nI_le, nI_lt, if_true, if_false, not_true_eq_false, not_false_eq_true, a2]
    exact hK _ _ hG
  · have a5 : nI D < p1 := a4
    refine v_X_room ?_
    simp (discharger := omega) only [am_dp, am_gd_in, am_gd_t, pk_mul, nI_add, am_cl, nI_pos, nI_nlt, nI_ge, nI_le, nI_lt, if_true, if_false, not_true_eq_false, not_false_eq_true, hL.1, eD, a1, a5]
    refine v_M_room ?_
    simp (discharger := omega) only [am_dp, am_gd_in, am_gd_t, pk_mul, nI_add, am_cl, nI_pos, nI_nlt, nI_ge, nI_le, nI_lt, if_true, if_false, not_true_eq_false, not_false_eq_true, hw, eD, a2, a5]
    exact hK _ _ hG
  · rcases an_arg p2 6 (by omega) (by omega) with ⟨b1, b2⟩ | ⟨b1, b2, b3, b4⟩ | ⟨c, hc, rfl⟩
    · refine v_X_room ?_
      simp (discharger := omega) only [am_dp, am_gd_in, am_gd_t, pk_mul, nI_add, am_cl, nI_pos, nI_nlt, nI_ge, nI_le, nI_lt, if_true, if_false, not_true_eq_false, not_false_eq_true, hL.1, eD, b1]
      refine v_M_room ?_
      simp (discharger := omega) only [am_dp, am_gd_in, am_gd_t, pk_mul, nI_add, am_cl, nI_pos, nI_nlt, nI_ge, nI_le, nI_lt, if_true, if_false, not_true_eq_false, not_false_eq_true, hw, eD, b2]
      exact hK _ _ hG
    · have b5 : nI 5 < p2 := b4
      have b6 : ¬ p2 ≤ nI 5 := Int32.not_le.mpr b5
      refine v_X_room ?_
      simp (discharger := omega) only [am_dp, am_gd_in, am_gd_t, pk_mul, nI_add, am_cl, nI_pos, nI_nlt, nI_ge, nI_le, nI_lt, if_true, if_false, not_true_eq_false, not_false_eq_true, hL.1, eD, b1, b6]
      refine v_M_room ?_
      simp (discharger := omega) only [am_dp, am_gd_in, am_gd_t, pk_mul, nI_add, am_cl, nI_pos, nI_nlt, nI_ge, nI_le, nI_lt, if_true, if_false, not_true_eq_false, not_false_eq_true, hw, eD, b2, b5]
      exact hK _ _ hG
    · refine v_X_room ?_
      rw [if_neg (nI_pos (by omega)), hL.1, eD, if_neg (nI_nlt (by omega) (by omega)), if_neg (nI_pos (by omega)), if_pos (nI_le (by omega) (by omega))]
      refine ⟨by omega, s_netOut (by omega) hL hN hbk (fun μ1 h1 => ?_)⟩
      have hG1 := an_nt_G hG h1
      have w1 : μ1 141 = w := (h1.1 141 (by decide) (by decide)).trans hw
      have goal : am_Ci L d 235 [.ref 140, .int (nI e), .int (nI c)] μ1 (fun r2 μ2 => K (if c < 4 then W_net w (nI e) c else if c = 4 then W_gross w (nI e) else W_round w (nI e)) r2 μ2) :=
        s_M_room (by omega) w1 eD lD (by omega) hc hN hbk (fun μ2 u2 => hK _ _ (an_un_G hG1 u2 (by intro c hc; simp at hc; unfold an_kc; omega)))
      by_cases q4 : c < 4
      · rw [if_pos q4] at goal
        rw [if_neg (nI_ge q4 (by omega)), am_gd_in q4 (by omega), am_cl (by omega), h1.2.2.2 c q4]
        exact goal
      · rw [if_neg q4] at goal
        rw [if_pos (nI_le (by omega) (by omega))]
        by_cases q5 : c = 4
        · rw [if_pos q5] at goal
          rw [if_neg (fun z => z (by rw [q5])), h1.2.2.1]
          exact goal
        · rw [if_neg q5] at goal
          rw [if_pos (fun z => q5 ((nI_eq (by omega) (by omega)).mp z))]
          exact ⟨by omega, s_roundOfRoom (by omega) h1.2.2.1 h1.2.2.2 goal⟩
theorem an_lgl {x y : Int64} : lg_cmp x y < 0 ↔ ¬ y < x ∧ ¬ x = y := by
  unfold lg_cmp
  by_cases h : x > y
  · rw [if_pos h]
    exact ⟨fun q => absurd q (by decide), fun q => absurd h q.1⟩
  · rw [if_neg h]
    by_cases h2 : x = y
    · rw [if_pos h2]
      exact ⟨fun q => absurd q (by decide), fun q => absurd h2 q.2⟩
    · rw [if_neg h2]
      exact ⟨fun _ => ⟨h, h2⟩, fun _ => by decide⟩
/-- the first day of d, d + 1 .. (n of them) on which the room sees enough -/
def an_seen (w : an_W) (part : Int32) : Nat → Nat → Int32
  | 0, _ => - nI 1
  | n + 1, d => if W_gross w (nI d) ≤ 0 then an_seen w part n (d + 1) else if lg_cmp ((W_round w (nI d)).toInt64 * lN 1000) ((W_gross w (nI d)).toInt64 * part.toInt64) < 0 then an_seen w part n (d + 1) else nI d
theorem an_seen_x {L d : Nat} {F : Int32 → am_M → Prop} {part : Int32} {w : an_W} {D : Nat} (hd : 8 ≤ d) (hD9 : D < 90) (hbk : an_bk w) (hN : an_N (w 1) 151) (hwD : w 0 = nI D) : ∀ (n e : Nat) (μ : am_M), e + n = D + 1 → an_G nb μ → μ 141 = w → (∀ μ', an_G nb μ' → μ' 141 = w → F (an_seen w part n e) μ') → am_Ji L d 125 16 [some (.ref 0), some (.int part), some (.int (nI e))] [] μ F := by
  intro n
  induction n with
  | zero =>
    intro e μ he hG hw hF
    have hR : an_RL 58 w μ := by have := hG.1.2.2.2.2.2.2.2.1; rw [hw] at this; exact this
    refine v_X_seen_16 ?_
    rw [hR.1, hwD, if_pos (nI_lt (by omega) (by omega))]
    exact hF μ hG hw
  | succ n ih =>
    intro e μ he hG hw hF
    have hR : an_RL 58 w μ := by have := hG.1.2.2.2.2.2.2.2.1; rw [hw] at this; exact this
    refine v_X_seen_16 ?_
    rw [hR.1, hwD, if_neg (nI_nlt (by omega) (by omega))]
    refine ⟨by omega, s_netOut (by omega) hR hN hbk (fun μ1 h1 => ?_)⟩
    have hG1 := an_nt_G hG h1
    have w1 : μ1 141 = w := (h1.1 141 (by decide) (by decide)).trans hw
    rw [h1.2.2.1]
    rw [an_seen] at hF
    by_cases q1 : W_gross w (nI e) ≤ 0
    · rw [if_pos q1, nI_add]
      rw [if_pos q1] at hF
      exact ih (e + 1) μ1 (by omega) hG1 w1 hF
    · rw [if_neg q1]
      rw [if_neg q1] at hF
      refine ⟨by omega, s_roundOfRoom (by omega) h1.2.2.1 h1.2.2.2 ?_⟩
      rw [h1.2.2.1]
      show if lg_cmp ((W_round w (nI e)).toInt64 * lN 1000) ((W_gross w (nI e)).toInt64 * part.toInt64) < 0 then _ else _
      by_cases q2 : lg_cmp ((W_round w (nI e)).toInt64 * lN 1000) ((W_gross w (nI e)).toInt64 * part.toInt64) < 0
      · rw [if_pos q2, nI_add]
        rw [if_pos q2] at hF
        exact ih (e + 1) μ1 (by omega) hG1 w1 hF
      · rw [if_neg q2]
        rw [if_neg q2] at hF
        exact hF μ1 hG1 w1
theorem an_seen_m {L d : Nat} {F : Int32 → am_M → Prop} {part : Int32} {w : an_W} {D : Nat} (hd : 8 ≤ d) (hD9 : D < 90) (hbk : an_bk w) (hN : an_N (w 1) 151) (hwD : w 0 = nI D) : ∀ (n e : Nat) (μ : am_M), e + n = D + 1 → an_G nb μ → μ 141 = w → (∀ μ', an_G nb μ' → F (an_seen w part n e) μ') → am_Ji L d 236 15 [some (.ref 140), some (.int part), some (.int (nI e)), none] [] μ F := by
  intro n
  induction n with
  | zero =>
    intro e μ he hG hw hF
    refine v_M_seen_15 ?_
    rw [hw, hwD, if_pos (nI_lt (by omega) (by omega))]
    exact hF μ hG
  | succ n ih =>
    intro e μ he hG hw hF
    refine v_M_seen_15 ?_
    rw [hw, hwD, if_neg (nI_nlt (by omega) (by omega))]
    refine ⟨by omega, s_M_room (by omega) hw hwD hD9 (by omega) (by omega) hN hbk (fun μ1 u1 => ?_)⟩
    have hG1 : an_G nb μ1 := an_un_G hG u1 (by intro c hc; simp at hc; unfold an_kc; omega)
    have w1 : μ1 141 = w := (u1 141 (by decide)).trans hw
    rw [show (if 4 < 4 then W_net w (nI e) 4 else if 4 = 4 then W_gross w (nI e) else W_round w (nI e)) = W_gross w (nI e) from by rw [if_neg (by omega), if_pos rfl]]
    rw [an_seen] at hF
    by_cases q1 : W_gross w (nI e) ≤ 0
    · rw [if_pos q1, nI_add]
      rw [if_pos q1] at hF
      exact ih (e + 1) μ1 (by omega) hG1 w1 hF
    · rw [if_neg q1]
      rw [if_neg q1] at hF
      refine ⟨by omega, s_M_room (by omega) w1 hwD hD9 (by omega) (by omega) hN hbk (fun μ2 u2 => ?_)⟩
      have hG2 : an_G nb μ2 := an_un_G hG1 u2 (by intro c hc; simp at hc; unfold an_kc; omega)
      have w2 : μ2 141 = w := (u2 141 (by decide)).trans w1
      rw [show (if 5 < 4 then W_net w (nI e) 5 else if 5 = 4 then W_gross w (nI e) else W_round w (nI e)) = W_round w (nI e) from by rw [if_neg (by omega), if_neg (by omega)], Int64.mul_comm (lN 1000)]
      by_cases q2 : lg_cmp ((W_round w (nI e)).toInt64 * lN 1000) ((W_gross w (nI e)).toInt64 * part.toInt64) < 0
      · rw [if_pos q2, nI_add]
        rw [if_pos q2] at hF
        exact ih (e + 1) μ2 (by omega) hG2 w2 hF
      · rw [if_neg q2]
        rw [if_neg q2] at hF
        exact hF μ2 hG2
theorem op_seen {L d : Nat} {μ : am_M} {p1 : Int32} {K : Int32 → Int32 → am_M → Prop} (hd : 30 ≤ d) (hG : an_G nb μ) (hK : ∀ r μ', an_G nb μ' → K r r μ') : am_Ci L d 125 [.ref 0, .int p1] μ (fun r1 μ1 => am_Ci L d 236 [.ref 140, .int p1] μ1 (fun r2 μ2 => K r1 r2 μ2)) := by
  have hS := hG.1
  generalize hw : μ 141 = w at hS
  obtain ⟨h1, h2, h3, h4, h5, h6, h7, h8, h9, h10, h11, h12, h13, h14, h15⟩ := id hS
  obtain ⟨hD, hN, hP, hKt, hE⟩ := id h1
  obtain ⟨eN, lN⟩ := an_cnt_e hN
  have hL : an_RL 58 w μ := h8
  have hC : an_RC 15 w μ := h9.1
  obtain ⟨D, lD, eD⟩ := hD
  have hbk := an_k5_bk h5
  by_cases c1 : p1 < nI 1
  · refine v_X_seen ?_
    rw [if_pos c1]
    refine v_M_seen ?_
    rw [am_dp (by omega), if_pos c1]
    exact hK _ _ hG
  · by_cases c2 : nI 1000 < p1
    · refine v_X_seen ?_
      rw [if_neg c1, if_neg (Int32.not_le.mpr c2)]
      refine v_M_seen ?_
      rw [am_dp (by omega), if_neg c1, if_pos c2]
      exact hK _ _ hG
    · refine v_X_seen ?_
      rw [if_neg c1, if_pos (Int32.not_lt.mp c2)]
      refine an_seen_x (w := w) (by omega) lD hbk hN eD (D + 1) 0 μ (by omega) hG hw (fun μ1 hG1 w1 => ?_)
      refine v_M_seen ?_
      rw [am_dp (by omega), if_neg c1, if_neg c2]
      exact an_seen_m (w := w) (by omega) lD hbk hN eD (D + 1) 0 μ1 (by omega) hG1 w1 (fun μ2 hG2 => hK _ _ hG2)
