/-! payFloat, the call. -/
variable {nb : Nat}
theorem s_M_pf {L d : Nat} {μ : am_M} {F : Int32 → am_M → Prop} {w : an_W} {h n j : Nat} {ls : Bool} (hd : 11 ≤ d) (hh : h < 6) (hp : an_pok w n) (hT : an_WT w) (hN : an_N (w 1) 151) (hm : μ 141 = w) (hj : j < 2 ∨ j % 10 < n) (hj9 : j < 26) (hls : ls = true ↔ (j = 1 ∨ 20 ≤ j))
    (hF : ∀ μ' r, an_un [152] μ μ' → (an_bst w h n ls (4 ^ n) = none ∧ r = - nI 1 ∨ ∃ b v, an_bst w h n ls (4 ^ n) = some (b, v) ∧ b < 4 ^ n ∧ v < 3000001 ∧ r = if j < 2 then nI v else nI (an_bo n b (j % 10))) → F r μ') :
    am_Ji L d 234 51 [some (.ref 140), some (.int (nI h)), some (.int (nI j)), some (.int (nI n)), none, none, none, none, none] [] μ F := by
  have hn := hp.1
  obtain ⟨e4, l4⟩ := an_4p n hn
  have neg : ∀ a, a < 2147483648 → ¬ nI a = - nI 1 := fun a ha z => by
    have := nI_pos ha
    rw [z] at this
    exact this (by decide)
  have main : am_Ji L d 234 69 [some (.ref 140), some (.int (nI h)), some (.int (nI j)), some (.int (nI n)), some (.int (an_b ls)), none, none, none, none] [] μ F := by
    refine s_M_ways (ls := ls) (by omega) hh hp hT hN hm (fun μ' x5 x6 u c => ?_)
    by_cases q : j < 2
    · rw [if_pos (nI_lt q (by omega))]
      refine v_M_payFloat_159 (hF μ' x6 u ?_)
      rcases c with ⟨c1, _, c3⟩ | ⟨b, v, c1, c2, c3, c4, c5⟩
      · exact Or.inl ⟨c1, c3⟩
      · exact Or.inr ⟨b, v, c1, c4, c5, by rw [if_pos q]; exact c3⟩
    · rw [if_neg (nI_nlt (by omega) (by omega))]
      rcases c with ⟨c1, c2, c3⟩ | ⟨b, v, c1, c2, c3, c4, c5⟩
      · rw [if_neg (fun z => z c2)]
        exact v_M_payFloat_159 (hF μ' x6 u (Or.inl ⟨c1, c3⟩))
      · rw [c2, if_pos (neg _ (by omega)), an_gdz (by omega) (by omega), an_rem (by omega) (by omega) (by omega), an_bo_e (by omega) hn (by omega)]
        exact hF μ' _ u (Or.inr ⟨b, v, c1, c4, c5, by rw [if_neg q]⟩)
  refine v_M_payFloat_51 ?_
  by_cases q1 : j = 1
  · rw [if_pos (by rw [q1])]
    rw [hls.mpr (Or.inl q1)] at main
    exact v_M_payFloat_62 main
  · rw [if_neg (fun z => q1 ((nI_eq (by omega) (by omega)).mp z))]
    by_cases q2 : j < 20
    · rw [if_pos (nI_lt q2 (by omega))]
      have : ls = false := by
        cases ls with
        | false => rfl
        | true => have := hls.mp rfl; omega
      rw [this] at main
      exact main
    · rw [if_neg (nI_nlt (by omega) (by omega))]
      rw [hls.mpr (Or.inr (by omega))] at main
      exact v_M_payFloat_62 main
theorem op_payFloat {L d : Nat} {μ : am_M} {p1 p2 : Int32} {K : Int32 → Int32 → am_M → Prop} (hd : 30 ≤ d) (hG : an_G nb μ) (hK : ∀ r μ', an_G nb μ' → K r r μ') : am_Ci L d 123 [.ref 0, .int p1, .int p2] μ (fun r1 μ1 => am_Ci L d 234 [.ref 140, .int p1, .int p2] μ1 (fun r2 μ2 => K r1 r2 μ2)) := by
  have hS := hG.1
  generalize hw : μ 141 = w at hS
  obtain ⟨h1, h2, h3, h4, h5, h6, h7, h8, h9, h10, h11, h12, h13, h14, h15⟩ := id hS
  obtain ⟨hD, hN, hP, hKt, hE⟩ := id h1
  have hL : an_RL 58 w μ := h8
  have hC : an_RC 15 w μ := h9.1
  have hT := h2.1
  have hX : an_pX w μ := h13
  obtain ⟨n, hp⟩ := an_k6_pok hP h6
  have hn := hp.1
  rcases an_arg p1 6 (by omega) (by omega) with ⟨a1, a2⟩ | ⟨a1, a2, a3, a4⟩ | ⟨h, hh, rfl⟩
  · refine v_X_payFloat ?_
    rw [am_dp (by omega), if_pos a1]
    refine v_M_payFloat ?_
    rw [am_dp (by omega), am_dp (by omega), if_pos a2]
    exact hK _ _ hG
  · have a5 : nI 5 < p1 := a4
    refine v_X_payFloat ?_
    rw [am_dp (by omega), if_neg a1, if_pos a3]
    refine v_M_payFloat ?_
    rw [am_dp (by omega), am_dp (by omega), if_neg a2, if_pos a5]
    exact hK _ _ hG
  refine v_X_payFloat ?_
  rw [am_dp (by omega), if_neg (nI_pos (by omega)), if_neg (nI_ge (by omega) (by omega))]
  refine ⟨by omega, s_Ways_search (by omega) hh hp hX hT hC hL hN (fun μ1 r u1 c1 => ?_)⟩
  have hG1 := an_un_G hG u1 (by intro c hc; simp at hc; unfold an_kc; omega)
  have w1 : μ1 141 = w := (u1 141 (by decide)).trans hw
  have n1 : μ1 14 7 = nI n := by rw [u1 14 (by decide), hX.2, hp.2.1]
  rw [n1, nI_add, nI_add]
  -- refused
  have m0 : ∀ {G : Int32 → am_M → Prop}, (p2 < nI 0 ∨ nI 25 < p2 ∨ ∃ j, p2 = nI j ∧ 2 ≤ j ∧ j < 26 ∧ ¬ (10 ≤ j ∧ j < 10 + n) ∧ ¬ (20 ≤ j ∧ j < 20 + n)) → G (- nI 1) μ1 → am_Ci L d 234 [.ref 140, .int (nI h), .int p2] μ1 G := by
    intro G hb hG2
    refine v_M_payFloat ?_
    rw [am_dp (by omega), am_dp (by omega), if_neg (nI_nlt (by omega) (by omega)), if_neg (nI_nlt (by omega) (by omega)), w1, hp.2.1, am_dp (by omega)]
    simp only [nI_add]
    rcases hb with q | q | ⟨j, rfl, j1, j2, j3, j4⟩
    · rw [if_pos q, am_dp (by omega), if_pos (Int32.lt_trans q (nI_lt (by omega) (by omega))), am_dp (by omega), if_pos (Int32.lt_trans q (nI_lt (by omega) (by omega)))]
      exact hG2
    · have g : ∀ a, a ≤ 25 → ¬ p2 < nI a := fun a ha z => absurd (Int32.lt_trans q z) (nI_nlt ha (by omega))
      have g2 : ∀ a, a ≤ 25 → nI a < p2 := fun a ha => Int32.lt_of_le_of_lt (nI_le ha (by omega)) q
      rw [if_neg (g 0 (by omega)), if_pos (g2 1 (by omega)), am_dp (by omega), if_neg (g 10 (by omega)), if_pos (g2 _ (by omega)), am_dp (by omega), if_neg (g 20 (by omega)), if_pos (g2 _ (by omega))]
      exact hG2
    · rw [if_neg (nI_nlt (by omega) (by omega)), if_pos (nI_lt (by omega) (by omega)), am_dp (by omega)]
      by_cases q1 : j < 10
      · rw [if_pos (nI_lt q1 (by omega)), am_dp (by omega), if_pos (nI_lt (by omega) (by omega))]
        exact hG2
      · rw [if_neg (nI_nlt (by omega) (by omega)), if_pos (nI_lt (by omega) (by omega)), am_dp (by omega)]
        by_cases q2 : j < 20
        · rw [if_pos (nI_lt q2 (by omega))]
          exact hG2
        · rw [if_neg (nI_nlt (by omega) (by omega)), if_pos (nI_lt (by omega) (by omega))]
          exact hG2
  by_cases hb : p2 < nI 0 ∨ nI 25 < p2 ∨ ∃ j, p2 = nI j ∧ 2 ≤ j ∧ j < 26 ∧ ¬ (10 ≤ j ∧ j < 10 + n) ∧ ¬ (20 ≤ j ∧ j < 20 + n)
  · have fin := m0 (G := fun r2 μ2 => K (- nI 1) r2 μ2) hb (hK _ _ hG1)
    by_cases hr : r = 0
    · rw [if_neg (fun z => z hr)]
      exact fin
    · rw [if_pos hr]
      rcases hb with q | q | ⟨j, rfl, j1, j2, j3, j4⟩
      · have e0 : ¬ p2 = 0 := fun z => by rw [z] at q; exact absurd q (by decide)
        have e1 : ¬ p2 = nI 1 := fun z => by rw [z] at q; exact absurd q (by decide)
        rw [if_pos e0, if_pos e1, if_pos (Int32.lt_trans q (nI_lt (by omega) (by omega))), if_pos (Int32.lt_trans q (nI_lt (by omega) (by omega)))]
        exact fin
      · have g : ∀ a, a ≤ 25 → ¬ p2 < nI a := fun a ha z => absurd (Int32.lt_trans q z) (nI_nlt ha (by omega))
        have g2 : ∀ a, a ≤ 26 → nI a ≤ p2 := fun a ha => by
          rw [Int32.lt_iff_toInt_lt, nI_toInt (by omega)] at q
          rw [Int32.le_iff_toInt_le, nI_toInt (by omega)]
          omega
        have e0 : ¬ p2 = 0 := fun z => by rw [z] at q; exact absurd q (by decide)
        have e1 : ¬ p2 = nI 1 := fun z => by rw [z] at q; exact absurd q (by decide)
        rw [if_pos e0, if_pos e1, if_neg (g 10 (by omega)), if_pos (g2 _ (by omega)), if_neg (g 20 (by omega)), if_pos (g2 _ (by omega))]
        exact fin
      · have e1 : ¬ nI j = nI 1 := fun z => by have := (nI_eq (by omega) (by omega)).mp z; omega
        rw [if_pos (nI_ne0 (by omega) (by omega)), if_pos e1]
        by_cases q1 : j < 10
        · rw [if_pos (nI_lt q1 (by omega)), if_pos (nI_lt (by omega) (by omega))]
          exact fin
        · rw [if_neg (nI_nlt (by omega) (by omega)), if_pos (nI_le (by omega) (by omega))]
          by_cases q2 : j < 20
          · rw [if_pos (nI_lt q2 (by omega))]
            exact fin
          · rw [if_neg (nI_nlt (by omega) (by omega)), if_pos (nI_le (by omega) (by omega))]
            exact fin
  -- asked as it should be
  obtain ⟨j, ej, hj, j9⟩ : ∃ j, p2 = nI j ∧ (j < 2 ∨ (10 ≤ j ∧ j < 10 + n) ∨ (20 ≤ j ∧ j < 20 + n)) ∧ j < 26 := by
    rcases an_arg p2 26 (by omega) (by omega) with ⟨a1, a2⟩ | ⟨a1, a2, a3, a4⟩ | ⟨j, hj, e⟩
    · exact absurd (Or.inl a2) hb
    · exact absurd (Or.inr (Or.inl a4)) hb
    · refine ⟨j, e, ?_, hj⟩
      rcases (by omega : (j < 2 ∨ (10 ≤ j ∧ j < 10 + n) ∨ (20 ≤ j ∧ j < 20 + n)) ∨ (2 ≤ j ∧ ¬ (10 ≤ j ∧ j < 10 + n) ∧ ¬ (20 ≤ j ∧ j < 20 + n))) with q | q
      · exact q
      · exact absurd (Or.inr (Or.inr ⟨j, e, q.1, hj, q.2.1, q.2.2⟩)) hb
  subst ej
  have mgo : ∀ (ls : Bool), (ls = true ↔ (j = 1 ∨ 20 ≤ j)) → ∀ {G : Int32 → am_M → Prop}, (∀ μ' r, an_un [152] μ1 μ' → (an_bst w h n ls (4 ^ n) = none ∧ r = - nI 1 ∨ ∃ b v, an_bst w h n ls (4 ^ n) = some (b, v) ∧ b < 4 ^ n ∧ v < 3000001 ∧ r = if j < 2 then nI v else nI (an_bo n b (j % 10))) → G r μ') → am_Ci L d 234 [.ref 140, .int (nI h), .int (nI j)] μ1 G := by
    intro ls hls G hG2
    have fin := s_M_pf (L := L) (d := d) (μ := μ1) (F := G) (ls := ls) (by omega) hh hp hT hN w1 (j := j) (by omega) j9 hls hG2
    refine v_M_payFloat ?_
    rw [am_dp (by omega), am_dp (by omega), if_neg (nI_nlt (by omega) (by omega)), if_neg (nI_nlt (by omega) (by omega)), w1, hp.2.1, am_dp (by omega), if_neg (nI_nlt (by omega) (by omega))]
    simp only [nI_add]
    by_cases q1 : j < 2
    · rw [if_neg (nI_nlt (by omega) (by omega))]
      exact fin
    · rw [if_pos (nI_lt (by omega) (by omega)), am_dp (by omega), if_neg (nI_nlt (by omega) (by omega))]
      by_cases q2 : j < 20
      · rw [if_neg (nI_nlt (by omega) (by omega))]
        exact fin
      · rw [if_pos (nI_lt (by omega) (by omega)), am_dp (by omega), if_neg (nI_nlt (by omega) (by omega)), if_neg (nI_nlt (by omega) (by omega))]
        exact fin
  obtain ⟨e4, l4⟩ := an_4p n hn
  have G2 : ∀ μ', an_un [152] μ1 μ' → an_G nb μ' := fun μ' u => an_un_G hG1 u (by intro c hc; simp at hc; unfold an_kc; omega)
  rcases c1 with ⟨z1, z2, rfl⟩ | ⟨⟨b, v, s1, s2, s3, s4, s5⟩, ⟨b', v', t1, t2, t3, t4, t5⟩, rfl⟩
  · rw [if_neg (fun z => z (by decide))]
    refine mgo (decide (j = 1 ∨ 20 ≤ j)) (by simp) (fun μ' r u hr => ?_)
    have zz : an_bst w h n (decide (j = 1 ∨ 20 ≤ j)) (4 ^ n) = none := by
      cases decide (j = 1 ∨ 20 ≤ j) with
      | true => exact z2
      | false => exact z1
    rw [zz] at hr
    rcases hr with ⟨_, hr⟩ | ⟨_, _, hr, _⟩
    · rw [hr]; exact hK _ _ (G2 μ' u)
    · cases hr
  · rw [if_pos (by decide), s2, t2, s3, t3]
    have mM : ∀ {G : Int32 → am_M → Prop}, ¬ (j = 1 ∨ 20 ≤ j) → (∀ μ', an_un [152] μ1 μ' → G (if j < 2 then nI v else nI (an_bo n b (j % 10))) μ') → am_Ci L d 234 [.ref 140, .int (nI h), .int (nI j)] μ1 G := by
      intro G hq hG2
      refine mgo false ⟨fun z => Bool.noConfusion z, fun z => absurd z hq⟩ (fun μ' r u hr => ?_)
      rw [s1] at hr
      rcases hr with ⟨hr, _⟩ | ⟨b2, v2, hr, _, _, hr2⟩
      · cases hr
      · cases hr; rw [hr2]; exact hG2 μ' u
    have mL : ∀ {G : Int32 → am_M → Prop}, (j = 1 ∨ 20 ≤ j) → (∀ μ', an_un [152] μ1 μ' → G (if j < 2 then nI v' else nI (an_bo n b' (j % 10))) μ') → am_Ci L d 234 [.ref 140, .int (nI h), .int (nI j)] μ1 G := by
      intro G hq hG2
      refine mgo true ⟨fun _ => hq, fun _ => rfl⟩ (fun μ' r u hr => ?_)
      rw [t1] at hr
      rcases hr with ⟨hr, _⟩ | ⟨b2, v2, hr, _, _, hr2⟩
      · cases hr
      · cases hr; rw [hr2]; exact hG2 μ' u
    by_cases q0 : j = 0
    · rw [if_neg (fun z => z (by rw [q0]; exact nI_0))]
      refine mM (by omega) (fun μ' u => ?_)
      rw [if_pos (by omega)]
      exact hK _ _ (G2 μ' u)
    rw [if_pos (nI_ne0 (by omega) (by omega))]
    by_cases q1 : j = 1
    · rw [if_neg (fun z => z (by rw [q1]))]
      refine mL (by omega) (fun μ' u => ?_)
      rw [if_pos (by omega)]
      exact hK _ _ (G2 μ' u)
    rw [if_pos (fun z => q1 ((nI_eq (by omega) (by omega)).mp z)), if_neg (nI_nlt (by omega) (by omega))]
    by_cases q2 : j < 20
    · rw [if_neg (nI_ge (by omega) (by omega)), am_dp (by omega), pk_sub (a := j) (b := 10) (by omega), an_bo_e (by omega) hn (by omega), show j - 10 = j % 10 by omega]
      refine mM (by omega) (fun μ' u => ?_)
      rw [if_neg (by omega)]
      exact hK _ _ (G2 μ' u)
    · rw [if_pos (nI_le (by omega) (by omega)), if_neg (nI_nlt (by omega) (by omega)), if_neg (nI_ge (by omega) (by omega)), am_dp (by omega), pk_sub (a := j) (b := 20) (by omega), an_bo_e (by omega) hn (by omega), show j - 20 = j % 10 by omega]
      refine mL (by omega) (fun μ' u => ?_)
      rw [if_neg (by omega)]
      exact hK _ _ (G2 μ' u)
