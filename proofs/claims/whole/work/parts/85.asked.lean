/-! A morning: which cheques are asked for, the model. -/
/-- nothing but the list of the asked, and how many, is written -/
def an_ga (μ μ' : am_M) : Prop := an_un [140, 149] μ μ' ∧ ∀ f, f ≠ 23 → μ' 140 f = μ 140 f
theorem an_ga_tr {μ μ' μ'' : am_M} (h : an_ga μ μ') (h' : an_ga μ' μ'') : an_ga μ μ'' := ⟨an_un_tr h.1 h'.1 (fun _ q => q) (fun _ q => q), fun f hf => (h'.2 f hf).trans (h.2 f hf)⟩
theorem an_ga_1 {μ μ' : am_M} {i : Nat} {v : Int32} (e : μ' = am_w μ 149 i v) : an_ga μ μ' := ⟨e ▸ an_un_w (by simp), fun f _ => by rw [an_w_c e (by decide)]⟩
theorem an_ga_2 {μ μ' : am_M} {v : Int32} (e : μ' = am_w μ 140 23 v) : an_ga μ μ' := ⟨e ▸ an_un_w (by simp), fun f hf => an_w_o e hf⟩
theorem an_lim {L d : Nat} {F : am_M → Prop} {w : an_W} {ord : Int32} {b m k : Nat} (hd : 4 ≤ d) (hk : k < 150) (hm : m < 150) : ∀ (t s : List Nat) (μ1 : am_M), μ1 141 = w → μ1 140 23 = nI m → (∀ q ∈ t, q < 150) → s.length + t.length = m → an_nl (μ1 149) t → an_nb (μ1 149) (t.length + 1) s → (∀ μ2, an_ga μ1 μ2 → μ2 140 23 = nI (m + 1) → an_nl (μ2 149) (s ++ an_ins w ord k t) → am_Jv L d 205 7 [some (.ref 140), some (.int (nI b)), some (.int ord), some (.int (nI (k + 1))), none] [] μ2 F) → am_Jv L d 205 45 [some (.ref 140), some (.int (nI b)), some (.int ord), some (.int (nI k)), some (.int (nI t.length))] [] μ1 F := by
  intro t
  induction t with
  | nil =>
    intro s μ1 hw h23 hq hl hn hb h
    refine v_M_gathersAsked_45 ?_
    rw [if_pos (by decide), am_gd_in (by simp) (by omega), am_cl (by simp)]
    intro μ2 e2
    rw [an_w_c e2 (by decide), h23, nI_add, nI_add]
    intro μ3 e3
    refine h μ3 (an_ga_tr (an_ga_1 e2) (an_ga_2 e3)) (an_w_s e3) ?_
    rw [an_w_c e3 (by decide)]
    exact an_nb_end hn (an_w_s e2) (fun i hi => an_w_o e2 hi) s hb
  | cons p t ih =>
    intro s μ1 hw h23 hq hl hn hb h
    have hp := hq p (by simp)
    simp only [List.length_cons] at hl hb
    have stop : an_ah w ord k p = false → am_gd (am_inb (nI (p :: t).length) 150) (am_put (am_w μ1 149 (nI (p :: t).length).toNatClampNeg (nI k)) (fun μ2 => am_put (am_w μ2 140 23 (μ2 140 23 + nI 1)) (fun μ3 => am_Jv L d 205 7 [some (.ref 140), some (.int (nI b)), some (.int ord), some (.int (nI k + nI 1)), none] [] μ3 F))) := fun e => by
      rw [am_gd_in (by simp; omega) (by omega), am_cl (by simp; omega)]
      intro μ2 e2
      rw [an_w_c e2 (by decide), h23, nI_add, nI_add]
      intro μ3 e3
      refine h μ3 (an_ga_tr (an_ga_1 e2) (an_ga_2 e3)) (an_w_s e3) ?_
      rw [an_w_c e3 (by decide), an_ins, e]
      exact an_nb_end hn (an_w_s e2) (fun i hi => an_w_o e2 hi) s hb
    have go : an_ah w ord k p = true → am_gd (am_inb (nI t.length) 150) (am_gd (am_inb (nI (p :: t).length) 150) (am_put (am_w μ1 149 (nI (p :: t).length).toNatClampNeg (μ1 149 t.length)) (fun μ2 => am_Jv L d 205 45 [some (.ref 140), some (.int (nI b)), some (.int ord), some (.int (nI k)), some (.int (nI t.length))] [] μ2 F))) := fun e => by
      rw [am_gd_in (by omega) (by omega), am_gd_in (by simp; omega) (by omega), am_cl (by simp; omega)]
      intro μ2 e2
      refine ih (s ++ [p]) μ2 ((an_w_c e2 (by decide)).trans hw) (by rw [an_w_c e2 (by decide), h23]) (fun q z => hq q (by simp [z])) (by simp; omega) ?_ ?_ (fun μ3 u3 v3 h3 => ?_)
      · exact an_nl_c t hn.2 (fun i hi => an_w_o e2 (by simp; omega))
      · refine an_nb_snoc s hb ?_ (fun i hi => an_w_o e2 (by simp; omega))
        have := an_w_s e2
        simp only [List.length_cons] at this
        rw [this]
        exact hn.1
      · refine h μ3 (an_ga_tr (an_ga_1 e2) u3) v3 ?_
        rw [an_ins, e, cond_true]
        rw [List.append_assoc, List.singleton_append] at h3
        exact h3
    have x1 : nI (p :: t).length - nI 1 = nI t.length := by rw [List.length_cons, pk_sub (by omega)]; rfl
    have x2 : nI (p :: t).length + (- nI 1) = nI t.length := by rw [an_m1 (by simp)]; rfl
    refine v_M_gathersAsked_45 ?_
    rw [if_neg (nI_nle (by simp) (by simp; omega)), x1, x2, am_gd_in (by omega) (by omega), am_cl (by omega), hn.1, hw]
    simp only [am_dp (show 0 < d by omega), am_dp (show 0 < d - 1 by omega), pk_mul, nI_add, am_gd_in (show 3640 + 12 * k + 4 < 16120 by omega) (show 16120 ≤ 2147483648 by omega), am_gd_in (show 3640 + 12 * p + 4 < 16120 by omega) (show 16120 ≤ 2147483648 by omega), am_gd_in (show 3640 + 12 * k + 0 < 16120 by omega) (show 16120 ≤ 2147483648 by omega), am_gd_in (show 3640 + 12 * p + 0 < 16120 by omega) (show 16120 ≤ 2147483648 by omega), am_cl (show 3640 + 12 * k + 4 < 2147483648 by omega), am_cl (show 3640 + 12 * p + 4 < 2147483648 by omega), am_cl (show 3640 + 12 * k + 0 < 2147483648 by omega), am_cl (show 3640 + 12 * p + 0 < 2147483648 by omega)]
    rw [← hn.1]
    simp only [nI_add] at stop go
    by_cases o1 : ord = nI 1
    · rw [if_pos o1]
      by_cases q : w (3640 + 12 * k + 4) ≤ w (3640 + 12 * p + 4)
      · rw [if_pos q]
        exact stop (decide_eq_false (by rw [o1]; rintro (z | z | z); exact z.2 q; exact absurd z.1 (by decide); exact absurd z.1 (by decide)))
      · rw [if_neg q]
        exact go (decide_eq_true (Or.inl ⟨o1, q⟩))
    · rw [if_neg o1]
      by_cases o2 : ord = nI 2
      · rw [if_pos o2]
        by_cases q : w (3640 + 12 * p + 4) ≤ w (3640 + 12 * k + 4)
        · rw [if_pos q]
          exact stop (decide_eq_false (by rintro (z | z | z); exact o1 z.1; exact z.2 q; rw [o2] at z; exact absurd z.1 (by decide)))
        · rw [if_neg q]
          exact go (decide_eq_true (Or.inr (Or.inl ⟨o2, q⟩)))
      · rw [if_neg o2]
        by_cases o3 : ord = nI 3
        · rw [if_pos o3]
          by_cases q : w (3640 + 12 * p + 0) ≤ w (3640 + 12 * k + 0)
          · rw [if_pos q]
            exact stop (decide_eq_false (by rintro (z | z | z); exact o1 z.1; exact o2 z.1; exact z.2 q))
          · rw [if_neg q]
            exact go (decide_eq_true (Or.inr (Or.inr ⟨o3, q⟩)))
        · rw [if_neg o3]
          exact stop (decide_eq_false (by rintro (z | z | z); exact o1 z.1; exact o2 z.1; exact o3 z.1))
theorem s_M_gathersAsked {L d : Nat} {μ : am_M} {F : am_M → Prop} {w : an_W} {ord : Int32} {b : Nat} (hd : 4 ≤ d) (hw : μ 141 = w) (hN : an_N (w 1) 151) (hday : ∀ k, k < an_cnt w → w (3640 + 12 * k + 6) = 0 → ¬ w 0 ≤ w (3640 + 12 * k + 5)) (hF : ∀ μ', an_ga μ μ' → μ' 140 23 = nI (an_lst w b ord (an_cnt w)).length → an_nl (μ' 149) (an_lst w b ord (an_cnt w)) → F μ') : am_Cv L d 205 [.ref 140, .int (nI b), .int ord] μ F := by
  obtain ⟨eN, lN⟩ := an_cnt_e hN
  refine v_M_gathersAsked ?_
  intro μ0 e0
  suffices ∀ (n j : Nat) (μ1 : am_M), j + n = an_cnt w → an_ga μ μ1 → μ1 140 23 = nI (an_lst w b ord j).length → an_nl (μ1 149) (an_lst w b ord j) → am_Jv L d 205 7 [some (.ref 140), some (.int (nI b)), some (.int ord), some (.int (nI (j))), none] [] μ1 F from this (an_cnt w) 0 μ0 (by omega) (an_ga_2 e0) (an_w_s e0) trivial
  intro n
  induction n with
  | zero =>
    intro j μ1 hj u h23 h
    obtain rfl : j = an_cnt w := by omega
    refine v_M_gathersAsked_7 ?_
    rw [u.1 141 (by decide), hw, eN, if_pos (nI_le (Nat.le_refl _) (by omega))]
    exact hF μ1 u h23 h
  | succ n ih =>
    intro j μ1 hj u h23 h
    have w1 : μ1 141 = w := (u.1 141 (by decide)).trans hw
    obtain ⟨l1, l2⟩ := an_lst_l (w := w) (b := b) (ord := ord) j
    have skip : ¬ (w (3640 + 12 * j + 6) = 0 ∧ w (3640 + 12 * j + 7) = 0 ∧ w (3640 + 12 * j + 1) = nI b) → am_Jv L d 205 7 [some (.ref 140), some (.int (nI b)), some (.int ord), some (.int (nI (j + 1))), none] [] μ1 F := fun q => by
      have e : an_lst w b ord (j + 1) = an_lst w b ord j := by rw [an_lst, if_neg q]
      exact ih (j + 1) μ1 (by omega) u (by rw [e]; exact h23) (by rw [e]; exact h)
    refine v_M_gathersAsked_7 ?_
    rw [w1, eN, if_neg (nI_ge (by omega) (by omega))]
    simp (discharger := omega) only [am_dp, pk_mul, nI_add, am_gd_in, am_cl]
    by_cases q1 : w (3640 + 12 * j + 1) = nI b
    · rw [if_neg (fun z => z q1)]
      by_cases q6 : w (3640 + 12 * j + 6) = 0
      · rw [if_neg (fun z => z (by rw [q6, nI_0]))]
        by_cases q7 : w (3640 + 12 * j + 7) = 0
        · rw [if_neg (fun z => z q7), if_neg (hday j (by omega) q6), h23]
          have e : an_lst w b ord (j + 1) = an_ins w ord j (an_lst w b ord j) := by rw [an_lst, if_pos ⟨q6, q7, q1⟩]
          refine an_lim hd (by omega) (by omega) (an_lst w b ord j) [] μ1 w1 h23 (fun q z => by have := l2 q z; omega) (by simp) h trivial (fun μ2 u2 v2 h2 => ?_)
          exact ih (j + 1) μ2 (by omega) (an_ga_tr u u2) (by rw [e, (an_ins_l _).1]; exact v2) (by rw [e]; exact h2)
        · rw [if_pos q7]; exact skip (fun z => q7 z.2.1)
      · rw [if_pos (fun z => q6 (by rw [z, nI_0]))]; exact skip (fun z => q6 z.1)
    · rw [if_pos q1]; exact skip (fun z => q1 z.2.2)
