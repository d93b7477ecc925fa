/-! A morning: which cheques are asked for, in their order. -/
/-- numbers in a row, the last one the list's first -/
def an_nl (row : Nat → Int32) : List Nat → Prop
  | [] => True
  | p :: t => row t.length = nI p ∧ an_nl row t
/-- the same, from base on -/
def an_nb (row : Nat → Int32) (base : Nat) : List Nat → Prop
  | [] => True
  | p :: t => row (base + t.length) = nI p ∧ an_nb row base t
theorem an_nl_c {row row' : Nat → Int32} : ∀ (t : List Nat), an_nl row t → (∀ i, i < t.length → row' i = row i) → an_nl row' t := by
  intro t
  induction t with
  | nil => intro _ _; trivial
  | cons p t ih =>
    intro h e
    exact ⟨by rw [e _ (by simp)]; exact h.1, ih h.2 (fun i hi => e i (by simp; omega))⟩
theorem an_nb_snoc {row row' : Nat → Int32} {base p : Nat} : ∀ (s : List Nat), an_nb row (base + 1) s → row' base = nI p → (∀ i, base < i → row' i = row i) → an_nb row' base (s ++ [p]) := by
  intro s
  induction s with
  | nil => intro _ h _; exact ⟨h, trivial⟩
  | cons q s ih =>
    intro h h0 e
    refine ⟨?_, ih h.2 h0 e⟩
    show row' (base + (s ++ [p]).length) = nI q
    rw [List.length_append, List.length_singleton, e _ (by omega), show base + (s.length + 1) = base + 1 + s.length by omega]
    exact h.1
theorem an_nb_end {row row' : Nat → Int32} {k : Nat} {t : List Nat} (ht : an_nl row t) (hk : row' t.length = nI k) (e : ∀ i, i ≠ t.length → row' i = row i) : ∀ (s : List Nat), an_nb row (t.length + 1) s → an_nl row' (s ++ k :: t) := by
  intro s
  induction s with
  | nil => intro _; exact ⟨hk, an_nl_c t ht (fun i hi => e i (by omega))⟩
  | cons q s ih =>
    intro h
    refine ⟨?_, ih h.2⟩
    show row' (s ++ k :: t).length = nI q
    rw [List.length_append, List.length_cons, e _ (by omega), show s.length + (t.length + 1) = t.length + 1 + s.length by omega]
    exact h.1
/-- cheque k is asked for ahead of p -/
def an_ah (w : an_W) (ord : Int32) (k p : Nat) : Bool := decide (ord = nI 1 ∧ ¬ w (3640 + 12 * k + 4) ≤ w (3640 + 12 * p + 4) ∨ ord = nI 2 ∧ ¬ w (3640 + 12 * p + 4) ≤ w (3640 + 12 * k + 4) ∨ ord = nI 3 ∧ ¬ w (3640 + 12 * p + 0) ≤ w (3640 + 12 * k + 0))
def an_ins (w : an_W) (ord : Int32) (k : Nat) : List Nat → List Nat
  | [] => [k]
  | p :: t => bif an_ah w ord k p then p :: an_ins w ord k t else k :: p :: t
def an_lst (w : an_W) (b : Nat) (ord : Int32) : Nat → List Nat
  | 0 => []
  | k + 1 => if w (3640 + 12 * k + 6) = 0 ∧ w (3640 + 12 * k + 7) = 0 ∧ w (3640 + 12 * k + 1) = nI b then an_ins w ord k (an_lst w b ord k) else an_lst w b ord k
theorem an_ins_l {w : an_W} {ord : Int32} {k : Nat} : ∀ t, (an_ins w ord k t).length = t.length + 1 ∧ ∀ q ∈ an_ins w ord k t, q = k ∨ q ∈ t := by
  intro t
  induction t with
  | nil => exact ⟨rfl, fun q h => Or.inl (by simpa [an_ins] using h)⟩
  | cons p t ih =>
    rw [an_ins]
    cases an_ah w ord k p with
    | true =>
      refine ⟨by rw [cond_true, List.length_cons, ih.1, List.length_cons], fun q h => ?_⟩
      rcases List.mem_cons.mp h with rfl | h
      · exact Or.inr (List.mem_cons_self ..)
      · rcases ih.2 q h with z | z
        · exact Or.inl z
        · exact Or.inr (List.mem_cons_of_mem _ z)
    | false =>
      refine ⟨rfl, fun q h => ?_⟩
      rcases List.mem_cons.mp h with rfl | h
      · exact Or.inl rfl
      · exact Or.inr h
theorem an_lst_l {w : an_W} {b : Nat} {ord : Int32} : ∀ n, (an_lst w b ord n).length ≤ n ∧ ∀ q ∈ an_lst w b ord n, q < n := by
  intro n
  induction n with
  | zero => exact ⟨Nat.le_refl _, fun q h => by simp [an_lst] at h⟩
  | succ n ih =>
    rw [an_lst]
    split
    · obtain ⟨h1, h2⟩ := an_ins_l (w := w) (ord := ord) (k := n) (an_lst w b ord n)
      refine ⟨by omega, fun q h => ?_⟩
      rcases h2 q h with z | z
      · omega
      · have := ih.2 q z; omega
    · exact ⟨by omega, fun q h => by have := ih.2 q h; omega⟩
theorem an_li {L d : Nat} {F : Int32 → am_M → Prop} {w : an_W} {ord : Int32} {b m k : Nat} (hd : 4 ≤ d) (hk : k < 150) (hm : m < 150) : ∀ (t s : List Nat) (μ1 : am_M), an_RL 58 w μ1 → (∀ q ∈ t, q < 150) → s.length + t.length = m → an_nl (μ1 63) t → an_nb (μ1 63) (t.length + 1) s → (∀ μ2, an_un [63] μ1 μ2 → an_nl (μ2 63) (s ++ an_ins w ord k t) → am_Ji L d 27 5 [some (.ref 58), some (.int (nI b)), some (.int ord), some (.int (nI (m + 1))), some (.int (nI (k + 1))), none, none] [] μ2 F) → am_Ji L d 27 65 [some (.ref 58), some (.int (nI b)), some (.int ord), some (.int (nI m)), some (.int (nI k)), none, some (.int (nI t.length))] [] μ1 F := by
  intro t
  induction t with
  | nil =>
    intro s μ1 hR hq hl hn hb h
    refine v_Ledger_listAsked_65 ?_
    rw [if_pos (by decide), am_gd_in (by simp) (by omega), am_cl (by simp)]
    intro μ2 e2
    rw [nI_add, nI_add]
    exact h μ2 (e2 ▸ an_un_w (by simp)) (an_nb_end hn (an_w_s e2) (fun i hi => an_w_o e2 hi) s hb)
  | cons p t ih =>
    intro s μ1 hR hq hl hn hb h
    have hp := hq p (by simp)
    simp only [List.length_cons] at hl hb
    have stop : an_ah w ord k p = false → am_gd (am_inb (nI (p :: t).length) 150) (am_put (am_w μ1 63 (nI (p :: t).length).toNatClampNeg (nI k)) (fun μ2 => am_Ji L d 27 5 [some (.ref 58), some (.int (nI b)), some (.int ord), some (.int (nI m + nI 1)), some (.int (nI k + nI 1)), none, none] [] μ2 F)) := fun e => by
      rw [am_gd_in (by simp; omega) (by omega), am_cl (by simp; omega)]
      intro μ2 e2
      rw [nI_add, nI_add]
      refine h μ2 (e2 ▸ an_un_w (by simp)) ?_
      rw [an_ins, e]
      exact an_nb_end hn (an_w_s e2) (fun i hi => an_w_o e2 hi) s hb
    have go : an_ah w ord k p = true → am_gd (am_inb (nI t.length) 150) (am_gd (am_inb (nI (p :: t).length) 150) (am_put (am_w μ1 63 (nI (p :: t).length).toNatClampNeg (μ1 63 t.length)) (fun μ2 => am_Ji L d 27 65 [some (.ref 58), some (.int (nI b)), some (.int ord), some (.int (nI m)), some (.int (nI k)), none, some (.int (nI t.length))] [] μ2 F))) := fun e => by
      rw [am_gd_in (by omega) (by omega), am_gd_in (by simp; omega) (by omega), am_cl (by simp; omega)]
      intro μ2 e2
      have hR2 : an_RL 58 w μ2 := an_RL_c hR (fun c q1 q2 => an_w_c e2 (by omega))
      refine ih (s ++ [p]) μ2 hR2 (fun q z => hq q (by simp [z])) (by simp; omega) ?_ ?_ (fun μ3 u3 h3 => ?_)
      · exact an_nl_c t hn.2 (fun i hi => an_w_o e2 (by simp; omega))
      · refine an_nb_snoc s hb ?_ (fun i hi => an_w_o e2 (by simp; omega))
        have := an_w_s e2
        simp only [List.length_cons] at this
        rw [this]
        exact hn.1
      · refine h μ3 (an_un_tr (e2 ▸ an_un_w (by simp)) u3 (fun _ q => q) (fun _ q => q)) ?_
        rw [an_ins, e, cond_true]
        rw [List.append_assoc, List.singleton_append] at h3
        exact h3
    have x1 : nI (p :: t).length - nI 1 = nI t.length := by rw [List.length_cons, pk_sub (by omega)]; rfl
    have x2 : nI (p :: t).length + (- nI 1) = nI t.length := by rw [an_m1 (by simp)]; rfl
    have rk := fun f hf => hR.2.2.1 k f hk hf
    have rp := fun f hf => hR.2.2.1 p f hp hf
    refine v_Ledger_listAsked_65 ?_
    rw [if_neg (nI_nle (by simp) (by simp; omega)), x1, x2, am_gd_in (by omega) (by omega), am_cl (by omega), hn.1]
    simp only [am_dp (show 0 < d by omega), am_dp (show 0 < d - 1 by omega), pk_mul, nI_add, am_gd_in (show k * 10 + 4 < 1500 by omega) (show 1500 ≤ 2147483648 by omega), am_gd_in (show p * 10 + 4 < 1500 by omega) (show 1500 ≤ 2147483648 by omega), am_gd_in (show k * 10 + 0 < 1500 by omega) (show 1500 ≤ 2147483648 by omega), am_gd_in (show p * 10 + 0 < 1500 by omega) (show 1500 ≤ 2147483648 by omega), am_cl (show k * 10 + 4 < 2147483648 by omega), am_cl (show p * 10 + 4 < 2147483648 by omega), am_cl (show k * 10 + 0 < 2147483648 by omega), am_cl (show p * 10 + 0 < 2147483648 by omega), rk 4 (by omega), rp 4 (by omega), rk 0 (by omega), rp 0 (by omega)]
    rw [← hn.1]
    simp only [nI_add] at stop go
    by_cases o1 : ord = nI 1
    · rw [if_pos o1]
      by_cases q : w (3640 + 12 * k + 4) ≤ w (3640 + 12 * p + 4)
      · rw [if_pos q]
        exact stop (decide_eq_false (by rw [o1]; rintro (z | z | z); exact z.2 q; exact absurd z.1 (by decide); exact absurd z.1 (by decide)))
      · rw [if_neg q]
        exact go (decide_eq_true (Or.inl ⟨o1, q⟩))
    · rw [if_neg o1]
      by_cases o2 : ord = nI 2
      · rw [if_pos o2]
        by_cases q : w (3640 + 12 * p + 4) ≤ w (3640 + 12 * k + 4)
        · rw [if_pos q]
          exact stop (decide_eq_false (by rintro (z | z | z); exact o1 z.1; exact z.2 q; rw [o2] at z; exact absurd z.1 (by decide)))
        · rw [if_neg q]
          exact go (decide_eq_true (Or.inr (Or.inl ⟨o2, q⟩)))
      · rw [if_neg o2]
        by_cases o3 : ord = nI 3
        · rw [if_pos o3]
          by_cases q : w (3640 + 12 * p + 0) ≤ w (3640 + 12 * k + 0)
          · rw [if_pos q]
            exact stop (decide_eq_false (by rintro (z | z | z); exact o1 z.1; exact o2 z.1; exact z.2 q))
          · rw [if_neg q]
            exact go (decide_eq_true (Or.inr (Or.inr ⟨o3, q⟩)))
        · rw [if_neg o3]
          exact stop (decide_eq_false (by rintro (z | z | z); exact o1 z.1; exact o2 z.1; exact o3 z.1))
theorem s_listAsked {L d : Nat} {μ : am_M} {F : Int32 → am_M → Prop} {w : an_W} {ord : Int32} {b : Nat} (hd : 4 ≤ d) (hR : an_RL 58 w μ) (hN : an_N (w 1) 151) (hF : ∀ μ', an_un [63] μ μ' → an_nl (μ' 63) (an_lst w b ord (an_cnt w)) → F (nI (an_lst w b ord (an_cnt w)).length) μ') : am_Ci L d 27 [.ref 58, .int (nI b), .int ord] μ F := by
  obtain ⟨eN, lN⟩ := an_cnt_e hN
  refine v_Ledger_listAsked ?_
  suffices ∀ (n j : Nat) (μ1 : am_M), j + n = an_cnt w → an_un [63] μ μ1 → an_nl (μ1 63) (an_lst w b ord j) → am_Ji L d 27 5 [some (.ref 58), some (.int (nI b)), some (.int ord), some (.int (nI ((an_lst w b ord j).length))), some (.int (nI (j))), none, none] [] μ1 F from this (an_cnt w) 0 μ (by omega) an_un_rf trivial
  intro n
  induction n with
  | zero =>
    intro j μ1 hj u h
    obtain rfl : j = an_cnt w := by omega
    refine v_Ledger_listAsked_5 ?_
    rw [u 58 (by decide), hR.2.1, eN, if_pos (nI_le (Nat.le_refl _) (by omega))]
    exact hF μ1 u h
  | succ n ih =>
    intro j μ1 hj u h
    have hR1 : an_RL 58 w μ1 := an_RL_c hR (fun c q1 q2 => u c (by simp; omega))
    have rr := fun f hf => hR1.2.2.1 j f (by omega) hf
    obtain ⟨l1, l2⟩ := an_lst_l (w := w) (b := b) (ord := ord) j
    have skip : ¬ (w (3640 + 12 * j + 6) = 0 ∧ w (3640 + 12 * j + 7) = 0 ∧ w (3640 + 12 * j + 1) = nI b) → am_Ji L d 27 5 [some (.ref 58), some (.int (nI b)), some (.int ord), some (.int (nI (an_lst w b ord j).length)), some (.int (nI (j + 1))), none, none] [] μ1 F := fun q => by
      have := ih (j + 1) μ1 (by omega) u
      rw [an_lst, if_neg q] at this
      exact this h
    refine v_Ledger_listAsked_5 ?_
    rw [hR1.2.1, eN, if_neg (nI_ge (by omega) (by omega))]
    simp (discharger := omega) only [am_dp, pk_mul, nI_add, am_gd_in, am_cl, rr 6, rr 7, rr 1]
    by_cases q6 : w (3640 + 12 * j + 6) = 0
    · rw [if_neg (fun z => z q6)]
      by_cases q7 : w (3640 + 12 * j + 7) = 0
      · rw [if_neg (fun z => z q7)]
        by_cases q1 : w (3640 + 12 * j + 1) = nI b
        · rw [if_pos q1]
          refine an_li hd (by omega) (by omega) (an_lst w b ord j) [] μ1 hR1 (fun q z => by have := l2 q z; omega) (by simp) h trivial (fun μ2 u2 h2 => ?_)
          have := ih (j + 1) μ2 (by omega) (an_un_tr u u2 (fun _ q => q) (fun _ q => q))
          rw [an_lst, if_pos ⟨q6, q7, q1⟩, (an_ins_l _).1] at this
          exact this h2
        · rw [if_neg q1]; exact skip (fun z => q1 z.2.2)
      · rw [if_pos q7]; exact skip (fun z => q7 z.2.1)
    · rw [if_pos q6]; exact skip (fun z => q6 z.1)
theorem an_liT {L d : Nat} {F : Int32 → am_M → Prop} {w : an_W} {ord : Int32} {b m k : Nat} (hd : 4 ≤ d) (hk : k < 150) (hm : m < 150) : ∀ (t s : List Nat) (μ1 : am_M), an_RL 124 w μ1 → (∀ q ∈ t, q < 150) → s.length + t.length = m → an_nl (μ1 129) t → an_nb (μ1 129) (t.length + 1) s → (∀ μ2, an_un [129] μ1 μ2 → an_nl (μ2 129) (s ++ an_ins w ord k t) → am_Ji L d 27 5 [some (.ref 124), some (.int (nI b)), some (.int ord), some (.int (nI (m + 1))), some (.int (nI (k + 1))), none, none] [] μ2 F) → am_Ji L d 27 65 [some (.ref 124), some (.int (nI b)), some (.int ord), some (.int (nI m)), some (.int (nI k)), none, some (.int (nI t.length))] [] μ1 F := by
  intro t
  induction t with
  | nil =>
    intro s μ1 hR hq hl hn hb h
    refine v_Ledger_listAskedT_65 ?_
    rw [if_pos (by decide), am_gd_in (by simp) (by omega), am_cl (by simp)]
    intro μ2 e2
    rw [nI_add, nI_add]
    exact h μ2 (e2 ▸ an_un_w (by simp)) (an_nb_end hn (an_w_s e2) (fun i hi => an_w_o e2 hi) s hb)
  | cons p t ih =>
    intro s μ1 hR hq hl hn hb h
    have hp := hq p (by simp)
    simp only [List.length_cons] at hl hb
    have stop : an_ah w ord k p = false → am_gd (am_inb (nI (p :: t).length) 150) (am_put (am_w μ1 129 (nI (p :: t).length).toNatClampNeg (nI k)) (fun μ2 => am_Ji L d 27 5 [some (.ref 124), some (.int (nI b)), some (.int ord), some (.int (nI m + nI 1)), some (.int (nI k + nI 1)), none, none] [] μ2 F)) := fun e => by
      rw [am_gd_in (by simp; omega) (by omega), am_cl (by simp; omega)]
      intro μ2 e2
      rw [nI_add, nI_add]
      refine h μ2 (e2 ▸ an_un_w (by simp)) ?_
      rw [an_ins, e]
      exact an_nb_end hn (an_w_s e2) (fun i hi => an_w_o e2 hi) s hb
    have go : an_ah w ord k p = true → am_gd (am_inb (nI t.length) 150) (am_gd (am_inb (nI (p :: t).length) 150) (am_put (am_w μ1 129 (nI (p :: t).length).toNatClampNeg (μ1 129 t.length)) (fun μ2 => am_Ji L d 27 65 [some (.ref 124), some (.int (nI b)), some (.int ord), some (.int (nI m)), some (.int (nI k)), none, some (.int (nI t.length))] [] μ2 F))) := fun e => by
      rw [am_gd_in (by omega) (by omega), am_gd_in (by simp; omega) (by omega), am_cl (by simp; omega)]
      intro μ2 e2
      have hR2 : an_RL 124 w μ2 := an_RL_c hR (fun c q1 q2 => an_w_c e2 (by omega))
      refine ih (s ++ [p]) μ2 hR2 (fun q z => hq q (by simp [z])) (by simp; omega) ?_ ?_ (fun μ3 u3 h3 => ?_)
      · exact an_nl_c t hn.2 (fun i hi => an_w_o e2 (by simp; omega))
      · refine an_nb_snoc s hb ?_ (fun i hi => an_w_o e2 (by simp; omega))
        have := an_w_s e2
        simp only [List.length_cons] at this
        rw [this]
        exact hn.1
      · refine h μ3 (an_un_tr (e2 ▸ an_un_w (by simp)) u3 (fun _ q => q) (fun _ q => q)) ?_
        rw [an_ins, e, cond_true]
        rw [List.append_assoc, List.singleton_append] at h3
        exact h3
    have x1 : nI (p :: t).length - nI 1 = nI t.length := by rw [List.length_cons, pk_sub (by omega)]; rfl
    have x2 : nI (p :: t).length + (- nI 1) = nI t.length := by rw [an_m1 (by simp)]; rfl
    have rk := fun f hf => hR.2.2.1 k f hk hf
    have rp := fun f hf => hR.2.2.1 p f hp hf
    refine v_Ledger_listAskedT_65 ?_
    rw [if_neg (nI_nle (by simp) (by simp; omega)), x1, x2, am_gd_in (by omega) (by omega), am_cl (by omega), hn.1]
    simp only [am_dp (show 0 < d by omega), am_dp (show 0 < d - 1 by omega), pk_mul, nI_add, am_gd_in (show k * 10 + 4 < 1500 by omega) (show 1500 ≤ 2147483648 by omega), am_gd_in (show p * 10 + 4 < 1500 by omega) (show 1500 ≤ 2147483648 by omega), am_gd_in (show k * 10 + 0 < 1500 by omega) (show 1500 ≤ 2147483648 by omega), am_gd_in (show p * 10 + 0 < 1500 by omega) (show 1500 ≤ 2147483648 by omega), am_cl (show k * 10 + 4 < 2147483648 by omega), am_cl (show p * 10 + 4 < 2147483648 by omega), am_cl (show k * 10 + 0 < 2147483648 by omega), am_cl (show p * 10 + 0 < 2147483648 by omega), rk 4 (by omega), rp 4 (by omega), rk 0 (by omega), rp 0 (by omega)]
    rw [← hn.1]
    simp only [nI_add] at stop go
    by_cases o1 : ord = nI 1
    · rw [if_pos o1]
      by_cases q : w (3640 + 12 * k + 4) ≤ w (3640 + 12 * p + 4)
      · rw [if_pos q]
        exact stop (decide_eq_false (by rw [o1]; rintro (z | z | z); exact z.2 q; exact absurd z.1 (by decide); exact absurd z.1 (by decide)))
      · rw [if_neg q]
        exact go (decide_eq_true (Or.inl ⟨o1, q⟩))
    · rw [if_neg o1]
      by_cases o2 : ord = nI 2
      · rw [if_pos o2]
        by_cases q : w (3640 + 12 * p + 4) ≤ w (3640 + 12 * k + 4)
        · rw [if_pos q]
          exact stop (decide_eq_false (by rintro (z | z | z); exact o1 z.1; exact z.2 q; rw [o2] at z; exact absurd z.1 (by decide)))
        · rw [if_neg q]
          exact go (decide_eq_true (Or.inr (Or.inl ⟨o2, q⟩)))
      · rw [if_neg o2]
        by_cases o3 : ord = nI 3
        · rw [if_pos o3]
          by_cases q : w (3640 + 12 * p + 0) ≤ w (3640 + 12 * k + 0)
          · rw [if_pos q]
            exact stop (decide_eq_false (by rintro (z | z | z); exact o1 z.1; exact o2 z.1; exact z.2 q))
          · rw [if_neg q]
            exact go (decide_eq_true (Or.inr (Or.inr ⟨o3, q⟩)))
        · rw [if_neg o3]
          exact stop (decide_eq_false (by rintro (z | z | z); exact o1 z.1; exact o2 z.1; exact o3 z.1))
theorem s_listAskedT {L d : Nat} {μ : am_M} {F : Int32 → am_M → Prop} {w : an_W} {ord : Int32} {b : Nat} (hd : 4 ≤ d) (hR : an_RL 124 w μ) (hN : an_N (w 1) 151) (hF : ∀ μ', an_un [129] μ μ' → an_nl (μ' 129) (an_lst w b ord (an_cnt w)) → F (nI (an_lst w b ord (an_cnt w)).length) μ') : am_Ci L d 27 [.ref 124, .int (nI b), .int ord] μ F := by
  obtain ⟨eN, lN⟩ := an_cnt_e hN
  refine v_Ledger_listAskedT ?_
  suffices ∀ (n j : Nat) (μ1 : am_M), j + n = an_cnt w → an_un [129] μ μ1 → an_nl (μ1 129) (an_lst w b ord j) → am_Ji L d 27 5 [some (.ref 124), some (.int (nI b)), some (.int ord), some (.int (nI ((an_lst w b ord j).length))), some (.int (nI (j))), none, none] [] μ1 F from this (an_cnt w) 0 μ (by omega) an_un_rf trivial
  intro n
  induction n with
  | zero =>
    intro j μ1 hj u h
    obtain rfl : j = an_cnt w := by omega
    refine v_Ledger_listAskedT_5 ?_
    rw [u 124 (by decide), hR.2.1, eN, if_pos (nI_le (Nat.le_refl _) (by omega))]
    exact hF μ1 u h
  | succ n ih =>
    intro j μ1 hj u h
    have hR1 : an_RL 124 w μ1 := an_RL_c hR (fun c q1 q2 => u c (by simp; omega))
    have rr := fun f hf => hR1.2.2.1 j f (by omega) hf
    obtain ⟨l1, l2⟩ := an_lst_l (w := w) (b := b) (ord := ord) j
    have skip : ¬ (w (3640 + 12 * j + 6) = 0 ∧ w (3640 + 12 * j + 7) = 0 ∧ w (3640 + 12 * j + 1) = nI b) → am_Ji L d 27 5 [some (.ref 124), some (.int (nI b)), some (.int ord), some (.int (nI (an_lst w b ord j).length)), some (.int (nI (j + 1))), none, none] [] μ1 F := fun q => by
      have := ih (j + 1) μ1 (by omega) u
      rw [an_lst, if_neg q] at this
      exact this h
    refine v_Ledger_listAskedT_5 ?_
    rw [hR1.2.1, eN, if_neg (nI_ge (by omega) (by omega))]
    simp (discharger := omega) only [am_dp, pk_mul, nI_add, am_gd_in, am_cl, rr 6, rr 7, rr 1]
    by_cases q6 : w (3640 + 12 * j + 6) = 0
    · rw [if_neg (fun z => z q6)]
      by_cases q7 : w (3640 + 12 * j + 7) = 0
      · rw [if_neg (fun z => z q7)]
        by_cases q1 : w (3640 + 12 * j + 1) = nI b
        · rw [if_pos q1]
          refine an_liT hd (by omega) (by omega) (an_lst w b ord j) [] μ1 hR1 (fun q z => by have := l2 q z; omega) (by simp) h trivial (fun μ2 u2 h2 => ?_)
          have := ih (j + 1) μ2 (by omega) (an_un_tr u u2 (fun _ q => q) (fun _ q => q))
          rw [an_lst, if_pos ⟨q6, q7, q1⟩, (an_ins_l _).1] at this
          exact this h2
        · rw [if_neg q1]; exact skip (fun z => q1 z.2.2)
      · rw [if_pos q7]; exact skip (fun z => q7 z.2.1)
    · rw [if_pos q6]; exact skip (fun z => q6 z.1)
