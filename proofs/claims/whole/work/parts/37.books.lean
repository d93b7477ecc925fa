/-! A book changes; entries. -/
/-- a list is written from e on -/
def an_uf (w : an_W) (e : Nat) : List Int32 → an_W
  | [] => w
  | x :: l => an_uf (upd w e x) (e + 1) l
theorem an_uf_out : ∀ (l : List Int32) (w : an_W) (e j : Nat), (j < e ∨ e + l.length ≤ j) → an_uf w e l j = w j := by
  intro l
  induction l with
  | nil => intro w e j _; rfl
  | cons x l ih =>
    intro w e j h
    simp only [List.length_cons] at h
    rw [an_uf, ih _ _ _ (by omega), pk_un (by omega)]
theorem an_uf_in : ∀ (l : List Int32) (w : an_W) (e f : Nat), f < l.length → an_uf w e l (e + f) = l.getD f 0 := by
  intro l
  induction l with
  | nil => intro w e f h; simp at h
  | cons x l ih =>
    intro w e f h
    rw [an_uf]
    cases f with
    | zero => rw [an_uf_out _ _ _ _ (Or.inl (by omega)), Nat.add_zero, pk_us]; rfl
    | succ f =>
      rw [show e + (f + 1) = e + 1 + f by omega, ih _ _ _ (by simpa using h)]
      rfl
/-- entries: the class's cells c, c + 1 -/
def an_RE (c : Nat) (w : an_W) (μ : am_M) : Prop := μ c 1 = w 9810 ∧ ∀ i, i < 6300 → μ (c + 1) i = w (9820 + i)
theorem an_RE_c {c : Nat} {w : an_W} {μ μ' : am_M} (h : an_RE c w μ) (e : ∀ c', c ≤ c' → c' ≤ c + 1 → μ' c' = μ c') : an_RE c w μ' := by
  unfold an_RE
  rw [e c (by omega) (by omega), e (c + 1) (by omega) (by omega)]
  exact h
def an_E (w : an_W) : Nat := (w 9810).toNatClampNeg
theorem an_E_e {w : an_W} (h : an_N (w 9810) 901) : w 9810 = nI (an_E w) ∧ an_E w < 901 := an_N_e h (by omega)
def W_books (w : an_W) (h b : Nat) (kind k v : Int32) : an_W :=
  if v = 0 then w else if an_E w = 900 then upd w (210 + 4 * h + b) (w (210 + 4 * h + b) + v)
  else upd (an_uf (upd w (210 + 4 * h + b) (w (210 + 4 * h + b) + v)) (9820 + 7 * an_E w) [w 0, nI h, nI b, kind, k, v, w (210 + 4 * h + b) + v]) 9810 (nI (an_E w + 1))
theorem W_books_o {w : an_W} {h b : Nat} {kind k v : Int32} {j : Nat} (hj : j < 9810) (hn : ¬ j = 210 + 4 * h + b) : W_books w h b kind k v j = w j := by
  unfold W_books
  split
  · rfl
  · split
    · rw [pk_un hn]
    · rw [pk_un (by omega), an_uf_out _ _ _ _ (Or.inl (by omega)), pk_un hn]
theorem W_books_s {w : an_W} {h b : Nat} {kind k v : Int32} (hh : h < 6) (hb : b < 4) : W_books w h b kind k v (210 + 4 * h + b) = w (210 + 4 * h + b) + v := by
  unfold W_books
  split
  · rename_i e; rw [e]; simp
  · split
    · rw [pk_us]
    · rw [pk_un (by omega), an_uf_out _ _ _ _ (Or.inl (by omega)), pk_us]
theorem W_books_E {w : an_W} {h b : Nat} {kind k v : Int32} (hE : an_N (w 9810) 901) (hh : h < 6) (hb : b < 4) : an_N (W_books w h b kind k v 9810) 901 := by
  obtain ⟨e, hlt⟩ := an_E_e hE
  unfold W_books
  split
  · exact hE
  · split
    · rw [pk_un (by omega)]; exact hE
    · rw [pk_us]; exact ⟨_, by omega, rfl⟩
theorem s_M_books {L d : Nat} {μ : am_M} {F : am_M → Prop} {w : an_W} {h b : Nat} {kind k v : Int32} (hh : h < 6) (hb : b < 4) (hw : μ 141 = w) (hE : an_N (w 9810) 901)
    (hF : ∀ μ', an_un [141] μ μ' → μ' 141 = W_books w h b kind k v → F μ') : am_Cv L d 188 [.ref 140, .int (nI h), .int (nI b), .int kind, .int k, .int v] μ F := by
  obtain ⟨eE, lE⟩ := an_E_e hE
  refine v_M_books ?_
  by_cases hv : v = 0
  · rw [if_neg (fun z => z hv)]
    refine hF μ an_un_rf ?_
    unfold W_books
    rw [if_pos hv]
    exact hw
  · rw [if_pos hv, pk_mul, nI_add, nI_add, am_gd_in (by omega) (by omega), am_gd_in (by omega) (by omega), am_cl (by omega), hw]
    intro μ1 e1
    have w1 : μ1 141 = upd w (210 + 4 * h + b) (w (210 + 4 * h + b) + v) := by rw [e1, am_w_at, hw]
    have u1 : an_un [141] μ μ1 := e1 ▸ an_un_w (by simp)
    refine v_M_books_25 ?_
    have x1 : μ1 141 9810 = nI (an_E w) := by rw [w1, pk_un (by omega), eE]
    rw [x1]
    by_cases h9 : an_E w = 900
    · rw [if_neg (fun z => z (by rw [h9]))]
      refine hF μ1 u1 ?_
      unfold W_books
      rw [if_neg hv, if_pos h9]
      exact w1
    · rw [if_pos (fun z => h9 ((nI_eq (by omega) (by omega)).mp z))]
      refine v_M_books_57 ?_
      simp only [pk_mul, nI_add]
      rw [am_gd_in (by omega) (by omega), am_cl (by omega), am_cl (by omega)]
      intro μ2 e2
      rw [am_gd_in (by omega) (by omega)]
      intro μ3 e3
      refine v_M_books_80 ?_
      simp only [nI_add]
      rw [am_gd_in (by omega) (by omega), am_cl (by omega), am_cl (by omega)]
      intro μ4 e4
      rw [am_gd_in (by omega) (by omega)]
      intro μ5 e5
      refine v_M_books_100 ?_
      simp only [nI_add]
      rw [am_gd_in (by omega) (by omega), am_cl (by omega), am_cl (by omega)]
      intro μ6 e6
      rw [am_gd_in (by omega) (by omega)]
      intro μ7 e7
      refine v_M_books_122 ?_
      simp only [pk_mul, nI_add]
      rw [am_gd_in (by omega) (by omega), am_gd_in (by omega) (by omega), am_cl (by omega), am_cl (by omega)]
      intro μ8 e8 μ9 e9
      have u9 : an_un [141] μ μ9 := fun c hc => by
        have hc : c ≠ 141 := by simpa using hc
        rw [an_w_c e9 hc, an_w_c e8 hc, an_w_c e7 hc, an_w_c e6 hc, an_w_c e5 hc, an_w_c e4 hc, an_w_c e3 hc, an_w_c e2 hc, an_w_c e1 hc]
      refine hF μ9 u9 ?_
      have y0 : μ1 141 0 = w 0 := by rw [w1, pk_un (by omega)]
      have y1 : μ1 141 (210 + 4 * h + b) = w (210 + 4 * h + b) + v := by rw [w1, pk_us]
      have y7 : μ7 141 (210 + 4 * h + b) = w (210 + 4 * h + b) + v := by rw [an_w_o e7 (by omega), an_w_o e6 (by omega), an_w_o e5 (by omega), an_w_o e4 (by omega), an_w_o e3 (by omega), an_w_o e2 (by omega), y1]
      have y8 : μ8 141 9810 = nI (an_E w) := by rw [an_w_o e8 (by omega), an_w_o e7 (by omega), an_w_o e6 (by omega), an_w_o e5 (by omega), an_w_o e4 (by omega), an_w_o e3 (by omega), an_w_o e2 (by omega), x1]
      unfold W_books
      rw [if_neg hv, if_neg h9, e9, am_w_at, y8, nI_add, e8, am_w_at, y7, e7, am_w_at, e6, am_w_at, e5, am_w_at, e4, am_w_at, e3, am_w_at, e2, am_w_at, y0, w1]
      rfl
theorem s_Entries_add {L d : Nat} {μ : am_M} {F : am_M → Prop} {E h b : Nat} {day kind k v bh : Int32} (hh : h < 6) (hb : b < 4) (hE : μ 56 1 = nI E) (hE9 : E ≤ 900)
    (hF : ∀ μ', an_un [56, 57] μ μ' → (E = 900 → μ' = μ) → (E < 900 → μ' 57 = an_uf (μ 57) (7 * E) [day, nI h, nI b, kind, k, v, bh] ∧ μ' 56 1 = nI (E + 1)) → F μ') : am_Cv L d 9 [.ref 56, .int day, .int (nI (h * 4 + b)), .int kind, .int k, .int v, .int bh] μ F := by
  refine v_Entries_add ?_
  rw [hE]
  by_cases h9 : E < 900
  · rw [if_pos (nI_lt h9 (by omega)), pk_mul]
    simp only [nI_add]
    rw [an_rem (by omega) (by omega) (by omega), pk_div (by omega) (by omega) (by omega), show (h * 4 + b) / 4 = h by omega, show (h * 4 + b) % 4 = b by omega]
    rw [am_gd_in (by omega) (by omega), am_cl (by omega)]
    intro μ1 e1
    rw [an_gdz (by omega) (by omega), am_gd_in (by omega) (by omega), am_cl (by omega)]
    intro μ2 e2
    rw [an_gdz (by omega) (by omega), am_gd_in (by omega) (by omega), am_cl (by omega)]
    intro μ3 e3
    rw [am_gd_in (by omega) (by omega), am_cl (by omega)]
    intro μ4 e4
    rw [am_gd_in (by omega) (by omega), am_cl (by omega)]
    intro μ5 e5
    rw [am_gd_in (by omega) (by omega), am_cl (by omega)]
    intro μ6 e6
    rw [am_gd_in (by omega) (by omega), am_cl (by omega)]
    intro μ7 e7 μ8 e8
    have u8 : an_un [56, 57] μ μ8 := fun c hc => by
      have hc1 : c ≠ 56 := fun z => hc (by simp [z])
      have hc2 : c ≠ 57 := fun z => hc (by simp [z])
      rw [an_w_c e8 hc1, an_w_c e7 hc2, an_w_c e6 hc2, an_w_c e5 hc2, an_w_c e4 hc2, an_w_c e3 hc2, an_w_c e2 hc2, an_w_c e1 hc2]
    refine hF μ8 u8 (fun z => by omega) (fun _ => ⟨?_, ?_⟩)
    · rw [an_w_c e8 (by decide), e7, am_w_at, e6, am_w_at, e5, am_w_at, e4, am_w_at, e3, am_w_at, e2, am_w_at, e1, am_w_at, Nat.mul_comm E 7]
      rfl
    · rw [an_w_s e8, an_w_c e7 (by decide), an_w_c e6 (by decide), an_w_c e5 (by decide), an_w_c e4 (by decide), an_w_c e3 (by decide), an_w_c e2 (by decide), an_w_c e1 (by decide), hE, nI_add]
  · rw [if_neg (nI_nlt (by omega) (by omega))]
    exact hF μ an_un_rf (fun _ => rfl) (fun z => absurd z h9)
/-- a ledger's cells behind a change of a book -/
theorem an_RL_books {l : Nat} {w : an_W} {μ μ' : am_M} {h b : Nat} {kind k v : Int32} (hh : h < 6) (hb : b < 4) (hR : an_RL l w μ) (h2 : μ' (l + 2) = upd (μ (l + 2)) (h * 4 + b) (μ (l + 2) (h * 4 + b) + v)) (e : ∀ c, l ≤ c → c ≤ l + 4 → ¬ c = l + 2 → μ' c = μ c) : an_RL l (W_books w h b kind k v) μ' := by
  have hb0 := (an_RL_b hR).1 h b hh hb
  obtain ⟨r0, r1, r2, r3, r4, r5⟩ := hR
  unfold an_RL
  rw [e l (by omega) (by omega) (by omega), e (l + 1) (by omega) (by omega) (by omega), e (l + 3) (by omega) (by omega) (by omega), e (l + 4) (by omega) (by omega) (by omega)]
  refine ⟨?_, ?_, fun k f hk hf => ?_, fun i hi => ?_, fun i hi => ?_, fun i hi => ?_⟩
  · rw [W_books_o (by omega) (by omega)]; exact r0
  · rw [W_books_o (by omega) (by omega)]; exact r1
  · rw [W_books_o (by omega) (by omega)]; exact r2 k f hk hf
  · rw [h2]
    by_cases hi2 : i = h * 4 + b
    · subst hi2
      rw [pk_us, hb0, show 210 + (h * 4 + b) = 210 + 4 * h + b by omega, W_books_s hh hb]
    · rw [pk_un hi2, W_books_o (by omega) (by omega)]; exact r3 i hi
  · rw [W_books_o (by omega) (by omega)]; exact r4 i hi
  · rw [W_books_o (by omega) (by omega)]; exact r5 i hi
theorem s_Ledger_change {L d : Nat} {μ : am_M} {F : am_M → Prop} {w : an_W} {h b : Nat} {kind k v : Int32} (hd : 1 ≤ d) (hh : h < 6) (hb : b < 4) (hR : an_RL 58 w μ) (hE : an_RE 56 w μ) (hN : an_N (w 9810) 901) (hv : ¬ v = 0)
    (hF : ∀ μ', an_un [56, 57, 60] μ μ' → an_RL 58 (W_books w h b kind k v) μ' → an_RE 56 (W_books w h b kind k v) μ' → F μ') : am_Cv L d 22 [.ref 58, .int (nI h), .int (nI b), .int kind, .int k, .int v] μ F := by
  obtain ⟨eE, lE⟩ := an_E_e hN
  have hb0 := (an_RL_b hR).1 h b hh hb
  refine v_Ledger_change ?_
  simp only [pk_mul, nI_add]
  rw [am_gd_in (by omega) (by omega), am_gd_in (by omega) (by omega), am_cl (by omega)]
  intro μ1 e1
  rw [am_gd_in (by omega) (by omega)]
  have x1 : μ1 58 8 = w 0 := by rw [an_w_c e1 (by decide)]; exact hR.1
  have x2 : μ1 60 (h * 4 + b) = w (210 + 4 * h + b) + v := by rw [an_w_s e1, hb0]
  have x3 : μ1 56 1 = nI (an_E w) := by rw [an_w_c e1 (by decide), hE.1, eE]
  rw [x1, x2]
  refine ⟨by omega, s_Entries_add hh hb x3 (by omega) (fun μ2 u2 g1 g2 => ?_)⟩
  have u : an_un [56, 57, 60] μ μ2 := an_un_tr (e1 ▸ an_un_w (l := [60]) (by simp)) u2 (by simp) (by simp)
  have y60 : μ2 60 = upd (μ 60) (h * 4 + b) (μ 60 (h * 4 + b) + v) := by rw [u2 60 (by decide), e1, am_w_at]
  refine hF μ2 u (an_RL_books hh hb hR y60 (fun c q1 q2 q3 => u c (by simp; omega))) ?_
  unfold W_books
  rw [if_neg hv]
  by_cases h9 : an_E w = 900
  · rw [if_pos h9, g1 h9]
    refine ⟨?_, fun i hi => ?_⟩
    · rw [x3, pk_un (by omega), eE]
    · rw [pk_un (by omega), an_w_c e1 (by decide)]; exact hE.2 i hi
  · rw [if_neg h9]
    obtain ⟨z1, z2⟩ := g2 (by omega)
    refine ⟨?_, fun i hi => ?_⟩
    · rw [z2, pk_us]
    · rw [show (56 + 1 : Nat) = 57 from rfl, z1, pk_un (by omega), an_w_c e1 (by decide)]
      by_cases hi2 : i < 7 * an_E w ∨ 7 * an_E w + 7 ≤ i
      · rw [an_uf_out _ _ _ _ (by simpa using hi2), an_uf_out _ _ _ _ (by simp only [List.length_cons, List.length_nil]; omega), pk_un (by omega)]
        exact hE.2 i hi
      · obtain ⟨f, rfl⟩ : ∃ f, i = 7 * an_E w + f := ⟨i - 7 * an_E w, by omega⟩
        rw [an_uf_in _ _ _ _ (by simp only [List.length_cons, List.length_nil]; omega), ← Nat.add_assoc, an_uf_in _ _ _ _ (by simp only [List.length_cons, List.length_nil]; omega)]
theorem s_Ledger_changeT {L d : Nat} {μ : am_M} {F : am_M → Prop} {w : an_W} {h b : Nat} {kind k v : Int32} (hh : h < 6) (hb : b < 4) (hR : an_RL 124 w μ)
    (hF : ∀ μ', an_un [126] μ μ' → an_RL 124 (W_books w h b kind k v) μ' → F μ') : am_Cv L d 22 [.ref 124, .int (nI h), .int (nI b), .int kind, .int k, .int v] μ F := by
  refine v_Ledger_changeT ?_
  simp only [pk_mul, nI_add]
  rw [am_gd_in (by omega) (by omega), am_gd_in (by omega) (by omega), am_cl (by omega)]
  intro μ1 e1
  have u : an_un [126] μ μ1 := e1 ▸ an_un_w (by simp)
  exact hF μ1 u (an_RL_books hh hb hR (by rw [e1, am_w_at]) (fun c q1 q2 q3 => u c (by simp; omega)))
