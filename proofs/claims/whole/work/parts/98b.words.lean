/-! Texts: words, class and model. -/
variable {nb : Nat}
theorem an_ch : ∀ i, i < 19 → ∀ x, x < (an_wd i).length → (((((am_sB.getD i []).getD x 0) &&& (nI 255)).toUInt32 % 65536).toInt32) = nI ((an_wd i).getD x 0) ∧ am_nar 3 (((((am_sB.getD i []).getD x 0) &&& (nI 255)).toUInt32 % 65536).toInt32) = true ∧ (an_wd i).getD x 0 < 256 := by decide +kernel
/-- a tape's bytes at a cell -/
def an_tb (c : Nat) (μ : am_M) (B : Nat → Nat) (T : Nat) : Prop := T ≤ 400 ∧ ∀ j, j < T → μ c j = nI (B j) ∧ B j < 256
theorem w_isX_0 {L d : Nat} {μ : am_M} {F : Int32 → am_M → Prop} {B : Nat → Nat} {T p q : Nat} (hd : 6 ≤ d) (hB : an_tb 2 μ B T) (hp : p ≤ q) (hq : q ≤ T) (hF : F (an_b (decide (an_sl B p (q - p) = an_wd 0))) μ) : am_Ci L d 54 [.ref 1, .int (nI p), .int (nI q), .ref 1000] μ F := by
  obtain ⟨hT, hB⟩ := hB
  refine v_Reader_isWord_0 ?_
  rw [am_dp (by omega), am_dp (by omega), pk_sub hp]
  by_cases hl : q - p = 4
  · rw [if_pos (by rw [hl]; decide)]
    suffices ∀ m x, x + m = 4 → (∀ j, j < x → B (p + j) = (an_wd 0).getD j 0) → am_Ji L d 54 15 [some (.ref 1), some (.int (nI p)), some (.int (nI q)), some (.ref 1000), some (.int (nI (p + x)))] [] μ F from this 4 0 (by omega) (fun j hj => absurd hj (by omega))
    intro m
    induction m with
    | zero =>
      intro x hx he
      refine v_Reader_isWord_0_15 ?_
      rw [if_pos (nI_le (by omega) (by omega))]
      rw [decide_eq_true ((an_sl_e (an_wd 0) p (q - p)).mpr ⟨hl, fun j hj => he j (by omega)⟩)] at hF
      exact hF
    | succ m ih =>
      intro x hx he
      refine v_Reader_isWord_0_15 ?_
      obtain ⟨c1, c2, c3⟩ := an_ch 0 (by omega) x (by show x < 4; omega)
      obtain ⟨b1, b2⟩ := hB (p + x) (by omega)
      rw [if_neg (nI_ge (by omega) (by omega)), am_gd_in (by omega) (by omega), am_dp (by omega), am_dp (by omega), am_dp (by omega), am_dp (by omega), am_dp (by omega), pk_sub (by omega), show p + x - p = x by omega, if_neg (nI_pos (by omega)), if_pos (nI_lt (by omega) (by omega)), am_gd_in (by omega) (by omega), am_cl (by omega), c2, am_gd_t, am_gd_t, c1, am_cl (by omega), b1]
      by_cases z : B (p + x) = (an_wd 0).getD x 0
      · rw [if_pos (by rw [z]), nI_add]
        refine ih (x + 1) (by omega) (fun j hj => ?_)
        by_cases y : j = x
        · rw [y]; exact z
        · exact he j (by omega)
      · rw [if_neg (fun y => z ((nI_eq (by omega) (by omega)).mp y))]
        rw [decide_eq_false (fun y => z (((an_sl_e (an_wd 0) p (q - p)).mp y).2 x (by omega)))] at hF
        exact hF
  · rw [if_neg (fun z => hl ((nI_eq (a := q - p) (b := 4) (by omega) (by omega)).mp (z.symm.trans (by decide))))]
    rw [decide_eq_false (fun y => hl ((an_sl_e (an_wd 0) p (q - p)).mp y).1)] at hF
    exact hF
theorem w_isM_0 {L d : Nat} {μ : am_M} {F : Int32 → am_M → Prop} {B : Nat → Nat} {T p q : Nat} (hd : 6 ≤ d) (hB : an_tb 146 μ B T) (hp : p ≤ q) (hq : q ≤ T) (h13 : μ 140 13 = nI q) (h15 : μ 140 15 = nI p) (hF : F (an_b (decide (an_sl B p (q - p) = an_wd 0))) μ) : am_Ci L d 160 [.ref 140, .ref 1000] μ F := by
  obtain ⟨hT, hB⟩ := hB
  refine v_M_is_0 ?_
  rw [am_dp (by omega), am_dp (by omega), h13, h15, pk_sub hp]
  have no : ∀ x, ¬ an_sl B p (q - p) = an_wd 0 → am_Ji L d 160 24 [some (.ref 140), some (.ref 1000), some (.int (nI 0)), some (.int (nI x))] [] μ F := by
    intro x hn
    rw [decide_eq_false hn] at hF
    refine v_M_is_0_24 ?_
    rw [am_dp (by omega), am_dp (by omega)]
    split
    · exact hF
    · rw [if_pos nI_0]; exact hF
  by_cases hl : q - p = 4
  · rw [if_neg (fun z => z (by rw [hl]; decide))]
    suffices ∀ m x, x + m = 4 → (∀ j, j < x → B (p + j) = (an_wd 0).getD j 0) → am_Ji L d 160 24 [some (.ref 140), some (.ref 1000), some (.int (nI 1)), some (.int (nI x))] [] μ F from this 4 0 (by omega) (fun j hj => absurd hj (by omega))
    intro m
    induction m with
    | zero =>
      intro x hx he
      refine v_M_is_0_24 ?_
      rw [am_dp (by omega), am_dp (by omega), if_pos (by rw [show x = 4 by omega]; decide)]
      rw [decide_eq_true ((an_sl_e (an_wd 0) p (q - p)).mpr ⟨hl, fun j hj => he j (by omega)⟩)] at hF
      exact hF
    | succ m ih =>
      intro x hx he
      refine v_M_is_0_24 ?_
      obtain ⟨c1, c2, c3⟩ := an_ch 0 (by omega) x (by show x < 4; omega)
      obtain ⟨b1, b2⟩ := hB (p + x) (by omega)
      have nl : ¬ (nI 4 >>> (0 &&& 31)) ≤ nI x := by
        rw [show (nI 4 >>> (0 &&& 31)) = nI 4 by decide]
        exact nI_ge (by omega) (by omega)
      rw [am_dp (by omega), am_dp (by omega), if_neg nl, if_neg (nI_ne0 (by omega) (by omega)), h15, nI_add, am_gd_in (by omega) (by omega), am_dp (by omega), am_dp (by omega), am_dp (by omega), am_dp (by omega), am_dp (by omega), if_neg (nI_pos (by omega)), if_pos (nI_lt (by omega) (by omega)), am_gd_in (by omega) (by omega), am_cl (by omega), c2, am_gd_t, am_gd_t, c1, am_cl (by omega), b1, nI_add]
      by_cases z : B (p + x) = (an_wd 0).getD x 0
      · rw [if_neg (fun y => y (by rw [z]))]
        refine ih (x + 1) (by omega) (fun j hj => ?_)
        by_cases y : j = x
        · rw [y]; exact z
        · exact he j (by omega)
      · rw [if_pos (fun y => z ((nI_eq (by omega) (by omega)).mp y))]
        exact no _ (fun y => z (((an_sl_e (an_wd 0) p (q - p)).mp y).2 x (by omega)))
  · rw [if_pos (fun z => hl ((nI_eq (a := q - p) (b := 4) (by omega) (by omega)).mp (z.trans (by decide))))]
    exact no 0 (fun y => hl ((an_sl_e (an_wd 0) p (q - p)).mp y).1)
theorem w_isX_1 {L d : Nat} {μ : am_M} {F : Int32 → am_M → Prop} {B : Nat → Nat} {T p q : Nat} (hd : 6 ≤ d) (hB : an_tb 2 μ B T) (hp : p ≤ q) (hq : q ≤ T) (hF : F (an_b (decide (an_sl B p (q - p) = an_wd 1))) μ) : am_Ci L d 54 [.ref 1, .int (nI p), .int (nI q), .ref 1001] μ F := by
  obtain ⟨hT, hB⟩ := hB
  refine v_Reader_isWord_1 ?_
  rw [am_dp (by omega), am_dp (by omega), pk_sub hp]
  by_cases hl : q - p = 5
  · rw [if_pos (by rw [hl]; decide)]
    suffices ∀ m x, x + m = 5 → (∀ j, j < x → B (p + j) = (an_wd 1).getD j 0) → am_Ji L d 54 15 [some (.ref 1), some (.int (nI p)), some (.int (nI q)), some (.ref 1001), some (.int (nI (p + x)))] [] μ F from this 5 0 (by omega) (fun j hj => absurd hj (by omega))
    intro m
    induction m with
    | zero =>
      intro x hx he
      refine v_Reader_isWord_1_15 ?_
      rw [if_pos (nI_le (by omega) (by omega))]
      rw [decide_eq_true ((an_sl_e (an_wd 1) p (q - p)).mpr ⟨hl, fun j hj => he j (by omega)⟩)] at hF
      exact hF
    | succ m ih =>
      intro x hx he
      refine v_Reader_isWord_1_15 ?_
      obtain ⟨c1, c2, c3⟩ := an_ch 1 (by omega) x (by show x < 5; omega)
      obtain ⟨b1, b2⟩ := hB (p + x) (by omega)
      rw [if_neg (nI_ge (by omega) (by omega)), am_gd_in (by omega) (by omega), am_dp (by omega), am_dp (by omega), am_dp (by omega), am_dp (by omega), am_dp (by omega), pk_sub (by omega), show p + x - p = x by omega, if_neg (nI_pos (by omega)), if_pos (nI_lt (by omega) (by omega)), am_gd_in (by omega) (by omega), am_cl (by omega), c2, am_gd_t, am_gd_t, c1, am_cl (by omega), b1]
      by_cases z : B (p + x) = (an_wd 1).getD x 0
      · rw [if_pos (by rw [z]), nI_add]
        refine ih (x + 1) (by omega) (fun j hj => ?_)
        by_cases y : j = x
        · rw [y]; exact z
        · exact he j (by omega)
      · rw [if_neg (fun y => z ((nI_eq (by omega) (by omega)).mp y))]
        rw [decide_eq_false (fun y => z (((an_sl_e (an_wd 1) p (q - p)).mp y).2 x (by omega)))] at hF
        exact hF
  · rw [if_neg (fun z => hl ((nI_eq (a := q - p) (b := 5) (by omega) (by omega)).mp (z.symm.trans (by decide))))]
    rw [decide_eq_false (fun y => hl ((an_sl_e (an_wd 1) p (q - p)).mp y).1)] at hF
    exact hF
theorem w_isM_1 {L d : Nat} {μ : am_M} {F : Int32 → am_M → Prop} {B : Nat → Nat} {T p q : Nat} (hd : 6 ≤ d) (hB : an_tb 146 μ B T) (hp : p ≤ q) (hq : q ≤ T) (h13 : μ 140 13 = nI q) (h15 : μ 140 15 = nI p) (hF : F (an_b (decide (an_sl B p (q - p) = an_wd 1))) μ) : am_Ci L d 160 [.ref 140, .ref 1001] μ F := by
  obtain ⟨hT, hB⟩ := hB
  refine v_M_is_1 ?_
  rw [am_dp (by omega), am_dp (by omega), h13, h15, pk_sub hp]
  have no : ∀ x, ¬ an_sl B p (q - p) = an_wd 1 → am_Ji L d 160 24 [some (.ref 140), some (.ref 1001), some (.int (nI 0)), some (.int (nI x))] [] μ F := by
    intro x hn
    rw [decide_eq_false hn] at hF
    refine v_M_is_1_24 ?_
    rw [am_dp (by omega), am_dp (by omega)]
    split
    · exact hF
    · rw [if_pos nI_0]; exact hF
  by_cases hl : q - p = 5
  · rw [if_neg (fun z => z (by rw [hl]; decide))]
    suffices ∀ m x, x + m = 5 → (∀ j, j < x → B (p + j) = (an_wd 1).getD j 0) → am_Ji L d 160 24 [some (.ref 140), some (.ref 1001), some (.int (nI 1)), some (.int (nI x))] [] μ F from this 5 0 (by omega) (fun j hj => absurd hj (by omega))
    intro m
    induction m with
    | zero =>
      intro x hx he
      refine v_M_is_1_24 ?_
      rw [am_dp (by omega), am_dp (by omega), if_pos (by rw [show x = 5 by omega]; decide)]
      rw [decide_eq_true ((an_sl_e (an_wd 1) p (q - p)).mpr ⟨hl, fun j hj => he j (by omega)⟩)] at hF
      exact hF
    | succ m ih =>
      intro x hx he
      refine v_M_is_1_24 ?_
      obtain ⟨c1, c2, c3⟩ := an_ch 1 (by omega) x (by show x < 5; omega)
      obtain ⟨b1, b2⟩ := hB (p + x) (by omega)
      have nl : ¬ (nI 5 >>> (0 &&& 31)) ≤ nI x := by
        rw [show (nI 5 >>> (0 &&& 31)) = nI 5 by decide]
        exact nI_ge (by omega) (by omega)
      rw [am_dp (by omega), am_dp (by omega), if_neg nl, if_neg (nI_ne0 (by omega) (by omega)), h15, nI_add, am_gd_in (by omega) (by omega), am_dp (by omega), am_dp (by omega), am_dp (by omega), am_dp (by omega), am_dp (by omega), if_neg (nI_pos (by omega)), if_pos (nI_lt (by omega) (by omega)), am_gd_in (by omega) (by omega), am_cl (by omega), c2, am_gd_t, am_gd_t, c1, am_cl (by omega), b1, nI_add]
      by_cases z : B (p + x) = (an_wd 1).getD x 0
      · rw [if_neg (fun y => y (by rw [z]))]
        refine ih (x + 1) (by omega) (fun j hj => ?_)
        by_cases y : j = x
        · rw [y]; exact z
        · exact he j (by omega)
      · rw [if_pos (fun y => z ((nI_eq (by omega) (by omega)).mp y))]
        exact no _ (fun y => z (((an_sl_e (an_wd 1) p (q - p)).mp y).2 x (by omega)))
  · rw [if_pos (fun z => hl ((nI_eq (a := q - p) (b := 5) (by omega) (by omega)).mp (z.trans (by decide))))]
    exact no 0 (fun y => hl ((an_sl_e (an_wd 1) p (q - p)).mp y).1)
theorem w_isX_2 {L d : Nat} {μ : am_M} {F : Int32 → am_M → Prop} {B : Nat → Nat} {T p q : Nat} (hd : 6 ≤ d) (hB : an_tb 2 μ B T) (hp : p ≤ q) (hq : q ≤ T) (hF : F (an_b (decide (an_sl B p (q - p) = an_wd 2))) μ) : am_Ci L d 54 [.ref 1, .int (nI p), .int (nI q), .ref 1002] μ F := by
  obtain ⟨hT, hB⟩ := hB
  refine v_Reader_isWord_2 ?_
  rw [am_dp (by omega), am_dp (by omega), pk_sub hp]
  by_cases hl : q - p = 3
  · rw [if_pos (by rw [hl]; decide)]
    suffices ∀ m x, x + m = 3 → (∀ j, j < x → B (p + j) = (an_wd 2).getD j 0) → am_Ji L d 54 15 [some (.ref 1), some (.int (nI p)), some (.int (nI q)), some (.ref 1002), some (.int (nI (p + x)))] [] μ F from this 3 0 (by omega) (fun j hj => absurd hj (by omega))
    intro m
    induction m with
    | zero =>
      intro x hx he
      refine v_Reader_isWord_2_15 ?_
      rw [if_pos (nI_le (by omega) (by omega))]
      rw [decide_eq_true ((an_sl_e (an_wd 2) p (q - p)).mpr ⟨hl, fun j hj => he j (by omega)⟩)] at hF
      exact hF
    | succ m ih =>
      intro x hx he
      refine v_Reader_isWord_2_15 ?_
      obtain ⟨c1, c2, c3⟩ := an_ch 2 (by omega) x (by show x < 3; omega)
      obtain ⟨b1, b2⟩ := hB (p + x) (by omega)
      rw [if_neg (nI_ge (by omega) (by omega)), am_gd_in (by omega) (by omega), am_dp (by omega), am_dp (by omega), am_dp (by omega), am_dp (by omega), am_dp (by omega), pk_sub (by omega), show p + x - p = x by omega, if_neg (nI_pos (by omega)), if_pos (nI_lt (by omega) (by omega)), am_gd_in (by omega) (by omega), am_cl (by omega), c2, am_gd_t, am_gd_t, c1, am_cl (by omega), b1]
      by_cases z : B (p + x) = (an_wd 2).getD x 0
      · rw [if_pos (by rw [z]), nI_add]
        refine ih (x + 1) (by omega) (fun j hj => ?_)
        by_cases y : j = x
        · rw [y]; exact z
        · exact he j (by omega)
      · rw [if_neg (fun y => z ((nI_eq (by omega) (by omega)).mp y))]
        rw [decide_eq_false (fun y => z (((an_sl_e (an_wd 2) p (q - p)).mp y).2 x (by omega)))] at hF
        exact hF
  · rw [if_neg (fun z => hl ((nI_eq (a := q - p) (b := 3) (by omega) (by omega)).mp (z.symm.trans (by decide))))]
    rw [decide_eq_false (fun y => hl ((an_sl_e (an_wd 2) p (q - p)).mp y).1)] at hF
    exact hF
theorem w_isM_2 {L d : Nat} {μ : am_M} {F : Int32 → am_M → Prop} {B : Nat → Nat} {T p q : Nat} (hd : 6 ≤ d) (hB : an_tb 146 μ B T) (hp : p ≤ q) (hq : q ≤ T) (h13 : μ 140 13 = nI q) (h15 : μ 140 15 = nI p) (hF : F (an_b (decide (an_sl B p (q - p) = an_wd 2))) μ) : am_Ci L d 160 [.ref 140, .ref 1002] μ F := by
  obtain ⟨hT, hB⟩ := hB
  refine v_M_is_2 ?_
  rw [am_dp (by omega), am_dp (by omega), h13, h15, pk_sub hp]
  have no : ∀ x, ¬ an_sl B p (q - p) = an_wd 2 → am_Ji L d 160 24 [some (.ref 140), some (.ref 1002), some (.int (nI 0)), some (.int (nI x))] [] μ F := by
    intro x hn
    rw [decide_eq_false hn] at hF
    refine v_M_is_2_24 ?_
    rw [am_dp (by omega), am_dp (by omega)]
    split
    · exact hF
    · rw [if_pos nI_0]; exact hF
  by_cases hl : q - p = 3
  · rw [if_neg (fun z => z (by rw [hl]; decide))]
    suffices ∀ m x, x + m = 3 → (∀ j, j < x → B (p + j) = (an_wd 2).getD j 0) → am_Ji L d 160 24 [some (.ref 140), some (.ref 1002), some (.int (nI 1)), some (.int (nI x))] [] μ F from this 3 0 (by omega) (fun j hj => absurd hj (by omega))
    intro m
    induction m with
    | zero =>
      intro x hx he
      refine v_M_is_2_24 ?_
      rw [am_dp (by omega), am_dp (by omega), if_pos (by rw [show x = 3 by omega]; decide)]
      rw [decide_eq_true ((an_sl_e (an_wd 2) p (q - p)).mpr ⟨hl, fun j hj => he j (by omega)⟩)] at hF
      exact hF
    | succ m ih =>
      intro x hx he
      refine v_M_is_2_24 ?_
      obtain ⟨c1, c2, c3⟩ := an_ch 2 (by omega) x (by show x < 3; omega)
      obtain ⟨b1, b2⟩ := hB (p + x) (by omega)
      have nl : ¬ (nI 3 >>> (0 &&& 31)) ≤ nI x := by
        rw [show (nI 3 >>> (0 &&& 31)) = nI 3 by decide]
        exact nI_ge (by omega) (by omega)
      rw [am_dp (by omega), am_dp (by omega), if_neg nl, if_neg (nI_ne0 (by omega) (by omega)), h15, nI_add, am_gd_in (by omega) (by omega), am_dp (by omega), am_dp (by omega), am_dp (by omega), am_dp (by omega), am_dp (by omega), if_neg (nI_pos (by omega)), if_pos (nI_lt (by omega) (by omega)), am_gd_in (by omega) (by omega), am_cl (by omega), c2, am_gd_t, am_gd_t, c1, am_cl (by omega), b1, nI_add]
      by_cases z : B (p + x) = (an_wd 2).getD x 0
      · rw [if_neg (fun y => y (by rw [z]))]
        refine ih (x + 1) (by omega) (fun j hj => ?_)
        by_cases y : j = x
        · rw [y]; exact z
        · exact he j (by omega)
      · rw [if_pos (fun y => z ((nI_eq (by omega) (by omega)).mp y))]
        exact no _ (fun y => z (((an_sl_e (an_wd 2) p (q - p)).mp y).2 x (by omega)))
  · rw [if_pos (fun z => hl ((nI_eq (a := q - p) (b := 3) (by omega) (by omega)).mp (z.trans (by decide))))]
    exact no 0 (fun y => hl ((an_sl_e (an_wd 2) p (q - p)).mp y).1)
theorem w_isX_3 {L d : Nat} {μ : am_M} {F : Int32 → am_M → Prop} {B : Nat → Nat} {T p q : Nat} (hd : 6 ≤ d) (hB : an_tb 2 μ B T) (hp : p ≤ q) (hq : q ≤ T) (hF : F (an_b (decide (an_sl B p (q - p) = an_wd 3))) μ) : am_Ci L d 54 [.ref 1, .int (nI p), .int (nI q), .ref 1003] μ F := by
  obtain ⟨hT, hB⟩ := hB
  refine v_Reader_isWord_3 ?_
  rw [am_dp (by omega), am_dp (by omega), pk_sub hp]
  by_cases hl : q - p = 4
  · rw [if_pos (by rw [hl]; decide)]
    suffices ∀ m x, x + m = 4 → (∀ j, j < x → B (p + j) = (an_wd 3).getD j 0) → am_Ji L d 54 15 [some (.ref 1), some (.int (nI p)), some (.int (nI q)), some (.ref 1003), some (.int (nI (p + x)))] [] μ F from this 4 0 (by omega) (fun j hj => absurd hj (by omega))
    intro m
    induction m with
    | zero =>
      intro x hx he
      refine v_Reader_isWord_3_15 ?_
      rw [if_pos (nI_le (by omega) (by omega))]
      rw [decide_eq_true ((an_sl_e (an_wd 3) p (q - p)).mpr ⟨hl, fun j hj => he j (by omega)⟩)] at hF
      exact hF
    | succ m ih =>
      intro x hx he
      refine v_Reader_isWord_3_15 ?_
      obtain ⟨c1, c2, c3⟩ := an_ch 3 (by omega) x (by show x < 4; omega)
      obtain ⟨b1, b2⟩ := hB (p + x) (by omega)
      rw [if_neg (nI_ge (by omega) (by omega)), am_gd_in (by omega) (by omega), am_dp (by omega), am_dp (by omega), am_dp (by omega), am_dp (by omega), am_dp (by omega), pk_sub (by omega), show p + x - p = x by omega, if_neg (nI_pos (by omega)), if_pos (nI_lt (by omega) (by omega)), am_gd_in (by omega) (by omega), am_cl (by omega), c2, am_gd_t, am_gd_t, c1, am_cl (by omega), b1]
      by_cases z : B (p + x) = (an_wd 3).getD x 0
      · rw [if_pos (by rw [z]), nI_add]
        refine ih (x + 1) (by omega) (fun j hj => ?_)
        by_cases y : j = x
        · rw [y]; exact z
        · exact he j (by omega)
      · rw [if_neg (fun y => z ((nI_eq (by omega) (by omega)).mp y))]
        rw [decide_eq_false (fun y => z (((an_sl_e (an_wd 3) p (q - p)).mp y).2 x (by omega)))] at hF
        exact hF
  · rw [if_neg (fun z => hl ((nI_eq (a := q - p) (b := 4) (by omega) (by omega)).mp (z.symm.trans (by decide))))]
    rw [decide_eq_false (fun y => hl ((an_sl_e (an_wd 3) p (q - p)).mp y).1)] at hF
    exact hF
theorem w_isM_3 {L d : Nat} {μ : am_M} {F : Int32 → am_M → Prop} {B : Nat → Nat} {T p q : Nat} (hd : 6 ≤ d) (hB : an_tb 146 μ B T) (hp : p ≤ q) (hq : q ≤ T) (h13 : μ 140 13 = nI q) (h15 : μ 140 15 = nI p) (hF : F (an_b (decide (an_sl B p (q - p) = an_wd 3))) μ) : am_Ci L d 160 [.ref 140, .ref 1003] μ F := by
  obtain ⟨hT, hB⟩ := hB
  refine v_M_is_3 ?_
  rw [am_dp (by omega), am_dp (by omega), h13, h15, pk_sub hp]
  have no : ∀ x, ¬ an_sl B p (q - p) = an_wd 3 → am_Ji L d 160 24 [some (.ref 140), some (.ref 1003), some (.int (nI 0)), some (.int (nI x))] [] μ F := by
    intro x hn
    rw [decide_eq_false hn] at hF
    refine v_M_is_3_24 ?_
    rw [am_dp (by omega), am_dp (by omega)]
    split
    · exact hF
    · rw [if_pos nI_0]; exact hF
  by_cases hl : q - p = 4
  · rw [if_neg (fun z => z (by rw [hl]; decide))]
    suffices ∀ m x, x + m = 4 → (∀ j, j < x → B (p + j) = (an_wd 3).getD j 0) → am_Ji L d 160 24 [some (.ref 140), some (.ref 1003), some (.int (nI 1)), some (.int (nI x))] [] μ F from this 4 0 (by omega) (fun j hj => absurd hj (by omega))
    intro m
    induction m with
    | zero =>
      intro x hx he
      refine v_M_is_3_24 ?_
      rw [am_dp (by omega), am_dp (by omega), if_pos (by rw [show x = 4 by omega]; decide)]
      rw [decide_eq_true ((an_sl_e (an_wd 3) p (q - p)).mpr ⟨hl, fun j hj => he j (by omega)⟩)] at hF
      exact hF
    | succ m ih =>
      intro x hx he
      refine v_M_is_3_24 ?_
      obtain ⟨c1, c2, c3⟩ := an_ch 3 (by omega) x (by show x < 4; omega)
      obtain ⟨b1, b2⟩ := hB (p + x) (by omega)
      have nl : ¬ (nI 4 >>> (0 &&& 31)) ≤ nI x := by
        rw [show (nI 4 >>> (0 &&& 31)) = nI 4 by decide]
        exact nI_ge (by omega) (by omega)
      rw [am_dp (by omega), am_dp (by omega), if_neg nl, if_neg (nI_ne0 (by omega) (by omega)), h15, nI_add, am_gd_in (by omega) (by omega), am_dp (by omega), am_dp (by omega), am_dp (by omega), am_dp (by omega), am_dp (by omega), if_neg (nI_pos (by omega)), if_pos (nI_lt (by omega) (by omega)), am_gd_in (by omega) (by omega), am_cl (by omega), c2, am_gd_t, am_gd_t, c1, am_cl (by omega), b1, nI_add]
      by_cases z : B (p + x) = (an_wd 3).getD x 0
      · rw [if_neg (fun y => y (by rw [z]))]
        refine ih (x + 1) (by omega) (fun j hj => ?_)
        by_cases y : j = x
        · rw [y]; exact z
        · exact he j (by omega)
      · rw [if_pos (fun y => z ((nI_eq (by omega) (by omega)).mp y))]
        exact no _ (fun y => z (((an_sl_e (an_wd 3) p (q - p)).mp y).2 x (by omega)))
  · rw [if_pos (fun z => hl ((nI_eq (a := q - p) (b := 4) (by omega) (by omega)).mp (z.trans (by decide))))]
    exact no 0 (fun y => hl ((an_sl_e (an_wd 3) p (q - p)).mp y).1)
theorem w_isX_4 {L d : Nat} {μ : am_M} {F : Int32 → am_M → Prop} {B : Nat → Nat} {T p q : Nat} (hd : 6 ≤ d) (hB : an_tb 2 μ B T) (hp : p ≤ q) (hq : q ≤ T) (hF : F (an_b (decide (an_sl B p (q - p) = an_wd 4))) μ) : am_Ci L d 54 [.ref 1, .int (nI p), .int (nI q), .ref 1004] μ F := by
  obtain ⟨hT, hB⟩ := hB
  refine v_Reader_isWord_4 ?_
  rw [am_dp (by omega), am_dp (by omega), pk_sub hp]
  by_cases hl : q - p = 2
  · rw [if_pos (by rw [hl]; decide)]
    suffices ∀ m x, x + m = 2 → (∀ j, j < x → B (p + j) = (an_wd 4).getD j 0) → am_Ji L d 54 15 [some (.ref 1), some (.int (nI p)), some (.int (nI q)), some (.ref 1004), some (.int (nI (p + x)))] [] μ F from this 2 0 (by omega) (fun j hj => absurd hj (by omega))
    intro m
    induction m with
    | zero =>
      intro x hx he
      refine v_Reader_isWord_4_15 ?_
      rw [if_pos (nI_le (by omega) (by omega))]
      rw [decide_eq_true ((an_sl_e (an_wd 4) p (q - p)).mpr ⟨hl, fun j hj => he j (by omega)⟩)] at hF
      exact hF
    | succ m ih =>
      intro x hx he
      refine v_Reader_isWord_4_15 ?_
      obtain ⟨c1, c2, c3⟩ := an_ch 4 (by omega) x (by show x < 2; omega)
      obtain ⟨b1, b2⟩ := hB (p + x) (by omega)
      rw [if_neg (nI_ge (by omega) (by omega)), am_gd_in (by omega) (by omega), am_dp (by omega), am_dp (by omega), am_dp (by omega), am_dp (by omega), am_dp (by omega), pk_sub (by omega), show p + x - p = x by omega, if_neg (nI_pos (by omega)), if_pos (nI_lt (by omega) (by omega)), am_gd_in (by omega) (by omega), am_cl (by omega), c2, am_gd_t, am_gd_t, c1, am_cl (by omega), b1]
      by_cases z : B (p + x) = (an_wd 4).getD x 0
      · rw [if_pos (by rw [z]), nI_add]
        refine ih (x + 1) (by omega) (fun j hj => ?_)
        by_cases y : j = x
        · rw [y]; exact z
        · exact he j (by omega)
      · rw [if_neg (fun y => z ((nI_eq (by omega) (by omega)).mp y))]
        rw [decide_eq_false (fun y => z (((an_sl_e (an_wd 4) p (q - p)).mp y).2 x (by omega)))] at hF
        exact hF
  · rw [if_neg (fun z => hl ((nI_eq (a := q - p) (b := 2) (by omega) (by omega)).mp (z.symm.trans (by decide))))]
    rw [decide_eq_false (fun y => hl ((an_sl_e (an_wd 4) p (q - p)).mp y).1)] at hF
    exact hF
theorem w_isM_4 {L d : Nat} {μ : am_M} {F : Int32 → am_M → Prop} {B : Nat → Nat} {T p q : Nat} (hd : 6 ≤ d) (hB : an_tb 146 μ B T) (hp : p ≤ q) (hq : q ≤ T) (h13 : μ 140 13 = nI q) (h15 : μ 140 15 = nI p) (hF : F (an_b (decide (an_sl B p (q - p) = an_wd 4))) μ) : am_Ci L d 160 [.ref 140, .ref 1004] μ F := by
  obtain ⟨hT, hB⟩ := hB
  refine v_M_is_4 ?_
  rw [am_dp (by omega), am_dp (by omega), h13, h15, pk_sub hp]
  have no : ∀ x, ¬ an_sl B p (q - p) = an_wd 4 → am_Ji L d 160 24 [some (.ref 140), some (.ref 1004), some (.int (nI 0)), some (.int (nI x))] [] μ F := by
    intro x hn
    rw [decide_eq_false hn] at hF
    refine v_M_is_4_24 ?_
    rw [am_dp (by omega), am_dp (by omega)]
    split
    · exact hF
    · rw [if_pos nI_0]; exact hF
  by_cases hl : q - p = 2
  · rw [if_neg (fun z => z (by rw [hl]; decide))]
    suffices ∀ m x, x + m = 2 → (∀ j, j < x → B (p + j) = (an_wd 4).getD j 0) → am_Ji L d 160 24 [some (.ref 140), some (.ref 1004), some (.int (nI 1)), some (.int (nI x))] [] μ F from this 2 0 (by omega) (fun j hj => absurd hj (by omega))
    intro m
    induction m with
    | zero =>
      intro x hx he
      refine v_M_is_4_24 ?_
      rw [am_dp (by omega), am_dp (by omega), if_pos (by rw [show x = 2 by omega]; decide)]
      rw [decide_eq_true ((an_sl_e (an_wd 4) p (q - p)).mpr ⟨hl, fun j hj => he j (by omega)⟩)] at hF
      exact hF
    | succ m ih =>
      intro x hx he
      refine v_M_is_4_24 ?_
      obtain ⟨c1, c2, c3⟩ := an_ch 4 (by omega) x (by show x < 2; omega)
      obtain ⟨b1, b2⟩ := hB (p + x) (by omega)
      have nl : ¬ (nI 2 >>> (0 &&& 31)) ≤ nI x := by
        rw [show (nI 2 >>> (0 &&& 31)) = nI 2 by decide]
        exact nI_ge (by omega) (by omega)
      rw [am_dp (by omega), am_dp (by omega), if_neg nl, if_neg (nI_ne0 (by omega) (by omega)), h15, nI_add, am_gd_in (by omega) (by omega), am_dp (by omega), am_dp (by omega), am_dp (by omega), am_dp (by omega), am_dp (by omega), if_neg (nI_pos (by omega)), if_pos (nI_lt (by omega) (by omega)), am_gd_in (by omega) (by omega), am_cl (by omega), c2, am_gd_t, am_gd_t, c1, am_cl (by omega), b1, nI_add]
      by_cases z : B (p + x) = (an_wd 4).getD x 0
      · rw [if_neg (fun y => y (by rw [z]))]
        refine ih (x + 1) (by omega) (fun j hj => ?_)
        by_cases y : j = x
        · rw [y]; exact z
        · exact he j (by omega)
      · rw [if_pos (fun y => z ((nI_eq (by omega) (by omega)).mp y))]
        exact no _ (fun y => z (((an_sl_e (an_wd 4) p (q - p)).mp y).2 x (by omega)))
  · rw [if_pos (fun z => hl ((nI_eq (a := q - p) (b := 2) (by omega) (by omega)).mp (z.trans (by decide))))]
    exact no 0 (fun y => hl ((an_sl_e (an_wd 4) p (q - p)).mp y).1)
theorem w_isX_5 {L d : Nat} {μ : am_M} {F : Int32 → am_M → Prop} {B : Nat → Nat} {T p q : Nat} (hd : 6 ≤ d) (hB : an_tb 2 μ B T) (hp : p ≤ q) (hq : q ≤ T) (hF : F (an_b (decide (an_sl B p (q - p) = an_wd 5))) μ) : am_Ci L d 54 [.ref 1, .int (nI p), .int (nI q), .ref 1005] μ F := by
  obtain ⟨hT, hB⟩ := hB
  refine v_Reader_isWord_5 ?_
  rw [am_dp (by omega), am_dp (by omega), pk_sub hp]
  by_cases hl : q - p = 3
  · rw [if_pos (by rw [hl]; decide)]
    suffices ∀ m x, x + m = 3 → (∀ j, j < x → B (p + j) = (an_wd 5).getD j 0) → am_Ji L d 54 15 [some (.ref 1), some (.int (nI p)), some (.int (nI q)), some (.ref 1005), some (.int (nI (p + x)))] [] μ F from this 3 0 (by omega) (fun j hj => absurd hj (by omega))
    intro m
    induction m with
    | zero =>
      intro x hx he
      refine v_Reader_isWord_5_15 ?_
      rw [if_pos (nI_le (by omega) (by omega))]
      rw [decide_eq_true ((an_sl_e (an_wd 5) p (q - p)).mpr ⟨hl, fun j hj => he j (by omega)⟩)] at hF
      exact hF
    | succ m ih =>
      intro x hx he
      refine v_Reader_isWord_5_15 ?_
      obtain ⟨c1, c2, c3⟩ := an_ch 5 (by omega) x (by show x < 3; omega)
      obtain ⟨b1, b2⟩ := hB (p + x) (by omega)
      rw [if_neg (nI_ge (by omega) (by omega)), am_gd_in (by omega) (by omega), am_dp (by omega), am_dp (by omega), am_dp (by omega), am_dp (by omega), am_dp (by omega), pk_sub (by omega), show p + x - p = x by omega, if_neg (nI_pos (by omega)), if_pos (nI_lt (by omega) (by omega)), am_gd_in (by omega) (by omega), am_cl (by omega), c2, am_gd_t, am_gd_t, c1, am_cl (by omega), b1]
      by_cases z : B (p + x) = (an_wd 5).getD x 0
      · rw [if_pos (by rw [z]), nI_add]
        refine ih (x + 1) (by omega) (fun j hj => ?_)
        by_cases y : j = x
        · rw [y]; exact z
        · exact he j (by omega)
      · rw [if_neg (fun y => z ((nI_eq (by omega) (by omega)).mp y))]
        rw [decide_eq_false (fun y => z (((an_sl_e (an_wd 5) p (q - p)).mp y).2 x (by omega)))] at hF
        exact hF
  · rw [if_neg (fun z => hl ((nI_eq (a := q - p) (b := 3) (by omega) (by omega)).mp (z.symm.trans (by decide))))]
    rw [decide_eq_false (fun y => hl ((an_sl_e (an_wd 5) p (q - p)).mp y).1)] at hF
    exact hF
theorem w_isM_5 {L d : Nat} {μ : am_M} {F : Int32 → am_M → Prop} {B : Nat → Nat} {T p q : Nat} (hd : 6 ≤ d) (hB : an_tb 146 μ B T) (hp : p ≤ q) (hq : q ≤ T) (h13 : μ 140 13 = nI q) (h15 : μ 140 15 = nI p) (hF : F (an_b (decide (an_sl B p (q - p) = an_wd 5))) μ) : am_Ci L d 160 [.ref 140, .ref 1005] μ F := by
  obtain ⟨hT, hB⟩ := hB
  refine v_M_is_5 ?_
  rw [am_dp (by omega), am_dp (by omega), h13, h15, pk_sub hp]
  have no : ∀ x, ¬ an_sl B p (q - p) = an_wd 5 → am_Ji L d 160 24 [some (.ref 140), some (.ref 1005), some (.int (nI 0)), some (.int (nI x))] [] μ F := by
    intro x hn
    rw [decide_eq_false hn] at hF
    refine v_M_is_5_24 ?_
    rw [am_dp (by omega), am_dp (by omega)]
    split
    · exact hF
    · rw [if_pos nI_0]; exact hF
  by_cases hl : q - p = 3
  · rw [if_neg (fun z => z (by rw [hl]; decide))]
    suffices ∀ m x, x + m = 3 → (∀ j, j < x → B (p + j) = (an_wd 5).getD j 0) → am_Ji L d 160 24 [some (.ref 140), some (.ref 1005), some (.int (nI 1)), some (.int (nI x))] [] μ F from this 3 0 (by omega) (fun j hj => absurd hj (by omega))
    intro m
    induction m with
    | zero =>
      intro x hx he
      refine v_M_is_5_24 ?_
      rw [am_dp (by omega), am_dp (by omega), if_pos (by rw [show x = 3 by omega]; decide)]
      rw [decide_eq_true ((an_sl_e (an_wd 5) p (q - p)).mpr ⟨hl, fun j hj => he j (by omega)⟩)] at hF
      exact hF
    | succ m ih =>
      intro x hx he
      refine v_M_is_5_24 ?_
      obtain ⟨c1, c2, c3⟩ := an_ch 5 (by omega) x (by show x < 3; omega)
      obtain ⟨b1, b2⟩ := hB (p + x) (by omega)
      have nl : ¬ (nI 3 >>> (0 &&& 31)) ≤ nI x := by
        rw [show (nI 3 >>> (0 &&& 31)) = nI 3 by decide]
        exact nI_ge (by omega) (by omega)
      rw [am_dp (by omega), am_dp (by omega), if_neg nl, if_neg (nI_ne0 (by omega) (by omega)), h15, nI_add, am_gd_in (by omega) (by omega), am_dp (by omega), am_dp (by omega), am_dp (by omega), am_dp (by omega), am_dp (by omega), if_neg (nI_pos (by omega)), if_pos (nI_lt (by omega) (by omega)), am_gd_in (by omega) (by omega), am_cl (by omega), c2, am_gd_t, am_gd_t, c1, am_cl (by omega), b1, nI_add]
      by_cases z : B (p + x) = (an_wd 5).getD x 0
      · rw [if_neg (fun y => y (by rw [z]))]
        refine ih (x + 1) (by omega) (fun j hj => ?_)
        by_cases y : j = x
        · rw [y]; exact z
        · exact he j (by omega)
      · rw [if_pos (fun y => z ((nI_eq (by omega) (by omega)).mp y))]
        exact no _ (fun y => z (((an_sl_e (an_wd 5) p (q - p)).mp y).2 x (by omega)))
  · rw [if_pos (fun z => hl ((nI_eq (a := q - p) (b := 3) (by omega) (by omega)).mp (z.trans (by decide))))]
    exact no 0 (fun y => hl ((an_sl_e (an_wd 5) p (q - p)).mp y).1)
theorem w_isX_6 {L d : Nat} {μ : am_M} {F : Int32 → am_M → Prop} {B : Nat → Nat} {T p q : Nat} (hd : 6 ≤ d) (hB : an_tb 2 μ B T) (hp : p ≤ q) (hq : q ≤ T) (hF : F (an_b (decide (an_sl B p (q - p) = an_wd 6))) μ) : am_Ci L d 54 [.ref 1, .int (nI p), .int (nI q), .ref 1006] μ F := by
  obtain ⟨hT, hB⟩ := hB
  refine v_Reader_isWord_6 ?_
  rw [am_dp (by omega), am_dp (by omega), pk_sub hp]
  by_cases hl : q - p = 3
  · rw [if_pos (by rw [hl]; decide)]
    suffices ∀ m x, x + m = 3 → (∀ j, j < x → B (p + j) = (an_wd 6).getD j 0) → am_Ji L d 54 15 [some (.ref 1), some (.int (nI p)), some (.int (nI q)), some (.ref 1006), some (.int (nI (p + x)))] [] μ F from this 3 0 (by omega) (fun j hj => absurd hj (by omega))
    intro m
    induction m with
    | zero =>
      intro x hx he
      refine v_Reader_isWord_6_15 ?_
      rw [if_pos (nI_le (by omega) (by omega))]
      rw [decide_eq_true ((an_sl_e (an_wd 6) p (q - p)).mpr ⟨hl, fun j hj => he j (by omega)⟩)] at hF
      exact hF
    | succ m ih =>
      intro x hx he
      refine v_Reader_isWord_6_15 ?_
      obtain ⟨c1, c2, c3⟩ := an_ch 6 (by omega) x (by show x < 3; omega)
      obtain ⟨b1, b2⟩ := hB (p + x) (by omega)
      rw [if_neg (nI_ge (by omega) (by omega)), am_gd_in (by omega) (by omega), am_dp (by omega), am_dp (by omega), am_dp (by omega), am_dp (by omega), am_dp (by omega), pk_sub (by omega), show p + x - p = x by omega, if_neg (nI_pos (by omega)), if_pos (nI_lt (by omega) (by omega)), am_gd_in (by omega) (by omega), am_cl (by omega), c2, am_gd_t, am_gd_t, c1, am_cl (by omega), b1]
      by_cases z : B (p + x) = (an_wd 6).getD x 0
      · rw [if_pos (by rw [z]), nI_add]
        refine ih (x + 1) (by omega) (fun j hj => ?_)
        by_cases y : j = x
        · rw [y]; exact z
        · exact he j (by omega)
      · rw [if_neg (fun y => z ((nI_eq (by omega) (by omega)).mp y))]
        rw [decide_eq_false (fun y => z (((an_sl_e (an_wd 6) p (q - p)).mp y).2 x (by omega)))] at hF
        exact hF
  · rw [if_neg (fun z => hl ((nI_eq (a := q - p) (b := 3) (by omega) (by omega)).mp (z.symm.trans (by decide))))]
    rw [decide_eq_false (fun y => hl ((an_sl_e (an_wd 6) p (q - p)).mp y).1)] at hF
    exact hF
theorem w_isM_6 {L d : Nat} {μ : am_M} {F : Int32 → am_M → Prop} {B : Nat → Nat} {T p q : Nat} (hd : 6 ≤ d) (hB : an_tb 146 μ B T) (hp : p ≤ q) (hq : q ≤ T) (h13 : μ 140 13 = nI q) (h15 : μ 140 15 = nI p) (hF : F (an_b (decide (an_sl B p (q - p) = an_wd 6))) μ) : am_Ci L d 160 [.ref 140, .ref 1006] μ F := by
  obtain ⟨hT, hB⟩ := hB
  refine v_M_is_6 ?_
  rw [am_dp (by omega), am_dp (by omega), h13, h15, pk_sub hp]
  have no : ∀ x, ¬ an_sl B p (q - p) = an_wd 6 → am_Ji L d 160 24 [some (.ref 140), some (.ref 1006), some (.int (nI 0)), some (.int (nI x))] [] μ F := by
    intro x hn
    rw [decide_eq_false hn] at hF
    refine v_M_is_6_24 ?_
    rw [am_dp (by omega), am_dp (by omega)]
    split
    · exact hF
    · rw [if_pos nI_0]; exact hF
  by_cases hl : q - p = 3
  · rw [if_neg (fun z => z (by rw [hl]; decide))]
    suffices ∀ m x, x + m = 3 → (∀ j, j < x → B (p + j) = (an_wd 6).getD j 0) → am_Ji L d 160 24 [some (.ref 140), some (.ref 1006), some (.int (nI 1)), some (.int (nI x))] [] μ F from this 3 0 (by omega) (fun j hj => absurd hj (by omega))
    intro m
    induction m with
    | zero =>
      intro x hx he
      refine v_M_is_6_24 ?_
      rw [am_dp (by omega), am_dp (by omega), if_pos (by rw [show x = 3 by omega]; decide)]
      rw [decide_eq_true ((an_sl_e (an_wd 6) p (q - p)).mpr ⟨hl, fun j hj => he j (by omega)⟩)] at hF
      exact hF
    | succ m ih =>
      intro x hx he
      refine v_M_is_6_24 ?_
      obtain ⟨c1, c2, c3⟩ := an_ch 6 (by omega) x (by show x < 3; omega)
      obtain ⟨b1, b2⟩ := hB (p + x) (by omega)
      have nl : ¬ (nI 3 >>> (0 &&& 31)) ≤ nI x := by
        rw [show (nI 3 >>> (0 &&& 31)) = nI 3 by decide]
        exact nI_ge (by omega) (by omega)
      rw [am_dp (by omega), am_dp (by omega), if_neg nl, if_neg (nI_ne0 (by omega) (by omega)), h15, nI_add, am_gd_in (by omega) (by omega), am_dp (by omega), am_dp (by omega), am_dp (by omega), am_dp (by omega), am_dp (by omega), if_neg (nI_pos (by omega)), if_pos (nI_lt (by omega) (by omega)), am_gd_in (by omega) (by omega), am_cl (by omega), c2, am_gd_t, am_gd_t, c1, am_cl (by omega), b1, nI_add]
      by_cases z : B (p + x) = (an_wd 6).getD x 0
      · rw [if_neg (fun y => y (by rw [z]))]
        refine ih (x + 1) (by omega) (fun j hj => ?_)
        by_cases y : j = x
        · rw [y]; exact z
        · exact he j (by omega)
      · rw [if_pos (fun y => z ((nI_eq (by omega) (by omega)).mp y))]
        exact no _ (fun y => z (((an_sl_e (an_wd 6) p (q - p)).mp y).2 x (by omega)))
  · rw [if_pos (fun z => hl ((nI_eq (a := q - p) (b := 3) (by omega) (by omega)).mp (z.trans (by decide))))]
    exact no 0 (fun y => hl ((an_sl_e (an_wd 6) p (q - p)).mp y).1)
theorem w_isX_7 {L d : Nat} {μ : am_M} {F : Int32 → am_M → Prop} {B : Nat → Nat} {T p q : Nat} (hd : 6 ≤ d) (hB : an_tb 2 μ B T) (hp : p ≤ q) (hq : q ≤ T) (hF : F (an_b (decide (an_sl B p (q - p) = an_wd 7))) μ) : am_Ci L d 54 [.ref 1, .int (nI p), .int (nI q), .ref 1007] μ F := by
  obtain ⟨hT, hB⟩ := hB
  refine v_Reader_isWord_7 ?_
  rw [am_dp (by omega), am_dp (by omega), pk_sub hp]
  by_cases hl : q - p = 6
  · rw [if_pos (by rw [hl]; decide)]
    suffices ∀ m x, x + m = 6 → (∀ j, j < x → B (p + j) = (an_wd 7).getD j 0) → am_Ji L d 54 15 [some (.ref 1), some (.int (nI p)), some (.int (nI q)), some (.ref 1007), some (.int (nI (p + x)))] [] μ F from this 6 0 (by omega) (fun j hj => absurd hj (by omega))
    intro m
    induction m with
    | zero =>
      intro x hx he
      refine v_Reader_isWord_7_15 ?_
      rw [if_pos (nI_le (by omega) (by omega))]
      rw [decide_eq_true ((an_sl_e (an_wd 7) p (q - p)).mpr ⟨hl, fun j hj => he j (by omega)⟩)] at hF
      exact hF
    | succ m ih =>
      intro x hx he
      refine v_Reader_isWord_7_15 ?_
      obtain ⟨c1, c2, c3⟩ := an_ch 7 (by omega) x (by show x < 6; omega)
      obtain ⟨b1, b2⟩ := hB (p + x) (by omega)
      rw [if_neg (nI_ge (by omega) (by omega)), am_gd_in (by omega) (by omega), am_dp (by omega), am_dp (by omega), am_dp (by omega), am_dp (by omega), am_dp (by omega), pk_sub (by omega), show p + x - p = x by omega, if_neg (nI_pos (by omega)), if_pos (nI_lt (by omega) (by omega)), am_gd_in (by omega) (by omega), am_cl (by omega), c2, am_gd_t, am_gd_t, c1, am_cl (by omega), b1]
      by_cases z : B (p + x) = (an_wd 7).getD x 0
      · rw [if_pos (by rw [z]), nI_add]
        refine ih (x + 1) (by omega) (fun j hj => ?_)
        by_cases y : j = x
        · rw [y]; exact z
        · exact he j (by omega)
      · rw [if_neg (fun y => z ((nI_eq (by omega) (by omega)).mp y))]
        rw [decide_eq_false (fun y => z (((an_sl_e (an_wd 7) p (q - p)).mp y).2 x (by omega)))] at hF
        exact hF
  · rw [if_neg (fun z => hl ((nI_eq (a := q - p) (b := 6) (by omega) (by omega)).mp (z.symm.trans (by decide))))]
    rw [decide_eq_false (fun y => hl ((an_sl_e (an_wd 7) p (q - p)).mp y).1)] at hF
    exact hF
theorem w_isM_7 {L d : Nat} {μ : am_M} {F : Int32 → am_M → Prop} {B : Nat → Nat} {T p q : Nat} (hd : 6 ≤ d) (hB : an_tb 146 μ B T) (hp : p ≤ q) (hq : q ≤ T) (h13 : μ 140 13 = nI q) (h15 : μ 140 15 = nI p) (hF : F (an_b (decide (an_sl B p (q - p) = an_wd 7))) μ) : am_Ci L d 160 [.ref 140, .ref 1007] μ F := by
  obtain ⟨hT, hB⟩ := hB
  refine v_M_is_7 ?_
  rw [am_dp (by omega), am_dp (by omega), h13, h15, pk_sub hp]
  have no : ∀ x, ¬ an_sl B p (q - p) = an_wd 7 → am_Ji L d 160 24 [some (.ref 140), some (.ref 1007), some (.int (nI 0)), some (.int (nI x))] [] μ F := by
    intro x hn
    rw [decide_eq_false hn] at hF
    refine v_M_is_7_24 ?_
    rw [am_dp (by omega), am_dp (by omega)]
    split
    · exact hF
    · rw [if_pos nI_0]; exact hF
  by_cases hl : q - p = 6
  · rw [if_neg (fun z => z (by rw [hl]; decide))]
    suffices ∀ m x, x + m = 6 → (∀ j, j < x → B (p + j) = (an_wd 7).getD j 0) → am_Ji L d 160 24 [some (.ref 140), some (.ref 1007), some (.int (nI 1)), some (.int (nI x))] [] μ F from this 6 0 (by omega) (fun j hj => absurd hj (by omega))
    intro m
    induction m with
    | zero =>
      intro x hx he
      refine v_M_is_7_24 ?_
      rw [am_dp (by omega), am_dp (by omega), if_pos (by rw [show x = 6 by omega]; decide)]
      rw [decide_eq_true ((an_sl_e (an_wd 7) p (q - p)).mpr ⟨hl, fun j hj => he j (by omega)⟩)] at hF
      exact hF
    | succ m ih =>
      intro x hx he
      refine v_M_is_7_24 ?_
      obtain ⟨c1, c2, c3⟩ := an_ch 7 (by omega) x (by show x < 6; omega)
      obtain ⟨b1, b2⟩ := hB (p + x) (by omega)
      have nl : ¬ (nI 6 >>> (0 &&& 31)) ≤ nI x := by
        rw [show (nI 6 >>> (0 &&& 31)) = nI 6 by decide]
        exact nI_ge (by omega) (by omega)
      rw [am_dp (by omega), am_dp (by omega), if_neg nl, if_neg (nI_ne0 (by omega) (by omega)), h15, nI_add, am_gd_in (by omega) (by omega), am_dp (by omega), am_dp (by omega), am_dp (by omega), am_dp (by omega), am_dp (by omega), if_neg (nI_pos (by omega)), if_pos (nI_lt (by omega) (by omega)), am_gd_in (by omega) (by omega), am_cl (by omega), c2, am_gd_t, am_gd_t, c1, am_cl (by omega), b1, nI_add]
      by_cases z : B (p + x) = (an_wd 7).getD x 0
      · rw [if_neg (fun y => y (by rw [z]))]
        refine ih (x + 1) (by omega) (fun j hj => ?_)
        by_cases y : j = x
        · rw [y]; exact z
        · exact he j (by omega)
      · rw [if_pos (fun y => z ((nI_eq (by omega) (by omega)).mp y))]
        exact no _ (fun y => z (((an_sl_e (an_wd 7) p (q - p)).mp y).2 x (by omega)))
  · rw [if_pos (fun z => hl ((nI_eq (a := q - p) (b := 6) (by omega) (by omega)).mp (z.trans (by decide))))]
    exact no 0 (fun y => hl ((an_sl_e (an_wd 7) p (q - p)).mp y).1)
theorem w_isX_8 {L d : Nat} {μ : am_M} {F : Int32 → am_M → Prop} {B : Nat → Nat} {T p q : Nat} (hd : 6 ≤ d) (hB : an_tb 2 μ B T) (hp : p ≤ q) (hq : q ≤ T) (hF : F (an_b (decide (an_sl B p (q - p) = an_wd 8))) μ) : am_Ci L d 54 [.ref 1, .int (nI p), .int (nI q), .ref 1008] μ F := by
  obtain ⟨hT, hB⟩ := hB
  refine v_Reader_isWord_8 ?_
  rw [am_dp (by omega), am_dp (by omega), pk_sub hp]
  by_cases hl : q - p = 3
  · rw [if_pos (by rw [hl]; decide)]
    suffices ∀ m x, x + m = 3 → (∀ j, j < x → B (p + j) = (an_wd 8).getD j 0) → am_Ji L d 54 15 [some (.ref 1), some (.int (nI p)), some (.int (nI q)), some (.ref 1008), some (.int (nI (p + x)))] [] μ F from this 3 0 (by omega) (fun j hj => absurd hj (by omega))
    intro m
    induction m with
    | zero =>
      intro x hx he
      refine v_Reader_isWord_8_15 ?_
      rw [if_pos (nI_le (by omega) (by omega))]
      rw [decide_eq_true ((an_sl_e (an_wd 8) p (q - p)).mpr ⟨hl, fun j hj => he j (by omega)⟩)] at hF
      exact hF
    | succ m ih =>
      intro x hx he
      refine v_Reader_isWord_8_15 ?_
      obtain ⟨c1, c2, c3⟩ := an_ch 8 (by omega) x (by show x < 3; omega)
      obtain ⟨b1, b2⟩ := hB (p + x) (by omega)
      rw [if_neg (nI_ge (by omega) (by omega)), am_gd_in (by omega) (by omega), am_dp (by omega), am_dp (by omega), am_dp (by omega), am_dp (by omega), am_dp (by omega), pk_sub (by omega), show p + x - p = x by omega, if_neg (nI_pos (by omega)), if_pos (nI_lt (by omega) (by omega)), am_gd_in (by omega) (by omega), am_cl (by omega), c2, am_gd_t, am_gd_t, c1, am_cl (by omega), b1]
      by_cases z : B (p + x) = (an_wd 8).getD x 0
      · rw [if_pos (by rw [z]), nI_add]
        refine ih (x + 1) (by omega) (fun j hj => ?_)
        by_cases y : j = x
        · rw [y]; exact z
        · exact he j (by omega)
      · rw [if_neg (fun y => z ((nI_eq (by omega) (by omega)).mp y))]
        rw [decide_eq_false (fun y => z (((an_sl_e (an_wd 8) p (q - p)).mp y).2 x (by omega)))] at hF
        exact hF
  · rw [if_neg (fun z => hl ((nI_eq (a := q - p) (b := 3) (by omega) (by omega)).mp (z.symm.trans (by decide))))]
    rw [decide_eq_false (fun y => hl ((an_sl_e (an_wd 8) p (q - p)).mp y).1)] at hF
    exact hF
theorem w_isM_8 {L d : Nat} {μ : am_M} {F : Int32 → am_M → Prop} {B : Nat → Nat} {T p q : Nat} (hd : 6 ≤ d) (hB : an_tb 146 μ B T) (hp : p ≤ q) (hq : q ≤ T) (h13 : μ 140 13 = nI q) (h15 : μ 140 15 = nI p) (hF : F (an_b (decide (an_sl B p (q - p) = an_wd 8))) μ) : am_Ci L d 160 [.ref 140, .ref 1008] μ F := by
  obtain ⟨hT, hB⟩ := hB
  refine v_M_is_8 ?_
  rw [am_dp (by omega), am_dp (by omega), h13, h15, pk_sub hp]
  have no : ∀ x, ¬ an_sl B p (q - p) = an_wd 8 → am_Ji L d 160 24 [some (.ref 140), some (.ref 1008), some (.int (nI 0)), some (.int (nI x))] [] μ F := by
    intro x hn
    rw [decide_eq_false hn] at hF
    refine v_M_is_8_24 ?_
    rw [am_dp (by omega), am_dp (by omega)]
    split
    · exact hF
    · rw [if_pos nI_0]; exact hF
  by_cases hl : q - p = 3
  · rw [if_neg (fun z => z (by rw [hl]; decide))]
    suffices ∀ m x, x + m = 3 → (∀ j, j < x → B (p + j) = (an_wd 8).getD j 0) → am_Ji L d 160 24 [some (.ref 140), some (.ref 1008), some (.int (nI 1)), some (.int (nI x))] [] μ F from this 3 0 (by omega) (fun j hj => absurd hj (by omega))
    intro m
    induction m with
    | zero =>
      intro x hx he
      refine v_M_is_8_24 ?_
      rw [am_dp (by omega), am_dp (by omega), if_pos (by rw [show x = 3 by omega]; decide)]
      rw [decide_eq_true ((an_sl_e (an_wd 8) p (q - p)).mpr ⟨hl, fun j hj => he j (by omega)⟩)] at hF
      exact hF
    | succ m ih =>
      intro x hx he
      refine v_M_is_8_24 ?_
      obtain ⟨c1, c2, c3⟩ := an_ch 8 (by omega) x (by show x < 3; omega)
      obtain ⟨b1, b2⟩ := hB (p + x) (by omega)
      have nl : ¬ (nI 3 >>> (0 &&& 31)) ≤ nI x := by
        rw [show (nI 3 >>> (0 &&& 31)) = nI 3 by decide]
        exact nI_ge (by omega) (by omega)
      rw [am_dp (by omega), am_dp (by omega), if_neg nl, if_neg (nI_ne0 (by omega) (by omega)), h15, nI_add, am_gd_in (by omega) (by omega), am_dp (by omega), am_dp (by omega), am_dp (by omega), am_dp (by omega), am_dp (by omega), if_neg (nI_pos (by omega)), if_pos (nI_lt (by omega) (by omega)), am_gd_in (by omega) (by omega), am_cl (by omega), c2, am_gd_t, am_gd_t, c1, am_cl (by omega), b1, nI_add]
      by_cases z : B (p + x) = (an_wd 8).getD x 0
      · rw [if_neg (fun y => y (by rw [z]))]
        refine ih (x + 1) (by omega) (fun j hj => ?_)
        by_cases y : j = x
        · rw [y]; exact z
        · exact he j (by omega)
      · rw [if_pos (fun y => z ((nI_eq (by omega) (by omega)).mp y))]
        exact no _ (fun y => z (((an_sl_e (an_wd 8) p (q - p)).mp y).2 x (by omega)))
  · rw [if_pos (fun z => hl ((nI_eq (a := q - p) (b := 3) (by omega) (by omega)).mp (z.trans (by decide))))]
    exact no 0 (fun y => hl ((an_sl_e (an_wd 8) p (q - p)).mp y).1)
theorem w_isX_9 {L d : Nat} {μ : am_M} {F : Int32 → am_M → Prop} {B : Nat → Nat} {T p q : Nat} (hd : 6 ≤ d) (hB : an_tb 2 μ B T) (hp : p ≤ q) (hq : q ≤ T) (hF : F (an_b (decide (an_sl B p (q - p) = an_wd 9))) μ) : am_Ci L d 54 [.ref 1, .int (nI p), .int (nI q), .ref 1009] μ F := by
  obtain ⟨hT, hB⟩ := hB
  refine v_Reader_isWord_9 ?_
  rw [am_dp (by omega), am_dp (by omega), pk_sub hp]
  by_cases hl : q - p = 4
  · rw [if_pos (by rw [hl]; decide)]
    suffices ∀ m x, x + m = 4 → (∀ j, j < x → B (p + j) = (an_wd 9).getD j 0) → am_Ji L d 54 15 [some (.ref 1), some (.int (nI p)), some (.int (nI q)), some (.ref 1009), some (.int (nI (p + x)))] [] μ F from this 4 0 (by omega) (fun j hj => absurd hj (by omega))
    intro m
    induction m with
    | zero =>
      intro x hx he
      refine v_Reader_isWord_9_15 ?_
      rw [if_pos (nI_le (by omega) (by omega))]
      rw [decide_eq_true ((an_sl_e (an_wd 9) p (q - p)).mpr ⟨hl, fun j hj => he j (by omega)⟩)] at hF
      exact hF
    | succ m ih =>
      intro x hx he
      refine v_Reader_isWord_9_15 ?_
      obtain ⟨c1, c2, c3⟩ := an_ch 9 (by omega) x (by show x < 4; omega)
      obtain ⟨b1, b2⟩ := hB (p + x) (by omega)
      rw [if_neg (nI_ge (by omega) (by omega)), am_gd_in (by omega) (by omega), am_dp (by omega), am_dp (by omega), am_dp (by omega), am_dp (by omega), am_dp (by omega), pk_sub (by omega), show p + x - p = x by omega, if_neg (nI_pos (by omega)), if_pos (nI_lt (by omega) (by omega)), am_gd_in (by omega) (by omega), am_cl (by omega), c2, am_gd_t, am_gd_t, c1, am_cl (by omega), b1]
      by_cases z : B (p + x) = (an_wd 9).getD x 0
      · rw [if_pos (by rw [z]), nI_add]
        refine ih (x + 1) (by omega) (fun j hj => ?_)
        by_cases y : j = x
        · rw [y]; exact z
        · exact he j (by omega)
      · rw [if_neg (fun y => z ((nI_eq (by omega) (by omega)).mp y))]
        rw [decide_eq_false (fun y => z (((an_sl_e (an_wd 9) p (q - p)).mp y).2 x (by omega)))] at hF
        exact hF
  · rw [if_neg (fun z => hl ((nI_eq (a := q - p) (b := 4) (by omega) (by omega)).mp (z.symm.trans (by decide))))]
    rw [decide_eq_false (fun y => hl ((an_sl_e (an_wd 9) p (q - p)).mp y).1)] at hF
    exact hF
theorem w_isM_9 {L d : Nat} {μ : am_M} {F : Int32 → am_M → Prop} {B : Nat → Nat} {T p q : Nat} (hd : 6 ≤ d) (hB : an_tb 146 μ B T) (hp : p ≤ q) (hq : q ≤ T) (h13 : μ 140 13 = nI q) (h15 : μ 140 15 = nI p) (hF : F (an_b (decide (an_sl B p (q - p) = an_wd 9))) μ) : am_Ci L d 160 [.ref 140, .ref 1009] μ F := by
  obtain ⟨hT, hB⟩ := hB
  refine v_M_is_9 ?_
  rw [am_dp (by omega), am_dp (by omega), h13, h15, pk_sub hp]
  have no : ∀ x, ¬ an_sl B p (q - p) = an_wd 9 → am_Ji L d 160 24 [some (.ref 140), some (.ref 1009), some (.int (nI 0)), some (.int (nI x))] [] μ F := by
    intro x hn
    rw [decide_eq_false hn] at hF
    refine v_M_is_9_24 ?_
    rw [am_dp (by omega), am_dp (by omega)]
    split
    · exact hF
    · rw [if_pos nI_0]; exact hF
  by_cases hl : q - p = 4
  · rw [if_neg (fun z => z (by rw [hl]; decide))]
    suffices ∀ m x, x + m = 4 → (∀ j, j < x → B (p + j) = (an_wd 9).getD j 0) → am_Ji L d 160 24 [some (.ref 140), some (.ref 1009), some (.int (nI 1)), some (.int (nI x))] [] μ F from this 4 0 (by omega) (fun j hj => absurd hj (by omega))
    intro m
    induction m with
    | zero =>
      intro x hx he
      refine v_M_is_9_24 ?_
      rw [am_dp (by omega), am_dp (by omega), if_pos (by rw [show x = 4 by omega]; decide)]
      rw [decide_eq_true ((an_sl_e (an_wd 9) p (q - p)).mpr ⟨hl, fun j hj => he j (by omega)⟩)] at hF
      exact hF
    | succ m ih =>
      intro x hx he
      refine v_M_is_9_24 ?_
      obtain ⟨c1, c2, c3⟩ := an_ch 9 (by omega) x (by show x < 4; omega)
      obtain ⟨b1, b2⟩ := hB (p + x) (by omega)
      have nl : ¬ (nI 4 >>> (0 &&& 31)) ≤ nI x := by
        rw [show (nI 4 >>> (0 &&& 31)) = nI 4 by decide]
        exact nI_ge (by omega) (by omega)
      rw [am_dp (by omega), am_dp (by omega), if_neg nl, if_neg (nI_ne0 (by omega) (by omega)), h15, nI_add, am_gd_in (by omega) (by omega), am_dp (by omega), am_dp (by omega), am_dp (by omega), am_dp (by omega), am_dp (by omega), if_neg (nI_pos (by omega)), if_pos (nI_lt (by omega) (by omega)), am_gd_in (by omega) (by omega), am_cl (by omega), c2, am_gd_t, am_gd_t, c1, am_cl (by omega), b1, nI_add]
      by_cases z : B (p + x) = (an_wd 9).getD x 0
      · rw [if_neg (fun y => y (by rw [z]))]
        refine ih (x + 1) (by omega) (fun j hj => ?_)
        by_cases y : j = x
        · rw [y]; exact z
        · exact he j (by omega)
      · rw [if_pos (fun y => z ((nI_eq (by omega) (by omega)).mp y))]
        exact no _ (fun y => z (((an_sl_e (an_wd 9) p (q - p)).mp y).2 x (by omega)))
  · rw [if_pos (fun z => hl ((nI_eq (a := q - p) (b := 4) (by omega) (by omega)).mp (z.trans (by decide))))]
    exact no 0 (fun y => hl ((an_sl_e (an_wd 9) p (q - p)).mp y).1)
theorem w_isX_10 {L d : Nat} {μ : am_M} {F : Int32 → am_M → Prop} {B : Nat → Nat} {T p q : Nat} (hd : 6 ≤ d) (hB : an_tb 2 μ B T) (hp : p ≤ q) (hq : q ≤ T) (hF : F (an_b (decide (an_sl B p (q - p) = an_wd 10))) μ) : am_Ci L d 54 [.ref 1, .int (nI p), .int (nI q), .ref 1010] μ F := by
  obtain ⟨hT, hB⟩ := hB
  refine v_Reader_isWord_10 ?_
  rw [am_dp (by omega), am_dp (by omega), pk_sub hp]
  by_cases hl : q - p = 5
  · rw [if_pos (by rw [hl]; decide)]
    suffices ∀ m x, x + m = 5 → (∀ j, j < x → B (p + j) = (an_wd 10).getD j 0) → am_Ji L d 54 15 [some (.ref 1), some (.int (nI p)), some (.int (nI q)), some (.ref 1010), some (.int (nI (p + x)))] [] μ F from this 5 0 (by omega) (fun j hj => absurd hj (by omega))
    intro m
    induction m with
    | zero =>
      intro x hx he
      refine v_Reader_isWord_10_15 ?_
      rw [if_pos (nI_le (by omega) (by omega))]
      rw [decide_eq_true ((an_sl_e (an_wd 10) p (q - p)).mpr ⟨hl, fun j hj => he j (by omega)⟩)] at hF
      exact hF
    | succ m ih =>
      intro x hx he
      refine v_Reader_isWord_10_15 ?_
      obtain ⟨c1, c2, c3⟩ := an_ch 10 (by omega) x (by show x < 5; omega)
      obtain ⟨b1, b2⟩ := hB (p + x) (by omega)
      rw [if_neg (nI_ge (by omega) (by omega)), am_gd_in (by omega) (by omega), am_dp (by omega), am_dp (by omega), am_dp (by omega), am_dp (by omega), am_dp (by omega), pk_sub (by omega), show p + x - p = x by omega, if_neg (nI_pos (by omega)), if_pos (nI_lt (by omega) (by omega)), am_gd_in (by omega) (by omega), am_cl (by omega), c2, am_gd_t, am_gd_t, c1, am_cl (by omega), b1]
      by_cases z : B (p + x) = (an_wd 10).getD x 0
      · rw [if_pos (by rw [z]), nI_add]
        refine ih (x + 1) (by omega) (fun j hj => ?_)
        by_cases y : j = x
        · rw [y]; exact z
        · exact he j (by omega)
      · rw [if_neg (fun y => z ((nI_eq (by omega) (by omega)).mp y))]
        rw [decide_eq_false (fun y => z (((an_sl_e (an_wd 10) p (q - p)).mp y).2 x (by omega)))] at hF
        exact hF
  · rw [if_neg (fun z => hl ((nI_eq (a := q - p) (b := 5) (by omega) (by omega)).mp (z.symm.trans (by decide))))]
    rw [decide_eq_false (fun y => hl ((an_sl_e (an_wd 10) p (q - p)).mp y).1)] at hF
    exact hF
theorem w_isM_10 {L d : Nat} {μ : am_M} {F : Int32 → am_M → Prop} {B : Nat → Nat} {T p q : Nat} (hd : 6 ≤ d) (hB : an_tb 146 μ B T) (hp : p ≤ q) (hq : q ≤ T) (h13 : μ 140 13 = nI q) (h15 : μ 140 15 = nI p) (hF : F (an_b (decide (an_sl B p (q - p) = an_wd 10))) μ) : am_Ci L d 160 [.ref 140, .ref 1010] μ F := by
  obtain ⟨hT, hB⟩ := hB
  refine v_M_is_10 ?_
  rw [am_dp (by omega), am_dp (by omega), h13, h15, pk_sub hp]
  have no : ∀ x, ¬ an_sl B p (q - p) = an_wd 10 → am_Ji L d 160 24 [some (.ref 140), some (.ref 1010), some (.int (nI 0)), some (.int (nI x))] [] μ F := by
    intro x hn
    rw [decide_eq_false hn] at hF
    refine v_M_is_10_24 ?_
    rw [am_dp (by omega), am_dp (by omega)]
    split
    · exact hF
    · rw [if_pos nI_0]; exact hF
  by_cases hl : q - p = 5
  · rw [if_neg (fun z => z (by rw [hl]; decide))]
    suffices ∀ m x, x + m = 5 → (∀ j, j < x → B (p + j) = (an_wd 10).getD j 0) → am_Ji L d 160 24 [some (.ref 140), some (.ref 1010), some (.int (nI 1)), some (.int (nI x))] [] μ F from this 5 0 (by omega) (fun j hj => absurd hj (by omega))
    intro m
    induction m with
    | zero =>
      intro x hx he
      refine v_M_is_10_24 ?_
      rw [am_dp (by omega), am_dp (by omega), if_pos (by rw [show x = 5 by omega]; decide)]
      rw [decide_eq_true ((an_sl_e (an_wd 10) p (q - p)).mpr ⟨hl, fun j hj => he j (by omega)⟩)] at hF
      exact hF
    | succ m ih =>
      intro x hx he
      refine v_M_is_10_24 ?_
      obtain ⟨c1, c2, c3⟩ := an_ch 10 (by omega) x (by show x < 5; omega)
      obtain ⟨b1, b2⟩ := hB (p + x) (by omega)
      have nl : ¬ (nI 5 >>> (0 &&& 31)) ≤ nI x := by
        rw [show (nI 5 >>> (0 &&& 31)) = nI 5 by decide]
        exact nI_ge (by omega) (by omega)
      rw [am_dp (by omega), am_dp (by omega), if_neg nl, if_neg (nI_ne0 (by omega) (by omega)), h15, nI_add, am_gd_in (by omega) (by omega), am_dp (by omega), am_dp (by omega), am_dp (by omega), am_dp (by omega), am_dp (by omega), if_neg (nI_pos (by omega)), if_pos (nI_lt (by omega) (by omega)), am_gd_in (by omega) (by omega), am_cl (by omega), c2, am_gd_t, am_gd_t, c1, am_cl (by omega), b1, nI_add]
      by_cases z : B (p + x) = (an_wd 10).getD x 0
      · rw [if_neg (fun y => y (by rw [z]))]
        refine ih (x + 1) (by omega) (fun j hj => ?_)
        by_cases y : j = x
        · rw [y]; exact z
        · exact he j (by omega)
      · rw [if_pos (fun y => z ((nI_eq (by omega) (by omega)).mp y))]
        exact no _ (fun y => z (((an_sl_e (an_wd 10) p (q - p)).mp y).2 x (by omega)))
  · rw [if_pos (fun z => hl ((nI_eq (a := q - p) (b := 5) (by omega) (by omega)).mp (z.trans (by decide))))]
    exact no 0 (fun y => hl ((an_sl_e (an_wd 10) p (q - p)).mp y).1)
theorem w_isX_11 {L d : Nat} {μ : am_M} {F : Int32 → am_M → Prop} {B : Nat → Nat} {T p q : Nat} (hd : 6 ≤ d) (hB : an_tb 2 μ B T) (hp : p ≤ q) (hq : q ≤ T) (hF : F (an_b (decide (an_sl B p (q - p) = an_wd 11))) μ) : am_Ci L d 54 [.ref 1, .int (nI p), .int (nI q), .ref 1011] μ F := by
  obtain ⟨hT, hB⟩ := hB
  refine v_Reader_isWord_11 ?_
  rw [am_dp (by omega), am_dp (by omega), pk_sub hp]
  by_cases hl : q - p = 7
  · rw [if_pos (by rw [hl]; decide)]
    suffices ∀ m x, x + m = 7 → (∀ j, j < x → B (p + j) = (an_wd 11).getD j 0) → am_Ji L d 54 15 [some (.ref 1), some (.int (nI p)), some (.int (nI q)), some (.ref 1011), some (.int (nI (p + x)))] [] μ F from this 7 0 (by omega) (fun j hj => absurd hj (by omega))
    intro m
    induction m with
    | zero =>
      intro x hx he
      refine v_Reader_isWord_11_15 ?_
      rw [if_pos (nI_le (by omega) (by omega))]
      rw [decide_eq_true ((an_sl_e (an_wd 11) p (q - p)).mpr ⟨hl, fun j hj => he j (by omega)⟩)] at hF
      exact hF
    | succ m ih =>
      intro x hx he
      refine v_Reader_isWord_11_15 ?_
      obtain ⟨c1, c2, c3⟩ := an_ch 11 (by omega) x (by show x < 7; omega)
      obtain ⟨b1, b2⟩ := hB (p + x) (by omega)
      rw [if_neg (nI_ge (by omega) (by omega)), am_gd_in (by omega) (by omega), am_dp (by omega), am_dp (by omega), am_dp (by omega), am_dp (by omega), am_dp (by omega), pk_sub (by omega), show p + x - p = x by omega, if_neg (nI_pos (by omega)), if_pos (nI_lt (by omega) (by omega)), am_gd_in (by omega) (by omega), am_cl (by omega), c2, am_gd_t, am_gd_t, c1, am_cl (by omega), b1]
      by_cases z : B (p + x) = (an_wd 11).getD x 0
      · rw [if_pos (by rw [z]), nI_add]
        refine ih (x + 1) (by omega) (fun j hj => ?_)
        by_cases y : j = x
        · rw [y]; exact z
        · exact he j (by omega)
      · rw [if_neg (fun y => z ((nI_eq (by omega) (by omega)).mp y))]
        rw [decide_eq_false (fun y => z (((an_sl_e (an_wd 11) p (q - p)).mp y).2 x (by omega)))] at hF
        exact hF
  · rw [if_neg (fun z => hl ((nI_eq (a := q - p) (b := 7) (by omega) (by omega)).mp (z.symm.trans (by decide))))]
    rw [decide_eq_false (fun y => hl ((an_sl_e (an_wd 11) p (q - p)).mp y).1)] at hF
    exact hF
theorem w_isM_11 {L d : Nat} {μ : am_M} {F : Int32 → am_M → Prop} {B : Nat → Nat} {T p q : Nat} (hd : 6 ≤ d) (hB : an_tb 146 μ B T) (hp : p ≤ q) (hq : q ≤ T) (h13 : μ 140 13 = nI q) (h15 : μ 140 15 = nI p) (hF : F (an_b (decide (an_sl B p (q - p) = an_wd 11))) μ) : am_Ci L d 160 [.ref 140, .ref 1011] μ F := by
  obtain ⟨hT, hB⟩ := hB
  refine v_M_is_11 ?_
  rw [am_dp (by omega), am_dp (by omega), h13, h15, pk_sub hp]
  have no : ∀ x, ¬ an_sl B p (q - p) = an_wd 11 → am_Ji L d 160 24 [some (.ref 140), some (.ref 1011), some (.int (nI 0)), some (.int (nI x))] [] μ F := by
    intro x hn
    rw [decide_eq_false hn] at hF
    refine v_M_is_11_24 ?_
    rw [am_dp (by omega), am_dp (by omega)]
    split
    · exact hF
    · rw [if_pos nI_0]; exact hF
  by_cases hl : q - p = 7
  · rw [if_neg (fun z => z (by rw [hl]; decide))]
    suffices ∀ m x, x + m = 7 → (∀ j, j < x → B (p + j) = (an_wd 11).getD j 0) → am_Ji L d 160 24 [some (.ref 140), some (.ref 1011), some (.int (nI 1)), some (.int (nI x))] [] μ F from this 7 0 (by omega) (fun j hj => absurd hj (by omega))
    intro m
    induction m with
    | zero =>
      intro x hx he
      refine v_M_is_11_24 ?_
      rw [am_dp (by omega), am_dp (by omega), if_pos (by rw [show x = 7 by omega]; decide)]
      rw [decide_eq_true ((an_sl_e (an_wd 11) p (q - p)).mpr ⟨hl, fun j hj => he j (by omega)⟩)] at hF
      exact hF
    | succ m ih =>
      intro x hx he
      refine v_M_is_11_24 ?_
      obtain ⟨c1, c2, c3⟩ := an_ch 11 (by omega) x (by show x < 7; omega)
      obtain ⟨b1, b2⟩ := hB (p + x) (by omega)
      have nl : ¬ (nI 7 >>> (0 &&& 31)) ≤ nI x := by
        rw [show (nI 7 >>> (0 &&& 31)) = nI 7 by decide]
        exact nI_ge (by omega) (by omega)
      rw [am_dp (by omega), am_dp (by omega), if_neg nl, if_neg (nI_ne0 (by omega) (by omega)), h15, nI_add, am_gd_in (by omega) (by omega), am_dp (by omega), am_dp (by omega), am_dp (by omega), am_dp (by omega), am_dp (by omega), if_neg (nI_pos (by omega)), if_pos (nI_lt (by omega) (by omega)), am_gd_in (by omega) (by omega), am_cl (by omega), c2, am_gd_t, am_gd_t, c1, am_cl (by omega), b1, nI_add]
      by_cases z : B (p + x) = (an_wd 11).getD x 0
      · rw [if_neg (fun y => y (by rw [z]))]
        refine ih (x + 1) (by omega) (fun j hj => ?_)
        by_cases y : j = x
        · rw [y]; exact z
        · exact he j (by omega)
      · rw [if_pos (fun y => z ((nI_eq (by omega) (by omega)).mp y))]
        exact no _ (fun y => z (((an_sl_e (an_wd 11) p (q - p)).mp y).2 x (by omega)))
  · rw [if_pos (fun z => hl ((nI_eq (a := q - p) (b := 7) (by omega) (by omega)).mp (z.trans (by decide))))]
    exact no 0 (fun y => hl ((an_sl_e (an_wd 11) p (q - p)).mp y).1)
theorem w_isX_12 {L d : Nat} {μ : am_M} {F : Int32 → am_M → Prop} {B : Nat → Nat} {T p q : Nat} (hd : 6 ≤ d) (hB : an_tb 2 μ B T) (hp : p ≤ q) (hq : q ≤ T) (hF : F (an_b (decide (an_sl B p (q - p) = an_wd 12))) μ) : am_Ci L d 54 [.ref 1, .int (nI p), .int (nI q), .ref 1012] μ F := by
  obtain ⟨hT, hB⟩ := hB
  refine v_Reader_isWord_12 ?_
  rw [am_dp (by omega), am_dp (by omega), pk_sub hp]
  by_cases hl : q - p = 4
  · rw [if_pos (by rw [hl]; decide)]
    suffices ∀ m x, x + m = 4 → (∀ j, j < x → B (p + j) = (an_wd 12).getD j 0) → am_Ji L d 54 15 [some (.ref 1), some (.int (nI p)), some (.int (nI q)), some (.ref 1012), some (.int (nI (p + x)))] [] μ F from this 4 0 (by omega) (fun j hj => absurd hj (by omega))
    intro m
    induction m with
    | zero =>
      intro x hx he
      refine v_Reader_isWord_12_15 ?_
      rw [if_pos (nI_le (by omega) (by omega))]
      rw [decide_eq_true ((an_sl_e (an_wd 12) p (q - p)).mpr ⟨hl, fun j hj => he j (by omega)⟩)] at hF
      exact hF
    | succ m ih =>
      intro x hx he
      refine v_Reader_isWord_12_15 ?_
      obtain ⟨c1, c2, c3⟩ := an_ch 12 (by omega) x (by show x < 4; omega)
      obtain ⟨b1, b2⟩ := hB (p + x) (by omega)
      rw [if_neg (nI_ge (by omega) (by omega)), am_gd_in (by omega) (by omega), am_dp (by omega), am_dp (by omega), am_dp (by omega), am_dp (by omega), am_dp (by omega), pk_sub (by omega), show p + x - p = x by omega, if_neg (nI_pos (by omega)), if_pos (nI_lt (by omega) (by omega)), am_gd_in (by omega) (by omega), am_cl (by omega), c2, am_gd_t, am_gd_t, c1, am_cl (by omega), b1]
      by_cases z : B (p + x) = (an_wd 12).getD x 0
      · rw [if_pos (by rw [z]), nI_add]
        refine ih (x + 1) (by omega) (fun j hj => ?_)
        by_cases y : j = x
        · rw [y]; exact z
        · exact he j (by omega)
      · rw [if_neg (fun y => z ((nI_eq (by omega) (by omega)).mp y))]
        rw [decide_eq_false (fun y => z (((an_sl_e (an_wd 12) p (q - p)).mp y).2 x (by omega)))] at hF
        exact hF
  · rw [if_neg (fun z => hl ((nI_eq (a := q - p) (b := 4) (by omega) (by omega)).mp (z.symm.trans (by decide))))]
    rw [decide_eq_false (fun y => hl ((an_sl_e (an_wd 12) p (q - p)).mp y).1)] at hF
    exact hF
theorem w_isM_12 {L d : Nat} {μ : am_M} {F : Int32 → am_M → Prop} {B : Nat → Nat} {T p q : Nat} (hd : 6 ≤ d) (hB : an_tb 146 μ B T) (hp : p ≤ q) (hq : q ≤ T) (h13 : μ 140 13 = nI q) (h15 : μ 140 15 = nI p) (hF : F (an_b (decide (an_sl B p (q - p) = an_wd 12))) μ) : am_Ci L d 160 [.ref 140, .ref 1012] μ F := by
  obtain ⟨hT, hB⟩ := hB
  refine v_M_is_12 ?_
  rw [am_dp (by omega), am_dp (by omega), h13, h15, pk_sub hp]
  have no : ∀ x, ¬ an_sl B p (q - p) = an_wd 12 → am_Ji L d 160 24 [some (.ref 140), some (.ref 1012), some (.int (nI 0)), some (.int (nI x))] [] μ F := by
    intro x hn
    rw [decide_eq_false hn] at hF
    refine v_M_is_12_24 ?_
    rw [am_dp (by omega), am_dp (by omega)]
    split
    · exact hF
    · rw [if_pos nI_0]; exact hF
  by_cases hl : q - p = 4
  · rw [if_neg (fun z => z (by rw [hl]; decide))]
    suffices ∀ m x, x + m = 4 → (∀ j, j < x → B (p + j) = (an_wd 12).getD j 0) → am_Ji L d 160 24 [some (.ref 140), some (.ref 1012), some (.int (nI 1)), some (.int (nI x))] [] μ F from this 4 0 (by omega) (fun j hj => absurd hj (by omega))
    intro m
    induction m with
    | zero =>
      intro x hx he
      refine v_M_is_12_24 ?_
      rw [am_dp (by omega), am_dp (by omega), if_pos (by rw [show x = 4 by omega]; decide)]
      rw [decide_eq_true ((an_sl_e (an_wd 12) p (q - p)).mpr ⟨hl, fun j hj => he j (by omega)⟩)] at hF
      exact hF
    | succ m ih =>
      intro x hx he
      refine v_M_is_12_24 ?_
      obtain ⟨c1, c2, c3⟩ := an_ch 12 (by omega) x (by show x < 4; omega)
      obtain ⟨b1, b2⟩ := hB (p + x) (by omega)
      have nl : ¬ (nI 4 >>> (0 &&& 31)) ≤ nI x := by
        rw [show (nI 4 >>> (0 &&& 31)) = nI 4 by decide]
        exact nI_ge (by omega) (by omega)
      rw [am_dp (by omega), am_dp (by omega), if_neg nl, if_neg (nI_ne0 (by omega) (by omega)), h15, nI_add, am_gd_in (by omega) (by omega), am_dp (by omega), am_dp (by omega), am_dp (by omega), am_dp (by omega), am_dp (by omega), if_neg (nI_pos (by omega)), if_pos (nI_lt (by omega) (by omega)), am_gd_in (by omega) (by omega), am_cl (by omega), c2, am_gd_t, am_gd_t, c1, am_cl (by omega), b1, nI_add]
      by_cases z : B (p + x) = (an_wd 12).getD x 0
      · rw [if_neg (fun y => y (by rw [z]))]
        refine ih (x + 1) (by omega) (fun j hj => ?_)
        by_cases y : j = x
        · rw [y]; exact z
        · exact he j (by omega)
      · rw [if_pos (fun y => z ((nI_eq (by omega) (by omega)).mp y))]
        exact no _ (fun y => z (((an_sl_e (an_wd 12) p (q - p)).mp y).2 x (by omega)))
  · rw [if_pos (fun z => hl ((nI_eq (a := q - p) (b := 4) (by omega) (by omega)).mp (z.trans (by decide))))]
    exact no 0 (fun y => hl ((an_sl_e (an_wd 12) p (q - p)).mp y).1)
theorem w_isX_13 {L d : Nat} {μ : am_M} {F : Int32 → am_M → Prop} {B : Nat → Nat} {T p q : Nat} (hd : 6 ≤ d) (hB : an_tb 2 μ B T) (hp : p ≤ q) (hq : q ≤ T) (hF : F (an_b (decide (an_sl B p (q - p) = an_wd 13))) μ) : am_Ci L d 54 [.ref 1, .int (nI p), .int (nI q), .ref 1013] μ F := by
  obtain ⟨hT, hB⟩ := hB
  refine v_Reader_isWord_13 ?_
  rw [am_dp (by omega), am_dp (by omega), pk_sub hp]
  by_cases hl : q - p = 5
  · rw [if_pos (by rw [hl]; decide)]
    suffices ∀ m x, x + m = 5 → (∀ j, j < x → B (p + j) = (an_wd 13).getD j 0) → am_Ji L d 54 15 [some (.ref 1), some (.int (nI p)), some (.int (nI q)), some (.ref 1013), some (.int (nI (p + x)))] [] μ F from this 5 0 (by omega) (fun j hj => absurd hj (by omega))
    intro m
    induction m with
    | zero =>
      intro x hx he
      refine v_Reader_isWord_13_15 ?_
      rw [if_pos (nI_le (by omega) (by omega))]
      rw [decide_eq_true ((an_sl_e (an_wd 13) p (q - p)).mpr ⟨hl, fun j hj => he j (by omega)⟩)] at hF
      exact hF
    | succ m ih =>
      intro x hx he
      refine v_Reader_isWord_13_15 ?_
      obtain ⟨c1, c2, c3⟩ := an_ch 13 (by omega) x (by show x < 5; omega)
      obtain ⟨b1, b2⟩ := hB (p + x) (by omega)
      rw [if_neg (nI_ge (by omega) (by omega)), am_gd_in (by omega) (by omega), am_dp (by omega), am_dp (by omega), am_dp (by omega), am_dp (by omega), am_dp (by omega), pk_sub (by omega), show p + x - p = x by omega, if_neg (nI_pos (by omega)), if_pos (nI_lt (by omega) (by omega)), am_gd_in (by omega) (by omega), am_cl (by omega), c2, am_gd_t, am_gd_t, c1, am_cl (by omega), b1]
      by_cases z : B (p + x) = (an_wd 13).getD x 0
      · rw [if_pos (by rw [z]), nI_add]
        refine ih (x + 1) (by omega) (fun j hj => ?_)
        by_cases y : j = x
        · rw [y]; exact z
        · exact he j (by omega)
      · rw [if_neg (fun y => z ((nI_eq (by omega) (by omega)).mp y))]
        rw [decide_eq_false (fun y => z (((an_sl_e (an_wd 13) p (q - p)).mp y).2 x (by omega)))] at hF
        exact hF
  · rw [if_neg (fun z => hl ((nI_eq (a := q - p) (b := 5) (by omega) (by omega)).mp (z.symm.trans (by decide))))]
    rw [decide_eq_false (fun y => hl ((an_sl_e (an_wd 13) p (q - p)).mp y).1)] at hF
    exact hF
theorem w_isM_13 {L d : Nat} {μ : am_M} {F : Int32 → am_M → Prop} {B : Nat → Nat} {T p q : Nat} (hd : 6 ≤ d) (hB : an_tb 146 μ B T) (hp : p ≤ q) (hq : q ≤ T) (h13 : μ 140 13 = nI q) (h15 : μ 140 15 = nI p) (hF : F (an_b (decide (an_sl B p (q - p) = an_wd 13))) μ) : am_Ci L d 160 [.ref 140, .ref 1013] μ F := by
  obtain ⟨hT, hB⟩ := hB
  refine v_M_is_13 ?_
  rw [am_dp (by omega), am_dp (by omega), h13, h15, pk_sub hp]
  have no : ∀ x, ¬ an_sl B p (q - p) = an_wd 13 → am_Ji L d 160 24 [some (.ref 140), some (.ref 1013), some (.int (nI 0)), some (.int (nI x))] [] μ F := by
    intro x hn
    rw [decide_eq_false hn] at hF
    refine v_M_is_13_24 ?_
    rw [am_dp (by omega), am_dp (by omega)]
    split
    · exact hF
    · rw [if_pos nI_0]; exact hF
  by_cases hl : q - p = 5
  · rw [if_neg (fun z => z (by rw [hl]; decide))]
    suffices ∀ m x, x + m = 5 → (∀ j, j < x → B (p + j) = (an_wd 13).getD j 0) → am_Ji L d 160 24 [some (.ref 140), some (.ref 1013), some (.int (nI 1)), some (.int (nI x))] [] μ F from this 5 0 (by omega) (fun j hj => absurd hj (by omega))
    intro m
    induction m with
    | zero =>
      intro x hx he
      refine v_M_is_13_24 ?_
      rw [am_dp (by omega), am_dp (by omega), if_pos (by rw [show x = 5 by omega]; decide)]
      rw [decide_eq_true ((an_sl_e (an_wd 13) p (q - p)).mpr ⟨hl, fun j hj => he j (by omega)⟩)] at hF
      exact hF
    | succ m ih =>
      intro x hx he
      refine v_M_is_13_24 ?_
      obtain ⟨c1, c2, c3⟩ := an_ch 13 (by omega) x (by show x < 5; omega)
      obtain ⟨b1, b2⟩ := hB (p + x) (by omega)
      have nl : ¬ (nI 5 >>> (0 &&& 31)) ≤ nI x := by
        rw [show (nI 5 >>> (0 &&& 31)) = nI 5 by decide]
        exact nI_ge (by omega) (by omega)
      rw [am_dp (by omega), am_dp (by omega), if_neg nl, if_neg (nI_ne0 (by omega) (by omega)), h15, nI_add, am_gd_in (by omega) (by omega), am_dp (by omega), am_dp (by omega), am_dp (by omega), am_dp (by omega), am_dp (by omega), if_neg (nI_pos (by omega)), if_pos (nI_lt (by omega) (by omega)), am_gd_in (by omega) (by omega), am_cl (by omega), c2, am_gd_t, am_gd_t, c1, am_cl (by omega), b1, nI_add]
      by_cases z : B (p + x) = (an_wd 13).getD x 0
      · rw [if_neg (fun y => y (by rw [z]))]
        refine ih (x + 1) (by omega) (fun j hj => ?_)
        by_cases y : j = x
        · rw [y]; exact z
        · exact he j (by omega)
      · rw [if_pos (fun y => z ((nI_eq (by omega) (by omega)).mp y))]
        exact no _ (fun y => z (((an_sl_e (an_wd 13) p (q - p)).mp y).2 x (by omega)))
  · rw [if_pos (fun z => hl ((nI_eq (a := q - p) (b := 5) (by omega) (by omega)).mp (z.trans (by decide))))]
    exact no 0 (fun y => hl ((an_sl_e (an_wd 13) p (q - p)).mp y).1)
theorem w_isX_14 {L d : Nat} {μ : am_M} {F : Int32 → am_M → Prop} {B : Nat → Nat} {T p q : Nat} (hd : 6 ≤ d) (hB : an_tb 2 μ B T) (hp : p ≤ q) (hq : q ≤ T) (hF : F (an_b (decide (an_sl B p (q - p) = an_wd 14))) μ) : am_Ci L d 54 [.ref 1, .int (nI p), .int (nI q), .ref 1014] μ F := by
  obtain ⟨hT, hB⟩ := hB
  refine v_Reader_isWord_14 ?_
  rw [am_dp (by omega), am_dp (by omega), pk_sub hp]
  by_cases hl : q - p = 3
  · rw [if_pos (by rw [hl]; decide)]
    suffices ∀ m x, x + m = 3 → (∀ j, j < x → B (p + j) = (an_wd 14).getD j 0) → am_Ji L d 54 15 [some (.ref 1), some (.int (nI p)), some (.int (nI q)), some (.ref 1014), some (.int (nI (p + x)))] [] μ F from this 3 0 (by omega) (fun j hj => absurd hj (by omega))
    intro m
    induction m with
    | zero =>
      intro x hx he
      refine v_Reader_isWord_14_15 ?_
      rw [if_pos (nI_le (by omega) (by omega))]
      rw [decide_eq_true ((an_sl_e (an_wd 14) p (q - p)).mpr ⟨hl, fun j hj => he j (by omega)⟩)] at hF
      exact hF
    | succ m ih =>
      intro x hx he
      refine v_Reader_isWord_14_15 ?_
      obtain ⟨c1, c2, c3⟩ := an_ch 14 (by omega) x (by show x < 3; omega)
      obtain ⟨b1, b2⟩ := hB (p + x) (by omega)
      rw [if_neg (nI_ge (by omega) (by omega)), am_gd_in (by omega) (by omega), am_dp (by omega), am_dp (by omega), am_dp (by omega), am_dp (by omega), am_dp (by omega), pk_sub (by omega), show p + x - p = x by omega, if_neg (nI_pos (by omega)), if_pos (nI_lt (by omega) (by omega)), am_gd_in (by omega) (by omega), am_cl (by omega), c2, am_gd_t, am_gd_t, c1, am_cl (by omega), b1]
      by_cases z : B (p + x) = (an_wd 14).getD x 0
      · rw [if_pos (by rw [z]), nI_add]
        refine ih (x + 1) (by omega) (fun j hj => ?_)
        by_cases y : j = x
        · rw [y]; exact z
        · exact he j (by omega)
      · rw [if_neg (fun y => z ((nI_eq (by omega) (by omega)).mp y))]
        rw [decide_eq_false (fun y => z (((an_sl_e (an_wd 14) p (q - p)).mp y).2 x (by omega)))] at hF
        exact hF
  · rw [if_neg (fun z => hl ((nI_eq (a := q - p) (b := 3) (by omega) (by omega)).mp (z.symm.trans (by decide))))]
    rw [decide_eq_false (fun y => hl ((an_sl_e (an_wd 14) p (q - p)).mp y).1)] at hF
    exact hF
theorem w_isM_14 {L d : Nat} {μ : am_M} {F : Int32 → am_M → Prop} {B : Nat → Nat} {T p q : Nat} (hd : 6 ≤ d) (hB : an_tb 146 μ B T) (hp : p ≤ q) (hq : q ≤ T) (h13 : μ 140 13 = nI q) (h15 : μ 140 15 = nI p) (hF : F (an_b (decide (an_sl B p (q - p) = an_wd 14))) μ) : am_Ci L d 160 [.ref 140, .ref 1014] μ F := by
  obtain ⟨hT, hB⟩ := hB
  refine v_M_is_14 ?_
  rw [am_dp (by omega), am_dp (by omega), h13, h15, pk_sub hp]
  have no : ∀ x, ¬ an_sl B p (q - p) = an_wd 14 → am_Ji L d 160 24 [some (.ref 140), some (.ref 1014), some (.int (nI 0)), some (.int (nI x))] [] μ F := by
    intro x hn
    rw [decide_eq_false hn] at hF
    refine v_M_is_14_24 ?_
    rw [am_dp (by omega), am_dp (by omega)]
    split
    · exact hF
    · rw [if_pos nI_0]; exact hF
  by_cases hl : q - p = 3
  · rw [if_neg (fun z => z (by rw [hl]; decide))]
    suffices ∀ m x, x + m = 3 → (∀ j, j < x → B (p + j) = (an_wd 14).getD j 0) → am_Ji L d 160 24 [some (.ref 140), some (.ref 1014), some (.int (nI 1)), some (.int (nI x))] [] μ F from this 3 0 (by omega) (fun j hj => absurd hj (by omega))
    intro m
    induction m with
    | zero =>
      intro x hx he
      refine v_M_is_14_24 ?_
      rw [am_dp (by omega), am_dp (by omega), if_pos (by rw [show x = 3 by omega]; decide)]
      rw [decide_eq_true ((an_sl_e (an_wd 14) p (q - p)).mpr ⟨hl, fun j hj => he j (by omega)⟩)] at hF
      exact hF
    | succ m ih =>
      intro x hx he
      refine v_M_is_14_24 ?_
      obtain ⟨c1, c2, c3⟩ := an_ch 14 (by omega) x (by show x < 3; omega)
      obtain ⟨b1, b2⟩ := hB (p + x) (by omega)
      have nl : ¬ (nI 3 >>> (0 &&& 31)) ≤ nI x := by
        rw [show (nI 3 >>> (0 &&& 31)) = nI 3 by decide]
        exact nI_ge (by omega) (by omega)
      rw [am_dp (by omega), am_dp (by omega), if_neg nl, if_neg (nI_ne0 (by omega) (by omega)), h15, nI_add, am_gd_in (by omega) (by omega), am_dp (by omega), am_dp (by omega), am_dp (by omega), am_dp (by omega), am_dp (by omega), if_neg (nI_pos (by omega)), if_pos (nI_lt (by omega) (by omega)), am_gd_in (by omega) (by omega), am_cl (by omega), c2, am_gd_t, am_gd_t, c1, am_cl (by omega), b1, nI_add]
      by_cases z : B (p + x) = (an_wd 14).getD x 0
      · rw [if_neg (fun y => y (by rw [z]))]
        refine ih (x + 1) (by omega) (fun j hj => ?_)
        by_cases y : j = x
        · rw [y]; exact z
        · exact he j (by omega)
      · rw [if_pos (fun y => z ((nI_eq (by omega) (by omega)).mp y))]
        exact no _ (fun y => z (((an_sl_e (an_wd 14) p (q - p)).mp y).2 x (by omega)))
  · rw [if_pos (fun z => hl ((nI_eq (a := q - p) (b := 3) (by omega) (by omega)).mp (z.trans (by decide))))]
    exact no 0 (fun y => hl ((an_sl_e (an_wd 14) p (q - p)).mp y).1)
theorem w_isX_15 {L d : Nat} {μ : am_M} {F : Int32 → am_M → Prop} {B : Nat → Nat} {T p q : Nat} (hd : 6 ≤ d) (hB : an_tb 2 μ B T) (hp : p ≤ q) (hq : q ≤ T) (hF : F (an_b (decide (an_sl B p (q - p) = an_wd 15))) μ) : am_Ci L d 54 [.ref 1, .int (nI p), .int (nI q), .ref 1015] μ F := by
  obtain ⟨hT, hB⟩ := hB
  refine v_Reader_isWord_15 ?_
  rw [am_dp (by omega), am_dp (by omega), pk_sub hp]
  by_cases hl : q - p = 4
  · rw [if_pos (by rw [hl]; decide)]
    suffices ∀ m x, x + m = 4 → (∀ j, j < x → B (p + j) = (an_wd 15).getD j 0) → am_Ji L d 54 15 [some (.ref 1), some (.int (nI p)), some (.int (nI q)), some (.ref 1015), some (.int (nI (p + x)))] [] μ F from this 4 0 (by omega) (fun j hj => absurd hj (by omega))
    intro m
    induction m with
    | zero =>
      intro x hx he
      refine v_Reader_isWord_15_15 ?_
      rw [if_pos (nI_le (by omega) (by omega))]
      rw [decide_eq_true ((an_sl_e (an_wd 15) p (q - p)).mpr ⟨hl, fun j hj => he j (by omega)⟩)] at hF
      exact hF
    | succ m ih =>
      intro x hx he
      refine v_Reader_isWord_15_15 ?_
      obtain ⟨c1, c2, c3⟩ := an_ch 15 (by omega) x (by show x < 4; omega)
      obtain ⟨b1, b2⟩ := hB (p + x) (by omega)
      rw [if_neg (nI_ge (by omega) (by omega)), am_gd_in (by omega) (by omega), am_dp (by omega), am_dp (by omega), am_dp (by omega), am_dp (by omega), am_dp (by omega), pk_sub (by omega), show p + x - p = x by omega, if_neg (nI_pos (by omega)), if_pos (nI_lt (by omega) (by omega)), am_gd_in (by omega) (by omega), am_cl (by omega), c2, am_gd_t, am_gd_t, c1, am_cl (by omega), b1]
      by_cases z : B (p + x) = (an_wd 15).getD x 0
      · rw [if_pos (by rw [z]), nI_add]
        refine ih (x + 1) (by omega) (fun j hj => ?_)
        by_cases y : j = x
        · rw [y]; exact z
        · exact he j (by omega)
      · rw [if_neg (fun y => z ((nI_eq (by omega) (by omega)).mp y))]
        rw [decide_eq_false (fun y => z (((an_sl_e (an_wd 15) p (q - p)).mp y).2 x (by omega)))] at hF
        exact hF
  · rw [if_neg (fun z => hl ((nI_eq (a := q - p) (b := 4) (by omega) (by omega)).mp (z.symm.trans (by decide))))]
    rw [decide_eq_false (fun y => hl ((an_sl_e (an_wd 15) p (q - p)).mp y).1)] at hF
    exact hF
theorem w_isM_15 {L d : Nat} {μ : am_M} {F : Int32 → am_M → Prop} {B : Nat → Nat} {T p q : Nat} (hd : 6 ≤ d) (hB : an_tb 146 μ B T) (hp : p ≤ q) (hq : q ≤ T) (h13 : μ 140 13 = nI q) (h15 : μ 140 15 = nI p) (hF : F (an_b (decide (an_sl B p (q - p) = an_wd 15))) μ) : am_Ci L d 160 [.ref 140, .ref 1015] μ F := by
  obtain ⟨hT, hB⟩ := hB
  refine v_M_is_15 ?_
  rw [am_dp (by omega), am_dp (by omega), h13, h15, pk_sub hp]
  have no : ∀ x, ¬ an_sl B p (q - p) = an_wd 15 → am_Ji L d 160 24 [some (.ref 140), some (.ref 1015), some (.int (nI 0)), some (.int (nI x))] [] μ F := by
    intro x hn
    rw [decide_eq_false hn] at hF
    refine v_M_is_15_24 ?_
    rw [am_dp (by omega), am_dp (by omega)]
    split
    · exact hF
    · rw [if_pos nI_0]; exact hF
  by_cases hl : q - p = 4
  · rw [if_neg (fun z => z (by rw [hl]; decide))]
    suffices ∀ m x, x + m = 4 → (∀ j, j < x → B (p + j) = (an_wd 15).getD j 0) → am_Ji L d 160 24 [some (.ref 140), some (.ref 1015), some (.int (nI 1)), some (.int (nI x))] [] μ F from this 4 0 (by omega) (fun j hj => absurd hj (by omega))
    intro m
    induction m with
    | zero =>
      intro x hx he
      refine v_M_is_15_24 ?_
      rw [am_dp (by omega), am_dp (by omega), if_pos (by rw [show x = 4 by omega]; decide)]
      rw [decide_eq_true ((an_sl_e (an_wd 15) p (q - p)).mpr ⟨hl, fun j hj => he j (by omega)⟩)] at hF
      exact hF
    | succ m ih =>
      intro x hx he
      refine v_M_is_15_24 ?_
      obtain ⟨c1, c2, c3⟩ := an_ch 15 (by omega) x (by show x < 4; omega)
      obtain ⟨b1, b2⟩ := hB (p + x) (by omega)
      have nl : ¬ (nI 4 >>> (0 &&& 31)) ≤ nI x := by
        rw [show (nI 4 >>> (0 &&& 31)) = nI 4 by decide]
        exact nI_ge (by omega) (by omega)
      rw [am_dp (by omega), am_dp (by omega), if_neg nl, if_neg (nI_ne0 (by omega) (by omega)), h15, nI_add, am_gd_in (by omega) (by omega), am_dp (by omega), am_dp (by omega), am_dp (by omega), am_dp (by omega), am_dp (by omega), if_neg (nI_pos (by omega)), if_pos (nI_lt (by omega) (by omega)), am_gd_in (by omega) (by omega), am_cl (by omega), c2, am_gd_t, am_gd_t, c1, am_cl (by omega), b1, nI_add]
      by_cases z : B (p + x) = (an_wd 15).getD x 0
      · rw [if_neg (fun y => y (by rw [z]))]
        refine ih (x + 1) (by omega) (fun j hj => ?_)
        by_cases y : j = x
        · rw [y]; exact z
        · exact he j (by omega)
      · rw [if_pos (fun y => z ((nI_eq (by omega) (by omega)).mp y))]
        exact no _ (fun y => z (((an_sl_e (an_wd 15) p (q - p)).mp y).2 x (by omega)))
  · rw [if_pos (fun z => hl ((nI_eq (a := q - p) (b := 4) (by omega) (by omega)).mp (z.trans (by decide))))]
    exact no 0 (fun y => hl ((an_sl_e (an_wd 15) p (q - p)).mp y).1)
theorem w_isX_16 {L d : Nat} {μ : am_M} {F : Int32 → am_M → Prop} {B : Nat → Nat} {T p q : Nat} (hd : 6 ≤ d) (hB : an_tb 2 μ B T) (hp : p ≤ q) (hq : q ≤ T) (hF : F (an_b (decide (an_sl B p (q - p) = an_wd 16))) μ) : am_Ci L d 54 [.ref 1, .int (nI p), .int (nI q), .ref 1016] μ F := by
  obtain ⟨hT, hB⟩ := hB
  refine v_Reader_isWord_16 ?_
  rw [am_dp (by omega), am_dp (by omega), pk_sub hp]
  by_cases hl : q - p = 5
  · rw [if_pos (by rw [hl]; decide)]
    suffices ∀ m x, x + m = 5 → (∀ j, j < x → B (p + j) = (an_wd 16).getD j 0) → am_Ji L d 54 15 [some (.ref 1), some (.int (nI p)), some (.int (nI q)), some (.ref 1016), some (.int (nI (p + x)))] [] μ F from this 5 0 (by omega) (fun j hj => absurd hj (by omega))
    intro m
    induction m with
    | zero =>
      intro x hx he
      refine v_Reader_isWord_16_15 ?_
      rw [if_pos (nI_le (by omega) (by omega))]
      rw [decide_eq_true ((an_sl_e (an_wd 16) p (q - p)).mpr ⟨hl, fun j hj => he j (by omega)⟩)] at hF
      exact hF
    | succ m ih =>
      intro x hx he
      refine v_Reader_isWord_16_15 ?_
      obtain ⟨c1, c2, c3⟩ := an_ch 16 (by omega) x (by show x < 5; omega)
      obtain ⟨b1, b2⟩ := hB (p + x) (by omega)
      rw [if_neg (nI_ge (by omega) (by omega)), am_gd_in (by omega) (by omega), am_dp (by omega), am_dp (by omega), am_dp (by omega), am_dp (by omega), am_dp (by omega), pk_sub (by omega), show p + x - p = x by omega, if_neg (nI_pos (by omega)), if_pos (nI_lt (by omega) (by omega)), am_gd_in (by omega) (by omega), am_cl (by omega), c2, am_gd_t, am_gd_t, c1, am_cl (by omega), b1]
      by_cases z : B (p + x) = (an_wd 16).getD x 0
      · rw [if_pos (by rw [z]), nI_add]
        refine ih (x + 1) (by omega) (fun j hj => ?_)
        by_cases y : j = x
        · rw [y]; exact z
        · exact he j (by omega)
      · rw [if_neg (fun y => z ((nI_eq (by omega) (by omega)).mp y))]
        rw [decide_eq_false (fun y => z (((an_sl_e (an_wd 16) p (q - p)).mp y).2 x (by omega)))] at hF
        exact hF
  · rw [if_neg (fun z => hl ((nI_eq (a := q - p) (b := 5) (by omega) (by omega)).mp (z.symm.trans (by decide))))]
    rw [decide_eq_false (fun y => hl ((an_sl_e (an_wd 16) p (q - p)).mp y).1)] at hF
    exact hF
theorem w_isM_16 {L d : Nat} {μ : am_M} {F : Int32 → am_M → Prop} {B : Nat → Nat} {T p q : Nat} (hd : 6 ≤ d) (hB : an_tb 146 μ B T) (hp : p ≤ q) (hq : q ≤ T) (h13 : μ 140 13 = nI q) (h15 : μ 140 15 = nI p) (hF : F (an_b (decide (an_sl B p (q - p) = an_wd 16))) μ) : am_Ci L d 160 [.ref 140, .ref 1016] μ F := by
  obtain ⟨hT, hB⟩ := hB
  refine v_M_is_16 ?_
  rw [am_dp (by omega), am_dp (by omega), h13, h15, pk_sub hp]
  have no : ∀ x, ¬ an_sl B p (q - p) = an_wd 16 → am_Ji L d 160 24 [some (.ref 140), some (.ref 1016), some (.int (nI 0)), some (.int (nI x))] [] μ F := by
    intro x hn
    rw [decide_eq_false hn] at hF
    refine v_M_is_16_24 ?_
    rw [am_dp (by omega), am_dp (by omega)]
    split
    · exact hF
    · rw [if_pos nI_0]; exact hF
  by_cases hl : q - p = 5
  · rw [if_neg (fun z => z (by rw [hl]; decide))]
    suffices ∀ m x, x + m = 5 → (∀ j, j < x → B (p + j) = (an_wd 16).getD j 0) → am_Ji L d 160 24 [some (.ref 140), some (.ref 1016), some (.int (nI 1)), some (.int (nI x))] [] μ F from this 5 0 (by omega) (fun j hj => absurd hj (by omega))
    intro m
    induction m with
    | zero =>
      intro x hx he
      refine v_M_is_16_24 ?_
      rw [am_dp (by omega), am_dp (by omega), if_pos (by rw [show x = 5 by omega]; decide)]
      rw [decide_eq_true ((an_sl_e (an_wd 16) p (q - p)).mpr ⟨hl, fun j hj => he j (by omega)⟩)] at hF
      exact hF
    | succ m ih =>
      intro x hx he
      refine v_M_is_16_24 ?_
      obtain ⟨c1, c2, c3⟩ := an_ch 16 (by omega) x (by show x < 5; omega)
      obtain ⟨b1, b2⟩ := hB (p + x) (by omega)
      have nl : ¬ (nI 5 >>> (0 &&& 31)) ≤ nI x := by
        rw [show (nI 5 >>> (0 &&& 31)) = nI 5 by decide]
        exact nI_ge (by omega) (by omega)
      rw [am_dp (by omega), am_dp (by omega), if_neg nl, if_neg (nI_ne0 (by omega) (by omega)), h15, nI_add, am_gd_in (by omega) (by omega), am_dp (by omega), am_dp (by omega), am_dp (by omega), am_dp (by omega), am_dp (by omega), if_neg (nI_pos (by omega)), if_pos (nI_lt (by omega) (by omega)), am_gd_in (by omega) (by omega), am_cl (by omega), c2, am_gd_t, am_gd_t, c1, am_cl (by omega), b1, nI_add]
      by_cases z : B (p + x) = (an_wd 16).getD x 0
      · rw [if_neg (fun y => y (by rw [z]))]
        refine ih (x + 1) (by omega) (fun j hj => ?_)
        by_cases y : j = x
        · rw [y]; exact z
        · exact he j (by omega)
      · rw [if_pos (fun y => z ((nI_eq (by omega) (by omega)).mp y))]
        exact no _ (fun y => z (((an_sl_e (an_wd 16) p (q - p)).mp y).2 x (by omega)))
  · rw [if_pos (fun z => hl ((nI_eq (a := q - p) (b := 5) (by omega) (by omega)).mp (z.trans (by decide))))]
    exact no 0 (fun y => hl ((an_sl_e (an_wd 16) p (q - p)).mp y).1)
theorem w_isX_17 {L d : Nat} {μ : am_M} {F : Int32 → am_M → Prop} {B : Nat → Nat} {T p q : Nat} (hd : 6 ≤ d) (hB : an_tb 2 μ B T) (hp : p ≤ q) (hq : q ≤ T) (hF : F (an_b (decide (an_sl B p (q - p) = an_wd 17))) μ) : am_Ci L d 54 [.ref 1, .int (nI p), .int (nI q), .ref 1017] μ F := by
  obtain ⟨hT, hB⟩ := hB
  refine v_Reader_isWord_17 ?_
  rw [am_dp (by omega), am_dp (by omega), pk_sub hp]
  by_cases hl : q - p = 5
  · rw [if_pos (by rw [hl]; decide)]
    suffices ∀ m x, x + m = 5 → (∀ j, j < x → B (p + j) = (an_wd 17).getD j 0) → am_Ji L d 54 15 [some (.ref 1), some (.int (nI p)), some (.int (nI q)), some (.ref 1017), some (.int (nI (p + x)))] [] μ F from this 5 0 (by omega) (fun j hj => absurd hj (by omega))
    intro m
    induction m with
    | zero =>
      intro x hx he
      refine v_Reader_isWord_17_15 ?_
      rw [if_pos (nI_le (by omega) (by omega))]
      rw [decide_eq_true ((an_sl_e (an_wd 17) p (q - p)).mpr ⟨hl, fun j hj => he j (by omega)⟩)] at hF
      exact hF
    | succ m ih =>
      intro x hx he
      refine v_Reader_isWord_17_15 ?_
      obtain ⟨c1, c2, c3⟩ := an_ch 17 (by omega) x (by show x < 5; omega)
      obtain ⟨b1, b2⟩ := hB (p + x) (by omega)
      rw [if_neg (nI_ge (by omega) (by omega)), am_gd_in (by omega) (by omega), am_dp (by omega), am_dp (by omega), am_dp (by omega), am_dp (by omega), am_dp (by omega), pk_sub (by omega), show p + x - p = x by omega, if_neg (nI_pos (by omega)), if_pos (nI_lt (by omega) (by omega)), am_gd_in (by omega) (by omega), am_cl (by omega), c2, am_gd_t, am_gd_t, c1, am_cl (by omega), b1]
      by_cases z : B (p + x) = (an_wd 17).getD x 0
      · rw [if_pos (by rw [z]), nI_add]
        refine ih (x + 1) (by omega) (fun j hj => ?_)
        by_cases y : j = x
        · rw [y]; exact z
        · exact he j (by omega)
      · rw [if_neg (fun y => z ((nI_eq (by omega) (by omega)).mp y))]
        rw [decide_eq_false (fun y => z (((an_sl_e (an_wd 17) p (q - p)).mp y).2 x (by omega)))] at hF
        exact hF
  · rw [if_neg (fun z => hl ((nI_eq (a := q - p) (b := 5) (by omega) (by omega)).mp (z.symm.trans (by decide))))]
    rw [decide_eq_false (fun y => hl ((an_sl_e (an_wd 17) p (q - p)).mp y).1)] at hF
    exact hF
theorem w_isM_17 {L d : Nat} {μ : am_M} {F : Int32 → am_M → Prop} {B : Nat → Nat} {T p q : Nat} (hd : 6 ≤ d) (hB : an_tb 146 μ B T) (hp : p ≤ q) (hq : q ≤ T) (h13 : μ 140 13 = nI q) (h15 : μ 140 15 = nI p) (hF : F (an_b (decide (an_sl B p (q - p) = an_wd 17))) μ) : am_Ci L d 160 [.ref 140, .ref 1017] μ F := by
  obtain ⟨hT, hB⟩ := hB
  refine v_M_is_17 ?_
  rw [am_dp (by omega), am_dp (by omega), h13, h15, pk_sub hp]
  have no : ∀ x, ¬ an_sl B p (q - p) = an_wd 17 → am_Ji L d 160 24 [some (.ref 140), some (.ref 1017), some (.int (nI 0)), some (.int (nI x))] [] μ F := by
    intro x hn
    rw [decide_eq_false hn] at hF
    refine v_M_is_17_24 ?_
    rw [am_dp (by omega), am_dp (by omega)]
    split
    · exact hF
    · rw [if_pos nI_0]; exact hF
  by_cases hl : q - p = 5
  · rw [if_neg (fun z => z (by rw [hl]; decide))]
    suffices ∀ m x, x + m = 5 → (∀ j, j < x → B (p + j) = (an_wd 17).getD j 0) → am_Ji L d 160 24 [some (.ref 140), some (.ref 1017), some (.int (nI 1)), some (.int (nI x))] [] μ F from this 5 0 (by omega) (fun j hj => absurd hj (by omega))
    intro m
    induction m with
    | zero =>
      intro x hx he
      refine v_M_is_17_24 ?_
      rw [am_dp (by omega), am_dp (by omega), if_pos (by rw [show x = 5 by omega]; decide)]
      rw [decide_eq_true ((an_sl_e (an_wd 17) p (q - p)).mpr ⟨hl, fun j hj => he j (by omega)⟩)] at hF
      exact hF
    | succ m ih =>
      intro x hx he
      refine v_M_is_17_24 ?_
      obtain ⟨c1, c2, c3⟩ := an_ch 17 (by omega) x (by show x < 5; omega)
      obtain ⟨b1, b2⟩ := hB (p + x) (by omega)
      have nl : ¬ (nI 5 >>> (0 &&& 31)) ≤ nI x := by
        rw [show (nI 5 >>> (0 &&& 31)) = nI 5 by decide]
        exact nI_ge (by omega) (by omega)
      rw [am_dp (by omega), am_dp (by omega), if_neg nl, if_neg (nI_ne0 (by omega) (by omega)), h15, nI_add, am_gd_in (by omega) (by omega), am_dp (by omega), am_dp (by omega), am_dp (by omega), am_dp (by omega), am_dp (by omega), if_neg (nI_pos (by omega)), if_pos (nI_lt (by omega) (by omega)), am_gd_in (by omega) (by omega), am_cl (by omega), c2, am_gd_t, am_gd_t, c1, am_cl (by omega), b1, nI_add]
      by_cases z : B (p + x) = (an_wd 17).getD x 0
      · rw [if_neg (fun y => y (by rw [z]))]
        refine ih (x + 1) (by omega) (fun j hj => ?_)
        by_cases y : j = x
        · rw [y]; exact z
        · exact he j (by omega)
      · rw [if_pos (fun y => z ((nI_eq (by omega) (by omega)).mp y))]
        exact no _ (fun y => z (((an_sl_e (an_wd 17) p (q - p)).mp y).2 x (by omega)))
  · rw [if_pos (fun z => hl ((nI_eq (a := q - p) (b := 5) (by omega) (by omega)).mp (z.trans (by decide))))]
    exact no 0 (fun y => hl ((an_sl_e (an_wd 17) p (q - p)).mp y).1)
theorem w_isX_18 {L d : Nat} {μ : am_M} {F : Int32 → am_M → Prop} {B : Nat → Nat} {T p q : Nat} (hd : 6 ≤ d) (hB : an_tb 2 μ B T) (hp : p ≤ q) (hq : q ≤ T) (hF : F (an_b (decide (an_sl B p (q - p) = an_wd 18))) μ) : am_Ci L d 54 [.ref 1, .int (nI p), .int (nI q), .ref 1018] μ F := by
  obtain ⟨hT, hB⟩ := hB
  refine v_Reader_isWord_18 ?_
  rw [am_dp (by omega), am_dp (by omega), pk_sub hp]
  by_cases hl : q - p = 3
  · rw [if_pos (by rw [hl]; decide)]
    suffices ∀ m x, x + m = 3 → (∀ j, j < x → B (p + j) = (an_wd 18).getD j 0) → am_Ji L d 54 15 [some (.ref 1), some (.int (nI p)), some (.int (nI q)), some (.ref 1018), some (.int (nI (p + x)))] [] μ F from this 3 0 (by omega) (fun j hj => absurd hj (by omega))
    intro m
    induction m with
    | zero =>
      intro x hx he
      refine v_Reader_isWord_18_15 ?_
      rw [if_pos (nI_le (by omega) (by omega))]
      rw [decide_eq_true ((an_sl_e (an_wd 18) p (q - p)).mpr ⟨hl, fun j hj => he j (by omega)⟩)] at hF
      exact hF
    | succ m ih =>
      intro x hx he
      refine v_Reader_isWord_18_15 ?_
      obtain ⟨c1, c2, c3⟩ := an_ch 18 (by omega) x (by show x < 3; omega)
      obtain ⟨b1, b2⟩ := hB (p + x) (by omega)
      rw [if_neg (nI_ge (by omega) (by omega)), am_gd_in (by omega) (by omega), am_dp (by omega), am_dp (by omega), am_dp (by omega), am_dp (by omega), am_dp (by omega), pk_sub (by omega), show p + x - p = x by omega, if_neg (nI_pos (by omega)), if_pos (nI_lt (by omega) (by omega)), am_gd_in (by omega) (by omega), am_cl (by omega), c2, am_gd_t, am_gd_t, c1, am_cl (by omega), b1]
      by_cases z : B (p + x) = (an_wd 18).getD x 0
      · rw [if_pos (by rw [z]), nI_add]
        refine ih (x + 1) (by omega) (fun j hj => ?_)
        by_cases y : j = x
        · rw [y]; exact z
        · exact he j (by omega)
      · rw [if_neg (fun y => z ((nI_eq (by omega) (by omega)).mp y))]
        rw [decide_eq_false (fun y => z (((an_sl_e (an_wd 18) p (q - p)).mp y).2 x (by omega)))] at hF
        exact hF
  · rw [if_neg (fun z => hl ((nI_eq (a := q - p) (b := 3) (by omega) (by omega)).mp (z.symm.trans (by decide))))]
    rw [decide_eq_false (fun y => hl ((an_sl_e (an_wd 18) p (q - p)).mp y).1)] at hF
    exact hF
theorem w_isM_18 {L d : Nat} {μ : am_M} {F : Int32 → am_M → Prop} {B : Nat → Nat} {T p q : Nat} (hd : 6 ≤ d) (hB : an_tb 146 μ B T) (hp : p ≤ q) (hq : q ≤ T) (h13 : μ 140 13 = nI q) (h15 : μ 140 15 = nI p) (hF : F (an_b (decide (an_sl B p (q - p) = an_wd 18))) μ) : am_Ci L d 160 [.ref 140, .ref 1018] μ F := by
  obtain ⟨hT, hB⟩ := hB
  refine v_M_is_18 ?_
  rw [am_dp (by omega), am_dp (by omega), h13, h15, pk_sub hp]
  have no : ∀ x, ¬ an_sl B p (q - p) = an_wd 18 → am_Ji L d 160 24 [some (.ref 140), some (.ref 1018), some (.int (nI 0)), some (.int (nI x))] [] μ F := by
    intro x hn
    rw [decide_eq_false hn] at hF
    refine v_M_is_18_24 ?_
    rw [am_dp (by omega), am_dp (by omega)]
    split
    · exact hF
    · rw [if_pos nI_0]; exact hF
  by_cases hl : q - p = 3
  · rw [if_neg (fun z => z (by rw [hl]; decide))]
    suffices ∀ m x, x + m = 3 → (∀ j, j < x → B (p + j) = (an_wd 18).getD j 0) → am_Ji L d 160 24 [some (.ref 140), some (.ref 1018), some (.int (nI 1)), some (.int (nI x))] [] μ F from this 3 0 (by omega) (fun j hj => absurd hj (by omega))
    intro m
    induction m with
    | zero =>
      intro x hx he
      refine v_M_is_18_24 ?_
      rw [am_dp (by omega), am_dp (by omega), if_pos (by rw [show x = 3 by omega]; decide)]
      rw [decide_eq_true ((an_sl_e (an_wd 18) p (q - p)).mpr ⟨hl, fun j hj => he j (by omega)⟩)] at hF
      exact hF
    | succ m ih =>
      intro x hx he
      refine v_M_is_18_24 ?_
      obtain ⟨c1, c2, c3⟩ := an_ch 18 (by omega) x (by show x < 3; omega)
      obtain ⟨b1, b2⟩ := hB (p + x) (by omega)
      have nl : ¬ (nI 3 >>> (0 &&& 31)) ≤ nI x := by
        rw [show (nI 3 >>> (0 &&& 31)) = nI 3 by decide]
        exact nI_ge (by omega) (by omega)
      rw [am_dp (by omega), am_dp (by omega), if_neg nl, if_neg (nI_ne0 (by omega) (by omega)), h15, nI_add, am_gd_in (by omega) (by omega), am_dp (by omega), am_dp (by omega), am_dp (by omega), am_dp (by omega), am_dp (by omega), if_neg (nI_pos (by omega)), if_pos (nI_lt (by omega) (by omega)), am_gd_in (by omega) (by omega), am_cl (by omega), c2, am_gd_t, am_gd_t, c1, am_cl (by omega), b1, nI_add]
      by_cases z : B (p + x) = (an_wd 18).getD x 0
      · rw [if_neg (fun y => y (by rw [z]))]
        refine ih (x + 1) (by omega) (fun j hj => ?_)
        by_cases y : j = x
        · rw [y]; exact z
        · exact he j (by omega)
      · rw [if_pos (fun y => z ((nI_eq (by omega) (by omega)).mp y))]
        exact no _ (fun y => z (((an_sl_e (an_wd 18) p (q - p)).mp y).2 x (by omega)))
  · rw [if_pos (fun z => hl ((nI_eq (a := q - p) (b := 3) (by omega) (by omega)).mp (z.trans (by decide))))]
    exact no 0 (fun y => hl ((an_sl_e (an_wd 18) p (q - p)).mp y).1)
theorem w_isX_19 {L d : Nat} {μ : am_M} {F : Int32 → am_M → Prop} {p q : Nat} (hd : 6 ≤ d) (hp : p < q) (hq : q ≤ 400) (hF : F (nI 0) μ) : am_Ci L d 54 [.ref 1, .int (nI p), .int (nI q), .ref 1019] μ F := by
  refine v_Reader_isWord_19 ?_
  rw [am_dp (by omega), am_dp (by omega), pk_sub (by omega), if_neg (fun z => by have := (nI_eq (a := q - p) (b := 0) (by omega) (by omega)).mp (z.symm.trans (by decide)); omega)]
  exact hF
