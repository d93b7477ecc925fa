/-! Texts: the class reads the tape into tokens. -/
variable {nb : Nat}
/-- the first n tokens stand -/
def an_ts (tk : Nat → an_tke) (μ : am_M) (n : Nat) : Prop := μ 3 4 = nI n ∧ ∀ i, i < n → μ 11 i = nI (tk i).1 ∧ μ 12 i = nI (tk i).2.2.1 ∧ μ 13 i = nI (tk i).2.1
/-- what reading writes -/
def an_tf0 (μ μ' : am_M) : Prop := an_un [3, 11, 12, 13] μ μ' ∧ ∀ f, f ≠ 4 → μ' 3 f = μ 3 f
theorem an_tf0_rf {μ : am_M} : an_tf0 μ μ := ⟨an_un_rf, fun _ _ => rfl⟩
theorem an_tf0_tr {μ μ' μ'' : am_M} (h : an_tf0 μ μ') (h' : an_tf0 μ' μ'') : an_tf0 μ μ'' := ⟨an_un_tr h.1 h'.1 (fun _ z => z) (fun _ z => z), fun f hf => (h'.2 f hf).trans (h.2 f hf)⟩
theorem w_addToken {L d n k nm pl : Nat} {μ : am_M} {F : am_M → Prop} {tk : Nat → an_tke} (hn : n ≤ 400) (hs : an_ts tk μ n) (h1 : (tk n).1 = k) (h2 : (tk n).2.1 = nm) (h3 : (tk n).2.2.1 = pl)
    (hF : ∀ μ', an_tf0 μ μ' → an_ts tk μ' (n + 1) → F μ') : am_Cv L d 51 [.ref 3, .int (nI k), .int (nI pl), .int (nI nm)] μ F := by
  obtain ⟨s0, s1⟩ := hs
  refine v_Reader_addToken ?_
  rw [s0, if_neg (nI_ge (by omega) (by omega)), am_gd_in (by omega) (by omega), am_cl (by omega)]
  intro μ1 e1
  have x1 : μ1 3 4 = nI n := by rw [an_w_c e1 (by decide)]; exact s0
  rw [x1, am_gd_in (by omega) (by omega), am_cl (by omega)]
  intro μ2 e2
  have x2 : μ2 3 4 = nI n := by rw [an_w_c e2 (by decide)]; exact x1
  rw [x2, am_gd_in (by omega) (by omega), am_cl (by omega)]
  intro μ3 e3
  have x3 : μ3 3 4 = nI n := by rw [an_w_c e3 (by decide)]; exact x2
  rw [x3, nI_add]
  intro μ4 e4
  refine hF μ4 ⟨fun c hc => ?_, fun f hf => ?_⟩ ⟨an_w_s e4, fun i hi => ?_⟩
  · simp only [List.mem_cons, List.not_mem_nil, or_false, not_or] at hc
    rw [an_w_c e4 (by omega), an_w_c e3 (by omega), an_w_c e2 (by omega), an_w_c e1 (by omega)]
  · rw [an_w_o e4 hf, an_w_c e3 (by decide), an_w_c e2 (by decide), an_w_c e1 (by decide)]
  · by_cases z : i = n
    · subst z
      refine ⟨?_, ?_, ?_⟩
      · rw [an_w_c e4 (by decide), an_w_c e3 (by decide), an_w_c e2 (by decide), an_w_s e1, h1]
      · rw [an_w_c e4 (by decide), an_w_c e3 (by decide), an_w_s e2, h3]
      · rw [an_w_c e4 (by decide), an_w_s e3, h2]
    · obtain ⟨g1, g2, g3⟩ := s1 i (by omega)
      refine ⟨?_, ?_, ?_⟩
      · rw [an_w_c e4 (by decide), an_w_c e3 (by decide), an_w_c e2 (by decide), an_w_o e1 z]; exact g1
      · rw [an_w_c e4 (by decide), an_w_c e3 (by decide), an_w_o e2 z, an_w_c e1 (by decide)]; exact g2
      · rw [an_w_c e4 (by decide), an_w_o e3 z, an_w_c e2 (by decide), an_w_c e1 (by decide)]; exact g3
theorem w_addWord_false {L d n p q : Nat} {μ : am_M} {F : am_M → Prop} {tk : Nat → an_tke} {B : Nat → Nat} {T : Nat} (hd : 9 ≤ d) (hn : n ≤ 400) (hs : an_ts tk μ n) (hB : an_tb 2 μ B T) (hp : p < q) (hq : q ≤ T) (h6 : μ 3 6 = an_b false) (h3 : (tk n).2.2.1 = p) (hF : ∀ μ', an_tf0 μ μ' → an_ts tk μ' (n + 1) → F μ') :
    ∀ m, m ≤ 14 → (tk n).1 = (an_wcr false (an_sl B p (q - p)) m).1 → (tk n).2.1 = (an_wcr false (an_sl B p (q - p)) m).2 → am_Jv L d 53 3 [some (.ref 3), some (.ref 1), some (.int (nI p)), some (.int (nI q)), some (.int (nI (14 - m))), none, none] [] μ F := by
  have hT := hB.1
  intro m
  induction m with
  | zero =>
    intro _ k1 k2
    refine v_Reader_addWord_3 ?_
    rw [if_pos (nI_le (by omega) (by omega))]
    exact ⟨by omega, w_addToken hn hs k1 k2 h3 hF⟩
  | succ m ih =>
    intro hm k1 k2
    have ih := ih (by omega)
    rw [an_wcr] at k1 k2
    have hit : ∀ w, w < 14 → 13 - m = w → an_sl B p (q - p) = an_wd (an_wx false w) → (if nI w < (nI 7) then am_Jv L d 53 53 [some (.ref 3), none, some (.int (nI p)), none, some (.int (nI w)), some (.int (nI 0)), none] [] μ F else am_Jv L d 53 53 [some (.ref 3), none, some (.int (nI p)), none, some (.int (nI w)), some (.int (nI 1)), none] [] μ F) := by
      intro w hw e he
      rw [e, if_pos he] at k1 k2
      by_cases z : w < 7
      · rw [if_pos z] at k1 k2
        rw [if_pos (nI_lt z (by omega))]
        refine v_Reader_addWord_53 ?_
        rw [if_pos nI_0]
        refine v_Reader_addWord_69 ?_
        rw [if_pos nI_0, nI_add]
        exact ⟨by omega, w_addToken hn hs k1 k2 h3 hF⟩
      · rw [if_neg z] at k1 k2
        rw [if_neg (nI_nlt (by omega) (by omega))]
        refine v_Reader_addWord_53 ?_
        rw [if_neg (by decide)]
        refine v_Reader_addWord_69 ?_
        rw [if_neg (by decide), pk_sub (by omega)]
        exact ⟨by omega, w_addToken hn hs k1 k2 h3 hF⟩
    have miss : ∀ w, w < 14 → 13 - m = w → ¬ an_sl B p (q - p) = an_wd (an_wx false w) → am_Jv L d 53 3 [some (.ref 3), some (.ref 1), some (.int (nI p)), some (.int (nI q)), some (.int (nI w + nI 1)), none, none] [] μ F := by
      intro w hw e he
      rw [e, if_neg he] at k1 k2
      rw [nI_add, show w + 1 = 14 - m by omega]
      exact ih k1 k2
    have nel : ¬ an_sl B p (q - p) = [] := fun z => by
      have := (an_sl_e [] p (q - p)).mp z
      have := this.1
      simp at this
      omega
    refine v_Reader_addWord_3 ?_
    rw [if_neg (nI_ge (by omega) (by omega)), h6]
    rcases (by omega : m = 13 ∨ m = 12 ∨ m = 11 ∨ m = 10 ∨ m = 9 ∨ m = 8 ∨ m = 7 ∨ m = 6 ∨ m = 5 ∨ m = 4 ∨ m = 3 ∨ m = 2 ∨ m = 1 ∨ m = 0) with rfl | rfl | rfl | rfl | rfl | rfl | rfl | rfl | rfl | rfl | rfl | rfl | rfl | rfl
    · rw [if_pos (show an_b false = 0 by decide), am_dp (by omega), if_pos rfl]
      refine ⟨by omega, w_isX_0 (by omega) hB (by omega) hq ?_⟩
      rw [an_bf]
      by_cases he : an_sl B p (q - p) = an_wd 0
      · rw [decide_eq_true he]
        exact hit 0 (by omega) (by omega) he
      · rw [decide_eq_false he]
        exact miss 0 (by omega) (by omega) he
    · rw [if_pos (show an_b false = 0 by decide), am_dp (by omega), if_neg (by decide), if_pos rfl]
      refine ⟨by omega, w_isX_1 (by omega) hB (by omega) hq ?_⟩
      rw [an_bf]
      by_cases he : an_sl B p (q - p) = an_wd 1
      · rw [decide_eq_true he]
        exact hit 1 (by omega) (by omega) he
      · rw [decide_eq_false he]
        exact miss 1 (by omega) (by omega) he
    · rw [if_pos (show an_b false = 0 by decide), am_dp (by omega), if_neg (by decide), if_neg (by decide), if_pos rfl]
      refine ⟨by omega, w_isX_2 (by omega) hB (by omega) hq ?_⟩
      rw [an_bf]
      by_cases he : an_sl B p (q - p) = an_wd 2
      · rw [decide_eq_true he]
        exact hit 2 (by omega) (by omega) he
      · rw [decide_eq_false he]
        exact miss 2 (by omega) (by omega) he
    · rw [if_pos (show an_b false = 0 by decide), am_dp (by omega), if_neg (by decide), if_neg (by decide), if_neg (by decide), if_pos rfl]
      refine ⟨by omega, w_isX_3 (by omega) hB (by omega) hq ?_⟩
      rw [an_bf]
      by_cases he : an_sl B p (q - p) = an_wd 3
      · rw [decide_eq_true he]
        exact hit 3 (by omega) (by omega) he
      · rw [decide_eq_false he]
        exact miss 3 (by omega) (by omega) he
    · rw [if_pos (show an_b false = 0 by decide), am_dp (by omega), if_neg (by decide), if_neg (by decide), if_neg (by decide), if_neg (by decide), if_pos rfl]
      refine ⟨by omega, w_isX_4 (by omega) hB (by omega) hq ?_⟩
      rw [an_bf]
      by_cases he : an_sl B p (q - p) = an_wd 4
      · rw [decide_eq_true he]
        exact hit 4 (by omega) (by omega) he
      · rw [decide_eq_false he]
        exact miss 4 (by omega) (by omega) he
    · rw [if_pos (show an_b false = 0 by decide), am_dp (by omega), if_neg (by decide), if_neg (by decide), if_neg (by decide), if_neg (by decide), if_neg (by decide), if_pos rfl]
      refine ⟨by omega, w_isX_5 (by omega) hB (by omega) hq ?_⟩
      rw [an_bf]
      by_cases he : an_sl B p (q - p) = an_wd 5
      · rw [decide_eq_true he]
        exact hit 5 (by omega) (by omega) he
      · rw [decide_eq_false he]
        exact miss 5 (by omega) (by omega) he
    · rw [if_pos (show an_b false = 0 by decide), am_dp (by omega), if_neg (by decide), if_neg (by decide), if_neg (by decide), if_neg (by decide), if_neg (by decide), if_neg (by decide), if_pos rfl]
      refine ⟨by omega, w_isX_6 (by omega) hB (by omega) hq ?_⟩
      rw [an_bf]
      by_cases he : an_sl B p (q - p) = an_wd 6
      · rw [decide_eq_true he]
        exact hit 6 (by omega) (by omega) he
      · rw [decide_eq_false he]
        exact miss 6 (by omega) (by omega) he
    · rw [if_pos (show an_b false = 0 by decide), am_dp (by omega), if_neg (by decide), if_neg (by decide), if_neg (by decide), if_neg (by decide), if_neg (by decide), if_neg (by decide), if_neg (by decide), if_pos rfl]
      refine ⟨by omega, w_isX_7 (by omega) hB (by omega) hq ?_⟩
      rw [an_bf]
      by_cases he : an_sl B p (q - p) = an_wd 7
      · rw [decide_eq_true he]
        exact hit 7 (by omega) (by omega) he
      · rw [decide_eq_false he]
        exact miss 7 (by omega) (by omega) he
    · rw [if_pos (show an_b false = 0 by decide), am_dp (by omega), if_neg (by decide), if_neg (by decide), if_neg (by decide), if_neg (by decide), if_neg (by decide), if_neg (by decide), if_neg (by decide), if_neg (by decide), if_pos rfl]
      refine ⟨by omega, w_isX_8 (by omega) hB (by omega) hq ?_⟩
      rw [an_bf]
      by_cases he : an_sl B p (q - p) = an_wd 8
      · rw [decide_eq_true he]
        exact hit 8 (by omega) (by omega) he
      · rw [decide_eq_false he]
        exact miss 8 (by omega) (by omega) he
    · rw [if_pos (show an_b false = 0 by decide), am_dp (by omega), if_neg (by decide), if_neg (by decide), if_neg (by decide), if_neg (by decide), if_neg (by decide), if_neg (by decide), if_neg (by decide), if_neg (by decide), if_neg (by decide), if_pos rfl]
      refine ⟨by omega, w_isX_9 (by omega) hB (by omega) hq ?_⟩
      rw [an_bf]
      by_cases he : an_sl B p (q - p) = an_wd 9
      · rw [decide_eq_true he]
        exact hit 9 (by omega) (by omega) he
      · rw [decide_eq_false he]
        exact miss 9 (by omega) (by omega) he
    · rw [if_pos (show an_b false = 0 by decide), am_dp (by omega), if_neg (by decide), if_neg (by decide), if_neg (by decide), if_neg (by decide), if_neg (by decide), if_neg (by decide), if_neg (by decide), if_neg (by decide), if_neg (by decide), if_neg (by decide), if_pos rfl]
      refine ⟨by omega, w_isX_10 (by omega) hB (by omega) hq ?_⟩
      rw [an_bf]
      by_cases he : an_sl B p (q - p) = an_wd 10
      · rw [decide_eq_true he]
        exact hit 10 (by omega) (by omega) he
      · rw [decide_eq_false he]
        exact miss 10 (by omega) (by omega) he
    · rw [if_pos (show an_b false = 0 by decide), am_dp (by omega), if_neg (by decide), if_neg (by decide), if_neg (by decide), if_neg (by decide), if_neg (by decide), if_neg (by decide), if_neg (by decide), if_neg (by decide), if_neg (by decide), if_neg (by decide), if_neg (by decide), if_pos rfl]
      refine ⟨by omega, w_isX_11 (by omega) hB (by omega) hq ?_⟩
      rw [an_bf]
      by_cases he : an_sl B p (q - p) = an_wd 11
      · rw [decide_eq_true he]
        exact hit 11 (by omega) (by omega) he
      · rw [decide_eq_false he]
        exact miss 11 (by omega) (by omega) he
    · rw [if_pos (show an_b false = 0 by decide), am_dp (by omega), if_neg (by decide), if_neg (by decide), if_neg (by decide), if_neg (by decide), if_neg (by decide), if_neg (by decide), if_neg (by decide), if_neg (by decide), if_neg (by decide), if_neg (by decide), if_neg (by decide), if_neg (by decide), if_pos rfl]
      refine ⟨by omega, w_isX_12 (by omega) hB (by omega) hq ?_⟩
      rw [an_bf]
      by_cases he : an_sl B p (q - p) = an_wd 12
      · rw [decide_eq_true he]
        exact hit 12 (by omega) (by omega) he
      · rw [decide_eq_false he]
        exact miss 12 (by omega) (by omega) he
    · rw [if_pos (show an_b false = 0 by decide), am_dp (by omega), if_neg (by decide), if_neg (by decide), if_neg (by decide), if_neg (by decide), if_neg (by decide), if_neg (by decide), if_neg (by decide), if_neg (by decide), if_neg (by decide), if_neg (by decide), if_neg (by decide), if_neg (by decide), if_neg (by decide), if_pos rfl]
      refine ⟨by omega, w_isX_13 (by omega) hB (by omega) hq ?_⟩
      rw [an_bf]
      by_cases he : an_sl B p (q - p) = an_wd 13
      · rw [decide_eq_true he]
        exact hit 13 (by omega) (by omega) he
      · rw [decide_eq_false he]
        exact miss 13 (by omega) (by omega) he
theorem w_addWord_true {L d n p q : Nat} {μ : am_M} {F : am_M → Prop} {tk : Nat → an_tke} {B : Nat → Nat} {T : Nat} (hd : 9 ≤ d) (hn : n ≤ 400) (hs : an_ts tk μ n) (hB : an_tb 2 μ B T) (hp : p < q) (hq : q ≤ T) (h6 : μ 3 6 = an_b true) (h3 : (tk n).2.2.1 = p) (hF : ∀ μ', an_tf0 μ μ' → an_ts tk μ' (n + 1) → F μ') :
    ∀ m, m ≤ 14 → (tk n).1 = (an_wcr true (an_sl B p (q - p)) m).1 → (tk n).2.1 = (an_wcr true (an_sl B p (q - p)) m).2 → am_Jv L d 53 3 [some (.ref 3), some (.ref 1), some (.int (nI p)), some (.int (nI q)), some (.int (nI (14 - m))), none, none] [] μ F := by
  have hT := hB.1
  intro m
  induction m with
  | zero =>
    intro _ k1 k2
    refine v_Reader_addWord_3 ?_
    rw [if_pos (nI_le (by omega) (by omega))]
    exact ⟨by omega, w_addToken hn hs k1 k2 h3 hF⟩
  | succ m ih =>
    intro hm k1 k2
    have ih := ih (by omega)
    rw [an_wcr] at k1 k2
    have hit : ∀ w, w < 14 → 13 - m = w → an_sl B p (q - p) = an_wd (an_wx true w) → (if nI w < (nI 7) then am_Jv L d 53 53 [some (.ref 3), none, some (.int (nI p)), none, some (.int (nI w)), some (.int (nI 0)), none] [] μ F else am_Jv L d 53 53 [some (.ref 3), none, some (.int (nI p)), none, some (.int (nI w)), some (.int (nI 1)), none] [] μ F) := by
      intro w hw e he
      rw [e, if_pos he] at k1 k2
      by_cases z : w < 7
      · rw [if_pos z] at k1 k2
        rw [if_pos (nI_lt z (by omega))]
        refine v_Reader_addWord_53 ?_
        rw [if_pos nI_0]
        refine v_Reader_addWord_69 ?_
        rw [if_pos nI_0, nI_add]
        exact ⟨by omega, w_addToken hn hs k1 k2 h3 hF⟩
      · rw [if_neg z] at k1 k2
        rw [if_neg (nI_nlt (by omega) (by omega))]
        refine v_Reader_addWord_53 ?_
        rw [if_neg (by decide)]
        refine v_Reader_addWord_69 ?_
        rw [if_neg (by decide), pk_sub (by omega)]
        exact ⟨by omega, w_addToken hn hs k1 k2 h3 hF⟩
    have miss : ∀ w, w < 14 → 13 - m = w → ¬ an_sl B p (q - p) = an_wd (an_wx true w) → am_Jv L d 53 3 [some (.ref 3), some (.ref 1), some (.int (nI p)), some (.int (nI q)), some (.int (nI w + nI 1)), none, none] [] μ F := by
      intro w hw e he
      rw [e, if_neg he] at k1 k2
      rw [nI_add, show w + 1 = 14 - m by omega]
      exact ih k1 k2
    have nel : ¬ an_sl B p (q - p) = [] := fun z => by
      have := (an_sl_e [] p (q - p)).mp z
      have := this.1
      simp at this
      omega
    refine v_Reader_addWord_3 ?_
    rw [if_neg (nI_ge (by omega) (by omega)), h6]
    rcases (by omega : m = 13 ∨ m = 12 ∨ m = 11 ∨ m = 10 ∨ m = 9 ∨ m = 8 ∨ m = 7 ∨ m = 6 ∨ m = 5 ∨ m = 4 ∨ m = 3 ∨ m = 2 ∨ m = 1 ∨ m = 0) with rfl | rfl | rfl | rfl | rfl | rfl | rfl | rfl | rfl | rfl | rfl | rfl | rfl | rfl
    · rw [if_neg (show ¬ an_b true = 0 by decide), am_dp (by omega), if_pos rfl]
      refine ⟨by omega, w_isX_14 (by omega) hB (by omega) hq ?_⟩
      rw [an_bf]
      by_cases he : an_sl B p (q - p) = an_wd 14
      · rw [decide_eq_true he]
        exact hit 0 (by omega) (by omega) he
      · rw [decide_eq_false he]
        exact miss 0 (by omega) (by omega) he
    · rw [if_neg (show ¬ an_b true = 0 by decide), am_dp (by omega), if_neg (by decide), if_pos rfl]
      refine ⟨by omega, w_isX_19 (by omega) hp (by omega) ?_⟩
      rw [if_pos nI_0]
      exact miss 1 (by omega) (by omega) nel
    · rw [if_neg (show ¬ an_b true = 0 by decide), am_dp (by omega), if_neg (by decide), if_neg (by decide), if_pos rfl]
      refine ⟨by omega, w_isX_19 (by omega) hp (by omega) ?_⟩
      rw [if_pos nI_0]
      exact miss 2 (by omega) (by omega) nel
    · rw [if_neg (show ¬ an_b true = 0 by decide), am_dp (by omega), if_neg (by decide), if_neg (by decide), if_neg (by decide), if_pos rfl]
      refine ⟨by omega, w_isX_3 (by omega) hB (by omega) hq ?_⟩
      rw [an_bf]
      by_cases he : an_sl B p (q - p) = an_wd 3
      · rw [decide_eq_true he]
        exact hit 3 (by omega) (by omega) he
      · rw [decide_eq_false he]
        exact miss 3 (by omega) (by omega) he
    · rw [if_neg (show ¬ an_b true = 0 by decide), am_dp (by omega), if_neg (by decide), if_neg (by decide), if_neg (by decide), if_neg (by decide), if_pos rfl]
      refine ⟨by omega, w_isX_4 (by omega) hB (by omega) hq ?_⟩
      rw [an_bf]
      by_cases he : an_sl B p (q - p) = an_wd 4
      · rw [decide_eq_true he]
        exact hit 4 (by omega) (by omega) he
      · rw [decide_eq_false he]
        exact miss 4 (by omega) (by omega) he
    · rw [if_neg (show ¬ an_b true = 0 by decide), am_dp (by omega), if_neg (by decide), if_neg (by decide), if_neg (by decide), if_neg (by decide), if_neg (by decide), if_pos rfl]
      refine ⟨by omega, w_isX_5 (by omega) hB (by omega) hq ?_⟩
      rw [an_bf]
      by_cases he : an_sl B p (q - p) = an_wd 5
      · rw [decide_eq_true he]
        exact hit 5 (by omega) (by omega) he
      · rw [decide_eq_false he]
        exact miss 5 (by omega) (by omega) he
    · rw [if_neg (show ¬ an_b true = 0 by decide), am_dp (by omega), if_neg (by decide), if_neg (by decide), if_neg (by decide), if_neg (by decide), if_neg (by decide), if_neg (by decide), if_pos rfl]
      refine ⟨by omega, w_isX_6 (by omega) hB (by omega) hq ?_⟩
      rw [an_bf]
      by_cases he : an_sl B p (q - p) = an_wd 6
      · rw [decide_eq_true he]
        exact hit 6 (by omega) (by omega) he
      · rw [decide_eq_false he]
        exact miss 6 (by omega) (by omega) he
    · rw [if_neg (show ¬ an_b true = 0 by decide), am_dp (by omega), if_neg (by decide), if_neg (by decide), if_neg (by decide), if_neg (by decide), if_neg (by decide), if_neg (by decide), if_neg (by decide), if_pos rfl]
      refine ⟨by omega, w_isX_15 (by omega) hB (by omega) hq ?_⟩
      rw [an_bf]
      by_cases he : an_sl B p (q - p) = an_wd 15
      · rw [decide_eq_true he]
        exact hit 7 (by omega) (by omega) he
      · rw [decide_eq_false he]
        exact miss 7 (by omega) (by omega) he
    · rw [if_neg (show ¬ an_b true = 0 by decide), am_dp (by omega), if_neg (by decide), if_neg (by decide), if_neg (by decide), if_neg (by decide), if_neg (by decide), if_neg (by decide), if_neg (by decide), if_neg (by decide), if_pos rfl]
      refine ⟨by omega, w_isX_13 (by omega) hB (by omega) hq ?_⟩
      rw [an_bf]
      by_cases he : an_sl B p (q - p) = an_wd 13
      · rw [decide_eq_true he]
        exact hit 8 (by omega) (by omega) he
      · rw [decide_eq_false he]
        exact miss 8 (by omega) (by omega) he
    · rw [if_neg (show ¬ an_b true = 0 by decide), am_dp (by omega), if_neg (by decide), if_neg (by decide), if_neg (by decide), if_neg (by decide), if_neg (by decide), if_neg (by decide), if_neg (by decide), if_neg (by decide), if_neg (by decide), if_pos rfl]
      refine ⟨by omega, w_isX_16 (by omega) hB (by omega) hq ?_⟩
      rw [an_bf]
      by_cases he : an_sl B p (q - p) = an_wd 16
      · rw [decide_eq_true he]
        exact hit 9 (by omega) (by omega) he
      · rw [decide_eq_false he]
        exact miss 9 (by omega) (by omega) he
    · rw [if_neg (show ¬ an_b true = 0 by decide), am_dp (by omega), if_neg (by decide), if_neg (by decide), if_neg (by decide), if_neg (by decide), if_neg (by decide), if_neg (by decide), if_neg (by decide), if_neg (by decide), if_neg (by decide), if_neg (by decide), if_pos rfl]
      refine ⟨by omega, w_isX_17 (by omega) hB (by omega) hq ?_⟩
      rw [an_bf]
      by_cases he : an_sl B p (q - p) = an_wd 17
      · rw [decide_eq_true he]
        exact hit 10 (by omega) (by omega) he
      · rw [decide_eq_false he]
        exact miss 10 (by omega) (by omega) he
    · rw [if_neg (show ¬ an_b true = 0 by decide), am_dp (by omega), if_neg (by decide), if_neg (by decide), if_neg (by decide), if_neg (by decide), if_neg (by decide), if_neg (by decide), if_neg (by decide), if_neg (by decide), if_neg (by decide), if_neg (by decide), if_neg (by decide), if_pos rfl]
      refine ⟨by omega, w_isX_12 (by omega) hB (by omega) hq ?_⟩
      rw [an_bf]
      by_cases he : an_sl B p (q - p) = an_wd 12
      · rw [decide_eq_true he]
        exact hit 11 (by omega) (by omega) he
      · rw [decide_eq_false he]
        exact miss 11 (by omega) (by omega) he
    · rw [if_neg (show ¬ an_b true = 0 by decide), am_dp (by omega), if_neg (by decide), if_neg (by decide), if_neg (by decide), if_neg (by decide), if_neg (by decide), if_neg (by decide), if_neg (by decide), if_neg (by decide), if_neg (by decide), if_neg (by decide), if_neg (by decide), if_neg (by decide), if_pos rfl]
      refine ⟨by omega, w_isX_18 (by omega) hB (by omega) hq ?_⟩
      rw [an_bf]
      by_cases he : an_sl B p (q - p) = an_wd 18
      · rw [decide_eq_true he]
        exact hit 12 (by omega) (by omega) he
      · rw [decide_eq_false he]
        exact miss 12 (by omega) (by omega) he
    · rw [if_neg (show ¬ an_b true = 0 by decide), am_dp (by omega), if_neg (by decide), if_neg (by decide), if_neg (by decide), if_neg (by decide), if_neg (by decide), if_neg (by decide), if_neg (by decide), if_neg (by decide), if_neg (by decide), if_neg (by decide), if_neg (by decide), if_neg (by decide), if_neg (by decide), if_pos rfl]
      refine ⟨by omega, w_isX_8 (by omega) hB (by omega) hq ?_⟩
      rw [an_bf]
      by_cases he : an_sl B p (q - p) = an_wd 8
      · rw [decide_eq_true he]
        exact hit 13 (by omega) (by omega) he
      · rw [decide_eq_false he]
        exact miss 13 (by omega) (by omega) he
theorem w_addWord {L d n p q : Nat} {μ : am_M} {F : am_M → Prop} {tk : Nat → an_tke} {B : Nat → Nat} {T : Nat} {sg : Bool} (hd : 9 ≤ d) (hn : n ≤ 400) (hs : an_ts tk μ n) (hB : an_tb 2 μ B T) (hp : p < q) (hq : q ≤ T) (h6 : μ 3 6 = an_b sg) (h1 : (tk n).1 = (an_wcr sg (an_sl B p (q - p)) 14).1) (h2 : (tk n).2.1 = (an_wcr sg (an_sl B p (q - p)) 14).2) (h3 : (tk n).2.2.1 = p) (hF : ∀ μ', an_tf0 μ μ' → an_ts tk μ' (n + 1) → F μ') : am_Cv L d 53 [.ref 3, .ref 1, .int (nI p), .int (nI q)] μ F := by
  refine v_Reader_addWord ?_
  cases sg with
  | false => exact w_addWord_false hd hn hs hB hp hq h6 h3 hF 14 (by omega) h1 h2
  | true => exact w_addWord_true hd hn hs hB hp hq h6 h3 hF 14 (by omega) h1 h2
theorem w_addNumber {L d n p q : Nat} {μ : am_M} {F : am_M → Prop} {tk : Nat → an_tke} {B : Nat → Nat} {T : Nat} (hd : 3 ≤ d) (hn : n ≤ 400) (hs : an_ts tk μ n) (hB : an_tb 2 μ B T) (hp : p ≤ q) (hq : q ≤ T) (hdg : ∀ i, p ≤ i → i < q → 48 ≤ B i ∧ B i ≤ 57) (h1 : (tk n).1 = if 5 < q - p then 1 else 2) (h2 : (tk n).2.1 = if 5 < q - p then 0 else an_num B p (q - p)) (h3 : (tk n).2.2.1 = p) (hF : ∀ μ', an_tf0 μ μ' → an_ts tk μ' (n + 1) → F μ') : am_Cv L d 52 [.ref 3, .ref 1, .int (nI p), .int (nI q)] μ F := by
  obtain ⟨hT, hB⟩ := hB
  refine v_Reader_addNumber ?_
  rw [pk_sub hp]
  by_cases z : 5 < q - p
  · rw [if_pos z] at h1 h2
    rw [if_neg (nI_ge z (by omega))]
    exact ⟨by omega, w_addToken hn hs h1 h2 h3 hF⟩
  · rw [if_neg z] at h1 h2
    rw [if_pos (nI_le (by omega) (by omega))]
    suffices ∀ m x, x + m = q - p → am_Jv L d 52 21 [some (.ref 3), some (.ref 1), some (.int (nI p)), some (.int (nI q)), some (.int (nI (an_num B p x))), some (.int (nI (p + x)))] [] μ F from this (q - p) 0 (by omega)
    intro m
    induction m with
    | zero =>
      intro x hx
      refine v_Reader_addNumber_21 ?_
      rw [if_pos (nI_le (by omega) (by omega))]
      exact ⟨by omega, w_addToken hn hs h1 (by rw [h2, show x = q - p by omega]) h3 hF⟩
    | succ m ih =>
      intro x hx
      refine v_Reader_addNumber_21 ?_
      obtain ⟨b1, b2⟩ := hB (p + x) (by omega)
      obtain ⟨c1, c2⟩ := hdg (p + x) (by omega) (by omega)
      rw [if_neg (nI_ge (by omega) (by omega)), am_gd_in (by omega) (by omega), am_cl (by omega), b1, pk_mul, nI_add, pk_sub (by omega), nI_add, show an_num B p x * 10 + B (p + x) - 48 = an_num B p (x + 1) by rw [an_num]; omega]
      exact ih (x + 1) (by omega)
def an_s10 : List Nat := [59, 43, 45, 42, 47, 40, 41, 60, 61, 62]
theorem an_s10_e : ∀ b, b < 256 → (an_sgn b = true ↔ ∃ i, i < 10 ∧ an_s10.getD i 0 = b) := by decide +kernel
theorem an_s10_b : ∀ b, b < 256 → ∀ j, j < 10 → ((am_sB.getD 20 []).getD j 0 = (nI b).toInt8.toInt32 ↔ an_s10.getD j 0 = b) := by decide +kernel
theorem w_indexOf {L d b : Nat} {μ : am_M} {F : Int32 → am_M → Prop} (hd : 5 ≤ d) (hb : b < 256) (hF : ∀ r, (an_sgn b = true ∧ ¬ r < 0 ∨ an_sgn b = false ∧ r < 0) → F r μ) : am_Ci L d 243 [.ref 1020, .int (nI b)] μ F := by
  have loop : ∀ (D m j : Nat), j + m = 10 → (∀ i, i < j → ¬ an_s10.getD i 0 = b) → am_Ji L D 251 7 [some (.ref 2020), none, none, some (.int (nI 10)), some (.int (nI b).toInt8.toInt32), some (.int (nI j))] [] μ F := by
    intro D m
    induction m with
    | zero =>
      intro j hj hno
      refine v_StringLatin1_indexOfChar_7 ?_
      rw [if_pos (nI_le (by omega) (by omega))]
      refine hF _ (Or.inr ⟨?_, by decide⟩)
      cases hs : an_sgn b with
      | false => rfl
      | true =>
        obtain ⟨i, hi, e⟩ := (an_s10_e b hb).mp hs
        exact absurd e (hno i (by omega))
    | succ m ih =>
      intro j hj hno
      refine v_StringLatin1_indexOfChar_7 ?_
      rw [if_neg (nI_ge (by omega) (by omega)), am_gd_in (by omega) (by omega), am_cl (by omega)]
      by_cases z : an_s10.getD j 0 = b
      · rw [if_neg (fun y => y ((an_s10_b b hb j (by omega)).mpr z))]
        exact hF _ (Or.inl ⟨(an_s10_e b hb).mpr ⟨j, by omega, z⟩, nI_pos (by omega)⟩)
      · rw [if_pos (fun y => z ((an_s10_b b hb j (by omega)).mp y)), nI_add]
        refine ih (j + 1) (by omega) (fun i hi => ?_)
        by_cases y : i = j
        · rw [y]; exact z
        · exact hno i (by omega)
  refine v_String_indexOf ?_
  have g : (Nat.blt 0 ((d - 1) - 1) && true) = true := by rw [am_blt.mpr (by omega)]; rfl
  rw [am_dp (by omega), am_dp (by omega), am_dp (by omega), am_dp (by omega), am_dp (by omega), am_dp (by omega), if_neg (nI_pos (by omega)), if_neg (nI_nlt (by omega) (by omega)), g, am_gd_t, am_gd_t, if_pos (by decide), am_dp (by omega), show (if (nI 0) < (nI 0) then nI 0 else nI 0) = nI 0 by decide, show (if (nI 10) < ((nI 10) >>> (0 &&& 31)) then nI 10 else (nI 10) >>> (0 &&& 31)) = nI 10 by decide]
  refine v_StringLatin1_indexOfChar ?_
  exact loop _ 10 0 (by omega) (fun i hi => absurd hi (by omega))
