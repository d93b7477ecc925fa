/-! Payments by far banks: the best ways, the call. -/
variable {nb : Nat}
/-- the best of the first k ways, and its float -/
noncomputable def an_bst (w : an_W) (h n : Nat) (ls : Bool) : Nat → Option (Nat × Nat)
  | 0 => none
  | k + 1 => @ite _ (an_okw w h n k) (Classical.propDecidable _) (match an_bst w h n ls k with
    | none => some (k, an_fv w n k n)
    | some p => (match ls with
      | true => if an_fv w n k n < p.2 then some (k, an_fv w n k n) else some p
      | false => if p.2 < an_fv w n k n then some (k, an_fv w n k n) else some p)) (an_bst w h n ls k)
theorem an_bst_no {w : an_W} {h n k : Nat} {ls : Bool} (q : ¬ an_okw w h n k) : an_bst w h n ls (k + 1) = an_bst w h n ls k := by
  rw [an_bst]; exact if_neg q
theorem an_bst_0 {w : an_W} {h n k : Nat} {ls : Bool} (q : an_okw w h n k) (e : an_bst w h n ls k = none) : an_bst w h n ls (k + 1) = some (k, an_fv w n k n) := by
  rw [an_bst, e]; exact if_pos q
theorem an_bst_m {w : an_W} {h n k b v : Nat} (q : an_okw w h n k) (e : an_bst w h n false k = some (b, v)) : an_bst w h n false (k + 1) = if v < an_fv w n k n then some (k, an_fv w n k n) else some (b, v) := by
  rw [an_bst, e]; exact if_pos q
theorem an_bst_l {w : an_W} {h n k b v : Nat} (q : an_okw w h n k) (e : an_bst w h n true k = some (b, v)) : an_bst w h n true (k + 1) = if an_fv w n k n < v then some (k, an_fv w n k n) else some (b, v) := by
  rw [an_bst, e]; exact if_pos q
/-- one of two searches: nothing yet, or the best so far -/
def an_ws (o : Option (Nat × Nat)) (k : Nat) (way val : Int32) : Prop := ∃ b v, o = some (b, v) ∧ way = nI b ∧ val = nI v ∧ b < k ∧ v < 3000001
def an_wc (w : an_W) (h n k : Nat) (x3 : Int32) (μ : am_M) : Prop := (an_bst w h n false k = none ∧ an_bst w h n true k = none ∧ x3 = nI 0) ∨ (an_ws (an_bst w h n false k) k (μ 136 4) (μ 136 2) ∧ an_ws (an_bst w h n true k) k (μ 136 5) (μ 136 3) ∧ x3 = nI 1)
theorem an_ws_mo {o : Option (Nat × Nat)} {k : Nat} {x y : Int32} (h : an_ws o k x y) : an_ws o (k + 1) x y := by
  obtain ⟨b, v, h1, h2, h3, h4, h5⟩ := h
  exact ⟨b, v, h1, h2, h3, by omega, h5⟩
theorem s_Ways_search {L d : Nat} {μ : am_M} {F : Int32 → am_M → Prop} {w : an_W} {h n : Nat} (hd : 10 ≤ d) (hh : h < 6) (hp : an_pok w n) (hX : an_pX w μ) (hT : an_WT w) (hC : an_RC 15 w μ) (hR : an_RL 58 w μ) (hN : an_N (w 1) 151)
    (hF : ∀ μ' r, an_un [136, 137, 138] μ μ' → an_wc w h n (4 ^ n) r μ' → F r μ') : am_Ci L d 83 [.ref 136, .ref 14, .int (nI h)] μ F := by
  have hn := hp.1
  obtain ⟨e4, l4⟩ := an_4p n hn
  have loop : ∀ (m k : Nat) (μ1 : am_M) (x3 : Int32), k + m = 4 ^ n → an_un [136, 137, 138] μ μ1 → (∀ b, b < 4 → μ1 138 b = W_usable w h b) → an_wc w h n k x3 μ1 → am_Ji L d 83 43 [some (.ref 136), some (.ref 14), none, some (.int x3), some (.int (nI (4 ^ n))), some (.int (nI k)), none] [] μ1 F := by
    intro m
    induction m with
    | zero =>
      intro k μ1 x3 hk u1 U1 c1
      obtain rfl : k = 4 ^ n := by omega
      refine v_Ways_search_43 ?_
      rw [if_pos (nI_le (Nat.le_refl _) (by omega))]
      have hx : am_nar 1 x3 = true := by
        rcases c1 with ⟨_, _, e⟩ | ⟨_, _, e⟩
        · rw [e]; decide
        · rw [e]; decide
      rw [hx]
      exact hF μ1 x3 u1 c1
    | succ m ih =>
      intro k μ1 x3 hk u1 U1 c1
      refine v_Ways_search_43 ?_
      rw [if_neg (nI_ge (by omega) (by omega))]
      have X1 : an_pX w μ1 := by
        unfold an_pX
        rw [u1 67 (by decide), u1 68 (by decide), u1 14 (by decide)]
        exact hX
      refine ⟨by omega, s_isWay (by omega) hp X1 (by omega) U1 (fun μ2 r u2 hr => ?_)⟩
      have u2' : an_un [136, 137, 138] μ μ2 := an_un_tr u1 u2 (fun _ z => z) (by simp)
      have U2 : ∀ b, b < 4 → μ2 138 b = W_usable w h b := fun b hb => by rw [u2 138 (by decide)]; exact U1 b hb
      have r136 : μ2 136 = μ1 136 := u2 136 (by decide)
      rcases hr with ⟨ok, rfl⟩ | ⟨nok, rfl⟩
      · rw [if_pos (by decide)]
        have X2 : an_pX w μ2 := by
          unfold an_pX
          rw [u2' 67 (by decide), u2' 68 (by decide), u2' 14 (by decide)]
          exact hX
        refine ⟨by omega, s_floatOf (by omega) hp X2 hT (an_RC_c hC (fun c z1 z2 => u2' c (by simp; omega))) (by omega) ?_⟩
        have fl := an_fv_le (way := k) hp hT n (Nat.le_refl _)
        have wr : ∀ (μa μb : am_M) (i : Nat) (v : Int32), an_un [136, 137, 138] μ μa → μb = am_w μa 136 i v → an_un [136, 137, 138] μ μb := fun μa μb i v ua e => an_un_tr ua (e ▸ an_un_w (by simp)) (fun _ z => z) (fun _ z => z)
        have Uw : ∀ (μa μb : am_M) (i : Nat) (v : Int32), (∀ b, b < 4 → μa 138 b = W_usable w h b) → μb = am_w μa 136 i v → (∀ b, b < 4 → μb 138 b = W_usable w h b) := fun μa μb i v Ua e b hb => by rw [an_w_c e (by decide)]; exact Ua b hb
        rcases c1 with ⟨n1, n2, rfl⟩ | ⟨⟨b, v, s1, s2, s3, s4, s5⟩, ⟨b', v', t1, t2, t3, t4, t5⟩, rfl⟩
        · rw [if_pos (by decide)]
          intro μ5 e5 μ6 e6
          rw [if_pos (by decide)]
          intro μ7 e7 μ8 e8
          rw [nI_add]
          refine ih (k + 1) μ8 _ (by omega) (wr _ _ _ _ (wr _ _ _ _ (wr _ _ _ _ (wr _ _ _ _ u2' e5) e6) e7) e8) (Uw _ _ _ _ (Uw _ _ _ _ (Uw _ _ _ _ (Uw _ _ _ _ U2 e5) e6) e7) e8) (Or.inr ⟨⟨k, _, an_bst_0 ok n1, ?_, ?_, by omega, by omega⟩, ⟨k, _, an_bst_0 ok n2, ?_, ?_, by omega, by omega⟩, rfl⟩)
          · rw [an_w_o e8 (by decide), an_w_o e7 (by decide), an_w_s e6]
          · rw [an_w_o e8 (by decide), an_w_o e7 (by decide), an_w_o e6 (by decide), an_w_s e5]
          · rw [an_w_s e8]
          · rw [an_w_o e8 (by decide), an_w_s e7]
        · have sm := an_bst_m ok s1
          have sl := an_bst_l ok t1
          have rest : ∀ (μ6 : am_M), an_un [136, 137, 138] μ μ6 → (∀ b, b < 4 → μ6 138 b = W_usable w h b) → an_ws (an_bst w h n false (k + 1)) (k + 1) (μ6 136 4) (μ6 136 2) → μ6 136 5 = nI b' → μ6 136 3 = nI v' → (if nI 1 = 0 then am_put (am_w μ6 136 3 (nI (an_fv w n k n))) (fun μ7 => am_put (am_w μ7 136 5 (nI k)) (fun μ8 => am_Ji L d 83 43 [some (.ref 136), some (.ref 14), none, some (.int (nI 1)), some (.int (nI (4 ^ n))), some (.int (nI k + (nI 1))), none] [] μ8 F)) else if (μ6 136 3) ≤ nI (an_fv w n k n) then am_Ji L d 83 43 [some (.ref 136), some (.ref 14), none, some (.int (nI 1)), some (.int (nI (4 ^ n))), some (.int (nI k + (nI 1))), none] [] μ6 F else am_put (am_w μ6 136 3 (nI (an_fv w n k n))) (fun μ9 => am_put (am_w μ9 136 5 (nI k)) (fun μ10 => am_Ji L d 83 43 [some (.ref 136), some (.ref 14), none, some (.int (nI 1)), some (.int (nI (4 ^ n))), some (.int (nI k + (nI 1))), none] [] μ10 F))) := by
            intro μ6 u6 U6 w6 y5 y3
            rw [if_neg (by decide), y3]
            by_cases q : v' ≤ an_fv w n k n
            · rw [if_pos (nI_le q (by omega)), nI_add]
              rw [if_neg (by omega)] at sl
              exact ih (k + 1) μ6 _ (by omega) u6 U6 (Or.inr ⟨w6, ⟨b', v', sl, y5, y3, by omega, t5⟩, rfl⟩)
            · rw [if_neg (nI_ge (by omega) (by omega)), nI_add]
              rw [if_pos (by omega)] at sl
              intro μ9 e9 μ10 e10
              refine ih (k + 1) μ10 _ (by omega) (wr _ _ _ _ (wr _ _ _ _ u6 e9) e10) (Uw _ _ _ _ (Uw _ _ _ _ U6 e9) e10) (Or.inr ⟨?_, ⟨k, _, sl, ?_, ?_, by omega, by omega⟩, rfl⟩)
              · rw [an_w_o e10 (by decide), an_w_o e10 (by decide), an_w_o e9 (by decide), an_w_o e9 (by decide)]; exact w6
              · rw [an_w_s e10]
              · rw [an_w_o e10 (by decide), an_w_s e9]
          rw [if_neg (by decide), show μ2 136 2 = nI v by rw [r136]; exact s3]
          by_cases q : an_fv w n k n ≤ v
          · rw [if_pos (nI_le q (by omega))]
            rw [if_neg (by omega)] at sm
            exact rest μ2 u2' U2 ⟨b, v, sm, by rw [r136]; exact s2, by rw [r136]; exact s3, by omega, s5⟩ (by rw [r136]; exact t2) (by rw [r136]; exact t3)
          · rw [if_neg (nI_ge (by omega) (by omega))]
            rw [if_pos (by omega)] at sm
            intro μ15 e15 μ16 e16
            refine rest μ16 (wr _ _ _ _ (wr _ _ _ _ u2' e15) e16) (Uw _ _ _ _ (Uw _ _ _ _ U2 e15) e16) ⟨k, _, sm, by rw [an_w_s e16], by rw [an_w_o e16 (by decide), an_w_s e15], by omega, by omega⟩ ?_ ?_
            · rw [an_w_o e16 (by decide), an_w_o e15 (by decide), r136]; exact t2
            · rw [an_w_o e16 (by decide), an_w_o e15 (by decide), r136]; exact t3
      · rw [if_neg (by decide), nI_add]
        refine ih (k + 1) μ2 x3 (by omega) u2' U2 ?_
        unfold an_wc
        rw [an_bst_no nok, an_bst_no nok, r136]
        rcases c1 with ⟨n1, n2, e⟩ | ⟨s, t, e⟩
        · exact Or.inl ⟨n1, n2, e⟩
        · exact Or.inr ⟨an_ws_mo s, an_ws_mo t, e⟩
  have us : ∀ (m j : Nat) (μ1 : am_M), j + m = 4 → an_un [136, 137, 138] μ μ1 → (∀ b, b < j → μ1 138 b = W_usable w h b) → am_Ji L d 83 2 [some (.ref 136), some (.ref 14), some (.int (nI h)), some (.int (nI j)), none, none, none] [] μ1 F := by
    intro m
    induction m with
    | zero =>
      intro j μ1 hj u1 z1
      obtain rfl : j = 4 := by omega
      refine v_Ways_search_2 ?_
      rw [if_pos (nI_le (Nat.le_refl _) (by omega)), u1 14 (by decide), hX.2, hp.2.1, e4]
      exact loop (4 ^ n) 0 μ1 _ (by omega) u1 z1 (Or.inl ⟨rfl, rfl, rfl⟩)
    | succ m ih =>
      intro j μ1 hj u1 z1
      refine v_Ways_search_2 ?_
      rw [if_neg (nI_ge (by omega) (by omega)), nI_add]
      refine ⟨by omega, s_Ledger_usable (by omega) hh (by omega) (an_RL_c hR (fun c z1 z2 => u1 c (by simp; omega))) hN ?_⟩
      rw [am_gd_in (by omega) (by omega), am_cl (by omega)]
      intro μ2 e2
      refine ih (j + 1) μ2 (by omega) (an_un_tr u1 (e2 ▸ an_un_w (by simp)) (fun _ z => z) (fun _ z => z)) (fun b hb => ?_)
      by_cases z : b = j
      · rw [z, an_w_s e2]
      · rw [an_w_o e2 z]; exact z1 b (by omega)
  refine v_Ways_search ?_
  exact us 4 0 μ (by omega) an_un_rf (fun b hb => absurd hb (by omega))
/-- the model's search -/
theorem s_M_ways {L d : Nat} {μ : am_M} {F : Int32 → am_M → Prop} {w : an_W} {h n : Nat} {x2 : Int32} {ls : Bool} (hd : 10 ≤ d) (hh : h < 6) (hp : an_pok w n) (hT : an_WT w) (hN : an_N (w 1) 151) (hm : μ 141 = w)
    (hF : ∀ μ' x5 x6, an_un [152] μ μ' → (an_bst w h n ls (4 ^ n) = none ∧ x5 = - nI 1 ∧ x6 = - nI 1 ∨ an_ws (an_bst w h n ls (4 ^ n)) (4 ^ n) x5 x6) → if x2 < (nI 2) then am_Ji L d 234 159 [none, none, none, none, none, none, some (.int x6), none, none] [] μ' F else if ¬ x5 = (- nI 1) then am_gd (!(decide (nI 10 = 0))) (F ((x5 >>> (((nI 2) * ((nI n - (nI 1)) - (x2 - x2 / (nI 10) * (nI 10)))) &&& 31)) &&& (nI 3)) μ') else am_Ji L d 234 159 [none, none, none, none, none, none, some (.int x6), none, none] [] μ' F) :
    am_Ji L d 234 69 [some (.ref 140), some (.int (nI h)), some (.int x2), some (.int (nI n)), some (.int (an_b ls)), none, none, none, none] [] μ F := by
  have hn := hp.1
  obtain ⟨e4, l4⟩ := an_4p n hn
  have neg : ∀ a, a < 2147483648 → ¬ nI a = - nI 1 := fun a ha z => by
    have := nI_pos ha
    rw [z] at this
    exact this (by decide)
  have loop : ∀ (m k : Nat) (μ1 : am_M) (x5 x6 : Int32), k + m = 4 ^ n → an_un [152] μ μ1 → (an_bst w h n ls k = none ∧ x5 = - nI 1 ∧ x6 = - nI 1 ∨ an_ws (an_bst w h n ls k) k x5 x6) → am_Ji L d 234 78 [some (.ref 140), some (.int (nI h)), some (.int x2), some (.int (nI n)), some (.int (an_b ls)), some (.int x5), some (.int x6), some (.int (nI k)), none] [] μ1 F := by
    intro m
    induction m with
    | zero =>
      intro k μ1 x5 x6 hk u1 c1
      obtain rfl : k = 4 ^ n := by omega
      refine v_M_payFloat_78 ?_
      rw [e4, if_pos (nI_le (Nat.le_refl _) (by omega))]
      exact hF μ1 x5 x6 u1 c1
    | succ m ih =>
      intro k μ1 x5 x6 hk u1 c1
      refine v_M_payFloat_78 ?_
      rw [e4, if_neg (nI_ge (by omega) (by omega))]
      refine ⟨by omega, s_M_floats (by omega) hh hp hT hN ((u1 141 (by decide)).trans hm) (by omega) (fun μ2 r u2 hr => ?_)⟩
      have u2' : an_un [152] μ μ2 := an_un_tr u1 u2 (fun _ z => z) (fun _ z => z)
      have fl := an_fv_le (way := k) hp hT n (Nat.le_refl _)
      have stay : ∀ (_ : an_bst w h n ls (k + 1) = an_bst w h n ls k), am_Ji L d 234 142 [some (.ref 140), some (.int (nI h)), some (.int x2), some (.int (nI n)), some (.int (an_b ls)), some (.int x5), some (.int x6), some (.int (nI k)), none] [] μ2 F := fun e => by
        refine v_M_payFloat_142 ?_
        rw [nI_add]
        refine ih (k + 1) μ2 x5 x6 (by omega) u2' ?_
        rw [e]
        exact c1.imp id an_ws_mo
      have take : ∀ (_ : an_bst w h n ls (k + 1) = some (k, an_fv w n k n)), am_Ji L d 234 134 [some (.ref 140), some (.int (nI h)), some (.int x2), some (.int (nI n)), some (.int (an_b ls)), none, none, some (.int (nI k)), some (.int (nI (an_fv w n k n)))] [] μ2 F := fun e => by
        refine v_M_payFloat_134 (v_M_payFloat_142 ?_)
        rw [nI_add]
        exact ih (k + 1) μ2 _ _ (by omega) u2' (Or.inr ⟨k, _, e, rfl, rfl, by omega, by omega⟩)
      rcases hr with ⟨ok, rfl⟩ | ⟨nok, rfl⟩
      · rw [if_neg (neg _ (by omega))]
        rcases c1 with ⟨n1, rfl, rfl⟩ | ⟨b, v, s1, rfl, rfl, s4, s5⟩
        · rw [if_pos rfl]
          exact take (an_bst_0 ok n1)
        · rw [if_neg (neg _ (by omega))]
          cases ls with
          | false =>
            have sm := an_bst_m ok s1
            rw [if_pos (show an_b false = 0 by decide)]
            by_cases q : v < an_fv w n k n
            · rw [if_pos (nI_lt q (by omega))]
              rw [if_pos q] at sm
              exact take sm
            · rw [if_neg (nI_nlt (by omega) (by omega))]
              rw [if_neg q] at sm
              exact stay (sm.trans s1.symm)
          | true =>
            have sl := an_bst_l ok s1
            rw [if_neg (show ¬ an_b true = 0 by decide)]
            by_cases q : an_fv w n k n < v
            · rw [if_pos (nI_lt q (by omega))]
              rw [if_pos q] at sl
              exact take sl
            · rw [if_neg (nI_nlt (by omega) (by omega))]
              rw [if_neg q] at sl
              exact stay (sl.trans s1.symm)
      · rw [if_pos rfl]
        exact stay (an_bst_no nok)
  refine v_M_payFloat_69 ?_
  exact loop (4 ^ n) 0 μ _ _ (by omega) an_un_rf (Or.inl ⟨rfl, rfl, rfl⟩)
