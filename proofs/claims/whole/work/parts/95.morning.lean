/-! A morning as a whole. -/

/-- the next morning's trains -/
def W_mor1 (w : an_W) (D : Nat) : an_W := W_ride (upd w 0 (nI (D + 1))) (D + 1)
def W_mor (lss : Nat → List an_Ln) (ord : Int32) (w : an_W) (D : Nat) : an_W := match W_biz (upd w 0 (nI (D + 1))) (D + 1) with
  | true => W_bks lss ord 4 0 (W_cb (W_mor1 w D))
  | false => W_mor1 w D
def an_morn (lss : Nat → List an_Ln) (ord : Int32) (w : an_W) (D : Nat) : Nat := match W_biz (upd w 0 (nI (D + 1))) (D + 1) with
  | true => an_bkn lss ord 4 0 (W_cb (W_mor1 w D))
  | false => 0
theorem s_M_morning {L d : Nat} {μ : am_M} {F : Int32 → am_M → Prop} {w : an_W} {lss : Nat → List an_Ln} {D : Nat} {ord : Int32} (hd : 10 ≤ d) (hD : w 0 = nI D) (hD9 : D < 199) (hw : μ 141 = w) (hN : an_N (w 1) 151) (ho : ∀ b, b < 4 → an_okl false (lss b)) (hN1 : an_N (W_mor1 w D 1) 151) (hE1 : an_N (W_mor1 w D 9810) 901) (hm1 : an_mq (W_mor1 w D)) (hdue : ∀ k, k < an_cnt (W_mor1 w D) → W_mor1 w D (3640 + 12 * k + 6) = nI 2 → ¬ W_mor1 w D 0 ≤ W_mor1 w D (3640 + 12 * k + 9)) (hA : an_ain (W_cb (W_mor1 w D)) (D + 1)) (hO : an_old (W_cb (W_mor1 w D))) (hM : ∀ b, b < 4 → ∀ w', (∀ j, 5440 ≤ j → j < 9810 → w' j = W_cb (W_mor1 w D) j) → an_scM w' b (lss b))
    (hF : ∀ μ', an_un [140, 141, 147, 148, 149] μ μ' → (∀ f, f ≠ 23 → μ' 140 f = μ 140 f) → μ' 141 = W_mor lss ord w D → F (nI (an_morn lss ord w D)) μ') : am_Ci L d 207 [.ref 140, .int ord] μ F := by
  refine v_M_morning ?_
  intro μ1 e1
  have w1 : μ1 141 = upd w 0 (nI (D + 1)) := by rw [e1, am_w_at, hw, hD, nI_add]
  have u1 : an_un [141] μ μ1 := e1 ▸ an_un_w (by simp)
  refine an_ride_m (by omega) (D := D + 1) (by rw [pk_us]) (by omega) w1 (by rw [pk_un (by omega)]; exact hN) (fun μ2 u2 w2 => ?_)
  unfold W_mor an_morn at hF
  have w2' : μ2 141 = W_mor1 w D := w2
  cases hz : W_biz (upd w 0 (nI (D + 1))) (D + 1) with
  | true =>
    rw [hz] at hF
    refine an_cb_m (by omega) w2' hE1 hN1 hm1 hdue (fun μ3 u3 w3 => ?_)
    refine s_M_banks hd (by omega) ho 4 0 0 μ3 _ (by omega) hA hO w3 hM (fun μ4 u4 v4 w4 => ?_)
    rw [Nat.zero_add]
    refine hF μ4 (fun c hc => ?_) (fun f hf => ?_) w4
    · have h1 : c ∉ [141] := fun z => hc (by simp at z ⊢; omega)
      rw [u4 c hc, u3 c h1, u2 c h1, u1 c h1]
    · rw [v4 f hf, u3 140 (by decide), u2 140 (by decide), u1 140 (by decide)]
  | false =>
    rw [hz] at hF
    refine hF μ2 (fun c hc => ?_) (fun f hf => ?_) w2'
    · have h1 : c ∉ [141] := fun z => hc (by simp at z ⊢; omega)
      rw [u2 c h1, u1 c h1]
    · rw [u2 140 (by decide), u1 140 (by decide)]
