/-! A morning: a cheque is asked for, the class. -/

theorem an_RL_w {l : Nat} {w w' : an_W} {μ : am_M} (hR : an_RL l w μ) (h0 : w' 0 = w 0) (h1 : w' 1 = w 1) (hk : ∀ k f, k < 150 → f < 10 → w' (3640 + 12 * k + f) = w (3640 + 12 * k + f)) (hb : ∀ j, 210 ≤ j → j < 282 → w' j = w j) : an_RL l w' μ := by
  obtain ⟨r1, r2, r3, r4, r5, r6⟩ := hR
  refine ⟨by rw [h0]; exact r1, by rw [h1]; exact r2, fun k f q1 q2 => by rw [hk k f q1 q2]; exact r3 k f q1 q2, fun i hi => by rw [hb _ (by omega) (by omega)]; exact r4 i hi, fun i hi => by rw [hb _ (by omega) (by omega)]; exact r5 i hi, fun i hi => by rw [hb _ (by omega) (by omega)]; exact r6 i hi⟩
theorem an_RE_w {c : Nat} {w w' : an_W} {μ : am_M} (hR : an_RE c w μ) (h : ∀ j, 9810 ≤ j → w' j = w j) : an_RE c w' μ := by
  obtain ⟨r1, r2⟩ := hR
  exact ⟨by rw [h _ (by omega)]; exact r1, fun i hi => by rw [h _ (by omega)]; exact r2 i hi⟩
theorem an_RL_fee {l : Nat} {w : an_W} {μ μ' : am_M} {h b : Nat} {v : Int32} (hR : an_RL l w μ) (hh : h < 6) (hb : b < 4) (e : μ' = am_w μ (l + 4) (h * 4 + b) v) : an_RL l (upd w (258 + 4 * h + b) v) μ' := by
  obtain ⟨h1, h2, h3, h4, h5, h6⟩ := hR
  have y : ∀ c, c ≠ l + 4 → μ' c = μ c := fun c q => an_w_c e q
  refine ⟨?_, ?_, fun k' f' hk' hf' => ?_, fun i hi => ?_, fun i hi => ?_, fun i hi => ?_⟩
  · rw [y _ (by omega), pk_un (by omega)]; exact h1
  · rw [y _ (by omega), pk_un (by omega)]; exact h2
  · rw [y _ (by omega), pk_un (by omega)]; exact h3 k' f' hk' hf'
  · rw [y _ (by omega), pk_un (by omega)]; exact h4 i hi
  · rw [y _ (by omega), pk_un (by omega)]; exact h5 i hi
  · by_cases q : i = h * 4 + b
    · rw [q, an_w_s e, show 258 + (h * 4 + b) = 258 + 4 * h + b by omega, pk_us]
    · rw [an_w_o e q, pk_un (by omega)]; exact h6 i hi
theorem an_uf_cg : ∀ (l : List Int32) (w w' : an_W) (e j : Nat), w' j = w j → an_uf w' e l j = an_uf w e l j := by
  intro l
  induction l with
  | nil => intro w w' e j h; exact h
  | cons x l ih =>
    intro w w' e j h
    refine ih _ _ _ _ ?_
    by_cases q : j = e
    · rw [q, pk_us, pk_us]
    · rw [pk_un q, pk_un q]; exact h
theorem W_books_cg {w w' : an_W} {h b j : Nat} {kind k v : Int32} (h0 : w' 0 = w 0) (h1 : w' 9810 = w 9810) (h2 : w' (210 + 4 * h + b) = w (210 + 4 * h + b)) (h3 : w' j = w j) : W_books w' h b kind k v j = W_books w h b kind k v j := by
  have hE : an_E w' = an_E w := by unfold an_E; rw [h1]
  have u : upd w' (210 + 4 * h + b) (w (210 + 4 * h + b) + v) j = upd w (210 + 4 * h + b) (w (210 + 4 * h + b) + v) j := by
    by_cases q : j = 210 + 4 * h + b
    · rw [q, pk_us, pk_us]
    · rw [pk_un q, pk_un q]; exact h3
  unfold W_books
  rw [hE, h0, h2]
  split
  · exact h3
  · split
    · exact u
    · by_cases q : j = 9810
      · rw [q, pk_us, pk_us]
      · rw [pk_un q, pk_un q]; exact an_uf_cg _ _ _ _ _ u
/-- what the class writes before the books -/
def W_at (w : an_W) (k h b : Nat) (fee st nd : Int32) : an_W := upd (upd (upd (upd w (3640 + 12 * k + 9) (w 0)) (3640 + 12 * k + 6) st) (3640 + 12 * k + 7) nd) (258 + 4 * h + b) (w (258 + 4 * h + b) + fee)
theorem W_as_e {w : an_W} {k h b j : Nat} {kind v fee st nd : Int32} (hk : k < 150) (hh : h < 6) (hb : b < 4) (hj : ¬ j = 4) : W_as w k h b kind v fee st nd j = W_books (W_at w k h b fee st nd) h b kind (nI k) v j := by
  have c : ∀ i, ¬ i = 3640 + 12 * k + 9 → ¬ i = 3640 + 12 * k + 6 → ¬ i = 3640 + 12 * k + 7 → ¬ i = 258 + 4 * h + b → W_at w k h b fee st nd i = w i := fun i q1 q2 q3 q4 => by
    unfold W_at
    rw [pk_un q4, pk_un q3, pk_un q2, pk_un q1]
  show upd (upd (upd (upd (upd (W_books w h b kind (nI k) v) (258 + 4 * h + b) (W_books w h b kind (nI k) v (258 + 4 * h + b) + fee)) 4 _) (3640 + 12 * k + 6) st) (3640 + 12 * k + 9) (w 0)) (3640 + 12 * k + 7) nd j = _
  by_cases q7 : j = 3640 + 12 * k + 7
  · rw [q7, pk_us, W_books_o (by omega) (by omega)]
    unfold W_at
    rw [pk_un (by omega), pk_us]
  by_cases q9 : j = 3640 + 12 * k + 9
  · rw [q9, pk_un (by omega), pk_us, W_books_o (by omega) (by omega)]
    unfold W_at
    rw [pk_un (by omega), pk_un (by omega), pk_un (by omega), pk_us]
  by_cases q6 : j = 3640 + 12 * k + 6
  · rw [q6, pk_un (by omega), pk_un (by omega), pk_us, W_books_o (by omega) (by omega)]
    unfold W_at
    rw [pk_un (by omega), pk_un (by omega), pk_us]
  by_cases q8 : j = 258 + 4 * h + b
  · rw [q8, pk_un (by omega), pk_un (by omega), pk_un (by omega), pk_un (by omega), pk_us, W_books_o (by omega) (by omega), W_books_o (by omega) (by omega)]
    unfold W_at
    rw [pk_us]
  rw [pk_un q7, pk_un q9, pk_un q6, pk_un hj, pk_un q8]
  exact (W_books_cg (c _ (by omega) (by omega) (by omega) (by omega)) (c _ (by omega) (by omega) (by omega) (by omega)) (c _ (by omega) (by omega) (by omega) (by omega)) (c _ q9 q6 q7 q8)).symm
theorem W_usable_9 {w : an_W} {k h b : Nat} {v : Int32} (hN : an_N (w 1) 151) (hh : h < 6) (hb : b < 4) : W_usable (upd w (3640 + 12 * k + 9) v) h b = W_usable w h b := by
  have e : ∀ i, ¬ i = 3640 + 12 * k + 9 → upd w (3640 + 12 * k + 9) v i = w i := fun i q => pk_un q
  unfold W_usable W_held an_cnt
  rw [e _ (by omega), e 1 (by omega)]
  congr 1
  refine am_sum_congr _ (fun i _ => ?_)
  unfold an_f_held
  rw [e _ (by omega), e _ (by omega), e _ (by omega), e _ (by omega), e _ (by omega), e _ (by omega), e _ (by omega)]
theorem W_law_9 {w : an_W} {ls : List an_Ln} {k wd h b : Nat} {v am rl wk : Int32} {far : Bool} (hh : h < 6) (hb : b < 4) : W_law (upd w (3640 + 12 * k + 9) v) ls wd h b am rl wk far = W_law w ls wd h b am rl wk far := by
  have e : ∀ i, ¬ i = 3640 + 12 * k + 9 → upd w (3640 + 12 * k + 9) v i = w i := fun i q => pk_un q
  have el : W_lately (upd w (3640 + 12 * k + 9) v) (nI h) (nI b) = W_lately w (nI h) (nI b) := by
    unfold W_lately an_cnt
    rw [e 1 (by omega)]
    refine am_sum_congr _ (fun i _ => ?_)
    unfold an_f_lately
    rw [e _ (by omega), e _ (by omega), e _ (by omega), e _ (by omega)]
  unfold W_law W_fal
  rw [el, e _ (by omega)]
