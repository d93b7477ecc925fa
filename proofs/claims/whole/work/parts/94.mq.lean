/-! A morning: what the trains and what comes back leave alone. -/

theorem an_N_dec {x : Int32} {m : Nat} (h : an_N x m) (hm : m < 2147483648) (h0 : ¬ x ≤ 0) : an_N (x - nI 1) m := by
  obtain ⟨j, hj, rfl⟩ := h
  rcases Nat.eq_zero_or_pos j with q | q
  · exact absurd (by rw [q]; decide) h0
  · refine ⟨j - 1, by omega, ?_⟩
    have : nI j = nI (j - 1) + nI 1 := by rw [nI_add]; congr 1; omega
    rw [this]
    simp
theorem an_ride1_mq {w : an_W} {k : Nat} (hm : an_mq w) (hN : an_cnt w ≤ 150) (hk : k < an_cnt w) : an_mq (an_ride1 w k) := by
  intro i hi
  have hc : an_cnt (an_ride1 w k) = an_cnt w := by unfold an_cnt; rw [an_ride1_o (by omega)]
  rw [hc] at hi
  obtain ⟨m0, m1, m2, m3, m4, m6, m7⟩ := hm i hi
  rw [an_ride1_o (by omega), an_ride1_o (by omega), an_ride1_o (by omega), an_ride1_o (by omega), an_ride1_o (i := 3640 + 12 * i + 4) (by omega), an_ride1_o (by omega)]
  refine ⟨m0, m1, m2, m3, m4, m6, ?_⟩
  by_cases q : i = k
  · unfold an_ride1
    split
    · rename_i e
      rw [q, pk_us]
      exact an_N_dec (q ▸ m7) (by omega) e.2
    · exact m7
  · rw [an_ride1_o (by omega)]; exact m7
theorem an_ride_mq {w : an_W} (hm : an_mq w) (hN : an_cnt w ≤ 150) : ∀ n, n ≤ an_cnt w → an_mq (an_ride w n) ∧ an_cnt (an_ride w n) = an_cnt w := by
  intro n
  induction n with
  | zero => intro _; exact ⟨hm, rfl⟩
  | succ n ih =>
    intro hn
    obtain ⟨r1, r2⟩ := ih (by omega)
    refine ⟨an_ride1_mq r1 (by omega) (by omega), ?_⟩
    rw [← r2]
    unfold an_cnt
    rw [an_ride, an_ride1_o (by omega)]
theorem W_ride_mq {w : an_W} {D : Nat} (hm : an_mq w) (hN : an_cnt w ≤ 150) : an_mq (W_ride w D) := by
  unfold W_ride
  split
  · exact (an_ride_mq hm hN _ (Nat.le_refl _)).1
  · exact hm
theorem an_cb1_mq {w : an_W} {k : Nat} (hm : an_mq w) (hN : an_cnt w ≤ 150) (hk : k < an_cnt w) : an_mq (an_cb1 w k) := by
  obtain ⟨n0, n1, n2, n3, n4, n6, n7⟩ := hm k hk
  obtain ⟨e2, l2⟩ := an_N_e n2 (by omega)
  obtain ⟨e3, l3⟩ := an_N_e n3 (by omega)
  have o : ∀ j, j < 9810 → ¬ (210 ≤ j ∧ j < 234) → ¬ j = 3640 + 12 * k + 6 → an_cb1 w k j = w j := fun j q1 q2 q3 => by
    unfold an_cb1
    split
    · rw [W_books_o q1 (by omega), pk_un q3]
    · rfl
  intro i hi
  have hc : an_cnt (an_cb1 w k) = an_cnt w := by unfold an_cnt; rw [o _ (by omega) (by omega) (by omega)]
  rw [hc] at hi
  obtain ⟨m0, m1, m2, m3, m4, m6, m7⟩ := hm i hi
  rw [o _ (by omega) (by omega) (by omega), o _ (by omega) (by omega) (by omega), o _ (by omega) (by omega) (by omega), o _ (by omega) (by omega) (by omega), o (3640 + 12 * i + 4) (by omega) (by omega) (by omega), o (3640 + 12 * i + 7) (by omega) (by omega) (by omega)]
  refine ⟨m0, m1, m2, m3, m4, ?_, m7⟩
  by_cases q : i = k
  · unfold an_cb1
    split
    · rw [q, W_books_o (by omega) (by omega), pk_us]; exact ⟨3, by omega, rfl⟩
    · exact m6
  · rw [o _ (by omega) (by omega) (by omega)]; exact m6
theorem an_cb_mq {w : an_W} (hm : an_mq w) (hN : an_cnt w ≤ 150) : ∀ n, n ≤ an_cnt w → an_mq (an_cb w n) := by
  intro n
  induction n with
  | zero => intro _; exact hm
  | succ n ih =>
    intro hn
    have r1 := ih (by omega)
    have r2 : an_cnt (an_cb w n) = an_cnt w := by unfold an_cnt; rw [an_cb_o hm hN n (by omega) 1 (by omega) (by omega) (fun k _ => by omega)]
    exact an_cb1_mq r1 (by omega) (by omega)
theorem W_cb_mq {w : an_W} (hm : an_mq w) (hN : an_cnt w ≤ 150) : an_mq (W_cb w) := an_cb_mq hm hN _ (Nat.le_refl _)
