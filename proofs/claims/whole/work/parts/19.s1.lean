def s_heldf (c : Nat → Nat → Int32) (now h b : Int32) (k : Nat) : Int32 :=
  if c k 5 + c k 8 ≤ now then nI 0 else if c k 6 = nI 3 then nI 0 else if ¬ c k 2 = h then nI 0 else if ¬ c k 3 = b then nI 0 else c k 4
theorem s_held {L d : Nat} {μ : am_M} {F : Int32 → am_M → Prop} {p1 p2 : Int32} {N : Nat} (hd : 2 ≤ d) (hN : N ≤ 150) (hn : μ 58 9 = nI N)
    (h : F (am_sum (s_heldf (fun k f => μ 59 (k * 10 + f)) (μ 58 8) p1 p2) N) μ) : am_Ci L d 18 [.ref 58, .int p1, .int p2] μ F := by
  refine v_held ?_
  refine am_down (P := fun j => am_Ji L d 18 5 [some (.ref 58), some (.int p1), some (.int p2), some (.int (am_sum (s_heldf (fun k f => μ 59 (k * 10 + f)) (μ 58 8) p1 p2) j)), some (.int (nI j)), none] [] μ F) (N := N) ?_ ?_ 0 (Nat.zero_le _)
  · refine v_held_5 ?_
    rw [hn, if_pos (nI_le (Nat.le_refl _) (by omega))]
    exact h
  · intro j hj ih
    refine v_held_5 ?_
    rw [hn, if_neg (nI_ge hj (by omega))]
    simp (discharger := omega) only [pk_mul, nI_add, am_cl, am_gd_in, am_dp]
    rw [am_sum] at ih
    unfold s_heldf at ih
    dsimp only at ih
    split
    · rename_i h1; rw [if_pos h1, am_addz] at ih; exact ih
    · rename_i h1
      rw [if_neg h1] at ih
      split
      · rename_i h2; rw [if_pos h2, am_addz] at ih; exact ih
      · rename_i h2
        rw [if_neg h2] at ih
        split
        · rename_i h3; rw [if_pos h3, am_addz] at ih; exact ih
        · rename_i h3
          rw [if_neg h3] at ih
          split
          · rename_i h4; rw [if_pos h4, am_addz] at ih; exact ih
          · rename_i h4
            rw [if_neg h4] at ih
            exact ih
