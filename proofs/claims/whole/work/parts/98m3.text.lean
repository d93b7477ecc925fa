/-! Texts: the call. -/
variable {nb : Nat}
/-- and its steps -/
theorem m_cs {L d k n : Nat} {F : Int32 → am_M → Prop} (hk : k < 5) (hn : n ≤ 410) : ∀ (m i : Nat) (μ : am_M), i + m = 2 * n → μ 140 11 = nI n → (∀ μ', an_un [141] μ μ' → (∀ y, (∀ i', i ≤ i' → i' < 2 * n → y ≠ 5710 + 820 * k + i') → μ' 141 y = μ 141 y) → (∀ i', i ≤ i' → i' < 2 * n → μ' 141 (5710 + 820 * k + i') = μ 145 i') → F (μ' 140 10) μ') → am_Ji L d 176 259 [some (.ref 140), some (.int (nI k)), none, some (.int (nI i))] [] μ F := by
  intro m
  induction m with
  | zero =>
    intro i μ hi h11 hF
    refine v_M_text_259 ?_
    rw [h11, pk_mul, if_pos (nI_le (by omega) (by omega))]
    exact hF μ an_un_rf (fun _ _ => rfl) (fun i' a b => absurd b (by omega))
  | succ m ih =>
    intro i μ hi h11 hF
    refine v_M_text_259 ?_
    rw [h11, pk_mul, if_neg (nI_ge (by omega) (by omega))]
    simp only [pk_mul, nI_add]
    rw [am_gd_in (by omega) (by omega), am_gd_in (by omega) (by omega), am_cl (by omega), am_cl (by omega)]
    intro μ1 e1
    refine ih (i + 1) μ1 (by omega) (by rw [an_w_c e1 (by decide)]; exact h11) (fun μ' u' o' v' => hF μ' (fun c hc => by rw [u' c hc, an_w_c e1 (by simpa using hc)]) (fun y hy => ?_) (fun i' a b => ?_))
    · rw [o' y (fun i' a b => hy i' (by omega) b), an_w_o e1 (hy i (Nat.le_refl _) (by omega))]
    · rcases Nat.lt_or_ge i i' with z | z
      · rw [v' i' (by omega) b, an_w_c e1 (by decide)]
      · obtain rfl : i' = i := by omega
        rw [o' _ (fun i' a b => by omega)]
        exact an_w_s e1
