/-! Texts: the call. -/
variable {nb : Nat}
/-- the model lays its lines down -/
theorem m_cl {L d k ln : Nat} {F : Int32 → am_M → Prop} (hk : k < 5) (hln : ln ≤ 12) : ∀ (m i : Nat) (μ : am_M), i + m = ln → μ 140 10 = nI ln → (∀ μ', an_un [141] μ μ' → (∀ y, (∀ i', i ≤ i' → i' < ln → y ≠ 5470 + (12 * k + i') ∧ y ≠ 5530 + (12 * k + i') ∧ y ≠ 5590 + (12 * k + i') ∧ y ≠ 5650 + (12 * k + i')) → μ' 141 y = μ 141 y) → (∀ i', i ≤ i' → i' < ln → μ' 141 (5470 + (12 * k + i')) = μ 144 (4 * i') ∧ μ' 141 (5530 + (12 * k + i')) = μ 144 (4 * i' + 1) ∧ μ' 141 (5590 + (12 * k + i')) = μ 144 (4 * i' + 2) ∧ μ' 141 (5650 + (12 * k + i')) = μ 144 (4 * i' + 3)) → am_Ji L d 176 259 [some (.ref 140), some (.int (nI k)), none, some (.int (nI 0))] [] μ' F) → am_Ji L d 176 145 [some (.ref 140), some (.int (nI k)), none, some (.int (nI i))] [] μ F := by
  intro m
  induction m with
  | zero =>
    intro i μ hi h10 hF
    refine v_M_text_145 ?_
    rw [h10, if_pos (nI_le (by omega) (by omega))]
    exact hF μ an_un_rf (fun _ _ => rfl) (fun i' a b => absurd b (by omega))
  | succ m ih =>
    intro i μ hi h10 hF
    refine v_M_text_145 ?_
    rw [h10, if_neg (nI_ge (by omega) (by omega))]
    simp only [pk_mul, nI_add]
    rw [am_gd_in (by omega) (by omega), am_gd_in (by omega) (by omega), am_cl (by omega), am_cl (by omega)]
    intro μ1 e1
    rw [am_gd_in (by omega) (by omega), am_gd_in (by omega) (by omega), am_cl (by omega), am_cl (by omega)]
    intro μ2 e2
    rw [am_gd_in (by omega) (by omega), am_gd_in (by omega) (by omega), am_cl (by omega), am_cl (by omega)]
    intro μ3 e3
    rw [am_gd_in (by omega) (by omega), am_gd_in (by omega) (by omega), am_cl (by omega), am_cl (by omega)]
    intro μ4 e4
    have c4 : ∀ c, c ≠ 141 → μ4 c = μ c := fun c hc => by rw [an_w_c e4 hc, an_w_c e3 hc, an_w_c e2 hc, an_w_c e1 hc]
    rw [an_w_c e1 (by decide)] at e2
    rw [an_w_c e2 (by decide), an_w_c e1 (by decide)] at e3
    rw [an_w_c e3 (by decide), an_w_c e2 (by decide), an_w_c e1 (by decide)] at e4
    refine ih (i + 1) μ4 (by omega) (by rw [c4 140 (by decide)]; exact h10) (fun μ' u' o' v' => hF μ' (fun c hc => by rw [u' c hc, c4 c (by simpa using hc)]) (fun y hy => ?_) (fun i' a b => ?_))
    · obtain ⟨y1, y2, y3, y4⟩ := hy i (Nat.le_refl _) (by omega)
      rw [o' y (fun i' a b => hy i' (by omega) b), an_w_o e4 (by omega), an_w_o e3 (by omega), an_w_o e2 (by omega), an_w_o e1 (by omega)]
    · rcases Nat.lt_or_ge i i' with z | z
      · have := v' i' (by omega) b
        rw [c4 144 (by decide)] at this
        exact this
      · obtain rfl : i' = i := by omega
        refine ⟨?_, ?_, ?_, ?_⟩
        · rw [o' _ (fun i' a b => by omega), an_w_o e4 (by omega), an_w_o e3 (by omega), an_w_o e2 (by omega), ← Nat.add_assoc]
          exact an_w_s e1
        · rw [o' _ (fun i' a b => by omega), an_w_o e4 (by omega), an_w_o e3 (by omega), ← Nat.add_assoc]
          exact an_w_s e2
        · rw [o' _ (fun i' a b => by omega), an_w_o e4 (by omega), ← Nat.add_assoc]
          exact an_w_s e3
        · rw [o' _ (fun i' a b => by omega), ← Nat.add_assoc]
          exact an_w_s e4
