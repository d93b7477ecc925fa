/-! The state behind the constructors. -/
variable {nb : Nat}
/-- what was written to a cell since it was new, the latest first; whether it was made new -/
def am_lr : am_G1 → Nat → List (Nat × Int32)
  | [], _ => []
  | (c', none) :: t, c => bif Nat.beq c' c then [] else am_lr t c
  | (c', some p) :: t, c => bif Nat.beq c' c then p :: am_lr t c else am_lr t c
def am_lb : am_G1 → Nat → Bool
  | [], _ => false
  | (c', none) :: t, c => bif Nat.beq c' c then true else am_lb t c
  | (_, some _) :: t, c => am_lb t c
def am_lk : List (Nat × Int32) → Nat → Int32 → Int32
  | [], _, v => v
  | p :: t, i, v => if i = p.1 then p.2 else am_lk t i v
theorem am_ops_at {μ : am_M} {c : Nat} : ∀ (g : am_G1) (i : Nat), am_ops g μ c i = am_lk (am_lr g c) i (bif am_lb g c then 0 else μ c i) := by
  intro g
  induction g with
  | nil => intro i; rfl
  | cons e t ih =>
    intro i
    obtain ⟨c', o⟩ := e
    cases o with
    | none =>
      show am_row (am_ops t μ) c' (fun _ => 0) c i = am_lk (bif Nat.beq c' c then [] else am_lr t c) i (bif (bif Nat.beq c' c then true else am_lb t c) then 0 else μ c i)
      by_cases q : c = c'
      · subst q
        rw [am_row_at, show Nat.beq c c = true from Nat.beq_refl c]
        rfl
      · rw [am_row_ne q, am_nb (fun z => q z.symm)]
        exact ih i
    | some p =>
      obtain ⟨i', v⟩ := p
      show am_row (am_ops t μ) c' (upd ((am_ops t μ) c') i' v) c i = am_lk (bif Nat.beq c' c then (i', v) :: am_lr t c else am_lr t c) i (bif am_lb t c then 0 else μ c i)
      by_cases q : c = c'
      · subst q
        rw [am_row_at, show Nat.beq c c = true from Nat.beq_refl c]
        show _ = if i = i' then v else am_lk (am_lr t c) i (bif am_lb t c then 0 else μ c i)
        by_cases z : i = i'
        · rw [z, pk_us, if_pos rfl]
        · rw [pk_un z, if_neg z]
          exact ih i
      · rw [am_row_ne q, am_nb (fun z => q z.symm)]
        exact ih i
theorem an_at0 {xs : Nat → Int32} {c i : Nat} (hc : c ≠ 3000) : am_m0 xs c i = am_lk (am_lr am_oM c) i (bif am_lb am_oM c then 0 else bif Nat.beq c 140 then 0 else am_lk (am_lr am_oX c) i 0) := by
  unfold am_m0
  rw [am_ops_at]
  congr 1
  cases am_lb am_oM c with
  | true => rfl
  | false =>
    show am_row _ 140 _ c i = _
    by_cases q : c = 140
    · subst q
      rw [am_row_at]
      rfl
    · rw [am_row_ne q, am_nb q, am_ops_at]
      show am_lk _ _ _ = am_lk _ _ _
      congr 1
      have z : (am_row (am_row (fun _ _ => 0) 3000 xs) 0 (fun _ => 0)) c i = 0 := by
        by_cases z : c = 0
        · subst z; rw [am_row_at]
        · rw [am_row_ne z, am_row_ne hc]
      rw [z]
      cases am_lb am_oX c <;> rfl
theorem an_zc {xs : Nat → Int32} (c i : Nat) (hc : c < 153) (h : c ∉ [0, 15, 17, 66, 70, 72, 121, 140, 141]) : am_m0 xs c i = nI 0 := by
  have key : ∀ c, c < 153 → c ∉ [0, 15, 17, 66, 70, 72, 121, 140, 141] → ((am_lr am_oM c).isEmpty = true ∧ (am_lr am_oX c).isEmpty = true) := by decide +kernel
  obtain ⟨k1, k2⟩ := key c hc h
  rw [an_at0 (by omega), List.isEmpty_iff.mp k1, List.isEmpty_iff.mp k2, nI_0]
  show (bif am_lb am_oM c then (0 : Int32) else bif Nat.beq c 140 then 0 else 0) = 0
  cases am_lb am_oM c with
  | true => rfl
  | false => cases Nat.beq c 140 <;> rfl
/-- the model's row at the start -/
def an_w0 : an_W := fun y => am_lk (am_lr am_oM 141) y 0
theorem an_m141 {xs : Nat → Int32} : am_m0 xs 141 = an_w0 := by
  funext y
  rw [an_at0 (by decide), show am_lb am_oM 141 = true by decide +kernel]
  rfl
theorem an_lk_n {v : Int32} {y : Nat} : ∀ (l : List (Nat × Int32)), (∀ p, p ∈ l → y ≠ p.1) → am_lk l y v = v := by
  intro l
  induction l with
  | nil => intro _; rfl
  | cons p t ih =>
    intro h
    rw [am_lk, if_neg (h p (by simp))]
    exact ih (fun q hq => h q (by simp [hq]))
theorem an_w0_z (y : Nat) (h1 : ¬ (14 ≤ y ∧ y < 23)) (h2 : ¬ (3612 ≤ y ∧ y < 3636)) : an_w0 y = nI 0 := by
  have key : ∀ p, p ∈ am_lr am_oM 141 → (14 ≤ p.1 ∧ p.1 < 23) ∨ (3612 ≤ p.1 ∧ p.1 < 3636) := by decide +kernel
  rw [nI_0]
  exact an_lk_n _ (fun p hp z => by have := key p hp; omega)
theorem an_sum_0 {f : Nat → Int32} : ∀ n, (∀ k, k < n → f k = nI 0) → am_sum f n = nI 0 := by
  intro n
  induction n with
  | zero => intro _; rfl
  | succ n ih =>
    intro h
    rw [am_sum, ih (fun k hk => h k (by omega)), h n (by omega), nI_add]
theorem an_S_0 {xs : Nat → Int32} : an_S 0 0 an_w0 (am_m0 xs) := by
  have z := an_w0_z
  have e1 : an_cnt an_w0 = 0 := by unfold an_cnt; rw [z 1 (by omega) (by omega), am_cl (by omega)]
  have e0 : (an_w0 0).toNatClampNeg = 0 := by rw [z 0 (by omega) (by omega), am_cl (by omega)]
  have e2 : (an_w0 2).toNatClampNeg = 0 := by rw [z 2 (by omega) (by omega), am_cl (by omega)]
  have r1 : ∀ i, i < 9 → an_w0 (14 + i) = nI 0 ∨ an_w0 (14 + i) = nI 2 := by decide +kernel
  have r2 : ∀ a, a < 3 → ∀ b, b < 3 → an_w0 (14 + 3 * a + b) = an_w0 (14 + 3 * b + a) := by decide +kernel
  have r3 : ∀ a, a < 3 → an_w0 (14 + 3 * a + a) = nI 0 := by decide +kernel
  have r4 : ∀ i, i < 9 → am_lk (am_lr am_oM 17) i (bif am_lb am_oM 17 then 0 else bif Nat.beq 17 140 then 0 else am_lk (am_lr am_oX 17) i 0) = an_w0 (14 + i) := by decide +kernel
  have r5 : ∀ i, i < 24 → am_lk (am_lr am_oM 66) i (bif am_lb am_oM 66 then 0 else bif Nat.beq 66 140 then 0 else am_lk (am_lr am_oX 66) i 0) = an_w0 (3612 + i) := by decide +kernel
  have n0 : ∀ (y n : Nat), 0 < n → ¬ (14 ≤ y ∧ y < 23) → ¬ (3612 ≤ y ∧ y < 3636) → an_N (an_w0 y) n := fun y n hn a b => ⟨0, hn, z y a b⟩
  refine ⟨⟨n0 0 90 (by omega) (by omega) (by omega), n0 1 151 (by omega) (by omega) (by omega), n0 2 7 (by omega) (by omega) (by omega), n0 3 64 (by omega) (by omega) (by omega), n0 9810 901 (by omega) (by omega) (by omega)⟩, ⟨⟨fun b hb => n0 _ 3 (by omega) (by omega) (by omega), fun i hi => ?_⟩, fun a b ha hb => r2 a ha b hb, fun a ha => r3 a ha⟩, fun i hi => n0 _ 2 (by omega) (by omega) (by omega), fun i hi => ?_, fun k hk => ?_, fun i hi => ?_, ⟨⟨?_, ?_⟩, fun _ i hi => ?_⟩, ⟨?_, ?_, fun k f hk hf => ?_, fun i hi => ?_, fun i hi => ?_, fun i hi => ?_⟩, ⟨⟨fun i hi => ?_, fun i hi => ?_, fun i hi => ?_⟩, fun i hi => ?_⟩, ⟨?_, fun i hi => ?_⟩, fun i hi => ?_, fun i hi => ?_, ⟨fun i hi => ⟨?_, ?_⟩, ?_⟩, ?_, ?_⟩
  · rcases r1 i hi with q | q
    · exact ⟨0, by omega, q⟩
    · exact ⟨2, by omega, q⟩
  · rw [e0, if_neg (by omega)]
    exact z _ (by omega) (by omega)
  · rw [e1] at hk; omega
  · rw [e2] at hi; omega
  · rw [z 5 (by omega) (by omega)]
    exact (an_sum_0 24 (fun k hk => z _ (by omega) (by omega))).symm
  · rw [z 4 (by omega) (by omega)]
    exact (an_sum_0 24 (fun k hk => z _ (by omega) (by omega))).symm
  · rw [z (210 + i) (by omega) (by omega), show (nI 0).toInt = 0 by decide]
    exact ⟨by omega, by omega⟩
  · exact (an_zc _ _ (by decide) (by decide)).trans (z _ (by omega) (by omega)).symm
  · exact (an_zc _ _ (by decide) (by decide)).trans (z _ (by omega) (by omega)).symm
  · exact (an_zc _ _ (by decide) (by decide)).trans (z _ (by omega) (by omega)).symm
  · exact (an_zc _ _ (by decide) (by decide)).trans (z _ (by omega) (by omega)).symm
  · exact (an_zc _ _ (by decide) (by decide)).trans (z _ (by omega) (by omega)).symm
  · exact (an_zc _ _ (by decide) (by decide)).trans (z _ (by omega) (by omega)).symm
  · exact (an_zc _ _ (by decide) (by decide)).trans (z _ (by omega) (by omega)).symm
  · exact (an_at0 (by decide)).trans (r4 i hi)
  · exact (an_zc _ _ (by decide) (by decide)).trans (z _ (by omega) (by omega)).symm
  · exact (an_zc _ _ (by decide) (by decide)).trans (z _ (by omega) (by omega)).symm
  · exact (an_zc _ _ (by decide) (by decide)).trans (z _ (by omega) (by omega)).symm
  · exact (an_zc _ _ (by decide) (by decide)).trans (z _ (by omega) (by omega)).symm
  · exact (an_zc _ _ (by decide) (by decide)).trans (z _ (by omega) (by omega)).symm
  · exact (an_at0 (by decide)).trans (r5 i hi)
  · exact (an_zc _ _ (by decide) (by decide)).trans (z _ (by omega) (by omega)).symm
  · exact (an_zc _ _ (by decide) (by decide)).trans (z _ (by omega) (by omega)).symm
  · exact (an_zc _ _ (by decide) (by decide)).trans (z _ (by omega) (by omega)).symm
  · exact (an_zc _ _ (by decide) (by decide)).trans (z _ (by omega) (by omega)).symm
  · refine ⟨fun _ => [], fun k hk => ⟨⟨by simp, fun e he => by simp at he⟩, ⟨an_zc _ _ (by omega) (by simp; omega), fun i e he => by simp at he⟩, ⟨z _ (by omega) (by omega), fun i e he => by simp at he⟩⟩⟩
theorem an_G_0 {xs : Nat → Int32} : an_G 0 (am_m0 xs) := by
  have v : ∀ (c i : Nat) (x : Int32), c ≠ 3000 → am_lk (am_lr am_oM c) i (bif am_lb am_oM c then 0 else bif Nat.beq c 140 then 0 else am_lk (am_lr am_oX c) i 0) = x → am_m0 xs c i = x := fun c i x hc h => (an_at0 hc).trans h
  have a9 := v 0 9 (nI 0) (by decide) (by decide +kernel)
  have a10 := v 0 10 (nI 0) (by decide) (by decide +kernel)
  have a11 := v 0 11 (- nI 1) (by decide) (by decide +kernel)
  have b3 := v 140 3 (nI 0) (by decide) (by decide +kernel)
  have b12 := v 140 12 (nI 0) (by decide) (by decide +kernel)
  have b19 := v 140 19 (nI 0) (by decide) (by decide +kernel)
  have b21 := v 140 21 (- nI 1) (by decide) (by decide +kernel)
  have b27 := v 140 27 (- nI 1) (by decide) (by decide +kernel)
  have c5 := v 15 5 (- nI 1) (by decide) (by decide +kernel)
  refine ⟨?_, a9.trans b3.symm, Or.inl b3, ⟨0, by omega, an_zc 1 1 (by decide) (by decide), b12, fun i hi => absurd hi (by omega)⟩, a10.trans b19.symm, a11.trans b21.symm, c5, b27⟩
  rw [an_m141]
  exact an_S_0
