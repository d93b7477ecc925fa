/-! The script's cell is never written. -/
variable {nb : Nat}
theorem an_cond {A : Type} (b : Bool) (x y : A) : (bif b then x else y) = if b = true then x else y := by cases b <;> rfl
theorem am_eff_fr {L d : Nat} {S S' : am_Sh} {i : Instr} {r : am_R} {st st' : List Value} {μ μ' : am_M} (h : am_eff L d S i r st μ = some (true, st', S', μ')) (hS : S.length ≤ 900) : S'.length ≤ 900 ∧ μ' 3000 = μ 3000 := by
  have fr : ∀ {c : Nat} {x : Nat × List Value}, S[c]? = some x → ∀ f, am_row μ c f 3000 = μ 3000 := fun hc f => am_row_ne (by have := (List.getElem?_eq_some_iff.mp hc).1; omega)
  unfold am_eff at h
  simp only [an_cond] at h
  repeat' split at h
  all_goals first
    | (cases h; done)
    | (simp only [Option.some.injEq, Prod.mk.injEq] at h
       obtain ⟨h1, rfl, rfl, rfl⟩ := h
       first
         | exact ⟨hS, rfl⟩
         | exact ⟨hS, by apply fr; assumption⟩
         | exact ⟨by rw [List.length_set]; exact hS, rfl⟩
         | (have q := am_blt.mp h1
            exact ⟨by rw [List.length_append]; simp only [List.length_cons, List.length_nil]; omega, am_row_ne (by omega)⟩)
         | (simp only [Bool.and_eq_true] at h1
            have q := am_blt.mp h1.1.1
            exact ⟨by rw [List.length_append]; simp only [List.length_cons, List.length_nil]; omega, am_row_ne (by omega)⟩)
         | (simp only [Bool.and_eq_true] at h1
            have q := am_blt.mp h1.1.1
            exact ⟨by rw [List.length_append]; simp only [List.length_cons, List.length_nil]; omega, rfl⟩))
theorem am_run_fr {P : Nat → List am_I} {ML : Nat → Nat} {L : Nat} : ∀ (n d m : Nat) (k : List am_I) (ls : am_L) (st : List Value) (S : am_Sh) (μ : am_M) (rv : Option Value) (S' : am_Sh) (μ' : am_M), am_run P ML L n d m k ls st S μ = some (rv, S', μ') → S.length ≤ 900 → S'.length ≤ 900 ∧ μ' 3000 = μ 3000 := by
  intro n
  induction n with
  | zero => intro d m k ls st S μ rv S' μ' h; rw [am_run] at h; cases h
  | succ n ih =>
    intro d m k ls st S μ rv S' μ' h hS
    cases k with
    | nil => rw [am_run] at h; cases h
    | cons e k =>
      obtain ⟨pc, i, r⟩ := e
      rw [am_run] at h
      cases hp : am_pure L S i r ls st μ with
      | some x =>
        obtain ⟨ls1, st1⟩ := x
        rw [hp] at h
        exact ih _ _ _ _ _ _ _ _ _ _ h hS
      | none =>
        rw [hp] at h
        cases he : am_eff L d S i r st μ with
        | some x =>
          obtain ⟨g, st1, S1, μ1⟩ := x
          rw [he] at h
          dsimp only at h
          cases hg : (g && am_gr S S1 ls st) with
          | false => rw [hg] at h; cases h
          | true =>
            rw [hg] at h
            have g1 : g = true := by cases g with
              | true => rfl
              | false => cases hg
            rw [g1] at he
            obtain ⟨a1, a2⟩ := am_eff_fr he hS
            obtain ⟨b1, b2⟩ := ih _ _ _ _ _ _ _ _ _ _ h a1
            exact ⟨b1, b2.trans a2⟩
        | none =>
          rw [he] at h
          dsimp only at h
          cases hj : am_jmp i r pc st with
          | some x =>
            obtain ⟨b, t, st1⟩ := x
            rw [hj] at h
            cases b with
            | true => exact ih _ _ _ _ _ _ _ _ _ _ h hS
            | false => exact ih _ _ _ _ _ _ _ _ _ _ h hS
          | none =>
            rw [hj] at h
            dsimp only at h
            cases hr : am_ret i r st with
            | some x =>
              obtain ⟨g, rv1⟩ := x
              rw [hr] at h
              cases g with
              | true => cases h; exact ⟨hS, rfl⟩
              | false => cases h
            | none =>
              rw [hr] at h
              dsimp only at h
              cases hc : am_cal S i r st with
              | none => rw [hc] at h; cases h
              | some x =>
                obtain ⟨m1, a, t⟩ := x
                rw [hc] at h
                dsimp only at h
                cases d with
                | zero => cases h
                | succ d =>
                  dsimp only at h
                  cases hb : Nat.ble (am_ent a).length (ML m1) with
                  | false => rw [hb] at h; cases h
                  | true =>
                    rw [hb] at h
                    dsimp only at h
                    cases hq : am_run P ML L n d m1 (P m1) (am_loc (ML m1) a) [] S μ with
                    | none => rw [hq] at h; cases h
                    | some y =>
                      obtain ⟨rv1, S1, μ1⟩ := y
                      rw [hq] at h
                      dsimp only at h
                      obtain ⟨a1, a2⟩ := ih _ _ _ _ _ _ _ _ _ _ hq hS
                      cases hg : am_gr S S1 ls t with
                      | false => rw [hg] at h; cases h
                      | true =>
                        rw [hg] at h
                        obtain ⟨b1, b2⟩ := ih _ _ _ _ _ _ _ _ _ _ h a1
                        exact ⟨b1, b2.trans a2⟩
theorem am_Ci_fr {L d m : Nat} {a : List Value} {μ : am_M} {F : Int32 → am_M → Prop} (h : am_Ci L d m a μ F) : am_Ci L d m a μ (fun x μ' => μ' 3000 = μ 3000 ∧ F x μ') := by
  obtain ⟨n, rv, μ1, h1, h2⟩ := h
  have f := (am_run_fr _ _ _ _ _ _ _ _ _ _ _ h1 (by decide +kernel)).2
  refine ⟨n, rv, μ1, h1, ?_⟩
  unfold am_qi at h2 ⊢
  split at h2
  · exact ⟨f, h2⟩
  · exact h2.elim
