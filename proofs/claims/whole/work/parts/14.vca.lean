/-! Symbolic runs over the cells that stand behind the constructors. -/
set_option maxRecDepth 20000 in
def am_S0 : am_Sh := [(10, [.ref 1, .ref 3, .ref 14, .ref 69, .ref 124, .ref 131, .ref 133, .ref 136, .ref 139, .int 0, .int 0, .int 0, .int 0, .int 0, .int 0]), (6, [.ref 2, .int 0]), (500, []), (3, [.ref 4, .ref 11, .ref 12, .ref 13, .int 0, .int 0, .int 0, .int 0, .int 0]), (5, [.ref 5, .ref 6, .ref 7, .ref 8, .ref 9, .ref 10, .int 0, .int 0]), (500, []), (112, []), (112, []), (112, []), (112, []), (132, []), (501, []), (501, []), (501, []), (9, [.ref 15, .ref 56, .ref 58, .ref 65, .ref 66, .ref 67, .ref 68, .int 0, .int 0]), (0, [.ref 16, .ref 17, .ref 18, .ref 19, .ref 20, .int 0]), (104, []), (109, []), (190, []), (190, []), (98, [.ref 21, .ref 28, .ref 35, .ref 42, .ref 49]), (5, [.ref 22, .ref 23, .ref 24, .ref 25, .ref 26, .ref 27, .int 0, .int 0]), (500, []), (112, []), (112, []), (112, []), (112, []), (132, []), (5, [.ref 29, .ref 30, .ref 31, .ref 32, .ref 33, .ref 34, .int 0, .int 0]), (500, []), (112, []), (112, []), (112, []), (112, []), (132, []), (5, [.ref 36, .ref 37, .ref 38, .ref 39, .ref 40, .ref 41, .int 0, .int 0]), (500, []), (112, []), (112, []), (112, []), (112, []), (132, []), (5, [.ref 43, .ref 44, .ref 45, .ref 46, .ref 47, .ref 48, .int 0, .int 0]), (500, []), (112, []), (112, []), (112, []), (112, []), (132, []), (5, [.ref 50, .ref 51, .ref 52, .ref 53, .ref 54, .ref 55, .int 0, .int 0]), (500, []), (112, []), (112, []), (112, []), (112, []), (132, []), (1, [.ref 57, .int 0]), (6400, []), (2, [.ref 15, .ref 56, .ref 59, .ref 60, .ref 61, .ref 62, .ref 63, .ref 64, .int 0, .int 0]), (1600, []), (124, []), (124, []), (124, []), (250, []), (107, []), (3340, []), (124, []), (106, []), (106, []), (9, [.ref 70, .ref 111, .ref 113, .ref 120, .ref 121, .ref 122, .ref 123, .int 0, .int 0]), (0, [.ref 71, .ref 72, .ref 73, .ref 74, .ref 75, .int 0]), (104, []), (109, []), (190, []), (190, []), (98, [.ref 76, .ref 83, .ref 90, .ref 97, .ref 104]), (5, [.ref 77, .ref 78, .ref 79, .ref 80, .ref 81, .ref 82, .int 0, .int 0]), (500, []), (112, []), (112, []), (112, []), (112, []), (132, []), (5, [.ref 84, .ref 85, .ref 86, .ref 87, .ref 88, .ref 89, .int 0, .int 0]), (500, []), (112, []), (112, []), (112, []), (112, []), (132, []), (5, [.ref 91, .ref 92, .ref 93, .ref 94, .ref 95, .ref 96, .int 0, .int 0]), (500, []), (112, []), (112, []), (112, []), (112, []), (132, []), (5, [.ref 98, .ref 99, .ref 100, .ref 101, .ref 102, .ref 103, .int 0, .int 0]), (500, []), (112, []), (112, []), (112, []), (112, []), (132, []), (5, [.ref 105, .ref 106, .ref 107, .ref 108, .ref 109, .ref 110, .int 0, .int 0]), (500, []), (112, []), (112, []), (112, []), (112, []), (132, []), (1, [.ref 112, .int 0]), (6400, []), (2, [.ref 70, .ref 111, .ref 114, .ref 115, .ref 116, .ref 117, .ref 118, .ref 119, .int 0, .int 0]), (1600, []), (124, []), (124, []), (124, []), (250, []), (107, []), (3340, []), (124, []), (106, []), (106, []), (2, [.ref 15, .null, .ref 125, .ref 126, .ref 127, .ref 128, .ref 129, .ref 130, .int 0, .int 0]), (1600, []), (124, []), (124, []), (124, []), (250, []), (107, []), (7, [.ref 14, .ref 132]), (107, []), (4, [.ref 134, .ref 135, .int 0, .int 0]), (116, []), (104, []), (8, [.ref 137, .ref 138, .int 0, .int 0, .int 0, .int 0]), (104, []), (104, []), (104, []), (11, [.ref 141, .ref 142, .ref 143, .int 0, .ref 144, .ref 145, .ref 146, .ref 147, .ref 148, .int 0, .int 0, .int 0, .int 0, .int 0, .int 0, .int 0, .int 0, .int 0, .int 0, .int 0, .int 0, .int 0, .ref 149, .int 0, .ref 150, .ref 151, .int 0, .int 0, .int 0, .int 0, .ref 152]), (16220, []), (16220, []), (16220, []), (148, []), (920, []), (500, []), (520, []), (112, []), (250, []), (104, []), (104, []), (104, [])]
theorem am_fuel {P : Nat → List am_I} {ML : Nat → Nat} {L : Nat} : ∀ (n d m : Nat) (k : List am_I) (ls : am_L) (st : List Value) (S : am_Sh) (μ : am_M) (x : Option Value × am_Sh × am_M), am_run P ML L n d m k ls st S μ = some x → am_run P ML L (n + 1) d m k ls st S μ = some x := by
  intro n
  induction n with
  | zero => intro d m k ls st S μ x h; simp [am_run] at h
  | succ n ih =>
    intro d m k ls st S μ x h
    cases k with
    | nil => simp [am_run] at h
    | cons e k =>
      obtain ⟨pc, i, r⟩ := e
      rw [am_run] at h
      rw [am_run]
      cases h1 : am_pure L S i r ls st μ with
      | some y =>
        simp only [h1] at h ⊢
        exact ih _ _ _ _ _ _ _ _ h
      | none =>
        simp only [h1] at h ⊢
        cases h2 : am_eff L d S i r st μ with
        | some y =>
          obtain ⟨g, st', S', μ'⟩ := y
          simp only [h2] at h ⊢
          cases h3 : (g && am_gr S S' ls st) with
          | true =>
            simp only [h3] at h ⊢
            exact ih _ _ _ _ _ _ _ _ h
          | false => simp only [h3] at h; cases h
        | none =>
          simp only [h2] at h ⊢
          cases h3 : am_jmp i r pc st with
          | some y =>
            obtain ⟨b, t, st'⟩ := y
            simp only [h3] at h ⊢
            cases b with
            | true => exact ih _ _ _ _ _ _ _ _ h
            | false => exact ih _ _ _ _ _ _ _ _ h
          | none =>
            simp only [h3] at h ⊢
            cases h4 : am_ret i r st with
            | some y =>
              obtain ⟨g, rv⟩ := y
              simp only [h4] at h ⊢
              exact h
            | none =>
              simp only [h4] at h ⊢
              cases h5 : am_cal S i r st with
              | none => simp only [h5] at h; cases h
              | some y =>
                obtain ⟨m', a, t⟩ := y
                simp only [h5] at h ⊢
                cases d with
                | zero => simp only at h; cases h
                | succ d' =>
                  simp only at h ⊢
                  cases h6 : Nat.ble (am_ent a).length (ML m') with
                  | false => simp only [h6] at h; cases h
                  | true =>
                    simp only [h6] at h ⊢
                    cases h7 : am_run P ML L n d' m' (P m') (am_loc (ML m') a) [] S μ with
                    | none => simp only [h7] at h; cases h
                    | some z =>
                      obtain ⟨rv, S', μ'⟩ := z
                      simp only [h7] at h
                      rw [ih _ _ _ _ _ _ _ _ h7]
                      simp only
                      cases h8 : am_gr S S' ls t with
                      | false => simp only [h8] at h; cases h
                      | true =>
                        simp only [h8] at h ⊢
                        exact ih _ _ _ _ _ _ _ _ h
theorem am_fuel_le {P : Nat → List am_I} {ML : Nat → Nat} {L n n' d m : Nat} {k : List am_I} {ls : am_L} {st : List Value} {S : am_Sh} {μ : am_M} {x : Option Value × am_Sh × am_M} (h : am_run P ML L n d m k ls st S μ = some x) (hn : n ≤ n') : am_run P ML L n' d m k ls st S μ = some x := by
  obtain ⟨j, rfl⟩ := Nat.exists_eq_add_of_le hn
  clear hn
  induction j with
  | zero => exact h
  | succ j ih => exact am_fuel _ _ _ _ _ _ _ _ _ ih
/-! fewer locals known -/
def am_le (a b : am_L) : Prop := a.length = b.length ∧ ∀ (i : Nat) (v : Value), a[i]? = some (some v) → b[i]? = some (some v)
theorem am_le_get {a b : am_L} (h : am_le a b) {i : Nat} {v : Value} (hv : am_get a i = some v) : am_get b i = some v := by
  have := h.2 i v (am_get_some hv)
  unfold am_get
  rw [this]
theorem am_le_clr {a b : am_L} (h : am_le a b) (i : Nat) : am_le (am_clr a i) (am_clr b i) := by
  refine ⟨by rw [am_clr_len, am_clr_len]; exact h.1, fun j v hv => ?_⟩
  obtain ⟨h1, h2⟩ := am_clr_at hv
  have h3 := h.2 j v h1
  unfold am_clr
  cases i with
  | zero => exact h3
  | succ i =>
    dsimp only
    cases hc : am_cat2 b[i]? with
    | false => exact h3
    | true =>
      dsimp only
      rw [List.getElem?_set]
      by_cases hij : i = j
      · subst hij
        rw [h3] at hc
        exact absurd ⟨rfl, Nat.eq_of_beq_eq_true hc⟩ h2
      · rw [if_neg hij]; exact h3
theorem am_le_set {a b : am_L} (h : am_le a b) (i : Nat) (o : Option Value) : am_le (a.set i o) (b.set i o) := by
  refine ⟨by simp [h.1], fun j v hv => ?_⟩
  rw [List.getElem?_set] at hv ⊢
  rw [← h.1]
  split
  · rename_i hij
    rw [if_pos hij] at hv
    exact hv
  · rename_i hij
    rw [if_neg hij] at hv
    exact h.2 j v hv
theorem am_pure_le {L : Nat} {S : am_Sh} {i : Instr} {r : am_R} {a b a' : am_L} {st st' : List Value} {μ : am_M} (h : am_pure L S i r a st μ = some (a', st')) (hab : am_le a b) : ∃ b', am_pure L S i r b st μ = some (b', st') ∧ am_le a' b' := by
  have ldI : ∀ j, am_ldI a j st = some (a', st') → ∃ b', am_ldI b j st = some (b', st') ∧ am_le a' b' := fun j h => by
    obtain ⟨x, hg, rfl, rfl⟩ := am_ldI_some h
    exact ⟨b, by unfold am_ldI; rw [am_le_get hab hg], hab⟩
  have ldL : ∀ j, am_ldL a j st = some (a', st') → ∃ b', am_ldL b j st = some (b', st') ∧ am_le a' b' := fun j h => by
    obtain ⟨x, hg, rfl, rfl⟩ := am_ldL_some h
    exact ⟨b, by unfold am_ldL; rw [am_le_get hab hg], hab⟩
  have ldA : ∀ j, am_ldA a j st = some (a', st') → ∃ b', am_ldA b j st = some (b', st') ∧ am_le a' b' := fun j h => by
    rcases am_ldA_some h with ⟨x, hg, rfl, rfl⟩ | ⟨hg, rfl, rfl⟩
    · exact ⟨b, by unfold am_ldA; rw [am_le_get hab hg], hab⟩
    · exact ⟨b, by unfold am_ldA; rw [am_le_get hab hg], hab⟩
  have stI : ∀ j, am_stI a j st = some (a', st') → ∃ b', am_stI b j st = some (b', st') ∧ am_le a' b' := fun j h => by
    obtain ⟨x, rfl, rfl⟩ := am_stI_some h
    exact ⟨_, rfl, am_le_set (am_le_clr hab j) j _⟩
  have stL : ∀ j, am_stL a j st = some (a', st') → ∃ b', am_stL b j st = some (b', st') ∧ am_le a' b' := fun j h => by
    obtain ⟨x, rfl, rfl⟩ := am_stL_some h
    exact ⟨_, rfl, am_le_set (am_le_set (am_le_clr hab j) j _) _ _⟩
  have stA : ∀ j, am_stA a j st = some (a', st') → ∃ b', am_stA b j st = some (b', st') ∧ am_le a' b' := fun j h => by
    rcases am_stA_some h with ⟨x, rfl, rfl⟩ | ⟨rfl, rfl⟩
    · exact ⟨_, rfl, am_le_set (am_le_clr hab j) j _⟩
    · exact ⟨_, rfl, am_le_set (am_le_clr hab j) j _⟩
  cases i
  case iload j => exact ldI j h
  case iload_n j => exact ldI j.val h
  case lload j => exact ldL j h
  case lload_n j => exact ldL j.val h
  case aload j => exact ldA j h
  case aload_n j => exact ldA j.val h
  case istore j => exact stI j h
  case istore_n j => exact stI j.val h
  case lstore j => exact stL j h
  case lstore_n j => exact stL j.val h
  case astore j => exact stA j h
  case astore_n j => exact stA j.val h
  case iinc j n =>
    dsimp only [am_pure] at h ⊢
    split at h
    · rename_i x hg
      simp only [Option.some.injEq, Prod.mk.injEq] at h
      obtain ⟨rfl, rfl⟩ := h
      rw [am_le_get hab hg]
      exact ⟨_, rfl, am_le_set (am_le_clr hab j) j _⟩
    · cases h
  case getfield x =>
    change am_getf S r a st μ = some (a', st') at h
    change ∃ b', am_getf S r b st μ = some (b', st') ∧ am_le a' b'
    unfold am_getf at h ⊢
    split at h
    · split at h
      · split at h
        · rename_i kd vs _
          cases hk : Nat.beq kd r.2.1 with
          | false => rw [hk] at h; cases h
          | true =>
            rw [hk] at h
            simp only [cond_true] at h ⊢
            split at h
            all_goals first
              | (cases h; done)
              | (simp only [Option.some.injEq, Prod.mk.injEq] at h
                 obtain ⟨rfl, rfl⟩ := h
                 exact ⟨b, rfl, hab⟩)
        · cases h
      · rename_i c _ _ _
        cases hk : (Nat.ble 1000 c && Nat.blt c (1000 + am_sN)) with
        | false => rw [hk] at h; cases h
        | true =>
          rw [hk] at h
          simp only [cond_true] at h ⊢
          split at h
          all_goals
            simp only [Option.some.injEq, Prod.mk.injEq] at h
            obtain ⟨rfl, rfl⟩ := h
            exact ⟨b, rfl, hab⟩
      · cases h
    · cases h
  all_goals
    unfold am_pure at h ⊢
    first
      | (cases h; done)
      | (simp only [Option.some.injEq, Prod.mk.injEq] at h
         obtain ⟨rfl, rfl⟩ := h
         exact ⟨b, rfl, hab⟩)
      | (obtain ⟨x, y, u, rfl, rfl, rfl⟩ := am_bin_some h
         exact ⟨b, rfl, hab⟩)
      | (obtain ⟨x, y, u, rfl, rfl, rfl⟩ := am_binL_some h
         exact ⟨b, rfl, hab⟩)
      | (obtain ⟨x, u, rfl, rfl, rfl⟩ := am_un_some h
         exact ⟨b, rfl, hab⟩)
      | (dsimp only at h ⊢
         split at h
         all_goals first
           | (cases h; done)
           | (simp only [Option.some.injEq, Prod.mk.injEq] at h
              obtain ⟨rfl, rfl⟩ := h
              exact ⟨b, rfl, hab⟩)
           | (split at h
              all_goals first
                | (cases h; done)
                | (simp only [Option.some.injEq, Prod.mk.injEq] at h
                   obtain ⟨rfl, rfl⟩ := h
                   exact ⟨b, rfl, hab⟩)))
theorem am_gr_same {S S' : am_Sh} {ls : am_L} {st : List Value} (h : S'.length = S.length) : am_gr S S' ls st = true := by
  unfold am_gr
  rw [h]
  have : Nat.beq S.length S.length = true := Nat.beq_refl _
  rw [this]
  rfl
theorem am_run_le {P : Nat → List am_I} {ML : Nat → Nat} {L : Nat} : ∀ (n d m : Nat) (k : List am_I) (a b : am_L) (st : List Value) (S : am_Sh) (μ : am_M) (rv : Option Value) (S1 : am_Sh) (μ1 : am_M), am_run P ML L n d m k a st S μ = some (rv, S1, μ1) → am_le a b → S1.length = S.length → am_run P ML L n d m k b st S μ = some (rv, S1, μ1) := by
  intro n
  induction n with
  | zero => intro d m k a b st S μ rv S1 μ1 h; simp [am_run] at h
  | succ n ih =>
    intro d m k a b st S μ rv S1 μ1 h hab hlen
    cases k with
    | nil => simp [am_run] at h
    | cons e k =>
      obtain ⟨pc, i, r⟩ := e
      rw [am_run] at h
      rw [am_run]
      cases h1 : am_pure L S i r a st μ with
      | some y =>
        obtain ⟨a', st'⟩ := y
        simp only [h1] at h
        obtain ⟨b', hb, hab'⟩ := am_pure_le h1 hab
        simp only [hb]
        exact ih _ _ _ _ _ _ _ _ _ _ _ h hab' hlen
      | none =>
        have hb : am_pure L S i r b st μ = none ∨ (am_eff L d S i r st μ = none ∧ am_jmp i r pc st = none ∧ am_ret i r st = none ∧ am_cal S i r st = none) := by
          cases i
          all_goals first
            | exact Or.inl rfl
            | (right
               refine ⟨rfl, rfl, rfl, ?_⟩
               unfold am_cal
               split
               · split
                 · rfl
                 · rfl
               · rfl)
        rcases hb with hb | ⟨e1, e2, e3, e4⟩
        · simp only [h1] at h
          simp only [hb]
          cases h2 : am_eff L d S i r st μ with
          | some y =>
            obtain ⟨g, st', S', μ'⟩ := y
            simp only [h2] at h ⊢
            cases h3 : (g && am_gr S S' a st) with
            | true =>
              simp only [h3] at h
              have hm := am_mono _ _ _ _ _ _ _ _ _ _ _ h
              have hm2 := am_eff_mono h2
              obtain ⟨g1, g2⟩ := (Bool.and_eq_true _ _).mp h3
              rw [am_gr_same (by omega), g1]
              exact ih _ _ _ _ _ _ _ _ _ _ _ h hab (by omega)
            | false => simp only [h3] at h; cases h
          | none =>
            simp only [h2] at h ⊢
            cases h3 : am_jmp i r pc st with
            | some y =>
              obtain ⟨bb, t, st'⟩ := y
              simp only [h3] at h ⊢
              cases bb with
              | true => exact ih _ _ _ _ _ _ _ _ _ _ _ h hab hlen
              | false => exact ih _ _ _ _ _ _ _ _ _ _ _ h hab hlen
            | none =>
              simp only [h3] at h ⊢
              cases h4 : am_ret i r st with
              | some y =>
                obtain ⟨g, rv⟩ := y
                simp only [h4] at h ⊢
                exact h
              | none =>
                simp only [h4] at h ⊢
                cases h5 : am_cal S i r st with
                | none => simp only [h5] at h; cases h
                | some y =>
                  obtain ⟨m', aa, t⟩ := y
                  simp only [h5] at h ⊢
                  cases d with
                  | zero => simp only at h; cases h
                  | succ d' =>
                    simp only at h ⊢
                    cases h6 : Nat.ble (am_ent aa).length (ML m') with
                    | false => simp only [h6] at h; cases h
                    | true =>
                      simp only [h6] at h ⊢
                      cases h7 : am_run P ML L n d' m' (P m') (am_loc (ML m') aa) [] S μ with
                      | none => simp only [h7] at h; cases h
                      | some z =>
                        obtain ⟨rv', S', μ'⟩ := z
                        simp only [h7] at h ⊢
                        cases h8 : am_gr S S' a t with
                        | false => simp only [h8] at h; cases h
                        | true =>
                          simp only [h8] at h
                          have hm := am_mono _ _ _ _ _ _ _ _ _ _ _ h
                          have hm2 := am_mono _ _ _ _ _ _ _ _ _ _ _ h7
                          rw [am_gr_same (by omega)]
                          exact ih _ _ _ _ _ _ _ _ _ _ _ h hab (by omega)
        · simp only [h1, e1, e2, e3, e4] at h
          cases h
