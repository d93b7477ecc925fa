/-! What is to be shown of a stretch of code, and that it is enough. -/
def am_J (L d m : Nat) (k : List am_I) (ls : am_L) (st : List Value) (μ : am_M) (Q : Option Value → am_M → Prop) : Prop := ∃ (n : Nat) (rv : Option Value) (μ1 : am_M), am_run am_code am_mlo L n d m k ls st am_S0 μ = some (rv, am_S0, μ1) ∧ Q rv μ1
def am_C (L d m : Nat) (a : List Value) (μ : am_M) (Q : Option Value → am_M → Prop) : Prop := am_J L d m (am_code m) (am_loc (am_mlo m) a) [] μ Q
/-- an int is answered; nothing is -/
def am_qi (F : Int32 → am_M → Prop) (rv : Option Value) (μ : am_M) : Prop := match rv with
  | some (.int x) => F x μ
  | _ => False
def am_qv (F : am_M → Prop) (rv : Option Value) (μ : am_M) : Prop := match rv with
  | none => F μ
  | _ => False
def am_Ci (L d m : Nat) (a : List Value) (μ : am_M) (F : Int32 → am_M → Prop) : Prop := am_C L d m a μ (am_qi F)
def am_Cv (L d m : Nat) (a : List Value) (μ : am_M) (F : am_M → Prop) : Prop := am_C L d m a μ (am_qv F)
def am_Ji (L d m pc : Nat) (ls : am_L) (st : List Value) (μ : am_M) (F : Int32 → am_M → Prop) : Prop := am_J L d m (am_at (am_code m) pc) ls st μ (am_qi F)
def am_Jv (L d m pc : Nat) (ls : am_L) (st : List Value) (μ : am_M) (F : am_M → Prop) : Prop := am_J L d m (am_at (am_code m) pc) ls st μ (am_qv F)
theorem am_J.mono {L d m : Nat} {k : List am_I} {ls : am_L} {st : List Value} {μ : am_M} {Q Q' : Option Value → am_M → Prop} (h : am_J L d m k ls st μ Q) (hQ : ∀ rv μ, Q rv μ → Q' rv μ) : am_J L d m k ls st μ Q' := by
  obtain ⟨n, rv, μ1, h1, h2⟩ := h
  exact ⟨n, rv, μ1, h1, hQ _ _ h2⟩
theorem am_Ci.mono {L d m : Nat} {a : List Value} {μ : am_M} {F F' : Int32 → am_M → Prop} (h : am_Ci L d m a μ F) (hF : ∀ x μ, F x μ → F' x μ) : am_Ci L d m a μ F' := am_J.mono h (fun rv μ q => by
  unfold am_qi at q ⊢
  split at q
  · exact hF _ _ q
  · exact q.elim)
theorem am_Cv.mono {L d m : Nat} {a : List Value} {μ : am_M} {F F' : am_M → Prop} (h : am_Cv L d m a μ F) (hF : ∀ μ, F μ → F' μ) : am_Cv L d m a μ F' := am_J.mono h (fun rv μ q => by
  unfold am_qv at q ⊢
  split at q
  · exact hF _ q
  · exact q.elim)
def am_drop (o : Option (Bool × List Value × am_Sh × am_M)) : Option (Bool × List Value × am_M) := match o with
  | some (g, t, _, μ) => some (g, t, μ)
  | none => none
/-- one place of the int memory written -/
def am_w (μ : am_M) (c i : Nat) (v : Int32) : am_M := am_row μ c (upd (μ c) i v)
/-- what changes the int memory alone -/
def am_effP (L d : Nat) (i : Instr) (r : am_R) (st : List Value) (μ : am_M) : Option (Bool × List Value × am_M) := match i with
  | .iaload => am_drop (am_eff L d am_S0 .iaload r st μ)
  | .baload => am_drop (am_eff L d am_S0 .baload r st μ)
  | .iastore => (match st with
    | .int x :: .int i :: .ref c :: t => (match am_S0[c]? with
      | some (kd, _) => (match Nat.ble 100 kd with
        | true => some (am_inb i (kd - 100), t, am_w μ c i.toNatClampNeg x)
        | false => none)
      | none => none)
    | _ => none)
  | .idiv => am_drop (am_eff L d am_S0 .idiv r st μ)
  | .irem => am_drop (am_eff L d am_S0 .irem r st μ)
  | .ldiv => am_drop (am_eff L d am_S0 .ldiv r st μ)
  | .invokestatic x => am_drop (am_eff L d am_S0 (.invokestatic x) r st μ)
  | .putfield _ => (match st with
    | .int y :: .ref c :: t => (match r.1 with
      | 0 => (match am_S0[c]? with
        | some (kd, vs) => (match Nat.beq kd r.2.1 with
          | true => (match vs[r.2.2.1]? with
            | some (.int _) => some (Nat.beq r.2.2.2 0 || (Nat.beq r.2.2.2 1 && (decide (y = 0) || decide (y = 1))), t, am_w μ c r.2.2.1 y)
            | _ => none)
          | false => none)
        | none => none)
      | _ => none)
    | _ => none)
  | _ => none
def am_mask : List Bool → am_L → am_L
  | true :: ms, l :: ls => l :: am_mask ms ls
  | _ :: ms, _ :: ls => none :: am_mask ms ls
  | [], ls => ls
  | _, [] => []
theorem am_mask_le : ∀ (ms : List Bool) (ls : am_L), am_le (am_mask ms ls) ls := by
  intro ms
  induction ms with
  | nil =>
    intro ls
    cases ls <;> exact ⟨rfl, fun _ _ h => h⟩
  | cons b ms ih =>
    intro ls
    cases ls with
    | nil => cases b <;> exact ⟨rfl, fun _ _ h => h⟩
    | cons l ls =>
      obtain ⟨h1, h2⟩ := ih ls
      cases b with
      | true =>
        refine ⟨by simp [am_mask, h1], fun i v hv => ?_⟩
        cases i with
        | zero => exact hv
        | succ i => exact h2 i v (by simpa [am_mask] using hv)
      | false =>
        refine ⟨by simp [am_mask, h1], fun i v hv => ?_⟩
        cases i with
        | zero => simp [am_mask] at hv
        | succ i => exact h2 i v (by simpa [am_mask] using hv)
/-- a number of a switch -/
def am_sc (j : Int) : Int32 := match j with
  | .ofNat n => nI n
  | .negSucc n => - nI (n + 1)
def am_sws (pc : Nat) (x : Int32) (F : Nat → Prop) (D : Prop) : Int → List Int → Prop
  | _, [] => D
  | j, o :: os => if x = am_sc j then F ((pc : Int) + o).toNat else am_sws pc x F D (j + 1) os
def am_aas (i : Int32) (F : Value → Prop) : Nat → List Value → Prop
  | _, [] => False
  | j, .ref a :: vs => if i = nI j then F (.ref a) else am_aas i F (j + 1) vs
  | j, _ :: vs => if i = nI j then False else am_aas i F (j + 1) vs
def am_gd (g : Bool) (A : Prop) : Prop := match g with
  | true => A
  | false => False
theorem am_gd_i {g : Bool} {A : Prop} (hg : g = true) (h : A) : am_gd g A := by subst hg; exact h
theorem am_gd_e {g : Bool} {A : Prop} (h : am_gd g A) : g = true ∧ A := by
  cases g with
  | true => exact ⟨rfl, h⟩
  | false => exact h.elim
/-- the memory behind a write, by a name -/
def am_put (a : am_M) (F : am_M → Prop) : Prop := ∀ μ1 : am_M, μ1 = a → F μ1
def am_wrs (i : Instr) (r : am_R) : Bool := match i with
  | .iastore => true
  | .putfield _ => true
  | .invokestatic _ => Nat.beq r.1 7
  | _ => false
/-- the locals, written out -/
def am_fcl : am_L → (am_L → Prop) → Prop
  | [], F => F []
  | none :: t, F => am_fcl t (fun w => F (none :: w))
  | some v :: t, F => am_fcl t (fun w => F (some v :: w))
theorem am_fcl_e : ∀ (l : am_L) (F : am_L → Prop), am_fcl l F → F l := by
  intro l
  induction l with
  | nil => intro F h; exact h
  | cons o t ih => intro F h; cases o with
    | none => exact ih (fun w => F (none :: w)) h
    | some v => exact ih (fun w => F (some v :: w)) h
def am_sto (i : Instr) : Bool := match i with
  | .istore _ => true
  | .istore_n _ => true
  | .lstore _ => true
  | .lstore_n _ => true
  | .astore _ => true
  | .astore_n _ => true
  | .iinc _ _ => true
  | _ => false
def am_cmpD (c : ClassFile.Cond) (x y : Int32) : Decidable (am_cmpP c x y) := match c with
  | .eq => inferInstanceAs (Decidable (x = y))
  | .ne => inferInstanceAs (Decidable (¬ x = y))
  | .lt => inferInstanceAs (Decidable (x < y))
  | .ge => inferInstanceAs (Decidable (y ≤ x))
  | .gt => inferInstanceAs (Decidable (y < x))
  | .le => inferInstanceAs (Decidable (x ≤ y))
def am_vc (L : Nat) (inl : Nat → Bool) (stp : Nat → Nat → Option (List Bool)) : Nat → Bool → Nat → Nat → List am_I → am_L → List Value → am_M → (Option Value → am_M → Prop) → Prop
  | 0, _, _, _, _, _, _, _, _ => False
  | _ + 1, _, _, _, [], _, _, _, _ => False
  | n + 1, b, d, m, (pc, i, r) :: k, ls, st, μ, Q =>
    match (match b with | true => none | false => stp m pc) with
    | some mask => am_J L d m ((pc, i, r) :: k) (am_mask mask ls) st μ Q
    | none => match am_pure L am_S0 i r ls st μ with
      | some (ls', st') => (match am_sto i with
        | true => am_fcl ls' (fun l => am_vc L inl stp n false d m k l st' μ Q)
        | false => am_vc L inl stp n false d m k ls' st' μ Q)
      | none => match am_effP L d i r st μ with
        | some (g, st', μ') => am_gd g (match am_wrs i r with
          | true => am_put μ' (fun μ1 => am_vc L inl stp n false d m k ls st' μ1 Q)
          | false => am_vc L inl stp n false d m k ls st' μ' Q)
        | none => match am_ret i r st with
          | some (g, rv) => am_gd g (Q rv μ)
          | none => match i with
            | .goto _ => am_vc L inl stp n false d m (am_at (am_code m) r.2.1) ls st μ Q
            | .ifCond c _ => (match st with
              | .int x :: t => @ite _ (am_cmpP c x 0) (am_cmpD c x 0) (am_vc L inl stp n false d m (am_at (am_code m) r.2.1) ls t μ Q) (am_vc L inl stp n false d m k ls t μ Q)
              | _ => False)
            | .if_icmp c _ => (match st with
              | .int y :: .int x :: t => @ite _ (am_cmpP c x y) (am_cmpD c x y) (am_vc L inl stp n false d m (am_at (am_code m) r.2.1) ls t μ Q) (am_vc L inl stp n false d m k ls t μ Q)
              | _ => False)
            | .ifnull _ => (match st with
              | .null :: t => am_vc L inl stp n false d m (am_at (am_code m) r.2.1) ls t μ Q
              | .ref _ :: t => am_vc L inl stp n false d m k ls t μ Q
              | _ => False)
            | .tableswitch dflt lo hi offs => (match decide (hi - lo + 1 = (offs.size : Int)) && (decide (-1000 ≤ lo) && decide (hi ≤ 1000)), st with
              | true, .int x :: t => am_sws pc x (fun tg => am_vc L inl stp n false d m (am_at (am_code m) tg) ls t μ Q) (am_vc L inl stp n false d m (am_at (am_code m) ((pc : Int) + dflt).toNat) ls t μ Q) lo offs.toList
              | _, _ => False)
            | .aaload => (match st with
              | .int i :: .ref c :: t => (match am_S0[c]? with
                | some (98, vs) => am_gd (am_inb i vs.length) (am_aas i (fun v => am_vc L inl stp n false d m k ls (v :: t) μ Q) 0 vs)
                | _ => False)
              | _ => False)
            | _ => match am_cal am_S0 i r st with
              | some (m', a, t) => (match Nat.ble (am_ent a).length (am_mlo m') with
                | true => 0 < d ∧ (match inl m' with
                  | true => am_fcl (am_loc (am_mlo m') a) (fun l => am_vc L inl stp n true (d - 1) m' (am_code m') l [] μ (fun rv μ' => am_vc L inl stp n false d m k ls (rv.toList ++ t) μ' Q))
                  | false => (match am_RT am_t m' with
                    | none => am_Cv L (d - 1) m' a μ (fun μ' => am_vc L inl stp n false d m k ls t μ' Q)
                    | some _ => am_Ci L (d - 1) m' a μ (fun x μ' => am_vc L inl stp n false d m k ls (.int x :: t) μ' Q)))
                | false => False)
              | none => False
theorem am_drop_some {o : Option (Bool × List Value × am_Sh × am_M)} {g : Bool} {t : List Value} {μ : am_M} (h : am_drop o = some (g, t, μ)) : ∃ S, o = some (g, t, S, μ) := by
  unfold am_drop at h
  split at h
  · cases h; exact ⟨_, rfl⟩
  · cases h
theorem am_effP_eff {L d : Nat} {i : Instr} {r : am_R} {st st' : List Value} {μ μ' : am_M} {g : Bool} (h : am_effP L d i r st μ = some (g, st', μ')) : am_eff L d am_S0 i r st μ = some (g, st', am_S0, μ') := by
  have key : ∀ {S : am_Sh} {i : Instr} {st : List Value}, (i = .iaload ∨ i = .baload ∨ i = .idiv ∨ i = .irem ∨ i = .ldiv ∨ (∃ x, i = .invokestatic x)) → am_eff L d am_S0 i r st μ = some (g, st', S, μ') → am_eff L d am_S0 i r st μ = some (g, st', am_S0, μ') := by
    intro S i st hi h
    have : S = am_S0 := by
      rcases hi with rfl | rfl | rfl | rfl | rfl | ⟨x, rfl⟩
      all_goals
        dsimp only [am_eff] at h
        repeat' (split at h)
      all_goals first
        | (cases h; rfl)
        | (simp only [Option.some.injEq, Prod.mk.injEq] at h; exact h.2.2.1.symm)
        | (cases h; done)
        | (simp only [cond] at h
           repeat' (split at h)
           all_goals first
             | (cases h; done)
             | (simp only [Option.some.injEq, Prod.mk.injEq] at h; exact h.2.2.1.symm)
             | (exfalso; simp_all; done))
    rw [← this] at h ⊢
    subst this
    exact h
  cases i
  case iaload => obtain ⟨S, hS⟩ := am_drop_some h; exact key (by simp) hS
  case baload => obtain ⟨S, hS⟩ := am_drop_some h; exact key (by simp) hS
  case idiv => obtain ⟨S, hS⟩ := am_drop_some h; exact key (by simp) hS
  case irem => obtain ⟨S, hS⟩ := am_drop_some h; exact key (by simp) hS
  case ldiv => obtain ⟨S, hS⟩ := am_drop_some h; exact key (by simp) hS
  case invokestatic x => obtain ⟨S, hS⟩ := am_drop_some h; exact key (by simp) hS
  case iastore =>
    dsimp only [am_effP] at h
    split at h
    · split at h
      · rename_i kd vs hS
        split at h
        · rename_i hk
          simp only [Option.some.injEq, Prod.mk.injEq] at h
          obtain ⟨rfl, rfl, rfl⟩ := h
          dsimp only [am_eff]
          rw [hS]
          try dsimp only
          rw [hk]
          rfl
        · cases h
      · cases h
    · cases h
  case putfield x =>
    dsimp only [am_effP] at h
    split at h
    · split at h
      · rename_i hr
        split at h
        · rename_i kd vs hS
          split at h
          · rename_i hk
            split at h
            · rename_i hv
              simp only [Option.some.injEq, Prod.mk.injEq] at h
              obtain ⟨rfl, rfl, rfl⟩ := h
              dsimp only [am_eff]
              simp only [hr, hS, hk, hv, cond_true]
              rfl
            · cases h
          · cases h
        · cases h
      · cases h
    · cases h
  all_goals (dsimp only [am_effP] at h; cases h)
