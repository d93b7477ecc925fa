/-! What is shown of a stretch is enough. -/
theorem am_cmp_iff {c : ClassFile.Cond} {x y : Int32} : am_cmp c x y = true ↔ am_cmpP c x y := by
  cases c <;> simp [am_cmp, am_cmpP]
theorem am_cal_none {L d pc : Nat} {S : am_Sh} {i : Instr} {r : am_R} {st : List Value} {μ : am_M} {y : Nat × List Value × List Value} (h : am_cal S i r st = some y) : am_eff L d S i r st μ = none ∧ am_jmp i r pc st = none ∧ am_ret i r st = none := by
  unfold am_cal at h
  split at h
  · rename_i hr
    split at h
    · cases i
      case invokestatic x =>
        refine ⟨?_, rfl, rfl⟩
        unfold am_eff
        simp [hr]
      case invokevirtual x => exact ⟨rfl, rfl, rfl⟩
      case invokespecial x =>
        refine ⟨?_, rfl, rfl⟩
        unfold am_eff
        simp [hr]
      all_goals (cases h)
    · cases h
  · cases h
theorem am_sc_of {x : Int32} {j : Int} (h : x.toInt = j) : x = am_sc j := by
  have : x = Int32.ofInt j := by rw [← Int32.ofInt_toInt x, h]
  rw [this]
  cases j with
  | ofNat n => rfl
  | negSucc n =>
    show Int32.ofInt (Int.negSucc n) = - Int32.ofNat (n + 1)
    rw [Int.negSucc_eq, Int32.ofInt_neg]
    rfl
theorem am_sc_toInt {j : Int} (h1 : -1000 ≤ j) (h2 : j ≤ 1000) : (am_sc j).toInt = j := by
  have h : ∀ n : Nat, n < 2001 → (am_sc ((n : Int) - 1000)).toInt = (n : Int) - 1000 := by decide +kernel
  have := h (j + 1000).toNat (by omega)
  rw [show (((j + 1000).toNat : Nat) : Int) - 1000 = j by omega] at this
  exact this
theorem am_sws_at {pc : Nat} {x : Int32} {F : Nat → Prop} {D : Prop} : ∀ (os : List Int) (j : Int), am_sws pc x F D j os → (∃ (k : Nat) (o : Int), os[k]? = some o ∧ x = am_sc (j + k) ∧ F ((pc : Int) + o).toNat) ∨ (D ∧ ∀ k : Nat, k < os.length → ¬ x = am_sc (j + k)) := by
  intro os
  induction os with
  | nil => intro j h; exact Or.inr ⟨h, fun k hk => by simp at hk⟩
  | cons a t ih =>
    intro j h
    unfold am_sws at h
    split at h
    · rename_i hx
      exact Or.inl ⟨0, a, rfl, by simpa using hx, h⟩
    · rename_i hx
      rcases ih _ h with ⟨k, o, h1, h2, h3⟩ | ⟨h1, h2⟩
      · exact Or.inl ⟨k + 1, o, by simpa using h1, by rw [h2]; congr 1; omega, h3⟩
      · refine Or.inr ⟨h1, fun k hk => ?_⟩
        cases k with
        | zero => simpa using hx
        | succ k =>
          have := h2 k (by simpa using hk)
          rw [show j + ((k + 1 : Nat) : Int) = j + 1 + (k : Int) by omega]
          exact this
theorem am_aas_at {i : Int32} {F : Value → Prop} : ∀ (vs : List Value) (j : Nat), am_aas i F j vs → ∃ (k a : Nat), vs[k]? = some (.ref a) ∧ i = nI (j + k) ∧ F (.ref a) := by
  intro vs
  induction vs with
  | nil => intro j h; exact h.elim
  | cons a t ih =>
    intro j h
    have nx : am_aas i F (j + 1) t → ∃ (k b : Nat), (a :: t)[k]? = some (.ref b) ∧ i = nI (j + k) ∧ F (.ref b) := fun h => by
      obtain ⟨k, b, h1, h2, h3⟩ := ih _ h
      exact ⟨k + 1, b, by simpa using h1, by rw [h2]; congr 1; omega, h3⟩
    cases a
    case ref a =>
      unfold am_aas at h
      split at h
      · rename_i hx
        exact ⟨0, a, rfl, hx, h⟩
      · exact nx h
    all_goals
      unfold am_aas at h
      split at h
      · exact h.elim
      · exact nx h
theorem am_clamp_eq {i : Int32} (h : ¬ i < 0) : i = nI i.toNatClampNeg := by
  obtain ⟨j, hj, rfl⟩ := nI_of h
  rw [nI_clamp hj]
theorem am_S0_len {c kd : Nat} {vs : List Value} (h : am_S0[c]? = some (kd, vs)) : vs.length ≤ 200 := by
  have h2 : ∀ e ∈ am_S0, e.2.length ≤ 200 := by decide +kernel
  exact h2 _ (List.mem_of_getElem? h)
set_option maxHeartbeats 4000000 in
theorem am_vc_ok {L : Nat} {inl : Nat → Bool} {stp : Nat → Nat → Option (List Bool)} : ∀ (n : Nat) (b : Bool) (d m : Nat) (k : List am_I) (ls : am_L) (st : List Value) (μ : am_M) (Q : Option Value → am_M → Prop), am_vc L inl stp n b d m k ls st μ Q → am_J L d m k ls st μ Q := by
  intro n
  induction n with
  | zero => intro b d m k ls st μ Q h; exact h.elim
  | succ n ih =>
    intro b d m k ls st μ Q h
    cases k with
    | nil => exact h.elim
    | cons e k =>
      obtain ⟨pc, i, r⟩ := e
      unfold am_vc at h
      split at h
      · rename_i mask _
        obtain ⟨n', rv, μ1, h1, h2⟩ := h
        exact ⟨n', rv, μ1, am_run_le _ _ _ _ _ _ _ _ _ _ _ _ h1 (am_mask_le _ _) rfl, h2⟩
      · cases hp : am_pure L am_S0 i r ls st μ with
        | some y =>
          obtain ⟨ls', st'⟩ := y
          simp only [hp] at h
          have h : am_vc L inl stp n false d m k ls' st' μ Q := by
            split at h
            · exact am_fcl_e _ _ h
            · exact h
          obtain ⟨n', rv, μ1, h1, h2⟩ := ih _ _ _ _ _ _ _ _ h
          exact ⟨n' + 1, rv, μ1, by rw [am_run]; simp only [hp]; exact h1, h2⟩
        | none =>
          simp only [hp] at h
          cases he : am_effP L d i r st μ with
          | some y =>
            obtain ⟨g, st', μ'⟩ := y
            simp only [he] at h
            obtain ⟨hg, h⟩ := am_gd_e h
            have h : am_vc L inl stp n false d m k ls st' μ' Q := by
              split at h
              · exact h _ rfl
              · exact h
            obtain ⟨n', rv, μ1, h1, h2⟩ := ih _ _ _ _ _ _ _ _ h
            refine ⟨n' + 1, rv, μ1, ?_, h2⟩
            rw [am_run]
            simp only [hp, am_effP_eff he, hg, am_gr_same (rfl : am_S0.length = am_S0.length), Bool.and_self]
            exact h1
          | none =>
            simp only [he] at h
            cases hr : am_ret i r st with
            | some y =>
              obtain ⟨g, rv⟩ := y
              simp only [hr] at h
              obtain ⟨hg, h⟩ := am_gd_e h
              have e1 : am_eff L d am_S0 i r st μ = none ∧ am_jmp i r pc st = none := by
                cases i
                all_goals first
                  | exact ⟨rfl, rfl⟩
                  | (dsimp only [am_ret] at hr; cases hr)
              refine ⟨1, rv, μ, ?_, h⟩
              rw [am_run]
              simp only [hp, e1.1, e1.2, hr, hg]
            | none =>
              simp only [hr] at h
              have jump : ∀ {b : Bool} {tg : Nat} {st' : List Value}, am_eff L d am_S0 i r st μ = none → am_jmp i r pc st = some (b, tg, st') → am_J L d m (match b with | true => am_at (am_code m) tg | false => k) ls st' μ Q → am_J L d m ((pc, i, r) :: k) ls st μ Q := by
                intro b tg st' e1 e2 hJ
                obtain ⟨n', rv, μ1, h1, h2⟩ := hJ
                refine ⟨n' + 1, rv, μ1, ?_, h2⟩
                rw [am_run]
                simp only [hp, e1, e2]
                cases b <;> exact h1
              split at h
              · exact jump (b := true) rfl rfl (ih _ _ _ _ _ _ _ _ h)
              · rename_i c o
                split at h
                · rename_i x t
                  cases hc : am_cmp c x 0 with
                  | true => exact jump (b := true) (tg := r.2.1) rfl (by show some (am_cmp c x 0, _, _) = _; rw [hc]) (ih _ _ _ _ _ _ _ _ (by rw [if_pos (am_cmp_iff.mp hc)] at h; exact h))
                  | false => exact jump (b := false) (tg := r.2.1) rfl (by show some (am_cmp c x 0, _, _) = _; rw [hc]) (ih _ _ _ _ _ _ _ _ (by rw [if_neg (fun q => by rw [am_cmp_iff.mpr q] at hc; cases hc)] at h; exact h))
                · exact h.elim
              · rename_i c o
                split at h
                · rename_i y x t
                  cases hc : am_cmp c x y with
                  | true => exact jump (b := true) (tg := r.2.1) rfl (by show some (am_cmp c x y, _, _) = _; rw [hc]) (ih _ _ _ _ _ _ _ _ (by rw [if_pos (am_cmp_iff.mp hc)] at h; exact h))
                  | false => exact jump (b := false) (tg := r.2.1) rfl (by show some (am_cmp c x y, _, _) = _; rw [hc]) (ih _ _ _ _ _ _ _ _ (by rw [if_neg (fun q => by rw [am_cmp_iff.mpr q] at hc; cases hc)] at h; exact h))
                · exact h.elim
              · split at h
                · exact jump (b := true) rfl rfl (ih _ _ _ _ _ _ _ _ h)
                · exact jump (b := false) rfl rfl (ih _ _ _ _ _ _ _ _ h)
                · exact h.elim
              · rename_i dflt lo hi offs
                split at h
                · rename_i x t hsz
                  simp only [Bool.and_eq_true, decide_eq_true_eq] at hsz
                  obtain ⟨hz1, hz2, hz3⟩ := hsz
                  rcases am_sws_at _ _ h with ⟨k1, o, g1, g2, g3⟩ | ⟨g1, g2⟩
                  · have hk1 : k1 < offs.size := by
                      have := am_lt_len g1
                      simpa using this
                    have hx : x.toInt = lo + k1 := by rw [g2]; exact am_sc_toInt (by omega) (by omega)
                    have hc : (decide (x.toInt < lo) || decide (hi < x.toInt)) = false := by
                      rw [Bool.or_eq_false_iff]
                      exact ⟨decide_eq_false (by omega), decide_eq_false (by omega)⟩
                    have ho : offs[(x.toInt - lo).toNat]? = some o := by
                      rw [show (x.toInt - lo).toNat = k1 by omega, ← Array.getElem?_toList]
                      exact g1
                    refine jump (b := true) (tg := ((pc : Int) + o).toNat) (st' := t) rfl ?_ (ih _ _ _ _ _ _ _ _ g3)
                    dsimp only [am_jmp]
                    rw [hc]
                    dsimp only
                    rw [ho]
                  · have hc : (decide (x.toInt < lo) || decide (hi < x.toInt)) = true := by
                      rw [Bool.or_eq_true, decide_eq_true_eq, decide_eq_true_eq]
                      rcases Int.lt_or_le x.toInt lo with q | q
                      · exact Or.inl q
                      · rcases Int.lt_or_le hi x.toInt with q2 | q2
                        · exact Or.inr q2
                        · exact absurd (am_sc_of (j := lo + ((x.toInt - lo).toNat : Nat)) (by omega)) (g2 (x.toInt - lo).toNat (by simp; omega))
                    refine jump (b := true) (tg := ((pc : Int) + dflt).toNat) (st' := t) rfl ?_ (ih _ _ _ _ _ _ _ _ g1)
                    dsimp only [am_jmp]
                    rw [hc]
                · exact h.elim
              · split at h
                · rename_i i c t
                  split at h
                  · rename_i vs hs
                    obtain ⟨hin, h⟩ := am_gd_e h
                    have hv := am_inb_in hin
                    have hlt : i.toNatClampNeg < vs.length := Nat.not_le.mp fun q => hv (Or.inr q)
                    obtain ⟨k1, a, ha, hi, hF⟩ := am_aas_at vs 0 h
                    have hk1 : k1 < 200 := Nat.lt_of_lt_of_le (am_lt_len ha) (am_S0_len hs)
                    have hik : i.toNatClampNeg = k1 := by rw [hi, Nat.zero_add, nI_clamp (by omega)]
                    obtain ⟨n', rv, μ1, h1, h2⟩ := ih _ _ _ _ _ _ _ _ hF
                    refine ⟨n' + 1, rv, μ1, ?_, h2⟩
                    have e1 : am_eff L d am_S0 .aaload r (.int i :: .ref c :: t) μ = some (true, .ref a :: t, am_S0, μ) := by
                      dsimp only [am_eff]
                      rw [hs]
                      dsimp only
                      show (match vs[i.toNatClampNeg]? with | some (.ref a) => some (am_inb i vs.length, Value.ref a :: t, am_S0, μ) | _ => none) = _
                      rw [hik, ha]
                      simp only [hin]
                    rw [am_run]
                    simp only [hp, e1, am_gr_same (rfl : am_S0.length = am_S0.length), Bool.and_self]
                    exact h1
                  · exact h.elim
                · exact h.elim
              · split at h
                · rename_i m' a t hcal
                  obtain ⟨e1, e2, e3⟩ := am_cal_none (L := L) (d := d) (pc := pc) (μ := μ) hcal
                  split at h
                  · rename_i hlen
                    obtain ⟨hd, h⟩ := h
                    have go : am_J L (d - 1) m' (am_code m') (am_loc (am_mlo m') a) [] μ (fun rv μ' => am_J L d m k ls (rv.toList ++ t) μ' Q) → am_J L d m ((pc, i, r) :: k) ls st μ Q := by
                      intro hJ
                      obtain ⟨n1, rv, μ1, h1, n2, rv2, μ2, h2, h3⟩ := hJ
                      refine ⟨n1 + n2 + 1, rv2, μ2, ?_, h3⟩
                      have f1 := am_fuel_le (n' := n1 + n2) h1 (by omega)
                      have f2 := am_fuel_le (n' := n1 + n2) h2 (by omega)
                      rw [am_run]
                      simp only [hp, e1, e2, e3, hcal]
                      cases d with
                      | zero => omega
                      | succ d' =>
                        simp only [Nat.add_sub_cancel] at f1
                        simp only [hlen, f1, am_gr_same (rfl : am_S0.length = am_S0.length)]
                        exact f2
                    split at h
                    · refine go ((ih _ _ _ _ _ _ _ _ (am_fcl_e _ _ h)).mono fun rv μ' q => ih _ _ _ _ _ _ _ _ q)
                    · split at h
                      · refine go (am_J.mono h fun rv μ' q => ?_)
                        unfold am_qv at q
                        split at q
                        · exact ih _ _ _ _ _ _ _ _ q
                        · exact q.elim
                      · refine go (am_J.mono h fun rv μ' q => ?_)
                        unfold am_qi at q
                        split at q
                        · exact ih _ _ _ _ _ _ _ _ q
                        · exact q.elim
                  · exact h.elim
                · exact h.elim
