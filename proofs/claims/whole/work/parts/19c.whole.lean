
/-! THE CLAIM OUT OF ONE WALK OF THE LAW'S BODY. Your part is whole_start (and what it stands on); all else here is the same for every law, but numbers. -/
def R_law : String := "NowhereMoneyLaw"
def lw_P (b : Addr) (xs : List Int32) (args : Array Value) (s : State) : Prop := args = #[.ref b] ∧ s.IntsAt b xs ∧ xs.length ≤ 3072 ∧ (Jvm.Cond.and given_1 narrow_1).before args s = true
def lw_Q (_ : Array Value) (s : State) (o : Outcome) (t : State) : Prop := o = .returned (some (.int 1)) ∧ Framed s o t [] 600000 7302250
def lw_Z (below : List Frame) (a : Array Value) (s : State) : State → Prop := fun t => ∃ o, t.status = .running ∧ Ended t below o ∧ lw_Q a s o t
/-- the law's own end, with 1 on the stack, nothing written that was there before, its room as the claim has it -/
theorem lw_ret {p : Program} {l : Launch} {e : Env} {s : State} {m : MethodId} {below : List Frame} {meth : Method} {c : Code} {b : Nat} (hx : p.tables.exec = Jvm.exec) (hb : c.code = code) (hr : meth.sig.returnType = ret) (hlocks : meth.locks = false) {pc : Nat} {H : Heap} {ls : Array Slot} (hdg : decode code pc = .ok (.ireturn, 1)) : W p l e room_1 s m #[Value.ref b] below meth c H [] 600000 7302250 (lw_Z below #[Value.ref b] s) (F0 m pc ls [.int 1]) := by
  intro T hT X
  obtain ⟨fs, hret, hrun, hended, hW, hframe⟩ := X.leave (v := some (.int 1)) (hlocks := hlocks) (fun h => by rw [hr] at h; cases h)
  have hmeth' : T.vm.method? m = some meth := X.method'
  refine ⟨T.setFrames fs, ?_, .returned (some (.int 1)), hrun, hended, rfl, ⟨_, rfl⟩, hW, hframe⟩
  jvm_step X.here [X.here.top, hx, hb, hdg, hmeth', hr, ret, narrow_b1]
  (try refine ⟨rfl, ?_⟩); (try refine ⟨rfl, ?_⟩)
  first | (intro acts; rw [hret _ acts rfl rfl rfl]) | rw [hret _ _ rfl rfl rfl]
  exact Steps.refl _
/-- what holds at the law's entry: the machine, the code, the tables' words (any of lw_tbl by 'hts w (by decide +kernel)'), the script of L ints xs at the cell b, what the Statement gives of the start (any of its parts by flat_of_before) -/
def lw_At (p : Program) (s : State) (m : MethodId) (meth : Method) (c : Code) (b L : Nat) (xs : Nat → Int32) : Prop :=
  p.tables.exec = Jvm.exec ∧ c.code = code ∧ meth.sig.returnType = ret ∧ c.maxLocals = 4 ∧ s.vm.findClass R_law = some m.cls ∧ (∀ w ∈ lw_tbl, w.before #[Value.ref b] s = true) ∧ va_X b L xs s s.heap ∧ b < s.heap.size ∧ meth.locks = false ∧ (Jvm.Cond.and given_1 narrow_1).before #[Value.ref b] s = true

/-- the law's int memory behind its constructors -/
def am_m0 (xs : Nat → Int32) : am_M := am_ops am_oM (am_row (am_ops am_oX (am_row (am_row (fun _ _ => 0) 3000 xs) 0 (fun _ => 0))) 140 (fun _ => 0))
theorem am_st_pure {P : Nat → List am_I} {ML : Nat → Nat} {L n d m pc : Nat} {i : Instr} {r : am_R} {k : List am_I} {ls ls' : am_L} {st st' : List Value} {S : am_Sh} {μ : am_M} {x : Option Value × am_Sh × am_M} (h : am_pure L S i r ls st μ = some (ls', st')) (hk : am_run P ML L n d m k ls' st' S μ = some x) : am_run P ML L (n + 1) d m ((pc, i, r) :: k) ls st S μ = some x := by
  rw [am_run]
  simp only [h]
  exact hk
theorem am_st_eff {P : Nat → List am_I} {ML : Nat → Nat} {L n d m pc : Nat} {i : Instr} {r : am_R} {k : List am_I} {ls : am_L} {st st' : List Value} {S S' : am_Sh} {μ μ' : am_M} {x : Option Value × am_Sh × am_M} (h0 : am_pure L S i r ls st μ = none) (h : am_eff L d S i r st μ = some (true, st', S', μ')) (hg : am_gr S S' ls st = true) (hk : am_run P ML L n d m k ls st' S' μ' = some x) : am_run P ML L (n + 1) d m ((pc, i, r) :: k) ls st S μ = some x := by
  rw [am_run]
  simp only [h0, h, hg, Bool.and_self]
  exact hk
theorem am_st_cal {P : Nat → List am_I} {ML : Nat → Nat} {L n d m m' pc : Nat} {i : Instr} {r : am_R} {k : List am_I} {ls : am_L} {st a t : List Value} {S S' : am_Sh} {μ μ' : am_M} {rv : Option Value} {x : Option Value × am_Sh × am_M} (h0 : am_pure L S i r ls st μ = none) (h : am_cal S i r st = some (m', a, t)) (hl : Nat.ble (am_ent a).length (ML m') = true) (hc : am_run P ML L n d m' (P m') (am_loc (ML m') a) [] S μ = some (rv, S', μ')) (hg : am_gr S S' ls t = true) (hk : am_run P ML L n (d + 1) m k ls (rv.toList ++ t) S' μ' = some x) : am_run P ML L (n + 1) (d + 1) m ((pc, i, r) :: k) ls st S μ = some x := by
  obtain ⟨e1, e2, e3⟩ := am_cal_none (L := L) (d := d + 1) (pc := pc) (μ := μ) h
  rw [am_run]
  simp only [h0, e1, e2, e3, h, hl, hc, hg]
  exact hk
set_option maxRecDepth 100000 in
set_option maxHeartbeats 8000000 in
theorem am_pref {L : Nat} {xs : Nat → Int32} {F : Int32 → am_M → Prop} (h : am_Ji L 60 0 18 [some (.ref 3000), some (.ref 0), some (.ref 140), some (.int (nI 0))] [] (am_m0 xs) F) : ∃ (n : Nat) (x : Int32) (μ1 : am_M), am_run am_code am_mlo L n 60 0 (am_code 0) [some (.ref 3000), none, none, none] [] [] (am_row (fun _ _ => 0) 3000 xs) = some (some (.int x), am_S0, μ1) ∧ F x μ1 := by
  obtain ⟨n, rv, μ1, h1, h2⟩ := h
  unfold am_qi at h2
  split at h2
  · rename_i x
    refine ⟨n + 14000 + 10, x, μ1, ?_, h2⟩
    have h1 := am_fuel_le (n' := n + 14000) h1 (by omega)
    refine am_st_eff (st' := [.ref 0]) (S' := [(10, am_def 10)]) rfl rfl rfl ?_
    refine am_st_pure (st' := [.ref 0, .ref 0]) rfl ?_
    refine am_st_cal (a := [.ref 0]) (t := [.ref 0]) rfl rfl rfl (am_fuel_le (n' := n + 14000 + 7) (am_ctX L _) (by omega)) rfl ?_
    refine am_st_pure (st' := []) rfl ?_
    refine am_st_eff (st' := [.ref 140]) (S' := am_S0.take 140 ++ [(11, am_def 11)]) rfl rfl rfl ?_
    refine am_st_pure (st' := [.ref 140, .ref 140]) rfl ?_
    refine am_st_cal (a := [.ref 140]) (t := [.ref 140]) rfl rfl rfl (am_fuel_le (n' := n + 14000 + 3) (am_ctM L _) (by omega)) rfl ?_
    refine am_st_pure (st' := []) rfl ?_
    refine am_st_pure (st' := [.int (nI 0)]) rfl ?_
    refine am_st_pure (st' := []) rfl ?_
    exact h1
  · exact h2.elim
/-- YOUR PART: from the entry, for every script of at most 3072 ints, the law comes to its end with true -/
theorem am_whole {p : Program} {e : Env} {s : State} {m : MethodId} {below : List Frame} {meth : Method} {c : Code} (l : Launch) {b L : Nat} {xs : Nat → Int32} (C0 : lw_At p s m meth c b L xs)
    (hlaw : am_Ji (L + 1) 60 0 18 [some (.ref 3000), some (.ref 0), some (.ref 140), some (.int (nI 0))] [] (am_m0 xs) (fun x _ => x = 1)) :
    W p l e room_1 s m #[Value.ref b] below meth c s.heap [] 0 0 (lw_Z below #[Value.ref b] s) (entryFrame m ([Value.ref b] : List Value).toArray 4) := by
  obtain ⟨hx, hb, hr, hml, hown, hts, hX, hbl, hlocks, hgv⟩ := id C0
  obtain ⟨D, G, dA, dB, hG, -, hSt⟩ := am_start hts hX hbl hgv
  obtain ⟨n, x, μ1, hrun, rfl⟩ := am_pref hlaw
  have hE : am_Env am_t D G dA dB s.heap.size (L + 1) xs p s m #[Value.ref b] meth c 0 := ⟨hx, hb, hml, hown, fun w hw => hts w (List.mem_filter.mp hw).1, fun h => absurd h (by decide +kernel), hSt⟩
  have hS : va_S (fun q => s.heap.size ≤ q) s.heap s.heap [] := va_S.rf
  have hl := lv_entry ([.ref b]) (n := 4) (Nat.le_of_ble_eq_true rfl)
  rw [lg_entry_eq]
  generalize (lg_sl ([.ref b]) ++ List.replicate (4 - (lg_sl ([.ref b])).length) Slot.unset).toArray = ar at hl ⊢
  have hl : am_hasL (am_tr G []) ar (am_ML am_t 0) [some (.ref 3000), none, none, none] := by
    refine ⟨rfl, ?_⟩
    have e1 : am_prs (am_tr G []) 0 [some (.ref 3000), none, none, none] = lv_args 0 [.ref b] := by
      show [(0, Value.ref (am_ad G [] 3000))] = [(0, Value.ref b)]
      rw [am_ad_scr, hG]
    rw [e1]
    exact hl
  have hW : am_Wd D G dA dB s.heap.size (L + 1) xs [] [] (am_row (fun _ _ => 0) 3000 xs) s.heap := ⟨rfl, Nat.zero_le _, fun _ => am_row_at _ _ _, fun k q h => by simp [am_conc] at h, ⟨fun i j p q h => by simp [am_conc] at h, fun k q h => by simp [am_conc] at h⟩⟩
  have h1 : am_S0.length = 153 := by decide +kernel
  have h2 : am_sl am_S0 ≤ 200000 := by decide +kernel
  refine am_sim am_good n 60 0 (am_code 0) _ [] [] _ _ am_S0 μ1 hrun List.suffix_rfl p e room_1 s m #[Value.ref b] below meth c s.heap [] 0 0 am_S0.length (am_sl am_S0) _ ar [] hE hl hW hS (by decide) (by decide) (by simp) (by simp [am_sl]) (by rw [h1]; decide) (Nat.le_trans h2 (by decide)) ?_
  intro pc i r st2 H2 locs2 al2 ar2 hdec hgr hret hpre hWd2 hS2
  have hd := hdec.1
  cases i
  case ireturn =>
    dsimp only [am_ret] at hret
    split at hret
    · rename_i x
      simp only [Option.some.injEq, Prod.mk.injEq, Value.int.injEq] at hret
      obtain ⟨-, rfl⟩ := hret
      refine va_forget (fun q hq => hS2.2.2 q hq) ?_
      refine W.widen (k := 600000) (n := 7302250) (by rw [h1]; decide) (Nat.le_trans h2 (by decide)) ?_
      exact lw_ret hx hb hr hlocks (hd (Nat.succ_ne_zero _))
    · cases hret
  all_goals
    dsimp only [am_ret] at hret
    first
      | (cases hret; done)
      | (split at hret
         · simp at hret
         · cases hret)
