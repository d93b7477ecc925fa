/-! THE SIMULATION: where the small machine answers, the real one does. -/
theorem am_Ss.kept {G : am_G} {A : Nat → Prop} {U : State} {H H1 : Heap} (h : am_Ss G A U H) (hq : ∀ a : Nat, a < H.size → ¬ A a → H1[a]? = H[a]?) : am_Ss G A U H1 := fun i hi => ⟨(h i hi).1.kept hq, (h i hi).2.1.kept hq, (h i hi).2.2.1.kept hq, (h i hi).2.2.2.kept hq⟩
theorem am_Ss.moved {G : am_G} {A : Nat → Prop} {u U : State} {H : Heap} (hvm : u.vm.Alike U.vm) (h : am_Ss G A u H) : am_Ss G A U H := fun i hi => ⟨va_O.moved hvm (h i hi).1, va_OF.moved hvm (h i hi).2.1, va_OF.moved hvm (h i hi).2.2.1, va_T.moved hvm (h i hi).2.2.2⟩
theorem am_St.moved {t : am_T} {D : va_G} {G : am_G} {dA dB : ClassId} {N0 L : Nat} {xs : Nat → Int32} {s U : State} {H H1 : Heap} (hW : s.WarmedH U.vm) (h : am_St t D G dA dB N0 L xs s H) (hz : H.size ≤ H1.size) (hq : ∀ a : Nat, a < H.size → ¬ N0 ≤ a → H1[a]? = H[a]?) : am_St t D G dA dB N0 L xs U H1 := by
  obtain ⟨h1, h2, h3, h4, h5, h6, h7, h8, h9, h10⟩ := h
  have ha := hW.alike
  refine ⟨h1.moved ha, h2.moved ha, fun e he => (h3 e he).warm hW, (h4.kept hq).moved ha, (h5.kept hq).moved ha, (h6.kept hq).moved ha, fun hL => ?_, h8, Nat.le_trans h9 hz, fun e he => (h10 e he).warmM hW⟩
  obtain ⟨scr, g1, g2⟩ := (h7 hL).moved ha
  exact ⟨scr, by rw [hq _ (Nat.lt_of_lt_of_le h8 h9) (Nat.not_le.mpr h8)]; exact g1, g2⟩
def am_WS (t : am_T) (m : Nat) : List Cond := Cond.code (am_Y t m) (am_B t m) (am_ML t m) (am_RT t m) :: am_ws
def am_Pc (t : am_T) (D : va_G) (G : am_G) (dA dB : ClassId) (N0 L : Nat) (xs : Nat → Int32) (al : List Nat) (S : am_Sh) (μ : am_M) (a : List Value) : Array Value → State → Prop := va_Pc (a.map (am_tr G al)) (fun U => am_St t D G dA dB N0 L xs U U.heap ∧ am_Wd D G dA dB N0 L xs al S μ U.heap)
def am_Qc (D : va_G) (G : am_G) (dA dB : ClassId) (N0 L : Nat) (xs : Nat → Int32) (al : List Nat) (rv : Option Value) (S' : am_Sh) (μ' : am_M) : Array Value → State → Outcome → State → Prop := fun _ st o t => (∃ al', o = .returned (rv.map (am_tr G al')) ∧ al <+: al' ∧ am_Wd D G dA dB N0 L xs al' S' μ' t.heap) ∧ va_F (fun q => N0 ≤ q) st t
def am_Sim (t : am_T) (D : va_G) (G : am_G) (dA dB : ClassId) (N0 L : Nat) (xs : Nat → Int32) (l : Launch) (n : Nat) : Prop :=
  ∀ (d m : Nat) (k : List am_I) (ls : am_L) (st : List Value) (S : am_Sh) (μ : am_M) (rv : Option Value) (S1 : am_Sh) (μ1 : am_M), am_run (am_P t) (am_ML t) L n d m k ls st S μ = some (rv, S1, μ1) → k <:+ am_P t m →
  ∀ (p : Program) (e : Env) (R : Room) (s : State) (mi : MethodId) (args : Array Value) (below : List Frame) (meth : Method) (c : Code) (H : Heap) (locs : List Loc) (cells slots MC MS : Nat) (Q : State → Prop) (ar : Array Slot) (al : List Nat),
    am_Env t D G dA dB N0 L xs p s mi args meth c m → am_hasL (am_tr G al) ar (am_ML t m) ls → am_Wd D G dA dB N0 L xs al S μ H → va_S (fun q => N0 ≤ q) s.heap H locs → d ≤ R.frames → 200 * d ≤ R.locals →
    cells + S1.length = MC + S.length → slots + am_sl S1 = MS + am_sl S → MC ≤ R.cells → MS ≤ R.slots →
    (∀ (pc : Nat) (i : Instr) (r : am_R) (st2 : List Value) (H2 : Heap) (locs2 : List Loc) (al2 : List Nat) (ar2 : Array Slot), am_dec (am_B t m) pc i → am_GR t m pc i r → am_ret i r st2 = some (true, rv) → al <+: al2 → am_Wd D G dA dB N0 L xs al2 S1 μ1 H2 → va_S (fun q => N0 ≤ q) s.heap H2 locs2 → W p l e R s mi args below meth c H2 locs2 MC MS Q (F0 mi pc ar2 (st2.map (am_tr G al2)))) →
    W p l e R s mi args below meth c H locs cells slots Q (F0 mi (am_pc k) ar (st.map (am_tr G al)))
section VAR
variable {p : Program} {l : Launch} {e : Env} {R : Room} {s : State} {mi : MethodId} {args : Array Value} {below : List Frame} {meth : Method} {c : Code} {H : Heap} {locs : List Loc} {cells slots : Nat} {Q : State → Prop}
variable {t : am_T} {D : va_G} {G : am_G} {dA dB : ClassId} {N0 L : Nat} {xs : Nat → Int32} {al : List Nat} {S : am_Sh} {μ : am_M} {m : Nat}
/-- behind a call -/
theorem am_go {mc ms pc : Nat} {ar : Array Slot} {st0 rest : List Value} {a : Array Value} {rv : Option Value} {S' : am_Sh} {μ' : am_M} (hr : va_Run p l e R s mi args below meth c H locs cells slots mc ms (F0 mi pc ar st0) rest (am_Qc D G dA dB N0 L xs al rv S' μ' a) (fun q => N0 ≤ q)) (hS : va_S (fun q => N0 ≤ q) s.heap H locs)
    (kk : ∀ (H1 : Heap) (locs1 : List Loc) (al' : List Nat), al <+: al' → am_Wd D G dA dB N0 L xs al' S' μ' H1 → va_S (fun q => N0 ≤ q) s.heap H1 locs1 → W p l e R s mi args below meth c H1 locs1 (cells + mc) (slots + ms) Q (F0 mi (pc + 3) ar ((rv.map (am_tr G al')).toList ++ rest))) :
    W p l e R s mi args below meth c H locs cells slots Q (F0 mi pc ar st0) := by
  intro T hT X
  obtain ⟨v, st₀, t1, T', L1, h0, X', hL, e1, e2, ⟨⟨al', hv, hpre, hWd⟩, hz, hk⟩, st⟩ := hr T hT X
  cases hv
  rw [h0] at hz hk
  have hz : H.size ≤ T'.heap.size := by rw [e1]; exact hz
  obtain ⟨t2, a1, b1⟩ := kk T'.heap (locs ++ L1) al' hpre (by rw [e1]; exact hWd)
    ⟨Nat.le_trans hS.1 hz, fun q h1 h2 => by rw [e1, hk q (Nat.lt_of_lt_of_le h1 hS.1) h2]; exact hS.2.1 q h1 h2, fun q hq => by
      rcases List.mem_append.mp hq with h | h
      · exact hS.2.2 q h
      · exact hL q h⟩ T' rfl X'
  exact ⟨t2, st t2 a1, b1⟩
theorem am_good_in (hw : am_W (.code (am_Y t m) (am_B t m) (am_ML t m) (am_RT t m))) : GoodIn am_ws (am_WS t m) := by
  intro w h
  rcases List.mem_cons.mp h with h | h
  · rw [h]; exact ⟨hw.mem, good_of_word hw.2⟩
  · exact ⟨h, good_of_word (List.mem_filter.mp h).2⟩
theorem am_blind {a : List Value} : FrameBlind (am_Pc t D G dA dB N0 L xs al S μ a) := by
  intro a U g mk q
  obtain ⟨q0, ⟨h1, h2, h3, h4, h5, h6, h7, h8, h9, h10⟩, q2⟩ := q
  have ha : U.vm.Alike (U.calling g mk a).vm := Vm.Alike.refl U.vm
  exact ⟨q0, ⟨h1.moved ha, h2.moved ha, fun e he => (h3 e he).same rfl, h4.moved ha, h5.moved ha, h6.moved ha, fun hL => (h7 hL).moved ha, h8, h9, fun e he => (h10 e he).same rfl rfl⟩, q2⟩
set_option maxHeartbeats 4000000 in
theorem am_met (hG : am_Good t) {n d : Nat} (ih : am_Sim t D G dA dB N0 L xs l n) {a : List Value} {rv : Option Value} {S1 : am_Sh} {μ1 : am_M} (hpl : plainName (am_Y t m).cls = true) (hlen : (am_ent a).length ≤ am_ML t m)
    (hrun : am_run (am_P t) (am_ML t) L n d m (am_P t m) (am_loc (am_ML t m) a) [] S μ = some (rv, S1, μ1)) :
    Met l (am_Y t m) (am_WS t m) { frames := d, cells := S1.length - S.length, slots := am_sl S1 - am_sl S, locals := 200 * d } (am_Pc t D G dA dB N0 L xs al S μ a) (am_Qc D G dA dB N0 L xs al rv S1 μ1) (S1.length - S.length) (am_sl S1 - am_sl S) (fun q => N0 ≤ q) := by
  obtain ⟨hm1, hm2⟩ := am_mono _ _ _ _ _ _ _ _ _ _ _ hrun
  refine Met.ofW (cc := am_B t m) (maxL := am_ML t m) (ret := am_RT t m) hpl rfl ?_
  intro p e s mi args below meth c s₁ B hml hv
  obtain ⟨rfl, hSt, hWd⟩ := hv
  have hx := B.exec
  have hb := B.bytes
  have hr := B.returns
  have hts := atoms_spec (ws := am_WS t m) B.pre
  have hown : s.vm.findClass (am_Y t m).cls = some mi.cls := findClass_of_methodNamed B.named
  have hlocks := B.notSynchronized
  have hnm : meth.name = (am_Y t m).name := (name_of_methodNamed B.named B.method).1
  have hS : va_S (fun q => N0 ≤ q) s.heap s.heap [] := va_S.rf
  have hl := lv_entry (a.map (am_tr G al)) (n := am_ML t m) (by rw [← am_ent_len (f := am_tr G al) (fun _ => am_tr_cat) a]; exact hlen)
  rw [lg_entry_eq]
  generalize (lg_sl (a.map (am_tr G al)) ++ List.replicate (am_ML t m - (lg_sl (a.map (am_tr G al))).length) Slot.unset).toArray = ar at hl ⊢
  have hl : am_hasL (am_tr G al) ar (am_ML t m) (am_loc (am_ML t m) a) := by
    refine ⟨by unfold am_loc; simp; omega, ?_⟩
    unfold am_loc
    rw [am_ent_prs (fun _ => am_tr_cat)]
    exact hl
  have hpc := (hG.1 m).2.1
  have hE : am_Env t D G dA dB N0 L xs p s mi (a.map (am_tr G al)).toArray meth c m := ⟨hx, hb, hml, by rw [← (hG.1 m).2.2]; exact hown, fun w hw => hts w (List.mem_cons_of_mem _ hw), fun q => by rw [hnm]; exact q, hSt⟩
  have key := ih d m (am_P t m) _ _ S μ rv S1 μ1 hrun List.suffix_rfl p e (headSpec (am_WS t m) { frames := d, cells := S1.length - S.length, slots := am_sl S1 - am_sl S, locals := 200 * d }).room s mi (a.map (am_tr G al)).toArray below meth c s.heap [] 0 0 (S1.length - S.length) (am_sl S1 - am_sl S)
    (MQ below (am_Qc D G dA dB N0 L xs al rv S1 μ1) (a.map (am_tr G al)).toArray s (S1.length - S.length) (am_sl S1 - am_sl S) (fun q => N0 ≤ q)) ar al hE hl hWd hS (Nat.le_refl _) (Nat.le_refl _) (by omega) (by omega) (Nat.le_refl _) (Nat.le_refl _) ?_
  · rw [hpc] at key
    exact key
  · intro pc i r st2 H2 locs2 al2 ar2 hdec hgr hret hpre hWd2 hS2
    have hd := hdec.1
    have fin : ∀ (o : Option Value) (tt : State), o = rv.map (am_tr G al2) → tt.heap = H2 → am_Qc D G dA dB N0 L xs al rv S1 μ1 (a.map (am_tr G al)).toArray s (.returned o) tt := fun o tt ho ht => ⟨⟨al2, by rw [ho], hpre, by rw [ht]; exact hWd2⟩, hS2.F ht⟩
    cases i
    case ireturn =>
      dsimp only [am_ret] at hret
      split at hret
      · rename_i x
        simp only [Option.some.injEq, Prod.mk.injEq] at hret
        obtain ⟨hn, rfl⟩ := hret
        have hgr : am_RT t m = some (am_rty r.2.1) := hgr
        refine W.zret hx hb (hr.trans hgr) ?_ (fun tt ht _ => fin _ tt rfl ht) hS2.2.2 (hd (Nat.succ_ne_zero _))
        unfold am_nar at hn
        split at hn
        · rename_i h0; rw [h0]; rfl
        · rename_i h0
          rw [h0]
          rcases (Bool.or_eq_true _ _).mp hn with g | g
          · rw [of_decide_eq_true g]; decide
          · rw [of_decide_eq_true g]; decide
        · rename_i h0
          rw [h0]
          have := of_decide_eq_true hn
          show Value.int _ = Value.int _
          rw [this]
        · rename_i q0 q1 q2
          have e1 : am_rty r.2.1 = .char := by
            unfold am_rty
            split
            · exact absurd (by assumption) q0
            · exact absurd (by assumption) q1
            · exact absurd (by assumption) q2
            · rfl
          rw [e1]
          have := of_decide_eq_true hn
          show Value.int _ = Value.int _
          rw [this]
      · cases hret
    case lreturn =>
      dsimp only [am_ret] at hret
      split at hret
      · simp only [Option.some.injEq, Prod.mk.injEq] at hret
        obtain ⟨hn, rfl⟩ := hret
        exact W.lret hx hb (hr.trans hgr) (fun tt ht _ => fin _ tt rfl ht) hS2.2.2 (hd (Nat.succ_ne_zero _))
      · cases hret
    case areturn =>
      dsimp only [am_ret] at hret
      split at hret
      · simp only [Option.some.injEq, Prod.mk.injEq] at hret
        obtain ⟨hn, rfl⟩ := hret
        obtain ⟨n, hgr⟩ := hgr
        exact W.aret hx hb (hr.trans hgr) (Or.inl ⟨_, rfl⟩) (Or.inr ⟨_, rfl⟩) (fun tt ht _ => fin _ tt rfl ht) hS2.2.2 (hd (Nat.succ_ne_zero _))
      · cases hret
    case return_ =>
      dsimp only [am_ret] at hret
      split at hret
      · simp only [Option.some.injEq, Prod.mk.injEq] at hret
        obtain ⟨hn, rfl⟩ := hret
        exact W.vret hx hb (hr.trans hgr) (fun tt ht _ => fin _ tt rfl ht) hS2.2.2 (hd (Nat.succ_ne_zero _))
      · cases hret
    all_goals (dsimp only [am_ret] at hret; cases hret)
theorem am_pop_some : ∀ (n : Nat) (st a tl : List Value), am_pop n st = some (a, tl) → st = a.reverse ++ tl ∧ a.length = n := by
  intro n
  induction n with
  | zero => intro st a tl h; simp only [am_pop, Option.some.injEq, Prod.mk.injEq] at h; obtain ⟨rfl, rfl⟩ := h; exact ⟨rfl, rfl⟩
  | succ n ih =>
    intro st a tl h
    cases st with
    | nil => cases h
    | cons v st =>
      simp only [am_pop] at h
      split at h
      · rename_i a' t' h'
        simp only [Option.some.injEq, Prod.mk.injEq] at h
        obtain ⟨rfl, rfl⟩ := h
        obtain ⟨h1, h2⟩ := ih _ _ _ h'
        exact ⟨by rw [h1]; simp, by simp [h2]⟩
      · cases h
theorem am_cats (st : List Value) : ((st.map (am_tr G al)).map fun v => v.category) = st.map Value.category := by
  rw [List.map_map]
  exact List.map_congr_left (fun v _ => am_tr_cat)
end VAR
