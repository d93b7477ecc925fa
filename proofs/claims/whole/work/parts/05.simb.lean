/-! What a code list must keep to; the simulation of the rows that change nothing but locals and stack. -/
def am_len (i : Instr) : Nat := match i with
  | .bipush _ | .ldc _ | .iload _ | .lload _ | .aload _ | .istore _ | .lstore _ | .astore _ | .newarray _ => 2
  | .sipush _ | .ldc_w _ | .ldc2_w _ | .iinc _ _ | .getfield _ | .putfield _ | .getstatic _ | .invokestatic _ | .invokevirtual _ | .invokespecial _ | .new _ | .anewarray _ | .goto _ | .ifCond _ _ | .if_icmp _ _ | .ifnull _ => 3
  | .tableswitch _ _ _ _ => 0
  | _ => 1
def am_W (w : Cond) : Prop := w ∈ lw_tbl ∧ goodWord w = true
def am_ws : List Cond := lw_tbl.filter goodWord
theorem am_W.mem {w : Cond} (h : am_W w) : w ∈ am_ws := List.mem_filter.mpr h
/-- names of the classes that own code: 0 .. 11 the program's, 20 .. the JDK's, 30 the law -/
def am_cn (k : Nat) : String := match k with
  | 0 => RX0 | 1 => RX1 | 2 => RX2 | 3 => RX3 | 4 => RX4 | 5 => RX5 | 6 => RX6 | 7 => RX7 | 8 => RX8 | 9 => RX9 | 10 => RX10 | 11 => RX11
  | 20 => RJ0 | 21 => RJ1 | 22 => RJ3 | 23 => RJ9 | 24 => RJ6 | _ => RL
/-- the tables of the program: code, locals, class of the code, names, bytes, answers; the pool; the strings' places (class, index, number) -/
abbrev am_T : Type := (Nat → List am_I) × (Nat → Nat) × (Nat → Nat) × (Nat → MethodName) × (Nat → ByteArray) × (Nat → Option FieldType) × List (Nat × Nat × am_R) × List (Nat × Nat × Nat) × List (Nat × Nat × Nat)
def am_P (t : am_T) := t.1
def am_ML (t : am_T) := t.2.1
def am_O (t : am_T) (m : Nat) : String := am_cn (t.2.2.1 m)
def am_Y (t : am_T) := t.2.2.2.1
def am_B (t : am_T) := t.2.2.2.2.1
def am_RT (t : am_T) := t.2.2.2.2.2.1
def am_pl (t : am_T) := t.2.2.2.2.2.2.1
def am_ss (t : am_T) := t.2.2.2.2.2.2.2.1
def am_ns (t : am_T) := t.2.2.2.2.2.2.2.2
/-- what a pool entry says of the words -/
def am_PW (t : am_T) (own : String) (x : Nat) (r : am_R) : Prop := match r.1 with
  | 0 => ∃ (C : String) (T : u_T) (N : Nat) (ty : FieldType), vwCl[r.2.1]? = some (C, T, N) ∧ r.2.2.1 < N ∧ r.2.1 < 12 ∧ (T r.2.2.1).1 = C ∧ am_W (.fieldLink own x C (T r.2.2.1).2.1 (T r.2.2.1).2.2.1) ∧ parseFieldDescriptor (T r.2.2.1).2.2.1 = some ty ∧ (r.2.2.2 = 0 → ty = .int) ∧ (r.2.2.2 = 1 → ty = .boolean) ∧ (r.2.2.2 = 2 → (∃ n, ty = .object n) ∨ ∃ e, ty = .array e)
  | 1 => ((am_Y t r.2.1).cls ≠ "java/lang/invoke/MethodHandle" ∧ (am_Y t r.2.1).cls ≠ "java/lang/invoke/VarHandle") ∧ (parseMethodDescriptor (am_Y t r.2.1).desc).map (fun d => d.parameters.length) = some r.2.2.1 ∧ plainName (am_Y t r.2.1).cls = true ∧ am_W (.code (am_Y t r.2.1) (am_B t r.2.1) (am_ML t r.2.1) (am_RT t r.2.1)) ∧ am_W (.initialized (am_Y t r.2.1).cls) ∧ (am_W (.methodLink own x (am_Y t r.2.1)) ∨ ∃ oc, own = am_cn oc ∧ (oc, x, r.2.1) ∈ am_ns t) ∧ (r.2.2.2 = 99 → am_W (.static (am_Y t r.2.1))) ∧ (r.2.2.2 = 98 → (am_Y t r.2.1).name = "<init>" ∧ am_RT t r.2.1 = none ∧ am_W (.instanceMethod (am_Y t r.2.1))) ∧ (r.2.2.2 < 98 → (am_Y t r.2.1).cls = am_cn r.2.2.2 ∧ am_W (.instanceMethod (am_Y t r.2.1)) ∧ am_W (.selects (am_Y t r.2.1).cls (am_Y t r.2.1) (am_Y t r.2.1))) ∧ am_ML t r.2.1 ≤ 150 ∧ r.2.1 < 1000
  | 2 => ∃ (C : String) (T : u_T) (N : Nat), vwCl[r.2.1]? = some (C, T, N) ∧ am_W (.classLink own x C) ∧ am_W (.instantiable C N) ∧ am_W (.initialized C)
  | 3 => am_W (.constant own x (am_k r))
  | 5 => am_W (.constantLong own x (lN r.2.1))
  | 6 => (r.2.1 = 0 ∧ am_W (.fieldLink own x "java/lang/String" "value" "[B")) ∨ (r.2.1 = 1 ∧ am_W (.fieldLink own x "java/lang/String" "coder" "B"))
  | 7 => am_W (.methodLink own x arraycopyName) ∧ am_W (.native arraycopyName) ∧ am_W (.static arraycopyName) ∧ am_W (.initialized "java/lang/System")
  | 8 => am_W (.methodLink own x Lib.objectInit) ∧ am_W (.instanceMethod Lib.objectInit) ∧ am_W (.code Lib.objectInit ⟨#[0xb1]⟩ 1 none)
  | 9 => (r.2.1 = 0 ∧ am_W (.fieldLink own x "java/lang/String" "COMPACT_STRINGS" "Z")) ∨ (r.2.1 = 1 ∧ am_W (.fieldLink own x "jdk/internal/util/Preconditions" "SIOOBE_FORMATTER" "Ljava/util/function/BiFunction;"))
  | 10 => am_W (.classLink own x "NowhereMoney$Script")
  | 11 => am_W (.methodLink own x Lib.Math.max.name) ∧ am_W (.static Lib.Math.max.name) ∧ am_W (.initialized "java/lang/Math") ∧ am_W (.code Lib.Math.max.name Lib.Math.max.code 2 (some .int))
  | 12 => am_W (.methodLink own x Lib.Math.min.name) ∧ am_W (.static Lib.Math.min.name) ∧ am_W (.initialized "java/lang/Math") ∧ am_W (.code Lib.Math.min.name Lib.Math.min.code 2 (some .int))
  | 13 => am_W (.methodLink own x Lib.Math.abs.name) ∧ am_W (.static Lib.Math.abs.name) ∧ am_W (.initialized "java/lang/Math") ∧ am_W (.code Lib.Math.abs.name Lib.Math.abs.code 1 (some .int))
  | 14 => am_W (.methodLink own x Lib.MathLoose.min_long.x) ∧ am_W (.static Lib.MathLoose.min_long.x) ∧ am_W (.initialized "java/lang/Math") ∧ am_W (.code Lib.MathLoose.min_long.x Lib.MathLoose.min_long.code 4 (some .long))
  | _ => False
def am_rty (n : Nat) : FieldType := match n with
  | 0 => .int
  | 1 => .boolean
  | 2 => .byte
  | _ => .char
/-- what an instruction asks of what stands beside it -/
def am_GR (t : am_T) (m pc : Nat) (i : Instr) (r : am_R) : Prop := match i with
  | .iconst n => Int32.ofInt n = am_k r
  | .bipush n => (Int8.ofInt n).toInt32 = am_k r
  | .sipush n => (Int16.ofInt n).toInt32 = am_k r
  | .iinc j n => Int32.ofInt n = am_k r ∧ j < am_ML t m
  | .istore j => j < am_ML t m
  | .istore_n j => j.val < am_ML t m
  | .astore j => j < am_ML t m
  | .astore_n j => j.val < am_ML t m
  | .lstore j => j + 1 < am_ML t m
  | .lstore_n j => j.val + 1 < am_ML t m
  | .ldc x => (r.1 = 3 ∧ (t.2.2.1 m, x, r) ∈ am_pl t) ∨ (r.1 = 4 ∧ (t.2.2.1 m, x, r.2.1) ∈ am_ss t ∧ r.2.1 < am_sN)
  | .ldc_w x | .ldc2_w x | .getfield x | .getstatic x | .new x | .anewarray x | .invokevirtual x => (t.2.2.1 m, x, r) ∈ am_pl t
  | .invokestatic x => r.1 ≠ 0 → (t.2.2.1 m, x, r) ∈ am_pl t ∧ (r.1 = 1 → r.2.2.2 = 99)
  | .invokespecial x => (t.2.2.1 m, x, r) ∈ am_pl t ∧ (r.1 = 1 → r.2.2.2 = 98)
  | .putfield x => (t.2.2.1 m, x, r) ∈ am_pl t ∧ (∀ q, vwCl[r.2.1]? = some q → (q.2.1 r.2.2.1).2.2.2 = true → (am_Y t m).name = "<init>" ∧ am_O t m = q.1)
  | .goto o | .ifCond _ o | .if_icmp _ o | .ifnull o => (pc : Int) + o = (r.2.1 : Int)
  | .tableswitch dflt _ _ offs => 0 ≤ (pc : Int) + dflt ∧ ∀ o ∈ offs.toList, 0 ≤ (pc : Int) + o
  | .ireturn => am_RT t m = some (am_rty r.2.1)
  | .lreturn => am_RT t m = some .long
  | .areturn => ∃ n, am_RT t m = some (.object n)
  | .return_ => am_RT t m = none
  | _ => True
def am_dec (b : ByteArray) (pc : Nat) (i : Instr) : Prop := (am_len i ≠ 0 → decode b pc = .ok (i, am_len i)) ∧ (am_len i = 0 → ∃ n, decode b pc = .ok (i, n))
def am_pc (k : List am_I) : Nat := match k with
  | e :: _ => e.1
  | [] => 0
def am_GM (t : am_T) (m : Nat) : Prop := ∀ (e : am_I) (k : List am_I), e :: k <:+ am_P t m → am_dec (am_B t m) e.1 e.2.1 ∧ am_GR t m e.1 e.2.1 e.2.2 ∧ (k ≠ [] → am_len e.2.1 ≠ 0 → am_pc k = e.1 + am_len e.2.1)
def am_Good (t : am_T) : Prop := (∀ m, am_GM t m ∧ am_pc (am_P t m) = 0 ∧ (am_Y t m).cls = am_O t m) ∧ (∀ e ∈ am_pl t, am_PW t (am_cn e.1) e.2.1 e.2.2) ∧ (∀ (ci : Nat) (q : vw_C), vwCl[ci]? = some q → (∀ w ∈ u_ws q.1 q.2.1 q.2.2, am_W w)) ∧ am_W (.arrayClass .int)
/-- the strings: an object each, its coder, its bytes -/
def am_Ss (G : am_G) (A : Nat → Prop) (U : State) (H : Heap) : Prop := ∀ i : Nat, i < am_sN → va_O "java/lang/String" (G.1 i) A U H ∧ va_OF "java/lang/String" "coder" "B" (.int 0) (G.1 i) A U H ∧ va_OF "java/lang/String" "value" "[B" (.ref (G.2.1 i)) (G.1 i) A U H ∧ va_T .byte (G.2.1 i) (am_sL.getD i 0) (fun j => .int ((am_sB.getD i []).getD j 0)) A U H
/-- the static part of the world -/
def am_St (t : am_T) (D : va_G) (G : am_G) (dA dB : ClassId) (N0 L : Nat) (xs : Nat → Int32) (U : State) (H : Heap) : Prop :=
  va_K D vwCl [(dA, .int), (dB, .object "NowhereMoney$Script")] U ∧ va_AO "NowhereMoney$Script" U ∧ (∀ e ∈ am_ss t, vk_R (am_cn e.1) e.2.1 (am_sT.getD e.2.2 "") (G.1 e.2.2) U) ∧ am_Ss G (fun q => N0 ≤ q) U H ∧
  va_Z "java/lang/String" "COMPACT_STRINGS" "Z" (.int 1) (fun q => N0 ≤ q) U H ∧ va_Z "jdk/internal/util/Preconditions" "SIOOBE_FORMATTER" "Ljava/util/function/BiFunction;" (va_rf G.2.2.2) (fun q => N0 ≤ q) U H ∧ (0 < L → va_X G.2.2.1 (L - 1) xs U H) ∧ G.2.2.1 < N0 ∧ N0 ≤ H.size ∧ (∀ e ∈ am_ns t, va_Nw (.methodLinkNest (am_cn e.1) e.2.1 (am_Y t e.2.2) "NowhereMoney") U)
def am_Wd (D : va_G) (G : am_G) (dA dB : ClassId) (N0 L : Nat) (xs : Nat → Int32) (al : List Nat) (S : am_Sh) (μ : am_M) (H : Heap) : Prop :=
  al.length = S.length ∧ S.length ≤ 900 ∧ (0 < L → μ 3000 = xs) ∧ va_P D vwCl (am_conc G dA dB al S μ) H ∧ va_D (fun q => N0 ≤ q) (am_conc G dA dB al S μ)
theorem am_ldI_some {ls ls' : am_L} {j : Nat} {st st' : List Value} (h : am_ldI ls j st = some (ls', st')) : ∃ x, am_get ls j = some (.int x) ∧ ls' = ls ∧ st' = .int x :: st := by
  unfold am_ldI at h
  split at h
  · cases h; exact ⟨_, by assumption, rfl, rfl⟩
  · cases h
theorem am_ldL_some {ls ls' : am_L} {j : Nat} {st st' : List Value} (h : am_ldL ls j st = some (ls', st')) : ∃ x, am_get ls j = some (.long x) ∧ ls' = ls ∧ st' = .long x :: st := by
  unfold am_ldL at h
  split at h
  · cases h; exact ⟨_, by assumption, rfl, rfl⟩
  · cases h
theorem am_ldA_some {ls ls' : am_L} {j : Nat} {st st' : List Value} (h : am_ldA ls j st = some (ls', st')) : (∃ x, am_get ls j = some (.ref x) ∧ ls' = ls ∧ st' = .ref x :: st) ∨ (am_get ls j = some .null ∧ ls' = ls ∧ st' = .null :: st) := by
  unfold am_ldA at h
  split at h
  · cases h; exact Or.inl ⟨_, by assumption, rfl, rfl⟩
  · cases h; exact Or.inr ⟨by assumption, rfl, rfl⟩
  · cases h
theorem am_stI_some {ls ls' : am_L} {j : Nat} {st st' : List Value} (h : am_stI ls j st = some (ls', st')) : ∃ x, st = .int x :: st' ∧ ls' = am_set ls j (.int x) := by
  unfold am_stI at h
  split at h
  · cases h; exact ⟨_, rfl, rfl⟩
  · cases h
theorem am_stL_some {ls ls' : am_L} {j : Nat} {st st' : List Value} (h : am_stL ls j st = some (ls', st')) : ∃ x, st = .long x :: st' ∧ ls' = am_set2 ls j (.long x) := by
  unfold am_stL at h
  split at h
  · cases h; exact ⟨_, rfl, rfl⟩
  · cases h
theorem am_stA_some {ls ls' : am_L} {j : Nat} {st st' : List Value} (h : am_stA ls j st = some (ls', st')) : (∃ x, st = .ref x :: st' ∧ ls' = am_set ls j (.ref x)) ∨ (st = .null :: st' ∧ ls' = am_set ls j .null) := by
  unfold am_stA at h
  split at h
  · cases h; exact Or.inl ⟨_, rfl, rfl⟩
  · cases h; exact Or.inr ⟨rfl, rfl⟩
  · cases h
theorem am_bin_some {f : Int32 → Int32 → Int32} {ls ls' : am_L} {st st' : List Value} (h : am_bin f ls st = some (ls', st')) : ∃ x y u, st = .int y :: .int x :: u ∧ ls' = ls ∧ st' = .int (f x y) :: u := by
  unfold am_bin at h
  split at h
  · cases h; exact ⟨_, _, _, rfl, rfl, rfl⟩
  · cases h
theorem am_binL_some {f : Int64 → Int64 → Int64} {ls ls' : am_L} {st st' : List Value} (h : am_binL f ls st = some (ls', st')) : ∃ x y u, st = .long y :: .long x :: u ∧ ls' = ls ∧ st' = .long (f x y) :: u := by
  unfold am_binL at h
  split at h
  · cases h; exact ⟨_, _, _, rfl, rfl, rfl⟩
  · cases h
theorem am_un_some {f : Int32 → Value} {ls ls' : am_L} {st st' : List Value} (h : am_un f ls st = some (ls', st')) : ∃ x u, st = .int x :: u ∧ ls' = ls ∧ st' = f x :: u := by
  unfold am_un at h
  split at h
  · cases h; exact ⟨_, _, rfl, rfl, rfl⟩
  · cases h
theorem am_sL_of {c : Nat} (h : c < am_sN) : am_sL.getD c 0 < 2 ^ 31 := by
  have : ∀ c, c < 21 → am_sL.getD c 0 < 2 ^ 31 := by decide +kernel
  exact this c h
theorem am_ad_lt {G : am_G} {al : List Nat} {c : Nat} (h : c < 1000) : am_ad G al c = al.getD c 0 := by
  unfold am_ad
  have : Nat.blt c 1000 = true := by unfold Nat.blt; exact Nat.ble_eq_true_of_le h
  rw [this]; rfl
theorem am_blt {a b : Nat} : Nat.blt a b = true ↔ a < b := by unfold Nat.blt; rw [Nat.ble_eq]; exact Iff.rfl
theorem am_ad_str {G : am_G} {al : List Nat} {c : Nat} (h : 1000 ≤ c) (h2 : c < 2000) : am_ad G al c = G.1 (c - 1000) := by
  unfold am_ad
  have e1 : Nat.blt c 1000 = false := by rw [← Bool.not_eq_true, am_blt]; omega
  have e2 : Nat.blt c 2000 = true := am_blt.mpr h2
  rw [e1, e2]; rfl
theorem am_ad_byt {G : am_G} {al : List Nat} {c : Nat} (h : 2000 ≤ c) (h2 : c < 3000) : am_ad G al c = G.2.1 (c - 2000) := by
  unfold am_ad
  have e1 : Nat.blt c 1000 = false := by rw [← Bool.not_eq_true, am_blt]; omega
  have e2 : Nat.blt c 2000 = false := by rw [← Bool.not_eq_true, am_blt]; omega
  have e3 : Nat.blt c 3000 = true := am_blt.mpr h2
  rw [e1, e2, e3]; rfl
theorem am_ad_scr {G : am_G} {al : List Nat} : am_ad G al 3000 = G.2.2.1 := rfl
theorem am_lt_len {α : Type} {l : List α} {i : Nat} {x : α} (h : l[i]? = some x) : i < l.length := (List.getElem?_eq_some_iff.mp h).1
section VAR
variable {p : Program} {l : Launch} {e : Env} {R : Room} {s : State} {mi : MethodId} {args : Array Value} {below : List Frame} {meth : Method} {c : Code} {H : Heap} {locs : List Loc} {cells slots : Nat} {Q : State → Prop}
variable {t : am_T} {D : va_G} {G : am_G} {dA dB : ClassId} {N0 L : Nat} {xs : Nat → Int32} {al : List Nat} {S : am_Sh} {μ : am_M} {m : Nat}
/-- what holds all through a method's body -/
def am_Env (t : am_T) (D : va_G) (G : am_G) (dA dB : ClassId) (N0 L : Nat) (xs : Nat → Int32) (p : Program) (s : State) (mi : MethodId) (args : Array Value) (meth : Method) (c : Code) (m : Nat) : Prop :=
  p.tables.exec = Jvm.exec ∧ c.code = am_B t m ∧ c.maxLocals = am_ML t m ∧ s.vm.findClass (am_O t m) = some mi.cls ∧ (∀ w ∈ am_ws, w.before args s = true) ∧ ((am_Y t m).name = "<init>" → meth.name = "<init>") ∧ am_St t D G dA dB N0 L xs s s.heap
set_option maxHeartbeats 4000000 in
theorem am_sim_pure (hG : am_Good t) (hE : am_Env t D G dA dB N0 L xs p s mi args meth c m) {pc : Nat} {i : Instr} {r : am_R} {ls ls' : am_L} {st st' : List Value} {ar : Array Slot}
    (hrun : am_pure L S i r ls st μ = some (ls', st')) (hdec : am_dec (am_B t m) pc i) (hgr : am_GR t m pc i r) (hW : am_Wd D G dA dB N0 L xs al S μ H) (hS : va_S (fun q => N0 ≤ q) s.heap H locs)
    (hl : am_hasL (am_tr G al) ar (am_ML t m) ls)
    (kk : ∀ ar', am_hasL (am_tr G al) ar' (am_ML t m) ls' → W p l e R s mi args below meth c H locs cells slots Q (F0 mi (pc + am_len i) ar' (st'.map (am_tr G al)))) :
    W p l e R s mi args below meth c H locs cells slots Q (F0 mi pc ar (st.map (am_tr G al))) := by
  obtain ⟨hx, hb, hml, hown, hts, hin, hSt⟩ := hE
  have hd := hdec.1
  cases i
  case iconst n =>
    cases hrun
    refine lv_iconst hx hb (hd (Nat.succ_ne_zero _)) hgr ?_
    exact kk ar hl
  case bipush n =>
    cases hrun
    refine lv_bipush hx hb (hd (Nat.succ_ne_zero _)) hgr ?_
    exact kk ar hl
  case sipush n =>
    cases hrun
    refine lv_sipush hx hb (hd (Nat.succ_ne_zero _)) hgr ?_
    exact kk ar hl
  case iload j =>
    obtain ⟨x, hg, rfl, rfl⟩ := am_ldI_some hrun
    refine lv_iload hx hb (hd (Nat.succ_ne_zero _)) (hl.at hg) ?_
    exact kk ar hl
  case iload_n j =>
    obtain ⟨x, hg, rfl, rfl⟩ := am_ldI_some hrun
    refine lv_iload_n hx hb (hd (Nat.succ_ne_zero _)) rfl (hl.at hg) ?_
    exact kk ar hl
  case lload j =>
    obtain ⟨x, hg, rfl, rfl⟩ := am_ldL_some hrun
    refine lv_lload hx hb (hd (Nat.succ_ne_zero _)) (hl.at hg) ?_
    exact kk ar hl
  case lload_n j =>
    obtain ⟨x, hg, rfl, rfl⟩ := am_ldL_some hrun
    refine lv_lload_n hx hb (hd (Nat.succ_ne_zero _)) rfl (hl.at hg) ?_
    exact kk ar hl
  case aload j =>
    rcases am_ldA_some hrun with ⟨x, hg, rfl, rfl⟩ | ⟨hg, rfl, rfl⟩
    · refine lv_aload hx hb (hd (Nat.succ_ne_zero _)) (hl.at hg) ?_
      exact kk ar hl
    · refine lv_aloadN hx hb (hd (Nat.succ_ne_zero _)) (hl.at hg) ?_
      exact kk ar hl
  case aload_n j =>
    rcases am_ldA_some hrun with ⟨x, hg, rfl, rfl⟩ | ⟨hg, rfl, rfl⟩
    · refine lv_aload_n hx hb (hd (Nat.succ_ne_zero _)) rfl (hl.at hg) ?_
      exact kk ar hl
    · refine lv_aload_nN hx hb (hd (Nat.succ_ne_zero _)) rfl (hl.at hg) ?_
      exact kk ar hl
  case istore j =>
    obtain ⟨x, rfl, rfl⟩ := am_stI_some hrun
    refine lv_istore hx hb (hd (Nat.succ_ne_zero _)) hl.2 hgr rfl (fun ar' hl' => ?_)
    exact kk ar' (am_hasL.store (fun _ => am_tr_cat) hl hl')
  case istore_n j =>
    obtain ⟨x, rfl, rfl⟩ := am_stI_some hrun
    refine lv_istore_n hx hb (hd (Nat.succ_ne_zero _)) rfl hl.2 hgr rfl (fun ar' hl' => ?_)
    exact kk ar' (am_hasL.store (fun _ => am_tr_cat) hl hl')
  case lstore j =>
    obtain ⟨x, rfl, rfl⟩ := am_stL_some hrun
    refine lv_lstore hx hb (hd (Nat.succ_ne_zero _)) hl.2 hgr rfl (fun ar' hl' => ?_)
    exact kk ar' (am_hasL.store2 (fun _ => am_tr_cat) hl hl')
  case lstore_n j =>
    obtain ⟨x, rfl, rfl⟩ := am_stL_some hrun
    refine lv_lstore_n hx hb (hd (Nat.succ_ne_zero _)) rfl hl.2 hgr rfl (fun ar' hl' => ?_)
    exact kk ar' (am_hasL.store2 (fun _ => am_tr_cat) hl hl')
  case astore j =>
    rcases am_stA_some hrun with ⟨x, rfl, rfl⟩ | ⟨rfl, rfl⟩
    · refine lv_astore hx hb (hd (Nat.succ_ne_zero _)) hl.2 hgr rfl (fun ar' hl' => ?_)
      exact kk ar' (am_hasL.store (v := .ref x) (fun _ => am_tr_cat) hl hl')
    · refine lv_astoreN hx hb (hd (Nat.succ_ne_zero _)) hl.2 hgr rfl (fun ar' hl' => ?_)
      exact kk ar' (am_hasL.store (v := .null) (fun _ => am_tr_cat) hl hl')
  case astore_n j =>
    rcases am_stA_some hrun with ⟨x, rfl, rfl⟩ | ⟨rfl, rfl⟩
    · refine lv_astore_n hx hb (hd (Nat.succ_ne_zero _)) rfl hl.2 hgr rfl (fun ar' hl' => ?_)
      exact kk ar' (am_hasL.store (v := .ref x) (fun _ => am_tr_cat) hl hl')
    · refine lv_astore_nN hx hb (hd (Nat.succ_ne_zero _)) rfl hl.2 hgr rfl (fun ar' hl' => ?_)
      exact kk ar' (am_hasL.store (v := .null) (fun _ => am_tr_cat) hl hl')
  case iinc j n =>
    dsimp only [am_pure] at hrun
    split at hrun
    · rename_i x hg
      cases hrun
      obtain ⟨k, hk⟩ := List.getElem?_of_mem ((am_prs_mem (f := am_tr G al) ls 0 (j, .int x)).mpr ⟨j, .int x, (Nat.zero_add j).symm, am_get_some hg, rfl⟩)
      refine lv_iinc hx hb (hd (Nat.succ_ne_zero _)) hl.2 hk (by rw [hgr.1]) hgr.2 rfl (fun ar' hl' => ?_)
      exact kk ar' (am_hasL.store (v := .int (x + am_k r)) (fun _ => am_tr_cat) hl hl')
    · cases hrun
  case iadd =>
    obtain ⟨x, y, u, rfl, rfl, rfl⟩ := am_bin_some hrun
    refine lv_iadd hx hb (hd (Nat.succ_ne_zero _)) ?_
    exact kk ar hl
  case isub =>
    obtain ⟨x, y, u, rfl, rfl, rfl⟩ := am_bin_some hrun
    refine lv_isub hx hb (hd (Nat.succ_ne_zero _)) ?_
    exact kk ar hl
  case imul =>
    obtain ⟨x, y, u, rfl, rfl, rfl⟩ := am_bin_some hrun
    refine lv_imul hx hb (hd (Nat.succ_ne_zero _)) ?_
    exact kk ar hl
  case iand =>
    obtain ⟨x, y, u, rfl, rfl, rfl⟩ := am_bin_some hrun
    refine lv_iand hx hb (hd (Nat.succ_ne_zero _)) ?_
    exact kk ar hl
  case ior =>
    obtain ⟨x, y, u, rfl, rfl, rfl⟩ := am_bin_some hrun
    refine lv_ior hx hb (hd (Nat.succ_ne_zero _)) ?_
    exact kk ar hl
  case ixor =>
    obtain ⟨x, y, u, rfl, rfl, rfl⟩ := am_bin_some hrun
    refine lv_ixor hx hb (hd (Nat.succ_ne_zero _)) ?_
    exact kk ar hl
  case ishl =>
    obtain ⟨x, y, u, rfl, rfl, rfl⟩ := am_bin_some hrun
    refine lv_ishl hx hb (hd (Nat.succ_ne_zero _)) ?_
    exact kk ar hl
  case ishr =>
    obtain ⟨x, y, u, rfl, rfl, rfl⟩ := am_bin_some hrun
    refine lv_ishr hx hb (hd (Nat.succ_ne_zero _)) ?_
    exact kk ar hl
  case iushr =>
    obtain ⟨x, y, u, rfl, rfl, rfl⟩ := am_bin_some hrun
    refine lv_iushr hx hb (hd (Nat.succ_ne_zero _)) rfl ?_
    exact kk ar hl
  case ladd =>
    obtain ⟨x, y, u, rfl, rfl, rfl⟩ := am_binL_some hrun
    refine lv_ladd hx hb (hd (Nat.succ_ne_zero _)) ?_
    exact kk ar hl
  case lmul =>
    obtain ⟨x, y, u, rfl, rfl, rfl⟩ := am_binL_some hrun
    refine lv_lmul hx hb (hd (Nat.succ_ne_zero _)) ?_
    exact kk ar hl
  case ineg =>
    obtain ⟨x, u, rfl, rfl, rfl⟩ := am_un_some hrun
    refine lv_ineg hx hb (hd (Nat.succ_ne_zero _)) ?_
    exact kk ar hl
  case i2l =>
    obtain ⟨x, u, rfl, rfl, rfl⟩ := am_un_some hrun
    refine lv_i2l hx hb (hd (Nat.succ_ne_zero _)) rfl ?_
    exact kk ar hl
  case i2c =>
    obtain ⟨x, u, rfl, rfl, rfl⟩ := am_un_some hrun
    refine lv_i2c hx hb (hd (Nat.succ_ne_zero _)) rfl ?_
    exact kk ar hl
  case i2b =>
    obtain ⟨x, u, rfl, rfl, rfl⟩ := am_un_some hrun
    refine lv_i2b hx hb (hd (Nat.succ_ne_zero _)) rfl ?_
    exact kk ar hl
  case l2i =>
    dsimp only [am_pure] at hrun
    split at hrun
    · cases hrun
      refine lv_l2i hx hb (hd (Nat.succ_ne_zero _)) rfl ?_
      exact kk ar hl
    · cases hrun
  case lcmp =>
    dsimp only [am_pure] at hrun
    split at hrun
    · cases hrun
      refine W.lcmp hx hb (hd (Nat.succ_ne_zero _)) ?_
      exact kk ar hl
    · cases hrun
  case dup =>
    dsimp only [am_pure] at hrun
    split at hrun
    · cases hrun
      refine lv_dup hx hb (hd (Nat.succ_ne_zero _)) rfl ?_
      exact kk ar hl
    · cases hrun
      refine lv_dup hx hb (hd (Nat.succ_ne_zero _)) rfl ?_
      exact kk ar hl
    · cases hrun
  case dup2 =>
    dsimp only [am_pure] at hrun
    split at hrun
    · cases hrun
      refine lv_dup2_11 hx hb (hd (Nat.succ_ne_zero _)) rfl rfl ?_
      exact kk ar hl
    · cases hrun
      refine lv_dup2_11 hx hb (hd (Nat.succ_ne_zero _)) rfl rfl ?_
      exact kk ar hl
    · cases hrun
  case pop =>
    dsimp only [am_pure] at hrun
    split at hrun
    · cases hrun
      refine lv_pop hx hb (hd (Nat.succ_ne_zero _)) rfl ?_
      exact kk ar hl
    · cases hrun
      refine lv_pop hx hb (hd (Nat.succ_ne_zero _)) rfl ?_
      exact kk ar hl
    · cases hrun
  case aconst_null =>
    cases hrun
    refine lv_null hx hb (hd (Nat.succ_ne_zero _)) ?_
    exact kk ar hl
  case ldc x =>
    rcases hgr with ⟨h3, hm⟩ | ⟨h4, hm, hlt⟩
    · have hw := hG.2.1 _ hm
      unfold am_PW at hw
      simp only [h3] at hw
      simp only [am_pure, h3] at hrun
      cases hrun
      refine lv_ldc hx hb hown (hts _ hw.mem) (hd (Nat.succ_ne_zero _)) ?_
      exact kk ar hl
    · simp only [am_pure, h4] at hrun
      cases hrun
      have hz := hSt.2.2.1 _ hm
      refine va_ldcS hx hb hown hz (hd (Nat.succ_ne_zero _)) ?_
      have e1 : am_tr G al (.ref (1000 + r.2.1)) = .ref (G.1 r.2.1) := by
        show Value.ref (am_ad G al (1000 + r.2.1)) = _
        have : r.2.1 < 21 := hlt
        rw [am_ad_str (by omega) (by omega), show 1000 + r.2.1 - 1000 = r.2.1 by omega]
      have := kk ar hl
      rw [List.map_cons, e1] at this
      exact this
  case ldc_w x =>
    dsimp only [am_pure] at hrun
    split at hrun
    · rename_i h3
      cases hrun
      have hw := hG.2.1 _ hgr
      unfold am_PW at hw
      simp only [h3] at hw
      refine lv_ldcw hx hb hown (hts _ hw.mem) (hd (Nat.succ_ne_zero _)) ?_
      exact kk ar hl
    · cases hrun
  case ldc2_w x =>
    dsimp only [am_pure] at hrun
    split at hrun
    · rename_i h3
      cases hrun
      have hw := hG.2.1 _ hgr
      unfold am_PW at hw
      simp only [h3] at hw
      refine lv_ldc2 hx hb hown (hts _ hw.mem) (hd (Nat.succ_ne_zero _)) ?_
      exact kk ar hl
    · cases hrun
  case getstatic x =>
    dsimp only [am_pure] at hrun
    split at hrun
    · rename_i h3
      have hw := hG.2.1 _ hgr
      unfold am_PW at hw
      simp only [h3] at hw
      rcases hw with ⟨h0, hw⟩ | ⟨h0, hw⟩
      · rw [h0] at hrun
        cases hrun
        refine va_gets hx hb hSt.2.2.2.2.1 hS hown (hts _ hw.mem) (fun _ h => h) (hd (Nat.succ_ne_zero _)) ?_
        exact kk ar hl
      · rw [h0] at hrun
        cases hrun
        refine va_gets hx hb hSt.2.2.2.2.2.1 hS hown (hts _ hw.mem) (fun _ h => h) (hd (Nat.succ_ne_zero _)) ?_
        exact kk ar hl
    · cases hrun
  case arraylength =>
    dsimp only [am_pure] at hrun
    split at hrun
    · rename_i cc u
      split at hrun
      · rename_i n hn
        cases hrun
        show W p l e R s mi args below meth c H locs cells slots Q (F0 mi pc ar (.ref (am_ad G al cc) :: u.map (am_tr G al)))
        unfold am_alen at hn
        split at hn
        · rename_i kd vs hc
          have hlt := am_lt_len hc
          have hat := am_conc_at G dA dB al S μ cc
          rw [hc] at hat
          rw [am_ad_lt (Nat.lt_of_lt_of_le hlt (Nat.le_trans hW.2.1 (by decide)))]
          cases hk : Nat.ble 100 kd with
          | true =>
            rw [hk] at hn
            cases hn
            have e5 : Nat.blt kd 50 = false := by
              have := Nat.le_of_ble_eq_true hk
              rw [← Bool.not_eq_true, am_blt]; omega
            simp only [Option.map_some, am_cell, e5, hk, cond_true, cond_false] at hat
            exact va_alen hx hb hSt.1 hW.2.2.2.1 cc 0 hat rfl rfl (hd (Nat.succ_ne_zero _)) (kk ar hl)
          | false =>
            rw [hk] at hn
            cases hk2 : Nat.beq kd 98 with
            | true =>
              rw [hk2] at hn
              cases hn
              have := Nat.eq_of_beq_eq_true hk2
              subst this
              exact va_alen hx hb hSt.1 hW.2.2.2.1 cc 1 hat rfl rfl (hd (Nat.succ_ne_zero _)) (kk ar hl)
            | false => rw [hk2] at hn; cases hn
        · cases hk : (Nat.beq cc 3000 && Nat.blt 0 L) with
          | true =>
            rw [hk] at hn
            have hn : L - 1 = n := Option.some.inj hn
            subst hn
            obtain ⟨hk, hL⟩ := (Bool.and_eq_true _ _).mp hk
            have := Nat.eq_of_beq_eq_true hk
            subst this
            exact va_slen hx hb (hSt.2.2.2.2.2.2.1 (am_blt.mp hL)) (Nat.lt_of_lt_of_le hSt.2.2.2.2.2.2.2.1 hSt.2.2.2.2.2.2.2.2.1) (Nat.not_le.mpr hSt.2.2.2.2.2.2.2.1) hS (hd (Nat.succ_ne_zero _)) (kk ar hl)
          | false =>
            rw [hk] at hn
            cases hk2 : (Nat.ble 2000 cc && Nat.blt cc (2000 + am_sN)) with
            | true =>
              rw [hk2] at hn
              have hn : am_sL.getD (cc - 2000) 0 = n := Option.some.inj hn
              subst hn
              obtain ⟨k1, k2⟩ := (Bool.and_eq_true _ _).mp hk2
              have k1 := Nat.le_of_ble_eq_true k1
              have k2 : cc < 2021 := am_blt.mp k2
              rw [am_ad_byt k1 (Nat.lt_trans k2 (by decide))]
              obtain ⟨-, -, -, hT⟩ := hSt.2.2.2.1 (cc - 2000) ((Nat.sub_lt_iff_lt_add k1).mpr k2)
              obtain ⟨cell, g1, g2, g3, g4, g5, g6, g7⟩ := hT
              refine W.alen (cell := cell) (ty := .byte) (n := nI (am_sL.getD (cc - 2000) 0)) hx hb ?_ g2 g5 rfl rfl (hd (Nat.succ_ne_zero _)) (kk ar hl)
              rw [hS.2.1 _ (Array.getElem?_eq_some_iff.mp g1).1 g7]
              exact g1
            | false => rw [hk2] at hn; cases hn
      · cases hrun
    · cases hrun
  case getfield x =>
    change am_getf S r ls st μ = some (ls', st') at hrun
    unfold am_getf at hrun
    split at hrun
    · rename_i cc u
      have hw := hG.2.1 _ hgr
      unfold am_PW at hw
      show W p l e R s mi args below meth c H locs cells slots Q (F0 mi pc ar (.ref (am_ad G al cc) :: u.map (am_tr G al)))
      split at hrun
      · rename_i h0
        simp only [h0] at hw
        obtain ⟨C, T, N, ty, hc, hk, hci, hCd, hlk, -⟩ := hw
        split at hrun
        · rename_i kd vs hcc
          have hlt := am_lt_len hcc
          rw [am_ad_lt (Nat.lt_of_lt_of_le hlt (Nat.le_trans hW.2.1 (by decide)))]
          have hat := am_conc_at G dA dB al S μ cc
          rw [hcc] at hat
          cases hkd : Nat.beq kd r.2.1 with
          | false => rw [hkd] at hrun; cases hrun
          | true =>
            have e0 := Nat.eq_of_beq_eq_true hkd
            subst e0
            rw [hkd] at hrun
            have e5 : Nat.blt r.2.1 50 = true := am_blt.mpr (by omega)
            simp only [Option.map_some, am_cell, e5, cond_true] at hat
            simp only [cond_true] at hrun
            have hfv : ∀ v, vs[r.2.2.1]? = some v → (vs.mapIdx (am_fld G al μ cc))[r.2.2.1]? = some (am_fld G al μ cc r.2.2.1 v) := fun v hv => by rw [List.getElem?_mapIdx, hv]; rfl
            have hget : ∀ v, vs[r.2.2.1]? = some v → W p l e R s mi args below meth c H locs cells slots Q (F0 mi (pc + 3) ar (am_fld G al μ cc r.2.2.1 v :: u.map (am_tr G al))) → W p l e R s mi args below meth c H locs cells slots Q (F0 mi pc ar (.ref (al.getD cc 0) :: u.map (am_tr G al))) := fun v hv kv =>
              va_get hx hb (hts) (fun w hw => (hG.2.2.1 _ _ hc w hw).mem) hown hSt.1 hW.2.2.2.1 cc hat hc r.2.2.1 hk (ref := C) (hts _ hlk.mem) (fun x hx => by rw [← hCd]; exact hx) (hfv v hv) (hd (Nat.succ_ne_zero _)) kv
            split at hrun
            · rename_i hv
              cases hrun
              exact hget _ hv (kk ar hl)
            · rename_i hv
              cases hrun
              exact hget _ hv (kk ar hl)
            · rename_i hv
              cases hrun
              exact hget _ hv (kk ar hl)
            · cases hrun
        · cases hrun
      · rename_i h6
        simp only [h6] at hw
        cases hk2 : (Nat.ble 1000 cc && Nat.blt cc (1000 + am_sN)) with
        | false => rw [hk2] at hrun; cases hrun
        | true =>
          rw [hk2] at hrun
          obtain ⟨k1, k2⟩ := (Bool.and_eq_true _ _).mp hk2
          have k1 := Nat.le_of_ble_eq_true k1
          have k2 : cc < 1021 := am_blt.mp k2
          have k3 : cc - 1000 < 21 := (Nat.sub_lt_iff_lt_add k1).mpr k2
          have k4 : cc + 1000 < 3000 := Nat.add_lt_add_right (Nat.lt_trans k2 (by decide)) 1000
          have k5 : 2000 ≤ cc + 1000 := Nat.add_le_add_right k1 1000
          have k6 : cc < 2000 := Nat.lt_trans k2 (by decide)
          rw [am_ad_str k1 k6]
          obtain ⟨-, hco, hva, -⟩ := hSt.2.2.2.1 (cc - 1000) k3
          simp only [cond_true] at hrun
          rcases hw with ⟨h0, hw⟩ | ⟨h0, hw⟩
          · rw [h0] at hrun
            cases hrun
            refine vk_getf hx hb hva hS hown (hts _ hw.mem) (fun _ h => h) (hd (Nat.succ_ne_zero _)) ?_
            have := kk ar hl
            have e1 : am_tr G al (.ref (cc + 1000)) = .ref (G.2.1 (cc - 1000)) := by
              show Value.ref (am_ad G al (cc + 1000)) = _
              rw [am_ad_byt k5 k4, show cc + 1000 - 2000 = cc - 1000 from Nat.add_sub_add_right cc 1000 1000]
            rw [List.map_cons, e1] at this
            exact this
          · rw [h0] at hrun
            cases hrun
            refine vk_getf hx hb hco hS hown (hts _ hw.mem) (fun _ h => h) (hd (Nat.succ_ne_zero _)) ?_
            exact kk ar hl
      · cases hrun
    · cases hrun
  all_goals (dsimp only [am_pure] at hrun; cases hrun)
end VAR
