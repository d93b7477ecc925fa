/-! The codes keep to what the simulation asks. -/
def am_decB (b : ByteArray) (pc : Nat) (i : Instr) : Bool := match decode b pc with
  | .ok (i', n) => decide (i' = i) && (Nat.beq (am_len i) 0 || Nat.beq n (am_len i))
  | .error _ => false
theorem am_decB_dec {b : ByteArray} {pc : Nat} {i : Instr} (h : am_decB b pc i = true) : am_dec b pc i := by
  unfold am_decB at h
  split at h
  · rename_i i' n hd
    obtain ⟨h1, h2⟩ := (Bool.and_eq_true _ _).mp h
    have h1 := of_decide_eq_true h1
    subst h1
    refine ⟨fun hz => ?_, fun _ => ⟨n, hd⟩⟩
    rcases (Bool.or_eq_true _ _).mp h2 with h2 | h2
    · exact absurd (Nat.eq_of_beq_eq_true h2) hz
    · rw [← Nat.eq_of_beq_eq_true h2]; exact hd
  · cases h
def am_inp (oc x : Nat) (r : am_R) : Bool := (am_pk oc).any (fun e => Nat.beq e.2.1 x && (Nat.beq e.1 oc && decide (e.2.2 = r)))
theorem am_pk_pool : ∀ oc, ∀ e ∈ am_pk oc, e ∈ am_pool := by
  intro oc e he
  unfold am_pk at he
  unfold am_pool
  simp only [List.mem_append]
  split at he
  all_goals first
    | (simp only [he, true_or, or_true]; done)
    | cases he
theorem am_inp_mem {oc x : Nat} {r : am_R} (h : am_inp oc x r = true) : (oc, x, r) ∈ am_pool := by
  obtain ⟨e, he, h⟩ := List.any_eq_true.mp h
  simp only [Bool.and_eq_true] at h
  have : e = (oc, x, r) := Prod.ext (Nat.eq_of_beq_eq_true h.2.1) (Prod.ext (Nat.eq_of_beq_eq_true h.1) (of_decide_eq_true h.2.2))
  rw [← this]
  exact am_pk_pool oc e he
def am_ins (oc x n : Nat) : Bool := am_sss.any (fun e => Nat.beq e.2.1 x && (Nat.beq e.1 oc && Nat.beq e.2.2 n))
theorem am_ins_mem {oc x n : Nat} (h : am_ins oc x n = true) : (oc, x, n) ∈ am_sss := by
  obtain ⟨e, he, h⟩ := List.any_eq_true.mp h
  simp only [Bool.and_eq_true] at h
  have : e = (oc, x, n) := Prod.ext (Nat.eq_of_beq_eq_true h.2.1) (Prod.ext (Nat.eq_of_beq_eq_true h.1) (Nat.eq_of_beq_eq_true h.2.2))
  rw [← this]
  exact he
/-- whether a field is final -/
def am_fin (ci k : Nat) : Bool := match vwCl[ci]? with
  | some q => (q.2.1 k).2.2.2
  | none => false
def am_grB (m oc ml pc : Nat) (i : Instr) (r : am_R) : Bool := match i with
  | .iconst n => decide (Int32.ofInt n = am_k r)
  | .bipush n => decide ((Int8.ofInt n).toInt32 = am_k r)
  | .sipush n => decide ((Int16.ofInt n).toInt32 = am_k r)
  | .iinc j n => decide (Int32.ofInt n = am_k r) && Nat.blt j ml
  | .istore j => Nat.blt j ml
  | .istore_n j => Nat.blt j.val ml
  | .astore j => Nat.blt j ml
  | .astore_n j => Nat.blt j.val ml
  | .lstore j => Nat.blt (j + 1) ml
  | .lstore_n j => Nat.blt (j.val + 1) ml
  | .ldc x => (match Nat.beq r.1 3 with
    | true => am_inp oc x r
    | false => Nat.beq r.1 4 && (am_ins oc x r.2.1 && Nat.blt r.2.1 am_sN))
  | .ldc_w x => am_inp oc x r
  | .ldc2_w x => am_inp oc x r
  | .getfield x => am_inp oc x r
  | .getstatic x => am_inp oc x r
  | .new x => am_inp oc x r
  | .anewarray x => am_inp oc x r
  | .invokevirtual x => am_inp oc x r
  | .invokestatic x => Nat.beq r.1 0 || (am_inp oc x r && (Nat.beq r.2.2.2 99 || !(Nat.beq r.1 1)))
  | .invokespecial x => am_inp oc x r && (Nat.beq r.2.2.2 98 || !(Nat.beq r.1 1))
  | .putfield x => am_inp oc x r && (!(am_fin r.2.1 r.2.2.1) || (decide ((am_Y am_t m).name = "<init>") && (match vwCl[r.2.1]? with
    | some q => decide (am_cn oc = q.1)
    | none => false)))
  | .goto o => decide ((pc : Int) + o = (r.2.1 : Int))
  | .ifCond _ o => decide ((pc : Int) + o = (r.2.1 : Int))
  | .if_icmp _ o => decide ((pc : Int) + o = (r.2.1 : Int))
  | .ifnull o => decide ((pc : Int) + o = (r.2.1 : Int))
  | .tableswitch dflt _ _ offs => decide (0 ≤ (pc : Int) + dflt) && offs.toList.all (fun o => decide (0 ≤ (pc : Int) + o))
  | .ireturn => decide (am_RT am_t m = some (am_rty r.2.1))
  | .lreturn => decide (am_RT am_t m = some .long)
  | .areturn => (match am_RT am_t m with
    | some (.object _) => true
    | _ => false)
  | .return_ => decide (am_RT am_t m = none)
  | _ => true
theorem am_grB_GR {m pc : Nat} {i : Instr} {r : am_R} (h : am_grB m (am_t.2.2.1 m) (am_ML am_t m) pc i r = true) : am_GR am_t m pc i r := by
  cases i
  case iconst n => exact of_decide_eq_true (p := Int32.ofInt n = am_k r) h
  case bipush n => exact of_decide_eq_true (p := (Int8.ofInt n).toInt32 = am_k r) h
  case sipush n => exact of_decide_eq_true (p := (Int16.ofInt n).toInt32 = am_k r) h
  case iinc j n =>
    obtain ⟨h1, h2⟩ := (Bool.and_eq_true _ _).mp h
    exact ⟨of_decide_eq_true h1, am_blt.mp h2⟩
  case istore j => exact am_blt.mp h
  case istore_n j => exact am_blt.mp h
  case astore j => exact am_blt.mp h
  case astore_n j => exact am_blt.mp h
  case lstore j => exact am_blt.mp h
  case lstore_n j => exact am_blt.mp h
  case ldc x =>
    dsimp only [am_grB] at h
    split at h
    · rename_i h3
      exact Or.inl ⟨Nat.eq_of_beq_eq_true h3, am_inp_mem h⟩
    · simp only [Bool.and_eq_true] at h
      exact Or.inr ⟨Nat.eq_of_beq_eq_true h.1, am_ins_mem h.2.1, am_blt.mp h.2.2⟩
  case ldc_w x => exact am_inp_mem h
  case ldc2_w x => exact am_inp_mem h
  case getfield x => exact am_inp_mem h
  case getstatic x => exact am_inp_mem h
  case new x => exact am_inp_mem h
  case anewarray x => exact am_inp_mem h
  case invokevirtual x => exact am_inp_mem h
  case invokestatic x =>
    intro hz
    rcases (Bool.or_eq_true _ _).mp h with h | h
    · exact absurd (Nat.eq_of_beq_eq_true h) hz
    · obtain ⟨h1, h2⟩ := (Bool.and_eq_true _ _).mp h
      refine ⟨am_inp_mem h1, fun q => ?_⟩
      rcases (Bool.or_eq_true _ _).mp h2 with h2 | h2
      · exact Nat.eq_of_beq_eq_true h2
      · rw [q] at h2; cases h2
  case invokespecial x =>
    obtain ⟨h1, h2⟩ := (Bool.and_eq_true _ _).mp h
    refine ⟨am_inp_mem h1, fun q => ?_⟩
    rcases (Bool.or_eq_true _ _).mp h2 with h2 | h2
    · exact Nat.eq_of_beq_eq_true h2
    · rw [q] at h2; cases h2
  case putfield x =>
    obtain ⟨h1, h2⟩ := (Bool.and_eq_true _ _).mp h
    refine ⟨am_inp_mem h1, fun q hq hf => ?_⟩
    unfold am_fin at h2
    rw [hq] at h2
    simp only [hf, Bool.not_true, Bool.false_or, Bool.and_eq_true] at h2
    exact ⟨of_decide_eq_true h2.1, of_decide_eq_true h2.2⟩
  case goto o => exact of_decide_eq_true (p := (pc : Int) + o = (r.2.1 : Int)) h
  case ifCond c o => exact of_decide_eq_true (p := (pc : Int) + o = (r.2.1 : Int)) h
  case if_icmp c o => exact of_decide_eq_true (p := (pc : Int) + o = (r.2.1 : Int)) h
  case ifnull o => exact of_decide_eq_true (p := (pc : Int) + o = (r.2.1 : Int)) h
  case tableswitch a b c d =>
    obtain ⟨h1, h2⟩ := (Bool.and_eq_true _ _).mp h
    exact ⟨of_decide_eq_true h1, fun o ho => of_decide_eq_true (List.all_eq_true.mp h2 o ho)⟩
  case ireturn => exact of_decide_eq_true (p := am_RT am_t m = some (am_rty r.2.1)) h
  case lreturn => exact of_decide_eq_true (p := am_RT am_t m = some .long) h
  case areturn =>
    dsimp only [am_grB] at h
    split at h
    · rename_i n hn
      exact ⟨n, hn⟩
    · cases h
  case return_ => exact of_decide_eq_true (p := am_RT am_t m = none) h
  all_goals trivial
def am_chkL (m oc ml : Nat) (b : ByteArray) : List am_I → Bool
  | [] => true
  | e :: k => am_decB b e.1 e.2.1 && (am_grB m oc ml e.1 e.2.1 e.2.2 && ((match k with
    | [] => true
    | e2 :: _ => Nat.beq (am_len e.2.1) 0 || Nat.beq e2.1 (e.1 + am_len e.2.1)) && am_chkL m oc ml b k))
theorem am_chkL_ok {m : Nat} : ∀ (l : List am_I), am_chkL m (am_t.2.2.1 m) (am_ML am_t m) (am_B am_t m) l = true → ∀ (e : am_I) (k : List am_I), e :: k <:+ l → am_dec (am_B am_t m) e.1 e.2.1 ∧ am_GR am_t m e.1 e.2.1 e.2.2 ∧ (k ≠ [] → am_len e.2.1 ≠ 0 → am_pc k = e.1 + am_len e.2.1) := by
  intro l
  induction l with
  | nil => intro _ e k hs; exact absurd (List.suffix_nil.mp hs) (by simp)
  | cons x t ih =>
    intro h e k hs
    simp only [am_chkL, Bool.and_eq_true] at h
    obtain ⟨h1, h2, h3, h4⟩ := h
    rcases List.suffix_cons_iff.mp hs with hs | hs
    · injection hs with a1 a2
      subst a1 a2
      refine ⟨am_decB_dec h1, am_grB_GR h2, fun hk hz => ?_⟩
      cases k with
      | nil => exact absurd rfl hk
      | cons y z =>
        rcases (Bool.or_eq_true _ _).mp h3 with h3 | h3
        · exact absurd (Nat.eq_of_beq_eq_true h3) hz
        · exact Nat.eq_of_beq_eq_true h3
    · exact ih h4 e k hs
def am_chk (m : Nat) : Bool := am_chkL m (am_t.2.2.1 m) (am_ML am_t m) (am_B am_t m) (am_P am_t m) && (Nat.beq (am_pc (am_P am_t m)) 0 && decide ((am_Y am_t m).cls = am_O am_t m))
def am_chks (a n : Nat) : Bool := (List.range' a n).all am_chk
theorem am_chks_of {a n m : Nat} (h : am_chks a n = true) (h1 : a ≤ m) (h2 : m < a + n) : am_chk m = true := List.all_eq_true.mp h m (List.mem_range'_1.mpr ⟨h1, h2⟩)
