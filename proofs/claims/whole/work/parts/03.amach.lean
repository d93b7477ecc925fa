/-! A small machine of my own: shapes of cells, an int memory, code lists with their pool resolved. -/
abbrev am_R : Type := Nat × Nat × Nat × Nat
abbrev am_I : Type := Nat × Instr × am_R
abbrev am_Sh : Type := List (Nat × List Value)
abbrev am_M : Type := Nat → Nat → Int32
abbrev am_L : Type := List (Option Value)
/-- an int constant: (_, size, sign, _) -/
def am_k (r : am_R) : Int32 := match r.2.2.1 with
  | 0 => nI r.2.1
  | _ => - nI r.2.1
def am_row (μ : am_M) (c : Nat) (f : Nat → Int32) : am_M := fun c' => if c' = c then f else μ c'
def am_get (ls : am_L) (i : Nat) : Option Value := match ls[i]? with
  | some (some v) => some v
  | _ => none
def am_cat2 (o : Option (Option Value)) : Bool := match o with
  | some (some v) => Nat.beq v.category 2
  | _ => false
def am_clr (ls : am_L) (i : Nat) : am_L := match i with
  | 0 => ls
  | j + 1 => match am_cat2 ls[j]? with
    | true => ls.set j none
    | false => ls
def am_set (ls : am_L) (i : Nat) (v : Value) : am_L := (am_clr ls i).set i (some v)
def am_set2 (ls : am_L) (i : Nat) (v : Value) : am_L := ((am_clr ls i).set i (some v)).set (i + 1) none
def am_ldI (ls : am_L) (j : Nat) (st : List Value) : Option (am_L × List Value) := match am_get ls j with
  | some (.int x) => some (ls, .int x :: st)
  | _ => none
def am_ldL (ls : am_L) (j : Nat) (st : List Value) : Option (am_L × List Value) := match am_get ls j with
  | some (.long x) => some (ls, .long x :: st)
  | _ => none
def am_ldA (ls : am_L) (j : Nat) (st : List Value) : Option (am_L × List Value) := match am_get ls j with
  | some (.ref x) => some (ls, .ref x :: st)
  | some .null => some (ls, .null :: st)
  | _ => none
def am_stI (ls : am_L) (j : Nat) (st : List Value) : Option (am_L × List Value) := match st with
  | .int x :: t => some (am_set ls j (.int x), t)
  | _ => none
def am_stL (ls : am_L) (j : Nat) (st : List Value) : Option (am_L × List Value) := match st with
  | .long x :: t => some (am_set2 ls j (.long x), t)
  | _ => none
def am_stA (ls : am_L) (j : Nat) (st : List Value) : Option (am_L × List Value) := match st with
  | .ref x :: t => some (am_set ls j (.ref x), t)
  | .null :: t => some (am_set ls j .null, t)
  | _ => none
def am_bin (f : Int32 → Int32 → Int32) (ls : am_L) (st : List Value) : Option (am_L × List Value) := match st with
  | .int y :: .int x :: t => some (ls, .int (f x y) :: t)
  | _ => none
def am_binL (f : Int64 → Int64 → Int64) (ls : am_L) (st : List Value) : Option (am_L × List Value) := match st with
  | .long y :: .long x :: t => some (ls, .long (f x y) :: t)
  | _ => none
def am_un (f : Int32 → Value) (ls : am_L) (st : List Value) : Option (am_L × List Value) := match st with
  | .int x :: t => some (ls, f x :: t)
  | _ => none
/-- strings: how many, their lengths, their bytes -/
def am_sN : Nat := 21
def am_sT : List String := ["hold", "limit", "fee", "when", "o\x72", "and", "not", "amount", "fa\x72", "rail", "house", "weekday", "book", "count", "cry", "turn", "round", "match", "low", "", ";+-*/()<=>"]
def am_sB : List (List Int32) := am_sT.map (fun s => s.toList.map (fun c => nI c.toNat))
def am_sL : List Nat := am_sB.map List.length
/-- the length of what arraylength is asked of; L is 0 where the script is out of sight, else one more than its length -/
def am_alen (L : Nat) (S : am_Sh) (c : Nat) : Option Nat := match S[c]? with
  | some (kd, vs) => bif Nat.ble 100 kd then some (kd - 100) else bif Nat.beq kd 98 then some vs.length else none
  | none => bif Nat.beq c 3000 && Nat.blt 0 L then some (L - 1) else bif Nat.ble 2000 c && Nat.blt c (2000 + am_sN) then some (am_sL.getD (c - 2000) 0) else none
/-- the length of an int array that iaload is asked of -/
def am_ilen (L : Nat) (S : am_Sh) (c : Nat) : Option Nat := match S[c]? with
  | some (kd, _) => bif Nat.ble 100 kd then some (kd - 100) else none
  | none => bif Nat.beq c 3000 && Nat.blt 0 L then some (L - 1) else none
def am_getf (S : am_Sh) (r : am_R) (ls : am_L) (st : List Value) (μ : am_M) : Option (am_L × List Value) := match st with
  | .ref c :: t => match r.1 with
    | 0 => match S[c]? with
      | some (kd, vs) => bif Nat.beq kd r.2.1 then (match vs[r.2.2.1]? with
        | some (.int _) => some (ls, .int (μ c r.2.2.1) :: t)
        | some (.ref a) => some (ls, .ref a :: t)
        | some .null => some (ls, .null :: t)
        | _ => none) else none
      | none => none
    | 6 => bif Nat.ble 1000 c && Nat.blt c (1000 + am_sN) then (match r.2.1 with
      | 0 => some (ls, .ref (c + 1000) :: t)
      | _ => some (ls, .int 0 :: t)) else none
    | _ => none
  | _ => none
def am_pure (L : Nat) (S : am_Sh) (i : Instr) (r : am_R) (ls : am_L) (st : List Value) (μ : am_M) : Option (am_L × List Value) := match i with
  | .iconst _ => some (ls, .int (am_k r) :: st)
  | .bipush _ => some (ls, .int (am_k r) :: st)
  | .sipush _ => some (ls, .int (am_k r) :: st)
  | .ldc _ => (match r.1 with
    | 3 => some (ls, .int (am_k r) :: st)
    | 4 => some (ls, .ref (1000 + r.2.1) :: st)
    | _ => none)
  | .ldc_w _ => (match r.1 with
    | 3 => some (ls, .int (am_k r) :: st)
    | _ => none)
  | .ldc2_w _ => (match r.1 with
    | 5 => some (ls, .long (lN r.2.1) :: st)
    | _ => none)
  | .aconst_null => some (ls, .null :: st)
  | .iload j => am_ldI ls j st
  | .iload_n j => am_ldI ls j.val st
  | .lload j => am_ldL ls j st
  | .lload_n j => am_ldL ls j.val st
  | .aload j => am_ldA ls j st
  | .aload_n j => am_ldA ls j.val st
  | .istore j => am_stI ls j st
  | .istore_n j => am_stI ls j.val st
  | .lstore j => am_stL ls j st
  | .lstore_n j => am_stL ls j.val st
  | .astore j => am_stA ls j st
  | .astore_n j => am_stA ls j.val st
  | .iinc j _ => (match am_get ls j with
    | some (.int x) => some (am_set ls j (.int (x + am_k r)), st)
    | _ => none)
  | .iadd => am_bin (· + ·) ls st
  | .isub => am_bin (· - ·) ls st
  | .imul => am_bin (· * ·) ls st
  | .iand => am_bin (· &&& ·) ls st
  | .ior => am_bin (· ||| ·) ls st
  | .ixor => am_bin (· ^^^ ·) ls st
  | .ishl => am_bin (fun x y => x <<< (y &&& 31)) ls st
  | .ishr => am_bin (fun x y => x >>> (y &&& 31)) ls st
  | .iushr => am_bin (fun x y => (x.toUInt32 >>> (y.toUInt32 &&& Int32.toUInt32 31)).toInt32) ls st
  | .ladd => am_binL (· + ·) ls st
  | .lmul => am_binL (· * ·) ls st
  | .ineg => am_un (fun x => .int (-x)) ls st
  | .i2l => am_un (fun x => .long x.toInt64) ls st
  | .i2c => am_un (fun x => .int (x.toUInt32 % 65536).toInt32) ls st
  | .i2b => am_un (fun x => .int x.toInt8.toInt32) ls st
  | .l2i => (match st with
    | .long x :: t => some (ls, .int x.toInt32 :: t)
    | _ => none)
  | .lcmp => (match st with
    | .long y :: .long x :: t => some (ls, .int (lg_cmp x y) :: t)
    | _ => none)
  | .dup => (match st with
    | .int x :: t => some (ls, .int x :: .int x :: t)
    | .ref x :: t => some (ls, .ref x :: .ref x :: t)
    | _ => none)
  | .dup2 => (match st with
    | .int y :: .int x :: t => some (ls, .int y :: .int x :: .int y :: .int x :: t)
    | .int y :: .ref x :: t => some (ls, .int y :: .ref x :: .int y :: .ref x :: t)
    | _ => none)
  | .pop => (match st with
    | .int _ :: t => some (ls, t)
    | .ref _ :: t => some (ls, t)
    | _ => none)
  | .arraylength => (match st with
    | .ref c :: t => (match am_alen L S c with
      | some n => some (ls, .int (nI n) :: t)
      | none => none)
    | _ => none)
  | .getfield _ => am_getf S r ls st μ
  | .getstatic _ => (match r.1 with
    | 9 => (match r.2.1 with
      | 0 => some (ls, .int 1 :: st)
      | _ => some (ls, .retAddr 0 :: st))
    | _ => none)
  | _ => none
def am_inb (i : Int32) (n : Nat) : Bool := !(decide (i < 0)) && Nat.blt i.toNatClampNeg n
/-- the fields of a new object of a class: marks of its int places, null else -/
def am_def (ci : Nat) : List Value := match ci with
  | 0 => [.null, .null, .null, .null, .null, .int 0]
  | 1 => [.null, .int 0]
  | 2 => [.null, .null, .null, .null, .null, .null, .null, .null, .int 0, .int 0]
  | 3 => [.null, .null, .null, .null, .int 0, .int 0, .int 0, .int 0, .int 0]
  | 4 => [.null, .null, .int 0, .int 0]
  | 5 => [.null, .null, .null, .null, .null, .null, .int 0, .int 0]
  | 6 => [.null, .int 0]
  | 7 => [.null, .null]
  | 8 => [.null, .null, .int 0, .int 0, .int 0, .int 0]
  | 9 => [.null, .null, .null, .null, .null, .null, .null, .int 0, .int 0]
  | 10 => [.null, .null, .null, .null, .null, .null, .null, .null, .null, .int 0, .int 0, .int 0, .int 0, .int 0, .int 0]
  | 11 => [.null, .null, .null, .int 0, .null, .null, .null, .null, .null, .int 0, .int 0, .int 0, .int 0, .int 0, .int 0, .int 0, .int 0, .int 0, .int 0, .int 0, .int 0, .int 0, .null, .int 0, .null, .null, .int 0, .int 0, .int 0, .int 0, .null]
  | _ => []

def am_eff (L : Nat) (d : Nat) (S : am_Sh) (i : Instr) (r : am_R) (st : List Value) (μ : am_M) : Option (Bool × List Value × am_Sh × am_M) := match i with
  | .iaload => (match st with
    | .int i :: .ref c :: t => (match am_ilen L S c with
      | some n => some (am_inb i n, .int (μ c i.toNatClampNeg) :: t, S, μ)
      | none => none)
    | _ => none)
  | .baload => (match st with
    | .int i :: .ref c :: t => bif Nat.ble 2000 c && Nat.blt c (2000 + am_sN) then some (am_inb i (am_sL.getD (c - 2000) 0), .int ((am_sB.getD (c - 2000) []).getD i.toNatClampNeg 0) :: t, S, μ) else none
    | _ => none)
  | .aaload => (match st with
    | .int i :: .ref c :: t => (match S[c]? with
      | some (kd, vs) => bif Nat.beq kd 98 then (match vs[i.toNatClampNeg]? with
        | some (.ref a) => some (am_inb i vs.length, .ref a :: t, S, μ)
        | _ => none) else none
      | none => none)
    | _ => none)
  | .iastore => (match st with
    | .int x :: .int i :: .ref c :: t => (match S[c]? with
      | some (kd, _) => bif Nat.ble 100 kd then some (am_inb i (kd - 100), t, S, am_row μ c (upd (μ c) i.toNatClampNeg x)) else none
      | none => none)
    | _ => none)
  | .aastore => (match st with
    | .ref v :: .int i :: .ref c :: t => (match S[c]?, S[v]? with
      | some (kd, vs), some (5, _) => bif Nat.beq kd 98 then some (am_inb i vs.length, t, S.set c (98, vs.set i.toNatClampNeg (.ref v)), μ) else none
      | _, _ => none)
    | _ => none)
  | .putfield _ => (match st with
    | v :: .ref c :: t => (match r.1, S[c]? with
      | 0, some (kd, vs) => bif Nat.beq kd r.2.1 then (match vs[r.2.2.1]?, v with
        | some (.int _), .int x => some (Nat.beq r.2.2.2 0 || (Nat.beq r.2.2.2 1 && (decide (x = 0) || decide (x = 1))), t, S, am_row μ c (upd (μ c) r.2.2.1 x))
        | some .null, .ref a => some (Nat.beq r.2.2.2 2, t, S.set c (kd, vs.set r.2.2.1 (.ref a)), μ)
        | some .null, .null => some (Nat.beq r.2.2.2 2, t, S.set c (kd, vs.set r.2.2.1 .null), μ)
        | _, _ => none) else none
      | _, _ => none)
    | _ => none)
  | .idiv => (match st with
    | .int y :: .int x :: t => some (!(decide (y = 0)), .int (x / y) :: t, S, μ)
    | _ => none)
  | .irem => (match st with
    | .int y :: .int x :: t => some (!(decide (y = 0)), .int (x - x / y * y) :: t, S, μ)
    | _ => none)
  | .ldiv => (match st with
    | .long y :: .long x :: t => some (!(decide (y = 0)), .long (x / y) :: t, S, μ)
    | _ => none)
  | .invokestatic _ => (match r.1, st with
    | 7, .int n :: .int dp :: .ref c1 :: .int sp :: .ref c0 :: t => (match S[c0]?, S[c1]? with
      | some (k0, _), some (k1, _) => bif Nat.ble 100 k0 && Nat.ble 100 k1 then
          some (Nat.blt 0 d && Nat.ble (t.map Value.category).sum 8 && (!(decide (sp < 0)) && (!(decide (dp < 0)) && (!(decide (n < 0)) && (Nat.ble (sp.toNatClampNeg + n.toNatClampNeg) (k0 - 100) && Nat.ble (dp.toNatClampNeg + n.toNatClampNeg) (k1 - 100))))), t, S, am_row μ c1 (va_cpy (μ c0) (μ c1) sp.toNatClampNeg dp.toNatClampNeg n.toNatClampNeg)) else none
      | _, _ => none)
    | 11, .int y :: .int x :: t => some (Nat.blt 0 d && Nat.ble (t.map Value.category).sum 8, .int (if x < y then y else x) :: t, S, μ)
    | 12, .int y :: .int x :: t => some (Nat.blt 0 d && Nat.ble (t.map Value.category).sum 8, .int (if y < x then y else x) :: t, S, μ)
    | 13, .int x :: t => some (Nat.blt 0 d && Nat.ble (t.map Value.category).sum 8, .int (if 0 ≤ x then x else 0 - x) :: t, S, μ)
    | 14, .long y :: .long x :: t => some (Nat.blt 0 d && Nat.ble (t.map Value.category).sum 8, .long (if y < x then y else x) :: t, S, μ)
    | _, _ => none)
  | .invokespecial _ => (match r.1, st with
    | 8, .ref _ :: t => some (Nat.blt 0 d && Nat.ble (t.map Value.category).sum 8, t, S, μ)
    | _, _ => none)
  | .new _ => (match r.1 with
    | 2 => some (Nat.blt S.length 900, .ref S.length :: st, S ++ [(r.2.1, am_def r.2.1)], am_row μ S.length (fun _ => 0))
    | _ => none)
  | .newarray .int => (match st with
    | .int n :: t => some (Nat.blt S.length 900 && !(decide (n < 0)) && Nat.ble n.toNatClampNeg 100000, .ref S.length :: t, S ++ [(100 + n.toNatClampNeg, [])], am_row μ S.length (fun _ => 0))
    | _ => none)
  | .anewarray _ => (match r.1, st with
    | 10, .int n :: t => some (Nat.blt S.length 900 && !(decide (n < 0)) && Nat.ble n.toNatClampNeg 100000, .ref S.length :: t, S ++ [(98, List.replicate n.toNatClampNeg .null)], μ)
    | _, _ => none)
  | _ => none
def am_cmp (c : ClassFile.Cond) (x y : Int32) : Bool := match c with
  | .eq => decide (x = y)
  | .ne => !(decide (x = y))
  | .lt => decide (x < y)
  | .ge => decide (y ≤ x)
  | .gt => decide (y < x)
  | .le => decide (x ≤ y)
def am_cmpP (c : ClassFile.Cond) (x y : Int32) : Prop := match c with
  | .eq => x = y
  | .ne => ¬ x = y
  | .lt => x < y
  | .ge => y ≤ x
  | .gt => y < x
  | .le => x ≤ y
/-- a jump: whether, whither, the stack -/
def am_jmp (i : Instr) (r : am_R) (pc : Nat) (st : List Value) : Option (Bool × Nat × List Value) := match i with
  | .goto _ => some (true, r.2.1, st)
  | .ifCond c _ => (match st with
    | .int x :: t => some (am_cmp c x 0, r.2.1, t)
    | _ => none)
  | .if_icmp c _ => (match st with
    | .int y :: .int x :: t => some (am_cmp c x y, r.2.1, t)
    | _ => none)
  | .ifnull _ => (match st with
    | .null :: t => some (true, r.2.1, t)
    | .ref _ :: t => some (false, r.2.1, t)
    | _ => none)
  | .tableswitch dflt lo hi offs => (match st with
    | .int x :: t => (match decide (x.toInt < lo) || decide (hi < x.toInt) with
      | true => some (true, ((pc : Int) + dflt).toNat, t)
      | false => (match offs[(x.toInt - lo).toNat]? with
        | some o => some (true, ((pc : Int) + o).toNat, t)
        | none => none))
    | _ => none)
  | _ => none
/-- what a value that is answered must keep to: 1 boolean, 2 byte, 3 char -/
def am_nar (t : Nat) (x : Int32) : Bool := match t with
  | 0 => true
  | 1 => decide (x = 0) || decide (x = 1)
  | 2 => decide (x.toInt8.toInt32 = x)
  | _ => decide (x.toUInt32.toUInt16.toUInt32.toInt32 = x)
def am_ret (i : Instr) (r : am_R) (st : List Value) : Option (Bool × Option Value) := match i with
  | .ireturn => (match st with
    | [.int x] => some (am_nar r.2.1 x, some (.int x))
    | _ => none)
  | .lreturn => (match st with
    | [.long x] => some (true, some (.long x))
    | _ => none)
  | .areturn => (match st with
    | [.ref a] => some (true, some (.ref a))
    | _ => none)
  | .return_ => (match st with
    | [] => some (true, none)
    | _ => none)
  | _ => none
/-- n values off the stack, the lowest first, and the rest -/
def am_pop : Nat → List Value → Option (List Value × List Value)
  | 0, st => some ([], st)
  | _ + 1, [] => none
  | n + 1, v :: st => match am_pop n st with
    | some (a, t) => some (a ++ [v], t)
    | none => none
/-- whether a cell is of a class (20: a string) -/
def am_isA (S : am_Sh) (c ci : Nat) : Bool := match S[c]? with
  | some (kd, _) => Nat.beq kd ci && Nat.blt ci 12
  | none => Nat.beq ci 20 && (Nat.ble 1000 c && Nat.blt c (1000 + am_sN))
/-- a call: the method, its arguments, the rest of the stack -/
def am_cal (S : am_Sh) (i : Instr) (r : am_R) (st : List Value) : Option (Nat × List Value × List Value) := match r.1 with
  | 1 => (match am_pop r.2.2.1 st with
    | some (a, t) => (match i with
      | .invokestatic _ => bif Nat.ble (t.map Value.category).sum 8 then some (r.2.1, a, t) else none
      | .invokevirtual _ => (match t with
        | .ref c :: t2 => bif am_isA S c r.2.2.2 && Nat.ble (t2.map Value.category).sum 8 then some (r.2.1, .ref c :: a, t2) else none
        | _ => none)
      | .invokespecial _ => (match t with
        | .ref c :: t2 => bif Nat.ble (t2.map Value.category).sum 8 then some (r.2.1, .ref c :: a, t2) else none
        | _ => none)
      | _ => none)
    | none => none)
  | _ => none
def am_ent : List Value → am_L
  | [] => []
  | v :: vs => bif Nat.beq v.category 2 then some v :: none :: am_ent vs else some v :: am_ent vs
/-- the locals at a method's entry -/
def am_loc (n : Nat) (vs : List Value) : am_L := am_ent vs ++ List.replicate (n - (am_ent vs).length) none
def am_at (k : List am_I) (t : Nat) : List am_I := k.dropWhile (fun e => !(Nat.beq e.1 t))
def am_okV (n : Nat) (v : Value) : Bool := match v with
  | .ref a => Nat.blt a n || Nat.ble 1000 a
  | _ => true
def am_okS (n : Nat) (st : List Value) : Bool := st.all (am_okV n)
def am_okL (n : Nat) (ls : am_L) : Bool := ls.all (fun o => match o with
  | some v => am_okV n v
  | none => true)
def am_okH (n : Nat) (S : am_Sh) : Bool := S.all (fun e => am_okS n e.2)
/-- no new cells; or no reference is loose -/
def am_gr (S S' : am_Sh) (ls : am_L) (st : List Value) : Bool := Nat.beq S'.length S.length || (am_okL S.length ls && (am_okS S.length st && am_okH S.length S))
def am_run (P : Nat → List am_I) (ML : Nat → Nat) (L : Nat) : Nat → Nat → Nat → List am_I → am_L → List Value → am_Sh → am_M → Option (Option Value × am_Sh × am_M)
  | 0, _, _, _, _, _, _, _ => none
  | _ + 1, _, _, [], _, _, _, _ => none
  | n + 1, d, m, (pc, i, r) :: k, ls, st, S, μ =>
    match am_pure L S i r ls st μ with
    | some (ls', st') => am_run P ML L n d m k ls' st' S μ
    | none => match am_eff L d S i r st μ with
      | some (g, st', S', μ') => (match g && am_gr S S' ls st with
        | true => am_run P ML L n d m k ls st' S' μ'
        | false => none)
      | none => match am_jmp i r pc st with
        | some (b, t, st') => (match b with
          | true => am_run P ML L n d m (am_at (P m) t) ls st' S μ
          | false => am_run P ML L n d m k ls st' S μ)
        | none => match am_ret i r st with
          | some (g, rv) => (match g with
            | true => some (rv, S, μ)
            | false => none)
          | none => match am_cal S i r st with
            | some (m', a, t) => (match d with
              | 0 => none
              | d' + 1 => match Nat.ble (am_ent a).length (ML m') with
                | false => none
                | true => match am_run P ML L n d' m' (P m') (am_loc (ML m') a) [] S μ with
                  | some (rv, S', μ') => (match am_gr S S' ls t with
                    | true => am_run P ML L n (d' + 1) m k ls (rv.toList ++ t) S' μ'
                    | false => none)
                  | none => none)
            | none => none
