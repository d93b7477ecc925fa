/-! Words of the printed stretches. -/
theorem am_w_at (μ : am_M) (c i : Nat) (v : Int32) : am_w μ c i v c = upd (μ c) i v := am_row_at _ _ _
theorem am_w_ne {μ : am_M} {c c' i : Nat} {v : Int32} (h : c' ≠ c) : am_w μ c i v c' = μ c' := am_row_ne h
def am_inl (l : List Nat) (m : Nat) : Bool := l.any (fun x => Nat.beq x m)
def am_stpL : List (Nat × List Bool) → Nat → Option (List Bool)
  | [], _ => none
  | (p, ms) :: t, pc => bif Nat.beq p pc then some ms else am_stpL t pc
def am_stops (m0 : Nat) (l : List (Nat × List Bool)) (m pc : Nat) : Option (List Bool) := bif Nat.beq m m0 then am_stpL l pc else none
