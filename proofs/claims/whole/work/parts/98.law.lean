/-- the law's loop, from its head (open) -/
theorem am_law {L : Nat} {xs : Nat → Int32} (hL : L ≤ 3072) : am_Ji (L + 1) 60 0 18 [some (.ref 3000), some (.ref 0), some (.ref 140), some (.int (nI 0))] [] (am_m0 xs) (fun x _ => x = 1) := sorry
