/-! Numbers, and small rows for reading what a stretch asks. -/
theorem am_gd_t {A : Prop} : am_gd true A = A := rfl
theorem am_inb_nI {i n : Nat} (h : i < n) (h2 : n ≤ 2147483648) : am_inb (nI i) n = true := by
  have h3 : i < 2 ^ 31 := by omega
  unfold am_inb
  rw [nI_clamp h3]
  simp [nI_pos h3, am_blt.mpr h]
theorem am_gd_in {i n : Nat} {A : Prop} (h : i < n) (h2 : n ≤ 2147483648) : am_gd (am_inb (nI i) n) A = A := by rw [am_inb_nI h h2]; rfl
theorem am_dp {d : Nat} {A : Prop} (h : 0 < d) : (0 < d ∧ A) = A := by simp [h]
theorem am_cl {n : Nat} (h : n < 2147483648) : (nI n).toNatClampNeg = n := nI_clamp h
theorem am_le' {a b : Nat} (ha : a < 2147483648) (hb : b < 2147483648) : (nI a ≤ nI b) = (a ≤ b) := propext (nI_leI ha hb)
theorem am_lt' {a b : Nat} (ha : a < 2147483648) (hb : b < 2147483648) : (nI a < nI b) = (a < b) := propext (nI_ltI ha hb)
theorem am_eq' {a b : Nat} (ha : a < 2147483648) (hb : b < 2147483648) : (nI a = nI b) = (a = b) := propext (nI_eq ha hb)
theorem am_z : nI 0 = 0 := nI_0
theorem am_addz (x : Int32) : x + nI 0 = x := by rw [nI_0]; simp
theorem am_down {P : Nat → Prop} {N : Nat} (h0 : P N) (hs : ∀ j, j < N → P (j + 1) → P j) : ∀ j, j ≤ N → P j := by
  intro j hj
  obtain ⟨k, rfl⟩ := Nat.exists_eq_add_of_le hj
  clear hj
  induction k generalizing j with
  | zero => exact h0
  | succ k ih => exact hs j (by omega) (ih (j + 1) (by rw [show j + 1 + k = j + (k + 1) by omega]; exact h0) (fun i hi => hs i (by omega)))
/-- the sum of the first n -/
def am_sum (f : Nat → Int32) : Nat → Int32
  | 0 => nI 0
  | n + 1 => am_sum f n + f n
theorem am_sum_congr {f g : Nat → Int32} : ∀ n, (∀ k, k < n → f k = g k) → am_sum f n = am_sum g n := by
  intro n
  induction n with
  | zero => intro _; rfl
  | succ n ih => intro h; rw [am_sum, am_sum, ih (fun k hk => h k (by omega)), h n (by omega)]
