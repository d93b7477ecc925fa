/-! Rings: all of them, in their order. -/
variable {nb : Nat}
def an_ms1 (m b : Nat) : Nat := if m / 2 ^ b % 2 = 1 then m else m + 2 ^ b
/-- the banks met by the first i figures -/
def an_msk : Nat → Nat → Nat
  | 0, _ => 0
  | i + 1, c => an_ms1 (an_msk i (c / 4)) (c % 4)
/-- whether they are unlike ones -/
def an_dst : Nat → Nat → Bool
  | 0, _ => true
  | i + 1, c => an_dst i (c / 4) && !(Nat.beq (an_msk i (c / 4) / 2 ^ (c % 4) % 2) 1)
theorem an_ms1_e : ∀ m, m < 16 → ∀ b, b < 4 → nI m ||| (nI 1 <<< (nI b &&& 31)) = nI (an_ms1 m b) ∧ an_ms1 m b < 16 ∧ (nI m >>> (nI b &&& 31)) &&& nI 1 = nI (m / 2 ^ b % 2) := by decide +kernel
theorem an_msk_16 : ∀ i c, an_msk i c < 16 := by
  intro i
  induction i with
  | zero => intro c; exact (by decide : 0 < 16)
  | succ i ih => intro c; exact (an_ms1_e _ (ih _) _ (Nat.mod_lt _ (by omega))).2.1
theorem an_msk_pop : ∀ k, k < 5 → ∀ c, c < 256 → (an_pop (an_msk k c) = k ↔ an_dst k c = true) := by decide +kernel
theorem an_bo_p {i c b j : Nat} (hb : b < 4) (hj : j < i) : an_bo (i + 1) (4 * c + b) j = an_bo i c j := by
  unfold an_bo
  rw [show 2 * (i + 1 - 1 - j) = 2 * (i - 1 - j) + 2 by omega, Nat.pow_add, Nat.mul_comm (2 ^ (2 * (i - 1 - j))) (2 ^ 2), ← Nat.div_div_eq_div_mul, show (4 * c + b) / 2 ^ 2 = c by omega]
theorem an_bo_q {i c b : Nat} (hb : b < 4) : an_bo (i + 1) (4 * c + b) i = b := by
  unfold an_bo
  rw [show 2 * (i + 1 - 1 - i) = 0 by omega, Nat.pow_zero, Nat.div_one]
  omega
theorem an_msk_n {i c b : Nat} (hb : b < 4) : an_msk (i + 1) (4 * c + b) = an_ms1 (an_msk i c) b := by
  rw [an_msk, show (4 * c + b) / 4 = c by omega, show (4 * c + b) % 4 = b by omega]
theorem an_dst_n {i c b : Nat} (hb : b < 4) : an_dst (i + 1) (4 * c + b) = (an_dst i c && !(Nat.beq (an_msk i c / 2 ^ b % 2) 1)) := by
  rw [an_dst, show (4 * c + b) / 4 = c by omega, show (4 * c + b) % 4 = b by omega]
theorem an_dst_pre {i : Nat} : ∀ (m x : Nat), an_dst (i + m) x = true → an_dst i (x / 4 ^ m) = true := by
  intro m
  induction m with
  | zero => intro x h; rw [Nat.pow_zero, Nat.div_one]; exact h
  | succ m ih =>
    intro x h
    rw [← Nat.add_assoc, an_dst, Bool.and_eq_true] at h
    have := ih (x / 4) h.1
    rw [Nat.div_div_eq_div_mul, show 4 * 4 ^ m = 4 ^ (m + 1) by rw [Nat.pow_succ]; omega] at this
    exact this
/-- what a ring holds up: its first j cheques -/
def an_rsum (U : Nat → Nat → Nat) (k c : Nat) : Nat → Nat
  | 0 => 0
  | j + 1 => an_rsum U k c j + U (an_bo k c j) (an_bo k c ((j + 1) % k))
/-- its first j figures, as a number -/
def an_rnum (k c : Nat) : Nat → Nat
  | 0 => 0
  | j + 1 => an_rnum k c j * 10 + an_bo k c j
theorem an_rsum_le {U : Nat → Nat → Nat} {k c : Nat} (hU : ∀ a b, a < 4 → b < 4 → U a b < 2000000) : ∀ j, an_rsum U k c j ≤ 2000000 * j := by
  intro j
  induction j with
  | zero => exact Nat.le_refl _
  | succ j ih =>
    have := hU _ _ (an_bo_lt (n := k) (way := c) (i := j)) (an_bo_lt (n := k) (way := c) (i := (j + 1) % k))
    rw [an_rsum]
    omega
def an_rsp (U : Nat → Nat → Nat) (k : Nat) (o : Option (Nat × Nat)) (c : Nat) : Option (Nat × Nat) := match an_dst k c with
  | false => o
  | true => match o with
    | none => some (an_rsum U k c k, c)
    | some p => if p.1 < an_rsum U k c k then some (an_rsum U k c k, c) else some p
/-- the best of n rings, from the code c on -/
def an_rfd (U : Nat → Nat → Nat) (k : Nat) : Nat → Nat → Option (Nat × Nat) → Option (Nat × Nat)
  | 0, _, o => o
  | n + 1, c, o => an_rfd U k n (c + 1) (an_rsp U k o c)
theorem an_rfd_add {U : Nat → Nat → Nat} {k : Nat} : ∀ (m n c : Nat) (o : Option (Nat × Nat)), an_rfd U k (m + n) c o = an_rfd U k n (c + m) (an_rfd U k m c o) := by
  intro m
  induction m with
  | zero => intro n c o; rw [Nat.zero_add]; rfl
  | succ m ih =>
    intro n c o
    rw [show m + 1 + n = m + n + 1 by omega, an_rfd, ih, an_rfd, show c + 1 + m = c + (m + 1) by omega]
theorem an_rfd_id {U : Nat → Nat → Nat} {k : Nat} : ∀ (n c : Nat) (o : Option (Nat × Nat)), (∀ x, c ≤ x → x < c + n → an_dst k x = false) → an_rfd U k n c o = o := by
  intro n
  induction n with
  | zero => intro c o _; rfl
  | succ n ih =>
    intro c o h
    rw [an_rfd, ih _ _ (fun x h1 h2 => h x (by omega) (by omega))]
    unfold an_rsp
    rw [h c (by omega) (by omega)]
theorem an_rsp_some {U : Nat → Nat → Nat} {k c : Nat} {o : Option (Nat × Nat)} (h : o ≠ none ∨ an_dst k c = true) : an_rsp U k o c ≠ none := by
  unfold an_rsp
  cases hd : an_dst k c with
  | false =>
    rw [hd] at h
    rcases h with h | h
    · exact h
    · cases h
  | true =>
    cases o with
    | none => simp
    | some p =>
      dsimp only
      split <;> simp
theorem an_rfd_some {U : Nat → Nat → Nat} {k : Nat} : ∀ (n c : Nat) (o : Option (Nat × Nat)), (o ≠ none ∨ ∃ x, c ≤ x ∧ x < c + n ∧ an_dst k x = true) → an_rfd U k n c o ≠ none := by
  intro n
  induction n with
  | zero =>
    intro c o h
    rcases h with h | ⟨x, h1, h2, _⟩
    · exact h
    · omega
  | succ n ih =>
    intro c o h
    rw [an_rfd]
    refine ih _ _ ?_
    rcases h with h | ⟨x, h1, h2, h3⟩
    · exact Or.inl (an_rsp_some (Or.inl h))
    · by_cases q : x = c
      · subst q; exact Or.inl (an_rsp_some (Or.inr h3))
      · exact Or.inr ⟨x, by omega, by omega, h3⟩
theorem an_4k : ∀ k, k < 5 → 4 ^ k ≤ 256 := by decide
theorem s_unfold {L d : Nat} {μ : am_M} {F : Int32 → am_M → Prop} {k c : Nat} (hd : 2 ≤ d) (hk1 : 2 ≤ k) (hk : k ≤ 4) (hc : c < 4 ^ k)
    (hF : ∀ μ', an_un [135] μ μ' → (∀ i, i < k → μ' 135 i = nI (an_bo k c i)) → F (an_b (an_dst k c)) μ') : am_Ci L d 59 [.ref 133, .int (nI c), .int (nI k)] μ F := by
  have h4 := an_4k k (by omega)
  have loop : ∀ (m i : Nat) (μ1 : am_M), i + m = k → an_un [135] μ μ1 → (∀ j, j < i → μ1 135 j = nI (an_bo k c j)) → am_Ji L d 59 5 [some (.ref 133), some (.int (nI c)), some (.int (nI k)), some (.int (nI (an_msk i (c / 4 ^ (k - i))))), some (.int (nI i))] [] μ1 F := by
    intro m
    induction m with
    | zero =>
      intro i μ1 hi u1 k1
      obtain rfl : i = k := by omega
      refine v_Rings_unfold_5 ?_
      rw [if_pos (nI_le (Nat.le_refl _) (by omega)), Nat.sub_self, Nat.pow_zero, Nat.div_one]
      have m16 := an_msk_16 i c
      refine ⟨by omega, s_bitCount (by omega) ?_⟩
      have pp := an_msk_pop i (by omega) c (by omega)
      have h := hF μ1 u1 k1
      have p6 := (an_pop0 (an_msk i c) (by omega)).2
      cases hd : an_dst i c with
      | true =>
        rw [hd] at h
        rw [pp.mpr hd, if_neg (fun z => z rfl)]
        exact h
      | false =>
        rw [hd] at h
        rw [if_pos (fun z => by rw [pp.mp ((nI_eq (by omega) (by omega)).mp z)] at hd; cases hd)]
        exact h
    | succ m ih =>
      intro i μ1 hi u1 k1
      refine v_Rings_unfold_5 ?_
      have hb := an_bo_lt (n := k) (way := c) (i := i)
      have em : c / 4 ^ (k - (i + 1)) = 4 * (c / 4 ^ (k - i)) + an_bo k c i := by
        unfold an_bo
        rw [show k - i = k - (i + 1) + 1 by omega, Nat.pow_succ, ← Nat.div_div_eq_div_mul, Nat.pow_mul, show k - 1 - i = k - (i + 1) by omega, show (2 ^ 2 : Nat) = 4 from rfl]
        omega
      obtain ⟨o1, o2, _⟩ := an_ms1_e _ (an_msk_16 i (c / 4 ^ (k - i))) _ hb
      rw [if_neg (nI_ge (by omega) (by omega)), am_gd_in (by omega) (by omega), an_bo_e (by omega) (by omega) (by omega), am_cl (by omega)]
      intro μ3 e3
      rw [am_gd_in (by omega) (by omega), an_w_s e3, o1, nI_add, ← an_msk_n hb, ← em]
      refine ih (i + 1) μ3 (by omega) (an_un_tr u1 (e3 ▸ an_un_w (by simp)) (fun _ z => z) (fun _ z => z)) (fun j hj => ?_)
      by_cases z : j = i
      · rw [z, an_w_s e3]
      · rw [an_w_o e3 z]; exact k1 j (by omega)
  refine v_Rings_unfold ?_
  exact loop k 0 μ (by omega) an_un_rf (fun j hj => absurd hj (by omega))
/-- the class's best ring so far -/
def an_rx (k : Nat) (o : Option (Nat × Nat)) (μ : am_M) : Prop := (o = none ∧ μ 133 2 = - nI 1) ∨ ∃ v c, o = some (v, c) ∧ v < 10000000 ∧ μ 133 2 = nI v ∧ μ 133 3 = nI (an_rnum k c k)
theorem s_Rings_search {L d : Nat} {μ : am_M} {F : am_M → Prop} {k : Nat} {U : Nat → Nat → Nat} (hd : 4 ≤ d) (hk1 : 2 ≤ k) (hk : k ≤ 4) (hU : ∀ a b, a < 4 → b < 4 → U a b < 2000000) (hm : ∀ a b, a < 4 → b < 4 → μ 134 (a * 4 + b) = nI (U a b))
    (hF : ∀ μ', an_un [133, 135] μ μ' → an_rx k (an_rfd U k (4 ^ k) 0 none) μ' → F μ') : am_Cv L d 58 [.ref 133, .int (nI k)] μ F := by
  have h4 := an_4k k (by omega)
  have inner : ∀ (m i c : Nat) (μ1 : am_M), i + m = k → c < 4 ^ k → an_un [133, 135] μ μ1 → (∀ i, i < k → μ1 135 i = nI (an_bo k c i)) → (∀ μ2, an_un [133, 135] μ μ2 → (if nI (an_rsum U k c k) ≤ μ1 133 2 then μ2 = μ1 else μ2 133 2 = nI (an_rsum U k c k) ∧ μ2 133 3 = nI (an_rnum k c k)) → am_Jv L d 58 29 [some (.ref 133), some (.int (nI k)), some (.int (nI (4 ^ k))), some (.int (nI (c + 1))), none, none, none] [] μ2 F) → am_Jv L d 58 52 [some (.ref 133), some (.int (nI k)), some (.int (nI (4 ^ k))), some (.int (nI c)), some (.int (nI (an_rsum U k c i))), some (.int (nI (an_rnum k c i))), some (.int (nI i))] [] μ1 F := by
    intro m
    induction m with
    | zero =>
      intro i c μ1 hi hc u1 k1 hx
      obtain rfl : i = k := by omega
      refine v_Rings_search_52 ?_
      rw [if_pos (nI_le (Nat.le_refl _) (by omega)), nI_add]
      by_cases q : nI (an_rsum U i c i) ≤ μ1 133 2
      · rw [if_pos q]
        exact hx μ1 u1 (by rw [if_pos q])
      · rw [if_neg q]
        intro μ2 e2 μ3 e3
        refine hx μ3 (an_un_tr u1 (an_un_tr (e2 ▸ an_un_w (l := [133, 135]) (by simp)) (e3 ▸ an_un_w (l := [133, 135]) (by simp)) (fun _ z => z) (fun _ z => z)) (fun _ z => z) (fun _ z => z)) ?_
        rw [if_neg q]
        exact ⟨by rw [an_w_o e3 (by decide), an_w_s e2], an_w_s e3⟩
    | succ m ih =>
      intro i c μ1 hi hc u1 k1 hx
      refine v_Rings_search_52 ?_
      have hb1 := an_bo_lt (n := k) (way := c) (i := i)
      have hb2 := an_bo_lt (n := k) (way := c) (i := (i + 1) % k)
      have hml : (i + 1) % k < k := Nat.mod_lt _ (by omega)
      rw [if_neg (nI_ge (by omega) (by omega)), am_gd_in (by omega) (by omega), an_gdz (by omega) (by omega), nI_add, an_rem (by omega) (by omega) (by omega), am_gd_in (by omega) (by omega), am_cl (by omega), am_cl (by omega), k1 i (by omega), k1 _ hml, pk_mul, nI_add, am_gd_in (by omega) (by omega), am_gd_in (by omega) (by omega), am_cl (by omega), u1 134 (by decide), hm _ _ hb1 hb2, nI_add, pk_mul, nI_add]
      exact ih (i + 1) c μ1 (by omega) hc u1 k1 hx
  have outer : ∀ (m c : Nat) (μ1 : am_M), c + m = 4 ^ k → an_un [133, 135] μ μ1 → an_rx k (an_rfd U k c 0 none) μ1 → am_Jv L d 58 29 [some (.ref 133), some (.int (nI k)), some (.int (nI (4 ^ k))), some (.int (nI c)), none, none, none] [] μ1 F := by
    intro m
    induction m with
    | zero =>
      intro c μ1 hc u1 x1
      obtain rfl : c = 4 ^ k := by omega
      refine v_Rings_search_29 ?_
      rw [if_pos (nI_le (Nat.le_refl _) (by omega))]
      exact hF μ1 u1 x1
    | succ m ih =>
      intro c μ1 hc u1 x1
      refine v_Rings_search_29 ?_
      rw [if_neg (nI_ge (by omega) (by omega))]
      refine ⟨by omega, s_unfold (by omega) hk1 hk (by omega) (fun μ2 u2 k2 => ?_)⟩
      have u2' : an_un [133, 135] μ μ2 := an_un_tr u1 u2 (fun _ z => z) (by simp)
      have es : an_rfd U k (c + 1) 0 none = an_rsp U k (an_rfd U k c 0 none) c := by
        rw [an_rfd_add c 1 0 none, Nat.zero_add]
        rfl
      rw [an_bf]
      cases hd : an_dst k c with
      | false =>
        dsimp only
        rw [nI_add]
        refine ih (c + 1) μ2 (by omega) u2' ?_
        rw [es]
        unfold an_rsp
        rw [hd]
        unfold an_rx at x1 ⊢
        rw [u2 133 (by decide)]
        exact x1
      | true =>
        dsimp only
        refine inner k 0 c μ2 (by omega) (by omega) u2' k2 (fun μ3 u3 z3 => ?_)
        refine ih (c + 1) μ3 (by omega) u3 ?_
        rw [es]
        have l8 := an_rsum_le (k := k) (c := c) hU k
        unfold an_rsp
        rw [hd]
        rw [u2 133 (by decide)] at z3
        rcases x1 with ⟨n1, n2⟩ | ⟨v, c', s1, s2, s3, s4⟩
        · rw [n1]
          dsimp only
          rw [n2, if_neg (fun z => absurd (Int32.lt_of_le_of_lt z (by decide : - nI 1 < 0)) (nI_pos (by omega)))] at z3
          exact Or.inr ⟨_, _, rfl, by omega, z3.1, z3.2⟩
        · rw [s1]
          dsimp only
          rw [s3] at z3
          by_cases q : v < an_rsum U k c k
          · rw [if_pos q]
            rw [if_neg (nI_ge q (by omega))] at z3
            exact Or.inr ⟨_, _, rfl, by omega, z3.1, z3.2⟩
          · rw [if_neg q]
            rw [if_pos (nI_le (by omega) (by omega))] at z3
            subst z3
            exact Or.inr ⟨v, c', rfl, s2, by rw [u2 133 (by decide)]; exact s3, by rw [u2 133 (by decide)]; exact s4⟩
  obtain ⟨e4, l4⟩ := an_4p k (by omega)
  refine v_Rings_search ?_
  intro μ1 e1 μ2 e2
  rw [if_neg (nI_nlt (by omega) (by omega)), if_pos (nI_le (by omega) (by omega)), e4]
  exact outer (4 ^ k) 0 μ2 (by omega) (an_un_tr (e1 ▸ an_un_w (l := [133, 135]) (by simp)) (e2 ▸ an_un_w (l := [133, 135]) (by simp)) (fun _ z => z) (fun _ z => z)) (Or.inl ⟨rfl, by rw [an_w_o e2 (by decide), an_w_s e1]⟩)
