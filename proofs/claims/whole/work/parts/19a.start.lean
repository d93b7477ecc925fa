/-! The world at the law's entry. -/
def am_tx : List Nat := [142, 144, 146, 148, 150, 152, 154, 156, 158, 160, 162, 164, 166, 168, 172, 174, 176, 178, 180, 170, 113]
def am_tm (i : Nat) : Term := .string RX3 (am_tx.getD i 0)
def am_fl : List Cond := flatC (Jvm.Cond.and given_1 narrow_1)
theorem am_fl1 : ∀ i, i < 21 → Cond.exactly (am_tm i) "java/lang/String" ∈ am_fl ∧ Cond.eq (.field (am_tm i) "java/lang/String" "coder" "B") (.int 0) ∈ am_fl ∧ Cond.arrayOf (.field (am_tm i) "java/lang/String" "value" "[B") .byte ∈ am_fl ∧ Cond.eq (.length (.field (am_tm i) "java/lang/String" "value" "[B")) (.int (Int32.ofNat (am_sL.getD i 0))) ∈ am_fl := by decide +kernel
theorem am_fl2 : ∀ i, i < 21 → ∀ j, j < am_sL.getD i 0 → Cond.eq (.elem (.field (am_tm i) "java/lang/String" "value" "[B") (.int (Int32.ofNat j))) (.int ((am_sB.getD i []).getD j 0)) ∈ am_fl := by decide +kernel
theorem am_fl3 : Cond.eq (.static "java/lang/String" "COMPACT_STRINGS" "Z") (.int 1) ∈ am_fl ∧ Cond.isRef (.static "jdk/internal/util/Preconditions" "SIOOBE_FORMATTER" "Ljava/util/function/BiFunction;") ∈ am_fl := by decide +kernel
theorem am_tl1 {w : Cond} (p : Nat) (h : tables_1_1[p]? = some w) : w ∈ lw_tbl := by
  refine List.mem_append_right _ ?_
  unfold tables_1
  have h := List.mem_of_getElem? h
  refine List.mem_append_left _ h
theorem am_tl2 {w : Cond} (p : Nat) (h : tables_1_2[p]? = some w) : w ∈ lw_tbl := by
  refine List.mem_append_right _ ?_
  unfold tables_1
  have h := List.mem_of_getElem? h
  refine List.mem_append_right _ (List.mem_append_left _ h)
theorem am_tl3 {w : Cond} (p : Nat) (h : tables_1_3[p]? = some w) : w ∈ lw_tbl := by
  refine List.mem_append_right _ ?_
  unfold tables_1
  have h := List.mem_of_getElem? h
  refine List.mem_append_right _ (List.mem_append_right _ (List.mem_append_left _ h))
theorem am_tl4 {w : Cond} (p : Nat) (h : tables_1_4[p]? = some w) : w ∈ lw_tbl := by
  refine List.mem_append_right _ ?_
  unfold tables_1
  have h := List.mem_of_getElem? h
  refine List.mem_append_right _ (List.mem_append_right _ (List.mem_append_right _ (List.mem_append_left _ h)))
theorem am_tl5 {w : Cond} (p : Nat) (h : tables_1_5[p]? = some w) : w ∈ lw_tbl := by
  refine List.mem_append_right _ ?_
  unfold tables_1
  have h := List.mem_of_getElem? h
  refine List.mem_append_right _ (List.mem_append_right _ (List.mem_append_right _ (List.mem_append_right _ (List.mem_append_left _ h))))
theorem am_tl6 {w : Cond} (p : Nat) (h : tables_1_6[p]? = some w) : w ∈ lw_tbl := by
  refine List.mem_append_right _ ?_
  unfold tables_1
  have h := List.mem_of_getElem? h
  refine List.mem_append_right _ (List.mem_append_right _ (List.mem_append_right _ (List.mem_append_right _ (List.mem_append_right _ (List.mem_append_left _ h)))))
theorem am_tl7 {w : Cond} (p : Nat) (h : tables_1_7[p]? = some w) : w ∈ lw_tbl := by
  refine List.mem_append_right _ ?_
  unfold tables_1
  have h := List.mem_of_getElem? h
  refine List.mem_append_right _ (List.mem_append_right _ (List.mem_append_right _ (List.mem_append_right _ (List.mem_append_right _ (List.mem_append_right _ (h))))))
theorem am_ac {α : Type} {P : α → Prop} {a : α} {l : List α} (h : P a) (hl : ∀ x ∈ l, P x) : ∀ x ∈ a :: l, P x := fun x hx => by
  rcases List.mem_cons.mp hx with rfl | hx
  · exact h
  · exact hl x hx
set_option maxRecDepth 20000 in
theorem am_sr : ∀ e ∈ am_sss, Cond.stringRef (am_cn e.1) e.2.1 (am_sT.getD e.2.2 "") ∈ lw_tbl := am_ac (am_tl3 40 (by decide +kernel)) (am_ac (am_tl2 211 (by decide +kernel)) (am_ac (am_tl2 212 (by decide +kernel)) (am_ac (am_tl2 213 (by decide +kernel)) (am_ac (am_tl2 196 (by decide +kernel)) (am_ac (am_tl2 197 (by decide +kernel)) (am_ac (am_tl2 198 (by decide +kernel)) (am_ac (am_tl2 199 (by decide +kernel)) (am_ac (am_tl2 214 (by decide +kernel)) (am_ac (am_tl2 206 (by decide +kernel)) (am_ac (am_tl2 215 (by decide +kernel)) (am_ac (am_tl2 216 (by decide +kernel)) (am_ac (am_tl2 217 (by decide +kernel)) (am_ac (am_tl2 204 (by decide +kernel)) (am_ac (am_tl2 201 (by decide +kernel)) (am_ac (am_tl2 207 (by decide +kernel)) (am_ac (am_tl2 195 (by decide +kernel)) (am_ac (am_tl2 200 (by decide +kernel)) (am_ac (am_tl2 202 (by decide +kernel)) (am_ac (am_tl2 203 (by decide +kernel)) (am_ac (am_tl2 205 (by decide +kernel)) (am_ac (am_tl6 47 (by decide +kernel)) (am_ac (am_tl6 48 (by decide +kernel)) (am_ac (am_tl6 49 (by decide +kernel)) (am_ac (am_tl6 50 (by decide +kernel)) (am_ac (am_tl6 51 (by decide +kernel)) (am_ac (am_tl6 52 (by decide +kernel)) (am_ac (am_tl6 53 (by decide +kernel)) (am_ac (am_tl6 58 (by decide +kernel)) (am_ac (am_tl6 59 (by decide +kernel)) (am_ac (am_tl6 60 (by decide +kernel)) (am_ac (am_tl6 61 (by decide +kernel)) (am_ac (am_tl6 62 (by decide +kernel)) (am_ac (am_tl6 30 (by decide +kernel)) (am_ac (am_tl6 37 (by decide +kernel)) (am_ac (am_tl6 38 (by decide +kernel)) (am_ac (am_tl6 39 (by decide +kernel)) (am_ac (am_tl6 40 (by decide +kernel)) (am_ac (am_tl6 41 (by decide +kernel)) (am_ac (am_tl6 42 (by decide +kernel)) (fun _ h => absurd h List.not_mem_nil))))))))))))))))))))))))))))))))))))))))
set_option maxRecDepth 20000 in
theorem am_se : ∀ e ∈ am_sss, (Term.string (am_cn e.1) e.2.1 = am_tm e.2.2) ∨ Cond.eq (am_tm e.2.2) (.string (am_cn e.1) e.2.1) ∈ am_fl := am_ac (Or.inl rfl) (am_ac (Or.inl rfl) (am_ac (Or.inl rfl) (am_ac (Or.inl rfl) (am_ac (Or.inl rfl) (am_ac (Or.inl rfl) (am_ac (Or.inl rfl) (am_ac (Or.inl rfl) (am_ac (Or.inl rfl) (am_ac (Or.inl rfl) (am_ac (Or.inl rfl) (am_ac (Or.inl rfl) (am_ac (Or.inl rfl) (am_ac (Or.inl rfl) (am_ac (Or.inl rfl) (am_ac (Or.inl rfl) (am_ac (Or.inl rfl) (am_ac (Or.inl rfl) (am_ac (Or.inl rfl) (am_ac (Or.inl rfl) (am_ac (Or.inl rfl) (am_ac (Or.inr (by decide +kernel)) (am_ac (Or.inr (by decide +kernel)) (am_ac (Or.inr (by decide +kernel)) (am_ac (Or.inr (by decide +kernel)) (am_ac (Or.inr (by decide +kernel)) (am_ac (Or.inr (by decide +kernel)) (am_ac (Or.inr (by decide +kernel)) (am_ac (Or.inr (by decide +kernel)) (am_ac (Or.inr (by decide +kernel)) (am_ac (Or.inr (by decide +kernel)) (am_ac (Or.inr (by decide +kernel)) (am_ac (Or.inr (by decide +kernel)) (am_ac (Or.inr (by decide +kernel)) (am_ac (Or.inr (by decide +kernel)) (am_ac (Or.inr (by decide +kernel)) (am_ac (Or.inr (by decide +kernel)) (am_ac (Or.inr (by decide +kernel)) (am_ac (Or.inr (by decide +kernel)) (am_ac (Or.inr (by decide +kernel)) (fun _ h => absurd h List.not_mem_nil))))))))))))))))))))))))))))))))))))))))
theorem am_sn : ∀ e ∈ am_sss, e.2.2 < 21 := by decide +kernel
set_option maxRecDepth 20000 in
theorem am_sx : ∀ e ∈ am_nst, Cond.methodLinkNest (am_cn e.1) e.2.1 (am_Y am_t e.2.2) "NowhereMoney" ∈ lw_tbl := am_ac (am_tl1 129 (by decide +kernel)) (am_ac (am_tl4 30 (by decide +kernel)) (am_ac (am_tl1 54 (by decide +kernel)) (am_ac (am_tl1 161 (by decide +kernel)) (am_ac (am_tl4 57 (by decide +kernel)) (am_ac (am_tl1 31 (by decide +kernel)) (am_ac (am_tl1 48 (by decide +kernel)) (am_ac (am_tl2 45 (by decide +kernel)) (am_ac (am_tl2 67 (by decide +kernel)) (fun _ h => absurd h List.not_mem_nil)))))))))
theorem am_in0 : Cond.instantiable RX0 6 ∈ lw_tbl := am_tl1 122 (by decide +kernel)
theorem am_in1 : Cond.instantiable RX1 2 ∈ lw_tbl := am_tl1 160 (by decide +kernel)
theorem am_in2 : Cond.instantiable RX2 10 ∈ lw_tbl := am_tl1 175 (by decide +kernel)
theorem am_in3 : Cond.instantiable RX3 9 ∈ lw_tbl := am_tl1 47 (by decide +kernel)
theorem am_in4 : Cond.instantiable RX4 4 ∈ lw_tbl := am_tl2 44 (by decide +kernel)
theorem am_in5 : Cond.instantiable RX5 8 ∈ lw_tbl := am_tl1 53 (by decide +kernel)
theorem am_in6 : Cond.instantiable RX6 2 ∈ lw_tbl := am_tl1 30 (by decide +kernel)
theorem am_in7 : Cond.instantiable RX7 2 ∈ lw_tbl := am_tl2 30 (by decide +kernel)
theorem am_in8 : Cond.instantiable RX8 6 ∈ lw_tbl := am_tl2 66 (by decide +kernel)
theorem am_in9 : Cond.instantiable RX9 9 ∈ lw_tbl := am_tl1 116 (by decide +kernel)
theorem am_in10 : Cond.instantiable RX10 15 ∈ lw_tbl := am_tl1 22 (by decide +kernel)
theorem am_in11 : Cond.instantiable RX11 31 ∈ lw_tbl := am_tl5 126 (by decide +kernel)
theorem am_ao : Cond.arrayOver (.object "NowhereMoney$Script") ∈ lw_tbl := am_tl1 128 (by decide +kernel)
theorem am_ar : Cond.arrayClass .int ∈ lw_tbl := am_tl1 45 (by decide +kernel)
theorem am_ls0 : Cond.laysStatic "java/lang/String" "COMPACT_STRINGS" "Z" ∈ lw_tbl := am_tl2 230 (by decide +kernel)
theorem am_ls1 : Cond.laysStatic "jdk/internal/util/Preconditions" "SIOOBE_FORMATTER" "Ljava/util/function/BiFunction;" ∈ lw_tbl := am_tl3 6 (by decide +kernel)
theorem am_ini0 : Cond.initialized "java/lang/String" ∈ lw_tbl := am_tl1 13 (by decide +kernel)
theorem am_ini1 : Cond.initialized "jdk/internal/util/Preconditions" ∈ lw_tbl := am_tl1 15 (by decide +kernel)
theorem am_start {s : State} {args : Array Value} {b L : Nat} {xs : Nat → Int32} (hts : ∀ w ∈ lw_tbl, w.before args s = true) (hX : va_X b L xs s s.heap) (hbl : b < s.heap.size) (hgv : (Jvm.Cond.and given_1 narrow_1).before args s = true) :
    ∃ (D : va_G) (G : am_G) (dA dB : ClassId), G.2.2.1 = b ∧ am_St am_t D G dA dB s.heap.size 0 (fun _ => 0) s s.heap ∧ am_St am_t D G dA dB s.heap.size (L + 1) xs s s.heap := by
  have hfl : ∀ w ∈ am_fl, w.before args s = true := flat_of_before _ hgv
  have hA : ∀ a : Nat, a < s.heap.size → ¬ (fun q => s.heap.size ≤ q) a := fun a h => Nat.not_le.mpr h
  have h0 : ∀ i : Nat, ∃ q : Nat × Nat, i < 21 → (am_tm i).eval args s none [] s = some (.ref q.1) ∧ va_O "java/lang/String" q.1 (fun q => s.heap.size ≤ q) s s.heap ∧ va_OF "java/lang/String" "coder" "B" (.int 0) q.1 (fun q => s.heap.size ≤ q) s s.heap ∧ va_OF "java/lang/String" "value" "[B" (.ref q.2) q.1 (fun q => s.heap.size ≤ q) s s.heap ∧ va_T .byte q.2 (am_sL.getD i 0) (fun j => .int ((am_sB.getD i []).getD j 0)) (fun q => s.heap.size ≤ q) s s.heap := by
    intro i
    by_cases hi : i < 21
    · obtain ⟨w1, w2, w3, w4⟩ := am_fl1 i hi
      obtain ⟨a, c, cA, kA, q1, q2, q3, q4, q5, q6, -⟩ := Cond.exactly_spec (args := args) (first := s) (o := none) (s := s) (idx := []) (t := am_tm i) (cls := "java/lang/String") (hfl _ w1)
      obtain ⟨t, ht, hT⟩ := va_Tof (f := fun j => .int ((am_sB.getD i []).getD j 0)) (A := fun q => s.heap.size ≤ q) (am_sL_of hi) (hfl _ w3) (va_eqt (hfl _ w4)) (fun j hj => va_eqt (hfl _ (am_fl2 i hi j hj))) hA
      exact ⟨(a, t), fun _ => ⟨q1, ⟨cA, q3, q5, by rw [q6]; exact q2, hA a (Array.getElem?_eq_some_iff.mp q3).1⟩, vk_OFof q1 (va_eqt (hfl _ w2)) hA, vk_OFof q1 ht hA, hT⟩⟩
    · exact ⟨(0, 0), fun h => absurd h hi⟩
  obtain ⟨ad, had⟩ := Classical.axiomOfChoice h0
  have hZ1 := va_Zof (A := fun q => s.heap.size ≤ q) (hts _ am_ls0) (hts _ am_ini0) (va_eqi (hfl _ am_fl3.1)) hA
  have hZ2 : ∃ fm : Option Nat, va_Z "jdk/internal/util/Preconditions" "SIOOBE_FORMATTER" "Ljava/util/function/BiFunction;" (va_rf fm) (fun q => s.heap.size ≤ q) s s.heap := by
    rcases va_Zqof (A := fun q => s.heap.size ≤ q) (hts _ am_ls1) (hts _ am_ini1) (hfl _ am_fl3.2) hA with h | ⟨t, h⟩
    · exact ⟨none, h⟩
    · exact ⟨some t, h⟩
  obtain ⟨fm, hZ2⟩ := hZ2
  obtain ⟨dA, kA, compA, a1, a2, a3⟩ := Cond.arrayClass_spec (hts _ am_ar)
  obtain ⟨compB, dB, kB, b1, b2, b3, b4, b5⟩ := Cond.arrayOver_spec (hts _ am_ao)
  obtain ⟨c0, i0, k0⟩ := u_known (C := RX0) (T := TX0) (N := 6) (n := 6) hts (fun w hw => (am_u_ok 0 _ rfl w hw).1) (hts _ am_in0)
  obtain ⟨c1, i1, k1⟩ := u_known (C := RX1) (T := TX1) (N := 2) (n := 2) hts (fun w hw => (am_u_ok 1 _ rfl w hw).1) (hts _ am_in1)
  obtain ⟨c2, i2, k2⟩ := u_known (C := RX2) (T := TX2) (N := 10) (n := 10) hts (fun w hw => (am_u_ok 2 _ rfl w hw).1) (hts _ am_in2)
  obtain ⟨c3, i3, k3⟩ := u_known (C := RX3) (T := TX3) (N := 9) (n := 9) hts (fun w hw => (am_u_ok 3 _ rfl w hw).1) (hts _ am_in3)
  obtain ⟨c4, i4, k4⟩ := u_known (C := RX4) (T := TX4) (N := 4) (n := 4) hts (fun w hw => (am_u_ok 4 _ rfl w hw).1) (hts _ am_in4)
  obtain ⟨c5, i5, k5⟩ := u_known (C := RX5) (T := TX5) (N := 8) (n := 8) hts (fun w hw => (am_u_ok 5 _ rfl w hw).1) (hts _ am_in5)
  obtain ⟨c6, i6, k6⟩ := u_known (C := RX6) (T := TX6) (N := 2) (n := 2) hts (fun w hw => (am_u_ok 6 _ rfl w hw).1) (hts _ am_in6)
  obtain ⟨c7, i7, k7⟩ := u_known (C := RX7) (T := TX7) (N := 2) (n := 2) hts (fun w hw => (am_u_ok 7 _ rfl w hw).1) (hts _ am_in7)
  obtain ⟨c8, i8, k8⟩ := u_known (C := RX8) (T := TX8) (N := 6) (n := 6) hts (fun w hw => (am_u_ok 8 _ rfl w hw).1) (hts _ am_in8)
  obtain ⟨c9, i9, k9⟩ := u_known (C := RX9) (T := TX9) (N := 9) (n := 9) hts (fun w hw => (am_u_ok 9 _ rfl w hw).1) (hts _ am_in9)
  obtain ⟨c10, i10, k10⟩ := u_known (C := RX10) (T := TX10) (N := 15) (n := 15) hts (fun w hw => (am_u_ok 10 _ rfl w hw).1) (hts _ am_in10)
  obtain ⟨c11, i11, k11⟩ := u_known (C := RX11) (T := TX11) (N := 31) (n := 31) hts (fun w hw => (am_u_ok 11 _ rfl w hw).1) (hts _ am_in11)
  have hK : va_K (fun k => [c0, c1, c2, c3, c4, c5, c6, c7, c8, c9, c10, c11].getD k 0, fun k => [i0, i1, i2, i3, i4, i5, i6, i7, i8, i9, i10, i11].getD k (fun _ => 0)) vwCl [(dA, .int), (dB, .object "NowhereMoney$Script")] s := by
    refine ⟨fun c q hq => ?_, fun k q hq => ?_⟩
    · match c, hq with
      | 0, hq => cases hq; exact k0
      | 1, hq => cases hq; exact k1
      | 2, hq => cases hq; exact k2
      | 3, hq => cases hq; exact k3
      | 4, hq => cases hq; exact k4
      | 5, hq => cases hq; exact k5
      | 6, hq => cases hq; exact k6
      | 7, hq => cases hq; exact k7
      | 8, hq => cases hq; exact k8
      | 9, hq => cases hq; exact k9
      | 10, hq => cases hq; exact k10
      | 11, hq => cases hq; exact k11
      | c + 12, hq => exact absurd (am_lt_len hq) (by simp)
    · match k, hq with
      | 0, hq => cases hq; exact ⟨fun n z => ⟨fun k h => (by cases h), kA, a2, compA, a3⟩, a1⟩
      | 1, hq => cases hq; exact ⟨fun n z => ⟨fun k h => (by cases h), kB, b3, compB, b4⟩, kB, compB, b3, b4, b1, b5⟩
      | k + 2, hq => exact absurd (am_lt_len hq) (by simp)
  have key : ∀ (L' : Nat) (xs' : Nat → Int32), (0 < L' → va_X b (L' - 1) xs' s s.heap) → am_St am_t (fun k => [c0, c1, c2, c3, c4, c5, c6, c7, c8, c9, c10, c11].getD k 0, fun k => [i0, i1, i2, i3, i4, i5, i6, i7, i8, i9, i10, i11].getD k (fun _ => 0)) (fun i => (ad i).1, fun i => (ad i).2, b, fm) dA dB s.heap.size L' xs' s s.heap := by
    intro L' xs' hX'
    refine ⟨hK, va_AO.of (hts _ am_ao), fun e he => ?_, fun i hi => (had i hi).2, hZ1, hZ2, hX', hbl, Nat.le_refl _, fun e he => va_Nw.of rfl (hts _ (am_sx e he))⟩
    refine vk_R.of (A := args) (hts _ (am_sr e he)) ?_
    have h1 := (had e.2.2 (am_sn e he)).1
    rcases am_se e he with h2 | h2
    · rw [h2]; exact h1
    · exact va_eqR (hfl _ h2) h1
  exact ⟨_, _, dA, dB, rfl, key 0 _ (fun h => absurd h (Nat.lt_irrefl 0)), key (L + 1) xs (fun _ => hX)⟩
