/-! A morning: what asking for a list leaves alone; the banks in a row. -/

/-- what rides was paid in before today -/
def an_old (w : an_W) : Prop := ∀ k, k < an_cnt w → w (3640 + 12 * k + 6) = 0 → ¬ w 0 ≤ w (3640 + 12 * k + 5)
theorem W_a1_old {w : an_W} {ls : List an_Ln} {b k D : Nat} (h : an_ain w D) (hk : k < an_cnt w) (hb : b < 4) (h1 : w (3640 + 12 * k + 1) = nI b) (ho : an_old w) : an_old (W_a1 w ls b k) := by
  obtain ⟨q, _⟩ := an_ain_q h hk hb h1
  have lN := (an_cnt_e h.2.1).2
  intro i hi h6
  rw [(W_a1_ain (ls := ls) h hk hb h1).2] at hi
  rw [W_a1_o h hk hb h1 (by omega) (by omega) (by omega) (by omega) (by omega) (by omega), W_a1_o (j := 3640 + 12 * i + 5) h hk hb h1 (by omega) (by omega) (by omega) (by omega) (by omega) (by omega)]
  by_cases e : i = k
  · rw [e] at h6
    rcases W_ask_6 (w := w) (ls := ls) (k := k) (h := (w (3640 + 12 * k + 0)).toNatClampNeg) (b := b) (x := (w (3640 + 12 * k + 3)).toNatClampNeg) (am := w (3640 + 12 * k + 4)) with z | z
    · exact absurd (z.symm.trans h6) (by decide)
    · exact absurd (z.symm.trans h6) (by decide)
  · rw [W_a1_o h hk hb h1 (by omega) (by omega) (by omega) (by omega) (by omega) (by omega)] at h6
    exact ho i hi h6
theorem W_asl_ain {ls : List an_Ln} {b D : Nat} (hb : b < 4) : ∀ (s : List Nat) (w : an_W), an_ain w D → an_old w → (∀ q ∈ s, q < an_cnt w ∧ w (3640 + 12 * q + 7) = 0 ∧ w (3640 + 12 * q + 1) = nI b) → s.Nodup → an_ain (W_asl ls b w s) D ∧ an_old (W_asl ls b w s) ∧ an_cnt (W_asl ls b w s) = an_cnt w ∧ ∀ j, j < 9810 → ¬ j = 4 → (j < 210 ∨ 5440 ≤ j) → W_asl ls b w s j = w j := by
  intro s
  induction s with
  | nil => intro w h ho _ _; exact ⟨h, ho, rfl, fun _ _ _ _ => rfl⟩
  | cons k t ih =>
    intro w h ho hq hn
    obtain ⟨k1, k2, k3⟩ := hq k (List.mem_cons_self ..)
    obtain ⟨n1, n2⟩ := List.nodup_cons.mp hn
    obtain ⟨k150, _⟩ := an_ain_q h k1 hb k3
    obtain ⟨A1, ec⟩ := W_a1_ain (ls := ls) h k1 hb k3
    have q150 := (an_cnt_e h.2.1).2
    obtain ⟨r1, r2, r3, r4⟩ := ih (W_a1 w ls b k) A1 (W_a1_old h k1 hb k3 ho) (fun q hq' => by
      obtain ⟨z1, z2, z3⟩ := hq q (List.mem_cons_of_mem _ hq')
      have ne : ¬ q = k := fun z => n1 (z ▸ hq')
      exact ⟨by rw [ec]; exact z1, by rw [W_a1_o h k1 hb k3 (by omega) (by omega) (by omega) (by omega) (by omega) (by omega)]; exact z2, by rw [W_a1_o h k1 hb k3 (by omega) (by omega) (by omega) (by omega) (by omega) (by omega)]; exact z3⟩) n2
    refine ⟨r1, r2, r3.trans ec, fun j q1 q2 q3 => ?_⟩
    rw [W_asl, r4 j q1 q2 q3, W_a1_o h k1 hb k3 q1 q2 (by omega) (by omega) (by omega) (by omega)]
/-- the list a bank is asked for, in its order -/
def an_lis (w : an_W) (b : Nat) (ord : Int32) : List Nat := (an_lst w b ord (an_cnt w)).reverse
theorem an_lis_q {w : an_W} {b : Nat} {ord : Int32} : (∀ q ∈ an_lis w b ord, q < an_cnt w ∧ w (3640 + 12 * q + 7) = 0 ∧ w (3640 + 12 * q + 1) = nI b) ∧ (an_lis w b ord).Nodup ∧ (an_lis w b ord).length ≤ an_cnt w := by
  refine ⟨fun q hq => ?_, ?_, ?_⟩
  · have hq' : q ∈ an_lst w b ord (an_cnt w) := List.mem_reverse.mp hq
    obtain ⟨_, z2, z3⟩ := an_lst_7 _ q hq'
    exact ⟨(an_lst_l _).2 q hq', z2, z3⟩
  · exact List.pairwise_reverse.mpr ((an_lst_nd _).imp (fun h z => h z.symm))
  · unfold an_lis; rw [List.length_reverse]; exact (an_lst_l _).1
theorem an_nl_rev {row : Nat → Int32} : ∀ (t : List Nat), an_nl row t → ∀ j q, t.reverse[j]? = some q → row j = nI q := by
  intro t
  induction t with
  | nil => intro _ j q h; simp at h
  | cons p t ih =>
    intro h j q hj
    rw [List.reverse_cons] at hj
    by_cases z : j < t.length
    · rw [List.getElem?_append_left (by simpa using z)] at hj
      exact ih h.2 j q hj
    · rw [List.getElem?_append_right (by simp; omega)] at hj
      have : j - t.reverse.length = 0 := by
        rcases Nat.eq_zero_or_pos (j - t.reverse.length) with y | y
        · exact y
        · rw [List.getElem?_eq_none (by simp at y ⊢; omega)] at hj; cases hj
      have e : j = t.length := by simp at this; omega
      rw [this] at hj
      have : p = q := by simpa using hj
      rw [e, ← this]
      exact h.1
/-- the banks in a row -/
def W_bks (lss : Nat → List an_Ln) (ord : Int32) : Nat → Nat → an_W → an_W
  | 0, _, w => w
  | n + 1, b, w => W_bks lss ord n (b + 1) (W_asl (lss b) b w (an_lis w b ord))
def an_bkn (lss : Nat → List an_Ln) (ord : Int32) : Nat → Nat → an_W → Nat
  | 0, _, _ => 0
  | n + 1, b, w => an_asn (lss b) b w (an_lis w b ord) + an_bkn lss ord n (b + 1) (W_asl (lss b) b w (an_lis w b ord))
