/-! The constructors, run on closed terms: by a log of what is written. -/
abbrev am_G1 : Type := List (Nat × Option (Nat × Int32))
/-- what has been written, the latest first: a fresh row, or one place -/
def am_ops : am_G1 → am_M → am_M
  | [], μ => μ
  | (c, none) :: t, μ => am_row (am_ops t μ) c (fun _ => 0)
  | (c, some (i, v)) :: t, μ => am_row (am_ops t μ) c (upd ((am_ops t μ) c) i v)
theorem am_nb {a b : Nat} (h : ¬ a = b) : Nat.beq a b = false := by
  cases hb : Nat.beq a b with
  | false => rfl
  | true => exact absurd (Nat.eq_of_beq_eq_true hb) h
def am_lget : am_G1 → Nat → Nat → Option Int32
  | [], _, _ => none
  | (c', none) :: t, c, i => bif Nat.beq c' c then some 0 else am_lget t c i
  | (c', some (i', v)) :: t, c, i => bif Nat.beq c' c && Nat.beq i' i then some v else am_lget t c i
theorem am_lget_ok {μ : am_M} : ∀ (g : am_G1) (c i : Nat) (v : Int32), am_lget g c i = some v → am_ops g μ c i = v := by
  intro g
  induction g with
  | nil => intro c i v h; simp [am_lget] at h
  | cons e t ih =>
    intro c i v h
    obtain ⟨c', o⟩ := e
    cases o with
    | none =>
      simp only [am_lget] at h
      simp only [am_ops, am_row]
      by_cases hc : c = c'
      · subst hc; simp at h; simp [h]
      · have : Nat.beq c' c = false := am_nb (fun e => hc e.symm)
        rw [this] at h
        rw [if_neg hc]
        exact ih _ _ _ h
    | some q =>
      obtain ⟨i', v'⟩ := q
      simp only [am_lget] at h
      simp only [am_ops, am_row]
      by_cases hc : c = c'
      · subst hc
        rw [if_pos rfl]
        by_cases hi : i = i'
        · subst hi; simp at h; simp [upd, h]
        · have : Nat.beq i' i = false := am_nb (fun e => hi e.symm)
          rw [this, Bool.and_false] at h
          have h2 := ih _ _ _ h
          simp [upd, hi, h2]
      · have : Nat.beq c' c = false := am_nb (fun e => hc e.symm)
        rw [this, Bool.false_and] at h
        rw [if_neg hc]
        exact ih _ _ _ h
def am_lp (S : am_Sh) (i : Instr) (r : am_R) (ls : am_L) (st : List Value) (g : am_G1) : Option (am_L × List Value) := match i with
  | .getfield x => (match st with
    | .ref c :: t => (match am_lget g c r.2.2.1 with
      | some v => am_pure 0 S (.getfield x) r ls (.ref c :: t) (fun _ _ => v)
      | none => none)
    | _ => none)
  | i => am_pure 0 S i r ls st (fun _ _ => 0)
theorem am_alen_0 {L : Nat} {S : am_Sh} {c n : Nat} (h : am_alen 0 S c = some n) : am_alen L S c = some n := by
  unfold am_alen at h ⊢
  split at h
  · exact h
  · rw [show (Nat.beq c 3000 && Nat.blt 0 0) = false from Bool.and_false _, cond_false] at h
    by_cases hc : c = 3000
    · subst hc
      rw [show (Nat.ble 2000 3000 && Nat.blt 3000 (2000 + am_sN)) = false from rfl, cond_false] at h
      cases h
    · have : Nat.beq c 3000 = false := am_nb hc
      rw [this, Bool.false_and, cond_false]
      exact h
theorem am_lp_ok {L : Nat} {S : am_Sh} {i : Instr} {r : am_R} {ls ls' : am_L} {st st' : List Value} {g : am_G1} {μ : am_M} (h : am_lp S i r ls st g = some (ls', st')) : am_pure L S i r ls st (am_ops g μ) = some (ls', st') := by
  cases i
  case getfield x =>
    dsimp only [am_lp] at h
    split at h
    · rename_i c t
      split at h
      · rename_i v hv
        have := am_lget_ok (μ := μ) _ _ _ _ hv
        dsimp only [am_pure, am_getf] at h ⊢
        rw [this]
        exact h
      · cases h
    · cases h
  case arraylength =>
    dsimp only [am_lp, am_pure] at h ⊢
    split at h
    · split at h
      · rename_i hn
        rw [am_alen_0 hn]
        exact h
      · cases h
    · cases h
  all_goals exact h
def am_lw (i : Instr) (r : am_R) (st : List Value) (S : am_Sh) (g : am_G1) : Option am_G1 := match i with
  | .iastore => (match st with
    | .int x :: .int i :: .ref c :: _ => some ((c, some (i.toNatClampNeg, x)) :: g)
    | _ => none)
  | .putfield _ => (match st with
    | .int x :: .ref c :: _ => some ((c, some (r.2.2.1, x)) :: g)
    | _ => some g)
  | .aastore => some g
  | .invokespecial _ => some g
  | .new _ => some ((S.length, none) :: g)
  | .newarray _ => some ((S.length, none) :: g)
  | .anewarray _ => some g
  | _ => none
theorem am_lw_ok {L d : Nat} {S S' : am_Sh} {i : Instr} {r : am_R} {st st' : List Value} {g g' : am_G1} {μ μ0 : am_M} {b : Bool} (h : am_eff 0 d S i r st (fun _ _ => 0) = some (b, st', S', μ0)) (hg : am_lw i r st S g = some g') : am_eff L d S i r st (am_ops g μ) = some (b, st', S', am_ops g' μ) := by
  cases i
  case iastore =>
    dsimp only [am_eff, am_lw] at h hg ⊢
    split at h
    · simp only [Option.some.injEq] at hg
      subst hg
      split at h
      · rename_i kd vs hS
        cases hb : Nat.ble 100 kd <;> simp only [hb, cond_false, cond_true] at h ⊢
        · cases h
        · simp only [Option.some.injEq, Prod.mk.injEq] at h
          obtain ⟨rfl, rfl, rfl, -⟩ := h
          rfl
      · cases h
    · cases h
  case aastore =>
    dsimp only [am_eff, am_lw] at h hg ⊢
    cases hg
    split at h
    · split at h
      · rename_i kd vs _ _ _
        cases hb : Nat.beq kd 98 <;> simp only [hb, cond_false, cond_true] at h ⊢
        · cases h
        · simp only [Option.some.injEq, Prod.mk.injEq] at h
          obtain ⟨rfl, rfl, rfl, -⟩ := h
          rfl
      · cases h
    · cases h
  case invokespecial =>
    dsimp only [am_eff, am_lw] at h hg ⊢
    cases hg
    split at h
    · simp only [Option.some.injEq, Prod.mk.injEq] at h
      obtain ⟨rfl, rfl, rfl, -⟩ := h
      rfl
    · cases h
  case new =>
    dsimp only [am_eff, am_lw] at h hg ⊢
    cases hg
    split at h
    · simp only [Option.some.injEq, Prod.mk.injEq] at h
      obtain ⟨rfl, rfl, rfl, -⟩ := h
      rfl
    · cases h
  case anewarray =>
    dsimp only [am_eff, am_lw] at h hg ⊢
    cases hg
    split at h
    · simp only [Option.some.injEq, Prod.mk.injEq] at h
      obtain ⟨rfl, rfl, rfl, -⟩ := h
      rfl
    · cases h
  case newarray t =>
    cases t <;> dsimp only [am_eff, am_lw] at h hg ⊢ <;> try (cases h; done)
    cases hg
    split at h
    · simp only [Option.some.injEq, Prod.mk.injEq] at h
      obtain ⟨rfl, rfl, rfl, -⟩ := h
      rfl
    · cases h
  case putfield =>
    dsimp only [am_eff, am_lw] at h hg ⊢
    split at h
    · rename_i v c t
      split at h
      · rename_i kd vs hr hS
        cases hb : Nat.beq kd r.2.1 <;> simp only [hb, cond_false, cond_true] at h
        · cases h
        · split at h
          · simp only [Option.some.injEq, Prod.mk.injEq] at h hg
            obtain ⟨rfl, rfl, rfl, -⟩ := h
            subst hg
            rename_i hv
            simp only [hr, hS, hb, hv, cond_true]
            rfl
          · simp only [Option.some.injEq, Prod.mk.injEq] at h hg
            obtain ⟨rfl, rfl, rfl, -⟩ := h
            subst hg
            rename_i hv
            simp only [hr, hS, hb, hv, cond_true]
          · simp only [Option.some.injEq, Prod.mk.injEq] at h hg
            obtain ⟨rfl, rfl, rfl, -⟩ := h
            subst hg
            rename_i hv
            simp only [hr, hS, hb, hv, cond_true]
          · cases h
      · cases h
    · cases h
  all_goals (dsimp only [am_lw] at hg; cases hg)
def am_lrun (P : Nat → List am_I) (ML : Nat → Nat) : Nat → Nat → Nat → List am_I → am_L → List Value → am_Sh → am_G1 → Option (Option Value × am_Sh × am_G1)
  | 0, _, _, _, _, _, _, _ => none
  | _ + 1, _, _, [], _, _, _, _ => none
  | n + 1, d, m, (pc, i, r) :: k, ls, st, S, g =>
    match am_lp S i r ls st g with
    | some (ls', st') => am_lrun P ML n d m k ls' st' S g
    | none => match am_pure 0 S i r ls st (fun _ _ => 0) with
      | some _ => none
      | none => match am_eff 0 d S i r st (fun _ _ => 0) with
        | some (b, st', S', _) => (match b && am_gr S S' ls st with
          | true => (match am_lw i r st S g with
            | some g' => am_lrun P ML n d m k ls st' S' g'
            | none => none)
          | false => none)
        | none => match am_jmp i r pc st with
          | some (b, t, st') => (match b with
            | true => am_lrun P ML n d m (am_at (P m) t) ls st' S g
            | false => am_lrun P ML n d m k ls st' S g)
          | none => match am_ret i r st with
            | some (b, rv) => (match b with
              | true => some (rv, S, g)
              | false => none)
            | none => match am_cal S i r st with
              | some (m', a, t) => (match d with
                | 0 => none
                | d' + 1 => match Nat.ble (am_ent a).length (ML m') with
                  | false => none
                  | true => match am_lrun P ML n d' m' (P m') (am_loc (ML m') a) [] S g with
                    | some (rv, S', g') => (match am_gr S S' ls t with
                      | true => am_lrun P ML n (d' + 1) m k ls (rv.toList ++ t) S' g'
                      | false => none)
                    | none => none)
              | none => none
theorem am_jmp_none {L d pc : Nat} {S : am_Sh} {i : Instr} {r : am_R} {ls : am_L} {st : List Value} {μ : am_M} {y : Bool × Nat × List Value} (h : am_jmp i r pc st = some y) : am_pure L S i r ls st μ = none ∧ am_eff L d S i r st μ = none := by
  cases i <;> first
    | exact ⟨rfl, rfl⟩
    | (dsimp only [am_jmp] at h; cases h; done)
theorem am_ret_none {L d pc : Nat} {S : am_Sh} {i : Instr} {r : am_R} {ls : am_L} {st : List Value} {μ : am_M} {y : Bool × Option Value} (h : am_ret i r st = some y) : am_pure L S i r ls st μ = none ∧ am_eff L d S i r st μ = none ∧ am_jmp i r pc st = none := by
  cases i <;> first
    | exact ⟨rfl, rfl, rfl⟩
    | (dsimp only [am_ret] at h; cases h; done)
theorem am_cal_pure {L : Nat} {S : am_Sh} {i : Instr} {r : am_R} {ls : am_L} {st : List Value} {μ : am_M} {y : Nat × List Value × List Value} (h : am_cal S i r st = some y) : am_pure L S i r ls st μ = none := by
  cases i <;> first
    | rfl
    | (dsimp only [am_cal] at h
       repeat' (split at h)
       all_goals (cases h; done))
theorem am_eff_pure {L d : Nat} {S : am_Sh} {i : Instr} {r : am_R} {ls : am_L} {st : List Value} {g g' : am_G1} {μ : am_M} (h : am_lw i r st S g = some g') : am_pure L S i r ls st μ = none := by
  cases i <;> first
    | rfl
    | (dsimp only [am_lw] at h; cases h; done)
theorem am_lrun_ok {P : Nat → List am_I} {ML : Nat → Nat} {L : Nat} {μ : am_M} : ∀ (n d m : Nat) (k : List am_I) (ls : am_L) (st : List Value) (S : am_Sh) (g : am_G1) (rv : Option Value) (S1 : am_Sh) (g1 : am_G1), am_lrun P ML n d m k ls st S g = some (rv, S1, g1) → am_run P ML L n d m k ls st S (am_ops g μ) = some (rv, S1, am_ops g1 μ) := by
  intro n
  induction n with
  | zero => intro d m k ls st S g rv S1 g1 h; simp [am_lrun] at h
  | succ n ih =>
    intro d m k ls st S g rv S1 g1 h
    cases k with
    | nil => simp [am_lrun] at h
    | cons e k =>
      obtain ⟨pc, i, r⟩ := e
      rw [am_lrun] at h
      rw [am_run]
      split at h
      · rename_i hp
        rw [am_lp_ok hp]
        exact ih _ _ _ _ _ _ _ _ _ _ h
      · split at h
        · cases h
        · split at h
          · rename_i b st' S' μ0 he
            split at h
            · rename_i hb
              split at h
              · rename_i g' hw
                rw [am_eff_pure (d := d) hw, am_lw_ok (L := L) (μ := μ) he hw]
                simp only [hb]
                exact ih _ _ _ _ _ _ _ _ _ _ h
              · cases h
            · cases h
          · split at h
            · rename_i b t st' hj
              obtain ⟨e1, e2⟩ := am_jmp_none (L := L) (d := d) (S := S) (ls := ls) (μ := am_ops g μ) hj
              rw [e1, e2, hj]
              dsimp only
              split at h
              · exact ih _ _ _ _ _ _ _ _ _ _ h
              · exact ih _ _ _ _ _ _ _ _ _ _ h
            · split at h
              · rename_i b rv' hj
                obtain ⟨e1, e2, e3⟩ := am_ret_none (L := L) (d := d) (pc := pc) (S := S) (ls := ls) (μ := am_ops g μ) hj
                rw [e1, e2, e3, hj]
                dsimp only
                split at h
                · simp only [Option.some.injEq, Prod.mk.injEq] at h
                  obtain ⟨rfl, rfl, rfl⟩ := h
                  rfl
                · cases h
              · split at h
                · rename_i m' a t hc
                  obtain ⟨e2, e3, e4⟩ := am_cal_none (L := L) (d := d) (pc := pc) (μ := am_ops g μ) hc
                  rw [am_cal_pure hc, e2, e3, e4, hc]
                  dsimp only
                  split at h
                  · cases h
                  · split at h
                    · cases h
                    · rename_i hl
                      rw [hl]
                      dsimp only
                      split at h
                      · rename_i rv' S' g' hr
                        rw [ih _ _ _ _ _ _ _ _ _ _ hr]
                        dsimp only
                        split at h
                        · rename_i hg
                          rw [hg]
                          exact ih _ _ _ _ _ _ _ _ _ _ h
                        · cases h
                      · cases h
                · cases h
def am_oX : List (Nat × Option (Nat × Int32)) := [(0, some (11, - nI 1)), (139, none), (138, none), (137, none), (136, none), (135, none), (134, none), (133, none), (132, none), (131, none), (130, none), (129, none), (128, none), (127, none), (126, none), (125, none), (124, none), (121, some (23, - nI 1)), (121, some (22, - nI 1)), (121, some (21, - nI 1)), (121, some (20, - nI 1)), (121, some (19, - nI 1)), (121, some (18, - nI 1)), (121, some (17, - nI 1)), (121, some (16, - nI 1)), (121, some (15, - nI 1)), (121, some (14, - nI 1)), (121, some (13, - nI 1)), (121, some (12, - nI 1)), (121, some (11, - nI 1)), (121, some (10, - nI 1)), (121, some (9, - nI 1)), (121, some (8, - nI 1)), (121, some (7, - nI 1)), (121, some (6, - nI 1)), (121, some (5, - nI 1)), (121, some (4, - nI 1)), (121, some (3, - nI 1)), (121, some (2, - nI 1)), (121, some (1, - nI 1)), (121, some (0, - nI 1)), (123, none), (122, none), (121, none), (120, none), (119, none), (118, none), (117, none), (116, none), (115, none), (114, none), (113, none), (112, none), (111, none), (110, none), (109, none), (108, none), (107, none), (106, none), (105, none), (104, none), (103, none), (102, none), (101, none), (100, none), (99, none), (98, none), (97, none), (96, none), (95, none), (94, none), (93, none), (92, none), (91, none), (90, none), (89, none), (88, none), (87, none), (86, none), (85, none), (84, none), (83, none), (82, none), (81, none), (80, none), (79, none), (78, none), (77, none), (76, none), (72, some (8, nI 0)), (72, some (7, nI 2)), (72, some (6, nI 2)), (72, some (5, nI 2)), (72, some (4, nI 0)), (72, some (3, nI 2)), (72, some (2, nI 2)), (72, some (1, nI 2)), (72, some (0, nI 0)), (70, some (5, - nI 1)), (74, none), (73, none), (72, none), (71, none), (70, none), (69, none), (66, some (23, - nI 1)), (66, some (22, - nI 1)), (66, some (21, - nI 1)), (66, some (20, - nI 1)), (66, some (19, - nI 1)), (66, some (18, - nI 1)), (66, some (17, - nI 1)), (66, some (16, - nI 1)), (66, some (15, - nI 1)), (66, some (14, - nI 1)), (66, some (13, - nI 1)), (66, some (12, - nI 1)), (66, some (11, - nI 1)), (66, some (10, - nI 1)), (66, some (9, - nI 1)), (66, some (8, - nI 1)), (66, some (7, - nI 1)), (66, some (6, - nI 1)), (66, some (5, - nI 1)), (66, some (4, - nI 1)), (66, some (3, - nI 1)), (66, some (2, - nI 1)), (66, some (1, - nI 1)), (66, some (0, - nI 1)), (68, none), (67, none), (66, none), (65, none), (64, none), (63, none), (62, none), (61, none), (60, none), (59, none), (58, none), (57, none), (56, none), (55, none), (54, none), (53, none), (52, none), (51, none), (50, none), (49, none), (48, none), (47, none), (46, none), (45, none), (44, none), (43, none), (42, none), (41, none), (40, none), (39, none), (38, none), (37, none), (36, none), (35, none), (34, none), (33, none), (32, none), (31, none), (30, none), (29, none), (28, none), (27, none), (26, none), (25, none), (24, none), (23, none), (22, none), (21, none), (17, some (8, nI 0)), (17, some (7, nI 2)), (17, some (6, nI 2)), (17, some (5, nI 2)), (17, some (4, nI 0)), (17, some (3, nI 2)), (17, some (2, nI 2)), (17, some (1, nI 2)), (17, some (0, nI 0)), (15, some (5, - nI 1)), (19, none), (18, none), (17, none), (16, none), (15, none), (14, none), (13, none), (12, none), (11, none), (10, none), (9, none), (8, none), (7, none), (6, none), (5, none), (4, none), (3, none), (2, none), (1, none)]
def am_oM : List (Nat × Option (Nat × Int32)) := [(141, some (3635, - nI 1)), (141, some (3634, - nI 1)), (141, some (3633, - nI 1)), (141, some (3632, - nI 1)), (141, some (3631, - nI 1)), (141, some (3630, - nI 1)), (141, some (3629, - nI 1)), (141, some (3628, - nI 1)), (141, some (3627, - nI 1)), (141, some (3626, - nI 1)), (141, some (3625, - nI 1)), (141, some (3624, - nI 1)), (141, some (3623, - nI 1)), (141, some (3622, - nI 1)), (141, some (3621, - nI 1)), (141, some (3620, - nI 1)), (141, some (3619, - nI 1)), (141, some (3618, - nI 1)), (141, some (3617, - nI 1)), (141, some (3616, - nI 1)), (141, some (3615, - nI 1)), (141, some (3614, - nI 1)), (141, some (3613, - nI 1)), (141, some (3612, - nI 1)), (141, some (22, nI 0)), (141, some (21, nI 2)), (141, some (20, nI 2)), (141, some (19, nI 2)), (141, some (18, nI 0)), (141, some (17, nI 2)), (141, some (16, nI 2)), (141, some (15, nI 2)), (141, some (14, nI 0)), (152, none), (140, some (27, - nI 1)), (151, none), (150, none), (149, none), (140, some (21, - nI 1)), (148, none), (147, none), (146, none), (145, none), (144, none), (143, none), (142, none), (141, none)]
def am_veq : Value → Value → Bool
  | .int x, .int y => decide (x = y)
  | .ref a, .ref b => Nat.beq a b
  | .null, .null => true
  | _, _ => false
theorem am_veq_ok : ∀ (v w : Value), am_veq v w = true → v = w := by
  intro v w h
  unfold am_veq at h
  split at h
  · rw [of_decide_eq_true h]
  · rw [Nat.eq_of_beq_eq_true h]
  · rfl
  · cases h
def am_leq {α : Type} (f : α → α → Bool) : List α → List α → Bool
  | [], [] => true
  | a :: s, b :: t => f a b && am_leq f s t
  | _, _ => false
theorem am_leq_ok {α : Type} {f : α → α → Bool} (hf : ∀ a b, f a b = true → a = b) : ∀ (s t : List α), am_leq f s t = true → s = t := by
  intro s
  induction s with
  | nil => intro t h; cases t with
    | nil => rfl
    | cons b t => simp [am_leq] at h
  | cons a s ih => intro t h; cases t with
    | nil => simp [am_leq] at h
    | cons b t =>
      rw [am_leq, Bool.and_eq_true] at h
      rw [hf _ _ h.1, ih _ h.2]
def am_seq1 (a b : Nat × List Value) : Bool := Nat.beq a.1 b.1 && am_leq am_veq a.2 b.2
theorem am_seq1_ok : ∀ (a b : Nat × List Value), am_seq1 a b = true → a = b := by
  intro a b h
  rw [am_seq1, Bool.and_eq_true] at h
  exact Prod.ext (Nat.eq_of_beq_eq_true h.1) (am_leq_ok am_veq_ok _ _ h.2)
def am_geq1 (a b : Nat × Option (Nat × Int32)) : Bool := Nat.beq a.1 b.1 && (match a.2, b.2 with
  | none, none => true
  | some x, some y => Nat.beq x.1 y.1 && decide (x.2 = y.2)
  | _, _ => false)
theorem am_geq1_ok : ∀ (a b : Nat × Option (Nat × Int32)), am_geq1 a b = true → a = b := by
  intro a b h
  obtain ⟨a1, a2⟩ := a
  obtain ⟨b1, b2⟩ := b
  rw [am_geq1, Bool.and_eq_true] at h
  obtain ⟨h1, h2⟩ := h
  have h1 := Nat.eq_of_beq_eq_true h1
  dsimp only at h1 h2
  subst h1
  split at h2
  · rfl
  · rename_i x y
    rw [Bool.and_eq_true] at h2
    have h3 := Nat.eq_of_beq_eq_true h2.1
    have h4 := of_decide_eq_true h2.2
    rw [show x = y from Prod.ext h3 h4]
  · cases h2
def am_lck (o : Option (Option Value × am_Sh × am_G1)) (S : am_Sh) (g : am_G1) : Bool := match o with
  | some (none, S', g') => am_leq am_seq1 S' S && am_leq am_geq1 g' g
  | _ => false
theorem am_lck_ok {o : Option (Option Value × am_Sh × am_G1)} {S : am_Sh} {g : am_G1} (h : am_lck o S g = true) : o = some (none, S, g) := by
  unfold am_lck at h
  split at h
  · rw [Bool.and_eq_true] at h
    rw [am_leq_ok am_seq1_ok _ _ h.1, am_leq_ok am_geq1_ok _ _ h.2]
  · cases h
set_option maxRecDepth 200000 in
theorem am_ltM : am_lck (am_lrun am_code am_mlo 1500 59 146 (am_code 146) (am_loc (am_mlo 146) [.ref 140]) [] (am_S0.take 140 ++ [(11, am_def 11)]) [(140, none)]) am_S0 (am_oM ++ [(140, none)]) = true := by decide +kernel
set_option maxRecDepth 200000 in
theorem am_ltX : am_lck (am_lrun am_code am_mlo 14000 59 92 (am_code 92) (am_loc (am_mlo 92) [.ref 0]) [] [(10, am_def 10)] [(0, none)]) (am_S0.take 140) (am_oX ++ [(0, none)]) = true := by decide +kernel
theorem am_ops_app : ∀ (g h : am_G1) (μ : am_M), am_ops (g ++ h) μ = am_ops g (am_ops h μ) := by
  intro g
  induction g with
  | nil => intro h μ; rfl
  | cons e t ih =>
    intro h μ
    obtain ⟨c, o⟩ := e
    cases o with
    | none => rw [List.cons_append]; simp only [am_ops, ih]
    | some q => obtain ⟨i, v⟩ := q; rw [List.cons_append]; simp only [am_ops, ih]
theorem am_ctX (L : Nat) (μ : am_M) : am_run am_code am_mlo L 14000 59 92 (am_code 92) (am_loc (am_mlo 92) [.ref 0]) [] [(10, am_def 10)] (am_row μ 0 (fun _ => 0)) = some (none, am_S0.take 140, am_ops am_oX (am_row μ 0 (fun _ => 0))) := by
  have h := am_lrun_ok (L := L) (μ := μ) _ _ _ _ _ _ _ _ _ _ _ (am_lck_ok am_ltX)
  rw [am_ops_app] at h
  exact h
theorem am_ctM (L : Nat) (μ : am_M) : am_run am_code am_mlo L 1500 59 146 (am_code 146) (am_loc (am_mlo 146) [.ref 140]) [] (am_S0.take 140 ++ [(11, am_def 11)]) (am_row μ 140 (fun _ => 0)) = some (none, am_S0, am_ops am_oM (am_row μ 140 (fun _ => 0))) := by
  have h := am_lrun_ok (L := L) (μ := μ) _ _ _ _ _ _ _ _ _ _ _ (am_lck_ok am_ltM)
  rw [am_ops_app] at h
  exact h
