/-! Texts: the grammar, over tokens. -/
variable {nb : Nat}
/-- steps and the token behind them; or a fault and its token -/
abbrev an_PR : Type := (List (Nat × Nat) × Nat) ⊕ (Nat × Nat)
def an_th (R : an_PR) (g : Nat → an_PR) : an_PR := match R with
  | .inr e => .inr e
  | .inl p => match g p.2 with
    | .inr e => .inr e
    | .inl q => .inl (p.1 ++ q.1, q.2)
def an_ly (e : Nat × Nat) (j : Nat) : an_PR := .inl ([e], j)
def an_pu (sg : Bool) (tk : Nat → an_tke) (j : Nat) : an_PR := if (tk j).1 = 2 then .inl ([(0, (tk j).2.1)], j + 1) else if (tk j).1 = 3 then .inl ([(an_sf sg (tk j).2.1, 0)], j + 1) else .inr (1, j)
def an_ppl (sg : Bool) (tk : Nat → an_tke) : Nat → Nat → an_PR
  | 0, j => .inl ([], j)
  | f + 1, j => if (tk j).1 = 42 then an_th (an_pu sg tk (j + 1)) (fun j1 => an_th (an_ly (14, 0) j1) (an_ppl sg tk f))
    else if (tk j).1 = 47 then (if (tk (j + 1)).1 = 2 then (if (tk (j + 1)).2.1 = 0 then .inr (2, j + 1) else an_th (an_ly (15, (tk (j + 1)).2.1) (j + 2)) (an_ppl sg tk f)) else .inr (1, j + 1))
    else .inl ([], j)
def an_pprod (sg : Bool) (tk : Nat → an_tke) (j : Nat) : an_PR := an_th (an_pu sg tk j) (an_ppl sg tk 401)
/-- one after another, parted by operators -/
def an_pse (tk : Nat → an_tke) (P : Nat → an_PR) (op : Nat → Option (Nat × Nat)) : Nat → Nat → an_PR
  | 0, j => .inl ([], j)
  | f + 1, j => match op (tk j).1 with
    | none => .inl ([], j)
    | some e => an_th (P (j + 1)) (fun j1 => an_th (an_ly e j1) (an_pse tk P op f))
def an_sep (tk : Nat → an_tke) (P : Nat → an_PR) (op : Nat → Option (Nat × Nat)) (j : Nat) : an_PR := an_th (P j) (an_pse tk P op 401)
def an_oS (k : Nat) : Option (Nat × Nat) := if k = 43 then some (12, 0) else if k = 45 then some (13, 0) else none
def an_oA (k : Nat) : Option (Nat × Nat) := if k = 105 then some (20, 0) else none
def an_oO (k : Nat) : Option (Nat × Nat) := if k = 104 then some (21, 0) else none
def an_oC (k : Nat) : Option (Nat × Nat) := if k = 60 then some (16, 0) else if k = 61 then some (17, 0) else if k = 62 then some (18, 0) else none
def an_psum (sg : Bool) (tk : Nat → an_tke) (j : Nat) : an_PR := an_sep tk (an_pprod sg tk) an_oS j
def an_pcnd (sg : Bool) (tk : Nat → an_tke) (j : Nat) : an_PR := an_th (an_psum sg tk j) (fun j1 => match an_oC (tk j1).1 with
  | none => .inr (1, j1)
  | some e => an_th (an_psum sg tk (j1 + 1)) (an_ly e))
def an_pany (tk : Nat → an_tke) (P : Nat → an_PR) (j : Nat) : an_PR := an_sep tk (an_sep tk P an_oA) an_oO j
/-- r is how often may still be opened -/
def an_pone (sg : Bool) (tk : Nat → an_tke) : Nat → Nat → an_PR
  | 0, j => if (tk j).1 = 106 then .inr (3, j) else if (tk j).1 = 40 then .inr (3, j) else an_pcnd sg tk j
  | r + 1, j => if (tk j).1 = 106 then an_th (an_pone sg tk r (j + 1)) (an_ly (19, 0))
    else if (tk j).1 = 40 then an_th (an_pany tk (an_pone sg tk r) (j + 1)) (fun j1 => if (tk j1).1 = 41 then .inl ([], j1 + 1) else .inr (1, j1))
    else an_pcnd sg tk j
theorem an_th_l {R : an_PR} {g : Nat → an_PR} {s : List (Nat × Nat)} {j : Nat} (h : an_th R g = .inl (s, j)) : ∃ s1 j1 s2, R = .inl (s1, j1) ∧ g j1 = .inl (s2, j) ∧ s = s1 ++ s2 := by
  unfold an_th at h
  cases R with
  | inr e => cases h
  | inl p =>
    dsimp only at h
    cases hg : g p.2 with
    | inr e => rw [hg] at h; cases h
    | inl q =>
      rw [hg] at h
      cases h
      exact ⟨p.1, p.2, q.1, rfl, hg, rfl⟩
/-- a parse that lays steps of this shape, and no more of them than it takes tokens -/
def an_pty (sg : Bool) (P : Nat → an_PR) (h : Nat) (b : Bool) : Prop := ∀ j s j' (t : List Bool), P j = .inl (s, j') → t.length ≤ h → an_ty sg s t (b :: t) ∧ j + s.length ≤ j'
theorem an_ty_app {sg : Bool} : ∀ (l l' : List (Nat × Nat)) (t t1 t2 : List Bool), an_ty sg l t t1 → an_ty sg l' t1 t2 → an_ty sg (l ++ l') t t2 := by
  intro l
  induction l with
  | nil => intro l' t t1 t2 h h'; cases h; exact h'
  | cons e l ih =>
    intro l' t t1 t2 h h'
    obtain ⟨t0, g1, g2⟩ := h
    exact ⟨t0, g1, ih l' t0 t1 t2 g2 h'⟩
theorem an_ty_1 {sg : Bool} {e : Nat × Nat} {t t' : List Bool} (h : an_t1 sg e.1 e.2 t t') : an_ty sg [e] t t' := ⟨t', h, rfl⟩
theorem an_sf_ok {sg : Bool} {f : Nat} (h : f < 7) : an_fs sg (an_sf sg f) ∧ an_fi sg (an_sf sg f) = f := by
  rcases (by omega : f = 0 ∨ f = 1 ∨ f = 2 ∨ f = 3 ∨ f = 4 ∨ f = 5 ∨ f = 6) with rfl | rfl | rfl | rfl | rfl | rfl | rfl
  all_goals
    cases sg
    · exact ⟨⟨by decide, by decide⟩, rfl⟩
    · exact ⟨by show _ ∨ _; decide, rfl⟩
theorem an_pty_u {sg : Bool} {tk : Nat → an_tke} (hk : ∀ j, an_tko (tk j)) : an_pty sg (an_pu sg tk) 30 false := by
  intro j s j' t h ht
  unfold an_pu at h
  split at h
  · rename_i e
    cases h
    refine ⟨an_ty_1 (Or.inl ⟨rfl, ?_, by omega, rfl⟩), Nat.le_refl _⟩
    rcases hk j with q | q | ⟨_, q⟩ | ⟨q, _⟩ | q | q
    · omega
    · omega
    · exact q
    · omega
    · have := an_sgn_i q; omega
    · omega
  · split at h
    · rename_i e
      cases h
      refine ⟨an_ty_1 (Or.inr (Or.inl ⟨(an_sf_ok ?_).1, by omega, rfl⟩)), Nat.le_refl _⟩
      rcases hk j with q | q | ⟨q, _⟩ | ⟨_, q⟩ | q | q
      · omega
      · omega
      · omega
      · exact q
      · have := an_sgn_i q; omega
      · omega
    · cases h
theorem an_tk_2 {tk : Nat → an_tke} (hk : ∀ j, an_tko (tk j)) {j : Nat} (e : (tk j).1 = 2) : (tk j).2.1 < 100000 := by
  rcases hk j with q | q | ⟨_, q⟩ | ⟨q, _⟩ | q | q
  · omega
  · omega
  · exact q
  · omega
  · have := an_sgn_i q; omega
  · omega
theorem an_tk_3 {tk : Nat → an_tke} (hk : ∀ j, an_tko (tk j)) {j : Nat} (e : (tk j).1 = 3) : (tk j).2.1 < 7 := by
  rcases hk j with q | q | ⟨q, _⟩ | ⟨_, q⟩ | q | q
  · omega
  · omega
  · omega
  · exact q
  · have := an_sgn_i q; omega
  · omega
theorem an_pty_pl {sg : Bool} {tk : Nat → an_tke} (hk : ∀ j, an_tko (tk j)) : ∀ f j s j' (t : List Bool), an_ppl sg tk f j = .inl (s, j') → t.length ≤ 29 → an_ty sg s (false :: t) (false :: t) ∧ j + s.length ≤ j' := by
  intro f
  induction f with
  | zero => intro j s j' t h _; cases h; exact ⟨rfl, Nat.le_refl _⟩
  | succ f ih =>
    intro j s j' t h ht
    rw [an_ppl] at h
    split at h
    · obtain ⟨s1, j1, s2, h1, h2, rfl⟩ := an_th_l h
      obtain ⟨s3, j3, s4, h3, h4, rfl⟩ := an_th_l h2
      cases h3
      obtain ⟨g1, g2⟩ := an_pty_u hk _ _ _ (false :: t) h1 (by simp; omega)
      obtain ⟨k1, k2⟩ := ih _ _ _ t h4 ht
      refine ⟨an_ty_app _ _ _ _ _ g1 (an_ty_app _ _ _ _ _ (an_ty_1 (Or.inr (Or.inr (Or.inl ⟨t, by omega, rfl, rfl, by omega⟩)))) k1), ?_⟩
      simp only [List.length_append, List.length_cons, List.length_nil]
      omega
    · split at h
      · split at h
        · split at h
          · cases h
          · rename_i e2 e0
            obtain ⟨s3, j3, s4, h3, h4, rfl⟩ := an_th_l h
            cases h3
            obtain ⟨k1, k2⟩ := ih _ _ _ t h4 ht
            refine ⟨an_ty_app _ _ _ _ _ (an_ty_1 (Or.inr (Or.inr (Or.inr (Or.inl ⟨t, rfl, by omega, an_tk_2 hk e2, by omega, rfl, rfl⟩))))) k1, ?_⟩
            simp only [List.length_append, List.length_cons, List.length_nil]
            omega
        · cases h
      · cases h
        exact ⟨rfl, Nat.le_refl _⟩
theorem an_pty_prod {sg : Bool} {tk : Nat → an_tke} (hk : ∀ j, an_tko (tk j)) : an_pty sg (an_pprod sg tk) 29 false := by
  intro j s j' t h ht
  obtain ⟨s1, j1, s2, h1, h2, rfl⟩ := an_th_l h
  obtain ⟨g1, g2⟩ := an_pty_u hk _ _ _ t h1 (by omega)
  obtain ⟨k1, k2⟩ := an_pty_pl hk _ _ _ _ t h2 ht
  refine ⟨an_ty_app _ _ _ _ _ g1 k1, ?_⟩
  rw [List.length_append]
  omega
theorem an_pty_se {sg : Bool} {tk : Nat → an_tke} {P : Nat → an_PR} {op : Nat → Option (Nat × Nat)} {h : Nat} {b : Bool} (hP : an_pty sg P (h + 1) b) (hop : ∀ k e t, op k = some e → t.length ≤ h → an_t1 sg e.1 e.2 (b :: b :: t) (b :: t)) : ∀ f j s j' (t : List Bool), an_pse tk P op f j = .inl (s, j') → t.length ≤ h → an_ty sg s (b :: t) (b :: t) ∧ j + s.length ≤ j' := by
  intro f
  induction f with
  | zero => intro j s j' t h _; cases h; exact ⟨rfl, Nat.le_refl _⟩
  | succ f ih =>
    intro j s j' t he ht
    rw [an_pse] at he
    split at he
    · cases he; exact ⟨rfl, Nat.le_refl _⟩
    · rename_i e ho
      obtain ⟨s1, j1, s2, h1, h2, rfl⟩ := an_th_l he
      obtain ⟨s3, j3, s4, h3, h4, rfl⟩ := an_th_l h2
      cases h3
      obtain ⟨g1, g2⟩ := hP _ _ _ (b :: t) h1 (by simp; omega)
      obtain ⟨k1, k2⟩ := ih _ _ _ t h4 ht
      refine ⟨an_ty_app _ _ _ _ _ g1 (an_ty_app _ _ _ _ _ (an_ty_1 (hop _ e t ho ht)) k1), ?_⟩
      simp only [List.length_append, List.length_cons, List.length_nil]
      omega
theorem an_pty_sep {sg : Bool} {tk : Nat → an_tke} {P : Nat → an_PR} {op : Nat → Option (Nat × Nat)} {h : Nat} {b : Bool} (hP : an_pty sg P (h + 1) b) (hop : ∀ k e t, op k = some e → t.length ≤ h → an_t1 sg e.1 e.2 (b :: b :: t) (b :: t)) : an_pty sg (an_sep tk P op) h b := by
  intro j s j' t he ht
  obtain ⟨s1, j1, s2, h1, h2, rfl⟩ := an_th_l he
  obtain ⟨g1, g2⟩ := hP _ _ _ t h1 (by omega)
  obtain ⟨k1, k2⟩ := an_pty_se hP hop _ _ _ _ t h2 ht
  refine ⟨an_ty_app _ _ _ _ _ g1 k1, ?_⟩
  rw [List.length_append]
  omega
theorem an_pty_sum {sg : Bool} {tk : Nat → an_tke} (hk : ∀ j, an_tko (tk j)) : an_pty sg (an_psum sg tk) 28 false := by
  refine an_pty_sep (an_pty_prod hk) (fun k e t ho ht => ?_)
  unfold an_oS at ho
  split at ho
  · cases ho; exact Or.inr (Or.inr (Or.inl ⟨t, Or.inl rfl, rfl, rfl, by omega⟩))
  · split at ho
    · cases ho; exact Or.inr (Or.inr (Or.inl ⟨t, Or.inr (Or.inl rfl), rfl, rfl, by omega⟩))
    · cases ho
theorem an_pty_cnd {sg : Bool} {tk : Nat → an_tke} (hk : ∀ j, an_tko (tk j)) : an_pty sg (an_pcnd sg tk) 27 true := by
  intro j s j' t h ht
  obtain ⟨s1, j1, s2, h1, h2, rfl⟩ := an_th_l h
  obtain ⟨g1, g2⟩ := an_pty_sum hk _ _ _ t h1 (by omega)
  split at h2
  · cases h2
  · rename_i e ho
    obtain ⟨s3, j3, s4, h3, h4, rfl⟩ := an_th_l h2
    cases h4
    obtain ⟨k1, k2⟩ := an_pty_sum hk _ _ _ (false :: t) h3 (by simp; omega)
    refine ⟨an_ty_app _ _ _ _ _ g1 (an_ty_app _ _ _ _ _ k1 (an_ty_1 ?_)), ?_⟩
    · unfold an_oC at ho
      split at ho
      · cases ho; exact Or.inr (Or.inr (Or.inr (Or.inr (Or.inl ⟨t, Or.inl rfl, rfl, rfl, by omega⟩))))
      · split at ho
        · cases ho; exact Or.inr (Or.inr (Or.inr (Or.inr (Or.inl ⟨t, Or.inr (Or.inl rfl), rfl, rfl, by omega⟩))))
        · split at ho
          · cases ho; exact Or.inr (Or.inr (Or.inr (Or.inr (Or.inl ⟨t, Or.inr (Or.inr rfl), rfl, rfl, by omega⟩))))
          · cases ho
    · simp only [List.length_append, List.length_cons, List.length_nil]
      omega
theorem an_pty_any {sg : Bool} {tk : Nat → an_tke} {P : Nat → an_PR} {h : Nat} (hP : an_pty sg P (h + 2) true) (hh : h ≤ 27) : an_pty sg (an_pany tk P) h true := by
  refine an_pty_sep (an_pty_sep hP (fun k e t ho ht => ?_)) (fun k e t ho ht => ?_)
  · unfold an_oA at ho
    split at ho
    · cases ho; exact Or.inr (Or.inr (Or.inr (Or.inr (Or.inr (Or.inr ⟨t, Or.inl rfl, rfl, rfl, by omega⟩)))))
    · cases ho
  · unfold an_oO at ho
    split at ho
    · cases ho; exact Or.inr (Or.inr (Or.inr (Or.inr (Or.inr (Or.inr ⟨t, Or.inr rfl, rfl, rfl, by omega⟩)))))
    · cases ho
theorem an_pty_mo {sg : Bool} {P : Nat → an_PR} {h h' : Nat} {b : Bool} (hP : an_pty sg P h b) (hh : h' ≤ h) : an_pty sg P h' b := fun j s j' t e ht => hP j s j' t e (by omega)
theorem an_pty_one {sg : Bool} {tk : Nat → an_tke} (hk : ∀ j, an_tko (tk j)) : ∀ r, r ≤ 8 → an_pty sg (an_pone sg tk r) (27 - 2 * r) true := by
  intro r
  induction r with
  | zero =>
    intro _ j s j' t h ht
    rw [an_pone] at h
    split at h
    · cases h
    · split at h
      · cases h
      · exact an_pty_cnd hk j s j' t h (by omega)
  | succ r ih =>
    intro hr j s j' t h ht
    have ih := ih (by omega)
    rw [an_pone] at h
    split at h
    · obtain ⟨s1, j1, s2, h1, h2, rfl⟩ := an_th_l h
      cases h2
      obtain ⟨g1, g2⟩ := ih _ _ _ t h1 (by omega)
      refine ⟨an_ty_app _ _ _ _ _ g1 (an_ty_1 (Or.inr (Or.inr (Or.inr (Or.inr (Or.inr (Or.inl ⟨t, rfl, rfl, rfl, by omega⟩))))))), ?_⟩
      simp only [List.length_append, List.length_cons, List.length_nil]
      omega
    · split at h
      · obtain ⟨s1, j1, s2, h1, h2, rfl⟩ := an_th_l h
        split at h2
        · cases h2
          obtain ⟨g1, g2⟩ := an_pty_any (tk := tk) (h := 27 - 2 * (r + 1)) (an_pty_mo ih (by omega)) (by omega) _ _ _ t h1 ht
          rw [List.append_nil]
          exact ⟨g1, by omega⟩
        · cases h2
      · exact an_pty_cnd hk j s j' t h (by omega)
/-- what follows "when" -/
def an_pwh (sg : Bool) (tk : Nat → an_tke) (j : Nat) : an_PR := an_pany tk (an_pone sg tk 8) j
theorem an_pty_wh {sg : Bool} {tk : Nat → an_tke} (hk : ∀ j, an_tko (tk j)) {j j' : Nat} {s : List (Nat × Nat)} (h : an_pwh sg tk j = .inl (s, j')) : an_ty sg s [] [true] ∧ j + s.length ≤ j' := an_pty_any (h := 0) (an_pty_mo (an_pty_one hk 8 (by omega)) (by omega)) (by omega) _ _ _ [] h (by simp)
theorem an_pty_su {sg : Bool} {tk : Nat → an_tke} (hk : ∀ j, an_tko (tk j)) {j j' : Nat} {s : List (Nat × Nat)} (h : an_psum sg tk j = .inl (s, j')) : an_ty sg s [] [false] ∧ j + s.length ≤ j' := an_pty_sum hk _ _ _ [] h (by simp)
