/-! The words: what the small machine's cells, locals and values are on the real one. -/
abbrev am_G : Type := (Nat → Nat) × (Nat → Nat) × Nat × Option Nat
/-- the address of a reference of the small machine -/
def am_ad (G : am_G) (al : List Nat) (c : Nat) : Nat := bif Nat.blt c 1000 then al.getD c 0 else bif Nat.blt c 2000 then G.1 (c - 1000) else bif Nat.blt c 3000 then G.2.1 (c - 2000) else bif Nat.beq c 3000 then G.2.2.1 else 0
def am_tr (G : am_G) (al : List Nat) (v : Value) : Value := match v with
  | .ref c => .ref (am_ad G al c)
  | .retAddr _ => va_rf G.2.2.2
  | v => v
theorem am_tr_cat {G : am_G} {al : List Nat} {v : Value} : (am_tr G al v).category = v.category := by
  cases v
  case retAddr p =>
    show (va_rf G.2.2.2).category = 1
    cases G.2.2.2 <;> rfl
  all_goals rfl
/-- the locals that are known, by their places -/
def am_prs (f : Value → Value) : Nat → am_L → List (Nat × Value)
  | _, [] => []
  | k, none :: t => am_prs f (k + 1) t
  | k, some v :: t => (k, f v) :: am_prs f (k + 1) t
theorem am_prs_mem {f : Value → Value} : ∀ (ls : am_L) (k : Nat) (q : Nat × Value), q ∈ am_prs f k ls ↔ ∃ (j : Nat) (u : Value), q.1 = k + j ∧ ls[j]? = some (some u) ∧ q.2 = f u := by
  intro ls
  induction ls with
  | nil => intro k q; simp [am_prs]
  | cons o t ih =>
    intro k q
    cases o with
    | none =>
      rw [am_prs, ih]
      constructor
      · rintro ⟨j, u, h1, h2, h3⟩
        exact ⟨j + 1, u, by omega, by simpa using h2, h3⟩
      · rintro ⟨j, u, h1, h2, h3⟩
        cases j with
        | zero => simp at h2
        | succ j => exact ⟨j, u, by omega, by simpa using h2, h3⟩
    | some v =>
      rw [am_prs, List.mem_cons, ih]
      constructor
      · rintro (h | ⟨j, u, h1, h2, h3⟩)
        · exact ⟨0, v, by rw [h]; rfl, by simp, by rw [h]⟩
        · exact ⟨j + 1, u, by omega, by simpa using h2, h3⟩
      · rintro ⟨j, u, h1, h2, h3⟩
        cases j with
        | zero =>
          left
          simp at h2
          subst h2
          exact Prod.ext (by simpa using h1) h3
        | succ j => exact Or.inr ⟨j, u, by omega, by simpa using h2, h3⟩
theorem lv_less {ls : Array Slot} {nL : Nat} {l l' : List (Nat × Value)} (h : lv_has ls nL l) (hs : ∀ q ∈ l', q ∈ l) : lv_has ls nL l' := ⟨h.1, h.2.1, fun q hq => h.2.2 q (hs q hq)⟩
def am_hasL (f : Value → Value) (ar : Array Slot) (nL : Nat) (ls : am_L) : Prop := ls.length = nL ∧ lv_has ar nL (am_prs f 0 ls)
theorem am_get_some {ls : am_L} {i : Nat} {v : Value} (h : am_get ls i = some v) : ls[i]? = some (some v) := by
  unfold am_get at h
  split at h
  · cases h; assumption
  · cases h
theorem am_hasL.at {f : Value → Value} {ar : Array Slot} {nL : Nat} {ls : am_L} (h : am_hasL f ar nL ls) {i : Nat} {v : Value} (hv : am_get ls i = some v) : ar[i]? = some (.val (f v)) :=
  h.2.2.2 (i, f v) ((am_prs_mem ls 0 _).mpr ⟨i, v, (Nat.zero_add i).symm, am_get_some hv, rfl⟩)
theorem am_clr_len (ls : am_L) (i : Nat) : (am_clr ls i).length = ls.length := by
  unfold am_clr
  cases i with
  | zero => rfl
  | succ j =>
    dsimp only
    cases am_cat2 ls[j]? <;> simp
theorem am_set_len (ls : am_L) (i : Nat) (v : Value) : (am_set ls i v).length = ls.length := by simp [am_set, am_clr_len]
theorem am_set2_len (ls : am_L) (i : Nat) (v : Value) : (am_set2 ls i v).length = ls.length := by simp [am_set2, am_clr_len]
theorem am_clr_at {ls : am_L} {i j : Nat} {u : Value} (h : (am_clr ls i)[j]? = some (some u)) : ls[j]? = some (some u) ∧ ¬ (j + 1 = i ∧ u.category = 2) := by
  unfold am_clr at h
  cases i with
  | zero => exact ⟨h, fun q => by omega⟩
  | succ k =>
    dsimp only at h
    cases hc : am_cat2 ls[k]? with
    | true =>
      rw [hc] at h
      dsimp only at h
      rw [List.getElem?_set] at h
      by_cases hkj : k = j
      · rw [if_pos hkj] at h
        split at h <;> cases h
      · rw [if_neg hkj] at h
        exact ⟨h, fun q => hkj (by omega)⟩
    | false =>
      rw [hc] at h
      refine ⟨h, fun q => ?_⟩
      have hkj : j = k := by omega
      subst hkj
      have h : ls[j]? = some (some u) := h
      rw [h] at hc
      simp only [am_cat2, q.2] at hc
      cases hc
theorem am_hasL.store {f : Value → Value} (hf : ∀ v, (f v).category = v.category) {ar ar' : Array Slot} {nL : Nat} {ls : am_L} {i : Nat} {v : Value} (h : am_hasL f ar nL ls)
    (h' : lv_has ar' nL ((i, f v) :: (am_prs f 0 ls).filter (fun q => !(q.1 == i) && !(q.1 + 1 == i && q.2.category == 2)))) : am_hasL f ar' nL (am_set ls i v) := by
  refine ⟨by rw [am_set_len]; exact h.1, lv_less h' fun q hq => ?_⟩
  obtain ⟨j, u, h1, h2, h3⟩ := (am_prs_mem _ 0 q).mp hq
  unfold am_set at h2
  rw [List.getElem?_set] at h2
  by_cases hij : i = j
  · rw [if_pos hij] at h2
    split at h2
    · cases h2
      exact List.mem_cons.mpr (Or.inl (Prod.ext (by simp; omega) h3))
    · cases h2
  · rw [if_neg hij] at h2
    obtain ⟨g1, g2⟩ := am_clr_at h2
    refine List.mem_cons.mpr (Or.inr (List.mem_filter.mpr ⟨(am_prs_mem _ 0 q).mpr ⟨j, u, h1, g1, h3⟩, ?_⟩))
    have e1 : q.1 = j := by omega
    rw [e1, h3, hf]
    have e2 : (j == i) = false := by simp; omega
    rw [e2]
    by_cases hc : j + 1 = i
    · have : ¬ u.category = 2 := fun e => g2 ⟨hc, e⟩
      simp [this]
    · simp [hc]
theorem am_hasL.store2 {f : Value → Value} (hf : ∀ v, (f v).category = v.category) {ar ar' : Array Slot} {nL : Nat} {ls : am_L} {i : Nat} {v : Value} (h : am_hasL f ar nL ls)
    (h' : lv_has ar' nL ((i, f v) :: (am_prs f 0 ls).filter (fun q => !(q.1 == i) && (!(q.1 == i + 1) && !(q.1 + 1 == i && q.2.category == 2))))) : am_hasL f ar' nL (am_set2 ls i v) := by
  refine ⟨by rw [am_set2_len]; exact h.1, lv_less h' fun q hq => ?_⟩
  obtain ⟨j, u, h1, h2, h3⟩ := (am_prs_mem _ 0 q).mp hq
  unfold am_set2 at h2
  rw [List.getElem?_set] at h2
  by_cases hij2 : i + 1 = j
  · rw [if_pos hij2] at h2
    split at h2 <;> cases h2
  rw [if_neg hij2, List.getElem?_set] at h2
  by_cases hij : i = j
  · rw [if_pos hij] at h2
    split at h2
    · cases h2
      exact List.mem_cons.mpr (Or.inl (Prod.ext (by simp; omega) h3))
    · cases h2
  · rw [if_neg hij] at h2
    obtain ⟨g1, g2⟩ := am_clr_at h2
    refine List.mem_cons.mpr (Or.inr (List.mem_filter.mpr ⟨(am_prs_mem _ 0 q).mpr ⟨j, u, h1, g1, h3⟩, ?_⟩))
    have e1 : q.1 = j := by omega
    rw [e1, h3, hf]
    have e2 : (j == i) = false := by simp; omega
    have e3 : (j == i + 1) = false := by simp; omega
    rw [e2, e3]
    by_cases hc : j + 1 = i
    · have : ¬ u.category = 2 := fun e => g2 ⟨hc, e⟩
      simp [this]
    · simp [hc]
theorem am_prs_congr {f g : Value → Value} : ∀ (ls : am_L) (k : Nat), (∀ u, some u ∈ ls → f u = g u) → am_prs f k ls = am_prs g k ls := by
  intro ls
  induction ls with
  | nil => intro k _; rfl
  | cons o t ih =>
    intro k h
    cases o with
    | none => rw [am_prs, am_prs]; exact ih _ (fun u hu => h u (List.mem_cons_of_mem _ hu))
    | some v => rw [am_prs, am_prs, h v List.mem_cons_self, ih _ (fun u hu => h u (List.mem_cons_of_mem _ hu))]
/-- the locals at a method's entry -/
theorem am_ent_prs {f : Value → Value} (hf : ∀ v, (f v).category = v.category) : ∀ (vs : List Value) (k n : Nat), am_prs f k (am_ent vs ++ List.replicate n none) = lv_args k (vs.map f) := by
  have h0 : ∀ (n k : Nat), am_prs f k (List.replicate n none) = [] := by
    intro n
    induction n with
    | zero => intro k; rfl
    | succ n ih => intro k; rw [List.replicate_succ, am_prs, ih]
  intro vs
  induction vs with
  | nil => intro k n; simp only [am_ent, List.nil_append, List.map_nil, lv_args]; exact h0 n k
  | cons v t ih =>
    intro k n
    rw [am_ent, List.map_cons, lv_args, hf]
    by_cases h : v.category = 2
    · have hb : Nat.beq v.category 2 = true := by rw [h]; rfl
      rw [hb, if_pos h]
      show am_prs f k (some v :: none :: (am_ent t ++ List.replicate n none)) = _
      rw [am_prs, am_prs, ih]
    · have hb : Nat.beq v.category 2 = false := by
        cases hq : Nat.beq v.category 2 with
        | true => exact absurd (Nat.eq_of_beq_eq_true hq) h
        | false => rfl
      rw [hb, if_neg h]
      show am_prs f k (some v :: (am_ent t ++ List.replicate n none)) = _
      rw [am_prs, ih]
theorem am_ent_len {f : Value → Value} (hf : ∀ v, (f v).category = v.category) : ∀ vs : List Value, (am_ent vs).length = (lg_sl (vs.map f)).length := by
  intro vs
  induction vs with
  | nil => rfl
  | cons v t ih =>
    rw [am_ent, List.map_cons]
    have e : lg_sl (f v :: t.map f) = (if (f v).category = 2 then [.val (f v), .second] else [.val (f v)]) ++ lg_sl (t.map f) := rfl
    rw [e, hf]
    by_cases h : v.category = 2
    · have hb : Nat.beq v.category 2 = true := by rw [h]; rfl
      rw [hb, if_pos h]
      simp [ih]
    · have hb : Nat.beq v.category 2 = false := by
        cases hq : Nat.beq v.category 2 with
        | true => exact absurd (Nat.eq_of_beq_eq_true hq) h
        | false => rfl
      rw [hb, if_neg h]
      simp [ih]
/-! cells -/
def am_fld (G : am_G) (al : List Nat) (μ : am_M) (c k : Nat) (v : Value) : Value := match v with
  | .int _ => .int (μ c k)
  | v => am_tr G al v
def am_qf (G : am_G) (al : List Nat) (vs : List Value) (j : Nat) : Option Nat := match vs[j]? with
  | some (.ref a) => some (am_ad G al a)
  | _ => none
def am_cell (G : am_G) (dA dB : ClassId) (al : List Nat) (μ : am_M) (c : Nat) (e : Nat × List Value) : va_E :=
  bif Nat.blt e.1 50 then .inr (e.1, e.2.mapIdx (am_fld G al μ c))
  else bif Nat.ble 100 e.1 then .inl (dA, e.1 - 100, .inl (μ c))
  else .inl (dB, e.2.length, .inr (.inr (.inr (.inr (am_qf G al e.2)))))
def am_conc (G : am_G) (dA dB : ClassId) (al : List Nat) (S : am_Sh) (μ : am_M) : va_W := S.mapIdx (fun c e => (al.getD c 0, am_cell G dA dB al μ c e))
theorem am_conc_at (G : am_G) (dA dB : ClassId) (al : List Nat) (S : am_Sh) (μ : am_M) (c : Nat) : (am_conc G dA dB al S μ)[c]? = S[c]?.map (fun e => (al.getD c 0, am_cell G dA dB al μ c e)) := by
  unfold am_conc
  rw [List.getElem?_mapIdx]
theorem am_cell_row {G : am_G} {dA dB : ClassId} {al : List Nat} {μ : am_M} {c c' : Nat} {f : Nat → Int32} {e : Nat × List Value} (h : c' ≠ c) : am_cell G dA dB al (am_row μ c f) c' e = am_cell G dA dB al μ c' e := by
  have h1 : am_row μ c f c' = μ c' := by unfold am_row; rw [if_neg h]
  have h2 : am_fld G al (am_row μ c f) c' = am_fld G al μ c' := by
    funext k v
    cases v <;> simp [am_fld, h1]
  unfold am_cell
  rw [h1, h2]
theorem am_row_at (μ : am_M) (c : Nat) (f : Nat → Int32) : am_row μ c f c = f := by unfold am_row; rw [if_pos rfl]
theorem am_row_ne {μ : am_M} {c c' : Nat} {f : Nat → Int32} (h : c' ≠ c) : am_row μ c f c' = μ c' := by unfold am_row; rw [if_neg h]
/-- one cell written -/
theorem am_conc_set {G : am_G} {dA dB : ClassId} {al : List Nat} {S : am_Sh} {μ : am_M} {c : Nat} {e' : Nat × List Value} {f : Nat → Int32} {x : va_E} (hc : c < S.length) (hx : am_cell G dA dB al (am_row μ c f) c e' = x) :
    (am_conc G dA dB al S μ).set c (al.getD c 0, x) = am_conc G dA dB al (S.set c e') (am_row μ c f) := by
  apply List.ext_getElem?
  intro j
  rw [List.getElem?_set, am_conc_at, am_conc_at, List.getElem?_set]
  by_cases h : c = j
  · subst h
    have hl : c < (am_conc G dA dB al S μ).length := by unfold am_conc; simpa using hc
    rw [if_pos rfl, if_pos rfl, if_pos hl, if_pos hc]
    simp [hx]
  · rw [if_neg h, if_neg h]
    congr 1
    funext e
    rw [am_cell_row (fun q => h q.symm)]
