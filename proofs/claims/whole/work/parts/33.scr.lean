/-! What the steps of a text come to: class and model. -/
/-- the place of a fact among the class's facts; which facts a text may ask for -/
def an_fi (sg : Bool) (s : Nat) : Nat := match sg with
  | false => s - 1
  | true => (match s with
    | 8 => 0
    | 7 => 1
    | 9 => 2
    | 10 => 3
    | 6 => 4
    | 11 => 5
    | _ => 6)
def an_fs (sg : Bool) (s : Nat) : Prop := match sg with
  | false => 1 ≤ s ∧ s ≤ 7
  | true => s = 8 ∨ s = 7 ∨ s = 9 ∨ s = 10 ∨ s = 6 ∨ s = 11 ∨ s = 2
/-- a step: what lies on the stack before and behind (true: 0 or 1 alone) -/
def an_t1 (sg : Bool) (s v : Nat) (t t' : List Bool) : Prop :=
  (s = 0 ∧ v < 100000 ∧ t.length < 31 ∧ t' = false :: t) ∨ (an_fs sg s ∧ t.length < 31 ∧ t' = false :: t) ∨
  (∃ r, (s = 12 ∨ s = 13 ∨ s = 14) ∧ t = false :: false :: r ∧ t' = false :: r ∧ r.length < 30) ∨
  (∃ r, s = 15 ∧ 0 < v ∧ v < 100000 ∧ r.length < 30 ∧ t = false :: r ∧ t' = false :: r) ∨
  (∃ r, (s = 16 ∨ s = 17 ∨ s = 18) ∧ t = false :: false :: r ∧ t' = true :: r ∧ r.length < 30) ∨
  (∃ r, s = 19 ∧ t = true :: r ∧ t' = true :: r ∧ r.length < 30) ∨
  (∃ r, (s = 20 ∨ s = 21) ∧ t = true :: true :: r ∧ t' = true :: r ∧ r.length < 30)
def an_ty (sg : Bool) : List (Nat × Nat) → List Bool → List Bool → Prop
  | [], t, t' => t' = t
  | e :: l, t, t' => ∃ t1, an_t1 sg e.1 e.2 t t1 ∧ an_ty sg l t1 t'
def an_bop (s : Nat) (x y : Int32) : Int32 := match s with
  | 12 => x + y
  | 13 => x - y
  | 14 => x * y
  | 16 => if x < y then nI 1 else nI 0
  | 17 => if x = y then nI 1 else nI 0
  | 18 => if y < x then nI 1 else nI 0
  | 20 => x &&& y
  | _ => x ||| y
def an_e1 (fa : Nat → Int32) (s v : Nat) (st : List Int32) : List Int32 :=
  bif Nat.blt s 12 then (bif Nat.beq s 0 then nI v else fa s) :: st
  else match st with
    | [] => []
    | y :: r => bif Nat.beq s 15 then (y / nI v) :: r else bif Nat.beq s 19 then (nI 1 - y) :: r else match r with
      | [] => []
      | x :: r' => an_bop s x y :: r'
def an_ev (fa : Nat → Int32) : List (Nat × Nat) → List Int32 → List Int32
  | [], st => st
  | e :: l, st => an_ev fa l (an_e1 fa e.1 e.2 st)
/-- a stack in a row, its top the first of the list -/
def an_pl (row : Nat → Int32) : List Int32 → Prop
  | [] => True
  | x :: r => row r.length = x ∧ an_pl row r
theorem an_pl_c {row row' : Nat → Int32} : ∀ (r : List Int32), an_pl row r → (∀ i, i < r.length → row' i = row i) → an_pl row' r := by
  intro r
  induction r with
  | nil => intro _ _; trivial
  | cons x r ih =>
    intro h e
    exact ⟨by rw [e _ (by simp)]; exact h.1, ih h.2 (fun i hi => e i (by simp; omega))⟩
/-- the stack's cell is written from b on, there lies v -/
def an_top (cs : Nat) (μ μ' : am_M) (b : Nat) (v : Int32) : Prop := an_un [cs] μ μ' ∧ (∀ i, i < b → μ' cs i = μ cs i) ∧ μ' cs b = v
theorem an_top_w {cs b : Nat} {μ μ' : am_M} {v : Int32} (h : μ' = am_w μ cs b v) : an_top cs μ μ' b v := by
  subst h
  refine ⟨an_un_w (by simp), fun i hi => ?_, ?_⟩
  · rw [am_w_at, pk_un (by omega)]
  · rw [am_w_at, pk_us]
theorem an_top_w2 {cs b : Nat} {μ μ' μ'' : am_M} {x v : Int32} (h : an_top cs μ μ' (b + 1) x) (h' : an_top cs μ' μ'' b v) : an_top cs μ μ'' b v :=
  ⟨an_un_tr h.1 h'.1 (fun _ q => q) (fun _ q => q), fun i hi => (h'.2.1 i hi).trans (h.2.1 i (by omega)), h'.2.2⟩
def an_sq (C : Nat → Nat × Nat → Nat → Prop) : Nat → List (Nat × Nat) → Nat → Prop
  | p, [], q => q = p
  | p, e :: l, q => ∃ p1, C p e p1 ∧ an_sq C p1 l q
theorem an_go {J : am_M → Nat → Nat → Prop} {cs : Nat} {sg : Bool} {fa : Nat → Int32} {C : Nat → Nat × Nat → Nat → Prop} {I : am_M → Prop}
    (hI : ∀ μ μ', an_un [cs] μ μ' → I μ → I μ')
    (H0 : ∀ μ n p p' v, C p (0, v) p' → I μ → n < 31 → v < 100000 → (∀ μ', an_top cs μ μ' n (nI v) → J μ' (n + 1) p') → J μ n p)
    (H1 : ∀ μ n p p' s v, C p (s, v) p' → I μ → n < 31 → an_fs sg s → (∀ μ', an_top cs μ μ' n (fa s) → J μ' (n + 1) p') → J μ n p)
    (H2 : ∀ μ n p p' s v, C p (s, v) p' → I μ → n < 30 → (s = 12 ∨ s = 13 ∨ s = 14 ∨ s = 16 ∨ s = 17 ∨ s = 18 ∨ s = 20 ∨ s = 21) → (∀ μ', an_top cs μ μ' n (an_bop s (μ cs n) (μ cs (n + 1))) → J μ' (n + 1) p') → J μ (n + 2) p)
    (H3 : ∀ μ n p p' v, C p (15, v) p' → I μ → n < 30 → 0 < v → v < 100000 → (∀ μ', an_top cs μ μ' n (μ cs n / nI v) → J μ' (n + 1) p') → J μ (n + 1) p)
    (H4 : ∀ μ n p p' v, C p (19, v) p' → I μ → n < 30 → (∀ μ', an_top cs μ μ' n (nI 1 - μ cs n) → J μ' (n + 1) p') → J μ (n + 1) p) :
    ∀ (sl : List (Nat × Nat)) (p q : Nat) (st : List Int32) (t t' : List Bool) (μ : am_M), an_sq C p sl q → an_ty sg sl t t' → st.length = t.length → an_pl (μ cs) st → I μ → (∀ μ', an_un [cs] μ μ' → an_pl (μ' cs) (an_ev fa sl st) → (an_ev fa sl st).length = t'.length → J μ' t'.length q) → J μ st.length p := by
  intro sl
  induction sl with
  | nil =>
    intro p q st t t' μ hq ht hl hp hi hk
    cases hq
    cases ht
    rw [hl]
    exact hk μ an_un_rf hp hl
  | cons e l ih =>
    intro p q st t t' μ hq ht hl hp hi hk
    obtain ⟨s, v⟩ := e
    obtain ⟨p1, hc, hq⟩ := hq
    obtain ⟨t1, h1, ht⟩ := ht
    have next : ∀ (μ' : am_M) (r : List Int32) (x : Int32) (b : Bool) (tr : List Bool), an_e1 fa s v st = x :: r → t1 = b :: tr → r.length = tr.length → an_top cs μ μ' r.length x → an_pl (μ cs) r → J μ' (r.length + 1) p1 := by
      intro μ' r x b tr he ht1 hlr htop hpr
      have := ih p1 q (x :: r) t1 t' μ' hq ht (by rw [ht1]; simp [hlr]) ⟨htop.2.2, an_pl_c r hpr htop.2.1⟩ (hI _ _ htop.1 hi) (fun μ2 hu hp2 hl2 => hk μ2 (an_un_tr htop.1 hu (fun _ q => q) (fun _ q => q)) (by rw [an_ev, he]; exact hp2) (by rw [an_ev, he]; exact hl2))
      exact this
    rcases h1 with ⟨rfl, hv, hn, rfl⟩ | ⟨hs, hn, rfl⟩ | ⟨r, hs, rfl, rfl, hn⟩ | ⟨r, rfl, hv0, hv, hn, rfl, rfl⟩ | ⟨r, hs, rfl, rfl, hn⟩ | ⟨r, rfl, rfl, rfl, hn⟩ | ⟨r, hs, rfl, rfl, hn⟩
    · exact H0 μ st.length p p1 v hc hi (by omega) hv (fun μ' htop => next μ' st (nI v) false t rfl rfl hl htop hp)
    · have hs12 : s < 12 ∧ 0 < s := by
        cases sg with
        | false => exact ⟨by have := hs.2; omega, hs.1⟩
        | true => rcases hs with rfl | rfl | rfl | rfl | rfl | rfl | rfl <;> exact ⟨by omega, by omega⟩
      exact H1 μ st.length p p1 s v hc hi (by omega) hs (fun μ' htop => next μ' st (fa s) false t (by
        show (bif Nat.blt s 12 then (bif Nat.beq s 0 then nI v else fa s) :: st else _) = _
        rw [am_blt.mpr hs12.1, am_nb (by omega : ¬ s = 0)]
        rfl) rfl hl htop hp)
    · match st, hl, hp, next with
      | y :: x :: rs, hl, hp, next =>
        have hlr : rs.length = r.length := by simpa using hl
        refine H2 μ rs.length p p1 s v hc hi (by omega) (by omega) (fun μ' htop => ?_)
        have e1 : μ cs rs.length = x := hp.2.1
        have e2 : μ cs (rs.length + 1) = y := hp.1
        rw [e1, e2] at htop
        exact next μ' rs _ false r (by rcases hs with rfl | rfl | rfl <;> rfl) rfl hlr htop hp.2.2
    · match st, hl, hp, next with
      | y :: rs, hl, hp, next =>
        have hlr : rs.length = r.length := by simpa using hl
        refine H3 μ rs.length p p1 v hc hi (by omega) hv0 hv (fun μ' htop => ?_)
        have e1 : μ cs rs.length = y := hp.1
        rw [e1] at htop
        exact next μ' rs _ false r rfl rfl hlr htop hp.2
    · match st, hl, hp, next with
      | y :: x :: rs, hl, hp, next =>
        have hlr : rs.length = r.length := by simpa using hl
        refine H2 μ rs.length p p1 s v hc hi (by omega) (by omega) (fun μ' htop => ?_)
        have e1 : μ cs rs.length = x := hp.2.1
        have e2 : μ cs (rs.length + 1) = y := hp.1
        rw [e1, e2] at htop
        exact next μ' rs _ true r (by rcases hs with rfl | rfl | rfl <;> rfl) rfl hlr htop hp.2.2
    · match st, hl, hp, next with
      | y :: rs, hl, hp, next =>
        have hlr : rs.length = r.length := by simpa using hl
        refine H4 μ rs.length p p1 v hc hi (by omega) (fun μ' htop => ?_)
        have e1 : μ cs rs.length = y := hp.1
        rw [e1] at htop
        exact next μ' rs _ true r rfl rfl hlr htop hp.2
    · match st, hl, hp, next with
      | y :: x :: rs, hl, hp, next =>
        have hlr : rs.length = r.length := by simpa using hl
        refine H2 μ rs.length p p1 s v hc hi (by omega) (by omega) (fun μ' htop => ?_)
        have e1 : μ cs rs.length = x := hp.2.1
        have e2 : μ cs (rs.length + 1) = y := hp.1
        rw [e1, e2] at htop
        exact next μ' rs _ true r (by rcases hs with rfl | rfl <;> rfl) rfl hlr htop hp.2.2
/-- the class's code of a step at p -/
def an_C (sg : Bool) (r0 : Nat → Int32) (p : Nat) (e : Nat × Nat) (p' : Nat) : Prop :=
  (e.1 = 15 ∧ r0 p = nI e.2 ∧ r0 (p + 1) = - nI 13 ∧ p' = p + 2) ∨ (e.1 = 0 ∧ r0 p = nI e.2 ∧ p' = p + 1) ∨ (an_fs sg e.1 ∧ r0 p = - nI (an_fi sg e.1 + 1) ∧ p' = p + 1) ∨ (12 ≤ e.1 ∧ ¬ e.1 = 15 ∧ e.1 ≤ 21 ∧ r0 p = - nI (e.1 - 2) ∧ p' = p + 1)
/-- the model's step at p -/
def an_D (w : an_W) (k : Nat) (p : Nat) (e : Nat × Nat) (p' : Nat) : Prop := w (5710 + 820 * k + 2 * p) = nI e.1 ∧ w (5710 + 820 * k + 2 * p + 1) = nI e.2 ∧ p' = p + 1
def an_bot (st : List Int32) : Int32 := match st with
  | [x] => x
  | _ => nI 0
theorem an_cm {L d : Nat} {F : Int32 → am_M → Prop} {w : an_W} {fa : Nat → Int32} {k Q : Nat} {sg : Bool} (hd : 2 ≤ d) (hk : k < 5) (hQ : Q ≤ 410)
    (sl : List (Nat × Nat)) (p : Nat) (t' : List Bool) (μ : am_M) (hs : an_sq (fun p e p' => p < Q ∧ an_D w k p e p') p sl Q) (ht : an_ty sg sl [] t') (h1 : t'.length = 1) (hw : μ 141 = w) (hf : ∀ s, an_fs sg s → μ 148 s = fa s)
    (hF : ∀ μ', an_un [147] μ μ' → F (an_bot (an_ev fa sl [])) μ') : am_Ci L d 179 [.ref 140, .int (nI k), .int (nI p), .int (nI Q)] μ F := by
  refine v_M_comesTo ?_
  refine an_go (J := fun μ n p => am_Ji L d 179 6 [some (.ref 140), some (.int (nI k)), none, some (.int (nI Q)), some (.int (nI n)), some (.int (nI p)), none, none] [] μ F) (cs := 147) (sg := sg) (fa := fa) (C := fun p e p' => p < Q ∧ an_D w k p e p') (I := fun μ => μ 141 = w ∧ ∀ s, an_fs sg s → μ 148 s = fa s)
    ?_ ?_ ?_ ?_ ?_ ?_ sl p Q [] [] t' μ hs ht rfl trivial ⟨hw, hf⟩ ?_
  · intro μ μ' hu hi
    exact ⟨(hu 141 (by decide)).trans hi.1, fun s hs => by rw [hu 148 (by decide)]; exact hi.2 s hs⟩
  · rintro μ n p p' v ⟨hpQ, g1, g2, rfl⟩ ⟨hw, hf⟩ hn hv hk2
    refine v_M_comesTo_6 ?_
    rw [if_neg (nI_ge hpQ (by omega))]
    simp (discharger := omega) only [pk_mul, nI_add, am_gd_in, am_cl, hw, g1, g2]
    rw [if_neg (by decide), if_neg (by decide)]
    intro μ1 e1
    refine v_M_comesTo_180 ?_
    rw [nI_add]
    exact hk2 μ1 (an_top_w e1)
  · rintro μ n p p' s v ⟨hpQ, g1, g2, rfl⟩ ⟨hw, hf⟩ hn hs hk2
    have hs12 : s < 12 ∧ 0 < s := by
      cases sg with
      | false => exact ⟨by have := hs.2; omega, hs.1⟩
      | true => rcases hs with rfl | rfl | rfl | rfl | rfl | rfl | rfl <;> exact ⟨by omega, by omega⟩
    have hfs := hf s hs
    dsimp only at g1 g2
    refine v_M_comesTo_6 ?_
    rw [if_neg (nI_ge hpQ (by omega))]
    simp (discharger := omega) only [pk_mul, nI_add, am_gd_in, am_cl, hw, g1, g2, hfs]
    rw [if_neg (nI_ge hs12.1 (by omega)), if_pos (nI_ne0 hs12.2 (by omega))]
    intro μ1 e1
    refine v_M_comesTo_180 ?_
    rw [nI_add]
    exact hk2 μ1 (an_top_w e1)
  · rintro μ n p p' s v ⟨hpQ, g1, g2, rfl⟩ ⟨hw, hf⟩ hn hs hk2
    refine v_M_comesTo_6 ?_
    rw [if_neg (nI_ge hpQ (by omega))]
    dsimp only at g1 g2
    simp (discharger := omega) only [pk_mul, nI_add, am_gd_in, am_cl, hw, g1, g2]
    rw [if_pos (nI_le (by omega) (by omega)), if_pos (fun q => absurd ((nI_eq (by omega) (by omega)).mp q) (by omega)), if_pos (fun q => absurd ((nI_eq (by omega) (by omega)).mp q) (by omega)), an_m1 (by omega)]
    refine v_M_comesTo_150 ?_
    have x1 : n + 1 - 1 = n := by omega
    rw [show n + 2 - 1 = n + 1 by omega, pk_sub (by omega), x1, am_gd_in (by omega) (by omega), am_gd_in (by omega) (by omega), am_dp (by omega)]
    simp only [am_cl (show n < 2147483648 by omega), am_cl (show n + 1 < 2147483648 by omega)]
    rcases hs with rfl | rfl | rfl | rfl | rfl | rfl | rfl | rfl
    · rw [if_pos rfl]
      rw [am_gd_in (by omega) (by omega)]
      intro μ1 e1; refine v_M_comesTo_180 ?_; rw [nI_add]; exact hk2 μ1 (an_top_w e1)
    · rw [if_neg (by decide), if_pos rfl]
      rw [am_gd_in (by omega) (by omega)]
      intro μ1 e1; refine v_M_comesTo_180 ?_; rw [nI_add]; exact hk2 μ1 (an_top_w e1)
    · rw [if_neg (by decide), if_neg (by decide), if_pos rfl]
      rw [am_gd_in (by omega) (by omega)]
      intro μ1 e1; refine v_M_comesTo_180 ?_; rw [nI_add]; exact hk2 μ1 (an_top_w e1)
    · rw [if_neg (by decide), if_neg (by decide), if_neg (by decide), if_neg (by decide), if_pos rfl]
      simp only [an_bop] at hk2
      by_cases hq : μ 147 (n + 1) ≤ μ 147 n
      · rw [if_pos hq, am_gd_in (by omega) (by omega)]
        rw [if_neg (Int32.not_lt.mpr hq)] at hk2
        intro μ1 e1; refine v_M_comesTo_180 ?_; rw [nI_add]; exact hk2 μ1 (an_top_w e1)
      · rw [if_neg hq, am_gd_in (by omega) (by omega)]
        rw [if_pos (Int32.not_le.mp hq)] at hk2
        intro μ1 e1; refine v_M_comesTo_180 ?_; rw [nI_add]; exact hk2 μ1 (an_top_w e1)
    · rw [if_neg (by decide), if_neg (by decide), if_neg (by decide), if_neg (by decide), if_neg (by decide), if_pos rfl]
      simp only [an_bop] at hk2
      by_cases hq : μ 147 n = μ 147 (n + 1)
      · rw [if_neg (fun z => z hq), am_gd_in (by omega) (by omega)]
        rw [if_pos hq] at hk2
        intro μ1 e1; refine v_M_comesTo_180 ?_; rw [nI_add]; exact hk2 μ1 (an_top_w e1)
      · rw [if_pos hq, am_gd_in (by omega) (by omega)]
        rw [if_neg hq] at hk2
        intro μ1 e1; refine v_M_comesTo_180 ?_; rw [nI_add]; exact hk2 μ1 (an_top_w e1)
    · rw [if_neg (by decide), if_neg (by decide), if_neg (by decide), if_neg (by decide), if_neg (by decide), if_neg (by decide), if_pos rfl]
      simp only [an_bop] at hk2
      by_cases hq : μ 147 n ≤ μ 147 (n + 1)
      · rw [if_pos hq, am_gd_in (by omega) (by omega)]
        rw [if_neg (Int32.not_lt.mpr hq)] at hk2
        intro μ1 e1; refine v_M_comesTo_180 ?_; rw [nI_add]; exact hk2 μ1 (an_top_w e1)
      · rw [if_neg hq, am_gd_in (by omega) (by omega)]
        rw [if_pos (Int32.not_le.mp hq)] at hk2
        intro μ1 e1; refine v_M_comesTo_180 ?_; rw [nI_add]; exact hk2 μ1 (an_top_w e1)
    · rw [if_neg (by decide), if_neg (by decide), if_neg (by decide), if_neg (by decide), if_neg (by decide), if_neg (by decide), if_neg (by decide), if_neg (by decide), if_pos rfl]
      rw [am_gd_in (by omega) (by omega)]
      intro μ1 e1; refine v_M_comesTo_180 ?_; rw [nI_add]; exact hk2 μ1 (an_top_w e1)
    · rw [if_neg (by decide), if_neg (by decide), if_neg (by decide), if_neg (by decide), if_neg (by decide), if_neg (by decide), if_neg (by decide), if_neg (by decide), if_neg (by decide)]
      rw [am_gd_in (by omega) (by omega)]
      intro μ1 e1; refine v_M_comesTo_180 ?_; rw [nI_add]; exact hk2 μ1 (an_top_w e1)
  · rintro μ n p p' v ⟨hpQ, g1, g2, rfl⟩ ⟨hw, hf⟩ hn hv0 hv hk2
    dsimp only at g1 g2
    refine v_M_comesTo_6 ?_
    rw [if_neg (nI_ge hpQ (by omega))]
    have x1 : n + 1 - 1 = n := by omega
    simp (discharger := omega) only [pk_mul, nI_add, am_gd_in, am_cl, hw, g1, g2, pk_sub, x1, an_gdz]
    rw [if_pos (by decide), if_neg (by decide)]
    intro μ1 e1
    refine v_M_comesTo_180 ?_
    rw [nI_add]
    exact hk2 μ1 (an_top_w e1)
  · rintro μ n p p' v ⟨hpQ, g1, g2, rfl⟩ ⟨hw, hf⟩ hn hk2
    dsimp only at g1 g2
    refine v_M_comesTo_6 ?_
    rw [if_neg (nI_ge hpQ (by omega))]
    have x1 : n + 1 - 1 = n := by omega
    simp (discharger := omega) only [pk_mul, nI_add, am_gd_in, am_cl, hw, g1, g2, pk_sub, x1]
    rw [if_pos (by decide), if_pos (by decide), if_neg (by decide)]
    intro μ1 e1
    refine v_M_comesTo_180 ?_
    rw [nI_add]
    exact hk2 μ1 (an_top_w e1)
  · intro μ' hu hp hl
    refine v_M_comesTo_6 ?_
    rw [if_pos (nI_le (Nat.le_refl _) (by omega))]
    have := hF μ' hu
    rw [h1] at hl
    match h : an_ev fa sl [], hl, hp with
    | [x], hl, hp =>
      rw [h] at this
      have e : μ' 147 0 = x := hp.1
      rw [e]
      exact this
