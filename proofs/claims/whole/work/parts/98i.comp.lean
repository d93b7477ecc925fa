/-! Texts: lines; the class compiles. -/
variable {nb : Nat}
abbrev an_LR : Type := (List (Nat × Nat) × List (Nat × Nat) × Nat) ⊕ (Nat × Nat)
def an_pl2 (sg : Bool) (tk : Nat → an_tke) (s : List (Nat × Nat)) (j : Nat) : an_LR :=
  if (tk j).1 = 103 then (match an_pwh sg tk (j + 1) with
    | .inr e => .inr e
    | .inl q => if (tk q.2).1 = 59 then .inl (s, q.1, q.2 + 1) else .inr (1, q.2))
  else match sg with
    | true => .inr (1, j)
    | false => if (tk j).1 = 59 then .inl (s, [], j + 1) else .inr (1, j)
/-- a line, from behind its word on -/
def an_pln (sg : Bool) (tk : Nat → an_tke) (j : Nat) : an_LR := match sg with
  | true => an_pl2 true tk [] j
  | false => match an_psum false tk j with
    | .inr e => .inr e
    | .inl p => an_pl2 false tk p.1 p.2
def an_lwd (sg : Bool) (k : Nat) : Nat := match sg with
  | true => 3
  | false => k - 100
def an_lwm (sg : Bool) : Nat := match sg with
  | true => 100
  | false => 102
/-- m lines may still follow -/
def an_ptx (sg : Bool) (tk : Nat → an_tke) : Nat → Nat → (List an_Ln) ⊕ (Nat × Nat)
  | 0, j => if (tk j).1 = 0 then .inl [] else if 100 ≤ (tk j).1 ∧ (tk j).1 ≤ an_lwm sg then .inr (3, j) else .inr (1, j)
  | m + 1, j => if (tk j).1 = 0 then .inl [] else if 100 ≤ (tk j).1 ∧ (tk j).1 ≤ an_lwm sg then (match an_pln sg tk (j + 1) with
      | .inr e => .inr e
      | .inl q => match an_ptx sg tk m q.2.2 with
        | .inr e => .inr e
        | .inl l => .inl ((an_lwd sg (tk j).1, q.1, q.2.1) :: l))
    else .inr (1, j)
theorem an_ptx_0 {sg : Bool} {tk : Nat → an_tke} {j : Nat} : an_ptx sg tk 0 j = if (tk j).1 = 0 then .inl [] else if 100 ≤ (tk j).1 ∧ (tk j).1 ≤ an_lwm sg then .inr (3, j) else .inr (1, j) := rfl
theorem an_ptx_s {sg : Bool} {tk : Nat → an_tke} {m j : Nat} : an_ptx sg tk (m + 1) j = if (tk j).1 = 0 then .inl [] else if 100 ≤ (tk j).1 ∧ (tk j).1 ≤ an_lwm sg then (match an_pln sg tk (j + 1) with
      | .inr e => .inr e
      | .inl q => match an_ptx sg tk m q.2.2 with
        | .inr e => .inr e
        | .inl l => .inl ((an_lwd sg (tk j).1, q.1, q.2.1) :: l))
    else .inr (1, j) := rfl
theorem an_okl_tx {sg : Bool} {tk : Nat → an_tke} (hk : ∀ j, an_tko (tk j)) : ∀ m j l, an_ptx sg tk m j = .inl l → l.length ≤ m ∧ ∀ e ∈ l, e.1 < 4 ∧ (sg = false → an_ty sg e.2.1 [] [false]) ∧ ((e.2.2 = [] ∧ sg = false) ∨ an_ty sg e.2.2 [] [true]) := by
  intro m
  induction m with
  | zero =>
    intro j l h
    rw [an_ptx_0] at h
    split at h
    · cases h; exact ⟨Nat.le_refl _, fun e he => absurd he (by simp)⟩
    · split at h <;> cases h
  | succ m ih =>
    intro j l h
    rw [an_ptx_s] at h
    split at h
    · cases h; exact ⟨by simp, fun e he => absurd he (by simp)⟩
    · split at h
      · rename_i hw
        split at h
        · cases h
        · rename_i q hq
          split at h
          · cases h
          · rename_i l' hl
            cases h
            obtain ⟨i1, i2⟩ := ih _ _ hl
            refine ⟨by simp; omega, fun e he => ?_⟩
            rcases List.mem_cons.mp he with rfl | he
            · have two : ∀ (s : List (Nat × Nat)) (j1 : Nat), an_pl2 sg tk s j1 = .inl q → q.1 = s ∧ ((q.2.1 = [] ∧ sg = false) ∨ an_ty sg q.2.1 [] [true]) := by
                intro s j1 h2
                unfold an_pl2 at h2
                split at h2
                · split at h2
                  · cases h2
                  · rename_i q' hq'
                    split at h2
                    · cases h2
                      exact ⟨rfl, Or.inr (an_pty_wh hk (show an_pwh sg tk (j1 + 1) = .inl (q'.1, q'.2) by rw [hq'])).1⟩
                    · cases h2
                · cases sg with
                  | true => cases h2
                  | false =>
                    dsimp only at h2
                    split at h2
                    · cases h2; exact ⟨rfl, Or.inl ⟨rfl, rfl⟩⟩
                    · cases h2
              unfold an_pln at hq
              cases sg with
              | true =>
                dsimp only at hq
                obtain ⟨t1, t2⟩ := two _ _ hq
                exact ⟨by show 3 < 4; omega, fun z => Bool.noConfusion z, t2⟩
              | false =>
                dsimp only at hq
                simp only [an_lwm] at hw
                split at hq
                · cases hq
                · rename_i p hp
                  obtain ⟨t1, t2⟩ := two _ _ hq
                  refine ⟨by show (tk j).1 - 100 < 4; omega, fun _ => ?_, t2⟩
                  show an_ty false q.1 [] [false]
                  rw [t1]
                  exact (an_pty_su hk (show an_psum false tk (j + 1) = .inl (p.1, p.2) by rw [hp])).1
            · exact i2 e he
      · cases h
/-- the lines that the draft holds, in c codes -/
def an_dX (sg : Bool) (μ : am_M) (ls : List an_Ln) (c : Nat) : Prop := μ 4 6 = nI ls.length ∧ ∀ i e, ls[i]? = some e → ∃ p q r, (sg = false → μ 6 i = nI e.1) ∧ μ 7 i = nI p ∧ μ 8 i = nI q ∧ μ 9 i = nI r ∧ r ≤ c ∧ an_sq (an_C sg (μ 5)) p e.2.1 q ∧ an_sq (an_C sg (μ 5)) q e.2.2 r
theorem an_dX_scX {sg : Bool} {μ : am_M} {ls : List an_Ln} {c : Nat} (h : an_dX sg μ ls c) (hc : c ≤ 400) : an_scX sg 4 μ ls := by
  obtain ⟨h1, h2⟩ := h
  refine ⟨h1, fun i e he => ?_⟩
  obtain ⟨p, q, r, g1, g2, g3, g4, g5, g6, g7⟩ := h2 i e he
  exact ⟨p, q, r, g1, g2, g3, g4, by omega, g6, g7⟩
def an_cF (μ μ' : am_M) : Prop := an_un [3, 4, 5, 6, 7, 8, 9] μ μ' ∧ ∀ f, f ≠ 5 → f ≠ 7 → f ≠ 8 → μ' 3 f = μ 3 f
theorem an_cF_tr {μ μ' μ'' : am_M} (h : an_cF μ μ') (h' : an_cF μ' μ'') : an_cF μ μ'' := ⟨an_un_tr h.1 h'.1 (fun _ z => z) (fun _ z => z), fun f a b c => (h'.2 f a b c).trans (h.2 f a b c)⟩
theorem an_cF_cf {μ μ' : am_M} (h : an_cf μ μ') : an_cF μ μ' := ⟨fun c hc => h.1 c (fun z => hc (by simp at z ⊢; omega)), h.2.1⟩
theorem an_cF_rf {μ : am_M} : an_cF μ μ := ⟨an_un_rf, fun _ _ _ _ => rfl⟩
/-- a text is compiled: what is answered -/
def an_cT (sg : Bool) (tk : Nat → an_tke) (ls : List an_Ln) (R : (List an_Ln) ⊕ (Nat × Nat)) (r : Int32) (μ' : am_M) : Prop := match R with
  | .inl l => r = nI 1 ∧ ∃ c, c ≤ 400 ∧ an_dX sg μ' (ls ++ l) c
  | .inr e => r = nI 0 ∧ μ' 3 7 = nI e.1 ∧ μ' 3 8 = nI (tk e.2).2.2.1
theorem c_open {L d n c : Nat} {μ : am_M} {F : am_M → Prop} {x : Int32} (hn : n < 12) (h6 : μ 4 6 = nI n) (h7 : μ 4 7 = nI c) (hF : ∀ μ', an_un [6, 7] μ μ' → μ' 6 = upd (μ 6) n x → μ' 7 = upd (μ 7) n (nI c) → F μ') : am_Cv L d 63 [.ref 4, .int x] μ F := by
  refine v_Script_openLine ?_
  rw [h6, if_neg (nI_ge hn (by omega)), am_gd_in (by omega) (by omega), am_cl (by omega)]
  intro μ1 e1
  rw [an_w_c e1 (by decide), h6, h7, am_gd_in (by omega) (by omega), am_cl (by omega)]
  intro μ2 e2
  refine hF μ2 (an_un_tr (e1 ▸ an_un_w (l := [6, 7]) (by simp)) (e2 ▸ an_un_w (l := [6, 7]) (by simp)) (fun _ z => z) (fun _ z => z)) ?_ ?_
  · rw [an_w_c e2 (by decide), e1, am_w_at]
  · rw [e2, am_w_at, an_w_c e1 (by decide)]
theorem c_opc {L d n c : Nat} {μ : am_M} {F : am_M → Prop} (hn : n < 12) (h6 : μ 4 6 = nI n) (h7 : μ 4 7 = nI c) (hF : ∀ μ', an_un [8] μ μ' → μ' 8 = upd (μ 8) n (nI c) → F μ') : am_Cv L d 64 [.ref 4] μ F := by
  refine v_Script_openCondition ?_
  rw [h6, h7, if_neg (nI_ge hn (by omega)), am_gd_in (by omega) (by omega), am_cl (by omega)]
  intro μ1 e1
  exact hF μ1 (e1 ▸ an_un_w (by simp)) (by rw [e1, am_w_at])
theorem c_close {L d n c : Nat} {μ : am_M} {F : am_M → Prop} (hn : n < 12) (h6 : μ 4 6 = nI n) (h7 : μ 4 7 = nI c) (hF : ∀ μ', an_un [4, 9] μ μ' → (∀ f, f ≠ 6 → μ' 4 f = μ 4 f) → μ' 9 = upd (μ 9) n (nI c) → μ' 4 6 = nI (n + 1) → F μ') : am_Cv L d 65 [.ref 4] μ F := by
  refine v_Script_closeLine ?_
  rw [h6, h7, if_neg (nI_ge hn (by omega)), am_gd_in (by omega) (by omega), am_cl (by omega)]
  intro μ1 e1
  rw [an_w_c e1 (by decide), h6, nI_add]
  intro μ2 e2
  refine hF μ2 (an_un_tr (e1 ▸ an_un_w (l := [4, 9]) (by simp)) (e2 ▸ an_un_w (l := [4, 9]) (by simp)) (fun _ z => z) (fun _ z => z)) (fun f hf => by rw [an_w_o e2 hf, an_w_c e1 (by decide)]) ?_ (an_w_s e2)
  rw [an_w_c e2 (by decide), e1, am_w_at]
theorem c_lines {L N : Nat} {sg : Bool} {tk : Nat → an_tke} (ht : an_tko2 tk N) : ∀ (m n j c d : Nat) (ls : List an_Ln) (μ : am_M) (F : Int32 → am_M → Prop), n + m = 12 → 40 ≤ d → ls.length = n → an_cI tk N μ j c → μ 3 6 = an_b sg → an_dX sg μ ls c → (∀ r μ', an_cF μ μ' → an_cT sg tk ls (an_ptx sg tk m j) r μ' → F r μ') → am_Ji L d 39 24 [some (.ref 3), none, none, some (.int (nI n))] [] μ F := by
  intro m
  induction m with
  | zero =>
    intro n j c d ls μ F hn hd hl hI h6 hX hF
    obtain rfl : n = 12 := by omega
    have lt := an_tk_lt ht j
    refine v_Reader_compile_24 ?_
    rw [if_neg (nI_nlt (by omega) (by omega))]
    refine ⟨by omega, c_kind hI ?_⟩
    rw [an_ptx_0] at hF
    by_cases k0 : (tk j).1 = 0
    · rw [k0, if_neg (fun z => z nI_0)]
      rw [if_pos k0] at hF
      refine hF _ μ an_cF_rf ⟨rfl, c, by have := hI.2.2.1; have := hI.2.2.2.1; have := hI.2.2.2.2.2; omega, ?_⟩
      rw [List.append_nil]
      exact hX
    rw [if_neg k0] at hF
    rw [if_pos (nI_ne0 (by omega) (by omega))]
    refine ⟨by omega, c_kind hI ?_⟩
    have bad : ∀ k, an_ptx sg tk 0 j = .inr (k, j) → am_Ci L (d - 1) 42 [.ref 3, .int (nI k)] μ (fun y6 μ5 => am_gd (am_nar 1 y6) (F y6 μ5)) := by
      intro k hk
      rw [an_ptx_0, if_neg k0] at hk
      rw [hk] at hF
      exact c_fail (sg := sg) hI (fun μ' p' => hF _ μ' (an_cF_cf p'.2.1) ⟨rfl, p'.2.2.1, p'.2.2.2⟩)
    rw [am_dp (by omega), h6]
    have ek : an_ptx sg tk 0 j = if 100 ≤ (tk j).1 ∧ (tk j).1 ≤ an_lwm sg then .inr (3, j) else .inr (1, j) := by rw [an_ptx_0, if_neg k0]
    by_cases k1 : (tk j).1 < 100
    · rw [if_pos (nI_lt k1 (by omega))]
      exact ⟨by omega, bad 1 (by rw [ek, if_neg (by omega)])⟩
    rw [if_neg (nI_nlt (by omega) (by omega))]
    cases sg with
    | false =>
      rw [if_pos (show an_b false = 0 by decide)]
      by_cases k2 : 102 < (tk j).1
      · rw [if_pos (nI_lt k2 (by omega))]
        exact ⟨by omega, bad 1 (by rw [ek, if_neg (by simp only [an_lwm]; omega)])⟩
      rw [if_neg (nI_nlt (by omega) (by omega)), if_neg (fun z => z rfl)]
      exact ⟨by omega, bad 3 (by rw [ek, if_pos (by simp only [an_lwm]; omega)])⟩
    | true =>
      rw [if_neg (show ¬ an_b true = 0 by decide)]
      by_cases k2 : 100 < (tk j).1
      · rw [if_pos (nI_lt k2 (by omega))]
        exact ⟨by omega, bad 1 (by rw [ek, if_neg (by simp only [an_lwm]; omega)])⟩
      rw [if_neg (nI_nlt (by omega) (by omega)), if_neg (fun z => z rfl)]
      exact ⟨by omega, bad 3 (by rw [ek, if_pos (by simp only [an_lwm]; omega)])⟩
  | succ m ih =>
    intro n j c d ls μ F hn hd hl hI h6 hX hF
    have lt := an_tk_lt ht j
    have n12 : n < 12 := by omega
    refine v_Reader_compile_24 ?_
    rw [if_neg (nI_nlt (by omega) (by omega))]
    refine ⟨by omega, c_kind hI ?_⟩
    by_cases k0 : (tk j).1 = 0
    · rw [an_ptx_s, if_pos k0] at hF
      rw [k0, if_neg (fun z => z nI_0)]
      refine hF _ μ an_cF_rf ⟨rfl, c, by have := hI.2.2.1; have := hI.2.2.2.1; have := hI.2.2.2.2.2; omega, ?_⟩
      rw [List.append_nil]
      exact hX
    rw [if_pos (nI_ne0 (by omega) (by omega))]
    refine ⟨by omega, c_kind hI ?_⟩
    have bad : ¬ (100 ≤ (tk j).1 ∧ (tk j).1 ≤ an_lwm sg) → am_Ci L (d - 1) 42 [.ref 3, .int (nI 1)] μ (fun y6 μ5 => am_gd (am_nar 1 y6) (F y6 μ5)) := by
      intro hk
      rw [an_ptx_s, if_neg k0, if_neg hk] at hF
      exact c_fail (sg := sg) hI (fun μ' p' => hF _ μ' (an_cF_cf p'.2.1) ⟨rfl, p'.2.2.1, p'.2.2.2⟩)
    -- behind the line's word
    have good : (100 ≤ (tk j).1 ∧ (tk j).1 ≤ an_lwm sg) → am_Ci L (d - 1) 41 [.ref 3] μ (fun y10 μ9 => 0 < d ∧ am_Cv L (d - 1) 63 [.ref 4, .int (y10 - (nI 100))] μ9 (fun μ11 => am_put (am_w μ11 3 5 ((μ11 3 5) + (nI 1))) (fun μ12 => if ¬ (μ12 3 6) = 0 then am_Ji L d 39 108 [some (.ref 3), none, none, some (.int (nI n))] [] μ12 F else 0 < d ∧ am_Ci L (d - 1) 46 [.ref 3] μ12 (fun y14 μ13 => if ¬ y14 = 0 then am_Ji L d 39 108 [some (.ref 3), none, none, some (.int (nI n))] [] μ13 F else F (nI 0) μ13)))) := by
      intro hk
      rw [an_ptx_s, if_neg k0, if_pos hk] at hF
      refine c_kind hI ?_
      rw [pk_sub (by omega)]
      refine ⟨by omega, c_open (n := n) (c := c) n12 (by rw [hX.1, hl]) hI.2.2.2.2.1 (fun μ1 u1 r6 r7 => ?_)⟩
      have I1 : an_cI tk N μ1 j c := by
        obtain ⟨⟨t1, t2⟩, i3, i4, i5, i6, i7⟩ := hI
        refine ⟨⟨by rw [u1 3 (by decide)]; exact t1, fun i hi => by rw [u1 11 (by decide), u1 12 (by decide), u1 13 (by decide)]; exact t2 i hi⟩, by rw [u1 3 (by decide)]; exact i3, i4, i5, by rw [u1 4 (by decide)]; exact i6, i7⟩
      rw [I1.2.1, nI_add]
      intro μ2 e2
      have g2 := an_adv (sg := sg) ht I1 k0 e2
      have I2 := g2.2.1
      have f2 : an_cF μ μ2 := an_cF_tr ⟨fun q hq => u1 q (fun z => hq (by simp at z ⊢; omega)), fun f _ _ _ => by rw [u1 3 (by decide)]⟩ (an_cF_cf g2.1)
      have z6 : μ2 3 6 = an_b sg := by rw [f2.2 6 (by decide) (by decide) (by decide)]; exact h6
      have d6 : μ2 6 = upd (μ 6) n (nI ((tk j).1 - 100)) := by rw [g2.1.1 6 (by decide)]; exact r6
      have d7 : μ2 7 = upd (μ 7) n (nI c) := by rw [g2.1.1 7 (by decide)]; exact r7
      have d8 : μ2 8 = μ 8 := by rw [g2.1.1 8 (by decide), u1 8 (by decide)]
      have d9 : μ2 9 = μ 9 := by rw [g2.1.1 9 (by decide), u1 9 (by decide)]
      have d46 : μ2 4 6 = nI n := by rw [g2.1.2.2 6 (by decide), u1 4 (by decide), hX.1, hl]
      have d5 : ∀ i, i < c → μ2 5 i = μ 5 i := fun i hi => by rw [g2.2.2.2.2 i hi, u1 5 (by decide)]
      -- behind the sum
      have rest : ∀ (s : List (Nat × Nat)) (μ3 : am_M) (j3 c3 : Nat), an_cg sg tk N μ2 (j + 1) c s μ3 j3 c3 → (∀ r μ', an_cF μ μ' → an_cT sg tk ls (match an_pl2 sg tk s j3 with | .inr e => .inr e | .inl q => match an_ptx sg tk m q.2.2 with | .inr e => .inr e | .inl l => .inl ((an_lwd sg (tk j).1, q.1, q.2.1) :: l)) r μ' → F r μ') → am_Ji L d 39 108 [some (.ref 3), none, none, some (.int (nI n))] [] μ3 F := by
        intro s μ3 j3 c3 g3 hF3
        have I3 := g3.2.1
        have l3 := an_cg_le g3
        refine v_Reader_compile_108 ?_
        refine ⟨by omega, c_opc (n := n) (c := c3) n12 (by rw [g3.1.2.2 6 (by decide)]; exact d46) I3.2.2.2.2.1 (fun μ4 u4 r8 => ?_)⟩
        have I4 : an_cI tk N μ4 j3 c3 := by
          obtain ⟨⟨t1, t2⟩, i3, i4, i5, i6, i7⟩ := I3
          exact ⟨⟨by rw [u4 3 (by decide)]; exact t1, fun i hi => by rw [u4 11 (by decide), u4 12 (by decide), u4 13 (by decide)]; exact t2 i hi⟩, by rw [u4 3 (by decide)]; exact i3, i4, i5, by rw [u4 4 (by decide)]; exact i6, i7⟩
        have f4 : an_cF μ μ4 := an_cF_tr (an_cF_tr f2 (an_cF_cf g3.1)) ⟨fun q hq => u4 q (fun z => hq (by simp at z ⊢; omega)), fun f _ _ _ => by rw [u4 3 (by decide)]⟩
        have lt3 := an_tk_lt ht j3
        refine ⟨by omega, c_kind I4 ?_⟩
        -- behind the condition
        have last : ∀ (s' : List (Nat × Nat)) (μ5 : am_M) (j5 c5 : Nat), an_cg sg tk N μ4 j3 c3 s' μ5 j5 c5 → (∀ r μ', an_cF μ μ' → an_cT sg tk ls (match (if (tk j5).1 = 59 then .inl (s, s', j5 + 1) else .inr (1, j5) : an_LR) with | .inr e => .inr e | .inl q => match an_ptx sg tk m q.2.2 with | .inr e => .inr e | .inl l => .inl ((an_lwd sg (tk j).1, q.1, q.2.1) :: l)) r μ' → F r μ') → am_Ji L d 39 157 [some (.ref 3), none, none, some (.int (nI n))] [] μ5 F := by
          intro s' μ5 j5 c5 g5 hF5
          have I5 := g5.2.1
          have l5 := an_cg_le g5
          have lt5 := an_tk_lt ht j5
          have f5 : an_cF μ μ5 := an_cF_tr f4 (an_cF_cf g5.1)
          refine v_Reader_compile_157 ?_
          refine ⟨by omega, c_kind I5 ?_⟩
          by_cases k59 : (tk j5).1 = 59
          · rw [if_pos (by rw [k59]), I5.2.1, nI_add]
            rw [if_pos k59] at hF5
            dsimp only at hF5
            intro μ6 e6
            have g6 := an_adv (sg := sg) ht I5 (by omega) e6
            have I6 := g6.2.1
            have k46 : μ6 4 6 = nI n := by rw [g6.1.2.2 6 (by decide), g5.1.2.2 6 (by decide), u4 4 (by decide), g3.1.2.2 6 (by decide)]; exact d46
            refine ⟨by omega, c_close (n := n) (c := c5) n12 k46 I6.2.2.2.2.1 (fun μ7 u7 v7 r9 k7 => ?_)⟩
            rw [nI_add]
            have I7 : an_cI tk N μ7 (j5 + 1) c5 := by
              obtain ⟨⟨t1, t2⟩, i3, i4, i5, i6, i7⟩ := I6
              exact ⟨⟨by rw [u7 3 (by decide)]; exact t1, fun i hi => by rw [u7 11 (by decide), u7 12 (by decide), u7 13 (by decide)]; exact t2 i hi⟩, by rw [u7 3 (by decide)]; exact i3, i4, i5, by rw [v7 7 (by decide)]; exact i6, i7⟩
            have f7 : an_cF μ μ7 := an_cF_tr (an_cF_tr f5 (an_cF_cf g6.1)) ⟨fun q hq => u7 q (fun z => hq (by simp at z ⊢; omega)), fun f _ _ _ => by rw [u7 3 (by decide)]⟩
            have c57 : μ7 5 = μ5 5 := by rw [u7 5 (by decide), an_w_c e6 (by decide)]
            have c45 : ∀ i, i < c3 → μ7 5 i = μ3 5 i := fun i hi => by rw [c57, g5.2.2.2.2 i hi, u4 5 (by decide)]
            have X7 : an_dX sg μ7 (ls ++ [(an_lwd sg (tk j).1, s, s')]) c5 := by
              have a6 : μ7 6 = upd (μ 6) n (nI ((tk j).1 - 100)) := by rw [u7 6 (by decide), an_w_c e6 (by decide), g5.1.1 6 (by decide), u4 6 (by decide), g3.1.1 6 (by decide), d6]
              have a7 : μ7 7 = upd (μ 7) n (nI c) := by rw [u7 7 (by decide), an_w_c e6 (by decide), g5.1.1 7 (by decide), u4 7 (by decide), g3.1.1 7 (by decide), d7]
              have a8 : μ7 8 = upd (μ 8) n (nI c3) := by rw [u7 8 (by decide), an_w_c e6 (by decide), g5.1.1 8 (by decide), r8, g3.1.1 8 (by decide), d8]
              have a9 : μ7 9 = upd (μ 9) n (nI c5) := by rw [r9, an_w_c e6 (by decide), g5.1.1 9 (by decide), u4 9 (by decide), g3.1.1 9 (by decide), d9]
              refine ⟨by rw [k7, List.length_append, hl]; rfl, fun i e he => ?_⟩
              rcases Nat.lt_or_ge i ls.length with q | q
              · rw [List.getElem?_append_left q] at he
                obtain ⟨p', q', r', x1, x2, x3, x4, x5, x6, x7⟩ := hX.2 i e he
                have y5 : ∀ i, i < c → μ7 5 i = μ 5 i := fun i hi => by rw [c45 i (by omega), g3.2.2.2.2 i hi, d5 i hi]
                have sl := (an_sq_le an_C_lt _ _ _ x7).1
                refine ⟨p', q', r', fun z => by rw [a6, pk_un (by omega)]; exact x1 z, by rw [a7, pk_un (by omega)]; exact x2, by rw [a8, pk_un (by omega)]; exact x3, by rw [a9, pk_un (by omega)]; exact x4, by omega, an_sqC_c x6 (fun i hi => y5 i (by omega)), an_sqC_c x7 (fun i hi => y5 i (by omega))⟩
              · rw [List.getElem?_append_right q] at he
                have hi0 : i - ls.length = 0 := by
                  rcases Nat.eq_zero_or_pos (i - ls.length) with y | y
                  · exact y
                  · rw [List.getElem?_eq_none (by simp; omega)] at he; cases he
                have ei : i = n := by omega
                rw [hi0] at he
                have he : (an_lwd sg (tk j).1, s, s') = e := by simpa using he
                subst he
                subst ei
                refine ⟨c, c3, c5, fun z => ?_, by rw [a7, pk_us], by rw [a8, pk_us], by rw [a9, pk_us], Nat.le_refl _, an_sqC_c g3.2.2.2.1 (fun i hi => c45 i hi), an_sqC_c g5.2.2.2.1 (fun i hi => by rw [c57])⟩
                rw [a6, pk_us, z]
                rfl
            refine ih (n + 1) (j5 + 1) c5 d (ls ++ [(an_lwd sg (tk j).1, s, s')]) μ7 F (by omega) hd (by rw [List.length_append, hl]; rfl) I7 (by rw [f7.2 6 (by decide) (by decide) (by decide)]; exact h6) X7 (fun r μ' f' p' => hF5 r μ' (an_cF_tr f7 f') ?_)
            revert p'
            cases an_ptx sg tk m (j5 + 1) with
            | inr e => exact fun p' => p'
            | inl l =>
              intro p'
              obtain ⟨p1, c', p2, p3⟩ := p'
              refine ⟨p1, c', p2, ?_⟩
              rw [List.append_assoc] at p3
              exact p3
          · rw [if_neg (fun z => k59 ((an_ck lt5 (by omega)).mp z))]
            rw [if_neg k59] at hF5
            exact ⟨by omega, c_fail (sg := sg) I5 (fun μ' p' => hF5 _ μ' (an_cF_tr f5 (an_cF_cf p'.2.1)) ⟨rfl, p'.2.2.1, p'.2.2.2⟩)⟩
        unfold an_pl2 at hF3
        by_cases k103 : (tk j3).1 = 103
        · rw [if_neg (fun z => z (by rw [k103])), I4.2.1, nI_add]
          rw [if_pos k103] at hF3
          intro μ5 e5
          have g5 := an_adv (sg := sg) ht I4 (by omega) e5
          refine ⟨by omega, c_when (sg := sg) ht (d - 1) (j3 + 1) c3 μ5 _ (by omega) g5.2.1 (fun r μ6 p6 => ?_)⟩
          cases hP : an_pwh sg tk (j3 + 1) with
          | inr e =>
            rw [hP] at p6 hF3
            have hr := p6.1
            subst hr
            rw [if_neg (fun z => z nI_0)]
            exact hF3 _ μ6 (an_cF_tr (an_cF_tr f4 (an_cF_cf g5.1)) (an_cF_cf p6.2.1)) ⟨rfl, p6.2.2.1, p6.2.2.2⟩
          | inl pp =>
            rw [hP] at p6 hF3
            obtain ⟨hr, c6, g6⟩ := p6
            subst hr
            rw [if_pos (by decide)]
            exact last pp.1 μ6 pp.2 c6 (an_cg_tr (s := []) g5 g6) hF3
        · rw [if_pos (fun z => k103 ((an_ck lt3 (by omega)).mp z))]
          rw [if_neg k103] at hF3
          have z64 : μ4 3 6 = an_b sg := by rw [f4.2 6 (by decide) (by decide) (by decide)]; exact h6
          rw [z64]
          cases sg with
          | false =>
            rw [if_pos (show an_b false = 0 by decide)]
            exact last [] μ4 j3 c3 (an_cg_rf I4) hF3
          | true =>
            rw [if_neg (show ¬ an_b true = 0 by decide)]
            exact ⟨by omega, c_fail (sg := true) I4 (fun μ' p' => hF3 _ μ' (an_cF_tr f4 (an_cF_cf p'.2.1)) ⟨rfl, p'.2.2.1, p'.2.2.2⟩)⟩
      rw [z6]
      unfold an_pln at hF
      cases sg with
      | true =>
        rw [if_pos (show ¬ an_b true = 0 by decide)]
        exact rest [] μ2 (j + 1) c (an_cg_rf I2) hF
      | false =>
        rw [if_neg (show ¬ ¬ an_b false = 0 by decide)]
        refine ⟨by omega, c_sum (sg := false) ht (d - 1) (j + 1) c μ2 _ (by omega) I2 (fun r μ3 p3 => ?_)⟩
        dsimp only at hF
        cases hP : an_psum false tk (j + 1) with
        | inr e =>
          rw [hP] at p3 hF
          have hr := p3.1
          subst hr
          rw [if_neg (fun z => z nI_0)]
          exact hF _ μ3 (an_cF_tr f2 (an_cF_cf p3.2.1)) ⟨rfl, p3.2.2.1, p3.2.2.2⟩
        | inl pp =>
          rw [hP] at p3 hF
          obtain ⟨hr, c3, g3⟩ := p3
          subst hr
          rw [if_pos (by decide)]
          exact rest pp.1 μ3 pp.2 c3 g3 hF
    rw [am_dp (by omega), h6]
    by_cases k1 : (tk j).1 < 100
    · rw [if_pos (nI_lt k1 (by omega))]
      exact ⟨by omega, bad (by omega)⟩
    rw [if_neg (nI_nlt (by omega) (by omega))]
    cases sg with
    | false =>
      rw [if_pos (show an_b false = 0 by decide)]
      by_cases k2 : 102 < (tk j).1
      · rw [if_pos (nI_lt k2 (by omega))]
        exact ⟨by omega, bad (by simp only [an_lwm]; omega)⟩
      rw [if_neg (nI_nlt (by omega) (by omega)), if_pos (fun z => by have := (nI_eq (by omega) (by omega)).mp z; omega)]
      exact ⟨by omega, good (by simp only [an_lwm]; omega)⟩
    | true =>
      rw [if_neg (show ¬ an_b true = 0 by decide)]
      by_cases k2 : 100 < (tk j).1
      · rw [if_pos (nI_lt k2 (by omega))]
        exact ⟨by omega, bad (by simp only [an_lwm]; omega)⟩
      rw [if_neg (nI_nlt (by omega) (by omega)), if_pos (fun z => by have := (nI_eq (by omega) (by omega)).mp z; omega)]
      exact ⟨by omega, good (by simp only [an_lwm]; omega)⟩
theorem c_compile {L d : Nat} {μ : am_M} {F : Int32 → am_M → Prop} {B : Nat → Nat} {T : Nat} {sg : Bool} (hd : 42 ≤ d) (hB : an_tb 2 μ B T) (h1 : μ 1 1 = nI T) (hF : ∀ r μ', an_un [3, 4, 5, 6, 7, 8, 9, 11, 12, 13] μ μ' → an_cT sg (an_tk sg B T) [] (an_ptx sg (an_tk sg B T) 12 0) r μ' → F r μ') : am_Ci L d 39 [.ref 3, .ref 1, .int (an_b sg)] μ F := by
  obtain ⟨N, n0, n1, n2, n3, n4, n5⟩ := an_tk_N (sg := sg) (B := B) (T := T)
  have ht : an_tko2 (an_tk sg B T) N := ⟨n4, fun j hj => by rw [n3 j hj]⟩
  have hT := hB.1
  refine v_Reader_compile ?_
  have g : (Nat.beq 1 0 || (Nat.beq 1 1 && (decide (an_b sg = 0) || decide (an_b sg = 1)))) = true := by cases sg <;> decide
  rw [g]
  intro μ1 e1
  refine ⟨by omega, w_scan (sg := sg) (B := B) (T := T) (N := N) (by omega) ⟨hT, fun j hj => by rw [an_w_c e1 (by decide)]; exact hB.2 j hj⟩ (by rw [an_w_c e1 (by decide)]; exact h1) (an_w_s e1) n0 n2 n3 (fun μ2 u2 s2 => ?_)⟩
  intro μ3 e3
  refine ⟨by omega, v_Script_clear ?_⟩
  intro μ4 e4 μ5 e5
  have z6 : μ5 3 6 = an_b sg := by rw [an_w_c e5 (by decide), an_w_c e4 (by decide), an_w_o e3 (by decide), u2.2 6 (by decide), an_w_s e1]
  have I5 : an_cI (an_tk sg B T) N μ5 0 0 := by
    obtain ⟨t1, t2⟩ := s2
    refine ⟨⟨?_, fun i hi => ?_⟩, ?_, n0, by omega, an_w_s e5, Nat.le_refl _⟩
    · rw [an_w_c e5 (by decide), an_w_c e4 (by decide), an_w_o e3 (by decide)]; exact t1
    · rw [an_w_c e5 (by decide), an_w_c e4 (by decide), an_w_c e3 (by decide), an_w_c e5 (by decide), an_w_c e4 (by decide), an_w_c e3 (by decide), an_w_c e5 (by decide), an_w_c e4 (by decide), an_w_c e3 (by decide)]; exact t2 i hi
    · rw [an_w_c e5 (by decide), an_w_c e4 (by decide)]; exact an_w_s e3
  have X5 : an_dX sg μ5 [] 0 := ⟨by rw [an_w_o e5 (by decide)]; exact an_w_s e4, fun i e he => by simp at he⟩
  refine c_lines ht 12 0 0 0 d [] μ5 F (by omega) (by omega) rfl I5 z6 X5 (fun r μ' f' p' => hF r μ' (fun q hq => ?_) p')
  simp only [List.mem_cons, List.not_mem_nil, or_false, not_or] at hq
  rw [f'.1 q (by simp; omega), an_w_c e5 (by omega), an_w_c e4 (by omega), an_w_c e3 (by omega), u2.1 q (by simp; omega), an_w_c e1 (by omega)]
