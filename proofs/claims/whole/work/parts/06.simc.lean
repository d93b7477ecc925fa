/-! The rows that change cells. -/
def am_slc (e : Nat × List Value) : Nat := bif Nat.ble 100 e.1 then e.1 - 100 else e.2.length
def am_sl (S : am_Sh) : Nat := (S.map am_slc).sum
theorem am_sl_app (S : am_Sh) (e : Nat × List Value) : am_sl (S ++ [e]) = am_sl S + am_slc e := by simp [am_sl]
theorem am_sl_set : ∀ (S : am_Sh) (c : Nat) (e e' : Nat × List Value), S[c]? = some e → am_slc e' = am_slc e → am_sl (S.set c e') = am_sl S := by
  intro S
  induction S with
  | nil => intro c e e' h; simp at h
  | cons x t ih =>
    intro c e e' h h2
    cases c with
    | zero =>
      simp at h
      subst h
      simp [am_sl, h2]
    | succ c =>
      have := ih c e e' (by simpa using h) h2
      simp only [am_sl, List.set_cons_succ, List.map_cons, List.sum_cons] at this ⊢
      omega
theorem am_set_same {α : Type} {S : List α} {c : Nat} {e : α} (h : S[c]? = some e) : S.set c e = S := by
  apply List.ext_getElem?
  intro j
  rw [List.getElem?_set]
  by_cases hj : c = j
  · subst hj
    rw [if_pos rfl, if_pos (am_lt_len h), h]
  · rw [if_neg hj]
theorem am_ad_push {G : am_G} {al : List Nat} {q a : Nat} (h9 : al.length ≤ 900) (h : am_okV al.length (.ref a) = true) : am_ad G (al ++ [q]) a = am_ad G al a := by
  unfold am_ad
  have h : (Nat.blt a al.length || Nat.ble 1000 a) = true := h
  cases h1 : Nat.blt a 1000 with
  | false => rfl
  | true =>
    have h2 : a < al.length := by
      rcases (Bool.or_eq_true _ _).mp h with h | h
      · exact am_blt.mp h
      · exact absurd (Nat.le_of_ble_eq_true h) (Nat.not_le.mpr (am_blt.mp h1))
    show (al ++ [q]).getD a 0 = al.getD a 0
    rw [List.getD_eq_getElem?_getD, List.getD_eq_getElem?_getD, List.getElem?_append_left h2]
theorem am_tr_push {G : am_G} {al : List Nat} {q : Nat} {v : Value} (h9 : al.length ≤ 900) (h : am_okV al.length v = true) : am_tr G (al ++ [q]) v = am_tr G al v := by
  cases v with
  | ref a => show Value.ref _ = Value.ref _; rw [am_ad_push h9 h]
  | _ => rfl
theorem am_cell_push {G : am_G} {dA dB : ClassId} {al : List Nat} {μ : am_M} {q c : Nat} {e : Nat × List Value} (h9 : al.length ≤ 900) (h : am_okS al.length e.2 = true) : am_cell G dA dB (al ++ [q]) μ c e = am_cell G dA dB al μ c e := by
  have hv : ∀ v ∈ e.2, am_okV al.length v = true := fun v hv => List.all_eq_true.mp h v hv
  unfold am_cell
  have e1 : e.2.mapIdx (am_fld G (al ++ [q]) μ c) = e.2.mapIdx (am_fld G al μ c) := by
    apply List.ext_getElem?
    intro j
    rw [List.getElem?_mapIdx, List.getElem?_mapIdx]
    cases hj : e.2[j]? with
    | none => rfl
    | some v =>
      have := am_tr_push (G := G) (q := q) h9 (hv v (List.mem_of_getElem? hj))
      cases v <;> simp_all [am_fld]
  have e2 : am_qf G (al ++ [q]) e.2 = am_qf G al e.2 := by
    funext j
    unfold am_qf
    cases hj : e.2[j]? with
    | none => rfl
    | some v =>
      cases v with
      | ref a => show some _ = some _; rw [am_ad_push h9 (hv _ (List.mem_of_getElem? hj))]
      | _ => rfl
  rw [e1, e2]
theorem am_conc_push {G : am_G} {dA dB : ClassId} {al : List Nat} {S : am_Sh} {μ : am_M} {q : Nat} {e : Nat × List Value} {f : Nat → Int32} {x : va_E} (hlen : al.length = S.length) (h9 : S.length ≤ 900) (hok : am_okH S.length S = true) (hx : am_cell G dA dB (al ++ [q]) (am_row μ S.length f) S.length e = x) :
    am_conc G dA dB al S μ ++ [(q, x)] = am_conc G dA dB (al ++ [q]) (S ++ [e]) (am_row μ S.length f) := by
  apply List.ext_getElem?
  intro j
  have hl : (am_conc G dA dB al S μ).length = S.length := by unfold am_conc; simp
  rw [am_conc_at]
  by_cases hj : j < S.length
  · rw [List.getElem?_append_left (by omega), List.getElem?_append_left hj, am_conc_at]
    cases hs : S[j]? with
    | none => rfl
    | some y =>
      simp only [Option.map_some]
      rw [am_cell_row (Nat.ne_of_lt hj), am_cell_push (by omega) (by rw [hlen]; exact List.all_eq_true.mp hok y (List.mem_of_getElem? hs)), List.getD_eq_getElem?_getD, List.getD_eq_getElem?_getD, List.getElem?_append_left (by omega)]
  · by_cases hj2 : j = S.length
    · subst hj2
      rw [List.getElem?_append_right (by omega), List.getElem?_append_right (Nat.le_refl _), hl]
      simp only [Nat.sub_self, List.getElem?_cons_zero, Option.map_some, hx]
      rw [List.getD_eq_getElem?_getD, List.getElem?_append_right (by omega), hlen]
      simp
    · rw [List.getElem?_eq_none (by simp; omega), List.getElem?_eq_none (by simp; omega)]
      rfl
theorem am_conc_push0 {G : am_G} {dA dB : ClassId} {al : List Nat} {S : am_Sh} {μ : am_M} {q : Nat} {e : Nat × List Value} {x : va_E} (hlen : al.length = S.length) (h9 : S.length ≤ 900) (hok : am_okH S.length S = true) (hx : am_cell G dA dB (al ++ [q]) μ S.length e = x) :
    am_conc G dA dB al S μ ++ [(q, x)] = am_conc G dA dB (al ++ [q]) (S ++ [e]) μ := by
  have h : am_row μ S.length (μ S.length) = μ := by
    funext c
    unfold am_row
    split
    · rename_i h; rw [h]
    · rfl
  have := am_conc_push (G := G) (dA := dA) (dB := dB) (μ := μ) (f := μ S.length) (q := q) (e := e) (x := x) hlen h9 hok (by rw [h]; exact hx)
  rw [h] at this
  exact this
/-- what is the same for each class -/
theorem am_cls : ∀ (ci : Nat) (q : vw_C), vwCl[ci]? = some q → ∃ ty0 : Nat → FieldType, (∀ k, k < q.2.2 → parseFieldDescriptor (q.2.1 k).2.2.1 = some (ty0 k)) ∧ (∀ a, a < q.2.2 → ∀ b, b < q.2.2 → a ≠ b → (q.2.1 a).2.1 ≠ (q.2.1 b).2.1) ∧ (∀ j, j < q.2.2 → defaultValue (ty0 j) = vp_V (am_def ci) j) ∧ (am_def ci).length = q.2.2 ∧ ci < 12 := by
  intro ci q h
  match ci, h with
  | 0, h => cases h; exact ⟨tyX0, tyX0_ok, nmX0, by decide +kernel, rfl, by decide⟩
  | 1, h => cases h; exact ⟨tyX1, tyX1_ok, nmX1, by decide +kernel, rfl, by decide⟩
  | 2, h => cases h; exact ⟨tyX2, tyX2_ok, nmX2, by decide +kernel, rfl, by decide⟩
  | 3, h => cases h; exact ⟨tyX3, tyX3_ok, nmX3, by decide +kernel, rfl, by decide⟩
  | 4, h => cases h; exact ⟨tyX4, tyX4_ok, nmX4, by decide +kernel, rfl, by decide⟩
  | 5, h => cases h; exact ⟨tyX5, tyX5_ok, nmX5, by decide +kernel, rfl, by decide⟩
  | 6, h => cases h; exact ⟨tyX6, tyX6_ok, nmX6, by decide +kernel, rfl, by decide⟩
  | 7, h => cases h; exact ⟨tyX7, tyX7_ok, nmX7, by decide +kernel, rfl, by decide⟩
  | 8, h => cases h; exact ⟨tyX8, tyX8_ok, nmX8, by decide +kernel, rfl, by decide⟩
  | 9, h => cases h; exact ⟨tyX9, tyX9_ok, nmX9, by decide +kernel, rfl, by decide⟩
  | 10, h => cases h; exact ⟨tyX10, tyX10_ok, nmX10, by decide +kernel, rfl, by decide⟩
  | 11, h => cases h; exact ⟨tyX11, tyX11_ok, nmX11, by decide +kernel, rfl, by decide⟩
  | k + 12, h => exact absurd (am_lt_len h) (by simp)
theorem am_def_new {G : am_G} {al : List Nat} {μ : am_M} {c : Nat} (h : μ c = fun _ => 0) : ∀ ci, ci < 12 → (am_def ci).mapIdx (am_fld G al μ c) = am_def ci := by
  intro ci hci
  match ci, hci with
  | 0, _ | 1, _ | 2, _ | 3, _ | 4, _ | 5, _ | 6, _ | 7, _ | 8, _ | 9, _ | 10, _ | 11, _ => simp [am_def, am_fld, h, am_tr]
  | k + 12, h => omega
theorem am_inb_in {i : Int32} {n : Nat} (h : am_inb i n = true) : vp_in i n := by
  unfold am_inb at h
  obtain ⟨h1, h2⟩ := (Bool.and_eq_true _ _).mp h
  have h1 : ¬ i < 0 := by simpa using h1
  have h2 := am_blt.mp h2
  exact fun q => q.elim h1 (fun q => absurd h2 (Nat.not_lt.mpr q))
theorem am_gr_new {S S' : am_Sh} {ls : am_L} {st : List Value} (h : am_gr S S' ls st = true) (hl : S'.length = S.length + 1) : am_okL S.length ls = true ∧ am_okS S.length st = true ∧ am_okH S.length S = true := by
  unfold am_gr at h
  have : Nat.beq S'.length S.length = false := by
    cases hq : Nat.beq S'.length S.length with
    | false => rfl
    | true => have := Nat.eq_of_beq_eq_true hq; omega
  rw [this] at h
  simpa using h
theorem am_hasL.push {G : am_G} {al : List Nat} {q n : Nat} {ar : Array Slot} {ls : am_L} (h9 : al.length ≤ 900) (h : am_hasL (am_tr G al) ar n ls) (hok : am_okL al.length ls = true) : am_hasL (am_tr G (al ++ [q])) ar n ls := by
  refine ⟨h.1, ?_⟩
  rw [am_prs_congr (g := am_tr G al) ls 0 (fun u hu => am_tr_push h9 (List.all_eq_true.mp hok _ hu))]
  exact h.2
theorem am_map_push {G : am_G} {al : List Nat} {q : Nat} {st : List Value} (h9 : al.length ≤ 900) (hok : am_okS al.length st = true) : st.map (am_tr G (al ++ [q])) = st.map (am_tr G al) :=
  List.map_congr_left (fun u hu => am_tr_push h9 (List.all_eq_true.mp hok _ hu))
section VAR
variable {p : Program} {l : Launch} {e : Env} {R : Room} {s : State} {mi : MethodId} {args : Array Value} {below : List Frame} {meth : Method} {c : Code} {H : Heap} {locs : List Loc} {cells slots : Nat} {Q : State → Prop}
variable {t : am_T} {D : va_G} {G : am_G} {dA dB : ClassId} {N0 L : Nat} {xs : Nat → Int32} {al : List Nat} {S : am_Sh} {μ : am_M} {m : Nat}
set_option maxHeartbeats 4000000 in
theorem am_sim_eff (hG : am_Good t) (hE : am_Env t D G dA dB N0 L xs p s mi args meth c m) {d pc : Nat} {i : Instr} {r : am_R} {ls : am_L} {st st' : List Value} {ar : Array Slot} {S' : am_Sh} {μ' : am_M}
    (hrun : am_eff L d S i r st μ = some (true, st', S', μ')) (hgrow : am_gr S S' ls st = true) (hdec : am_dec (am_B t m) pc i) (hgr : am_GR t m pc i r) (hW : am_Wd D G dA dB N0 L xs al S μ H) (hS : va_S (fun q => N0 ≤ q) s.heap H locs)
    (hl : am_hasL (am_tr G al) ar (am_ML t m) ls) (hd1 : d ≤ R.frames) (hd2 : 200 * d ≤ R.locals) (hrc : cells + S'.length ≤ R.cells + S.length) (hrs : slots + am_sl S' ≤ R.slots + am_sl S)
    (kk : ∀ (H1 : Heap) (locs1 : List Loc) (cells1 slots1 : Nat) (al' : List Nat), cells1 + S.length = cells + S'.length → slots1 + am_sl S = slots + am_sl S' → al <+: al' → am_Wd D G dA dB N0 L xs al' S' μ' H1 → va_S (fun q => N0 ≤ q) s.heap H1 locs1 → am_hasL (am_tr G al') ar (am_ML t m) ls → W p l e R s mi args below meth c H1 locs1 cells1 slots1 Q (F0 mi (pc + am_len i) ar (st'.map (am_tr G al')))) :
    W p l e R s mi args below meth c H locs cells slots Q (F0 mi pc ar (st.map (am_tr G al))) := by
  obtain ⟨hx, hb, hml, hown, hts, hin, hSt⟩ := hE
  have hd := hdec.1
  have k0 : S' = S → μ' = μ → W p l e R s mi args below meth c H locs cells slots Q (F0 mi (pc + am_len i) ar (st'.map (am_tr G al))) := fun e1 e2 => by
    subst e1; subst e2
    exact kk H locs cells slots al rfl rfl List.prefix_rfl hW hS hl
  cases i
  case iaload =>
    dsimp only [am_eff] at hrun
    split at hrun
    · rename_i i cc u
      split at hrun
      · rename_i n hn
        injection hrun with hrun
        injection hrun with hg hrun
        injection hrun with h1 hrun
        injection hrun with h2 h3
        have k1 := k0 h2.symm h3.symm
        rw [← h1] at k1
        have hin := am_inb_in hg
        show W p l e R s mi args below meth c H locs cells slots Q (F0 mi pc ar (.int i :: .ref (am_ad G al cc) :: u.map (am_tr G al)))
        unfold am_ilen at hn
        split at hn
        · rename_i kd vs hc
          have hlt := am_lt_len hc
          rw [am_ad_lt (Nat.lt_of_lt_of_le hlt (Nat.le_trans hW.2.1 (by decide)))]
          have hat := am_conc_at G dA dB al S μ cc
          rw [hc] at hat
          cases hk : Nat.ble 100 kd with
          | false => rw [hk] at hn; cases hn
          | true =>
            rw [hk] at hn
            have hn : kd - 100 = n := Option.some.inj hn
            subst hn
            have e5 : Nat.blt kd 50 = false := by
              have := Nat.le_of_ble_eq_true hk
              rw [← Bool.not_eq_true, am_blt]; omega
            simp only [Option.map_some, am_cell, e5, hk, cond_true, cond_false] at hat
            exact va_iald hx hb hSt.1 hW.2.2.2.1 cc 0 hat rfl hin (hd (Nat.succ_ne_zero _)) k1
        · cases hk : (Nat.beq cc 3000 && Nat.blt 0 L) with
          | false => rw [hk] at hn; cases hn
          | true =>
            rw [hk] at hn
            have hn : L - 1 = n := Option.some.inj hn
            subst hn
            obtain ⟨hk, hL⟩ := (Bool.and_eq_true _ _).mp hk
            have hL := am_blt.mp hL
            have := Nat.eq_of_beq_eq_true hk
            subst this
            refine va_sld hx hb (hSt.2.2.2.2.2.2.1 hL) (Nat.lt_of_lt_of_le hSt.2.2.2.2.2.2.2.1 hSt.2.2.2.2.2.2.2.2.1) (Nat.not_le.mpr hSt.2.2.2.2.2.2.2.1) hS hin (hd (Nat.succ_ne_zero _)) ?_
            rw [← hW.2.2.1 hL]
            exact k1
      · cases hrun
    · cases hrun
  case baload =>
    dsimp only [am_eff] at hrun
    split at hrun
    · rename_i i cc u
      cases hk2 : (Nat.ble 2000 cc && Nat.blt cc (2000 + am_sN)) with
      | false => rw [hk2] at hrun; cases hrun
      | true =>
        rw [hk2] at hrun
        have hrun : some (am_inb i (am_sL.getD (cc - 2000) 0), Value.int ((am_sB.getD (cc - 2000) []).getD i.toNatClampNeg 0) :: u, S, μ) = some (true, st', S', μ') := hrun
        injection hrun with hrun
        injection hrun with hg hrun
        injection hrun with h1 hrun
        injection hrun with h2 h3
        have k1 := k0 h2.symm h3.symm
        rw [← h1] at k1
        have hin := am_inb_in hg
        obtain ⟨k2, k3⟩ := (Bool.and_eq_true _ _).mp hk2
        have k2 := Nat.le_of_ble_eq_true k2
        have k3 : cc < 2021 := am_blt.mp k3
        show W p l e R s mi args below meth c H locs cells slots Q (F0 mi pc ar (.int i :: .ref (am_ad G al cc) :: u.map (am_tr G al)))
        rw [am_ad_byt k2 (Nat.lt_trans k3 (by decide))]
        obtain ⟨-, -, -, hT⟩ := hSt.2.2.2.1 (cc - 2000) ((Nat.sub_lt_iff_lt_add k2).mpr k3)
        obtain ⟨cell, g1, g2, g3, g4, g5, g6, g7⟩ := hT
        have hlt : i.toNatClampNeg < am_sL.getD (cc - 2000) 0 := Nat.not_le.mp fun q => hin (Or.inr q)
        refine W.bald (cell := cell) hx hb ?_ g2 g3 ?_ (g6 _ hlt) rfl rfl (hd (Nat.succ_ne_zero _)) k1
        · rw [hS.2.1 _ (Array.getElem?_eq_some_iff.mp g1).1 g7]
          exact g1
        · exact fun q => q.elim (fun q => hin (Or.inl q)) (fun q => absurd (Nat.lt_of_lt_of_le hlt g4) (Nat.not_lt.mpr q))
    · cases hrun
  case aaload =>
    dsimp only [am_eff] at hrun
    split at hrun
    · rename_i i cc u
      split at hrun
      · rename_i kd vs hc
        cases hk : Nat.beq kd 98 with
        | false => rw [hk] at hrun; cases hrun
        | true =>
          rw [hk] at hrun
          have hk := Nat.eq_of_beq_eq_true hk
          subst hk
          simp only [cond_true] at hrun
          split at hrun
          · rename_i a hv
            injection hrun with hrun
            injection hrun with hg hrun
            injection hrun with h1 hrun
            injection hrun with h2 h3
            have k1 := k0 h2.symm h3.symm
            rw [← h1] at k1
            have hin := am_inb_in hg
            show W p l e R s mi args below meth c H locs cells slots Q (F0 mi pc ar (.int i :: .ref (am_ad G al cc) :: u.map (am_tr G al)))
            have hlt := am_lt_len hc
            rw [am_ad_lt (Nat.lt_of_lt_of_le hlt (Nat.le_trans hW.2.1 (by decide)))]
            have hat := am_conc_at G dA dB al S μ cc
            rw [hc] at hat
            have hat : (am_conc G dA dB al S μ)[cc]? = some (al.getD cc 0, .inl (dB, vs.length, .inr (.inr (.inr (.inr (am_qf G al vs)))))) := hat
            refine va_aldq hx hb hSt.1 hW.2.2.2.1 cc 1 hat rfl hin (hd (Nat.succ_ne_zero _)) ?_
            have e1 : va_rf (am_qf G al vs i.toNatClampNeg) = .ref (am_ad G al a) := by
              unfold am_qf
              rw [hv]
              rfl
            rw [e1]
            exact k1
          · cases hrun
      · cases hrun
    · cases hrun
  case iastore =>
    dsimp only [am_eff] at hrun
    split at hrun
    · rename_i x i cc u
      split at hrun
      · rename_i kd vs hc
        cases hk : Nat.ble 100 kd with
        | false => rw [hk] at hrun; cases hrun
        | true =>
          rw [hk] at hrun
          have hrun : some (am_inb i (kd - 100), u, S, am_row μ cc (upd (μ cc) i.toNatClampNeg x)) = some (true, st', S', μ') := hrun
          injection hrun with hrun
          injection hrun with hg hrun
          injection hrun with h1 hrun
          injection hrun with h2 h3
          subst h1 h2 h3
          have hin := am_inb_in hg
          have hlt := am_lt_len hc
          have hlt9 : cc < 1000 := Nat.lt_of_lt_of_le hlt (Nat.le_trans hW.2.1 (by decide))
          show W p l e R s mi args below meth c H locs cells slots Q (F0 mi pc ar (.int x :: .int i :: .ref (am_ad G al cc) :: u.map (am_tr G al)))
          rw [am_ad_lt hlt9]
          have hat := am_conc_at G dA dB al S μ cc
          rw [hc] at hat
          have e5 : Nat.blt kd 50 = false := by
            have := Nat.le_of_ble_eq_true hk
            rw [← Bool.not_eq_true, am_blt]; omega
          simp only [Option.map_some, am_cell, e5, hk, cond_true, cond_false] at hat
          refine va_iast hx hb hSt.1 hW.2.2.2.1 hW.2.2.2.2 hS cc 0 hat rfl hin (hd (Nat.succ_ne_zero _)) (fun H1 locs1 hP hD hS1 => ?_)
          have hx1 : am_cell G dA dB al (am_row μ cc (upd (μ cc) i.toNatClampNeg x)) cc (kd, vs) = .inl (dA, kd - 100, .inl (upd (μ cc) i.toNatClampNeg x)) := by
            simp only [am_cell, e5, hk, cond_true, cond_false, am_row_at]
          rw [am_conc_set hlt hx1, am_set_same hc] at hP hD
          exact kk H1 locs1 cells slots al rfl rfl List.prefix_rfl ⟨hW.1, hW.2.1, fun hL => by rw [am_row_ne (Nat.ne_of_gt (Nat.lt_trans hlt9 (by decide)))]; exact hW.2.2.1 hL, hP, hD⟩ hS1 hl
      · cases hrun
    · cases hrun
  case aastore =>
    dsimp only [am_eff] at hrun
    split at hrun
    · rename_i v i cc u
      split at hrun
      · rename_i kd vs vs2 hc hv2
        cases hk : Nat.beq kd 98 with
        | false => rw [hk] at hrun; cases hrun
        | true =>
          rw [hk] at hrun
          have hk := Nat.eq_of_beq_eq_true hk
          subst hk
          have hrun : some (am_inb i vs.length, u, S.set cc (98, vs.set i.toNatClampNeg (.ref v)), μ) = some (true, st', S', μ') := hrun
          injection hrun with hrun
          injection hrun with hg hrun
          injection hrun with h1 hrun
          injection hrun with h2 h3
          subst h1 h2 h3
          have hin := am_inb_in hg
          have hlt := am_lt_len hc
          have hlt2 := am_lt_len hv2
          have hlt9 : cc < 1000 := Nat.lt_of_lt_of_le hlt (Nat.le_trans hW.2.1 (by decide))
          have hlt8 : v < 1000 := Nat.lt_of_lt_of_le hlt2 (Nat.le_trans hW.2.1 (by decide))
          show W p l e R s mi args below meth c H locs cells slots Q (F0 mi pc ar (.ref (am_ad G al v) :: .int i :: .ref (am_ad G al cc) :: u.map (am_tr G al)))
          rw [am_ad_lt hlt9, am_ad_lt hlt8]
          have hat := am_conc_at G dA dB al S μ cc
          rw [hc] at hat
          have hat : (am_conc G dA dB al S μ)[cc]? = some (al.getD cc 0, .inl (dB, vs.length, .inr (.inr (.inr (.inr (am_qf G al vs)))))) := hat
          have hav := am_conc_at G dA dB al S μ v
          rw [hv2] at hav
          have hav : (am_conc G dA dB al S μ)[v]? = some (al.getD v 0, .inr (5, vs2.mapIdx (am_fld G al μ v))) := hav
          refine va_astq hx hb hSt.1 hW.2.2.2.1 hW.2.2.2.2 hS cc 1 v 5 hat (r := (RX5, TX5, 8)) rfl hav rfl hin (hd (Nat.succ_ne_zero _)) (fun H1 locs1 hP hD hS1 => ?_)
          have hil : i.toNatClampNeg < vs.length := Nat.not_le.mp fun q => hin (Or.inr q)
          have hq : am_qf G al (vs.set i.toNatClampNeg (.ref v)) = va_up (am_qf G al vs) i.toNatClampNeg (some (al.getD v 0)) := by
            funext j
            unfold am_qf va_up
            rw [List.getElem?_set]
            by_cases hj : i.toNatClampNeg = j
            · rw [if_pos hj, if_pos (by omega), if_pos hj.symm]
              show some (am_ad G al v) = _
              rw [am_ad_lt hlt8]
            · rw [if_neg hj, if_neg (fun q => hj q.symm)]
          have hrow : am_row μ cc (μ cc) = μ := by
            funext z
            unfold am_row
            split
            · rename_i h; rw [h]
            · rfl
          have hx1 : am_cell G dA dB al (am_row μ cc (μ cc)) cc (98, vs.set i.toNatClampNeg (.ref v)) = .inl (dB, vs.length, .inr (.inr (.inr (.inr (va_up (am_qf G al vs) i.toNatClampNeg (some (al.getD v 0))))))) := by
            rw [← hq]
            show Sum.inl (dB, (vs.set i.toNatClampNeg (.ref v)).length, _) = _
            rw [List.length_set]
          rw [am_conc_set hlt hx1, hrow] at hP hD
          have e1 : am_sl (S.set cc (98, vs.set i.toNatClampNeg (.ref v))) = am_sl S := am_sl_set _ _ _ _ hc (by show (vs.set _ _).length = vs.length; simp)
          exact kk H1 locs1 cells slots al (by simp) (by rw [e1]) List.prefix_rfl ⟨by simpa using hW.1, by simpa using hW.2.1, hW.2.2.1, hP, hD⟩ hS1 hl
      · cases hrun
    · cases hrun
  case idiv =>
    dsimp only [am_eff] at hrun
    split at hrun
    · rename_i y x u
      injection hrun with hrun
      injection hrun with hg hrun
      injection hrun with h1 hrun
      injection hrun with h2 h3
      have k1 := k0 h2.symm h3.symm
      rw [← h1] at k1
      exact lv_idiv hx hb (hd (Nat.succ_ne_zero _)) (by simpa using hg) k1
    · cases hrun
  case irem =>
    dsimp only [am_eff] at hrun
    split at hrun
    · rename_i y x u
      injection hrun with hrun
      injection hrun with hg hrun
      injection hrun with h1 hrun
      injection hrun with h2 h3
      have k1 := k0 h2.symm h3.symm
      rw [← h1] at k1
      exact lv_irem hx hb (hd (Nat.succ_ne_zero _)) (by simpa using hg) k1
    · cases hrun
  case ldiv =>
    dsimp only [am_eff] at hrun
    split at hrun
    · rename_i y x u
      injection hrun with hrun
      injection hrun with hg hrun
      injection hrun with h1 hrun
      injection hrun with h2 h3
      have k1 := k0 h2.symm h3.symm
      rw [← h1] at k1
      exact lv_ldiv hx hb (hd (Nat.succ_ne_zero _)) (by simpa using hg) k1
    · cases hrun
  case putfield x =>
    dsimp only [am_eff] at hrun
    split at hrun
    · rename_i v cc u
      split at hrun
      · rename_i kd vs h0 hc
        have hw := hG.2.1 _ hgr.1
        unfold am_PW at hw
        simp only [h0] at hw
        obtain ⟨C, T, N, ty, hvc, hk, hci, hCd, hlk, hty, hy0, hy1, hy2⟩ := hw
        have hfinal := hgr.2 _ hvc
        obtain ⟨ty0, q1, q2, q3, q4, q5⟩ := am_cls _ _ hvc
        have hu : ∀ w ∈ u_ws C T N, w ∈ am_ws := fun w hw => (hG.2.2.1 _ _ hvc w hw).mem
        have hlt := am_lt_len hc
        have hlt9 : cc < 1000 := Nat.lt_of_lt_of_le hlt (Nat.le_trans hW.2.1 (by decide))
        cases hkd : Nat.beq kd r.2.1 with
        | false => rw [hkd] at hrun; cases hrun
        | true =>
          rw [hkd] at hrun
          have e0 := Nat.eq_of_beq_eq_true hkd
          subst e0
          simp only [cond_true] at hrun
          have e5 : Nat.blt r.2.1 50 = true := am_blt.mpr (by omega)
          have hat := am_conc_at G dA dB al S μ cc
          rw [hc] at hat
          simp only [Option.map_some, am_cell, e5, cond_true] at hat
          have hput : ∀ v2 : Value, r.2.2.1 < vs.length → narrow ty v2 = v2 → fits ty v2 = true →
              (∀ (H1 : Heap) (locs1 : List Loc), va_P D vwCl ((am_conc G dA dB al S μ).set cc (al.getD cc 0, .inr (r.2.1, (vs.mapIdx (am_fld G al μ cc)).set r.2.2.1 v2))) H1 → va_D (fun q => N0 ≤ q) ((am_conc G dA dB al S μ).set cc (al.getD cc 0, .inr (r.2.1, (vs.mapIdx (am_fld G al μ cc)).set r.2.2.1 v2))) → va_S (fun q => N0 ≤ q) s.heap H1 locs1 → W p l e R s mi args below meth c H1 locs1 cells slots Q (F0 mi (pc + 3) ar (u.map (am_tr G al)))) →
              W p l e R s mi args below meth c H locs cells slots Q (F0 mi pc ar (v2 :: .ref (al.getD cc 0) :: u.map (am_tr G al))) := by
            intro v2 hlen hn hfit kv
            cases hf : (T r.2.2.1).2.2.2 with
            | false => exact va_put hx hb hts hu ty0 q1 q2 hown hSt.1 hW.2.2.2.1 hW.2.2.2.2 hS cc hat hvc r.2.2.1 hk (ref := C) (hts _ hlk.mem) (fun x hx => by rw [← hCd]; exact hx) hf hty hn hfit (by simpa using hlen) (hd (Nat.succ_ne_zero _)) kv
            | true =>
              obtain ⟨z1, z2⟩ := hfinal hf
              exact va_putF hx hb hts hu ty0 q1 q2 hown hSt.1 hW.2.2.2.1 hW.2.2.2.2 hS cc hat hvc r.2.2.1 hk (ref := C) (hts _ hlk.mem) (fun x hx => by rw [← hCd]; exact hx) hf (hin z1) (by rw [hCd, z2]) hty hn hfit (by simpa using hlen) (hd (Nat.succ_ne_zero _)) kv
          show W p l e R s mi args below meth c H locs cells slots Q (F0 mi pc ar (am_tr G al v :: .ref (am_ad G al cc) :: u.map (am_tr G al)))
          rw [am_ad_lt hlt9]
          have hrow : am_row μ cc (μ cc) = μ := by
            funext z
            unfold am_row
            split
            · rename_i h; rw [h]
            · rfl
          split at hrun
          · rename_i z x hv
            injection hrun with hrun
            injection hrun with hg hrun
            injection hrun with h1 hrun
            injection hrun with h2 h3
            subst h1 h2 h3
            have hty2 : narrow ty (.int x) = .int x ∧ fits ty (.int x) = true := by
              rcases (Bool.or_eq_true _ _).mp hg with g | g
              · rw [hy0 (Nat.eq_of_beq_eq_true g)]; exact ⟨rfl, rfl⟩
              · obtain ⟨g1, g2⟩ := (Bool.and_eq_true _ _).mp g
                rw [hy1 (Nat.eq_of_beq_eq_true g1)]
                rcases (Bool.or_eq_true _ _).mp g2 with g2 | g2
                · rw [of_decide_eq_true g2]; exact ⟨by decide, by decide⟩
                · rw [of_decide_eq_true g2]; exact ⟨by decide, by decide⟩
            refine hput (.int x) (am_lt_len hv) hty2.1 hty2.2 (fun H1 locs1 hP hD hS1 => ?_)
            have hx1 : am_cell G dA dB al (am_row μ cc (upd (μ cc) r.2.2.1 x)) cc (r.2.1, vs) = .inr (r.2.1, (vs.mapIdx (am_fld G al μ cc)).set r.2.2.1 (.int x)) := by
              simp only [am_cell, e5, cond_true]
              congr 2
              apply List.ext_getElem?
              intro j
              rw [List.getElem?_mapIdx, List.getElem?_set, List.getElem?_mapIdx]
              by_cases hj : r.2.2.1 = j
              · subst hj
                rw [if_pos rfl, hv, if_pos (by simpa using am_lt_len hv)]
                simp [am_fld, am_row_at, upd]
              · rw [if_neg hj]
                cases hvj : vs[j]? with
                | none => rfl
                | some y =>
                  have : ¬ j = r.2.2.1 := fun q => hj q.symm
                  cases y <;> simp [am_fld, am_row_at, upd, this]
            rw [am_conc_set hlt hx1, am_set_same hc] at hP hD
            exact kk H1 locs1 cells slots al rfl rfl List.prefix_rfl ⟨hW.1, hW.2.1, fun hL => by rw [am_row_ne (Nat.ne_of_gt (Nat.lt_trans hlt9 (by decide)))]; exact hW.2.2.1 hL, hP, hD⟩ hS1 hl
          · rename_i a hv
            injection hrun with hrun
            injection hrun with hg hrun
            injection hrun with h1 hrun
            injection hrun with h2 h3
            subst h1 h2 h3
            have hty2 : narrow ty (.ref (am_ad G al a)) = .ref (am_ad G al a) ∧ fits ty (.ref (am_ad G al a)) = true := by
              rcases hy2 (Nat.eq_of_beq_eq_true hg) with ⟨n, rfl⟩ | ⟨n, rfl⟩ <;> exact ⟨rfl, rfl⟩
            refine hput (.ref (am_ad G al a)) (am_lt_len hv) hty2.1 hty2.2 (fun H1 locs1 hP hD hS1 => ?_)
            have hx1 : am_cell G dA dB al (am_row μ cc (μ cc)) cc (r.2.1, vs.set r.2.2.1 (.ref a)) = .inr (r.2.1, (vs.mapIdx (am_fld G al μ cc)).set r.2.2.1 (.ref (am_ad G al a))) := by
              simp only [am_cell, e5, cond_true, hrow]
              congr 2
              apply List.ext_getElem?
              intro j
              rw [List.getElem?_mapIdx, List.getElem?_set, List.getElem?_set, List.getElem?_mapIdx]
              by_cases hj : r.2.2.1 = j
              · subst hj
                rw [if_pos rfl, if_pos rfl, if_pos (am_lt_len hv), if_pos (by simpa using am_lt_len hv)]
                rfl
              · rw [if_neg hj, if_neg hj]
            rw [am_conc_set hlt hx1, hrow] at hP hD
            have e1 : am_sl (S.set cc (r.2.1, vs.set r.2.2.1 (.ref a))) = am_sl S := am_sl_set _ _ _ _ hc (by unfold am_slc; simp)
            exact kk H1 locs1 cells slots al (by simp) (by rw [e1]) List.prefix_rfl ⟨by simpa using hW.1, by simpa using hW.2.1, hW.2.2.1, hP, hD⟩ hS1 hl
          · rename_i hv
            injection hrun with hrun
            injection hrun with hg hrun
            injection hrun with h1 hrun
            injection hrun with h2 h3
            subst h1 h2 h3
            have hty2 : narrow ty .null = .null ∧ fits ty .null = true := by
              rcases hy2 (Nat.eq_of_beq_eq_true hg) with ⟨n, rfl⟩ | ⟨n, rfl⟩ <;> exact ⟨rfl, rfl⟩
            refine hput .null (am_lt_len hv) hty2.1 hty2.2 (fun H1 locs1 hP hD hS1 => ?_)
            have hx1 : am_cell G dA dB al (am_row μ cc (μ cc)) cc (r.2.1, vs.set r.2.2.1 .null) = .inr (r.2.1, (vs.mapIdx (am_fld G al μ cc)).set r.2.2.1 .null) := by
              simp only [am_cell, e5, cond_true, hrow]
              congr 2
              apply List.ext_getElem?
              intro j
              rw [List.getElem?_mapIdx, List.getElem?_set, List.getElem?_set, List.getElem?_mapIdx]
              by_cases hj : r.2.2.1 = j
              · subst hj
                rw [if_pos rfl, if_pos rfl, if_pos (am_lt_len hv), if_pos (by simpa using am_lt_len hv)]
                rfl
              · rw [if_neg hj, if_neg hj]
            rw [am_conc_set hlt hx1, hrow] at hP hD
            have e1 : am_sl (S.set cc (r.2.1, vs.set r.2.2.1 .null)) = am_sl S := am_sl_set _ _ _ _ hc (by unfold am_slc; simp)
            exact kk H1 locs1 cells slots al (by simp) (by rw [e1]) List.prefix_rfl ⟨by simpa using hW.1, by simpa using hW.2.1, hW.2.2.1, hP, hD⟩ hS1 hl
          · cases hrun
      · cases hrun
    · cases hrun
  case invokestatic x =>
    dsimp only [am_eff] at hrun
    split at hrun
    · rename_i n dp c1 sp c0 u h7
      have hw := hG.2.1 _ (hgr (by rw [h7]; decide)).1
      unfold am_PW at hw
      simp only [h7] at hw
      obtain ⟨w1, w2, w3, w4⟩ := hw
      split at hrun
      · rename_i k0' v0 k1' v1 hc0 hc1
        cases hk : (Nat.ble 100 k0' && Nat.ble 100 k1') with
        | false => rw [hk] at hrun; cases hrun
        | true =>
          rw [hk] at hrun
          simp only [cond_true] at hrun
          injection hrun with hrun
          injection hrun with hg hrun
          injection hrun with h1 hrun
          injection hrun with h2 h3
          subst h1 h2 h3
          simp only [Bool.and_eq_true, Bool.not_eq_true', decide_eq_false_iff_not] at hg hk
          obtain ⟨⟨g0, gs⟩, g1, g2, g3, g4, g5⟩ := hg
          have g0 := am_blt.mp g0
          have gs := Nat.le_of_ble_eq_true gs
          have g4 := Nat.le_of_ble_eq_true g4
          have g5 := Nat.le_of_ble_eq_true g5
          have hlt0 := am_lt_len hc0
          have hlt1 := am_lt_len hc1
          have hl0 : c0 < 1000 := Nat.lt_of_lt_of_le hlt0 (Nat.le_trans hW.2.1 (by decide))
          have hl1 : c1 < 1000 := Nat.lt_of_lt_of_le hlt1 (Nat.le_trans hW.2.1 (by decide))
          show W p l e R s mi args below meth c H locs cells slots Q (F0 mi pc ar (.int n :: .int dp :: .ref (am_ad G al c1) :: .int sp :: .ref (am_ad G al c0) :: u.map (am_tr G al)))
          rw [am_ad_lt hl0, am_ad_lt hl1]
          have e50 : Nat.blt k0' 50 = false := by
            have := Nat.le_of_ble_eq_true hk.1
            rw [← Bool.not_eq_true, am_blt]; omega
          have e51 : Nat.blt k1' 50 = false := by
            have := Nat.le_of_ble_eq_true hk.2
            rw [← Bool.not_eq_true, am_blt]; omega
          have hat0 := am_conc_at G dA dB al S μ c0
          rw [hc0] at hat0
          simp only [Option.map_some, am_cell, e50, hk.1, cond_true, cond_false] at hat0
          have hat1 := am_conc_at G dA dB al S μ c1
          rw [hc1] at hat1
          simp only [Option.map_some, am_cell, e51, hk.2, cond_true, cond_false] at hat1
          have hcat : ((u.map (am_tr G al)).map fun v => v.category) = u.map Value.category := by
            rw [List.map_map]
            exact List.map_congr_left (fun v _ => am_tr_cat)
          refine va_copyi (ty := .int) hx hb (by rw [hml]; exact hl.2.1.symm) hown (hts _ w1.mem) (hts _ w2.mem) (hts _ w3.mem) (hts _ w4.mem) hSt.1 hW.2.2.2.1 hW.2.2.2.2 hS c0 c1 0 0 hat0 hat1 rfl rfl rfl g1 g2 g3 g4 g5 (fun _ _ => rfl) (Nat.le_trans g0 hd1) ?_ (hd (Nat.succ_ne_zero _)) (fun H1 locs1 hP hD hS1 => ?_)
          · rw [hcat]
            have : nativeFrameWords "java/lang/System" "arraycopy" 5 ≤ 150 := by decide +kernel
            have g0 : 1 ≤ d := g0
            omega
          · have hx1 : am_cell G dA dB al (am_row μ c1 (va_cpy (μ c0) (μ c1) sp.toNatClampNeg dp.toNatClampNeg n.toNatClampNeg)) c1 (k1', v1) = .inl (dA, k1' - 100, .inl (va_cpy (μ c0) (μ c1) sp.toNatClampNeg dp.toNatClampNeg n.toNatClampNeg)) := by
              simp only [am_cell, e51, hk.2, cond_true, cond_false, am_row_at]
            rw [am_conc_set hlt1 hx1, am_set_same hc1] at hP hD
            exact kk H1 locs1 cells slots al rfl rfl List.prefix_rfl ⟨hW.1, hW.2.1, fun hL => by rw [am_row_ne (Nat.ne_of_gt (Nat.lt_trans hl1 (by decide)))]; exact hW.2.2.1 hL, hP, hD⟩ hS1 hl
      · cases hrun
    · rename_i y x u h7
      have hw := hG.2.1 _ (hgr (by rw [h7]; decide)).1
      unfold am_PW at hw
      simp only [h7] at hw
      obtain ⟨w1, w2, w3, w4⟩ := hw
      injection hrun with hrun
      injection hrun with hg hrun
      injection hrun with h1 hrun
      injection hrun with h2 h3
      have k1 := k0 h2.symm h3.symm
      rw [← h1] at k1
      subst h2
      obtain ⟨g0, gs⟩ := (Bool.and_eq_true _ _).mp hg
      have g0 : 1 ≤ d := am_blt.mp g0
      have gs := Nat.le_of_ble_eq_true gs
      have hcat : ((u.map (am_tr G al)).map fun v => v.category) = u.map Value.category := by
        rw [List.map_map]
        exact List.map_congr_left (fun v _ => am_tr_cat)
      exact va_mmax hx hb (by rw [hml]; exact hl.2.1.symm) hown (hts _ w1.mem) (hts _ w2.mem) (hts _ w3.mem) (hts _ w4.mem) (Nat.le_trans g0 hd1) (by rw [hcat]; omega) (by omega) (by omega) (hd (Nat.succ_ne_zero _)) k1
    · rename_i y x u h7
      have hw := hG.2.1 _ (hgr (by rw [h7]; decide)).1
      unfold am_PW at hw
      simp only [h7] at hw
      obtain ⟨w1, w2, w3, w4⟩ := hw
      injection hrun with hrun
      injection hrun with hg hrun
      injection hrun with h1 hrun
      injection hrun with h2 h3
      have k1 := k0 h2.symm h3.symm
      rw [← h1] at k1
      subst h2
      obtain ⟨g0, gs⟩ := (Bool.and_eq_true _ _).mp hg
      have g0 : 1 ≤ d := am_blt.mp g0
      have gs := Nat.le_of_ble_eq_true gs
      have hcat : ((u.map (am_tr G al)).map fun v => v.category) = u.map Value.category := by
        rw [List.map_map]
        exact List.map_congr_left (fun v _ => am_tr_cat)
      exact va_mmin hx hb (by rw [hml]; exact hl.2.1.symm) hown (hts _ w1.mem) (hts _ w2.mem) (hts _ w3.mem) (hts _ w4.mem) (Nat.le_trans g0 hd1) (by rw [hcat]; omega) (by omega) (by omega) (hd (Nat.succ_ne_zero _)) k1
    · rename_i x u h7
      have hw := hG.2.1 _ (hgr (by rw [h7]; decide)).1
      unfold am_PW at hw
      simp only [h7] at hw
      obtain ⟨w1, w2, w3, w4⟩ := hw
      injection hrun with hrun
      injection hrun with hg hrun
      injection hrun with h1 hrun
      injection hrun with h2 h3
      have k1 := k0 h2.symm h3.symm
      rw [← h1] at k1
      subst h2
      obtain ⟨g0, gs⟩ := (Bool.and_eq_true _ _).mp hg
      have g0 : 1 ≤ d := am_blt.mp g0
      have gs := Nat.le_of_ble_eq_true gs
      have hcat : ((u.map (am_tr G al)).map fun v => v.category) = u.map Value.category := by
        rw [List.map_map]
        exact List.map_congr_left (fun v _ => am_tr_cat)
      exact va_mabs hx hb (by rw [hml]; exact hl.2.1.symm) hown (hts _ w1.mem) (hts _ w2.mem) (hts _ w3.mem) (hts _ w4.mem) (Nat.le_trans g0 hd1) (by rw [hcat]; omega) (by omega) (by omega) (hd (Nat.succ_ne_zero _)) k1
    · rename_i y x u h7
      have hw := hG.2.1 _ (hgr (by rw [h7]; decide)).1
      unfold am_PW at hw
      simp only [h7] at hw
      obtain ⟨w1, w2, w3, w4⟩ := hw
      injection hrun with hrun
      injection hrun with hg hrun
      injection hrun with h1 hrun
      injection hrun with h2 h3
      have k1 := k0 h2.symm h3.symm
      rw [← h1] at k1
      subst h2
      obtain ⟨g0, gs⟩ := (Bool.and_eq_true _ _).mp hg
      have g0 : 1 ≤ d := am_blt.mp g0
      have gs := Nat.le_of_ble_eq_true gs
      have hcat : ((u.map (am_tr G al)).map fun v => v.category) = u.map Value.category := by
        rw [List.map_map]
        exact List.map_congr_left (fun v _ => am_tr_cat)
      exact va_mmin_long hx hb (by rw [hml]; exact hl.2.1.symm) hown (hts _ w1.mem) (hts _ w2.mem) (hts _ w3.mem) (hts _ w4.mem) (Nat.le_trans g0 hd1) (by rw [hcat]; omega) (by omega) (by omega) (hd (Nat.succ_ne_zero _)) k1
    · cases hrun
  case invokespecial x =>
    dsimp only [am_eff] at hrun
    split at hrun
    · rename_i a u h8
      have hw := hG.2.1 _ hgr.1
      unfold am_PW at hw
      simp only [h8] at hw
      obtain ⟨w1, w2, w3⟩ := hw
      injection hrun with hrun
      injection hrun with hg hrun
      injection hrun with h1 hrun
      injection hrun with h2 h3
      have k1 := k0 h2.symm h3.symm
      rw [← h1] at k1
      obtain ⟨g0, gs⟩ := (Bool.and_eq_true _ _).mp hg
      have g0 : 1 ≤ d := am_blt.mp g0
      have gs := Nat.le_of_ble_eq_true gs
      have hcat : ((u.map (am_tr G al)).map fun v => v.category) = u.map Value.category := by
        rw [List.map_map]
        exact List.map_congr_left (fun v _ => am_tr_cat)
      refine W.objInit hx hb hown (hts _ w1.mem) (hts _ w2.mem) (hts _ w3.mem) rfl (by rw [hml]; exact hl.2.1) rfl (hd (Nat.succ_ne_zero _)) (Nat.le_trans g0 hd1) ?_ ?_
      · show 2 * 0 + _ + 12 ≤ _
        rw [hcat]
        omega
      · exact k1
    · cases hrun
  case new x =>
    dsimp only [am_eff] at hrun
    split at hrun
    · rename_i h2'
      have hw := hG.2.1 _ hgr
      unfold am_PW at hw
      simp only [h2'] at hw
      obtain ⟨C, T, N, hvc, w1, w2, w3⟩ := hw
      obtain ⟨ty0, q1, q2, q3, q4, q5⟩ := am_cls _ _ hvc
      have q4 : (am_def r.2.1).length = N := q4
      injection hrun with hrun
      injection hrun with hg hrun
      injection hrun with h1 hrun
      injection hrun with h2 h3
      subst h1 h2 h3
      have g9 := am_blt.mp hg
      obtain ⟨o1, o2, o3⟩ := am_gr_new hgrow (by simp)
      have e5 : Nat.blt r.2.1 50 = true := am_blt.mpr (by omega)
      have e6 : Nat.ble 100 r.2.1 = false := by
        cases hq : Nat.ble 100 r.2.1 with
        | false => rfl
        | true => have := Nat.le_of_ble_eq_true hq; omega
      have hsl : am_slc (r.2.1, am_def r.2.1) = N := by
        unfold am_slc
        rw [e6]
        exact q4
      rw [am_sl_app, hsl] at hrs
      simp only [List.length_append, List.length_cons, List.length_nil] at hrc
      refine va_new hx hb hts (fun w hw => (hG.2.2.1 _ _ hvc w hw).mem) ty0 q1 hown (hts _ w1.mem) (hts _ w2.mem) (hts _ w3.mem) hSt.1 hW.2.2.2.1 hW.2.2.2.2 hS (fun q h => Nat.le_trans hSt.2.2.2.2.2.2.2.2.1 h) hvc q3 (by omega) (by show slots + N ≤ R.slots; omega) (hd (Nat.succ_ne_zero _)) (fun q H1 hP hD hS1 => ?_)
      have hx1 : am_cell G dA dB (al ++ [q]) (am_row μ S.length (fun _ => 0)) S.length (r.2.1, am_def r.2.1) = .inr (r.2.1, am_def r.2.1) := by
        simp only [am_cell, e5, cond_true]
        rw [am_def_new (am_row_at _ _ _) _ q5]
      rw [am_conc_push hW.1 hW.2.1 o3 hx1] at hP hD
      have h9 : al.length ≤ 900 := by rw [hW.1]; exact hW.2.1
      have kk1 := kk H1 locs (cells + 1) (slots + N) (al ++ [q]) (by simp; omega) (by rw [am_sl_app, hsl]; omega) (List.prefix_append _ _) ⟨by simp [hW.1], by simp; omega, fun hL => by rw [am_row_ne (by omega)]; exact hW.2.2.1 hL, hP, hD⟩ hS1 (hl.push h9 (by rw [hW.1]; exact o1))
      rw [List.map_cons, am_map_push h9 (by rw [hW.1]; exact o2)] at kk1
      have e7 : am_tr G (al ++ [q]) (.ref S.length) = .ref q := by
        show Value.ref (am_ad G (al ++ [q]) S.length) = _
        rw [am_ad_lt (by omega), ← hW.1]
        simp
      rw [e7] at kk1
      exact kk1
    · cases hrun
  case newarray ty =>
    cases ty
    case int =>
      dsimp only [am_eff] at hrun
      split at hrun
      · rename_i n u
        injection hrun with hrun
        injection hrun with hg hrun
        injection hrun with h1 hrun
        injection hrun with h2 h3
        subst h1 h2 h3
        simp only [Bool.and_eq_true, Bool.not_eq_true', decide_eq_false_iff_not] at hg
        obtain ⟨⟨g9, g1⟩, g2⟩ := hg
        have g9 := am_blt.mp g9
        have g2 := Nat.le_of_ble_eq_true g2
        obtain ⟨o1, o2, o3⟩ := am_gr_new hgrow (by simp)
        have e6 : Nat.ble 100 (100 + n.toNatClampNeg) = true := Nat.ble_eq_true_of_le (Nat.le_add_right _ _)
        have e5 : Nat.blt (100 + n.toNatClampNeg) 50 = false := by
          rw [← Bool.not_eq_true, am_blt]; omega
        have hsl : am_slc (100 + n.toNatClampNeg, []) = n.toNatClampNeg := by
          unfold am_slc
          rw [e6]
          exact Nat.add_sub_cancel_left _ _
        rw [am_sl_app, hsl] at hrs
        simp only [List.length_append, List.length_cons, List.length_nil] at hrc
        refine va_newa (atype := .int) (ty := .int) (a0 := (n.toNatClampNeg, .inl (fun _ => 0))) hx hb (hts _ hG.2.2.2.mem) rfl hSt.1 hW.2.2.2.1 hW.2.2.2.2 hS (fun q h => Nat.le_trans hSt.2.2.2.2.2.2.2.2.1 h) (fun _ => rfl) g1 rfl (by show _ * 4 ≤ _; omega) (by omega) (by omega) (hd (Nat.succ_ne_zero _)) (fun q cA H1 hK hP hD hS1 => ?_)
        have hcA : cA = dA := by
          have f1 := (hK.2 2 (cA, .int) rfl).2
          have f2 := (hK.2 0 (dA, .int) rfl).2
          exact Option.some.inj (f1.symm.trans f2)
        subst hcA
        have hx1 : am_cell G cA dB (al ++ [q]) (am_row μ S.length (fun _ => 0)) S.length (100 + n.toNatClampNeg, []) = .inl (cA, n.toNatClampNeg, .inl (fun _ => 0)) := by
          simp only [am_cell, e5, e6, cond_true, cond_false, am_row_at, Nat.add_sub_cancel_left]
        rw [am_conc_push hW.1 hW.2.1 o3 hx1] at hP hD
        have h9 : al.length ≤ 900 := by rw [hW.1]; exact hW.2.1
        have o2 : am_okS S.length u = true := by
          unfold am_okS at o2 ⊢
          simp only [List.all_cons, Bool.and_eq_true] at o2
          exact o2.2
        have kk1 := kk H1 locs (cells + 1) (slots + n.toNatClampNeg) (al ++ [q]) (by simp; omega) (by rw [am_sl_app, hsl]; omega) (List.prefix_append _ _) ⟨by simp [hW.1], by simp; omega, fun hL => by rw [am_row_ne (by omega)]; exact hW.2.2.1 hL, hP, hD⟩ hS1 (hl.push h9 (by rw [hW.1]; exact o1))
        rw [List.map_cons, am_map_push h9 (by rw [hW.1]; exact o2)] at kk1
        have e7 : am_tr G (al ++ [q]) (.ref S.length) = .ref q := by
          show Value.ref (am_ad G (al ++ [q]) S.length) = _
          rw [am_ad_lt (by omega), ← hW.1]
          simp
        rw [e7] at kk1
        exact kk1
      · cases hrun
    all_goals (dsimp only [am_eff] at hrun; cases hrun)
  case anewarray x =>
    dsimp only [am_eff] at hrun
    split at hrun
    · rename_i n u h10
      have hw := hG.2.1 _ hgr
      unfold am_PW at hw
      simp only [h10] at hw
      injection hrun with hrun
      injection hrun with hg hrun
      injection hrun with h1 hrun
      injection hrun with h2 h3
      subst h1 h2 h3
      simp only [Bool.and_eq_true, Bool.not_eq_true', decide_eq_false_iff_not] at hg
      obtain ⟨⟨g9, g1⟩, g2⟩ := hg
      have g9 := am_blt.mp g9
      have g2 := Nat.le_of_ble_eq_true g2
      obtain ⟨o1, o2, o3⟩ := am_gr_new hgrow (by simp)
      have hsl : am_slc (98, List.replicate n.toNatClampNeg Value.null) = n.toNatClampNeg := by
        show (List.replicate n.toNatClampNeg Value.null).length = _
        simp
      rw [am_sl_app, hsl] at hrs
      simp only [List.length_append, List.length_cons, List.length_nil] at hrc
      refine va_newq hx hb hown (hts _ hw.mem) hSt.2.1 hSt.1 hW.2.2.2.1 hW.2.2.2.2 hS (fun q h => Nat.le_trans hSt.2.2.2.2.2.2.2.2.1 h) g1 rfl (by omega) (by omega) (by omega) (hd (Nat.succ_ne_zero _)) (fun q cA H1 hK hP hD hS1 => ?_)
      have hcA : cA = dB := by
        obtain ⟨_, _, _, _, _, f1⟩ := (hK.2 2 (cA, .object "NowhereMoney$Script") rfl).2
        obtain ⟨_, _, _, _, _, f2⟩ := (hK.2 1 (dB, .object "NowhereMoney$Script") rfl).2
        exact Option.some.inj (f1.symm.trans f2)
      subst hcA
      have hx1 : am_cell G dA cA (al ++ [q]) μ S.length (98, List.replicate n.toNatClampNeg .null) = .inl (cA, n.toNatClampNeg, .inr (.inr (.inr (.inr (fun _ => none))))) := by
        show Sum.inl (cA, (List.replicate n.toNatClampNeg Value.null).length, _) = _
        have e3 : am_qf G (al ++ [q]) (List.replicate n.toNatClampNeg Value.null) = fun _ => none := by
          funext j
          unfold am_qf
          rw [List.getElem?_replicate]
          split
          · rename_i a h
            split at h <;> cases h
          · rfl
        rw [List.length_replicate]
        show Sum.inl (cA, n.toNatClampNeg, Sum.inr (Sum.inr (Sum.inr (Sum.inr (am_qf G (al ++ [q]) (List.replicate n.toNatClampNeg Value.null)))))) = _
        rw [e3]
      rw [am_conc_push0 hW.1 hW.2.1 o3 hx1] at hP hD
      have h9 : al.length ≤ 900 := by rw [hW.1]; exact hW.2.1
      have o2 : am_okS S.length u = true := by
        unfold am_okS at o2 ⊢
        simp only [List.all_cons, Bool.and_eq_true] at o2
        exact o2.2
      have kk1 := kk H1 locs (cells + 1) (slots + n.toNatClampNeg) (al ++ [q]) (by simp; omega) (by rw [am_sl_app, hsl]; omega) (List.prefix_append _ _) ⟨by simp [hW.1], by simp; omega, hW.2.2.1, hP, hD⟩ hS1 (hl.push h9 (by rw [hW.1]; exact o1))
      rw [List.map_cons, am_map_push h9 (by rw [hW.1]; exact o2)] at kk1
      have e7 : am_tr G (al ++ [q]) (.ref S.length) = .ref q := by
        show Value.ref (am_ad G (al ++ [q]) S.length) = _
        rw [am_ad_lt (by omega), ← hW.1]
        simp
      rw [e7] at kk1
      exact kk1
    · cases hrun
  all_goals (dsimp only [am_eff] at hrun; cases hrun)
end VAR
