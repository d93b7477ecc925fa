section VAR
variable {p : Program} {l : Launch} {e : Env} {R : Room} {s : State} {mi : MethodId} {args : Array Value} {below : List Frame} {meth : Method} {c : Code} {H : Heap} {locs : List Loc} {cells slots : Nat} {Q : State → Prop}
variable {t : am_T} {D : va_G} {G : am_G} {dA dB : ClassId} {N0 L : Nat} {xs : Nat → Int32} {al : List Nat} {S : am_Sh} {μ : am_M} {m : Nat}
set_option maxHeartbeats 8000000 in
theorem am_sim (hG : am_Good t) : ∀ n, am_Sim t D G dA dB N0 L xs l n := by
  intro n
  induction n with
  | zero => intro d m k ls st S μ rv S1 μ1 h; simp [am_run] at h
  | succ n ih =>
    intro d m k ls st S μ rv S1 μ1 h hsuf p e R s mi args below meth c H locs cells slots MC MS Q ar al hE hl hW hS hd1 hd2 hMC hMS hRC hRS hfin
    cases k with
    | nil => simp [am_run] at h
    | cons x k =>
      obtain ⟨pc, i, r⟩ := x
      obtain ⟨hdec, hgr, hnext⟩ := (hG.1 m).1 _ _ hsuf
      have hsk : k <:+ am_P t m := List.IsSuffix.trans (List.suffix_cons _ _) hsuf
      have hne : ∀ {d' : Nat} {ls' : am_L} {st' : List Value} {S' : am_Sh} {μ' : am_M}, am_run (am_P t) (am_ML t) L n d' m k ls' st' S' μ' = some (rv, S1, μ1) → k ≠ [] := by
        intro d' ls' st' S' μ' h hk
        subst hk
        cases n with
        | zero => simp [am_run] at h
        | succ n => simp [am_run] at h
      show W p l e R s mi args below meth c H locs cells slots Q (F0 mi pc ar (st.map (am_tr G al)))
      rw [am_run] at h
      split at h
      · rename_i ls' st' hp
        refine am_sim_pure hG hE hp hdec hgr hW hS hl (fun ar' hl' => ?_)
        have hz : am_len i ≠ 0 := by
          intro hz
          cases i
          all_goals first
            | (exact absurd hz (Nat.succ_ne_zero _))
            | (dsimp only [am_pure] at hp; cases hp)
        have := ih d m k ls' st' S μ rv S1 μ1 h hsk p e R s mi args below meth c H locs cells slots MC MS Q ar' al hE hl' hW hS hd1 hd2 hMC hMS hRC hRS hfin
        rw [hnext (hne h) hz] at this
        exact this
      · split at h
        · rename_i g st' S' μ' hp
          split at h
          · rename_i hg
            obtain ⟨hg1, hg2⟩ := (Bool.and_eq_true _ _).mp hg
            subst hg1
            obtain ⟨hm1, hm2⟩ := am_mono _ _ _ _ _ _ _ _ _ _ _ h
            refine am_sim_eff hG hE hp hg2 hdec hgr hW hS hl hd1 hd2 (by omega) (by omega) (fun H1 locs1 cells1 slots1 al' hc1 hs1 hpre hW1 hS1 hl1 => ?_)
            have hz : am_len i ≠ 0 := by
              intro hz
              cases i
              all_goals first
                | (exact absurd hz (Nat.succ_ne_zero _))
                | (dsimp only [am_eff] at hp; cases hp)
            have := ih d m k ls st' S' μ' rv S1 μ1 h hsk p e R s mi args below meth c H1 locs1 cells1 slots1 MC MS Q ar al' hE hl1 hW1 hS1 hd1 hd2 (by omega) (by omega) hRC hRS (fun pc2 i2 r2 st2 H2 locs2 al2 ar2 q1 q2 q3 q4 q5 q6 => hfin pc2 i2 r2 st2 H2 locs2 al2 ar2 q1 q2 q3 (hpre.trans q4) q5 q6)
            rw [hnext (hne h) hz] at this
            exact this
          · cases h
        · split at h
          · rename_i b tg st' hp
            refine am_sim_jmp hE.1 hE.2.1 hp hdec hgr (fun hb1 => ?_) (fun hb1 hz => ?_)
            · subst hb1
              have hk : am_at (am_P t m) tg ≠ [] := by
                intro hk
                rw [hk] at h
                cases n with
                | zero => simp [am_run] at h
                | succ n => simp [am_run] at h
              have := ih d m (am_at (am_P t m) tg) ls st' S μ rv S1 μ1 h (am_at_suf _ _) p e R s mi args below meth c H locs cells slots MC MS Q ar al hE hl hW hS hd1 hd2 hMC hMS hRC hRS hfin
              rw [am_at_pc _ _ hk] at this
              exact this
            · subst hb1
              have := ih d m k ls st' S μ rv S1 μ1 h hsk p e R s mi args below meth c H locs cells slots MC MS Q ar al hE hl hW hS hd1 hd2 hMC hMS hRC hRS hfin
              rw [hnext (hne h) hz] at this
              exact this
          · split at h
            · rename_i g rv' hp
              split at h
              · rename_i hg
                simp only [Option.some.injEq, Prod.mk.injEq] at h
                obtain ⟨rfl, rfl, rfl⟩ := h
                have e1 : cells = MC := by omega
                have e2 : slots = MS := by omega
                subst e1 e2
                exact hfin pc i r st H locs al ar hdec hgr hp List.prefix_rfl hW hS
              · cases h
            · split at h
              · rename_i m' a tl hcal
                cases d with
                | zero => cases h
                | succ d' =>
                  dsimp only at h
                  split at h
                  · cases h
                  · rename_i hlen
                    have hlen := Nat.le_of_ble_eq_true hlen
                    split at h
                    · rename_i rv' S' μ' hrun
                      split at h
                      · rename_i hg
                        obtain ⟨hm1, hm2⟩ := am_mono _ _ _ _ _ _ _ _ _ _ _ h
                        obtain ⟨hm3, hm4⟩ := am_mono _ _ _ _ _ _ _ _ _ _ _ hrun
                        have hR1 : d' + 1 ≤ R.frames := hd1
                        have hSt := hE.2.2.2.2.2.2
                        have hts := hE.2.2.2.2.1
                        have hCF : CallFix p mi c (am_B t m) (am_ML t m) s args am_ws (am_O t m) := ⟨hE.1, hE.2.1, hE.2.2.1, hE.2.2.2.1, hts⟩
                        have hworld : ∀ U : State, U.heap = H → s.WarmedH U.vm → am_St t D G dA dB N0 L xs U U.heap ∧ am_Wd D G dA dB N0 L xs al S μ U.heap := fun U hU hWU => by
                          rw [hU]
                          exact ⟨am_St.moved hWU hSt hS.1 (fun q h1 h2 => hS.2.1 q h1 h2), hW⟩
                        have hkk : am_len i ≠ 0 → am_len i = 3 → ∀ (H1 : Heap) (locs1 : List Loc) (al' : List Nat), al <+: al' → am_Wd D G dA dB N0 L xs al' S' μ' H1 → va_S (fun q => N0 ≤ q) s.heap H1 locs1 → W p l e R s mi args below meth c H1 locs1 (cells + (S'.length - S.length)) (slots + (am_sl S' - am_sl S)) Q (F0 mi (pc + 3) ar ((rv'.map (am_tr G al')).toList ++ tl.map (am_tr G al))) := by
                          intro hz hz3 H1 locs1 al' hpre hW1 hS1
                          obtain ⟨hl1, hmap⟩ := am_gr_pre hg hpre hW.1 hW1.1 hW.2.1 hl
                          have := ih (d' + 1) m k ls (rv'.toList ++ tl) S' μ' rv S1 μ1 h hsk p e R s mi args below meth c H1 locs1 (cells + (S'.length - S.length)) (slots + (am_sl S' - am_sl S)) MC MS Q ar al' hE hl1 hW1 hS1 hd1 hd2 (by omega) (by omega) hRC hRS (fun pc2 i2 r2 st2 H2 locs2 al2 ar2 q1 q2 q3 q4 q5 q6 => hfin pc2 i2 r2 st2 H2 locs2 al2 ar2 q1 q2 q3 (hpre.trans q4) q5 q6)
                          rw [hnext (hne h) hz, hz3] at this
                          have e3 : (rv'.toList ++ tl).map (am_tr G al') = (rv'.map (am_tr G al')).toList ++ tl.map (am_tr G al) := by
                            rw [List.map_append, hmap]
                            cases rv' <;> rfl
                          rw [e3] at this
                          exact this
                        unfold am_cal at hcal
                        split at hcal
                        · rename_i hr1
                          split at hcal
                          · rename_i a0 t0 hpop
                            obtain ⟨hp1, hp2⟩ := am_pop_some _ _ _ _ hpop
                            have hstk : st.map (am_tr G al) = (a0.map (am_tr G al)).reverse ++ t0.map (am_tr G al) := by rw [hp1, List.map_append, List.map_reverse]
                            cases i
                            case invokestatic xi =>
                              have hgr := hgr (by rw [hr1]; decide)
                              have hw := hG.2.1 _ hgr.1
                              have h99 := hgr.2 hr1
                              unfold am_PW at hw
                              simp only [hr1] at hw
                              cases hk8 : Nat.ble (t0.map Value.category).sum 8 with
                              | false => simp only [hk8, cond_false] at hcal; cases hcal
                              | true =>
                                simp only [hk8, cond_true, Option.some.injEq, Prod.mk.injEq] at hcal
                                obtain ⟨rfl, rfl, rfl⟩ := hcal
                                obtain ⟨hmh, hdesc, hplain, hcode, hini, hlink, hst, -, -, h150, -⟩ := hw
                                have hM := am_met (l := l) (al := al) hG ih hplain hlen hrun
                                rw [hstk]
                                have hcat : 2 * (F0 mi pc ar ((a0.map (am_tr G al)).reverse ++ t0.map (am_tr G al))).monitorRoom + ((t0.map (am_tr G al)).map fun v => v.category).sum ≤ 8 := lv_room (by rw [am_cats]; exact Nat.le_of_ble_eq_true hk8)
                                rcases hlink with hlink | ⟨oc, hoc, hnest⟩
                                · exact am_go (va_runS (As := a0.map (am_tr G al)) (rest := t0.map (am_tr G al)) hCF hM ⟨callB_of (Ts := am_ws) r.2.2.1 hts (am_good_in hcode) rfl rfl rfl (hts _ hini.mem) (hts _ hlink.mem) ⟨hmh.1, hmh.2, hdesc⟩ ⟨hR1, by show 8 + (_ + 11) + 200 * d' ≤ _; omega⟩, hts _ (hst h99).mem⟩ ⟨am_blind, fun U hU hWU => ⟨rfl, hworld U hU hWU⟩⟩ rfl (by simpa using hp2) hl.2.1 rfl hcat (hdec.1 (Nat.succ_ne_zero _)) ⟨by omega, by omega⟩) hS (hkk (Nat.succ_ne_zero _) rfl)
                                · have hnw := hSt.2.2.2.2.2.2.2.2.2 _ hnest
                                  rw [show am_cn (oc, _, r.2.1).1 = am_O t m from hoc.symm] at hnw
                                  exact am_go (va_runSN (As := a0.map (am_tr G al)) (rest := t0.map (am_tr G al)) hCF hM ⟨va_cnB (host := "NowhereMoney") (Ts := am_ws) r.2.2.1 hts (am_good_in hcode) rfl rfl rfl hnw (hts _ hini.mem) ⟨hmh.1, hmh.2, hdesc⟩ ⟨hR1, by show 8 + (_ + 11) + 200 * d' ≤ _; omega⟩, hts _ (hst h99).mem, trivial⟩ ⟨am_blind, fun U hU hWU => ⟨rfl, hworld U hU hWU⟩⟩ rfl (by simpa using hp2) hl.2.1 rfl hcat (hdec.1 (Nat.succ_ne_zero _)) ⟨by omega, by omega⟩) hS (hkk (Nat.succ_ne_zero _) rfl)
                            case invokespecial xi =>
                              have hw := hG.2.1 _ hgr.1
                              have h98 := hgr.2 hr1
                              unfold am_PW at hw
                              simp only [hr1] at hw
                              simp only at hcal
                              split at hcal
                              · rename_i cc t2
                                cases hk8 : Nat.ble (t2.map Value.category).sum 8 with
                                | false => simp only [hk8, cond_false] at hcal; cases hcal
                                | true =>
                                  simp only [hk8, cond_true, Option.some.injEq, Prod.mk.injEq] at hcal
                                  obtain ⟨rfl, rfl, rfl⟩ := hcal
                                  obtain ⟨hmh, hdesc, hplain, hcode, hini, hlink, -, hsp, -, h150, -⟩ := hw
                                  obtain ⟨hs1, hs2, hs3⟩ := hsp h98
                                  have hM := am_met (l := l) (al := al) hG ih hplain hlen hrun
                                  rw [hstk]
                                  have hcat : 2 * (F0 mi pc ar ((a0.map (am_tr G al)).reverse ++ (Value.ref cc :: t2).map (am_tr G al))).monitorRoom + ((t2.map (am_tr G al)).map fun v => v.category).sum ≤ 8 := lv_room (by rw [am_cats]; exact Nat.le_of_ble_eq_true hk8)
                                  have hgi := am_good_in hcode
                                  unfold am_WS at hM hgi
                                  rw [hs2] at hM hgi
                                  rcases hlink with hlink | ⟨oc, hoc, hnest⟩
                                  · exact am_go (va_runI (b := am_ad G al cc) (As := a0.map (am_tr G al)) (rest := t2.map (am_tr G al)) hCF hM ⟨callB_of (Ts := am_ws) r.2.2.1 hts hgi rfl rfl rfl (hts _ hini.mem) (hts _ hlink.mem) ⟨hmh.1, hmh.2, hdesc⟩ ⟨hR1, by show 8 + (_ + 11) + 200 * d' ≤ _; omega⟩, hs1, hts _ hs3.mem⟩ ⟨am_blind, fun U hU hWU => ⟨rfl, hworld U hU hWU⟩⟩ rfl (by simpa using hp2) hl.2.1 rfl hcat (hdec.1 (Nat.succ_ne_zero _)) ⟨by omega, by omega⟩) hS (hkk (Nat.succ_ne_zero _) rfl)
                                  · have hnw := hSt.2.2.2.2.2.2.2.2.2 _ hnest
                                    rw [show am_cn (oc, _, r.2.1).1 = am_O t m from hoc.symm] at hnw
                                    exact am_go (va_runIN (b := am_ad G al cc) (As := a0.map (am_tr G al)) (rest := t2.map (am_tr G al)) hCF hM ⟨va_cnB (host := "NowhereMoney") (Ts := am_ws) r.2.2.1 hts hgi rfl rfl rfl hnw (hts _ hini.mem) ⟨hmh.1, hmh.2, hdesc⟩ ⟨hR1, by show 8 + (_ + 11) + 200 * d' ≤ _; omega⟩, hs1, hts _ hs3.mem⟩ ⟨am_blind, fun U hU hWU => ⟨rfl, hworld U hU hWU⟩⟩ rfl (by simpa using hp2) hl.2.1 rfl hcat (hdec.1 (Nat.succ_ne_zero _)) ⟨by omega, by omega⟩) hS (hkk (Nat.succ_ne_zero _) rfl)
                              · cases hcal
                            case invokevirtual xi =>
                              have hw := hG.2.1 _ hgr
                              unfold am_PW at hw
                              simp only [hr1] at hw
                              simp only at hcal
                              split at hcal
                              · rename_i cc t2
                                cases hk9 : (am_isA S cc r.2.2.2 && Nat.ble (t2.map Value.category).sum 8) with
                                | false => simp only [hk9, cond_false] at hcal; cases hcal
                                | true =>
                                  simp only [hk9, cond_true, Option.some.injEq, Prod.mk.injEq] at hcal
                                  obtain ⟨rfl, rfl, rfl⟩ := hcal
                                  obtain ⟨hisA, hk8⟩ := (Bool.and_eq_true _ _).mp hk9
                                  obtain ⟨hmh, hdesc, hplain, hcode, hini, hlink, -, -, hvi, h150, -⟩ := hw
                                  have hM := am_met (l := l) (al := al) hG ih hplain hlen hrun
                                  rw [hstk]
                                  have hcat : 2 * (F0 mi pc ar ((a0.map (am_tr G al)).reverse ++ (Value.ref cc :: t2).map (am_tr G al))).monitorRoom + ((t2.map (am_tr G al)).map fun v => v.category).sum ≤ 8 := lv_room (by rw [am_cats]; exact Nat.le_of_ble_eq_true hk8)
                                  have hrec : r.2.2.2 < 98 ∧ ∃ cellB : Cell, H[am_ad G al cc]? = some cellB ∧ cellB.vm.isStatics = false ∧ s.vm.findClass (am_cn r.2.2.2) = some cellB.cls := by
                                    unfold am_isA at hisA
                                    split at hisA
                                    · rename_i kd vs hc
                                      obtain ⟨z1, z2⟩ := (Bool.and_eq_true _ _).mp hisA
                                      have z1 := Nat.eq_of_beq_eq_true z1
                                      have z2 := am_blt.mp z2
                                      subst z1
                                      refine ⟨by omega, ?_⟩
                                      have hlt := am_lt_len hc
                                      rw [am_ad_lt (Nat.lt_of_lt_of_le hlt (Nat.le_trans hW.2.1 (by decide)))]
                                      have hat := am_conc_at G dA dB al S μ cc
                                      rw [hc] at hat
                                      have e5 : Nat.blt r.2.2.2 50 = true := am_blt.mpr (by omega)
                                      simp only [Option.map_some, am_cell, e5, cond_true] at hat
                                      obtain ⟨q, hq1, hq2⟩ := am_cn_of _ z2
                                      rw [← hq2]
                                      exact va_recv hSt.1 hW.2.2.2.1 hq1 hat
                                    · obtain ⟨z1, z2⟩ := (Bool.and_eq_true _ _).mp hisA
                                      obtain ⟨z2, z3⟩ := (Bool.and_eq_true _ _).mp z2
                                      have z1 := Nat.eq_of_beq_eq_true z1
                                      have z2 := Nat.le_of_ble_eq_true z2
                                      have z3 : cc < 1021 := am_blt.mp z3
                                      rw [z1]
                                      refine ⟨by decide, ?_⟩
                                      rw [am_ad_str z2 (Nat.lt_trans z3 (by decide))]
                                      obtain ⟨cell, g1, g2, g3, -⟩ := (hSt.2.2.2.1 (cc - 1000) ((Nat.sub_lt_iff_lt_add z2).mpr z3)).1.kept hS.2.1
                                      exact ⟨cell, g1, g2, g3⟩
                                  obtain ⟨h98, hrec⟩ := hrec
                                  obtain ⟨hv1, hv2, hv3⟩ := hvi h98
                                  rw [← hv1] at hrec
                                  rcases hlink with hlink | ⟨oc, hoc, hnest⟩
                                  · exact am_go (va_runV (C := (am_Y t r.2.1).cls) (b := am_ad G al cc) (As := a0.map (am_tr G al)) (rest := t2.map (am_tr G al)) hCF hM ⟨callB_of (Ts := am_ws) r.2.2.1 hts (am_good_in hcode) rfl rfl rfl (hts _ hini.mem) (hts _ hlink.mem) ⟨hmh.1, hmh.2, hdesc⟩ ⟨hR1, by show 8 + (_ + 11) + 200 * d' ≤ _; omega⟩, hts _ hv2.mem, hts _ hv3.mem⟩ ⟨am_blind, hrec, fun U hU hWU => ⟨rfl, hworld U hU hWU⟩⟩ rfl (by simpa using hp2) hl.2.1 rfl hcat (hdec.1 (Nat.succ_ne_zero _)) ⟨by omega, by omega⟩) hS (hkk (Nat.succ_ne_zero _) rfl)
                                  · have hnw := hSt.2.2.2.2.2.2.2.2.2 _ hnest
                                    rw [show am_cn (oc, _, r.2.1).1 = am_O t m from hoc.symm] at hnw
                                    exact am_go (va_runVN (C := (am_Y t r.2.1).cls) (b := am_ad G al cc) (As := a0.map (am_tr G al)) (rest := t2.map (am_tr G al)) hCF hM ⟨va_cnB (host := "NowhereMoney") (Ts := am_ws) r.2.2.1 hts (am_good_in hcode) rfl rfl rfl hnw (hts _ hini.mem) ⟨hmh.1, hmh.2, hdesc⟩ ⟨hR1, by show 8 + (_ + 11) + 200 * d' ≤ _; omega⟩, hts _ hv2.mem, hts _ hv3.mem⟩ ⟨am_blind, hrec, fun U hU hWU => ⟨rfl, hworld U hU hWU⟩⟩ rfl (by simpa using hp2) hl.2.1 rfl hcat (hdec.1 (Nat.succ_ne_zero _)) ⟨by omega, by omega⟩) hS (hkk (Nat.succ_ne_zero _) rfl)
                              · cases hcal
                            all_goals (simp only at hcal; cases hcal)
                          · cases hcal
                        · cases hcal
                      · cases h
                    · cases h
              · cases h
end VAR
