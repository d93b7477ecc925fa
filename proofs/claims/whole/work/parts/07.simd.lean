/-! Jumps, answers, calls: the whole simulation. -/
theorem am_eff_mono {L d : Nat} {S S' : am_Sh} {i : Instr} {r : am_R} {st st' : List Value} {μ μ' : am_M} {g : Bool} (h : am_eff L d S i r st μ = some (g, st', S', μ')) : S.length ≤ S'.length ∧ am_sl S ≤ am_sl S' := by
  have fin : S' = S → S.length ≤ S'.length ∧ am_sl S ≤ am_sl S' := fun e => by rw [e]; exact ⟨Nat.le_refl _, Nat.le_refl _⟩
  have finA : ∀ x, S' = S ++ [x] → S.length ≤ S'.length ∧ am_sl S ≤ am_sl S' := fun x e => by rw [e, am_sl_app]; exact ⟨by simp, by omega⟩
  have finS : ∀ c x y, S[c]? = some x → am_slc y = am_slc x → S' = S.set c y → S.length ≤ S'.length ∧ am_sl S ≤ am_sl S' := fun c x y h1 h2 e => by rw [e, am_sl_set S c x y h1 h2]; exact ⟨by simp, Nat.le_refl _⟩
  cases i
  case iaload =>
    dsimp only [am_eff] at h
    split at h
    · split at h
      · cases h; exact fin rfl
      · cases h
    · cases h
  case baload =>
    dsimp only [am_eff] at h
    split at h
    · rename_i i cc u
      cases hk : (Nat.ble 2000 cc && Nat.blt cc (2000 + am_sN)) with
      | false => rw [hk] at h; cases h
      | true =>
        rw [hk] at h
        simp only [cond_true, Option.some.injEq, Prod.mk.injEq] at h
        exact fin h.2.2.1.symm
    · cases h
  case aaload =>
    dsimp only [am_eff] at h
    split at h
    · split at h
      · rename_i kd vs hc
        cases hk : Nat.beq kd 98 with
        | false => rw [hk] at h; cases h
        | true =>
          rw [hk] at h
          simp only [cond_true] at h
          split at h
          · simp only [Option.some.injEq, Prod.mk.injEq] at h
            exact fin h.2.2.1.symm
          · cases h
      · cases h
    · cases h
  case iastore =>
    dsimp only [am_eff] at h
    split at h
    · split at h
      · rename_i kd vs hc
        cases hk : Nat.ble 100 kd with
        | false => rw [hk] at h; cases h
        | true =>
          rw [hk] at h
          simp only [cond_true, Option.some.injEq, Prod.mk.injEq] at h
          exact fin h.2.2.1.symm
      · cases h
    · cases h
  case aastore =>
    dsimp only [am_eff] at h
    split at h
    · split at h
      · rename_i kd vs vs2 hc hv2
        cases hk : Nat.beq kd 98 with
        | false => rw [hk] at h; cases h
        | true =>
          rw [hk] at h
          have hk := Nat.eq_of_beq_eq_true hk
          subst hk
          simp only [cond_true, Option.some.injEq, Prod.mk.injEq] at h
          exact finS _ _ _ hc (by show (vs.set _ _).length = vs.length; simp) h.2.2.1.symm
      · cases h
    · cases h
  case putfield x =>
    dsimp only [am_eff] at h
    split at h
    · split at h
      · rename_i kd vs h0 hc
        cases hk : Nat.beq kd r.2.1 with
        | false => rw [hk] at h; cases h
        | true =>
          rw [hk] at h
          simp only [cond_true] at h
          split at h
          · simp only [Option.some.injEq, Prod.mk.injEq] at h
            exact fin h.2.2.1.symm
          · simp only [Option.some.injEq, Prod.mk.injEq] at h
            exact finS _ _ _ hc (by unfold am_slc; simp) h.2.2.1.symm
          · simp only [Option.some.injEq, Prod.mk.injEq] at h
            exact finS _ _ _ hc (by unfold am_slc; simp) h.2.2.1.symm
          · cases h
      · cases h
    · cases h
  case idiv =>
    dsimp only [am_eff] at h
    split at h
    · simp only [Option.some.injEq, Prod.mk.injEq] at h
      exact fin h.2.2.1.symm
    · cases h
  case irem =>
    dsimp only [am_eff] at h
    split at h
    · simp only [Option.some.injEq, Prod.mk.injEq] at h
      exact fin h.2.2.1.symm
    · cases h
  case ldiv =>
    dsimp only [am_eff] at h
    split at h
    · simp only [Option.some.injEq, Prod.mk.injEq] at h
      exact fin h.2.2.1.symm
    · cases h
  case invokestatic x =>
    dsimp only [am_eff] at h
    split at h
    · split at h
      · rename_i k0 v0 k1 v1 hc0 hc1
        cases hk : (Nat.ble 100 k0 && Nat.ble 100 k1) with
        | false => rw [hk] at h; cases h
        | true =>
          rw [hk] at h
          simp only [cond_true, Option.some.injEq, Prod.mk.injEq] at h
          exact fin h.2.2.1.symm
      · cases h
    · simp only [Option.some.injEq, Prod.mk.injEq] at h
      exact fin h.2.2.1.symm
    · simp only [Option.some.injEq, Prod.mk.injEq] at h
      exact fin h.2.2.1.symm
    · simp only [Option.some.injEq, Prod.mk.injEq] at h
      exact fin h.2.2.1.symm
    · simp only [Option.some.injEq, Prod.mk.injEq] at h
      exact fin h.2.2.1.symm
    · cases h
  case invokespecial x =>
    dsimp only [am_eff] at h
    split at h
    · simp only [Option.some.injEq, Prod.mk.injEq] at h
      exact fin h.2.2.1.symm
    · cases h
  case new x =>
    dsimp only [am_eff] at h
    split at h
    · simp only [Option.some.injEq, Prod.mk.injEq] at h
      exact finA _ h.2.2.1.symm
    · cases h
  case newarray ty =>
    cases ty
    case int =>
      dsimp only [am_eff] at h
      split at h
      · simp only [Option.some.injEq, Prod.mk.injEq] at h
        exact finA _ h.2.2.1.symm
      · cases h
    all_goals (dsimp only [am_eff] at h; cases h)
  case anewarray x =>
    dsimp only [am_eff] at h
    split at h
    · simp only [Option.some.injEq, Prod.mk.injEq] at h
      exact finA _ h.2.2.1.symm
    · cases h
  all_goals (dsimp only [am_eff] at h; cases h)
theorem am_mono {P : Nat → List am_I} {ML : Nat → Nat} {L : Nat} : ∀ (n d m : Nat) (k : List am_I) (ls : am_L) (st : List Value) (S : am_Sh) (μ : am_M) (rv : Option Value) (S1 : am_Sh) (μ1 : am_M), am_run P ML L n d m k ls st S μ = some (rv, S1, μ1) → S.length ≤ S1.length ∧ am_sl S ≤ am_sl S1 := by
  intro n
  induction n with
  | zero => intro d m k ls st S μ rv S1 μ1 h; simp [am_run] at h
  | succ n ih =>
    intro d m k ls st S μ rv S1 μ1 h
    cases k with
    | nil => simp [am_run] at h
    | cons x k =>
      obtain ⟨pc, i, r⟩ := x
      rw [am_run] at h
      split at h
      · exact ih _ _ _ _ _ _ _ _ _ _ h
      · split at h
        · rename_i heff
          split at h
          · have h1 := ih _ _ _ _ _ _ _ _ _ _ h
            have h2 := am_eff_mono heff
            omega
          · cases h
        · split at h
          · split at h
            · exact ih _ _ _ _ _ _ _ _ _ _ h
            · exact ih _ _ _ _ _ _ _ _ _ _ h
          · split at h
            · split at h
              · cases h; exact ⟨Nat.le_refl _, Nat.le_refl _⟩
              · cases h
            · split at h
              · split at h
                · cases h
                · split at h
                  · cases h
                  · split at h
                    · rename_i hc
                      split at h
                      · have h1 := ih _ _ _ _ _ _ _ _ _ _ h
                        have h2 := ih _ _ _ _ _ _ _ _ _ _ hc
                        omega
                      · cases h
                    · cases h
              · cases h
theorem am_ad_pre {G : am_G} {al al' : List Nat} {a : Nat} (hp : al <+: al') (h9 : al.length ≤ 900) (h : am_okV al.length (.ref a) = true) : am_ad G al' a = am_ad G al a := by
  obtain ⟨x, rfl⟩ := hp
  unfold am_ad
  have h : (Nat.blt a al.length || Nat.ble 1000 a) = true := h
  cases h1 : Nat.blt a 1000 with
  | false => rfl
  | true =>
    have h2 : a < al.length := by
      rcases (Bool.or_eq_true _ _).mp h with h | h
      · exact am_blt.mp h
      · exact absurd (Nat.le_of_ble_eq_true h) (Nat.not_le.mpr (am_blt.mp h1))
    show (al ++ x).getD a 0 = al.getD a 0
    rw [List.getD_eq_getElem?_getD, List.getD_eq_getElem?_getD, List.getElem?_append_left h2]
theorem am_tr_pre {G : am_G} {al al' : List Nat} {v : Value} (hp : al <+: al') (h9 : al.length ≤ 900) (h : am_okV al.length v = true) : am_tr G al' v = am_tr G al v := by
  cases v with
  | ref a => show Value.ref _ = Value.ref _; rw [am_ad_pre hp h9 h]
  | _ => rfl
theorem am_gr_pre {G : am_G} {al al' : List Nat} {S S' : am_Sh} {ls : am_L} {st : List Value} {n : Nat} {ar : Array Slot} (h : am_gr S S' ls st = true) (hp : al <+: al') (h1 : al.length = S.length) (h2 : al'.length = S'.length) (h9 : S.length ≤ 900) (hl : am_hasL (am_tr G al) ar n ls) :
    am_hasL (am_tr G al') ar n ls ∧ st.map (am_tr G al') = st.map (am_tr G al) := by
  unfold am_gr at h
  rcases (Bool.or_eq_true _ _).mp h with h | h
  · have he := Nat.eq_of_beq_eq_true h
    have : al = al' := hp.eq_of_length (by omega)
    subst this
    exact ⟨hl, rfl⟩
  · obtain ⟨g1, g2⟩ := (Bool.and_eq_true _ _).mp h
    obtain ⟨g2, -⟩ := (Bool.and_eq_true _ _).mp g2
    rw [← h1] at g1 g2
    refine ⟨⟨hl.1, ?_⟩, List.map_congr_left (fun u hu => am_tr_pre hp (by omega) (List.all_eq_true.mp g2 _ hu))⟩
    rw [am_prs_congr (g := am_tr G al) ls 0 (fun u hu => am_tr_pre hp (by omega) (List.all_eq_true.mp g1 _ hu))]
    exact hl.2
theorem am_at_suf (k : List am_I) (tg : Nat) : am_at k tg <:+ k := List.dropWhile_suffix _
theorem am_at_pc (k : List am_I) (tg : Nat) (h : am_at k tg ≠ []) : am_pc (am_at k tg) = tg := by
  have h1 := List.head_dropWhile_not (l := k) (fun e : am_I => !(Nat.beq e.1 tg)) h
  have h2 : ∀ (l : List am_I) (h : l ≠ []), am_pc l = (l.head h).1 := by
    intro l h
    cases l with
    | nil => exact absurd rfl h
    | cons x y => simp [am_pc]
  rw [h2 _ h]
  have h1 : (!(Nat.beq ((am_at k tg).head h).1 tg)) = false := h1
  simp only [Bool.not_eq_false'] at h1
  exact Nat.eq_of_beq_eq_true h1
theorem am_cn_of : ∀ ci, ci < 12 → ∃ q, vwCl[ci]? = some q ∧ q.1 = am_cn ci := by
  intro ci h
  match ci, h with
  | 0, _ => exact ⟨_, rfl, rfl⟩
  | 1, _ => exact ⟨_, rfl, rfl⟩
  | 2, _ => exact ⟨_, rfl, rfl⟩
  | 3, _ => exact ⟨_, rfl, rfl⟩
  | 4, _ => exact ⟨_, rfl, rfl⟩
  | 5, _ => exact ⟨_, rfl, rfl⟩
  | 6, _ => exact ⟨_, rfl, rfl⟩
  | 7, _ => exact ⟨_, rfl, rfl⟩
  | 8, _ => exact ⟨_, rfl, rfl⟩
  | 9, _ => exact ⟨_, rfl, rfl⟩
  | 10, _ => exact ⟨_, rfl, rfl⟩
  | 11, _ => exact ⟨_, rfl, rfl⟩
  | k + 12, h => omega
section VAR
variable {p : Program} {l : Launch} {e : Env} {R : Room} {s : State} {mi : MethodId} {args : Array Value} {below : List Frame} {meth : Method} {c : Code} {H : Heap} {locs : List Loc} {cells slots : Nat} {Q : State → Prop}
variable {t : am_T} {D : va_G} {G : am_G} {dA dB : ClassId} {N0 L : Nat} {xs : Nat → Int32} {al : List Nat} {S : am_Sh} {μ : am_M} {m : Nat}
set_option maxHeartbeats 4000000 in
theorem am_sim_jmp (hx : p.tables.exec = Jvm.exec) (hb : c.code = am_B t m) {pc tg : Nat} {i : Instr} {r : am_R} {st st' : List Value} {ar : Array Slot} {b : Bool}
    (hrun : am_jmp i r pc st = some (b, tg, st')) (hdec : am_dec (am_B t m) pc i) (hgr : am_GR t m pc i r)
    (kt : b = true → W p l e R s mi args below meth c H locs cells slots Q (F0 mi tg ar (st'.map (am_tr G al))))
    (kf : b = false → am_len i ≠ 0 → W p l e R s mi args below meth c H locs cells slots Q (F0 mi (pc + am_len i) ar (st'.map (am_tr G al)))) :
    W p l e R s mi args below meth c H locs cells slots Q (F0 mi pc ar (st.map (am_tr G al))) := by
  have hd := hdec.1
  cases i
  case goto o =>
    cases hrun
    exact lv_goto hx hb (hd (Nat.succ_ne_zero _)) hgr (kt rfl)
  case ifCond cd o =>
    dsimp only [am_jmp] at hrun
    split at hrun
    · simp only [Option.some.injEq, Prod.mk.injEq] at hrun
      obtain ⟨hb1, rfl, rfl⟩ := hrun
      have kf := fun h => kf h (Nat.succ_ne_zero _)
      cases cd
      · exact lv_if_eq hx hb (hd (Nat.succ_ne_zero _)) hgr (fun h => kt (by rw [← hb1]; simpa [am_cmp] using h)) (fun h => kf (by rw [← hb1]; simpa [am_cmp] using h))
      · exact lv_if_ne hx hb (hd (Nat.succ_ne_zero _)) hgr (fun h => kt (by rw [← hb1]; simpa [am_cmp] using h)) (fun h => kf (by rw [← hb1]; simpa [am_cmp] using h))
      · exact lv_if_lt hx hb (hd (Nat.succ_ne_zero _)) hgr (fun h => kt (by rw [← hb1]; exact decide_eq_true h)) (fun h => kf (by rw [← hb1]; exact decide_eq_false h))
      · exact lv_if_ge hx hb (hd (Nat.succ_ne_zero _)) hgr (fun h => kt (by rw [← hb1]; exact decide_eq_true h)) (fun h => kf (by rw [← hb1]; exact decide_eq_false h))
      · exact lv_if_gt hx hb (hd (Nat.succ_ne_zero _)) hgr (fun h => kt (by rw [← hb1]; exact decide_eq_true h)) (fun h => kf (by rw [← hb1]; exact decide_eq_false h))
      · exact lv_if_le hx hb (hd (Nat.succ_ne_zero _)) hgr (fun h => kt (by rw [← hb1]; exact decide_eq_true h)) (fun h => kf (by rw [← hb1]; exact decide_eq_false h))
    · cases hrun
  case if_icmp cd o =>
    dsimp only [am_jmp] at hrun
    split at hrun
    · simp only [Option.some.injEq, Prod.mk.injEq] at hrun
      obtain ⟨hb1, rfl, rfl⟩ := hrun
      have kf := fun h => kf h (Nat.succ_ne_zero _)
      cases cd
      · exact lv_icmp_eq hx hb (hd (Nat.succ_ne_zero _)) hgr (fun h => kt (by rw [← hb1]; simpa [am_cmp] using h)) (fun h => kf (by rw [← hb1]; simpa [am_cmp] using h))
      · exact lv_icmp_ne hx hb (hd (Nat.succ_ne_zero _)) hgr (fun h => kt (by rw [← hb1]; simpa [am_cmp] using h)) (fun h => kf (by rw [← hb1]; simpa [am_cmp] using h))
      · exact lv_icmp_lt hx hb (hd (Nat.succ_ne_zero _)) hgr (fun h => kt (by rw [← hb1]; exact decide_eq_true h)) (fun h => kf (by rw [← hb1]; exact decide_eq_false h))
      · exact lv_icmp_ge hx hb (hd (Nat.succ_ne_zero _)) hgr (fun h => kt (by rw [← hb1]; exact decide_eq_true h)) (fun h => kf (by rw [← hb1]; exact decide_eq_false h))
      · exact lv_icmp_gt hx hb (hd (Nat.succ_ne_zero _)) hgr (fun h => kt (by rw [← hb1]; exact decide_eq_true h)) (fun h => kf (by rw [← hb1]; exact decide_eq_false h))
      · exact lv_icmp_le hx hb (hd (Nat.succ_ne_zero _)) hgr (fun h => kt (by rw [← hb1]; exact decide_eq_true h)) (fun h => kf (by rw [← hb1]; exact decide_eq_false h))
    · cases hrun
  case ifnull o =>
    dsimp only [am_jmp] at hrun
    split at hrun
    · cases hrun
      exact lv_ifnullN hx hb (hd (Nat.succ_ne_zero _)) hgr (kt rfl)
    · cases hrun
      exact lv_ifnull hx hb (hd (Nat.succ_ne_zero _)) (kf rfl (Nat.succ_ne_zero _))
    · cases hrun
  case tableswitch dflt lo hi offs =>
    obtain ⟨n, hn⟩ := hdec.2 rfl
    dsimp only [am_jmp] at hrun
    split at hrun
    · rename_i x u
      split at hrun
      · rename_i ho
        simp only [Option.some.injEq, Prod.mk.injEq] at hrun
        obtain ⟨hb1, rfl, rfl⟩ := hrun
        refine lv_tableOut hx hb hn ?_ (Int.toNat_of_nonneg hgr.1).symm (kt hb1.symm)
        simpa using ho
      · rename_i ho
        split at hrun
        · rename_i o hoo
          simp only [Option.some.injEq, Prod.mk.injEq] at hrun
          obtain ⟨hb1, rfl, rfl⟩ := hrun
          have ho : ¬ (x.toInt < lo ∨ hi < x.toInt) := by simpa using ho
          refine lv_tableIn hx hb hn (fun h => ho (Or.inl h)) (fun h => ho (Or.inr h)) hoo (Int.toNat_of_nonneg (hgr.2 o ?_)).symm (kt hb1.symm)
          exact Array.mem_toList_iff.mpr (Array.mem_of_getElem? hoo)
        · cases hrun
    · cases hrun
  all_goals (dsimp only [am_jmp] at hrun; cases hrun)
end VAR
