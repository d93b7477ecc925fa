/-! The end of all flights, in thought: what a morning leaves behind the entries; mornings in a row. -/
variable {nb : Nat}
theorem W_books_x {w : an_W} {h b j : Nat} {kind k v : Int32} (hE : an_N (w 9810) 901) (hh : h < 6) (hb : b < 4) (hj : 16120 ≤ j) : W_books w h b kind k v j = w j := by
  obtain ⟨e, l⟩ := an_E_e hE
  unfold W_books
  split
  · rfl
  · split
    · rw [pk_un (by omega)]
    · rw [pk_un (by omega), an_uf_out _ _ _ _ (Or.inr (by simp only [List.length_cons, List.length_nil]; omega)), pk_un (by omega)]
/-- nothing is written behind the last entry -/
def an_fx (w w' : an_W) : Prop := ∀ j, 16120 ≤ j → w' j = w j
theorem an_fx_tr {w w' w'' : an_W} (h : an_fx w w') (h' : an_fx w' w'') : an_fx w w'' := fun j hj => (h' j hj).trans (h j hj)
theorem an_fx_cb {w : an_W} {T : Nat} (h : an_mid nb w T) : ∀ n, n ≤ an_cnt w → an_fx w (an_cb w n) := by
  intro n
  have l150 := (an_cnt_e h.2.1).2
  induction n with
  | zero => intro _ j _; rfl
  | succ n ih =>
    intro hn
    obtain ⟨r1, r2, r3⟩ := an_mid_cb h n (by omega)
    refine an_fx_tr (ih (by omega)) (fun j hj => ?_)
    obtain ⟨n0, n1, n2, n3, _⟩ := r1.2.2.2.2.2.1 n (by omega)
    obtain ⟨e2, l2⟩ := an_N_e n2 (by omega)
    obtain ⟨e3, l3⟩ := an_N_e n3 (by omega)
    show an_cb1 (an_cb w n) n j = _
    unfold an_cb1
    split
    · rw [W_books_x (by rw [pk_un (by omega)]; exact r1.2.2.1) l2 l3 hj, pk_un (by omega)]
    · rfl
theorem an_fx_a1 {w : an_W} {ls : List an_Ln} {T k b : Nat} (h : an_mid nb w T) (hk : k < an_cnt w) (hb : b < 4) : an_fx w (W_a1 w ls b k) := by
  intro j hj
  have l150 := (an_cnt_e h.2.1).2
  obtain ⟨n0, _⟩ := h.2.2.2.2.2.1 k hk
  obtain ⟨e0, l0⟩ := an_N_e n0 (by omega)
  have q : ∀ (kind v fee st nd : Int32), W_as w k (w (3640 + 12 * k + 0)).toNatClampNeg b kind v fee st nd j = w j := fun kind v fee st nd => by
    unfold W_as
    rw [pk_un (by omega), pk_un (by omega), pk_un (by omega), pk_un (by omega), pk_un (by omega), W_books_x h.2.2.1 l0 hb hj]
  unfold W_a1 W_ask
  split
  · exact q _ _ _ _ _
  · exact q _ _ _ _ _
theorem an_fx_asl {ls : List an_Ln} {b T : Nat} (hb : b < 4) (hT : T < 2147483648) : ∀ (s : List Nat) (w : an_W), an_mid nb w T → (∀ q ∈ s, q < an_cnt w ∧ w (3640 + 12 * q + 6) = 0 ∧ w (3640 + 12 * q + 1) = nI b) → s.Nodup → an_fx w (W_asl ls b w s) := by
  intro s
  induction s with
  | nil => intro w h _ _ j _; rfl
  | cons k t ih =>
    intro w h hq hn
    obtain ⟨k1, k2, k3⟩ := hq k (List.mem_cons_self ..)
    obtain ⟨n1, n2⟩ := List.nodup_cons.mp hn
    obtain ⟨A, _⟩ := an_mid_ain hT h
    have q150 := (an_cnt_e h.2.1).2
    obtain ⟨r1, r2, r3⟩ := an_mid_a1 (ls := ls) h k1 hb k2
    exact an_fx_tr (an_fx_a1 h k1 hb) (ih (W_a1 w ls b k) r1 (fun q hq' => by
      obtain ⟨z1, z2, z3⟩ := hq q (List.mem_cons_of_mem _ hq')
      have ne : ¬ q = k := fun z => n1 (z ▸ hq')
      exact ⟨by rw [r3]; exact z1, by rw [W_a1_o A k1 hb k3 (by omega) (by omega) (by omega) (by omega) (by omega) (by omega)]; exact z2, by rw [W_a1_o A k1 hb k3 (by omega) (by omega) (by omega) (by omega) (by omega) (by omega)]; exact z3⟩) n2)
theorem an_fx_bks {lss : Nat → List an_Ln} {ord : Int32} {T : Nat} (hT : T < 2147483648) : ∀ (n b : Nat) (w : an_W), b + n ≤ 4 → an_mid nb w T → an_fx w (W_bks lss ord n b w) := by
  intro n
  induction n with
  | zero => intro b w _ _ j _; rfl
  | succ n ih =>
    intro b w hb h
    have hq : ∀ q ∈ an_lis w b ord, q < an_cnt w ∧ w (3640 + 12 * q + 6) = 0 ∧ w (3640 + 12 * q + 1) = nI b := fun q hq => by
      obtain ⟨z0, -, z1⟩ := (an_lis_q (w := w) (b := b) (ord := ord)).1 q hq
      exact ⟨z0, (an_lst_7 _ q (List.mem_reverse.mp hq)).1, z1⟩
    obtain ⟨r1, r2, r3⟩ := an_mid_asl (ls := lss b) (b := b) (by omega) hT (an_lis w b ord) w h hq (an_lis_q (w := w) (b := b) (ord := ord)).2.1
    exact an_fx_tr (an_fx_asl (by omega) hT (an_lis w b ord) w h hq (an_lis_q (w := w) (b := b) (ord := ord)).2.1) (ih (b + 1) _ (by omega) r1)
theorem an_mor_x {lss : Nat → List an_Ln} {ord : Int32} {w : an_W} {D : Nat} (hD9 : D < 199) (h : an_led nb w D) : an_fx w (W_mor lss ord w D) := by
  have m0 := an_led_mid h
  have hc0 : an_cnt (upd w 0 (nI (D + 1))) = an_cnt w := by unfold an_cnt; rw [pk_un (by omega)]
  have l150 := (an_cnt_e h.2.1).2
  have e1 : an_fx w (W_mor1 w D) := fun j hj => by
    unfold W_mor1
    rw [W_ride_o (by rw [hc0]; exact fun k hk => by omega), pk_un (by omega)]
  obtain ⟨r1, r3⟩ : an_mid nb (W_mor1 w D) (D + 1) ∧ an_cnt (W_mor1 w D) = an_cnt w := by
    unfold W_mor1 W_ride
    split
    · obtain ⟨s1, s2, s3⟩ := an_mid_ride m0 _ (Nat.le_refl _)
      exact ⟨s1, s3.trans hc0⟩
    · exact ⟨m0, hc0⟩
  unfold W_mor
  cases W_biz (upd w 0 (nI (D + 1))) (D + 1) with
  | true =>
    obtain ⟨c1, c2, c3⟩ := an_mid_cb r1 _ (Nat.le_refl _)
    exact an_fx_tr (an_fx_tr e1 (an_fx_cb r1 _ (Nat.le_refl _))) (an_fx_bks (by omega) 4 0 _ (by omega) c1)
  | false => exact e1
/-- behind n further mornings: the world, how many came back -/
def an_ew (lss : Nat → List an_Ln) (ord : Int32) (w : an_W) (D : Nat) : Nat → an_W
  | 0 => w
  | n + 1 => W_mor lss ord (an_ew lss ord w D n) (D + n)
def an_er (lss : Nat → List an_Ln) (ord : Int32) (w : an_W) (D : Nat) : Nat → Nat
  | 0 => 0
  | n + 1 => an_er lss ord w D n + an_morn lss ord (an_ew lss ord w D n) (D + n)
/-- how many mornings it takes, 40 at most -/
def an_eN (lss : Nat → List an_Ln) (ord : Int32) (w : an_W) (D : Nat) : Nat → Nat → Nat
  | 0, n => n
  | f + 1, n => if W_flyN (an_ew lss ord w D n) ≤ 0 then n else an_eN lss ord w D f (n + 1)
theorem an_ew_led {lss : Nat → List an_Ln} {ord : Int32} {w : an_W} {D : Nat} (h : an_led nb w D) : ∀ n, D + n < 199 → an_led nb (an_ew lss ord w D n) (D + n) ∧ an_fr w (an_ew lss ord w D n) ∧ an_fx w (an_ew lss ord w D n) := by
  intro n
  induction n with
  | zero => intro _; exact ⟨h, an_fr_rf, fun _ _ => rfl⟩
  | succ n ih =>
    intro hn
    obtain ⟨r1, r2, r3⟩ := ih (by omega)
    obtain ⟨-, -, s1, s2, s3⟩ := an_mor (lss := lss) (ord := ord) (by omega) r1
    exact ⟨s1, an_fr_tr r2 s2, an_fx_tr r3 (an_mor_x (by omega) r1)⟩
theorem an_RS_w {w w' : an_W} {μ : am_M} (h : an_RS w μ) (hw : ∀ j, 120 ≤ j → j < 210 → w' j = w j) : an_RS w' μ :=
  ⟨fun i hi => by rw [hw _ (by omega) (by omega)]; exact h.1 i hi, h.2⟩
theorem an_RS_c {w : an_W} {μ μ' : am_M} (h : an_RS w μ) (h1 : μ' 15 5 = μ 15 5) (h2 : μ' 19 = μ 19) : an_RS w μ' := by
  unfold an_RS
  rw [h1, h2]
  exact h
theorem s_copyT {L d : Nat} {μ : am_M} {F : am_M → Prop} {w : an_W} (hd : 1 ≤ d) (hR : an_RL 58 w μ) (hF : ∀ μ', an_un [124, 125, 126, 127, 128] μ μ' → an_RL 124 w μ' → F μ') : am_Cv L d 12 [.ref 124, .ref 58] μ F := by
  have g : (Nat.blt 0 d && true && true) = true := by rw [am_blt.mpr (by omega)]; rfl
  obtain ⟨r1, r2, r3, r4, r5, r6⟩ := hR
  refine v_Ledger_copyFromT ?_
  rw [g]
  intro μ1 e1 μ2 e2 μ3 e3 μ4 e4 μ5 e5 μ6 e6
  have ne : ∀ {μa μb : am_M} {c c' : Nat} {f : Nat → Int32}, μb = am_row μa c f → c' ≠ c → μb c' = μa c' := fun e h => by rw [e, am_row_ne h]
  have eq : ∀ {μa μb : am_M} {c : Nat} {f : Nat → Int32}, μb = am_row μa c f → μb c = f := fun e => by rw [e, am_row_at]
  have cp : ∀ (f g : Nat → Int32) (n i : Nat), i < n → va_cpy f g 0 0 n i = f i := fun f g n i hi => by rw [pk_cpy_in (by omega) (by omega), Nat.zero_add, Nat.sub_zero]
  refine hF μ6 (fun c hc => ?_) ⟨?_, ?_, fun k f hk hf => ?_, fun i hi => ?_, fun i hi => ?_, fun i hi => ?_⟩
  · simp only [List.mem_cons, List.not_mem_nil, or_false, not_or] at hc
    rw [ne e6 (by omega), ne e5 (by omega), ne e4 (by omega), ne e3 (by omega), an_w_c e2 (by omega), an_w_c e1 (by omega)]
  · rw [ne e6 (by omega), ne e5 (by omega), ne e4 (by omega), ne e3 (by omega), an_w_o e2 (by omega), an_w_s e1]; exact r1
  · rw [ne e6 (by omega), ne e5 (by omega), ne e4 (by omega), ne e3 (by omega), an_w_s e2, an_w_c e1 (by omega)]; exact r2
  · rw [ne e6 (by omega), ne e5 (by omega), ne e4 (by omega), eq e3, cp _ _ _ _ (by omega), an_w_c e2 (by omega), an_w_c e1 (by omega)]; exact r3 k f hk hf
  · rw [ne e6 (by omega), ne e5 (by omega), eq e4, cp _ _ _ _ (by omega), ne e3 (by omega), an_w_c e2 (by omega), an_w_c e1 (by omega)]; exact r4 i hi
  · rw [ne e6 (by omega), eq e5, cp _ _ _ _ (by omega), ne e4 (by omega), ne e3 (by omega), an_w_c e2 (by omega), an_w_c e1 (by omega)]; exact r5 i hi
  · rw [eq e6, cp _ _ _ _ (by omega), ne e5 (by omega), ne e4 (by omega), ne e3 (by omega), an_w_c e2 (by omega), an_w_c e1 (by omega)]; exact r6 i hi
theorem s_thinkEnd {L d : Nat} {μ : am_M} {F : Int32 → am_M → Prop} {w : an_W} {lss : Nat → List an_Ln} {D : Nat} {ord : Int32} (hd : 14 ≤ d) (hnb : nb ≤ 600) (hl : an_led nb w D) (hD : D < 90) (hR : an_RL 58 w μ) (hC : an_RC 15 w μ) (hS : an_RS w μ) (ho : ∀ b, b < 4 → an_okl false (lss b)) (hX : ∀ b, b < 4 → an_scX false (21 + 7 * b) μ (lss b))
    (hF : ∀ μ', an_un [0, 124, 125, 126, 127, 128, 129, 130, 27, 34, 41, 48] μ μ' → (∀ f, f ≠ 13 → f ≠ 14 → μ' 0 f = μ 0 f) → μ' 0 13 = nI (an_eN lss ord w D 40 0) → μ' 0 14 = nI (an_er lss ord w D (an_eN lss ord w D 40 0)) → an_RL 124 (an_ew lss ord w D (an_eN lss ord w D 40 0)) μ' → an_nomin (an_ew lss ord w D (an_eN lss ord w D 40 0)) → F (W_lossOfAll (an_ew lss ord w D (an_eN lss ord w D 40 0))) μ') : am_Ci L d 141 [.ref 0, .int ord] μ F := by
  have loop : ∀ (f n : Nat) (μ1 : am_M), n + f = 40 → an_un [0, 124, 125, 126, 127, 128, 129, 130, 27, 34, 41, 48] μ μ1 → (∀ f, f ≠ 13 → f ≠ 14 → μ1 0 f = μ 0 f) → μ1 0 13 = nI n → μ1 0 14 = nI (an_er lss ord w D n) → an_RL 124 (an_ew lss ord w D n) μ1 → an_eN lss ord w D 40 0 = an_eN lss ord w D f n → am_Ji L d 141 26 [some (.ref 0), some (.int ord), some (.int (nI n))] [] μ1 F := by
    intro f
    induction f with
    | zero =>
      intro n μ1 hn u1 v1 x1 y1 R1 eN
      obtain rfl : n = 40 := by omega
      obtain ⟨l1, l2, l3⟩ := an_ew_led (lss := lss) (ord := ord) hl 40 (by omega)
      have nm := an_bd_nomin l1.2.2.2.2.2.2.2 hnb
      refine v_X_thinkEnd_26 ?_
      rw [if_pos (nI_le (Nat.le_refl _) (by omega))]
      refine ⟨by omega, s_Ledger_lossOfAllT (by omega) R1 nm ?_⟩
      rw [eN] at hF
      exact hF μ1 u1 v1 x1 y1 R1 nm
    | succ f ih =>
      intro n μ1 hn u1 v1 x1 y1 R1 eN
      obtain ⟨l1, l2, l3⟩ := an_ew_led (lss := lss) (ord := ord) hl n (by omega)
      have nm := an_bd_nomin l1.2.2.2.2.2.2.2 hnb
      refine v_X_thinkEnd_26 ?_
      rw [if_neg (nI_ge (by omega) (by omega))]
      refine ⟨by omega, s_Ledger_countInFlightT (by omega) R1 l1.2.1 ?_⟩
      have es : an_eN lss ord w D (f + 1) n = if W_flyN (an_ew lss ord w D n) ≤ 0 then n else an_eN lss ord w D f (n + 1) := rfl
      rw [es] at eN
      by_cases q : W_flyN (an_ew lss ord w D n) ≤ 0
      · rw [if_pos q]
        rw [if_pos q] at eN
        refine ⟨by omega, s_Ledger_lossOfAllT (by omega) R1 nm ?_⟩
        rw [eN] at hF
        exact hF μ1 u1 v1 x1 y1 R1 nm
      · rw [if_neg q]
        rw [if_neg q] at eN
        have fc : ∀ j, 10 ≤ j → j < 210 → an_ew lss ord w D n j = w j := fun j h1 h2 => l2 j (by omega) (by omega) (by omega) (by omega) (by omega) (by omega)
        refine ⟨by omega, t_morningT (by omega) (by omega) l1 R1 (an_RC_w (an_RC_c hC (fun c z1 z2 => u1 c (by simp; omega))) (fun j z1 z2 => fc j z1 (by omega))) (an_RS_w (an_RS_c hS (by rw [u1 15 (by decide)]) (u1 19 (by decide))) (fun j z1 z2 => fc j (by omega) z2)) ho (fun b hb => an_scX_c (hX b hb) (fun c z1 z2 => u1 c (by simp; omega))) (fun μ2 u2 R2 => ?_)⟩
        intro μ3 e3 μ4 e4
        rw [y1, nI_add] at e3
        have x3 : μ3 0 13 = nI n := by rw [an_w_o e3 (by decide), u2 0 (by decide)]; exact x1
        rw [x3, nI_add] at e4
        rw [nI_add]
        have c4 : ∀ c, c ≠ 0 → μ4 c = μ2 c := fun c hc => (an_w_c e4 hc).trans (an_w_c e3 hc)
        refine ih (n + 1) μ4 (by omega) (fun c hc => ?_) (fun g g1 g2 => ?_) (an_w_s e4) ?_ (an_RL_c R2 (fun c z1 z2 => c4 c (by omega))) eN
        · simp only [List.mem_cons, List.not_mem_nil, or_false, not_or] at hc
          rw [c4 c (by omega), u2 c (by simp; omega), u1 c (by simp; omega)]
        · rw [an_w_o e4 g1, an_w_o e3 g2, u2 0 (by decide)]
          exact v1 g g1 g2
        · rw [an_w_o e4 (by decide), an_w_s e3]
          rfl
  refine v_X_thinkEnd ?_
  refine ⟨by omega, s_copyT (by omega) hR (fun μ1 u1 R1 => ?_)⟩
  intro μ2 e2 μ3 e3
  refine loop 40 0 μ3 (by omega) (fun c hc => ?_) (fun f f1 f2 => ?_) ?_ (an_w_s e3) (an_RL_c R1 (fun c z1 z2 => by rw [an_w_c e3 (by omega), an_w_c e2 (by omega)])) rfl
  · simp only [List.mem_cons, List.not_mem_nil, or_false, not_or] at hc
    rw [an_w_c e3 (by omega), an_w_c e2 (by omega), u1 c (by simp; omega)]
  · rw [an_w_o e3 f2, an_w_o e2 f1, u1 0 (by decide)]
  · rw [an_w_o e3 (by decide), an_w_s e2]
