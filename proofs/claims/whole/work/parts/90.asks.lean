/-! A morning: a list is asked for. -/

def W_a1 (w : an_W) (ls : List an_Ln) (b k : Nat) : an_W := W_ask w ls k (w (3640 + 12 * k + 0)).toNatClampNeg b (w (3640 + 12 * k + 3)).toNatClampNeg (w (3640 + 12 * k + 4))
def an_sh (w : an_W) (ls : List an_Ln) (b k : Nat) : Nat := if W_usable w (w (3640 + 12 * k + 0)).toNatClampNeg b + W_lim w ls 1 (w (3640 + 12 * k + 0)).toNatClampNeg b (w (3640 + 12 * k + 3)).toNatClampNeg (w (3640 + 12 * k + 4)) < w (3640 + 12 * k + 4) then 1 else 0
/-- a list is asked for: the state, how many came back -/
def W_asl (ls : List an_Ln) (b : Nat) : an_W → List Nat → an_W
  | w, [] => w
  | w, k :: t => W_asl ls b (W_a1 w ls b k) t
def an_asn (ls : List an_Ln) (b : Nat) : an_W → List Nat → Nat
  | _, [] => 0
  | w, k :: t => an_sh w ls b k + an_asn ls b (W_a1 w ls b k) t
/-- what stands through a morning -/
def an_ain (w : an_W) (D : Nat) : Prop := an_mq w ∧ an_N (w 1) 151 ∧ an_WT w ∧ an_days w ∧ an_N (w 9810) 901 ∧ w 0 = nI D ∧ ∀ a b, a < 3 → b < 3 → w (14 + 3 * a + b) = w (14 + 3 * b + a)
theorem an_ain_q {w : an_W} {D b k : Nat} (h : an_ain w D) (hk : k < an_cnt w) (hb : b < 4) (h1 : w (3640 + 12 * k + 1) = nI b) : k < 150 ∧ an_cq w k (w (3640 + 12 * k + 0)).toNatClampNeg b (w (3640 + 12 * k + 3)).toNatClampNeg := by
  obtain ⟨hm, hN, _⟩ := h
  obtain ⟨eN, lN⟩ := an_cnt_e hN
  obtain ⟨m0, m1, m2, m3, m4, m6, m7⟩ := hm k hk
  obtain ⟨e0, l0⟩ := an_N_e m0 (by omega)
  obtain ⟨e3, l3⟩ := an_N_e m3 (by omega)
  exact ⟨by omega, l0, hb, l3, e0, h1, e3⟩
theorem W_a1_o {w : an_W} {ls : List an_Ln} {b k j D : Nat} (h : an_ain w D) (hk : k < an_cnt w) (hb : b < 4) (h1 : w (3640 + 12 * k + 1) = nI b) (h9 : j < 9810) (h4 : ¬ j = 4) (hj : j < 210 ∨ 282 ≤ j) (k6 : ¬ j = 3640 + 12 * k + 6) (k7 : ¬ j = 3640 + 12 * k + 7) (k9 : ¬ j = 3640 + 12 * k + 9) : W_a1 w ls b k j = w j := by
  obtain ⟨q, hh, _⟩ := an_ain_q h hk hb h1
  exact W_ask_o h9 h4 (by omega) (by omega) k6 k7 k9
theorem W_a1_ain {w : an_W} {ls : List an_Ln} {b k D : Nat} (h : an_ain w D) (hk : k < an_cnt w) (hb : b < 4) (h1 : w (3640 + 12 * k + 1) = nI b) : an_ain (W_a1 w ls b k) D ∧ an_cnt (W_a1 w ls b k) = an_cnt w := by
  obtain ⟨q, hh, _, hx, _⟩ := an_ain_q h hk hb h1
  have o : ∀ j, j < 210 → ¬ j = 4 → W_a1 w ls b k j = w j := fun j q1 q2 => W_a1_o h hk hb h1 (by omega) q2 (by omega) (by omega) (by omega) (by omega)
  obtain ⟨hm, hN, hT, hd, hE, hD, hs⟩ := h
  refine ⟨⟨W_ask_mq hm hN hT q hh hb hx, by rw [o 1 (by omega) (by omega)]; exact hN, W_ask_WT hT q hh hb, W_ask_days hd hN q hh hb, W_ask_E hE q hh hb, by rw [o 0 (by omega) (by omega)]; exact hD, fun a b ha hb => by rw [o _ (by omega) (by omega), o _ (by omega) (by omega)]; exact hs a b ha hb⟩, ?_⟩
  unfold an_cnt
  rw [o 1 (by omega) (by omega)]
theorem W_a1_M {w : an_W} {ls ls' : List an_Ln} {b b' k D : Nat} (h : an_ain w D) (hk : k < an_cnt w) (hb : b < 4) (h1 : w (3640 + 12 * k + 1) = nI b) (hb' : b' < 4) (hM : ∀ w', (∀ j, 5440 ≤ j → j < 9810 → w' j = w j) → an_scM w' b' ls') : an_scM (W_a1 w ls b k) b' ls' := by
  obtain ⟨q, _⟩ := an_ain_q h hk hb h1
  exact hM _ (fun j q1 q2 => W_a1_o h hk hb h1 q2 (by omega) (by omega) (by omega) (by omega) (by omega))
theorem s_M_asks {L d : Nat} {F : Int32 → am_M → Prop} {ls : List an_Ln} {b D : Nat} {ord : Int32} (hd : 10 ≤ d) (hb : b < 4) (hD9 : D < 200) (ho : an_okl false ls) : ∀ (s : List Nat) (i c : Nat) (μ : am_M) (w : an_W), an_ain w D → (∀ q ∈ s, q < an_cnt w ∧ w (3640 + 12 * q + 7) = 0 ∧ w (3640 + 12 * q + 1) = nI b) → s.Nodup → μ 141 = w → μ 140 23 = nI (i + s.length) → (∀ j q, s[j]? = some q → μ 149 (i + j) = nI q) → (∀ w', (∀ j, 5440 ≤ j → j < 9810 → w' j = w j) → an_scM w' b ls) → i + s.length ≤ 150 → (∀ μ', an_un [141, 147, 148] μ μ' → μ' 141 = W_asl ls b w s → am_Ji L d 207 170 [some (.ref 140), some (.int ord), some (.int (nI (c + an_asn ls b w s))), some (.int (nI (b + 1))), none] [] μ' F) → am_Ji L d 207 184 [some (.ref 140), some (.int ord), some (.int (nI c)), some (.int (nI b)), some (.int (nI i))] [] μ F := by
  intro s
  induction s with
  | nil =>
    intro i c μ w hA hq hn hw h23 hr hM hi h
    refine v_M_morning_184 ?_
    rw [h23, if_pos (nI_le (by simp) (by simp; omega)), nI_add]
    exact h μ an_un_rf hw
  | cons k t ih =>
    intro i c μ w hA hq hn hw h23 hr hM hi h
    simp only [List.length_cons] at h23 hi
    obtain ⟨k1, k2, k3⟩ := hq k (List.mem_cons_self ..)
    obtain ⟨n1, n2⟩ := List.nodup_cons.mp hn
    obtain ⟨k150, cq⟩ := an_ain_q hA k1 hb k3
    obtain ⟨A1, ec⟩ := W_a1_ain (ls := ls) hA k1 hb k3
    have hA' := hA
    obtain ⟨hm, hN, hT, hdy, hE, hD, hs⟩ := hA'
    refine v_M_morning_184 ?_
    have r0 : μ 149 i = nI k := by have := hr 0 k rfl; simpa using this
    rw [h23, if_neg (nI_ge (by omega) (by omega)), am_gd_in (by omega) (by omega), am_cl (by omega), r0, am_dp (by omega)]
    refine s_M_isReturned (by omega) k150 cq hD hD9 hw hE hN hT hs ho (hM w (fun _ _ _ => rfl)) (fun μ1 u1 w1 => ?_)
    have nx : ∀ (y : Nat), y = an_sh w ls b k → am_Ji L d 207 184 [some (.ref 140), some (.int ord), some (.int (nI (c + y))), some (.int (nI b)), some (.int (nI (i + 1)))] [] μ1 F := fun y ey => by
      refine ih (i + 1) (c + y) μ1 (W_a1 w ls b k) A1 (fun q hq' => ?_) n2 w1 (by rw [u1 140 (by decide), h23]; congr 1; omega) (fun j q hj => ?_) (fun w' hw' => hM w' (fun j q1 q2 => ?_)) (by omega) (fun μ' u' w' => ?_)
      · obtain ⟨z1, z2, z3⟩ := hq q (List.mem_cons_of_mem _ hq')
        have ne : ¬ q = k := fun z => n1 (z ▸ hq')
        have q150 := (an_cnt_e hN).2
        exact ⟨by rw [ec]; exact z1, by rw [W_a1_o hA k1 hb k3 (by omega) (by omega) (by omega) (by omega) (by omega) (by omega)]; exact z2, by rw [W_a1_o hA k1 hb k3 (by omega) (by omega) (by omega) (by omega) (by omega) (by omega)]; exact z3⟩
      · rw [u1 149 (by decide), show i + 1 + j = i + (j + 1) by omega]
        exact hr (j + 1) q (by simpa using hj)
      · rw [hw' j q1 q2, W_a1_o hA k1 hb k3 q2 (by omega) (by omega) (by omega) (by omega) (by omega)]
      · have := h μ' (an_un_tr u1 u' (fun _ z => z) (fun _ z => z)) w'
        rw [show c + y + an_asn ls b (W_a1 w ls b k) t = c + an_asn ls b w (k :: t) by rw [an_asn, ← ey]; omega]
        exact this
    unfold an_sh at nx
    split
    · rename_i hp
      rw [if_neg (by decide), nI_add, nI_add]
      exact nx 1 (by rw [if_pos hp])
    · rename_i hp
      rw [if_pos (by decide), nI_add, nI_add]
      exact nx 0 (by rw [if_neg hp])
