/-! A morning: what asking for a cheque leaves alone. -/

theorem W_as_o {w : an_W} {k h b j : Nat} {kind v fee st nd : Int32} (h9 : j < 9810) (h4 : ¬ j = 4) (hb : ¬ j = 210 + 4 * h + b) (hf : ¬ j = 258 + 4 * h + b) (k6 : ¬ j = 3640 + 12 * k + 6) (k7 : ¬ j = 3640 + 12 * k + 7) (k9 : ¬ j = 3640 + 12 * k + 9) : W_as w k h b kind v fee st nd j = w j := by
  unfold W_as
  rw [pk_un k7, pk_un k9, pk_un k6, pk_un h4, pk_un hf, W_books_o h9 hb]
theorem W_ask_o {w : an_W} {ls : List an_Ln} {k h b x j : Nat} {am : Int32} (h9 : j < 9810) (h4 : ¬ j = 4) (hb : ¬ j = 210 + 4 * h + b) (hf : ¬ j = 258 + 4 * h + b) (k6 : ¬ j = 3640 + 12 * k + 6) (k7 : ¬ j = 3640 + 12 * k + 7) (k9 : ¬ j = 3640 + 12 * k + 9) : W_ask w ls k h b x am j = w j := by
  unfold W_ask
  split
  · exact W_as_o h9 h4 hb hf k6 k7 k9
  · exact W_as_o h9 h4 hb hf k6 k7 k9
theorem W_as_E {w : an_W} {k h b : Nat} {kind v fee st nd : Int32} (hE : an_N (w 9810) 901) (hk : k < 150) (hh : h < 6) (hb : b < 4) : an_N (W_as w k h b kind v fee st nd 9810) 901 := by
  unfold W_as
  rw [pk_un (by omega), pk_un (by omega), pk_un (by omega), pk_un (by omega), pk_un (by omega)]
  exact W_books_E hE hh hb
theorem W_ask_E {w : an_W} {ls : List an_Ln} {k h b x : Nat} {am : Int32} (hE : an_N (w 9810) 901) (hk : k < 150) (hh : h < 6) (hb : b < 4) : an_N (W_ask w ls k h b x am 9810) 901 := by
  unfold W_ask
  split
  · exact W_as_E hE hk hh hb
  · exact W_as_E hE hk hh hb
theorem W_ask_6 {w : an_W} {ls : List an_Ln} {k h b x : Nat} {am : Int32} : W_ask w ls k h b x am (3640 + 12 * k + 6) = nI 2 ∨ W_ask w ls k h b x am (3640 + 12 * k + 6) = nI 1 := by
  unfold W_ask
  split
  · left; unfold W_as; rw [pk_un (by omega), pk_un (by omega), pk_us]
  · right; unfold W_as; rw [pk_un (by omega), pk_un (by omega), pk_us]
theorem W_ask_7 {w : an_W} {ls : List an_Ln} {k h b x : Nat} {am : Int32} (hT : an_WT w) (hb : b < 4) (hx : x < 4) : an_N (W_ask w ls k h b x am (3640 + 12 * k + 7)) 6 := by
  obtain ⟨er, lr⟩ := an_R_e hT hb hx
  unfold W_ask
  split
  · unfold W_as; rw [pk_us]; exact ⟨_, lr, rfl⟩
  · unfold W_as; rw [pk_us]; exact ⟨0, by omega, rfl⟩
theorem W_ask_mq {w : an_W} {ls : List an_Ln} {k h b x : Nat} {am : Int32} (hm : an_mq w) (hN : an_N (w 1) 151) (hT : an_WT w) (hk : k < 150) (hh : h < 6) (hb : b < 4) (hx : x < 4) : an_mq (W_ask w ls k h b x am) := by
  obtain ⟨eN, lN⟩ := an_cnt_e hN
  intro i hi
  have hc : an_cnt (W_ask w ls k h b x am) = an_cnt w := by unfold an_cnt; rw [W_ask_o (by omega) (by omega) (by omega) (by omega) (by omega) (by omega) (by omega)]
  rw [hc] at hi
  obtain ⟨m0, m1, m2, m3, m4, m6, m7⟩ := hm i hi
  have o : ∀ f, f < 6 → W_ask w ls k h b x am (3640 + 12 * i + f) = w (3640 + 12 * i + f) := fun f hf => W_ask_o (by omega) (by omega) (by omega) (by omega) (by omega) (by omega) (by omega)
  rw [o 0 (by omega), o 1 (by omega), o 2 (by omega), o 3 (by omega), o 4 (by omega)]
  refine ⟨m0, m1, m2, m3, m4, ?_, ?_⟩
  · by_cases q : i = k
    · rw [q]
      rcases W_ask_6 (w := w) (ls := ls) (k := k) (h := h) (b := b) (x := x) (am := am) with z | z
      · rw [z]; exact ⟨2, by omega, rfl⟩
      · rw [z]; exact ⟨1, by omega, rfl⟩
    · rw [W_ask_o (by omega) (by omega) (by omega) (by omega) (by omega) (by omega) (by omega)]; exact m6
  · by_cases q : i = k
    · rw [q]; exact W_ask_7 hT hb hx
    · rw [W_ask_o (by omega) (by omega) (by omega) (by omega) (by omega) (by omega) (by omega)]; exact m7
theorem W_ask_WT {w : an_W} {ls : List an_Ln} {k h b x : Nat} {am : Int32} (hT : an_WT w) (hk : k < 150) (hh : h < 6) (hb : b < 4) : an_WT (W_ask w ls k h b x am) :=
  ⟨fun i hi => by rw [W_ask_o (by omega) (by omega) (by omega) (by omega) (by omega) (by omega) (by omega)]; exact hT.1 i hi, fun i hi => by rw [W_ask_o (by omega) (by omega) (by omega) (by omega) (by omega) (by omega) (by omega)]; exact hT.2 i hi⟩
theorem W_ask_days {w : an_W} {ls : List an_Ln} {k h b x : Nat} {am : Int32} (hd : an_days w) (hN : an_N (w 1) 151) (hk : k < 150) (hh : h < 6) (hb : b < 4) : an_days (W_ask w ls k h b x am) := by
  obtain ⟨eN, lN⟩ := an_cnt_e hN
  intro i hi
  have hc : an_cnt (W_ask w ls k h b x am) = an_cnt w := by unfold an_cnt; rw [W_ask_o (by omega) (by omega) (by omega) (by omega) (by omega) (by omega) (by omega)]
  rw [hc] at hi
  rw [W_ask_o (by omega) (by omega) (by omega) (by omega) (by omega) (by omega) (by omega), W_ask_o (j := 3640 + 12 * i + 5) (by omega) (by omega) (by omega) (by omega) (by omega) (by omega) (by omega)]
  exact hd i hi
theorem an_ins_nd {w : an_W} {ord : Int32} {k : Nat} : ∀ t, t.Nodup → (∀ q ∈ t, q < k) → (an_ins w ord k t).Nodup := by
  intro t
  induction t with
  | nil => intro _ _; exact List.nodup_cons.mpr ⟨by simp, List.nodup_nil⟩
  | cons p t ih =>
    intro hn hq
    obtain ⟨n1, n2⟩ := List.nodup_cons.mp hn
    rw [an_ins]
    cases an_ah w ord k p with
    | true =>
      refine List.nodup_cons.mpr ⟨fun z => ?_, ih n2 (fun q z => hq q (List.mem_cons_of_mem _ z))⟩
      rcases (an_ins_l t).2 p z with z | z
      · have := hq p (List.mem_cons_self ..); omega
      · exact n1 z
    | false =>
      exact List.nodup_cons.mpr ⟨fun z => by have := hq k z; omega, hn⟩
theorem an_lst_nd {w : an_W} {b : Nat} {ord : Int32} : ∀ n, (an_lst w b ord n).Nodup := by
  intro n
  induction n with
  | zero => exact List.nodup_nil
  | succ n ih =>
    rw [an_lst]
    split
    · exact an_ins_nd _ ih (an_lst_l n).2
    · exact ih
/-- what stands in a list asked for -/
theorem an_lst_7 {w : an_W} {b : Nat} {ord : Int32} : ∀ n, ∀ q ∈ an_lst w b ord n, w (3640 + 12 * q + 6) = 0 ∧ w (3640 + 12 * q + 7) = 0 ∧ w (3640 + 12 * q + 1) = nI b := by
  intro n
  induction n with
  | zero => intro q h; simp [an_lst] at h
  | succ n ih =>
    intro q h
    rw [an_lst] at h
    split at h
    · rename_i e
      rcases (an_ins_l _).2 q h with z | z
      · rw [z]; exact e
      · exact ih q z
    · exact ih q h
