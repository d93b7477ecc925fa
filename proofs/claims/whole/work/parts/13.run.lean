/-! The checks are run. -/
def am_chkN (m oc ml : Nat) (b : ByteArray) : Nat → List am_I → Bool
  | 0, _ => true
  | _ + 1, [] => true
  | n + 1, e :: k => am_decB b e.1 e.2.1 && (am_grB m oc ml e.1 e.2.1 e.2.2 && ((match k with
    | [] => true
    | e2 :: _ => Nat.beq (am_len e.2.1) 0 || Nat.beq e2.1 (e.1 + am_len e.2.1)) && am_chkN m oc ml b n k))
theorem am_chkN_L {m oc ml : Nat} {b : ByteArray} : ∀ (n : Nat) (l : List am_I), am_chkN m oc ml b n l = true → am_chkL m oc ml b (l.drop n) = true → am_chkL m oc ml b l = true := by
  intro n
  induction n with
  | zero => intro l _ h; exact h
  | succ n ih =>
    intro l h h2
    cases l with
    | nil => rfl
    | cons e k =>
      simp only [am_chkN, Bool.and_eq_true] at h
      simp only [am_chkL, Bool.and_eq_true]
      exact ⟨h.1, h.2.1, h.2.2.1, ih k h.2.2.2 h2⟩
theorem am_chkN_D {m oc ml : Nat} {b : ByteArray} {l : List am_I} {a n : Nat} (h : am_chkN m oc ml b n (l.drop a) = true) (h2 : am_chkL m oc ml b (l.drop (a + n)) = true) : am_chkL m oc ml b (l.drop a) = true := am_chkN_L n _ h (by rw [List.drop_drop]; exact h2)
set_option maxRecDepth 100000 in
set_option maxHeartbeats 4000000 in
theorem am_lk0 : am_chkN 0 30 4 cL_law 40 (am_c0.drop 0) = true := by decide +kernel
set_option maxRecDepth 100000 in
set_option maxHeartbeats 4000000 in
theorem am_lk40 : am_chkN 0 30 4 cL_law 40 (am_c0.drop 40) = true := by decide +kernel
set_option maxRecDepth 100000 in
set_option maxHeartbeats 4000000 in
theorem am_lk80 : am_chkN 0 30 4 cL_law 40 (am_c0.drop 80) = true := by decide +kernel
set_option maxRecDepth 100000 in
set_option maxHeartbeats 4000000 in
theorem am_lk120 : am_chkN 0 30 4 cL_law 40 (am_c0.drop 120) = true := by decide +kernel
set_option maxRecDepth 100000 in
set_option maxHeartbeats 4000000 in
theorem am_lk160 : am_chkN 0 30 4 cL_law 40 (am_c0.drop 160) = true := by decide +kernel
set_option maxRecDepth 100000 in
set_option maxHeartbeats 4000000 in
theorem am_lk200 : am_chkN 0 30 4 cL_law 40 (am_c0.drop 200) = true := by decide +kernel
set_option maxRecDepth 100000 in
set_option maxHeartbeats 4000000 in
theorem am_lk240 : am_chkN 0 30 4 cL_law 40 (am_c0.drop 240) = true := by decide +kernel
set_option maxRecDepth 100000 in
set_option maxHeartbeats 4000000 in
theorem am_lk280 : am_chkN 0 30 4 cL_law 40 (am_c0.drop 280) = true := by decide +kernel
set_option maxRecDepth 100000 in
set_option maxHeartbeats 4000000 in
theorem am_lk320 : am_chkN 0 30 4 cL_law 40 (am_c0.drop 320) = true := by decide +kernel
set_option maxRecDepth 100000 in
set_option maxHeartbeats 4000000 in
theorem am_lk360 : am_chkN 0 30 4 cL_law 40 (am_c0.drop 360) = true := by decide +kernel
set_option maxRecDepth 100000 in
set_option maxHeartbeats 4000000 in
theorem am_lk400 : am_chkN 0 30 4 cL_law 40 (am_c0.drop 400) = true := by decide +kernel
set_option maxRecDepth 100000 in
set_option maxHeartbeats 4000000 in
theorem am_lk440 : am_chkN 0 30 4 cL_law 40 (am_c0.drop 440) = true := by decide +kernel
set_option maxRecDepth 100000 in
set_option maxHeartbeats 4000000 in
theorem am_lk480 : am_chkN 0 30 4 cL_law 40 (am_c0.drop 480) = true := by decide +kernel
set_option maxRecDepth 100000 in
set_option maxHeartbeats 4000000 in
theorem am_lk520 : am_chkN 0 30 4 cL_law 40 (am_c0.drop 520) = true := by decide +kernel
set_option maxRecDepth 100000 in
set_option maxHeartbeats 4000000 in
theorem am_lk560 : am_chkN 0 30 4 cL_law 40 (am_c0.drop 560) = true := by decide +kernel
set_option maxRecDepth 100000 in
set_option maxHeartbeats 4000000 in
theorem am_lk600 : am_chkN 0 30 4 cL_law 40 (am_c0.drop 600) = true := by decide +kernel
set_option maxRecDepth 100000 in
set_option maxHeartbeats 4000000 in
theorem am_lk640 : am_chkN 0 30 4 cL_law 40 (am_c0.drop 640) = true := by decide +kernel
set_option maxRecDepth 100000 in
set_option maxHeartbeats 4000000 in
theorem am_lk680 : am_chkN 0 30 4 cL_law 40 (am_c0.drop 680) = true := by decide +kernel
set_option maxRecDepth 100000 in
set_option maxHeartbeats 4000000 in
theorem am_lk720 : am_chkN 0 30 4 cL_law 40 (am_c0.drop 720) = true := by decide +kernel
set_option maxRecDepth 100000 in
set_option maxHeartbeats 4000000 in
theorem am_lk760 : am_chkN 0 30 4 cL_law 40 (am_c0.drop 760) = true := by decide +kernel
set_option maxRecDepth 100000 in
set_option maxHeartbeats 4000000 in
theorem am_lk800 : am_chkN 0 30 4 cL_law 40 (am_c0.drop 800) = true := by decide +kernel
set_option maxRecDepth 100000 in
set_option maxHeartbeats 4000000 in
theorem am_lk840 : am_chkN 0 30 4 cL_law 40 (am_c0.drop 840) = true := by decide +kernel
set_option maxRecDepth 100000 in
set_option maxHeartbeats 4000000 in
theorem am_lk880 : am_chkN 0 30 4 cL_law 40 (am_c0.drop 880) = true := by decide +kernel
set_option maxRecDepth 100000 in
set_option maxHeartbeats 4000000 in
theorem am_lk920 : am_chkN 0 30 4 cL_law 40 (am_c0.drop 920) = true := by decide +kernel
set_option maxRecDepth 100000 in
set_option maxHeartbeats 4000000 in
theorem am_lk960 : am_chkN 0 30 4 cL_law 40 (am_c0.drop 960) = true := by decide +kernel
set_option maxRecDepth 100000 in
set_option maxHeartbeats 4000000 in
theorem am_lk1000 : am_chkN 0 30 4 cL_law 40 (am_c0.drop 1000) = true := by decide +kernel
set_option maxRecDepth 100000 in
set_option maxHeartbeats 4000000 in
theorem am_lk1040 : am_chkN 0 30 4 cL_law 40 (am_c0.drop 1040) = true := by decide +kernel
set_option maxRecDepth 100000 in
set_option maxHeartbeats 4000000 in
theorem am_lk1080 : am_chkN 0 30 4 cL_law 40 (am_c0.drop 1080) = true := by decide +kernel
set_option maxRecDepth 100000 in
set_option maxHeartbeats 4000000 in
theorem am_lk1120 : am_chkN 0 30 4 cL_law 40 (am_c0.drop 1120) = true := by decide +kernel
set_option maxRecDepth 100000 in
theorem am_lkz : am_chkL 0 30 4 cL_law (am_c0.drop 1160) = true := by
  rw [List.drop_eq_nil_of_le (by decide +kernel)]
  rfl
set_option maxRecDepth 100000 in
theorem am_law_ok : am_chkL 0 30 4 cL_law (am_c0.drop 0) = true := am_chkN_D am_lk0 (am_chkN_D am_lk40 (am_chkN_D am_lk80 (am_chkN_D am_lk120 (am_chkN_D am_lk160 (am_chkN_D am_lk200 (am_chkN_D am_lk240 (am_chkN_D am_lk280 (am_chkN_D am_lk320 (am_chkN_D am_lk360 (am_chkN_D am_lk400 (am_chkN_D am_lk440 (am_chkN_D am_lk480 (am_chkN_D am_lk520 (am_chkN_D am_lk560 (am_chkN_D am_lk600 (am_chkN_D am_lk640 (am_chkN_D am_lk680 (am_chkN_D am_lk720 (am_chkN_D am_lk760 (am_chkN_D am_lk800 (am_chkN_D am_lk840 (am_chkN_D am_lk880 (am_chkN_D am_lk920 (am_chkN_D am_lk960 (am_chkN_D am_lk1000 (am_chkN_D am_lk1040 (am_chkN_D am_lk1080 (am_chkN_D am_lk1120 (am_lkz)))))))))))))))))))))))))))))
theorem am_ck_law : am_chk 0 = true := by
  unfold am_chk
  have h : am_chkL 0 (am_t.2.2.1 0) (am_ML am_t 0) (am_B am_t 0) (am_P am_t 0) = true := am_law_ok
  rw [h]
  decide +kernel
set_option maxRecDepth 100000 in
set_option maxHeartbeats 4000000 in
theorem am_ck0 : am_chks 1 18 = true := by decide +kernel
set_option maxRecDepth 100000 in
set_option maxHeartbeats 4000000 in
theorem am_ck1 : am_chks 19 10 = true := by decide +kernel
set_option maxRecDepth 100000 in
set_option maxHeartbeats 4000000 in
theorem am_ck2 : am_chks 29 10 = true := by decide +kernel
set_option maxRecDepth 100000 in
set_option maxHeartbeats 4000000 in
theorem am_ck3 : am_chks 39 9 = true := by decide +kernel
set_option maxRecDepth 100000 in
set_option maxHeartbeats 4000000 in
theorem am_ck4 : am_chks 48 13 = true := by decide +kernel
set_option maxRecDepth 100000 in
set_option maxHeartbeats 4000000 in
theorem am_ck5 : am_chks 61 16 = true := by decide +kernel
set_option maxRecDepth 100000 in
set_option maxHeartbeats 4000000 in
theorem am_ck6 : am_chks 77 9 = true := by decide +kernel
set_option maxRecDepth 100000 in
set_option maxHeartbeats 4000000 in
theorem am_ck7 : am_chks 86 12 = true := by decide +kernel
set_option maxRecDepth 100000 in
set_option maxHeartbeats 4000000 in
theorem am_ck8 : am_chks 98 13 = true := by decide +kernel
set_option maxRecDepth 100000 in
set_option maxHeartbeats 4000000 in
theorem am_ck9 : am_chks 111 10 = true := by decide +kernel
set_option maxRecDepth 100000 in
set_option maxHeartbeats 4000000 in
theorem am_ck10 : am_chks 121 16 = true := by decide +kernel
set_option maxRecDepth 100000 in
set_option maxHeartbeats 4000000 in
theorem am_ck11 : am_chks 137 15 = true := by decide +kernel
set_option maxRecDepth 100000 in
set_option maxHeartbeats 4000000 in
theorem am_ck12 : am_chks 152 14 = true := by decide +kernel
set_option maxRecDepth 100000 in
set_option maxHeartbeats 4000000 in
theorem am_ck13 : am_chks 166 10 = true := by decide +kernel
set_option maxRecDepth 100000 in
set_option maxHeartbeats 4000000 in
theorem am_ck14 : am_chks 176 6 = true := by decide +kernel
set_option maxRecDepth 100000 in
set_option maxHeartbeats 4000000 in
theorem am_ck15 : am_chks 182 9 = true := by decide +kernel
set_option maxRecDepth 100000 in
set_option maxHeartbeats 4000000 in
theorem am_ck16 : am_chks 191 10 = true := by decide +kernel
set_option maxRecDepth 100000 in
set_option maxHeartbeats 4000000 in
theorem am_ck17 : am_chks 201 7 = true := by decide +kernel
set_option maxRecDepth 100000 in
set_option maxHeartbeats 4000000 in
theorem am_ck18 : am_chks 208 9 = true := by decide +kernel
set_option maxRecDepth 100000 in
set_option maxHeartbeats 4000000 in
theorem am_ck19 : am_chks 217 7 = true := by decide +kernel
set_option maxRecDepth 100000 in
set_option maxHeartbeats 4000000 in
theorem am_ck20 : am_chks 224 9 = true := by decide +kernel
set_option maxRecDepth 100000 in
set_option maxHeartbeats 4000000 in
theorem am_ck21 : am_chks 233 4 = true := by decide +kernel
set_option maxRecDepth 100000 in
set_option maxHeartbeats 4000000 in
theorem am_ck22 : am_chks 237 17 = true := by decide +kernel
theorem am_chk_all : ∀ m, am_chk m = true := by
  intro m
  by_cases hz : m = 0
  · rw [hz]; exact am_ck_law
  by_cases h0 : m < 19
  · exact am_chks_of am_ck0 (by omega) (by omega)
  by_cases h1 : m < 29
  · exact am_chks_of am_ck1 (by omega) (by omega)
  by_cases h2 : m < 39
  · exact am_chks_of am_ck2 (by omega) (by omega)
  by_cases h3 : m < 48
  · exact am_chks_of am_ck3 (by omega) (by omega)
  by_cases h4 : m < 61
  · exact am_chks_of am_ck4 (by omega) (by omega)
  by_cases h5 : m < 77
  · exact am_chks_of am_ck5 (by omega) (by omega)
  by_cases h6 : m < 86
  · exact am_chks_of am_ck6 (by omega) (by omega)
  by_cases h7 : m < 98
  · exact am_chks_of am_ck7 (by omega) (by omega)
  by_cases h8 : m < 111
  · exact am_chks_of am_ck8 (by omega) (by omega)
  by_cases h9 : m < 121
  · exact am_chks_of am_ck9 (by omega) (by omega)
  by_cases h10 : m < 137
  · exact am_chks_of am_ck10 (by omega) (by omega)
  by_cases h11 : m < 152
  · exact am_chks_of am_ck11 (by omega) (by omega)
  by_cases h12 : m < 166
  · exact am_chks_of am_ck12 (by omega) (by omega)
  by_cases h13 : m < 176
  · exact am_chks_of am_ck13 (by omega) (by omega)
  by_cases h14 : m < 182
  · exact am_chks_of am_ck14 (by omega) (by omega)
  by_cases h15 : m < 191
  · exact am_chks_of am_ck15 (by omega) (by omega)
  by_cases h16 : m < 201
  · exact am_chks_of am_ck16 (by omega) (by omega)
  by_cases h17 : m < 208
  · exact am_chks_of am_ck17 (by omega) (by omega)
  by_cases h18 : m < 217
  · exact am_chks_of am_ck18 (by omega) (by omega)
  by_cases h19 : m < 224
  · exact am_chks_of am_ck19 (by omega) (by omega)
  by_cases h20 : m < 233
  · exact am_chks_of am_ck20 (by omega) (by omega)
  by_cases h21 : m < 237
  · exact am_chks_of am_ck21 (by omega) (by omega)
  by_cases h22 : m < 254
  · exact am_chks_of am_ck22 (by omega) (by omega)
  have e : am_f m = am_f0 := by
    unfold am_f
    by_cases hm : m / 16 < am_bs.length
    · have h1 : am_bs.length = 16 := rfl
      have h2 : m / 16 = 15 := by omega
      rw [h2]
      have h3 : (am_bs.getD 15 []).length = 14 := rfl
      rw [List.getD_eq_getElem?_getD, List.getElem?_eq_none (by omega)]
      rfl
    · have h4 : am_bs.getD (m / 16) [] = [] := by
        rw [List.getD_eq_getElem?_getD, List.getElem?_eq_none (by omega)]
        rfl
      rw [h4]
      rfl
  unfold am_chk am_P am_ML am_B am_Y am_O am_t am_code am_mlo
  simp only [e]
  simp [am_f0, am_chkL, am_pc, am_cn]
theorem am_good : am_Good am_t := by
  refine ⟨fun m => ?_, am_pool_ok, am_u_ok, am_arr_ok⟩
  have h := am_chk_all m
  unfold am_chk at h
  simp only [Bool.and_eq_true] at h
  exact ⟨am_chkL_ok _ h.1, Nat.eq_of_beq_eq_true h.2.1, of_decide_eq_true h.2.2⟩
