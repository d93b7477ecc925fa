/-! The checks are run. -/
set_option maxRecDepth 100000 in
set_option maxHeartbeats 4000000 in
theorem am_ck0 : am_chks 0 1 = true := by decide +kernel
set_option maxRecDepth 100000 in
set_option maxHeartbeats 4000000 in
theorem am_ck1 : am_chks 1 22 = true := by decide +kernel
set_option maxRecDepth 100000 in
set_option maxHeartbeats 4000000 in
theorem am_ck2 : am_chks 23 14 = true := by decide +kernel
set_option maxRecDepth 100000 in
set_option maxHeartbeats 4000000 in
theorem am_ck3 : am_chks 37 13 = true := by decide +kernel
set_option maxRecDepth 100000 in
set_option maxHeartbeats 4000000 in
theorem am_ck4 : am_chks 50 20 = true := by decide +kernel
set_option maxRecDepth 100000 in
set_option maxHeartbeats 4000000 in
theorem am_ck5 : am_chks 70 15 = true := by decide +kernel
set_option maxRecDepth 100000 in
set_option maxHeartbeats 4000000 in
theorem am_ck6 : am_chks 85 16 = true := by decide +kernel
set_option maxRecDepth 100000 in
set_option maxHeartbeats 4000000 in
theorem am_ck7 : am_chks 101 19 = true := by decide +kernel
set_option maxRecDepth 100000 in
set_option maxHeartbeats 4000000 in
theorem am_ck8 : am_chks 120 21 = true := by decide +kernel
set_option maxRecDepth 100000 in
set_option maxHeartbeats 4000000 in
theorem am_ck9 : am_chks 141 22 = true := by decide +kernel
set_option maxRecDepth 100000 in
set_option maxHeartbeats 4000000 in
theorem am_ck10 : am_chks 163 13 = true := by decide +kernel
set_option maxRecDepth 100000 in
set_option maxHeartbeats 4000000 in
theorem am_ck11 : am_chks 176 12 = true := by decide +kernel
set_option maxRecDepth 100000 in
set_option maxHeartbeats 4000000 in
theorem am_ck12 : am_chks 188 13 = true := by decide +kernel
set_option maxRecDepth 100000 in
set_option maxHeartbeats 4000000 in
theorem am_ck13 : am_chks 201 11 = true := by decide +kernel
set_option maxRecDepth 100000 in
set_option maxHeartbeats 4000000 in
theorem am_ck14 : am_chks 212 9 = true := by decide +kernel
set_option maxRecDepth 100000 in
set_option maxHeartbeats 4000000 in
theorem am_ck15 : am_chks 221 13 = true := by decide +kernel
set_option maxRecDepth 100000 in
set_option maxHeartbeats 4000000 in
theorem am_ck16 : am_chks 234 19 = true := by decide +kernel
set_option maxRecDepth 100000 in
set_option maxHeartbeats 4000000 in
theorem am_ck17 : am_chks 253 1 = true := by decide +kernel
theorem am_chk_all : ∀ m, am_chk m = true := by
  intro m
  by_cases h0 : m < 1
  · exact am_chks_of am_ck0 (by omega) (by omega)
  by_cases h1 : m < 23
  · exact am_chks_of am_ck1 (by omega) (by omega)
  by_cases h2 : m < 37
  · exact am_chks_of am_ck2 (by omega) (by omega)
  by_cases h3 : m < 50
  · exact am_chks_of am_ck3 (by omega) (by omega)
  by_cases h4 : m < 70
  · exact am_chks_of am_ck4 (by omega) (by omega)
  by_cases h5 : m < 85
  · exact am_chks_of am_ck5 (by omega) (by omega)
  by_cases h6 : m < 101
  · exact am_chks_of am_ck6 (by omega) (by omega)
  by_cases h7 : m < 120
  · exact am_chks_of am_ck7 (by omega) (by omega)
  by_cases h8 : m < 141
  · exact am_chks_of am_ck8 (by omega) (by omega)
  by_cases h9 : m < 163
  · exact am_chks_of am_ck9 (by omega) (by omega)
  by_cases h10 : m < 176
  · exact am_chks_of am_ck10 (by omega) (by omega)
  by_cases h11 : m < 188
  · exact am_chks_of am_ck11 (by omega) (by omega)
  by_cases h12 : m < 201
  · exact am_chks_of am_ck12 (by omega) (by omega)
  by_cases h13 : m < 212
  · exact am_chks_of am_ck13 (by omega) (by omega)
  by_cases h14 : m < 221
  · exact am_chks_of am_ck14 (by omega) (by omega)
  by_cases h15 : m < 234
  · exact am_chks_of am_ck15 (by omega) (by omega)
  by_cases h16 : m < 253
  · exact am_chks_of am_ck16 (by omega) (by omega)
  by_cases h17 : m < 254
  · exact am_chks_of am_ck17 (by omega) (by omega)
  have e : am_f m = am_f0 := by
    unfold am_f
    by_cases hm : m / 16 < am_bs.length
    · have h1 : am_bs.length = 16 := rfl
      have h2 : m / 16 = 15 := by omega
      rw [h2]
      have h3 : (am_bs.getD 15 []).length = 14 := rfl
      rw [List.getD_eq_getElem?_getD, List.getElem?_eq_none (by omega)]
      rfl
    · have h4 : am_bs.getD (m / 16) [] = [] := by
        rw [List.getD_eq_getElem?_getD, List.getElem?_eq_none (by omega)]
        rfl
      rw [h4]
      rfl
  unfold am_chk am_P am_ML am_B am_Y am_O am_t am_code am_mlo
  simp only [e]
  decide +kernel
theorem am_good : am_Good am_t := by
  refine ⟨fun m => ?_, am_pool_ok, am_u_ok, am_arr_ok⟩
  have h := am_chk_all m
  unfold am_chk at h
  simp only [Bool.and_eq_true] at h
  exact ⟨am_chkL_ok _ h.1, Nat.eq_of_beq_eq_true h.2.1, of_decide_eq_true h.2.2⟩
