/-! ===== the words are there, by program ===== -/
theorem x_us {C : String} {T : u_T} {N : Nat} (h : ∀ k, k < N → u_lay C T k ∈ x_T) : ∀ w ∈ u_ws C T N, w ∈ x_T := by
  intro w hw
  obtain ⟨k, hk, rfl⟩ := List.mem_map.mp hw
  exact h k (List.mem_range.mp hk)
theorem x_t0 {w : Cond} (h : w ∈ k2_sels lw_privs) (g : goodWord w = true) : w ∈ x_T := List.mem_filter.mpr ⟨List.mem_append_left _ h, g⟩
theorem x_tt {w : Cond} (h : w ∈ tables_1) (g : goodWord w = true) : w ∈ x_T := List.mem_filter.mpr ⟨List.mem_append_right _ h, g⟩
theorem x_t1 {w : Cond} (h : w ∈ tables_1_1) (g : goodWord w = true) : w ∈ x_T := x_tt (List.mem_append_left _ h) g
theorem x_t2 {w : Cond} (h : w ∈ tables_1_2) (g : goodWord w = true) : w ∈ x_T := x_tt (List.mem_append_right _ (List.mem_append_left _ h)) g
theorem x_t3 {w : Cond} (h : w ∈ tables_1_3) (g : goodWord w = true) : w ∈ x_T := x_tt (List.mem_append_right _ (List.mem_append_right _ (List.mem_append_left _ h))) g
theorem x_t4 {w : Cond} (h : w ∈ tables_1_4) (g : goodWord w = true) : w ∈ x_T := x_tt (List.mem_append_right _ (List.mem_append_right _ (List.mem_append_right _ (List.mem_append_left _ h)))) g
theorem x_t5 {w : Cond} (h : w ∈ tables_1_5) (g : goodWord w = true) : w ∈ x_T := x_tt (List.mem_append_right _ (List.mem_append_right _ (List.mem_append_right _ (List.mem_append_right _ (List.mem_append_left _ h))))) g
theorem x_t6 {w : Cond} (h : w ∈ tables_1_6) (g : goodWord w = true) : w ∈ x_T := x_tt (List.mem_append_right _ (List.mem_append_right _ (List.mem_append_right _ (List.mem_append_right _ (List.mem_append_right _ h))))) g
theorem wl_X0_0 : u_lay RX0 TX0 0 ∈ x_T := x_t1 (List.mem_of_getElem? (i := 168) rfl) rfl
theorem wl_X0_1 : u_lay RX0 TX0 1 ∈ x_T := x_t1 (List.mem_of_getElem? (i := 170) rfl) rfl
theorem wl_X0_2 : u_lay RX0 TX0 2 ∈ x_T := x_t1 (List.mem_of_getElem? (i := 172) rfl) rfl
theorem wu_X0 : ∀ k ∈ [0, 1, 2], u_lay RX0 TX0 k ∈ x_T := List.forall_mem_cons.mpr ⟨wl_X0_0, List.forall_mem_cons.mpr ⟨wl_X0_1, List.forall_mem_cons.mpr ⟨wl_X0_2, List.forall_mem_nil _⟩⟩⟩
theorem cl_X0 : x_Cl 1 RX0 TX0 3 tyX0 := ⟨rfl, x_us (fun k hk => wu_X0 k (List.mem_range.mpr hk)), tyX0_ok, nmX0⟩
theorem wl_X1_0 : u_lay RX1 TX1 0 ∈ x_T := x_t1 (List.mem_of_getElem? (i := 121) rfl) rfl
theorem wl_X1_1 : u_lay RX1 TX1 1 ∈ x_T := x_t1 (List.mem_of_getElem? (i := 123) rfl) rfl
theorem wl_X1_2 : u_lay RX1 TX1 2 ∈ x_T := x_t1 (List.mem_of_getElem? (i := 125) rfl) rfl
theorem wl_X1_3 : u_lay RX1 TX1 3 ∈ x_T := x_t1 (List.mem_of_getElem? (i := 127) rfl) rfl
theorem wl_X1_4 : u_lay RX1 TX1 4 ∈ x_T := x_t1 (List.mem_of_getElem? (i := 129) rfl) rfl
theorem wl_X1_5 : u_lay RX1 TX1 5 ∈ x_T := x_t1 (List.mem_of_getElem? (i := 131) rfl) rfl
theorem wl_X1_6 : u_lay RX1 TX1 6 ∈ x_T := x_t1 (List.mem_of_getElem? (i := 133) rfl) rfl
theorem wu_X1 : ∀ k ∈ [0, 1, 2, 3, 4, 5, 6], u_lay RX1 TX1 k ∈ x_T := List.forall_mem_cons.mpr ⟨wl_X1_0, List.forall_mem_cons.mpr ⟨wl_X1_1, List.forall_mem_cons.mpr ⟨wl_X1_2, List.forall_mem_cons.mpr ⟨wl_X1_3, List.forall_mem_cons.mpr ⟨wl_X1_4, List.forall_mem_cons.mpr ⟨wl_X1_5, List.forall_mem_cons.mpr ⟨wl_X1_6, List.forall_mem_nil _⟩⟩⟩⟩⟩⟩⟩
theorem cl_X1 : x_Cl 2 RX1 TX1 7 tyX1 := ⟨rfl, x_us (fun k hk => wu_X1 k (List.mem_range.mpr hk)), tyX1_ok, nmX1⟩
theorem wl_X2_0 : u_lay RX2 TX2 0 ∈ x_T := x_t1 (List.mem_of_getElem? (i := 77) rfl) rfl
theorem wl_X2_1 : u_lay RX2 TX2 1 ∈ x_T := x_t1 (List.mem_of_getElem? (i := 79) rfl) rfl
theorem wl_X2_2 : u_lay RX2 TX2 2 ∈ x_T := x_t1 (List.mem_of_getElem? (i := 81) rfl) rfl
theorem wl_X2_3 : u_lay RX2 TX2 3 ∈ x_T := x_t1 (List.mem_of_getElem? (i := 83) rfl) rfl
theorem wl_X2_4 : u_lay RX2 TX2 4 ∈ x_T := x_t1 (List.mem_of_getElem? (i := 85) rfl) rfl
theorem wl_X2_5 : u_lay RX2 TX2 5 ∈ x_T := x_t1 (List.mem_of_getElem? (i := 87) rfl) rfl
theorem wl_X2_6 : u_lay RX2 TX2 6 ∈ x_T := x_t1 (List.mem_of_getElem? (i := 89) rfl) rfl
theorem wl_X2_7 : u_lay RX2 TX2 7 ∈ x_T := x_t1 (List.mem_of_getElem? (i := 91) rfl) rfl
theorem wl_X2_8 : u_lay RX2 TX2 8 ∈ x_T := x_t1 (List.mem_of_getElem? (i := 93) rfl) rfl
theorem wu_X2 : ∀ k ∈ [0, 1, 2, 3, 4, 5, 6, 7, 8], u_lay RX2 TX2 k ∈ x_T := List.forall_mem_cons.mpr ⟨wl_X2_0, List.forall_mem_cons.mpr ⟨wl_X2_1, List.forall_mem_cons.mpr ⟨wl_X2_2, List.forall_mem_cons.mpr ⟨wl_X2_3, List.forall_mem_cons.mpr ⟨wl_X2_4, List.forall_mem_cons.mpr ⟨wl_X2_5, List.forall_mem_cons.mpr ⟨wl_X2_6, List.forall_mem_cons.mpr ⟨wl_X2_7, List.forall_mem_cons.mpr ⟨wl_X2_8, List.forall_mem_nil _⟩⟩⟩⟩⟩⟩⟩⟩⟩
theorem cl_X2 : x_Cl 3 RX2 TX2 9 tyX2 := ⟨rfl, x_us (fun k hk => wu_X2 k (List.mem_range.mpr hk)), tyX2_ok, nmX2⟩
theorem wl_X3_0 : u_lay RX3 TX3 0 ∈ x_T := x_t1 (List.mem_of_getElem? (i := 209) rfl) rfl
theorem wl_X3_1 : u_lay RX3 TX3 1 ∈ x_T := x_t1 (List.mem_of_getElem? (i := 211) rfl) rfl
theorem wl_X3_2 : u_lay RX3 TX3 2 ∈ x_T := x_t1 (List.mem_of_getElem? (i := 213) rfl) rfl
theorem wl_X3_3 : u_lay RX3 TX3 3 ∈ x_T := x_t1 (List.mem_of_getElem? (i := 215) rfl) rfl
theorem wl_X3_4 : u_lay RX3 TX3 4 ∈ x_T := x_t1 (List.mem_of_getElem? (i := 217) rfl) rfl
theorem wl_X3_5 : u_lay RX3 TX3 5 ∈ x_T := x_t1 (List.mem_of_getElem? (i := 219) rfl) rfl
theorem wu_X3 : ∀ k ∈ [0, 1, 2, 3, 4, 5], u_lay RX3 TX3 k ∈ x_T := List.forall_mem_cons.mpr ⟨wl_X3_0, List.forall_mem_cons.mpr ⟨wl_X3_1, List.forall_mem_cons.mpr ⟨wl_X3_2, List.forall_mem_cons.mpr ⟨wl_X3_3, List.forall_mem_cons.mpr ⟨wl_X3_4, List.forall_mem_cons.mpr ⟨wl_X3_5, List.forall_mem_nil _⟩⟩⟩⟩⟩⟩
theorem cl_X3 : x_Cl 4 RX3 TX3 6 tyX3 := ⟨rfl, x_us (fun k hk => wu_X3 k (List.mem_range.mpr hk)), tyX3_ok, nmX3⟩
theorem wl_X5_0 : u_lay RX5 TX5 0 ∈ x_T := x_t1 (List.mem_of_getElem? (i := 183) rfl) rfl
theorem wl_X5_1 : u_lay RX5 TX5 1 ∈ x_T := x_t1 (List.mem_of_getElem? (i := 185) rfl) rfl
theorem wl_X5_2 : u_lay RX5 TX5 2 ∈ x_T := x_t1 (List.mem_of_getElem? (i := 187) rfl) rfl
theorem wl_X5_3 : u_lay RX5 TX5 3 ∈ x_T := x_t1 (List.mem_of_getElem? (i := 189) rfl) rfl
theorem wl_X5_4 : u_lay RX5 TX5 4 ∈ x_T := x_t1 (List.mem_of_getElem? (i := 191) rfl) rfl
theorem wl_X5_5 : u_lay RX5 TX5 5 ∈ x_T := x_t1 (List.mem_of_getElem? (i := 193) rfl) rfl
theorem wu_X5 : ∀ k ∈ [0, 1, 2, 3, 4, 5], u_lay RX5 TX5 k ∈ x_T := List.forall_mem_cons.mpr ⟨wl_X5_0, List.forall_mem_cons.mpr ⟨wl_X5_1, List.forall_mem_cons.mpr ⟨wl_X5_2, List.forall_mem_cons.mpr ⟨wl_X5_3, List.forall_mem_cons.mpr ⟨wl_X5_4, List.forall_mem_cons.mpr ⟨wl_X5_5, List.forall_mem_nil _⟩⟩⟩⟩⟩⟩
theorem cl_X5 : x_Cl 5 RX5 TX5 6 tyX5 := ⟨rfl, x_us (fun k hk => wu_X5 k (List.mem_range.mpr hk)), tyX5_ok, nmX5⟩
theorem wl_X6_0 : u_lay RX6 TX6 0 ∈ x_T := x_t1 (List.mem_of_getElem? (i := 150) rfl) rfl
theorem wl_X6_1 : u_lay RX6 TX6 1 ∈ x_T := x_t1 (List.mem_of_getElem? (i := 152) rfl) rfl
theorem wl_X6_2 : u_lay RX6 TX6 2 ∈ x_T := x_t1 (List.mem_of_getElem? (i := 154) rfl) rfl
theorem wl_X6_3 : u_lay RX6 TX6 3 ∈ x_T := x_t1 (List.mem_of_getElem? (i := 156) rfl) rfl
theorem wu_X6 : ∀ k ∈ [0, 1, 2, 3], u_lay RX6 TX6 k ∈ x_T := List.forall_mem_cons.mpr ⟨wl_X6_0, List.forall_mem_cons.mpr ⟨wl_X6_1, List.forall_mem_cons.mpr ⟨wl_X6_2, List.forall_mem_cons.mpr ⟨wl_X6_3, List.forall_mem_nil _⟩⟩⟩⟩
theorem cl_X6 : x_Cl 6 RX6 TX6 4 tyX6 := ⟨rfl, x_us (fun k hk => wu_X6 k (List.mem_range.mpr hk)), tyX6_ok, nmX6⟩
theorem wl_X7_0 : u_lay RX7 TX7 0 ∈ x_T := x_t1 (List.mem_of_getElem? (i := 228) rfl) rfl
theorem wl_X7_1 : u_lay RX7 TX7 1 ∈ x_T := x_t1 (List.mem_of_getElem? (i := 230) rfl) rfl
theorem wl_X7_2 : u_lay RX7 TX7 2 ∈ x_T := x_t1 (List.mem_of_getElem? (i := 232) rfl) rfl
theorem wl_X7_3 : u_lay RX7 TX7 3 ∈ x_T := x_t1 (List.mem_of_getElem? (i := 234) rfl) rfl
theorem wl_X7_4 : u_lay RX7 TX7 4 ∈ x_T := x_t1 (List.mem_of_getElem? (i := 236) rfl) rfl
theorem wl_X7_5 : u_lay RX7 TX7 5 ∈ x_T := x_t1 (List.mem_of_getElem? (i := 238) rfl) rfl
theorem wu_X7 : ∀ k ∈ [0, 1, 2, 3, 4, 5], u_lay RX7 TX7 k ∈ x_T := List.forall_mem_cons.mpr ⟨wl_X7_0, List.forall_mem_cons.mpr ⟨wl_X7_1, List.forall_mem_cons.mpr ⟨wl_X7_2, List.forall_mem_cons.mpr ⟨wl_X7_3, List.forall_mem_cons.mpr ⟨wl_X7_4, List.forall_mem_cons.mpr ⟨wl_X7_5, List.forall_mem_nil _⟩⟩⟩⟩⟩⟩
theorem cl_X7 : x_Cl 7 RX7 TX7 6 tyX7 := ⟨rfl, x_us (fun k hk => wu_X7 k (List.mem_range.mpr hk)), tyX7_ok, nmX7⟩
theorem wl_X8_0 : u_lay RX8 TX8 0 ∈ x_T := x_t4 (List.mem_of_getElem? (i := 85) rfl) rfl
theorem wl_X8_1 : u_lay RX8 TX8 1 ∈ x_T := x_t4 (List.mem_of_getElem? (i := 87) rfl) rfl
theorem wl_X8_2 : u_lay RX8 TX8 2 ∈ x_T := x_t4 (List.mem_of_getElem? (i := 89) rfl) rfl
theorem wl_X8_3 : u_lay RX8 TX8 3 ∈ x_T := x_t4 (List.mem_of_getElem? (i := 91) rfl) rfl
theorem wl_X8_4 : u_lay RX8 TX8 4 ∈ x_T := x_t4 (List.mem_of_getElem? (i := 93) rfl) rfl
theorem wl_X8_5 : u_lay RX8 TX8 5 ∈ x_T := x_t4 (List.mem_of_getElem? (i := 95) rfl) rfl
theorem wl_X8_6 : u_lay RX8 TX8 6 ∈ x_T := x_t4 (List.mem_of_getElem? (i := 97) rfl) rfl
theorem wl_X8_7 : u_lay RX8 TX8 7 ∈ x_T := x_t4 (List.mem_of_getElem? (i := 99) rfl) rfl
theorem wl_X8_8 : u_lay RX8 TX8 8 ∈ x_T := x_t4 (List.mem_of_getElem? (i := 101) rfl) rfl
theorem wl_X8_9 : u_lay RX8 TX8 9 ∈ x_T := x_t4 (List.mem_of_getElem? (i := 103) rfl) rfl
theorem wl_X8_10 : u_lay RX8 TX8 10 ∈ x_T := x_t4 (List.mem_of_getElem? (i := 105) rfl) rfl
theorem wl_X8_11 : u_lay RX8 TX8 11 ∈ x_T := x_t4 (List.mem_of_getElem? (i := 107) rfl) rfl
theorem wl_X8_12 : u_lay RX8 TX8 12 ∈ x_T := x_t4 (List.mem_of_getElem? (i := 109) rfl) rfl
theorem wl_X8_13 : u_lay RX8 TX8 13 ∈ x_T := x_t4 (List.mem_of_getElem? (i := 111) rfl) rfl
theorem wl_X8_14 : u_lay RX8 TX8 14 ∈ x_T := x_t4 (List.mem_of_getElem? (i := 113) rfl) rfl
theorem wl_X8_15 : u_lay RX8 TX8 15 ∈ x_T := x_t4 (List.mem_of_getElem? (i := 115) rfl) rfl
theorem wl_X8_16 : u_lay RX8 TX8 16 ∈ x_T := x_t4 (List.mem_of_getElem? (i := 117) rfl) rfl
theorem wl_X8_17 : u_lay RX8 TX8 17 ∈ x_T := x_t4 (List.mem_of_getElem? (i := 119) rfl) rfl
theorem wl_X8_18 : u_lay RX8 TX8 18 ∈ x_T := x_t4 (List.mem_of_getElem? (i := 121) rfl) rfl
theorem wl_X8_19 : u_lay RX8 TX8 19 ∈ x_T := x_t4 (List.mem_of_getElem? (i := 123) rfl) rfl
theorem wl_X8_20 : u_lay RX8 TX8 20 ∈ x_T := x_t4 (List.mem_of_getElem? (i := 125) rfl) rfl
theorem wl_X8_21 : u_lay RX8 TX8 21 ∈ x_T := x_t4 (List.mem_of_getElem? (i := 127) rfl) rfl
theorem wl_X8_22 : u_lay RX8 TX8 22 ∈ x_T := x_t4 (List.mem_of_getElem? (i := 129) rfl) rfl
theorem wu_X8 : ∀ k ∈ [0, 1, 2, 3, 4, 5, 6, 7, 8, 9, 10, 11, 12, 13, 14, 15, 16, 17, 18, 19, 20, 21, 22], u_lay RX8 TX8 k ∈ x_T := List.forall_mem_cons.mpr ⟨wl_X8_0, List.forall_mem_cons.mpr ⟨wl_X8_1, List.forall_mem_cons.mpr ⟨wl_X8_2, List.forall_mem_cons.mpr ⟨wl_X8_3, List.forall_mem_cons.mpr ⟨wl_X8_4, List.forall_mem_cons.mpr ⟨wl_X8_5, List.forall_mem_cons.mpr ⟨wl_X8_6, List.forall_mem_cons.mpr ⟨wl_X8_7, List.forall_mem_cons.mpr ⟨wl_X8_8, List.forall_mem_cons.mpr ⟨wl_X8_9, List.forall_mem_cons.mpr ⟨wl_X8_10, List.forall_mem_cons.mpr ⟨wl_X8_11, List.forall_mem_cons.mpr ⟨wl_X8_12, List.forall_mem_cons.mpr ⟨wl_X8_13, List.forall_mem_cons.mpr ⟨wl_X8_14, List.forall_mem_cons.mpr ⟨wl_X8_15, List.forall_mem_cons.mpr ⟨wl_X8_16, List.forall_mem_cons.mpr ⟨wl_X8_17, List.forall_mem_cons.mpr ⟨wl_X8_18, List.forall_mem_cons.mpr ⟨wl_X8_19, List.forall_mem_cons.mpr ⟨wl_X8_20, List.forall_mem_cons.mpr ⟨wl_X8_21, List.forall_mem_cons.mpr ⟨wl_X8_22, List.forall_mem_nil _⟩⟩⟩⟩⟩⟩⟩⟩⟩⟩⟩⟩⟩⟩⟩⟩⟩⟩⟩⟩⟩⟩⟩
theorem cl_X8 : x_Cl 8 RX8 TX8 23 tyX8 := ⟨rfl, x_us (fun k hk => wu_X8 k (List.mem_range.mpr hk)), tyX8_ok, nmX8⟩
theorem x_Gw_ok : x_Gw := ⟨x_t1 (List.mem_of_getElem? (i := 27) rfl) rfl, x_t1 (List.mem_of_getElem? (i := 28) rfl) rfl, x_t1 (List.mem_of_getElem? (i := 96) rfl) rfl, x_t2 (List.mem_of_getElem? (i := 1) rfl) rfl, x_t5 (List.mem_of_getElem? (i := 198) rfl) rfl⟩
theorem wd_J6_0 : Cond.constant RJ6 265 (1431655765) ∈ x_T := x_t2 (List.mem_of_getElem? (i := 29) rfl) rfl
theorem wd_J6_1 : Cond.constant RJ6 266 (858993459) ∈ x_T := x_t2 (List.mem_of_getElem? (i := 30) rfl) rfl
theorem wd_J6_2 : Cond.constant RJ6 267 (252645135) ∈ x_T := x_t2 (List.mem_of_getElem? (i := 31) rfl) rfl
theorem wd_J6_3 : Cond.code yJ6_bitCount_0f7a4 cJ6_bitCount_0f7a4 1 (some .int) ∈ x_T := x_t2 (List.mem_of_getElem? (i := 28) rfl) rfl
theorem wd_X8_0 : Cond.fieldLink RX8 7 (TX8 4).1 (TX8 4).2.1 (TX8 4).2.2.1 ∈ x_T := x_t4 (List.mem_of_getElem? (i := 66) rfl) rfl
theorem wd_X8_1 : Cond.fieldLink RX8 13 (TX8 5).1 (TX8 5).2.1 (TX8 5).2.2.1 ∈ x_T := x_t4 (List.mem_of_getElem? (i := 67) rfl) rfl
theorem wd_X8_2 : Cond.fieldLink RX8 16 (TX8 6).1 (TX8 6).2.1 (TX8 6).2.2.1 ∈ x_T := x_t4 (List.mem_of_getElem? (i := 68) rfl) rfl
theorem wd_X8_3 : Cond.fieldLink RX8 20 (TX8 7).1 (TX8 7).2.1 (TX8 7).2.2.1 ∈ x_T := x_t4 (List.mem_of_getElem? (i := 69) rfl) rfl
theorem wd_X8_4 : Cond.fieldLink RX8 23 (TX8 8).1 (TX8 8).2.1 (TX8 8).2.2.1 ∈ x_T := x_t4 (List.mem_of_getElem? (i := 70) rfl) rfl
theorem wd_X8_5 : Cond.fieldLink RX8 27 (TX8 9).1 (TX8 9).2.1 (TX8 9).2.2.1 ∈ x_T := x_t4 (List.mem_of_getElem? (i := 71) rfl) rfl
theorem wd_X8_6 : Cond.fieldLink RX8 30 (TX8 10).1 (TX8 10).2.1 (TX8 10).2.2.1 ∈ x_T := x_t4 (List.mem_of_getElem? (i := 72) rfl) rfl
theorem wd_X8_7 : Cond.fieldLink RX8 33 (TX8 14).1 (TX8 14).2.1 (TX8 14).2.2.1 ∈ x_T := x_t4 (List.mem_of_getElem? (i := 76) rfl) rfl
theorem wd_X8_8 : Cond.fieldLink RX8 36 (TX8 15).1 (TX8 15).2.1 (TX8 15).2.2.1 ∈ x_T := x_t4 (List.mem_of_getElem? (i := 77) rfl) rfl
theorem wd_X8_9 : Cond.fieldLink RX8 40 (TX8 17).1 (TX8 17).2.1 (TX8 17).2.2.1 ∈ x_T := x_t4 (List.mem_of_getElem? (i := 79) rfl) rfl
theorem wd_X8_10 : Cond.fieldLink RX8 43 (TX8 18).1 (TX8 18).2.1 (TX8 18).2.2.1 ∈ x_T := x_t4 (List.mem_of_getElem? (i := 80) rfl) rfl
theorem wd_X8_11 : Cond.fieldLink RX8 46 (TX8 19).1 (TX8 19).2.1 (TX8 19).2.2.1 ∈ x_T := x_t4 (List.mem_of_getElem? (i := 81) rfl) rfl
theorem wd_X8_12 : Cond.fieldLink RX8 49 (TX8 20).1 (TX8 20).2.1 (TX8 20).2.2.1 ∈ x_T := x_t4 (List.mem_of_getElem? (i := 82) rfl) rfl
theorem wd_X8_13 : Cond.fieldLink RX8 52 (TX8 21).1 (TX8 21).2.1 (TX8 21).2.2.1 ∈ x_T := x_t4 (List.mem_of_getElem? (i := 83) rfl) rfl
theorem wd_X8_14 : Cond.fieldLink RX8 55 (TX8 22).1 (TX8 22).2.1 (TX8 22).2.2.1 ∈ x_T := x_t4 (List.mem_of_getElem? (i := 84) rfl) rfl
theorem wd_X8_15 : Cond.fieldLink RX8 58 (TX8 1).1 (TX8 1).2.1 (TX8 1).2.2.1 ∈ x_T := x_t4 (List.mem_of_getElem? (i := 63) rfl) rfl
theorem wd_X8_16 : Cond.fieldLink RX8 61 (TX8 2).1 (TX8 2).2.1 (TX8 2).2.2.1 ∈ x_T := x_t4 (List.mem_of_getElem? (i := 64) rfl) rfl
theorem wd_X8_17 : Cond.fieldLink RX8 64 (TX8 3).1 (TX8 3).2.1 (TX8 3).2.2.1 ∈ x_T := x_t4 (List.mem_of_getElem? (i := 65) rfl) rfl
theorem wd_X8_18 : Cond.fieldLink RX8 71 (TX8 0).1 (TX8 0).2.1 (TX8 0).2.2.1 ∈ x_T := x_t4 (List.mem_of_getElem? (i := 62) rfl) rfl
theorem wd_X8_19 : Cond.fieldLink RX8 92 (TX8 16).1 (TX8 16).2.1 (TX8 16).2.2.1 ∈ x_T := x_t4 (List.mem_of_getElem? (i := 78) rfl) rfl
theorem wd_X8_20 : Cond.fieldLink RX8 113 (TX8 11).1 (TX8 11).2.1 (TX8 11).2.2.1 ∈ x_T := x_t4 (List.mem_of_getElem? (i := 73) rfl) rfl
theorem wd_X8_21 : Cond.fieldLink RX8 116 (TX8 12).1 (TX8 12).2.1 (TX8 12).2.2.1 ∈ x_T := x_t4 (List.mem_of_getElem? (i := 74) rfl) rfl
theorem wd_X8_22 : Cond.fieldLink RX8 122 (TX8 13).1 (TX8 13).2.1 (TX8 13).2.2.1 ∈ x_T := x_t4 (List.mem_of_getElem? (i := 75) rfl) rfl
theorem wd_X8_23 : Cond.methodLink RX8 67 yX8_cells ∈ x_T := x_t4 (List.mem_of_getElem? (i := 58) rfl) rfl
theorem wd_X8_24 : Cond.instanceMethod yX8_cells ∈ x_T := x_t4 (List.mem_of_getElem? (i := 60) rfl) rfl
theorem wd_X8_25 : Cond.selects RX8 yX8_cells yX8_cells ∈ x_T := x_t0 (List.mem_of_getElem? (i := 47) rfl) rfl
theorem wd_X8_26 : Cond.initialized RX8 ∈ x_T := x_t1 (List.mem_of_getElem? (i := 8) rfl) rfl
theorem wd_X8_27 : Cond.methodLink RX8 74 yX8_boxOf ∈ x_T := x_t4 (List.mem_of_getElem? (i := 164) rfl) rfl
theorem wd_X8_28 : Cond.instanceMethod yX8_boxOf ∈ x_T := x_t4 (List.mem_of_getElem? (i := 166) rfl) rfl
theorem wd_X8_29 : Cond.selects RX8 yX8_boxOf yX8_boxOf ∈ x_T := x_t0 (List.mem_of_getElem? (i := 54) rfl) rfl
theorem wd_X8_30 : Cond.methodLink RX8 78 yX8_at ∈ x_T := x_t4 (List.mem_of_getElem? (i := 196) rfl) rfl
theorem wd_X8_31 : Cond.instanceMethod yX8_at ∈ x_T := x_t4 (List.mem_of_getElem? (i := 198) rfl) rfl
theorem wd_X8_32 : Cond.selects RX8 yX8_at yX8_at ∈ x_T := x_t0 (List.mem_of_getElem? (i := 59) rfl) rfl
theorem wd_X8_33 : Cond.methodLink RX8 82 yX8_has ∈ x_T := x_t4 (List.mem_of_getElem? (i := 152) rfl) rfl
theorem wd_X8_34 : Cond.instanceMethod yX8_has ∈ x_T := x_t4 (List.mem_of_getElem? (i := 154) rfl) rfl
theorem wd_X8_35 : Cond.selects RX8 yX8_has yX8_has ∈ x_T := x_t0 (List.mem_of_getElem? (i := 51) rfl) rfl
theorem wd_X8_36 : Cond.methodLink RX8 86 yX8_places ∈ x_T := x_t4 (List.mem_of_getElem? (i := 192) rfl) rfl
theorem wd_X8_37 : Cond.instanceMethod yX8_places ∈ x_T := x_t4 (List.mem_of_getElem? (i := 194) rfl) rfl
theorem wd_X8_38 : Cond.selects RX8 yX8_places yX8_places ∈ x_T := x_t0 (List.mem_of_getElem? (i := 58) rfl) rfl
theorem wd_X8_39 : Cond.methodLink RX8 89 yX8_sees ∈ x_T := x_t4 (List.mem_of_getElem? (i := 160) rfl) rfl
theorem wd_X8_40 : Cond.instanceMethod yX8_sees ∈ x_T := x_t4 (List.mem_of_getElem? (i := 162) rfl) rfl
theorem wd_X8_41 : Cond.selects RX8 yX8_sees yX8_sees ∈ x_T := x_t0 (List.mem_of_getElem? (i := 53) rfl) rfl
theorem wd_X8_42 : Cond.methodLink RX8 95 yX8_isCell ∈ x_T := x_t4 (List.mem_of_getElem? (i := 140) rfl) rfl
theorem wd_X8_43 : Cond.instanceMethod yX8_isCell ∈ x_T := x_t4 (List.mem_of_getElem? (i := 142) rfl) rfl
theorem wd_X8_44 : Cond.selects RX8 yX8_isCell yX8_isCell ∈ x_T := x_t0 (List.mem_of_getElem? (i := 48) rfl) rfl
theorem wd_X8_45 : Cond.methodLink RX8 99 yX8_fails ∈ x_T := x_t4 (List.mem_of_getElem? (i := 144) rfl) rfl
theorem wd_X8_46 : Cond.instanceMethod yX8_fails ∈ x_T := x_t4 (List.mem_of_getElem? (i := 146) rfl) rfl
theorem wd_X8_47 : Cond.selects RX8 yX8_fails yX8_fails ∈ x_T := x_t0 (List.mem_of_getElem? (i := 49) rfl) rfl
theorem wd_X8_48 : Cond.methodLink RX8 103 yX8_isSymbol ∈ x_T := x_t4 (List.mem_of_getElem? (i := 148) rfl) rfl
theorem wd_X8_49 : Cond.instanceMethod yX8_isSymbol ∈ x_T := x_t4 (List.mem_of_getElem? (i := 150) rfl) rfl
theorem wd_X8_50 : Cond.selects RX8 yX8_isSymbol yX8_isSymbol ∈ x_T := x_t0 (List.mem_of_getElem? (i := 50) rfl) rfl
theorem wd_X8_51 : Cond.methodLink RX8 106 yX8_put ∈ x_T := x_t4 (List.mem_of_getElem? (i := 156) rfl) rfl
theorem wd_X8_52 : Cond.instanceMethod yX8_put ∈ x_T := x_t4 (List.mem_of_getElem? (i := 158) rfl) rfl
theorem wd_X8_53 : Cond.selects RX8 yX8_put yX8_put ∈ x_T := x_t0 (List.mem_of_getElem? (i := 52) rfl) rfl
theorem wd_X8_54 : Cond.methodLink RX8 110 yX8_changed ∈ x_T := x_t4 (List.mem_of_getElem? (i := 168) rfl) rfl
theorem wd_X8_55 : Cond.instanceMethod yX8_changed ∈ x_T := x_t4 (List.mem_of_getElem? (i := 170) rfl) rfl
theorem wd_X8_56 : Cond.selects RX8 yX8_changed yX8_changed ∈ x_T := x_t0 (List.mem_of_getElem? (i := 55) rfl) rfl
theorem wd_X8_57 : Cond.methodLink RX8 119 yX8_leaves ∈ x_T := x_t4 (List.mem_of_getElem? (i := 222) rfl) rfl
theorem wd_X8_58 : Cond.instanceMethod yX8_leaves ∈ x_T := x_t4 (List.mem_of_getElem? (i := 224) rfl) rfl
theorem wd_X8_59 : Cond.selects RX8 yX8_leaves yX8_leaves ∈ x_T := x_t0 (List.mem_of_getElem? (i := 64) rfl) rfl
theorem wd_X8_60 : Cond.methodLink RX8 131 yX8_sets ∈ x_T := x_t4 (List.mem_of_getElem? (i := 218) rfl) rfl
theorem wd_X8_61 : Cond.instanceMethod yX8_sets ∈ x_T := x_t4 (List.mem_of_getElem? (i := 220) rfl) rfl
theorem wd_X8_62 : Cond.selects RX8 yX8_sets yX8_sets ∈ x_T := x_t0 (List.mem_of_getElem? (i := 63) rfl) rfl
theorem wd_X8_63 : Cond.methodLink RX8 134 yX8_isIn ∈ x_T := x_t4 (List.mem_of_getElem? (i := 238) rfl) rfl
theorem wd_X8_64 : Cond.instanceMethod yX8_isIn ∈ x_T := x_t5 (List.mem_of_getElem? (i := 0) rfl) rfl
theorem wd_X8_65 : Cond.selects RX8 yX8_isIn yX8_isIn ∈ x_T := x_t0 (List.mem_of_getElem? (i := 68) rfl) rfl
theorem wd_X8_66 : Cond.methodLink RX8 137 yX8_none ∈ x_T := x_t4 (List.mem_of_getElem? (i := 204) rfl) rfl
theorem wd_X8_67 : Cond.instanceMethod yX8_none ∈ x_T := x_t4 (List.mem_of_getElem? (i := 206) rfl) rfl
theorem wd_X8_68 : Cond.selects RX8 yX8_none yX8_none ∈ x_T := x_t0 (List.mem_of_getElem? (i := 61) rfl) rfl
theorem wd_X8_69 : Cond.methodLink RX8 140 yX8_takes ∈ x_T := x_t5 (List.mem_of_getElem? (i := 6) rfl) rfl
theorem wd_X8_70 : Cond.instanceMethod yX8_takes ∈ x_T := x_t5 (List.mem_of_getElem? (i := 8) rfl) rfl
theorem wd_X8_71 : Cond.selects RX8 yX8_takes yX8_takes ∈ x_T := x_t0 (List.mem_of_getElem? (i := 70) rfl) rfl
theorem wd_X8_72 : Cond.methodLink RX8 144 yX8_common ∈ x_T := x_t4 (List.mem_of_getElem? (i := 234) rfl) rfl
theorem wd_X8_73 : Cond.instanceMethod yX8_common ∈ x_T := x_t4 (List.mem_of_getElem? (i := 236) rfl) rfl
theorem wd_X8_74 : Cond.selects RX8 yX8_common yX8_common ∈ x_T := x_t0 (List.mem_of_getElem? (i := 67) rfl) rfl
theorem wd_X8_75 : Cond.methodLink RX8 148 yX8_crosses ∈ x_T := x_t5 (List.mem_of_getElem? (i := 2) rfl) rfl
theorem wd_X8_76 : Cond.instanceMethod yX8_crosses ∈ x_T := x_t5 (List.mem_of_getElem? (i := 4) rfl) rfl
theorem wd_X8_77 : Cond.selects RX8 yX8_crosses yX8_crosses ∈ x_T := x_t0 (List.mem_of_getElem? (i := 69) rfl) rfl
theorem wd_X8_78 : Cond.methodLink RX8 152 yX8_first ∈ x_T := x_t5 (List.mem_of_getElem? (i := 18) rfl) rfl
theorem wd_X8_79 : Cond.instanceMethod yX8_first ∈ x_T := x_t5 (List.mem_of_getElem? (i := 20) rfl) rfl
theorem wd_X8_80 : Cond.selects RX8 yX8_first yX8_first ∈ x_T := x_t0 (List.mem_of_getElem? (i := 73) rfl) rfl
theorem wd_X8_81 : Cond.methodLink RX8 156 yX8_isPicked ∈ x_T := x_t5 (List.mem_of_getElem? (i := 22) rfl) rfl
theorem wd_X8_82 : Cond.instanceMethod yX8_isPicked ∈ x_T := x_t5 (List.mem_of_getElem? (i := 24) rfl) rfl
theorem wd_X8_83 : Cond.selects RX8 yX8_isPicked yX8_isPicked ∈ x_T := x_t0 (List.mem_of_getElem? (i := 74) rfl) rfl
theorem wd_X8_84 : Cond.methodLink RX8 159 yX8_next ∈ x_T := x_t5 (List.mem_of_getElem? (i := 26) rfl) rfl
theorem wd_X8_85 : Cond.instanceMethod yX8_next ∈ x_T := x_t5 (List.mem_of_getElem? (i := 28) rfl) rfl
theorem wd_X8_86 : Cond.selects RX8 yX8_next yX8_next ∈ x_T := x_t0 (List.mem_of_getElem? (i := 75) rfl) rfl
theorem wd_X8_87 : Cond.methodLink RX8 162 yX8_isOpenIn ∈ x_T := x_t5 (List.mem_of_getElem? (i := 34) rfl) rfl
theorem wd_X8_88 : Cond.instanceMethod yX8_isOpenIn ∈ x_T := x_t5 (List.mem_of_getElem? (i := 36) rfl) rfl
theorem wd_X8_89 : Cond.selects RX8 yX8_isOpenIn yX8_isOpenIn ∈ x_T := x_t0 (List.mem_of_getElem? (i := 77) rfl) rfl
theorem wd_X8_90 : Cond.methodLink RX8 165 yX8_isWing ∈ x_T := x_t5 (List.mem_of_getElem? (i := 46) rfl) rfl
theorem wd_X8_91 : Cond.instanceMethod yX8_isWing ∈ x_T := x_t5 (List.mem_of_getElem? (i := 48) rfl) rfl
theorem wd_X8_92 : Cond.selects RX8 yX8_isWing yX8_isWing ∈ x_T := x_t0 (List.mem_of_getElem? (i := 80) rfl) rfl
theorem wd_X8_93 : Cond.methodLink RX8 169 yX8_isLinked ∈ x_T := x_t5 (List.mem_of_getElem? (i := 58) rfl) rfl
theorem wd_X8_94 : Cond.instanceMethod yX8_isLinked ∈ x_T := x_t5 (List.mem_of_getElem? (i := 60) rfl) rfl
theorem wd_X8_95 : Cond.selects RX8 yX8_isLinked yX8_isLinked ∈ x_T := x_t0 (List.mem_of_getElem? (i := 83) rfl) rfl
theorem wd_X8_96 : Cond.methodLink RX8 172 yX8_colour ∈ x_T := x_t5 (List.mem_of_getElem? (i := 54) rfl) rfl
theorem wd_X8_97 : Cond.instanceMethod yX8_colour ∈ x_T := x_t5 (List.mem_of_getElem? (i := 56) rfl) rfl
theorem wd_X8_98 : Cond.selects RX8 yX8_colour yX8_colour ∈ x_T := x_t0 (List.mem_of_getElem? (i := 82) rfl) rfl
theorem wd_X8_99 : Cond.methodLink RX8 175 yX8_clash ∈ x_T := x_t5 (List.mem_of_getElem? (i := 62) rfl) rfl
theorem wd_X8_100 : Cond.instanceMethod yX8_clash ∈ x_T := x_t5 (List.mem_of_getElem? (i := 64) rfl) rfl
theorem wd_X8_101 : Cond.selects RX8 yX8_clash yX8_clash ∈ x_T := x_t0 (List.mem_of_getElem? (i := 84) rfl) rfl
theorem wd_X8_102 : Cond.methodLink RX8 179 yX8_seesOne ∈ x_T := x_t5 (List.mem_of_getElem? (i := 66) rfl) rfl
theorem wd_X8_103 : Cond.instanceMethod yX8_seesOne ∈ x_T := x_t5 (List.mem_of_getElem? (i := 68) rfl) rfl
theorem wd_X8_104 : Cond.selects RX8 yX8_seesOne yX8_seesOne ∈ x_T := x_t0 (List.mem_of_getElem? (i := 85) rfl) rfl
theorem wd_X8_105 : Cond.methodLink RX8 182 yX8_corners ∈ x_T := x_t5 (List.mem_of_getElem? (i := 74) rfl) rfl
theorem wd_X8_106 : Cond.instanceMethod yX8_corners ∈ x_T := x_t5 (List.mem_of_getElem? (i := 76) rfl) rfl
theorem wd_X8_107 : Cond.selects RX8 yX8_corners yX8_corners ∈ x_T := x_t0 (List.mem_of_getElem? (i := 87) rfl) rfl
theorem wd_X8_108 : Cond.methodLink RX8 186 yX8_last ∈ x_T := x_t4 (List.mem_of_getElem? (i := 208) rfl) rfl
theorem wd_X8_109 : Cond.instanceMethod yX8_last ∈ x_T := x_t4 (List.mem_of_getElem? (i := 210) rfl) rfl
theorem wd_X8_110 : Cond.selects RX8 yX8_last yX8_last ∈ x_T := x_t0 (List.mem_of_getElem? (i := 62) rfl) rfl
theorem wd_X8_111 : Cond.methodLink RX8 189 yX8_only ∈ x_T := x_t4 (List.mem_of_getElem? (i := 226) rfl) rfl
theorem wd_X8_112 : Cond.instanceMethod yX8_only ∈ x_T := x_t4 (List.mem_of_getElem? (i := 228) rfl) rfl
theorem wd_X8_113 : Cond.selects RX8 yX8_only yX8_only ∈ x_T := x_t0 (List.mem_of_getElem? (i := 65) rfl) rfl
theorem wd_X8_114 : Cond.methodLink RX8 192 yX8_pointing ∈ x_T := x_t4 (List.mem_of_getElem? (i := 230) rfl) rfl
theorem wd_X8_115 : Cond.instanceMethod yX8_pointing ∈ x_T := x_t4 (List.mem_of_getElem? (i := 232) rfl) rfl
theorem wd_X8_116 : Cond.selects RX8 yX8_pointing yX8_pointing ∈ x_T := x_t0 (List.mem_of_getElem? (i := 66) rfl) rfl
theorem wd_X8_117 : Cond.methodLink RX8 195 yX8_claiming ∈ x_T := x_t5 (List.mem_of_getElem? (i := 10) rfl) rfl
theorem wd_X8_118 : Cond.instanceMethod yX8_claiming ∈ x_T := x_t5 (List.mem_of_getElem? (i := 12) rfl) rfl
theorem wd_X8_119 : Cond.selects RX8 yX8_claiming yX8_claiming ∈ x_T := x_t0 (List.mem_of_getElem? (i := 71) rfl) rfl
theorem wd_X8_120 : Cond.methodLink RX8 198 yX8_naked ∈ x_T := x_t5 (List.mem_of_getElem? (i := 14) rfl) rfl
theorem wd_X8_121 : Cond.instanceMethod yX8_naked ∈ x_T := x_t5 (List.mem_of_getElem? (i := 16) rfl) rfl
theorem wd_X8_122 : Cond.selects RX8 yX8_naked yX8_naked ∈ x_T := x_t0 (List.mem_of_getElem? (i := 72) rfl) rfl
theorem wd_X8_123 : Cond.methodLink RX8 201 yX8_hidden ∈ x_T := x_t5 (List.mem_of_getElem? (i := 30) rfl) rfl
theorem wd_X8_124 : Cond.instanceMethod yX8_hidden ∈ x_T := x_t5 (List.mem_of_getElem? (i := 32) rfl) rfl
theorem wd_X8_125 : Cond.selects RX8 yX8_hidden yX8_hidden ∈ x_T := x_t0 (List.mem_of_getElem? (i := 76) rfl) rfl
theorem wd_X8_126 : Cond.methodLink RX8 204 yX8_fish ∈ x_T := x_t5 (List.mem_of_getElem? (i := 38) rfl) rfl
theorem wd_X8_127 : Cond.instanceMethod yX8_fish ∈ x_T := x_t5 (List.mem_of_getElem? (i := 40) rfl) rfl
theorem wd_X8_128 : Cond.selects RX8 yX8_fish yX8_fish ∈ x_T := x_t0 (List.mem_of_getElem? (i := 78) rfl) rfl
theorem wd_X8_129 : Cond.methodLink RX8 207 yX8_wing ∈ x_T := x_t5 (List.mem_of_getElem? (i := 42) rfl) rfl
theorem wd_X8_130 : Cond.instanceMethod yX8_wing ∈ x_T := x_t5 (List.mem_of_getElem? (i := 44) rfl) rfl
theorem wd_X8_131 : Cond.selects RX8 yX8_wing yX8_wing ∈ x_T := x_t0 (List.mem_of_getElem? (i := 79) rfl) rfl
theorem wd_X8_132 : Cond.methodLink RX8 210 yX8_colours ∈ x_T := x_t5 (List.mem_of_getElem? (i := 50) rfl) rfl
theorem wd_X8_133 : Cond.instanceMethod yX8_colours ∈ x_T := x_t5 (List.mem_of_getElem? (i := 52) rfl) rfl
theorem wd_X8_134 : Cond.selects RX8 yX8_colours yX8_colours ∈ x_T := x_t0 (List.mem_of_getElem? (i := 81) rfl) rfl
theorem wd_X8_135 : Cond.methodLink RX8 213 yX8_rectangle ∈ x_T := x_t5 (List.mem_of_getElem? (i := 70) rfl) rfl
theorem wd_X8_136 : Cond.instanceMethod yX8_rectangle ∈ x_T := x_t5 (List.mem_of_getElem? (i := 72) rfl) rfl
theorem wd_X8_137 : Cond.selects RX8 yX8_rectangle yX8_rectangle ∈ x_T := x_t0 (List.mem_of_getElem? (i := 86) rfl) rfl
theorem wd_X8_138 : Cond.methodLink RX8 216 yX8_isBroken ∈ x_T := x_t4 (List.mem_of_getElem? (i := 188) rfl) rfl
theorem wd_X8_139 : Cond.instanceMethod yX8_isBroken ∈ x_T := x_t4 (List.mem_of_getElem? (i := 190) rfl) rfl
theorem wd_X8_140 : Cond.selects RX8 yX8_isBroken yX8_isBroken ∈ x_T := x_t0 (List.mem_of_getElem? (i := 57) rfl) rfl
theorem wd_X8_141 : Cond.methodLink RX8 219 yX8_look ∈ x_T := x_t4 (List.mem_of_getElem? (i := 200) rfl) rfl
theorem wd_X8_142 : Cond.instanceMethod yX8_look ∈ x_T := x_t4 (List.mem_of_getElem? (i := 202) rfl) rfl
theorem wd_X8_143 : Cond.selects RX8 yX8_look yX8_look ∈ x_T := x_t0 (List.mem_of_getElem? (i := 60) rfl) rfl
theorem wd_X8_144 : Cond.methodLink RX8 222 yX8_search ∈ x_T := x_t4 (List.mem_of_getElem? (i := 184) rfl) rfl
theorem wd_X8_145 : Cond.instanceMethod yX8_search ∈ x_T := x_t4 (List.mem_of_getElem? (i := 186) rfl) rfl
theorem wd_X8_146 : Cond.selects RX8 yX8_search yX8_search ∈ x_T := x_t0 (List.mem_of_getElem? (i := 56) rfl) rfl
theorem wd_X8_147 : Cond.methodLink RX8 225 yX8_reasonMany ∈ x_T := x_t5 (List.mem_of_getElem? (i := 82) rfl) rfl
theorem wd_X8_148 : Cond.instanceMethod yX8_reasonMany ∈ x_T := x_t5 (List.mem_of_getElem? (i := 84) rfl) rfl
theorem wd_X8_149 : Cond.selects RX8 yX8_reasonMany yX8_reasonMany ∈ x_T := x_t0 (List.mem_of_getElem? (i := 88) rfl) rfl
theorem wd_X8_150 : Cond.methodLink RX8 228 yX8_goMany ∈ x_T := x_t5 (List.mem_of_getElem? (i := 86) rfl) rfl
theorem wd_X8_151 : Cond.instanceMethod yX8_goMany ∈ x_T := x_t5 (List.mem_of_getElem? (i := 88) rfl) rfl
theorem wd_X8_152 : Cond.selects RX8 yX8_goMany yX8_goMany ∈ x_T := x_t0 (List.mem_of_getElem? (i := 89) rfl) rfl
theorem wd_X8_153 : Cond.methodLink RX8 231 yX8_reasonAt ∈ x_T := x_t5 (List.mem_of_getElem? (i := 94) rfl) rfl
theorem wd_X8_154 : Cond.instanceMethod yX8_reasonAt ∈ x_T := x_t5 (List.mem_of_getElem? (i := 96) rfl) rfl
theorem wd_X8_155 : Cond.selects RX8 yX8_reasonAt yX8_reasonAt ∈ x_T := x_t0 (List.mem_of_getElem? (i := 90) rfl) rfl
theorem wd_X8_156 : Cond.methodLink RX8 234 yX8_act ∈ x_T := x_t5 (List.mem_of_getElem? (i := 106) rfl) rfl
theorem wd_X8_157 : Cond.instanceMethod yX8_act ∈ x_T := x_t5 (List.mem_of_getElem? (i := 108) rfl) rfl
theorem wd_X8_158 : Cond.selects RX8 yX8_act yX8_act ∈ x_T := x_t0 (List.mem_of_getElem? (i := 91) rfl) rfl
theorem wd_X8_159 : Cond.methodLink RX8 125 yX8_countOf ∈ x_T := x_t4 (List.mem_of_getElem? (i := 212) rfl) rfl
theorem wd_X8_160 : Cond.static yX8_countOf ∈ x_T := x_t4 (List.mem_of_getElem? (i := 213) rfl) rfl
theorem wd_X8_161 : Cond.methodLink RX8 128 yX8_lowest ∈ x_T := x_t4 (List.mem_of_getElem? (i := 215) rfl) rfl
theorem wd_X8_162 : Cond.static yX8_lowest ∈ x_T := x_t4 (List.mem_of_getElem? (i := 216) rfl) rfl
theorem wd_X8_163 : Cond.methodLink RX8 345 yX8_part ∈ x_T := x_t5 (List.mem_of_getElem? (i := 141) rfl) rfl
theorem wd_X8_164 : Cond.static yX8_part ∈ x_T := x_t5 (List.mem_of_getElem? (i := 142) rfl) rfl
theorem wd_X8_165 : Cond.methodLink RX8 349 yX8_nameByte ∈ x_T := x_t5 (List.mem_of_getElem? (i := 138) rfl) rfl
theorem wd_X8_166 : Cond.static yX8_nameByte ∈ x_T := x_t5 (List.mem_of_getElem? (i := 139) rfl) rfl
theorem wd_X8_167 : Cond.constant RX8 39 (66420) ∈ x_T := x_t4 (List.mem_of_getElem? (i := 57) rfl) rfl
theorem wd_X8_168 : Cond.constantLong RX8 237 (7809650170890551296) ∈ x_T := x_t5 (List.mem_of_getElem? (i := 144) rfl) rfl
theorem wd_X8_169 : Cond.constantLong RX8 239 (7597045228569624576) ∈ x_T := x_t5 (List.mem_of_getElem? (i := 145) rfl) rfl
theorem wd_X8_170 : Cond.constantLong RX8 241 (7597045297289035776) ∈ x_T := x_t5 (List.mem_of_getElem? (i := 146) rfl) rfl
theorem wd_X8_171 : Cond.constantLong RX8 243 (7597045232863835501) ∈ x_T := x_t5 (List.mem_of_getElem? (i := 147) rfl) rfl
theorem wd_X8_172 : Cond.constantLong RX8 245 (7926335344172072960) ∈ x_T := x_t5 (List.mem_of_getElem? (i := 148) rfl) rfl
theorem wd_X8_173 : Cond.constantLong RX8 247 (8101810177783197287) ∈ x_T := x_t5 (List.mem_of_getElem? (i := 149) rfl) rfl
theorem wd_X8_174 : Cond.constantLong RX8 249 (7164208212674702951) ∈ x_T := x_t5 (List.mem_of_getElem? (i := 150) rfl) rfl
theorem wd_X8_175 : Cond.constantLong RX8 251 (8097869543336050688) ∈ x_T := x_t5 (List.mem_of_getElem? (i := 151) rfl) rfl
theorem wd_X8_176 : Cond.constantLong RX8 253 (8390884987320467456) ∈ x_T := x_t5 (List.mem_of_getElem? (i := 152) rfl) rfl
theorem wd_X8_177 : Cond.constantLong RX8 255 (8175547780685627392) ∈ x_T := x_t5 (List.mem_of_getElem? (i := 153) rfl) rfl
theorem wd_X8_178 : Cond.constantLong RX8 257 (7523655034860347504) ∈ x_T := x_t5 (List.mem_of_getElem? (i := 154) rfl) rfl
theorem wd_X8_179 : Cond.constantLong RX8 259 (7019266838559195136) ∈ x_T := x_t5 (List.mem_of_getElem? (i := 155) rfl) rfl
theorem wd_X8_180 : Cond.constantLong RX8 261 (7523655034860347508) ∈ x_T := x_t5 (List.mem_of_getElem? (i := 156) rfl) rfl
theorem wd_X8_181 : Cond.constantLong RX8 263 (8244244203731681280) ∈ x_T := x_t5 (List.mem_of_getElem? (i := 157) rfl) rfl
theorem wd_X8_182 : Cond.constantLong RX8 265 (8392298615777752947) ∈ x_T := x_t5 (List.mem_of_getElem? (i := 158) rfl) rfl
theorem wd_X8_183 : Cond.constantLong RX8 267 (8392298615526091893) ∈ x_T := x_t5 (List.mem_of_getElem? (i := 159) rfl) rfl
theorem wd_X8_184 : Cond.constantLong RX8 269 (7885366441409511424) ∈ x_T := x_t5 (List.mem_of_getElem? (i := 160) rfl) rfl
theorem wd_X8_185 : Cond.constantLong RX8 271 (8388080085791437423) ∈ x_T := x_t5 (List.mem_of_getElem? (i := 161) rfl) rfl
theorem wd_X8_186 : Cond.constantLong RX8 273 (8607223312835149824) ∈ x_T := x_t5 (List.mem_of_getElem? (i := 162) rfl) rfl
theorem wd_X8_187 : Cond.constantLong RX8 275 (8388080085791433583) ∈ x_T := x_t5 (List.mem_of_getElem? (i := 163) rfl) rfl
theorem wd_X8_188 : Cond.constantLong RX8 277 (7815273049514573824) ∈ x_T := x_t5 (List.mem_of_getElem? (i := 164) rfl) rfl
theorem wd_X8_189 : Cond.constantLong RX8 279 (8604529951728730112) ∈ x_T := x_t5 (List.mem_of_getElem? (i := 165) rfl) rfl
theorem wd_X8_190 : Cond.constantLong RX8 281 (7454131802486110057) ∈ x_T := x_t5 (List.mem_of_getElem? (i := 166) rfl) rfl
theorem wd_X8_191 : Cond.constantLong RX8 283 (7955327266773270528) ∈ x_T := x_t5 (List.mem_of_getElem? (i := 167) rfl) rfl
theorem wd_X8_192 : Cond.constantLong RX8 285 (7165064758137352960) ∈ x_T := x_t5 (List.mem_of_getElem? (i := 168) rfl) rfl
theorem wd_X8_193 : Cond.constantLong RX8 287 (8029474453139189349) ∈ x_T := x_t5 (List.mem_of_getElem? (i := 169) rfl) rfl
theorem wd_X8_194 : Cond.constantLong RX8 289 (2333267524158059008) ∈ x_T := x_t5 (List.mem_of_getElem? (i := 170) rfl) rfl
theorem wd_X8_195 : Cond.constantLong RX8 291 (7810777198031601664) ∈ x_T := x_t5 (List.mem_of_getElem? (i := 171) rfl) rfl
theorem wd_X8_196 : Cond.constantLong RX8 293 (7596763616103064427) ∈ x_T := x_t5 (List.mem_of_getElem? (i := 172) rfl) rfl
theorem wd_X8_197 : Cond.constantLong RX8 295 (7597045236991402074) ∈ x_T := x_t5 (List.mem_of_getElem? (i := 173) rfl) rfl
theorem wd_X8_198 : Cond.constantLong RX8 297 (7307491051432837120) ∈ x_T := x_t5 (List.mem_of_getElem? (i := 174) rfl) rfl
theorem wd_X8_199 : Cond.constantLong RX8 299 (7597045236991402067) ∈ x_T := x_t5 (List.mem_of_getElem? (i := 175) rfl) rfl
theorem wd_X8_200 : Cond.constantLong RX8 301 (8097872852155367424) ∈ x_T := x_t5 (List.mem_of_getElem? (i := 176) rfl) rfl
theorem wd_X8_201 : Cond.constantLong RX8 303 (8819571338079265792) ∈ x_T := x_t5 (List.mem_of_getElem? (i := 177) rfl) rfl
theorem wd_X8_202 : Cond.constantLong RX8 305 (7381244089807826532) ∈ x_T := x_t5 (List.mem_of_getElem? (i := 178) rfl) rfl
theorem wd_X8_203 : Cond.constantLong RX8 307 (5792017738029334528) ∈ x_T := x_t5 (List.mem_of_getElem? (i := 179) rfl) rfl
theorem wd_X8_204 : Cond.constantLong RX8 309 (6085041977989791744) ∈ x_T := x_t5 (List.mem_of_getElem? (i := 180) rfl) rfl
theorem wd_X8_205 : Cond.constantLong RX8 311 (5869704833554281588) ∈ x_T := x_t5 (List.mem_of_getElem? (i := 181) rfl) rfl
theorem wd_X8_206 : Cond.constantLong RX8 313 (8531350909322879851) ∈ x_T := x_t5 (List.mem_of_getElem? (i := 182) rfl) rfl
theorem wd_X8_207 : Cond.constantLong RX8 315 (8387236463672123762) ∈ x_T := x_t5 (List.mem_of_getElem? (i := 183) rfl) rfl
theorem wd_X8_208 : Cond.constantLong RX8 317 (8387236463740348784) ∈ x_T := x_t5 (List.mem_of_getElem? (i := 184) rfl) rfl
theorem wd_X8_209 : Cond.constantLong RX8 319 (7308216295315472384) ∈ x_T := x_t5 (List.mem_of_getElem? (i := 185) rfl) rfl
theorem wd_X8_210 : Cond.constantLong RX8 321 (8824633497044542825) ∈ x_T := x_t5 (List.mem_of_getElem? (i := 186) rfl) rfl
theorem wd_X8_211 : Cond.constantLong RX8 323 (7810770075023048704) ∈ x_T := x_t5 (List.mem_of_getElem? (i := 187) rfl) rfl
theorem wd_X8_212 : Cond.constantLong RX8 325 (8824633497044086881) ∈ x_T := x_t5 (List.mem_of_getElem? (i := 188) rfl) rfl
theorem wd_X8_213 : Cond.constantLong RX8 327 (7814982776515461120) ∈ x_T := x_t5 (List.mem_of_getElem? (i := 189) rfl) rfl
theorem wd_X8_214 : Cond.constantLong RX8 329 (7237959053326574953) ∈ x_T := x_t5 (List.mem_of_getElem? (i := 190) rfl) rfl
theorem wd_X8_215 : Cond.constantLong RX8 331 (7237959053326119009) ∈ x_T := x_t5 (List.mem_of_getElem? (i := 191) rfl) rfl
theorem wd_X8_216 : Cond.constantLong RX8 333 (6008761189921613669) ∈ x_T := x_t5 (List.mem_of_getElem? (i := 192) rfl) rfl
theorem wd_X8_217 : Cond.constantLong RX8 335 (7454142874899521619) ∈ x_T := x_t5 (List.mem_of_getElem? (i := 193) rfl) rfl
theorem wd_X8_218 : Cond.constantLong RX8 337 (7163106502040315136) ∈ x_T := x_t5 (List.mem_of_getElem? (i := 194) rfl) rfl
theorem wd_X8_219 : Cond.constantLong RX8 339 (5071460422329958400) ∈ x_T := x_t5 (List.mem_of_getElem? (i := 195) rfl) rfl
theorem wd_X8_220 : Cond.constantLong RX8 341 (7959393399913148005) ∈ x_T := x_t5 (List.mem_of_getElem? (i := 196) rfl) rfl
theorem wd_X8_221 : Cond.constantLong RX8 343 (2324260329198940788) ∈ x_T := x_t5 (List.mem_of_getElem? (i := 197) rfl) rfl
theorem wd_X8_222 : Cond.methodLink RX8 1 objectInit ∈ x_T := x_t4 (List.mem_of_getElem? (i := 56) rfl) rfl
theorem wd_X8_223 : Cond.code yX8_init cX8_init 3 none ∈ x_T := x_t4 (List.mem_of_getElem? (i := 55) rfl) rfl
theorem wd_X8_224 : Cond.code yX8_thrown cX8_thrown 1 (some .int) ∈ x_T := x_t4 (List.mem_of_getElem? (i := 135) rfl) rfl
theorem wd_X8_225 : Cond.code yX8_fails cX8_fails 3 (some .boolean) ∈ x_T := x_t4 (List.mem_of_getElem? (i := 147) rfl) rfl
theorem wd_X8_226 : Cond.code yX8_cells cX8_cells 1 (some .int) ∈ x_T := x_t4 (List.mem_of_getElem? (i := 61) rfl) rfl
theorem wd_X8_227 : Cond.code yX8_isCell cX8_isCell 2 (some .boolean) ∈ x_T := x_t4 (List.mem_of_getElem? (i := 143) rfl) rfl
theorem wd_X8_228 : Cond.code yX8_isSymbol cX8_isSymbol 2 (some .boolean) ∈ x_T := x_t4 (List.mem_of_getElem? (i := 151) rfl) rfl
theorem wd_X8_229 : Cond.code yX8_boxOf cX8_boxOf 2 (some .int) ∈ x_T := x_t4 (List.mem_of_getElem? (i := 167) rfl) rfl
theorem wd_X8_230 : Cond.code yX8_isIn cX8_isIn 3 (some .boolean) ∈ x_T := x_t5 (List.mem_of_getElem? (i := 1) rfl) rfl
theorem wd_X8_231 : Cond.code yX8_at cX8_at 6 (some .int) ∈ x_T := x_t4 (List.mem_of_getElem? (i := 199) rfl) rfl
theorem wd_X8_232 : Cond.code yX8_sees cX8_sees 3 (some .boolean) ∈ x_T := x_t4 (List.mem_of_getElem? (i := 163) rfl) rfl
theorem wd_X8_233 : Cond.code yX8_has cX8_has 3 (some .boolean) ∈ x_T := x_t4 (List.mem_of_getElem? (i := 155) rfl) rfl
theorem wd_X8_234 : Cond.code yX8_countOf cX8_countOf 3 (some .int) ∈ x_T := x_t4 (List.mem_of_getElem? (i := 214) rfl) rfl
theorem wd_X8_235 : Cond.code yX8_places cX8_places 5 (some .int) ∈ x_T := x_t4 (List.mem_of_getElem? (i := 195) rfl) rfl
theorem wd_X8_236 : Cond.code yX8_isBroken cX8_isBroken 3 (some .boolean) ∈ x_T := x_t4 (List.mem_of_getElem? (i := 191) rfl) rfl
theorem wd_X8_237 : Cond.code yX8_put cX8_put 4 none ∈ x_T := x_t4 (List.mem_of_getElem? (i := 159) rfl) rfl
theorem wd_X8_238 : Cond.code yX8_changed cX8_changed 1 none ∈ x_T := x_t4 (List.mem_of_getElem? (i := 171) rfl) rfl
theorem wd_X8_239 : Cond.code yX8_set cX8_set 3 (some .boolean) ∈ x_T := x_t4 (List.mem_of_getElem? (i := 139) rfl) rfl
theorem wd_X8_240 : Cond.code yX8_take cX8_take 3 (some .boolean) ∈ x_T := x_t4 (List.mem_of_getElem? (i := 175) rfl) rfl
theorem wd_X8_241 : Cond.code yX8_enable cX8_enable 3 (some .boolean) ∈ x_T := x_t4 (List.mem_of_getElem? (i := 179) rfl) rfl
theorem wd_X8_242 : Cond.code yX8_none cX8_none 2 none ∈ x_T := x_t4 (List.mem_of_getElem? (i := 207) rfl) rfl
theorem wd_X8_243 : Cond.code yX8_leaves cX8_leaves 3 none ∈ x_T := x_t4 (List.mem_of_getElem? (i := 225) rfl) rfl
theorem wd_X8_244 : Cond.code yX8_takes cX8_takes 2 (some .boolean) ∈ x_T := x_t5 (List.mem_of_getElem? (i := 9) rfl) rfl
theorem wd_X8_245 : Cond.code yX8_sets cX8_sets 4 (some .boolean) ∈ x_T := x_t4 (List.mem_of_getElem? (i := 221) rfl) rfl
theorem wd_X8_246 : Cond.code yX8_first cX8_first 3 none ∈ x_T := x_t5 (List.mem_of_getElem? (i := 21) rfl) rfl
theorem wd_X8_247 : Cond.code yX8_next cX8_next 4 (some .boolean) ∈ x_T := x_t5 (List.mem_of_getElem? (i := 29) rfl) rfl
theorem wd_X8_248 : Cond.code yX8_isPicked cX8_isPicked 4 (some .boolean) ∈ x_T := x_t5 (List.mem_of_getElem? (i := 25) rfl) rfl
theorem wd_X8_249 : Cond.code yX8_last cX8_last 2 (some .boolean) ∈ x_T := x_t4 (List.mem_of_getElem? (i := 211) rfl) rfl
theorem wd_X8_250 : Cond.code yX8_lowest cX8_lowest 2 (some .int) ∈ x_T := x_t4 (List.mem_of_getElem? (i := 217) rfl) rfl
theorem wd_X8_251 : Cond.code yX8_only cX8_only 6 (some .boolean) ∈ x_T := x_t4 (List.mem_of_getElem? (i := 229) rfl) rfl
theorem wd_X8_252 : Cond.code yX8_common cX8_common 7 (some .int) ∈ x_T := x_t4 (List.mem_of_getElem? (i := 237) rfl) rfl
theorem wd_X8_253 : Cond.code yX8_crosses cX8_crosses 5 (some .boolean) ∈ x_T := x_t5 (List.mem_of_getElem? (i := 5) rfl) rfl
theorem wd_X8_254 : Cond.code yX8_pointing cX8_pointing 4 (some .boolean) ∈ x_T := x_t4 (List.mem_of_getElem? (i := 233) rfl) rfl
theorem wd_X8_255 : Cond.code yX8_claiming cX8_claiming 4 (some .boolean) ∈ x_T := x_t5 (List.mem_of_getElem? (i := 13) rfl) rfl
theorem wd_X8_256 : Cond.code yX8_naked cX8_naked 6 (some .boolean) ∈ x_T := x_t5 (List.mem_of_getElem? (i := 17) rfl) rfl
theorem wd_X8_257 : Cond.code yX8_isOpenIn cX8_isOpenIn 4 (some .boolean) ∈ x_T := x_t5 (List.mem_of_getElem? (i := 37) rfl) rfl
theorem wd_X8_258 : Cond.code yX8_hidden cX8_hidden 7 (some .boolean) ∈ x_T := x_t5 (List.mem_of_getElem? (i := 33) rfl) rfl
theorem wd_X8_259 : Cond.code yX8_fish cX8_fish 8 (some .boolean) ∈ x_T := x_t5 (List.mem_of_getElem? (i := 41) rfl) rfl
theorem wd_X8_260 : Cond.code yX8_wing cX8_wing 5 (some .boolean) ∈ x_T := x_t5 (List.mem_of_getElem? (i := 45) rfl) rfl
theorem wd_X8_261 : Cond.code yX8_isWing cX8_isWing 8 (some .boolean) ∈ x_T := x_t5 (List.mem_of_getElem? (i := 49) rfl) rfl
theorem wd_X8_262 : Cond.code yX8_isLinked cX8_isLinked 5 (some .boolean) ∈ x_T := x_t5 (List.mem_of_getElem? (i := 61) rfl) rfl
theorem wd_X8_263 : Cond.code yX8_colour cX8_colour 8 none ∈ x_T := x_t5 (List.mem_of_getElem? (i := 57) rfl) rfl
theorem wd_X8_264 : Cond.code yX8_clash cX8_clash 4 (some .boolean) ∈ x_T := x_t5 (List.mem_of_getElem? (i := 65) rfl) rfl
theorem wd_X8_265 : Cond.code yX8_seesOne cX8_seesOne 4 (some .boolean) ∈ x_T := x_t5 (List.mem_of_getElem? (i := 69) rfl) rfl
theorem wd_X8_266 : Cond.code yX8_colours cX8_colours 9 (some .boolean) ∈ x_T := x_t5 (List.mem_of_getElem? (i := 53) rfl) rfl
theorem wd_X8_267 : Cond.code yX8_corners cX8_corners 11 (some .boolean) ∈ x_T := x_t5 (List.mem_of_getElem? (i := 77) rfl) rfl
theorem wd_X8_268 : Cond.code yX8_rectangle cX8_rectangle 5 (some .boolean) ∈ x_T := x_t5 (List.mem_of_getElem? (i := 73) rfl) rfl
theorem wd_X8_269 : Cond.code yX8_look cX8_look 2 (some .boolean) ∈ x_T := x_t4 (List.mem_of_getElem? (i := 203) rfl) rfl
theorem wd_X8_270 : Cond.code yX8_search cX8_search 2 (some .int) ∈ x_T := x_t4 (List.mem_of_getElem? (i := 187) rfl) rfl
theorem wd_X8_271 : Cond.code yX8_find cX8_find 1 (some .int) ∈ x_T := x_t4 (List.mem_of_getElem? (i := 183) rfl) rfl
theorem wd_X8_272 : Cond.code yX8_goMany cX8_goMany 3 (some .int) ∈ x_T := x_t5 (List.mem_of_getElem? (i := 89) rfl) rfl
theorem wd_X8_273 : Cond.code yX8_reasonMany cX8_reasonMany 3 (some .int) ∈ x_T := x_t5 (List.mem_of_getElem? (i := 85) rfl) rfl
theorem wd_X8_274 : Cond.code yX8_found cX8_found 2 (some .int) ∈ x_T := x_t5 (List.mem_of_getElem? (i := 81) rfl) rfl
theorem wd_X8_275 : Cond.code yX8_reasonAt cX8_reasonAt 4 (some .int) ∈ x_T := x_t5 (List.mem_of_getElem? (i := 97) rfl) rfl
theorem wd_X8_276 : Cond.code yX8_reason cX8_reason 2 (some .int) ∈ x_T := x_t5 (List.mem_of_getElem? (i := 93) rfl) rfl
theorem wd_X8_277 : Cond.code yX8_goes cX8_goes 5 (some .int) ∈ x_T := x_t5 (List.mem_of_getElem? (i := 101) rfl) rfl
theorem wd_X8_278 : Cond.code yX8_act cX8_act 2 none ∈ x_T := x_t5 (List.mem_of_getElem? (i := 109) rfl) rfl
theorem wd_X8_279 : Cond.code yX8_apply cX8_apply 1 (some .boolean) ∈ x_T := x_t5 (List.mem_of_getElem? (i := 105) rfl) rfl
theorem wd_X8_280 : Cond.code yX8_solve cX8_solve 3 (some .int) ∈ x_T := x_t5 (List.mem_of_getElem? (i := 113) rfl) rfl
theorem wd_X8_281 : Cond.code yX8_undo cX8_undo 2 (some .int) ∈ x_T := x_t5 (List.mem_of_getElem? (i := 117) rfl) rfl
theorem wd_X8_282 : Cond.code yX8_done cX8_done 2 (some .int) ∈ x_T := x_t5 (List.mem_of_getElem? (i := 121) rfl) rfl
theorem wd_X8_283 : Cond.code yX8_candidates cX8_candidates 2 (some .int) ∈ x_T := x_t5 (List.mem_of_getElem? (i := 125) rfl) rfl
theorem wd_X8_284 : Cond.code yX8_value cX8_value 2 (some .int) ∈ x_T := x_t5 (List.mem_of_getElem? (i := 129) rfl) rfl
theorem wd_X8_285 : Cond.code yX8_state cX8_state 6 (some .int) ∈ x_T := x_t5 (List.mem_of_getElem? (i := 133) rfl) rfl
theorem wd_X8_286 : Cond.code yX8_part cX8_part 1 (some .long) ∈ x_T := x_t5 (List.mem_of_getElem? (i := 143) rfl) rfl
theorem wd_X8_287 : Cond.code yX8_nameByte cX8_nameByte 3 (some .int) ∈ x_T := x_t5 (List.mem_of_getElem? (i := 140) rfl) rfl
theorem wd_X8_288 : Cond.code yX8_words cX8_words 6 (some .int) ∈ x_T := x_t5 (List.mem_of_getElem? (i := 137) rfl) rfl
theorem wd_X2_0 : Cond.fieldLink RX2 9 (TX2 0).1 (TX2 0).2.1 (TX2 0).2.2.1 ∈ x_T := x_t1 (List.mem_of_getElem? (i := 58) rfl) rfl
theorem wd_X2_1 : Cond.fieldLink RX2 15 (TX2 1).1 (TX2 1).2.1 (TX2 1).2.2.1 ∈ x_T := x_t1 (List.mem_of_getElem? (i := 62) rfl) rfl
theorem wd_X2_2 : Cond.fieldLink RX2 18 (TX2 2).1 (TX2 2).2.1 (TX2 2).2.2.1 ∈ x_T := x_t1 (List.mem_of_getElem? (i := 64) rfl) rfl
theorem wd_X2_3 : Cond.fieldLink RX2 21 (TX2 3).1 (TX2 3).2.1 (TX2 3).2.2.1 ∈ x_T := x_t1 (List.mem_of_getElem? (i := 66) rfl) rfl
theorem wd_X2_4 : Cond.fieldLink RX2 25 (TX2 4).1 (TX2 4).2.1 (TX2 4).2.2.1 ∈ x_T := x_t1 (List.mem_of_getElem? (i := 70) rfl) rfl
theorem wd_X2_5 : Cond.fieldLink RX2 28 (TX2 5).1 (TX2 5).2.1 (TX2 5).2.2.1 ∈ x_T := x_t1 (List.mem_of_getElem? (i := 73) rfl) rfl
theorem wd_X2_6 : Cond.fieldLink RX2 31 (TX2 6).1 (TX2 6).2.1 (TX2 6).2.2.1 ∈ x_T := x_t1 (List.mem_of_getElem? (i := 74) rfl) rfl
theorem wd_X2_7 : Cond.fieldLink RX2 34 (TX2 7).1 (TX2 7).2.1 (TX2 7).2.2.1 ∈ x_T := x_t1 (List.mem_of_getElem? (i := 75) rfl) rfl
theorem wd_X2_8 : Cond.fieldLink RX2 37 (TX2 8).1 (TX2 8).2.1 (TX2 8).2.2.1 ∈ x_T := x_t1 (List.mem_of_getElem? (i := 76) rfl) rfl
theorem wd_X2_9 : Cond.methodLink RX2 40 yX2_layLines ∈ x_T := x_t1 (List.mem_of_getElem? (i := 41) rfl) rfl
theorem wd_X2_10 : Cond.instanceMethod yX2_layLines ∈ x_T := x_t1 (List.mem_of_getElem? (i := 43) rfl) rfl
theorem wd_X2_11 : Cond.selects RX2 yX2_layLines yX2_layLines ∈ x_T := x_t0 (List.mem_of_getElem? (i := 0) rfl) rfl
theorem wd_X2_12 : Cond.initialized RX2 ∈ x_T := x_t1 (List.mem_of_getElem? (i := 3) rfl) rfl
theorem wd_X2_13 : Cond.methodLink RX2 43 yX2_layBoxes ∈ x_T := x_t1 (List.mem_of_getElem? (i := 49) rfl) rfl
theorem wd_X2_14 : Cond.instanceMethod yX2_layBoxes ∈ x_T := x_t1 (List.mem_of_getElem? (i := 51) rfl) rfl
theorem wd_X2_15 : Cond.selects RX2 yX2_layBoxes yX2_layBoxes ∈ x_T := x_t0 (List.mem_of_getElem? (i := 2) rfl) rfl
theorem wd_X2_16 : Cond.methodLink RX2 47 yX2_fill ∈ x_T := x_t1 (List.mem_of_getElem? (i := 53) rfl) rfl
theorem wd_X2_17 : Cond.instanceMethod yX2_fill ∈ x_T := x_t1 (List.mem_of_getElem? (i := 55) rfl) rfl
theorem wd_X2_18 : Cond.selects RX2 yX2_fill yX2_fill ∈ x_T := x_t0 (List.mem_of_getElem? (i := 3) rfl) rfl
theorem wd_X2_19 : Cond.methodLink RX2 50 yX2_lay ∈ x_T := x_t1 (List.mem_of_getElem? (i := 45) rfl) rfl
theorem wd_X2_20 : Cond.instanceMethod yX2_lay ∈ x_T := x_t1 (List.mem_of_getElem? (i := 47) rfl) rfl
theorem wd_X2_21 : Cond.selects RX2 yX2_lay yX2_lay ∈ x_T := x_t0 (List.mem_of_getElem? (i := 1) rfl) rfl
theorem wd_X2_22 : Cond.methodLink RX2 54 yX2_house ∈ x_T := x_t2 (List.mem_of_getElem? (i := 92) rfl) rfl
theorem wd_X2_23 : Cond.instanceMethod yX2_house ∈ x_T := x_t2 (List.mem_of_getElem? (i := 85) rfl) rfl
theorem wd_X2_24 : Cond.selects RX2 yX2_house yX2_house ∈ x_T := x_t2 (List.mem_of_getElem? (i := 86) rfl) rfl
theorem wd_X2_25 : Cond.methodLink RX2 58 yX2_isOpen ∈ x_T := x_t3 (List.mem_of_getElem? (i := 53) rfl) rfl
theorem wd_X2_26 : Cond.instanceMethod yX2_isOpen ∈ x_T := x_t2 (List.mem_of_getElem? (i := 23) rfl) rfl
theorem wd_X2_27 : Cond.selects RX2 yX2_isOpen yX2_isOpen ∈ x_T := x_t2 (List.mem_of_getElem? (i := 24) rfl) rfl
theorem wd_X2_28 : Cond.methodLink RX2 62 yJ6_bitCount_0f7a4 ∈ x_T := x_t3 (List.mem_of_getElem? (i := 58) rfl) rfl
theorem wd_X2_29 : Cond.static yJ6_bitCount_0f7a4 ∈ x_T := x_t2 (List.mem_of_getElem? (i := 27) rfl) rfl
theorem wd_X2_30 : Cond.initialized RJ6 ∈ x_T := x_t1 (List.mem_of_getElem? (i := 15) rfl) rfl
theorem wd_X2_31 : Cond.methodLink RX2 3 objectInit ∈ x_T := x_t1 (List.mem_of_getElem? (i := 40) rfl) rfl
theorem wd_X2_32 : Cond.code yX2_init cX2_init 4 none ∈ x_T := x_t1 (List.mem_of_getElem? (i := 39) rfl) rfl
theorem wd_X2_33 : Cond.code yX2_layLines cX2_layLines 3 none ∈ x_T := x_t1 (List.mem_of_getElem? (i := 44) rfl) rfl
theorem wd_X2_34 : Cond.code yX2_layBoxes cX2_layBoxes 9 none ∈ x_T := x_t1 (List.mem_of_getElem? (i := 52) rfl) rfl
theorem wd_X2_35 : Cond.code yX2_lay cX2_lay 6 none ∈ x_T := x_t1 (List.mem_of_getElem? (i := 48) rfl) rfl
theorem wd_X2_36 : Cond.code yX2_fill cX2_fill 3 none ∈ x_T := x_t1 (List.mem_of_getElem? (i := 56) rfl) rfl
theorem wd_X2_37 : Cond.code yX2_cell cX2_cell 3 (some .int) ∈ x_T := x_t2 (List.mem_of_getElem? (i := 67) rfl) rfl
theorem wd_X2_38 : Cond.code yX2_house cX2_house 3 (some .int) ∈ x_T := x_t2 (List.mem_of_getElem? (i := 87) rfl) rfl
theorem wd_X2_39 : Cond.code yX2_rowOf cX2_rowOf 2 (some .int) ∈ x_T := x_t3 (List.mem_of_getElem? (i := 124) rfl) rfl
theorem wd_X2_40 : Cond.code yX2_columnOf cX2_columnOf 2 (some .int) ∈ x_T := x_t3 (List.mem_of_getElem? (i := 128) rfl) rfl
theorem wd_X2_41 : Cond.code yX2_places cX2_places 3 (some .int) ∈ x_T := x_t2 (List.mem_of_getElem? (i := 59) rfl) rfl
theorem wd_X2_42 : Cond.code yX2_isOpen cX2_isOpen 2 (some .boolean) ∈ x_T := x_t2 (List.mem_of_getElem? (i := 25) rfl) rfl
theorem wd_X2_43 : Cond.code yX2_isIn cX2_isIn 3 (some .boolean) ∈ x_T := x_t2 (List.mem_of_getElem? (i := 91) rfl) rfl
theorem wd_X2_44 : Cond.code yX2_see cX2_see 5 (some .boolean) ∈ x_T := x_t2 (List.mem_of_getElem? (i := 47) rfl) rfl
theorem wd_X2_45 : Cond.code yX2_drop cX2_drop 4 none ∈ x_T := x_t3 (List.mem_of_getElem? (i := 12) rfl) rfl
theorem wd_X2_46 : Cond.code yX2_giveBack cX2_giveBack 4 none ∈ x_T := x_t3 (List.mem_of_getElem? (i := 44) rfl) rfl
theorem wd_X2_47 : Cond.code yX2_isBroken cX2_isBroken 2 (some .boolean) ∈ x_T := x_t2 (List.mem_of_getElem? (i := 13) rfl) rfl
theorem wd_X2_48 : Cond.code yX2_openCells cX2_openCells 3 (some .int) ∈ x_T := x_t3 (List.mem_of_getElem? (i := 52) rfl) rfl
theorem wd_X2_49 : Cond.code yX2_openCandidates cX2_openCandidates 3 (some .int) ∈ x_T := x_t3 (List.mem_of_getElem? (i := 57) rfl) rfl
theorem wd_X1_0 : Cond.fieldLink RX1 9 (TX1 0).1 (TX1 0).2.1 (TX1 0).2.2.1 ∈ x_T := x_t1 (List.mem_of_getElem? (i := 103) rfl) rfl
theorem wd_X1_1 : Cond.fieldLink RX1 15 (TX1 1).1 (TX1 1).2.1 (TX1 1).2.2.1 ∈ x_T := x_t1 (List.mem_of_getElem? (i := 105) rfl) rfl
theorem wd_X1_2 : Cond.fieldLink RX1 18 (TX1 2).1 (TX1 2).2.1 (TX1 2).2.2.1 ∈ x_T := x_t1 (List.mem_of_getElem? (i := 107) rfl) rfl
theorem wd_X1_3 : Cond.fieldLink RX1 22 (TX1 3).1 (TX1 3).2.1 (TX1 3).2.2.1 ∈ x_T := x_t1 (List.mem_of_getElem? (i := 109) rfl) rfl
theorem wd_X1_4 : Cond.fieldLink RX1 25 (TX1 4).1 (TX1 4).2.1 (TX1 4).2.2.1 ∈ x_T := x_t1 (List.mem_of_getElem? (i := 112) rfl) rfl
theorem wd_X1_5 : Cond.fieldLink RX1 28 (TX1 5).1 (TX1 5).2.1 (TX1 5).2.2.1 ∈ x_T := x_t1 (List.mem_of_getElem? (i := 115) rfl) rfl
theorem wd_X1_6 : Cond.fieldLink RX1 31 (TX1 6).1 (TX1 6).2.1 (TX1 6).2.2.1 ∈ x_T := x_t1 (List.mem_of_getElem? (i := 119) rfl) rfl
theorem wd_X1_7 : Cond.methodLink RX1 34 yJ6_bitCount_0f7a4 ∈ x_T := x_t2 (List.mem_of_getElem? (i := 43) rfl) rfl
theorem wd_X1_8 : Cond.static yJ6_bitCount_0f7a4 ∈ x_T := x_t2 (List.mem_of_getElem? (i := 27) rfl) rfl
theorem wd_X1_9 : Cond.initialized RJ6 ∈ x_T := x_t1 (List.mem_of_getElem? (i := 15) rfl) rfl
theorem wd_X1_10 : Cond.methodLink RX1 40 yX1_nthBit ∈ x_T := x_t2 (List.mem_of_getElem? (i := 233) rfl) rfl
theorem wd_X1_11 : Cond.static yX1_nthBit ∈ x_T := x_t2 (List.mem_of_getElem? (i := 234) rfl) rfl
theorem wd_X1_12 : Cond.initialized RX1 ∈ x_T := x_t1 (List.mem_of_getElem? (i := 4) rfl) rfl
theorem wd_X1_13 : Cond.static yX7_leastBit ∈ x_T := x_t2 (List.mem_of_getElem? (i := 33) rfl) rfl
theorem wd_X1_14 : Cond.initialized RX7 ∈ x_T := x_t1 (List.mem_of_getElem? (i := 1) rfl) rfl
theorem wd_X1_15 : Cond.methodLink RX1 3 objectInit ∈ x_T := x_t1 (List.mem_of_getElem? (i := 102) rfl) rfl
theorem wd_X1_16 : Cond.code yX1_init cX1_init 2 none ∈ x_T := x_t1 (List.mem_of_getElem? (i := 101) rfl) rfl
theorem wd_X1_17 : Cond.code yX1_clear cX1_clear 2 none ∈ x_T := x_t2 (List.mem_of_getElem? (i := 9) rfl) rfl
theorem wd_X1_18 : Cond.code yX1_strike cX1_strike 3 none ∈ x_T := x_t2 (List.mem_of_getElem? (i := 42) rfl) rfl
theorem wd_X1_19 : Cond.code yX1_because cX1_because 4 none ∈ x_T := x_t2 (List.mem_of_getElem? (i := 51) rfl) rfl
theorem wd_X1_20 : Cond.code yX1_goer cX1_goer 6 (some .int) ∈ x_T := x_t2 (List.mem_of_getElem? (i := 232) rfl) rfl
theorem wd_X1_21 : Cond.code yX1_nthBit cX1_nthBit 4 (some .int) ∈ x_T := x_t2 (List.mem_of_getElem? (i := 235) rfl) rfl
theorem wd_X3_0 : Cond.fieldLink RX3 9 (TX3 0).1 (TX3 0).2.1 (TX3 0).2.2.1 ∈ x_T := x_t1 (List.mem_of_getElem? (i := 202) rfl) rfl
theorem wd_X3_1 : Cond.fieldLink RX3 15 (TX3 1).1 (TX3 1).2.1 (TX3 1).2.2.1 ∈ x_T := x_t1 (List.mem_of_getElem? (i := 203) rfl) rfl
theorem wd_X3_2 : Cond.fieldLink RX3 18 (TX3 2).1 (TX3 2).2.1 (TX3 2).2.2.1 ∈ x_T := x_t1 (List.mem_of_getElem? (i := 204) rfl) rfl
theorem wd_X3_3 : Cond.fieldLink RX3 21 (TX3 3).1 (TX3 3).2.1 (TX3 3).2.2.1 ∈ x_T := x_t1 (List.mem_of_getElem? (i := 205) rfl) rfl
theorem wd_X3_4 : Cond.fieldLink RX3 24 (TX3 4).1 (TX3 4).2.1 (TX3 4).2.2.1 ∈ x_T := x_t1 (List.mem_of_getElem? (i := 206) rfl) rfl
theorem wd_X3_5 : Cond.fieldLink RX3 28 (TX3 5).1 (TX3 5).2.1 (TX3 5).2.2.1 ∈ x_T := x_t1 (List.mem_of_getElem? (i := 207) rfl) rfl
theorem wd_X3_6 : Cond.fieldLink RX3 37 (TX2 4).1 (TX2 4).2.1 (TX2 4).2.2.1 ∈ x_T := x_t1 (List.mem_of_getElem? (i := 71) rfl) rfl
theorem wd_X3_7 : Cond.methodLink RX3 31 yX2_giveBack ∈ x_T := x_t3 (List.mem_of_getElem? (i := 41) rfl) rfl
theorem wd_X3_8 : Cond.instanceMethod yX2_giveBack ∈ x_T := x_t3 (List.mem_of_getElem? (i := 42) rfl) rfl
theorem wd_X3_9 : Cond.selects RX2 yX2_giveBack yX2_giveBack ∈ x_T := x_t3 (List.mem_of_getElem? (i := 43) rfl) rfl
theorem wd_X3_10 : Cond.initialized RX2 ∈ x_T := x_t1 (List.mem_of_getElem? (i := 3) rfl) rfl
theorem wd_X3_11 : Cond.methodLink RX3 3 objectInit ∈ x_T := x_t1 (List.mem_of_getElem? (i := 201) rfl) rfl
theorem wd_X3_12 : Cond.code yX3_init cX3_init 2 none ∈ x_T := x_t1 (List.mem_of_getElem? (i := 200) rfl) rfl
theorem wd_X3_13 : Cond.code yX3_mostSteps cX3_mostSteps 1 (some .int) ∈ x_T := x_t3 (List.mem_of_getElem? (i := 28) rfl) rfl
theorem wd_X3_14 : Cond.code yX3_clear cX3_clear 1 none ∈ x_T := x_t4 (List.mem_of_getElem? (i := 10) rfl) rfl
theorem wd_X3_15 : Cond.code yX3_note cX3_note 3 none ∈ x_T := x_t3 (List.mem_of_getElem? (i := 16) rfl) rfl
theorem wd_X3_16 : Cond.code yX3_close cX3_close 3 none ∈ x_T := x_t3 (List.mem_of_getElem? (i := 20) rfl) rfl
theorem wd_X3_17 : Cond.code yX3_takeBack cX3_takeBack 3 (some .int) ∈ x_T := x_t3 (List.mem_of_getElem? (i := 40) rfl) rfl
theorem wd_X6_0 : Cond.fieldLink RX6 7 (TX6 0).1 (TX6 0).2.1 (TX6 0).2.2.1 ∈ x_T := x_t1 (List.mem_of_getElem? (i := 146) rfl) rfl
theorem wd_X6_1 : Cond.fieldLink RX6 13 (TX6 1).1 (TX6 1).2.1 (TX6 1).2.2.1 ∈ x_T := x_t1 (List.mem_of_getElem? (i := 147) rfl) rfl
theorem wd_X6_2 : Cond.fieldLink RX6 17 (TX6 2).1 (TX6 2).2.1 (TX6 2).2.2.1 ∈ x_T := x_t1 (List.mem_of_getElem? (i := 148) rfl) rfl
theorem wd_X6_3 : Cond.fieldLink RX6 20 (TX6 3).1 (TX6 3).2.1 (TX6 3).2.2.1 ∈ x_T := x_t1 (List.mem_of_getElem? (i := 149) rfl) rfl
theorem wd_X6_4 : Cond.methodLink RX6 23 yX6_gather ∈ x_T := x_t1 (List.mem_of_getElem? (i := 142) rfl) rfl
theorem wd_X6_5 : Cond.instanceMethod yX6_gather ∈ x_T := x_t1 (List.mem_of_getElem? (i := 144) rfl) rfl
theorem wd_X6_6 : Cond.selects RX6 yX6_gather yX6_gather ∈ x_T := x_t0 (List.mem_of_getElem? (i := 4) rfl) rfl
theorem wd_X6_7 : Cond.initialized RX6 ∈ x_T := x_t1 (List.mem_of_getElem? (i := 5) rfl) rfl
theorem wd_X6_8 : Cond.methodLink RX6 1 objectInit ∈ x_T := x_t1 (List.mem_of_getElem? (i := 141) rfl) rfl
theorem wd_X6_9 : Cond.code yX6_init cX6_init 3 none ∈ x_T := x_t1 (List.mem_of_getElem? (i := 140) rfl) rfl
theorem wd_X6_10 : Cond.code yX6_gather cX6_gather 5 none ∈ x_T := x_t1 (List.mem_of_getElem? (i := 145) rfl) rfl
theorem wd_X6_11 : Cond.code yX6_start cX6_start 2 (some .int) ∈ x_T := x_t2 (List.mem_of_getElem? (i := 112) rfl) rfl
theorem wd_X6_12 : Cond.code yX6_end cX6_end 2 (some .int) ∈ x_T := x_t2 (List.mem_of_getElem? (i := 116) rfl) rfl
theorem wd_X6_13 : Cond.code yX6_get cX6_get 2 (some .int) ∈ x_T := x_t2 (List.mem_of_getElem? (i := 120) rfl) rfl
theorem wd_X0_0 : Cond.fieldLink RX0 11 (TX0 0).1 (TX0 0).2.1 (TX0 0).2.2.1 ∈ x_T := x_t1 (List.mem_of_getElem? (i := 165) rfl) rfl
theorem wd_X0_1 : Cond.fieldLink RX0 15 (TX0 1).1 (TX0 1).2.1 (TX0 1).2.2.1 ∈ x_T := x_t1 (List.mem_of_getElem? (i := 166) rfl) rfl
theorem wd_X0_2 : Cond.fieldLink RX0 18 (TX2 0).1 (TX2 0).2.1 (TX2 0).2.2.1 ∈ x_T := x_t1 (List.mem_of_getElem? (i := 60) rfl) rfl
theorem wd_X0_3 : Cond.fieldLink RX0 24 (TX2 3).1 (TX2 3).2.1 (TX2 3).2.2.1 ∈ x_T := x_t1 (List.mem_of_getElem? (i := 67) rfl) rfl
theorem wd_X0_4 : Cond.fieldLink RX0 31 (TX0 2).1 (TX0 2).2.1 (TX0 2).2.2.1 ∈ x_T := x_t1 (List.mem_of_getElem? (i := 167) rfl) rfl
theorem wd_X0_5 : Cond.fieldLink RX0 80 (TX1 5).1 (TX1 5).2.1 (TX1 5).2.2.1 ∈ x_T := x_t1 (List.mem_of_getElem? (i := 117) rfl) rfl
theorem wd_X0_6 : Cond.methodLink RX0 27 yX0_join ∈ x_T := x_t2 (List.mem_of_getElem? (i := 161) rfl) rfl
theorem wd_X0_7 : Cond.instanceMethod yX0_join ∈ x_T := x_t2 (List.mem_of_getElem? (i := 163) rfl) rfl
theorem wd_X0_8 : Cond.selects RX0 yX0_join yX0_join ∈ x_T := x_t0 (List.mem_of_getElem? (i := 25) rfl) rfl
theorem wd_X0_9 : Cond.initialized RX0 ∈ x_T := x_t1 (List.mem_of_getElem? (i := 6) rfl) rfl
theorem wd_X0_10 : Cond.methodLink RX0 34 yX0_takes ∈ x_T := x_t2 (List.mem_of_getElem? (i := 178) rfl) rfl
theorem wd_X0_11 : Cond.instanceMethod yX0_takes ∈ x_T := x_t2 (List.mem_of_getElem? (i := 180) rfl) rfl
theorem wd_X0_12 : Cond.selects RX0 yX0_takes yX0_takes ∈ x_T := x_t0 (List.mem_of_getElem? (i := 28) rfl) rfl
theorem wd_X0_13 : Cond.methodLink RX0 38 yX0_leaveBehind ∈ x_T := x_t2 (List.mem_of_getElem? (i := 197) rfl) rfl
theorem wd_X0_14 : Cond.instanceMethod yX0_leaveBehind ∈ x_T := x_t2 (List.mem_of_getElem? (i := 199) rfl) rfl
theorem wd_X0_15 : Cond.selects RX0 yX0_leaveBehind yX0_leaveBehind ∈ x_T := x_t0 (List.mem_of_getElem? (i := 32) rfl) rfl
theorem wd_X0_16 : Cond.methodLink RX0 41 yX0_colour ∈ x_T := x_t2 (List.mem_of_getElem? (i := 165) rfl) rfl
theorem wd_X0_17 : Cond.instanceMethod yX0_colour ∈ x_T := x_t2 (List.mem_of_getElem? (i := 167) rfl) rfl
theorem wd_X0_18 : Cond.selects RX0 yX0_colour yX0_colour ∈ x_T := x_t0 (List.mem_of_getElem? (i := 26) rfl) rfl
theorem wd_X0_19 : Cond.methodLink RX0 45 yX0_linkedCell ∈ x_T := x_t2 (List.mem_of_getElem? (i := 169) rfl) rfl
theorem wd_X0_20 : Cond.instanceMethod yX0_linkedCell ∈ x_T := x_t2 (List.mem_of_getElem? (i := 171) rfl) rfl
theorem wd_X0_21 : Cond.selects RX0 yX0_linkedCell yX0_linkedCell ∈ x_T := x_t0 (List.mem_of_getElem? (i := 27) rfl) rfl
theorem wd_X0_22 : Cond.methodLink RX0 49 yX2_house ∈ x_T := x_t2 (List.mem_of_getElem? (i := 173) rfl) rfl
theorem wd_X0_23 : Cond.instanceMethod yX2_house ∈ x_T := x_t2 (List.mem_of_getElem? (i := 85) rfl) rfl
theorem wd_X0_24 : Cond.selects RX2 yX2_house yX2_house ∈ x_T := x_t2 (List.mem_of_getElem? (i := 86) rfl) rfl
theorem wd_X0_25 : Cond.initialized RX2 ∈ x_T := x_t1 (List.mem_of_getElem? (i := 3) rfl) rfl
theorem wd_X0_26 : Cond.methodLink RX0 53 yX2_places ∈ x_T := x_t2 (List.mem_of_getElem? (i := 174) rfl) rfl
theorem wd_X0_27 : Cond.instanceMethod yX2_places ∈ x_T := x_t2 (List.mem_of_getElem? (i := 57) rfl) rfl
theorem wd_X0_28 : Cond.selects RX2 yX2_places yX2_places ∈ x_T := x_t2 (List.mem_of_getElem? (i := 58) rfl) rfl
theorem wd_X0_29 : Cond.methodLink RX0 65 yX2_cell ∈ x_T := x_t2 (List.mem_of_getElem? (i := 177) rfl) rfl
theorem wd_X0_30 : Cond.instanceMethod yX2_cell ∈ x_T := x_t2 (List.mem_of_getElem? (i := 65) rfl) rfl
theorem wd_X0_31 : Cond.selects RX2 yX2_cell yX2_cell ∈ x_T := x_t2 (List.mem_of_getElem? (i := 66) rfl) rfl
theorem wd_X0_32 : Cond.methodLink RX0 68 yX0_clash ∈ x_T := x_t2 (List.mem_of_getElem? (i := 182) rfl) rfl
theorem wd_X0_33 : Cond.instanceMethod yX0_clash ∈ x_T := x_t2 (List.mem_of_getElem? (i := 184) rfl) rfl
theorem wd_X0_34 : Cond.selects RX0 yX0_clash yX0_clash ∈ x_T := x_t0 (List.mem_of_getElem? (i := 29) rfl) rfl
theorem wd_X0_35 : Cond.methodLink RX0 72 yX0_strikeColour ∈ x_T := x_t2 (List.mem_of_getElem? (i := 187) rfl) rfl
theorem wd_X0_36 : Cond.instanceMethod yX0_strikeColour ∈ x_T := x_t2 (List.mem_of_getElem? (i := 189) rfl) rfl
theorem wd_X0_37 : Cond.selects RX0 yX0_strikeColour yX0_strikeColour ∈ x_T := x_t0 (List.mem_of_getElem? (i := 30) rfl) rfl
theorem wd_X0_38 : Cond.methodLink RX0 76 yX0_strikeOthers ∈ x_T := x_t2 (List.mem_of_getElem? (i := 192) rfl) rfl
theorem wd_X0_39 : Cond.instanceMethod yX0_strikeOthers ∈ x_T := x_t2 (List.mem_of_getElem? (i := 194) rfl) rfl
theorem wd_X0_40 : Cond.selects RX0 yX0_strikeOthers yX0_strikeOthers ∈ x_T := x_t0 (List.mem_of_getElem? (i := 31) rfl) rfl
theorem wd_X0_41 : Cond.methodLink RX0 85 yX1_because ∈ x_T := x_t2 (List.mem_of_getElem? (i := 196) rfl) rfl
theorem wd_X0_42 : Cond.instanceMethod yX1_because ∈ x_T := x_t2 (List.mem_of_getElem? (i := 49) rfl) rfl
theorem wd_X0_43 : Cond.selects RX1 yX1_because yX1_because ∈ x_T := x_t2 (List.mem_of_getElem? (i := 50) rfl) rfl
theorem wd_X0_44 : Cond.initialized RX1 ∈ x_T := x_t1 (List.mem_of_getElem? (i := 4) rfl) rfl
theorem wd_X0_45 : Cond.methodLink RX0 89 yX2_see ∈ x_T := x_t2 (List.mem_of_getElem? (i := 186) rfl) rfl
theorem wd_X0_46 : Cond.instanceMethod yX2_see ∈ x_T := x_t2 (List.mem_of_getElem? (i := 45) rfl) rfl
theorem wd_X0_47 : Cond.selects RX2 yX2_see yX2_see ∈ x_T := x_t2 (List.mem_of_getElem? (i := 46) rfl) rfl
theorem wd_X0_48 : Cond.methodLink RX0 93 yX1_strike ∈ x_T := x_t2 (List.mem_of_getElem? (i := 191) rfl) rfl
theorem wd_X0_49 : Cond.instanceMethod yX1_strike ∈ x_T := x_t2 (List.mem_of_getElem? (i := 40) rfl) rfl
theorem wd_X0_50 : Cond.selects RX1 yX1_strike yX1_strike ∈ x_T := x_t2 (List.mem_of_getElem? (i := 41) rfl) rfl
theorem wd_X0_51 : Cond.methodLink RX0 56 yJ6_bitCount_0f7a4 ∈ x_T := x_t2 (List.mem_of_getElem? (i := 175) rfl) rfl
theorem wd_X0_52 : Cond.static yJ6_bitCount_0f7a4 ∈ x_T := x_t2 (List.mem_of_getElem? (i := 27) rfl) rfl
theorem wd_X0_53 : Cond.initialized RJ6 ∈ x_T := x_t1 (List.mem_of_getElem? (i := 15) rfl) rfl
theorem wd_X0_54 : Cond.static yX7_leastBit ∈ x_T := x_t2 (List.mem_of_getElem? (i := 33) rfl) rfl
theorem wd_X0_55 : Cond.initialized RX7 ∈ x_T := x_t1 (List.mem_of_getElem? (i := 1) rfl) rfl
theorem wd_X0_56 : Cond.methodLink RX0 5 objectInit ∈ x_T := x_t1 (List.mem_of_getElem? (i := 164) rfl) rfl
theorem wd_X0_57 : Cond.code yX0_init cX0_init 2 none ∈ x_T := x_t1 (List.mem_of_getElem? (i := 163) rfl) rfl
theorem wd_X0_58 : Cond.code yX0_look cX0_look 5 (some .boolean) ∈ x_T := x_t2 (List.mem_of_getElem? (i := 160) rfl) rfl
theorem wd_X0_59 : Cond.code yX0_join cX0_join 9 none ∈ x_T := x_t2 (List.mem_of_getElem? (i := 164) rfl) rfl
theorem wd_X0_60 : Cond.code yX0_colour cX0_colour 3 none ∈ x_T := x_t2 (List.mem_of_getElem? (i := 168) rfl) rfl
theorem wd_X0_61 : Cond.code yX0_linkedCell cX0_linkedCell 8 (some .int) ∈ x_T := x_t2 (List.mem_of_getElem? (i := 172) rfl) rfl
theorem wd_X0_62 : Cond.code yX0_takes cX0_takes 5 (some .boolean) ∈ x_T := x_t2 (List.mem_of_getElem? (i := 181) rfl) rfl
theorem wd_X0_63 : Cond.code yX0_clash cX0_clash 6 (some .boolean) ∈ x_T := x_t2 (List.mem_of_getElem? (i := 185) rfl) rfl
theorem wd_X0_64 : Cond.code yX0_strikeColour cX0_strikeColour 5 none ∈ x_T := x_t2 (List.mem_of_getElem? (i := 190) rfl) rfl
theorem wd_X0_65 : Cond.code yX0_strikeOthers cX0_strikeOthers 8 none ∈ x_T := x_t2 (List.mem_of_getElem? (i := 195) rfl) rfl
theorem wd_X0_66 : Cond.code yX0_leaveBehind cX0_leaveBehind 2 none ∈ x_T := x_t2 (List.mem_of_getElem? (i := 200) rfl) rfl
theorem wd_X5_0 : Cond.fieldLink RX5 14 (TX5 0).1 (TX5 0).2.1 (TX5 0).2.2.1 ∈ x_T := x_t1 (List.mem_of_getElem? (i := 175) rfl) rfl
theorem wd_X5_1 : Cond.fieldLink RX5 20 (TX2 0).1 (TX2 0).2.1 (TX2 0).2.2.1 ∈ x_T := x_t1 (List.mem_of_getElem? (i := 57) rfl) rfl
theorem wd_X5_2 : Cond.fieldLink RX5 24 (TX5 2).1 (TX5 2).2.1 (TX5 2).2.2.1 ∈ x_T := x_t1 (List.mem_of_getElem? (i := 179) rfl) rfl
theorem wd_X5_3 : Cond.fieldLink RX5 27 (TX2 1).1 (TX2 1).2.1 (TX2 1).2.2.1 ∈ x_T := x_t1 (List.mem_of_getElem? (i := 61) rfl) rfl
theorem wd_X5_4 : Cond.fieldLink RX5 31 (TX5 1).1 (TX5 1).2.1 (TX5 1).2.2.1 ∈ x_T := x_t1 (List.mem_of_getElem? (i := 178) rfl) rfl
theorem wd_X5_5 : Cond.fieldLink RX5 38 (TX5 3).1 (TX5 3).2.1 (TX5 3).2.2.1 ∈ x_T := x_t1 (List.mem_of_getElem? (i := 180) rfl) rfl
theorem wd_X5_6 : Cond.fieldLink RX5 45 (TX5 4).1 (TX5 4).2.1 (TX5 4).2.2.1 ∈ x_T := x_t1 (List.mem_of_getElem? (i := 181) rfl) rfl
theorem wd_X5_7 : Cond.fieldLink RX5 49 (TX5 5).1 (TX5 5).2.1 (TX5 5).2.2.1 ∈ x_T := x_t1 (List.mem_of_getElem? (i := 182) rfl) rfl
theorem wd_X5_8 : Cond.fieldLink RX5 87 (TX1 3).1 (TX1 3).2.1 (TX1 3).2.2.1 ∈ x_T := x_t1 (List.mem_of_getElem? (i := 110) rfl) rfl
theorem wd_X5_9 : Cond.fieldLink RX5 90 (TX1 4).1 (TX1 4).2.1 (TX1 4).2.2.1 ∈ x_T := x_t1 (List.mem_of_getElem? (i := 113) rfl) rfl
theorem wd_X5_10 : Cond.fieldLink RX5 93 (TX2 3).1 (TX2 3).2.1 (TX2 3).2.2.1 ∈ x_T := x_t1 (List.mem_of_getElem? (i := 68) rfl) rfl
theorem wd_X5_11 : Cond.fieldLink RX5 106 (TX1 5).1 (TX1 5).2.1 (TX1 5).2.2.1 ∈ x_T := x_t1 (List.mem_of_getElem? (i := 116) rfl) rfl
theorem wd_X5_12 : Cond.fieldLink RX5 153 (TX2 2).1 (TX2 2).2.1 (TX2 2).2.2.1 ∈ x_T := x_t1 (List.mem_of_getElem? (i := 65) rfl) rfl
theorem wd_X5_13 : Cond.methodLink RX5 53 yX5_last ∈ x_T := x_t2 (List.mem_of_getElem? (i := 18) rfl) rfl
theorem wd_X5_14 : Cond.instanceMethod yX5_last ∈ x_T := x_t2 (List.mem_of_getElem? (i := 20) rfl) rfl
theorem wd_X5_15 : Cond.selects RX5 yX5_last yX5_last ∈ x_T := x_t0 (List.mem_of_getElem? (i := 5) rfl) rfl
theorem wd_X5_16 : Cond.initialized RX5 ∈ x_T := x_t1 (List.mem_of_getElem? (i := 2) rfl) rfl
theorem wd_X5_17 : Cond.methodLink RX5 57 yX5_onlyPlace ∈ x_T := x_t2 (List.mem_of_getElem? (i := 52) rfl) rfl
theorem wd_X5_18 : Cond.instanceMethod yX5_onlyPlace ∈ x_T := x_t2 (List.mem_of_getElem? (i := 54) rfl) rfl
theorem wd_X5_19 : Cond.selects RX5 yX5_onlyPlace yX5_onlyPlace ∈ x_T := x_t0 (List.mem_of_getElem? (i := 6) rfl) rfl
theorem wd_X5_20 : Cond.methodLink RX5 61 yX5_pointing ∈ x_T := x_t2 (List.mem_of_getElem? (i := 72) rfl) rfl
theorem wd_X5_21 : Cond.instanceMethod yX5_pointing ∈ x_T := x_t2 (List.mem_of_getElem? (i := 74) rfl) rfl
theorem wd_X5_22 : Cond.selects RX5 yX5_pointing yX5_pointing ∈ x_T := x_t0 (List.mem_of_getElem? (i := 9) rfl) rfl
theorem wd_X5_23 : Cond.methodLink RX5 64 yX5_claiming ∈ x_T := x_t2 (List.mem_of_getElem? (i := 97) rfl) rfl
theorem wd_X5_24 : Cond.instanceMethod yX5_claiming ∈ x_T := x_t2 (List.mem_of_getElem? (i := 99) rfl) rfl
theorem wd_X5_25 : Cond.selects RX5 yX5_claiming yX5_claiming ∈ x_T := x_t0 (List.mem_of_getElem? (i := 13) rfl) rfl
theorem wd_X5_26 : Cond.methodLink RX5 67 yX5_nakedSet ∈ x_T := x_t2 (List.mem_of_getElem? (i := 101) rfl) rfl
theorem wd_X5_27 : Cond.instanceMethod yX5_nakedSet ∈ x_T := x_t2 (List.mem_of_getElem? (i := 103) rfl) rfl
theorem wd_X5_28 : Cond.selects RX5 yX5_nakedSet yX5_nakedSet ∈ x_T := x_t0 (List.mem_of_getElem? (i := 14) rfl) rfl
theorem wd_X5_29 : Cond.methodLink RX5 70 yX5_hiddenSet ∈ x_T := x_t2 (List.mem_of_getElem? (i := 133) rfl) rfl
theorem wd_X5_30 : Cond.instanceMethod yX5_hiddenSet ∈ x_T := x_t2 (List.mem_of_getElem? (i := 135) rfl) rfl
theorem wd_X5_31 : Cond.selects RX5 yX5_hiddenSet yX5_hiddenSet ∈ x_T := x_t0 (List.mem_of_getElem? (i := 19) rfl) rfl
theorem wd_X5_32 : Cond.methodLink RX5 73 yX5_crossing ∈ x_T := x_t2 (List.mem_of_getElem? (i := 137) rfl) rfl
theorem wd_X5_33 : Cond.instanceMethod yX5_crossing ∈ x_T := x_t2 (List.mem_of_getElem? (i := 139) rfl) rfl
theorem wd_X5_34 : Cond.selects RX5 yX5_crossing yX5_crossing ∈ x_T := x_t0 (List.mem_of_getElem? (i := 20) rfl) rfl
theorem wd_X5_35 : Cond.methodLink RX5 77 yX5_wing ∈ x_T := x_t2 (List.mem_of_getElem? (i := 145) rfl) rfl
theorem wd_X5_36 : Cond.instanceMethod yX5_wing ∈ x_T := x_t2 (List.mem_of_getElem? (i := 147) rfl) rfl
theorem wd_X5_37 : Cond.selects RX5 yX5_wing yX5_wing ∈ x_T := x_t0 (List.mem_of_getElem? (i := 22) rfl) rfl
theorem wd_X5_38 : Cond.methodLink RX5 80 yX0_look ∈ x_T := x_t2 (List.mem_of_getElem? (i := 157) rfl) rfl
theorem wd_X5_39 : Cond.instanceMethod yX0_look ∈ x_T := x_t2 (List.mem_of_getElem? (i := 158) rfl) rfl
theorem wd_X5_40 : Cond.selects RX0 yX0_look yX0_look ∈ x_T := x_t2 (List.mem_of_getElem? (i := 159) rfl) rfl
theorem wd_X5_41 : Cond.initialized RX0 ∈ x_T := x_t1 (List.mem_of_getElem? (i := 6) rfl) rfl
theorem wd_X5_42 : Cond.methodLink RX5 84 yX5_onlyOneAnswer ∈ x_T := x_t2 (List.mem_of_getElem? (i := 201) rfl) rfl
theorem wd_X5_43 : Cond.instanceMethod yX5_onlyOneAnswer ∈ x_T := x_t2 (List.mem_of_getElem? (i := 203) rfl) rfl
theorem wd_X5_44 : Cond.selects RX5 yX5_onlyOneAnswer yX5_onlyOneAnswer ∈ x_T := x_t0 (List.mem_of_getElem? (i := 33) rfl) rfl
theorem wd_X5_45 : Cond.methodLink RX5 96 yX1_strike ∈ x_T := x_t2 (List.mem_of_getElem? (i := 39) rfl) rfl
theorem wd_X5_46 : Cond.instanceMethod yX1_strike ∈ x_T := x_t2 (List.mem_of_getElem? (i := 40) rfl) rfl
theorem wd_X5_47 : Cond.selects RX1 yX1_strike yX1_strike ∈ x_T := x_t2 (List.mem_of_getElem? (i := 41) rfl) rfl
theorem wd_X5_48 : Cond.initialized RX1 ∈ x_T := x_t1 (List.mem_of_getElem? (i := 4) rfl) rfl
theorem wd_X5_49 : Cond.methodLink RX5 100 yX2_see ∈ x_T := x_t2 (List.mem_of_getElem? (i := 44) rfl) rfl
theorem wd_X5_50 : Cond.instanceMethod yX2_see ∈ x_T := x_t2 (List.mem_of_getElem? (i := 45) rfl) rfl
theorem wd_X5_51 : Cond.selects RX2 yX2_see yX2_see ∈ x_T := x_t2 (List.mem_of_getElem? (i := 46) rfl) rfl
theorem wd_X5_52 : Cond.initialized RX2 ∈ x_T := x_t1 (List.mem_of_getElem? (i := 3) rfl) rfl
theorem wd_X5_53 : Cond.methodLink RX5 103 yX2_cell ∈ x_T := x_t2 (List.mem_of_getElem? (i := 64) rfl) rfl
theorem wd_X5_54 : Cond.instanceMethod yX2_cell ∈ x_T := x_t2 (List.mem_of_getElem? (i := 65) rfl) rfl
theorem wd_X5_55 : Cond.selects RX2 yX2_cell yX2_cell ∈ x_T := x_t2 (List.mem_of_getElem? (i := 66) rfl) rfl
theorem wd_X5_56 : Cond.methodLink RX5 109 yX1_because ∈ x_T := x_t2 (List.mem_of_getElem? (i := 48) rfl) rfl
theorem wd_X5_57 : Cond.instanceMethod yX1_because ∈ x_T := x_t2 (List.mem_of_getElem? (i := 49) rfl) rfl
theorem wd_X5_58 : Cond.selects RX1 yX1_because yX1_because ∈ x_T := x_t2 (List.mem_of_getElem? (i := 50) rfl) rfl
theorem wd_X5_59 : Cond.methodLink RX5 112 yX2_isOpen ∈ x_T := x_t2 (List.mem_of_getElem? (i := 22) rfl) rfl
theorem wd_X5_60 : Cond.instanceMethod yX2_isOpen ∈ x_T := x_t2 (List.mem_of_getElem? (i := 23) rfl) rfl
theorem wd_X5_61 : Cond.selects RX2 yX2_isOpen yX2_isOpen ∈ x_T := x_t2 (List.mem_of_getElem? (i := 24) rfl) rfl
theorem wd_X5_62 : Cond.methodLink RX5 124 yX5_settle ∈ x_T := x_t2 (List.mem_of_getElem? (i := 35) rfl) rfl
theorem wd_X5_63 : Cond.instanceMethod yX5_settle ∈ x_T := x_t2 (List.mem_of_getElem? (i := 36) rfl) rfl
theorem wd_X5_64 : Cond.selects RX5 yX5_settle yX5_settle ∈ x_T := x_t2 (List.mem_of_getElem? (i := 37) rfl) rfl
theorem wd_X5_65 : Cond.methodLink RX5 127 yX2_places ∈ x_T := x_t2 (List.mem_of_getElem? (i := 56) rfl) rfl
theorem wd_X5_66 : Cond.instanceMethod yX2_places ∈ x_T := x_t2 (List.mem_of_getElem? (i := 57) rfl) rfl
theorem wd_X5_67 : Cond.selects RX2 yX2_places yX2_places ∈ x_T := x_t2 (List.mem_of_getElem? (i := 58) rfl) rfl
theorem wd_X5_68 : Cond.methodLink RX5 130 yX5_isOpenIn ∈ x_T := x_t2 (List.mem_of_getElem? (i := 60) rfl) rfl
theorem wd_X5_69 : Cond.instanceMethod yX5_isOpenIn ∈ x_T := x_t2 (List.mem_of_getElem? (i := 62) rfl) rfl
theorem wd_X5_70 : Cond.selects RX5 yX5_isOpenIn yX5_isOpenIn ∈ x_T := x_t0 (List.mem_of_getElem? (i := 7) rfl) rfl
theorem wd_X5_71 : Cond.methodLink RX5 133 yX5_becauseOf ∈ x_T := x_t2 (List.mem_of_getElem? (i := 68) rfl) rfl
theorem wd_X5_72 : Cond.instanceMethod yX5_becauseOf ∈ x_T := x_t2 (List.mem_of_getElem? (i := 70) rfl) rfl
theorem wd_X5_73 : Cond.selects RX5 yX5_becauseOf yX5_becauseOf ∈ x_T := x_t0 (List.mem_of_getElem? (i := 8) rfl) rfl
theorem wd_X5_74 : Cond.methodLink RX5 136 yX5_confined ∈ x_T := x_t2 (List.mem_of_getElem? (i := 76) rfl) rfl
theorem wd_X5_75 : Cond.instanceMethod yX5_confined ∈ x_T := x_t2 (List.mem_of_getElem? (i := 78) rfl) rfl
theorem wd_X5_76 : Cond.selects RX5 yX5_confined yX5_confined ∈ x_T := x_t0 (List.mem_of_getElem? (i := 10) rfl) rfl
theorem wd_X5_77 : Cond.methodLink RX5 140 yX5_sharedHouse ∈ x_T := x_t2 (List.mem_of_getElem? (i := 80) rfl) rfl
theorem wd_X5_78 : Cond.instanceMethod yX5_sharedHouse ∈ x_T := x_t2 (List.mem_of_getElem? (i := 82) rfl) rfl
theorem wd_X5_79 : Cond.selects RX5 yX5_sharedHouse yX5_sharedHouse ∈ x_T := x_t0 (List.mem_of_getElem? (i := 11) rfl) rfl
theorem wd_X5_80 : Cond.methodLink RX5 144 yX2_isIn ∈ x_T := x_t2 (List.mem_of_getElem? (i := 88) rfl) rfl
theorem wd_X5_81 : Cond.instanceMethod yX2_isIn ∈ x_T := x_t2 (List.mem_of_getElem? (i := 89) rfl) rfl
theorem wd_X5_82 : Cond.selects RX2 yX2_isIn yX2_isIn ∈ x_T := x_t2 (List.mem_of_getElem? (i := 90) rfl) rfl
theorem wd_X5_83 : Cond.methodLink RX5 147 yX5_takesSome ∈ x_T := x_t2 (List.mem_of_getElem? (i := 93) rfl) rfl
theorem wd_X5_84 : Cond.instanceMethod yX5_takesSome ∈ x_T := x_t2 (List.mem_of_getElem? (i := 95) rfl) rfl
theorem wd_X5_85 : Cond.selects RX5 yX5_takesSome yX5_takesSome ∈ x_T := x_t0 (List.mem_of_getElem? (i := 12) rfl) rfl
theorem wd_X5_86 : Cond.methodLink RX5 150 yX2_house ∈ x_T := x_t2 (List.mem_of_getElem? (i := 84) rfl) rfl
theorem wd_X5_87 : Cond.instanceMethod yX2_house ∈ x_T := x_t2 (List.mem_of_getElem? (i := 85) rfl) rfl
theorem wd_X5_88 : Cond.selects RX2 yX2_house yX2_house ∈ x_T := x_t2 (List.mem_of_getElem? (i := 86) rfl) rfl
theorem wd_X5_89 : Cond.methodLink RX5 156 yX5_fitItems ∈ x_T := x_t2 (List.mem_of_getElem? (i := 105) rfl) rfl
theorem wd_X5_90 : Cond.instanceMethod yX5_fitItems ∈ x_T := x_t2 (List.mem_of_getElem? (i := 107) rfl) rfl
theorem wd_X5_91 : Cond.selects RX5 yX5_fitItems yX5_fitItems ∈ x_T := x_t0 (List.mem_of_getElem? (i := 15) rfl) rfl
theorem wd_X5_92 : Cond.methodLink RX5 159 yX6_start ∈ x_T := x_t2 (List.mem_of_getElem? (i := 109) rfl) rfl
theorem wd_X5_93 : Cond.instanceMethod yX6_start ∈ x_T := x_t2 (List.mem_of_getElem? (i := 110) rfl) rfl
theorem wd_X5_94 : Cond.selects RX6 yX6_start yX6_start ∈ x_T := x_t2 (List.mem_of_getElem? (i := 111) rfl) rfl
theorem wd_X5_95 : Cond.initialized RX6 ∈ x_T := x_t1 (List.mem_of_getElem? (i := 5) rfl) rfl
theorem wd_X5_96 : Cond.methodLink RX5 162 yX6_end ∈ x_T := x_t2 (List.mem_of_getElem? (i := 113) rfl) rfl
theorem wd_X5_97 : Cond.instanceMethod yX6_end ∈ x_T := x_t2 (List.mem_of_getElem? (i := 114) rfl) rfl
theorem wd_X5_98 : Cond.selects RX6 yX6_end yX6_end ∈ x_T := x_t2 (List.mem_of_getElem? (i := 115) rfl) rfl
theorem wd_X5_99 : Cond.methodLink RX5 165 yX6_get ∈ x_T := x_t2 (List.mem_of_getElem? (i := 117) rfl) rfl
theorem wd_X5_100 : Cond.instanceMethod yX6_get ∈ x_T := x_t2 (List.mem_of_getElem? (i := 118) rfl) rfl
theorem wd_X5_101 : Cond.selects RX6 yX6_get yX6_get ∈ x_T := x_t2 (List.mem_of_getElem? (i := 119) rfl) rfl
theorem wd_X5_102 : Cond.methodLink RX5 168 yX5_isCovered ∈ x_T := x_t2 (List.mem_of_getElem? (i := 121) rfl) rfl
theorem wd_X5_103 : Cond.instanceMethod yX5_isCovered ∈ x_T := x_t2 (List.mem_of_getElem? (i := 123) rfl) rfl
theorem wd_X5_104 : Cond.selects RX5 yX5_isCovered yX5_isCovered ∈ x_T := x_t0 (List.mem_of_getElem? (i := 16) rfl) rfl
theorem wd_X5_105 : Cond.methodLink RX5 171 yX5_unionOf ∈ x_T := x_t2 (List.mem_of_getElem? (i := 125) rfl) rfl
theorem wd_X5_106 : Cond.instanceMethod yX5_unionOf ∈ x_T := x_t2 (List.mem_of_getElem? (i := 127) rfl) rfl
theorem wd_X5_107 : Cond.selects RX5 yX5_unionOf yX5_unionOf ∈ x_T := x_t0 (List.mem_of_getElem? (i := 17) rfl) rfl
theorem wd_X5_108 : Cond.methodLink RX5 174 yX5_strikePlaces ∈ x_T := x_t2 (List.mem_of_getElem? (i := 129) rfl) rfl
theorem wd_X5_109 : Cond.instanceMethod yX5_strikePlaces ∈ x_T := x_t2 (List.mem_of_getElem? (i := 131) rfl) rfl
theorem wd_X5_110 : Cond.selects RX5 yX5_strikePlaces yX5_strikePlaces ∈ x_T := x_t0 (List.mem_of_getElem? (i := 18) rfl) rfl
theorem wd_X5_111 : Cond.methodLink RX5 178 yX5_crossingAt ∈ x_T := x_t2 (List.mem_of_getElem? (i := 141) rfl) rfl
theorem wd_X5_112 : Cond.instanceMethod yX5_crossingAt ∈ x_T := x_t2 (List.mem_of_getElem? (i := 143) rfl) rfl
theorem wd_X5_113 : Cond.selects RX5 yX5_crossingAt yX5_crossingAt ∈ x_T := x_t0 (List.mem_of_getElem? (i := 21) rfl) rfl
theorem wd_X5_114 : Cond.methodLink RX5 181 yX5_isWingtip ∈ x_T := x_t2 (List.mem_of_getElem? (i := 149) rfl) rfl
theorem wd_X5_115 : Cond.instanceMethod yX5_isWingtip ∈ x_T := x_t2 (List.mem_of_getElem? (i := 151) rfl) rfl
theorem wd_X5_116 : Cond.selects RX5 yX5_isWingtip yX5_isWingtip ∈ x_T := x_t0 (List.mem_of_getElem? (i := 23) rfl) rfl
theorem wd_X5_117 : Cond.methodLink RX5 184 yX5_wingAt ∈ x_T := x_t2 (List.mem_of_getElem? (i := 153) rfl) rfl
theorem wd_X5_118 : Cond.instanceMethod yX5_wingAt ∈ x_T := x_t2 (List.mem_of_getElem? (i := 155) rfl) rfl
theorem wd_X5_119 : Cond.selects RX5 yX5_wingAt yX5_wingAt ∈ x_T := x_t0 (List.mem_of_getElem? (i := 24) rfl) rfl
theorem wd_X5_120 : Cond.methodLink RX5 188 yX5_rectangleAt ∈ x_T := x_t2 (List.mem_of_getElem? (i := 205) rfl) rfl
theorem wd_X5_121 : Cond.instanceMethod yX5_rectangleAt ∈ x_T := x_t2 (List.mem_of_getElem? (i := 207) rfl) rfl
theorem wd_X5_122 : Cond.selects RX5 yX5_rectangleAt yX5_rectangleAt ∈ x_T := x_t0 (List.mem_of_getElem? (i := 34) rfl) rfl
theorem wd_X5_123 : Cond.methodLink RX5 191 yX5_isInTwoBoxes ∈ x_T := x_t2 (List.mem_of_getElem? (i := 209) rfl) rfl
theorem wd_X5_124 : Cond.instanceMethod yX5_isInTwoBoxes ∈ x_T := x_t2 (List.mem_of_getElem? (i := 211) rfl) rfl
theorem wd_X5_125 : Cond.selects RX5 yX5_isInTwoBoxes yX5_isInTwoBoxes ∈ x_T := x_t0 (List.mem_of_getElem? (i := 35) rfl) rfl
theorem wd_X5_126 : Cond.methodLink RX5 194 yX5_fourth ∈ x_T := x_t2 (List.mem_of_getElem? (i := 213) rfl) rfl
theorem wd_X5_127 : Cond.instanceMethod yX5_fourth ∈ x_T := x_t2 (List.mem_of_getElem? (i := 215) rfl) rfl
theorem wd_X5_128 : Cond.selects RX5 yX5_fourth yX5_fourth ∈ x_T := x_t0 (List.mem_of_getElem? (i := 36) rfl) rfl
theorem wd_X5_129 : Cond.methodLink RX5 115 yJ6_bitCount_0f7a4 ∈ x_T := x_t2 (List.mem_of_getElem? (i := 26) rfl) rfl
theorem wd_X5_130 : Cond.static yJ6_bitCount_0f7a4 ∈ x_T := x_t2 (List.mem_of_getElem? (i := 27) rfl) rfl
theorem wd_X5_131 : Cond.initialized RJ6 ∈ x_T := x_t1 (List.mem_of_getElem? (i := 15) rfl) rfl
theorem wd_X5_132 : Cond.static yX7_leastBit ∈ x_T := x_t2 (List.mem_of_getElem? (i := 33) rfl) rfl
theorem wd_X5_133 : Cond.initialized RX7 ∈ x_T := x_t1 (List.mem_of_getElem? (i := 1) rfl) rfl
theorem wd_X5_134 : Cond.methodLink RX5 3 objectInit ∈ x_T := x_t1 (List.mem_of_getElem? (i := 34) rfl) rfl
theorem wd_X5_135 : Cond.methodLink RX5 11 yX2_init ∈ x_T := x_t1 (List.mem_of_getElem? (i := 37) rfl) rfl
theorem wd_X5_136 : Cond.instanceMethod yX2_init ∈ x_T := x_t1 (List.mem_of_getElem? (i := 38) rfl) rfl
theorem wd_X5_137 : Cond.methodLink RX5 30 yX1_init ∈ x_T := x_t1 (List.mem_of_getElem? (i := 99) rfl) rfl
theorem wd_X5_138 : Cond.instanceMethod yX1_init ∈ x_T := x_t1 (List.mem_of_getElem? (i := 100) rfl) rfl
theorem wd_X5_139 : Cond.methodLink RX5 37 yX6_init ∈ x_T := x_t1 (List.mem_of_getElem? (i := 138) rfl) rfl
theorem wd_X5_140 : Cond.instanceMethod yX6_init ∈ x_T := x_t1 (List.mem_of_getElem? (i := 139) rfl) rfl
theorem wd_X5_141 : Cond.methodLink RX5 44 yX0_init ∈ x_T := x_t1 (List.mem_of_getElem? (i := 161) rfl) rfl
theorem wd_X5_142 : Cond.instanceMethod yX0_init ∈ x_T := x_t1 (List.mem_of_getElem? (i := 162) rfl) rfl
theorem wd_X5_143 : Cond.classLink RX5 9 RX2 ∈ x_T := x_t1 (List.mem_of_getElem? (i := 35) rfl) rfl
theorem wd_X5_144 : Cond.instantiable RX2 9 ∈ x_T := x_t1 (List.mem_of_getElem? (i := 36) rfl) rfl
theorem wd_X5_145 : Cond.classLink RX5 25 RX1 ∈ x_T := x_t1 (List.mem_of_getElem? (i := 97) rfl) rfl
theorem wd_X5_146 : Cond.instantiable RX1 7 ∈ x_T := x_t1 (List.mem_of_getElem? (i := 98) rfl) rfl
theorem wd_X5_147 : Cond.classLink RX5 35 RX6 ∈ x_T := x_t1 (List.mem_of_getElem? (i := 136) rfl) rfl
theorem wd_X5_148 : Cond.instantiable RX6 4 ∈ x_T := x_t1 (List.mem_of_getElem? (i := 137) rfl) rfl
theorem wd_X5_149 : Cond.classLink RX5 42 RX0 ∈ x_T := x_t1 (List.mem_of_getElem? (i := 159) rfl) rfl
theorem wd_X5_150 : Cond.instantiable RX0 3 ∈ x_T := x_t1 (List.mem_of_getElem? (i := 160) rfl) rfl
theorem wd_X5_151 : Cond.code yX5_init cX5_init 2 none ∈ x_T := x_t1 (List.mem_of_getElem? (i := 33) rfl) rfl
theorem wd_X5_152 : Cond.code yX5_seek cX5_seek 2 (some .boolean) ∈ x_T := x_t2 (List.mem_of_getElem? (i := 17) rfl) rfl
theorem wd_X5_153 : Cond.code yX5_settle cX5_settle 4 none ∈ x_T := x_t2 (List.mem_of_getElem? (i := 38) rfl) rfl
theorem wd_X5_154 : Cond.code yX5_strikePlaces cX5_strikePlaces 6 none ∈ x_T := x_t2 (List.mem_of_getElem? (i := 132) rfl) rfl
theorem wd_X5_155 : Cond.code yX5_takesSome cX5_takesSome 1 (some .boolean) ∈ x_T := x_t2 (List.mem_of_getElem? (i := 96) rfl) rfl
theorem wd_X5_156 : Cond.code yX5_becauseOf cX5_becauseOf 4 none ∈ x_T := x_t2 (List.mem_of_getElem? (i := 71) rfl) rfl
theorem wd_X5_157 : Cond.code yX5_last cX5_last 2 (some .boolean) ∈ x_T := x_t2 (List.mem_of_getElem? (i := 21) rfl) rfl
theorem wd_X5_158 : Cond.code yX5_onlyPlace cX5_onlyPlace 5 (some .boolean) ∈ x_T := x_t2 (List.mem_of_getElem? (i := 55) rfl) rfl
theorem wd_X5_159 : Cond.code yX5_isOpenIn cX5_isOpenIn 4 (some .boolean) ∈ x_T := x_t2 (List.mem_of_getElem? (i := 63) rfl) rfl
theorem wd_X5_160 : Cond.code yX5_pointing cX5_pointing 3 (some .boolean) ∈ x_T := x_t2 (List.mem_of_getElem? (i := 75) rfl) rfl
theorem wd_X5_161 : Cond.code yX5_claiming cX5_claiming 3 (some .boolean) ∈ x_T := x_t2 (List.mem_of_getElem? (i := 100) rfl) rfl
theorem wd_X5_162 : Cond.code yX5_confined cX5_confined 8 (some .boolean) ∈ x_T := x_t2 (List.mem_of_getElem? (i := 79) rfl) rfl
theorem wd_X5_163 : Cond.code yX5_sharedHouse cX5_sharedHouse 6 (some .int) ∈ x_T := x_t2 (List.mem_of_getElem? (i := 83) rfl) rfl
theorem wd_X5_164 : Cond.code yX5_nakedSet cX5_nakedSet 6 (some .boolean) ∈ x_T := x_t2 (List.mem_of_getElem? (i := 104) rfl) rfl
theorem wd_X5_165 : Cond.code yX5_hiddenSet cX5_hiddenSet 6 (some .boolean) ∈ x_T := x_t2 (List.mem_of_getElem? (i := 136) rfl) rfl
theorem wd_X5_166 : Cond.code yX5_crossing cX5_crossing 7 (some .boolean) ∈ x_T := x_t2 (List.mem_of_getElem? (i := 140) rfl) rfl
theorem wd_X5_167 : Cond.code yX5_crossingAt cX5_crossingAt 6 (some .boolean) ∈ x_T := x_t2 (List.mem_of_getElem? (i := 144) rfl) rfl
theorem wd_X5_168 : Cond.code yX5_fitItems cX5_fitItems 4 (some .int) ∈ x_T := x_t2 (List.mem_of_getElem? (i := 108) rfl) rfl
theorem wd_X5_169 : Cond.code yX5_isCovered cX5_isCovered 4 (some .boolean) ∈ x_T := x_t2 (List.mem_of_getElem? (i := 124) rfl) rfl
theorem wd_X5_170 : Cond.code yX5_unionOf cX5_unionOf 4 (some .int) ∈ x_T := x_t2 (List.mem_of_getElem? (i := 128) rfl) rfl
theorem wd_X5_171 : Cond.code yX5_wing cX5_wing 5 (some .boolean) ∈ x_T := x_t2 (List.mem_of_getElem? (i := 148) rfl) rfl
theorem wd_X5_172 : Cond.code yX5_isWingtip cX5_isWingtip 4 (some .boolean) ∈ x_T := x_t2 (List.mem_of_getElem? (i := 152) rfl) rfl
theorem wd_X5_173 : Cond.code yX5_wingAt cX5_wingAt 8 (some .boolean) ∈ x_T := x_t2 (List.mem_of_getElem? (i := 156) rfl) rfl
theorem wd_X5_174 : Cond.code yX5_onlyOneAnswer cX5_onlyOneAnswer 5 (some .boolean) ∈ x_T := x_t2 (List.mem_of_getElem? (i := 204) rfl) rfl
theorem wd_X5_175 : Cond.code yX5_rectangleAt cX5_rectangleAt 9 (some .boolean) ∈ x_T := x_t2 (List.mem_of_getElem? (i := 208) rfl) rfl
theorem wd_X5_176 : Cond.code yX5_isInTwoBoxes cX5_isInTwoBoxes 5 (some .boolean) ∈ x_T := x_t2 (List.mem_of_getElem? (i := 212) rfl) rfl
theorem wd_X5_177 : Cond.code yX5_fourth cX5_fourth 7 (some .boolean) ∈ x_T := x_t2 (List.mem_of_getElem? (i := 216) rfl) rfl
theorem wd_X7_0 : Cond.fieldLink RX7 12 (TX7 0).1 (TX7 0).2.1 (TX7 0).2.2.1 ∈ x_T := x_t1 (List.mem_of_getElem? (i := 222) rfl) rfl
theorem wd_X7_1 : Cond.fieldLink RX7 18 (TX5 0).1 (TX5 0).2.1 (TX5 0).2.2.1 ∈ x_T := x_t1 (List.mem_of_getElem? (i := 176) rfl) rfl
theorem wd_X7_2 : Cond.fieldLink RX7 22 (TX7 1).1 (TX7 1).2.1 (TX7 1).2.2.1 ∈ x_T := x_t1 (List.mem_of_getElem? (i := 223) rfl) rfl
theorem wd_X7_3 : Cond.fieldLink RX7 23 (TX5 1).1 (TX5 1).2.1 (TX5 1).2.2.1 ∈ x_T := x_t1 (List.mem_of_getElem? (i := 177) rfl) rfl
theorem wd_X7_4 : Cond.fieldLink RX7 27 (TX7 2).1 (TX7 2).2.1 (TX7 2).2.2.1 ∈ x_T := x_t1 (List.mem_of_getElem? (i := 224) rfl) rfl
theorem wd_X7_5 : Cond.fieldLink RX7 30 (TX2 0).1 (TX2 0).2.1 (TX2 0).2.2.1 ∈ x_T := x_t1 (List.mem_of_getElem? (i := 59) rfl) rfl
theorem wd_X7_6 : Cond.fieldLink RX7 37 (TX7 3).1 (TX7 3).2.1 (TX7 3).2.2.1 ∈ x_T := x_t1 (List.mem_of_getElem? (i := 225) rfl) rfl
theorem wd_X7_7 : Cond.fieldLink RX7 41 (TX7 4).1 (TX7 4).2.1 (TX7 4).2.2.1 ∈ x_T := x_t1 (List.mem_of_getElem? (i := 226) rfl) rfl
theorem wd_X7_8 : Cond.fieldLink RX7 45 (TX7 5).1 (TX7 5).2.1 (TX7 5).2.2.1 ∈ x_T := x_t1 (List.mem_of_getElem? (i := 227) rfl) rfl
theorem wd_X7_9 : Cond.fieldLink RX7 88 (TX1 2).1 (TX1 2).2.1 (TX1 2).2.2.1 ∈ x_T := x_t1 (List.mem_of_getElem? (i := 108) rfl) rfl
theorem wd_X7_10 : Cond.fieldLink RX7 91 (TX1 6).1 (TX1 6).2.1 (TX1 6).2.2.1 ∈ x_T := x_t1 (List.mem_of_getElem? (i := 120) rfl) rfl
theorem wd_X7_11 : Cond.fieldLink RX7 94 (TX1 5).1 (TX1 5).2.1 (TX1 5).2.2.1 ∈ x_T := x_t1 (List.mem_of_getElem? (i := 118) rfl) rfl
theorem wd_X7_12 : Cond.fieldLink RX7 97 (TX1 3).1 (TX1 3).2.1 (TX1 3).2.2.1 ∈ x_T := x_t1 (List.mem_of_getElem? (i := 111) rfl) rfl
theorem wd_X7_13 : Cond.fieldLink RX7 100 (TX1 4).1 (TX1 4).2.1 (TX1 4).2.2.1 ∈ x_T := x_t1 (List.mem_of_getElem? (i := 114) rfl) rfl
theorem wd_X7_14 : Cond.fieldLink RX7 103 (TX1 1).1 (TX1 1).2.1 (TX1 1).2.2.1 ∈ x_T := x_t1 (List.mem_of_getElem? (i := 106) rfl) rfl
theorem wd_X7_15 : Cond.fieldLink RX7 125 (TX3 5).1 (TX3 5).2.1 (TX3 5).2.2.1 ∈ x_T := x_t1 (List.mem_of_getElem? (i := 208) rfl) rfl
theorem wd_X7_16 : Cond.fieldLink RX7 132 (TX2 3).1 (TX2 3).2.1 (TX2 3).2.2.1 ∈ x_T := x_t1 (List.mem_of_getElem? (i := 69) rfl) rfl
theorem wd_X7_17 : Cond.fieldLink RX7 135 (TX2 4).1 (TX2 4).2.1 (TX2 4).2.2.1 ∈ x_T := x_t1 (List.mem_of_getElem? (i := 72) rfl) rfl
theorem wd_X7_18 : Cond.fieldLink RX7 182 (TX2 1).1 (TX2 1).2.1 (TX2 1).2.2.1 ∈ x_T := x_t1 (List.mem_of_getElem? (i := 63) rfl) rfl
theorem wd_X7_19 : Cond.fieldLink RX7 185 (TX1 0).1 (TX1 0).2.1 (TX1 0).2.2.1 ∈ x_T := x_t1 (List.mem_of_getElem? (i := 104) rfl) rfl
theorem wd_X7_20 : Cond.methodLink RX7 49 yX7_checkCell ∈ x_T := x_t3 (List.mem_of_getElem? (i := 141) rfl) rfl
theorem wd_X7_21 : Cond.instanceMethod yX7_checkCell ∈ x_T := x_t3 (List.mem_of_getElem? (i := 143) rfl) rfl
theorem wd_X7_22 : Cond.selects RX7 yX7_checkCell yX7_checkCell ∈ x_T := x_t0 (List.mem_of_getElem? (i := 41) rfl) rfl
theorem wd_X7_23 : Cond.initialized RX7 ∈ x_T := x_t1 (List.mem_of_getElem? (i := 1) rfl) rfl
theorem wd_X7_24 : Cond.methodLink RX7 52 yX7_checkSymbol ∈ x_T := x_t3 (List.mem_of_getElem? (i := 217) rfl) rfl
theorem wd_X7_25 : Cond.instanceMethod yX7_checkSymbol ∈ x_T := x_t3 (List.mem_of_getElem? (i := 219) rfl) rfl
theorem wd_X7_26 : Cond.selects RX7 yX7_checkSymbol yX7_checkSymbol ∈ x_T := x_t0 (List.mem_of_getElem? (i := 43) rfl) rfl
theorem wd_X7_27 : Cond.methodLink RX7 55 yX7_isOpenCandidate ∈ x_T := x_t3 (List.mem_of_getElem? (i := 237) rfl) rfl
theorem wd_X7_28 : Cond.instanceMethod yX7_isOpenCandidate ∈ x_T := x_t3 (List.mem_of_getElem? (i := 239) rfl) rfl
theorem wd_X7_29 : Cond.selects RX7 yX7_isOpenCandidate yX7_isOpenCandidate ∈ x_T := x_t0 (List.mem_of_getElem? (i := 44) rfl) rfl
theorem wd_X7_30 : Cond.methodLink RX7 59 yX1_clear ∈ x_T := x_t2 (List.mem_of_getElem? (i := 6) rfl) rfl
theorem wd_X7_31 : Cond.instanceMethod yX1_clear ∈ x_T := x_t2 (List.mem_of_getElem? (i := 7) rfl) rfl
theorem wd_X7_32 : Cond.selects RX1 yX1_clear yX1_clear ∈ x_T := x_t2 (List.mem_of_getElem? (i := 8) rfl) rfl
theorem wd_X7_33 : Cond.initialized RX1 ∈ x_T := x_t1 (List.mem_of_getElem? (i := 4) rfl) rfl
theorem wd_X7_34 : Cond.methodLink RX7 64 yX5_settle ∈ x_T := x_t4 (List.mem_of_getElem? (i := 2) rfl) rfl
theorem wd_X7_35 : Cond.instanceMethod yX5_settle ∈ x_T := x_t2 (List.mem_of_getElem? (i := 36) rfl) rfl
theorem wd_X7_36 : Cond.selects RX5 yX5_settle yX5_settle ∈ x_T := x_t2 (List.mem_of_getElem? (i := 37) rfl) rfl
theorem wd_X7_37 : Cond.initialized RX5 ∈ x_T := x_t1 (List.mem_of_getElem? (i := 2) rfl) rfl
theorem wd_X7_38 : Cond.methodLink RX7 68 yX7_carryOut ∈ x_T := x_t3 (List.mem_of_getElem? (i := 5) rfl) rfl
theorem wd_X7_39 : Cond.instanceMethod yX7_carryOut ∈ x_T := x_t3 (List.mem_of_getElem? (i := 7) rfl) rfl
theorem wd_X7_40 : Cond.selects RX7 yX7_carryOut yX7_carryOut ∈ x_T := x_t0 (List.mem_of_getElem? (i := 38) rfl) rfl
theorem wd_X7_41 : Cond.methodLink RX7 71 yX7_forgetSteps ∈ x_T := x_t4 (List.mem_of_getElem? (i := 3) rfl) rfl
theorem wd_X7_42 : Cond.instanceMethod yX7_forgetSteps ∈ x_T := x_t4 (List.mem_of_getElem? (i := 5) rfl) rfl
theorem wd_X7_43 : Cond.selects RX7 yX7_forgetSteps yX7_forgetSteps ∈ x_T := x_t0 (List.mem_of_getElem? (i := 45) rfl) rfl
theorem wd_X7_44 : Cond.methodLink RX7 74 yX2_drop ∈ x_T := x_t3 (List.mem_of_getElem? (i := 9) rfl) rfl
theorem wd_X7_45 : Cond.instanceMethod yX2_drop ∈ x_T := x_t3 (List.mem_of_getElem? (i := 10) rfl) rfl
theorem wd_X7_46 : Cond.selects RX2 yX2_drop yX2_drop ∈ x_T := x_t3 (List.mem_of_getElem? (i := 11) rfl) rfl
theorem wd_X7_47 : Cond.initialized RX2 ∈ x_T := x_t1 (List.mem_of_getElem? (i := 3) rfl) rfl
theorem wd_X7_48 : Cond.methodLink RX7 77 yX7_checkStep ∈ x_T := x_t4 (List.mem_of_getElem? (i := 25) rfl) rfl
theorem wd_X7_49 : Cond.instanceMethod yX7_checkStep ∈ x_T := x_t4 (List.mem_of_getElem? (i := 27) rfl) rfl
theorem wd_X7_50 : Cond.selects RX7 yX7_checkStep yX7_checkStep ∈ x_T := x_t0 (List.mem_of_getElem? (i := 46) rfl) rfl
theorem wd_X7_51 : Cond.methodLink RX7 80 yX2_isBroken ∈ x_T := x_t2 (List.mem_of_getElem? (i := 10) rfl) rfl
theorem wd_X7_52 : Cond.instanceMethod yX2_isBroken ∈ x_T := x_t2 (List.mem_of_getElem? (i := 11) rfl) rfl
theorem wd_X7_53 : Cond.selects RX2 yX2_isBroken yX2_isBroken ∈ x_T := x_t2 (List.mem_of_getElem? (i := 12) rfl) rfl
theorem wd_X7_54 : Cond.methodLink RX7 84 yX5_seek ∈ x_T := x_t2 (List.mem_of_getElem? (i := 14) rfl) rfl
theorem wd_X7_55 : Cond.instanceMethod yX5_seek ∈ x_T := x_t2 (List.mem_of_getElem? (i := 15) rfl) rfl
theorem wd_X7_56 : Cond.selects RX5 yX5_seek yX5_seek ∈ x_T := x_t2 (List.mem_of_getElem? (i := 16) rfl) rfl
theorem wd_X7_57 : Cond.methodLink RX7 106 yX1_goer ∈ x_T := x_t2 (List.mem_of_getElem? (i := 229) rfl) rfl
theorem wd_X7_58 : Cond.instanceMethod yX1_goer ∈ x_T := x_t2 (List.mem_of_getElem? (i := 230) rfl) rfl
theorem wd_X7_59 : Cond.selects RX1 yX1_goer yX1_goer ∈ x_T := x_t2 (List.mem_of_getElem? (i := 231) rfl) rfl
theorem wd_X7_60 : Cond.methodLink RX7 110 yX7_performFound ∈ x_T := x_t3 (List.mem_of_getElem? (i := 1) rfl) rfl
theorem wd_X7_61 : Cond.instanceMethod yX7_performFound ∈ x_T := x_t3 (List.mem_of_getElem? (i := 3) rfl) rfl
theorem wd_X7_62 : Cond.selects RX7 yX7_performFound yX7_performFound ∈ x_T := x_t0 (List.mem_of_getElem? (i := 37) rfl) rfl
theorem wd_X7_63 : Cond.methodLink RX7 113 yX3_mostSteps ∈ x_T := x_t3 (List.mem_of_getElem? (i := 25) rfl) rfl
theorem wd_X7_64 : Cond.instanceMethod yX3_mostSteps ∈ x_T := x_t3 (List.mem_of_getElem? (i := 26) rfl) rfl
theorem wd_X7_65 : Cond.selects RX3 yX3_mostSteps yX3_mostSteps ∈ x_T := x_t3 (List.mem_of_getElem? (i := 27) rfl) rfl
theorem wd_X7_66 : Cond.initialized RX3 ∈ x_T := x_t1 (List.mem_of_getElem? (i := 7) rfl) rfl
theorem wd_X7_67 : Cond.methodLink RX7 122 yX7_find ∈ x_T := x_t3 (List.mem_of_getElem? (i := 32) rfl) rfl
theorem wd_X7_68 : Cond.instanceMethod yX7_find ∈ x_T := x_t2 (List.mem_of_getElem? (i := 3) rfl) rfl
theorem wd_X7_69 : Cond.selects RX7 yX7_find yX7_find ∈ x_T := x_t2 (List.mem_of_getElem? (i := 4) rfl) rfl
theorem wd_X7_70 : Cond.methodLink RX7 128 yX3_takeBack ∈ x_T := x_t3 (List.mem_of_getElem? (i := 37) rfl) rfl
theorem wd_X7_71 : Cond.instanceMethod yX3_takeBack ∈ x_T := x_t3 (List.mem_of_getElem? (i := 38) rfl) rfl
theorem wd_X7_72 : Cond.selects RX3 yX3_takeBack yX3_takeBack ∈ x_T := x_t3 (List.mem_of_getElem? (i := 39) rfl) rfl
theorem wd_X7_73 : Cond.methodLink RX7 138 yX2_openCells ∈ x_T := x_t3 (List.mem_of_getElem? (i := 49) rfl) rfl
theorem wd_X7_74 : Cond.instanceMethod yX2_openCells ∈ x_T := x_t3 (List.mem_of_getElem? (i := 50) rfl) rfl
theorem wd_X7_75 : Cond.selects RX2 yX2_openCells yX2_openCells ∈ x_T := x_t3 (List.mem_of_getElem? (i := 51) rfl) rfl
theorem wd_X7_76 : Cond.methodLink RX7 141 yX2_openCandidates ∈ x_T := x_t3 (List.mem_of_getElem? (i := 54) rfl) rfl
theorem wd_X7_77 : Cond.instanceMethod yX2_openCandidates ∈ x_T := x_t3 (List.mem_of_getElem? (i := 55) rfl) rfl
theorem wd_X7_78 : Cond.selects RX2 yX2_openCandidates yX2_openCandidates ∈ x_T := x_t3 (List.mem_of_getElem? (i := 56) rfl) rfl
theorem wd_X7_79 : Cond.methodLink RX7 144 yX7_allTimes ∈ x_T := x_t3 (List.mem_of_getElem? (i := 59) rfl) rfl
theorem wd_X7_80 : Cond.instanceMethod yX7_allTimes ∈ x_T := x_t3 (List.mem_of_getElem? (i := 61) rfl) rfl
theorem wd_X7_81 : Cond.selects RX7 yX7_allTimes yX7_allTimes ∈ x_T := x_t0 (List.mem_of_getElem? (i := 39) rfl) rfl
theorem wd_X7_82 : Cond.methodLink RX7 172 yX2_rowOf ∈ x_T := x_t3 (List.mem_of_getElem? (i := 121) rfl) rfl
theorem wd_X7_83 : Cond.instanceMethod yX2_rowOf ∈ x_T := x_t3 (List.mem_of_getElem? (i := 122) rfl) rfl
theorem wd_X7_84 : Cond.selects RX2 yX2_rowOf yX2_rowOf ∈ x_T := x_t3 (List.mem_of_getElem? (i := 123) rfl) rfl
theorem wd_X7_85 : Cond.methodLink RX7 176 yX2_columnOf ∈ x_T := x_t3 (List.mem_of_getElem? (i := 125) rfl) rfl
theorem wd_X7_86 : Cond.instanceMethod yX2_columnOf ∈ x_T := x_t3 (List.mem_of_getElem? (i := 126) rfl) rfl
theorem wd_X7_87 : Cond.selects RX2 yX2_columnOf yX2_columnOf ∈ x_T := x_t3 (List.mem_of_getElem? (i := 127) rfl) rfl
theorem wd_X7_88 : Cond.methodLink RX7 179 yX3_close ∈ x_T := x_t3 (List.mem_of_getElem? (i := 17) rfl) rfl
theorem wd_X7_89 : Cond.instanceMethod yX3_close ∈ x_T := x_t3 (List.mem_of_getElem? (i := 18) rfl) rfl
theorem wd_X7_90 : Cond.selects RX3 yX3_close yX3_close ∈ x_T := x_t3 (List.mem_of_getElem? (i := 19) rfl) rfl
theorem wd_X7_91 : Cond.methodLink RX7 188 yX3_note ∈ x_T := x_t3 (List.mem_of_getElem? (i := 13) rfl) rfl
theorem wd_X7_92 : Cond.instanceMethod yX3_note ∈ x_T := x_t3 (List.mem_of_getElem? (i := 14) rfl) rfl
theorem wd_X7_93 : Cond.selects RX3 yX3_note yX3_note ∈ x_T := x_t3 (List.mem_of_getElem? (i := 15) rfl) rfl
theorem wd_X7_94 : Cond.methodLink RX7 191 yX3_clear ∈ x_T := x_t4 (List.mem_of_getElem? (i := 7) rfl) rfl
theorem wd_X7_95 : Cond.instanceMethod yX3_clear ∈ x_T := x_t4 (List.mem_of_getElem? (i := 8) rfl) rfl
theorem wd_X7_96 : Cond.selects RX3 yX3_clear yX3_clear ∈ x_T := x_t4 (List.mem_of_getElem? (i := 9) rfl) rfl
theorem wd_X7_97 : Cond.methodLink RX7 192 yX2_isOpen ∈ x_T := x_t4 (List.mem_of_getElem? (i := 1) rfl) rfl
theorem wd_X7_98 : Cond.instanceMethod yX2_isOpen ∈ x_T := x_t2 (List.mem_of_getElem? (i := 23) rfl) rfl
theorem wd_X7_99 : Cond.selects RX2 yX2_isOpen yX2_isOpen ∈ x_T := x_t2 (List.mem_of_getElem? (i := 24) rfl) rfl
theorem wd_X7_100 : Cond.methodLink RX7 117 yJ9_min_7cf53 ∈ x_T := x_t3 (List.mem_of_getElem? (i := 29) rfl) rfl
theorem wd_X7_101 : Cond.static yJ9_min_7cf53 ∈ x_T := x_t3 (List.mem_of_getElem? (i := 30) rfl) rfl
theorem wd_X7_102 : Cond.initialized RJ9 ∈ x_T := x_t1 (List.mem_of_getElem? (i := 16) rfl) rfl
theorem wd_X7_103 : Cond.code yJ9_min_7cf53 cJ9_min_7cf53 2 (some .int) ∈ x_T := x_t3 (List.mem_of_getElem? (i := 31) rfl) rfl
theorem wd_X7_104 : Cond.methodLink RX7 1 objectInit ∈ x_T := x_t1 (List.mem_of_getElem? (i := 26) rfl) rfl
theorem wd_X7_105 : Cond.methodLink RX7 9 yX5_init ∈ x_T := x_t1 (List.mem_of_getElem? (i := 31) rfl) rfl
theorem wd_X7_106 : Cond.instanceMethod yX5_init ∈ x_T := x_t1 (List.mem_of_getElem? (i := 32) rfl) rfl
theorem wd_X7_107 : Cond.methodLink RX7 36 yX3_init ∈ x_T := x_t1 (List.mem_of_getElem? (i := 198) rfl) rfl
theorem wd_X7_108 : Cond.instanceMethod yX3_init ∈ x_T := x_t1 (List.mem_of_getElem? (i := 199) rfl) rfl
theorem wd_X7_109 : Cond.classLink RX7 7 RX5 ∈ x_T := x_t1 (List.mem_of_getElem? (i := 29) rfl) rfl
theorem wd_X7_110 : Cond.instantiable RX5 6 ∈ x_T := x_t1 (List.mem_of_getElem? (i := 30) rfl) rfl
theorem wd_X7_111 : Cond.classLink RX7 28 RX3 ∈ x_T := x_t1 (List.mem_of_getElem? (i := 196) rfl) rfl
theorem wd_X7_112 : Cond.instantiable RX3 6 ∈ x_T := x_t1 (List.mem_of_getElem? (i := 197) rfl) rfl
theorem wd_X7_113 : Cond.code yX7_init cX7_init 3 none ∈ x_T := x_t1 (List.mem_of_getElem? (i := 25) rfl) rfl
theorem wd_X7_114 : Cond.code yX7_set cX7_set 3 (some .boolean) ∈ x_T := x_t3 (List.mem_of_getElem? (i := 140) rfl) rfl
theorem wd_X7_115 : Cond.code yX7_take cX7_take 3 (some .boolean) ∈ x_T := x_t4 (List.mem_of_getElem? (i := 17) rfl) rfl
theorem wd_X7_116 : Cond.code yX7_enable cX7_enable 3 (some .boolean) ∈ x_T := x_t4 (List.mem_of_getElem? (i := 24) rfl) rfl
theorem wd_X7_117 : Cond.code yX7_find cX7_find 2 (some .int) ∈ x_T := x_t2 (List.mem_of_getElem? (i := 5) rfl) rfl
theorem wd_X7_118 : Cond.code yX7_found cX7_found 2 (some .int) ∈ x_T := x_t2 (List.mem_of_getElem? (i := 220) rfl) rfl
theorem wd_X7_119 : Cond.code yX7_reason cX7_reason 2 (some .int) ∈ x_T := x_t2 (List.mem_of_getElem? (i := 224) rfl) rfl
theorem wd_X7_120 : Cond.code yX7_goes cX7_goes 2 (some .int) ∈ x_T := x_t2 (List.mem_of_getElem? (i := 228) rfl) rfl
theorem wd_X7_121 : Cond.code yX7_apply cX7_apply 1 (some .boolean) ∈ x_T := x_t3 (List.mem_of_getElem? (i := 0) rfl) rfl
theorem wd_X7_122 : Cond.code yX7_solve cX7_solve 4 (some .int) ∈ x_T := x_t3 (List.mem_of_getElem? (i := 24) rfl) rfl
theorem wd_X7_123 : Cond.code yX7_undo cX7_undo 2 (some .int) ∈ x_T := x_t3 (List.mem_of_getElem? (i := 36) rfl) rfl
theorem wd_X7_124 : Cond.code yX7_done cX7_done 2 (some .int) ∈ x_T := x_t4 (List.mem_of_getElem? (i := 36) rfl) rfl
theorem wd_X7_125 : Cond.code yX7_candidates cX7_candidates 2 (some .int) ∈ x_T := x_t4 (List.mem_of_getElem? (i := 43) rfl) rfl
theorem wd_X7_126 : Cond.code yX7_value cX7_value 2 (some .int) ∈ x_T := x_t4 (List.mem_of_getElem? (i := 50) rfl) rfl
theorem wd_X7_127 : Cond.code yX7_state cX7_state 2 (some .int) ∈ x_T := x_t3 (List.mem_of_getElem? (i := 48) rfl) rfl
theorem wd_X7_128 : Cond.code yX7_words cX7_words 7 (some .int) ∈ x_T := x_t3 (List.mem_of_getElem? (i := 66) rfl) rfl
theorem wd_X7_129 : Cond.code yX7_letterOfCell cX7_letterOfCell 3 (some .int) ∈ x_T := x_t3 (List.mem_of_getElem? (i := 120) rfl) rfl
theorem wd_X7_130 : Cond.code yX7_performFound cX7_performFound 2 none ∈ x_T := x_t3 (List.mem_of_getElem? (i := 4) rfl) rfl
theorem wd_X7_131 : Cond.code yX7_carryOut cX7_carryOut 4 none ∈ x_T := x_t3 (List.mem_of_getElem? (i := 8) rfl) rfl
theorem wd_X7_132 : Cond.code yX7_forgetSteps cX7_forgetSteps 1 none ∈ x_T := x_t4 (List.mem_of_getElem? (i := 6) rfl) rfl
theorem wd_X7_133 : Cond.code yX7_isOpenCandidate cX7_isOpenCandidate 3 (some .boolean) ∈ x_T := x_t4 (List.mem_of_getElem? (i := 0) rfl) rfl
theorem wd_X7_134 : Cond.code yX7_allTimes cX7_allTimes 3 (some .int) ∈ x_T := x_t3 (List.mem_of_getElem? (i := 62) rfl) rfl
theorem wd_X7_135 : Cond.code yX7_checkCell cX7_checkCell 2 none ∈ x_T := x_t3 (List.mem_of_getElem? (i := 144) rfl) rfl
theorem wd_X7_136 : Cond.code yX7_checkSymbol cX7_checkSymbol 2 none ∈ x_T := x_t3 (List.mem_of_getElem? (i := 220) rfl) rfl
theorem wd_X7_137 : Cond.code yX7_checkStep cX7_checkStep 2 none ∈ x_T := x_t4 (List.mem_of_getElem? (i := 28) rfl) rfl
theorem wd_X7_138 : Cond.code yX7_leastBit cX7_leastBit 2 (some .int) ∈ x_T := x_t2 (List.mem_of_getElem? (i := 34) rfl) rfl
theorem wd_L_0 : Cond.methodLink RL 7 yX7_set ∈ x_T := x_t3 (List.mem_of_getElem? (i := 137) rfl) rfl
theorem wd_L_1 : Cond.instanceMethod yX7_set ∈ x_T := x_t3 (List.mem_of_getElem? (i := 138) rfl) rfl
theorem wd_L_2 : Cond.selects RX7 yX7_set yX7_set ∈ x_T := x_t3 (List.mem_of_getElem? (i := 139) rfl) rfl
theorem wd_L_3 : Cond.initialized RX7 ∈ x_T := x_t1 (List.mem_of_getElem? (i := 1) rfl) rfl
theorem wd_L_4 : Cond.methodLink RL 17 yX7_take ∈ x_T := x_t4 (List.mem_of_getElem? (i := 14) rfl) rfl
theorem wd_L_5 : Cond.instanceMethod yX7_take ∈ x_T := x_t4 (List.mem_of_getElem? (i := 15) rfl) rfl
theorem wd_L_6 : Cond.selects RX7 yX7_take yX7_take ∈ x_T := x_t4 (List.mem_of_getElem? (i := 16) rfl) rfl
theorem wd_L_7 : Cond.methodLink RL 20 yX7_enable ∈ x_T := x_t4 (List.mem_of_getElem? (i := 21) rfl) rfl
theorem wd_L_8 : Cond.instanceMethod yX7_enable ∈ x_T := x_t4 (List.mem_of_getElem? (i := 22) rfl) rfl
theorem wd_L_9 : Cond.selects RX7 yX7_enable yX7_enable ∈ x_T := x_t4 (List.mem_of_getElem? (i := 23) rfl) rfl
theorem wd_L_10 : Cond.methodLink RL 24 yX7_done ∈ x_T := x_t4 (List.mem_of_getElem? (i := 33) rfl) rfl
theorem wd_L_11 : Cond.instanceMethod yX7_done ∈ x_T := x_t4 (List.mem_of_getElem? (i := 34) rfl) rfl
theorem wd_L_12 : Cond.selects RX7 yX7_done yX7_done ∈ x_T := x_t4 (List.mem_of_getElem? (i := 35) rfl) rfl
theorem wd_L_13 : Cond.methodLink RL 28 yX7_candidates ∈ x_T := x_t4 (List.mem_of_getElem? (i := 40) rfl) rfl
theorem wd_L_14 : Cond.instanceMethod yX7_candidates ∈ x_T := x_t4 (List.mem_of_getElem? (i := 41) rfl) rfl
theorem wd_L_15 : Cond.selects RX7 yX7_candidates yX7_candidates ∈ x_T := x_t4 (List.mem_of_getElem? (i := 42) rfl) rfl
theorem wd_L_16 : Cond.methodLink RL 31 yX7_value ∈ x_T := x_t4 (List.mem_of_getElem? (i := 47) rfl) rfl
theorem wd_L_17 : Cond.instanceMethod yX7_value ∈ x_T := x_t4 (List.mem_of_getElem? (i := 48) rfl) rfl
theorem wd_L_18 : Cond.selects RX7 yX7_value yX7_value ∈ x_T := x_t4 (List.mem_of_getElem? (i := 49) rfl) rfl
theorem wd_L_19 : Cond.methodLink RL 49 yX8_set ∈ x_T := x_t4 (List.mem_of_getElem? (i := 136) rfl) rfl
theorem wd_L_20 : Cond.instanceMethod yX8_set ∈ x_T := x_t4 (List.mem_of_getElem? (i := 137) rfl) rfl
theorem wd_L_21 : Cond.selects RX8 yX8_set yX8_set ∈ x_T := x_t4 (List.mem_of_getElem? (i := 138) rfl) rfl
theorem wd_L_22 : Cond.initialized RX8 ∈ x_T := x_t1 (List.mem_of_getElem? (i := 8) rfl) rfl
theorem wd_L_23 : Cond.methodLink RL 50 yX8_thrown ∈ x_T := x_t4 (List.mem_of_getElem? (i := 132) rfl) rfl
theorem wd_L_24 : Cond.instanceMethod yX8_thrown ∈ x_T := x_t4 (List.mem_of_getElem? (i := 133) rfl) rfl
theorem wd_L_25 : Cond.selects RX8 yX8_thrown yX8_thrown ∈ x_T := x_t4 (List.mem_of_getElem? (i := 134) rfl) rfl
theorem wd_L_26 : Cond.methodLink RL 56 yX8_take ∈ x_T := x_t4 (List.mem_of_getElem? (i := 172) rfl) rfl
theorem wd_L_27 : Cond.instanceMethod yX8_take ∈ x_T := x_t4 (List.mem_of_getElem? (i := 173) rfl) rfl
theorem wd_L_28 : Cond.selects RX8 yX8_take yX8_take ∈ x_T := x_t4 (List.mem_of_getElem? (i := 174) rfl) rfl
theorem wd_L_29 : Cond.methodLink RL 60 yX8_enable ∈ x_T := x_t4 (List.mem_of_getElem? (i := 176) rfl) rfl
theorem wd_L_30 : Cond.instanceMethod yX8_enable ∈ x_T := x_t4 (List.mem_of_getElem? (i := 177) rfl) rfl
theorem wd_L_31 : Cond.selects RX8 yX8_enable yX8_enable ∈ x_T := x_t4 (List.mem_of_getElem? (i := 178) rfl) rfl
theorem wd_L_32 : Cond.methodLink RL 61 yX7_find ∈ x_T := x_t2 (List.mem_of_getElem? (i := 2) rfl) rfl
theorem wd_L_33 : Cond.instanceMethod yX7_find ∈ x_T := x_t2 (List.mem_of_getElem? (i := 3) rfl) rfl
theorem wd_L_34 : Cond.selects RX7 yX7_find yX7_find ∈ x_T := x_t2 (List.mem_of_getElem? (i := 4) rfl) rfl
theorem wd_L_35 : Cond.methodLink RL 64 yX8_find ∈ x_T := x_t4 (List.mem_of_getElem? (i := 180) rfl) rfl
theorem wd_L_36 : Cond.instanceMethod yX8_find ∈ x_T := x_t4 (List.mem_of_getElem? (i := 181) rfl) rfl
theorem wd_L_37 : Cond.selects RX8 yX8_find yX8_find ∈ x_T := x_t4 (List.mem_of_getElem? (i := 182) rfl) rfl
theorem wd_L_38 : Cond.methodLink RL 65 yX7_found ∈ x_T := x_t2 (List.mem_of_getElem? (i := 217) rfl) rfl
theorem wd_L_39 : Cond.instanceMethod yX7_found ∈ x_T := x_t2 (List.mem_of_getElem? (i := 218) rfl) rfl
theorem wd_L_40 : Cond.selects RX7 yX7_found yX7_found ∈ x_T := x_t2 (List.mem_of_getElem? (i := 219) rfl) rfl
theorem wd_L_41 : Cond.methodLink RL 68 yX8_found ∈ x_T := x_t5 (List.mem_of_getElem? (i := 78) rfl) rfl
theorem wd_L_42 : Cond.instanceMethod yX8_found ∈ x_T := x_t5 (List.mem_of_getElem? (i := 79) rfl) rfl
theorem wd_L_43 : Cond.selects RX8 yX8_found yX8_found ∈ x_T := x_t5 (List.mem_of_getElem? (i := 80) rfl) rfl
theorem wd_L_44 : Cond.methodLink RL 69 yX7_reason ∈ x_T := x_t2 (List.mem_of_getElem? (i := 221) rfl) rfl
theorem wd_L_45 : Cond.instanceMethod yX7_reason ∈ x_T := x_t2 (List.mem_of_getElem? (i := 222) rfl) rfl
theorem wd_L_46 : Cond.selects RX7 yX7_reason yX7_reason ∈ x_T := x_t2 (List.mem_of_getElem? (i := 223) rfl) rfl
theorem wd_L_47 : Cond.methodLink RL 72 yX8_reason ∈ x_T := x_t5 (List.mem_of_getElem? (i := 90) rfl) rfl
theorem wd_L_48 : Cond.instanceMethod yX8_reason ∈ x_T := x_t5 (List.mem_of_getElem? (i := 91) rfl) rfl
theorem wd_L_49 : Cond.selects RX8 yX8_reason yX8_reason ∈ x_T := x_t5 (List.mem_of_getElem? (i := 92) rfl) rfl
theorem wd_L_50 : Cond.methodLink RL 73 yX7_goes ∈ x_T := x_t2 (List.mem_of_getElem? (i := 225) rfl) rfl
theorem wd_L_51 : Cond.instanceMethod yX7_goes ∈ x_T := x_t2 (List.mem_of_getElem? (i := 226) rfl) rfl
theorem wd_L_52 : Cond.selects RX7 yX7_goes yX7_goes ∈ x_T := x_t2 (List.mem_of_getElem? (i := 227) rfl) rfl
theorem wd_L_53 : Cond.methodLink RL 76 yX8_goes ∈ x_T := x_t5 (List.mem_of_getElem? (i := 98) rfl) rfl
theorem wd_L_54 : Cond.instanceMethod yX8_goes ∈ x_T := x_t5 (List.mem_of_getElem? (i := 99) rfl) rfl
theorem wd_L_55 : Cond.selects RX8 yX8_goes yX8_goes ∈ x_T := x_t5 (List.mem_of_getElem? (i := 100) rfl) rfl
theorem wd_L_56 : Cond.methodLink RL 77 yX7_apply ∈ x_T := x_t2 (List.mem_of_getElem? (i := 237) rfl) rfl
theorem wd_L_57 : Cond.instanceMethod yX7_apply ∈ x_T := x_t2 (List.mem_of_getElem? (i := 238) rfl) rfl
theorem wd_L_58 : Cond.selects RX7 yX7_apply yX7_apply ∈ x_T := x_t2 (List.mem_of_getElem? (i := 239) rfl) rfl
theorem wd_L_59 : Cond.methodLink RL 81 yX8_apply ∈ x_T := x_t5 (List.mem_of_getElem? (i := 102) rfl) rfl
theorem wd_L_60 : Cond.instanceMethod yX8_apply ∈ x_T := x_t5 (List.mem_of_getElem? (i := 103) rfl) rfl
theorem wd_L_61 : Cond.selects RX8 yX8_apply yX8_apply ∈ x_T := x_t5 (List.mem_of_getElem? (i := 104) rfl) rfl
theorem wd_L_62 : Cond.methodLink RL 82 yX7_solve ∈ x_T := x_t3 (List.mem_of_getElem? (i := 21) rfl) rfl
theorem wd_L_63 : Cond.instanceMethod yX7_solve ∈ x_T := x_t3 (List.mem_of_getElem? (i := 22) rfl) rfl
theorem wd_L_64 : Cond.selects RX7 yX7_solve yX7_solve ∈ x_T := x_t3 (List.mem_of_getElem? (i := 23) rfl) rfl
theorem wd_L_65 : Cond.methodLink RL 85 yX8_solve ∈ x_T := x_t5 (List.mem_of_getElem? (i := 110) rfl) rfl
theorem wd_L_66 : Cond.instanceMethod yX8_solve ∈ x_T := x_t5 (List.mem_of_getElem? (i := 111) rfl) rfl
theorem wd_L_67 : Cond.selects RX8 yX8_solve yX8_solve ∈ x_T := x_t5 (List.mem_of_getElem? (i := 112) rfl) rfl
theorem wd_L_68 : Cond.methodLink RL 86 yX7_undo ∈ x_T := x_t3 (List.mem_of_getElem? (i := 33) rfl) rfl
theorem wd_L_69 : Cond.instanceMethod yX7_undo ∈ x_T := x_t3 (List.mem_of_getElem? (i := 34) rfl) rfl
theorem wd_L_70 : Cond.selects RX7 yX7_undo yX7_undo ∈ x_T := x_t3 (List.mem_of_getElem? (i := 35) rfl) rfl
theorem wd_L_71 : Cond.methodLink RL 89 yX8_undo ∈ x_T := x_t5 (List.mem_of_getElem? (i := 114) rfl) rfl
theorem wd_L_72 : Cond.instanceMethod yX8_undo ∈ x_T := x_t5 (List.mem_of_getElem? (i := 115) rfl) rfl
theorem wd_L_73 : Cond.selects RX8 yX8_undo yX8_undo ∈ x_T := x_t5 (List.mem_of_getElem? (i := 116) rfl) rfl
theorem wd_L_74 : Cond.methodLink RL 93 yX8_done ∈ x_T := x_t5 (List.mem_of_getElem? (i := 118) rfl) rfl
theorem wd_L_75 : Cond.instanceMethod yX8_done ∈ x_T := x_t5 (List.mem_of_getElem? (i := 119) rfl) rfl
theorem wd_L_76 : Cond.selects RX8 yX8_done yX8_done ∈ x_T := x_t5 (List.mem_of_getElem? (i := 120) rfl) rfl
theorem wd_L_77 : Cond.methodLink RL 96 yX8_candidates ∈ x_T := x_t5 (List.mem_of_getElem? (i := 122) rfl) rfl
theorem wd_L_78 : Cond.instanceMethod yX8_candidates ∈ x_T := x_t5 (List.mem_of_getElem? (i := 123) rfl) rfl
theorem wd_L_79 : Cond.selects RX8 yX8_candidates yX8_candidates ∈ x_T := x_t5 (List.mem_of_getElem? (i := 124) rfl) rfl
theorem wd_L_80 : Cond.methodLink RL 99 yX8_value ∈ x_T := x_t5 (List.mem_of_getElem? (i := 126) rfl) rfl
theorem wd_L_81 : Cond.instanceMethod yX8_value ∈ x_T := x_t5 (List.mem_of_getElem? (i := 127) rfl) rfl
theorem wd_L_82 : Cond.selects RX8 yX8_value yX8_value ∈ x_T := x_t5 (List.mem_of_getElem? (i := 128) rfl) rfl
theorem wd_L_83 : Cond.methodLink RL 100 yX7_state ∈ x_T := x_t3 (List.mem_of_getElem? (i := 45) rfl) rfl
theorem wd_L_84 : Cond.instanceMethod yX7_state ∈ x_T := x_t3 (List.mem_of_getElem? (i := 46) rfl) rfl
theorem wd_L_85 : Cond.selects RX7 yX7_state yX7_state ∈ x_T := x_t3 (List.mem_of_getElem? (i := 47) rfl) rfl
theorem wd_L_86 : Cond.methodLink RL 103 yX8_state ∈ x_T := x_t5 (List.mem_of_getElem? (i := 130) rfl) rfl
theorem wd_L_87 : Cond.instanceMethod yX8_state ∈ x_T := x_t5 (List.mem_of_getElem? (i := 131) rfl) rfl
theorem wd_L_88 : Cond.selects RX8 yX8_state yX8_state ∈ x_T := x_t5 (List.mem_of_getElem? (i := 132) rfl) rfl
theorem wd_L_89 : Cond.methodLink RL 104 yX7_words ∈ x_T := x_t3 (List.mem_of_getElem? (i := 63) rfl) rfl
theorem wd_L_90 : Cond.instanceMethod yX7_words ∈ x_T := x_t3 (List.mem_of_getElem? (i := 64) rfl) rfl
theorem wd_L_91 : Cond.selects RX7 yX7_words yX7_words ∈ x_T := x_t3 (List.mem_of_getElem? (i := 65) rfl) rfl
theorem wd_L_92 : Cond.methodLink RL 108 yX8_words ∈ x_T := x_t5 (List.mem_of_getElem? (i := 134) rfl) rfl
theorem wd_L_93 : Cond.instanceMethod yX8_words ∈ x_T := x_t5 (List.mem_of_getElem? (i := 135) rfl) rfl
theorem wd_L_94 : Cond.selects RX8 yX8_words yX8_words ∈ x_T := x_t5 (List.mem_of_getElem? (i := 136) rfl) rfl
theorem wd_L_95 : Cond.methodLink RL 34 yL_cell ∈ x_T := x_t3 (List.mem_of_getElem? (i := 129) rfl) rfl
theorem wd_L_96 : Cond.static yL_cell ∈ x_T := x_t3 (List.mem_of_getElem? (i := 130) rfl) rfl
theorem wd_L_97 : Cond.initialized RL ∈ x_T := x_t1 (List.mem_of_getElem? (i := 0) rfl) rfl
theorem wd_L_98 : Cond.methodLink RL 46 yL_set ∈ x_T := x_t3 (List.mem_of_getElem? (i := 132) rfl) rfl
theorem wd_L_99 : Cond.static yL_set ∈ x_T := x_t3 (List.mem_of_getElem? (i := 133) rfl) rfl
theorem wd_L_100 : Cond.methodLink RL 54 yL_take ∈ x_T := x_t4 (List.mem_of_getElem? (i := 11) rfl) rfl
theorem wd_L_101 : Cond.static yL_take ∈ x_T := x_t4 (List.mem_of_getElem? (i := 12) rfl) rfl
theorem wd_L_102 : Cond.methodLink RL 57 yL_enable ∈ x_T := x_t4 (List.mem_of_getElem? (i := 18) rfl) rfl
theorem wd_L_103 : Cond.static yL_enable ∈ x_T := x_t4 (List.mem_of_getElem? (i := 19) rfl) rfl
theorem wd_L_104 : Cond.methodLink RL 90 yL_done ∈ x_T := x_t4 (List.mem_of_getElem? (i := 30) rfl) rfl
theorem wd_L_105 : Cond.static yL_done ∈ x_T := x_t4 (List.mem_of_getElem? (i := 31) rfl) rfl
theorem wd_L_106 : Cond.methodLink RL 94 yL_candidates ∈ x_T := x_t4 (List.mem_of_getElem? (i := 37) rfl) rfl
theorem wd_L_107 : Cond.static yL_candidates ∈ x_T := x_t4 (List.mem_of_getElem? (i := 38) rfl) rfl
theorem wd_L_108 : Cond.methodLink RL 97 yL_value ∈ x_T := x_t4 (List.mem_of_getElem? (i := 44) rfl) rfl
theorem wd_L_109 : Cond.static yL_value ∈ x_T := x_t4 (List.mem_of_getElem? (i := 45) rfl) rfl
theorem wd_L_110 : Cond.methodLink RL 40 yX7_init ∈ x_T := x_t1 (List.mem_of_getElem? (i := 23) rfl) rfl
theorem wd_L_111 : Cond.instanceMethod yX7_init ∈ x_T := x_t1 (List.mem_of_getElem? (i := 24) rfl) rfl
theorem wd_L_112 : Cond.methodLink RL 45 yX8_init ∈ x_T := x_t4 (List.mem_of_getElem? (i := 53) rfl) rfl
theorem wd_L_113 : Cond.instanceMethod yX8_init ∈ x_T := x_t4 (List.mem_of_getElem? (i := 54) rfl) rfl
theorem wd_L_114 : Cond.classLink RL 8 RX7 ∈ x_T := x_t1 (List.mem_of_getElem? (i := 21) rfl) rfl
theorem wd_L_115 : Cond.instantiable RX7 6 ∈ x_T := x_t1 (List.mem_of_getElem? (i := 22) rfl) rfl
theorem wd_L_116 : Cond.classLink RL 43 RX8 ∈ x_T := x_t4 (List.mem_of_getElem? (i := 51) rfl) rfl
theorem wd_L_117 : Cond.instantiable RX8 23 ∈ x_T := x_t4 (List.mem_of_getElem? (i := 52) rfl) rfl
theorem wd_L_118 : Cond.code yL_cell cL_cell 2 (some .int) ∈ x_T := x_t3 (List.mem_of_getElem? (i := 131) rfl) rfl
theorem wd_L_119 : Cond.codeWith yL_set cL_set 5 (some .int) [(0, 17, 20, 13), (0, 17, 24, 15)] ∈ x_T := x_t3 (List.mem_of_getElem? (i := 134) rfl) rfl
theorem wd_L_120 : Cond.codeWith yL_take cL_take 5 (some .int) [(0, 17, 20, 13), (0, 17, 24, 15)] ∈ x_T := x_t4 (List.mem_of_getElem? (i := 13) rfl) rfl
theorem wd_L_121 : Cond.codeWith yL_enable cL_enable 5 (some .int) [(0, 17, 20, 13)] ∈ x_T := x_t4 (List.mem_of_getElem? (i := 20) rfl) rfl
theorem wd_L_122 : Cond.codeWith yL_done cL_done 4 (some .int) [(0, 9, 12, 13)] ∈ x_T := x_t4 (List.mem_of_getElem? (i := 32) rfl) rfl
theorem wd_L_123 : Cond.codeWith yL_candidates cL_candidates 4 (some .int) [(0, 9, 12, 13)] ∈ x_T := x_t4 (List.mem_of_getElem? (i := 39) rfl) rfl
theorem wd_L_124 : Cond.codeWith yL_value cL_value 4 (some .int) [(0, 9, 12, 13)] ∈ x_T := x_t4 (List.mem_of_getElem? (i := 46) rfl) rfl
