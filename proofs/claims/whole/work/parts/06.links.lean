theorem gwm {t : List Cond} (hs : ∀ x ∈ t, x ∈ lw_tbl) {i : Nat} {w : Cond} (h : t[i]? = some w) (g : goodWord w = true) : w ∈ gw := in_gw (hs w (List.mem_of_getElem? h)) g
theorem nwm {t : List Cond} (hs : ∀ x ∈ t, x ∈ lw_tbl) {i : Nat} {w : Cond} (h : t[i]? = some w) (g : isNest w = true) : w ∈ nestW := in_nest (hs w (List.mem_of_getElem? h)) g
theorem hs_0 : ∀ x ∈ k2_sels lw_privs, x ∈ lw_tbl := fun _ h => List.mem_append_left _ h
theorem hs_1 : ∀ x ∈ tables_1_1, x ∈ lw_tbl := fun _ h => List.mem_append_right _ (List.mem_append_left _ h)
theorem hs_2 : ∀ x ∈ tables_1_2, x ∈ lw_tbl := fun _ h => List.mem_append_right _ (List.mem_append_right _ (List.mem_append_left _ h))
theorem hs_3 : ∀ x ∈ tables_1_3, x ∈ lw_tbl := fun _ h => List.mem_append_right _ (List.mem_append_right _ (List.mem_append_right _ (List.mem_append_left _ h)))
theorem hs_4 : ∀ x ∈ tables_1_4, x ∈ lw_tbl := fun _ h => List.mem_append_right _ (List.mem_append_right _ (List.mem_append_right _ (List.mem_append_right _ (List.mem_append_left _ h))))
theorem hs_5 : ∀ x ∈ tables_1_5, x ∈ lw_tbl := fun _ h => List.mem_append_right _ (List.mem_append_right _ (List.mem_append_right _ (List.mem_append_right _ (List.mem_append_right _ (List.mem_append_left _ h)))))
theorem hs_6 : ∀ x ∈ tables_1_6, x ∈ lw_tbl := fun _ h => List.mem_append_right _ (List.mem_append_right _ (List.mem_append_right _ (List.mem_append_right _ (List.mem_append_right _ (List.mem_append_right _ (List.mem_append_left _ h))))))
theorem hs_7 : ∀ x ∈ tables_1_7, x ∈ lw_tbl := fun _ h => List.mem_append_right _ (List.mem_append_right _ (List.mem_append_right _ (List.mem_append_right _ (List.mem_append_right _ (List.mem_append_right _ (List.mem_append_right _ (List.mem_append_left _ h)))))))
theorem hs_8 : ∀ x ∈ tables_1_8, x ∈ lw_tbl := fun _ h => List.mem_append_right _ (List.mem_append_right _ (List.mem_append_right _ (List.mem_append_right _ (List.mem_append_right _ (List.mem_append_right _ (List.mem_append_right _ (List.mem_append_right _ h)))))))
theorem fu_ex : ∃ n : Nat, n = 1000000000 := ⟨1000000000, rfl⟩
/-- the loops' fuel: not to be counted out -/
noncomputable def FU : Nat := Classical.choose fu_ex
theorem fu_eq : FU = 1000000000 := Classical.choose_spec fu_ex
theorem ugwX0 : ∀ w ∈ wsX00, w ∈ gw := fun w hw => in_gw (uwX0 w hw) (List.all_eq_true.mp (show wsX00.all goodWord = true by decide +kernel) w hw)
theorem cl_0 : ∃ (Tf : u_T) (N : Nat), vwCl[0]? = some (RX0, Tf, N) := ⟨TX0, 11, rfl⟩
theorem ugwX1 : ∀ w ∈ wsX10, w ∈ gw := fun w hw => in_gw (uwX1 w hw) (List.all_eq_true.mp (show wsX10.all goodWord = true by decide +kernel) w hw)
theorem cl_1 : ∃ (Tf : u_T) (N : Nat), vwCl[1]? = some (RX1, Tf, N) := ⟨TX1, 9, rfl⟩
theorem ugwX2 : ∀ w ∈ wsX20, w ∈ gw := fun w hw => in_gw (uwX2 w hw) (List.all_eq_true.mp (show wsX20.all goodWord = true by decide +kernel) w hw)
theorem cl_2 : ∃ (Tf : u_T) (N : Nat), vwCl[2]? = some (RX2, Tf, N) := ⟨TX2, 6, rfl⟩
theorem ugwX3 : ∀ w ∈ wsX30, w ∈ gw := fun w hw => in_gw (uwX3 w hw) (List.all_eq_true.mp (show wsX30.all goodWord = true by decide +kernel) w hw)
theorem cl_3 : ∃ (Tf : u_T) (N : Nat), vwCl[3]? = some (RX3, Tf, N) := ⟨TX3, 11, rfl⟩
theorem ugwX4 : ∀ w ∈ wsX40, w ∈ gw := fun w hw => in_gw (uwX4 w hw) (List.all_eq_true.mp (show wsX40.all goodWord = true by decide +kernel) w hw)
theorem cl_4 : ∃ (Tf : u_T) (N : Nat), vwCl[4]? = some (RX4, Tf, N) := ⟨TX4, 5, rfl⟩
theorem ugwX5 : ∀ w ∈ wsX50, w ∈ gw := fun w hw => in_gw (uwX5 w hw) (List.all_eq_true.mp (show wsX50.all goodWord = true by decide +kernel) w hw)
theorem cl_5 : ∃ (Tf : u_T) (N : Nat), vwCl[5]? = some (RX5, Tf, N) := ⟨TX5, 6, rfl⟩
theorem ugwX6 : ∀ w ∈ wsX60, w ∈ gw := fun w hw => in_gw (uwX6 w hw) (List.all_eq_true.mp (show wsX60.all goodWord = true by decide +kernel) w hw)
theorem cl_6 : ∃ (Tf : u_T) (N : Nat), vwCl[6]? = some (RX6, Tf, N) := ⟨TX6, 2, rfl⟩
theorem ugwX7 : ∀ w ∈ wsX70, w ∈ gw := fun w hw => in_gw (uwX7 w hw) (List.all_eq_true.mp (show wsX70.all goodWord = true by decide +kernel) w hw)
theorem cl_7 : ∃ (Tf : u_T) (N : Nat), vwCl[7]? = some (RX7, Tf, N) := ⟨TX7, 6, rfl⟩
theorem ugwX8 : ∀ w ∈ wsX80, w ∈ gw := fun w hw => in_gw (uwX8 w hw) (List.all_eq_true.mp (show wsX80.all goodWord = true by decide +kernel) w hw)
theorem cl_8 : ∃ (Tf : u_T) (N : Nat), vwCl[8]? = some (RX8, Tf, N) := ⟨TX8, 5, rfl⟩
theorem ugwX9 : ∀ w ∈ wsX90, w ∈ gw := fun w hw => in_gw (uwX9 w hw) (List.all_eq_true.mp (show wsX90.all goodWord = true by decide +kernel) w hw)
theorem cl_9 : ∃ (Tf : u_T) (N : Nat), vwCl[9]? = some (RX9, Tf, N) := ⟨TX9, 2, rfl⟩
theorem ugwX10 : ∀ w ∈ wsX100, w ∈ gw := fun w hw => in_gw (uwX10 w hw) (List.all_eq_true.mp (show wsX100.all goodWord = true by decide +kernel) w hw)
theorem cl_10 : ∃ (Tf : u_T) (N : Nat), vwCl[10]? = some (RX10, Tf, N) := ⟨TX10, 11, rfl⟩
theorem ugwX11 : ∀ w ∈ wsX110, w ∈ gw := fun w hw => in_gw (uwX11 w hw) (List.all_eq_true.mp (show wsX110.all goodWord = true by decide +kernel) w hw)
theorem cl_11 : ∃ (Tf : u_T) (N : Nat), vwCl[11]? = some (RX11, Tf, N) := ⟨TX11, 16, rfl⟩
theorem ugwX12 : ∀ w ∈ wsX120, w ∈ gw := fun w hw => in_gw (uwX12 w hw) (List.all_eq_true.mp (show wsX120.all goodWord = true by decide +kernel) w hw)
theorem cl_12 : ∃ (Tf : u_T) (N : Nat), vwCl[12]? = some (RX12, Tf, N) := ⟨TX12, 74, rfl⟩
theorem plJ0 : plainName RJ0 = true := by decide +kernel
theorem plJ1 : plainName RJ1 = true := by decide +kernel
theorem plJ6 : plainName RJ6 = true := by decide +kernel
theorem plJ7 : plainName RJ7 = true := by decide +kernel
theorem plX0 : plainName RX0 = true := by decide +kernel
theorem plX1 : plainName RX1 = true := by decide +kernel
theorem plX10 : plainName RX10 = true := by decide +kernel
theorem plX11 : plainName RX11 = true := by decide +kernel
theorem plX12 : plainName RX12 = true := by decide +kernel
theorem plX2 : plainName RX2 = true := by decide +kernel
theorem plX3 : plainName RX3 = true := by decide +kernel
theorem plX4 : plainName RX4 = true := by decide +kernel
theorem plX5 : plainName RX5 = true := by decide +kernel
theorem plX6 : plainName RX6 = true := by decide +kernel
theorem plX7 : plainName RX7 = true := by decide +kernel
theorem plX8 : plainName RX8 = true := by decide +kernel
theorem plX9 : plainName RX9 = true := by decide +kernel
theorem al_11 : Int32.ofNat 11 = 11 := rfl
theorem al_42784 : Int32.ofNat 42784 = 42784 := rfl
theorem al_5348 : Int32.ofNat 5348 = 5348 := rfl
theorem kb_m100 : (Int8.ofInt (-100)).toInt32 = (-100) := rfl
theorem kb_m2 : (Int8.ofInt (-2)).toInt32 = (-2) := rfl
theorem kb_10 : (Int8.ofInt 10).toInt32 = 10 := rfl
theorem kb_100 : (Int8.ofInt 100).toInt32 = 100 := rfl
theorem kb_102 : (Int8.ofInt 102).toInt32 = 102 := rfl
theorem kb_104 : (Int8.ofInt 104).toInt32 = 104 := rfl
theorem kb_105 : (Int8.ofInt 105).toInt32 = 105 := rfl
theorem kb_107 : (Int8.ofInt 107).toInt32 = 107 := rfl
theorem kb_108 : (Int8.ofInt 108).toInt32 = 108 := rfl
theorem kb_109 : (Int8.ofInt 109).toInt32 = 109 := rfl
theorem kb_11 : (Int8.ofInt 11).toInt32 = 11 := rfl
theorem kb_110 : (Int8.ofInt 110).toInt32 = 110 := rfl
theorem kb_111 : (Int8.ofInt 111).toInt32 = 111 := rfl
theorem kb_112 : (Int8.ofInt 112).toInt32 = 112 := rfl
theorem kb_114 : (Int8.ofInt 114).toInt32 = 114 := rfl
theorem kb_115 : (Int8.ofInt 115).toInt32 = 115 := rfl
theorem kb_118 : (Int8.ofInt 118).toInt32 = 118 := rfl
theorem kb_12 : (Int8.ofInt 12).toInt32 = 12 := rfl
theorem kb_121 : (Int8.ofInt 121).toInt32 = 121 := rfl
theorem kb_124 : (Int8.ofInt 124).toInt32 = 124 := rfl
theorem kb_13 : (Int8.ofInt 13).toInt32 = 13 := rfl
theorem kb_14 : (Int8.ofInt 14).toInt32 = 14 := rfl
theorem kb_15 : (Int8.ofInt 15).toInt32 = 15 := rfl
theorem kb_16 : (Int8.ofInt 16).toInt32 = 16 := rfl
theorem kb_20 : (Int8.ofInt 20).toInt32 = 20 := rfl
theorem kb_23 : (Int8.ofInt 23).toInt32 = 23 := rfl
theorem kb_24 : (Int8.ofInt 24).toInt32 = 24 := rfl
theorem kb_33 : (Int8.ofInt 33).toInt32 = 33 := rfl
theorem kb_37 : (Int8.ofInt 37).toInt32 = 37 := rfl
theorem kb_38 : (Int8.ofInt 38).toInt32 = 38 := rfl
theorem kb_40 : (Int8.ofInt 40).toInt32 = 40 := rfl
theorem kb_41 : (Int8.ofInt 41).toInt32 = 41 := rfl
theorem kb_42 : (Int8.ofInt 42).toInt32 = 42 := rfl
theorem kb_43 : (Int8.ofInt 43).toInt32 = 43 := rfl
theorem kb_45 : (Int8.ofInt 45).toInt32 = 45 := rfl
theorem kb_47 : (Int8.ofInt 47).toInt32 = 47 := rfl
theorem kb_48 : (Int8.ofInt 48).toInt32 = 48 := rfl
theorem kb_57 : (Int8.ofInt 57).toInt32 = 57 := rfl
theorem kb_59 : (Int8.ofInt 59).toInt32 = 59 := rfl
theorem kb_6 : (Int8.ofInt 6).toInt32 = 6 := rfl
theorem kb_60 : (Int8.ofInt 60).toInt32 = 60 := rfl
theorem kb_61 : (Int8.ofInt 61).toInt32 = 61 := rfl
theorem kb_62 : (Int8.ofInt 62).toInt32 = 62 := rfl
theorem kb_63 : (Int8.ofInt 63).toInt32 = 63 := rfl
theorem kb_7 : (Int8.ofInt 7).toInt32 = 7 := rfl
theorem kb_73 : (Int8.ofInt 73).toInt32 = 73 := rfl
theorem kb_8 : (Int8.ofInt 8).toInt32 = 8 := rfl
theorem kb_9 : (Int8.ofInt 9).toInt32 = 9 := rfl
theorem kb_91 : (Int8.ofInt 91).toInt32 = 91 := rfl
theorem kb_93 : (Int8.ofInt 93).toInt32 = 93 := rfl
theorem ki_m1 : Int32.ofInt (-1) = (-1) := rfl
theorem ki_0 : Int32.ofInt 0 = 0 := rfl
theorem ki_1 : Int32.ofInt 1 = 1 := rfl
theorem ki_2 : Int32.ofInt 2 = 2 := rfl
theorem ki_3 : Int32.ofInt 3 = 3 := rfl
theorem ki_4 : Int32.ofInt 4 = 4 := rfl
theorem ki_5 : Int32.ofInt 5 = 5 := rfl
theorem kn_m1 (x : Int32) : x + Int32.ofInt (-1) = x + (-1) := rfl
theorem kn_m8 (x : Int32) : x + Int32.ofInt (-8) = x + (-8) := rfl
theorem kn_1 (x : Int32) : x + Int32.ofInt 1 = x + 1 := rfl
theorem kl_0 : Int64.ofNat ((0 : Fin 2) : Nat) = 0 := rfl
theorem kl_1 : Int64.ofNat ((1 : Fin 2) : Nat) = 1 := rfl
theorem ks_m1000 : (Int16.ofInt (-1000)).toInt32 = (-1000) := rfl
theorem ks_1000 : (Int16.ofInt 1000).toInt32 = 1000 := rfl
theorem ks_10000 : (Int16.ofInt 10000).toInt32 = 10000 := rfl
theorem ks_13849 : (Int16.ofInt 13849).toInt32 = 13849 := rfl
theorem ks_18724 : (Int16.ofInt 18724).toInt32 = 18724 := rfl
theorem ks_200 : (Int16.ofInt 200).toInt32 = 200 := rfl
theorem ks_21392 : (Int16.ofInt 21392).toInt32 = 21392 := rfl
theorem ks_220 : (Int16.ofInt 220).toInt32 = 220 := rfl
theorem ks_25173 : (Int16.ofInt 25173).toInt32 = 25173 := rfl
theorem ks_255 : (Int16.ofInt 255).toInt32 = 255 := rfl
theorem ks_4681 : (Int16.ofInt 4681).toInt32 = 4681 := rfl
theorem ks_5348 : (Int16.ofInt 5348).toInt32 = 5348 := rfl
theorem ks_585 : (Int16.ofInt 585).toInt32 = 585 := rfl
theorem lb_J0_coder_7d493 : LB yJ0_coder_7d493 cJ0_coder_7d493 1 (some .byte) 0 := ⟨gwm hs_1 (i := 15) rfl rfl, gwm hs_3 (i := 101) rfl rfl, by decide +kernel, by decide +kernel, by decide +kernel⟩
theorem lb_J0_indexOf_0f7a4 : LB yJ0_indexOf_0f7a4 cJ0_indexOf_0f7a4 2 (some .int) 1 := ⟨gwm hs_1 (i := 15) rfl rfl, gwm hs_3 (i := 83) rfl rfl, by decide +kernel, by decide +kernel, by decide +kernel⟩
theorem lb_J0_indexOf_7cf53 : LB yJ0_indexOf_7cf53 cJ0_indexOf_7cf53 3 (some .int) 2 := ⟨gwm hs_1 (i := 15) rfl rfl, gwm hs_3 (i := 87) rfl rfl, by decide +kernel, by decide +kernel, by decide +kernel⟩
theorem lb_J0_isLatin1_aae02 : LB yJ0_isLatin1_aae02 cJ0_isLatin1_aae02 1 (some .boolean) 0 := ⟨gwm hs_1 (i := 15) rfl rfl, gwm hs_3 (i := 91) rfl rfl, by decide +kernel, by decide +kernel, by decide +kernel⟩
theorem lb_J0_length_8abf5 : LB yJ0_length_8abf5 cJ0_length_8abf5 1 (some .int) 0 := ⟨gwm hs_1 (i := 15) rfl rfl, gwm hs_3 (i := 97) rfl rfl, by decide +kernel, by decide +kernel, by decide +kernel⟩
theorem lb_J1_canEncode_9a6ad : LB yJ1_canEncode_9a6ad cJ1_canEncode_9a6ad 1 (some .boolean) 1 := ⟨gwm hs_1 (i := 16) rfl rfl, gwm hs_3 (i := 107) rfl rfl, by decide +kernel, by decide +kernel, by decide +kernel⟩
theorem lb_J1_indexOfChar_4cfef : LB yJ1_indexOfChar_4cfef cJ1_indexOfChar_4cfef 6 (some .int) 4 := ⟨gwm hs_1 (i := 16) rfl rfl, gwm hs_3 (i := 112) rfl rfl, by decide +kernel, by decide +kernel, by decide +kernel⟩
theorem lb_J1_indexOf_4cfef : LB yJ1_indexOf_4cfef cJ1_indexOf_4cfef 4 (some .int) 4 := ⟨gwm hs_1 (i := 16) rfl rfl, gwm hs_3 (i := 104) rfl rfl, by decide +kernel, by decide +kernel, by decide +kernel⟩
theorem lb_J6_bitCount_0f7a4 : LB yJ6_bitCount_0f7a4 cJ6_bitCount_0f7a4 1 (some .int) 1 := ⟨gwm hs_1 (i := 22) rfl rfl, gwm hs_5 (i := 88) rfl rfl, by decide +kernel, by decide +kernel, by decide +kernel⟩
theorem lb_J7_fill_bad5a : LB yJ7_fill_bad5a cJ7_fill_bad5a 6 none 4 := ⟨gwm hs_1 (i := 21) rfl rfl, gwm hs_4 (i := 211) rfl rfl, by decide +kernel, by decide +kernel, by decide +kernel⟩
theorem lb_J7_fill_d0a16 : LB yJ7_fill_d0a16 cJ7_fill_d0a16 5 none 2 := ⟨gwm hs_1 (i := 21) rfl rfl, gwm hs_3 (i := 226) rfl rfl, by decide +kernel, by decide +kernel, by decide +kernel⟩
theorem lb_J7_fill_fda19 : LB yJ7_fill_fda19 cJ7_fill_fda19 5 none 4 := ⟨gwm hs_1 (i := 21) rfl rfl, gwm hs_5 (i := 24) rfl rfl, by decide +kernel, by decide +kernel, by decide +kernel⟩
theorem lb_J7_rangeCheck_23922 : LB yJ7_rangeCheck_23922 cJ7_rangeCheck_23922 3 none 3 := ⟨gwm hs_1 (i := 21) rfl rfl, gwm hs_4 (i := 214) rfl rfl, by decide +kernel, by decide +kernel, by decide +kernel⟩
theorem lb_X0_comeTo : LB yX0_comeTo cX0_comeTo 7 none 4 := ⟨gwm hs_1 (i := 10) rfl rfl, gwm hs_5 (i := 28) rfl rfl, by decide +kernel, by decide +kernel, by decide +kernel⟩
theorem lb_X0_daysTo : LB yX0_daysTo cX0_daysTo 4 (some .int) 1 := ⟨gwm hs_1 (i := 10) rfl rfl, gwm hs_5 (i := 39) rfl rfl, by decide +kernel, by decide +kernel, by decide +kernel⟩
theorem lb_X0_madeOn : LB yX0_madeOn cX0_madeOn 4 (some .int) 1 := ⟨gwm hs_1 (i := 10) rfl rfl, gwm hs_5 (i := 43) rfl rfl, by decide +kernel, by decide +kernel, by decide +kernel⟩
theorem lb_X0_solve : LB yX0_solve cX0_solve 10 none 2 := ⟨gwm hs_1 (i := 10) rfl rfl, gwm hs_5 (i := 19) rfl rfl, by decide +kernel, by decide +kernel, by decide +kernel⟩
theorem lb_X10_addLaw : LB yX10_addLaw cX10_addLaw 5 (some .int) 4 := ⟨gwm hs_1 (i := 6) rfl rfl, gwm hs_2 (i := 195) rfl rfl, by decide +kernel, by decide +kernel, by decide +kernel⟩
theorem lb_X10_allLaws : LB yX10_allLaws cX10_allLaws 1 (some .int) 0 := ⟨gwm hs_1 (i := 6) rfl rfl, gwm hs_4 (i := 2) rfl rfl, by decide +kernel, by decide +kernel, by decide +kernel⟩
theorem lb_X10_describe : LB yX10_describe cX10_describe 7 none 4 := ⟨gwm hs_1 (i := 6) rfl rfl, gwm hs_4 (i := 6) rfl rfl, by decide +kernel, by decide +kernel, by decide +kernel⟩
theorem lb_X10_forget : LB yX10_forget cX10_forget 1 none 0 := ⟨gwm hs_1 (i := 6) rfl rfl, gwm hs_2 (i := 199) rfl rfl, by decide +kernel, by decide +kernel, by decide +kernel⟩
theorem lb_X10_freshen : LB yX10_freshen cX10_freshen 1 none 0 := ⟨gwm hs_1 (i := 6) rfl rfl, gwm hs_3 (i := 223) rfl rfl, by decide +kernel, by decide +kernel, by decide +kernel⟩
theorem lb_X10_holdingOn : LB yX10_holdingOn cX10_holdingOn 5 (some .int) 1 := ⟨gwm hs_1 (i := 6) rfl rfl, gwm hs_3 (i := 237) rfl rfl, by decide +kernel, by decide +kernel, by decide +kernel⟩
theorem lb_X10_isOfLaws : LB yX10_isOfLaws cX10_isOfLaws 2 (some .boolean) 1 := ⟨gwm hs_1 (i := 6) rfl rfl, gwm hs_5 (i := 84) rfl rfl, by decide +kernel, by decide +kernel, by decide +kernel⟩
theorem lb_X10_lawCount : LB yX10_lawCount cX10_lawCount 1 (some .int) 0 := ⟨gwm hs_1 (i := 6) rfl rfl, gwm hs_2 (i := 191) rfl rfl, by decide +kernel, by decide +kernel, by decide +kernel⟩
theorem lb_X10_mayOf : LB yX10_mayOf cX10_mayOf 7 (some .int) 2 := ⟨gwm hs_1 (i := 6) rfl rfl, gwm hs_3 (i := 218) rfl rfl, by decide +kernel, by decide +kernel, by decide +kernel⟩
theorem lb_X10_openTo : LB yX10_openTo cX10_openTo 6 (some .int) 2 := ⟨gwm hs_1 (i := 6) rfl rfl, gwm hs_3 (i := 233) rfl rfl, by decide +kernel, by decide +kernel, by decide +kernel⟩
theorem lb_X10_valueOfOldest : LB yX10_valueOfOldest cX10_valueOfOldest 3 (some .int) 2 := ⟨gwm hs_1 (i := 6) rfl rfl, gwm hs_4 (i := 74) rfl rfl, by decide +kernel, by decide +kernel, by decide +kernel⟩
theorem lb_X10_worthOf : LB yX10_worthOf cX10_worthOf 7 (some .int) 2 := ⟨gwm hs_1 (i := 6) rfl rfl, gwm hs_4 (i := 55) rfl rfl, by decide +kernel, by decide +kernel, by decide +kernel⟩
theorem lb_X11_commonDivisor : LB yX11_commonDivisor cX11_commonDivisor 6 (some .int) 2 := ⟨gwm hs_1 (i := 1) rfl rfl, gwm hs_4 (i := 183) rfl rfl, by decide +kernel, by decide +kernel, by decide +kernel⟩
theorem lb_X11_enter : LB yX11_enter cX11_enter 5 none 3 := ⟨gwm hs_1 (i := 1) rfl rfl, gwm hs_4 (i := 111) rfl rfl, by decide +kernel, by decide +kernel, by decide +kernel⟩
theorem lb_X11_firstUnlike : LB yX11_firstUnlike cX11_firstUnlike 4 (some .int) 1 := ⟨gwm hs_1 (i := 1) rfl rfl, gwm hs_4 (i := 133) rfl rfl, by decide +kernel, by decide +kernel, by decide +kernel⟩
theorem lb_X11_fitsTold : LB yX11_fitsTold cX11_fitsTold 6 (some .boolean) 2 := ⟨gwm hs_1 (i := 1) rfl rfl, gwm hs_5 (i := 112) rfl rfl, by decide +kernel, by decide +kernel, by decide +kernel⟩
theorem lb_X11_isLaw : LB yX11_isLaw cX11_isLaw 2 (some .boolean) 1 := ⟨gwm hs_1 (i := 1) rfl rfl, gwm hs_2 (i := 236) rfl rfl, by decide +kernel, by decide +kernel, by decide +kernel⟩
theorem lb_X11_isPerson : LB yX11_isPerson cX11_isPerson 1 (some .boolean) 1 := ⟨gwm hs_1 (i := 1) rfl rfl, gwm hs_2 (i := 223) rfl rfl, by decide +kernel, by decide +kernel, by decide +kernel⟩
theorem lb_X11_passDay : LB yX11_passDay cX11_passDay 4 (some .int) 2 := ⟨gwm hs_1 (i := 1) rfl rfl, gwm hs_4 (i := 105) rfl rfl, by decide +kernel, by decide +kernel, by decide +kernel⟩
theorem lb_X11_reckonFits : LB yX11_reckonFits cX11_reckonFits 9 (some .int) 2 := ⟨gwm hs_1 (i := 1) rfl rfl, gwm hs_5 (i := 108) rfl rfl, by decide +kernel, by decide +kernel, by decide +kernel⟩
theorem lb_X11_reduced : LB yX11_reduced cX11_reduced 4 (some .int) 3 := ⟨gwm hs_1 (i := 1) rfl rfl, gwm hs_4 (i := 180) rfl rfl, by decide +kernel, by decide +kernel, by decide +kernel⟩
theorem lb_X11_slotOf : LB yX11_slotOf cX11_slotOf 4 (some .int) 3 := ⟨gwm hs_1 (i := 1) rfl rfl, gwm hs_3 (i := 229) rfl rfl, by decide +kernel, by decide +kernel, by decide +kernel⟩
theorem lb_X11_toldDeedsAreFine : LB yX11_toldDeedsAreFine cX11_toldDeedsAreFine 3 (some .boolean) 1 := ⟨gwm hs_1 (i := 1) rfl rfl, gwm hs_5 (i := 103) rfl rfl, by decide +kernel, by decide +kernel, by decide +kernel⟩
theorem lb_X11_withSlot : LB yX11_withSlot cX11_withSlot 5 (some .long) 4 := ⟨gwm hs_1 (i := 1) rfl rfl, gwm hs_4 (i := 37) rfl rfl, by decide +kernel, by decide +kernel, by decide +kernel⟩
theorem lb_X11_within : LB yX11_within cX11_within 2 (some .boolean) 2 := ⟨gwm hs_1 (i := 1) rfl rfl, gwm hs_2 (i := 187) rfl rfl, by decide +kernel, by decide +kernel, by decide +kernel⟩
theorem lb_X11_worthToAll : LB yX11_worthToAll cX11_worthToAll 4 (some .int) 1 := ⟨gwm hs_1 (i := 1) rfl rfl, gwm hs_5 (i := 95) rfl rfl, by decide +kernel, by decide +kernel, by decide +kernel⟩
theorem lb_X12_allBy : LB yX12_allBy cX12_allBy 5 (some .int) 4 := ⟨gwm hs_1 (i := 13) rfl rfl, gwm hs_7 (i := 167) rfl rfl, by decide +kernel, by decide +kernel, by decide +kernel⟩
theorem lb_X12_allOn : LB yX12_allOn cX12_allOn 6 (some .int) 2 := ⟨gwm hs_1 (i := 13) rfl rfl, gwm hs_7 (i := 163) rfl rfl, by decide +kernel, by decide +kernel, by decide +kernel⟩
theorem lb_X12_areDifferent : LB yX12_areDifferent cX12_areDifferent 3 (some .boolean) 0 := ⟨gwm hs_1 (i := 13) rfl rfl, gwm hs_7 (i := 175) rfl rfl, by decide +kernel, by decide +kernel, by decide +kernel⟩
theorem lb_X12_behind : LB yX12_behind cX12_behind 7 (some .int) 2 := ⟨gwm hs_1 (i := 13) rfl rfl, gwm hs_7 (i := 72) rfl rfl, by decide +kernel, by decide +kernel, by decide +kernel⟩
theorem lb_X12_bestBy : LB yX12_bestBy cX12_bestBy 5 (some .int) 4 := ⟨gwm hs_1 (i := 13) rfl rfl, gwm hs_7 (i := 155) rfl rfl, by decide +kernel, by decide +kernel, by decide +kernel⟩
theorem lb_X12_bestOn : LB yX12_bestOn cX12_bestOn 6 (some .int) 3 := ⟨gwm hs_1 (i := 13) rfl rfl, gwm hs_7 (i := 151) rfl rfl, by decide +kernel, by decide +kernel, by decide +kernel⟩
theorem lb_X12_book : LB yX12_book cX12_book 3 (some .int) 2 := ⟨gwm hs_1 (i := 13) rfl rfl, gwm hs_8 (i := 21) rfl rfl, by decide +kernel, by decide +kernel, by decide +kernel⟩
theorem lb_X12_changes : LB yX12_changes cX12_changes 2 none 0 := ⟨gwm hs_1 (i := 13) rfl rfl, gwm hs_6 (i := 124) rfl rfl, by decide +kernel, by decide +kernel, by decide +kernel⟩
theorem lb_X12_clause : LB yX12_clause cX12_clause 2 none 0 := ⟨gwm hs_1 (i := 13) rfl rfl, gwm hs_6 (i := 166) rfl rfl, by decide +kernel, by decide +kernel, by decide +kernel⟩
theorem lb_X12_condition : LB yX12_condition cX12_condition 2 none 0 := ⟨gwm hs_1 (i := 13) rfl rfl, gwm hs_6 (i := 229) rfl rfl, by decide +kernel, by decide +kernel, by decide +kernel⟩
theorem lb_X12_divisor : LB yX12_divisor cX12_divisor 5 (some .int) 2 := ⟨gwm hs_1 (i := 13) rfl rfl, gwm hs_7 (i := 133) rfl rfl, by decide +kernel, by decide +kernel, by decide +kernel⟩
theorem lb_X12_does : LB yX12_does cX12_does 4 none 2 := ⟨gwm hs_1 (i := 13) rfl rfl, gwm hs_7 (i := 49) rfl rfl, by decide +kernel, by decide +kernel, by decide +kernel⟩
theorem lb_X12_done : LB yX12_done cX12_done 4 (some .int) 2 := ⟨gwm hs_1 (i := 13) rfl rfl, gwm hs_7 (i := 64) rfl rfl, by decide +kernel, by decide +kernel, by decide +kernel⟩
theorem lb_X12_emit : LB yX12_emit cX12_emit 3 none 2 := ⟨gwm hs_1 (i := 13) rfl rfl, gwm hs_6 (i := 204) rfl rfl, by decide +kernel, by decide +kernel, by decide +kernel⟩
theorem lb_X12_ends : LB yX12_ends cX12_ends 1 none 0 := ⟨gwm hs_1 (i := 13) rfl rfl, gwm hs_7 (i := 0) rfl rfl, by decide +kernel, by decide +kernel, by decide +kernel⟩
theorem lb_X12_factor : LB yX12_factor cX12_factor 1 none 0 := ⟨gwm hs_1 (i := 13) rfl rfl, gwm hs_6 (i := 182) rfl rfl, by decide +kernel, by decide +kernel, by decide +kernel⟩
theorem lb_X12_firstOf : LB yX12_firstOf cX12_firstOf 1 (some .int) 1 := ⟨gwm hs_1 (i := 13) rfl rfl, gwm hs_7 (i := 26) rfl rfl, by decide +kernel, by decide +kernel, by decide +kernel⟩
theorem lb_X12_fitsAll : LB yX12_fitsAll cX12_fitsAll 3 (some .boolean) 1 := ⟨gwm hs_1 (i := 13) rfl rfl, gwm hs_8 (i := 6) rfl rfl, by decide +kernel, by decide +kernel, by decide +kernel⟩
theorem lb_X12_goesBehind : LB yX12_goesBehind cX12_goesBehind 2 (some .boolean) 0 := ⟨gwm hs_1 (i := 13) rfl rfl, gwm hs_7 (i := 4) rfl rfl, by decide +kernel, by decide +kernel, by decide +kernel⟩
theorem lb_X12_goesRound : LB yX12_goesRound cX12_goesRound 8 none 3 := ⟨gwm hs_1 (i := 13) rfl rfl, gwm hs_7 (i := 130) rfl rfl, by decide +kernel, by decide +kernel, by decide +kernel⟩
theorem lb_X12_has : LB yX12_has cX12_has 2 (some .boolean) 2 := ⟨gwm hs_1 (i := 13) rfl rfl, gwm hs_7 (i := 29) rfl rfl, by decide +kernel, by decide +kernel, by decide +kernel⟩
theorem lb_X12_heldBy : LB yX12_heldBy cX12_heldBy 6 (some .int) 4 := ⟨gwm hs_1 (i := 13) rfl rfl, gwm hs_7 (i := 213) rfl rfl, by decide +kernel, by decide +kernel, by decide +kernel⟩
theorem lb_X12_here : LB yX12_here cX12_here 1 (some .int) 0 := ⟨gwm hs_1 (i := 13) rfl rfl, gwm hs_6 (i := 170) rfl rfl, by decide +kernel, by decide +kernel, by decide +kernel⟩
theorem lb_X12_isDeed : LB yX12_isDeed cX12_isDeed 1 (some .boolean) 1 := ⟨gwm hs_1 (i := 13) rfl rfl, gwm hs_7 (i := 229) rfl rfl, by decide +kernel, by decide +kernel, by decide +kernel⟩
theorem lb_X12_isGood : LB yX12_isGood cX12_isGood 1 (some .boolean) 0 := ⟨gwm hs_1 (i := 13) rfl rfl, gwm hs_6 (i := 162) rfl rfl, by decide +kernel, by decide +kernel, by decide +kernel⟩
theorem lb_X12_isLaw : LB yX12_isLaw cX12_isLaw 2 (some .boolean) 1 := ⟨gwm hs_1 (i := 13) rfl rfl, gwm hs_6 (i := 145) rfl rfl, by decide +kernel, by decide +kernel, by decide +kernel⟩
theorem lb_X12_isLawful : LB yX12_isLawful cX12_isLawful 2 (some .int) 1 := ⟨gwm hs_1 (i := 13) rfl rfl, gwm hs_7 (i := 238) rfl rfl, by decide +kernel, by decide +kernel, by decide +kernel⟩
theorem lb_X12_isMaker : LB yX12_isMaker cX12_isMaker 1 (some .boolean) 1 := ⟨gwm hs_1 (i := 13) rfl rfl, gwm hs_6 (i := 136) rfl rfl, by decide +kernel, by decide +kernel, by decide +kernel⟩
theorem lb_X12_isPlus : LB yX12_isPlus cX12_isPlus 1 (some .boolean) 1 := ⟨gwm hs_1 (i := 13) rfl rfl, gwm hs_6 (i := 217) rfl rfl, by decide +kernel, by decide +kernel, by decide +kernel⟩
theorem lb_X12_isQuiet : LB yX12_isQuiet cX12_isQuiet 3 (some .boolean) 1 := ⟨gwm hs_1 (i := 13) rfl rfl, gwm hs_7 (i := 183) rfl rfl, by decide +kernel, by decide +kernel, by decide +kernel⟩
theorem lb_X12_isQuietIn : LB yX12_isQuietIn cX12_isQuietIn 5 (some .boolean) 3 := ⟨gwm hs_1 (i := 13) rfl rfl, gwm hs_7 (i := 200) rfl rfl, by decide +kernel, by decide +kernel, by decide +kernel⟩
theorem lb_X12_isRow : LB yX12_isRow cX12_isRow 3 (some .boolean) 1 := ⟨gwm hs_1 (i := 13) rfl rfl, gwm hs_7 (i := 195) rfl rfl, by decide +kernel, by decide +kernel, by decide +kernel⟩
theorem lb_X12_isSign : LB yX12_isSign cX12_isSign 1 (some .boolean) 1 := ⟨gwm hs_1 (i := 13) rfl rfl, gwm hs_6 (i := 236) rfl rfl, by decide +kernel, by decide +kernel, by decide +kernel⟩
theorem lb_X12_isSort : LB yX12_isSort cX12_isSort 1 (some .boolean) 1 := ⟨gwm hs_1 (i := 13) rfl rfl, gwm hs_7 (i := 87) rfl rfl, by decide +kernel, by decide +kernel, by decide +kernel⟩
theorem lb_X12_isTimes : LB yX12_isTimes cX12_isTimes 1 (some .boolean) 1 := ⟨gwm hs_1 (i := 13) rfl rfl, gwm hs_6 (i := 214) rfl rfl, by decide +kernel, by decide +kernel, by decide +kernel⟩
theorem lb_X12_isValue : LB yX12_isValue cX12_isValue 1 (some .boolean) 1 := ⟨gwm hs_1 (i := 13) rfl rfl, gwm hs_6 (i := 207) rfl rfl, by decide +kernel, by decide +kernel, by decide +kernel⟩
theorem lb_X12_joins : LB yX12_joins cX12_joins 2 none 1 := ⟨gwm hs_1 (i := 13) rfl rfl, gwm hs_7 (i := 8) rfl rfl, by decide +kernel, by decide +kernel, by decide +kernel⟩
theorem lb_X12_laysBest : LB yX12_laysBest cX12_laysBest 6 none 2 := ⟨gwm hs_1 (i := 13) rfl rfl, gwm hs_7 (i := 143) rfl rfl, by decide +kernel, by decide +kernel, by decide +kernel⟩
theorem lb_X12_laysQuiet : LB yX12_laysQuiet cX12_laysQuiet 6 none 0 := ⟨gwm hs_1 (i := 13) rfl rfl, gwm hs_7 (i := 191) rfl rfl, by decide +kernel, by decide +kernel, by decide +kernel⟩
theorem lb_X12_laysRow : LB yX12_laysRow cX12_laysRow 4 none 1 := ⟨gwm hs_1 (i := 13) rfl rfl, gwm hs_7 (i := 20) rfl rfl, by decide +kernel, by decide +kernel, by decide +kernel⟩
theorem lb_X12_lies : LB yX12_lies cX12_lies 6 (some .boolean) 3 := ⟨gwm hs_1 (i := 13) rfl rfl, gwm hs_6 (i := 118) rfl rfl, by decide +kernel, by decide +kernel, by decide +kernel⟩
theorem lb_X12_makerOn : LB yX12_makerOn cX12_makerOn 2 (some .int) 1 := ⟨gwm hs_1 (i := 13) rfl rfl, gwm hs_7 (i := 120) rfl rfl, by decide +kernel, by decide +kernel, by decide +kernel⟩
theorem lb_X12_makes : LB yX12_makes cX12_makes 5 (some .int) 2 := ⟨gwm hs_1 (i := 13) rfl rfl, gwm hs_7 (i := 104) rfl rfl, by decide +kernel, by decide +kernel, by decide +kernel⟩
theorem lb_X12_manyOf : LB yX12_manyOf cX12_manyOf 1 (some .int) 1 := ⟨gwm hs_1 (i := 13) rfl rfl, gwm hs_7 (i := 23) rfl rfl, by decide +kernel, by decide +kernel, by decide +kernel⟩
theorem lb_X12_mayMake : LB yX12_mayMake cX12_mayMake 4 (some .boolean) 2 := ⟨gwm hs_1 (i := 13) rfl rfl, gwm hs_7 (i := 33) rfl rfl, by decide +kernel, by decide +kernel, by decide +kernel⟩
theorem lb_X12_mayOf : LB yX12_mayOf cX12_mayOf 6 (some .int) 2 := ⟨gwm hs_1 (i := 13) rfl rfl, gwm hs_7 (i := 16) rfl rfl, by decide +kernel, by decide +kernel, by decide +kernel⟩
theorem lb_X12_numberAt : LB yX12_numberAt cX12_numberAt 4 (some .int) 1 := ⟨gwm hs_1 (i := 13) rfl rfl, gwm hs_8 (i := 37) rfl rfl, by decide +kernel, by decide +kernel, by decide +kernel⟩
theorem lb_X12_oftenOf : LB yX12_oftenOf cX12_oftenOf 4 (some .int) 1 := ⟨gwm hs_1 (i := 13) rfl rfl, gwm hs_7 (i := 37) rfl rfl, by decide +kernel, by decide +kernel, by decide +kernel⟩
theorem lb_X12_oldestOf : LB yX12_oldestOf cX12_oldestOf 2 (some .int) 1 := ⟨gwm hs_1 (i := 13) rfl rfl, gwm hs_7 (i := 68) rfl rfl, by decide +kernel, by decide +kernel, by decide +kernel⟩
theorem lb_X12_opens : LB yX12_opens cX12_opens 1 none 0 := ⟨gwm hs_1 (i := 13) rfl rfl, gwm hs_6 (i := 186) rfl rfl, by decide +kernel, by decide +kernel, by decide +kernel⟩
theorem lb_X12_pieceOfC : LB yX12_pieceOfC cX12_pieceOfC 2 none 0 := ⟨gwm hs_1 (i := 13) rfl rfl, gwm hs_6 (i := 233) rfl rfl, by decide +kernel, by decide +kernel, by decide +kernel⟩
theorem lb_X12_push : LB yX12_push cX12_push 3 none 1 := ⟨gwm hs_1 (i := 13) rfl rfl, gwm hs_6 (i := 153) rfl rfl, by decide +kernel, by decide +kernel, by decide +kernel⟩
theorem lb_X12_puts : LB yX12_puts cX12_puts 2 none 1 := ⟨gwm hs_1 (i := 13) rfl rfl, gwm hs_6 (i := 190) rfl rfl, by decide +kernel, by decide +kernel, by decide +kernel⟩
theorem lb_X12_quietBy : LB yX12_quietBy cX12_quietBy 4 (some .int) 3 := ⟨gwm hs_1 (i := 13) rfl rfl, gwm hs_7 (i := 204) rfl rfl, by decide +kernel, by decide +kernel, by decide +kernel⟩
theorem lb_X12_reaches : LB yX12_reaches cX12_reaches 7 none 2 := ⟨gwm hs_1 (i := 13) rfl rfl, gwm hs_7 (i := 147) rfl rfl, by decide +kernel, by decide +kernel, by decide +kernel⟩
theorem lb_X12_reads : LB yX12_reads cX12_reads 3 (some .int) 0 := ⟨gwm hs_1 (i := 13) rfl rfl, gwm hs_6 (i := 200) rfl rfl, by decide +kernel, by decide +kernel, by decide +kernel⟩
theorem lb_X12_seesDigit : LB yX12_seesDigit cX12_seesDigit 1 (some .boolean) 0 := ⟨gwm hs_1 (i := 13) rfl rfl, gwm hs_6 (i := 194) rfl rfl, by decide +kernel, by decide +kernel, by decide +kernel⟩
theorem lb_X12_stand : LB yX12_stand cX12_stand 3 (some .boolean) 2 := ⟨gwm hs_1 (i := 13) rfl rfl, gwm hs_7 (i := 217) rfl rfl, by decide +kernel, by decide +kernel, by decide +kernel⟩
theorem lb_X12_stays : LB yX12_stays cX12_stays 2 (some .boolean) 0 := ⟨gwm hs_1 (i := 13) rfl rfl, gwm hs_6 (i := 211) rfl rfl, by decide +kernel, by decide +kernel, by decide +kernel⟩
theorem lb_X12_sums : LB yX12_sums cX12_sums 2 none 1 := ⟨gwm hs_1 (i := 13) rfl rfl, gwm hs_6 (i := 221) rfl rfl, by decide +kernel, by decide +kernel, by decide +kernel⟩
theorem lb_X12_tells : LB yX12_tells cX12_tells 6 (some .int) 3 := ⟨gwm hs_1 (i := 13) rfl rfl, gwm hs_7 (i := 41) rfl rfl, by decide +kernel, by decide +kernel, by decide +kernel⟩
theorem lb_X12_top : LB yX12_top cX12_top 1 (some .int) 0 := ⟨gwm hs_1 (i := 13) rfl rfl, gwm hs_6 (i := 225) rfl rfl, by decide +kernel, by decide +kernel, by decide +kernel⟩
theorem lb_X12_value : LB yX12_value cX12_value 2 none 0 := ⟨gwm hs_1 (i := 13) rfl rfl, gwm hs_6 (i := 178) rfl rfl, by decide +kernel, by decide +kernel, by decide +kernel⟩
theorem lb_X12_valueOf : LB yX12_valueOf cX12_valueOf 2 (some .int) 1 := ⟨gwm hs_1 (i := 13) rfl rfl, gwm hs_7 (i := 56) rfl rfl, by decide +kernel, by decide +kernel, by decide +kernel⟩
theorem lb_X12_wantsOf : LB yX12_wantsOf cX12_wantsOf 7 (some .int) 3 := ⟨gwm hs_1 (i := 13) rfl rfl, gwm hs_7 (i := 108) rfl rfl, by decide +kernel, by decide +kernel, by decide +kernel⟩
theorem lb_X12_worked : LB yX12_worked cX12_worked 3 (some .int) 3 := ⟨gwm hs_1 (i := 13) rfl rfl, gwm hs_7 (i := 52) rfl rfl, by decide +kernel, by decide +kernel, by decide +kernel⟩
theorem lb_X12_works : LB yX12_works cX12_works 5 none 2 := ⟨gwm hs_1 (i := 13) rfl rfl, gwm hs_7 (i := 45) rfl rfl, by decide +kernel, by decide +kernel, by decide +kernel⟩
theorem lb_X12_worthAt : LB yX12_worthAt cX12_worthAt 3 (some .int) 2 := ⟨gwm hs_1 (i := 13) rfl rfl, gwm hs_7 (i := 95) rfl rfl, by decide +kernel, by decide +kernel, by decide +kernel⟩
theorem lb_X12_worthOf : LB yX12_worthOf cX12_worthOf 6 (some .int) 2 := ⟨gwm hs_1 (i := 13) rfl rfl, gwm hs_7 (i := 91) rfl rfl, by decide +kernel, by decide +kernel, by decide +kernel⟩
theorem lb_X12_wrongs : LB yX12_wrongs cX12_wrongs 3 none 2 := ⟨gwm hs_1 (i := 13) rfl rfl, gwm hs_6 (i := 174) rfl rfl, by decide +kernel, by decide +kernel, by decide +kernel⟩
theorem lb_X1_addClause : LB yX1_addClause cX1_addClause 4 none 3 := ⟨gwm hs_1 (i := 4) rfl rfl, gwm hs_3 (i := 188) rfl rfl, by decide +kernel, by decide +kernel, by decide +kernel⟩
theorem lb_X1_addStep : LB yX1_addStep cX1_addStep 3 (some .int) 2 := ⟨gwm hs_1 (i := 4) rfl rfl, gwm hs_3 (i := 78) rfl rfl, by decide +kernel, by decide +kernel, by decide +kernel⟩
theorem lb_X1_aimHere : LB yX1_aimHere cX1_aimHere 2 none 1 := ⟨gwm hs_1 (i := 4) rfl rfl, gwm hs_3 (i := 184) rfl rfl, by decide +kernel, by decide +kernel, by decide +kernel⟩
theorem lb_X1_clauseCount : LB yX1_clauseCount cX1_clauseCount 1 (some .int) 0 := ⟨gwm hs_1 (i := 4) rfl rfl, gwm hs_3 (i := 192) rfl rfl, by decide +kernel, by decide +kernel, by decide +kernel⟩
theorem lb_X1_clear : LB yX1_clear cX1_clear 1 none 0 := ⟨gwm hs_1 (i := 4) rfl rfl, gwm hs_3 (i := 31) rfl rfl, by decide +kernel, by decide +kernel, by decide +kernel⟩
theorem lb_X1_copyFrom : LB yX1_copyFrom cX1_copyFrom 2 none 1 := ⟨gwm hs_1 (i := 4) rfl rfl, gwm hs_3 (i := 196) rfl rfl, by decide +kernel, by decide +kernel, by decide +kernel⟩
theorem lb_X1_joined : LB yX1_joined cX1_joined 3 (some .int) 3 := ⟨gwm hs_1 (i := 4) rfl rfl, gwm hs_4 (i := 33) rfl rfl, by decide +kernel, by decide +kernel, by decide +kernel⟩
theorem lb_X1_reckon : LB yX1_reckon cX1_reckon 9 (some .int) 3 := ⟨gwm hs_1 (i := 4) rfl rfl, gwm hs_4 (i := 29) rfl rfl, by decide +kernel, by decide +kernel, by decide +kernel⟩
theorem lb_X1_stepCount : LB yX1_stepCount cX1_stepCount 1 (some .int) 0 := ⟨gwm hs_1 (i := 4) rfl rfl, gwm hs_3 (i := 47) rfl rfl, by decide +kernel, by decide +kernel, by decide +kernel⟩
theorem lb_X1_valueOf : LB yX1_valueOf cX1_valueOf 5 (some .int) 2 := ⟨gwm hs_1 (i := 4) rfl rfl, gwm hs_4 (i := 25) rfl rfl, by decide +kernel, by decide +kernel, by decide +kernel⟩
theorem lb_X2_choice : LB yX2_choice cX2_choice 9 (some .int) 2 := ⟨gwm hs_1 (i := 7) rfl rfl, gwm hs_4 (i := 64) rfl rfl, by decide +kernel, by decide +kernel, by decide +kernel⟩
theorem lb_X2_onTurn : LB yX2_onTurn cX2_onTurn 2 (some .int) 1 := ⟨gwm hs_1 (i := 7) rfl rfl, gwm hs_4 (i := 101) rfl rfl, by decide +kernel, by decide +kernel, by decide +kernel⟩
theorem lb_X2_placeAfter : LB yX2_placeAfter cX2_placeAfter 2 (some .int) 1 := ⟨gwm hs_1 (i := 7) rfl rfl, gwm hs_4 (i := 116) rfl rfl, by decide +kernel, by decide +kernel, by decide +kernel⟩
theorem lb_X2_placeAfterDays : LB yX2_placeAfterDays cX2_placeAfterDays 3 (some .int) 2 := ⟨gwm hs_1 (i := 7) rfl rfl, gwm hs_4 (i := 203) rfl rfl, by decide +kernel, by decide +kernel, by decide +kernel⟩
theorem lb_X2_quietOn : LB yX2_quietOn cX2_quietOn 3 (some .boolean) 1 := ⟨gwm hs_1 (i := 7) rfl rfl, gwm hs_4 (i := 89) rfl rfl, by decide +kernel, by decide +kernel, by decide +kernel⟩
theorem lb_X2_setKind : LB yX2_setKind cX2_setKind 4 none 3 := ⟨gwm hs_1 (i := 7) rfl rfl, gwm hs_3 (i := 0) rfl rfl, by decide +kernel, by decide +kernel, by decide +kernel⟩
theorem lb_X2_takeRota : LB yX2_takeRota cX2_takeRota 4 (some .boolean) 2 := ⟨gwm hs_1 (i := 7) rfl rfl, gwm hs_2 (i := 216) rfl rfl, by decide +kernel, by decide +kernel, by decide +kernel⟩
theorem lb_X3_look : LB yX3_look cX3_look 11 none 3 := ⟨gwm hs_1 (i := 9) rfl rfl, gwm hs_4 (i := 227) rfl rfl, by decide +kernel, by decide +kernel, by decide +kernel⟩
theorem lb_X3_madeOn : LB yX3_madeOn cX3_madeOn 2 (some .int) 1 := ⟨gwm hs_1 (i := 9) rfl rfl, gwm hs_5 (i := 7) rfl rfl, by decide +kernel, by decide +kernel, by decide +kernel⟩
theorem lb_X3_pickOn : LB yX3_pickOn cX3_pickOn 12 (some .int) 3 := ⟨gwm hs_1 (i := 9) rfl rfl, gwm hs_4 (i := 218) rfl rfl, by decide +kernel, by decide +kernel, by decide +kernel⟩
theorem lb_X3_recall : LB yX3_recall cX3_recall 6 none 4 := ⟨gwm hs_1 (i := 9) rfl rfl, gwm hs_4 (i := 207) rfl rfl, by decide +kernel, by decide +kernel, by decide +kernel⟩
theorem lb_X3_solve : LB yX3_solve cX3_solve 8 none 4 := ⟨gwm hs_1 (i := 9) rfl rfl, gwm hs_4 (i := 198) rfl rfl, by decide +kernel, by decide +kernel, by decide +kernel⟩
theorem lb_X3_sumOf : LB yX3_sumOf cX3_sumOf 2 (some .int) 1 := ⟨gwm hs_1 (i := 9) rfl rfl, gwm hs_5 (i := 3) rfl rfl, by decide +kernel, by decide +kernel, by decide +kernel⟩
theorem lb_X3_tell : LB yX3_tell cX3_tell 6 none 3 := ⟨gwm hs_1 (i := 9) rfl rfl, gwm hs_4 (i := 239) rfl rfl, by decide +kernel, by decide +kernel, by decide +kernel⟩
theorem lb_X3_totalOf : LB yX3_totalOf cX3_totalOf 5 (some .int) 3 := ⟨gwm hs_1 (i := 9) rfl rfl, gwm hs_4 (i := 234) rfl rfl, by decide +kernel, by decide +kernel, by decide +kernel⟩
theorem lb_X4_isDigit : LB yX4_isDigit cX4_isDigit 1 (some .boolean) 1 := ⟨gwm hs_1 (i := 5) rfl rfl, gwm hs_3 (i := 70) rfl rfl, by decide +kernel, by decide +kernel, by decide +kernel⟩
theorem lb_X4_isProductSign : LB yX4_isProductSign cX4_isProductSign 1 (some .boolean) 1 := ⟨gwm hs_1 (i := 5) rfl rfl, gwm hs_3 (i := 164) rfl rfl, by decide +kernel, by decide +kernel, by decide +kernel⟩
theorem lb_X4_opens : LB yX4_opens cX4_opens 2 (some .boolean) 1 := ⟨gwm hs_1 (i := 5) rfl rfl, gwm hs_3 (i := 63) rfl rfl, by decide +kernel, by decide +kernel, by decide +kernel⟩
theorem lb_X4_readAllOf : LB yX4_readAllOf cX4_readAllOf 4 none 1 := ⟨gwm hs_1 (i := 5) rfl rfl, gwm hs_3 (i := 172) rfl rfl, by decide +kernel, by decide +kernel, by decide +kernel⟩
theorem lb_X4_readAnyOf : LB yX4_readAnyOf cX4_readAnyOf 4 none 1 := ⟨gwm hs_1 (i := 5) rfl rfl, gwm hs_3 (i := 168) rfl rfl, by decide +kernel, by decide +kernel, by decide +kernel⟩
theorem lb_X4_readClause : LB yX4_readClause cX4_readClause 5 none 1 := ⟨gwm hs_1 (i := 5) rfl rfl, gwm hs_3 (i := 35) rfl rfl, by decide +kernel, by decide +kernel, by decide +kernel⟩
theorem lb_X4_readComparison : LB yX4_readComparison cX4_readComparison 3 none 1 := ⟨gwm hs_1 (i := 5) rfl rfl, gwm hs_3 (i := 180) rfl rfl, by decide +kernel, by decide +kernel, by decide +kernel⟩
theorem lb_X4_readDigits : LB yX4_readDigits cX4_readDigits 3 none 0 := ⟨gwm hs_1 (i := 5) rfl rfl, gwm hs_3 (i := 74) rfl rfl, by decide +kernel, by decide +kernel, by decide +kernel⟩
theorem lb_X4_readFactor : LB yX4_readFactor cX4_readFactor 4 none 1 := ⟨gwm hs_1 (i := 5) rfl rfl, gwm hs_3 (i := 59) rfl rfl, by decide +kernel, by decide +kernel, by decide +kernel⟩
theorem lb_X4_readFrom : LB yX4_readFrom cX4_readFrom 4 (some .int) 2 := ⟨gwm hs_1 (i := 5) rfl rfl, gwm hs_3 (i := 20) rfl rfl, by decide +kernel, by decide +kernel, by decide +kernel⟩
theorem lb_X4_readPiece : LB yX4_readPiece cX4_readPiece 2 none 1 := ⟨gwm hs_1 (i := 5) rfl rfl, gwm hs_3 (i := 176) rfl rfl, by decide +kernel, by decide +kernel, by decide +kernel⟩
theorem lb_X4_readProduct : LB yX4_readProduct cX4_readProduct 4 none 1 := ⟨gwm hs_1 (i := 5) rfl rfl, gwm hs_3 (i := 55) rfl rfl, by decide +kernel, by decide +kernel, by decide +kernel⟩
theorem lb_X4_readSum : LB yX4_readSum cX4_readSum 4 none 1 := ⟨gwm hs_1 (i := 5) rfl rfl, gwm hs_3 (i := 51) rfl rfl, by decide +kernel, by decide +kernel, by decide +kernel⟩
theorem lb_X4_sign : LB yX4_sign cX4_sign 1 (some .int) 0 := ⟨gwm hs_1 (i := 5) rfl rfl, gwm hs_3 (i := 39) rfl rfl, by decide +kernel, by decide +kernel, by decide +kernel⟩
theorem lb_X4_stop : LB yX4_stop cX4_stop 2 none 1 := ⟨gwm hs_1 (i := 5) rfl rfl, gwm hs_3 (i := 43) rfl rfl, by decide +kernel, by decide +kernel, by decide +kernel⟩
theorem lb_X4_take : LB yX4_take cX4_take 2 none 1 := ⟨gwm hs_1 (i := 5) rfl rfl, gwm hs_3 (i := 67) rfl rfl, by decide +kernel, by decide +kernel, by decide +kernel⟩
theorem lb_X5_find : LB yX5_find cX5_find 8 none 2 := ⟨gwm hs_1 (i := 8) rfl rfl, gwm hs_4 (i := 163) rfl rfl, by decide +kernel, by decide +kernel, by decide +kernel⟩
theorem lb_X5_stateAfter : LB yX5_stateAfter cX5_stateAfter 5 (some .int) 1 := ⟨gwm hs_1 (i := 8) rfl rfl, gwm hs_4 (i := 167) rfl rfl, by decide +kernel, by decide +kernel, by decide +kernel⟩
theorem lb_X5_sumOf : LB yX5_sumOf cX5_sumOf 5 (some .int) 1 := ⟨gwm hs_1 (i := 8) rfl rfl, gwm hs_4 (i := 176) rfl rfl, by decide +kernel, by decide +kernel, by decide +kernel⟩
theorem lb_X6_bareOf : LB yX6_bareOf cX6_bareOf 1 (some .int) 1 := ⟨gwm hs_1 (i := 3) rfl rfl, gwm hs_1 (i := 57) rfl rfl, by decide +kernel, by decide +kernel, by decide +kernel⟩
theorem lb_X6_behind : LB yX6_behind cX6_behind 4 (some .int) 2 := ⟨gwm hs_1 (i := 3) rfl rfl, gwm hs_4 (i := 81) rfl rfl, by decide +kernel, by decide +kernel, by decide +kernel⟩
theorem lb_X6_firstFullOf : LB yX6_firstFullOf cX6_firstFullOf 4 (some .int) 1 := ⟨gwm hs_1 (i := 3) rfl rfl, gwm hs_5 (i := 80) rfl rfl, by decide +kernel, by decide +kernel, by decide +kernel⟩
theorem lb_X6_isFull : LB yX6_isFull cX6_isFull 2 (some .boolean) 1 := ⟨gwm hs_1 (i := 3) rfl rfl, gwm hs_4 (i := 70) rfl rfl, by decide +kernel, by decide +kernel, by decide +kernel⟩
theorem lb_X6_lawOn : LB yX6_lawOn cX6_lawOn 6 (some .int) 2 := ⟨gwm hs_1 (i := 3) rfl rfl, gwm hs_4 (i := 21) rfl rfl, by decide +kernel, by decide +kernel, by decide +kernel⟩
theorem lb_X6_lengthOf : LB yX6_lengthOf cX6_lengthOf 2 (some .int) 1 := ⟨gwm hs_1 (i := 3) rfl rfl, gwm hs_4 (i := 15) rfl rfl, by decide +kernel, by decide +kernel, by decide +kernel⟩
theorem lb_X6_oldestOn : LB yX6_oldestOn cX6_oldestOn 2 (some .int) 1 := ⟨gwm hs_1 (i := 3) rfl rfl, gwm hs_1 (i := 71) rfl rfl, by decide +kernel, by decide +kernel, by decide +kernel⟩
theorem lb_X6_sizeOf : LB yX6_sizeOf cX6_sizeOf 2 (some .int) 1 := ⟨gwm hs_1 (i := 3) rfl rfl, gwm hs_1 (i := 63) rfl rfl, by decide +kernel, by decide +kernel, by decide +kernel⟩
theorem lb_X6_standingOn : LB yX6_standingOn cX6_standingOn 2 (some .int) 1 := ⟨gwm hs_1 (i := 3) rfl rfl, gwm hs_1 (i := 67) rfl rfl, by decide +kernel, by decide +kernel, by decide +kernel⟩
theorem lb_X6_timesOn : LB yX6_timesOn cX6_timesOn 6 (some .int) 2 := ⟨gwm hs_1 (i := 3) rfl rfl, gwm hs_4 (i := 11) rfl rfl, by decide +kernel, by decide +kernel, by decide +kernel⟩
theorem lb_X7_solve : LB yX7_solve cX7_solve 5 (some .int) 3 := ⟨gwm hs_1 (i := 11) rfl rfl, gwm hs_5 (i := 51) rfl rfl, by decide +kernel, by decide +kernel, by decide +kernel⟩
theorem lb_X7_spanBehind : LB yX7_spanBehind cX7_spanBehind 5 (some .int) 3 := ⟨gwm hs_1 (i := 11) rfl rfl, gwm hs_5 (i := 67) rfl rfl, by decide +kernel, by decide +kernel, by decide +kernel⟩
theorem lb_X7_spanFrom : LB yX7_spanFrom cX7_spanFrom 13 (some .int) 3 := ⟨gwm hs_1 (i := 11) rfl rfl, gwm hs_5 (i := 58) rfl rfl, by decide +kernel, by decide +kernel, by decide +kernel⟩
theorem lb_X8_copyFrom : LB yX8_copyFrom cX8_copyFrom 2 none 1 := ⟨gwm hs_1 (i := 12) rfl rfl, gwm hs_4 (i := 146) rfl rfl, by decide +kernel, by decide +kernel, by decide +kernel⟩
theorem lb_X9_byteOn : LB yX9_byteOn cX9_byteOn 2 (some .int) 1 := ⟨gwm hs_1 (i := 2) rfl rfl, gwm hs_2 (i := 220) rfl rfl, by decide +kernel, by decide +kernel, by decide +kernel⟩
theorem lb_X9_clear : LB yX9_clear cX9_clear 1 none 0 := ⟨gwm hs_1 (i := 2) rfl rfl, gwm hs_2 (i := 227) rfl rfl, by decide +kernel, by decide +kernel, by decide +kernel⟩
theorem lb_X9_hasRoom : LB yX9_hasRoom cX9_hasRoom 2 (some .boolean) 1 := ⟨gwm hs_1 (i := 2) rfl rfl, gwm hs_3 (i := 8) rfl rfl, by decide +kernel, by decide +kernel, by decide +kernel⟩
theorem lb_X9_numberOn : LB yX9_numberOn cX9_numberOn 4 (some .int) 1 := ⟨gwm hs_1 (i := 2) rfl rfl, gwm hs_4 (i := 137) rfl rfl, by decide +kernel, by decide +kernel, by decide +kernel⟩
theorem lb_X9_put : LB yX9_put cX9_put 3 none 1 := ⟨gwm hs_1 (i := 2) rfl rfl, gwm hs_3 (i := 12) rfl rfl, by decide +kernel, by decide +kernel, by decide +kernel⟩
theorem lb_X9_size : LB yX9_size cX9_size 1 (some .int) 0 := ⟨gwm hs_1 (i := 2) rfl rfl, gwm hs_2 (i := 212) rfl rfl, by decide +kernel, by decide +kernel, by decide +kernel⟩
theorem bareX6_35 : Cond.fieldLink RX6 35 "NineLaws$Rows" "BARE" "[I" ∈ gw := gwm hs_1 (i := 58) rfl rfl
theorem ckX1_40 : CK RX1 40 := ⟨gwm hs_3 (i := 197) rfl rfl, gwm hs_3 (i := 199) rfl rfl, gwm hs_3 (i := 198) rfl rfl, gwm hs_1 (i := 20) rfl rfl⟩
theorem cnJ6_265 : Cond.constant RJ6 265 1431655765 ∈ gw := gwm hs_5 (i := 89) rfl rfl
theorem cnJ6_266 : Cond.constant RJ6 266 858993459 ∈ gw := gwm hs_5 (i := 90) rfl rfl
theorem cnJ6_267 : Cond.constant RJ6 267 252645135 ∈ gw := gwm hs_5 (i := 91) rfl rfl
theorem cnX11_174 : Cond.constant RX11 174 65535 ∈ gw := gwm hs_3 (i := 210) rfl rfl
theorem cnX11_191 : Cond.constant RX11 191 (-1000000) ∈ gw := gwm hs_4 (i := 56) rfl rfl
theorem cnX11_204 : Cond.constant RX11 204 65536 ∈ gw := gwm hs_4 (i := 121) rfl rfl
theorem cnX12_138 : Cond.constantLong RX12 138 3 ∈ gw := gwm hs_6 (i := 137) rfl rfl
theorem cnX12_147 : Cond.constantLong RX12 147 9 ∈ gw := gwm hs_6 (i := 115) rfl rfl
theorem cnX12_149 : Cond.constantLong RX12 149 255 ∈ gw := gwm hs_6 (i := 119) rfl rfl
theorem cnX12_151 : Cond.constantLong RX12 151 15 ∈ gw := gwm hs_6 (i := 120) rfl rfl
theorem cnX12_156 : Cond.constantLong RX12 156 4 ∈ gw := gwm hs_6 (i := 129) rfl rfl
theorem cnX12_215 : Cond.constantLong RX12 215 48 ∈ gw := gwm hs_6 (i := 195) rfl rfl
theorem cnX12_217 : Cond.constantLong RX12 217 57 ∈ gw := gwm hs_6 (i := 196) rfl rfl
theorem cnX12_283 : Cond.constantLong RX12 283 200 ∈ gw := gwm hs_6 (i := 158) rfl rfl
theorem cnX12_358 : Cond.constant RX12 358 (-1000000000) ∈ gw := gwm hs_7 (i := 109) rfl rfl
theorem cnX12_384 : Cond.constant RX12 384 (-1000000) ∈ gw := gwm hs_7 (i := 96) rfl rfl
theorem cnX12_388 : Cond.constantLong RX12 388 60 ∈ gw := gwm hs_7 (i := 114) rfl rfl
theorem cnX12_390 : Cond.constantLong RX12 390 10 ∈ gw := gwm hs_7 (i := 115) rfl rfl
theorem cnX12_392 : Cond.constantLong RX12 392 13 ∈ gw := gwm hs_7 (i := 116) rfl rfl
theorem cnX12_406 : Cond.constantLong RX12 406 20 ∈ gw := gwm hs_7 (i := 125) rfl rfl
theorem cnX12_408 : Cond.constantLong RX12 408 23 ∈ gw := gwm hs_7 (i := 126) rfl rfl
theorem cnX12_427 : Cond.constantLong RX12 427 8 ∈ gw := gwm hs_7 (i := 138) rfl rfl
theorem cnX12_429 : Cond.constantLong RX12 429 (-1) ∈ gw := gwm hs_7 (i := 139) rfl rfl
theorem cnX12_452 : Cond.constant RX12 452 1000000000 ∈ gw := gwm hs_7 (i := 196) rfl rfl
theorem cnX12_463 : Cond.constant RX12 463 56172 ∈ gw := gwm hs_7 (i := 209) rfl rfl
theorem cnX12_467 : Cond.constantLong RX12 467 2 ∈ gw := gwm hs_7 (i := 222) rfl rfl
theorem cnX12_469 : Cond.constantLong RX12 469 7 ∈ gw := gwm hs_7 (i := 230) rfl rfl
theorem cnX12_480 : Cond.constantLong RX12 480 65535 ∈ gw := gwm hs_8 (i := 11) rfl rfl
theorem cnX12_482 : Cond.constantLong RX12 482 100 ∈ gw := gwm hs_8 (i := 16) rfl rfl
theorem cnX12_484 : Cond.constant RX12 484 65536 ∈ gw := gwm hs_8 (i := 17) rfl rfl
theorem cnX2_66 : Cond.constant RX2 66 (-1000000000) ∈ gw := gwm hs_4 (i := 77) rfl rfl
theorem cnX5_31 : Cond.constant RX5 31 1000000 ∈ gw := gwm hs_4 (i := 172) rfl rfl
theorem flJ0_15 : Cond.fieldLink RJ0 15 "java/lang/String" "coder" "B" ∈ gw := gwm hs_8 (i := 43) rfl rfl
theorem flJ0_38 : Cond.fieldLink RJ0 38 "java/lang/String" "COMPACT_STRINGS" "Z" ∈ gw := gwm hs_3 (i := 92) rfl rfl
theorem flJ0_9 : Cond.fieldLink RJ0 9 "java/lang/String" "value" "[B" ∈ gw := gwm hs_8 (i := 44) rfl rfl
theorem gfX0_13 : GF RX0 13 0 3 := ⟨RX0, TX0, 11, rfl, by decide, ugwX0, rfl, Or.inl (gwm hs_2 (i := 41) rfl rfl)⟩
theorem gfX0_17 : GF RX0 17 0 4 := ⟨RX0, TX0, 11, rfl, by decide, ugwX0, rfl, Or.inl (gwm hs_2 (i := 42) rfl rfl)⟩
theorem gfX0_21 : GF RX0 21 0 8 := ⟨RX0, TX0, 11, rfl, by decide, ugwX0, rfl, Or.inl (gwm hs_2 (i := 47) rfl rfl)⟩
theorem gfX0_25 : GF RX0 25 0 0 := ⟨RX0, TX0, 11, rfl, by decide, ugwX0, rfl, Or.inl (gwm hs_2 (i := 38) rfl rfl)⟩
theorem gfX0_29 : GF RX0 29 0 1 := ⟨RX0, TX0, 11, rfl, by decide, ugwX0, rfl, Or.inl (gwm hs_2 (i := 39) rfl rfl)⟩
theorem gfX0_33 : GF RX0 33 0 2 := ⟨RX0, TX0, 11, rfl, by decide, ugwX0, rfl, Or.inl (gwm hs_2 (i := 40) rfl rfl)⟩
theorem gfX0_37 : GF RX0 37 0 9 := ⟨RX0, TX0, 11, rfl, by decide, ugwX0, rfl, Or.inl (gwm hs_2 (i := 48) rfl rfl)⟩
theorem gfX0_40 : GF RX0 40 8 0 := ⟨RX8, TX8, 5, rfl, by decide, ugwX8, rfl, Or.inr ⟨"NineLaws", nwm hs_2 (i := 106) rfl rfl⟩⟩
theorem gfX0_45 : GF RX0 45 0 10 := ⟨RX0, TX0, 11, rfl, by decide, ugwX0, rfl, Or.inl (gwm hs_2 (i := 49) rfl rfl)⟩
theorem gfX0_48 : GF RX0 48 8 1 := ⟨RX8, TX8, 5, rfl, by decide, ugwX8, rfl, Or.inr ⟨"NineLaws", nwm hs_2 (i := 111) rfl rfl⟩⟩
theorem gfX0_64 : GF RX0 64 0 5 := ⟨RX0, TX0, 11, rfl, by decide, ugwX0, rfl, Or.inl (gwm hs_2 (i := 43) rfl rfl)⟩
theorem gfX0_67 : GF RX0 67 0 6 := ⟨RX0, TX0, 11, rfl, by decide, ugwX0, rfl, Or.inl (gwm hs_2 (i := 44) rfl rfl)⟩
theorem gfX0_98 : GF RX0 98 0 7 := ⟨RX0, TX0, 11, rfl, by decide, ugwX0, rfl, Or.inl (gwm hs_2 (i := 45) rfl rfl)⟩
theorem gfX10_15 : GF RX10 15 10 3 := ⟨RX10, TX10, 11, rfl, by decide, ugwX10, rfl, Or.inl (gwm hs_1 (i := 147) rfl rfl)⟩
theorem gfX10_18 : GF RX10 18 10 4 := ⟨RX10, TX10, 11, rfl, by decide, ugwX10, rfl, Or.inl (gwm hs_1 (i := 148) rfl rfl)⟩
theorem gfX10_21 : GF RX10 21 10 5 := ⟨RX10, TX10, 11, rfl, by decide, ugwX10, rfl, Or.inl (gwm hs_1 (i := 149) rfl rfl)⟩
theorem gfX10_24 : GF RX10 24 10 6 := ⟨RX10, TX10, 11, rfl, by decide, ugwX10, rfl, Or.inl (gwm hs_1 (i := 150) rfl rfl)⟩
theorem gfX10_29 : GF RX10 29 10 7 := ⟨RX10, TX10, 11, rfl, by decide, ugwX10, rfl, Or.inl (gwm hs_1 (i := 151) rfl rfl)⟩
theorem gfX10_33 : GF RX10 33 10 8 := ⟨RX10, TX10, 11, rfl, by decide, ugwX10, rfl, Or.inl (gwm hs_1 (i := 152) rfl rfl)⟩
theorem gfX10_36 : GF RX10 36 10 0 := ⟨RX10, TX10, 11, rfl, by decide, ugwX10, rfl, Or.inl (gwm hs_1 (i := 144) rfl rfl)⟩
theorem gfX10_40 : GF RX10 40 10 1 := ⟨RX10, TX10, 11, rfl, by decide, ugwX10, rfl, Or.inl (gwm hs_1 (i := 145) rfl rfl)⟩
theorem gfX10_44 : GF RX10 44 10 9 := ⟨RX10, TX10, 11, rfl, by decide, ugwX10, rfl, Or.inl (gwm hs_1 (i := 153) rfl rfl)⟩
theorem gfX10_59 : GF RX10 59 10 10 := ⟨RX10, TX10, 11, rfl, by decide, ugwX10, rfl, Or.inl (gwm hs_1 (i := 154) rfl rfl)⟩
theorem gfX10_9 : GF RX10 9 10 2 := ⟨RX10, TX10, 11, rfl, by decide, ugwX10, rfl, Or.inl (gwm hs_1 (i := 146) rfl rfl)⟩
theorem gfX11_10 : GF RX11 10 11 0 := ⟨RX11, TX11, 16, rfl, by decide, ugwX11, rfl, Or.inl (gwm hs_2 (i := 132) rfl rfl)⟩
theorem gfX11_110 : GF RX11 110 11 15 := ⟨RX11, TX11, 16, rfl, by decide, ugwX11, rfl, Or.inl (gwm hs_2 (i := 147) rfl rfl)⟩
theorem gfX11_122 : GF RX11 122 8 0 := ⟨RX8, TX8, 5, rfl, by decide, ugwX8, rfl, Or.inr ⟨"NineLaws", nwm hs_2 (i := 108) rfl rfl⟩⟩
theorem gfX11_125 : GF RX11 125 11 14 := ⟨RX11, TX11, 16, rfl, by decide, ugwX11, rfl, Or.inl (gwm hs_2 (i := 146) rfl rfl)⟩
theorem gfX11_139 : GF RX11 139 8 1 := ⟨RX8, TX8, 5, rfl, by decide, ugwX8, rfl, Or.inr ⟨"NineLaws", nwm hs_2 (i := 114) rfl rfl⟩⟩
theorem gfX11_164 : GF RX11 164 4 1 := ⟨RX4, TX4, 5, rfl, by decide, ugwX4, rfl, Or.inr ⟨"NineLaws", nwm hs_1 (i := 123) rfl rfl⟩⟩
theorem gfX11_175 : GF RX11 175 8 3 := ⟨RX8, TX8, 5, rfl, by decide, ugwX8, rfl, Or.inr ⟨"NineLaws", nwm hs_2 (i := 118) rfl rfl⟩⟩
theorem gfX11_19 : GF RX11 19 11 1 := ⟨RX11, TX11, 16, rfl, by decide, ugwX11, rfl, Or.inl (gwm hs_2 (i := 133) rfl rfl)⟩
theorem gfX11_217 : GF RX11 217 8 2 := ⟨RX8, TX8, 5, rfl, by decide, ugwX8, rfl, Or.inr ⟨"NineLaws", nwm hs_2 (i := 116) rfl rfl⟩⟩
theorem gfX11_223 : GF RX11 223 8 4 := ⟨RX8, TX8, 5, rfl, by decide, ugwX8, rfl, Or.inr ⟨"NineLaws", nwm hs_2 (i := 120) rfl rfl⟩⟩
theorem gfX11_242 : GF RX11 242 5 3 := ⟨RX5, TX5, 6, rfl, by decide, ugwX5, rfl, Or.inr ⟨"NineLaws", nwm hs_1 (i := 214) rfl rfl⟩⟩
theorem gfX11_245 : GF RX11 245 5 4 := ⟨RX5, TX5, 6, rfl, by decide, ugwX5, rfl, Or.inr ⟨"NineLaws", nwm hs_1 (i := 216) rfl rfl⟩⟩
theorem gfX11_26 : GF RX11 26 11 2 := ⟨RX11, TX11, 16, rfl, by decide, ugwX11, rfl, Or.inl (gwm hs_2 (i := 134) rfl rfl)⟩
theorem gfX11_272 : GF RX11 272 0 7 := ⟨RX0, TX0, 11, rfl, by decide, ugwX0, rfl, Or.inr ⟨"NineLaws", nwm hs_2 (i := 46) rfl rfl⟩⟩
theorem gfX11_33 : GF RX11 33 11 3 := ⟨RX11, TX11, 16, rfl, by decide, ugwX11, rfl, Or.inl (gwm hs_2 (i := 135) rfl rfl)⟩
theorem gfX11_42 : GF RX11 42 11 4 := ⟨RX11, TX11, 16, rfl, by decide, ugwX11, rfl, Or.inl (gwm hs_2 (i := 136) rfl rfl)⟩
theorem gfX11_51 : GF RX11 51 11 5 := ⟨RX11, TX11, 16, rfl, by decide, ugwX11, rfl, Or.inl (gwm hs_2 (i := 137) rfl rfl)⟩
theorem gfX11_60 : GF RX11 60 11 6 := ⟨RX11, TX11, 16, rfl, by decide, ugwX11, rfl, Or.inl (gwm hs_2 (i := 138) rfl rfl)⟩
theorem gfX11_67 : GF RX11 67 11 7 := ⟨RX11, TX11, 16, rfl, by decide, ugwX11, rfl, Or.inl (gwm hs_2 (i := 139) rfl rfl)⟩
theorem gfX11_74 : GF RX11 74 11 8 := ⟨RX11, TX11, 16, rfl, by decide, ugwX11, rfl, Or.inl (gwm hs_2 (i := 140) rfl rfl)⟩
theorem gfX11_81 : GF RX11 81 11 9 := ⟨RX11, TX11, 16, rfl, by decide, ugwX11, rfl, Or.inl (gwm hs_2 (i := 141) rfl rfl)⟩
theorem gfX11_88 : GF RX11 88 11 10 := ⟨RX11, TX11, 16, rfl, by decide, ugwX11, rfl, Or.inl (gwm hs_2 (i := 142) rfl rfl)⟩
theorem gfX11_92 : GF RX11 92 11 11 := ⟨RX11, TX11, 16, rfl, by decide, ugwX11, rfl, Or.inl (gwm hs_2 (i := 143) rfl rfl)⟩
theorem gfX11_95 : GF RX11 95 11 12 := ⟨RX11, TX11, 16, rfl, by decide, ugwX11, rfl, Or.inl (gwm hs_2 (i := 144) rfl rfl)⟩
theorem gfX11_99 : GF RX11 99 11 13 := ⟨RX11, TX11, 16, rfl, by decide, ugwX11, rfl, Or.inl (gwm hs_2 (i := 145) rfl rfl)⟩
theorem gfX12_100 : GF RX12 100 12 53 := ⟨RX12, TX12, 74, rfl, by decide, ugwX12, rfl, Or.inl (gwm hs_5 (i := 180) rfl rfl)⟩
theorem gfX12_103 : GF RX12 103 12 54 := ⟨RX12, TX12, 74, rfl, by decide, ugwX12, rfl, Or.inl (gwm hs_5 (i := 181) rfl rfl)⟩
theorem gfX12_106 : GF RX12 106 12 55 := ⟨RX12, TX12, 74, rfl, by decide, ugwX12, rfl, Or.inl (gwm hs_5 (i := 182) rfl rfl)⟩
theorem gfX12_109 : GF RX12 109 12 56 := ⟨RX12, TX12, 74, rfl, by decide, ugwX12, rfl, Or.inl (gwm hs_5 (i := 183) rfl rfl)⟩
theorem gfX12_112 : GF RX12 112 12 57 := ⟨RX12, TX12, 74, rfl, by decide, ugwX12, rfl, Or.inl (gwm hs_5 (i := 184) rfl rfl)⟩
theorem gfX12_115 : GF RX12 115 12 58 := ⟨RX12, TX12, 74, rfl, by decide, ugwX12, rfl, Or.inl (gwm hs_5 (i := 185) rfl rfl)⟩
theorem gfX12_118 : GF RX12 118 12 59 := ⟨RX12, TX12, 74, rfl, by decide, ugwX12, rfl, Or.inl (gwm hs_5 (i := 186) rfl rfl)⟩
theorem gfX12_122 : GF RX12 122 12 63 := ⟨RX12, TX12, 74, rfl, by decide, ugwX12, rfl, Or.inl (gwm hs_5 (i := 190) rfl rfl)⟩
theorem gfX12_125 : GF RX12 125 12 64 := ⟨RX12, TX12, 74, rfl, by decide, ugwX12, rfl, Or.inl (gwm hs_5 (i := 191) rfl rfl)⟩
theorem gfX12_129 : GF RX12 129 12 65 := ⟨RX12, TX12, 74, rfl, by decide, ugwX12, rfl, Or.inl (gwm hs_5 (i := 192) rfl rfl)⟩
theorem gfX12_13 : GF RX12 13 12 3 := ⟨RX12, TX12, 74, rfl, by decide, ugwX12, rfl, Or.inl (gwm hs_5 (i := 130) rfl rfl)⟩
theorem gfX12_132 : GF RX12 132 12 66 := ⟨RX12, TX12, 74, rfl, by decide, ugwX12, rfl, Or.inl (gwm hs_5 (i := 193) rfl rfl)⟩
theorem gfX12_135 : GF RX12 135 12 67 := ⟨RX12, TX12, 74, rfl, by decide, ugwX12, rfl, Or.inl (gwm hs_5 (i := 194) rfl rfl)⟩
theorem gfX12_144 : GF RX12 144 12 2 := ⟨RX12, TX12, 74, rfl, by decide, ugwX12, rfl, Or.inl (gwm hs_5 (i := 129) rfl rfl)⟩
theorem gfX12_158 : GF RX12 158 12 4 := ⟨RX12, TX12, 74, rfl, by decide, ugwX12, rfl, Or.inl (gwm hs_5 (i := 131) rfl rfl)⟩
theorem gfX12_161 : GF RX12 161 12 68 := ⟨RX12, TX12, 74, rfl, by decide, ugwX12, rfl, Or.inl (gwm hs_5 (i := 195) rfl rfl)⟩
theorem gfX12_165 : GF RX12 165 12 1 := ⟨RX12, TX12, 74, rfl, by decide, ugwX12, rfl, Or.inl (gwm hs_5 (i := 128) rfl rfl)⟩
theorem gfX12_17 : GF RX12 17 12 5 := ⟨RX12, TX12, 74, rfl, by decide, ugwX12, rfl, Or.inl (gwm hs_5 (i := 132) rfl rfl)⟩
theorem gfX12_172 : GF RX12 172 12 6 := ⟨RX12, TX12, 74, rfl, by decide, ugwX12, rfl, Or.inl (gwm hs_5 (i := 133) rfl rfl)⟩
theorem gfX12_182 : GF RX12 182 12 30 := ⟨RX12, TX12, 74, rfl, by decide, ugwX12, rfl, Or.inl (gwm hs_5 (i := 157) rfl rfl)⟩
theorem gfX12_185 : GF RX12 185 12 31 := ⟨RX12, TX12, 74, rfl, by decide, ugwX12, rfl, Or.inl (gwm hs_5 (i := 158) rfl rfl)⟩
theorem gfX12_188 : GF RX12 188 12 32 := ⟨RX12, TX12, 74, rfl, by decide, ugwX12, rfl, Or.inl (gwm hs_5 (i := 159) rfl rfl)⟩
theorem gfX12_195 : GF RX12 195 12 34 := ⟨RX12, TX12, 74, rfl, by decide, ugwX12, rfl, Or.inl (gwm hs_5 (i := 161) rfl rfl)⟩
theorem gfX12_198 : GF RX12 198 12 36 := ⟨RX12, TX12, 74, rfl, by decide, ugwX12, rfl, Or.inl (gwm hs_5 (i := 163) rfl rfl)⟩
theorem gfX12_20 : GF RX12 20 12 8 := ⟨RX12, TX12, 74, rfl, by decide, ugwX12, rfl, Or.inl (gwm hs_5 (i := 135) rfl rfl)⟩
theorem gfX12_201 : GF RX12 201 12 35 := ⟨RX12, TX12, 74, rfl, by decide, ugwX12, rfl, Or.inl (gwm hs_5 (i := 162) rfl rfl)⟩
theorem gfX12_23 : GF RX12 23 12 10 := ⟨RX12, TX12, 74, rfl, by decide, ugwX12, rfl, Or.inl (gwm hs_5 (i := 137) rfl rfl)⟩
theorem gfX12_247 : GF RX12 247 12 38 := ⟨RX12, TX12, 74, rfl, by decide, ugwX12, rfl, Or.inl (gwm hs_5 (i := 165) rfl rfl)⟩
theorem gfX12_268 : GF RX12 268 12 37 := ⟨RX12, TX12, 74, rfl, by decide, ugwX12, rfl, Or.inl (gwm hs_5 (i := 164) rfl rfl)⟩
theorem gfX12_27 : GF RX12 27 12 11 := ⟨RX12, TX12, 74, rfl, by decide, ugwX12, rfl, Or.inl (gwm hs_5 (i := 138) rfl rfl)⟩
theorem gfX12_277 : GF RX12 277 12 33 := ⟨RX12, TX12, 74, rfl, by decide, ugwX12, rfl, Or.inl (gwm hs_5 (i := 160) rfl rfl)⟩
theorem gfX12_288 : GF RX12 288 12 17 := ⟨RX12, TX12, 74, rfl, by decide, ugwX12, rfl, Or.inl (gwm hs_5 (i := 144) rfl rfl)⟩
theorem gfX12_291 : GF RX12 291 12 40 := ⟨RX12, TX12, 74, rfl, by decide, ugwX12, rfl, Or.inl (gwm hs_5 (i := 167) rfl rfl)⟩
theorem gfX12_294 : GF RX12 294 12 41 := ⟨RX12, TX12, 74, rfl, by decide, ugwX12, rfl, Or.inl (gwm hs_5 (i := 168) rfl rfl)⟩
theorem gfX12_297 : GF RX12 297 12 48 := ⟨RX12, TX12, 74, rfl, by decide, ugwX12, rfl, Or.inl (gwm hs_5 (i := 175) rfl rfl)⟩
theorem gfX12_30 : GF RX12 30 12 12 := ⟨RX12, TX12, 74, rfl, by decide, ugwX12, rfl, Or.inl (gwm hs_5 (i := 139) rfl rfl)⟩
theorem gfX12_300 : GF RX12 300 12 42 := ⟨RX12, TX12, 74, rfl, by decide, ugwX12, rfl, Or.inl (gwm hs_5 (i := 169) rfl rfl)⟩
theorem gfX12_303 : GF RX12 303 12 43 := ⟨RX12, TX12, 74, rfl, by decide, ugwX12, rfl, Or.inl (gwm hs_5 (i := 170) rfl rfl)⟩
theorem gfX12_306 : GF RX12 306 12 44 := ⟨RX12, TX12, 74, rfl, by decide, ugwX12, rfl, Or.inl (gwm hs_5 (i := 171) rfl rfl)⟩
theorem gfX12_329 : GF RX12 329 12 49 := ⟨RX12, TX12, 74, rfl, by decide, ugwX12, rfl, Or.inl (gwm hs_5 (i := 176) rfl rfl)⟩
theorem gfX12_33 : GF RX12 33 12 13 := ⟨RX12, TX12, 74, rfl, by decide, ugwX12, rfl, Or.inl (gwm hs_5 (i := 140) rfl rfl)⟩
theorem gfX12_332 : GF RX12 332 12 50 := ⟨RX12, TX12, 74, rfl, by decide, ugwX12, rfl, Or.inl (gwm hs_5 (i := 177) rfl rfl)⟩
theorem gfX12_36 : GF RX12 36 12 14 := ⟨RX12, TX12, 74, rfl, by decide, ugwX12, rfl, Or.inl (gwm hs_5 (i := 141) rfl rfl)⟩
theorem gfX12_372 : GF RX12 372 12 9 := ⟨RX12, TX12, 74, rfl, by decide, ugwX12, rfl, Or.inl (gwm hs_5 (i := 136) rfl rfl)⟩
theorem gfX12_375 : GF RX12 375 12 7 := ⟨RX12, TX12, 74, rfl, by decide, ugwX12, rfl, Or.inl (gwm hs_5 (i := 134) rfl rfl)⟩
theorem gfX12_39 : GF RX12 39 12 15 := ⟨RX12, TX12, 74, rfl, by decide, ugwX12, rfl, Or.inl (gwm hs_5 (i := 142) rfl rfl)⟩
theorem gfX12_397 : GF RX12 397 12 60 := ⟨RX12, TX12, 74, rfl, by decide, ugwX12, rfl, Or.inl (gwm hs_5 (i := 187) rfl rfl)⟩
theorem gfX12_400 : GF RX12 400 12 61 := ⟨RX12, TX12, 74, rfl, by decide, ugwX12, rfl, Or.inl (gwm hs_5 (i := 188) rfl rfl)⟩
theorem gfX12_403 : GF RX12 403 12 62 := ⟨RX12, TX12, 74, rfl, by decide, ugwX12, rfl, Or.inl (gwm hs_5 (i := 189) rfl rfl)⟩
theorem gfX12_42 : GF RX12 42 12 16 := ⟨RX12, TX12, 74, rfl, by decide, ugwX12, rfl, Or.inl (gwm hs_5 (i := 143) rfl rfl)⟩
theorem gfX12_45 : GF RX12 45 12 18 := ⟨RX12, TX12, 74, rfl, by decide, ugwX12, rfl, Or.inl (gwm hs_5 (i := 145) rfl rfl)⟩
theorem gfX12_48 : GF RX12 48 12 19 := ⟨RX12, TX12, 74, rfl, by decide, ugwX12, rfl, Or.inl (gwm hs_5 (i := 146) rfl rfl)⟩
theorem gfX12_485 : GF RX12 485 12 69 := ⟨RX12, TX12, 74, rfl, by decide, ugwX12, rfl, Or.inl (gwm hs_5 (i := 196) rfl rfl)⟩
theorem gfX12_488 : GF RX12 488 12 70 := ⟨RX12, TX12, 74, rfl, by decide, ugwX12, rfl, Or.inl (gwm hs_5 (i := 197) rfl rfl)⟩
theorem gfX12_491 : GF RX12 491 12 71 := ⟨RX12, TX12, 74, rfl, by decide, ugwX12, rfl, Or.inl (gwm hs_5 (i := 198) rfl rfl)⟩
theorem gfX12_494 : GF RX12 494 12 72 := ⟨RX12, TX12, 74, rfl, by decide, ugwX12, rfl, Or.inl (gwm hs_5 (i := 199) rfl rfl)⟩
theorem gfX12_497 : GF RX12 497 12 73 := ⟨RX12, TX12, 74, rfl, by decide, ugwX12, rfl, Or.inl (gwm hs_5 (i := 200) rfl rfl)⟩
theorem gfX12_51 : GF RX12 51 12 20 := ⟨RX12, TX12, 74, rfl, by decide, ugwX12, rfl, Or.inl (gwm hs_5 (i := 147) rfl rfl)⟩
theorem gfX12_54 : GF RX12 54 12 21 := ⟨RX12, TX12, 74, rfl, by decide, ugwX12, rfl, Or.inl (gwm hs_5 (i := 148) rfl rfl)⟩
theorem gfX12_57 : GF RX12 57 12 22 := ⟨RX12, TX12, 74, rfl, by decide, ugwX12, rfl, Or.inl (gwm hs_5 (i := 149) rfl rfl)⟩
theorem gfX12_60 : GF RX12 60 12 23 := ⟨RX12, TX12, 74, rfl, by decide, ugwX12, rfl, Or.inl (gwm hs_5 (i := 150) rfl rfl)⟩
theorem gfX12_63 : GF RX12 63 12 24 := ⟨RX12, TX12, 74, rfl, by decide, ugwX12, rfl, Or.inl (gwm hs_5 (i := 151) rfl rfl)⟩
theorem gfX12_66 : GF RX12 66 12 25 := ⟨RX12, TX12, 74, rfl, by decide, ugwX12, rfl, Or.inl (gwm hs_5 (i := 152) rfl rfl)⟩
theorem gfX12_69 : GF RX12 69 12 26 := ⟨RX12, TX12, 74, rfl, by decide, ugwX12, rfl, Or.inl (gwm hs_5 (i := 153) rfl rfl)⟩
theorem gfX12_7 : GF RX12 7 12 0 := ⟨RX12, TX12, 74, rfl, by decide, ugwX12, rfl, Or.inl (gwm hs_5 (i := 127) rfl rfl)⟩
theorem gfX12_72 : GF RX12 72 12 27 := ⟨RX12, TX12, 74, rfl, by decide, ugwX12, rfl, Or.inl (gwm hs_5 (i := 154) rfl rfl)⟩
theorem gfX12_75 : GF RX12 75 12 28 := ⟨RX12, TX12, 74, rfl, by decide, ugwX12, rfl, Or.inl (gwm hs_5 (i := 155) rfl rfl)⟩
theorem gfX12_78 : GF RX12 78 12 29 := ⟨RX12, TX12, 74, rfl, by decide, ugwX12, rfl, Or.inl (gwm hs_5 (i := 156) rfl rfl)⟩
theorem gfX12_81 : GF RX12 81 12 39 := ⟨RX12, TX12, 74, rfl, by decide, ugwX12, rfl, Or.inl (gwm hs_5 (i := 166) rfl rfl)⟩
theorem gfX12_84 : GF RX12 84 12 45 := ⟨RX12, TX12, 74, rfl, by decide, ugwX12, rfl, Or.inl (gwm hs_5 (i := 172) rfl rfl)⟩
theorem gfX12_87 : GF RX12 87 12 46 := ⟨RX12, TX12, 74, rfl, by decide, ugwX12, rfl, Or.inl (gwm hs_5 (i := 173) rfl rfl)⟩
theorem gfX12_91 : GF RX12 91 12 47 := ⟨RX12, TX12, 74, rfl, by decide, ugwX12, rfl, Or.inl (gwm hs_5 (i := 174) rfl rfl)⟩
theorem gfX12_94 : GF RX12 94 12 51 := ⟨RX12, TX12, 74, rfl, by decide, ugwX12, rfl, Or.inl (gwm hs_5 (i := 178) rfl rfl)⟩
theorem gfX12_97 : GF RX12 97 12 52 := ⟨RX12, TX12, 74, rfl, by decide, ugwX12, rfl, Or.inl (gwm hs_5 (i := 179) rfl rfl)⟩
theorem gfX1_15 : GF RX1 15 1 1 := ⟨RX1, TX1, 9, rfl, by decide, ugwX1, rfl, Or.inl (gwm hs_1 (i := 86) rfl rfl)⟩
theorem gfX1_18 : GF RX1 18 1 2 := ⟨RX1, TX1, 9, rfl, by decide, ugwX1, rfl, Or.inl (gwm hs_1 (i := 87) rfl rfl)⟩
theorem gfX1_21 : GF RX1 21 1 3 := ⟨RX1, TX1, 9, rfl, by decide, ugwX1, rfl, Or.inl (gwm hs_1 (i := 88) rfl rfl)⟩
theorem gfX1_24 : GF RX1 24 1 4 := ⟨RX1, TX1, 9, rfl, by decide, ugwX1, rfl, Or.inl (gwm hs_1 (i := 89) rfl rfl)⟩
theorem gfX1_27 : GF RX1 27 1 5 := ⟨RX1, TX1, 9, rfl, by decide, ugwX1, rfl, Or.inl (gwm hs_1 (i := 90) rfl rfl)⟩
theorem gfX1_30 : GF RX1 30 1 6 := ⟨RX1, TX1, 9, rfl, by decide, ugwX1, rfl, Or.inl (gwm hs_1 (i := 91) rfl rfl)⟩
theorem gfX1_33 : GF RX1 33 1 8 := ⟨RX1, TX1, 9, rfl, by decide, ugwX1, rfl, Or.inl (gwm hs_1 (i := 93) rfl rfl)⟩
theorem gfX1_37 : GF RX1 37 1 7 := ⟨RX1, TX1, 9, rfl, by decide, ugwX1, rfl, Or.inl (gwm hs_1 (i := 92) rfl rfl)⟩
theorem gfX1_9 : GF RX1 9 1 0 := ⟨RX1, TX1, 9, rfl, by decide, ugwX1, rfl, Or.inl (gwm hs_1 (i := 85) rfl rfl)⟩
theorem gfX2_15 : GF RX2 15 2 3 := ⟨RX2, TX2, 6, rfl, by decide, ugwX2, rfl, Or.inl (gwm hs_1 (i := 188) rfl rfl)⟩
theorem gfX2_18 : GF RX2 18 2 4 := ⟨RX2, TX2, 6, rfl, by decide, ugwX2, rfl, Or.inl (gwm hs_1 (i := 189) rfl rfl)⟩
theorem gfX2_21 : GF RX2 21 2 5 := ⟨RX2, TX2, 6, rfl, by decide, ugwX2, rfl, Or.inl (gwm hs_1 (i := 190) rfl rfl)⟩
theorem gfX2_25 : GF RX2 25 2 0 := ⟨RX2, TX2, 6, rfl, by decide, ugwX2, rfl, Or.inl (gwm hs_1 (i := 185) rfl rfl)⟩
theorem gfX2_29 : GF RX2 29 2 1 := ⟨RX2, TX2, 6, rfl, by decide, ugwX2, rfl, Or.inl (gwm hs_1 (i := 186) rfl rfl)⟩
theorem gfX2_9 : GF RX2 9 2 2 := ⟨RX2, TX2, 6, rfl, by decide, ugwX2, rfl, Or.inl (gwm hs_1 (i := 187) rfl rfl)⟩
theorem gfX3_11 : GF RX3 11 3 3 := ⟨RX3, TX3, 11, rfl, by decide, ugwX3, rfl, Or.inl (gwm hs_2 (i := 1) rfl rfl)⟩
theorem gfX3_18 : GF RX3 18 3 4 := ⟨RX3, TX3, 11, rfl, by decide, ugwX3, rfl, Or.inl (gwm hs_2 (i := 2) rfl rfl)⟩
theorem gfX3_21 : GF RX3 21 3 5 := ⟨RX3, TX3, 11, rfl, by decide, ugwX3, rfl, Or.inl (gwm hs_2 (i := 3) rfl rfl)⟩
theorem gfX3_25 : GF RX3 25 3 6 := ⟨RX3, TX3, 11, rfl, by decide, ugwX3, rfl, Or.inl (gwm hs_2 (i := 4) rfl rfl)⟩
theorem gfX3_28 : GF RX3 28 3 8 := ⟨RX3, TX3, 11, rfl, by decide, ugwX3, rfl, Or.inl (gwm hs_2 (i := 6) rfl rfl)⟩
theorem gfX3_32 : GF RX3 32 3 0 := ⟨RX3, TX3, 11, rfl, by decide, ugwX3, rfl, Or.inl (gwm hs_1 (i := 238) rfl rfl)⟩
theorem gfX3_36 : GF RX3 36 3 1 := ⟨RX3, TX3, 11, rfl, by decide, ugwX3, rfl, Or.inl (gwm hs_1 (i := 239) rfl rfl)⟩
theorem gfX3_40 : GF RX3 40 3 2 := ⟨RX3, TX3, 11, rfl, by decide, ugwX3, rfl, Or.inl (gwm hs_2 (i := 0) rfl rfl)⟩
theorem gfX3_48 : GF RX3 48 8 0 := ⟨RX8, TX8, 5, rfl, by decide, ugwX8, rfl, Or.inr ⟨"NineLaws", nwm hs_2 (i := 109) rfl rfl⟩⟩
theorem gfX3_57 : GF RX3 57 8 1 := ⟨RX8, TX8, 5, rfl, by decide, ugwX8, rfl, Or.inr ⟨"NineLaws", nwm hs_2 (i := 113) rfl rfl⟩⟩
theorem gfX3_90 : GF RX3 90 3 9 := ⟨RX3, TX3, 11, rfl, by decide, ugwX3, rfl, Or.inl (gwm hs_2 (i := 7) rfl rfl)⟩
theorem gfX3_93 : GF RX3 93 3 10 := ⟨RX3, TX3, 11, rfl, by decide, ugwX3, rfl, Or.inl (gwm hs_2 (i := 8) rfl rfl)⟩
theorem gfX3_96 : GF RX3 96 3 7 := ⟨RX3, TX3, 11, rfl, by decide, ugwX3, rfl, Or.inl (gwm hs_2 (i := 5) rfl rfl)⟩
theorem gfX4_18 : GF RX4 18 4 1 := ⟨RX4, TX4, 5, rfl, by decide, ugwX4, rfl, Or.inl (gwm hs_1 (i := 122) rfl rfl)⟩
theorem gfX4_31 : GF RX4 31 4 2 := ⟨RX4, TX4, 5, rfl, by decide, ugwX4, rfl, Or.inl (gwm hs_1 (i := 124) rfl rfl)⟩
theorem gfX4_35 : GF RX4 35 4 3 := ⟨RX4, TX4, 5, rfl, by decide, ugwX4, rfl, Or.inl (gwm hs_1 (i := 125) rfl rfl)⟩
theorem gfX4_38 : GF RX4 38 4 4 := ⟨RX4, TX4, 5, rfl, by decide, ugwX4, rfl, Or.inl (gwm hs_1 (i := 126) rfl rfl)⟩
theorem gfX4_9 : GF RX4 9 4 0 := ⟨RX4, TX4, 5, rfl, by decide, ugwX4, rfl, Or.inl (gwm hs_1 (i := 121) rfl rfl)⟩
theorem gfX5_15 : GF RX5 15 5 0 := ⟨RX5, TX5, 6, rfl, by decide, ugwX5, rfl, Or.inl (gwm hs_1 (i := 210) rfl rfl)⟩
theorem gfX5_19 : GF RX5 19 5 1 := ⟨RX5, TX5, 6, rfl, by decide, ugwX5, rfl, Or.inl (gwm hs_1 (i := 211) rfl rfl)⟩
theorem gfX5_23 : GF RX5 23 5 2 := ⟨RX5, TX5, 6, rfl, by decide, ugwX5, rfl, Or.inl (gwm hs_1 (i := 212) rfl rfl)⟩
theorem gfX5_32 : GF RX5 32 5 5 := ⟨RX5, TX5, 6, rfl, by decide, ugwX5, rfl, Or.inl (gwm hs_1 (i := 217) rfl rfl)⟩
theorem gfX5_35 : GF RX5 35 5 3 := ⟨RX5, TX5, 6, rfl, by decide, ugwX5, rfl, Or.inl (gwm hs_1 (i := 213) rfl rfl)⟩
theorem gfX5_9 : GF RX5 9 5 4 := ⟨RX5, TX5, 6, rfl, by decide, ugwX5, rfl, Or.inl (gwm hs_1 (i := 215) rfl rfl)⟩
theorem gfX6_11 : GF RX6 11 6 0 := ⟨RX6, TX6, 2, rfl, by decide, ugwX6, rfl, Or.inl (gwm hs_1 (i := 72) rfl rfl)⟩
theorem gfX6_15 : GF RX6 15 6 1 := ⟨RX6, TX6, 2, rfl, by decide, ugwX6, rfl, Or.inl (gwm hs_1 (i := 73) rfl rfl)⟩
theorem gfX7_11 : GF RX7 11 7 3 := ⟨RX7, TX7, 6, rfl, by decide, ugwX7, rfl, Or.inl (gwm hs_2 (i := 82) rfl rfl)⟩
theorem gfX7_17 : GF RX7 17 7 0 := ⟨RX7, TX7, 6, rfl, by decide, ugwX7, rfl, Or.inl (gwm hs_2 (i := 79) rfl rfl)⟩
theorem gfX7_21 : GF RX7 21 7 1 := ⟨RX7, TX7, 6, rfl, by decide, ugwX7, rfl, Or.inl (gwm hs_2 (i := 80) rfl rfl)⟩
theorem gfX7_25 : GF RX7 25 7 2 := ⟨RX7, TX7, 6, rfl, by decide, ugwX7, rfl, Or.inl (gwm hs_2 (i := 81) rfl rfl)⟩
theorem gfX7_29 : GF RX7 29 7 4 := ⟨RX7, TX7, 6, rfl, by decide, ugwX7, rfl, Or.inl (gwm hs_2 (i := 83) rfl rfl)⟩
theorem gfX7_33 : GF RX7 33 7 5 := ⟨RX7, TX7, 6, rfl, by decide, ugwX7, rfl, Or.inl (gwm hs_2 (i := 84) rfl rfl)⟩
theorem gfX7_36 : GF RX7 36 8 0 := ⟨RX8, TX8, 5, rfl, by decide, ugwX8, rfl, Or.inr ⟨"NineLaws", nwm hs_2 (i := 107) rfl rfl⟩⟩
theorem gfX7_54 : GF RX7 54 8 1 := ⟨RX8, TX8, 5, rfl, by decide, ugwX8, rfl, Or.inr ⟨"NineLaws", nwm hs_2 (i := 112) rfl rfl⟩⟩
theorem gfX8_13 : GF RX8 13 8 0 := ⟨RX8, TX8, 5, rfl, by decide, ugwX8, rfl, Or.inl (gwm hs_2 (i := 105) rfl rfl)⟩
theorem gfX8_19 : GF RX8 19 8 3 := ⟨RX8, TX8, 5, rfl, by decide, ugwX8, rfl, Or.inl (gwm hs_2 (i := 117) rfl rfl)⟩
theorem gfX8_22 : GF RX8 22 8 1 := ⟨RX8, TX8, 5, rfl, by decide, ugwX8, rfl, Or.inl (gwm hs_2 (i := 110) rfl rfl)⟩
theorem gfX8_25 : GF RX8 25 8 2 := ⟨RX8, TX8, 5, rfl, by decide, ugwX8, rfl, Or.inl (gwm hs_2 (i := 115) rfl rfl)⟩
theorem gfX8_28 : GF RX8 28 8 4 := ⟨RX8, TX8, 5, rfl, by decide, ugwX8, rfl, Or.inl (gwm hs_2 (i := 119) rfl rfl)⟩
theorem gfX9_11 : GF RX9 11 9 0 := ⟨RX9, TX9, 2, rfl, by decide, ugwX9, rfl, Or.inl (gwm hs_1 (i := 37) rfl rfl)⟩
theorem gfX9_15 : GF RX9 15 9 1 := ⟨RX9, TX9, 2, rfl, by decide, ugwX9, rfl, Or.inl (gwm hs_1 (i := 38) rfl rfl)⟩
theorem lkJ0_335 : LV RJ0 335 yJ0_coder_7d493 cJ0_coder_7d493 1 (some .byte) 0 := ⟨lb_J0_coder_7d493, gwm hs_3 (i := 98) rfl rfl, gwm hs_3 (i := 99) rfl rfl, gwm hs_3 (i := 100) rfl rfl⟩
theorem lkJ0_492 : LV RJ0 492 yJ0_isLatin1_aae02 cJ0_isLatin1_aae02 1 (some .boolean) 0 := ⟨lb_J0_isLatin1_aae02, gwm hs_3 (i := 88) rfl rfl, gwm hs_3 (i := 89) rfl rfl, gwm hs_3 (i := 90) rfl rfl⟩
theorem lkJ0_505 : LV RJ0 505 yJ0_length_8abf5 cJ0_length_8abf5 1 (some .int) 0 := ⟨lb_J0_length_8abf5, gwm hs_3 (i := 94) rfl rfl, gwm hs_3 (i := 95) rfl rfl, gwm hs_3 (i := 96) rfl rfl⟩
theorem lkJ0_633 : LV RJ0 633 yJ0_indexOf_7cf53 cJ0_indexOf_7cf53 3 (some .int) 2 := ⟨lb_J0_indexOf_7cf53, gwm hs_3 (i := 84) rfl rfl, gwm hs_3 (i := 85) rfl rfl, gwm hs_3 (i := 86) rfl rfl⟩
theorem lkJ0_637 : LT RJ0 637 yJ1_indexOf_4cfef cJ1_indexOf_4cfef 4 (some .int) 4 := ⟨lb_J1_indexOf_4cfef, gwm hs_3 (i := 102) rfl rfl, gwm hs_3 (i := 103) rfl rfl⟩
theorem lkJ1_88 : LT RJ1 88 yJ1_canEncode_9a6ad cJ1_canEncode_9a6ad 1 (some .boolean) 1 := ⟨lb_J1_canEncode_9a6ad, gwm hs_3 (i := 105) rfl rfl, gwm hs_3 (i := 106) rfl rfl⟩
theorem lkJ1_95 : LT RJ1 95 yJ1_indexOfChar_4cfef cJ1_indexOfChar_4cfef 6 (some .int) 4 := ⟨lb_J1_indexOfChar_4cfef, gwm hs_3 (i := 110) rfl rfl, gwm hs_3 (i := 111) rfl rfl⟩
theorem lkJ7_13 : LT RJ7 13 yJ7_rangeCheck_23922 cJ7_rangeCheck_23922 3 none 3 := ⟨lb_J7_rangeCheck_23922, gwm hs_4 (i := 212) rfl rfl, gwm hs_4 (i := 213) rfl rfl⟩
theorem lkX0_101 : LV RX0 101 yX2_quietOn cX2_quietOn 3 (some .boolean) 1 := ⟨lb_X2_quietOn, gwm hs_5 (i := 29) rfl rfl, gwm hs_4 (i := 87) rfl rfl, gwm hs_4 (i := 88) rfl rfl⟩
theorem lkX0_105 : LTN RX0 105 yX11_withSlot cX11_withSlot 5 (some .long) 4 := ⟨lb_X11_withSlot, ⟨"NineLaws", nwm hs_5 (i := 30) rfl rfl⟩, gwm hs_4 (i := 36) rfl rfl⟩
theorem lkX0_51 : LV RX0 51 yX6_lengthOf cX6_lengthOf 2 (some .int) 1 := ⟨lb_X6_lengthOf, gwm hs_5 (i := 20) rfl rfl, gwm hs_4 (i := 13) rfl rfl, gwm hs_4 (i := 14) rfl rfl⟩
theorem lkX0_55 : LT RX0 55 yX6_bareOf cX6_bareOf 1 (some .int) 1 := ⟨lb_X6_bareOf, gwm hs_5 (i := 21) rfl rfl, gwm hs_1 (i := 56) rfl rfl⟩
theorem lkX0_58 : LT RX0 58 yJ7_fill_fda19 cJ7_fill_fda19 5 none 4 := ⟨lb_J7_fill_fda19, gwm hs_5 (i := 22) rfl rfl, gwm hs_5 (i := 23) rfl rfl⟩
theorem lkX0_70 : LV RX0 70 yX0_comeTo cX0_comeTo 7 none 4 := ⟨lb_X0_comeTo, gwm hs_5 (i := 25) rfl rfl, gwm hs_5 (i := 27) rfl rfl, gwm hs_0 (i := 28) rfl rfl⟩
theorem lkX0_74 : LTN RX0 74 yX11_slotOf cX11_slotOf 4 (some .int) 3 := ⟨lb_X11_slotOf, ⟨"NineLaws", nwm hs_5 (i := 31) rfl rfl⟩, gwm hs_3 (i := 228) rfl rfl⟩
theorem lkX0_78 : LV RX0 78 yX2_onTurn cX2_onTurn 2 (some .int) 1 := ⟨lb_X2_onTurn, gwm hs_5 (i := 32) rfl rfl, gwm hs_4 (i := 99) rfl rfl, gwm hs_4 (i := 100) rfl rfl⟩
theorem lkX0_83 : LV RX0 83 yX10_mayOf cX10_mayOf 7 (some .int) 2 := ⟨lb_X10_mayOf, gwm hs_5 (i := 33) rfl rfl, gwm hs_3 (i := 216) rfl rfl, gwm hs_3 (i := 217) rfl rfl⟩
theorem lkX0_89 : LV RX0 89 yX2_placeAfter cX2_placeAfter 2 (some .int) 1 := ⟨lb_X2_placeAfter, gwm hs_5 (i := 34) rfl rfl, gwm hs_4 (i := 114) rfl rfl, gwm hs_4 (i := 115) rfl rfl⟩
theorem lkX0_92 : LV RX0 92 yX6_behind cX6_behind 4 (some .int) 2 := ⟨lb_X6_behind, gwm hs_5 (i := 35) rfl rfl, gwm hs_4 (i := 79) rfl rfl, gwm hs_4 (i := 80) rfl rfl⟩
theorem lkX0_95 : LV RX0 95 yX0_daysTo cX0_daysTo 4 (some .int) 1 := ⟨lb_X0_daysTo, gwm hs_5 (i := 36) rfl rfl, gwm hs_5 (i := 38) rfl rfl, gwm hs_0 (i := 29) rfl rfl⟩
theorem lkX10_101 : LV RX10 101 yX6_oldestOn cX6_oldestOn 2 (some .int) 1 := ⟨lb_X6_oldestOn, gwm hs_4 (i := 17) rfl rfl, gwm hs_1 (i := 69) rfl rfl, gwm hs_1 (i := 70) rfl rfl⟩
theorem lkX10_104 : LV RX10 104 yX10_openTo cX10_openTo 6 (some .int) 2 := ⟨lb_X10_openTo, gwm hs_3 (i := 230) rfl rfl, gwm hs_3 (i := 232) rfl rfl, gwm hs_0 (i := 16) rfl rfl⟩
theorem lkX10_107 : LV RX10 107 yX10_holdingOn cX10_holdingOn 5 (some .int) 1 := ⟨lb_X10_holdingOn, gwm hs_3 (i := 234) rfl rfl, gwm hs_3 (i := 235) rfl rfl, gwm hs_3 (i := 236) rfl rfl⟩
theorem lkX10_110 : LV RX10 110 yX6_timesOn cX6_timesOn 6 (some .int) 2 := ⟨lb_X6_timesOn, gwm hs_4 (i := 8) rfl rfl, gwm hs_4 (i := 9) rfl rfl, gwm hs_4 (i := 10) rfl rfl⟩
theorem lkX10_113 : LV RX10 113 yX6_lengthOf cX6_lengthOf 2 (some .int) 1 := ⟨lb_X6_lengthOf, gwm hs_4 (i := 16) rfl rfl, gwm hs_4 (i := 13) rfl rfl, gwm hs_4 (i := 14) rfl rfl⟩
theorem lkX10_48 : LV RX10 48 yX6_standingOn cX6_standingOn 2 (some .int) 1 := ⟨lb_X6_standingOn, gwm hs_3 (i := 238) rfl rfl, gwm hs_1 (i := 65) rfl rfl, gwm hs_1 (i := 66) rfl rfl⟩
theorem lkX10_52 : LV RX10 52 yX10_allLaws cX10_allLaws 1 (some .int) 0 := ⟨lb_X10_allLaws, gwm hs_3 (i := 239) rfl rfl, gwm hs_4 (i := 0) rfl rfl, gwm hs_4 (i := 1) rfl rfl⟩
theorem lkX10_56 : LV RX10 56 yX10_forget cX10_forget 1 none 0 := ⟨lb_X10_forget, gwm hs_2 (i := 196) rfl rfl, gwm hs_2 (i := 197) rfl rfl, gwm hs_2 (i := 198) rfl rfl⟩
theorem lkX10_63 : LT RX10 63 yJ7_fill_d0a16 cJ7_fill_d0a16 5 none 2 := ⟨lb_J7_fill_d0a16, gwm hs_3 (i := 224) rfl rfl, gwm hs_3 (i := 225) rfl rfl⟩
theorem lkX10_69 : LTN RX10 69 yX11_isPerson cX11_isPerson 1 (some .boolean) 1 := ⟨lb_X11_isPerson, ⟨"NineLaws", nwm hs_3 (i := 219) rfl rfl⟩, gwm hs_2 (i := 222) rfl rfl⟩
theorem lkX10_73 : LV RX10 73 yX10_freshen cX10_freshen 1 none 0 := ⟨lb_X10_freshen, gwm hs_3 (i := 220) rfl rfl, gwm hs_3 (i := 222) rfl rfl, gwm hs_0 (i := 15) rfl rfl⟩
theorem lkX10_76 : LTN RX10 76 yX11_slotOf cX11_slotOf 4 (some .int) 3 := ⟨lb_X11_slotOf, ⟨"NineLaws", nwm hs_3 (i := 227) rfl rfl⟩, gwm hs_3 (i := 228) rfl rfl⟩
theorem lkX10_80 : LV RX10 80 yX6_sizeOf cX6_sizeOf 2 (some .int) 1 := ⟨lb_X6_sizeOf, gwm hs_4 (i := 7) rfl rfl, gwm hs_1 (i := 61) rfl rfl, gwm hs_1 (i := 62) rfl rfl⟩
theorem lkX10_83 : LV RX10 83 yX6_lawOn cX6_lawOn 6 (some .int) 2 := ⟨lb_X6_lawOn, gwm hs_4 (i := 18) rfl rfl, gwm hs_4 (i := 19) rfl rfl, gwm hs_4 (i := 20) rfl rfl⟩
theorem lkX10_87 : LV RX10 87 yX10_describe cX10_describe 7 none 4 := ⟨lb_X10_describe, gwm hs_4 (i := 3) rfl rfl, gwm hs_4 (i := 5) rfl rfl, gwm hs_0 (i := 17) rfl rfl⟩
theorem lkX10_91 : LV RX10 91 yX1_valueOf cX1_valueOf 5 (some .int) 2 := ⟨lb_X1_valueOf, gwm hs_4 (i := 22) rfl rfl, gwm hs_4 (i := 23) rfl rfl, gwm hs_4 (i := 24) rfl rfl⟩
theorem lkX10_97 : LTN RX10 97 yX11_withSlot cX11_withSlot 5 (some .long) 4 := ⟨lb_X11_withSlot, ⟨"NineLaws", nwm hs_4 (i := 35) rfl rfl⟩, gwm hs_4 (i := 36) rfl rfl⟩
theorem lkX11_102 : LT RX11 102 yX11_within cX11_within 2 (some .boolean) 2 := ⟨lb_X11_within, gwm hs_2 (i := 185) rfl rfl, gwm hs_2 (i := 186) rfl rfl⟩
theorem lkX11_106 : LV RX11 106 yX10_lawCount cX10_lawCount 1 (some .int) 0 := ⟨lb_X10_lawCount, gwm hs_2 (i := 188) rfl rfl, gwm hs_2 (i := 189) rfl rfl, gwm hs_2 (i := 190) rfl rfl⟩
theorem lkX11_114 : LV RX11 114 yX10_addLaw cX10_addLaw 5 (some .int) 4 := ⟨lb_X10_addLaw, gwm hs_2 (i := 192) rfl rfl, gwm hs_2 (i := 193) rfl rfl, gwm hs_2 (i := 194) rfl rfl⟩
theorem lkX11_118 : LT RX11 118 yX6_bareOf cX6_bareOf 1 (some .int) 1 := ⟨lb_X6_bareOf, gwm hs_2 (i := 204) rfl rfl, gwm hs_1 (i := 56) rfl rfl⟩
theorem lkX11_129 : LV RX11 129 yX9_size cX9_size 1 (some .int) 0 := ⟨lb_X9_size, gwm hs_2 (i := 209) rfl rfl, gwm hs_2 (i := 210) rfl rfl, gwm hs_2 (i := 211) rfl rfl⟩
theorem lkX11_132 : LV RX11 132 yX2_takeRota cX2_takeRota 4 (some .boolean) 2 := ⟨lb_X2_takeRota, gwm hs_2 (i := 213) rfl rfl, gwm hs_2 (i := 214) rfl rfl, gwm hs_2 (i := 215) rfl rfl⟩
theorem lkX11_136 : LV RX11 136 yX9_clear cX9_clear 1 none 0 := ⟨lb_X9_clear, gwm hs_2 (i := 224) rfl rfl, gwm hs_2 (i := 225) rfl rfl, gwm hs_2 (i := 226) rfl rfl⟩
theorem lkX11_142 : LT RX11 142 yX11_isPerson cX11_isPerson 1 (some .boolean) 1 := ⟨lb_X11_isPerson, gwm hs_2 (i := 232) rfl rfl, gwm hs_2 (i := 222) rfl rfl⟩
theorem lkX11_146 : LV RX11 146 yX11_isLaw cX11_isLaw 2 (some .boolean) 1 := ⟨lb_X11_isLaw, gwm hs_2 (i := 233) rfl rfl, gwm hs_2 (i := 235) rfl rfl, gwm hs_0 (i := 1) rfl rfl⟩
theorem lkX11_149 : LV RX11 149 yX2_setKind cX2_setKind 4 none 3 := ⟨lb_X2_setKind, gwm hs_2 (i := 237) rfl rfl, gwm hs_2 (i := 238) rfl rfl, gwm hs_2 (i := 239) rfl rfl⟩
theorem lkX11_153 : LV RX11 153 yX9_hasRoom cX9_hasRoom 2 (some .boolean) 1 := ⟨lb_X9_hasRoom, gwm hs_3 (i := 5) rfl rfl, gwm hs_3 (i := 6) rfl rfl, gwm hs_3 (i := 7) rfl rfl⟩
theorem lkX11_156 : LV RX11 156 yX9_put cX9_put 3 none 1 := ⟨lb_X9_put, gwm hs_3 (i := 9) rfl rfl, gwm hs_3 (i := 10) rfl rfl, gwm hs_3 (i := 11) rfl rfl⟩
theorem lkX11_160 : LV RX11 160 yX4_readFrom cX4_readFrom 4 (some .int) 2 := ⟨lb_X4_readFrom, gwm hs_3 (i := 17) rfl rfl, gwm hs_3 (i := 18) rfl rfl, gwm hs_3 (i := 19) rfl rfl⟩
theorem lkX11_167 : LV RX11 167 yX1_copyFrom cX1_copyFrom 2 none 1 := ⟨lb_X1_copyFrom, gwm hs_3 (i := 193) rfl rfl, gwm hs_3 (i := 194) rfl rfl, gwm hs_3 (i := 195) rfl rfl⟩
theorem lkX11_171 : LV RX11 171 yX10_forget cX10_forget 1 none 0 := ⟨lb_X10_forget, gwm hs_3 (i := 200) rfl rfl, gwm hs_2 (i := 197) rfl rfl, gwm hs_2 (i := 198) rfl rfl⟩
theorem lkX11_178 : LV RX11 178 yX10_mayOf cX10_mayOf 7 (some .int) 2 := ⟨lb_X10_mayOf, gwm hs_3 (i := 215) rfl rfl, gwm hs_3 (i := 216) rfl rfl, gwm hs_3 (i := 217) rfl rfl⟩
theorem lkX11_182 : LV RX11 182 yX6_lawOn cX6_lawOn 6 (some .int) 2 := ⟨lb_X6_lawOn, gwm hs_4 (i := 42) rfl rfl, gwm hs_4 (i := 19) rfl rfl, gwm hs_4 (i := 20) rfl rfl⟩
theorem lkX11_185 : LV RX11 185 yX10_holdingOn cX10_holdingOn 5 (some .int) 1 := ⟨lb_X10_holdingOn, gwm hs_4 (i := 47) rfl rfl, gwm hs_3 (i := 235) rfl rfl, gwm hs_3 (i := 236) rfl rfl⟩
theorem lkX11_188 : LV RX11 188 yX10_worthOf cX10_worthOf 7 (some .int) 2 := ⟨lb_X10_worthOf, gwm hs_4 (i := 52) rfl rfl, gwm hs_4 (i := 53) rfl rfl, gwm hs_4 (i := 54) rfl rfl⟩
theorem lkX11_192 : LV RX11 192 yX2_choice cX2_choice 9 (some .int) 2 := ⟨lb_X2_choice, gwm hs_4 (i := 61) rfl rfl, gwm hs_4 (i := 62) rfl rfl, gwm hs_4 (i := 63) rfl rfl⟩
theorem lkX11_195 : LV RX11 195 yX2_quietOn cX2_quietOn 3 (some .boolean) 1 := ⟨lb_X2_quietOn, gwm hs_4 (i := 86) rfl rfl, gwm hs_4 (i := 87) rfl rfl, gwm hs_4 (i := 88) rfl rfl⟩
theorem lkX11_198 : LV RX11 198 yX2_onTurn cX2_onTurn 2 (some .int) 1 := ⟨lb_X2_onTurn, gwm hs_4 (i := 98) rfl rfl, gwm hs_4 (i := 99) rfl rfl, gwm hs_4 (i := 100) rfl rfl⟩
theorem lkX11_201 : LV RX11 201 yX11_passDay cX11_passDay 4 (some .int) 2 := ⟨lb_X11_passDay, gwm hs_4 (i := 102) rfl rfl, gwm hs_4 (i := 104) rfl rfl, gwm hs_0 (i := 19) rfl rfl⟩
theorem lkX11_205 : LV RX11 205 yX6_isFull cX6_isFull 2 (some .boolean) 1 := ⟨lb_X6_isFull, gwm hs_4 (i := 106) rfl rfl, gwm hs_4 (i := 68) rfl rfl, gwm hs_4 (i := 69) rfl rfl⟩
theorem lkX11_208 : LV RX11 208 yX6_oldestOn cX6_oldestOn 2 (some .int) 1 := ⟨lb_X6_oldestOn, gwm hs_4 (i := 107) rfl rfl, gwm hs_1 (i := 69) rfl rfl, gwm hs_1 (i := 70) rfl rfl⟩
theorem lkX11_211 : LV RX11 211 yX11_enter cX11_enter 5 none 3 := ⟨lb_X11_enter, gwm hs_4 (i := 108) rfl rfl, gwm hs_4 (i := 110) rfl rfl, gwm hs_0 (i := 20) rfl rfl⟩
theorem lkX11_214 : LV RX11 214 yX6_behind cX6_behind 4 (some .int) 2 := ⟨lb_X6_behind, gwm hs_4 (i := 112) rfl rfl, gwm hs_4 (i := 79) rfl rfl, gwm hs_4 (i := 80) rfl rfl⟩
theorem lkX11_220 : LV RX11 220 yX2_placeAfter cX2_placeAfter 2 (some .int) 1 := ⟨lb_X2_placeAfter, gwm hs_4 (i := 113) rfl rfl, gwm hs_4 (i := 114) rfl rfl, gwm hs_4 (i := 115) rfl rfl⟩
theorem lkX11_226 : LV RX11 226 yX11_firstUnlike cX11_firstUnlike 4 (some .int) 1 := ⟨lb_X11_firstUnlike, gwm hs_4 (i := 130) rfl rfl, gwm hs_4 (i := 132) rfl rfl, gwm hs_0 (i := 21) rfl rfl⟩
theorem lkX11_229 : LV RX11 229 yX9_numberOn cX9_numberOn 4 (some .int) 1 := ⟨lb_X9_numberOn, gwm hs_4 (i := 134) rfl rfl, gwm hs_4 (i := 135) rfl rfl, gwm hs_4 (i := 136) rfl rfl⟩
theorem lkX11_232 : LV RX11 232 yX8_copyFrom cX8_copyFrom 2 none 1 := ⟨lb_X8_copyFrom, gwm hs_4 (i := 143) rfl rfl, gwm hs_4 (i := 144) rfl rfl, gwm hs_4 (i := 145) rfl rfl⟩
theorem lkX11_235 : LV RX11 235 yX6_sizeOf cX6_sizeOf 2 (some .int) 1 := ⟨lb_X6_sizeOf, gwm hs_4 (i := 147) rfl rfl, gwm hs_1 (i := 61) rfl rfl, gwm hs_1 (i := 62) rfl rfl⟩
theorem lkX11_238 : LV RX11 238 yX5_find cX5_find 8 none 2 := ⟨lb_X5_find, gwm hs_4 (i := 160) rfl rfl, gwm hs_4 (i := 161) rfl rfl, gwm hs_4 (i := 162) rfl rfl⟩
theorem lkX11_246 : LV RX11 246 yX5_sumOf cX5_sumOf 5 (some .int) 1 := ⟨lb_X5_sumOf, gwm hs_4 (i := 173) rfl rfl, gwm hs_4 (i := 174) rfl rfl, gwm hs_4 (i := 175) rfl rfl⟩
theorem lkX11_249 : LT RX11 249 yX11_reduced cX11_reduced 4 (some .int) 3 := ⟨lb_X11_reduced, gwm hs_4 (i := 178) rfl rfl, gwm hs_4 (i := 179) rfl rfl⟩
theorem lkX11_253 : LT RX11 253 yX11_commonDivisor cX11_commonDivisor 6 (some .int) 2 := ⟨lb_X11_commonDivisor, gwm hs_4 (i := 181) rfl rfl, gwm hs_4 (i := 182) rfl rfl⟩
theorem lkX11_261 : LV RX11 261 yX3_solve cX3_solve 8 none 4 := ⟨lb_X3_solve, gwm hs_4 (i := 195) rfl rfl, gwm hs_4 (i := 196) rfl rfl, gwm hs_4 (i := 197) rfl rfl⟩
theorem lkX11_265 : LV RX11 265 yX3_sumOf cX3_sumOf 2 (some .int) 1 := ⟨lb_X3_sumOf, gwm hs_5 (i := 0) rfl rfl, gwm hs_5 (i := 1) rfl rfl, gwm hs_5 (i := 2) rfl rfl⟩
theorem lkX11_266 : LV RX11 266 yX3_madeOn cX3_madeOn 2 (some .int) 1 := ⟨lb_X3_madeOn, gwm hs_5 (i := 4) rfl rfl, gwm hs_5 (i := 5) rfl rfl, gwm hs_5 (i := 6) rfl rfl⟩
theorem lkX11_269 : LV RX11 269 yX0_solve cX0_solve 10 none 2 := ⟨lb_X0_solve, gwm hs_5 (i := 16) rfl rfl, gwm hs_5 (i := 17) rfl rfl, gwm hs_5 (i := 18) rfl rfl⟩
theorem lkX11_273 : LV RX11 273 yX0_madeOn cX0_madeOn 4 (some .int) 1 := ⟨lb_X0_madeOn, gwm hs_5 (i := 40) rfl rfl, gwm hs_5 (i := 41) rfl rfl, gwm hs_5 (i := 42) rfl rfl⟩
theorem lkX11_274 : LV RX11 274 yX7_solve cX7_solve 5 (some .int) 3 := ⟨lb_X7_solve, gwm hs_5 (i := 48) rfl rfl, gwm hs_5 (i := 49) rfl rfl, gwm hs_5 (i := 50) rfl rfl⟩
theorem lkX11_277 : LV RX11 277 yX6_lengthOf cX6_lengthOf 2 (some .int) 1 := ⟨lb_X6_lengthOf, gwm hs_5 (i := 77) rfl rfl, gwm hs_4 (i := 13) rfl rfl, gwm hs_4 (i := 14) rfl rfl⟩
theorem lkX11_280 : LT RX11 280 yX6_firstFullOf cX6_firstFullOf 4 (some .int) 1 := ⟨lb_X6_firstFullOf, gwm hs_5 (i := 78) rfl rfl, gwm hs_5 (i := 79) rfl rfl⟩
theorem lkX11_283 : LV RX11 283 yX10_isOfLaws cX10_isOfLaws 2 (some .boolean) 1 := ⟨lb_X10_isOfLaws, gwm hs_5 (i := 81) rfl rfl, gwm hs_5 (i := 82) rfl rfl, gwm hs_5 (i := 83) rfl rfl⟩
theorem lkX11_286 : LV RX11 286 yX6_standingOn cX6_standingOn 2 (some .int) 1 := ⟨lb_X6_standingOn, gwm hs_5 (i := 85) rfl rfl, gwm hs_1 (i := 65) rfl rfl, gwm hs_1 (i := 66) rfl rfl⟩
theorem lkX11_289 : LT RX11 289 yJ6_bitCount_0f7a4 cJ6_bitCount_0f7a4 1 (some .int) 1 := ⟨lb_J6_bitCount_0f7a4, gwm hs_5 (i := 86) rfl rfl, gwm hs_5 (i := 87) rfl rfl⟩
theorem lkX11_294 : LV RX11 294 yX11_worthToAll cX11_worthToAll 4 (some .int) 1 := ⟨lb_X11_worthToAll, gwm hs_5 (i := 92) rfl rfl, gwm hs_5 (i := 94) rfl rfl, gwm hs_0 (i := 32) rfl rfl⟩
theorem lkX11_297 : LV RX11 297 yX11_toldDeedsAreFine cX11_toldDeedsAreFine 3 (some .boolean) 1 := ⟨lb_X11_toldDeedsAreFine, gwm hs_5 (i := 100) rfl rfl, gwm hs_5 (i := 102) rfl rfl, gwm hs_0 (i := 33) rfl rfl⟩
theorem lkX11_300 : LV RX11 300 yX11_reckonFits cX11_reckonFits 9 (some .int) 2 := ⟨lb_X11_reckonFits, gwm hs_5 (i := 105) rfl rfl, gwm hs_5 (i := 107) rfl rfl, gwm hs_0 (i := 34) rfl rfl⟩
theorem lkX11_303 : LV RX11 303 yX9_byteOn cX9_byteOn 2 (some .int) 1 := ⟨lb_X9_byteOn, gwm hs_5 (i := 104) rfl rfl, gwm hs_2 (i := 218) rfl rfl, gwm hs_2 (i := 219) rfl rfl⟩
theorem lkX11_306 : LV RX11 306 yX11_fitsTold cX11_fitsTold 6 (some .boolean) 2 := ⟨lb_X11_fitsTold, gwm hs_5 (i := 109) rfl rfl, gwm hs_5 (i := 111) rfl rfl, gwm hs_0 (i := 35) rfl rfl⟩
theorem lkX11_309 : LV RX11 309 yX10_allLaws cX10_allLaws 1 (some .int) 0 := ⟨lb_X10_allLaws, gwm hs_5 (i := 113) rfl rfl, gwm hs_4 (i := 0) rfl rfl, gwm hs_4 (i := 1) rfl rfl⟩
theorem lkX11_312 : LV RX11 312 yX1_clauseCount cX1_clauseCount 1 (some .int) 0 := ⟨lb_X1_clauseCount, gwm hs_5 (i := 118) rfl rfl, gwm hs_3 (i := 190) rfl rfl, gwm hs_3 (i := 191) rfl rfl⟩
theorem lkX12_140 : LT RX12 140 yX12_lies cX12_lies 6 (some .boolean) 3 := ⟨lb_X12_lies, gwm hs_6 (i := 116) rfl rfl, gwm hs_6 (i := 117) rfl rfl⟩
theorem lkX12_153 : LV RX12 153 yX12_changes cX12_changes 2 none 0 := ⟨lb_X12_changes, gwm hs_6 (i := 121) rfl rfl, gwm hs_6 (i := 123) rfl rfl, gwm hs_0 (i := 36) rfl rfl⟩
theorem lkX12_168 : LT RX12 168 yX12_isMaker cX12_isMaker 1 (some .boolean) 1 := ⟨lb_X12_isMaker, gwm hs_6 (i := 134) rfl rfl, gwm hs_6 (i := 135) rfl rfl⟩
theorem lkX12_175 : LV RX12 175 yX12_isLaw cX12_isLaw 2 (some .boolean) 1 := ⟨lb_X12_isLaw, gwm hs_6 (i := 142) rfl rfl, gwm hs_6 (i := 144) rfl rfl, gwm hs_0 (i := 37) rfl rfl⟩
theorem lkX12_178 : LV RX12 178 yX12_push cX12_push 3 none 1 := ⟨lb_X12_push, gwm hs_6 (i := 150) rfl rfl, gwm hs_6 (i := 152) rfl rfl, gwm hs_0 (i := 38) rfl rfl⟩
theorem lkX12_191 : LV RX12 191 yX12_isGood cX12_isGood 1 (some .boolean) 0 := ⟨lb_X12_isGood, gwm hs_6 (i := 159) rfl rfl, gwm hs_6 (i := 161) rfl rfl, gwm hs_0 (i := 39) rfl rfl⟩
theorem lkX12_204 : LV RX12 204 yX12_wrongs cX12_wrongs 3 none 2 := ⟨lb_X12_wrongs, gwm hs_6 (i := 171) rfl rfl, gwm hs_6 (i := 173) rfl rfl, gwm hs_0 (i := 42) rfl rfl⟩
theorem lkX12_208 : LV RX12 208 yX12_here cX12_here 1 (some .int) 0 := ⟨lb_X12_here, gwm hs_6 (i := 167) rfl rfl, gwm hs_6 (i := 169) rfl rfl, gwm hs_0 (i := 41) rfl rfl⟩
theorem lkX12_212 : LV RX12 212 yX12_puts cX12_puts 2 none 1 := ⟨lb_X12_puts, gwm hs_6 (i := 187) rfl rfl, gwm hs_6 (i := 189) rfl rfl, gwm hs_0 (i := 46) rfl rfl⟩
theorem lkX12_219 : LV RX12 219 yX12_seesDigit cX12_seesDigit 1 (some .boolean) 0 := ⟨lb_X12_seesDigit, gwm hs_6 (i := 191) rfl rfl, gwm hs_6 (i := 193) rfl rfl, gwm hs_0 (i := 47) rfl rfl⟩
theorem lkX12_222 : LV RX12 222 yX12_top cX12_top 1 (some .int) 0 := ⟨lb_X12_top, gwm hs_6 (i := 222) rfl rfl, gwm hs_6 (i := 224) rfl rfl, gwm hs_0 (i := 52) rfl rfl⟩
theorem lkX12_225 : LT RX12 225 yX12_isTimes cX12_isTimes 1 (some .boolean) 1 := ⟨lb_X12_isTimes, gwm hs_6 (i := 212) rfl rfl, gwm hs_6 (i := 213) rfl rfl⟩
theorem lkX12_228 : LT RX12 228 yX12_isPlus cX12_isPlus 1 (some .boolean) 1 := ⟨lb_X12_isPlus, gwm hs_6 (i := 215) rfl rfl, gwm hs_6 (i := 216) rfl rfl⟩
theorem lkX12_231 : LV RX12 231 yX12_emit cX12_emit 3 none 2 := ⟨lb_X12_emit, gwm hs_6 (i := 201) rfl rfl, gwm hs_6 (i := 203) rfl rfl, gwm hs_0 (i := 49) rfl rfl⟩
theorem lkX12_234 : LV RX12 234 yX12_opens cX12_opens 1 none 0 := ⟨lb_X12_opens, gwm hs_6 (i := 183) rfl rfl, gwm hs_6 (i := 185) rfl rfl, gwm hs_0 (i := 45) rfl rfl⟩
theorem lkX12_237 : LV RX12 237 yX12_reads cX12_reads 3 (some .int) 0 := ⟨lb_X12_reads, gwm hs_6 (i := 197) rfl rfl, gwm hs_6 (i := 199) rfl rfl, gwm hs_0 (i := 48) rfl rfl⟩
theorem lkX12_240 : LT RX12 240 yX12_isValue cX12_isValue 1 (some .boolean) 1 := ⟨lb_X12_isValue, gwm hs_6 (i := 205) rfl rfl, gwm hs_6 (i := 206) rfl rfl⟩
theorem lkX12_243 : LV RX12 243 yX12_sums cX12_sums 2 none 1 := ⟨lb_X12_sums, gwm hs_6 (i := 218) rfl rfl, gwm hs_6 (i := 220) rfl rfl, gwm hs_0 (i := 51) rfl rfl⟩
theorem lkX12_250 : LV RX12 250 yX12_factor cX12_factor 1 none 0 := ⟨lb_X12_factor, gwm hs_6 (i := 179) rfl rfl, gwm hs_6 (i := 181) rfl rfl, gwm hs_0 (i := 44) rfl rfl⟩
theorem lkX12_253 : LV RX12 253 yX12_stays cX12_stays 2 (some .boolean) 0 := ⟨lb_X12_stays, gwm hs_6 (i := 208) rfl rfl, gwm hs_6 (i := 210) rfl rfl, gwm hs_0 (i := 50) rfl rfl⟩
theorem lkX12_256 : LV RX12 256 yX12_value cX12_value 2 none 0 := ⟨lb_X12_value, gwm hs_6 (i := 175) rfl rfl, gwm hs_6 (i := 177) rfl rfl, gwm hs_0 (i := 43) rfl rfl⟩
theorem lkX12_259 : LT RX12 259 yX12_isSign cX12_isSign 1 (some .boolean) 1 := ⟨lb_X12_isSign, gwm hs_6 (i := 234) rfl rfl, gwm hs_6 (i := 235) rfl rfl⟩
theorem lkX12_262 : LV RX12 262 yX12_ends cX12_ends 1 none 0 := ⟨lb_X12_ends, gwm hs_6 (i := 237) rfl rfl, gwm hs_6 (i := 239) rfl rfl, gwm hs_0 (i := 55) rfl rfl⟩
theorem lkX12_265 : LV RX12 265 yX12_joins cX12_joins 2 none 1 := ⟨lb_X12_joins, gwm hs_7 (i := 5) rfl rfl, gwm hs_7 (i := 7) rfl rfl, gwm hs_0 (i := 57) rfl rfl⟩
theorem lkX12_271 : LV RX12 271 yX12_pieceOfC cX12_pieceOfC 2 none 0 := ⟨lb_X12_pieceOfC, gwm hs_6 (i := 230) rfl rfl, gwm hs_6 (i := 232) rfl rfl, gwm hs_0 (i := 54) rfl rfl⟩
theorem lkX12_274 : LV RX12 274 yX12_goesBehind cX12_goesBehind 2 (some .boolean) 0 := ⟨lb_X12_goesBehind, gwm hs_7 (i := 1) rfl rfl, gwm hs_7 (i := 3) rfl rfl, gwm hs_0 (i := 56) rfl rfl⟩
theorem lkX12_280 : LV RX12 280 yX12_condition cX12_condition 2 none 0 := ⟨lb_X12_condition, gwm hs_6 (i := 226) rfl rfl, gwm hs_6 (i := 228) rfl rfl, gwm hs_0 (i := 53) rfl rfl⟩
theorem lkX12_285 : LV RX12 285 yX12_clause cX12_clause 2 none 0 := ⟨lb_X12_clause, gwm hs_6 (i := 163) rfl rfl, gwm hs_6 (i := 165) rfl rfl, gwm hs_0 (i := 40) rfl rfl⟩
theorem lkX12_309 : LT RX12 309 yX12_worked cX12_worked 3 (some .int) 3 := ⟨lb_X12_worked, gwm hs_7 (i := 50) rfl rfl, gwm hs_7 (i := 51) rfl rfl⟩
theorem lkX12_313 : LV RX12 313 yX12_does cX12_does 4 none 2 := ⟨lb_X12_does, gwm hs_7 (i := 46) rfl rfl, gwm hs_7 (i := 48) rfl rfl, gwm hs_0 (i := 64) rfl rfl⟩
theorem lkX12_316 : LV RX12 316 yX12_valueOf cX12_valueOf 2 (some .int) 1 := ⟨lb_X12_valueOf, gwm hs_7 (i := 53) rfl rfl, gwm hs_7 (i := 55) rfl rfl, gwm hs_0 (i := 65) rfl rfl⟩
theorem lkX12_320 : LV RX12 320 yX12_works cX12_works 5 none 2 := ⟨lb_X12_works, gwm hs_7 (i := 42) rfl rfl, gwm hs_7 (i := 44) rfl rfl, gwm hs_0 (i := 63) rfl rfl⟩
theorem lkX12_323 : LT RX12 323 yX12_manyOf cX12_manyOf 1 (some .int) 1 := ⟨lb_X12_manyOf, gwm hs_7 (i := 21) rfl rfl, gwm hs_7 (i := 22) rfl rfl⟩
theorem lkX12_326 : LT RX12 326 yX12_firstOf cX12_firstOf 1 (some .int) 1 := ⟨lb_X12_firstOf, gwm hs_7 (i := 24) rfl rfl, gwm hs_7 (i := 25) rfl rfl⟩
theorem lkX12_335 : LT RX12 335 yX12_has cX12_has 2 (some .boolean) 2 := ⟨lb_X12_has, gwm hs_7 (i := 27) rfl rfl, gwm hs_7 (i := 28) rfl rfl⟩
theorem lkX12_339 : LV RX12 339 yX12_laysRow cX12_laysRow 4 none 1 := ⟨lb_X12_laysRow, gwm hs_7 (i := 17) rfl rfl, gwm hs_7 (i := 19) rfl rfl, gwm hs_0 (i := 59) rfl rfl⟩
theorem lkX12_342 : LV RX12 342 yX12_oftenOf cX12_oftenOf 4 (some .int) 1 := ⟨lb_X12_oftenOf, gwm hs_7 (i := 34) rfl rfl, gwm hs_7 (i := 36) rfl rfl, gwm hs_0 (i := 61) rfl rfl⟩
theorem lkX12_345 : LV RX12 345 yX12_tells cX12_tells 6 (some .int) 3 := ⟨lb_X12_tells, gwm hs_7 (i := 38) rfl rfl, gwm hs_7 (i := 40) rfl rfl, gwm hs_0 (i := 62) rfl rfl⟩
theorem lkX12_348 : LV RX12 348 yX12_worthAt cX12_worthAt 3 (some .int) 2 := ⟨lb_X12_worthAt, gwm hs_7 (i := 92) rfl rfl, gwm hs_7 (i := 94) rfl rfl, gwm hs_0 (i := 70) rfl rfl⟩
theorem lkX12_352 : LV RX12 352 yX12_mayMake cX12_mayMake 4 (some .boolean) 2 := ⟨lb_X12_mayMake, gwm hs_7 (i := 30) rfl rfl, gwm hs_7 (i := 32) rfl rfl, gwm hs_0 (i := 60) rfl rfl⟩
theorem lkX12_355 : LV RX12 355 yX12_worthOf cX12_worthOf 6 (some .int) 2 := ⟨lb_X12_worthOf, gwm hs_7 (i := 88) rfl rfl, gwm hs_7 (i := 90) rfl rfl, gwm hs_0 (i := 69) rfl rfl⟩
theorem lkX12_359 : LV RX12 359 yX12_mayOf cX12_mayOf 6 (some .int) 2 := ⟨lb_X12_mayOf, gwm hs_7 (i := 13) rfl rfl, gwm hs_7 (i := 15) rfl rfl, gwm hs_0 (i := 58) rfl rfl⟩
theorem lkX12_362 : LV RX12 362 yX12_behind cX12_behind 7 (some .int) 2 := ⟨lb_X12_behind, gwm hs_7 (i := 69) rfl rfl, gwm hs_7 (i := 71) rfl rfl, gwm hs_0 (i := 68) rfl rfl⟩
theorem lkX12_365 : LV RX12 365 yX12_wantsOf cX12_wantsOf 7 (some .int) 3 := ⟨lb_X12_wantsOf, gwm hs_7 (i := 105) rfl rfl, gwm hs_7 (i := 107) rfl rfl, gwm hs_0 (i := 72) rfl rfl⟩
theorem lkX12_369 : LV RX12 369 yX12_oldestOf cX12_oldestOf 2 (some .int) 1 := ⟨lb_X12_oldestOf, gwm hs_7 (i := 65) rfl rfl, gwm hs_7 (i := 67) rfl rfl, gwm hs_0 (i := 67) rfl rfl⟩
theorem lkX12_378 : LV RX12 378 yX12_done cX12_done 4 (some .int) 2 := ⟨lb_X12_done, gwm hs_7 (i := 61) rfl rfl, gwm hs_7 (i := 63) rfl rfl, gwm hs_0 (i := 66) rfl rfl⟩
theorem lkX12_381 : LT RX12 381 yX12_isSort cX12_isSort 1 (some .boolean) 1 := ⟨lb_X12_isSort, gwm hs_7 (i := 85) rfl rfl, gwm hs_7 (i := 86) rfl rfl⟩
theorem lkX12_385 : LV RX12 385 yX12_makes cX12_makes 5 (some .int) 2 := ⟨lb_X12_makes, gwm hs_7 (i := 101) rfl rfl, gwm hs_7 (i := 103) rfl rfl, gwm hs_0 (i := 71) rfl rfl⟩
theorem lkX12_394 : LV RX12 394 yX12_makerOn cX12_makerOn 2 (some .int) 1 := ⟨lb_X12_makerOn, gwm hs_7 (i := 117) rfl rfl, gwm hs_7 (i := 119) rfl rfl, gwm hs_0 (i := 73) rfl rfl⟩
theorem lkX12_410 : LV RX12 410 yX12_goesRound cX12_goesRound 8 none 3 := ⟨lb_X12_goesRound, gwm hs_7 (i := 127) rfl rfl, gwm hs_7 (i := 129) rfl rfl, gwm hs_0 (i := 74) rfl rfl⟩
theorem lkX12_414 : LT RX12 414 yX12_divisor cX12_divisor 5 (some .int) 2 := ⟨lb_X12_divisor, gwm hs_7 (i := 131) rfl rfl, gwm hs_7 (i := 132) rfl rfl⟩
theorem lkX12_417 : LV RX12 417 yX12_bestBy cX12_bestBy 5 (some .int) 4 := ⟨lb_X12_bestBy, gwm hs_7 (i := 152) rfl rfl, gwm hs_7 (i := 154) rfl rfl, gwm hs_0 (i := 78) rfl rfl⟩
theorem lkX12_421 : LV RX12 421 yX12_reaches cX12_reaches 7 none 2 := ⟨lb_X12_reaches, gwm hs_7 (i := 144) rfl rfl, gwm hs_7 (i := 146) rfl rfl, gwm hs_0 (i := 76) rfl rfl⟩
theorem lkX12_424 : LV RX12 424 yX12_bestOn cX12_bestOn 6 (some .int) 3 := ⟨lb_X12_bestOn, gwm hs_7 (i := 148) rfl rfl, gwm hs_7 (i := 150) rfl rfl, gwm hs_0 (i := 77) rfl rfl⟩
theorem lkX12_431 : LV RX12 431 yX12_laysBest cX12_laysBest 6 none 2 := ⟨lb_X12_laysBest, gwm hs_7 (i := 140) rfl rfl, gwm hs_7 (i := 142) rfl rfl, gwm hs_0 (i := 75) rfl rfl⟩
theorem lkX12_434 : LV RX12 434 yX12_allBy cX12_allBy 5 (some .int) 4 := ⟨lb_X12_allBy, gwm hs_7 (i := 164) rfl rfl, gwm hs_7 (i := 166) rfl rfl, gwm hs_0 (i := 80) rfl rfl⟩
theorem lkX12_437 : LV RX12 437 yX12_allOn cX12_allOn 6 (some .int) 2 := ⟨lb_X12_allOn, gwm hs_7 (i := 160) rfl rfl, gwm hs_7 (i := 162) rfl rfl, gwm hs_0 (i := 79) rfl rfl⟩
theorem lkX12_440 : LV RX12 440 yX12_areDifferent cX12_areDifferent 3 (some .boolean) 0 := ⟨lb_X12_areDifferent, gwm hs_7 (i := 172) rfl rfl, gwm hs_7 (i := 174) rfl rfl, gwm hs_0 (i := 81) rfl rfl⟩
theorem lkX12_443 : LV RX12 443 yX12_isQuiet cX12_isQuiet 3 (some .boolean) 1 := ⟨lb_X12_isQuiet, gwm hs_7 (i := 180) rfl rfl, gwm hs_7 (i := 182) rfl rfl, gwm hs_0 (i := 82) rfl rfl⟩
theorem lkX12_446 : LV RX12 446 yX12_quietBy cX12_quietBy 4 (some .int) 3 := ⟨lb_X12_quietBy, gwm hs_7 (i := 201) rfl rfl, gwm hs_7 (i := 203) rfl rfl, gwm hs_0 (i := 86) rfl rfl⟩
theorem lkX12_449 : LV RX12 449 yX12_isRow cX12_isRow 3 (some .boolean) 1 := ⟨lb_X12_isRow, gwm hs_7 (i := 192) rfl rfl, gwm hs_7 (i := 194) rfl rfl, gwm hs_0 (i := 84) rfl rfl⟩
theorem lkX12_453 : LV RX12 453 yX12_isQuietIn cX12_isQuietIn 5 (some .boolean) 3 := ⟨lb_X12_isQuietIn, gwm hs_7 (i := 197) rfl rfl, gwm hs_7 (i := 199) rfl rfl, gwm hs_0 (i := 85) rfl rfl⟩
theorem lkX12_457 : LV RX12 457 yX12_laysQuiet cX12_laysQuiet 6 none 0 := ⟨lb_X12_laysQuiet, gwm hs_7 (i := 188) rfl rfl, gwm hs_7 (i := 190) rfl rfl, gwm hs_0 (i := 83) rfl rfl⟩
theorem lkX12_460 : LV RX12 460 yX12_stand cX12_stand 3 (some .boolean) 2 := ⟨lb_X12_stand, gwm hs_7 (i := 214) rfl rfl, gwm hs_7 (i := 216) rfl rfl, gwm hs_0 (i := 88) rfl rfl⟩
theorem lkX12_464 : LV RX12 464 yX12_heldBy cX12_heldBy 6 (some .int) 4 := ⟨lb_X12_heldBy, gwm hs_7 (i := 210) rfl rfl, gwm hs_7 (i := 212) rfl rfl, gwm hs_0 (i := 87) rfl rfl⟩
theorem lkX12_471 : LT RX12 471 yX12_isDeed cX12_isDeed 1 (some .boolean) 1 := ⟨lb_X12_isDeed, gwm hs_7 (i := 227) rfl rfl, gwm hs_7 (i := 228) rfl rfl⟩
theorem lkX12_474 : LV RX12 474 yX12_isLawful cX12_isLawful 2 (some .int) 1 := ⟨lb_X12_isLawful, gwm hs_7 (i := 235) rfl rfl, gwm hs_7 (i := 237) rfl rfl, gwm hs_0 (i := 89) rfl rfl⟩
theorem lkX12_477 : LV RX12 477 yX12_fitsAll cX12_fitsAll 3 (some .boolean) 1 := ⟨lb_X12_fitsAll, gwm hs_8 (i := 3) rfl rfl, gwm hs_8 (i := 5) rfl rfl, gwm hs_0 (i := 90) rfl rfl⟩
theorem lkX12_500 : LV RX12 500 yX12_numberAt cX12_numberAt 4 (some .int) 1 := ⟨lb_X12_numberAt, gwm hs_8 (i := 34) rfl rfl, gwm hs_8 (i := 36) rfl rfl, gwm hs_0 (i := 91) rfl rfl⟩
theorem lkX12_503 : LV RX12 503 yX12_book cX12_book 3 (some .int) 2 := ⟨lb_X12_book, gwm hs_8 (i := 38) rfl rfl, gwm hs_8 (i := 19) rfl rfl, gwm hs_8 (i := 20) rfl rfl⟩
theorem lkX1_46 : LV RX1 46 yX1_reckon cX1_reckon 9 (some .int) 3 := ⟨lb_X1_reckon, gwm hs_4 (i := 26) rfl rfl, gwm hs_4 (i := 28) rfl rfl, gwm hs_0 (i := 18) rfl rfl⟩
theorem lkX1_59 : LT RX1 59 yX1_joined cX1_joined 3 (some .int) 3 := ⟨lb_X1_joined, gwm hs_4 (i := 31) rfl rfl, gwm hs_4 (i := 32) rfl rfl⟩
theorem lkX2_33 : LTN RX2 33 yX11_isPerson cX11_isPerson 1 (some .boolean) 1 := ⟨lb_X11_isPerson, ⟨"NineLaws", nwm hs_2 (i := 221) rfl rfl⟩, gwm hs_2 (i := 222) rfl rfl⟩
theorem lkX2_37 : LV RX2 37 yX9_byteOn cX9_byteOn 2 (some .int) 1 := ⟨lb_X9_byteOn, gwm hs_2 (i := 217) rfl rfl, gwm hs_2 (i := 218) rfl rfl, gwm hs_2 (i := 219) rfl rfl⟩
theorem lkX2_43 : LV RX2 43 yX10_mayOf cX10_mayOf 7 (some .int) 2 := ⟨lb_X10_mayOf, gwm hs_4 (i := 65) rfl rfl, gwm hs_3 (i := 216) rfl rfl, gwm hs_3 (i := 217) rfl rfl⟩
theorem lkX2_49 : LV RX2 49 yX6_standingOn cX6_standingOn 2 (some .int) 1 := ⟨lb_X6_standingOn, gwm hs_4 (i := 66) rfl rfl, gwm hs_1 (i := 65) rfl rfl, gwm hs_1 (i := 66) rfl rfl⟩
theorem lkX2_54 : LV RX2 54 yX6_isFull cX6_isFull 2 (some .boolean) 1 := ⟨lb_X6_isFull, gwm hs_4 (i := 67) rfl rfl, gwm hs_4 (i := 68) rfl rfl, gwm hs_4 (i := 69) rfl rfl⟩
theorem lkX2_57 : LV RX2 57 yX10_valueOfOldest cX10_valueOfOldest 3 (some .int) 2 := ⟨lb_X10_valueOfOldest, gwm hs_4 (i := 71) rfl rfl, gwm hs_4 (i := 72) rfl rfl, gwm hs_4 (i := 73) rfl rfl⟩
theorem lkX2_60 : LV RX2 60 yX6_oldestOn cX6_oldestOn 2 (some .int) 1 := ⟨lb_X6_oldestOn, gwm hs_4 (i := 75) rfl rfl, gwm hs_1 (i := 69) rfl rfl, gwm hs_1 (i := 70) rfl rfl⟩
theorem lkX2_63 : LV RX2 63 yX10_worthOf cX10_worthOf 7 (some .int) 2 := ⟨lb_X10_worthOf, gwm hs_4 (i := 76) rfl rfl, gwm hs_4 (i := 53) rfl rfl, gwm hs_4 (i := 54) rfl rfl⟩
theorem lkX2_67 : LV RX2 67 yX6_behind cX6_behind 4 (some .int) 2 := ⟨lb_X6_behind, gwm hs_4 (i := 78) rfl rfl, gwm hs_4 (i := 79) rfl rfl, gwm hs_4 (i := 80) rfl rfl⟩
theorem lkX3_102 : LT RX3 102 yJ7_fill_bad5a cJ7_fill_bad5a 6 none 4 := ⟨lb_J7_fill_bad5a, gwm hs_4 (i := 209) rfl rfl, gwm hs_4 (i := 210) rfl rfl⟩
theorem lkX3_108 : LTN RX3 108 yX11_slotOf cX11_slotOf 4 (some .int) 3 := ⟨lb_X11_slotOf, ⟨"NineLaws", nwm hs_4 (i := 228) rfl rfl⟩, gwm hs_3 (i := 228) rfl rfl⟩
theorem lkX3_112 : LV RX3 112 yX10_worthOf cX10_worthOf 7 (some .int) 2 := ⟨lb_X10_worthOf, gwm hs_4 (i := 230) rfl rfl, gwm hs_4 (i := 53) rfl rfl, gwm hs_4 (i := 54) rfl rfl⟩
theorem lkX3_117 : LTN RX3 117 yX11_withSlot cX11_withSlot 5 (some .long) 4 := ⟨lb_X11_withSlot, ⟨"NineLaws", nwm hs_4 (i := 235) rfl rfl⟩, gwm hs_4 (i := 36) rfl rfl⟩
theorem lkX3_121 : LV RX3 121 yX2_onTurn cX2_onTurn 2 (some .int) 1 := ⟨lb_X2_onTurn, gwm hs_4 (i := 219) rfl rfl, gwm hs_4 (i := 99) rfl rfl, gwm hs_4 (i := 100) rfl rfl⟩
theorem lkX3_124 : LV RX3 124 yX2_choice cX2_choice 9 (some .int) 2 := ⟨lb_X2_choice, gwm hs_4 (i := 221) rfl rfl, gwm hs_4 (i := 62) rfl rfl, gwm hs_4 (i := 63) rfl rfl⟩
theorem lkX3_127 : LV RX3 127 yX10_mayOf cX10_mayOf 7 (some .int) 2 := ⟨lb_X10_mayOf, gwm hs_4 (i := 223) rfl rfl, gwm hs_3 (i := 216) rfl rfl, gwm hs_3 (i := 217) rfl rfl⟩
theorem lkX3_44 : LTN RX3 44 yX11_isPerson cX11_isPerson 1 (some .boolean) 1 := ⟨lb_X11_isPerson, ⟨"NineLaws", nwm hs_4 (i := 220) rfl rfl⟩, gwm hs_2 (i := 222) rfl rfl⟩
theorem lkX3_53 : LV RX3 53 yX6_lengthOf cX6_lengthOf 2 (some .int) 1 := ⟨lb_X6_lengthOf, gwm hs_4 (i := 199) rfl rfl, gwm hs_4 (i := 13) rfl rfl, gwm hs_4 (i := 14) rfl rfl⟩
theorem lkX3_60 : LV RX3 60 yX2_placeAfterDays cX2_placeAfterDays 3 (some .int) 2 := ⟨lb_X2_placeAfterDays, gwm hs_4 (i := 200) rfl rfl, gwm hs_4 (i := 201) rfl rfl, gwm hs_4 (i := 202) rfl rfl⟩
theorem lkX3_66 : LV RX3 66 yX3_recall cX3_recall 6 none 4 := ⟨lb_X3_recall, gwm hs_4 (i := 204) rfl rfl, gwm hs_4 (i := 206) rfl rfl, gwm hs_0 (i := 23) rfl rfl⟩
theorem lkX3_70 : LV RX3 70 yX3_pickOn cX3_pickOn 12 (some .int) 3 := ⟨lb_X3_pickOn, gwm hs_4 (i := 215) rfl rfl, gwm hs_4 (i := 217) rfl rfl, gwm hs_0 (i := 24) rfl rfl⟩
theorem lkX3_74 : LV RX3 74 yX6_behind cX6_behind 4 (some .int) 2 := ⟨lb_X6_behind, gwm hs_4 (i := 229) rfl rfl, gwm hs_4 (i := 79) rfl rfl, gwm hs_4 (i := 80) rfl rfl⟩
theorem lkX3_77 : LV RX3 77 yX2_placeAfter cX2_placeAfter 2 (some .int) 1 := ⟨lb_X2_placeAfter, gwm hs_4 (i := 222) rfl rfl, gwm hs_4 (i := 114) rfl rfl, gwm hs_4 (i := 115) rfl rfl⟩
theorem lkX3_80 : LV RX3 80 yX3_look cX3_look 11 none 3 := ⟨lb_X3_look, gwm hs_4 (i := 224) rfl rfl, gwm hs_4 (i := 226) rfl rfl, gwm hs_0 (i := 25) rfl rfl⟩
theorem lkX3_84 : LV RX3 84 yX3_totalOf cX3_totalOf 5 (some .int) 3 := ⟨lb_X3_totalOf, gwm hs_4 (i := 231) rfl rfl, gwm hs_4 (i := 233) rfl rfl, gwm hs_0 (i := 26) rfl rfl⟩
theorem lkX3_87 : LV RX3 87 yX3_tell cX3_tell 6 none 3 := ⟨lb_X3_tell, gwm hs_4 (i := 236) rfl rfl, gwm hs_4 (i := 238) rfl rfl, gwm hs_0 (i := 27) rfl rfl⟩
theorem lkX3_99 : LT RX3 99 yX6_bareOf cX6_bareOf 1 (some .int) 1 := ⟨lb_X6_bareOf, gwm hs_4 (i := 208) rfl rfl, gwm hs_1 (i := 56) rfl rfl⟩
theorem lkX4_102 : LV RX4 102 yX4_readFactor cX4_readFactor 4 none 1 := ⟨lb_X4_readFactor, gwm hs_3 (i := 56) rfl rfl, gwm hs_3 (i := 58) rfl rfl, gwm hs_0 (i := 7) rfl rfl⟩
theorem lkX4_105 : LT RX4 105 yX4_isProductSign cX4_isProductSign 1 (some .boolean) 1 := ⟨lb_X4_isProductSign, gwm hs_3 (i := 162) rfl rfl, gwm hs_3 (i := 163) rfl rfl⟩
theorem lkX4_108 : LT RX4 108 yX4_isDigit cX4_isDigit 1 (some .boolean) 1 := ⟨lb_X4_isDigit, gwm hs_3 (i := 68) rfl rfl, gwm hs_3 (i := 69) rfl rfl⟩
theorem lkX4_111 : LV RX4 111 yX4_readDigits cX4_readDigits 3 none 0 := ⟨lb_X4_readDigits, gwm hs_3 (i := 71) rfl rfl, gwm hs_3 (i := 73) rfl rfl, gwm hs_0 (i := 10) rfl rfl⟩
theorem lkX4_116 : LV RX4 116 yJ0_indexOf_0f7a4 cJ0_indexOf_0f7a4 2 (some .int) 1 := ⟨lb_J0_indexOf_0f7a4, gwm hs_3 (i := 80) rfl rfl, gwm hs_3 (i := 81) rfl rfl, gwm hs_3 (i := 82) rfl rfl⟩
theorem lkX4_41 : LV RX4 41 yX9_byteOn cX9_byteOn 2 (some .int) 1 := ⟨lb_X9_byteOn, gwm hs_3 (i := 27) rfl rfl, gwm hs_2 (i := 218) rfl rfl, gwm hs_2 (i := 219) rfl rfl⟩
theorem lkX4_47 : LV RX4 47 yX1_clear cX1_clear 1 none 0 := ⟨lb_X1_clear, gwm hs_3 (i := 28) rfl rfl, gwm hs_3 (i := 29) rfl rfl, gwm hs_3 (i := 30) rfl rfl⟩
theorem lkX4_50 : LV RX4 50 yX4_readClause cX4_readClause 5 none 1 := ⟨lb_X4_readClause, gwm hs_3 (i := 32) rfl rfl, gwm hs_3 (i := 34) rfl rfl, gwm hs_0 (i := 2) rfl rfl⟩
theorem lkX4_54 : LV RX4 54 yX4_take cX4_take 2 none 1 := ⟨lb_X4_take, gwm hs_3 (i := 64) rfl rfl, gwm hs_3 (i := 66) rfl rfl, gwm hs_0 (i := 9) rfl rfl⟩
theorem lkX4_57 : LV RX4 57 yX1_clauseCount cX1_clauseCount 1 (some .int) 0 := ⟨lb_X1_clauseCount, gwm hs_3 (i := 189) rfl rfl, gwm hs_3 (i := 190) rfl rfl, gwm hs_3 (i := 191) rfl rfl⟩
theorem lkX4_61 : LV RX4 61 yX4_sign cX4_sign 1 (some .int) 0 := ⟨lb_X4_sign, gwm hs_3 (i := 36) rfl rfl, gwm hs_3 (i := 38) rfl rfl, gwm hs_0 (i := 3) rfl rfl⟩
theorem lkX4_64 : LV RX4 64 yX4_stop cX4_stop 2 none 1 := ⟨lb_X4_stop, gwm hs_3 (i := 40) rfl rfl, gwm hs_3 (i := 42) rfl rfl, gwm hs_0 (i := 4) rfl rfl⟩
theorem lkX4_67 : LV RX4 67 yX1_stepCount cX1_stepCount 1 (some .int) 0 := ⟨lb_X1_stepCount, gwm hs_3 (i := 44) rfl rfl, gwm hs_3 (i := 45) rfl rfl, gwm hs_3 (i := 46) rfl rfl⟩
theorem lkX4_70 : LV RX4 70 yX4_readSum cX4_readSum 4 none 1 := ⟨lb_X4_readSum, gwm hs_3 (i := 48) rfl rfl, gwm hs_3 (i := 50) rfl rfl, gwm hs_0 (i := 5) rfl rfl⟩
theorem lkX4_73 : LV RX4 73 yX4_readAnyOf cX4_readAnyOf 4 none 1 := ⟨lb_X4_readAnyOf, gwm hs_3 (i := 165) rfl rfl, gwm hs_3 (i := 167) rfl rfl, gwm hs_0 (i := 11) rfl rfl⟩
theorem lkX4_76 : LV RX4 76 yX1_addClause cX1_addClause 4 none 3 := ⟨lb_X1_addClause, gwm hs_3 (i := 185) rfl rfl, gwm hs_3 (i := 186) rfl rfl, gwm hs_3 (i := 187) rfl rfl⟩
theorem lkX4_80 : LV RX4 80 yX4_readAllOf cX4_readAllOf 4 none 1 := ⟨lb_X4_readAllOf, gwm hs_3 (i := 169) rfl rfl, gwm hs_3 (i := 171) rfl rfl, gwm hs_0 (i := 12) rfl rfl⟩
theorem lkX4_83 : LV RX4 83 yX1_aimHere cX1_aimHere 2 none 1 := ⟨lb_X1_aimHere, gwm hs_3 (i := 181) rfl rfl, gwm hs_3 (i := 182) rfl rfl, gwm hs_3 (i := 183) rfl rfl⟩
theorem lkX4_86 : LV RX4 86 yX1_addStep cX1_addStep 3 (some .int) 2 := ⟨lb_X1_addStep, gwm hs_3 (i := 75) rfl rfl, gwm hs_3 (i := 76) rfl rfl, gwm hs_3 (i := 77) rfl rfl⟩
theorem lkX4_89 : LV RX4 89 yX4_readPiece cX4_readPiece 2 none 1 := ⟨lb_X4_readPiece, gwm hs_3 (i := 173) rfl rfl, gwm hs_3 (i := 175) rfl rfl, gwm hs_0 (i := 13) rfl rfl⟩
theorem lkX4_92 : LV RX4 92 yX4_opens cX4_opens 2 (some .boolean) 1 := ⟨lb_X4_opens, gwm hs_3 (i := 60) rfl rfl, gwm hs_3 (i := 62) rfl rfl, gwm hs_0 (i := 8) rfl rfl⟩
theorem lkX4_96 : LV RX4 96 yX4_readComparison cX4_readComparison 3 none 1 := ⟨lb_X4_readComparison, gwm hs_3 (i := 177) rfl rfl, gwm hs_3 (i := 179) rfl rfl, gwm hs_0 (i := 14) rfl rfl⟩
theorem lkX4_99 : LV RX4 99 yX4_readProduct cX4_readProduct 4 none 1 := ⟨lb_X4_readProduct, gwm hs_3 (i := 52) rfl rfl, gwm hs_3 (i := 54) rfl rfl, gwm hs_0 (i := 6) rfl rfl⟩
theorem lkX5_27 : LV RX5 27 yX5_stateAfter cX5_stateAfter 5 (some .int) 1 := ⟨lb_X5_stateAfter, gwm hs_4 (i := 164) rfl rfl, gwm hs_4 (i := 166) rfl rfl, gwm hs_0 (i := 22) rfl rfl⟩
theorem lkX5_38 : LV RX5 38 yX2_onTurn cX2_onTurn 2 (some .int) 1 := ⟨lb_X2_onTurn, gwm hs_4 (i := 168) rfl rfl, gwm hs_4 (i := 99) rfl rfl, gwm hs_4 (i := 100) rfl rfl⟩
theorem lkX5_43 : LV RX5 43 yX2_choice cX2_choice 9 (some .int) 2 := ⟨lb_X2_choice, gwm hs_4 (i := 169) rfl rfl, gwm hs_4 (i := 62) rfl rfl, gwm hs_4 (i := 63) rfl rfl⟩
theorem lkX5_47 : LV RX5 47 yX6_behind cX6_behind 4 (some .int) 2 := ⟨lb_X6_behind, gwm hs_4 (i := 170) rfl rfl, gwm hs_4 (i := 79) rfl rfl, gwm hs_4 (i := 80) rfl rfl⟩
theorem lkX5_52 : LV RX5 52 yX2_placeAfter cX2_placeAfter 2 (some .int) 1 := ⟨lb_X2_placeAfter, gwm hs_4 (i := 171) rfl rfl, gwm hs_4 (i := 114) rfl rfl, gwm hs_4 (i := 115) rfl rfl⟩
theorem lkX5_55 : LV RX5 55 yX10_worthOf cX10_worthOf 7 (some .int) 2 := ⟨lb_X10_worthOf, gwm hs_4 (i := 177) rfl rfl, gwm hs_4 (i := 53) rfl rfl, gwm hs_4 (i := 54) rfl rfl⟩
theorem lkX6_22 : LT RX6 22 yX6_bareOf cX6_bareOf 1 (some .int) 1 := ⟨lb_X6_bareOf, gwm hs_1 (i := 55) rfl rfl, gwm hs_1 (i := 56) rfl rfl⟩
theorem lkX6_26 : LV RX6 26 yX6_sizeOf cX6_sizeOf 2 (some .int) 1 := ⟨lb_X6_sizeOf, gwm hs_1 (i := 60) rfl rfl, gwm hs_1 (i := 61) rfl rfl, gwm hs_1 (i := 62) rfl rfl⟩
theorem lkX6_29 : LV RX6 29 yX6_standingOn cX6_standingOn 2 (some .int) 1 := ⟨lb_X6_standingOn, gwm hs_1 (i := 64) rfl rfl, gwm hs_1 (i := 65) rfl rfl, gwm hs_1 (i := 66) rfl rfl⟩
theorem lkX6_32 : LV RX6 32 yX6_oldestOn cX6_oldestOn 2 (some .int) 1 := ⟨lb_X6_oldestOn, gwm hs_1 (i := 68) rfl rfl, gwm hs_1 (i := 69) rfl rfl, gwm hs_1 (i := 70) rfl rfl⟩
theorem lkX6_38 : LV RX6 38 yX6_lengthOf cX6_lengthOf 2 (some .int) 1 := ⟨lb_X6_lengthOf, gwm hs_4 (i := 12) rfl rfl, gwm hs_4 (i := 13) rfl rfl, gwm hs_4 (i := 14) rfl rfl⟩
theorem lkX7_101 : LV RX7 101 yX6_standingOn cX6_standingOn 2 (some .int) 1 := ⟨lb_X6_standingOn, gwm hs_5 (i := 68) rfl rfl, gwm hs_1 (i := 65) rfl rfl, gwm hs_1 (i := 66) rfl rfl⟩
theorem lkX7_41 : LV RX7 41 yX6_lengthOf cX6_lengthOf 2 (some .int) 1 := ⟨lb_X6_lengthOf, gwm hs_5 (i := 52) rfl rfl, gwm hs_4 (i := 13) rfl rfl, gwm hs_4 (i := 14) rfl rfl⟩
theorem lkX7_45 : LT RX7 45 yX6_bareOf cX6_bareOf 1 (some .int) 1 := ⟨lb_X6_bareOf, gwm hs_5 (i := 53) rfl rfl, gwm hs_1 (i := 56) rfl rfl⟩
theorem lkX7_48 : LT RX7 48 yJ7_fill_bad5a cJ7_fill_bad5a 6 none 4 := ⟨lb_J7_fill_bad5a, gwm hs_5 (i := 54) rfl rfl, gwm hs_4 (i := 210) rfl rfl⟩
theorem lkX7_57 : LV RX7 57 yX7_spanFrom cX7_spanFrom 13 (some .int) 3 := ⟨lb_X7_spanFrom, gwm hs_5 (i := 55) rfl rfl, gwm hs_5 (i := 57) rfl rfl, gwm hs_0 (i := 30) rfl rfl⟩
theorem lkX7_61 : LTN RX7 61 yX11_slotOf cX11_slotOf 4 (some .int) 3 := ⟨lb_X11_slotOf, ⟨"NineLaws", nwm hs_5 (i := 59) rfl rfl⟩, gwm hs_3 (i := 228) rfl rfl⟩
theorem lkX7_65 : LV RX7 65 yX2_onTurn cX2_onTurn 2 (some .int) 1 := ⟨lb_X2_onTurn, gwm hs_5 (i := 60) rfl rfl, gwm hs_4 (i := 99) rfl rfl, gwm hs_4 (i := 100) rfl rfl⟩
theorem lkX7_70 : LTN RX7 70 yX11_isPerson cX11_isPerson 1 (some .boolean) 1 := ⟨lb_X11_isPerson, ⟨"NineLaws", nwm hs_5 (i := 61) rfl rfl⟩, gwm hs_2 (i := 222) rfl rfl⟩
theorem lkX7_74 : LV RX7 74 yX10_mayOf cX10_mayOf 7 (some .int) 2 := ⟨lb_X10_mayOf, gwm hs_5 (i := 62) rfl rfl, gwm hs_3 (i := 216) rfl rfl, gwm hs_3 (i := 217) rfl rfl⟩
theorem lkX7_80 : LV RX7 80 yX2_placeAfter cX2_placeAfter 2 (some .int) 1 := ⟨lb_X2_placeAfter, gwm hs_5 (i := 63) rfl rfl, gwm hs_4 (i := 114) rfl rfl, gwm hs_4 (i := 115) rfl rfl⟩
theorem lkX7_83 : LV RX7 83 yX7_spanBehind cX7_spanBehind 5 (some .int) 3 := ⟨lb_X7_spanBehind, gwm hs_5 (i := 64) rfl rfl, gwm hs_5 (i := 66) rfl rfl, gwm hs_0 (i := 31) rfl rfl⟩
theorem lkX7_86 : LV RX7 86 yX6_behind cX6_behind 4 (some .int) 2 := ⟨lb_X6_behind, gwm hs_5 (i := 69) rfl rfl, gwm hs_4 (i := 79) rfl rfl, gwm hs_4 (i := 80) rfl rfl⟩
theorem lkX7_97 : LTN RX7 97 yX11_withSlot cX11_withSlot 5 (some .long) 4 := ⟨lb_X11_withSlot, ⟨"NineLaws", nwm hs_5 (i := 72) rfl rfl⟩, gwm hs_4 (i := 36) rfl rfl⟩
theorem lkX9_19 : LV RX9 19 yX9_byteOn cX9_byteOn 2 (some .int) 1 := ⟨lb_X9_byteOn, gwm hs_4 (i := 138) rfl rfl, gwm hs_2 (i := 218) rfl rfl, gwm hs_2 (i := 219) rfl rfl⟩
theorem mlJ1_38 : ML RJ1 38 Lib.Math.min.name Lib.Math.min.code 2 := ⟨gwm hs_3 (i := 109) rfl rfl, gwm hs_3 (i := 22) rfl rfl, gwm hs_1 (i := 14) rfl rfl, gwm hs_3 (i := 23) rfl rfl⟩
theorem mlJ1_92 : ML RJ1 92 Lib.Math.max.name Lib.Math.max.code 2 := ⟨gwm hs_3 (i := 108) rfl rfl, gwm hs_3 (i := 25) rfl rfl, gwm hs_1 (i := 14) rfl rfl, gwm hs_3 (i := 26) rfl rfl⟩
theorem mlX11_256 : ML RX11 256 Lib.Math.abs.name Lib.Math.abs.code 1 := ⟨gwm hs_4 (i := 184) rfl rfl, gwm hs_4 (i := 185) rfl rfl, gwm hs_1 (i := 14) rfl rfl, gwm hs_4 (i := 186) rfl rfl⟩
theorem mlX1_50 : ML RX1 50 Lib.Math.min.name Lib.Math.min.code 2 := ⟨gwm hs_4 (i := 34) rfl rfl, gwm hs_3 (i := 22) rfl rfl, gwm hs_1 (i := 14) rfl rfl, gwm hs_3 (i := 23) rfl rfl⟩
theorem mlX1_56 : ML RX1 56 Lib.Math.max.name Lib.Math.max.code 2 := ⟨gwm hs_4 (i := 30) rfl rfl, gwm hs_3 (i := 25) rfl rfl, gwm hs_1 (i := 14) rfl rfl, gwm hs_3 (i := 26) rfl rfl⟩
theorem mlX4_22 : ML RX4 22 Lib.Math.min.name Lib.Math.min.code 2 := ⟨gwm hs_3 (i := 21) rfl rfl, gwm hs_3 (i := 22) rfl rfl, gwm hs_1 (i := 14) rfl rfl, gwm hs_3 (i := 23) rfl rfl⟩
theorem mlX4_28 : ML RX4 28 Lib.Math.max.name Lib.Math.max.code 2 := ⟨gwm hs_3 (i := 24) rfl rfl, gwm hs_3 (i := 25) rfl rfl, gwm hs_1 (i := 14) rfl rfl, gwm hs_3 (i := 26) rfl rfl⟩
theorem mlX7_89 : ML RX7 89 Lib.Math.max.name Lib.Math.max.code 2 := ⟨gwm hs_5 (i := 70) rfl rfl, gwm hs_3 (i := 25) rfl rfl, gwm hs_1 (i := 14) rfl rfl, gwm hs_3 (i := 26) rfl rfl⟩
theorem mlX7_94 : ML RX7 94 Lib.Math.min.name Lib.Math.min.code 2 := ⟨gwm hs_5 (i := 71) rfl rfl, gwm hs_3 (i := 22) rfl rfl, gwm hs_1 (i := 14) rfl rfl, gwm hs_3 (i := 23) rfl rfl⟩
theorem pfX0_21 : PF RX0 21 0 8 .int := ⟨RX0, TX0, 11, tyX0, rfl, by decide, ugwX0, rfl, Or.inl (gwm hs_2 (i := 47) rfl rfl), tyX0_ok, nmX0, rfl, rfl⟩
theorem pfX0_37 : PF RX0 37 0 9 .int := ⟨RX0, TX0, 11, tyX0, rfl, by decide, ugwX0, rfl, Or.inl (gwm hs_2 (i := 48) rfl rfl), tyX0_ok, nmX0, rfl, rfl⟩
theorem pfX0_45 : PF RX0 45 0 10 .int := ⟨RX0, TX0, 11, tyX0, rfl, by decide, ugwX0, rfl, Or.inl (gwm hs_2 (i := 49) rfl rfl), tyX0_ok, nmX0, rfl, rfl⟩
theorem pfX0_64 : PF RX0 64 0 5 .int := ⟨RX0, TX0, 11, tyX0, rfl, by decide, ugwX0, rfl, Or.inl (gwm hs_2 (i := 43) rfl rfl), tyX0_ok, nmX0, rfl, rfl⟩
theorem pfX0_67 : PF RX0 67 0 6 .int := ⟨RX0, TX0, 11, tyX0, rfl, by decide, ugwX0, rfl, Or.inl (gwm hs_2 (i := 44) rfl rfl), tyX0_ok, nmX0, rfl, rfl⟩
theorem pfX0_98 : PF RX0 98 0 7 .int := ⟨RX0, TX0, 11, tyX0, rfl, by decide, ugwX0, rfl, Or.inl (gwm hs_2 (i := 45) rfl rfl), tyX0_ok, nmX0, rfl, rfl⟩
theorem pfX10_44 : PF RX10 44 10 9 .int := ⟨RX10, TX10, 11, tyX10, rfl, by decide, ugwX10, rfl, Or.inl (gwm hs_1 (i := 153) rfl rfl), tyX10_ok, nmX10, rfl, rfl⟩
theorem pfX10_59 : PF RX10 59 10 10 .boolean := ⟨RX10, TX10, 11, tyX10, rfl, by decide, ugwX10, rfl, Or.inl (gwm hs_1 (i := 154) rfl rfl), tyX10_ok, nmX10, rfl, rfl⟩
theorem pfX11_110 : PF RX11 110 11 15 .int := ⟨RX11, TX11, 16, tyX11, rfl, by decide, ugwX11, rfl, Or.inl (gwm hs_2 (i := 147) rfl rfl), tyX11_ok, nmX11, rfl, rfl⟩
theorem pfX11_122 : PF RX11 122 8 0 .int := ⟨RX8, TX8, 5, tyX8, rfl, by decide, ugwX8, rfl, Or.inr ⟨"NineLaws", nwm hs_2 (i := 108) rfl rfl⟩, tyX8_ok, nmX8, rfl, rfl⟩
theorem pfX11_125 : PF RX11 125 11 14 .boolean := ⟨RX11, TX11, 16, tyX11, rfl, by decide, ugwX11, rfl, Or.inl (gwm hs_2 (i := 146) rfl rfl), tyX11_ok, nmX11, rfl, rfl⟩
theorem pfX11_139 : PF RX11 139 8 1 .int := ⟨RX8, TX8, 5, tyX8, rfl, by decide, ugwX8, rfl, Or.inr ⟨"NineLaws", nwm hs_2 (i := 114) rfl rfl⟩, tyX8_ok, nmX8, rfl, rfl⟩
theorem pfX11_175 : PF RX11 175 8 3 .int := ⟨RX8, TX8, 5, tyX8, rfl, by decide, ugwX8, rfl, Or.inr ⟨"NineLaws", nwm hs_2 (i := 118) rfl rfl⟩, tyX8_ok, nmX8, rfl, rfl⟩
theorem pfX11_217 : PF RX11 217 8 2 .int := ⟨RX8, TX8, 5, tyX8, rfl, by decide, ugwX8, rfl, Or.inr ⟨"NineLaws", nwm hs_2 (i := 116) rfl rfl⟩, tyX8_ok, nmX8, rfl, rfl⟩
theorem pfX11_223 : PF RX11 223 8 4 .int := ⟨RX8, TX8, 5, tyX8, rfl, by decide, ugwX8, rfl, Or.inr ⟨"NineLaws", nwm hs_2 (i := 120) rfl rfl⟩, tyX8_ok, nmX8, rfl, rfl⟩
theorem pfX12_13 : PF RX12 13 12 3 .int := ⟨RX12, TX12, 74, tyX12, rfl, by decide, ugwX12, rfl, Or.inl (gwm hs_5 (i := 130) rfl rfl), tyX12_ok, nmX12, rfl, rfl⟩
theorem pfX12_144 : PF RX12 144 12 2 .int := ⟨RX12, TX12, 74, tyX12, rfl, by decide, ugwX12, rfl, Or.inl (gwm hs_5 (i := 129) rfl rfl), tyX12_ok, nmX12, rfl, rfl⟩
theorem pfX12_158 : PF RX12 158 12 4 .int := ⟨RX12, TX12, 74, tyX12, rfl, by decide, ugwX12, rfl, Or.inl (gwm hs_5 (i := 131) rfl rfl), tyX12_ok, nmX12, rfl, rfl⟩
theorem pfX12_161 : PF RX12 161 12 68 .boolean := ⟨RX12, TX12, 74, tyX12, rfl, by decide, ugwX12, rfl, Or.inl (gwm hs_5 (i := 195) rfl rfl), tyX12_ok, nmX12, rfl, rfl⟩
theorem pfX12_165 : PF RX12 165 12 1 .int := ⟨RX12, TX12, 74, tyX12, rfl, by decide, ugwX12, rfl, Or.inl (gwm hs_5 (i := 128) rfl rfl), tyX12_ok, nmX12, rfl, rfl⟩
theorem pfX12_17 : PF RX12 17 12 5 .int := ⟨RX12, TX12, 74, tyX12, rfl, by decide, ugwX12, rfl, Or.inl (gwm hs_5 (i := 132) rfl rfl), tyX12_ok, nmX12, rfl, rfl⟩
theorem pfX12_172 : PF RX12 172 12 6 .int := ⟨RX12, TX12, 74, tyX12, rfl, by decide, ugwX12, rfl, Or.inl (gwm hs_5 (i := 133) rfl rfl), tyX12_ok, nmX12, rfl, rfl⟩
theorem pfX12_182 : PF RX12 182 12 30 .int := ⟨RX12, TX12, 74, tyX12, rfl, by decide, ugwX12, rfl, Or.inl (gwm hs_5 (i := 157) rfl rfl), tyX12_ok, nmX12, rfl, rfl⟩
theorem pfX12_185 : PF RX12 185 12 31 .int := ⟨RX12, TX12, 74, tyX12, rfl, by decide, ugwX12, rfl, Or.inl (gwm hs_5 (i := 158) rfl rfl), tyX12_ok, nmX12, rfl, rfl⟩
theorem pfX12_188 : PF RX12 188 12 32 .int := ⟨RX12, TX12, 74, tyX12, rfl, by decide, ugwX12, rfl, Or.inl (gwm hs_5 (i := 159) rfl rfl), tyX12_ok, nmX12, rfl, rfl⟩
theorem pfX12_195 : PF RX12 195 12 34 .int := ⟨RX12, TX12, 74, tyX12, rfl, by decide, ugwX12, rfl, Or.inl (gwm hs_5 (i := 161) rfl rfl), tyX12_ok, nmX12, rfl, rfl⟩
theorem pfX12_198 : PF RX12 198 12 36 .int := ⟨RX12, TX12, 74, tyX12, rfl, by decide, ugwX12, rfl, Or.inl (gwm hs_5 (i := 163) rfl rfl), tyX12_ok, nmX12, rfl, rfl⟩
theorem pfX12_20 : PF RX12 20 12 8 .int := ⟨RX12, TX12, 74, tyX12, rfl, by decide, ugwX12, rfl, Or.inl (gwm hs_5 (i := 135) rfl rfl), tyX12_ok, nmX12, rfl, rfl⟩
theorem pfX12_201 : PF RX12 201 12 35 .int := ⟨RX12, TX12, 74, tyX12, rfl, by decide, ugwX12, rfl, Or.inl (gwm hs_5 (i := 162) rfl rfl), tyX12_ok, nmX12, rfl, rfl⟩
theorem pfX12_247 : PF RX12 247 12 38 .boolean := ⟨RX12, TX12, 74, tyX12, rfl, by decide, ugwX12, rfl, Or.inl (gwm hs_5 (i := 165) rfl rfl), tyX12_ok, nmX12, rfl, rfl⟩
theorem pfX12_268 : PF RX12 268 12 37 .boolean := ⟨RX12, TX12, 74, tyX12, rfl, by decide, ugwX12, rfl, Or.inl (gwm hs_5 (i := 164) rfl rfl), tyX12_ok, nmX12, rfl, rfl⟩
theorem pfX12_277 : PF RX12 277 12 33 .int := ⟨RX12, TX12, 74, tyX12, rfl, by decide, ugwX12, rfl, Or.inl (gwm hs_5 (i := 160) rfl rfl), tyX12_ok, nmX12, rfl, rfl⟩
theorem pfX12_288 : PF RX12 288 12 17 .int := ⟨RX12, TX12, 74, tyX12, rfl, by decide, ugwX12, rfl, Or.inl (gwm hs_5 (i := 144) rfl rfl), tyX12_ok, nmX12, rfl, rfl⟩
theorem pfX12_291 : PF RX12 291 12 40 .int := ⟨RX12, TX12, 74, tyX12, rfl, by decide, ugwX12, rfl, Or.inl (gwm hs_5 (i := 167) rfl rfl), tyX12_ok, nmX12, rfl, rfl⟩
theorem pfX12_294 : PF RX12 294 12 41 .int := ⟨RX12, TX12, 74, tyX12, rfl, by decide, ugwX12, rfl, Or.inl (gwm hs_5 (i := 168) rfl rfl), tyX12_ok, nmX12, rfl, rfl⟩
theorem pfX12_297 : PF RX12 297 12 48 .int := ⟨RX12, TX12, 74, tyX12, rfl, by decide, ugwX12, rfl, Or.inl (gwm hs_5 (i := 175) rfl rfl), tyX12_ok, nmX12, rfl, rfl⟩
theorem pfX12_300 : PF RX12 300 12 42 .int := ⟨RX12, TX12, 74, tyX12, rfl, by decide, ugwX12, rfl, Or.inl (gwm hs_5 (i := 169) rfl rfl), tyX12_ok, nmX12, rfl, rfl⟩
theorem pfX12_303 : PF RX12 303 12 43 .int := ⟨RX12, TX12, 74, tyX12, rfl, by decide, ugwX12, rfl, Or.inl (gwm hs_5 (i := 170) rfl rfl), tyX12_ok, nmX12, rfl, rfl⟩
theorem pfX12_306 : PF RX12 306 12 44 .int := ⟨RX12, TX12, 74, tyX12, rfl, by decide, ugwX12, rfl, Or.inl (gwm hs_5 (i := 171) rfl rfl), tyX12_ok, nmX12, rfl, rfl⟩
theorem pfX12_329 : PF RX12 329 12 49 .int := ⟨RX12, TX12, 74, tyX12, rfl, by decide, ugwX12, rfl, Or.inl (gwm hs_5 (i := 176) rfl rfl), tyX12_ok, nmX12, rfl, rfl⟩
theorem pfX12_332 : PF RX12 332 12 50 .int := ⟨RX12, TX12, 74, tyX12, rfl, by decide, ugwX12, rfl, Or.inl (gwm hs_5 (i := 177) rfl rfl), tyX12_ok, nmX12, rfl, rfl⟩
theorem pfX12_372 : PF RX12 372 12 9 .int := ⟨RX12, TX12, 74, tyX12, rfl, by decide, ugwX12, rfl, Or.inl (gwm hs_5 (i := 136) rfl rfl), tyX12_ok, nmX12, rfl, rfl⟩
theorem pfX12_375 : PF RX12 375 12 7 .int := ⟨RX12, TX12, 74, tyX12, rfl, by decide, ugwX12, rfl, Or.inl (gwm hs_5 (i := 134) rfl rfl), tyX12_ok, nmX12, rfl, rfl⟩
theorem pfX12_397 : PF RX12 397 12 60 .int := ⟨RX12, TX12, 74, tyX12, rfl, by decide, ugwX12, rfl, Or.inl (gwm hs_5 (i := 187) rfl rfl), tyX12_ok, nmX12, rfl, rfl⟩
theorem pfX12_400 : PF RX12 400 12 61 .int := ⟨RX12, TX12, 74, tyX12, rfl, by decide, ugwX12, rfl, Or.inl (gwm hs_5 (i := 188) rfl rfl), tyX12_ok, nmX12, rfl, rfl⟩
theorem pfX12_403 : PF RX12 403 12 62 .int := ⟨RX12, TX12, 74, tyX12, rfl, by decide, ugwX12, rfl, Or.inl (gwm hs_5 (i := 189) rfl rfl), tyX12_ok, nmX12, rfl, rfl⟩
theorem pfX12_485 : PF RX12 485 12 69 .int := ⟨RX12, TX12, 74, tyX12, rfl, by decide, ugwX12, rfl, Or.inl (gwm hs_5 (i := 196) rfl rfl), tyX12_ok, nmX12, rfl, rfl⟩
theorem pfX12_488 : PF RX12 488 12 70 .int := ⟨RX12, TX12, 74, tyX12, rfl, by decide, ugwX12, rfl, Or.inl (gwm hs_5 (i := 197) rfl rfl), tyX12_ok, nmX12, rfl, rfl⟩
theorem pfX12_491 : PF RX12 491 12 71 .int := ⟨RX12, TX12, 74, tyX12, rfl, by decide, ugwX12, rfl, Or.inl (gwm hs_5 (i := 198) rfl rfl), tyX12_ok, nmX12, rfl, rfl⟩
theorem pfX12_494 : PF RX12 494 12 72 .int := ⟨RX12, TX12, 74, tyX12, rfl, by decide, ugwX12, rfl, Or.inl (gwm hs_5 (i := 199) rfl rfl), tyX12_ok, nmX12, rfl, rfl⟩
theorem pfX12_497 : PF RX12 497 12 73 .int := ⟨RX12, TX12, 74, tyX12, rfl, by decide, ugwX12, rfl, Or.inl (gwm hs_5 (i := 200) rfl rfl), tyX12_ok, nmX12, rfl, rfl⟩
theorem pfX1_33 : PF RX1 33 1 8 .int := ⟨RX1, TX1, 9, tyX1, rfl, by decide, ugwX1, rfl, Or.inl (gwm hs_1 (i := 93) rfl rfl), tyX1_ok, nmX1, rfl, rfl⟩
theorem pfX1_37 : PF RX1 37 1 7 .int := ⟨RX1, TX1, 9, tyX1, rfl, by decide, ugwX1, rfl, Or.inl (gwm hs_1 (i := 92) rfl rfl), tyX1_ok, nmX1, rfl, rfl⟩
theorem pfX2_21 : PF RX2 21 2 5 .int := ⟨RX2, TX2, 6, tyX2, rfl, by decide, ugwX2, rfl, Or.inl (gwm hs_1 (i := 190) rfl rfl), tyX2_ok, nmX2, rfl, rfl⟩
theorem pfX3_28 : PF RX3 28 3 8 .int := ⟨RX3, TX3, 11, tyX3, rfl, by decide, ugwX3, rfl, Or.inl (gwm hs_2 (i := 6) rfl rfl), tyX3_ok, nmX3, rfl, rfl⟩
theorem pfX3_90 : PF RX3 90 3 9 .int := ⟨RX3, TX3, 11, tyX3, rfl, by decide, ugwX3, rfl, Or.inl (gwm hs_2 (i := 7) rfl rfl), tyX3_ok, nmX3, rfl, rfl⟩
theorem pfX3_93 : PF RX3 93 3 10 .int := ⟨RX3, TX3, 11, tyX3, rfl, by decide, ugwX3, rfl, Or.inl (gwm hs_2 (i := 8) rfl rfl), tyX3_ok, nmX3, rfl, rfl⟩
theorem pfX3_96 : PF RX3 96 3 7 .int := ⟨RX3, TX3, 11, tyX3, rfl, by decide, ugwX3, rfl, Or.inl (gwm hs_2 (i := 5) rfl rfl), tyX3_ok, nmX3, rfl, rfl⟩
theorem pfX4_31 : PF RX4 31 4 2 .int := ⟨RX4, TX4, 5, tyX4, rfl, by decide, ugwX4, rfl, Or.inl (gwm hs_1 (i := 124) rfl rfl), tyX4_ok, nmX4, rfl, rfl⟩
theorem pfX4_35 : PF RX4 35 4 3 .int := ⟨RX4, TX4, 5, tyX4, rfl, by decide, ugwX4, rfl, Or.inl (gwm hs_1 (i := 125) rfl rfl), tyX4_ok, nmX4, rfl, rfl⟩
theorem pfX4_38 : PF RX4 38 4 4 .int := ⟨RX4, TX4, 5, tyX4, rfl, by decide, ugwX4, rfl, Or.inl (gwm hs_1 (i := 126) rfl rfl), tyX4_ok, nmX4, rfl, rfl⟩
theorem pfX5_32 : PF RX5 32 5 5 .int := ⟨RX5, TX5, 6, tyX5, rfl, by decide, ugwX5, rfl, Or.inl (gwm hs_1 (i := 217) rfl rfl), tyX5_ok, nmX5, rfl, rfl⟩
theorem pfX5_35 : PF RX5 35 5 3 .int := ⟨RX5, TX5, 6, tyX5, rfl, by decide, ugwX5, rfl, Or.inl (gwm hs_1 (i := 213) rfl rfl), tyX5_ok, nmX5, rfl, rfl⟩
theorem pfX5_9 : PF RX5 9 5 4 .int := ⟨RX5, TX5, 6, tyX5, rfl, by decide, ugwX5, rfl, Or.inl (gwm hs_1 (i := 215) rfl rfl), tyX5_ok, nmX5, rfl, rfl⟩
theorem pfX7_29 : PF RX7 29 7 4 .int := ⟨RX7, TX7, 6, tyX7, rfl, by decide, ugwX7, rfl, Or.inl (gwm hs_2 (i := 83) rfl rfl), tyX7_ok, nmX7, rfl, rfl⟩
theorem pfX7_33 : PF RX7 33 7 5 .int := ⟨RX7, TX7, 6, tyX7, rfl, by decide, ugwX7, rfl, Or.inl (gwm hs_2 (i := 84) rfl rfl), tyX7_ok, nmX7, rfl, rfl⟩
theorem pfX8_13 : PF RX8 13 8 0 .int := ⟨RX8, TX8, 5, tyX8, rfl, by decide, ugwX8, rfl, Or.inl (gwm hs_2 (i := 105) rfl rfl), tyX8_ok, nmX8, rfl, rfl⟩
theorem pfX8_19 : PF RX8 19 8 3 .int := ⟨RX8, TX8, 5, tyX8, rfl, by decide, ugwX8, rfl, Or.inl (gwm hs_2 (i := 117) rfl rfl), tyX8_ok, nmX8, rfl, rfl⟩
theorem pfX8_22 : PF RX8 22 8 1 .int := ⟨RX8, TX8, 5, tyX8, rfl, by decide, ugwX8, rfl, Or.inl (gwm hs_2 (i := 110) rfl rfl), tyX8_ok, nmX8, rfl, rfl⟩
theorem pfX8_25 : PF RX8 25 8 2 .int := ⟨RX8, TX8, 5, tyX8, rfl, by decide, ugwX8, rfl, Or.inl (gwm hs_2 (i := 115) rfl rfl), tyX8_ok, nmX8, rfl, rfl⟩
theorem pfX8_28 : PF RX8 28 8 4 .int := ⟨RX8, TX8, 5, tyX8, rfl, by decide, ugwX8, rfl, Or.inl (gwm hs_2 (i := 119) rfl rfl), tyX8_ok, nmX8, rfl, rfl⟩
theorem pfX9_15 : PF RX9 15 9 1 .int := ⟨RX9, TX9, 2, tyX9, rfl, by decide, ugwX9, rfl, Or.inl (gwm hs_1 (i := 38) rfl rfl), tyX9_ok, nmX9, rfl, rfl⟩
