theorem zf_7_51 : zFL RX7 51 6 2 .int false := ⟨_, _, _, zcb_6, by decide, rfl, by decide +kernel, zmem_1 77 (by decide +kernel) rfl⟩
theorem zf_7_54 : zFL RX7 54 6 0 (.array .int) true := ⟨_, _, _, zcb_6, by decide, rfl, by decide +kernel, zmem_1 68 (by decide +kernel) rfl⟩
theorem zf_8_9 : zFL RX8 9 8 0 (.array .int) true := ⟨_, _, _, zcb_8, by decide, rfl, by decide +kernel, zmem_1 236 (by decide +kernel) rfl⟩
theorem zf_8_15 : zFL RX8 15 8 1 .int false := ⟨_, _, _, zcb_8, by decide, rfl, by decide +kernel, zmem_1 237 (by decide +kernel) rfl⟩
theorem zf_8_19 : zFL RX8 19 8 2 .int false := ⟨_, _, _, zcb_8, by decide, rfl, by decide +kernel, zmem_1 239 (by decide +kernel) rfl⟩
theorem zf_8_22 : zFL RX8 22 8 3 .int false := ⟨_, _, _, zcb_8, by decide, rfl, by decide +kernel, zmem_2 4 (by decide +kernel) rfl⟩
theorem zf_9_11 : zFL RX9 11 9 0 (.array (.array .int)) true := ⟨_, _, _, zcb_9, by decide, rfl, by decide +kernel, zmem_1 136 (by decide +kernel) rfl⟩
theorem zf_9_16 : zFL RX9 16 9 1 (.array (.array .int)) true := ⟨_, _, _, zcb_9, by decide, rfl, by decide +kernel, zmem_1 137 (by decide +kernel) rfl⟩
theorem zf_9_19 : zFL RX9 19 9 2 (.array .int) true := ⟨_, _, _, zcb_9, by decide, rfl, by decide +kernel, zmem_1 138 (by decide +kernel) rfl⟩
theorem zf_9_23 : zFL RX9 23 9 3 (.array .int) true := ⟨_, _, _, zcb_9, by decide, rfl, by decide +kernel, zmem_1 140 (by decide +kernel) rfl⟩
theorem zf_9_26 : zFL RX9 26 6 1 .int false := ⟨_, _, _, zcb_6, by decide, rfl, by decide +kernel, zmem_1 71 (by decide +kernel) rfl⟩
theorem zf_9_32 : zFL RX9 32 9 4 .int false := ⟨_, _, _, zcb_9, by decide, rfl, by decide +kernel, zmem_1 141 (by decide +kernel) rfl⟩
theorem zf_9_35 : zFL RX9 35 9 5 .int false := ⟨_, _, _, zcb_9, by decide, rfl, by decide +kernel, zmem_1 142 (by decide +kernel) rfl⟩
theorem zf_9_44 : zFL RX9 44 9 6 .int false := ⟨_, _, _, zcb_9, by decide, rfl, by decide +kernel, zmem_1 143 (by decide +kernel) rfl⟩
theorem zf_9_47 : zFL RX9 47 6 2 .int false := ⟨_, _, _, zcb_6, by decide, rfl, by decide +kernel, zmem_1 76 (by decide +kernel) rfl⟩
theorem zf_9_50 : zFL RX9 50 9 7 .int false := ⟨_, _, _, zcb_9, by decide, rfl, by decide +kernel, zmem_1 145 (by decide +kernel) rfl⟩
theorem zf_9_51 : zFL RX9 51 9 8 .int false := ⟨_, _, _, zcb_9, by decide, rfl, by decide +kernel, zmem_1 147 (by decide +kernel) rfl⟩
theorem zf_9_54 : zFL RX9 54 6 0 (.array .int) true := ⟨_, _, _, zcb_6, by decide, rfl, by decide +kernel, zmem_1 67 (by decide +kernel) rfl⟩
theorem zf_9_71 : zFL RX9 71 3 1 .int false := ⟨_, _, _, zcb_3, by decide, rfl, by decide +kernel, zmem_1 51 (by decide +kernel) rfl⟩
theorem zf_9_76 : zFL RX9 76 3 0 (.array .int) true := ⟨_, _, _, zcb_3, by decide, rfl, by decide +kernel, zmem_1 44 (by decide +kernel) rfl⟩
theorem zf_11_9 : zFL RX11 9 11 0 .int false := ⟨_, _, _, zcb_11, by decide, rfl, by decide +kernel, zmem_5 7 (by decide +kernel) rfl⟩
theorem zf_11_15 : zFL RX11 15 11 1 (.array .int) true := ⟨_, _, _, zcb_11, by decide, rfl, by decide +kernel, zmem_5 8 (by decide +kernel) rfl⟩
theorem zf_11_19 : zFL RX11 19 11 2 (.array .int) true := ⟨_, _, _, zcb_11, by decide, rfl, by decide +kernel, zmem_5 9 (by decide +kernel) rfl⟩
theorem zf_11_22 : zFL RX11 22 11 3 (.array .int) true := ⟨_, _, _, zcb_11, by decide, rfl, by decide +kernel, zmem_5 10 (by decide +kernel) rfl⟩
theorem zf_11_25 : zFL RX11 25 11 5 (.array .int) true := ⟨_, _, _, zcb_11, by decide, rfl, by decide +kernel, zmem_5 12 (by decide +kernel) rfl⟩
theorem zf_11_28 : zFL RX11 28 11 6 (.array .int) true := ⟨_, _, _, zcb_11, by decide, rfl, by decide +kernel, zmem_5 13 (by decide +kernel) rfl⟩
theorem zf_11_31 : zFL RX11 31 11 9 (.array .int) true := ⟨_, _, _, zcb_11, by decide, rfl, by decide +kernel, zmem_5 16 (by decide +kernel) rfl⟩
theorem zf_11_34 : zFL RX11 34 11 10 (.array .int) true := ⟨_, _, _, zcb_11, by decide, rfl, by decide +kernel, zmem_5 17 (by decide +kernel) rfl⟩
theorem zf_11_37 : zFL RX11 37 11 11 (.array .int) true := ⟨_, _, _, zcb_11, by decide, rfl, by decide +kernel, zmem_5 18 (by decide +kernel) rfl⟩
theorem zf_11_40 : zFL RX11 40 11 12 (.array .int) true := ⟨_, _, _, zcb_11, by decide, rfl, by decide +kernel, zmem_5 19 (by decide +kernel) rfl⟩
theorem zf_11_43 : zFL RX11 43 11 13 (.array .int) true := ⟨_, _, _, zcb_11, by decide, rfl, by decide +kernel, zmem_5 20 (by decide +kernel) rfl⟩
theorem zf_11_46 : zFL RX11 46 11 18 (.array .int) true := ⟨_, _, _, zcb_11, by decide, rfl, by decide +kernel, zmem_5 25 (by decide +kernel) rfl⟩
theorem zf_11_49 : zFL RX11 49 11 19 (.array .int) true := ⟨_, _, _, zcb_11, by decide, rfl, by decide +kernel, zmem_5 26 (by decide +kernel) rfl⟩
theorem zf_11_52 : zFL RX11 52 11 20 (.array .int) true := ⟨_, _, _, zcb_11, by decide, rfl, by decide +kernel, zmem_5 27 (by decide +kernel) rfl⟩
theorem zf_11_55 : zFL RX11 55 11 21 (.array .int) true := ⟨_, _, _, zcb_11, by decide, rfl, by decide +kernel, zmem_5 28 (by decide +kernel) rfl⟩
theorem zf_11_58 : zFL RX11 58 11 23 (.array .int) true := ⟨_, _, _, zcb_11, by decide, rfl, by decide +kernel, zmem_5 30 (by decide +kernel) rfl⟩
theorem zf_11_61 : zFL RX11 61 11 25 (.array .int) true := ⟨_, _, _, zcb_11, by decide, rfl, by decide +kernel, zmem_5 32 (by decide +kernel) rfl⟩
theorem zf_11_64 : zFL RX11 64 11 26 (.array .int) true := ⟨_, _, _, zcb_11, by decide, rfl, by decide +kernel, zmem_5 33 (by decide +kernel) rfl⟩
theorem zf_11_67 : zFL RX11 67 11 27 (.array .int) true := ⟨_, _, _, zcb_11, by decide, rfl, by decide +kernel, zmem_5 34 (by decide +kernel) rfl⟩
theorem zf_11_70 : zFL RX11 70 11 29 (.array .int) true := ⟨_, _, _, zcb_11, by decide, rfl, by decide +kernel, zmem_5 36 (by decide +kernel) rfl⟩
theorem zf_11_73 : zFL RX11 73 11 30 (.array .int) true := ⟨_, _, _, zcb_11, by decide, rfl, by decide +kernel, zmem_5 37 (by decide +kernel) rfl⟩
theorem zf_11_76 : zFL RX11 76 11 33 (.array .int) true := ⟨_, _, _, zcb_11, by decide, rfl, by decide +kernel, zmem_5 40 (by decide +kernel) rfl⟩
theorem zf_11_79 : zFL RX11 79 11 34 (.array .int) true := ⟨_, _, _, zcb_11, by decide, rfl, by decide +kernel, zmem_5 41 (by decide +kernel) rfl⟩
theorem zf_11_82 : zFL RX11 82 11 35 (.array .int) true := ⟨_, _, _, zcb_11, by decide, rfl, by decide +kernel, zmem_5 42 (by decide +kernel) rfl⟩
theorem zf_11_85 : zFL RX11 85 11 36 (.array .int) true := ⟨_, _, _, zcb_11, by decide, rfl, by decide +kernel, zmem_5 43 (by decide +kernel) rfl⟩
theorem zf_11_88 : zFL RX11 88 11 38 (.array .int) true := ⟨_, _, _, zcb_11, by decide, rfl, by decide +kernel, zmem_5 45 (by decide +kernel) rfl⟩
theorem zf_11_91 : zFL RX11 91 11 40 (.array .int) true := ⟨_, _, _, zcb_11, by decide, rfl, by decide +kernel, zmem_5 47 (by decide +kernel) rfl⟩
theorem zf_11_94 : zFL RX11 94 11 41 (.array .int) true := ⟨_, _, _, zcb_11, by decide, rfl, by decide +kernel, zmem_5 48 (by decide +kernel) rfl⟩
theorem zf_11_97 : zFL RX11 97 11 45 (.array .int) true := ⟨_, _, _, zcb_11, by decide, rfl, by decide +kernel, zmem_5 52 (by decide +kernel) rfl⟩
theorem zf_11_100 : zFL RX11 100 11 46 (.array .int) true := ⟨_, _, _, zcb_11, by decide, rfl, by decide +kernel, zmem_5 53 (by decide +kernel) rfl⟩
theorem zf_11_103 : zFL RX11 103 11 47 (.array .int) true := ⟨_, _, _, zcb_11, by decide, rfl, by decide +kernel, zmem_5 54 (by decide +kernel) rfl⟩
theorem zf_11_106 : zFL RX11 106 11 48 (.array .int) true := ⟨_, _, _, zcb_11, by decide, rfl, by decide +kernel, zmem_5 55 (by decide +kernel) rfl⟩
theorem zf_11_109 : zFL RX11 109 11 49 (.array .int) true := ⟨_, _, _, zcb_11, by decide, rfl, by decide +kernel, zmem_5 56 (by decide +kernel) rfl⟩
theorem zf_11_128 : zFL RX11 128 11 4 .int false := ⟨_, _, _, zcb_11, by decide, rfl, by decide +kernel, zmem_5 11 (by decide +kernel) rfl⟩
theorem zf_11_131 : zFL RX11 131 11 7 .int false := ⟨_, _, _, zcb_11, by decide, rfl, by decide +kernel, zmem_5 14 (by decide +kernel) rfl⟩
theorem zf_11_134 : zFL RX11 134 11 8 .int false := ⟨_, _, _, zcb_11, by decide, rfl, by decide +kernel, zmem_5 15 (by decide +kernel) rfl⟩
theorem zf_11_189 : zFL RX11 189 11 14 .int false := ⟨_, _, _, zcb_11, by decide, rfl, by decide +kernel, zmem_5 21 (by decide +kernel) rfl⟩
theorem zf_11_192 : zFL RX11 192 11 16 .int false := ⟨_, _, _, zcb_11, by decide, rfl, by decide +kernel, zmem_5 23 (by decide +kernel) rfl⟩
theorem zf_11_195 : zFL RX11 195 11 17 .int false := ⟨_, _, _, zcb_11, by decide, rfl, by decide +kernel, zmem_5 24 (by decide +kernel) rfl⟩
theorem zf_11_198 : zFL RX11 198 11 15 .int false := ⟨_, _, _, zcb_11, by decide, rfl, by decide +kernel, zmem_5 22 (by decide +kernel) rfl⟩
theorem zf_11_201 : zFL RX11 201 11 22 .int false := ⟨_, _, _, zcb_11, by decide, rfl, by decide +kernel, zmem_5 29 (by decide +kernel) rfl⟩
theorem zf_11_226 : zFL RX11 226 11 24 .int false := ⟨_, _, _, zcb_11, by decide, rfl, by decide +kernel, zmem_5 31 (by decide +kernel) rfl⟩
theorem zf_11_252 : zFL RX11 252 11 28 .int false := ⟨_, _, _, zcb_11, by decide, rfl, by decide +kernel, zmem_5 35 (by decide +kernel) rfl⟩
theorem zf_11_282 : zFL RX11 282 11 31 .int false := ⟨_, _, _, zcb_11, by decide, rfl, by decide +kernel, zmem_5 38 (by decide +kernel) rfl⟩
theorem zf_11_285 : zFL RX11 285 11 32 .int false := ⟨_, _, _, zcb_11, by decide, rfl, by decide +kernel, zmem_5 39 (by decide +kernel) rfl⟩
theorem zf_11_349 : zFL RX11 349 11 37 .int false := ⟨_, _, _, zcb_11, by decide, rfl, by decide +kernel, zmem_5 44 (by decide +kernel) rfl⟩
theorem zf_11_358 : zFL RX11 358 11 39 .int false := ⟨_, _, _, zcb_11, by decide, rfl, by decide +kernel, zmem_5 46 (by decide +kernel) rfl⟩
theorem zf_11_374 : zFL RX11 374 11 42 .boolean false := ⟨_, _, _, zcb_11, by decide, rfl, by decide +kernel, zmem_5 49 (by decide +kernel) rfl⟩
theorem zf_11_378 : zFL RX11 378 11 43 .int false := ⟨_, _, _, zcb_11, by decide, rfl, by decide +kernel, zmem_5 50 (by decide +kernel) rfl⟩
theorem zf_11_381 : zFL RX11 381 11 44 .int false := ⟨_, _, _, zcb_11, by decide, rfl, by decide +kernel, zmem_5 51 (by decide +kernel) rfl⟩
abbrev zm_X10_init : zM := (yX10_init, cX10_init, 1, none, { frames := 3, cells := 202, slots := 15180, locals := 61 })
theorem zi_X10_init : zCal zm_X10_init 0 := ⟨zmem_1 1 (by decide +kernel) rfl, zmem_1 24 (by decide +kernel) rfl, by decide +kernel, by decide +kernel, by decide +kernel⟩
theorem zii_X10_init : Cond.instanceMethod yX10_init ∈ ztbl := zmem_1 23 (by decide +kernel) rfl
abbrev zm_X0_init : zM := (yX0_init, cX0_init, 2, none, { frames := 2, cells := 33, slots := 1267, locals := 40 })
theorem zi_X0_init : zCal zm_X0_init 0 := ⟨zmem_1 2 (by decide +kernel) rfl, zmem_1 32 (by decide +kernel) rfl, by decide +kernel, by decide +kernel, by decide +kernel⟩
theorem zii_X0_init : Cond.instanceMethod yX0_init ∈ ztbl := zmem_1 31 (by decide +kernel) rfl
abbrev zm_X3_init : zM := (yX3_init, cX3_init, 1, none, { frames := 1, cells := 1, slots := 81, locals := 20 })
theorem zi_X3_init : zCal zm_X3_init 0 := ⟨zmem_1 3 (by decide +kernel) rfl, zmem_1 40 (by decide +kernel) rfl, by decide +kernel, by decide +kernel, by decide +kernel⟩
theorem zii_X3_init : Cond.instanceMethod yX3_init ∈ ztbl := zmem_1 39 (by decide +kernel) rfl
abbrev zm_X6_init : zM := (yX6_init, cX6_init, 1, none, { frames := 1, cells := 1, slots := 80, locals := 20 })
theorem zi_X6_init : zCal zm_X6_init 0 := ⟨zmem_1 4 (by decide +kernel) rfl, zmem_1 64 (by decide +kernel) rfl, by decide +kernel, by decide +kernel, by decide +kernel⟩
theorem zii_X6_init : Cond.instanceMethod yX6_init ∈ ztbl := zmem_1 63 (by decide +kernel) rfl
abbrev zm_X7_init : zM := (yX7_init, cX7_init, 1, none, { frames := 1, cells := 4, slots := 320, locals := 20 })
theorem zi_X7_init : zCal zm_X7_init 0 := ⟨zmem_1 5 (by decide +kernel) rfl, zmem_1 113 (by decide +kernel) rfl, by decide +kernel, by decide +kernel, by decide +kernel⟩
theorem zii_X7_init : Cond.instanceMethod yX7_init ∈ ztbl := zmem_1 112 (by decide +kernel) rfl
abbrev zm_X9_init : zM := (yX9_init, cX9_init, 1, none, { frames := 1, cells := 22, slots := 1618, locals := 20 })
theorem zi_X9_init : zCal zm_X9_init 0 := ⟨zmem_1 6 (by decide +kernel) rfl, zmem_1 132 (by decide +kernel) rfl, by decide +kernel, by decide +kernel, by decide +kernel⟩
theorem zii_X9_init : Cond.instanceMethod yX9_init ∈ ztbl := zmem_1 131 (by decide +kernel) rfl
abbrev zm_X1_init : zM := (yX1_init, cX1_init, 1, none, { frames := 1, cells := 84, slots := 6803, locals := 20 })
theorem zi_X1_init : zCal zm_X1_init 0 := ⟨zmem_1 7 (by decide +kernel) rfl, zmem_1 171 (by decide +kernel) rfl, by decide +kernel, by decide +kernel, by decide +kernel⟩
theorem zii_X1_init : Cond.instanceMethod yX1_init ∈ ztbl := zmem_1 170 (by decide +kernel) rfl
abbrev zm_X2_init : zM := (yX2_init, cX2_init, 1, none, { frames := 1, cells := 5, slots := 2198, locals := 23 })
theorem zi_X2_init : zCal zm_X2_init 0 := ⟨zmem_1 8 (by decide +kernel) rfl, zmem_1 209 (by decide +kernel) rfl, by decide +kernel, by decide +kernel, by decide +kernel⟩
theorem zii_X2_init : Cond.instanceMethod yX2_init ∈ ztbl := zmem_1 208 (by decide +kernel) rfl
abbrev zm_J7_fill_53178 : zM := (yJ7_fill_53178, cJ7_fill_53178, 4, none, { frames := 0, cells := 0, slots := 0, locals := 0 })
theorem zi_J7_fill_53178 : zCal zm_J7_fill_53178 2 := ⟨zmem_1 9 (by decide +kernel) rfl, zmem_1 213 (by decide +kernel) rfl, by decide +kernel, by decide +kernel, by decide +kernel⟩
theorem zis_J7_fill_53178 : Cond.static yJ7_fill_53178 ∈ ztbl := zmem_1 212 (by decide +kernel) rfl
abbrev zm_X8_init : zM := (yX8_init, cX8_init, 1, none, { frames := 1, cells := 1, slots := 100, locals := 20 })
theorem zi_X8_init : zCal zm_X8_init 0 := ⟨zmem_1 10 (by decide +kernel) rfl, zmem_1 234 (by decide +kernel) rfl, by decide +kernel, by decide +kernel, by decide +kernel⟩
theorem zii_X8_init : Cond.instanceMethod yX8_init ∈ ztbl := zmem_1 233 (by decide +kernel) rfl
abbrev zm_X5_init : zM := (yX5_init, cX5_init, 1, none, { frames := 1, cells := 2, slots := 500, locals := 20 })
theorem zi_X5_init : zCal zm_X5_init 0 := ⟨zmem_1 11 (by decide +kernel) rfl, zmem_2 18 (by decide +kernel) rfl, by decide +kernel, by decide +kernel, by decide +kernel⟩
theorem zii_X5_init : Cond.instanceMethod yX5_init ∈ ztbl := zmem_2 17 (by decide +kernel) rfl
abbrev zm_X4_init : zM := (yX4_init, cX4_init, 1, none, { frames := 2, cells := 3, slots := 731, locals := 40 })
theorem zi_X4_init : zCal zm_X4_init 0 := ⟨zmem_1 12 (by decide +kernel) rfl, zmem_2 36 (by decide +kernel) rfl, by decide +kernel, by decide +kernel, by decide +kernel⟩
theorem zii_X4_init : Cond.instanceMethod yX4_init ∈ ztbl := zmem_2 35 (by decide +kernel) rfl
abbrev zm_X10_prime : zM := (yX10_prime, cX10_prime, 3, (some .int), { frames := 2, cells := 0, slots := 0, locals := 43 })
theorem zi_X10_prime : zCal zm_X10_prime 1 := ⟨zmem_1 1 (by decide +kernel) rfl, zmem_2 95 (by decide +kernel) rfl, by decide +kernel, by decide +kernel, by decide +kernel⟩
theorem zii_X10_prime : Cond.instanceMethod yX10_prime ∈ ztbl := zmem_2 93 (by decide +kernel) rfl
theorem zie_X10_prime : Cond.selects zm_X10_prime.1.cls yX10_prime yX10_prime ∈ ztbl := zmem_2 94 (by decide +kernel) rfl
abbrev zm_X10_isModulus : zM := (yX10_isModulus, cX10_isModulus, 2, (some .boolean), { frames := 0, cells := 0, slots := 0, locals := 0 })
theorem zi_X10_isModulus : zCal zm_X10_isModulus 1 := ⟨zmem_1 1 (by decide +kernel) rfl, zmem_2 98 (by decide +kernel) rfl, by decide +kernel, by decide +kernel, by decide +kernel⟩
theorem zis_X10_isModulus : Cond.static yX10_isModulus ∈ ztbl := zmem_2 97 (by decide +kernel) rfl
abbrev zm_X0_startAnew : zM := (yX0_startAnew, cX0_startAnew, 3, none, { frames := 0, cells := 0, slots := 0, locals := 0 })
theorem zi_X0_startAnew : zCal zm_X0_startAnew 1 := ⟨zmem_1 2 (by decide +kernel) rfl, zmem_2 102 (by decide +kernel) rfl, by decide +kernel, by decide +kernel, by decide +kernel⟩
theorem zii_X0_startAnew : Cond.instanceMethod yX0_startAnew ∈ ztbl := zmem_2 100 (by decide +kernel) rfl
theorem zie_X0_startAnew : Cond.selects zm_X0_startAnew.1.cls yX0_startAnew yX0_startAnew ∈ ztbl := zmem_2 101 (by decide +kernel) rfl
abbrev zm_X2_forget : zM := (yX2_forget, cX2_forget, 1, none, { frames := 1, cells := 0, slots := 0, locals := 23 })
theorem zi_X2_forget : zCal zm_X2_forget 0 := ⟨zmem_1 8 (by decide +kernel) rfl, zmem_2 106 (by decide +kernel) rfl, by decide +kernel, by decide +kernel, by decide +kernel⟩
theorem zii_X2_forget : Cond.instanceMethod yX2_forget ∈ ztbl := zmem_2 104 (by decide +kernel) rfl
theorem zie_X2_forget : Cond.selects zm_X2_forget.1.cls yX2_forget yX2_forget ∈ ztbl := zmem_2 105 (by decide +kernel) rfl
abbrev zm_X10_j : zM := (yX10_j, cX10_j, 3, (some .int), { frames := 3, cells := 0, slots := 0, locals := 74 })
theorem zi_X10_j : zCal zm_X10_j 2 := ⟨zmem_1 1 (by decide +kernel) rfl, zmem_2 110 (by decide +kernel) rfl, by decide +kernel, by decide +kernel, by decide +kernel⟩
theorem zii_X10_j : Cond.instanceMethod yX10_j ∈ ztbl := zmem_2 108 (by decide +kernel) rfl
theorem zie_X10_j : Cond.selects zm_X10_j.1.cls yX10_j yX10_j ∈ ztbl := zmem_2 109 (by decide +kernel) rfl
abbrev zm_X10_isSeries : zM := (yX10_isSeries, cX10_isSeries, 1, (some .boolean), { frames := 0, cells := 0, slots := 0, locals := 0 })
theorem zi_X10_isSeries : zCal zm_X10_isSeries 1 := ⟨zmem_1 1 (by decide +kernel) rfl, zmem_2 113 (by decide +kernel) rfl, by decide +kernel, by decide +kernel, by decide +kernel⟩
theorem zis_X10_isSeries : Cond.static yX10_isSeries ∈ ztbl := zmem_2 112 (by decide +kernel) rfl
abbrev zm_X7_makeInvariant : zM := (yX7_makeInvariant, cX7_makeInvariant, 4, none, { frames := 2, cells := 0, slots := 0, locals := 51 })
theorem zi_X7_makeInvariant : zCal zm_X7_makeInvariant 3 := ⟨zmem_1 5 (by decide +kernel) rfl, zmem_2 117 (by decide +kernel) rfl, by decide +kernel, by decide +kernel, by decide +kernel⟩
theorem zii_X7_makeInvariant : Cond.instanceMethod yX7_makeInvariant ∈ ztbl := zmem_2 115 (by decide +kernel) rfl
theorem zie_X7_makeInvariant : Cond.selects zm_X7_makeInvariant.1.cls yX7_makeInvariant yX7_makeInvariant ∈ ztbl := zmem_2 116 (by decide +kernel) rfl
abbrev zm_X7_fillEisenstein : zM := (yX7_fillEisenstein, cX7_fillEisenstein, 6, none, { frames := 1, cells := 0, slots := 0, locals := 23 })
theorem zi_X7_fillEisenstein : zCal zm_X7_fillEisenstein 2 := ⟨zmem_1 5 (by decide +kernel) rfl, zmem_2 121 (by decide +kernel) rfl, by decide +kernel, by decide +kernel, by decide +kernel⟩
theorem zii_X7_fillEisenstein : Cond.instanceMethod yX7_fillEisenstein ∈ ztbl := zmem_2 120 (by decide +kernel) rfl
theorem zie_X7_fillEisenstein : Cond.selects zm_X7_fillEisenstein.1.cls yX7_fillEisenstein yX7_fillEisenstein ∈ ztbl := zmemp 0 (by decide +kernel) rfl
abbrev zm_X10_multiply : zM := (yX10_multiply, cX10_multiply, 8, none, { frames := 1, cells := 0, slots := 0, locals := 23 })
theorem zi_X10_multiply : zCal zm_X10_multiply 5 := ⟨zmem_1 1 (by decide +kernel) rfl, zmem_2 125 (by decide +kernel) rfl, by decide +kernel, by decide +kernel, by decide +kernel⟩
theorem zis_X10_multiply : Cond.static yX10_multiply ∈ ztbl := zmem_2 124 (by decide +kernel) rfl
abbrev zm_X7_fillEulerProduct : zM := (yX7_fillEulerProduct, cX7_fillEulerProduct, 5, none, { frames := 1, cells := 0, slots := 0, locals := 23 })
theorem zi_X7_fillEulerProduct : zCal zm_X7_fillEulerProduct 2 := ⟨zmem_1 5 (by decide +kernel) rfl, zmem_2 129 (by decide +kernel) rfl, by decide +kernel, by decide +kernel, by decide +kernel⟩
theorem zii_X7_fillEulerProduct : Cond.instanceMethod yX7_fillEulerProduct ∈ ztbl := zmem_2 128 (by decide +kernel) rfl
theorem zie_X7_fillEulerProduct : Cond.selects zm_X7_fillEulerProduct.1.cls yX7_fillEulerProduct yX7_fillEulerProduct ∈ ztbl := zmemp 1 (by decide +kernel) rfl
abbrev zm_X7_invert : zM := (yX7_invert, cX7_invert, 8, none, { frames := 1, cells := 0, slots := 0, locals := 24 })
theorem zi_X7_invert : zCal zm_X7_invert 4 := ⟨zmem_1 5 (by decide +kernel) rfl, zmem_2 132 (by decide +kernel) rfl, by decide +kernel, by decide +kernel, by decide +kernel⟩
theorem zis_X7_invert : Cond.static yX7_invert ∈ ztbl := zmem_2 131 (by decide +kernel) rfl
abbrev zm_X10_inverse : zM := (yX10_inverse, cX10_inverse, 5, (some .int), { frames := 0, cells := 0, slots := 0, locals := 0 })
theorem zi_X10_inverse : zCal zm_X10_inverse 2 := ⟨zmem_1 1 (by decide +kernel) rfl, zmem_2 135 (by decide +kernel) rfl, by decide +kernel, by decide +kernel, by decide +kernel⟩
theorem zis_X10_inverse : Cond.static yX10_inverse ∈ ztbl := zmem_2 134 (by decide +kernel) rfl
abbrev zm_X6_become : zM := (yX6_become, cX6_become, 4, none, { frames := 1, cells := 0, slots := 0, locals := 26 })
theorem zi_X6_become : zCal zm_X6_become 3 := ⟨zmem_1 4 (by decide +kernel) rfl, zmem_2 139 (by decide +kernel) rfl, by decide +kernel, by decide +kernel, by decide +kernel⟩
theorem zii_X6_become : Cond.instanceMethod yX6_become ∈ ztbl := zmem_2 137 (by decide +kernel) rfl
theorem zie_X6_become : Cond.selects zm_X6_become.1.cls yX6_become yX6_become ∈ ztbl := zmem_2 138 (by decide +kernel) rfl
abbrev zm_X10_tell : zM := (yX10_tell, cX10_tell, 5, (some .int), { frames := 3, cells := 0, slots := 0, locals := 75 })
theorem zi_X10_tell : zCal zm_X10_tell 3 := ⟨zmem_1 1 (by decide +kernel) rfl, zmem_2 146 (by decide +kernel) rfl, by decide +kernel, by decide +kernel, by decide +kernel⟩
theorem zii_X10_tell : Cond.instanceMethod yX10_tell ∈ ztbl := zmem_2 144 (by decide +kernel) rfl
theorem zie_X10_tell : Cond.selects zm_X10_tell.1.cls yX10_tell yX10_tell ∈ ztbl := zmem_2 145 (by decide +kernel) rfl
abbrev zm_X10_isList : zM := (yX10_isList, cX10_isList, 1, (some .boolean), { frames := 0, cells := 0, slots := 0, locals := 0 })
theorem zi_X10_isList : zCal zm_X10_isList 1 := ⟨zmem_1 1 (by decide +kernel) rfl, zmem_2 149 (by decide +kernel) rfl, by decide +kernel, by decide +kernel, by decide +kernel⟩
theorem zis_X10_isList : Cond.static yX10_isList ∈ ztbl := zmem_2 148 (by decide +kernel) rfl
abbrev zm_X10_isTooFar : zM := (yX10_isTooFar, cX10_isTooFar, 1, (some .boolean), { frames := 0, cells := 0, slots := 0, locals := 0 })
theorem zi_X10_isTooFar : zCal zm_X10_isTooFar 1 := ⟨zmem_1 1 (by decide +kernel) rfl, zmem_2 152 (by decide +kernel) rfl, by decide +kernel, by decide +kernel, by decide +kernel⟩
theorem zis_X10_isTooFar : Cond.static yX10_isTooFar ∈ ztbl := zmem_2 151 (by decide +kernel) rfl
abbrev zm_X7_reduce : zM := (yX7_reduce, cX7_reduce, 7, none, { frames := 2, cells := 0, slots := 0, locals := 49 })
theorem zi_X7_reduce : zCal zm_X7_reduce 5 := ⟨zmem_1 5 (by decide +kernel) rfl, zmem_2 156 (by decide +kernel) rfl, by decide +kernel, by decide +kernel, by decide +kernel⟩
theorem zii_X7_reduce : Cond.instanceMethod yX7_reduce ∈ ztbl := zmem_2 154 (by decide +kernel) rfl
theorem zie_X7_reduce : Cond.selects zm_X7_reduce.1.cls yX7_reduce yX7_reduce ∈ ztbl := zmem_2 155 (by decide +kernel) rfl
abbrev zm_J9_floorMod_7cf53 : zM := (yJ9_floorMod_7cf53, cJ9_floorMod_7cf53, 3, (some .int), { frames := 0, cells := 0, slots := 0, locals := 0 })
theorem zi_J9_floorMod_7cf53 : zCal zm_J9_floorMod_7cf53 2 := ⟨zmem_1 15 (by decide +kernel) rfl, zmem_2 159 (by decide +kernel) rfl, by decide +kernel, by decide +kernel, by decide +kernel⟩
theorem zis_J9_floorMod_7cf53 : Cond.static yJ9_floorMod_7cf53 ∈ ztbl := zmem_2 158 (by decide +kernel) rfl
abbrev zm_X10_sum : zM := (yX10_sum, cX10_sum, 4, (some .int), { frames := 3, cells := 0, slots := 0, locals := 76 })
theorem zi_X10_sum : zCal zm_X10_sum 3 := ⟨zmem_1 1 (by decide +kernel) rfl, zmem_2 163 (by decide +kernel) rfl, by decide +kernel, by decide +kernel, by decide +kernel⟩
theorem zii_X10_sum : Cond.instanceMethod yX10_sum ∈ ztbl := zmem_2 161 (by decide +kernel) rfl
theorem zie_X10_sum : Cond.selects zm_X10_sum.1.cls yX10_sum yX10_sum ∈ ztbl := zmem_2 162 (by decide +kernel) rfl
abbrev zm_X6_isMissing : zM := (yX6_isMissing, cX6_isMissing, 1, (some .boolean), { frames := 0, cells := 0, slots := 0, locals := 0 })
theorem zi_X6_isMissing : zCal zm_X6_isMissing 0 := ⟨zmem_1 4 (by decide +kernel) rfl, zmem_2 167 (by decide +kernel) rfl, by decide +kernel, by decide +kernel, by decide +kernel⟩
theorem zii_X6_isMissing : Cond.instanceMethod yX6_isMissing ∈ ztbl := zmem_2 165 (by decide +kernel) rfl
theorem zie_X6_isMissing : Cond.selects zm_X6_isMissing.1.cls yX6_isMissing yX6_isMissing ∈ ztbl := zmem_2 166 (by decide +kernel) rfl
abbrev zm_X7_add : zM := (yX7_add, cX7_add, 8, none, { frames := 2, cells := 0, slots := 0, locals := 49 })
theorem zi_X7_add : zCal zm_X7_add 4 := ⟨zmem_1 5 (by decide +kernel) rfl, zmem_2 171 (by decide +kernel) rfl, by decide +kernel, by decide +kernel, by decide +kernel⟩
theorem zii_X7_add : Cond.instanceMethod yX7_add ∈ ztbl := zmem_2 169 (by decide +kernel) rfl
theorem zie_X7_add : Cond.selects zm_X7_add.1.cls yX7_add yX7_add ∈ ztbl := zmem_2 170 (by decide +kernel) rfl
abbrev zm_X6_last : zM := (yX6_last, cX6_last, 1, (some .int), { frames := 0, cells := 0, slots := 0, locals := 0 })
theorem zi_X6_last : zCal zm_X6_last 0 := ⟨zmem_1 4 (by decide +kernel) rfl, zmem_2 178 (by decide +kernel) rfl, by decide +kernel, by decide +kernel, by decide +kernel⟩
theorem zii_X6_last : Cond.instanceMethod yX6_last ∈ ztbl := zmem_2 176 (by decide +kernel) rfl
theorem zie_X6_last : Cond.selects zm_X6_last.1.cls yX6_last yX6_last ∈ ztbl := zmem_2 177 (by decide +kernel) rfl
abbrev zm_X6_valueOf : zM := (yX6_valueOf, cX6_valueOf, 2, (some .int), { frames := 0, cells := 0, slots := 0, locals := 0 })
theorem zi_X6_valueOf : zCal zm_X6_valueOf 1 := ⟨zmem_1 4 (by decide +kernel) rfl, zmem_2 182 (by decide +kernel) rfl, by decide +kernel, by decide +kernel, by decide +kernel⟩
theorem zii_X6_valueOf : Cond.instanceMethod yX6_valueOf ∈ ztbl := zmem_2 180 (by decide +kernel) rfl
theorem zie_X6_valueOf : Cond.selects zm_X6_valueOf.1.cls yX6_valueOf yX6_valueOf ∈ ztbl := zmem_2 181 (by decide +kernel) rfl
abbrev zm_X10_times : zM := (yX10_times, cX10_times, 6, (some .int), { frames := 3, cells := 0, slots := 0, locals := 75 })
theorem zi_X10_times : zCal zm_X10_times 3 := ⟨zmem_1 1 (by decide +kernel) rfl, zmem_2 186 (by decide +kernel) rfl, by decide +kernel, by decide +kernel, by decide +kernel⟩
theorem zii_X10_times : Cond.instanceMethod yX10_times ∈ ztbl := zmem_2 184 (by decide +kernel) rfl
theorem zie_X10_times : Cond.selects zm_X10_times.1.cls yX10_times yX10_times ∈ ztbl := zmem_2 185 (by decide +kernel) rfl
abbrev zm_X7_makeProduct : zM := (yX7_makeProduct, cX7_makeProduct, 6, none, { frames := 2, cells := 0, slots := 0, locals := 50 })
theorem zi_X7_makeProduct : zCal zm_X7_makeProduct 4 := ⟨zmem_1 5 (by decide +kernel) rfl, zmem_2 190 (by decide +kernel) rfl, by decide +kernel, by decide +kernel, by decide +kernel⟩
theorem zii_X7_makeProduct : Cond.instanceMethod yX7_makeProduct ∈ ztbl := zmem_2 188 (by decide +kernel) rfl
theorem zie_X7_makeProduct : Cond.selects zm_X7_makeProduct.1.cls yX7_makeProduct yX7_makeProduct ∈ ztbl := zmem_2 189 (by decide +kernel) rfl
abbrev zm_X10_stretch : zM := (yX10_stretch, cX10_stretch, 4, (some .int), { frames := 3, cells := 0, slots := 0, locals := 74 })
theorem zi_X10_stretch : zCal zm_X10_stretch 3 := ⟨zmem_1 1 (by decide +kernel) rfl, zmem_2 194 (by decide +kernel) rfl, by decide +kernel, by decide +kernel, by decide +kernel⟩
theorem zii_X10_stretch : Cond.instanceMethod yX10_stretch ∈ ztbl := zmem_2 192 (by decide +kernel) rfl
theorem zie_X10_stretch : Cond.selects zm_X10_stretch.1.cls yX10_stretch yX10_stretch ∈ ztbl := zmem_2 193 (by decide +kernel) rfl
abbrev zm_X7_widen : zM := (yX7_widen, cX7_widen, 6, none, { frames := 2, cells := 0, slots := 0, locals := 49 })
theorem zi_X7_widen : zCal zm_X7_widen 3 := ⟨zmem_1 5 (by decide +kernel) rfl, zmem_2 198 (by decide +kernel) rfl, by decide +kernel, by decide +kernel, by decide +kernel⟩
theorem zii_X7_widen : Cond.instanceMethod yX7_widen ∈ ztbl := zmem_2 196 (by decide +kernel) rfl
theorem zie_X7_widen : Cond.selects zm_X7_widen.1.cls yX7_widen yX7_widen ∈ ztbl := zmem_2 197 (by decide +kernel) rfl
abbrev zm_X10_over : zM := (yX10_over, cX10_over, 3, (some .int), { frames := 3, cells := 0, slots := 0, locals := 74 })
theorem zi_X10_over : zCal zm_X10_over 2 := ⟨zmem_1 1 (by decide +kernel) rfl, zmem_2 202 (by decide +kernel) rfl, by decide +kernel, by decide +kernel, by decide +kernel⟩
theorem zii_X10_over : Cond.instanceMethod yX10_over ∈ ztbl := zmem_2 200 (by decide +kernel) rfl
theorem zie_X10_over : Cond.selects zm_X10_over.1.cls yX10_over yX10_over ∈ ztbl := zmem_2 201 (by decide +kernel) rfl
abbrev zm_X7_makeReciprocal : zM := (yX7_makeReciprocal, cX7_makeReciprocal, 4, none, { frames := 2, cells := 0, slots := 0, locals := 51 })
theorem zi_X7_makeReciprocal : zCal zm_X7_makeReciprocal 3 := ⟨zmem_1 5 (by decide +kernel) rfl, zmem_2 206 (by decide +kernel) rfl, by decide +kernel, by decide +kernel, by decide +kernel⟩
theorem zii_X7_makeReciprocal : Cond.instanceMethod yX7_makeReciprocal ∈ ztbl := zmem_2 204 (by decide +kernel) rfl
theorem zie_X7_makeReciprocal : Cond.selects zm_X7_makeReciprocal.1.cls yX7_makeReciprocal yX7_makeReciprocal ∈ ztbl := zmem_2 205 (by decide +kernel) rfl
abbrev zm_X10_power : zM := (yX10_power, cX10_power, 4, (some .int), { frames := 3, cells := 0, slots := 0, locals := 75 })
theorem zi_X10_power : zCal zm_X10_power 3 := ⟨zmem_1 1 (by decide +kernel) rfl, zmem_2 210 (by decide +kernel) rfl, by decide +kernel, by decide +kernel, by decide +kernel⟩
theorem zii_X10_power : Cond.instanceMethod yX10_power ∈ ztbl := zmem_2 208 (by decide +kernel) rfl
theorem zie_X10_power : Cond.selects zm_X10_power.1.cls yX10_power yX10_power ∈ ztbl := zmem_2 209 (by decide +kernel) rfl
abbrev zm_X7_makePower : zM := (yX7_makePower, cX7_makePower, 6, none, { frames := 2, cells := 0, slots := 0, locals := 50 })
theorem zi_X7_makePower : zCal zm_X7_makePower 4 := ⟨zmem_1 5 (by decide +kernel) rfl, zmem_2 214 (by decide +kernel) rfl, by decide +kernel, by decide +kernel, by decide +kernel⟩
theorem zii_X7_makePower : Cond.instanceMethod yX7_makePower ∈ ztbl := zmem_2 212 (by decide +kernel) rfl
theorem zie_X7_makePower : Cond.selects zm_X7_makePower.1.cls yX7_makePower yX7_makePower ∈ ztbl := zmem_2 213 (by decide +kernel) rfl
abbrev zm_X10_of : zM := (yX10_of, cX10_of, 5, (some .int), { frames := 1, cells := 0, slots := 0, locals := 21 })
theorem zi_X10_of : zCal zm_X10_of 2 := ⟨zmem_1 1 (by decide +kernel) rfl, zmem_2 219 (by decide +kernel) rfl, by decide +kernel, by decide +kernel, by decide +kernel⟩
theorem zii_X10_of : Cond.instanceMethod yX10_of ∈ ztbl := zmem_2 217 (by decide +kernel) rfl
theorem zie_X10_of : Cond.selects zm_X10_of.1.cls yX10_of yX10_of ∈ ztbl := zmem_2 218 (by decide +kernel) rfl
abbrev zm_X6_firstNonzero : zM := (yX6_firstNonzero, cX6_firstNonzero, 2, (some .int), { frames := 0, cells := 0, slots := 0, locals := 0 })
theorem zi_X6_firstNonzero : zCal zm_X6_firstNonzero 0 := ⟨zmem_1 4 (by decide +kernel) rfl, zmem_2 223 (by decide +kernel) rfl, by decide +kernel, by decide +kernel, by decide +kernel⟩
theorem zii_X6_firstNonzero : Cond.instanceMethod yX6_firstNonzero ∈ ztbl := zmem_2 221 (by decide +kernel) rfl
theorem zie_X6_firstNonzero : Cond.selects zm_X6_firstNonzero.1.cls yX6_firstNonzero yX6_firstNonzero ∈ ztbl := zmem_2 222 (by decide +kernel) rfl
abbrev zm_X10_coefficient : zM := (yX10_coefficient, cX10_coefficient, 3, (some .int), { frames := 1, cells := 0, slots := 0, locals := 21 })
theorem zi_X10_coefficient : zCal zm_X10_coefficient 2 := ⟨zmem_1 1 (by decide +kernel) rfl, zmem_2 227 (by decide +kernel) rfl, by decide +kernel, by decide +kernel, by decide +kernel⟩
