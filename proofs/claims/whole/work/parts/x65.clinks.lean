/-! words that constructors need -/
theorem oi_X0_3 : Cond.methodLink RX0 3 Lib.objectInit ∈ UW := uw_in (tin_1 (List.mem_of_getElem? (i := 37) (by decide +kernel))) (by decide +kernel)
theorem oi_X1_3 : Cond.methodLink RX1 3 Lib.objectInit ∈ UW := uw_in (tin_2 (List.mem_of_getElem? (i := 128) (by decide +kernel))) (by decide +kernel)
theorem oi_X11_1 : Cond.methodLink RX11 1 Lib.objectInit ∈ UW := uw_in (tin_6 (List.mem_of_getElem? (i := 71) (by decide +kernel))) (by decide +kernel)
theorem oi_X2_3 : Cond.methodLink RX2 3 Lib.objectInit ∈ UW := uw_in (tin_2 (List.mem_of_getElem? (i := 181) (by decide +kernel))) (by decide +kernel)
theorem oi_X3_1 : Cond.methodLink RX3 1 Lib.objectInit ∈ UW := uw_in (tin_2 (List.mem_of_getElem? (i := 234) (by decide +kernel))) (by decide +kernel)
theorem oi_X4_3 : Cond.methodLink RX4 3 Lib.objectInit ∈ UW := uw_in (tin_1 (List.mem_of_getElem? (i := 43) (by decide +kernel))) (by decide +kernel)
theorem oi_X5_3 : Cond.methodLink RX5 3 Lib.objectInit ∈ UW := uw_in (tin_2 (List.mem_of_getElem? (i := 211) (by decide +kernel))) (by decide +kernel)
theorem oi_X8_3 : Cond.methodLink RX8 3 Lib.objectInit ∈ UW := uw_in (tin_2 (List.mem_of_getElem? (i := 63) (by decide +kernel))) (by decide +kernel)
theorem oi_X9_1 : Cond.methodLink RX9 1 Lib.objectInit ∈ UW := uw_in (tin_2 (List.mem_of_getElem? (i := 155) (by decide +kernel))) (by decide +kernel)
theorem oim : Cond.instanceMethod Lib.objectInit ∈ UW := uw_in (tin_1 (List.mem_of_getElem? (i := 30) (by decide +kernel))) (by decide +kernel)
theorem oic : Cond.code Lib.objectInit ⟨#[0xb1]⟩ 1 none ∈ UW := uw_in (tin_1 (List.mem_of_getElem? (i := 31) (by decide +kernel))) (by decide +kernel)
theorem ac_boolean : Cond.arrayClass .boolean ∈ UW := uw_in (tin_2 (List.mem_of_getElem? (i := 122) (by decide +kernel))) (by decide +kernel)
theorem ac_int : Cond.arrayClass .int ∈ UW := uw_in (tin_1 (List.mem_of_getElem? (i := 66) (by decide +kernel))) (by decide +kernel)
theorem ac_long : Cond.arrayClass .long ∈ UW := uw_in (tin_1 (List.mem_of_getElem? (i := 67) (by decide +kernel))) (by decide +kernel)
theorem cl_X0_42 : Cond.classLink RX0 42 RX4 ∈ UW := uw_in (tin_1 (List.mem_of_getElem? (i := 38) (by decide +kernel))) (by decide +kernel)
theorem ins_X10 : Cond.instantiable RX10 14 ∈ UW := uw_in (tin_1 (List.mem_of_getElem? (i := 25) (by decide +kernel))) (by decide +kernel)
theorem ini_X10 : Cond.initialized RX10 ∈ UW := uw_in (tin_1 (List.mem_of_getElem? (i := 1) (by decide +kernel))) (by decide +kernel)
theorem ins_X11 : Cond.instantiable RX11 80 ∈ UW := uw_in (tin_6 (List.mem_of_getElem? (i := 67) (by decide +kernel))) (by decide +kernel)
theorem ini_X11 : Cond.initialized RX11 ∈ UW := uw_in (tin_1 (List.mem_of_getElem? (i := 16) (by decide +kernel))) (by decide +kernel)
theorem ins_X4 : Cond.instantiable RX4 6 ∈ UW := uw_in (tin_1 (List.mem_of_getElem? (i := 39) (by decide +kernel))) (by decide +kernel)
theorem ini_X4 : Cond.initialized RX4 ∈ UW := uw_in (tin_1 (List.mem_of_getElem? (i := 3) (by decide +kernel))) (by decide +kernel)
theorem mw_X4_init : MWc yX4_init cX4_init 1 none 0 := ⟨uw_in (tin_1 (List.mem_of_getElem? (i := 42) rfl)) rfl, uw_in (tin_1 (List.mem_of_getElem? (i := 3) (by decide +kernel))) (by decide +kernel), by decide +kernel, by decide +kernel, by decide +kernel⟩
theorem mi_X4_init : Cond.instanceMethod yX4_init ∈ UW := uw_in (tin_1 (List.mem_of_getElem? (i := 41) (by decide +kernel))) (by decide +kernel)
theorem mw_X0_init : MWc yX0_init cX0_init 1 none 0 := ⟨uw_in (tin_1 (List.mem_of_getElem? (i := 36) rfl)) rfl, uw_in (tin_1 (List.mem_of_getElem? (i := 2) (by decide +kernel))) (by decide +kernel), by decide +kernel, by decide +kernel, by decide +kernel⟩
theorem mi_X0_init : Cond.instanceMethod yX0_init ∈ UW := uw_in (tin_1 (List.mem_of_getElem? (i := 35) (by decide +kernel))) (by decide +kernel)
theorem mw_X8_init : MWc yX8_init cX8_init 1 none 0 := ⟨uw_in (tin_2 (List.mem_of_getElem? (i := 62) rfl)) rfl, uw_in (tin_1 (List.mem_of_getElem? (i := 10) (by decide +kernel))) (by decide +kernel), by decide +kernel, by decide +kernel, by decide +kernel⟩
theorem mi_X8_init : Cond.instanceMethod yX8_init ∈ UW := uw_in (tin_2 (List.mem_of_getElem? (i := 61) (by decide +kernel))) (by decide +kernel)
theorem mw_X1_init : MWc yX1_init cX1_init 1 none 0 := ⟨uw_in (tin_2 (List.mem_of_getElem? (i := 127) rfl)) rfl, uw_in (tin_1 (List.mem_of_getElem? (i := 11) (by decide +kernel))) (by decide +kernel), by decide +kernel, by decide +kernel, by decide +kernel⟩
theorem mi_X1_init : Cond.instanceMethod yX1_init ∈ UW := uw_in (tin_2 (List.mem_of_getElem? (i := 126) (by decide +kernel))) (by decide +kernel)
theorem mw_X9_init : MWc yX9_init cX9_init 1 none 0 := ⟨uw_in (tin_2 (List.mem_of_getElem? (i := 154) rfl)) rfl, uw_in (tin_1 (List.mem_of_getElem? (i := 12) (by decide +kernel))) (by decide +kernel), by decide +kernel, by decide +kernel, by decide +kernel⟩
theorem mi_X9_init : Cond.instanceMethod yX9_init ∈ UW := uw_in (tin_2 (List.mem_of_getElem? (i := 153) (by decide +kernel))) (by decide +kernel)
theorem mw_X2_init : MWc yX2_init cX2_init 1 none 0 := ⟨uw_in (tin_2 (List.mem_of_getElem? (i := 180) rfl)) rfl, uw_in (tin_1 (List.mem_of_getElem? (i := 13) (by decide +kernel))) (by decide +kernel), by decide +kernel, by decide +kernel, by decide +kernel⟩
theorem mi_X2_init : Cond.instanceMethod yX2_init ∈ UW := uw_in (tin_2 (List.mem_of_getElem? (i := 179) (by decide +kernel))) (by decide +kernel)
theorem mw_X5_init : MWc yX5_init cX5_init 1 none 0 := ⟨uw_in (tin_2 (List.mem_of_getElem? (i := 210) rfl)) rfl, uw_in (tin_1 (List.mem_of_getElem? (i := 14) (by decide +kernel))) (by decide +kernel), by decide +kernel, by decide +kernel, by decide +kernel⟩
theorem mi_X5_init : Cond.instanceMethod yX5_init ∈ UW := uw_in (tin_2 (List.mem_of_getElem? (i := 209) (by decide +kernel))) (by decide +kernel)
theorem mw_X3_init : MWc yX3_init cX3_init 1 none 0 := ⟨uw_in (tin_2 (List.mem_of_getElem? (i := 233) rfl)) rfl, uw_in (tin_1 (List.mem_of_getElem? (i := 15) (by decide +kernel))) (by decide +kernel), by decide +kernel, by decide +kernel, by decide +kernel⟩
theorem mi_X3_init : Cond.instanceMethod yX3_init ∈ UW := uw_in (tin_2 (List.mem_of_getElem? (i := 232) (by decide +kernel))) (by decide +kernel)
theorem mw_X11_init : MWc yX11_init cX11_init 1 none 0 := ⟨uw_in (tin_6 (List.mem_of_getElem? (i := 70) rfl)) rfl, uw_in (tin_1 (List.mem_of_getElem? (i := 16) (by decide +kernel))) (by decide +kernel), by decide +kernel, by decide +kernel, by decide +kernel⟩
theorem mi_X11_init : Cond.instanceMethod yX11_init ∈ UW := uw_in (tin_6 (List.mem_of_getElem? (i := 69) (by decide +kernel))) (by decide +kernel)
theorem bp_15 : (Int8.ofInt 15).toInt32 = 15 := by decide
theorem bp_17 : (Int8.ofInt 17).toInt32 = 17 := by decide
theorem bp_38 : (Int8.ofInt 38).toInt32 = 38 := by decide
theorem bp_39 : (Int8.ofInt 39).toInt32 = 39 := by decide
theorem bp_44 : (Int8.ofInt 44).toInt32 = 44 := by decide
theorem bp_46 : (Int8.ofInt 46).toInt32 = 46 := by decide
theorem bp_49 : (Int8.ofInt 49).toInt32 = 49 := by decide
theorem bp_50 : (Int8.ofInt 50).toInt32 = 50 := by decide
theorem bp_51 : (Int8.ofInt 51).toInt32 = 51 := by decide
theorem bp_52 : (Int8.ofInt 52).toInt32 = 52 := by decide
theorem bp_53 : (Int8.ofInt 53).toInt32 = 53 := by decide
theorem bp_54 : (Int8.ofInt 54).toInt32 = 54 := by decide
theorem bp_55 : (Int8.ofInt 55).toInt32 = 55 := by decide
theorem bp_56 : (Int8.ofInt 56).toInt32 = 56 := by decide
theorem bp_58 : (Int8.ofInt 58).toInt32 = 58 := by decide
theorem bp_65 : (Int8.ofInt 65).toInt32 = 65 := by decide
theorem bp_66 : (Int8.ofInt 66).toInt32 = 66 := by decide
theorem bp_67 : (Int8.ofInt 67).toInt32 = 67 := by decide
theorem bp_68 : (Int8.ofInt 68).toInt32 = 68 := by decide
theorem bp_69 : (Int8.ofInt 69).toInt32 = 69 := by decide
theorem bp_70 : (Int8.ofInt 70).toInt32 = 70 := by decide
theorem bp_71 : (Int8.ofInt 71).toInt32 = 71 := by decide
theorem bp_72 : (Int8.ofInt 72).toInt32 = 72 := by decide
theorem bp_73 : (Int8.ofInt 73).toInt32 = 73 := by decide
theorem bp_74 : (Int8.ofInt 74).toInt32 = 74 := by decide
theorem bp_75 : (Int8.ofInt 75).toInt32 = 75 := by decide
theorem bp_76 : (Int8.ofInt 76).toInt32 = 76 := by decide
theorem bp_77 : (Int8.ofInt 77).toInt32 = 77 := by decide
theorem bp_78 : (Int8.ofInt 78).toInt32 = 78 := by decide
theorem bp_79 : (Int8.ofInt 79).toInt32 = 79 := by decide
theorem bp_80 : (Int8.ofInt 80).toInt32 = 80 := by decide
theorem bp_81 : (Int8.ofInt 81).toInt32 = 81 := by decide
theorem bp_82 : (Int8.ofInt 82).toInt32 = 82 := by decide
theorem bp_83 : (Int8.ofInt 83).toInt32 = 83 := by decide
theorem bp_84 : (Int8.ofInt 84).toInt32 = 84 := by decide
theorem bp_85 : (Int8.ofInt 85).toInt32 = 85 := by decide
theorem bp_86 : (Int8.ofInt 86).toInt32 = 86 := by decide
theorem bp_87 : (Int8.ofInt 87).toInt32 = 87 := by decide
theorem bp_88 : (Int8.ofInt 88).toInt32 = 88 := by decide
theorem bp_89 : (Int8.ofInt 89).toInt32 = 89 := by decide
theorem bp_90 : (Int8.ofInt 90).toInt32 = 90 := by decide
theorem bp_91 : (Int8.ofInt 91).toInt32 = 91 := by decide
theorem bp_92 : (Int8.ofInt 92).toInt32 = 92 := by decide
theorem bp_93 : (Int8.ofInt 93).toInt32 = 93 := by decide
theorem bp_94 : (Int8.ofInt 94).toInt32 = 94 := by decide
theorem bp_95 : (Int8.ofInt 95).toInt32 = 95 := by decide
theorem bp_98 : (Int8.ofInt 98).toInt32 = 98 := by decide
theorem bp_101 : (Int8.ofInt 101).toInt32 = 101 := by decide
theorem bp_103 : (Int8.ofInt 103).toInt32 = 103 := by decide
theorem bp_104 : (Int8.ofInt 104).toInt32 = 104 := by decide
theorem bp_105 : (Int8.ofInt 105).toInt32 = 105 := by decide
theorem bp_107 : (Int8.ofInt 107).toInt32 = 107 := by decide
theorem bp_108 : (Int8.ofInt 108).toInt32 = 108 := by decide
theorem bp_109 : (Int8.ofInt 109).toInt32 = 109 := by decide
theorem bp_110 : (Int8.ofInt 110).toInt32 = 110 := by decide
theorem bp_111 : (Int8.ofInt 111).toInt32 = 111 := by decide
theorem bp_112 : (Int8.ofInt 112).toInt32 = 112 := by decide
theorem bp_114 : (Int8.ofInt 114).toInt32 = 114 := by decide
theorem bp_115 : (Int8.ofInt 115).toInt32 = 115 := by decide
theorem bp_116 : (Int8.ofInt 116).toInt32 = 116 := by decide
theorem bp_117 : (Int8.ofInt 117).toInt32 = 117 := by decide
theorem bp_119 : (Int8.ofInt 119).toInt32 = 119 := by decide
theorem bp_121 : (Int8.ofInt 121).toInt32 = 121 := by decide
theorem sp_128 : (Int16.ofInt 128).toInt32 = 128 := by decide
theorem sp_160 : (Int16.ofInt 160).toInt32 = 160 := by decide
theorem sp_1792 : (Int16.ofInt 1792).toInt32 = 1792 := by decide
theorem fr_X0_24 : FR RX0 24 0 4 := ⟨FL.of rfl (by decide) (uw_in (tin_1 (List.mem_of_getElem? (i := 92) (by decide +kernel))) (by decide +kernel)), rfl⟩
theorem fr_X0_30 : FR RX0 30 0 6 := ⟨FL.of rfl (by decide) (uw_in (tin_1 (List.mem_of_getElem? (i := 99) (by decide +kernel))) (by decide +kernel)), rfl⟩
theorem fr_X0_33 : FR RX0 33 0 7 := ⟨FL.of rfl (by decide) (uw_in (tin_1 (List.mem_of_getElem? (i := 102) (by decide +kernel))) (by decide +kernel)), rfl⟩
theorem fr_X0_36 : FR RX0 36 0 8 := ⟨FL.of rfl (by decide) (uw_in (tin_1 (List.mem_of_getElem? (i := 105) (by decide +kernel))) (by decide +kernel)), rfl⟩
theorem ml_X0_44 : Cond.methodLinkNest RX0 44 yX4_init "SunBills" ∈ NWl := by decide +kernel
theorem ml_X0_49 : Cond.methodLink RX0 49 yX0_clear ∈ UW := uw_in (tin_1 (List.mem_of_getElem? (i := 68) (by decide +kernel))) (by decide +kernel)
theorem ml_X0_52 : Cond.methodLink RX0 52 yX0_settle ∈ UW := uw_in (tin_1 (List.mem_of_getElem? (i := 76) (by decide +kernel))) (by decide +kernel)
