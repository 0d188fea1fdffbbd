/-! words that constructors need -/
theorem oi_X10_3 : Cond.methodLink RX10 3 Lib.objectInit ∈ UW := uw_in (tin_1 (List.mem_of_getElem? (i := 29) (by decide +kernel))) (by decide +kernel)
theorem oi_X6_3 : Cond.methodLink RX6 3 Lib.objectInit ∈ UW := uw_in (tin_1 (List.mem_of_getElem? (i := 186) (by decide +kernel))) (by decide +kernel)
theorem oi_X7_1 : Cond.methodLink RX7 1 Lib.objectInit ∈ UW := uw_in (tin_1 (List.mem_of_getElem? (i := 192) (by decide +kernel))) (by decide +kernel)
theorem ac_byte : Cond.arrayClass .byte ∈ UW := uw_in (tin_1 (List.mem_of_getElem? (i := 65) (by decide +kernel))) (by decide +kernel)
theorem cl_X10_15 : Cond.classLink RX10 15 RX0 ∈ UW := uw_in (tin_1 (List.mem_of_getElem? (i := 32) (by decide +kernel))) (by decide +kernel)
theorem cl_X10_25 : Cond.classLink RX10 25 RX6 ∈ UW := uw_in (tin_1 (List.mem_of_getElem? (i := 181) (by decide +kernel))) (by decide +kernel)
theorem cl_X10_34 : Cond.classLink RX10 34 RX8 ∈ UW := uw_in (tin_2 (List.mem_of_getElem? (i := 58) (by decide +kernel))) (by decide +kernel)
theorem cl_X10_47 : Cond.classLink RX10 47 RX1 ∈ UW := uw_in (tin_2 (List.mem_of_getElem? (i := 123) (by decide +kernel))) (by decide +kernel)
theorem cl_X10_54 : Cond.classLink RX10 54 RX9 ∈ UW := uw_in (tin_2 (List.mem_of_getElem? (i := 150) (by decide +kernel))) (by decide +kernel)
theorem cl_X10_61 : Cond.classLink RX10 61 RX2 ∈ UW := uw_in (tin_2 (List.mem_of_getElem? (i := 176) (by decide +kernel))) (by decide +kernel)
theorem cl_X10_68 : Cond.classLink RX10 68 RX5 ∈ UW := uw_in (tin_2 (List.mem_of_getElem? (i := 206) (by decide +kernel))) (by decide +kernel)
theorem cl_X10_75 : Cond.classLink RX10 75 RX3 ∈ UW := uw_in (tin_2 (List.mem_of_getElem? (i := 229) (by decide +kernel))) (by decide +kernel)
theorem cl_X6_21 : Cond.classLink RX6 21 RX7 ∈ UW := uw_in (tin_1 (List.mem_of_getElem? (i := 187) (by decide +kernel))) (by decide +kernel)
theorem ins_X0 : Cond.instantiable RX0 20 ∈ UW := uw_in (tin_1 (List.mem_of_getElem? (i := 33) (by decide +kernel))) (by decide +kernel)
theorem ini_X0 : Cond.initialized RX0 ∈ UW := uw_in (tin_1 (List.mem_of_getElem? (i := 2) (by decide +kernel))) (by decide +kernel)
theorem ins_X1 : Cond.instantiable RX1 5 ∈ UW := uw_in (tin_2 (List.mem_of_getElem? (i := 124) (by decide +kernel))) (by decide +kernel)
theorem ini_X1 : Cond.initialized RX1 ∈ UW := uw_in (tin_1 (List.mem_of_getElem? (i := 11) (by decide +kernel))) (by decide +kernel)
theorem ins_X2 : Cond.instantiable RX2 7 ∈ UW := uw_in (tin_2 (List.mem_of_getElem? (i := 177) (by decide +kernel))) (by decide +kernel)
theorem ini_X2 : Cond.initialized RX2 ∈ UW := uw_in (tin_1 (List.mem_of_getElem? (i := 13) (by decide +kernel))) (by decide +kernel)
theorem ins_X3 : Cond.instantiable RX3 2 ∈ UW := uw_in (tin_2 (List.mem_of_getElem? (i := 230) (by decide +kernel))) (by decide +kernel)
theorem ini_X3 : Cond.initialized RX3 ∈ UW := uw_in (tin_1 (List.mem_of_getElem? (i := 15) (by decide +kernel))) (by decide +kernel)
theorem ins_X5 : Cond.instantiable RX5 4 ∈ UW := uw_in (tin_2 (List.mem_of_getElem? (i := 207) (by decide +kernel))) (by decide +kernel)
theorem ini_X5 : Cond.initialized RX5 ∈ UW := uw_in (tin_1 (List.mem_of_getElem? (i := 14) (by decide +kernel))) (by decide +kernel)
theorem ins_X6 : Cond.instantiable RX6 8 ∈ UW := uw_in (tin_1 (List.mem_of_getElem? (i := 182) (by decide +kernel))) (by decide +kernel)
theorem ini_X6 : Cond.initialized RX6 ∈ UW := uw_in (tin_1 (List.mem_of_getElem? (i := 4) (by decide +kernel))) (by decide +kernel)
theorem ins_X7 : Cond.instantiable RX7 7 ∈ UW := uw_in (tin_1 (List.mem_of_getElem? (i := 188) (by decide +kernel))) (by decide +kernel)
theorem ini_X7 : Cond.initialized RX7 ∈ UW := uw_in (tin_1 (List.mem_of_getElem? (i := 5) (by decide +kernel))) (by decide +kernel)
theorem ins_X8 : Cond.instantiable RX8 11 ∈ UW := uw_in (tin_2 (List.mem_of_getElem? (i := 59) (by decide +kernel))) (by decide +kernel)
theorem ini_X8 : Cond.initialized RX8 ∈ UW := uw_in (tin_1 (List.mem_of_getElem? (i := 10) (by decide +kernel))) (by decide +kernel)
theorem ins_X9 : Cond.instantiable RX9 6 ∈ UW := uw_in (tin_2 (List.mem_of_getElem? (i := 151) (by decide +kernel))) (by decide +kernel)
theorem ini_X9 : Cond.initialized RX9 ∈ UW := uw_in (tin_1 (List.mem_of_getElem? (i := 12) (by decide +kernel))) (by decide +kernel)
theorem mw_X7_init : MWc yX7_init cX7_init 4 none 1 := ⟨uw_in (tin_1 (List.mem_of_getElem? (i := 191) rfl)) rfl, uw_in (tin_1 (List.mem_of_getElem? (i := 5) (by decide +kernel))) (by decide +kernel), by decide +kernel, by decide +kernel, by decide +kernel⟩
theorem mi_X7_init : Cond.instanceMethod yX7_init ∈ UW := uw_in (tin_1 (List.mem_of_getElem? (i := 190) (by decide +kernel))) (by decide +kernel)
theorem mw_X6_init : MWc yX6_init cX6_init 3 none 2 := ⟨uw_in (tin_1 (List.mem_of_getElem? (i := 185) rfl)) rfl, uw_in (tin_1 (List.mem_of_getElem? (i := 4) (by decide +kernel))) (by decide +kernel), by decide +kernel, by decide +kernel, by decide +kernel⟩
theorem mi_X6_init : Cond.instanceMethod yX6_init ∈ UW := uw_in (tin_1 (List.mem_of_getElem? (i := 184) (by decide +kernel))) (by decide +kernel)
theorem mw_X10_init : MWc yX10_init cX10_init 1 none 0 := ⟨uw_in (tin_1 (List.mem_of_getElem? (i := 28) rfl)) rfl, uw_in (tin_1 (List.mem_of_getElem? (i := 1) (by decide +kernel))) (by decide +kernel), by decide +kernel, by decide +kernel, by decide +kernel⟩
theorem mi_X10_init : Cond.instanceMethod yX10_init ∈ UW := uw_in (tin_1 (List.mem_of_getElem? (i := 27) (by decide +kernel))) (by decide +kernel)
theorem bp_120 : (Int8.ofInt 120).toInt32 = 120 := by decide
theorem ml_X10_17 : Cond.methodLink RX10 17 yX0_init ∈ UW := uw_in (tin_1 (List.mem_of_getElem? (i := 34) (by decide +kernel))) (by decide +kernel)
theorem ml_X10_27 : Cond.methodLink RX10 27 yX6_init ∈ UW := uw_in (tin_1 (List.mem_of_getElem? (i := 183) (by decide +kernel))) (by decide +kernel)
theorem ml_X10_36 : Cond.methodLinkNest RX10 36 yX8_init "SunBills" ∈ NWl := by decide +kernel
theorem ml_X10_49 : Cond.methodLinkNest RX10 49 yX1_init "SunBills" ∈ NWl := by decide +kernel
theorem ml_X10_56 : Cond.methodLinkNest RX10 56 yX9_init "SunBills" ∈ NWl := by decide +kernel
theorem ml_X10_63 : Cond.methodLinkNest RX10 63 yX2_init "SunBills" ∈ NWl := by decide +kernel
theorem ml_X10_70 : Cond.methodLinkNest RX10 70 yX5_init "SunBills" ∈ NWl := by decide +kernel
theorem ml_X10_77 : Cond.methodLinkNest RX10 77 yX3_init "SunBills" ∈ NWl := by decide +kernel
theorem ml_X6_23 : Cond.methodLink RX6 23 yX7_init ∈ UW := uw_in (tin_1 (List.mem_of_getElem? (i := 189) (by decide +kernel))) (by decide +kernel)
