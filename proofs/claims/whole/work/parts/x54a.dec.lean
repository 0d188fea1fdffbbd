theorem dX0_init_0 : decode cX0_init 0 = .ok (.aload_n 0, 1) := by decide +kernel
theorem dX0_init_1 : decode cX0_init 1 = .ok (.invokespecial 3, 3) := by decide +kernel
theorem dX0_init_4 : decode cX0_init 4 = .ok (.aload_n 0, 1) := by decide +kernel
theorem dX0_init_5 : decode cX0_init 5 = .ok (.bipush 6, 2) := by decide +kernel
theorem dX0_init_7 : decode cX0_init 7 = .ok (.newarray .int, 2) := by decide +kernel
theorem dX0_init_9 : decode cX0_init 9 = .ok (.putfield 9, 3) := by decide +kernel
theorem dX0_init_12 : decode cX0_init 12 = .ok (.aload_n 0, 1) := by decide +kernel
theorem dX0_init_13 : decode cX0_init 13 = .ok (.bipush 6, 2) := by decide +kernel
theorem dX0_init_15 : decode cX0_init 15 = .ok (.newarray .int, 2) := by decide +kernel
theorem dX0_init_17 : decode cX0_init 17 = .ok (.putfield 15, 3) := by decide +kernel
theorem dX0_init_20 : decode cX0_init 20 = .ok (.aload_n 0, 1) := by decide +kernel
theorem dX0_init_21 : decode cX0_init 21 = .ok (.bipush 6, 2) := by decide +kernel
theorem dX0_init_23 : decode cX0_init 23 = .ok (.newarray .int, 2) := by decide +kernel
theorem dX0_init_25 : decode cX0_init 25 = .ok (.putfield 18, 3) := by decide +kernel
theorem dX0_init_28 : decode cX0_init 28 = .ok (.aload_n 0, 1) := by decide +kernel
theorem dX0_init_29 : decode cX0_init 29 = .ok (.bipush 6, 2) := by decide +kernel
theorem dX0_init_31 : decode cX0_init 31 = .ok (.newarray .int, 2) := by decide +kernel
theorem dX0_init_33 : decode cX0_init 33 = .ok (.putfield 21, 3) := by decide +kernel
theorem dX0_init_36 : decode cX0_init 36 = .ok (.aload_n 0, 1) := by decide +kernel
theorem dX0_init_37 : decode cX0_init 37 = .ok (.bipush 6, 2) := by decide +kernel
theorem dX0_init_39 : decode cX0_init 39 = .ok (.newarray .int, 2) := by decide +kernel
theorem dX0_init_41 : decode cX0_init 41 = .ok (.putfield 24, 3) := by decide +kernel
theorem dX0_init_44 : decode cX0_init 44 = .ok (.aload_n 0, 1) := by decide +kernel
theorem dX0_init_45 : decode cX0_init 45 = .ok (.bipush 6, 2) := by decide +kernel
theorem dX0_init_47 : decode cX0_init 47 = .ok (.newarray .int, 2) := by decide +kernel
theorem dX0_init_49 : decode cX0_init 49 = .ok (.putfield 27, 3) := by decide +kernel
theorem dX0_init_52 : decode cX0_init 52 = .ok (.aload_n 0, 1) := by decide +kernel
theorem dX0_init_53 : decode cX0_init 53 = .ok (.bipush 6, 2) := by decide +kernel
theorem dX0_init_55 : decode cX0_init 55 = .ok (.newarray .int, 2) := by decide +kernel
theorem dX0_init_57 : decode cX0_init 57 = .ok (.putfield 30, 3) := by decide +kernel
theorem dX0_init_60 : decode cX0_init 60 = .ok (.aload_n 0, 1) := by decide +kernel
theorem dX0_init_61 : decode cX0_init 61 = .ok (.bipush 6, 2) := by decide +kernel
theorem dX0_init_63 : decode cX0_init 63 = .ok (.newarray .int, 2) := by decide +kernel
theorem dX0_init_65 : decode cX0_init 65 = .ok (.putfield 33, 3) := by decide +kernel
theorem dX0_init_68 : decode cX0_init 68 = .ok (.aload_n 0, 1) := by decide +kernel
theorem dX0_init_69 : decode cX0_init 69 = .ok (.bipush 6, 2) := by decide +kernel
theorem dX0_init_71 : decode cX0_init 71 = .ok (.newarray .int, 2) := by decide +kernel
theorem dX0_init_73 : decode cX0_init 73 = .ok (.putfield 36, 3) := by decide +kernel
theorem dX0_init_76 : decode cX0_init 76 = .ok (.aload_n 0, 1) := by decide +kernel
theorem dX0_init_77 : decode cX0_init 77 = .ok (.bipush 100, 2) := by decide +kernel
theorem dX0_init_79 : decode cX0_init 79 = .ok (.newarray .int, 2) := by decide +kernel
theorem dX0_init_81 : decode cX0_init 81 = .ok (.putfield 39, 3) := by decide +kernel
theorem dX0_init_84 : decode cX0_init 84 = .ok (.aload_n 0, 1) := by decide +kernel
theorem dX0_init_85 : decode cX0_init 85 = .ok (.new 42, 3) := by decide +kernel
theorem dX0_init_88 : decode cX0_init 88 = .ok (.dup, 1) := by decide +kernel
theorem dX0_init_89 : decode cX0_init 89 = .ok (.invokespecial 44, 3) := by decide +kernel
theorem dX0_init_92 : decode cX0_init 92 = .ok (.putfield 45, 3) := by decide +kernel
theorem dX0_init_95 : decode cX0_init 95 = .ok (.aload_n 0, 1) := by decide +kernel
theorem dX0_init_96 : decode cX0_init 96 = .ok (.invokevirtual 49, 3) := by decide +kernel
theorem dX0_init_99 : decode cX0_init 99 = .ok (.aload_n 0, 1) := by decide +kernel
theorem dX0_init_100 : decode cX0_init 100 = .ok (.invokevirtual 52, 3) := by decide +kernel
theorem dX0_init_103 : decode cX0_init 103 = .ok (.return_, 1) := by decide +kernel
theorem dX0_clear_0 : decode cX0_clear 0 = .ok (.aload_n 0, 1) := by decide +kernel
theorem dX0_clear_1 : decode cX0_clear 1 = .ok (.iconst 0, 1) := by decide +kernel
theorem dX0_clear_2 : decode cX0_clear 2 = .ok (.putfield 55, 3) := by decide +kernel
theorem dX0_clear_5 : decode cX0_clear 5 = .ok (.aload_n 0, 1) := by decide +kernel
theorem dX0_clear_6 : decode cX0_clear 6 = .ok (.iconst 0, 1) := by decide +kernel
theorem dX0_clear_7 : decode cX0_clear 7 = .ok (.putfield 59, 3) := by decide +kernel
theorem dX0_clear_10 : decode cX0_clear 10 = .ok (.aload_n 0, 1) := by decide +kernel
theorem dX0_clear_11 : decode cX0_clear 11 = .ok (.iconst 0, 1) := by decide +kernel
theorem dX0_clear_12 : decode cX0_clear 12 = .ok (.putfield 62, 3) := by decide +kernel
theorem dX0_clear_15 : decode cX0_clear 15 = .ok (.aload_n 0, 1) := by decide +kernel
theorem dX0_clear_16 : decode cX0_clear 16 = .ok (.iconst 0, 1) := by decide +kernel
theorem dX0_clear_17 : decode cX0_clear 17 = .ok (.putfield 65, 3) := by decide +kernel
theorem dX0_clear_20 : decode cX0_clear 20 = .ok (.aload_n 0, 1) := by decide +kernel
theorem dX0_clear_21 : decode cX0_clear 21 = .ok (.iconst (-1), 1) := by decide +kernel
theorem dX0_clear_22 : decode cX0_clear 22 = .ok (.putfield 68, 3) := by decide +kernel
theorem dX0_clear_25 : decode cX0_clear 25 = .ok (.aload_n 0, 1) := by decide +kernel
theorem dX0_clear_26 : decode cX0_clear 26 = .ok (.iconst (-1), 1) := by decide +kernel
theorem dX0_clear_27 : decode cX0_clear 27 = .ok (.putfield 71, 3) := by decide +kernel
theorem dX0_clear_30 : decode cX0_clear 30 = .ok (.iconst 0, 1) := by decide +kernel
theorem dX0_clear_31 : decode cX0_clear 31 = .ok (.istore_n 1, 1) := by decide +kernel
theorem dX0_clear_32 : decode cX0_clear 32 = .ok (.iload_n 1, 1) := by decide +kernel
theorem dX0_clear_33 : decode cX0_clear 33 = .ok (.bipush 100, 2) := by decide +kernel
theorem dX0_clear_35 : decode cX0_clear 35 = .ok (.if_icmp .ge 16, 3) := by decide +kernel
theorem dX0_clear_38 : decode cX0_clear 38 = .ok (.aload_n 0, 1) := by decide +kernel
theorem dX0_clear_39 : decode cX0_clear 39 = .ok (.getfield 39, 3) := by decide +kernel
theorem dX0_clear_42 : decode cX0_clear 42 = .ok (.iload_n 1, 1) := by decide +kernel
theorem dX0_clear_43 : decode cX0_clear 43 = .ok (.iconst (-1), 1) := by decide +kernel
theorem dX0_clear_44 : decode cX0_clear 44 = .ok (.iastore, 1) := by decide +kernel
theorem dX0_clear_45 : decode cX0_clear 45 = .ok (.iinc 1 1, 3) := by decide +kernel
theorem dX0_clear_48 : decode cX0_clear 48 = .ok (.goto (-16), 3) := by decide +kernel
theorem dX0_clear_51 : decode cX0_clear 51 = .ok (.aload_n 0, 1) := by decide +kernel
theorem dX0_clear_52 : decode cX0_clear 52 = .ok (.getfield 45, 3) := by decide +kernel
theorem dX0_clear_55 : decode cX0_clear 55 = .ok (.invokevirtual 74, 3) := by decide +kernel
theorem dX0_clear_58 : decode cX0_clear 58 = .ok (.return_, 1) := by decide +kernel
theorem dX0_settle_0 : decode cX0_settle 0 = .ok (.aload_n 0, 1) := by decide +kernel
theorem dX0_settle_1 : decode cX0_settle 1 = .ok (.getfield 68, 3) := by decide +kernel
theorem dX0_settle_4 : decode cX0_settle 4 = .ok (.iconst (-1), 1) := by decide +kernel
theorem dX0_settle_5 : decode cX0_settle 5 = .ok (.if_icmp .ne 9, 3) := by decide +kernel
theorem dX0_settle_8 : decode cX0_settle 8 = .ok (.aload_n 0, 1) := by decide +kernel
theorem dX0_settle_9 : decode cX0_settle 9 = .ok (.bipush 30, 2) := by decide +kernel
theorem dX0_settle_11 : decode cX0_settle 11 = .ok (.putfield 68, 3) := by decide +kernel
theorem dX0_settle_14 : decode cX0_settle 14 = .ok (.aload_n 0, 1) := by decide +kernel
theorem dX0_settle_15 : decode cX0_settle 15 = .ok (.getfield 71, 3) := by decide +kernel
theorem dX0_settle_18 : decode cX0_settle 18 = .ok (.iconst (-1), 1) := by decide +kernel
theorem dX0_settle_19 : decode cX0_settle 19 = .ok (.if_icmp .ne 8, 3) := by decide +kernel
theorem dX0_settle_22 : decode cX0_settle 22 = .ok (.aload_n 0, 1) := by decide +kernel
theorem dX0_settle_23 : decode cX0_settle 23 = .ok (.iconst 0, 1) := by decide +kernel
theorem dX0_settle_24 : decode cX0_settle 24 = .ok (.putfield 71, 3) := by decide +kernel
theorem dX0_settle_27 : decode cX0_settle 27 = .ok (.aload_n 0, 1) := by decide +kernel
theorem dX0_settle_28 : decode cX0_settle 28 = .ok (.iconst 0, 1) := by decide +kernel
theorem dX0_settle_29 : decode cX0_settle 29 = .ok (.putfield 75, 3) := by decide +kernel
theorem dX0_settle_32 : decode cX0_settle 32 = .ok (.aload_n 0, 1) := by decide +kernel
theorem dX0_settle_33 : decode cX0_settle 33 = .ok (.iconst 0, 1) := by decide +kernel
theorem dX0_settle_34 : decode cX0_settle 34 = .ok (.putfield 78, 3) := by decide +kernel
theorem dX0_settle_37 : decode cX0_settle 37 = .ok (.aload_n 0, 1) := by decide +kernel
theorem dX0_settle_38 : decode cX0_settle 38 = .ok (.iconst (-1), 1) := by decide +kernel
theorem dX0_settle_39 : decode cX0_settle 39 = .ok (.putfield 81, 3) := by decide +kernel
theorem dX0_settle_42 : decode cX0_settle 42 = .ok (.iconst 0, 1) := by decide +kernel
theorem dX0_settle_43 : decode cX0_settle 43 = .ok (.istore_n 1, 1) := by decide +kernel
theorem dX0_settle_44 : decode cX0_settle 44 = .ok (.iload_n 1, 1) := by decide +kernel
theorem dX0_settle_45 : decode cX0_settle 45 = .ok (.aload_n 0, 1) := by decide +kernel
theorem dX0_settle_46 : decode cX0_settle 46 = .ok (.getfield 55, 3) := by decide +kernel
theorem dX0_settle_49 : decode cX0_settle 49 = .ok (.if_icmp .ge 74, 3) := by decide +kernel
theorem dX0_settle_52 : decode cX0_settle 52 = .ok (.aload_n 0, 1) := by decide +kernel
theorem dX0_settle_53 : decode cX0_settle 53 = .ok (.getfield 18, 3) := by decide +kernel
theorem dX0_settle_56 : decode cX0_settle 56 = .ok (.iload_n 1, 1) := by decide +kernel
theorem dX0_settle_57 : decode cX0_settle 57 = .ok (.iaload, 1) := by decide +kernel
theorem dX0_settle_58 : decode cX0_settle 58 = .ok (.ifCond .le 59, 3) := by decide +kernel
theorem dX0_settle_61 : decode cX0_settle 61 = .ok (.aload_n 0, 1) := by decide +kernel
theorem dX0_settle_62 : decode cX0_settle 62 = .ok (.dup, 1) := by decide +kernel
theorem dX0_settle_63 : decode cX0_settle 63 = .ok (.getfield 75, 3) := by decide +kernel
theorem dX0_settle_66 : decode cX0_settle 66 = .ok (.aload_n 0, 1) := by decide +kernel
theorem dX0_settle_67 : decode cX0_settle 67 = .ok (.getfield 18, 3) := by decide +kernel
theorem dX0_settle_70 : decode cX0_settle 70 = .ok (.iload_n 1, 1) := by decide +kernel
theorem dX0_settle_71 : decode cX0_settle 71 = .ok (.iaload, 1) := by decide +kernel
theorem dX0_settle_72 : decode cX0_settle 72 = .ok (.iadd, 1) := by decide +kernel
theorem dX0_settle_73 : decode cX0_settle 73 = .ok (.putfield 75, 3) := by decide +kernel
theorem dX0_settle_76 : decode cX0_settle 76 = .ok (.aload_n 0, 1) := by decide +kernel
theorem dX0_settle_77 : decode cX0_settle 77 = .ok (.dup, 1) := by decide +kernel
theorem dX0_settle_78 : decode cX0_settle 78 = .ok (.getfield 78, 3) := by decide +kernel
theorem dX0_settle_81 : decode cX0_settle 81 = .ok (.iconst 1, 1) := by decide +kernel
theorem dX0_settle_82 : decode cX0_settle 82 = .ok (.iadd, 1) := by decide +kernel
theorem dX0_settle_83 : decode cX0_settle 83 = .ok (.putfield 78, 3) := by decide +kernel
theorem dX0_settle_86 : decode cX0_settle 86 = .ok (.aload_n 0, 1) := by decide +kernel
theorem dX0_settle_87 : decode cX0_settle 87 = .ok (.getfield 81, 3) := by decide +kernel
theorem dX0_settle_90 : decode cX0_settle 90 = .ok (.iconst (-1), 1) := by decide +kernel
theorem dX0_settle_91 : decode cX0_settle 91 = .ok (.if_icmp .eq 21, 3) := by decide +kernel
theorem dX0_settle_94 : decode cX0_settle 94 = .ok (.aload_n 0, 1) := by decide +kernel
theorem dX0_settle_95 : decode cX0_settle 95 = .ok (.getfield 18, 3) := by decide +kernel
theorem dX0_settle_98 : decode cX0_settle 98 = .ok (.iload_n 1, 1) := by decide +kernel
theorem dX0_settle_99 : decode cX0_settle 99 = .ok (.iaload, 1) := by decide +kernel
theorem dX0_settle_100 : decode cX0_settle 100 = .ok (.aload_n 0, 1) := by decide +kernel
theorem dX0_settle_101 : decode cX0_settle 101 = .ok (.getfield 18, 3) := by decide +kernel
theorem dX0_settle_104 : decode cX0_settle 104 = .ok (.aload_n 0, 1) := by decide +kernel
theorem dX0_settle_105 : decode cX0_settle 105 = .ok (.getfield 81, 3) := by decide +kernel
theorem dX0_settle_108 : decode cX0_settle 108 = .ok (.iaload, 1) := by decide +kernel
theorem dX0_settle_109 : decode cX0_settle 109 = .ok (.if_icmp .le 8, 3) := by decide +kernel
theorem dX0_settle_112 : decode cX0_settle 112 = .ok (.aload_n 0, 1) := by decide +kernel
theorem dX0_settle_113 : decode cX0_settle 113 = .ok (.iload_n 1, 1) := by decide +kernel
theorem dX0_settle_114 : decode cX0_settle 114 = .ok (.putfield 81, 3) := by decide +kernel
theorem dX0_settle_117 : decode cX0_settle 117 = .ok (.iinc 1 1, 3) := by decide +kernel
theorem dX0_settle_120 : decode cX0_settle 120 = .ok (.goto (-76), 3) := by decide +kernel
theorem dX0_settle_123 : decode cX0_settle 123 = .ok (.return_, 1) := by decide +kernel
theorem dX0_kindNamed_0 : decode cX0_kindNamed 0 = .ok (.iload_n 1, 1) := by decide +kernel
theorem dX0_kindNamed_1 : decode cX0_kindNamed 1 = .ok (.aload_n 0, 1) := by decide +kernel
theorem dX0_kindNamed_2 : decode cX0_kindNamed 2 = .ok (.getfield 9, 3) := by decide +kernel
theorem dX0_kindNamed_5 : decode cX0_kindNamed 5 = .ok (.aload_n 0, 1) := by decide +kernel
theorem dX0_kindNamed_6 : decode cX0_kindNamed 6 = .ok (.getfield 55, 3) := by decide +kernel
theorem dX0_kindNamed_9 : decode cX0_kindNamed 9 = .ok (.invokestatic 84, 3) := by decide +kernel
theorem dX0_kindNamed_12 : decode cX0_kindNamed 12 = .ok (.ireturn, 1) := by decide +kernel
theorem dX0_houseNamed_0 : decode cX0_houseNamed 0 = .ok (.iload_n 1, 1) := by decide +kernel
theorem dX0_houseNamed_1 : decode cX0_houseNamed 1 = .ok (.aload_n 0, 1) := by decide +kernel
theorem dX0_houseNamed_2 : decode cX0_houseNamed 2 = .ok (.getfield 21, 3) := by decide +kernel
theorem dX0_houseNamed_5 : decode cX0_houseNamed 5 = .ok (.aload_n 0, 1) := by decide +kernel
theorem dX0_houseNamed_6 : decode cX0_houseNamed 6 = .ok (.getfield 59, 3) := by decide +kernel
theorem dX0_houseNamed_9 : decode cX0_houseNamed 9 = .ok (.invokestatic 84, 3) := by decide +kernel
theorem dX0_houseNamed_12 : decode cX0_houseNamed 12 = .ok (.ireturn, 1) := by decide +kernel
theorem dX0_placeOf_0 : decode cX0_placeOf 0 = .ok (.iconst 0, 1) := by decide +kernel
theorem dX0_placeOf_1 : decode cX0_placeOf 1 = .ok (.istore_n 3, 1) := by decide +kernel
theorem dX0_placeOf_2 : decode cX0_placeOf 2 = .ok (.iload_n 3, 1) := by decide +kernel
theorem dX0_placeOf_3 : decode cX0_placeOf 3 = .ok (.iload_n 2, 1) := by decide +kernel
theorem dX0_placeOf_4 : decode cX0_placeOf 4 = .ok (.if_icmp .ge 24, 3) := by decide +kernel
theorem dX0_placeOf_7 : decode cX0_placeOf 7 = .ok (.iload_n 3, 1) := by decide +kernel
theorem dX0_placeOf_8 : decode cX0_placeOf 8 = .ok (.aload_n 1, 1) := by decide +kernel
theorem dX0_placeOf_9 : decode cX0_placeOf 9 = .ok (.arraylength, 1) := by decide +kernel
theorem dX0_placeOf_10 : decode cX0_placeOf 10 = .ok (.if_icmp .ge 18, 3) := by decide +kernel
theorem dX0_placeOf_13 : decode cX0_placeOf 13 = .ok (.aload_n 1, 1) := by decide +kernel
theorem dX0_placeOf_14 : decode cX0_placeOf 14 = .ok (.iload_n 3, 1) := by decide +kernel
theorem dX0_placeOf_15 : decode cX0_placeOf 15 = .ok (.iaload, 1) := by decide +kernel
theorem dX0_placeOf_16 : decode cX0_placeOf 16 = .ok (.iload_n 0, 1) := by decide +kernel
theorem dX0_placeOf_17 : decode cX0_placeOf 17 = .ok (.if_icmp .ne 5, 3) := by decide +kernel
theorem dX0_placeOf_20 : decode cX0_placeOf 20 = .ok (.iload_n 3, 1) := by decide +kernel
theorem dX0_placeOf_21 : decode cX0_placeOf 21 = .ok (.ireturn, 1) := by decide +kernel
theorem dX0_placeOf_22 : decode cX0_placeOf 22 = .ok (.iinc 3 1, 3) := by decide +kernel
theorem dX0_placeOf_25 : decode cX0_placeOf 25 = .ok (.goto (-23), 3) := by decide +kernel
theorem dX0_placeOf_28 : decode cX0_placeOf 28 = .ok (.iconst (-1), 1) := by decide +kernel
theorem dX0_placeOf_29 : decode cX0_placeOf 29 = .ok (.ireturn, 1) := by decide +kernel
theorem dX0_kindTold_0 : decode cX0_kindTold 0 = .ok (.iload_n 1, 1) := by decide +kernel
theorem dX0_kindTold_1 : decode cX0_kindTold 1 = .ok (.invokestatic 88, 3) := by decide +kernel
theorem dX0_kindTold_4 : decode cX0_kindTold 4 = .ok (.ifCond .eq 12, 3) := by decide +kernel
theorem dX0_kindTold_7 : decode cX0_kindTold 7 = .ok (.aload_n 0, 1) := by decide +kernel
theorem dX0_kindTold_8 : decode cX0_kindTold 8 = .ok (.getfield 39, 3) := by decide +kernel
theorem dX0_kindTold_11 : decode cX0_kindTold 11 = .ok (.iload_n 1, 1) := by decide +kernel
theorem dX0_kindTold_12 : decode cX0_kindTold 12 = .ok (.iaload, 1) := by decide +kernel
theorem dX0_kindTold_13 : decode cX0_kindTold 13 = .ok (.goto 4, 3) := by decide +kernel
theorem dX0_kindTold_16 : decode cX0_kindTold 16 = .ok (.iconst (-1), 1) := by decide +kernel
theorem dX0_kindTold_17 : decode cX0_kindTold 17 = .ok (.ireturn, 1) := by decide +kernel
theorem dX0_kindAsItGoes_0 : decode cX0_kindAsItGoes 0 = .ok (.aload_n 0, 1) := by decide +kernel
theorem dX0_kindAsItGoes_1 : decode cX0_kindAsItGoes 1 = .ok (.iload_n 1, 1) := by decide +kernel
theorem dX0_kindAsItGoes_2 : decode cX0_kindAsItGoes 2 = .ok (.invokevirtual 92, 3) := by decide +kernel
theorem dX0_kindAsItGoes_5 : decode cX0_kindAsItGoes 5 = .ok (.istore_n 2, 1) := by decide +kernel
theorem dX0_kindAsItGoes_6 : decode cX0_kindAsItGoes 6 = .ok (.iload_n 2, 1) := by decide +kernel
theorem dX0_kindAsItGoes_7 : decode cX0_kindAsItGoes 7 = .ok (.iconst (-1), 1) := by decide +kernel
theorem dX0_kindAsItGoes_8 : decode cX0_kindAsItGoes 8 = .ok (.if_icmp .ne 10, 3) := by decide +kernel
theorem dX0_kindAsItGoes_11 : decode cX0_kindAsItGoes 11 = .ok (.aload_n 0, 1) := by decide +kernel
theorem dX0_kindAsItGoes_12 : decode cX0_kindAsItGoes 12 = .ok (.getfield 81, 3) := by decide +kernel
theorem dX0_kindAsItGoes_15 : decode cX0_kindAsItGoes 15 = .ok (.goto 4, 3) := by decide +kernel
theorem dX0_kindAsItGoes_18 : decode cX0_kindAsItGoes 18 = .ok (.iload_n 2, 1) := by decide +kernel
theorem dX0_kindAsItGoes_19 : decode cX0_kindAsItGoes 19 = .ok (.ireturn, 1) := by decide +kernel
theorem dX0_kindByNumber_0 : decode cX0_kindByNumber 0 = .ok (.aload_n 0, 1) := by decide +kernel
theorem dX0_kindByNumber_1 : decode cX0_kindByNumber 1 = .ok (.getfield 75, 3) := by decide +kernel
theorem dX0_kindByNumber_4 : decode cX0_kindByNumber 4 = .ok (.ifCond .gt 5, 3) := by decide +kernel
theorem dX0_kindByNumber_7 : decode cX0_kindByNumber 7 = .ok (.iconst (-1), 1) := by decide +kernel
theorem dX0_kindByNumber_8 : decode cX0_kindByNumber 8 = .ok (.ireturn, 1) := by decide +kernel
theorem dX0_kindByNumber_9 : decode cX0_kindByNumber 9 = .ok (.iload_n 1, 1) := by decide +kernel
theorem dX0_kindByNumber_10 : decode cX0_kindByNumber 10 = .ok (.aload_n 0, 1) := by decide +kernel
theorem dX0_kindByNumber_11 : decode cX0_kindByNumber 11 = .ok (.getfield 75, 3) := by decide +kernel
theorem dX0_kindByNumber_14 : decode cX0_kindByNumber 14 = .ok (.irem, 1) := by decide +kernel
theorem dX0_kindByNumber_15 : decode cX0_kindByNumber 15 = .ok (.istore_n 2, 1) := by decide +kernel
theorem dX0_kindByNumber_16 : decode cX0_kindByNumber 16 = .ok (.iconst 0, 1) := by decide +kernel
theorem dX0_kindByNumber_17 : decode cX0_kindByNumber 17 = .ok (.istore_n 3, 1) := by decide +kernel
theorem dX0_kindByNumber_18 : decode cX0_kindByNumber 18 = .ok (.iload_n 3, 1) := by decide +kernel
theorem dX0_kindByNumber_19 : decode cX0_kindByNumber 19 = .ok (.aload_n 0, 1) := by decide +kernel
theorem dX0_kindByNumber_20 : decode cX0_kindByNumber 20 = .ok (.getfield 55, 3) := by decide +kernel
theorem dX0_kindByNumber_23 : decode cX0_kindByNumber 23 = .ok (.if_icmp .ge 24, 3) := by decide +kernel
theorem dX0_kindByNumber_26 : decode cX0_kindByNumber 26 = .ok (.iload_n 2, 1) := by decide +kernel
theorem dX0_kindByNumber_27 : decode cX0_kindByNumber 27 = .ok (.aload_n 0, 1) := by decide +kernel
theorem dX0_kindByNumber_28 : decode cX0_kindByNumber 28 = .ok (.getfield 18, 3) := by decide +kernel
theorem dX0_kindByNumber_31 : decode cX0_kindByNumber 31 = .ok (.iload_n 3, 1) := by decide +kernel
theorem dX0_kindByNumber_32 : decode cX0_kindByNumber 32 = .ok (.iaload, 1) := by decide +kernel
theorem dX0_kindByNumber_33 : decode cX0_kindByNumber 33 = .ok (.isub, 1) := by decide +kernel
theorem dX0_kindByNumber_34 : decode cX0_kindByNumber 34 = .ok (.istore_n 2, 1) := by decide +kernel
theorem dX0_kindByNumber_35 : decode cX0_kindByNumber 35 = .ok (.iload_n 2, 1) := by decide +kernel
theorem dX0_kindByNumber_36 : decode cX0_kindByNumber 36 = .ok (.ifCond .ge 5, 3) := by decide +kernel
theorem dX0_kindByNumber_39 : decode cX0_kindByNumber 39 = .ok (.iload_n 3, 1) := by decide +kernel
theorem dX0_kindByNumber_40 : decode cX0_kindByNumber 40 = .ok (.ireturn, 1) := by decide +kernel
theorem dX0_kindByNumber_41 : decode cX0_kindByNumber 41 = .ok (.iinc 3 1, 3) := by decide +kernel
theorem dX0_kindByNumber_44 : decode cX0_kindByNumber 44 = .ok (.goto (-26), 3) := by decide +kernel
theorem dX0_kindByNumber_47 : decode cX0_kindByNumber 47 = .ok (.iconst (-1), 1) := by decide +kernel
theorem dX0_kindByNumber_48 : decode cX0_kindByNumber 48 = .ok (.ireturn, 1) := by decide +kernel
theorem dX0_alone_0 : decode cX0_alone 0 = .ok (.aload_n 0, 1) := by decide +kernel
theorem dX0_alone_1 : decode cX0_alone 1 = .ok (.getfield 15, 3) := by decide +kernel
theorem dX0_alone_4 : decode cX0_alone 4 = .ok (.iload_n 2, 1) := by decide +kernel
theorem dX0_alone_5 : decode cX0_alone 5 = .ok (.iaload, 1) := by decide +kernel
theorem dX0_alone_6 : decode cX0_alone 6 = .ok (.aload_n 0, 1) := by decide +kernel
theorem dX0_alone_7 : decode cX0_alone 7 = .ok (.getfield 27, 3) := by decide +kernel
theorem dX0_alone_10 : decode cX0_alone 10 = .ok (.iload_n 1, 1) := by decide +kernel
theorem dX0_alone_11 : decode cX0_alone 11 = .ok (.iaload, 1) := by decide +kernel
theorem dX0_alone_12 : decode cX0_alone 12 = .ok (.imul, 1) := by decide +kernel
theorem dX0_alone_13 : decode cX0_alone 13 = .ok (.ireturn, 1) := by decide +kernel
theorem dX0_daysToTerm_0 : decode cX0_daysToTerm 0 = .ok (.aload_n 0, 1) := by decide +kernel
theorem dX0_daysToTerm_1 : decode cX0_daysToTerm 1 = .ok (.getfield 68, 3) := by decide +kernel
theorem dX0_daysToTerm_4 : decode cX0_daysToTerm 4 = .ok (.ifCond .le 17, 3) := by decide +kernel
theorem dX0_daysToTerm_7 : decode cX0_daysToTerm 7 = .ok (.aload_n 0, 1) := by decide +kernel
theorem dX0_daysToTerm_8 : decode cX0_daysToTerm 8 = .ok (.getfield 68, 3) := by decide +kernel
theorem dX0_daysToTerm_11 : decode cX0_daysToTerm 11 = .ok (.iload_n 1, 1) := by decide +kernel
theorem dX0_daysToTerm_12 : decode cX0_daysToTerm 12 = .ok (.aload_n 0, 1) := by decide +kernel
theorem dX0_daysToTerm_13 : decode cX0_daysToTerm 13 = .ok (.getfield 68, 3) := by decide +kernel
theorem dX0_daysToTerm_16 : decode cX0_daysToTerm 16 = .ok (.irem, 1) := by decide +kernel
theorem dX0_daysToTerm_17 : decode cX0_daysToTerm 17 = .ok (.isub, 1) := by decide +kernel
theorem dX0_daysToTerm_18 : decode cX0_daysToTerm 18 = .ok (.goto 4, 3) := by decide +kernel
theorem dX0_daysToTerm_21 : decode cX0_daysToTerm 21 = .ok (.iconst 1, 1) := by decide +kernel
theorem dX0_daysToTerm_22 : decode cX0_daysToTerm 22 = .ok (.ireturn, 1) := by decide +kernel
theorem dX1_init_0 : decode cX1_init 0 = .ok (.aload_n 0, 1) := by decide +kernel
theorem dX1_init_1 : decode cX1_init 1 = .ok (.invokespecial 3, 3) := by decide +kernel
theorem dX1_init_4 : decode cX1_init 4 = .ok (.aload_n 0, 1) := by decide +kernel
theorem dX1_init_5 : decode cX1_init 5 = .ok (.bipush 7, 2) := by decide +kernel
theorem dX1_init_7 : decode cX1_init 7 = .ok (.newarray .long, 2) := by decide +kernel
theorem dX1_init_9 : decode cX1_init 9 = .ok (.putfield 9, 3) := by decide +kernel
theorem dX1_init_12 : decode cX1_init 12 = .ok (.return_, 1) := by decide +kernel
theorem dX1_plain_0 : decode cX1_plain 0 = .ok (.aload_n 0, 1) := by decide +kernel
theorem dX1_plain_1 : decode cX1_plain 1 = .ok (.iconst 0, 1) := by decide +kernel
theorem dX1_plain_2 : decode cX1_plain 2 = .ok (.putfield 15, 3) := by decide +kernel
theorem dX1_plain_5 : decode cX1_plain 5 = .ok (.aload_n 0, 1) := by decide +kernel
theorem dX1_plain_6 : decode cX1_plain 6 = .ok (.iconst 0, 1) := by decide +kernel
theorem dX1_plain_7 : decode cX1_plain 7 = .ok (.putfield 19, 3) := by decide +kernel
theorem dX1_plain_10 : decode cX1_plain 10 = .ok (.aload_n 0, 1) := by decide +kernel
theorem dX1_plain_11 : decode cX1_plain 11 = .ok (.iconst 0, 1) := by decide +kernel
theorem dX1_plain_12 : decode cX1_plain 12 = .ok (.putfield 22, 3) := by decide +kernel
theorem dX1_plain_15 : decode cX1_plain 15 = .ok (.aload_n 0, 1) := by decide +kernel
theorem dX1_plain_16 : decode cX1_plain 16 = .ok (.iconst 0, 1) := by decide +kernel
theorem dX1_plain_17 : decode cX1_plain 17 = .ok (.putfield 25, 3) := by decide +kernel
theorem dX1_plain_20 : decode cX1_plain 20 = .ok (.return_, 1) := by decide +kernel
theorem dX1_pass_0 : decode cX1_pass 0 = .ok (.aload_n 0, 1) := by decide +kernel
theorem dX1_pass_1 : decode cX1_pass 1 = .ok (.aload_n 1, 1) := by decide +kernel
theorem dX1_pass_2 : decode cX1_pass 2 = .ok (.aload_n 2, 1) := by decide +kernel
theorem dX1_pass_3 : decode cX1_pass 3 = .ok (.invokevirtual 28, 3) := by decide +kernel
theorem dX1_pass_6 : decode cX1_pass 6 = .ok (.istore 4, 2) := by decide +kernel
theorem dX1_pass_8 : decode cX1_pass 8 = .ok (.iload 4, 2) := by decide +kernel
theorem dX1_pass_10 : decode cX1_pass 10 = .ok (.iconst (-1), 1) := by decide +kernel
theorem dX1_pass_11 : decode cX1_pass 11 = .ok (.if_icmp .ne 16, 3) := by decide +kernel
theorem dX1_pass_14 : decode cX1_pass 14 = .ok (.aload_n 2, 1) := by decide +kernel
theorem dX1_pass_15 : decode cX1_pass 15 = .ok (.dup, 1) := by decide +kernel
theorem dX1_pass_16 : decode cX1_pass 16 = .ok (.getfield 32, 3) := by decide +kernel
theorem dX1_pass_19 : decode cX1_pass 19 = .ok (.iconst 1, 1) := by decide +kernel
theorem dX1_pass_20 : decode cX1_pass 20 = .ok (.iadd, 1) := by decide +kernel
theorem dX1_pass_21 : decode cX1_pass 21 = .ok (.putfield 32, 3) := by decide +kernel
theorem dX1_pass_24 : decode cX1_pass 24 = .ok (.goto 71, 3) := by decide +kernel
theorem dX1_pass_27 : decode cX1_pass 27 = .ok (.aload_n 2, 1) := by decide +kernel
theorem dX1_pass_28 : decode cX1_pass 28 = .ok (.getfield 38, 3) := by decide +kernel
theorem dX1_pass_31 : decode cX1_pass 31 = .ok (.iload 4, 2) := by decide +kernel
theorem dX1_pass_33 : decode cX1_pass 33 = .ok (.dup2, 1) := by decide +kernel
theorem dX1_pass_34 : decode cX1_pass 34 = .ok (.iaload, 1) := by decide +kernel
theorem dX1_pass_35 : decode cX1_pass 35 = .ok (.iconst 1, 1) := by decide +kernel
theorem dX1_pass_36 : decode cX1_pass 36 = .ok (.iadd, 1) := by decide +kernel
theorem dX1_pass_37 : decode cX1_pass 37 = .ok (.iastore, 1) := by decide +kernel
theorem dX1_pass_38 : decode cX1_pass 38 = .ok (.iconst 0, 1) := by decide +kernel
theorem dX1_pass_39 : decode cX1_pass 39 = .ok (.istore 5, 2) := by decide +kernel
theorem dX1_pass_41 : decode cX1_pass 41 = .ok (.iload 5, 2) := by decide +kernel
theorem dX1_pass_43 : decode cX1_pass 43 = .ok (.aload_n 1, 1) := by decide +kernel
theorem dX1_pass_44 : decode cX1_pass 44 = .ok (.getfield 42, 3) := by decide +kernel
theorem dX1_pass_47 : decode cX1_pass 47 = .ok (.if_icmp .ge 48, 3) := by decide +kernel
theorem dX1_pass_50 : decode cX1_pass 50 = .ok (.iload 5, 2) := by decide +kernel
theorem dX1_pass_52 : decode cX1_pass 52 = .ok (.iload_n 3, 1) := by decide +kernel
theorem dX1_pass_53 : decode cX1_pass 53 = .ok (.invokestatic 47, 3) := by decide +kernel
theorem dX1_pass_56 : decode cX1_pass 56 = .ok (.ifCond .eq 33, 3) := by decide +kernel
theorem dX1_pass_59 : decode cX1_pass 59 = .ok (.aload_n 2, 1) := by decide +kernel
theorem dX1_pass_60 : decode cX1_pass 60 = .ok (.getfield 51, 3) := by decide +kernel
theorem dX1_pass_63 : decode cX1_pass 63 = .ok (.iload 5, 2) := by decide +kernel
theorem dX1_pass_65 : decode cX1_pass 65 = .ok (.baload, 1) := by decide +kernel
theorem dX1_pass_66 : decode cX1_pass 66 = .ok (.ifCond .ne 23, 3) := by decide +kernel
theorem dX1_pass_69 : decode cX1_pass 69 = .ok (.aload_n 2, 1) := by decide +kernel
theorem dX1_pass_70 : decode cX1_pass 70 = .ok (.getfield 55, 3) := by decide +kernel
theorem dX1_pass_73 : decode cX1_pass 73 = .ok (.iload 5, 2) := by decide +kernel
theorem dX1_pass_75 : decode cX1_pass 75 = .ok (.baload, 1) := by decide +kernel
theorem dX1_pass_76 : decode cX1_pass 76 = .ok (.ifCond .ne 13, 3) := by decide +kernel
theorem dX1_pass_79 : decode cX1_pass 79 = .ok (.aload_n 0, 1) := by decide +kernel
theorem dX1_pass_80 : decode cX1_pass 80 = .ok (.aload_n 1, 1) := by decide +kernel
theorem dX1_pass_81 : decode cX1_pass 81 = .ok (.aload_n 2, 1) := by decide +kernel
theorem dX1_pass_82 : decode cX1_pass 82 = .ok (.iload 5, 2) := by decide +kernel
theorem dX1_pass_84 : decode cX1_pass 84 = .ok (.iload 4, 2) := by decide +kernel
theorem dX1_pass_86 : decode cX1_pass 86 = .ok (.invokevirtual 58, 3) := by decide +kernel
theorem dX1_pass_89 : decode cX1_pass 89 = .ok (.iinc 5 1, 3) := by decide +kernel
theorem dX1_pass_92 : decode cX1_pass 92 = .ok (.goto (-51), 3) := by decide +kernel
theorem dX1_pass_95 : decode cX1_pass 95 = .ok (.aload_n 0, 1) := by decide +kernel
theorem dX1_pass_96 : decode cX1_pass 96 = .ok (.getfield 25, 3) := by decide +kernel
theorem dX1_pass_99 : decode cX1_pass 99 = .ok (.ifCond .ne 59, 3) := by decide +kernel
theorem dX1_pass_102 : decode cX1_pass 102 = .ok (.aload_n 1, 1) := by decide +kernel
theorem dX1_pass_103 : decode cX1_pass 103 = .ok (.aload_n 2, 1) := by decide +kernel
theorem dX1_pass_104 : decode cX1_pass 104 = .ok (.getfield 62, 3) := by decide +kernel
theorem dX1_pass_107 : decode cX1_pass 107 = .ok (.invokevirtual 65, 3) := by decide +kernel
theorem dX1_pass_110 : decode cX1_pass 110 = .ok (.iconst 1, 1) := by decide +kernel
theorem dX1_pass_111 : decode cX1_pass 111 = .ok (.if_icmp .ne 47, 3) := by decide +kernel
theorem dX1_pass_114 : decode cX1_pass 114 = .ok (.iconst 0, 1) := by decide +kernel
theorem dX1_pass_115 : decode cX1_pass 115 = .ok (.istore 5, 2) := by decide +kernel
theorem dX1_pass_117 : decode cX1_pass 117 = .ok (.iload 5, 2) := by decide +kernel
theorem dX1_pass_119 : decode cX1_pass 119 = .ok (.aload_n 1, 1) := by decide +kernel
theorem dX1_pass_120 : decode cX1_pass 120 = .ok (.getfield 42, 3) := by decide +kernel
theorem dX1_pass_123 : decode cX1_pass 123 = .ok (.if_icmp .ge 35, 3) := by decide +kernel
theorem dX1_pass_126 : decode cX1_pass 126 = .ok (.iload 5, 2) := by decide +kernel
theorem dX1_pass_128 : decode cX1_pass 128 = .ok (.iload_n 3, 1) := by decide +kernel
theorem dX1_pass_129 : decode cX1_pass 129 = .ok (.invokestatic 47, 3) := by decide +kernel
theorem dX1_pass_132 : decode cX1_pass 132 = .ok (.ifCond .eq 20, 3) := by decide +kernel
theorem dX1_pass_135 : decode cX1_pass 135 = .ok (.aload_n 2, 1) := by decide +kernel
theorem dX1_pass_136 : decode cX1_pass 136 = .ok (.getfield 51, 3) := by decide +kernel
theorem dX1_pass_139 : decode cX1_pass 139 = .ok (.iload 5, 2) := by decide +kernel
theorem dX1_pass_141 : decode cX1_pass 141 = .ok (.baload, 1) := by decide +kernel
theorem dX1_pass_142 : decode cX1_pass 142 = .ok (.ifCond .ne 10, 3) := by decide +kernel
theorem dX1_pass_145 : decode cX1_pass 145 = .ok (.aload_n 1, 1) := by decide +kernel
theorem dX1_pass_146 : decode cX1_pass 146 = .ok (.aload_n 2, 1) := by decide +kernel
theorem dX1_pass_147 : decode cX1_pass 147 = .ok (.iload 5, 2) := by decide +kernel
theorem dX1_pass_149 : decode cX1_pass 149 = .ok (.invokestatic 69, 3) := by decide +kernel
theorem dX1_pass_152 : decode cX1_pass 152 = .ok (.iinc 5 1, 3) := by decide +kernel
theorem dX1_pass_155 : decode cX1_pass 155 = .ok (.goto (-38), 3) := by decide +kernel
theorem dX1_pass_158 : decode cX1_pass 158 = .ok (.aload_n 2, 1) := by decide +kernel
theorem dX1_pass_159 : decode cX1_pass 159 = .ok (.dup, 1) := by decide +kernel
theorem dX1_pass_160 : decode cX1_pass 160 = .ok (.getfield 62, 3) := by decide +kernel
theorem dX1_pass_163 : decode cX1_pass 163 = .ok (.iconst 1, 1) := by decide +kernel
theorem dX1_pass_164 : decode cX1_pass 164 = .ok (.iadd, 1) := by decide +kernel
theorem dX1_pass_165 : decode cX1_pass 165 = .ok (.putfield 62, 3) := by decide +kernel
theorem dX1_pass_168 : decode cX1_pass 168 = .ok (.aload_n 2, 1) := by decide +kernel
theorem dX1_pass_169 : decode cX1_pass 169 = .ok (.iconst (-1), 1) := by decide +kernel
theorem dX1_pass_170 : decode cX1_pass 170 = .ok (.putfield 73, 3) := by decide +kernel
theorem dX1_pass_173 : decode cX1_pass 173 = .ok (.return_, 1) := by decide +kernel
theorem dX1_isMeant_0 : decode cX1_isMeant 0 = .ok (.iload_n 1, 1) := by decide +kernel
theorem dX1_isMeant_1 : decode cX1_isMeant 1 = .ok (.iconst (-1), 1) := by decide +kernel
theorem dX1_isMeant_2 : decode cX1_isMeant 2 = .ok (.if_icmp .eq 8, 3) := by decide +kernel
theorem dX1_isMeant_5 : decode cX1_isMeant 5 = .ok (.iload_n 1, 1) := by decide +kernel
theorem dX1_isMeant_6 : decode cX1_isMeant 6 = .ok (.iload_n 0, 1) := by decide +kernel
theorem dX1_isMeant_7 : decode cX1_isMeant 7 = .ok (.if_icmp .ne 7, 3) := by decide +kernel
theorem dX1_isMeant_10 : decode cX1_isMeant 10 = .ok (.iconst 1, 1) := by decide +kernel
theorem dX1_isMeant_11 : decode cX1_isMeant 11 = .ok (.goto 4, 3) := by decide +kernel
theorem dX1_isMeant_14 : decode cX1_isMeant 14 = .ok (.iconst 0, 1) := by decide +kernel
theorem dX1_isMeant_15 : decode cX1_isMeant 15 = .ok (.ireturn, 1) := by decide +kernel
theorem dX1_kindOf_0 : decode cX1_kindOf 0 = .ok (.aload_n 2, 1) := by decide +kernel
theorem dX1_kindOf_1 : decode cX1_kindOf 1 = .ok (.getfield 73, 3) := by decide +kernel
theorem dX1_kindOf_4 : decode cX1_kindOf 4 = .ok (.iconst (-1), 1) := by decide +kernel
theorem dX1_kindOf_5 : decode cX1_kindOf 5 = .ok (.if_icmp .eq 8, 3) := by decide +kernel
theorem dX1_kindOf_8 : decode cX1_kindOf 8 = .ok (.aload_n 2, 1) := by decide +kernel
theorem dX1_kindOf_9 : decode cX1_kindOf 9 = .ok (.getfield 73, 3) := by decide +kernel
theorem dX1_kindOf_12 : decode cX1_kindOf 12 = .ok (.ireturn, 1) := by decide +kernel
theorem dX1_kindOf_13 : decode cX1_kindOf 13 = .ok (.aload_n 1, 1) := by decide +kernel
theorem dX1_kindOf_14 : decode cX1_kindOf 14 = .ok (.aload_n 2, 1) := by decide +kernel
theorem dX1_kindOf_15 : decode cX1_kindOf 15 = .ok (.getfield 62, 3) := by decide +kernel
theorem dX1_kindOf_18 : decode cX1_kindOf 18 = .ok (.invokevirtual 76, 3) := by decide +kernel
theorem dX1_kindOf_21 : decode cX1_kindOf 21 = .ok (.istore_n 3, 1) := by decide +kernel
theorem dX1_kindOf_22 : decode cX1_kindOf 22 = .ok (.iload_n 3, 1) := by decide +kernel
theorem dX1_kindOf_23 : decode cX1_kindOf 23 = .ok (.iconst (-1), 1) := by decide +kernel
theorem dX1_kindOf_24 : decode cX1_kindOf 24 = .ok (.if_icmp .eq 5, 3) := by decide +kernel
theorem dX1_kindOf_27 : decode cX1_kindOf 27 = .ok (.iload_n 3, 1) := by decide +kernel
theorem dX1_kindOf_28 : decode cX1_kindOf 28 = .ok (.ireturn, 1) := by decide +kernel
theorem dX1_kindOf_29 : decode cX1_kindOf 29 = .ok (.aload_n 0, 1) := by decide +kernel
theorem dX1_kindOf_30 : decode cX1_kindOf 30 = .ok (.getfield 15, 3) := by decide +kernel
theorem dX1_kindOf_33 : decode cX1_kindOf 33 = .ok (.ifCond .eq 11, 3) := by decide +kernel
theorem dX1_kindOf_36 : decode cX1_kindOf 36 = .ok (.aload_n 1, 1) := by decide +kernel
theorem dX1_kindOf_37 : decode cX1_kindOf 37 = .ok (.getfield 79, 3) := by decide +kernel
theorem dX1_kindOf_40 : decode cX1_kindOf 40 = .ok (.iconst 2, 1) := by decide +kernel
theorem dX1_kindOf_41 : decode cX1_kindOf 41 = .ok (.if_icmp .ge 8, 3) := by decide +kernel
theorem dX1_kindOf_44 : decode cX1_kindOf 44 = .ok (.aload_n 1, 1) := by decide +kernel
theorem dX1_kindOf_45 : decode cX1_kindOf 45 = .ok (.getfield 82, 3) := by decide +kernel
theorem dX1_kindOf_48 : decode cX1_kindOf 48 = .ok (.ireturn, 1) := by decide +kernel
theorem dX1_kindOf_49 : decode cX1_kindOf 49 = .ok (.aload_n 1, 1) := by decide +kernel
theorem dX1_kindOf_50 : decode cX1_kindOf 50 = .ok (.aload_n 2, 1) := by decide +kernel
theorem dX1_kindOf_51 : decode cX1_kindOf 51 = .ok (.invokevirtual 85, 3) := by decide +kernel
theorem dX1_kindOf_54 : decode cX1_kindOf 54 = .ok (.invokevirtual 89, 3) := by decide +kernel
theorem dX1_kindOf_57 : decode cX1_kindOf 57 = .ok (.ireturn, 1) := by decide +kernel
theorem dX1_worth_0 : decode cX1_worth 0 = .ok (.aload_n 0, 1) := by decide +kernel
theorem dX1_worth_1 : decode cX1_worth 1 = .ok (.getfield 19, 3) := by decide +kernel
theorem dX1_worth_4 : decode cX1_worth 4 = .ok (.ifCond .eq 7, 3) := by decide +kernel
theorem dX1_worth_7 : decode cX1_worth 7 = .ok (.iconst 0, 1) := by decide +kernel
theorem dX1_worth_8 : decode cX1_worth 8 = .ok (.goto 9, 3) := by decide +kernel
theorem dX1_worth_11 : decode cX1_worth 11 = .ok (.aload_n 1, 1) := by decide +kernel
theorem dX1_worth_12 : decode cX1_worth 12 = .ok (.getfield 92, 3) := by decide +kernel
theorem dX1_worth_15 : decode cX1_worth 15 = .ok (.iload_n 2, 1) := by decide +kernel
theorem dX1_worth_16 : decode cX1_worth 16 = .ok (.iaload, 1) := by decide +kernel
theorem dX1_worth_17 : decode cX1_worth 17 = .ok (.ireturn, 1) := by decide +kernel
theorem dX1_eager_0 : decode cX1_eager 0 = .ok (.aload_n 0, 1) := by decide +kernel
theorem dX1_eager_1 : decode cX1_eager 1 = .ok (.getfield 22, 3) := by decide +kernel
theorem dX1_eager_4 : decode cX1_eager 4 = .ok (.ifCond .eq 8, 3) := by decide +kernel
theorem dX1_eager_7 : decode cX1_eager 7 = .ok (.bipush 9, 2) := by decide +kernel
theorem dX1_eager_9 : decode cX1_eager 9 = .ok (.goto 9, 3) := by decide +kernel
theorem dX1_eager_12 : decode cX1_eager 12 = .ok (.aload_n 1, 1) := by decide +kernel
theorem dX1_eager_13 : decode cX1_eager 13 = .ok (.getfield 95, 3) := by decide +kernel
theorem dX1_eager_16 : decode cX1_eager 16 = .ok (.iload_n 2, 1) := by decide +kernel
theorem dX1_eager_17 : decode cX1_eager 17 = .ok (.iaload, 1) := by decide +kernel
theorem dX1_eager_18 : decode cX1_eager 18 = .ok (.ireturn, 1) := by decide +kernel
theorem dX1_name_0 : decode cX1_name 0 = .ok (.aload_n 0, 1) := by decide +kernel
theorem dX1_name_1 : decode cX1_name 1 = .ok (.getfield 9, 3) := by decide +kernel
theorem dX1_name_4 : decode cX1_name 4 = .ok (.iconst 0, 1) := by decide +kernel
theorem dX1_name_5 : decode cX1_name 5 = .ok (.aload_n 0, 1) := by decide +kernel
theorem dX1_name_6 : decode cX1_name 6 = .ok (.aload_n 1, 1) := by decide +kernel
theorem dX1_name_7 : decode cX1_name 7 = .ok (.iload 4, 2) := by decide +kernel
theorem dX1_name_9 : decode cX1_name 9 = .ok (.invokevirtual 98, 3) := by decide +kernel
theorem dX1_name_12 : decode cX1_name 12 = .ok (.i2l, 1) := by decide +kernel
theorem dX1_name_13 : decode cX1_name 13 = .ok (.lastore, 1) := by decide +kernel
theorem dX1_name_14 : decode cX1_name 14 = .ok (.aload_n 0, 1) := by decide +kernel
theorem dX1_name_15 : decode cX1_name 15 = .ok (.getfield 9, 3) := by decide +kernel
theorem dX1_name_18 : decode cX1_name 18 = .ok (.iconst 1, 1) := by decide +kernel
theorem dX1_name_19 : decode cX1_name 19 = .ok (.aload_n 0, 1) := by decide +kernel
theorem dX1_name_20 : decode cX1_name 20 = .ok (.aload_n 1, 1) := by decide +kernel
theorem dX1_name_21 : decode cX1_name 21 = .ok (.iload_n 3, 1) := by decide +kernel
theorem dX1_name_22 : decode cX1_name 22 = .ok (.invokevirtual 101, 3) := by decide +kernel
theorem dX1_name_25 : decode cX1_name 25 = .ok (.i2l, 1) := by decide +kernel
theorem dX1_name_26 : decode cX1_name 26 = .ok (.lastore, 1) := by decide +kernel
theorem dX1_name_27 : decode cX1_name 27 = .ok (.aload_n 0, 1) := by decide +kernel
theorem dX1_name_28 : decode cX1_name 28 = .ok (.getfield 9, 3) := by decide +kernel
theorem dX1_name_31 : decode cX1_name 31 = .ok (.iconst 2, 1) := by decide +kernel
theorem dX1_name_32 : decode cX1_name 32 = .ok (.aload_n 2, 1) := by decide +kernel
theorem dX1_name_33 : decode cX1_name 33 = .ok (.getfield 103, 3) := by decide +kernel
theorem dX1_name_36 : decode cX1_name 36 = .ok (.iload_n 3, 1) := by decide +kernel
theorem dX1_name_37 : decode cX1_name 37 = .ok (.iaload, 1) := by decide +kernel
theorem dX1_name_38 : decode cX1_name 38 = .ok (.i2l, 1) := by decide +kernel
theorem dX1_name_39 : decode cX1_name 39 = .ok (.lastore, 1) := by decide +kernel
theorem dX1_name_40 : decode cX1_name 40 = .ok (.aload_n 0, 1) := by decide +kernel
theorem dX1_name_41 : decode cX1_name 41 = .ok (.getfield 9, 3) := by decide +kernel
theorem dX1_name_44 : decode cX1_name 44 = .ok (.iconst 3, 1) := by decide +kernel
theorem dX1_name_45 : decode cX1_name 45 = .ok (.aload_n 2, 1) := by decide +kernel
theorem dX1_name_46 : decode cX1_name 46 = .ok (.getfield 106, 3) := by decide +kernel
theorem dX1_name_49 : decode cX1_name 49 = .ok (.iload_n 3, 1) := by decide +kernel
theorem dX1_name_50 : decode cX1_name 50 = .ok (.iaload, 1) := by decide +kernel
theorem dX1_name_51 : decode cX1_name 51 = .ok (.i2l, 1) := by decide +kernel
theorem dX1_name_52 : decode cX1_name 52 = .ok (.lastore, 1) := by decide +kernel
theorem dX1_name_53 : decode cX1_name 53 = .ok (.aload_n 0, 1) := by decide +kernel
theorem dX1_name_54 : decode cX1_name 54 = .ok (.getfield 9, 3) := by decide +kernel
theorem dX1_name_57 : decode cX1_name 57 = .ok (.iconst 4, 1) := by decide +kernel
theorem dX1_name_58 : decode cX1_name 58 = .ok (.aload_n 2, 1) := by decide +kernel
theorem dX1_name_59 : decode cX1_name 59 = .ok (.getfield 109, 3) := by decide +kernel
theorem dX1_name_62 : decode cX1_name 62 = .ok (.iload_n 3, 1) := by decide +kernel
theorem dX1_name_63 : decode cX1_name 63 = .ok (.iaload, 1) := by decide +kernel
theorem dX1_name_64 : decode cX1_name 64 = .ok (.i2l, 1) := by decide +kernel
theorem dX1_name_65 : decode cX1_name 65 = .ok (.lastore, 1) := by decide +kernel
theorem dX1_name_66 : decode cX1_name 66 = .ok (.aload_n 0, 1) := by decide +kernel
theorem dX1_name_67 : decode cX1_name 67 = .ok (.getfield 9, 3) := by decide +kernel
theorem dX1_name_70 : decode cX1_name 70 = .ok (.iconst 5, 1) := by decide +kernel
theorem dX1_name_71 : decode cX1_name 71 = .ok (.aload_n 1, 1) := by decide +kernel
theorem dX1_name_72 : decode cX1_name 72 = .ok (.getfield 112, 3) := by decide +kernel
theorem dX1_name_75 : decode cX1_name 75 = .ok (.iload 4, 2) := by decide +kernel
theorem dX1_name_77 : decode cX1_name 77 = .ok (.iaload, 1) := by decide +kernel
theorem dX1_name_78 : decode cX1_name 78 = .ok (.i2l, 1) := by decide +kernel
theorem dX1_name_79 : decode cX1_name 79 = .ok (.lastore, 1) := by decide +kernel
theorem dX1_name_80 : decode cX1_name 80 = .ok (.aload_n 0, 1) := by decide +kernel
theorem dX1_name_81 : decode cX1_name 81 = .ok (.getfield 9, 3) := by decide +kernel
theorem dX1_name_84 : decode cX1_name 84 = .ok (.bipush 6, 2) := by decide +kernel
theorem dX1_name_86 : decode cX1_name 86 = .ok (.aload_n 2, 1) := by decide +kernel
theorem dX1_name_87 : decode cX1_name 87 = .ok (.getfield 62, 3) := by decide +kernel
theorem dX1_name_90 : decode cX1_name 90 = .ok (.i2l, 1) := by decide +kernel
theorem dX1_name_91 : decode cX1_name 91 = .ok (.lastore, 1) := by decide +kernel
theorem dX1_name_92 : decode cX1_name 92 = .ok (.return_, 1) := by decide +kernel
theorem dX1_look_0 : decode cX1_look 0 = .ok (.aload_n 0, 1) := by decide +kernel
theorem dX1_look_1 : decode cX1_look 1 = .ok (.aload_n 1, 1) := by decide +kernel
theorem dX1_look_2 : decode cX1_look 2 = .ok (.aload_n 2, 1) := by decide +kernel
theorem dX1_look_3 : decode cX1_look 3 = .ok (.iload_n 3, 1) := by decide +kernel
theorem dX1_look_4 : decode cX1_look 4 = .ok (.iload 4, 2) := by decide +kernel
theorem dX1_look_6 : decode cX1_look 6 = .ok (.invokevirtual 115, 3) := by decide +kernel
theorem dX1_look_9 : decode cX1_look 9 = .ok (.aload_n 1, 1) := by decide +kernel
theorem dX1_look_10 : decode cX1_look 10 = .ok (.getfield 118, 3) := by decide +kernel
theorem dX1_look_13 : decode cX1_look 13 = .ok (.iconst 0, 1) := by decide +kernel
theorem dX1_look_14 : decode cX1_look 14 = .ok (.aload_n 0, 1) := by decide +kernel
theorem dX1_look_15 : decode cX1_look 15 = .ok (.getfield 9, 3) := by decide +kernel
theorem dX1_look_18 : decode cX1_look 18 = .ok (.invokevirtual 122, 3) := by decide +kernel
theorem dX1_look_21 : decode cX1_look 21 = .ok (.lconst 0, 1) := by decide +kernel
theorem dX1_look_22 : decode cX1_look 22 = .ok (.lcmp, 1) := by decide +kernel
theorem dX1_look_23 : decode cX1_look 23 = .ok (.ifCond .ne 4, 3) := by decide +kernel
theorem dX1_look_26 : decode cX1_look 26 = .ok (.return_, 1) := by decide +kernel
theorem dX1_look_27 : decode cX1_look 27 = .ok (.aload_n 2, 1) := by decide +kernel
theorem dX1_look_28 : decode cX1_look 28 = .ok (.getfield 128, 3) := by decide +kernel
theorem dX1_look_31 : decode cX1_look 31 = .ok (.iload_n 3, 1) := by decide +kernel
theorem dX1_look_32 : decode cX1_look 32 = .ok (.dup2, 1) := by decide +kernel
theorem dX1_look_33 : decode cX1_look 33 = .ok (.iaload, 1) := by decide +kernel
theorem dX1_look_34 : decode cX1_look 34 = .ok (.iconst 1, 1) := by decide +kernel
theorem dX1_look_35 : decode cX1_look 35 = .ok (.iadd, 1) := by decide +kernel
theorem dX1_look_36 : decode cX1_look 36 = .ok (.iastore, 1) := by decide +kernel
theorem dX1_look_37 : decode cX1_look 37 = .ok (.aload_n 1, 1) := by decide +kernel
theorem dX1_look_38 : decode cX1_look 38 = .ok (.getfield 118, 3) := by decide +kernel
theorem dX1_look_41 : decode cX1_look 41 = .ok (.iconst 1, 1) := by decide +kernel
theorem dX1_look_42 : decode cX1_look 42 = .ok (.aload_n 0, 1) := by decide +kernel
theorem dX1_look_43 : decode cX1_look 43 = .ok (.getfield 9, 3) := by decide +kernel
theorem dX1_look_46 : decode cX1_look 46 = .ok (.invokevirtual 122, 3) := by decide +kernel
theorem dX1_look_49 : decode cX1_look 49 = .ok (.lstore 5, 2) := by decide +kernel
theorem dX1_look_51 : decode cX1_look 51 = .ok (.lload 5, 2) := by decide +kernel
theorem dX1_look_53 : decode cX1_look 53 = .ok (.ldc2_w 131, 3) := by decide +kernel
theorem dX1_look_56 : decode cX1_look 56 = .ok (.lcmp, 1) := by decide +kernel
theorem dX1_look_57 : decode cX1_look 57 = .ok (.ifCond .ne 12, 3) := by decide +kernel
theorem dX1_look_60 : decode cX1_look 60 = .ok (.aload_n 0, 1) := by decide +kernel
theorem dX1_look_61 : decode cX1_look 61 = .ok (.aload_n 1, 1) := by decide +kernel
theorem dX1_look_62 : decode cX1_look 62 = .ok (.iload_n 3, 1) := by decide +kernel
theorem dX1_look_63 : decode cX1_look 63 = .ok (.invokevirtual 101, 3) := by decide +kernel
theorem dX1_look_66 : decode cX1_look 66 = .ok (.goto 11, 3) := by decide +kernel
theorem dX1_look_69 : decode cX1_look 69 = .ok (.lload 5, 2) := by decide +kernel
theorem dX1_look_71 : decode cX1_look 71 = .ok (.iconst 0, 1) := by decide +kernel
theorem dX1_look_72 : decode cX1_look 72 = .ok (.bipush 99, 2) := by decide +kernel
theorem dX1_look_74 : decode cX1_look 74 = .ok (.invokestatic 133, 3) := by decide +kernel
theorem dX1_look_77 : decode cX1_look 77 = .ok (.istore 7, 2) := by decide +kernel
theorem dX1_look_79 : decode cX1_look 79 = .ok (.aload_n 2, 1) := by decide +kernel
theorem dX1_look_80 : decode cX1_look 80 = .ok (.getfield 109, 3) := by decide +kernel
theorem dX1_look_83 : decode cX1_look 83 = .ok (.iload_n 3, 1) := by decide +kernel
theorem dX1_look_84 : decode cX1_look 84 = .ok (.ldc 137, 2) := by decide +kernel
theorem dX1_look_86 : decode cX1_look 86 = .ok (.aload_n 2, 1) := by decide +kernel
theorem dX1_look_87 : decode cX1_look 87 = .ok (.getfield 109, 3) := by decide +kernel
theorem dX1_look_90 : decode cX1_look 90 = .ok (.iload_n 3, 1) := by decide +kernel
theorem dX1_look_91 : decode cX1_look 91 = .ok (.iaload, 1) := by decide +kernel
theorem dX1_look_92 : decode cX1_look 92 = .ok (.iload 7, 2) := by decide +kernel
theorem dX1_look_94 : decode cX1_look 94 = .ok (.iadd, 1) := by decide +kernel
theorem dX1_look_95 : decode cX1_look 95 = .ok (.invokestatic 138, 3) := by decide +kernel
theorem dX1_look_98 : decode cX1_look 98 = .ok (.iastore, 1) := by decide +kernel
theorem dX1_look_99 : decode cX1_look 99 = .ok (.aload_n 0, 1) := by decide +kernel
theorem dX1_look_100 : decode cX1_look 100 = .ok (.getfield 9, 3) := by decide +kernel
theorem dX1_look_103 : decode cX1_look 103 = .ok (.iconst 4, 1) := by decide +kernel
theorem dX1_look_104 : decode cX1_look 104 = .ok (.aload_n 2, 1) := by decide +kernel
theorem dX1_look_105 : decode cX1_look 105 = .ok (.getfield 109, 3) := by decide +kernel
theorem dX1_look_108 : decode cX1_look 108 = .ok (.iload_n 3, 1) := by decide +kernel
theorem dX1_look_109 : decode cX1_look 109 = .ok (.iaload, 1) := by decide +kernel
theorem dX1_look_110 : decode cX1_look 110 = .ok (.i2l, 1) := by decide +kernel
theorem dX1_look_111 : decode cX1_look 111 = .ok (.lastore, 1) := by decide +kernel
theorem dX1_look_112 : decode cX1_look 112 = .ok (.aload_n 1, 1) := by decide +kernel
theorem dX1_look_113 : decode cX1_look 113 = .ok (.getfield 118, 3) := by decide +kernel
theorem dX1_look_116 : decode cX1_look 116 = .ok (.iconst 2, 1) := by decide +kernel
theorem dX1_look_117 : decode cX1_look 117 = .ok (.aload_n 0, 1) := by decide +kernel
theorem dX1_look_118 : decode cX1_look 118 = .ok (.getfield 9, 3) := by decide +kernel
theorem dX1_look_121 : decode cX1_look 121 = .ok (.invokevirtual 122, 3) := by decide +kernel
theorem dX1_look_124 : decode cX1_look 124 = .ok (.lstore 8, 2) := by decide +kernel
theorem dX1_look_126 : decode cX1_look 126 = .ok (.lload 8, 2) := by decide +kernel
theorem dX1_look_128 : decode cX1_look 128 = .ok (.ldc2_w 131, 3) := by decide +kernel
theorem dX1_look_131 : decode cX1_look 131 = .ok (.lcmp, 1) := by decide +kernel
theorem dX1_look_132 : decode cX1_look 132 = .ok (.ifCond .ne 16, 3) := by decide +kernel
theorem dX1_look_135 : decode cX1_look 135 = .ok (.aload_n 0, 1) := by decide +kernel
theorem dX1_look_136 : decode cX1_look 136 = .ok (.aload_n 1, 1) := by decide +kernel
theorem dX1_look_137 : decode cX1_look 137 = .ok (.iload 4, 2) := by decide +kernel
theorem dX1_look_139 : decode cX1_look 139 = .ok (.invokevirtual 98, 3) := by decide +kernel
theorem dX1_look_142 : decode cX1_look 142 = .ok (.iload 7, 2) := by decide +kernel
theorem dX1_look_144 : decode cX1_look 144 = .ok (.imul, 1) := by decide +kernel
theorem dX1_look_145 : decode cX1_look 145 = .ok (.goto 14, 3) := by decide +kernel
theorem dX1_look_148 : decode cX1_look 148 = .ok (.lload 8, 2) := by decide +kernel
theorem dX1_look_150 : decode cX1_look 150 = .ok (.sipush (-999), 3) := by decide +kernel
theorem dX1_look_153 : decode cX1_look 153 = .ok (.sipush 999, 3) := by decide +kernel
theorem dX1_look_156 : decode cX1_look 156 = .ok (.invokestatic 133, 3) := by decide +kernel
theorem dX1_look_159 : decode cX1_look 159 = .ok (.istore 10, 2) := by decide +kernel
theorem dX1_look_161 : decode cX1_look 161 = .ok (.aload_n 2, 1) := by decide +kernel
theorem dX1_look_162 : decode cX1_look 162 = .ok (.getfield 106, 3) := by decide +kernel
theorem dX1_look_165 : decode cX1_look 165 = .ok (.iload_n 3, 1) := by decide +kernel
theorem dX1_look_166 : decode cX1_look 166 = .ok (.aload_n 2, 1) := by decide +kernel
theorem dX1_look_167 : decode cX1_look 167 = .ok (.getfield 106, 3) := by decide +kernel
theorem dX1_look_170 : decode cX1_look 170 = .ok (.iload_n 3, 1) := by decide +kernel
theorem dX1_look_171 : decode cX1_look 171 = .ok (.iaload, 1) := by decide +kernel
theorem dX1_look_172 : decode cX1_look 172 = .ok (.iload 10, 2) := by decide +kernel
theorem dX1_look_174 : decode cX1_look 174 = .ok (.iadd, 1) := by decide +kernel
theorem dX1_look_175 : decode cX1_look 175 = .ok (.i2l, 1) := by decide +kernel
theorem dX1_look_176 : decode cX1_look 176 = .ok (.ldc 144, 2) := by decide +kernel
theorem dX1_look_178 : decode cX1_look 178 = .ok (.ldc 137, 2) := by decide +kernel
theorem dX1_look_180 : decode cX1_look 180 = .ok (.invokestatic 133, 3) := by decide +kernel
theorem dX1_look_183 : decode cX1_look 183 = .ok (.iastore, 1) := by decide +kernel
theorem dX1_look_184 : decode cX1_look 184 = .ok (.return_, 1) := by decide +kernel
theorem dX1_clamped_0 : decode cX1_clamped 0 = .ok (.iload_n 2, 1) := by decide +kernel
theorem dX1_clamped_1 : decode cX1_clamped 1 = .ok (.i2l, 1) := by decide +kernel
theorem dX1_clamped_2 : decode cX1_clamped 2 = .ok (.iload_n 3, 1) := by decide +kernel
theorem dX1_clamped_3 : decode cX1_clamped 3 = .ok (.i2l, 1) := by decide +kernel
theorem dX1_clamped_4 : decode cX1_clamped 4 = .ok (.lload_n 0, 1) := by decide +kernel
theorem dX1_clamped_5 : decode cX1_clamped 5 = .ok (.invokestatic 145, 3) := by decide +kernel
theorem dX1_clamped_8 : decode cX1_clamped 8 = .ok (.invokestatic 148, 3) := by decide +kernel
theorem dX1_clamped_11 : decode cX1_clamped 11 = .ok (.l2i, 1) := by decide +kernel
theorem dX1_clamped_12 : decode cX1_clamped 12 = .ok (.ireturn, 1) := by decide +kernel
theorem dX1_pay_0 : decode cX1_pay 0 = .ok (.aload_n 1, 1) := by decide +kernel
theorem dX1_pay_1 : decode cX1_pay 1 = .ok (.getfield 103, 3) := by decide +kernel
theorem dX1_pay_4 : decode cX1_pay 4 = .ok (.iload_n 2, 1) := by decide +kernel
theorem dX1_pay_5 : decode cX1_pay 5 = .ok (.iaload, 1) := by decide +kernel
theorem dX1_pay_6 : decode cX1_pay 6 = .ok (.aload_n 0, 1) := by decide +kernel
theorem dX1_pay_7 : decode cX1_pay 7 = .ok (.getfield 151, 3) := by decide +kernel
theorem dX1_pay_10 : decode cX1_pay 10 = .ok (.iload_n 2, 1) := by decide +kernel
theorem dX1_pay_11 : decode cX1_pay 11 = .ok (.iaload, 1) := by decide +kernel
theorem dX1_pay_12 : decode cX1_pay 12 = .ok (.iadd, 1) := by decide +kernel
theorem dX1_pay_13 : decode cX1_pay 13 = .ok (.aload_n 1, 1) := by decide +kernel
theorem dX1_pay_14 : decode cX1_pay 14 = .ok (.getfield 106, 3) := by decide +kernel
theorem dX1_pay_17 : decode cX1_pay 17 = .ok (.iload_n 2, 1) := by decide +kernel
theorem dX1_pay_18 : decode cX1_pay 18 = .ok (.iaload, 1) := by decide +kernel
theorem dX1_pay_19 : decode cX1_pay 19 = .ok (.isub, 1) := by decide +kernel
theorem dX1_pay_20 : decode cX1_pay 20 = .ok (.istore_n 3, 1) := by decide +kernel
theorem dX1_pay_21 : decode cX1_pay 21 = .ok (.aload_n 1, 1) := by decide +kernel
theorem dX1_pay_22 : decode cX1_pay 22 = .ok (.getfield 103, 3) := by decide +kernel
theorem dX1_pay_25 : decode cX1_pay 25 = .ok (.iload_n 2, 1) := by decide +kernel
theorem dX1_pay_26 : decode cX1_pay 26 = .ok (.ldc 137, 2) := by decide +kernel
theorem dX1_pay_28 : decode cX1_pay 28 = .ok (.iload_n 3, 1) := by decide +kernel
theorem dX1_pay_29 : decode cX1_pay 29 = .ok (.invokestatic 138, 3) := by decide +kernel
theorem dX1_pay_32 : decode cX1_pay 32 = .ok (.iastore, 1) := by decide +kernel
theorem dX1_pay_33 : decode cX1_pay 33 = .ok (.aload_n 1, 1) := by decide +kernel
theorem dX1_pay_34 : decode cX1_pay 34 = .ok (.getfield 106, 3) := by decide +kernel
theorem dX1_pay_37 : decode cX1_pay 37 = .ok (.iload_n 2, 1) := by decide +kernel
theorem dX1_pay_38 : decode cX1_pay 38 = .ok (.iconst 0, 1) := by decide +kernel
theorem dX1_pay_39 : decode cX1_pay 39 = .ok (.iastore, 1) := by decide +kernel
theorem dX1_pay_40 : decode cX1_pay 40 = .ok (.aload_n 1, 1) := by decide +kernel
theorem dX1_pay_41 : decode cX1_pay 41 = .ok (.getfield 51, 3) := by decide +kernel
theorem dX1_pay_44 : decode cX1_pay 44 = .ok (.iload_n 2, 1) := by decide +kernel
theorem dX1_pay_45 : decode cX1_pay 45 = .ok (.iload_n 3, 1) := by decide +kernel
theorem dX1_pay_46 : decode cX1_pay 46 = .ok (.ifCond .ge 7, 3) := by decide +kernel
theorem dX1_pay_49 : decode cX1_pay 49 = .ok (.iconst 1, 1) := by decide +kernel
theorem dX1_pay_50 : decode cX1_pay 50 = .ok (.goto 4, 3) := by decide +kernel
theorem dX1_pay_53 : decode cX1_pay 53 = .ok (.iconst 0, 1) := by decide +kernel
theorem dX1_pay_54 : decode cX1_pay 54 = .ok (.bastore, 1) := by decide +kernel
theorem dX1_pay_55 : decode cX1_pay 55 = .ok (.return_, 1) := by decide +kernel
theorem dX2_init_0 : decode cX2_init 0 = .ok (.aload_n 0, 1) := by decide +kernel
theorem dX2_init_1 : decode cX2_init 1 = .ok (.invokespecial 3, 3) := by decide +kernel
theorem dX2_init_4 : decode cX2_init 4 = .ok (.aload_n 0, 1) := by decide +kernel
theorem dX2_init_5 : decode cX2_init 5 = .ok (.bipush 24, 2) := by decide +kernel
theorem dX2_init_7 : decode cX2_init 7 = .ok (.newarray .int, 2) := by decide +kernel
theorem dX2_init_9 : decode cX2_init 9 = .ok (.putfield 11, 3) := by decide +kernel
theorem dX2_init_12 : decode cX2_init 12 = .ok (.aload_n 0, 1) := by decide +kernel
theorem dX2_init_13 : decode cX2_init 13 = .ok (.bipush 24, 2) := by decide +kernel
theorem dX2_init_15 : decode cX2_init 15 = .ok (.newarray .int, 2) := by decide +kernel
theorem dX2_init_17 : decode cX2_init 17 = .ok (.putfield 15, 3) := by decide +kernel
theorem dX2_init_20 : decode cX2_init 20 = .ok (.aload_n 0, 1) := by decide +kernel
theorem dX2_init_21 : decode cX2_init 21 = .ok (.bipush 24, 2) := by decide +kernel
theorem dX2_init_23 : decode cX2_init 23 = .ok (.newarray .int, 2) := by decide +kernel
theorem dX2_init_25 : decode cX2_init 25 = .ok (.putfield 18, 3) := by decide +kernel
theorem dX2_init_28 : decode cX2_init 28 = .ok (.aload_n 0, 1) := by decide +kernel
theorem dX2_init_29 : decode cX2_init 29 = .ok (.bipush 24, 2) := by decide +kernel
theorem dX2_init_31 : decode cX2_init 31 = .ok (.newarray .boolean, 2) := by decide +kernel
theorem dX2_init_33 : decode cX2_init 33 = .ok (.putfield 21, 3) := by decide +kernel
theorem dX2_init_36 : decode cX2_init 36 = .ok (.aload_n 0, 1) := by decide +kernel
theorem dX2_init_37 : decode cX2_init 37 = .ok (.bipush 24, 2) := by decide +kernel
theorem dX2_init_39 : decode cX2_init 39 = .ok (.newarray .boolean, 2) := by decide +kernel
theorem dX2_init_41 : decode cX2_init 41 = .ok (.putfield 25, 3) := by decide +kernel
theorem dX2_init_44 : decode cX2_init 44 = .ok (.aload_n 0, 1) := by decide +kernel
theorem dX2_init_45 : decode cX2_init 45 = .ok (.iconst (-1), 1) := by decide +kernel
theorem dX2_init_46 : decode cX2_init 46 = .ok (.putfield 28, 3) := by decide +kernel
theorem dX2_init_49 : decode cX2_init 49 = .ok (.return_, 1) := by decide +kernel
theorem dX2_clear_0 : decode cX2_clear 0 = .ok (.aload_n 0, 1) := by decide +kernel
theorem dX2_clear_1 : decode cX2_clear 1 = .ok (.iconst 0, 1) := by decide +kernel
theorem dX2_clear_2 : decode cX2_clear 2 = .ok (.putfield 32, 3) := by decide +kernel
theorem dX2_clear_5 : decode cX2_clear 5 = .ok (.aload_n 0, 1) := by decide +kernel
theorem dX2_clear_6 : decode cX2_clear 6 = .ok (.iconst (-1), 1) := by decide +kernel
theorem dX2_clear_7 : decode cX2_clear 7 = .ok (.putfield 28, 3) := by decide +kernel
theorem dX2_clear_10 : decode cX2_clear 10 = .ok (.return_, 1) := by decide +kernel
theorem dX2_knownCount_0 : decode cX2_knownCount 0 = .ok (.aload_n 0, 1) := by decide +kernel
theorem dX2_knownCount_1 : decode cX2_knownCount 1 = .ok (.getfield 28, 3) := by decide +kernel
theorem dX2_knownCount_4 : decode cX2_knownCount 4 = .ok (.iconst (-1), 1) := by decide +kernel
theorem dX2_knownCount_5 : decode cX2_knownCount 5 = .ok (.if_icmp .ne 10, 3) := by decide +kernel
theorem dX2_knownCount_8 : decode cX2_knownCount 8 = .ok (.aload_n 0, 1) := by decide +kernel
theorem dX2_knownCount_9 : decode cX2_knownCount 9 = .ok (.getfield 32, 3) := by decide +kernel
theorem dX2_knownCount_12 : decode cX2_knownCount 12 = .ok (.goto 7, 3) := by decide +kernel
theorem dX2_knownCount_15 : decode cX2_knownCount 15 = .ok (.aload_n 0, 1) := by decide +kernel
theorem dX2_knownCount_16 : decode cX2_knownCount 16 = .ok (.getfield 28, 3) := by decide +kernel
theorem dX2_knownCount_19 : decode cX2_knownCount 19 = .ok (.ireturn, 1) := by decide +kernel
theorem dX2_addNote_0 : decode cX2_addNote 0 = .ok (.aload_n 0, 1) := by decide +kernel
theorem dX2_addNote_1 : decode cX2_addNote 1 = .ok (.getfield 32, 3) := by decide +kernel
theorem dX2_addNote_4 : decode cX2_addNote 4 = .ok (.bipush 24, 2) := by decide +kernel
theorem dX2_addNote_6 : decode cX2_addNote 6 = .ok (.if_icmp .lt 5, 3) := by decide +kernel
theorem dX2_addNote_9 : decode cX2_addNote 9 = .ok (.iconst (-1), 1) := by decide +kernel
theorem dX2_addNote_10 : decode cX2_addNote 10 = .ok (.ireturn, 1) := by decide +kernel
theorem dX2_addNote_11 : decode cX2_addNote 11 = .ok (.aload_n 0, 1) := by decide +kernel
theorem dX2_addNote_12 : decode cX2_addNote 12 = .ok (.getfield 11, 3) := by decide +kernel
theorem dX2_addNote_15 : decode cX2_addNote 15 = .ok (.aload_n 0, 1) := by decide +kernel
theorem dX2_addNote_16 : decode cX2_addNote 16 = .ok (.getfield 32, 3) := by decide +kernel
theorem dX2_addNote_19 : decode cX2_addNote 19 = .ok (.iload_n 1, 1) := by decide +kernel
theorem dX2_addNote_20 : decode cX2_addNote 20 = .ok (.iastore, 1) := by decide +kernel
theorem dX2_addNote_21 : decode cX2_addNote 21 = .ok (.aload_n 0, 1) := by decide +kernel
theorem dX2_addNote_22 : decode cX2_addNote 22 = .ok (.getfield 15, 3) := by decide +kernel
theorem dX2_addNote_25 : decode cX2_addNote 25 = .ok (.aload_n 0, 1) := by decide +kernel
theorem dX2_addNote_26 : decode cX2_addNote 26 = .ok (.getfield 32, 3) := by decide +kernel
theorem dX2_addNote_29 : decode cX2_addNote 29 = .ok (.iload_n 2, 1) := by decide +kernel
theorem dX2_addNote_30 : decode cX2_addNote 30 = .ok (.iastore, 1) := by decide +kernel
theorem dX2_addNote_31 : decode cX2_addNote 31 = .ok (.aload_n 0, 1) := by decide +kernel
theorem dX2_addNote_32 : decode cX2_addNote 32 = .ok (.getfield 18, 3) := by decide +kernel
theorem dX2_addNote_35 : decode cX2_addNote 35 = .ok (.aload_n 0, 1) := by decide +kernel
theorem dX2_addNote_36 : decode cX2_addNote 36 = .ok (.getfield 32, 3) := by decide +kernel
theorem dX2_addNote_39 : decode cX2_addNote 39 = .ok (.iload_n 3, 1) := by decide +kernel
theorem dX2_addNote_40 : decode cX2_addNote 40 = .ok (.iastore, 1) := by decide +kernel
theorem dX2_addNote_41 : decode cX2_addNote 41 = .ok (.aload_n 0, 1) := by decide +kernel
theorem dX2_addNote_42 : decode cX2_addNote 42 = .ok (.getfield 21, 3) := by decide +kernel
theorem dX2_addNote_45 : decode cX2_addNote 45 = .ok (.aload_n 0, 1) := by decide +kernel
theorem dX2_addNote_46 : decode cX2_addNote 46 = .ok (.getfield 32, 3) := by decide +kernel
theorem dX2_addNote_49 : decode cX2_addNote 49 = .ok (.iload 4, 2) := by decide +kernel
theorem dX2_addNote_51 : decode cX2_addNote 51 = .ok (.bastore, 1) := by decide +kernel
theorem dX2_addNote_52 : decode cX2_addNote 52 = .ok (.aload_n 0, 1) := by decide +kernel
theorem dX2_addNote_53 : decode cX2_addNote 53 = .ok (.dup, 1) := by decide +kernel
theorem dX2_addNote_54 : decode cX2_addNote 54 = .ok (.getfield 32, 3) := by decide +kernel
theorem dX2_addNote_57 : decode cX2_addNote 57 = .ok (.iconst 1, 1) := by decide +kernel
theorem dX2_addNote_58 : decode cX2_addNote 58 = .ok (.iadd, 1) := by decide +kernel
theorem dX2_addNote_59 : decode cX2_addNote 59 = .ok (.putfield 32, 3) := by decide +kernel
theorem dX2_addNote_62 : decode cX2_addNote 62 = .ok (.aload_n 0, 1) := by decide +kernel
theorem dX2_addNote_63 : decode cX2_addNote 63 = .ok (.getfield 32, 3) := by decide +kernel
theorem dX2_addNote_66 : decode cX2_addNote 66 = .ok (.iconst 1, 1) := by decide +kernel
theorem dX2_addNote_67 : decode cX2_addNote 67 = .ok (.isub, 1) := by decide +kernel
theorem dX2_addNote_68 : decode cX2_addNote 68 = .ok (.ireturn, 1) := by decide +kernel
theorem dX2_addStrike_0 : decode cX2_addStrike 0 = .ok (.iload_n 1, 1) := by decide +kernel
theorem dX2_addStrike_1 : decode cX2_addStrike 1 = .ok (.iconst 0, 1) := by decide +kernel
theorem dX2_addStrike_2 : decode cX2_addStrike 2 = .ok (.aload_n 0, 1) := by decide +kernel
theorem dX2_addStrike_3 : decode cX2_addStrike 3 = .ok (.getfield 32, 3) := by decide +kernel
theorem dX2_addStrike_6 : decode cX2_addStrike 6 = .ok (.iconst 1, 1) := by decide +kernel
theorem dX2_addStrike_7 : decode cX2_addStrike 7 = .ok (.isub, 1) := by decide +kernel
theorem dX2_addStrike_8 : decode cX2_addStrike 8 = .ok (.invokestatic 35, 3) := by decide +kernel
theorem dX2_addStrike_11 : decode cX2_addStrike 11 = .ok (.ifCond .eq 14, 3) := by decide +kernel
theorem dX2_addStrike_14 : decode cX2_addStrike 14 = .ok (.aload_n 0, 1) := by decide +kernel
theorem dX2_addStrike_15 : decode cX2_addStrike 15 = .ok (.iconst (-1), 1) := by decide +kernel
theorem dX2_addStrike_16 : decode cX2_addStrike 16 = .ok (.iload_n 1, 1) := by decide +kernel
theorem dX2_addStrike_17 : decode cX2_addStrike 17 = .ok (.iconst 0, 1) := by decide +kernel
theorem dX2_addStrike_18 : decode cX2_addStrike 18 = .ok (.iconst 0, 1) := by decide +kernel
theorem dX2_addStrike_19 : decode cX2_addStrike 19 = .ok (.invokevirtual 39, 3) := by decide +kernel
theorem dX2_addStrike_22 : decode cX2_addStrike 22 = .ok (.goto 4, 3) := by decide +kernel
theorem dX2_addStrike_25 : decode cX2_addStrike 25 = .ok (.iconst (-1), 1) := by decide +kernel
theorem dX2_addStrike_26 : decode cX2_addStrike 26 = .ok (.ireturn, 1) := by decide +kernel
theorem dX2_findStruck_0 : decode cX2_findStruck 0 = .ok (.iconst 0, 1) := by decide +kernel
theorem dX2_findStruck_1 : decode cX2_findStruck 1 = .ok (.istore_n 1, 1) := by decide +kernel
theorem dX2_findStruck_2 : decode cX2_findStruck 2 = .ok (.iload_n 1, 1) := by decide +kernel
theorem dX2_findStruck_3 : decode cX2_findStruck 3 = .ok (.bipush 24, 2) := by decide +kernel
theorem dX2_findStruck_5 : decode cX2_findStruck 5 = .ok (.if_icmp .ge 16, 3) := by decide +kernel
theorem dX2_findStruck_8 : decode cX2_findStruck 8 = .ok (.aload_n 0, 1) := by decide +kernel
theorem dX2_findStruck_9 : decode cX2_findStruck 9 = .ok (.getfield 25, 3) := by decide +kernel
theorem dX2_findStruck_12 : decode cX2_findStruck 12 = .ok (.iload_n 1, 1) := by decide +kernel
theorem dX2_findStruck_13 : decode cX2_findStruck 13 = .ok (.iconst 0, 1) := by decide +kernel
theorem dX2_findStruck_14 : decode cX2_findStruck 14 = .ok (.bastore, 1) := by decide +kernel
theorem dX2_findStruck_15 : decode cX2_findStruck 15 = .ok (.iinc 1 1, 3) := by decide +kernel
theorem dX2_findStruck_18 : decode cX2_findStruck 18 = .ok (.goto (-16), 3) := by decide +kernel
theorem dX2_findStruck_21 : decode cX2_findStruck 21 = .ok (.aload_n 0, 1) := by decide +kernel
theorem dX2_findStruck_22 : decode cX2_findStruck 22 = .ok (.invokevirtual 43, 3) := by decide +kernel
theorem dX2_findStruck_25 : decode cX2_findStruck 25 = .ok (.iconst 1, 1) := by decide +kernel
theorem dX2_findStruck_26 : decode cX2_findStruck 26 = .ok (.isub, 1) := by decide +kernel
theorem dX2_findStruck_27 : decode cX2_findStruck 27 = .ok (.istore_n 1, 1) := by decide +kernel
theorem dX2_findStruck_28 : decode cX2_findStruck 28 = .ok (.iload_n 1, 1) := by decide +kernel
theorem dX2_findStruck_29 : decode cX2_findStruck 29 = .ok (.ifCond .lt 40, 3) := by decide +kernel
theorem dX2_findStruck_32 : decode cX2_findStruck 32 = .ok (.aload_n 0, 1) := by decide +kernel
theorem dX2_findStruck_33 : decode cX2_findStruck 33 = .ok (.getfield 11, 3) := by decide +kernel
theorem dX2_findStruck_36 : decode cX2_findStruck 36 = .ok (.iload_n 1, 1) := by decide +kernel
theorem dX2_findStruck_37 : decode cX2_findStruck 37 = .ok (.iaload, 1) := by decide +kernel
theorem dX2_findStruck_38 : decode cX2_findStruck 38 = .ok (.iconst (-1), 1) := by decide +kernel
theorem dX2_findStruck_39 : decode cX2_findStruck 39 = .ok (.if_icmp .ne 24, 3) := by decide +kernel
theorem dX2_findStruck_42 : decode cX2_findStruck 42 = .ok (.aload_n 0, 1) := by decide +kernel
theorem dX2_findStruck_43 : decode cX2_findStruck 43 = .ok (.getfield 25, 3) := by decide +kernel
theorem dX2_findStruck_46 : decode cX2_findStruck 46 = .ok (.iload_n 1, 1) := by decide +kernel
theorem dX2_findStruck_47 : decode cX2_findStruck 47 = .ok (.baload, 1) := by decide +kernel
theorem dX2_findStruck_48 : decode cX2_findStruck 48 = .ok (.ifCond .ne 15, 3) := by decide +kernel
theorem dX2_findStruck_51 : decode cX2_findStruck 51 = .ok (.aload_n 0, 1) := by decide +kernel
theorem dX2_findStruck_52 : decode cX2_findStruck 52 = .ok (.getfield 25, 3) := by decide +kernel
theorem dX2_findStruck_55 : decode cX2_findStruck 55 = .ok (.aload_n 0, 1) := by decide +kernel
theorem dX2_findStruck_56 : decode cX2_findStruck 56 = .ok (.getfield 15, 3) := by decide +kernel
theorem dX2_findStruck_59 : decode cX2_findStruck 59 = .ok (.iload_n 1, 1) := by decide +kernel
theorem dX2_findStruck_60 : decode cX2_findStruck 60 = .ok (.iaload, 1) := by decide +kernel
theorem dX2_findStruck_61 : decode cX2_findStruck 61 = .ok (.iconst 1, 1) := by decide +kernel
theorem dX2_findStruck_62 : decode cX2_findStruck 62 = .ok (.bastore, 1) := by decide +kernel
theorem dX2_findStruck_63 : decode cX2_findStruck 63 = .ok (.iinc 1 (-1), 3) := by decide +kernel
theorem dX2_findStruck_66 : decode cX2_findStruck 66 = .ok (.goto (-38), 3) := by decide +kernel
theorem dX2_findStruck_69 : decode cX2_findStruck 69 = .ok (.return_, 1) := by decide +kernel
theorem dX2_fitting_0 : decode cX2_fitting 0 = .ok (.aload_n 0, 1) := by decide +kernel
theorem dX2_fitting_1 : decode cX2_fitting 1 = .ok (.invokevirtual 47, 3) := by decide +kernel
theorem dX2_fitting_4 : decode cX2_fitting 4 = .ok (.iconst 0, 1) := by decide +kernel
theorem dX2_fitting_5 : decode cX2_fitting 5 = .ok (.istore_n 3, 1) := by decide +kernel
theorem dX2_fitting_6 : decode cX2_fitting 6 = .ok (.iconst 0, 1) := by decide +kernel
theorem dX2_fitting_7 : decode cX2_fitting 7 = .ok (.istore 4, 2) := by decide +kernel
theorem dX2_fitting_9 : decode cX2_fitting 9 = .ok (.iload 4, 2) := by decide +kernel
theorem dX2_fitting_11 : decode cX2_fitting 11 = .ok (.aload_n 1, 1) := by decide +kernel
theorem dX2_fitting_12 : decode cX2_fitting 12 = .ok (.getfield 50, 3) := by decide +kernel
theorem dX2_fitting_15 : decode cX2_fitting 15 = .ok (.if_icmp .ge 27, 3) := by decide +kernel
theorem dX2_fitting_18 : decode cX2_fitting 18 = .ok (.aload_n 0, 1) := by decide +kernel
theorem dX2_fitting_19 : decode cX2_fitting 19 = .ok (.aload_n 1, 1) := by decide +kernel
theorem dX2_fitting_20 : decode cX2_fitting 20 = .ok (.iload_n 2, 1) := by decide +kernel
theorem dX2_fitting_21 : decode cX2_fitting 21 = .ok (.iload 4, 2) := by decide +kernel
theorem dX2_fitting_23 : decode cX2_fitting 23 = .ok (.invokevirtual 55, 3) := by decide +kernel
theorem dX2_fitting_26 : decode cX2_fitting 26 = .ok (.ifCond .eq 10, 3) := by decide +kernel
theorem dX2_fitting_29 : decode cX2_fitting 29 = .ok (.iload_n 3, 1) := by decide +kernel
theorem dX2_fitting_30 : decode cX2_fitting 30 = .ok (.iconst 1, 1) := by decide +kernel
theorem dX2_fitting_31 : decode cX2_fitting 31 = .ok (.iload 4, 2) := by decide +kernel
theorem dX2_fitting_33 : decode cX2_fitting 33 = .ok (.ishl, 1) := by decide +kernel
theorem dX2_fitting_34 : decode cX2_fitting 34 = .ok (.ior, 1) := by decide +kernel
theorem dX2_fitting_35 : decode cX2_fitting 35 = .ok (.istore_n 3, 1) := by decide +kernel
theorem dX2_fitting_36 : decode cX2_fitting 36 = .ok (.iinc 4 1, 3) := by decide +kernel
theorem dX2_fitting_39 : decode cX2_fitting 39 = .ok (.goto (-30), 3) := by decide +kernel
theorem dX2_fitting_42 : decode cX2_fitting 42 = .ok (.iload_n 3, 1) := by decide +kernel
theorem dX2_fitting_43 : decode cX2_fitting 43 = .ok (.ireturn, 1) := by decide +kernel
theorem dX2_isFitting_0 : decode cX2_isFitting 0 = .ok (.iconst 0, 1) := by decide +kernel
theorem dX2_isFitting_1 : decode cX2_isFitting 1 = .ok (.istore 4, 2) := by decide +kernel
theorem dX2_isFitting_3 : decode cX2_isFitting 3 = .ok (.iload 4, 2) := by decide +kernel
theorem dX2_isFitting_5 : decode cX2_isFitting 5 = .ok (.aload_n 0, 1) := by decide +kernel
theorem dX2_isFitting_6 : decode cX2_isFitting 6 = .ok (.invokevirtual 43, 3) := by decide +kernel
theorem dX2_isFitting_9 : decode cX2_isFitting 9 = .ok (.if_icmp .ge 73, 3) := by decide +kernel
theorem dX2_isFitting_12 : decode cX2_isFitting 12 = .ok (.aload_n 0, 1) := by decide +kernel
theorem dX2_isFitting_13 : decode cX2_isFitting 13 = .ok (.getfield 11, 3) := by decide +kernel
theorem dX2_isFitting_16 : decode cX2_isFitting 16 = .ok (.iload 4, 2) := by decide +kernel
theorem dX2_isFitting_18 : decode cX2_isFitting 18 = .ok (.iaload, 1) := by decide +kernel
theorem dX2_isFitting_19 : decode cX2_isFitting 19 = .ok (.iload_n 2, 1) := by decide +kernel
theorem dX2_isFitting_20 : decode cX2_isFitting 20 = .ok (.if_icmp .ne 56, 3) := by decide +kernel
theorem dX2_isFitting_23 : decode cX2_isFitting 23 = .ok (.aload_n 0, 1) := by decide +kernel
theorem dX2_isFitting_24 : decode cX2_isFitting 24 = .ok (.getfield 25, 3) := by decide +kernel
theorem dX2_isFitting_27 : decode cX2_isFitting 27 = .ok (.iload 4, 2) := by decide +kernel
theorem dX2_isFitting_29 : decode cX2_isFitting 29 = .ok (.baload, 1) := by decide +kernel
theorem dX2_isFitting_30 : decode cX2_isFitting 30 = .ok (.ifCond .ne 46, 3) := by decide +kernel
theorem dX2_isFitting_33 : decode cX2_isFitting 33 = .ok (.aload_n 1, 1) := by decide +kernel
theorem dX2_isFitting_34 : decode cX2_isFitting 34 = .ok (.aload_n 0, 1) := by decide +kernel
theorem dX2_isFitting_35 : decode cX2_isFitting 35 = .ok (.getfield 15, 3) := by decide +kernel
theorem dX2_isFitting_38 : decode cX2_isFitting 38 = .ok (.iload 4, 2) := by decide +kernel
theorem dX2_isFitting_40 : decode cX2_isFitting 40 = .ok (.iaload, 1) := by decide +kernel
theorem dX2_isFitting_41 : decode cX2_isFitting 41 = .ok (.iload_n 3, 1) := by decide +kernel
theorem dX2_isFitting_42 : decode cX2_isFitting 42 = .ok (.invokevirtual 59, 3) := by decide +kernel
theorem dX2_isFitting_45 : decode cX2_isFitting 45 = .ok (.aload_n 0, 1) := by decide +kernel
theorem dX2_isFitting_46 : decode cX2_isFitting 46 = .ok (.getfield 18, 3) := by decide +kernel
theorem dX2_isFitting_49 : decode cX2_isFitting 49 = .ok (.iload 4, 2) := by decide +kernel
theorem dX2_isFitting_51 : decode cX2_isFitting 51 = .ok (.iaload, 1) := by decide +kernel
theorem dX2_isFitting_52 : decode cX2_isFitting 52 = .ok (.if_icmp .gt 7, 3) := by decide +kernel
theorem dX2_isFitting_55 : decode cX2_isFitting 55 = .ok (.iconst 1, 1) := by decide +kernel
theorem dX2_isFitting_56 : decode cX2_isFitting 56 = .ok (.goto 4, 3) := by decide +kernel
theorem dX2_isFitting_59 : decode cX2_isFitting 59 = .ok (.iconst 0, 1) := by decide +kernel
theorem dX2_isFitting_60 : decode cX2_isFitting 60 = .ok (.istore 5, 2) := by decide +kernel
theorem dX2_isFitting_62 : decode cX2_isFitting 62 = .ok (.iload 5, 2) := by decide +kernel
theorem dX2_isFitting_64 : decode cX2_isFitting 64 = .ok (.aload_n 0, 1) := by decide +kernel
theorem dX2_isFitting_65 : decode cX2_isFitting 65 = .ok (.getfield 21, 3) := by decide +kernel
theorem dX2_isFitting_68 : decode cX2_isFitting 68 = .ok (.iload 4, 2) := by decide +kernel
theorem dX2_isFitting_70 : decode cX2_isFitting 70 = .ok (.baload, 1) := by decide +kernel
theorem dX2_isFitting_71 : decode cX2_isFitting 71 = .ok (.if_icmp .eq 5, 3) := by decide +kernel
theorem dX2_isFitting_74 : decode cX2_isFitting 74 = .ok (.iconst 0, 1) := by decide +kernel
theorem dX2_isFitting_75 : decode cX2_isFitting 75 = .ok (.ireturn, 1) := by decide +kernel
theorem dX2_isFitting_76 : decode cX2_isFitting 76 = .ok (.iinc 4 1, 3) := by decide +kernel
theorem dX2_isFitting_79 : decode cX2_isFitting 79 = .ok (.goto (-76), 3) := by decide +kernel
theorem dX2_isFitting_82 : decode cX2_isFitting 82 = .ok (.iconst 1, 1) := by decide +kernel
theorem dX2_isFitting_83 : decode cX2_isFitting 83 = .ok (.ireturn, 1) := by decide +kernel
theorem dX3_init_0 : decode cX3_init 0 = .ok (.aload_n 0, 1) := by decide +kernel
theorem dX3_init_1 : decode cX3_init 1 = .ok (.invokespecial 1, 3) := by decide +kernel
theorem dX3_init_4 : decode cX3_init 4 = .ok (.aload_n 0, 1) := by decide +kernel
theorem dX3_init_5 : decode cX3_init 5 = .ok (.lconst 1, 1) := by decide +kernel
theorem dX3_init_6 : decode cX3_init 6 = .ok (.putfield 7, 3) := by decide +kernel
theorem dX3_init_9 : decode cX3_init 9 = .ok (.return_, 1) := by decide +kernel
theorem dX3_put_0 : decode cX3_put 0 = .ok (.lload_n 1, 1) := by decide +kernel
theorem dX3_put_1 : decode cX3_put 1 = .ok (.lload_n 3, 1) := by decide +kernel
theorem dX3_put_2 : decode cX3_put 2 = .ok (.invokestatic 13, 3) := by decide +kernel
theorem dX3_put_5 : decode cX3_put 5 = .ok (.lstore 5, 2) := by decide +kernel
theorem dX3_put_7 : decode cX3_put 7 = .ok (.lload 5, 2) := by decide +kernel
theorem dX3_put_9 : decode cX3_put 9 = .ok (.lconst 0, 1) := by decide +kernel
theorem dX3_put_10 : decode cX3_put 10 = .ok (.lcmp, 1) := by decide +kernel
theorem dX3_put_11 : decode cX3_put 11 = .ok (.ifCond .le 19, 3) := by decide +kernel
theorem dX3_put_14 : decode cX3_put 14 = .ok (.aload_n 0, 1) := by decide +kernel
theorem dX3_put_15 : decode cX3_put 15 = .ok (.lload_n 1, 1) := by decide +kernel
theorem dX3_put_16 : decode cX3_put 16 = .ok (.lload 5, 2) := by decide +kernel
theorem dX3_put_18 : decode cX3_put 18 = .ok (.ldiv, 1) := by decide +kernel
theorem dX3_put_19 : decode cX3_put 19 = .ok (.putfield 17, 3) := by decide +kernel
theorem dX3_put_22 : decode cX3_put 22 = .ok (.aload_n 0, 1) := by decide +kernel
theorem dX3_put_23 : decode cX3_put 23 = .ok (.lload_n 3, 1) := by decide +kernel
theorem dX3_put_24 : decode cX3_put 24 = .ok (.lload 5, 2) := by decide +kernel
theorem dX3_put_26 : decode cX3_put 26 = .ok (.ldiv, 1) := by decide +kernel
theorem dX3_put_27 : decode cX3_put 27 = .ok (.putfield 7, 3) := by decide +kernel
theorem dX3_put_30 : decode cX3_put 30 = .ok (.return_, 1) := by decide +kernel
theorem dX3_told_0 : decode cX3_told 0 = .ok (.iload_n 1, 1) := by decide +kernel
theorem dX3_told_1 : decode cX3_told 1 = .ok (.ifCond .ne 10, 3) := by decide +kernel
theorem dX3_told_4 : decode cX3_told 4 = .ok (.aload_n 0, 1) := by decide +kernel
theorem dX3_told_5 : decode cX3_told 5 = .ok (.getfield 17, 3) := by decide +kernel
theorem dX3_told_8 : decode cX3_told 8 = .ok (.goto 7, 3) := by decide +kernel
theorem dX3_told_11 : decode cX3_told 11 = .ok (.aload_n 0, 1) := by decide +kernel
theorem dX3_told_12 : decode cX3_told 12 = .ok (.getfield 7, 3) := by decide +kernel
theorem dX3_told_15 : decode cX3_told 15 = .ok (.lreturn, 1) := by decide +kernel
theorem dX3_commonOf_0 : decode cX3_commonOf 0 = .ok (.lload_n 0, 1) := by decide +kernel
theorem dX3_commonOf_1 : decode cX3_commonOf 1 = .ok (.lstore 4, 2) := by decide +kernel
theorem dX3_commonOf_3 : decode cX3_commonOf 3 = .ok (.lload_n 2, 1) := by decide +kernel
theorem dX3_commonOf_4 : decode cX3_commonOf 4 = .ok (.lstore 6, 2) := by decide +kernel
theorem dX3_commonOf_6 : decode cX3_commonOf 6 = .ok (.iconst 0, 1) := by decide +kernel
theorem dX3_commonOf_7 : decode cX3_commonOf 7 = .ok (.istore 8, 2) := by decide +kernel
theorem dX3_commonOf_9 : decode cX3_commonOf 9 = .ok (.iload 8, 2) := by decide +kernel
theorem dX3_commonOf_11 : decode cX3_commonOf 11 = .ok (.sipush 200, 3) := by decide +kernel
theorem dX3_commonOf_14 : decode cX3_commonOf 14 = .ok (.if_icmp .ge 31, 3) := by decide +kernel
theorem dX3_commonOf_17 : decode cX3_commonOf 17 = .ok (.lload 6, 2) := by decide +kernel
theorem dX3_commonOf_19 : decode cX3_commonOf 19 = .ok (.lconst 0, 1) := by decide +kernel
theorem dX3_commonOf_20 : decode cX3_commonOf 20 = .ok (.lcmp, 1) := by decide +kernel
theorem dX3_commonOf_21 : decode cX3_commonOf 21 = .ok (.ifCond .eq 24, 3) := by decide +kernel
theorem dX3_commonOf_24 : decode cX3_commonOf 24 = .ok (.lload 4, 2) := by decide +kernel
theorem dX3_commonOf_26 : decode cX3_commonOf 26 = .ok (.lload 6, 2) := by decide +kernel
theorem dX3_commonOf_28 : decode cX3_commonOf 28 = .ok (.lrem, 1) := by decide +kernel
theorem dX3_commonOf_29 : decode cX3_commonOf 29 = .ok (.lstore 9, 2) := by decide +kernel
theorem dX3_commonOf_31 : decode cX3_commonOf 31 = .ok (.lload 6, 2) := by decide +kernel
theorem dX3_commonOf_33 : decode cX3_commonOf 33 = .ok (.lstore 4, 2) := by decide +kernel
theorem dX3_commonOf_35 : decode cX3_commonOf 35 = .ok (.lload 9, 2) := by decide +kernel
theorem dX3_commonOf_37 : decode cX3_commonOf 37 = .ok (.lstore 6, 2) := by decide +kernel
theorem dX3_commonOf_39 : decode cX3_commonOf 39 = .ok (.iinc 8 1, 3) := by decide +kernel
theorem dX3_commonOf_42 : decode cX3_commonOf 42 = .ok (.goto (-33), 3) := by decide +kernel
theorem dX3_commonOf_45 : decode cX3_commonOf 45 = .ok (.lload 4, 2) := by decide +kernel
theorem dX3_commonOf_47 : decode cX3_commonOf 47 = .ok (.lreturn, 1) := by decide +kernel
theorem dX4_init_0 : decode cX4_init 0 = .ok (.aload_n 0, 1) := by decide +kernel
theorem dX4_init_1 : decode cX4_init 1 = .ok (.invokespecial 3, 3) := by decide +kernel
theorem dX4_init_4 : decode cX4_init 4 = .ok (.aload_n 0, 1) := by decide +kernel
theorem dX4_init_5 : decode cX4_init 5 = .ok (.bipush 64, 2) := by decide +kernel
theorem dX4_init_7 : decode cX4_init 7 = .ok (.newarray .int, 2) := by decide +kernel
theorem dX4_init_9 : decode cX4_init 9 = .ok (.putfield 11, 3) := by decide +kernel
theorem dX4_init_12 : decode cX4_init 12 = .ok (.aload_n 0, 1) := by decide +kernel
theorem dX4_init_13 : decode cX4_init 13 = .ok (.iconst 3, 1) := by decide +kernel
theorem dX4_init_14 : decode cX4_init 14 = .ok (.newarray .int, 2) := by decide +kernel
theorem dX4_init_16 : decode cX4_init 16 = .ok (.putfield 15, 3) := by decide +kernel
theorem dX4_init_19 : decode cX4_init 19 = .ok (.aload_n 0, 1) := by decide +kernel
theorem dX4_init_20 : decode cX4_init 20 = .ok (.iconst 3, 1) := by decide +kernel
theorem dX4_init_21 : decode cX4_init 21 = .ok (.newarray .int, 2) := by decide +kernel
theorem dX4_init_23 : decode cX4_init 23 = .ok (.putfield 18, 3) := by decide +kernel
theorem dX4_init_26 : decode cX4_init 26 = .ok (.aload_n 0, 1) := by decide +kernel
theorem dX4_init_27 : decode cX4_init 27 = .ok (.bipush 64, 2) := by decide +kernel
theorem dX4_init_29 : decode cX4_init 29 = .ok (.newarray .long, 2) := by decide +kernel
theorem dX4_init_31 : decode cX4_init 31 = .ok (.putfield 21, 3) := by decide +kernel
theorem dX4_init_34 : decode cX4_init 34 = .ok (.return_, 1) := by decide +kernel
theorem dX4_clear_0 : decode cX4_clear 0 = .ok (.aload_n 0, 1) := by decide +kernel
theorem dX4_clear_1 : decode cX4_clear 1 = .ok (.iconst 0, 1) := by decide +kernel
theorem dX4_clear_2 : decode cX4_clear 2 = .ok (.putfield 25, 3) := by decide +kernel
theorem dX4_clear_5 : decode cX4_clear 5 = .ok (.aload_n 0, 1) := by decide +kernel
theorem dX4_clear_6 : decode cX4_clear 6 = .ok (.iconst 0, 1) := by decide +kernel
theorem dX4_clear_7 : decode cX4_clear 7 = .ok (.putfield 29, 3) := by decide +kernel
theorem dX4_clear_10 : decode cX4_clear 10 = .ok (.iconst 0, 1) := by decide +kernel
theorem dX4_clear_11 : decode cX4_clear 11 = .ok (.istore_n 1, 1) := by decide +kernel
theorem dX4_clear_12 : decode cX4_clear 12 = .ok (.iload_n 1, 1) := by decide +kernel
theorem dX4_clear_13 : decode cX4_clear 13 = .ok (.iconst 3, 1) := by decide +kernel
theorem dX4_clear_14 : decode cX4_clear 14 = .ok (.if_icmp .ge 23, 3) := by decide +kernel
theorem dX4_clear_17 : decode cX4_clear 17 = .ok (.aload_n 0, 1) := by decide +kernel
theorem dX4_clear_18 : decode cX4_clear 18 = .ok (.getfield 15, 3) := by decide +kernel
theorem dX4_clear_21 : decode cX4_clear 21 = .ok (.iload_n 1, 1) := by decide +kernel
theorem dX4_clear_22 : decode cX4_clear 22 = .ok (.iconst 0, 1) := by decide +kernel
theorem dX4_clear_23 : decode cX4_clear 23 = .ok (.iastore, 1) := by decide +kernel
theorem dX4_clear_24 : decode cX4_clear 24 = .ok (.aload_n 0, 1) := by decide +kernel
theorem dX4_clear_25 : decode cX4_clear 25 = .ok (.getfield 18, 3) := by decide +kernel
theorem dX4_clear_28 : decode cX4_clear 28 = .ok (.iload_n 1, 1) := by decide +kernel
theorem dX4_clear_29 : decode cX4_clear 29 = .ok (.iconst 0, 1) := by decide +kernel
theorem dX4_clear_30 : decode cX4_clear 30 = .ok (.iastore, 1) := by decide +kernel
theorem dX4_clear_31 : decode cX4_clear 31 = .ok (.iinc 1 1, 3) := by decide +kernel
theorem dX4_clear_34 : decode cX4_clear 34 = .ok (.goto (-22), 3) := by decide +kernel
theorem dX4_clear_37 : decode cX4_clear 37 = .ok (.return_, 1) := by decide +kernel
theorem dX4_has_0 : decode cX4_has 0 = .ok (.aload_n 0, 1) := by decide +kernel
theorem dX4_has_1 : decode cX4_has 1 = .ok (.getfield 18, 3) := by decide +kernel
theorem dX4_has_4 : decode cX4_has 4 = .ok (.iload_n 1, 1) := by decide +kernel
theorem dX4_has_5 : decode cX4_has 5 = .ok (.iaload, 1) := by decide +kernel
theorem dX4_has_6 : decode cX4_has 6 = .ok (.ifCond .le 7, 3) := by decide +kernel
theorem dX4_has_9 : decode cX4_has 9 = .ok (.iconst 1, 1) := by decide +kernel
theorem dX4_has_10 : decode cX4_has 10 = .ok (.goto 4, 3) := by decide +kernel
theorem dX4_has_13 : decode cX4_has 13 = .ok (.iconst 0, 1) := by decide +kernel
theorem dX4_has_14 : decode cX4_has 14 = .ok (.ireturn, 1) := by decide +kernel
theorem dX4_begin_0 : decode cX4_begin 0 = .ok (.aload_n 0, 1) := by decide +kernel
theorem dX4_begin_1 : decode cX4_begin 1 = .ok (.getfield 15, 3) := by decide +kernel
theorem dX4_begin_4 : decode cX4_begin 4 = .ok (.iload_n 1, 1) := by decide +kernel
theorem dX4_begin_5 : decode cX4_begin 5 = .ok (.aload_n 0, 1) := by decide +kernel
theorem dX4_begin_6 : decode cX4_begin 6 = .ok (.getfield 29, 3) := by decide +kernel
theorem dX4_begin_9 : decode cX4_begin 9 = .ok (.iastore, 1) := by decide +kernel
theorem dX4_begin_10 : decode cX4_begin 10 = .ok (.return_, 1) := by decide +kernel
theorem dX4_end_0 : decode cX4_end 0 = .ok (.aload_n 0, 1) := by decide +kernel
theorem dX4_end_1 : decode cX4_end 1 = .ok (.getfield 18, 3) := by decide +kernel
theorem dX4_end_4 : decode cX4_end 4 = .ok (.iload_n 1, 1) := by decide +kernel
theorem dX4_end_5 : decode cX4_end 5 = .ok (.aload_n 0, 1) := by decide +kernel
theorem dX4_end_6 : decode cX4_end 6 = .ok (.getfield 29, 3) := by decide +kernel
theorem dX4_end_9 : decode cX4_end 9 = .ok (.aload_n 0, 1) := by decide +kernel
theorem dX4_end_10 : decode cX4_end 10 = .ok (.getfield 15, 3) := by decide +kernel
theorem dX4_end_13 : decode cX4_end 13 = .ok (.iload_n 1, 1) := by decide +kernel
theorem dX4_end_14 : decode cX4_end 14 = .ok (.iaload, 1) := by decide +kernel
theorem dX4_end_15 : decode cX4_end 15 = .ok (.isub, 1) := by decide +kernel
theorem dX4_end_16 : decode cX4_end 16 = .ok (.iastore, 1) := by decide +kernel
theorem dX4_end_17 : decode cX4_end 17 = .ok (.return_, 1) := by decide +kernel
theorem dX4_add_0 : decode cX4_add 0 = .ok (.aload_n 0, 1) := by decide +kernel
theorem dX4_add_1 : decode cX4_add 1 = .ok (.getfield 29, 3) := by decide +kernel
theorem dX4_add_4 : decode cX4_add 4 = .ok (.bipush 64, 2) := by decide +kernel
theorem dX4_add_6 : decode cX4_add 6 = .ok (.if_icmp .ge 23, 3) := by decide +kernel
theorem dX4_add_9 : decode cX4_add 9 = .ok (.aload_n 0, 1) := by decide +kernel
theorem dX4_add_10 : decode cX4_add 10 = .ok (.getfield 11, 3) := by decide +kernel
theorem dX4_add_13 : decode cX4_add 13 = .ok (.aload_n 0, 1) := by decide +kernel
theorem dX4_add_14 : decode cX4_add 14 = .ok (.getfield 29, 3) := by decide +kernel
theorem dX4_add_17 : decode cX4_add 17 = .ok (.iload_n 1, 1) := by decide +kernel
theorem dX4_add_18 : decode cX4_add 18 = .ok (.iastore, 1) := by decide +kernel
theorem dX4_add_19 : decode cX4_add 19 = .ok (.aload_n 0, 1) := by decide +kernel
theorem dX4_add_20 : decode cX4_add 20 = .ok (.dup, 1) := by decide +kernel
theorem dX4_add_21 : decode cX4_add 21 = .ok (.getfield 29, 3) := by decide +kernel
theorem dX4_add_24 : decode cX4_add 24 = .ok (.iconst 1, 1) := by decide +kernel
theorem dX4_add_25 : decode cX4_add 25 = .ok (.iadd, 1) := by decide +kernel
theorem dX4_add_26 : decode cX4_add 26 = .ok (.putfield 29, 3) := by decide +kernel
theorem dX4_add_29 : decode cX4_add 29 = .ok (.return_, 1) := by decide +kernel
theorem dX4_value_0 : decode cX4_value 0 = .ok (.iconst 0, 1) := by decide +kernel
theorem dX4_value_1 : decode cX4_value 1 = .ok (.istore_n 3, 1) := by decide +kernel
theorem dX4_value_2 : decode cX4_value 2 = .ok (.aload_n 0, 1) := by decide +kernel
theorem dX4_value_3 : decode cX4_value 3 = .ok (.getfield 15, 3) := by decide +kernel
theorem dX4_value_6 : decode cX4_value 6 = .ok (.iload_n 1, 1) := by decide +kernel
theorem dX4_value_7 : decode cX4_value 7 = .ok (.iaload, 1) := by decide +kernel
theorem dX4_value_8 : decode cX4_value 8 = .ok (.aload_n 0, 1) := by decide +kernel
theorem dX4_value_9 : decode cX4_value 9 = .ok (.getfield 18, 3) := by decide +kernel
theorem dX4_value_12 : decode cX4_value 12 = .ok (.iload_n 1, 1) := by decide +kernel
theorem dX4_value_13 : decode cX4_value 13 = .ok (.iaload, 1) := by decide +kernel
theorem dX4_value_14 : decode cX4_value 14 = .ok (.iadd, 1) := by decide +kernel
theorem dX4_value_15 : decode cX4_value 15 = .ok (.bipush 64, 2) := by decide +kernel
theorem dX4_value_17 : decode cX4_value 17 = .ok (.invokestatic 32, 3) := by decide +kernel
theorem dX4_value_20 : decode cX4_value 20 = .ok (.istore 4, 2) := by decide +kernel
theorem dX4_value_22 : decode cX4_value 22 = .ok (.aload_n 0, 1) := by decide +kernel
theorem dX4_value_23 : decode cX4_value 23 = .ok (.getfield 15, 3) := by decide +kernel
theorem dX4_value_26 : decode cX4_value 26 = .ok (.iload_n 1, 1) := by decide +kernel
theorem dX4_value_27 : decode cX4_value 27 = .ok (.iaload, 1) := by decide +kernel
theorem dX4_value_28 : decode cX4_value 28 = .ok (.istore 5, 2) := by decide +kernel
theorem dX4_value_30 : decode cX4_value 30 = .ok (.iload 5, 2) := by decide +kernel
theorem dX4_value_32 : decode cX4_value 32 = .ok (.iload 4, 2) := by decide +kernel
theorem dX4_value_34 : decode cX4_value 34 = .ok (.if_icmp .ge 165, 3) := by decide +kernel
theorem dX4_value_37 : decode cX4_value 37 = .ok (.aload_n 0, 1) := by decide +kernel
theorem dX4_value_38 : decode cX4_value 38 = .ok (.getfield 11, 3) := by decide +kernel
theorem dX4_value_41 : decode cX4_value 41 = .ok (.iload 5, 2) := by decide +kernel
theorem dX4_value_43 : decode cX4_value 43 = .ok (.iaload, 1) := by decide +kernel
theorem dX4_value_44 : decode cX4_value 44 = .ok (.istore 6, 2) := by decide +kernel
theorem dX4_value_46 : decode cX4_value 46 = .ok (.iload 6, 2) := by decide +kernel
theorem dX4_value_48 : decode cX4_value 48 = .ok (.sipush 20000, 3) := by decide +kernel
theorem dX4_value_51 : decode cX4_value 51 = .ok (.if_icmp .ge 31, 3) := by decide +kernel
theorem dX4_value_54 : decode cX4_value 54 = .ok (.iload_n 3, 1) := by decide +kernel
theorem dX4_value_55 : decode cX4_value 55 = .ok (.bipush 64, 2) := by decide +kernel
theorem dX4_value_57 : decode cX4_value 57 = .ok (.if_icmp .lt 7, 3) := by decide +kernel
theorem dX4_value_60 : decode cX4_value 60 = .ok (.ldc2_w 38, 3) := by decide +kernel
theorem dX4_value_63 : decode cX4_value 63 = .ok (.lreturn, 1) := by decide +kernel
theorem dX4_value_64 : decode cX4_value 64 = .ok (.aload_n 0, 1) := by decide +kernel
theorem dX4_value_65 : decode cX4_value 65 = .ok (.getfield 21, 3) := by decide +kernel
theorem dX4_value_68 : decode cX4_value 68 = .ok (.iload_n 3, 1) := by decide +kernel
theorem dX4_value_69 : decode cX4_value 69 = .ok (.iload 6, 2) := by decide +kernel
theorem dX4_value_71 : decode cX4_value 71 = .ok (.aload_n 2, 1) := by decide +kernel
theorem dX4_value_72 : decode cX4_value 72 = .ok (.invokestatic 40, 3) := by decide +kernel
theorem dX4_value_75 : decode cX4_value 75 = .ok (.lastore, 1) := by decide +kernel
theorem dX4_value_76 : decode cX4_value 76 = .ok (.iinc 3 1, 3) := by decide +kernel
theorem dX4_value_79 : decode cX4_value 79 = .ok (.goto 114, 3) := by decide +kernel
theorem dX4_value_82 : decode cX4_value 82 = .ok (.iload 6, 2) := by decide +kernel
theorem dX4_value_84 : decode cX4_value 84 = .ok (.sipush 20012, 3) := by decide +kernel
theorem dX4_value_87 : decode cX4_value 87 = .ok (.if_icmp .ne 44, 3) := by decide +kernel
theorem dX4_value_90 : decode cX4_value 90 = .ok (.iload_n 3, 1) := by decide +kernel
theorem dX4_value_91 : decode cX4_value 91 = .ok (.iconst 1, 1) := by decide +kernel
theorem dX4_value_92 : decode cX4_value 92 = .ok (.if_icmp .ge 7, 3) := by decide +kernel
theorem dX4_value_95 : decode cX4_value 95 = .ok (.ldc2_w 38, 3) := by decide +kernel
theorem dX4_value_98 : decode cX4_value 98 = .ok (.lreturn, 1) := by decide +kernel
theorem dX4_value_99 : decode cX4_value 99 = .ok (.aload_n 0, 1) := by decide +kernel
theorem dX4_value_100 : decode cX4_value 100 = .ok (.getfield 21, 3) := by decide +kernel
theorem dX4_value_103 : decode cX4_value 103 = .ok (.iload_n 3, 1) := by decide +kernel
theorem dX4_value_104 : decode cX4_value 104 = .ok (.iconst 1, 1) := by decide +kernel
theorem dX4_value_105 : decode cX4_value 105 = .ok (.isub, 1) := by decide +kernel
theorem dX4_value_106 : decode cX4_value 106 = .ok (.aload_n 0, 1) := by decide +kernel
theorem dX4_value_107 : decode cX4_value 107 = .ok (.getfield 21, 3) := by decide +kernel
theorem dX4_value_110 : decode cX4_value 110 = .ok (.iload_n 3, 1) := by decide +kernel
theorem dX4_value_111 : decode cX4_value 111 = .ok (.iconst 1, 1) := by decide +kernel
theorem dX4_value_112 : decode cX4_value 112 = .ok (.isub, 1) := by decide +kernel
theorem dX4_value_113 : decode cX4_value 113 = .ok (.laload, 1) := by decide +kernel
theorem dX4_value_114 : decode cX4_value 114 = .ok (.lconst 0, 1) := by decide +kernel
theorem dX4_value_115 : decode cX4_value 115 = .ok (.lcmp, 1) := by decide +kernel
theorem dX4_value_116 : decode cX4_value 116 = .ok (.ifCond .ne 7, 3) := by decide +kernel
theorem dX4_value_119 : decode cX4_value 119 = .ok (.iconst 1, 1) := by decide +kernel
theorem dX4_value_120 : decode cX4_value 120 = .ok (.goto 4, 3) := by decide +kernel
theorem dX4_value_123 : decode cX4_value 123 = .ok (.iconst 0, 1) := by decide +kernel
theorem dX4_value_124 : decode cX4_value 124 = .ok (.invokestatic 46, 3) := by decide +kernel
theorem dX4_value_127 : decode cX4_value 127 = .ok (.lastore, 1) := by decide +kernel
theorem dX4_value_128 : decode cX4_value 128 = .ok (.goto 65, 3) := by decide +kernel
theorem dX4_value_131 : decode cX4_value 131 = .ok (.iload_n 3, 1) := by decide +kernel
theorem dX4_value_132 : decode cX4_value 132 = .ok (.iconst 2, 1) := by decide +kernel
theorem dX4_value_133 : decode cX4_value 133 = .ok (.if_icmp .ge 7, 3) := by decide +kernel
theorem dX4_value_136 : decode cX4_value 136 = .ok (.ldc2_w 38, 3) := by decide +kernel
theorem dX4_value_139 : decode cX4_value 139 = .ok (.lreturn, 1) := by decide +kernel
theorem dX4_value_140 : decode cX4_value 140 = .ok (.iinc 3 (-1), 3) := by decide +kernel
theorem dX4_value_143 : decode cX4_value 143 = .ok (.aload_n 0, 1) := by decide +kernel
theorem dX4_value_144 : decode cX4_value 144 = .ok (.getfield 21, 3) := by decide +kernel
theorem dX4_value_147 : decode cX4_value 147 = .ok (.iload_n 3, 1) := by decide +kernel
theorem dX4_value_148 : decode cX4_value 148 = .ok (.iconst 1, 1) := by decide +kernel
theorem dX4_value_149 : decode cX4_value 149 = .ok (.isub, 1) := by decide +kernel
theorem dX4_value_150 : decode cX4_value 150 = .ok (.iload 6, 2) := by decide +kernel
theorem dX4_value_152 : decode cX4_value 152 = .ok (.sipush 20000, 3) := by decide +kernel
theorem dX4_value_155 : decode cX4_value 155 = .ok (.isub, 1) := by decide +kernel
theorem dX4_value_156 : decode cX4_value 156 = .ok (.aload_n 0, 1) := by decide +kernel
theorem dX4_value_157 : decode cX4_value 157 = .ok (.getfield 21, 3) := by decide +kernel
theorem dX4_value_160 : decode cX4_value 160 = .ok (.iload_n 3, 1) := by decide +kernel
theorem dX4_value_161 : decode cX4_value 161 = .ok (.iconst 1, 1) := by decide +kernel
theorem dX4_value_162 : decode cX4_value 162 = .ok (.isub, 1) := by decide +kernel
theorem dX4_value_163 : decode cX4_value 163 = .ok (.laload, 1) := by decide +kernel
theorem dX4_value_164 : decode cX4_value 164 = .ok (.aload_n 0, 1) := by decide +kernel
theorem dX4_value_165 : decode cX4_value 165 = .ok (.getfield 21, 3) := by decide +kernel
theorem dX4_value_168 : decode cX4_value 168 = .ok (.iload_n 3, 1) := by decide +kernel
theorem dX4_value_169 : decode cX4_value 169 = .ok (.laload, 1) := by decide +kernel
theorem dX4_value_170 : decode cX4_value 170 = .ok (.invokestatic 50, 3) := by decide +kernel
theorem dX4_value_173 : decode cX4_value 173 = .ok (.lastore, 1) := by decide +kernel
theorem dX4_value_174 : decode cX4_value 174 = .ok (.aload_n 0, 1) := by decide +kernel
theorem dX4_value_175 : decode cX4_value 175 = .ok (.getfield 21, 3) := by decide +kernel
theorem dX4_value_178 : decode cX4_value 178 = .ok (.iload_n 3, 1) := by decide +kernel
theorem dX4_value_179 : decode cX4_value 179 = .ok (.iconst 1, 1) := by decide +kernel
theorem dX4_value_180 : decode cX4_value 180 = .ok (.isub, 1) := by decide +kernel
theorem dX4_value_181 : decode cX4_value 181 = .ok (.laload, 1) := by decide +kernel
theorem dX4_value_182 : decode cX4_value 182 = .ok (.ldc2_w 38, 3) := by decide +kernel
theorem dX4_value_185 : decode cX4_value 185 = .ok (.lcmp, 1) := by decide +kernel
theorem dX4_value_186 : decode cX4_value 186 = .ok (.ifCond .ne 7, 3) := by decide +kernel
theorem dX4_value_189 : decode cX4_value 189 = .ok (.ldc2_w 38, 3) := by decide +kernel
theorem dX4_value_192 : decode cX4_value 192 = .ok (.lreturn, 1) := by decide +kernel
theorem dX4_value_193 : decode cX4_value 193 = .ok (.iinc 5 1, 3) := by decide +kernel
theorem dX4_value_196 : decode cX4_value 196 = .ok (.goto (-166), 3) := by decide +kernel
theorem dX4_value_199 : decode cX4_value 199 = .ok (.iload_n 3, 1) := by decide +kernel
theorem dX4_value_200 : decode cX4_value 200 = .ok (.iconst 1, 1) := by decide +kernel
theorem dX4_value_201 : decode cX4_value 201 = .ok (.if_icmp .ne 12, 3) := by decide +kernel
theorem dX4_value_204 : decode cX4_value 204 = .ok (.aload_n 0, 1) := by decide +kernel
theorem dX4_value_205 : decode cX4_value 205 = .ok (.getfield 21, 3) := by decide +kernel
theorem dX4_value_208 : decode cX4_value 208 = .ok (.iconst 0, 1) := by decide +kernel
theorem dX4_value_209 : decode cX4_value 209 = .ok (.laload, 1) := by decide +kernel
theorem dX4_value_210 : decode cX4_value 210 = .ok (.goto 6, 3) := by decide +kernel
theorem dX4_value_213 : decode cX4_value 213 = .ok (.ldc2_w 38, 3) := by decide +kernel
theorem dX4_value_216 : decode cX4_value 216 = .ok (.lreturn, 1) := by decide +kernel
theorem dX4_operand_0 : decode cX4_operand 0 = .ok (.iload_n 0, 1) := by decide +kernel
theorem dX4_operand_1 : decode cX4_operand 1 = .ok (.sipush 10000, 3) := by decide +kernel
theorem dX4_operand_4 : decode cX4_operand 4 = .ok (.isub, 1) := by decide +kernel
theorem dX4_operand_5 : decode cX4_operand 5 = .ok (.istore_n 2, 1) := by decide +kernel
theorem dX4_operand_6 : decode cX4_operand 6 = .ok (.iload_n 2, 1) := by decide +kernel
theorem dX4_operand_7 : decode cX4_operand 7 = .ok (.ifCond .lt 15, 3) := by decide +kernel
theorem dX4_operand_10 : decode cX4_operand 10 = .ok (.iload_n 2, 1) := by decide +kernel
theorem dX4_operand_11 : decode cX4_operand 11 = .ok (.aload_n 1, 1) := by decide +kernel
theorem dX4_operand_12 : decode cX4_operand 12 = .ok (.arraylength, 1) := by decide +kernel
theorem dX4_operand_13 : decode cX4_operand 13 = .ok (.if_icmp .ge 9, 3) := by decide +kernel
theorem dX4_operand_16 : decode cX4_operand 16 = .ok (.aload_n 1, 1) := by decide +kernel
theorem dX4_operand_17 : decode cX4_operand 17 = .ok (.iload_n 2, 1) := by decide +kernel
theorem dX4_operand_18 : decode cX4_operand 18 = .ok (.laload, 1) := by decide +kernel
theorem dX4_operand_19 : decode cX4_operand 19 = .ok (.goto 5, 3) := by decide +kernel
theorem dX4_operand_22 : decode cX4_operand 22 = .ok (.iload_n 0, 1) := by decide +kernel
theorem dX4_operand_23 : decode cX4_operand 23 = .ok (.i2l, 1) := by decide +kernel
theorem dX4_operand_24 : decode cX4_operand 24 = .ok (.lreturn, 1) := by decide +kernel
theorem dX4_truth_0 : decode cX4_truth 0 = .ok (.iload_n 0, 1) := by decide +kernel
theorem dX4_truth_1 : decode cX4_truth 1 = .ok (.ifCond .eq 7, 3) := by decide +kernel
theorem dX4_truth_4 : decode cX4_truth 4 = .ok (.lconst 1, 1) := by decide +kernel
theorem dX4_truth_5 : decode cX4_truth 5 = .ok (.goto 4, 3) := by decide +kernel
theorem dX4_truth_8 : decode cX4_truth 8 = .ok (.lconst 0, 1) := by decide +kernel
theorem dX4_truth_9 : decode cX4_truth 9 = .ok (.lreturn, 1) := by decide +kernel
theorem dX4_joined_0 : decode cX4_joined 0 = .ok (.iload_n 0, 1) := by decide +kernel
theorem dX4_joined_1 : decode cX4_joined 1 = .ok (.tableswitch 255 10 31 #[103, 124, 255, 255, 255, 255, 255, 255, 255, 255, 255, 255, 255, 145, 160, 175, 190, 205, 220, 235, 242, 249], 103) := by decide +kernel
theorem dX4_joined_104 : decode cX4_joined 104 = .ok (.lload_n 1, 1) := by decide +kernel
theorem dX4_joined_105 : decode cX4_joined 105 = .ok (.lconst 0, 1) := by decide +kernel
theorem dX4_joined_106 : decode cX4_joined 106 = .ok (.lcmp, 1) := by decide +kernel
theorem dX4_joined_107 : decode cX4_joined 107 = .ok (.ifCond .ne 9, 3) := by decide +kernel
theorem dX4_joined_110 : decode cX4_joined 110 = .ok (.lload_n 3, 1) := by decide +kernel
theorem dX4_joined_111 : decode cX4_joined 111 = .ok (.lconst 0, 1) := by decide +kernel
theorem dX4_joined_112 : decode cX4_joined 112 = .ok (.lcmp, 1) := by decide +kernel
theorem dX4_joined_113 : decode cX4_joined 113 = .ok (.ifCond .eq 7, 3) := by decide +kernel
theorem dX4_joined_116 : decode cX4_joined 116 = .ok (.iconst 1, 1) := by decide +kernel
theorem dX4_joined_117 : decode cX4_joined 117 = .ok (.goto 4, 3) := by decide +kernel
theorem dX4_joined_120 : decode cX4_joined 120 = .ok (.iconst 0, 1) := by decide +kernel
theorem dX4_joined_121 : decode cX4_joined 121 = .ok (.invokestatic 46, 3) := by decide +kernel
theorem dX4_joined_124 : decode cX4_joined 124 = .ok (.lreturn, 1) := by decide +kernel
theorem dX4_joined_125 : decode cX4_joined 125 = .ok (.lload_n 1, 1) := by decide +kernel
theorem dX4_joined_126 : decode cX4_joined 126 = .ok (.lconst 0, 1) := by decide +kernel
theorem dX4_joined_127 : decode cX4_joined 127 = .ok (.lcmp, 1) := by decide +kernel
theorem dX4_joined_128 : decode cX4_joined 128 = .ok (.ifCond .eq 13, 3) := by decide +kernel
theorem dX4_joined_131 : decode cX4_joined 131 = .ok (.lload_n 3, 1) := by decide +kernel
theorem dX4_joined_132 : decode cX4_joined 132 = .ok (.lconst 0, 1) := by decide +kernel
theorem dX4_joined_133 : decode cX4_joined 133 = .ok (.lcmp, 1) := by decide +kernel
theorem dX4_joined_134 : decode cX4_joined 134 = .ok (.ifCond .eq 7, 3) := by decide +kernel
theorem dX4_joined_137 : decode cX4_joined 137 = .ok (.iconst 1, 1) := by decide +kernel
theorem dX4_joined_138 : decode cX4_joined 138 = .ok (.goto 4, 3) := by decide +kernel
theorem dX4_joined_141 : decode cX4_joined 141 = .ok (.iconst 0, 1) := by decide +kernel
theorem dX4_joined_142 : decode cX4_joined 142 = .ok (.invokestatic 46, 3) := by decide +kernel
theorem dX4_joined_145 : decode cX4_joined 145 = .ok (.lreturn, 1) := by decide +kernel
theorem dX4_joined_146 : decode cX4_joined 146 = .ok (.lload_n 1, 1) := by decide +kernel
theorem dX4_joined_147 : decode cX4_joined 147 = .ok (.lload_n 3, 1) := by decide +kernel
theorem dX4_joined_148 : decode cX4_joined 148 = .ok (.lcmp, 1) := by decide +kernel
theorem dX4_joined_149 : decode cX4_joined 149 = .ok (.ifCond .ge 7, 3) := by decide +kernel
theorem dX4_joined_152 : decode cX4_joined 152 = .ok (.iconst 1, 1) := by decide +kernel
theorem dX4_joined_153 : decode cX4_joined 153 = .ok (.goto 4, 3) := by decide +kernel
theorem dX4_joined_156 : decode cX4_joined 156 = .ok (.iconst 0, 1) := by decide +kernel
theorem dX4_joined_157 : decode cX4_joined 157 = .ok (.invokestatic 46, 3) := by decide +kernel
theorem dX4_joined_160 : decode cX4_joined 160 = .ok (.lreturn, 1) := by decide +kernel
theorem dX4_joined_161 : decode cX4_joined 161 = .ok (.lload_n 1, 1) := by decide +kernel
theorem dX4_joined_162 : decode cX4_joined 162 = .ok (.lload_n 3, 1) := by decide +kernel
theorem dX4_joined_163 : decode cX4_joined 163 = .ok (.lcmp, 1) := by decide +kernel
theorem dX4_joined_164 : decode cX4_joined 164 = .ok (.ifCond .gt 7, 3) := by decide +kernel
theorem dX4_joined_167 : decode cX4_joined 167 = .ok (.iconst 1, 1) := by decide +kernel
theorem dX4_joined_168 : decode cX4_joined 168 = .ok (.goto 4, 3) := by decide +kernel
theorem dX4_joined_171 : decode cX4_joined 171 = .ok (.iconst 0, 1) := by decide +kernel
theorem dX4_joined_172 : decode cX4_joined 172 = .ok (.invokestatic 46, 3) := by decide +kernel
theorem dX4_joined_175 : decode cX4_joined 175 = .ok (.lreturn, 1) := by decide +kernel
theorem dX4_joined_176 : decode cX4_joined 176 = .ok (.lload_n 1, 1) := by decide +kernel
theorem dX4_joined_177 : decode cX4_joined 177 = .ok (.lload_n 3, 1) := by decide +kernel
theorem dX4_joined_178 : decode cX4_joined 178 = .ok (.lcmp, 1) := by decide +kernel
theorem dX4_joined_179 : decode cX4_joined 179 = .ok (.ifCond .ne 7, 3) := by decide +kernel
theorem dX4_joined_182 : decode cX4_joined 182 = .ok (.iconst 1, 1) := by decide +kernel
theorem dX4_joined_183 : decode cX4_joined 183 = .ok (.goto 4, 3) := by decide +kernel
theorem dX4_joined_186 : decode cX4_joined 186 = .ok (.iconst 0, 1) := by decide +kernel
theorem dX4_joined_187 : decode cX4_joined 187 = .ok (.invokestatic 46, 3) := by decide +kernel
theorem dX4_joined_190 : decode cX4_joined 190 = .ok (.lreturn, 1) := by decide +kernel
theorem dX4_joined_191 : decode cX4_joined 191 = .ok (.lload_n 1, 1) := by decide +kernel
theorem dX4_joined_192 : decode cX4_joined 192 = .ok (.lload_n 3, 1) := by decide +kernel
theorem dX4_joined_193 : decode cX4_joined 193 = .ok (.lcmp, 1) := by decide +kernel
theorem dX4_joined_194 : decode cX4_joined 194 = .ok (.ifCond .eq 7, 3) := by decide +kernel
theorem dX4_joined_197 : decode cX4_joined 197 = .ok (.iconst 1, 1) := by decide +kernel
theorem dX4_joined_198 : decode cX4_joined 198 = .ok (.goto 4, 3) := by decide +kernel
theorem dX4_joined_201 : decode cX4_joined 201 = .ok (.iconst 0, 1) := by decide +kernel
theorem dX4_joined_202 : decode cX4_joined 202 = .ok (.invokestatic 46, 3) := by decide +kernel
theorem dX4_joined_205 : decode cX4_joined 205 = .ok (.lreturn, 1) := by decide +kernel
theorem dX4_joined_206 : decode cX4_joined 206 = .ok (.lload_n 1, 1) := by decide +kernel
theorem dX4_joined_207 : decode cX4_joined 207 = .ok (.lload_n 3, 1) := by decide +kernel
theorem dX4_joined_208 : decode cX4_joined 208 = .ok (.lcmp, 1) := by decide +kernel
theorem dX4_joined_209 : decode cX4_joined 209 = .ok (.ifCond .lt 7, 3) := by decide +kernel
theorem dX4_joined_212 : decode cX4_joined 212 = .ok (.iconst 1, 1) := by decide +kernel
theorem dX4_joined_213 : decode cX4_joined 213 = .ok (.goto 4, 3) := by decide +kernel
theorem dX4_joined_216 : decode cX4_joined 216 = .ok (.iconst 0, 1) := by decide +kernel
theorem dX4_joined_217 : decode cX4_joined 217 = .ok (.invokestatic 46, 3) := by decide +kernel
theorem dX4_joined_220 : decode cX4_joined 220 = .ok (.lreturn, 1) := by decide +kernel
theorem dX4_joined_221 : decode cX4_joined 221 = .ok (.lload_n 1, 1) := by decide +kernel
theorem dX4_joined_222 : decode cX4_joined 222 = .ok (.lload_n 3, 1) := by decide +kernel
theorem dX4_joined_223 : decode cX4_joined 223 = .ok (.lcmp, 1) := by decide +kernel
theorem dX4_joined_224 : decode cX4_joined 224 = .ok (.ifCond .le 7, 3) := by decide +kernel
theorem dX4_joined_227 : decode cX4_joined 227 = .ok (.iconst 1, 1) := by decide +kernel
theorem dX4_joined_228 : decode cX4_joined 228 = .ok (.goto 4, 3) := by decide +kernel
theorem dX4_joined_231 : decode cX4_joined 231 = .ok (.iconst 0, 1) := by decide +kernel
theorem dX4_joined_232 : decode cX4_joined 232 = .ok (.invokestatic 46, 3) := by decide +kernel
theorem dX4_joined_235 : decode cX4_joined 235 = .ok (.lreturn, 1) := by decide +kernel
theorem dX4_joined_236 : decode cX4_joined 236 = .ok (.lload_n 1, 1) := by decide +kernel
theorem dX4_joined_237 : decode cX4_joined 237 = .ok (.lload_n 3, 1) := by decide +kernel
theorem dX4_joined_238 : decode cX4_joined 238 = .ok (.ladd, 1) := by decide +kernel
theorem dX4_joined_239 : decode cX4_joined 239 = .ok (.invokestatic 54, 3) := by decide +kernel
theorem dX4_joined_242 : decode cX4_joined 242 = .ok (.lreturn, 1) := by decide +kernel
theorem dX4_joined_243 : decode cX4_joined 243 = .ok (.lload_n 1, 1) := by decide +kernel
theorem dX4_joined_244 : decode cX4_joined 244 = .ok (.lload_n 3, 1) := by decide +kernel
theorem dX4_joined_245 : decode cX4_joined 245 = .ok (.lsub, 1) := by decide +kernel
theorem dX4_joined_246 : decode cX4_joined 246 = .ok (.invokestatic 54, 3) := by decide +kernel
theorem dX4_joined_249 : decode cX4_joined 249 = .ok (.lreturn, 1) := by decide +kernel
theorem dX4_joined_250 : decode cX4_joined 250 = .ok (.lload_n 1, 1) := by decide +kernel
theorem dX4_joined_251 : decode cX4_joined 251 = .ok (.lload_n 3, 1) := by decide +kernel
theorem dX4_joined_252 : decode cX4_joined 252 = .ok (.invokestatic 58, 3) := by decide +kernel
theorem dX4_joined_255 : decode cX4_joined 255 = .ok (.lreturn, 1) := by decide +kernel
theorem dX4_joined_256 : decode cX4_joined 256 = .ok (.lload_n 3, 1) := by decide +kernel
theorem dX4_joined_257 : decode cX4_joined 257 = .ok (.lconst 0, 1) := by decide +kernel
theorem dX4_joined_258 : decode cX4_joined 258 = .ok (.lcmp, 1) := by decide +kernel
theorem dX4_joined_259 : decode cX4_joined 259 = .ok (.ifCond .ne 9, 3) := by decide +kernel
theorem dX4_joined_262 : decode cX4_joined 262 = .ok (.ldc2_w 38, 3) := by decide +kernel
theorem dX4_joined_265 : decode cX4_joined 265 = .ok (.goto 6, 3) := by decide +kernel
theorem dX4_joined_268 : decode cX4_joined 268 = .ok (.lload_n 1, 1) := by decide +kernel
theorem dX4_joined_269 : decode cX4_joined 269 = .ok (.lload_n 3, 1) := by decide +kernel
theorem dX4_joined_270 : decode cX4_joined 270 = .ok (.ldiv, 1) := by decide +kernel
theorem dX4_joined_271 : decode cX4_joined 271 = .ok (.lreturn, 1) := by decide +kernel
theorem dX4_limited_0 : decode cX4_limited 0 = .ok (.lload_n 0, 1) := by decide +kernel
theorem dX4_limited_1 : decode cX4_limited 1 = .ok (.ldc2_w 62, 3) := by decide +kernel
theorem dX4_limited_4 : decode cX4_limited 4 = .ok (.lcmp, 1) := by decide +kernel
theorem dX4_limited_5 : decode cX4_limited 5 = .ok (.ifCond .gt 11, 3) := by decide +kernel
theorem dX4_limited_8 : decode cX4_limited 8 = .ok (.lload_n 0, 1) := by decide +kernel
theorem dX4_limited_9 : decode cX4_limited 9 = .ok (.ldc2_w 64, 3) := by decide +kernel
theorem dX4_limited_12 : decode cX4_limited 12 = .ok (.lcmp, 1) := by decide +kernel
theorem dX4_limited_13 : decode cX4_limited 13 = .ok (.ifCond .ge 9, 3) := by decide +kernel
theorem dX4_limited_16 : decode cX4_limited 16 = .ok (.ldc2_w 38, 3) := by decide +kernel
theorem dX4_limited_19 : decode cX4_limited 19 = .ok (.goto 4, 3) := by decide +kernel
theorem dX4_limited_22 : decode cX4_limited 22 = .ok (.lload_n 0, 1) := by decide +kernel
theorem dX4_limited_23 : decode cX4_limited 23 = .ok (.lreturn, 1) := by decide +kernel
theorem dX4_product_0 : decode cX4_product 0 = .ok (.lload_n 0, 1) := by decide +kernel
theorem dX4_product_1 : decode cX4_product 1 = .ok (.lconst 0, 1) := by decide +kernel
theorem dX4_product_2 : decode cX4_product 2 = .ok (.lcmp, 1) := by decide +kernel
theorem dX4_product_3 : decode cX4_product 3 = .ok (.ifCond .ge 8, 3) := by decide +kernel
theorem dX4_product_6 : decode cX4_product 6 = .ok (.lload_n 0, 1) := by decide +kernel
theorem dX4_product_7 : decode cX4_product 7 = .ok (.lneg, 1) := by decide +kernel
theorem dX4_product_8 : decode cX4_product 8 = .ok (.goto 4, 3) := by decide +kernel
theorem dX4_product_11 : decode cX4_product 11 = .ok (.lload_n 0, 1) := by decide +kernel
theorem dX4_product_12 : decode cX4_product 12 = .ok (.lstore 4, 2) := by decide +kernel
theorem dX4_product_14 : decode cX4_product 14 = .ok (.lload 4, 2) := by decide +kernel
theorem dX4_product_16 : decode cX4_product 16 = .ok (.lconst 0, 1) := by decide +kernel
theorem dX4_product_17 : decode cX4_product 17 = .ok (.lcmp, 1) := by decide +kernel
theorem dX4_product_18 : decode cX4_product 18 = .ok (.ifCond .ne 5, 3) := by decide +kernel
theorem dX4_product_21 : decode cX4_product 21 = .ok (.lconst 0, 1) := by decide +kernel
theorem dX4_product_22 : decode cX4_product 22 = .ok (.lreturn, 1) := by decide +kernel
theorem dX4_product_23 : decode cX4_product 23 = .ok (.ldc2_w 62, 3) := by decide +kernel
theorem dX4_product_26 : decode cX4_product 26 = .ok (.lload 4, 2) := by decide +kernel
theorem dX4_product_28 : decode cX4_product 28 = .ok (.ldiv, 1) := by decide +kernel
theorem dX4_product_29 : decode cX4_product 29 = .ok (.lstore 6, 2) := by decide +kernel
theorem dX4_product_31 : decode cX4_product 31 = .ok (.lload_n 2, 1) := by decide +kernel
theorem dX4_product_32 : decode cX4_product 32 = .ok (.lload 6, 2) := by decide +kernel
theorem dX4_product_34 : decode cX4_product 34 = .ok (.lcmp, 1) := by decide +kernel
theorem dX4_product_35 : decode cX4_product 35 = .ok (.ifCond .gt 11, 3) := by decide +kernel
theorem dX4_product_38 : decode cX4_product 38 = .ok (.lload_n 2, 1) := by decide +kernel
theorem dX4_product_39 : decode cX4_product 39 = .ok (.lload 6, 2) := by decide +kernel
theorem dX4_product_41 : decode cX4_product 41 = .ok (.lneg, 1) := by decide +kernel
theorem dX4_product_42 : decode cX4_product 42 = .ok (.lcmp, 1) := by decide +kernel
theorem dX4_product_43 : decode cX4_product 43 = .ok (.ifCond .ge 9, 3) := by decide +kernel
theorem dX4_product_46 : decode cX4_product 46 = .ok (.ldc2_w 38, 3) := by decide +kernel
theorem dX4_product_49 : decode cX4_product 49 = .ok (.goto 6, 3) := by decide +kernel
theorem dX4_product_52 : decode cX4_product 52 = .ok (.lload_n 0, 1) := by decide +kernel
theorem dX4_product_53 : decode cX4_product 53 = .ok (.lload_n 2, 1) := by decide +kernel
theorem dX4_product_54 : decode cX4_product 54 = .ok (.lmul, 1) := by decide +kernel
theorem dX4_product_55 : decode cX4_product 55 = .ok (.lreturn, 1) := by decide +kernel
theorem dX5_init_0 : decode cX5_init 0 = .ok (.aload_n 0, 1) := by decide +kernel
theorem dX5_init_1 : decode cX5_init 1 = .ok (.invokespecial 3, 3) := by decide +kernel
theorem dX5_init_4 : decode cX5_init 4 = .ok (.aload_n 0, 1) := by decide +kernel
theorem dX5_init_5 : decode cX5_init 5 = .ok (.bipush 8, 2) := by decide +kernel
theorem dX5_init_7 : decode cX5_init 7 = .ok (.newarray .int, 2) := by decide +kernel
theorem dX5_init_9 : decode cX5_init 9 = .ok (.putfield 11, 3) := by decide +kernel
theorem dX5_init_12 : decode cX5_init 12 = .ok (.aload_n 0, 1) := by decide +kernel
theorem dX5_init_13 : decode cX5_init 13 = .ok (.bipush 6, 2) := by decide +kernel
theorem dX5_init_15 : decode cX5_init 15 = .ok (.newarray .int, 2) := by decide +kernel
theorem dX5_init_17 : decode cX5_init 17 = .ok (.putfield 15, 3) := by decide +kernel
theorem dX5_init_20 : decode cX5_init 20 = .ok (.return_, 1) := by decide +kernel
theorem dX5_lay_0 : decode cX5_lay 0 = .ok (.iconst 0, 1) := by decide +kernel
theorem dX5_lay_1 : decode cX5_lay 1 = .ok (.istore_n 3, 1) := by decide +kernel
theorem dX5_lay_2 : decode cX5_lay 2 = .ok (.aload_n 0, 1) := by decide +kernel
theorem dX5_lay_3 : decode cX5_lay 3 = .ok (.iconst 0, 1) := by decide +kernel
theorem dX5_lay_4 : decode cX5_lay 4 = .ok (.putfield 18, 3) := by decide +kernel
theorem dX5_lay_7 : decode cX5_lay 7 = .ok (.aload_n 0, 1) := by decide +kernel
theorem dX5_lay_8 : decode cX5_lay 8 = .ok (.iconst 0, 1) := by decide +kernel
theorem dX5_lay_9 : decode cX5_lay 9 = .ok (.putfield 22, 3) := by decide +kernel
theorem dX5_lay_12 : decode cX5_lay 12 = .ok (.iconst 0, 1) := by decide +kernel
theorem dX5_lay_13 : decode cX5_lay 13 = .ok (.istore 4, 2) := by decide +kernel
theorem dX5_lay_15 : decode cX5_lay 15 = .ok (.iload 4, 2) := by decide +kernel
theorem dX5_lay_17 : decode cX5_lay 17 = .ok (.aload_n 1, 1) := by decide +kernel
theorem dX5_lay_18 : decode cX5_lay 18 = .ok (.getfield 25, 3) := by decide +kernel
theorem dX5_lay_21 : decode cX5_lay 21 = .ok (.if_icmp .ge 90, 3) := by decide +kernel
theorem dX5_lay_24 : decode cX5_lay 24 = .ok (.aload_n 0, 1) := by decide +kernel
theorem dX5_lay_25 : decode cX5_lay 25 = .ok (.getfield 15, 3) := by decide +kernel
theorem dX5_lay_28 : decode cX5_lay 28 = .ok (.iload 4, 2) := by decide +kernel
theorem dX5_lay_30 : decode cX5_lay 30 = .ok (.aload_n 0, 1) := by decide +kernel
theorem dX5_lay_31 : decode cX5_lay 31 = .ok (.aload_n 1, 1) := by decide +kernel
theorem dX5_lay_32 : decode cX5_lay 32 = .ok (.iload_n 2, 1) := by decide +kernel
theorem dX5_lay_33 : decode cX5_lay 33 = .ok (.iload 4, 2) := by decide +kernel
theorem dX5_lay_35 : decode cX5_lay 35 = .ok (.invokevirtual 30, 3) := by decide +kernel
theorem dX5_lay_38 : decode cX5_lay 38 = .ok (.ifCond .eq 15, 3) := by decide +kernel
theorem dX5_lay_41 : decode cX5_lay 41 = .ok (.aload_n 0, 1) := by decide +kernel
theorem dX5_lay_42 : decode cX5_lay 42 = .ok (.aload_n 1, 1) := by decide +kernel
theorem dX5_lay_43 : decode cX5_lay 43 = .ok (.iload_n 2, 1) := by decide +kernel
theorem dX5_lay_44 : decode cX5_lay 44 = .ok (.iload 4, 2) := by decide +kernel
theorem dX5_lay_46 : decode cX5_lay 46 = .ok (.iload_n 3, 1) := by decide +kernel
theorem dX5_lay_47 : decode cX5_lay 47 = .ok (.invokevirtual 34, 3) := by decide +kernel
theorem dX5_lay_50 : decode cX5_lay 50 = .ok (.goto 5, 3) := by decide +kernel
theorem dX5_lay_53 : decode cX5_lay 53 = .ok (.bipush (-2), 2) := by decide +kernel
theorem dX5_lay_55 : decode cX5_lay 55 = .ok (.iastore, 1) := by decide +kernel
theorem dX5_lay_56 : decode cX5_lay 56 = .ok (.aload_n 0, 1) := by decide +kernel
theorem dX5_lay_57 : decode cX5_lay 57 = .ok (.getfield 15, 3) := by decide +kernel
theorem dX5_lay_60 : decode cX5_lay 60 = .ok (.iload 4, 2) := by decide +kernel
theorem dX5_lay_62 : decode cX5_lay 62 = .ok (.iaload, 1) := by decide +kernel
theorem dX5_lay_63 : decode cX5_lay 63 = .ok (.bipush (-2), 2) := by decide +kernel
theorem dX5_lay_65 : decode cX5_lay 65 = .ok (.if_icmp .eq 40, 3) := by decide +kernel
theorem dX5_lay_68 : decode cX5_lay 68 = .ok (.iload_n 3, 1) := by decide +kernel
theorem dX5_lay_69 : decode cX5_lay 69 = .ok (.iconst 1, 1) := by decide +kernel
theorem dX5_lay_70 : decode cX5_lay 70 = .ok (.aload_n 0, 1) := by decide +kernel
theorem dX5_lay_71 : decode cX5_lay 71 = .ok (.getfield 15, 3) := by decide +kernel
theorem dX5_lay_74 : decode cX5_lay 74 = .ok (.iload 4, 2) := by decide +kernel
theorem dX5_lay_76 : decode cX5_lay 76 = .ok (.iaload, 1) := by decide +kernel
theorem dX5_lay_77 : decode cX5_lay 77 = .ok (.ishl, 1) := by decide +kernel
theorem dX5_lay_78 : decode cX5_lay 78 = .ok (.ior, 1) := by decide +kernel
theorem dX5_lay_79 : decode cX5_lay 79 = .ok (.istore_n 3, 1) := by decide +kernel
theorem dX5_lay_80 : decode cX5_lay 80 = .ok (.aload_n 0, 1) := by decide +kernel
theorem dX5_lay_81 : decode cX5_lay 81 = .ok (.dup, 1) := by decide +kernel
theorem dX5_lay_82 : decode cX5_lay 82 = .ok (.getfield 18, 3) := by decide +kernel
theorem dX5_lay_85 : decode cX5_lay 85 = .ok (.iconst 1, 1) := by decide +kernel
theorem dX5_lay_86 : decode cX5_lay 86 = .ok (.iadd, 1) := by decide +kernel
theorem dX5_lay_87 : decode cX5_lay 87 = .ok (.putfield 18, 3) := by decide +kernel
theorem dX5_lay_90 : decode cX5_lay 90 = .ok (.aload_n 0, 1) := by decide +kernel
theorem dX5_lay_91 : decode cX5_lay 91 = .ok (.dup, 1) := by decide +kernel
theorem dX5_lay_92 : decode cX5_lay 92 = .ok (.getfield 22, 3) := by decide +kernel
theorem dX5_lay_95 : decode cX5_lay 95 = .ok (.aload_n 1, 1) := by decide +kernel
theorem dX5_lay_96 : decode cX5_lay 96 = .ok (.iload 4, 2) := by decide +kernel
theorem dX5_lay_98 : decode cX5_lay 98 = .ok (.invokestatic 38, 3) := by decide +kernel
theorem dX5_lay_101 : decode cX5_lay 101 = .ok (.iadd, 1) := by decide +kernel
theorem dX5_lay_102 : decode cX5_lay 102 = .ok (.putfield 22, 3) := by decide +kernel
theorem dX5_lay_105 : decode cX5_lay 105 = .ok (.iinc 4 1, 3) := by decide +kernel
theorem dX5_lay_108 : decode cX5_lay 108 = .ok (.goto (-93), 3) := by decide +kernel
theorem dX5_lay_111 : decode cX5_lay 111 = .ok (.return_, 1) := by decide +kernel
theorem dX5_hasDay_0 : decode cX5_hasDay 0 = .ok (.iconst 0, 1) := by decide +kernel
theorem dX5_hasDay_1 : decode cX5_hasDay 1 = .ok (.istore 4, 2) := by decide +kernel
theorem dX5_hasDay_3 : decode cX5_hasDay 3 = .ok (.iconst 0, 1) := by decide +kernel
theorem dX5_hasDay_4 : decode cX5_hasDay 4 = .ok (.istore 5, 2) := by decide +kernel
theorem dX5_hasDay_6 : decode cX5_hasDay 6 = .ok (.iload 5, 2) := by decide +kernel
theorem dX5_hasDay_8 : decode cX5_hasDay 8 = .ok (.iload_n 2, 1) := by decide +kernel
theorem dX5_hasDay_9 : decode cX5_hasDay 9 = .ok (.if_icmp .ge 28, 3) := by decide +kernel
theorem dX5_hasDay_12 : decode cX5_hasDay 12 = .ok (.aload_n 0, 1) := by decide +kernel
theorem dX5_hasDay_13 : decode cX5_hasDay 13 = .ok (.getfield 11, 3) := by decide +kernel
theorem dX5_hasDay_16 : decode cX5_hasDay 16 = .ok (.iload 5, 2) := by decide +kernel
theorem dX5_hasDay_18 : decode cX5_hasDay 18 = .ok (.iaload, 1) := by decide +kernel
theorem dX5_hasDay_19 : decode cX5_hasDay 19 = .ok (.aload_n 1, 1) := by decide +kernel
theorem dX5_hasDay_20 : decode cX5_hasDay 20 = .ok (.getfield 42, 3) := by decide +kernel
theorem dX5_hasDay_23 : decode cX5_hasDay 23 = .ok (.iload_n 3, 1) := by decide +kernel
theorem dX5_hasDay_24 : decode cX5_hasDay 24 = .ok (.iaload, 1) := by decide +kernel
theorem dX5_hasDay_25 : decode cX5_hasDay 25 = .ok (.if_icmp .ne 6, 3) := by decide +kernel
theorem dX5_hasDay_28 : decode cX5_hasDay 28 = .ok (.iinc 4 1, 3) := by decide +kernel
theorem dX5_hasDay_31 : decode cX5_hasDay 31 = .ok (.iinc 5 1, 3) := by decide +kernel
theorem dX5_hasDay_34 : decode cX5_hasDay 34 = .ok (.goto (-28), 3) := by decide +kernel
theorem dX5_hasDay_37 : decode cX5_hasDay 37 = .ok (.iconst 0, 1) := by decide +kernel
theorem dX5_hasDay_38 : decode cX5_hasDay 38 = .ok (.istore 5, 2) := by decide +kernel
theorem dX5_hasDay_40 : decode cX5_hasDay 40 = .ok (.iload 5, 2) := by decide +kernel
theorem dX5_hasDay_42 : decode cX5_hasDay 42 = .ok (.aload_n 1, 1) := by decide +kernel
theorem dX5_hasDay_43 : decode cX5_hasDay 43 = .ok (.getfield 25, 3) := by decide +kernel
theorem dX5_hasDay_46 : decode cX5_hasDay 46 = .ok (.if_icmp .ge 38, 3) := by decide +kernel
theorem dX5_hasDay_49 : decode cX5_hasDay 49 = .ok (.aload_n 1, 1) := by decide +kernel
theorem dX5_hasDay_50 : decode cX5_hasDay 50 = .ok (.getfield 42, 3) := by decide +kernel
theorem dX5_hasDay_53 : decode cX5_hasDay 53 = .ok (.iload 5, 2) := by decide +kernel
theorem dX5_hasDay_55 : decode cX5_hasDay 55 = .ok (.iaload, 1) := by decide +kernel
theorem dX5_hasDay_56 : decode cX5_hasDay 56 = .ok (.aload_n 1, 1) := by decide +kernel
theorem dX5_hasDay_57 : decode cX5_hasDay 57 = .ok (.getfield 42, 3) := by decide +kernel
theorem dX5_hasDay_60 : decode cX5_hasDay 60 = .ok (.iload_n 3, 1) := by decide +kernel
theorem dX5_hasDay_61 : decode cX5_hasDay 61 = .ok (.iaload, 1) := by decide +kernel
theorem dX5_hasDay_62 : decode cX5_hasDay 62 = .ok (.if_icmp .ne 16, 3) := by decide +kernel
theorem dX5_hasDay_65 : decode cX5_hasDay 65 = .ok (.aload_n 1, 1) := by decide +kernel
theorem dX5_hasDay_66 : decode cX5_hasDay 66 = .ok (.iload 5, 2) := by decide +kernel
theorem dX5_hasDay_68 : decode cX5_hasDay 68 = .ok (.iload_n 3, 1) := by decide +kernel
theorem dX5_hasDay_69 : decode cX5_hasDay 69 = .ok (.invokestatic 45, 3) := by decide +kernel
theorem dX5_hasDay_72 : decode cX5_hasDay 72 = .ok (.ifCond .eq 6, 3) := by decide +kernel
theorem dX5_hasDay_75 : decode cX5_hasDay 75 = .ok (.iinc 4 (-1), 3) := by decide +kernel
theorem dX5_hasDay_78 : decode cX5_hasDay 78 = .ok (.iinc 5 1, 3) := by decide +kernel
theorem dX5_hasDay_81 : decode cX5_hasDay 81 = .ok (.goto (-41), 3) := by decide +kernel
theorem dX5_hasDay_84 : decode cX5_hasDay 84 = .ok (.iload 4, 2) := by decide +kernel
theorem dX5_hasDay_86 : decode cX5_hasDay 86 = .ok (.ifCond .le 7, 3) := by decide +kernel
theorem dX5_hasDay_89 : decode cX5_hasDay 89 = .ok (.iconst 1, 1) := by decide +kernel
theorem dX5_hasDay_90 : decode cX5_hasDay 90 = .ok (.goto 4, 3) := by decide +kernel
theorem dX5_hasDay_93 : decode cX5_hasDay 93 = .ok (.iconst 0, 1) := by decide +kernel
theorem dX5_hasDay_94 : decode cX5_hasDay 94 = .ok (.ireturn, 1) := by decide +kernel
theorem dX5_comesAhead_0 : decode cX5_comesAhead 0 = .ok (.aload_n 0, 1) := by decide +kernel
theorem dX5_comesAhead_1 : decode cX5_comesAhead 1 = .ok (.iload_n 1, 1) := by decide +kernel
theorem dX5_comesAhead_2 : decode cX5_comesAhead 2 = .ok (.invokestatic 38, 3) := by decide +kernel
theorem dX5_comesAhead_5 : decode cX5_comesAhead 5 = .ok (.aload_n 0, 1) := by decide +kernel
theorem dX5_comesAhead_6 : decode cX5_comesAhead 6 = .ok (.iload_n 2, 1) := by decide +kernel
theorem dX5_comesAhead_7 : decode cX5_comesAhead 7 = .ok (.invokestatic 38, 3) := by decide +kernel
theorem dX5_comesAhead_10 : decode cX5_comesAhead 10 = .ok (.isub, 1) := by decide +kernel
theorem dX5_comesAhead_11 : decode cX5_comesAhead 11 = .ok (.istore_n 3, 1) := by decide +kernel
theorem dX5_comesAhead_12 : decode cX5_comesAhead 12 = .ok (.iload_n 3, 1) := by decide +kernel
theorem dX5_comesAhead_13 : decode cX5_comesAhead 13 = .ok (.ifCond .lt 12, 3) := by decide +kernel
theorem dX5_comesAhead_16 : decode cX5_comesAhead 16 = .ok (.iload_n 3, 1) := by decide +kernel
theorem dX5_comesAhead_17 : decode cX5_comesAhead 17 = .ok (.ifCond .ne 12, 3) := by decide +kernel
theorem dX5_comesAhead_20 : decode cX5_comesAhead 20 = .ok (.iload_n 1, 1) := by decide +kernel
theorem dX5_comesAhead_21 : decode cX5_comesAhead 21 = .ok (.iload_n 2, 1) := by decide +kernel
theorem dX5_comesAhead_22 : decode cX5_comesAhead 22 = .ok (.if_icmp .ge 7, 3) := by decide +kernel
theorem dX5_comesAhead_25 : decode cX5_comesAhead 25 = .ok (.iconst 1, 1) := by decide +kernel
theorem dX5_comesAhead_26 : decode cX5_comesAhead 26 = .ok (.goto 4, 3) := by decide +kernel
theorem dX5_comesAhead_29 : decode cX5_comesAhead 29 = .ok (.iconst 0, 1) := by decide +kernel
theorem dX5_comesAhead_30 : decode cX5_comesAhead 30 = .ok (.ireturn, 1) := by decide +kernel
theorem dX5_firstFree_0 : decode cX5_firstFree 0 = .ok (.iconst 0, 1) := by decide +kernel
theorem dX5_firstFree_1 : decode cX5_firstFree 1 = .ok (.istore 5, 2) := by decide +kernel
theorem dX5_firstFree_3 : decode cX5_firstFree 3 = .ok (.iload 5, 2) := by decide +kernel
theorem dX5_firstFree_5 : decode cX5_firstFree 5 = .ok (.iload_n 2, 1) := by decide +kernel
theorem dX5_firstFree_6 : decode cX5_firstFree 6 = .ok (.if_icmp .ge 38, 3) := by decide +kernel
theorem dX5_firstFree_9 : decode cX5_firstFree 9 = .ok (.iload 5, 2) := by decide +kernel
theorem dX5_firstFree_11 : decode cX5_firstFree 11 = .ok (.iload 4, 2) := by decide +kernel
theorem dX5_firstFree_13 : decode cX5_firstFree 13 = .ok (.invokestatic 48, 3) := by decide +kernel
theorem dX5_firstFree_16 : decode cX5_firstFree 16 = .ok (.ifCond .ne 22, 3) := by decide +kernel
theorem dX5_firstFree_19 : decode cX5_firstFree 19 = .ok (.aload_n 0, 1) := by decide +kernel
theorem dX5_firstFree_20 : decode cX5_firstFree 20 = .ok (.getfield 11, 3) := by decide +kernel
theorem dX5_firstFree_23 : decode cX5_firstFree 23 = .ok (.iload 5, 2) := by decide +kernel
theorem dX5_firstFree_25 : decode cX5_firstFree 25 = .ok (.iaload, 1) := by decide +kernel
theorem dX5_firstFree_26 : decode cX5_firstFree 26 = .ok (.aload_n 1, 1) := by decide +kernel
theorem dX5_firstFree_27 : decode cX5_firstFree 27 = .ok (.getfield 42, 3) := by decide +kernel
theorem dX5_firstFree_30 : decode cX5_firstFree 30 = .ok (.iload_n 3, 1) := by decide +kernel
theorem dX5_firstFree_31 : decode cX5_firstFree 31 = .ok (.iaload, 1) := by decide +kernel
theorem dX5_firstFree_32 : decode cX5_firstFree 32 = .ok (.if_icmp .ne 6, 3) := by decide +kernel
theorem dX5_firstFree_35 : decode cX5_firstFree 35 = .ok (.iload 5, 2) := by decide +kernel
theorem dX5_firstFree_37 : decode cX5_firstFree 37 = .ok (.ireturn, 1) := by decide +kernel
theorem dX5_firstFree_38 : decode cX5_firstFree 38 = .ok (.iinc 5 1, 3) := by decide +kernel
theorem dX5_firstFree_41 : decode cX5_firstFree 41 = .ok (.goto (-38), 3) := by decide +kernel
theorem dX5_firstFree_44 : decode cX5_firstFree 44 = .ok (.bipush (-2), 2) := by decide +kernel
theorem dX5_firstFree_46 : decode cX5_firstFree 46 = .ok (.ireturn, 1) := by decide +kernel
theorem dX5_cost_0 : decode cX5_cost 0 = .ok (.aload_n 0, 1) := by decide +kernel
theorem dX5_cost_1 : decode cX5_cost 1 = .ok (.aload_n 0, 1) := by decide +kernel
theorem dX5_cost_2 : decode cX5_cost 2 = .ok (.getfield 52, 3) := by decide +kernel
theorem dX5_cost_5 : decode cX5_cost 5 = .ok (.iload_n 1, 1) := by decide +kernel
theorem dX5_cost_6 : decode cX5_cost 6 = .ok (.iaload, 1) := by decide +kernel
theorem dX5_cost_7 : decode cX5_cost 7 = .ok (.aload_n 0, 1) := by decide +kernel
theorem dX5_cost_8 : decode cX5_cost 8 = .ok (.getfield 42, 3) := by decide +kernel
theorem dX5_cost_11 : decode cX5_cost 11 = .ok (.iload_n 1, 1) := by decide +kernel
theorem dX5_cost_12 : decode cX5_cost 12 = .ok (.iaload, 1) := by decide +kernel
theorem dX5_cost_13 : decode cX5_cost 13 = .ok (.invokevirtual 55, 3) := by decide +kernel
theorem dX5_cost_16 : decode cX5_cost 16 = .ok (.ireturn, 1) := by decide +kernel
theorem dX6_init_0 : decode cX6_init 0 = .ok (.aload_n 0, 1) := by decide +kernel
theorem dX6_init_1 : decode cX6_init 1 = .ok (.invokespecial 3, 3) := by decide +kernel
theorem dX6_init_4 : decode cX6_init 4 = .ok (.aload_n 0, 1) := by decide +kernel
theorem dX6_init_5 : decode cX6_init 5 = .ok (.bipush 72, 2) := by decide +kernel
theorem dX6_init_7 : decode cX6_init 7 = .ok (.newarray .int, 2) := by decide +kernel
theorem dX6_init_9 : decode cX6_init 9 = .ok (.putfield 13, 3) := by decide +kernel
theorem dX6_init_12 : decode cX6_init 12 = .ok (.aload_n 0, 1) := by decide +kernel
theorem dX6_init_13 : decode cX6_init 13 = .ok (.iconst (-1), 1) := by decide +kernel
theorem dX6_init_14 : decode cX6_init 14 = .ok (.putfield 17, 3) := by decide +kernel
theorem dX6_init_17 : decode cX6_init 17 = .ok (.aload_n 0, 1) := by decide +kernel
theorem dX6_init_18 : decode cX6_init 18 = .ok (.new 21, 3) := by decide +kernel
theorem dX6_init_21 : decode cX6_init 21 = .ok (.dup, 1) := by decide +kernel
theorem dX6_init_22 : decode cX6_init 22 = .ok (.aload_n 1, 1) := by decide +kernel
theorem dX6_init_23 : decode cX6_init 23 = .ok (.invokespecial 23, 3) := by decide +kernel
theorem dX6_init_26 : decode cX6_init 26 = .ok (.putfield 26, 3) := by decide +kernel
theorem dX6_init_29 : decode cX6_init 29 = .ok (.aload_n 0, 1) := by decide +kernel
theorem dX6_init_30 : decode cX6_init 30 = .ok (.aload_n 2, 1) := by decide +kernel
theorem dX6_init_31 : decode cX6_init 31 = .ok (.putfield 30, 3) := by decide +kernel
theorem dX6_init_34 : decode cX6_init 34 = .ok (.return_, 1) := by decide +kernel
theorem dX6_read_0 : decode cX6_read 0 = .ok (.aload_n 0, 1) := by decide +kernel
theorem dX6_read_1 : decode cX6_read 1 = .ok (.aload_n 2, 1) := by decide +kernel
theorem dX6_read_2 : decode cX6_read 2 = .ok (.putfield 30, 3) := by decide +kernel
theorem dX6_read_5 : decode cX6_read 5 = .ok (.aload_n 0, 1) := by decide +kernel
theorem dX6_read_6 : decode cX6_read 6 = .ok (.getfield 30, 3) := by decide +kernel
theorem dX6_read_9 : decode cX6_read 9 = .ok (.invokevirtual 34, 3) := by decide +kernel
theorem dX6_read_12 : decode cX6_read 12 = .ok (.aload_n 0, 1) := by decide +kernel
theorem dX6_read_13 : decode cX6_read 13 = .ok (.getfield 26, 3) := by decide +kernel
theorem dX6_read_16 : decode cX6_read 16 = .ok (.iload_n 1, 1) := by decide +kernel
theorem dX6_read_17 : decode cX6_read 17 = .ok (.invokevirtual 39, 3) := by decide +kernel
theorem dX6_read_20 : decode cX6_read 20 = .ok (.aload_n 0, 1) := by decide +kernel
theorem dX6_read_21 : decode cX6_read 21 = .ok (.iconst 0, 1) := by decide +kernel
theorem dX6_read_22 : decode cX6_read 22 = .ok (.putfield 43, 3) := by decide +kernel
theorem dX6_read_25 : decode cX6_read 25 = .ok (.aload_n 0, 1) := by decide +kernel
theorem dX6_read_26 : decode cX6_read 26 = .ok (.iconst 0, 1) := by decide +kernel
theorem dX6_read_27 : decode cX6_read 27 = .ok (.putfield 46, 3) := by decide +kernel
theorem dX6_read_30 : decode cX6_read 30 = .ok (.aload_n 0, 1) := by decide +kernel
theorem dX6_read_31 : decode cX6_read 31 = .ok (.iconst (-1), 1) := by decide +kernel
theorem dX6_read_32 : decode cX6_read 32 = .ok (.putfield 17, 3) := by decide +kernel
theorem dX6_read_35 : decode cX6_read 35 = .ok (.aload_n 0, 1) := by decide +kernel
theorem dX6_read_36 : decode cX6_read 36 = .ok (.getfield 26, 3) := by decide +kernel
theorem dX6_read_39 : decode cX6_read 39 = .ok (.invokevirtual 49, 3) := by decide +kernel
theorem dX6_read_42 : decode cX6_read 42 = .ok (.aload_n 0, 1) := by decide +kernel
theorem dX6_read_43 : decode cX6_read 43 = .ok (.getfield 26, 3) := by decide +kernel
theorem dX6_read_46 : decode cX6_read 46 = .ok (.getfield 52, 3) := by decide +kernel
theorem dX6_read_49 : decode cX6_read 49 = .ok (.bipush 35, 2) := by decide +kernel
theorem dX6_read_51 : decode cX6_read 51 = .ok (.if_icmp .eq 42, 3) := by decide +kernel
theorem dX6_read_54 : decode cX6_read 54 = .ok (.aload_n 0, 1) := by decide +kernel
theorem dX6_read_55 : decode cX6_read 55 = .ok (.getfield 43, 3) := by decide +kernel
theorem dX6_read_58 : decode cX6_read 58 = .ok (.sipush 700, 3) := by decide +kernel
theorem dX6_read_61 : decode cX6_read 61 = .ok (.if_icmp .ge 32, 3) := by decide +kernel
theorem dX6_read_64 : decode cX6_read 64 = .ok (.aload_n 0, 1) := by decide +kernel
theorem dX6_read_65 : decode cX6_read 65 = .ok (.invokevirtual 55, 3) := by decide +kernel
theorem dX6_read_68 : decode cX6_read 68 = .ok (.ifCond .ne 5, 3) := by decide +kernel
theorem dX6_read_71 : decode cX6_read 71 = .ok (.iconst 0, 1) := by decide +kernel
theorem dX6_read_72 : decode cX6_read 72 = .ok (.ireturn, 1) := by decide +kernel
theorem dX6_read_73 : decode cX6_read 73 = .ok (.aload_n 0, 1) := by decide +kernel
theorem dX6_read_74 : decode cX6_read 74 = .ok (.dup, 1) := by decide +kernel
theorem dX6_read_75 : decode cX6_read 75 = .ok (.getfield 43, 3) := by decide +kernel
theorem dX6_read_78 : decode cX6_read 78 = .ok (.iconst 1, 1) := by decide +kernel
theorem dX6_read_79 : decode cX6_read 79 = .ok (.iadd, 1) := by decide +kernel
theorem dX6_read_80 : decode cX6_read 80 = .ok (.putfield 43, 3) := by decide +kernel
theorem dX6_read_83 : decode cX6_read 83 = .ok (.aload_n 0, 1) := by decide +kernel
theorem dX6_read_84 : decode cX6_read 84 = .ok (.getfield 26, 3) := by decide +kernel
theorem dX6_read_87 : decode cX6_read 87 = .ok (.invokevirtual 49, 3) := by decide +kernel
theorem dX6_read_90 : decode cX6_read 90 = .ok (.goto (-48), 3) := by decide +kernel
theorem dX6_read_93 : decode cX6_read 93 = .ok (.aload_n 0, 1) := by decide +kernel
theorem dX6_read_94 : decode cX6_read 94 = .ok (.getfield 30, 3) := by decide +kernel
theorem dX6_read_97 : decode cX6_read 97 = .ok (.invokevirtual 59, 3) := by decide +kernel
theorem dX6_read_100 : decode cX6_read 100 = .ok (.iconst 1, 1) := by decide +kernel
theorem dX6_read_101 : decode cX6_read 101 = .ok (.ireturn, 1) := by decide +kernel
theorem dX6_readLine_0 : decode cX6_readLine 0 = .ok (.aload_n 0, 1) := by decide +kernel
theorem dX6_readLine_1 : decode cX6_readLine 1 = .ok (.getfield 26, 3) := by decide +kernel
theorem dX6_readLine_4 : decode cX6_readLine 4 = .ok (.getfield 52, 3) := by decide +kernel
theorem dX6_readLine_7 : decode cX6_readLine 7 = .ok (.tableswitch 166 0 6 #[41, 61, 81, 101, 121, 141, 161], 41) := by decide +kernel
theorem dX6_readLine_48 : decode cX6_readLine 48 = .ok (.aload_n 0, 1) := by decide +kernel
theorem dX6_readLine_49 : decode cX6_readLine 49 = .ok (.invokevirtual 62, 3) := by decide +kernel
theorem dX6_readLine_52 : decode cX6_readLine 52 = .ok (.ifCond .eq 14, 3) := by decide +kernel
theorem dX6_readLine_55 : decode cX6_readLine 55 = .ok (.aload_n 0, 1) := by decide +kernel
theorem dX6_readLine_56 : decode cX6_readLine 56 = .ok (.invokevirtual 65, 3) := by decide +kernel
theorem dX6_readLine_59 : decode cX6_readLine 59 = .ok (.ifCond .eq 7, 3) := by decide +kernel
theorem dX6_readLine_62 : decode cX6_readLine 62 = .ok (.iconst 1, 1) := by decide +kernel
theorem dX6_readLine_63 : decode cX6_readLine 63 = .ok (.goto 4, 3) := by decide +kernel
theorem dX6_readLine_66 : decode cX6_readLine 66 = .ok (.iconst 0, 1) := by decide +kernel
theorem dX6_readLine_67 : decode cX6_readLine 67 = .ok (.ireturn, 1) := by decide +kernel
theorem dX6_readLine_68 : decode cX6_readLine 68 = .ok (.aload_n 0, 1) := by decide +kernel
theorem dX6_readLine_69 : decode cX6_readLine 69 = .ok (.invokevirtual 68, 3) := by decide +kernel
theorem dX6_readLine_72 : decode cX6_readLine 72 = .ok (.ifCond .eq 14, 3) := by decide +kernel
theorem dX6_readLine_75 : decode cX6_readLine 75 = .ok (.aload_n 0, 1) := by decide +kernel
theorem dX6_readLine_76 : decode cX6_readLine 76 = .ok (.invokevirtual 65, 3) := by decide +kernel
theorem dX6_readLine_79 : decode cX6_readLine 79 = .ok (.ifCond .eq 7, 3) := by decide +kernel
theorem dX6_readLine_82 : decode cX6_readLine 82 = .ok (.iconst 1, 1) := by decide +kernel
theorem dX6_readLine_83 : decode cX6_readLine 83 = .ok (.goto 4, 3) := by decide +kernel
theorem dX6_readLine_86 : decode cX6_readLine 86 = .ok (.iconst 0, 1) := by decide +kernel
theorem dX6_readLine_87 : decode cX6_readLine 87 = .ok (.ireturn, 1) := by decide +kernel
theorem dX6_readLine_88 : decode cX6_readLine 88 = .ok (.aload_n 0, 1) := by decide +kernel
theorem dX6_readLine_89 : decode cX6_readLine 89 = .ok (.invokevirtual 71, 3) := by decide +kernel
theorem dX6_readLine_92 : decode cX6_readLine 92 = .ok (.ifCond .eq 14, 3) := by decide +kernel
theorem dX6_readLine_95 : decode cX6_readLine 95 = .ok (.aload_n 0, 1) := by decide +kernel
theorem dX6_readLine_96 : decode cX6_readLine 96 = .ok (.invokevirtual 65, 3) := by decide +kernel
theorem dX6_readLine_99 : decode cX6_readLine 99 = .ok (.ifCond .eq 7, 3) := by decide +kernel
theorem dX6_readLine_102 : decode cX6_readLine 102 = .ok (.iconst 1, 1) := by decide +kernel
theorem dX6_readLine_103 : decode cX6_readLine 103 = .ok (.goto 4, 3) := by decide +kernel
theorem dX6_readLine_106 : decode cX6_readLine 106 = .ok (.iconst 0, 1) := by decide +kernel
theorem dX6_readLine_107 : decode cX6_readLine 107 = .ok (.ireturn, 1) := by decide +kernel
theorem dX6_readLine_108 : decode cX6_readLine 108 = .ok (.aload_n 0, 1) := by decide +kernel
theorem dX6_readLine_109 : decode cX6_readLine 109 = .ok (.invokevirtual 74, 3) := by decide +kernel
theorem dX6_readLine_112 : decode cX6_readLine 112 = .ok (.ifCond .eq 14, 3) := by decide +kernel
theorem dX6_readLine_115 : decode cX6_readLine 115 = .ok (.aload_n 0, 1) := by decide +kernel
theorem dX6_readLine_116 : decode cX6_readLine 116 = .ok (.invokevirtual 65, 3) := by decide +kernel
theorem dX6_readLine_119 : decode cX6_readLine 119 = .ok (.ifCond .eq 7, 3) := by decide +kernel
theorem dX6_readLine_122 : decode cX6_readLine 122 = .ok (.iconst 1, 1) := by decide +kernel
theorem dX6_readLine_123 : decode cX6_readLine 123 = .ok (.goto 4, 3) := by decide +kernel
theorem dX6_readLine_126 : decode cX6_readLine 126 = .ok (.iconst 0, 1) := by decide +kernel
theorem dX6_readLine_127 : decode cX6_readLine 127 = .ok (.ireturn, 1) := by decide +kernel
theorem dX6_readLine_128 : decode cX6_readLine 128 = .ok (.aload_n 0, 1) := by decide +kernel
theorem dX6_readLine_129 : decode cX6_readLine 129 = .ok (.invokevirtual 77, 3) := by decide +kernel
theorem dX6_readLine_132 : decode cX6_readLine 132 = .ok (.ifCond .eq 14, 3) := by decide +kernel
theorem dX6_readLine_135 : decode cX6_readLine 135 = .ok (.aload_n 0, 1) := by decide +kernel
theorem dX6_readLine_136 : decode cX6_readLine 136 = .ok (.invokevirtual 65, 3) := by decide +kernel
theorem dX6_readLine_139 : decode cX6_readLine 139 = .ok (.ifCond .eq 7, 3) := by decide +kernel
theorem dX6_readLine_142 : decode cX6_readLine 142 = .ok (.iconst 1, 1) := by decide +kernel
theorem dX6_readLine_143 : decode cX6_readLine 143 = .ok (.goto 4, 3) := by decide +kernel
theorem dX6_readLine_146 : decode cX6_readLine 146 = .ok (.iconst 0, 1) := by decide +kernel
theorem dX6_readLine_147 : decode cX6_readLine 147 = .ok (.ireturn, 1) := by decide +kernel
theorem dX6_readLine_148 : decode cX6_readLine 148 = .ok (.aload_n 0, 1) := by decide +kernel
theorem dX6_readLine_149 : decode cX6_readLine 149 = .ok (.invokevirtual 80, 3) := by decide +kernel
theorem dX6_readLine_152 : decode cX6_readLine 152 = .ok (.ifCond .eq 14, 3) := by decide +kernel
theorem dX6_readLine_155 : decode cX6_readLine 155 = .ok (.aload_n 0, 1) := by decide +kernel
theorem dX6_readLine_156 : decode cX6_readLine 156 = .ok (.invokevirtual 65, 3) := by decide +kernel
theorem dX6_readLine_159 : decode cX6_readLine 159 = .ok (.ifCond .eq 7, 3) := by decide +kernel
theorem dX6_readLine_162 : decode cX6_readLine 162 = .ok (.iconst 1, 1) := by decide +kernel
theorem dX6_readLine_163 : decode cX6_readLine 163 = .ok (.goto 4, 3) := by decide +kernel
theorem dX6_readLine_166 : decode cX6_readLine 166 = .ok (.iconst 0, 1) := by decide +kernel
theorem dX6_readLine_167 : decode cX6_readLine 167 = .ok (.ireturn, 1) := by decide +kernel
theorem dX6_readLine_168 : decode cX6_readLine 168 = .ok (.aload_n 0, 1) := by decide +kernel
theorem dX6_readLine_169 : decode cX6_readLine 169 = .ok (.invokevirtual 83, 3) := by decide +kernel
theorem dX6_readLine_172 : decode cX6_readLine 172 = .ok (.ireturn, 1) := by decide +kernel
theorem dX6_readLine_173 : decode cX6_readLine 173 = .ok (.aload_n 0, 1) := by decide +kernel
theorem dX6_readLine_174 : decode cX6_readLine 174 = .ok (.iconst 1, 1) := by decide +kernel
theorem dX6_readLine_175 : decode cX6_readLine 175 = .ok (.invokevirtual 86, 3) := by decide +kernel
theorem dX6_readLine_178 : decode cX6_readLine 178 = .ok (.ireturn, 1) := by decide +kernel
theorem dX6_fails_0 : decode cX6_fails 0 = .ok (.aload_n 0, 1) := by decide +kernel
theorem dX6_fails_1 : decode cX6_fails 1 = .ok (.iload_n 1, 1) := by decide +kernel
theorem dX6_fails_2 : decode cX6_fails 2 = .ok (.putfield 46, 3) := by decide +kernel
theorem dX6_fails_5 : decode cX6_fails 5 = .ok (.aload_n 0, 1) := by decide +kernel
theorem dX6_fails_6 : decode cX6_fails 6 = .ok (.aload_n 0, 1) := by decide +kernel
theorem dX6_fails_7 : decode cX6_fails 7 = .ok (.getfield 26, 3) := by decide +kernel
theorem dX6_fails_10 : decode cX6_fails 10 = .ok (.getfield 90, 3) := by decide +kernel
theorem dX6_fails_13 : decode cX6_fails 13 = .ok (.putfield 17, 3) := by decide +kernel
theorem dX6_fails_16 : decode cX6_fails 16 = .ok (.iconst 0, 1) := by decide +kernel
theorem dX6_fails_17 : decode cX6_fails 17 = .ok (.ireturn, 1) := by decide +kernel
theorem dX6_isEnd_0 : decode cX6_isEnd 0 = .ok (.aload_n 0, 1) := by decide +kernel
theorem dX6_isEnd_1 : decode cX6_isEnd 1 = .ok (.getfield 26, 3) := by decide +kernel
theorem dX6_isEnd_4 : decode cX6_isEnd 4 = .ok (.invokevirtual 49, 3) := by decide +kernel
theorem dX6_isEnd_7 : decode cX6_isEnd 7 = .ok (.aload_n 0, 1) := by decide +kernel
theorem dX6_isEnd_8 : decode cX6_isEnd 8 = .ok (.getfield 26, 3) := by decide +kernel
theorem dX6_isEnd_11 : decode cX6_isEnd 11 = .ok (.getfield 52, 3) := by decide +kernel
theorem dX6_isEnd_14 : decode cX6_isEnd 14 = .ok (.bipush 20, 2) := by decide +kernel
theorem dX6_isEnd_16 : decode cX6_isEnd 16 = .ok (.if_icmp .eq 11, 3) := by decide +kernel
theorem dX6_isEnd_19 : decode cX6_isEnd 19 = .ok (.aload_n 0, 1) := by decide +kernel
theorem dX6_isEnd_20 : decode cX6_isEnd 20 = .ok (.iconst 1, 1) := by decide +kernel
theorem dX6_isEnd_21 : decode cX6_isEnd 21 = .ok (.invokevirtual 86, 3) := by decide +kernel
theorem dX6_isEnd_24 : decode cX6_isEnd 24 = .ok (.ifCond .eq 7, 3) := by decide +kernel
theorem dX6_isEnd_27 : decode cX6_isEnd 27 = .ok (.iconst 1, 1) := by decide +kernel
theorem dX6_isEnd_28 : decode cX6_isEnd 28 = .ok (.goto 4, 3) := by decide +kernel
theorem dX6_isEnd_31 : decode cX6_isEnd 31 = .ok (.iconst 0, 1) := by decide +kernel
theorem dX6_isEnd_32 : decode cX6_isEnd 32 = .ok (.ireturn, 1) := by decide +kernel
theorem dX6_isWord_0 : decode cX6_isWord 0 = .ok (.aload_n 0, 1) := by decide +kernel
theorem dX6_isWord_1 : decode cX6_isWord 1 = .ok (.getfield 26, 3) := by decide +kernel
theorem dX6_isWord_4 : decode cX6_isWord 4 = .ok (.invokevirtual 49, 3) := by decide +kernel
theorem dX6_isWord_7 : decode cX6_isWord 7 = .ok (.aload_n 0, 1) := by decide +kernel
theorem dX6_isWord_8 : decode cX6_isWord 8 = .ok (.getfield 26, 3) := by decide +kernel
theorem dX6_isWord_11 : decode cX6_isWord 11 = .ok (.getfield 52, 3) := by decide +kernel
theorem dX6_isWord_14 : decode cX6_isWord 14 = .ok (.bipush 34, 2) := by decide +kernel
theorem dX6_isWord_16 : decode cX6_isWord 16 = .ok (.if_icmp .eq 11, 3) := by decide +kernel
theorem dX6_isWord_19 : decode cX6_isWord 19 = .ok (.aload_n 0, 1) := by decide +kernel
theorem dX6_isWord_20 : decode cX6_isWord 20 = .ok (.iconst 1, 1) := by decide +kernel
theorem dX6_isWord_21 : decode cX6_isWord 21 = .ok (.invokevirtual 86, 3) := by decide +kernel
theorem dX6_isWord_24 : decode cX6_isWord 24 = .ok (.ifCond .eq 7, 3) := by decide +kernel
theorem dX6_isWord_27 : decode cX6_isWord 27 = .ok (.iconst 1, 1) := by decide +kernel
theorem dX6_isWord_28 : decode cX6_isWord 28 = .ok (.goto 4, 3) := by decide +kernel
theorem dX6_isWord_31 : decode cX6_isWord 31 = .ok (.iconst 0, 1) := by decide +kernel
theorem dX6_isWord_32 : decode cX6_isWord 32 = .ok (.ireturn, 1) := by decide +kernel
theorem dX6_isNumber_0 : decode cX6_isNumber 0 = .ok (.aload_n 0, 1) := by decide +kernel
theorem dX6_isNumber_1 : decode cX6_isNumber 1 = .ok (.getfield 26, 3) := by decide +kernel
theorem dX6_isNumber_4 : decode cX6_isNumber 4 = .ok (.invokevirtual 49, 3) := by decide +kernel
theorem dX6_isNumber_7 : decode cX6_isNumber 7 = .ok (.aload_n 0, 1) := by decide +kernel
theorem dX6_isNumber_8 : decode cX6_isNumber 8 = .ok (.getfield 26, 3) := by decide +kernel
theorem dX6_isNumber_11 : decode cX6_isNumber 11 = .ok (.getfield 52, 3) := by decide +kernel
theorem dX6_isNumber_14 : decode cX6_isNumber 14 = .ok (.bipush 33, 2) := by decide +kernel
theorem dX6_isNumber_16 : decode cX6_isNumber 16 = .ok (.if_icmp .eq 9, 3) := by decide +kernel
theorem dX6_isNumber_19 : decode cX6_isNumber 19 = .ok (.aload_n 0, 1) := by decide +kernel
theorem dX6_isNumber_20 : decode cX6_isNumber 20 = .ok (.iconst 1, 1) := by decide +kernel
theorem dX6_isNumber_21 : decode cX6_isNumber 21 = .ok (.invokevirtual 86, 3) := by decide +kernel
theorem dX6_isNumber_24 : decode cX6_isNumber 24 = .ok (.ireturn, 1) := by decide +kernel
theorem dX6_isNumber_25 : decode cX6_isNumber 25 = .ok (.aload_n 0, 1) := by decide +kernel
theorem dX6_isNumber_26 : decode cX6_isNumber 26 = .ok (.getfield 26, 3) := by decide +kernel
theorem dX6_isNumber_29 : decode cX6_isNumber 29 = .ok (.getfield 93, 3) := by decide +kernel
theorem dX6_isNumber_32 : decode cX6_isNumber 32 = .ok (.iload_n 1, 1) := by decide +kernel
theorem dX6_isNumber_33 : decode cX6_isNumber 33 = .ok (.iload_n 2, 1) := by decide +kernel
theorem dX6_isNumber_34 : decode cX6_isNumber 34 = .ok (.invokestatic 96, 3) := by decide +kernel
theorem dX6_isNumber_37 : decode cX6_isNumber 37 = .ok (.ifCond .ne 11, 3) := by decide +kernel
theorem dX6_isNumber_40 : decode cX6_isNumber 40 = .ok (.aload_n 0, 1) := by decide +kernel
theorem dX6_isNumber_41 : decode cX6_isNumber 41 = .ok (.iconst 2, 1) := by decide +kernel
theorem dX6_isNumber_42 : decode cX6_isNumber 42 = .ok (.invokevirtual 86, 3) := by decide +kernel
theorem dX6_isNumber_45 : decode cX6_isNumber 45 = .ok (.ifCond .eq 7, 3) := by decide +kernel
theorem dX6_isNumber_48 : decode cX6_isNumber 48 = .ok (.iconst 1, 1) := by decide +kernel
theorem dX6_isNumber_49 : decode cX6_isNumber 49 = .ok (.goto 4, 3) := by decide +kernel
theorem dX6_isNumber_52 : decode cX6_isNumber 52 = .ok (.iconst 0, 1) := by decide +kernel
theorem dX6_isNumber_53 : decode cX6_isNumber 53 = .ok (.ireturn, 1) := by decide +kernel
theorem dX6_readKind_0 : decode cX6_readKind 0 = .ok (.aload_n 0, 1) := by decide +kernel
theorem dX6_readKind_1 : decode cX6_readKind 1 = .ok (.getfield 30, 3) := by decide +kernel
theorem dX6_readKind_4 : decode cX6_readKind 4 = .ok (.getfield 100, 3) := by decide +kernel
theorem dX6_readKind_7 : decode cX6_readKind 7 = .ok (.istore_n 1, 1) := by decide +kernel
theorem dX6_readKind_8 : decode cX6_readKind 8 = .ok (.iload_n 1, 1) := by decide +kernel
theorem dX6_readKind_9 : decode cX6_readKind 9 = .ok (.bipush 6, 2) := by decide +kernel
theorem dX6_readKind_11 : decode cX6_readKind 11 = .ok (.if_icmp .lt 9, 3) := by decide +kernel
theorem dX6_readKind_14 : decode cX6_readKind 14 = .ok (.aload_n 0, 1) := by decide +kernel
theorem dX6_readKind_15 : decode cX6_readKind 15 = .ok (.iconst 2, 1) := by decide +kernel
theorem dX6_readKind_16 : decode cX6_readKind 16 = .ok (.invokevirtual 86, 3) := by decide +kernel
theorem dX6_readKind_19 : decode cX6_readKind 19 = .ok (.ireturn, 1) := by decide +kernel
theorem dX6_readKind_20 : decode cX6_readKind 20 = .ok (.aload_n 0, 1) := by decide +kernel
theorem dX6_readKind_21 : decode cX6_readKind 21 = .ok (.invokevirtual 103, 3) := by decide +kernel
theorem dX6_readKind_24 : decode cX6_readKind 24 = .ok (.ifCond .ne 5, 3) := by decide +kernel
theorem dX6_readKind_27 : decode cX6_readKind 27 = .ok (.iconst 0, 1) := by decide +kernel
theorem dX6_readKind_28 : decode cX6_readKind 28 = .ok (.ireturn, 1) := by decide +kernel
theorem dX6_readKind_29 : decode cX6_readKind 29 = .ok (.aload_n 0, 1) := by decide +kernel
theorem dX6_readKind_30 : decode cX6_readKind 30 = .ok (.getfield 30, 3) := by decide +kernel
theorem dX6_readKind_33 : decode cX6_readKind 33 = .ok (.aload_n 0, 1) := by decide +kernel
theorem dX6_readKind_34 : decode cX6_readKind 34 = .ok (.getfield 26, 3) := by decide +kernel
theorem dX6_readKind_37 : decode cX6_readKind 37 = .ok (.getfield 93, 3) := by decide +kernel
theorem dX6_readKind_40 : decode cX6_readKind 40 = .ok (.invokevirtual 106, 3) := by decide +kernel
theorem dX6_readKind_43 : decode cX6_readKind 43 = .ok (.iconst (-1), 1) := by decide +kernel
theorem dX6_readKind_44 : decode cX6_readKind 44 = .ok (.if_icmp .eq 9, 3) := by decide +kernel
theorem dX6_readKind_47 : decode cX6_readKind 47 = .ok (.aload_n 0, 1) := by decide +kernel
theorem dX6_readKind_48 : decode cX6_readKind 48 = .ok (.iconst 3, 1) := by decide +kernel
theorem dX6_readKind_49 : decode cX6_readKind 49 = .ok (.invokevirtual 86, 3) := by decide +kernel
theorem dX6_readKind_52 : decode cX6_readKind 52 = .ok (.ireturn, 1) := by decide +kernel
theorem dX6_readKind_53 : decode cX6_readKind 53 = .ok (.aload_n 0, 1) := by decide +kernel
theorem dX6_readKind_54 : decode cX6_readKind 54 = .ok (.getfield 30, 3) := by decide +kernel
theorem dX6_readKind_57 : decode cX6_readKind 57 = .ok (.getfield 110, 3) := by decide +kernel
theorem dX6_readKind_60 : decode cX6_readKind 60 = .ok (.iload_n 1, 1) := by decide +kernel
theorem dX6_readKind_61 : decode cX6_readKind 61 = .ok (.aload_n 0, 1) := by decide +kernel
theorem dX6_readKind_62 : decode cX6_readKind 62 = .ok (.getfield 26, 3) := by decide +kernel
theorem dX6_readKind_65 : decode cX6_readKind 65 = .ok (.getfield 93, 3) := by decide +kernel
theorem dX6_readKind_68 : decode cX6_readKind 68 = .ok (.iastore, 1) := by decide +kernel
theorem dX6_readKind_69 : decode cX6_readKind 69 = .ok (.aload_n 0, 1) := by decide +kernel
theorem dX6_readKind_70 : decode cX6_readKind 70 = .ok (.iconst 0, 1) := by decide +kernel
theorem dX6_readKind_71 : decode cX6_readKind 71 = .ok (.bipush 99, 2) := by decide +kernel
theorem dX6_readKind_73 : decode cX6_readKind 73 = .ok (.invokevirtual 113, 3) := by decide +kernel
theorem dX6_readKind_76 : decode cX6_readKind 76 = .ok (.ifCond .ne 5, 3) := by decide +kernel
theorem dX6_readKind_79 : decode cX6_readKind 79 = .ok (.iconst 0, 1) := by decide +kernel
theorem dX6_readKind_80 : decode cX6_readKind 80 = .ok (.ireturn, 1) := by decide +kernel
theorem dX6_readKind_81 : decode cX6_readKind 81 = .ok (.aload_n 0, 1) := by decide +kernel
theorem dX6_readKind_82 : decode cX6_readKind 82 = .ok (.getfield 30, 3) := by decide +kernel
theorem dX6_readKind_85 : decode cX6_readKind 85 = .ok (.getfield 117, 3) := by decide +kernel
theorem dX6_readKind_88 : decode cX6_readKind 88 = .ok (.iload_n 1, 1) := by decide +kernel
theorem dX6_readKind_89 : decode cX6_readKind 89 = .ok (.aload_n 0, 1) := by decide +kernel
theorem dX6_readKind_90 : decode cX6_readKind 90 = .ok (.getfield 26, 3) := by decide +kernel
theorem dX6_readKind_93 : decode cX6_readKind 93 = .ok (.getfield 93, 3) := by decide +kernel
theorem dX6_readKind_96 : decode cX6_readKind 96 = .ok (.iastore, 1) := by decide +kernel
theorem dX6_readKind_97 : decode cX6_readKind 97 = .ok (.aload_n 0, 1) := by decide +kernel
theorem dX6_readKind_98 : decode cX6_readKind 98 = .ok (.iconst 0, 1) := by decide +kernel
theorem dX6_readKind_99 : decode cX6_readKind 99 = .ok (.bipush 99, 2) := by decide +kernel
theorem dX6_readKind_101 : decode cX6_readKind 101 = .ok (.invokevirtual 113, 3) := by decide +kernel
theorem dX6_readKind_104 : decode cX6_readKind 104 = .ok (.ifCond .ne 5, 3) := by decide +kernel
theorem dX6_readKind_107 : decode cX6_readKind 107 = .ok (.iconst 0, 1) := by decide +kernel
theorem dX6_readKind_108 : decode cX6_readKind 108 = .ok (.ireturn, 1) := by decide +kernel
theorem dX6_readKind_109 : decode cX6_readKind 109 = .ok (.aload_n 0, 1) := by decide +kernel
theorem dX6_readKind_110 : decode cX6_readKind 110 = .ok (.getfield 30, 3) := by decide +kernel
theorem dX6_readKind_113 : decode cX6_readKind 113 = .ok (.getfield 120, 3) := by decide +kernel
theorem dX6_readKind_116 : decode cX6_readKind 116 = .ok (.iload_n 1, 1) := by decide +kernel
theorem dX6_readKind_117 : decode cX6_readKind 117 = .ok (.aload_n 0, 1) := by decide +kernel
theorem dX6_readKind_118 : decode cX6_readKind 118 = .ok (.getfield 26, 3) := by decide +kernel
theorem dX6_readKind_121 : decode cX6_readKind 121 = .ok (.getfield 93, 3) := by decide +kernel
theorem dX6_readKind_124 : decode cX6_readKind 124 = .ok (.iastore, 1) := by decide +kernel
theorem dX6_readKind_125 : decode cX6_readKind 125 = .ok (.aload_n 0, 1) := by decide +kernel
theorem dX6_readKind_126 : decode cX6_readKind 126 = .ok (.getfield 30, 3) := by decide +kernel
theorem dX6_readKind_129 : decode cX6_readKind 129 = .ok (.dup, 1) := by decide +kernel
theorem dX6_readKind_130 : decode cX6_readKind 130 = .ok (.getfield 100, 3) := by decide +kernel
theorem dX6_readKind_133 : decode cX6_readKind 133 = .ok (.iconst 1, 1) := by decide +kernel
theorem dX6_readKind_134 : decode cX6_readKind 134 = .ok (.iadd, 1) := by decide +kernel
theorem dX6_readKind_135 : decode cX6_readKind 135 = .ok (.putfield 100, 3) := by decide +kernel
theorem dX6_readKind_138 : decode cX6_readKind 138 = .ok (.iconst 1, 1) := by decide +kernel
theorem dX6_readKind_139 : decode cX6_readKind 139 = .ok (.ireturn, 1) := by decide +kernel
theorem dX6_readHouse_0 : decode cX6_readHouse 0 = .ok (.aload_n 0, 1) := by decide +kernel
theorem dX6_readHouse_1 : decode cX6_readHouse 1 = .ok (.getfield 30, 3) := by decide +kernel
theorem dX6_readHouse_4 : decode cX6_readHouse 4 = .ok (.getfield 123, 3) := by decide +kernel
theorem dX6_readHouse_7 : decode cX6_readHouse 7 = .ok (.istore_n 1, 1) := by decide +kernel
theorem dX6_readHouse_8 : decode cX6_readHouse 8 = .ok (.iload_n 1, 1) := by decide +kernel
theorem dX6_readHouse_9 : decode cX6_readHouse 9 = .ok (.bipush 6, 2) := by decide +kernel
theorem dX6_readHouse_11 : decode cX6_readHouse 11 = .ok (.if_icmp .lt 9, 3) := by decide +kernel
theorem dX6_readHouse_14 : decode cX6_readHouse 14 = .ok (.aload_n 0, 1) := by decide +kernel
theorem dX6_readHouse_15 : decode cX6_readHouse 15 = .ok (.iconst 2, 1) := by decide +kernel
theorem dX6_readHouse_16 : decode cX6_readHouse 16 = .ok (.invokevirtual 86, 3) := by decide +kernel
theorem dX6_readHouse_19 : decode cX6_readHouse 19 = .ok (.ireturn, 1) := by decide +kernel
theorem dX6_readHouse_20 : decode cX6_readHouse 20 = .ok (.aload_n 0, 1) := by decide +kernel
theorem dX6_readHouse_21 : decode cX6_readHouse 21 = .ok (.invokevirtual 103, 3) := by decide +kernel
theorem dX6_readHouse_24 : decode cX6_readHouse 24 = .ok (.ifCond .ne 5, 3) := by decide +kernel
theorem dX6_readHouse_27 : decode cX6_readHouse 27 = .ok (.iconst 0, 1) := by decide +kernel
theorem dX6_readHouse_28 : decode cX6_readHouse 28 = .ok (.ireturn, 1) := by decide +kernel
theorem dX6_readHouse_29 : decode cX6_readHouse 29 = .ok (.aload_n 0, 1) := by decide +kernel
theorem dX6_readHouse_30 : decode cX6_readHouse 30 = .ok (.getfield 30, 3) := by decide +kernel
theorem dX6_readHouse_33 : decode cX6_readHouse 33 = .ok (.aload_n 0, 1) := by decide +kernel
theorem dX6_readHouse_34 : decode cX6_readHouse 34 = .ok (.getfield 26, 3) := by decide +kernel
theorem dX6_readHouse_37 : decode cX6_readHouse 37 = .ok (.getfield 93, 3) := by decide +kernel
theorem dX6_readHouse_40 : decode cX6_readHouse 40 = .ok (.invokevirtual 126, 3) := by decide +kernel
theorem dX6_readHouse_43 : decode cX6_readHouse 43 = .ok (.iconst (-1), 1) := by decide +kernel
theorem dX6_readHouse_44 : decode cX6_readHouse 44 = .ok (.if_icmp .eq 9, 3) := by decide +kernel
theorem dX6_readHouse_47 : decode cX6_readHouse 47 = .ok (.aload_n 0, 1) := by decide +kernel
theorem dX6_readHouse_48 : decode cX6_readHouse 48 = .ok (.iconst 3, 1) := by decide +kernel
theorem dX6_readHouse_49 : decode cX6_readHouse 49 = .ok (.invokevirtual 86, 3) := by decide +kernel
theorem dX6_readHouse_52 : decode cX6_readHouse 52 = .ok (.ireturn, 1) := by decide +kernel
theorem dX6_readHouse_53 : decode cX6_readHouse 53 = .ok (.aload_n 0, 1) := by decide +kernel
theorem dX6_readHouse_54 : decode cX6_readHouse 54 = .ok (.getfield 30, 3) := by decide +kernel
theorem dX6_readHouse_57 : decode cX6_readHouse 57 = .ok (.getfield 129, 3) := by decide +kernel
theorem dX6_readHouse_60 : decode cX6_readHouse 60 = .ok (.iload_n 1, 1) := by decide +kernel
theorem dX6_readHouse_61 : decode cX6_readHouse 61 = .ok (.aload_n 0, 1) := by decide +kernel
theorem dX6_readHouse_62 : decode cX6_readHouse 62 = .ok (.getfield 26, 3) := by decide +kernel
theorem dX6_readHouse_65 : decode cX6_readHouse 65 = .ok (.getfield 93, 3) := by decide +kernel
theorem dX6_readHouse_68 : decode cX6_readHouse 68 = .ok (.iastore, 1) := by decide +kernel
theorem dX6_readHouse_69 : decode cX6_readHouse 69 = .ok (.aload_n 0, 1) := by decide +kernel
theorem dX6_readHouse_70 : decode cX6_readHouse 70 = .ok (.iconst 0, 1) := by decide +kernel
theorem dX6_readHouse_71 : decode cX6_readHouse 71 = .ok (.sipush 999, 3) := by decide +kernel
theorem dX6_readHouse_74 : decode cX6_readHouse 74 = .ok (.invokevirtual 113, 3) := by decide +kernel
theorem dX6_readHouse_77 : decode cX6_readHouse 77 = .ok (.ifCond .ne 5, 3) := by decide +kernel
theorem dX6_readHouse_80 : decode cX6_readHouse 80 = .ok (.iconst 0, 1) := by decide +kernel
theorem dX6_readHouse_81 : decode cX6_readHouse 81 = .ok (.ireturn, 1) := by decide +kernel
theorem dX6_readHouse_82 : decode cX6_readHouse 82 = .ok (.aload_n 0, 1) := by decide +kernel
theorem dX6_readHouse_83 : decode cX6_readHouse 83 = .ok (.getfield 30, 3) := by decide +kernel
theorem dX6_readHouse_86 : decode cX6_readHouse 86 = .ok (.getfield 132, 3) := by decide +kernel
theorem dX6_readHouse_89 : decode cX6_readHouse 89 = .ok (.iload_n 1, 1) := by decide +kernel
theorem dX6_readHouse_90 : decode cX6_readHouse 90 = .ok (.aload_n 0, 1) := by decide +kernel
theorem dX6_readHouse_91 : decode cX6_readHouse 91 = .ok (.getfield 26, 3) := by decide +kernel
theorem dX6_readHouse_94 : decode cX6_readHouse 94 = .ok (.getfield 93, 3) := by decide +kernel
theorem dX6_readHouse_97 : decode cX6_readHouse 97 = .ok (.iastore, 1) := by decide +kernel
theorem dX6_readHouse_98 : decode cX6_readHouse 98 = .ok (.aload_n 0, 1) := by decide +kernel
theorem dX6_readHouse_99 : decode cX6_readHouse 99 = .ok (.iconst 0, 1) := by decide +kernel
theorem dX6_readHouse_100 : decode cX6_readHouse 100 = .ok (.bipush 9, 2) := by decide +kernel
theorem dX6_readHouse_102 : decode cX6_readHouse 102 = .ok (.invokevirtual 113, 3) := by decide +kernel
theorem dX6_readHouse_105 : decode cX6_readHouse 105 = .ok (.ifCond .ne 5, 3) := by decide +kernel
theorem dX6_readHouse_108 : decode cX6_readHouse 108 = .ok (.iconst 0, 1) := by decide +kernel
theorem dX6_readHouse_109 : decode cX6_readHouse 109 = .ok (.ireturn, 1) := by decide +kernel
theorem dX6_readHouse_110 : decode cX6_readHouse 110 = .ok (.aload_n 0, 1) := by decide +kernel
theorem dX6_readHouse_111 : decode cX6_readHouse 111 = .ok (.getfield 30, 3) := by decide +kernel
theorem dX6_readHouse_114 : decode cX6_readHouse 114 = .ok (.getfield 135, 3) := by decide +kernel
theorem dX6_readHouse_117 : decode cX6_readHouse 117 = .ok (.iload_n 1, 1) := by decide +kernel
theorem dX6_readHouse_118 : decode cX6_readHouse 118 = .ok (.aload_n 0, 1) := by decide +kernel
theorem dX6_readHouse_119 : decode cX6_readHouse 119 = .ok (.getfield 26, 3) := by decide +kernel
theorem dX6_readHouse_122 : decode cX6_readHouse 122 = .ok (.getfield 93, 3) := by decide +kernel
theorem dX6_readHouse_125 : decode cX6_readHouse 125 = .ok (.iastore, 1) := by decide +kernel
theorem dX6_readHouse_126 : decode cX6_readHouse 126 = .ok (.aload_n 0, 1) := by decide +kernel
theorem dX6_readHouse_127 : decode cX6_readHouse 127 = .ok (.iconst 0, 1) := by decide +kernel
theorem dX6_readHouse_128 : decode cX6_readHouse 128 = .ok (.bipush 99, 2) := by decide +kernel
theorem dX6_readHouse_130 : decode cX6_readHouse 130 = .ok (.invokevirtual 113, 3) := by decide +kernel
theorem dX6_readHouse_133 : decode cX6_readHouse 133 = .ok (.ifCond .ne 5, 3) := by decide +kernel
theorem dX6_readHouse_136 : decode cX6_readHouse 136 = .ok (.iconst 0, 1) := by decide +kernel
theorem dX6_readHouse_137 : decode cX6_readHouse 137 = .ok (.ireturn, 1) := by decide +kernel
theorem dX6_readHouse_138 : decode cX6_readHouse 138 = .ok (.aload_n 0, 1) := by decide +kernel
theorem dX6_readHouse_139 : decode cX6_readHouse 139 = .ok (.getfield 30, 3) := by decide +kernel
theorem dX6_readHouse_142 : decode cX6_readHouse 142 = .ok (.getfield 138, 3) := by decide +kernel
theorem dX6_readHouse_145 : decode cX6_readHouse 145 = .ok (.iload_n 1, 1) := by decide +kernel
theorem dX6_readHouse_146 : decode cX6_readHouse 146 = .ok (.aload_n 0, 1) := by decide +kernel
theorem dX6_readHouse_147 : decode cX6_readHouse 147 = .ok (.getfield 26, 3) := by decide +kernel
theorem dX6_readHouse_150 : decode cX6_readHouse 150 = .ok (.getfield 93, 3) := by decide +kernel
theorem dX6_readHouse_153 : decode cX6_readHouse 153 = .ok (.iastore, 1) := by decide +kernel
theorem dX6_readHouse_154 : decode cX6_readHouse 154 = .ok (.aload_n 0, 1) := by decide +kernel
theorem dX6_readHouse_155 : decode cX6_readHouse 155 = .ok (.getfield 30, 3) := by decide +kernel
theorem dX6_readHouse_158 : decode cX6_readHouse 158 = .ok (.dup, 1) := by decide +kernel
theorem dX6_readHouse_159 : decode cX6_readHouse 159 = .ok (.getfield 123, 3) := by decide +kernel
theorem dX6_readHouse_162 : decode cX6_readHouse 162 = .ok (.iconst 1, 1) := by decide +kernel
theorem dX6_readHouse_163 : decode cX6_readHouse 163 = .ok (.iadd, 1) := by decide +kernel
theorem dX6_readHouse_164 : decode cX6_readHouse 164 = .ok (.putfield 123, 3) := by decide +kernel
theorem dX6_readHouse_167 : decode cX6_readHouse 167 = .ok (.iconst 1, 1) := by decide +kernel
theorem dX6_readHouse_168 : decode cX6_readHouse 168 = .ok (.ireturn, 1) := by decide +kernel
theorem dX6_readDay_0 : decode cX6_readDay 0 = .ok (.aload_n 0, 1) := by decide +kernel
theorem dX6_readDay_1 : decode cX6_readDay 1 = .ok (.getfield 30, 3) := by decide +kernel
theorem dX6_readDay_4 : decode cX6_readDay 4 = .ok (.getfield 141, 3) := by decide +kernel
theorem dX6_readDay_7 : decode cX6_readDay 7 = .ok (.bipush 20, 2) := by decide +kernel
theorem dX6_readDay_9 : decode cX6_readDay 9 = .ok (.if_icmp .lt 9, 3) := by decide +kernel
theorem dX6_readDay_12 : decode cX6_readDay 12 = .ok (.aload_n 0, 1) := by decide +kernel
theorem dX6_readDay_13 : decode cX6_readDay 13 = .ok (.iconst 2, 1) := by decide +kernel
theorem dX6_readDay_14 : decode cX6_readDay 14 = .ok (.invokevirtual 86, 3) := by decide +kernel
theorem dX6_readDay_17 : decode cX6_readDay 17 = .ok (.ireturn, 1) := by decide +kernel
theorem dX6_readDay_18 : decode cX6_readDay 18 = .ok (.aload_n 0, 1) := by decide +kernel
theorem dX6_readDay_19 : decode cX6_readDay 19 = .ok (.iconst 0, 1) := by decide +kernel
theorem dX6_readDay_20 : decode cX6_readDay 20 = .ok (.bipush 99, 2) := by decide +kernel
theorem dX6_readDay_22 : decode cX6_readDay 22 = .ok (.invokevirtual 113, 3) := by decide +kernel
theorem dX6_readDay_25 : decode cX6_readDay 25 = .ok (.ifCond .ne 5, 3) := by decide +kernel
theorem dX6_readDay_28 : decode cX6_readDay 28 = .ok (.iconst 0, 1) := by decide +kernel
theorem dX6_readDay_29 : decode cX6_readDay 29 = .ok (.ireturn, 1) := by decide +kernel
theorem dX6_readDay_30 : decode cX6_readDay 30 = .ok (.aload_n 0, 1) := by decide +kernel
theorem dX6_readDay_31 : decode cX6_readDay 31 = .ok (.getfield 26, 3) := by decide +kernel
theorem dX6_readDay_34 : decode cX6_readDay 34 = .ok (.getfield 93, 3) := by decide +kernel
theorem dX6_readDay_37 : decode cX6_readDay 37 = .ok (.istore_n 1, 1) := by decide +kernel
theorem dX6_readDay_38 : decode cX6_readDay 38 = .ok (.aload_n 0, 1) := by decide +kernel
theorem dX6_readDay_39 : decode cX6_readDay 39 = .ok (.getfield 30, 3) := by decide +kernel
theorem dX6_readDay_42 : decode cX6_readDay 42 = .ok (.iload_n 1, 1) := by decide +kernel
theorem dX6_readDay_43 : decode cX6_readDay 43 = .ok (.invokevirtual 144, 3) := by decide +kernel
theorem dX6_readDay_46 : decode cX6_readDay 46 = .ok (.iconst (-1), 1) := by decide +kernel
theorem dX6_readDay_47 : decode cX6_readDay 47 = .ok (.if_icmp .eq 9, 3) := by decide +kernel
theorem dX6_readDay_50 : decode cX6_readDay 50 = .ok (.aload_n 0, 1) := by decide +kernel
theorem dX6_readDay_51 : decode cX6_readDay 51 = .ok (.iconst 3, 1) := by decide +kernel
theorem dX6_readDay_52 : decode cX6_readDay 52 = .ok (.invokevirtual 86, 3) := by decide +kernel
theorem dX6_readDay_55 : decode cX6_readDay 55 = .ok (.ireturn, 1) := by decide +kernel
theorem dX6_readDay_56 : decode cX6_readDay 56 = .ok (.aload_n 0, 1) := by decide +kernel
theorem dX6_readDay_57 : decode cX6_readDay 57 = .ok (.invokevirtual 103, 3) := by decide +kernel
theorem dX6_readDay_60 : decode cX6_readDay 60 = .ok (.ifCond .ne 5, 3) := by decide +kernel
theorem dX6_readDay_63 : decode cX6_readDay 63 = .ok (.iconst 0, 1) := by decide +kernel
theorem dX6_readDay_64 : decode cX6_readDay 64 = .ok (.ireturn, 1) := by decide +kernel
theorem dX6_readDay_65 : decode cX6_readDay 65 = .ok (.aload_n 0, 1) := by decide +kernel
theorem dX6_readDay_66 : decode cX6_readDay 66 = .ok (.getfield 30, 3) := by decide +kernel
theorem dX6_readDay_69 : decode cX6_readDay 69 = .ok (.aload_n 0, 1) := by decide +kernel
theorem dX6_readDay_70 : decode cX6_readDay 70 = .ok (.getfield 26, 3) := by decide +kernel
theorem dX6_readDay_73 : decode cX6_readDay 73 = .ok (.getfield 93, 3) := by decide +kernel
theorem dX6_readDay_76 : decode cX6_readDay 76 = .ok (.invokevirtual 106, 3) := by decide +kernel
theorem dX6_readDay_79 : decode cX6_readDay 79 = .ok (.istore_n 2, 1) := by decide +kernel
theorem dX6_readDay_80 : decode cX6_readDay 80 = .ok (.iload_n 2, 1) := by decide +kernel
theorem dX6_readDay_81 : decode cX6_readDay 81 = .ok (.iconst (-1), 1) := by decide +kernel
theorem dX6_readDay_82 : decode cX6_readDay 82 = .ok (.if_icmp .ne 9, 3) := by decide +kernel
theorem dX6_readDay_85 : decode cX6_readDay 85 = .ok (.aload_n 0, 1) := by decide +kernel
theorem dX6_readDay_86 : decode cX6_readDay 86 = .ok (.iconst 4, 1) := by decide +kernel
theorem dX6_readDay_87 : decode cX6_readDay 87 = .ok (.invokevirtual 86, 3) := by decide +kernel
theorem dX6_readDay_90 : decode cX6_readDay 90 = .ok (.ireturn, 1) := by decide +kernel
theorem dX6_readDay_91 : decode cX6_readDay 91 = .ok (.aload_n 0, 1) := by decide +kernel
theorem dX6_readDay_92 : decode cX6_readDay 92 = .ok (.getfield 30, 3) := by decide +kernel
theorem dX6_readDay_95 : decode cX6_readDay 95 = .ok (.getfield 147, 3) := by decide +kernel
theorem dX6_readDay_98 : decode cX6_readDay 98 = .ok (.iload_n 1, 1) := by decide +kernel
theorem dX6_readDay_99 : decode cX6_readDay 99 = .ok (.iload_n 2, 1) := by decide +kernel
theorem dX6_readDay_100 : decode cX6_readDay 100 = .ok (.iastore, 1) := by decide +kernel
theorem dX6_readDay_101 : decode cX6_readDay 101 = .ok (.aload_n 0, 1) := by decide +kernel
theorem dX6_readDay_102 : decode cX6_readDay 102 = .ok (.getfield 30, 3) := by decide +kernel
theorem dX6_readDay_105 : decode cX6_readDay 105 = .ok (.dup, 1) := by decide +kernel
theorem dX6_readDay_106 : decode cX6_readDay 106 = .ok (.getfield 141, 3) := by decide +kernel
theorem dX6_readDay_109 : decode cX6_readDay 109 = .ok (.iconst 1, 1) := by decide +kernel
theorem dX6_readDay_110 : decode cX6_readDay 110 = .ok (.iadd, 1) := by decide +kernel
theorem dX6_readDay_111 : decode cX6_readDay 111 = .ok (.putfield 141, 3) := by decide +kernel
theorem dX6_readDay_114 : decode cX6_readDay 114 = .ok (.iconst 1, 1) := by decide +kernel
theorem dX6_readDay_115 : decode cX6_readDay 115 = .ok (.ireturn, 1) := by decide +kernel
theorem dX6_readWork_0 : decode cX6_readWork 0 = .ok (.aload_n 0, 1) := by decide +kernel
theorem dX6_readWork_1 : decode cX6_readWork 1 = .ok (.getfield 30, 3) := by decide +kernel
theorem dX6_readWork_4 : decode cX6_readWork 4 = .ok (.getfield 150, 3) := by decide +kernel
theorem dX6_readWork_7 : decode cX6_readWork 7 = .ok (.istore_n 1, 1) := by decide +kernel
theorem dX6_readWork_8 : decode cX6_readWork 8 = .ok (.iload_n 1, 1) := by decide +kernel
theorem dX6_readWork_9 : decode cX6_readWork 9 = .ok (.bipush 6, 2) := by decide +kernel
theorem dX6_readWork_11 : decode cX6_readWork 11 = .ok (.if_icmp .lt 9, 3) := by decide +kernel
theorem dX6_readWork_14 : decode cX6_readWork 14 = .ok (.aload_n 0, 1) := by decide +kernel
theorem dX6_readWork_15 : decode cX6_readWork 15 = .ok (.iconst 2, 1) := by decide +kernel
theorem dX6_readWork_16 : decode cX6_readWork 16 = .ok (.invokevirtual 86, 3) := by decide +kernel
theorem dX6_readWork_19 : decode cX6_readWork 19 = .ok (.ireturn, 1) := by decide +kernel
theorem dX6_readWork_20 : decode cX6_readWork 20 = .ok (.aload_n 0, 1) := by decide +kernel
theorem dX6_readWork_21 : decode cX6_readWork 21 = .ok (.invokevirtual 103, 3) := by decide +kernel
theorem dX6_readWork_24 : decode cX6_readWork 24 = .ok (.ifCond .ne 5, 3) := by decide +kernel
theorem dX6_readWork_27 : decode cX6_readWork 27 = .ok (.iconst 0, 1) := by decide +kernel
theorem dX6_readWork_28 : decode cX6_readWork 28 = .ok (.ireturn, 1) := by decide +kernel
theorem dX6_readWork_29 : decode cX6_readWork 29 = .ok (.aload_n 0, 1) := by decide +kernel
theorem dX6_readWork_30 : decode cX6_readWork 30 = .ok (.getfield 30, 3) := by decide +kernel
theorem dX6_readWork_33 : decode cX6_readWork 33 = .ok (.getfield 153, 3) := by decide +kernel
theorem dX6_readWork_36 : decode cX6_readWork 36 = .ok (.iload_n 1, 1) := by decide +kernel
theorem dX6_readWork_37 : decode cX6_readWork 37 = .ok (.aload_n 0, 1) := by decide +kernel
theorem dX6_readWork_38 : decode cX6_readWork 38 = .ok (.getfield 30, 3) := by decide +kernel
theorem dX6_readWork_41 : decode cX6_readWork 41 = .ok (.aload_n 0, 1) := by decide +kernel
theorem dX6_readWork_42 : decode cX6_readWork 42 = .ok (.getfield 26, 3) := by decide +kernel
theorem dX6_readWork_45 : decode cX6_readWork 45 = .ok (.getfield 93, 3) := by decide +kernel
theorem dX6_readWork_48 : decode cX6_readWork 48 = .ok (.invokevirtual 126, 3) := by decide +kernel
theorem dX6_readWork_51 : decode cX6_readWork 51 = .ok (.iastore, 1) := by decide +kernel
theorem dX6_readWork_52 : decode cX6_readWork 52 = .ok (.aload_n 0, 1) := by decide +kernel
theorem dX6_readWork_53 : decode cX6_readWork 53 = .ok (.getfield 30, 3) := by decide +kernel
theorem dX6_readWork_56 : decode cX6_readWork 56 = .ok (.getfield 153, 3) := by decide +kernel
theorem dX6_readWork_59 : decode cX6_readWork 59 = .ok (.iload_n 1, 1) := by decide +kernel
theorem dX6_readWork_60 : decode cX6_readWork 60 = .ok (.iaload, 1) := by decide +kernel
theorem dX6_readWork_61 : decode cX6_readWork 61 = .ok (.iconst (-1), 1) := by decide +kernel
theorem dX6_readWork_62 : decode cX6_readWork 62 = .ok (.if_icmp .ne 9, 3) := by decide +kernel
theorem dX6_readWork_65 : decode cX6_readWork 65 = .ok (.aload_n 0, 1) := by decide +kernel
theorem dX6_readWork_66 : decode cX6_readWork 66 = .ok (.iconst 4, 1) := by decide +kernel
theorem dX6_readWork_67 : decode cX6_readWork 67 = .ok (.invokevirtual 86, 3) := by decide +kernel
theorem dX6_readWork_70 : decode cX6_readWork 70 = .ok (.ireturn, 1) := by decide +kernel
theorem dX6_readWork_71 : decode cX6_readWork 71 = .ok (.aload_n 0, 1) := by decide +kernel
theorem dX6_readWork_72 : decode cX6_readWork 72 = .ok (.invokevirtual 103, 3) := by decide +kernel
theorem dX6_readWork_75 : decode cX6_readWork 75 = .ok (.ifCond .ne 5, 3) := by decide +kernel
theorem dX6_readWork_78 : decode cX6_readWork 78 = .ok (.iconst 0, 1) := by decide +kernel
theorem dX6_readWork_79 : decode cX6_readWork 79 = .ok (.ireturn, 1) := by decide +kernel
theorem dX6_readWork_80 : decode cX6_readWork 80 = .ok (.aload_n 0, 1) := by decide +kernel
theorem dX6_readWork_81 : decode cX6_readWork 81 = .ok (.getfield 30, 3) := by decide +kernel
theorem dX6_readWork_84 : decode cX6_readWork 84 = .ok (.getfield 156, 3) := by decide +kernel
theorem dX6_readWork_87 : decode cX6_readWork 87 = .ok (.iload_n 1, 1) := by decide +kernel
theorem dX6_readWork_88 : decode cX6_readWork 88 = .ok (.aload_n 0, 1) := by decide +kernel
theorem dX6_readWork_89 : decode cX6_readWork 89 = .ok (.getfield 30, 3) := by decide +kernel
theorem dX6_readWork_92 : decode cX6_readWork 92 = .ok (.aload_n 0, 1) := by decide +kernel
theorem dX6_readWork_93 : decode cX6_readWork 93 = .ok (.getfield 26, 3) := by decide +kernel
theorem dX6_readWork_96 : decode cX6_readWork 96 = .ok (.getfield 93, 3) := by decide +kernel
theorem dX6_readWork_99 : decode cX6_readWork 99 = .ok (.invokevirtual 106, 3) := by decide +kernel
theorem dX6_readWork_102 : decode cX6_readWork 102 = .ok (.iastore, 1) := by decide +kernel
theorem dX6_readWork_103 : decode cX6_readWork 103 = .ok (.aload_n 0, 1) := by decide +kernel
theorem dX6_readWork_104 : decode cX6_readWork 104 = .ok (.getfield 30, 3) := by decide +kernel
theorem dX6_readWork_107 : decode cX6_readWork 107 = .ok (.getfield 156, 3) := by decide +kernel
theorem dX6_readWork_110 : decode cX6_readWork 110 = .ok (.iload_n 1, 1) := by decide +kernel
theorem dX6_readWork_111 : decode cX6_readWork 111 = .ok (.iaload, 1) := by decide +kernel
theorem dX6_readWork_112 : decode cX6_readWork 112 = .ok (.iconst (-1), 1) := by decide +kernel
theorem dX6_readWork_113 : decode cX6_readWork 113 = .ok (.if_icmp .ne 9, 3) := by decide +kernel
theorem dX6_readWork_116 : decode cX6_readWork 116 = .ok (.aload_n 0, 1) := by decide +kernel
theorem dX6_readWork_117 : decode cX6_readWork 117 = .ok (.iconst 4, 1) := by decide +kernel
theorem dX6_readWork_118 : decode cX6_readWork 118 = .ok (.invokevirtual 86, 3) := by decide +kernel
theorem dX6_readWork_121 : decode cX6_readWork 121 = .ok (.ireturn, 1) := by decide +kernel
theorem dX6_readWork_122 : decode cX6_readWork 122 = .ok (.aload_n 0, 1) := by decide +kernel
theorem dX6_readWork_123 : decode cX6_readWork 123 = .ok (.getfield 30, 3) := by decide +kernel
theorem dX6_readWork_126 : decode cX6_readWork 126 = .ok (.dup, 1) := by decide +kernel
theorem dX6_readWork_127 : decode cX6_readWork 127 = .ok (.getfield 150, 3) := by decide +kernel
theorem dX6_readWork_130 : decode cX6_readWork 130 = .ok (.iconst 1, 1) := by decide +kernel
theorem dX6_readWork_131 : decode cX6_readWork 131 = .ok (.iadd, 1) := by decide +kernel
theorem dX6_readWork_132 : decode cX6_readWork 132 = .ok (.putfield 150, 3) := by decide +kernel
theorem dX6_readWork_135 : decode cX6_readWork 135 = .ok (.iconst 1, 1) := by decide +kernel
theorem dX6_readWork_136 : decode cX6_readWork 136 = .ok (.ireturn, 1) := by decide +kernel
theorem dX6_readTerm_0 : decode cX6_readTerm 0 = .ok (.aload_n 0, 1) := by decide +kernel
theorem dX6_readTerm_1 : decode cX6_readTerm 1 = .ok (.getfield 30, 3) := by decide +kernel
theorem dX6_readTerm_4 : decode cX6_readTerm 4 = .ok (.getfield 159, 3) := by decide +kernel
theorem dX6_readTerm_7 : decode cX6_readTerm 7 = .ok (.iconst (-1), 1) := by decide +kernel
theorem dX6_readTerm_8 : decode cX6_readTerm 8 = .ok (.if_icmp .eq 9, 3) := by decide +kernel
theorem dX6_readTerm_11 : decode cX6_readTerm 11 = .ok (.aload_n 0, 1) := by decide +kernel
theorem dX6_readTerm_12 : decode cX6_readTerm 12 = .ok (.iconst 3, 1) := by decide +kernel
theorem dX6_readTerm_13 : decode cX6_readTerm 13 = .ok (.invokevirtual 86, 3) := by decide +kernel
theorem dX6_readTerm_16 : decode cX6_readTerm 16 = .ok (.ireturn, 1) := by decide +kernel
theorem dX6_readTerm_17 : decode cX6_readTerm 17 = .ok (.aload_n 0, 1) := by decide +kernel
theorem dX6_readTerm_18 : decode cX6_readTerm 18 = .ok (.iconst 1, 1) := by decide +kernel
theorem dX6_readTerm_19 : decode cX6_readTerm 19 = .ok (.bipush 99, 2) := by decide +kernel
theorem dX6_readTerm_21 : decode cX6_readTerm 21 = .ok (.invokevirtual 113, 3) := by decide +kernel
theorem dX6_readTerm_24 : decode cX6_readTerm 24 = .ok (.ifCond .ne 5, 3) := by decide +kernel
theorem dX6_readTerm_27 : decode cX6_readTerm 27 = .ok (.iconst 0, 1) := by decide +kernel
theorem dX6_readTerm_28 : decode cX6_readTerm 28 = .ok (.ireturn, 1) := by decide +kernel
theorem dX6_readTerm_29 : decode cX6_readTerm 29 = .ok (.aload_n 0, 1) := by decide +kernel
theorem dX6_readTerm_30 : decode cX6_readTerm 30 = .ok (.getfield 30, 3) := by decide +kernel
theorem dX6_readTerm_33 : decode cX6_readTerm 33 = .ok (.aload_n 0, 1) := by decide +kernel
theorem dX6_readTerm_34 : decode cX6_readTerm 34 = .ok (.getfield 26, 3) := by decide +kernel
theorem dX6_readTerm_37 : decode cX6_readTerm 37 = .ok (.getfield 93, 3) := by decide +kernel
theorem dX6_readTerm_40 : decode cX6_readTerm 40 = .ok (.putfield 159, 3) := by decide +kernel
theorem dX6_readTerm_43 : decode cX6_readTerm 43 = .ok (.iconst 1, 1) := by decide +kernel
theorem dX6_readTerm_44 : decode cX6_readTerm 44 = .ok (.ireturn, 1) := by decide +kernel
theorem dX6_readSeed_0 : decode cX6_readSeed 0 = .ok (.aload_n 0, 1) := by decide +kernel
theorem dX6_readSeed_1 : decode cX6_readSeed 1 = .ok (.getfield 30, 3) := by decide +kernel
theorem dX6_readSeed_4 : decode cX6_readSeed 4 = .ok (.getfield 162, 3) := by decide +kernel
theorem dX6_readSeed_7 : decode cX6_readSeed 7 = .ok (.iconst (-1), 1) := by decide +kernel
theorem dX6_readSeed_8 : decode cX6_readSeed 8 = .ok (.if_icmp .eq 9, 3) := by decide +kernel
theorem dX6_readSeed_11 : decode cX6_readSeed 11 = .ok (.aload_n 0, 1) := by decide +kernel
theorem dX6_readSeed_12 : decode cX6_readSeed 12 = .ok (.iconst 3, 1) := by decide +kernel
theorem dX6_readSeed_13 : decode cX6_readSeed 13 = .ok (.invokevirtual 86, 3) := by decide +kernel
theorem dX6_readSeed_16 : decode cX6_readSeed 16 = .ok (.ireturn, 1) := by decide +kernel
theorem dX6_readSeed_17 : decode cX6_readSeed 17 = .ok (.aload_n 0, 1) := by decide +kernel
theorem dX6_readSeed_18 : decode cX6_readSeed 18 = .ok (.iconst 0, 1) := by decide +kernel
theorem dX6_readSeed_19 : decode cX6_readSeed 19 = .ok (.ldc 165, 2) := by decide +kernel
theorem dX6_readSeed_21 : decode cX6_readSeed 21 = .ok (.invokevirtual 113, 3) := by decide +kernel
theorem dX6_readSeed_24 : decode cX6_readSeed 24 = .ok (.ifCond .ne 5, 3) := by decide +kernel
theorem dX6_readSeed_27 : decode cX6_readSeed 27 = .ok (.iconst 0, 1) := by decide +kernel
theorem dX6_readSeed_28 : decode cX6_readSeed 28 = .ok (.ireturn, 1) := by decide +kernel
theorem dX6_readSeed_29 : decode cX6_readSeed 29 = .ok (.aload_n 0, 1) := by decide +kernel
theorem dX6_readSeed_30 : decode cX6_readSeed 30 = .ok (.getfield 30, 3) := by decide +kernel
theorem dX6_readSeed_33 : decode cX6_readSeed 33 = .ok (.aload_n 0, 1) := by decide +kernel
theorem dX6_readSeed_34 : decode cX6_readSeed 34 = .ok (.getfield 26, 3) := by decide +kernel
theorem dX6_readSeed_37 : decode cX6_readSeed 37 = .ok (.getfield 93, 3) := by decide +kernel
theorem dX6_readSeed_40 : decode cX6_readSeed 40 = .ok (.putfield 162, 3) := by decide +kernel
theorem dX6_readSeed_43 : decode cX6_readSeed 43 = .ok (.iconst 1, 1) := by decide +kernel
theorem dX6_readSeed_44 : decode cX6_readSeed 44 = .ok (.ireturn, 1) := by decide +kernel
theorem dX6_readLaw_0 : decode cX6_readLaw 0 = .ok (.aload_n 0, 1) := by decide +kernel
theorem dX6_readLaw_1 : decode cX6_readLaw 1 = .ok (.getfield 26, 3) := by decide +kernel
theorem dX6_readLaw_4 : decode cX6_readLaw 4 = .ok (.invokevirtual 49, 3) := by decide +kernel
theorem dX6_readLaw_7 : decode cX6_readLaw 7 = .ok (.aload_n 0, 1) := by decide +kernel
theorem dX6_readLaw_8 : decode cX6_readLaw 8 = .ok (.getfield 26, 3) := by decide +kernel
theorem dX6_readLaw_11 : decode cX6_readLaw 11 = .ok (.getfield 52, 3) := by decide +kernel
theorem dX6_readLaw_14 : decode cX6_readLaw 14 = .ok (.bipush 7, 2) := by decide +kernel
theorem dX6_readLaw_16 : decode cX6_readLaw 16 = .ok (.if_icmp .lt 15, 3) := by decide +kernel
theorem dX6_readLaw_19 : decode cX6_readLaw 19 = .ok (.aload_n 0, 1) := by decide +kernel
theorem dX6_readLaw_20 : decode cX6_readLaw 20 = .ok (.getfield 26, 3) := by decide +kernel
theorem dX6_readLaw_23 : decode cX6_readLaw 23 = .ok (.getfield 52, 3) := by decide +kernel
theorem dX6_readLaw_26 : decode cX6_readLaw 26 = .ok (.bipush 9, 2) := by decide +kernel
theorem dX6_readLaw_28 : decode cX6_readLaw 28 = .ok (.if_icmp .le 9, 3) := by decide +kernel
theorem dX6_readLaw_31 : decode cX6_readLaw 31 = .ok (.aload_n 0, 1) := by decide +kernel
theorem dX6_readLaw_32 : decode cX6_readLaw 32 = .ok (.iconst 1, 1) := by decide +kernel
theorem dX6_readLaw_33 : decode cX6_readLaw 33 = .ok (.invokevirtual 86, 3) := by decide +kernel
theorem dX6_readLaw_36 : decode cX6_readLaw 36 = .ok (.ireturn, 1) := by decide +kernel
theorem dX6_readLaw_37 : decode cX6_readLaw 37 = .ok (.aload_n 0, 1) := by decide +kernel
theorem dX6_readLaw_38 : decode cX6_readLaw 38 = .ok (.getfield 26, 3) := by decide +kernel
theorem dX6_readLaw_41 : decode cX6_readLaw 41 = .ok (.getfield 52, 3) := by decide +kernel
theorem dX6_readLaw_44 : decode cX6_readLaw 44 = .ok (.bipush 7, 2) := by decide +kernel
theorem dX6_readLaw_46 : decode cX6_readLaw 46 = .ok (.isub, 1) := by decide +kernel
theorem dX6_readLaw_47 : decode cX6_readLaw 47 = .ok (.istore_n 1, 1) := by decide +kernel
theorem dX6_readLaw_48 : decode cX6_readLaw 48 = .ok (.aload_n 0, 1) := by decide +kernel
theorem dX6_readLaw_49 : decode cX6_readLaw 49 = .ok (.getfield 30, 3) := by decide +kernel
theorem dX6_readLaw_52 : decode cX6_readLaw 52 = .ok (.getfield 166, 3) := by decide +kernel
theorem dX6_readLaw_55 : decode cX6_readLaw 55 = .ok (.iload_n 1, 1) := by decide +kernel
theorem dX6_readLaw_56 : decode cX6_readLaw 56 = .ok (.invokevirtual 170, 3) := by decide +kernel
theorem dX6_readLaw_59 : decode cX6_readLaw 59 = .ok (.ifCond .eq 9, 3) := by decide +kernel
theorem dX6_readLaw_62 : decode cX6_readLaw 62 = .ok (.aload_n 0, 1) := by decide +kernel
theorem dX6_readLaw_63 : decode cX6_readLaw 63 = .ok (.iconst 3, 1) := by decide +kernel
theorem dX6_readLaw_64 : decode cX6_readLaw 64 = .ok (.invokevirtual 86, 3) := by decide +kernel
theorem dX6_readLaw_67 : decode cX6_readLaw 67 = .ok (.ireturn, 1) := by decide +kernel
theorem dX6_readLaw_68 : decode cX6_readLaw 68 = .ok (.aload_n 0, 1) := by decide +kernel
theorem dX6_readLaw_69 : decode cX6_readLaw 69 = .ok (.getfield 30, 3) := by decide +kernel
theorem dX6_readLaw_72 : decode cX6_readLaw 72 = .ok (.getfield 166, 3) := by decide +kernel
theorem dX6_readLaw_75 : decode cX6_readLaw 75 = .ok (.iload_n 1, 1) := by decide +kernel
theorem dX6_readLaw_76 : decode cX6_readLaw 76 = .ok (.invokevirtual 173, 3) := by decide +kernel
theorem dX6_readLaw_79 : decode cX6_readLaw 79 = .ok (.aload_n 0, 1) := by decide +kernel
theorem dX6_readLaw_80 : decode cX6_readLaw 80 = .ok (.invokevirtual 174, 3) := by decide +kernel
theorem dX6_readLaw_83 : decode cX6_readLaw 83 = .ok (.ifCond .ne 5, 3) := by decide +kernel
theorem dX6_readLaw_86 : decode cX6_readLaw 86 = .ok (.iconst 0, 1) := by decide +kernel
theorem dX6_readLaw_87 : decode cX6_readLaw 87 = .ok (.ireturn, 1) := by decide +kernel
theorem dX6_readLaw_88 : decode cX6_readLaw 88 = .ok (.aload_n 0, 1) := by decide +kernel
theorem dX6_readLaw_89 : decode cX6_readLaw 89 = .ok (.getfield 30, 3) := by decide +kernel
theorem dX6_readLaw_92 : decode cX6_readLaw 92 = .ok (.getfield 166, 3) := by decide +kernel
theorem dX6_readLaw_95 : decode cX6_readLaw 95 = .ok (.iload_n 1, 1) := by decide +kernel
theorem dX6_readLaw_96 : decode cX6_readLaw 96 = .ok (.invokevirtual 177, 3) := by decide +kernel
theorem dX6_readLaw_99 : decode cX6_readLaw 99 = .ok (.iconst 1, 1) := by decide +kernel
theorem dX6_readLaw_100 : decode cX6_readLaw 100 = .ok (.ireturn, 1) := by decide +kernel
theorem dX6_readFormula_0 : decode cX6_readFormula 0 = .ok (.aload_n 0, 1) := by decide +kernel
theorem dX6_readFormula_1 : decode cX6_readFormula 1 = .ok (.iconst 0, 1) := by decide +kernel
theorem dX6_readFormula_2 : decode cX6_readFormula 2 = .ok (.putfield 180, 3) := by decide +kernel
theorem dX6_readFormula_5 : decode cX6_readFormula 5 = .ok (.aload_n 0, 1) := by decide +kernel
theorem dX6_readFormula_6 : decode cX6_readFormula 6 = .ok (.iconst 0, 1) := by decide +kernel
theorem dX6_readFormula_7 : decode cX6_readFormula 7 = .ok (.putfield 183, 3) := by decide +kernel
theorem dX6_readFormula_10 : decode cX6_readFormula 10 = .ok (.iconst 0, 1) := by decide +kernel
theorem dX6_readFormula_11 : decode cX6_readFormula 11 = .ok (.istore_n 1, 1) := by decide +kernel
theorem dX6_readFormula_12 : decode cX6_readFormula 12 = .ok (.iconst 0, 1) := by decide +kernel
theorem dX6_readFormula_13 : decode cX6_readFormula 13 = .ok (.istore_n 2, 1) := by decide +kernel
theorem dX6_readFormula_14 : decode cX6_readFormula 14 = .ok (.iload_n 2, 1) := by decide +kernel
theorem dX6_readFormula_15 : decode cX6_readFormula 15 = .ok (.sipush 700, 3) := by decide +kernel
theorem dX6_readFormula_18 : decode cX6_readFormula 18 = .ok (.if_icmp .ge 108, 3) := by decide +kernel
theorem dX6_readFormula_21 : decode cX6_readFormula 21 = .ok (.aload_n 0, 1) := by decide +kernel
theorem dX6_readFormula_22 : decode cX6_readFormula 22 = .ok (.getfield 26, 3) := by decide +kernel
theorem dX6_readFormula_25 : decode cX6_readFormula 25 = .ok (.invokevirtual 49, 3) := by decide +kernel
theorem dX6_readFormula_28 : decode cX6_readFormula 28 = .ok (.iload_n 1, 1) := by decide +kernel
theorem dX6_readFormula_29 : decode cX6_readFormula 29 = .ok (.ifCond .eq 29, 3) := by decide +kernel
theorem dX6_readFormula_32 : decode cX6_readFormula 32 = .ok (.aload_n 0, 1) := by decide +kernel
theorem dX6_readFormula_33 : decode cX6_readFormula 33 = .ok (.getfield 26, 3) := by decide +kernel
theorem dX6_readFormula_36 : decode cX6_readFormula 36 = .ok (.getfield 52, 3) := by decide +kernel
theorem dX6_readFormula_39 : decode cX6_readFormula 39 = .ok (.bipush 20, 2) := by decide +kernel
theorem dX6_readFormula_41 : decode cX6_readFormula 41 = .ok (.if_icmp .ne 17, 3) := by decide +kernel
theorem dX6_readFormula_44 : decode cX6_readFormula 44 = .ok (.aload_n 0, 1) := by decide +kernel
theorem dX6_readFormula_45 : decode cX6_readFormula 45 = .ok (.getfield 183, 3) := by decide +kernel
theorem dX6_readFormula_48 : decode cX6_readFormula 48 = .ok (.ifCond .ne 10, 3) := by decide +kernel
theorem dX6_readFormula_51 : decode cX6_readFormula 51 = .ok (.aload_n 0, 1) := by decide +kernel
theorem dX6_readFormula_52 : decode cX6_readFormula 52 = .ok (.iconst 1, 1) := by decide +kernel
theorem dX6_readFormula_53 : decode cX6_readFormula 53 = .ok (.invokevirtual 186, 3) := by decide +kernel
theorem dX6_readFormula_56 : decode cX6_readFormula 56 = .ok (.iconst 1, 1) := by decide +kernel
theorem dX6_readFormula_57 : decode cX6_readFormula 57 = .ok (.ireturn, 1) := by decide +kernel
theorem dX6_readFormula_58 : decode cX6_readFormula 58 = .ok (.iload_n 1, 1) := by decide +kernel
theorem dX6_readFormula_59 : decode cX6_readFormula 59 = .ok (.ifCond .eq 10, 3) := by decide +kernel
theorem dX6_readFormula_62 : decode cX6_readFormula 62 = .ok (.aload_n 0, 1) := by decide +kernel
theorem dX6_readFormula_63 : decode cX6_readFormula 63 = .ok (.invokevirtual 189, 3) := by decide +kernel
theorem dX6_readFormula_66 : decode cX6_readFormula 66 = .ok (.goto 7, 3) := by decide +kernel
theorem dX6_readFormula_69 : decode cX6_readFormula 69 = .ok (.aload_n 0, 1) := by decide +kernel
theorem dX6_readFormula_70 : decode cX6_readFormula 70 = .ok (.invokevirtual 192, 3) := by decide +kernel
theorem dX6_readFormula_73 : decode cX6_readFormula 73 = .ok (.istore_n 3, 1) := by decide +kernel
theorem dX6_readFormula_74 : decode cX6_readFormula 74 = .ok (.iload_n 3, 1) := by decide +kernel
theorem dX6_readFormula_75 : decode cX6_readFormula 75 = .ok (.ifCond .ne 5, 3) := by decide +kernel
theorem dX6_readFormula_78 : decode cX6_readFormula 78 = .ok (.iconst 0, 1) := by decide +kernel
theorem dX6_readFormula_79 : decode cX6_readFormula 79 = .ok (.ireturn, 1) := by decide +kernel
theorem dX6_readFormula_80 : decode cX6_readFormula 80 = .ok (.aload_n 0, 1) := by decide +kernel
theorem dX6_readFormula_81 : decode cX6_readFormula 81 = .ok (.getfield 26, 3) := by decide +kernel
theorem dX6_readFormula_84 : decode cX6_readFormula 84 = .ok (.getfield 52, 3) := by decide +kernel
theorem dX6_readFormula_87 : decode cX6_readFormula 87 = .ok (.bipush 33, 2) := by decide +kernel
theorem dX6_readFormula_89 : decode cX6_readFormula 89 = .ok (.if_icmp .eq 25, 3) := by decide +kernel
theorem dX6_readFormula_92 : decode cX6_readFormula 92 = .ok (.aload_n 0, 1) := by decide +kernel
theorem dX6_readFormula_93 : decode cX6_readFormula 93 = .ok (.getfield 26, 3) := by decide +kernel
theorem dX6_readFormula_96 : decode cX6_readFormula 96 = .ok (.getfield 52, 3) := by decide +kernel
theorem dX6_readFormula_99 : decode cX6_readFormula 99 = .ok (.bipush 22, 2) := by decide +kernel
theorem dX6_readFormula_101 : decode cX6_readFormula 101 = .ok (.if_icmp .eq 13, 3) := by decide +kernel
theorem dX6_readFormula_104 : decode cX6_readFormula 104 = .ok (.aload_n 0, 1) := by decide +kernel
theorem dX6_readFormula_105 : decode cX6_readFormula 105 = .ok (.getfield 26, 3) := by decide +kernel
theorem dX6_readFormula_108 : decode cX6_readFormula 108 = .ok (.invokevirtual 195, 3) := by decide +kernel
theorem dX6_readFormula_111 : decode cX6_readFormula 111 = .ok (.ifCond .eq 7, 3) := by decide +kernel
theorem dX6_readFormula_114 : decode cX6_readFormula 114 = .ok (.iconst 1, 1) := by decide +kernel
theorem dX6_readFormula_115 : decode cX6_readFormula 115 = .ok (.goto 4, 3) := by decide +kernel
theorem dX6_readFormula_118 : decode cX6_readFormula 118 = .ok (.iconst 0, 1) := by decide +kernel
theorem dX6_readFormula_119 : decode cX6_readFormula 119 = .ok (.istore_n 1, 1) := by decide +kernel
theorem dX6_readFormula_120 : decode cX6_readFormula 120 = .ok (.iinc 2 1, 3) := by decide +kernel
theorem dX6_readFormula_123 : decode cX6_readFormula 123 = .ok (.goto (-109), 3) := by decide +kernel
theorem dX6_readFormula_126 : decode cX6_readFormula 126 = .ok (.aload_n 0, 1) := by decide +kernel
theorem dX6_readFormula_127 : decode cX6_readFormula 127 = .ok (.iconst 1, 1) := by decide +kernel
theorem dX6_readFormula_128 : decode cX6_readFormula 128 = .ok (.invokevirtual 86, 3) := by decide +kernel
theorem dX6_readFormula_131 : decode cX6_readFormula 131 = .ok (.ireturn, 1) := by decide +kernel
theorem dX6_readValue_0 : decode cX6_readValue 0 = .ok (.aload_n 0, 1) := by decide +kernel
theorem dX6_readValue_1 : decode cX6_readValue 1 = .ok (.getfield 26, 3) := by decide +kernel
theorem dX6_readValue_4 : decode cX6_readValue 4 = .ok (.getfield 52, 3) := by decide +kernel
theorem dX6_readValue_7 : decode cX6_readValue 7 = .ok (.bipush 33, 2) := by decide +kernel
theorem dX6_readValue_9 : decode cX6_readValue 9 = .ok (.if_icmp .ne 51, 3) := by decide +kernel
theorem dX6_readValue_12 : decode cX6_readValue 12 = .ok (.aload_n 0, 1) := by decide +kernel
theorem dX6_readValue_13 : decode cX6_readValue 13 = .ok (.invokevirtual 198, 3) := by decide +kernel
theorem dX6_readValue_16 : decode cX6_readValue 16 = .ok (.ifCond .eq 42, 3) := by decide +kernel
theorem dX6_readValue_19 : decode cX6_readValue 19 = .ok (.aload_n 0, 1) := by decide +kernel
theorem dX6_readValue_20 : decode cX6_readValue 20 = .ok (.getfield 26, 3) := by decide +kernel
theorem dX6_readValue_23 : decode cX6_readValue 23 = .ok (.getfield 93, 3) := by decide +kernel
theorem dX6_readValue_26 : decode cX6_readValue 26 = .ok (.sipush 9999, 3) := by decide +kernel
theorem dX6_readValue_29 : decode cX6_readValue 29 = .ok (.if_icmp .le 11, 3) := by decide +kernel
theorem dX6_readValue_32 : decode cX6_readValue 32 = .ok (.aload_n 0, 1) := by decide +kernel
theorem dX6_readValue_33 : decode cX6_readValue 33 = .ok (.iconst 2, 1) := by decide +kernel
theorem dX6_readValue_34 : decode cX6_readValue 34 = .ok (.invokevirtual 86, 3) := by decide +kernel
theorem dX6_readValue_37 : decode cX6_readValue 37 = .ok (.ifCond .eq 21, 3) := by decide +kernel
theorem dX6_readValue_40 : decode cX6_readValue 40 = .ok (.aload_n 0, 1) := by decide +kernel
theorem dX6_readValue_41 : decode cX6_readValue 41 = .ok (.aload_n 0, 1) := by decide +kernel
theorem dX6_readValue_42 : decode cX6_readValue 42 = .ok (.getfield 26, 3) := by decide +kernel
theorem dX6_readValue_45 : decode cX6_readValue 45 = .ok (.getfield 93, 3) := by decide +kernel
theorem dX6_readValue_48 : decode cX6_readValue 48 = .ok (.invokevirtual 201, 3) := by decide +kernel
theorem dX6_readValue_51 : decode cX6_readValue 51 = .ok (.ifCond .eq 7, 3) := by decide +kernel
theorem dX6_readValue_54 : decode cX6_readValue 54 = .ok (.iconst 1, 1) := by decide +kernel
theorem dX6_readValue_55 : decode cX6_readValue 55 = .ok (.goto 4, 3) := by decide +kernel
theorem dX6_readValue_58 : decode cX6_readValue 58 = .ok (.iconst 0, 1) := by decide +kernel
theorem dX6_readValue_59 : decode cX6_readValue 59 = .ok (.ireturn, 1) := by decide +kernel
theorem dX6_readValue_60 : decode cX6_readValue 60 = .ok (.aload_n 0, 1) := by decide +kernel
theorem dX6_readValue_61 : decode cX6_readValue 61 = .ok (.getfield 26, 3) := by decide +kernel
theorem dX6_readValue_64 : decode cX6_readValue 64 = .ok (.invokevirtual 195, 3) := by decide +kernel
theorem dX6_readValue_67 : decode cX6_readValue 67 = .ok (.ifCond .eq 37, 3) := by decide +kernel
theorem dX6_readValue_70 : decode cX6_readValue 70 = .ok (.aload_n 0, 1) := by decide +kernel
theorem dX6_readValue_71 : decode cX6_readValue 71 = .ok (.invokevirtual 198, 3) := by decide +kernel
theorem dX6_readValue_74 : decode cX6_readValue 74 = .ok (.ifCond .eq 28, 3) := by decide +kernel
theorem dX6_readValue_77 : decode cX6_readValue 77 = .ok (.aload_n 0, 1) := by decide +kernel
theorem dX6_readValue_78 : decode cX6_readValue 78 = .ok (.sipush 10000, 3) := by decide +kernel
theorem dX6_readValue_81 : decode cX6_readValue 81 = .ok (.aload_n 0, 1) := by decide +kernel
theorem dX6_readValue_82 : decode cX6_readValue 82 = .ok (.getfield 26, 3) := by decide +kernel
theorem dX6_readValue_85 : decode cX6_readValue 85 = .ok (.getfield 52, 3) := by decide +kernel
theorem dX6_readValue_88 : decode cX6_readValue 88 = .ok (.iadd, 1) := by decide +kernel
theorem dX6_readValue_89 : decode cX6_readValue 89 = .ok (.bipush 13, 2) := by decide +kernel
theorem dX6_readValue_91 : decode cX6_readValue 91 = .ok (.isub, 1) := by decide +kernel
theorem dX6_readValue_92 : decode cX6_readValue 92 = .ok (.invokevirtual 201, 3) := by decide +kernel
theorem dX6_readValue_95 : decode cX6_readValue 95 = .ok (.ifCond .eq 7, 3) := by decide +kernel
theorem dX6_readValue_98 : decode cX6_readValue 98 = .ok (.iconst 1, 1) := by decide +kernel
theorem dX6_readValue_99 : decode cX6_readValue 99 = .ok (.goto 4, 3) := by decide +kernel
theorem dX6_readValue_102 : decode cX6_readValue 102 = .ok (.iconst 0, 1) := by decide +kernel
theorem dX6_readValue_103 : decode cX6_readValue 103 = .ok (.ireturn, 1) := by decide +kernel
theorem dX6_readValue_104 : decode cX6_readValue 104 = .ok (.aload_n 0, 1) := by decide +kernel
theorem dX6_readValue_105 : decode cX6_readValue 105 = .ok (.getfield 26, 3) := by decide +kernel
theorem dX6_readValue_108 : decode cX6_readValue 108 = .ok (.getfield 52, 3) := by decide +kernel
theorem dX6_readValue_111 : decode cX6_readValue 111 = .ok (.bipush 21, 2) := by decide +kernel
theorem dX6_readValue_113 : decode cX6_readValue 113 = .ok (.if_icmp .ne 35, 3) := by decide +kernel
theorem dX6_readValue_116 : decode cX6_readValue 116 = .ok (.aload_n 0, 1) := by decide +kernel
theorem dX6_readValue_117 : decode cX6_readValue 117 = .ok (.getfield 183, 3) := by decide +kernel
theorem dX6_readValue_120 : decode cX6_readValue 120 = .ok (.bipush 8, 2) := by decide +kernel
theorem dX6_readValue_122 : decode cX6_readValue 122 = .ok (.if_icmp .lt 9, 3) := by decide +kernel
theorem dX6_readValue_125 : decode cX6_readValue 125 = .ok (.aload_n 0, 1) := by decide +kernel
theorem dX6_readValue_126 : decode cX6_readValue 126 = .ok (.iconst 2, 1) := by decide +kernel
theorem dX6_readValue_127 : decode cX6_readValue 127 = .ok (.invokevirtual 86, 3) := by decide +kernel
theorem dX6_readValue_130 : decode cX6_readValue 130 = .ok (.ireturn, 1) := by decide +kernel
theorem dX6_readValue_131 : decode cX6_readValue 131 = .ok (.aload_n 0, 1) := by decide +kernel
theorem dX6_readValue_132 : decode cX6_readValue 132 = .ok (.dup, 1) := by decide +kernel
theorem dX6_readValue_133 : decode cX6_readValue 133 = .ok (.getfield 183, 3) := by decide +kernel
theorem dX6_readValue_136 : decode cX6_readValue 136 = .ok (.iconst 1, 1) := by decide +kernel
theorem dX6_readValue_137 : decode cX6_readValue 137 = .ok (.iadd, 1) := by decide +kernel
theorem dX6_readValue_138 : decode cX6_readValue 138 = .ok (.putfield 183, 3) := by decide +kernel
theorem dX6_readValue_141 : decode cX6_readValue 141 = .ok (.aload_n 0, 1) := by decide +kernel
theorem dX6_readValue_142 : decode cX6_readValue 142 = .ok (.bipush 21, 2) := by decide +kernel
theorem dX6_readValue_144 : decode cX6_readValue 144 = .ok (.invokevirtual 204, 3) := by decide +kernel
theorem dX6_readValue_147 : decode cX6_readValue 147 = .ok (.ireturn, 1) := by decide +kernel
theorem dX6_readValue_148 : decode cX6_readValue 148 = .ok (.aload_n 0, 1) := by decide +kernel
theorem dX6_readValue_149 : decode cX6_readValue 149 = .ok (.getfield 26, 3) := by decide +kernel
theorem dX6_readValue_152 : decode cX6_readValue 152 = .ok (.getfield 52, 3) := by decide +kernel
theorem dX6_readValue_155 : decode cX6_readValue 155 = .ok (.bipush 12, 2) := by decide +kernel
theorem dX6_readValue_157 : decode cX6_readValue 157 = .ok (.if_icmp .ne 33, 3) := by decide +kernel
theorem dX6_readValue_160 : decode cX6_readValue 160 = .ok (.aload_n 0, 1) := by decide +kernel
theorem dX6_readValue_161 : decode cX6_readValue 161 = .ok (.invokevirtual 207, 3) := by decide +kernel
theorem dX6_readValue_164 : decode cX6_readValue 164 = .ok (.iconst 4, 1) := by decide +kernel
theorem dX6_readValue_165 : decode cX6_readValue 165 = .ok (.if_icmp .ge 25, 3) := by decide +kernel
theorem dX6_readValue_168 : decode cX6_readValue 168 = .ok (.aload_n 0, 1) := by decide +kernel
theorem dX6_readValue_169 : decode cX6_readValue 169 = .ok (.invokevirtual 198, 3) := by decide +kernel
theorem dX6_readValue_172 : decode cX6_readValue 172 = .ok (.ifCond .eq 16, 3) := by decide +kernel
theorem dX6_readValue_175 : decode cX6_readValue 175 = .ok (.aload_n 0, 1) := by decide +kernel
theorem dX6_readValue_176 : decode cX6_readValue 176 = .ok (.bipush 12, 2) := by decide +kernel
theorem dX6_readValue_178 : decode cX6_readValue 178 = .ok (.invokevirtual 204, 3) := by decide +kernel
theorem dX6_readValue_181 : decode cX6_readValue 181 = .ok (.ifCond .eq 7, 3) := by decide +kernel
theorem dX6_readValue_184 : decode cX6_readValue 184 = .ok (.iconst 1, 1) := by decide +kernel
theorem dX6_readValue_185 : decode cX6_readValue 185 = .ok (.goto 4, 3) := by decide +kernel
theorem dX6_readValue_188 : decode cX6_readValue 188 = .ok (.iconst 0, 1) := by decide +kernel
theorem dX6_readValue_189 : decode cX6_readValue 189 = .ok (.ireturn, 1) := by decide +kernel
theorem dX6_readValue_190 : decode cX6_readValue 190 = .ok (.aload_n 0, 1) := by decide +kernel
theorem dX6_readValue_191 : decode cX6_readValue 191 = .ok (.iconst 1, 1) := by decide +kernel
theorem dX6_readValue_192 : decode cX6_readValue 192 = .ok (.invokevirtual 86, 3) := by decide +kernel
theorem dX6_readValue_195 : decode cX6_readValue 195 = .ok (.ireturn, 1) := by decide +kernel
theorem dX6_readBehindValue_0 : decode cX6_readBehindValue 0 = .ok (.aload_n 0, 1) := by decide +kernel
theorem dX6_readBehindValue_1 : decode cX6_readBehindValue 1 = .ok (.getfield 26, 3) := by decide +kernel
theorem dX6_readBehindValue_4 : decode cX6_readBehindValue 4 = .ok (.getfield 52, 3) := by decide +kernel
theorem dX6_readBehindValue_7 : decode cX6_readBehindValue 7 = .ok (.bipush 22, 2) := by decide +kernel
theorem dX6_readBehindValue_9 : decode cX6_readBehindValue 9 = .ok (.if_icmp .ne 37, 3) := by decide +kernel
theorem dX6_readBehindValue_12 : decode cX6_readBehindValue 12 = .ok (.aload_n 0, 1) := by decide +kernel
theorem dX6_readBehindValue_13 : decode cX6_readBehindValue 13 = .ok (.getfield 183, 3) := by decide +kernel
theorem dX6_readBehindValue_16 : decode cX6_readBehindValue 16 = .ok (.ifCond .le 30, 3) := by decide +kernel
theorem dX6_readBehindValue_19 : decode cX6_readBehindValue 19 = .ok (.aload_n 0, 1) := by decide +kernel
theorem dX6_readBehindValue_20 : decode cX6_readBehindValue 20 = .ok (.iconst 1, 1) := by decide +kernel
theorem dX6_readBehindValue_21 : decode cX6_readBehindValue 21 = .ok (.invokevirtual 186, 3) := by decide +kernel
theorem dX6_readBehindValue_24 : decode cX6_readBehindValue 24 = .ok (.aload_n 0, 1) := by decide +kernel
theorem dX6_readBehindValue_25 : decode cX6_readBehindValue 25 = .ok (.dup, 1) := by decide +kernel
theorem dX6_readBehindValue_26 : decode cX6_readBehindValue 26 = .ok (.getfield 180, 3) := by decide +kernel
theorem dX6_readBehindValue_29 : decode cX6_readBehindValue 29 = .ok (.iconst 1, 1) := by decide +kernel
theorem dX6_readBehindValue_30 : decode cX6_readBehindValue 30 = .ok (.isub, 1) := by decide +kernel
theorem dX6_readBehindValue_31 : decode cX6_readBehindValue 31 = .ok (.putfield 180, 3) := by decide +kernel
theorem dX6_readBehindValue_34 : decode cX6_readBehindValue 34 = .ok (.aload_n 0, 1) := by decide +kernel
theorem dX6_readBehindValue_35 : decode cX6_readBehindValue 35 = .ok (.dup, 1) := by decide +kernel
theorem dX6_readBehindValue_36 : decode cX6_readBehindValue 36 = .ok (.getfield 183, 3) := by decide +kernel
theorem dX6_readBehindValue_39 : decode cX6_readBehindValue 39 = .ok (.iconst 1, 1) := by decide +kernel
theorem dX6_readBehindValue_40 : decode cX6_readBehindValue 40 = .ok (.isub, 1) := by decide +kernel
theorem dX6_readBehindValue_41 : decode cX6_readBehindValue 41 = .ok (.putfield 183, 3) := by decide +kernel
theorem dX6_readBehindValue_44 : decode cX6_readBehindValue 44 = .ok (.iconst 1, 1) := by decide +kernel
theorem dX6_readBehindValue_45 : decode cX6_readBehindValue 45 = .ok (.ireturn, 1) := by decide +kernel
theorem dX6_readBehindValue_46 : decode cX6_readBehindValue 46 = .ok (.aload_n 0, 1) := by decide +kernel
theorem dX6_readBehindValue_47 : decode cX6_readBehindValue 47 = .ok (.getfield 26, 3) := by decide +kernel
theorem dX6_readBehindValue_50 : decode cX6_readBehindValue 50 = .ok (.getfield 52, 3) := by decide +kernel
theorem dX6_readBehindValue_53 : decode cX6_readBehindValue 53 = .ok (.invokestatic 211, 3) := by decide +kernel
theorem dX6_readBehindValue_56 : decode cX6_readBehindValue 56 = .ok (.istore_n 1, 1) := by decide +kernel
theorem dX6_readBehindValue_57 : decode cX6_readBehindValue 57 = .ok (.iload_n 1, 1) := by decide +kernel
theorem dX6_readBehindValue_58 : decode cX6_readBehindValue 58 = .ok (.ifCond .eq 15, 3) := by decide +kernel
theorem dX6_readBehindValue_61 : decode cX6_readBehindValue 61 = .ok (.aload_n 0, 1) := by decide +kernel
theorem dX6_readBehindValue_62 : decode cX6_readBehindValue 62 = .ok (.getfield 26, 3) := by decide +kernel
theorem dX6_readBehindValue_65 : decode cX6_readBehindValue 65 = .ok (.getfield 52, 3) := by decide +kernel
theorem dX6_readBehindValue_68 : decode cX6_readBehindValue 68 = .ok (.bipush 12, 2) := by decide +kernel
theorem dX6_readBehindValue_70 : decode cX6_readBehindValue 70 = .ok (.if_icmp .ne 9, 3) := by decide +kernel
theorem dX6_readBehindValue_73 : decode cX6_readBehindValue 73 = .ok (.aload_n 0, 1) := by decide +kernel
theorem dX6_readBehindValue_74 : decode cX6_readBehindValue 74 = .ok (.iconst 1, 1) := by decide +kernel
theorem dX6_readBehindValue_75 : decode cX6_readBehindValue 75 = .ok (.invokevirtual 86, 3) := by decide +kernel
theorem dX6_readBehindValue_78 : decode cX6_readBehindValue 78 = .ok (.ireturn, 1) := by decide +kernel
theorem dX6_readBehindValue_79 : decode cX6_readBehindValue 79 = .ok (.aload_n 0, 1) := by decide +kernel
theorem dX6_readBehindValue_80 : decode cX6_readBehindValue 80 = .ok (.iload_n 1, 1) := by decide +kernel
theorem dX6_readBehindValue_81 : decode cX6_readBehindValue 81 = .ok (.iconst 4, 1) := by decide +kernel
theorem dX6_readBehindValue_82 : decode cX6_readBehindValue 82 = .ok (.if_icmp .ne 7, 3) := by decide +kernel
theorem dX6_readBehindValue_85 : decode cX6_readBehindValue 85 = .ok (.iconst 5, 1) := by decide +kernel
theorem dX6_readBehindValue_86 : decode cX6_readBehindValue 86 = .ok (.goto 4, 3) := by decide +kernel
theorem dX6_readBehindValue_89 : decode cX6_readBehindValue 89 = .ok (.iload_n 1, 1) := by decide +kernel
theorem dX6_readBehindValue_90 : decode cX6_readBehindValue 90 = .ok (.invokevirtual 186, 3) := by decide +kernel
theorem dX6_readBehindValue_93 : decode cX6_readBehindValue 93 = .ok (.iload_n 1, 1) := by decide +kernel
theorem dX6_readBehindValue_94 : decode cX6_readBehindValue 94 = .ok (.iconst 4, 1) := by decide +kernel
theorem dX6_readBehindValue_95 : decode cX6_readBehindValue 95 = .ok (.if_icmp .ne 17, 3) := by decide +kernel
theorem dX6_readBehindValue_98 : decode cX6_readBehindValue 98 = .ok (.aload_n 0, 1) := by decide +kernel
theorem dX6_readBehindValue_99 : decode cX6_readBehindValue 99 = .ok (.invokevirtual 207, 3) := by decide +kernel
theorem dX6_readBehindValue_102 : decode cX6_readBehindValue 102 = .ok (.iconst 4, 1) := by decide +kernel
theorem dX6_readBehindValue_103 : decode cX6_readBehindValue 103 = .ok (.if_icmp .ne 9, 3) := by decide +kernel
theorem dX6_readBehindValue_106 : decode cX6_readBehindValue 106 = .ok (.aload_n 0, 1) := by decide +kernel
theorem dX6_readBehindValue_107 : decode cX6_readBehindValue 107 = .ok (.iconst 1, 1) := by decide +kernel
theorem dX6_readBehindValue_108 : decode cX6_readBehindValue 108 = .ok (.invokevirtual 86, 3) := by decide +kernel
theorem dX6_readBehindValue_111 : decode cX6_readBehindValue 111 = .ok (.ireturn, 1) := by decide +kernel
theorem dX6_readBehindValue_112 : decode cX6_readBehindValue 112 = .ok (.aload_n 0, 1) := by decide +kernel
theorem dX6_readBehindValue_113 : decode cX6_readBehindValue 113 = .ok (.invokevirtual 198, 3) := by decide +kernel
theorem dX6_readBehindValue_116 : decode cX6_readBehindValue 116 = .ok (.ifCond .eq 21, 3) := by decide +kernel
theorem dX6_readBehindValue_119 : decode cX6_readBehindValue 119 = .ok (.aload_n 0, 1) := by decide +kernel
theorem dX6_readBehindValue_120 : decode cX6_readBehindValue 120 = .ok (.aload_n 0, 1) := by decide +kernel
theorem dX6_readBehindValue_121 : decode cX6_readBehindValue 121 = .ok (.getfield 26, 3) := by decide +kernel
theorem dX6_readBehindValue_124 : decode cX6_readBehindValue 124 = .ok (.getfield 52, 3) := by decide +kernel
theorem dX6_readBehindValue_127 : decode cX6_readBehindValue 127 = .ok (.invokevirtual 204, 3) := by decide +kernel
theorem dX6_readBehindValue_130 : decode cX6_readBehindValue 130 = .ok (.ifCond .eq 7, 3) := by decide +kernel
theorem dX6_readBehindValue_133 : decode cX6_readBehindValue 133 = .ok (.iconst 1, 1) := by decide +kernel
theorem dX6_readBehindValue_134 : decode cX6_readBehindValue 134 = .ok (.goto 4, 3) := by decide +kernel
theorem dX6_readBehindValue_137 : decode cX6_readBehindValue 137 = .ok (.iconst 0, 1) := by decide +kernel
theorem dX6_readBehindValue_138 : decode cX6_readBehindValue 138 = .ok (.ireturn, 1) := by decide +kernel
theorem dX6_isKnot_0 : decode cX6_isKnot 0 = .ok (.aload_n 0, 1) := by decide +kernel
theorem dX6_isKnot_1 : decode cX6_isKnot 1 = .ok (.getfield 30, 3) := by decide +kernel
theorem dX6_isKnot_4 : decode cX6_isKnot 4 = .ok (.getfield 166, 3) := by decide +kernel
theorem dX6_isKnot_7 : decode cX6_isKnot 7 = .ok (.getfield 214, 3) := by decide +kernel
theorem dX6_isKnot_10 : decode cX6_isKnot 10 = .ok (.bipush 64, 2) := by decide +kernel
theorem dX6_isKnot_12 : decode cX6_isKnot 12 = .ok (.if_icmp .lt 9, 3) := by decide +kernel
theorem dX6_isKnot_15 : decode cX6_isKnot 15 = .ok (.aload_n 0, 1) := by decide +kernel
theorem dX6_isKnot_16 : decode cX6_isKnot 16 = .ok (.iconst 2, 1) := by decide +kernel
theorem dX6_isKnot_17 : decode cX6_isKnot 17 = .ok (.invokevirtual 86, 3) := by decide +kernel
theorem dX6_isKnot_20 : decode cX6_isKnot 20 = .ok (.ireturn, 1) := by decide +kernel
theorem dX6_isKnot_21 : decode cX6_isKnot 21 = .ok (.aload_n 0, 1) := by decide +kernel
theorem dX6_isKnot_22 : decode cX6_isKnot 22 = .ok (.getfield 30, 3) := by decide +kernel
theorem dX6_isKnot_25 : decode cX6_isKnot 25 = .ok (.getfield 166, 3) := by decide +kernel
theorem dX6_isKnot_28 : decode cX6_isKnot 28 = .ok (.dup, 1) := by decide +kernel
theorem dX6_isKnot_29 : decode cX6_isKnot 29 = .ok (.getfield 214, 3) := by decide +kernel
theorem dX6_isKnot_32 : decode cX6_isKnot 32 = .ok (.iconst 1, 1) := by decide +kernel
theorem dX6_isKnot_33 : decode cX6_isKnot 33 = .ok (.iadd, 1) := by decide +kernel
theorem dX6_isKnot_34 : decode cX6_isKnot 34 = .ok (.putfield 214, 3) := by decide +kernel
theorem dX6_isKnot_37 : decode cX6_isKnot 37 = .ok (.iconst 1, 1) := by decide +kernel
theorem dX6_isKnot_38 : decode cX6_isKnot 38 = .ok (.ireturn, 1) := by decide +kernel
theorem dX6_puts_0 : decode cX6_puts 0 = .ok (.aload_n 0, 1) := by decide +kernel
theorem dX6_puts_1 : decode cX6_puts 1 = .ok (.getfield 30, 3) := by decide +kernel
theorem dX6_puts_4 : decode cX6_puts 4 = .ok (.getfield 166, 3) := by decide +kernel
theorem dX6_puts_7 : decode cX6_puts 7 = .ok (.iload_n 1, 1) := by decide +kernel
theorem dX6_puts_8 : decode cX6_puts 8 = .ok (.invokevirtual 217, 3) := by decide +kernel
theorem dX6_puts_11 : decode cX6_puts 11 = .ok (.iconst 1, 1) := by decide +kernel
theorem dX6_puts_12 : decode cX6_puts 12 = .ok (.ireturn, 1) := by decide +kernel
theorem dX6_holds_0 : decode cX6_holds 0 = .ok (.aload_n 0, 1) := by decide +kernel
theorem dX6_holds_1 : decode cX6_holds 1 = .ok (.getfield 180, 3) := by decide +kernel
theorem dX6_holds_4 : decode cX6_holds 4 = .ok (.aload_n 0, 1) := by decide +kernel
theorem dX6_holds_5 : decode cX6_holds 5 = .ok (.getfield 13, 3) := by decide +kernel
theorem dX6_holds_8 : decode cX6_holds 8 = .ok (.arraylength, 1) := by decide +kernel
theorem dX6_holds_9 : decode cX6_holds 9 = .ok (.if_icmp .ge 23, 3) := by decide +kernel
theorem dX6_holds_12 : decode cX6_holds 12 = .ok (.aload_n 0, 1) := by decide +kernel
theorem dX6_holds_13 : decode cX6_holds 13 = .ok (.getfield 13, 3) := by decide +kernel
theorem dX6_holds_16 : decode cX6_holds 16 = .ok (.aload_n 0, 1) := by decide +kernel
theorem dX6_holds_17 : decode cX6_holds 17 = .ok (.getfield 180, 3) := by decide +kernel
theorem dX6_holds_20 : decode cX6_holds 20 = .ok (.iload_n 1, 1) := by decide +kernel
theorem dX6_holds_21 : decode cX6_holds 21 = .ok (.iastore, 1) := by decide +kernel
theorem dX6_holds_22 : decode cX6_holds 22 = .ok (.aload_n 0, 1) := by decide +kernel
theorem dX6_holds_23 : decode cX6_holds 23 = .ok (.dup, 1) := by decide +kernel
theorem dX6_holds_24 : decode cX6_holds 24 = .ok (.getfield 180, 3) := by decide +kernel
theorem dX6_holds_27 : decode cX6_holds 27 = .ok (.iconst 1, 1) := by decide +kernel
theorem dX6_holds_28 : decode cX6_holds 28 = .ok (.iadd, 1) := by decide +kernel
theorem dX6_holds_29 : decode cX6_holds 29 = .ok (.putfield 180, 3) := by decide +kernel
theorem dX6_holds_32 : decode cX6_holds 32 = .ok (.iconst 1, 1) := by decide +kernel
theorem dX6_holds_33 : decode cX6_holds 33 = .ok (.ireturn, 1) := by decide +kernel
theorem dX6_rankOfLatest_0 : decode cX6_rankOfLatest 0 = .ok (.aload_n 0, 1) := by decide +kernel
theorem dX6_rankOfLatest_1 : decode cX6_rankOfLatest 1 = .ok (.getfield 180, 3) := by decide +kernel
theorem dX6_rankOfLatest_4 : decode cX6_rankOfLatest 4 = .ok (.ifCond .le 20, 3) := by decide +kernel
theorem dX6_rankOfLatest_7 : decode cX6_rankOfLatest 7 = .ok (.aload_n 0, 1) := by decide +kernel
theorem dX6_rankOfLatest_8 : decode cX6_rankOfLatest 8 = .ok (.getfield 13, 3) := by decide +kernel
theorem dX6_rankOfLatest_11 : decode cX6_rankOfLatest 11 = .ok (.aload_n 0, 1) := by decide +kernel
theorem dX6_rankOfLatest_12 : decode cX6_rankOfLatest 12 = .ok (.getfield 180, 3) := by decide +kernel
theorem dX6_rankOfLatest_15 : decode cX6_rankOfLatest 15 = .ok (.iconst 1, 1) := by decide +kernel
theorem dX6_rankOfLatest_16 : decode cX6_rankOfLatest 16 = .ok (.isub, 1) := by decide +kernel
theorem dX6_rankOfLatest_17 : decode cX6_rankOfLatest 17 = .ok (.iaload, 1) := by decide +kernel
theorem dX6_rankOfLatest_18 : decode cX6_rankOfLatest 18 = .ok (.invokestatic 211, 3) := by decide +kernel
theorem dX6_rankOfLatest_21 : decode cX6_rankOfLatest 21 = .ok (.goto 4, 3) := by decide +kernel
theorem dX6_rankOfLatest_24 : decode cX6_rankOfLatest 24 = .ok (.iconst 0, 1) := by decide +kernel
theorem dX6_rankOfLatest_25 : decode cX6_rankOfLatest 25 = .ok (.ireturn, 1) := by decide +kernel
theorem dX6_release_0 : decode cX6_release 0 = .ok (.aload_n 0, 1) := by decide +kernel
theorem dX6_release_1 : decode cX6_release 1 = .ok (.getfield 180, 3) := by decide +kernel
theorem dX6_release_4 : decode cX6_release 4 = .ok (.ifCond .le 57, 3) := by decide +kernel
theorem dX6_release_7 : decode cX6_release 7 = .ok (.aload_n 0, 1) := by decide +kernel
theorem dX6_release_8 : decode cX6_release 8 = .ok (.getfield 13, 3) := by decide +kernel
theorem dX6_release_11 : decode cX6_release 11 = .ok (.aload_n 0, 1) := by decide +kernel
theorem dX6_release_12 : decode cX6_release 12 = .ok (.getfield 180, 3) := by decide +kernel
theorem dX6_release_15 : decode cX6_release 15 = .ok (.iconst 1, 1) := by decide +kernel
theorem dX6_release_16 : decode cX6_release 16 = .ok (.isub, 1) := by decide +kernel
theorem dX6_release_17 : decode cX6_release 17 = .ok (.iaload, 1) := by decide +kernel
theorem dX6_release_18 : decode cX6_release 18 = .ok (.invokestatic 211, 3) := by decide +kernel
theorem dX6_release_21 : decode cX6_release 21 = .ok (.iload_n 1, 1) := by decide +kernel
theorem dX6_release_22 : decode cX6_release 22 = .ok (.if_icmp .lt 39, 3) := by decide +kernel
theorem dX6_release_25 : decode cX6_release 25 = .ok (.aload_n 0, 1) := by decide +kernel
theorem dX6_release_26 : decode cX6_release 26 = .ok (.dup, 1) := by decide +kernel
theorem dX6_release_27 : decode cX6_release 27 = .ok (.getfield 180, 3) := by decide +kernel
theorem dX6_release_30 : decode cX6_release 30 = .ok (.iconst 1, 1) := by decide +kernel
theorem dX6_release_31 : decode cX6_release 31 = .ok (.isub, 1) := by decide +kernel
theorem dX6_release_32 : decode cX6_release 32 = .ok (.putfield 180, 3) := by decide +kernel
theorem dX6_release_35 : decode cX6_release 35 = .ok (.aload_n 0, 1) := by decide +kernel
theorem dX6_release_36 : decode cX6_release 36 = .ok (.getfield 30, 3) := by decide +kernel
theorem dX6_release_39 : decode cX6_release 39 = .ok (.getfield 166, 3) := by decide +kernel
theorem dX6_release_42 : decode cX6_release 42 = .ok (.sipush 20000, 3) := by decide +kernel
theorem dX6_release_45 : decode cX6_release 45 = .ok (.aload_n 0, 1) := by decide +kernel
theorem dX6_release_46 : decode cX6_release 46 = .ok (.getfield 13, 3) := by decide +kernel
theorem dX6_release_49 : decode cX6_release 49 = .ok (.aload_n 0, 1) := by decide +kernel
theorem dX6_release_50 : decode cX6_release 50 = .ok (.getfield 180, 3) := by decide +kernel
theorem dX6_release_53 : decode cX6_release 53 = .ok (.iaload, 1) := by decide +kernel
theorem dX6_release_54 : decode cX6_release 54 = .ok (.iadd, 1) := by decide +kernel
theorem dX6_release_55 : decode cX6_release 55 = .ok (.invokevirtual 217, 3) := by decide +kernel
theorem dX6_release_58 : decode cX6_release 58 = .ok (.goto (-58), 3) := by decide +kernel
theorem dX6_release_61 : decode cX6_release 61 = .ok (.return_, 1) := by decide +kernel
theorem dX6_rankOf_0 : decode cX6_rankOf 0 = .ok (.iload_n 0, 1) := by decide +kernel
theorem dX6_rankOf_1 : decode cX6_rankOf 1 = .ok (.tableswitch 118 10 32 #[107, 109, 111, 118, 118, 118, 118, 118, 118, 118, 118, 118, 118, 118, 118, 118, 118, 118, 118, 113, 113, 115, 115], 107) := by decide +kernel
theorem dX6_rankOf_108 : decode cX6_rankOf 108 = .ok (.iconst 1, 1) := by decide +kernel
theorem dX6_rankOf_109 : decode cX6_rankOf 109 = .ok (.ireturn, 1) := by decide +kernel
theorem dX6_rankOf_110 : decode cX6_rankOf 110 = .ok (.iconst 2, 1) := by decide +kernel
theorem dX6_rankOf_111 : decode cX6_rankOf 111 = .ok (.ireturn, 1) := by decide +kernel
theorem dX6_rankOf_112 : decode cX6_rankOf 112 = .ok (.iconst 3, 1) := by decide +kernel
theorem dX6_rankOf_113 : decode cX6_rankOf 113 = .ok (.ireturn, 1) := by decide +kernel
theorem dX6_rankOf_114 : decode cX6_rankOf 114 = .ok (.iconst 5, 1) := by decide +kernel
theorem dX6_rankOf_115 : decode cX6_rankOf 115 = .ok (.ireturn, 1) := by decide +kernel
theorem dX6_rankOf_116 : decode cX6_rankOf 116 = .ok (.bipush 6, 2) := by decide +kernel
theorem dX6_rankOf_118 : decode cX6_rankOf 118 = .ok (.ireturn, 1) := by decide +kernel
theorem dX6_rankOf_119 : decode cX6_rankOf 119 = .ok (.iload_n 0, 1) := by decide +kernel
theorem dX6_rankOf_120 : decode cX6_rankOf 120 = .ok (.bipush 23, 2) := by decide +kernel
theorem dX6_rankOf_122 : decode cX6_rankOf 122 = .ok (.if_icmp .lt 13, 3) := by decide +kernel
theorem dX6_rankOf_125 : decode cX6_rankOf 125 = .ok (.iload_n 0, 1) := by decide +kernel
theorem dX6_rankOf_126 : decode cX6_rankOf 126 = .ok (.bipush 28, 2) := by decide +kernel
theorem dX6_rankOf_128 : decode cX6_rankOf 128 = .ok (.if_icmp .gt 7, 3) := by decide +kernel
theorem dX6_rankOf_131 : decode cX6_rankOf 131 = .ok (.iconst 4, 1) := by decide +kernel
theorem dX6_rankOf_132 : decode cX6_rankOf 132 = .ok (.goto 4, 3) := by decide +kernel
theorem dX6_rankOf_135 : decode cX6_rankOf 135 = .ok (.iconst 0, 1) := by decide +kernel
theorem dX6_rankOf_136 : decode cX6_rankOf 136 = .ok (.ireturn, 1) := by decide +kernel
theorem dX7_init_0 : decode cX7_init 0 = .ok (.aload_n 0, 1) := by decide +kernel
theorem dX7_init_1 : decode cX7_init 1 = .ok (.invokespecial 1, 3) := by decide +kernel
theorem dX7_init_4 : decode cX7_init 4 = .ok (.aload_n 0, 1) := by decide +kernel
theorem dX7_init_5 : decode cX7_init 5 = .ok (.bipush 20, 2) := by decide +kernel
theorem dX7_init_7 : decode cX7_init 7 = .ok (.newarray .int, 2) := by decide +kernel
theorem dX7_init_9 : decode cX7_init 9 = .ok (.putfield 9, 3) := by decide +kernel
theorem dX7_init_12 : decode cX7_init 12 = .ok (.aload_n 0, 1) := by decide +kernel
theorem dX7_init_13 : decode cX7_init 13 = .ok (.aload_n 1, 1) := by decide +kernel
theorem dX7_init_14 : decode cX7_init 14 = .ok (.putfield 13, 3) := by decide +kernel
theorem dX7_init_17 : decode cX7_init 17 = .ok (.iconst 0, 1) := by decide +kernel
theorem dX7_init_18 : decode cX7_init 18 = .ok (.istore_n 2, 1) := by decide +kernel
theorem dX7_init_19 : decode cX7_init 19 = .ok (.iload_n 2, 1) := by decide +kernel
theorem dX7_init_20 : decode cX7_init 20 = .ok (.ldc 17, 2) := by decide +kernel
theorem dX7_init_22 : decode cX7_init 22 = .ok (.invokevirtual 19, 3) := by decide +kernel
theorem dX7_init_25 : decode cX7_init 25 = .ok (.if_icmp .ge 48, 3) := by decide +kernel
theorem dX7_init_28 : decode cX7_init 28 = .ok (.iload_n 2, 1) := by decide +kernel
theorem dX7_init_29 : decode cX7_init 29 = .ok (.bipush 120, 2) := by decide +kernel
theorem dX7_init_31 : decode cX7_init 31 = .ok (.if_icmp .ge 42, 3) := by decide +kernel
theorem dX7_init_34 : decode cX7_init 34 = .ok (.ldc 17, 2) := by decide +kernel
theorem dX7_init_36 : decode cX7_init 36 = .ok (.iload_n 2, 1) := by decide +kernel
theorem dX7_init_37 : decode cX7_init 37 = .ok (.invokevirtual 25, 3) := by decide +kernel
theorem dX7_init_40 : decode cX7_init 40 = .ok (.istore_n 3, 1) := by decide +kernel
theorem dX7_init_41 : decode cX7_init 41 = .ok (.iload_n 3, 1) := by decide +kernel
theorem dX7_init_42 : decode cX7_init 42 = .ok (.bipush 32, 2) := by decide +kernel
theorem dX7_init_44 : decode cX7_init 44 = .ok (.if_icmp .eq 23, 3) := by decide +kernel
theorem dX7_init_47 : decode cX7_init 47 = .ok (.aload_n 0, 1) := by decide +kernel
theorem dX7_init_48 : decode cX7_init 48 = .ok (.getfield 9, 3) := by decide +kernel
theorem dX7_init_51 : decode cX7_init 51 = .ok (.iload_n 2, 1) := by decide +kernel
theorem dX7_init_52 : decode cX7_init 52 = .ok (.bipush 6, 2) := by decide +kernel
theorem dX7_init_54 : decode cX7_init 54 = .ok (.idiv, 1) := by decide +kernel
theorem dX7_init_55 : decode cX7_init 55 = .ok (.dup2, 1) := by decide +kernel
theorem dX7_init_56 : decode cX7_init 56 = .ok (.iaload, 1) := by decide +kernel
theorem dX7_init_57 : decode cX7_init 57 = .ok (.iload_n 3, 1) := by decide +kernel
theorem dX7_init_58 : decode cX7_init 58 = .ok (.iload_n 2, 1) := by decide +kernel
theorem dX7_init_59 : decode cX7_init 59 = .ok (.bipush 6, 2) := by decide +kernel
theorem dX7_init_61 : decode cX7_init 61 = .ok (.irem, 1) := by decide +kernel
theorem dX7_init_62 : decode cX7_init 62 = .ok (.invokestatic 29, 3) := by decide +kernel
theorem dX7_init_65 : decode cX7_init 65 = .ok (.ior, 1) := by decide +kernel
theorem dX7_init_66 : decode cX7_init 66 = .ok (.iastore, 1) := by decide +kernel
theorem dX7_init_67 : decode cX7_init 67 = .ok (.iinc 2 1, 3) := by decide +kernel
theorem dX7_init_70 : decode cX7_init 70 = .ok (.goto (-51), 3) := by decide +kernel
theorem dX7_init_73 : decode cX7_init 73 = .ok (.return_, 1) := by decide +kernel
theorem dX7_letter_0 : decode cX7_letter 0 = .ok (.iload_n 0, 1) := by decide +kernel
theorem dX7_letter_1 : decode cX7_letter 1 = .ok (.bipush 97, 2) := by decide +kernel
theorem dX7_letter_3 : decode cX7_letter 3 = .ok (.isub, 1) := by decide +kernel
theorem dX7_letter_4 : decode cX7_letter 4 = .ok (.iconst 1, 1) := by decide +kernel
theorem dX7_letter_5 : decode cX7_letter 5 = .ok (.iadd, 1) := by decide +kernel
theorem dX7_letter_6 : decode cX7_letter 6 = .ok (.iconst 5, 1) := by decide +kernel
theorem dX7_letter_7 : decode cX7_letter 7 = .ok (.iconst 5, 1) := by decide +kernel
theorem dX7_letter_8 : decode cX7_letter 8 = .ok (.iload_n 1, 1) := by decide +kernel
theorem dX7_letter_9 : decode cX7_letter 9 = .ok (.isub, 1) := by decide +kernel
theorem dX7_letter_10 : decode cX7_letter 10 = .ok (.imul, 1) := by decide +kernel
theorem dX7_letter_11 : decode cX7_letter 11 = .ok (.ishl, 1) := by decide +kernel
theorem dX7_letter_12 : decode cX7_letter 12 = .ok (.ireturn, 1) := by decide +kernel
theorem dX7_begin_0 : decode cX7_begin 0 = .ok (.aload_n 0, 1) := by decide +kernel
theorem dX7_begin_1 : decode cX7_begin 1 = .ok (.iload_n 1, 1) := by decide +kernel
theorem dX7_begin_2 : decode cX7_begin 2 = .ok (.putfield 33, 3) := by decide +kernel
theorem dX7_begin_5 : decode cX7_begin 5 = .ok (.aload_n 0, 1) := by decide +kernel
theorem dX7_begin_6 : decode cX7_begin 6 = .ok (.iconst 0, 1) := by decide +kernel
theorem dX7_begin_7 : decode cX7_begin 7 = .ok (.putfield 36, 3) := by decide +kernel
theorem dX7_begin_10 : decode cX7_begin 10 = .ok (.return_, 1) := by decide +kernel
theorem dX7_isName_0 : decode cX7_isName 0 = .ok (.aload_n 0, 1) := by decide +kernel
theorem dX7_isName_1 : decode cX7_isName 1 = .ok (.getfield 39, 3) := by decide +kernel
theorem dX7_isName_4 : decode cX7_isName 4 = .ok (.bipush 13, 2) := by decide +kernel
theorem dX7_isName_6 : decode cX7_isName 6 = .ok (.if_icmp .lt 16, 3) := by decide +kernel
theorem dX7_isName_9 : decode cX7_isName 9 = .ok (.aload_n 0, 1) := by decide +kernel
theorem dX7_isName_10 : decode cX7_isName 10 = .ok (.getfield 39, 3) := by decide +kernel
theorem dX7_isName_13 : decode cX7_isName 13 = .ok (.bipush 19, 2) := by decide +kernel
theorem dX7_isName_15 : decode cX7_isName 15 = .ok (.if_icmp .gt 7, 3) := by decide +kernel
theorem dX7_isName_18 : decode cX7_isName 18 = .ok (.iconst 1, 1) := by decide +kernel
theorem dX7_isName_19 : decode cX7_isName 19 = .ok (.goto 4, 3) := by decide +kernel
theorem dX7_isName_22 : decode cX7_isName 22 = .ok (.iconst 0, 1) := by decide +kernel
theorem dX7_isName_23 : decode cX7_isName 23 = .ok (.ireturn, 1) := by decide +kernel
theorem dX7_signAt_0 : decode cX7_signAt 0 = .ok (.iload_n 1, 1) := by decide +kernel
theorem dX7_signAt_1 : decode cX7_signAt 1 = .ok (.ifCond .lt 33, 3) := by decide +kernel
theorem dX7_signAt_4 : decode cX7_signAt 4 = .ok (.iload_n 1, 1) := by decide +kernel
theorem dX7_signAt_5 : decode cX7_signAt 5 = .ok (.aload_n 0, 1) := by decide +kernel
theorem dX7_signAt_6 : decode cX7_signAt 6 = .ok (.getfield 33, 3) := by decide +kernel
theorem dX7_signAt_9 : decode cX7_signAt 9 = .ok (.if_icmp .ge 25, 3) := by decide +kernel
theorem dX7_signAt_12 : decode cX7_signAt 12 = .ok (.iload_n 1, 1) := by decide +kernel
theorem dX7_signAt_13 : decode cX7_signAt 13 = .ok (.aload_n 0, 1) := by decide +kernel
theorem dX7_signAt_14 : decode cX7_signAt 14 = .ok (.getfield 13, 3) := by decide +kernel
theorem dX7_signAt_17 : decode cX7_signAt 17 = .ok (.arraylength, 1) := by decide +kernel
theorem dX7_signAt_18 : decode cX7_signAt 18 = .ok (.if_icmp .ge 16, 3) := by decide +kernel
theorem dX7_signAt_21 : decode cX7_signAt 21 = .ok (.aload_n 0, 1) := by decide +kernel
theorem dX7_signAt_22 : decode cX7_signAt 22 = .ok (.getfield 13, 3) := by decide +kernel
theorem dX7_signAt_25 : decode cX7_signAt 25 = .ok (.iload_n 1, 1) := by decide +kernel
theorem dX7_signAt_26 : decode cX7_signAt 26 = .ok (.baload, 1) := by decide +kernel
theorem dX7_signAt_27 : decode cX7_signAt 27 = .ok (.sipush 255, 3) := by decide +kernel
theorem dX7_signAt_30 : decode cX7_signAt 30 = .ok (.iand, 1) := by decide +kernel
theorem dX7_signAt_31 : decode cX7_signAt 31 = .ok (.goto 4, 3) := by decide +kernel
theorem dX7_signAt_34 : decode cX7_signAt 34 = .ok (.iconst 0, 1) := by decide +kernel
theorem dX7_signAt_35 : decode cX7_signAt 35 = .ok (.ireturn, 1) := by decide +kernel
theorem dX7_isLetter_0 : decode cX7_isLetter 0 = .ok (.iload_n 0, 1) := by decide +kernel
theorem dX7_isLetter_1 : decode cX7_isLetter 1 = .ok (.bipush 97, 2) := by decide +kernel
theorem dX7_isLetter_3 : decode cX7_isLetter 3 = .ok (.if_icmp .lt 13, 3) := by decide +kernel
theorem dX7_isLetter_6 : decode cX7_isLetter 6 = .ok (.iload_n 0, 1) := by decide +kernel
theorem dX7_isLetter_7 : decode cX7_isLetter 7 = .ok (.bipush 122, 2) := by decide +kernel
theorem dX7_isLetter_9 : decode cX7_isLetter 9 = .ok (.if_icmp .gt 7, 3) := by decide +kernel
theorem dX7_isLetter_12 : decode cX7_isLetter 12 = .ok (.iconst 1, 1) := by decide +kernel
theorem dX7_isLetter_13 : decode cX7_isLetter 13 = .ok (.goto 4, 3) := by decide +kernel
theorem dX7_isLetter_16 : decode cX7_isLetter 16 = .ok (.iconst 0, 1) := by decide +kernel
theorem dX7_isLetter_17 : decode cX7_isLetter 17 = .ok (.ireturn, 1) := by decide +kernel
theorem dX7_isDigit_0 : decode cX7_isDigit 0 = .ok (.iload_n 0, 1) := by decide +kernel
theorem dX7_isDigit_1 : decode cX7_isDigit 1 = .ok (.bipush 48, 2) := by decide +kernel
theorem dX7_isDigit_3 : decode cX7_isDigit 3 = .ok (.if_icmp .lt 13, 3) := by decide +kernel
theorem dX7_isDigit_6 : decode cX7_isDigit 6 = .ok (.iload_n 0, 1) := by decide +kernel
theorem dX7_isDigit_7 : decode cX7_isDigit 7 = .ok (.bipush 57, 2) := by decide +kernel
theorem dX7_isDigit_9 : decode cX7_isDigit 9 = .ok (.if_icmp .gt 7, 3) := by decide +kernel
theorem dX7_isDigit_12 : decode cX7_isDigit 12 = .ok (.iconst 1, 1) := by decide +kernel
theorem dX7_isDigit_13 : decode cX7_isDigit 13 = .ok (.goto 4, 3) := by decide +kernel
theorem dX7_isDigit_16 : decode cX7_isDigit 16 = .ok (.iconst 0, 1) := by decide +kernel
theorem dX7_isDigit_17 : decode cX7_isDigit 17 = .ok (.ireturn, 1) := by decide +kernel
theorem dX7_step_0 : decode cX7_step 0 = .ok (.aload_n 0, 1) := by decide +kernel
theorem dX7_step_1 : decode cX7_step 1 = .ok (.getfield 36, 3) := by decide +kernel
theorem dX7_step_4 : decode cX7_step 4 = .ok (.aload_n 0, 1) := by decide +kernel
theorem dX7_step_5 : decode cX7_step 5 = .ok (.getfield 33, 3) := by decide +kernel
theorem dX7_step_8 : decode cX7_step 8 = .ok (.if_icmp .ge 42, 3) := by decide +kernel
theorem dX7_step_11 : decode cX7_step 11 = .ok (.aload_n 0, 1) := by decide +kernel
theorem dX7_step_12 : decode cX7_step 12 = .ok (.aload_n 0, 1) := by decide +kernel
theorem dX7_step_13 : decode cX7_step 13 = .ok (.getfield 36, 3) := by decide +kernel
theorem dX7_step_16 : decode cX7_step 16 = .ok (.invokevirtual 42, 3) := by decide +kernel
theorem dX7_step_19 : decode cX7_step 19 = .ok (.bipush 32, 2) := by decide +kernel
theorem dX7_step_21 : decode cX7_step 21 = .ok (.if_icmp .eq 16, 3) := by decide +kernel
theorem dX7_step_24 : decode cX7_step 24 = .ok (.aload_n 0, 1) := by decide +kernel
theorem dX7_step_25 : decode cX7_step 25 = .ok (.aload_n 0, 1) := by decide +kernel
theorem dX7_step_26 : decode cX7_step 26 = .ok (.getfield 36, 3) := by decide +kernel
theorem dX7_step_29 : decode cX7_step 29 = .ok (.invokevirtual 42, 3) := by decide +kernel
theorem dX7_step_32 : decode cX7_step 32 = .ok (.bipush 10, 2) := by decide +kernel
theorem dX7_step_34 : decode cX7_step 34 = .ok (.if_icmp .ne 16, 3) := by decide +kernel
theorem dX7_step_37 : decode cX7_step 37 = .ok (.aload_n 0, 1) := by decide +kernel
theorem dX7_step_38 : decode cX7_step 38 = .ok (.dup, 1) := by decide +kernel
theorem dX7_step_39 : decode cX7_step 39 = .ok (.getfield 36, 3) := by decide +kernel
theorem dX7_step_42 : decode cX7_step 42 = .ok (.iconst 1, 1) := by decide +kernel
theorem dX7_step_43 : decode cX7_step 43 = .ok (.iadd, 1) := by decide +kernel
theorem dX7_step_44 : decode cX7_step 44 = .ok (.putfield 36, 3) := by decide +kernel
theorem dX7_step_47 : decode cX7_step 47 = .ok (.goto (-47), 3) := by decide +kernel
theorem dX7_step_50 : decode cX7_step 50 = .ok (.aload_n 0, 1) := by decide +kernel
theorem dX7_step_51 : decode cX7_step 51 = .ok (.aload_n 0, 1) := by decide +kernel
theorem dX7_step_52 : decode cX7_step 52 = .ok (.getfield 36, 3) := by decide +kernel
theorem dX7_step_55 : decode cX7_step 55 = .ok (.putfield 46, 3) := by decide +kernel
theorem dX7_step_58 : decode cX7_step 58 = .ok (.aload_n 0, 1) := by decide +kernel
theorem dX7_step_59 : decode cX7_step 59 = .ok (.aload_n 0, 1) := by decide +kernel
theorem dX7_step_60 : decode cX7_step 60 = .ok (.getfield 36, 3) := by decide +kernel
theorem dX7_step_63 : decode cX7_step 63 = .ok (.invokevirtual 42, 3) := by decide +kernel
theorem dX7_step_66 : decode cX7_step 66 = .ok (.istore_n 1, 1) := by decide +kernel
theorem dX7_step_67 : decode cX7_step 67 = .ok (.aload_n 0, 1) := by decide +kernel
theorem dX7_step_68 : decode cX7_step 68 = .ok (.getfield 36, 3) := by decide +kernel
theorem dX7_step_71 : decode cX7_step 71 = .ok (.aload_n 0, 1) := by decide +kernel
theorem dX7_step_72 : decode cX7_step 72 = .ok (.getfield 33, 3) := by decide +kernel
theorem dX7_step_75 : decode cX7_step 75 = .ok (.if_icmp .lt 12, 3) := by decide +kernel
theorem dX7_step_78 : decode cX7_step 78 = .ok (.aload_n 0, 1) := by decide +kernel
theorem dX7_step_79 : decode cX7_step 79 = .ok (.bipush 35, 2) := by decide +kernel
theorem dX7_step_81 : decode cX7_step 81 = .ok (.putfield 39, 3) := by decide +kernel
theorem dX7_step_84 : decode cX7_step 84 = .ok (.goto 94, 3) := by decide +kernel
theorem dX7_step_87 : decode cX7_step 87 = .ok (.iload_n 1, 1) := by decide +kernel
theorem dX7_step_88 : decode cX7_step 88 = .ok (.invokestatic 49, 3) := by decide +kernel
theorem dX7_step_91 : decode cX7_step 91 = .ok (.ifCond .eq 10, 3) := by decide +kernel
theorem dX7_step_94 : decode cX7_step 94 = .ok (.aload_n 0, 1) := by decide +kernel
theorem dX7_step_95 : decode cX7_step 95 = .ok (.invokevirtual 53, 3) := by decide +kernel
theorem dX7_step_98 : decode cX7_step 98 = .ok (.goto 80, 3) := by decide +kernel
theorem dX7_step_101 : decode cX7_step 101 = .ok (.iload_n 1, 1) := by decide +kernel
theorem dX7_step_102 : decode cX7_step 102 = .ok (.invokestatic 56, 3) := by decide +kernel
theorem dX7_step_105 : decode cX7_step 105 = .ok (.ifCond .eq 10, 3) := by decide +kernel
theorem dX7_step_108 : decode cX7_step 108 = .ok (.aload_n 0, 1) := by decide +kernel
theorem dX7_step_109 : decode cX7_step 109 = .ok (.invokevirtual 59, 3) := by decide +kernel
theorem dX7_step_112 : decode cX7_step 112 = .ok (.goto 66, 3) := by decide +kernel
theorem dX7_step_115 : decode cX7_step 115 = .ok (.aload_n 0, 1) := by decide +kernel
theorem dX7_step_116 : decode cX7_step 116 = .ok (.dup, 1) := by decide +kernel
theorem dX7_step_117 : decode cX7_step 117 = .ok (.getfield 36, 3) := by decide +kernel
theorem dX7_step_120 : decode cX7_step 120 = .ok (.iconst 1, 1) := by decide +kernel
theorem dX7_step_121 : decode cX7_step 121 = .ok (.iadd, 1) := by decide +kernel
theorem dX7_step_122 : decode cX7_step 122 = .ok (.putfield 36, 3) := by decide +kernel
theorem dX7_step_125 : decode cX7_step 125 = .ok (.aload_n 0, 1) := by decide +kernel
theorem dX7_step_126 : decode cX7_step 126 = .ok (.iload_n 1, 1) := by decide +kernel
theorem dX7_step_127 : decode cX7_step 127 = .ok (.aload_n 0, 1) := by decide +kernel
theorem dX7_step_128 : decode cX7_step 128 = .ok (.aload_n 0, 1) := by decide +kernel
theorem dX7_step_129 : decode cX7_step 129 = .ok (.getfield 36, 3) := by decide +kernel
theorem dX7_step_132 : decode cX7_step 132 = .ok (.invokevirtual 42, 3) := by decide +kernel
theorem dX7_step_135 : decode cX7_step 135 = .ok (.invokestatic 62, 3) := by decide +kernel
theorem dX7_step_138 : decode cX7_step 138 = .ok (.putfield 39, 3) := by decide +kernel
theorem dX7_step_141 : decode cX7_step 141 = .ok (.aload_n 0, 1) := by decide +kernel
theorem dX7_step_142 : decode cX7_step 142 = .ok (.getfield 39, 3) := by decide +kernel
theorem dX7_step_145 : decode cX7_step 145 = .ok (.bipush 24, 2) := by decide +kernel
theorem dX7_step_147 : decode cX7_step 147 = .ok (.if_icmp .eq 21, 3) := by decide +kernel
theorem dX7_step_150 : decode cX7_step 150 = .ok (.aload_n 0, 1) := by decide +kernel
theorem dX7_step_151 : decode cX7_step 151 = .ok (.getfield 39, 3) := by decide +kernel
theorem dX7_step_154 : decode cX7_step 154 = .ok (.bipush 27, 2) := by decide +kernel
theorem dX7_step_156 : decode cX7_step 156 = .ok (.if_icmp .eq 12, 3) := by decide +kernel
theorem dX7_step_159 : decode cX7_step 159 = .ok (.aload_n 0, 1) := by decide +kernel
theorem dX7_step_160 : decode cX7_step 160 = .ok (.getfield 39, 3) := by decide +kernel
theorem dX7_step_163 : decode cX7_step 163 = .ok (.bipush 26, 2) := by decide +kernel
theorem dX7_step_165 : decode cX7_step 165 = .ok (.if_icmp .ne 13, 3) := by decide +kernel
theorem dX7_step_168 : decode cX7_step 168 = .ok (.aload_n 0, 1) := by decide +kernel
theorem dX7_step_169 : decode cX7_step 169 = .ok (.dup, 1) := by decide +kernel
theorem dX7_step_170 : decode cX7_step 170 = .ok (.getfield 36, 3) := by decide +kernel
theorem dX7_step_173 : decode cX7_step 173 = .ok (.iconst 1, 1) := by decide +kernel
theorem dX7_step_174 : decode cX7_step 174 = .ok (.iadd, 1) := by decide +kernel
theorem dX7_step_175 : decode cX7_step 175 = .ok (.putfield 36, 3) := by decide +kernel
theorem dX7_step_178 : decode cX7_step 178 = .ok (.return_, 1) := by decide +kernel
theorem dX7_stepWord_0 : decode cX7_stepWord 0 = .ok (.iconst 0, 1) := by decide +kernel
theorem dX7_stepWord_1 : decode cX7_stepWord 1 = .ok (.istore_n 1, 1) := by decide +kernel
theorem dX7_stepWord_2 : decode cX7_stepWord 2 = .ok (.iconst 0, 1) := by decide +kernel
theorem dX7_stepWord_3 : decode cX7_stepWord 3 = .ok (.istore_n 2, 1) := by decide +kernel
theorem dX7_stepWord_4 : decode cX7_stepWord 4 = .ok (.aload_n 0, 1) := by decide +kernel
theorem dX7_stepWord_5 : decode cX7_stepWord 5 = .ok (.getfield 36, 3) := by decide +kernel
theorem dX7_stepWord_8 : decode cX7_stepWord 8 = .ok (.aload_n 0, 1) := by decide +kernel
theorem dX7_stepWord_9 : decode cX7_stepWord 9 = .ok (.getfield 33, 3) := by decide +kernel
theorem dX7_stepWord_12 : decode cX7_stepWord 12 = .ok (.if_icmp .ge 54, 3) := by decide +kernel
theorem dX7_stepWord_15 : decode cX7_stepWord 15 = .ok (.aload_n 0, 1) := by decide +kernel
theorem dX7_stepWord_16 : decode cX7_stepWord 16 = .ok (.aload_n 0, 1) := by decide +kernel
theorem dX7_stepWord_17 : decode cX7_stepWord 17 = .ok (.getfield 36, 3) := by decide +kernel
theorem dX7_stepWord_20 : decode cX7_stepWord 20 = .ok (.invokevirtual 42, 3) := by decide +kernel
theorem dX7_stepWord_23 : decode cX7_stepWord 23 = .ok (.invokestatic 49, 3) := by decide +kernel
theorem dX7_stepWord_26 : decode cX7_stepWord 26 = .ok (.ifCond .eq 40, 3) := by decide +kernel
theorem dX7_stepWord_29 : decode cX7_stepWord 29 = .ok (.iload_n 2, 1) := by decide +kernel
theorem dX7_stepWord_30 : decode cX7_stepWord 30 = .ok (.bipush 6, 2) := by decide +kernel
theorem dX7_stepWord_32 : decode cX7_stepWord 32 = .ok (.if_icmp .ge 18, 3) := by decide +kernel
theorem dX7_stepWord_35 : decode cX7_stepWord 35 = .ok (.iload_n 1, 1) := by decide +kernel
theorem dX7_stepWord_36 : decode cX7_stepWord 36 = .ok (.aload_n 0, 1) := by decide +kernel
theorem dX7_stepWord_37 : decode cX7_stepWord 37 = .ok (.aload_n 0, 1) := by decide +kernel
theorem dX7_stepWord_38 : decode cX7_stepWord 38 = .ok (.getfield 36, 3) := by decide +kernel
theorem dX7_stepWord_41 : decode cX7_stepWord 41 = .ok (.invokevirtual 42, 3) := by decide +kernel
theorem dX7_stepWord_44 : decode cX7_stepWord 44 = .ok (.iload_n 2, 1) := by decide +kernel
theorem dX7_stepWord_45 : decode cX7_stepWord 45 = .ok (.invokestatic 29, 3) := by decide +kernel
theorem dX7_stepWord_48 : decode cX7_stepWord 48 = .ok (.ior, 1) := by decide +kernel
theorem dX7_stepWord_49 : decode cX7_stepWord 49 = .ok (.istore_n 1, 1) := by decide +kernel
theorem dX7_stepWord_50 : decode cX7_stepWord 50 = .ok (.iinc 2 1, 3) := by decide +kernel
theorem dX7_stepWord_53 : decode cX7_stepWord 53 = .ok (.aload_n 0, 1) := by decide +kernel
theorem dX7_stepWord_54 : decode cX7_stepWord 54 = .ok (.dup, 1) := by decide +kernel
theorem dX7_stepWord_55 : decode cX7_stepWord 55 = .ok (.getfield 36, 3) := by decide +kernel
theorem dX7_stepWord_58 : decode cX7_stepWord 58 = .ok (.iconst 1, 1) := by decide +kernel
theorem dX7_stepWord_59 : decode cX7_stepWord 59 = .ok (.iadd, 1) := by decide +kernel
theorem dX7_stepWord_60 : decode cX7_stepWord 60 = .ok (.putfield 36, 3) := by decide +kernel
theorem dX7_stepWord_63 : decode cX7_stepWord 63 = .ok (.goto (-59), 3) := by decide +kernel
theorem dX7_stepWord_66 : decode cX7_stepWord 66 = .ok (.aload_n 0, 1) := by decide +kernel
theorem dX7_stepWord_67 : decode cX7_stepWord 67 = .ok (.iload_n 1, 1) := by decide +kernel
theorem dX7_stepWord_68 : decode cX7_stepWord 68 = .ok (.putfield 65, 3) := by decide +kernel
theorem dX7_stepWord_71 : decode cX7_stepWord 71 = .ok (.aload_n 0, 1) := by decide +kernel
theorem dX7_stepWord_72 : decode cX7_stepWord 72 = .ok (.iload_n 2, 1) := by decide +kernel
theorem dX7_stepWord_73 : decode cX7_stepWord 73 = .ok (.bipush 6, 2) := by decide +kernel
theorem dX7_stepWord_75 : decode cX7_stepWord 75 = .ok (.if_icmp .le 8, 3) := by decide +kernel
theorem dX7_stepWord_78 : decode cX7_stepWord 78 = .ok (.bipush 36, 2) := by decide +kernel
theorem dX7_stepWord_80 : decode cX7_stepWord 80 = .ok (.goto 5, 3) := by decide +kernel
theorem dX7_stepWord_83 : decode cX7_stepWord 83 = .ok (.bipush 34, 2) := by decide +kernel
theorem dX7_stepWord_85 : decode cX7_stepWord 85 = .ok (.putfield 39, 3) := by decide +kernel
theorem dX7_stepWord_88 : decode cX7_stepWord 88 = .ok (.iconst 0, 1) := by decide +kernel
theorem dX7_stepWord_89 : decode cX7_stepWord 89 = .ok (.istore_n 3, 1) := by decide +kernel
theorem dX7_stepWord_90 : decode cX7_stepWord 90 = .ok (.iload_n 3, 1) := by decide +kernel
theorem dX7_stepWord_91 : decode cX7_stepWord 91 = .ok (.bipush 20, 2) := by decide +kernel
theorem dX7_stepWord_93 : decode cX7_stepWord 93 = .ok (.if_icmp .ge 33, 3) := by decide +kernel
theorem dX7_stepWord_96 : decode cX7_stepWord 96 = .ok (.aload_n 0, 1) := by decide +kernel
theorem dX7_stepWord_97 : decode cX7_stepWord 97 = .ok (.getfield 39, 3) := by decide +kernel
theorem dX7_stepWord_100 : decode cX7_stepWord 100 = .ok (.bipush 34, 2) := by decide +kernel
theorem dX7_stepWord_102 : decode cX7_stepWord 102 = .ok (.if_icmp .ne 24, 3) := by decide +kernel
theorem dX7_stepWord_105 : decode cX7_stepWord 105 = .ok (.aload_n 0, 1) := by decide +kernel
theorem dX7_stepWord_106 : decode cX7_stepWord 106 = .ok (.getfield 9, 3) := by decide +kernel
theorem dX7_stepWord_109 : decode cX7_stepWord 109 = .ok (.iload_n 3, 1) := by decide +kernel
theorem dX7_stepWord_110 : decode cX7_stepWord 110 = .ok (.iaload, 1) := by decide +kernel
theorem dX7_stepWord_111 : decode cX7_stepWord 111 = .ok (.iload_n 1, 1) := by decide +kernel
theorem dX7_stepWord_112 : decode cX7_stepWord 112 = .ok (.if_icmp .ne 8, 3) := by decide +kernel
theorem dX7_stepWord_115 : decode cX7_stepWord 115 = .ok (.aload_n 0, 1) := by decide +kernel
theorem dX7_stepWord_116 : decode cX7_stepWord 116 = .ok (.iload_n 3, 1) := by decide +kernel
theorem dX7_stepWord_117 : decode cX7_stepWord 117 = .ok (.putfield 39, 3) := by decide +kernel
theorem dX7_stepWord_120 : decode cX7_stepWord 120 = .ok (.iinc 3 1, 3) := by decide +kernel
theorem dX7_stepWord_123 : decode cX7_stepWord 123 = .ok (.goto (-33), 3) := by decide +kernel
theorem dX7_stepWord_126 : decode cX7_stepWord 126 = .ok (.return_, 1) := by decide +kernel
theorem dX7_stepNumber_0 : decode cX7_stepNumber 0 = .ok (.aload_n 0, 1) := by decide +kernel
theorem dX7_stepNumber_1 : decode cX7_stepNumber 1 = .ok (.iconst 0, 1) := by decide +kernel
theorem dX7_stepNumber_2 : decode cX7_stepNumber 2 = .ok (.putfield 65, 3) := by decide +kernel
theorem dX7_stepNumber_5 : decode cX7_stepNumber 5 = .ok (.aload_n 0, 1) := by decide +kernel
theorem dX7_stepNumber_6 : decode cX7_stepNumber 6 = .ok (.getfield 36, 3) := by decide +kernel
theorem dX7_stepNumber_9 : decode cX7_stepNumber 9 = .ok (.aload_n 0, 1) := by decide +kernel
theorem dX7_stepNumber_10 : decode cX7_stepNumber 10 = .ok (.getfield 33, 3) := by decide +kernel
theorem dX7_stepNumber_13 : decode cX7_stepNumber 13 = .ok (.if_icmp .ge 58, 3) := by decide +kernel
theorem dX7_stepNumber_16 : decode cX7_stepNumber 16 = .ok (.aload_n 0, 1) := by decide +kernel
theorem dX7_stepNumber_17 : decode cX7_stepNumber 17 = .ok (.aload_n 0, 1) := by decide +kernel
theorem dX7_stepNumber_18 : decode cX7_stepNumber 18 = .ok (.getfield 36, 3) := by decide +kernel
theorem dX7_stepNumber_21 : decode cX7_stepNumber 21 = .ok (.invokevirtual 42, 3) := by decide +kernel
theorem dX7_stepNumber_24 : decode cX7_stepNumber 24 = .ok (.invokestatic 56, 3) := by decide +kernel
theorem dX7_stepNumber_27 : decode cX7_stepNumber 27 = .ok (.ifCond .eq 44, 3) := by decide +kernel
theorem dX7_stepNumber_30 : decode cX7_stepNumber 30 = .ok (.aload_n 0, 1) := by decide +kernel
theorem dX7_stepNumber_31 : decode cX7_stepNumber 31 = .ok (.ldc 68, 2) := by decide +kernel
theorem dX7_stepNumber_33 : decode cX7_stepNumber 33 = .ok (.aload_n 0, 1) := by decide +kernel
theorem dX7_stepNumber_34 : decode cX7_stepNumber 34 = .ok (.getfield 65, 3) := by decide +kernel
theorem dX7_stepNumber_37 : decode cX7_stepNumber 37 = .ok (.bipush 10, 2) := by decide +kernel
theorem dX7_stepNumber_39 : decode cX7_stepNumber 39 = .ok (.imul, 1) := by decide +kernel
theorem dX7_stepNumber_40 : decode cX7_stepNumber 40 = .ok (.aload_n 0, 1) := by decide +kernel
theorem dX7_stepNumber_41 : decode cX7_stepNumber 41 = .ok (.aload_n 0, 1) := by decide +kernel
theorem dX7_stepNumber_42 : decode cX7_stepNumber 42 = .ok (.getfield 36, 3) := by decide +kernel
theorem dX7_stepNumber_45 : decode cX7_stepNumber 45 = .ok (.invokevirtual 42, 3) := by decide +kernel
theorem dX7_stepNumber_48 : decode cX7_stepNumber 48 = .ok (.iadd, 1) := by decide +kernel
theorem dX7_stepNumber_49 : decode cX7_stepNumber 49 = .ok (.bipush 48, 2) := by decide +kernel
theorem dX7_stepNumber_51 : decode cX7_stepNumber 51 = .ok (.isub, 1) := by decide +kernel
theorem dX7_stepNumber_52 : decode cX7_stepNumber 52 = .ok (.invokestatic 69, 3) := by decide +kernel
theorem dX7_stepNumber_55 : decode cX7_stepNumber 55 = .ok (.putfield 65, 3) := by decide +kernel
theorem dX7_stepNumber_58 : decode cX7_stepNumber 58 = .ok (.aload_n 0, 1) := by decide +kernel
theorem dX7_stepNumber_59 : decode cX7_stepNumber 59 = .ok (.dup, 1) := by decide +kernel
theorem dX7_stepNumber_60 : decode cX7_stepNumber 60 = .ok (.getfield 36, 3) := by decide +kernel
theorem dX7_stepNumber_63 : decode cX7_stepNumber 63 = .ok (.iconst 1, 1) := by decide +kernel
theorem dX7_stepNumber_64 : decode cX7_stepNumber 64 = .ok (.iadd, 1) := by decide +kernel
theorem dX7_stepNumber_65 : decode cX7_stepNumber 65 = .ok (.putfield 36, 3) := by decide +kernel
theorem dX7_stepNumber_68 : decode cX7_stepNumber 68 = .ok (.goto (-63), 3) := by decide +kernel
theorem dX7_stepNumber_71 : decode cX7_stepNumber 71 = .ok (.aload_n 0, 1) := by decide +kernel
theorem dX7_stepNumber_72 : decode cX7_stepNumber 72 = .ok (.bipush 33, 2) := by decide +kernel
theorem dX7_stepNumber_74 : decode cX7_stepNumber 74 = .ok (.putfield 39, 3) := by decide +kernel
theorem dX7_stepNumber_77 : decode cX7_stepNumber 77 = .ok (.return_, 1) := by decide +kernel
theorem dX7_signToken_0 : decode cX7_signToken 0 = .ok (.iload_n 0, 1) := by decide +kernel
theorem dX7_signToken_1 : decode cX7_signToken 1 = .ok (.tableswitch 170 40 62 #[110, 113, 164, 158, 170, 161, 170, 167, 170, 170, 170, 170, 170, 170, 170, 170, 170, 170, 170, 107, 116, 141, 144], 107) := by decide +kernel
theorem dX7_signToken_108 : decode cX7_signToken 108 = .ok (.bipush 20, 2) := by decide +kernel
theorem dX7_signToken_110 : decode cX7_signToken 110 = .ok (.ireturn, 1) := by decide +kernel
theorem dX7_signToken_111 : decode cX7_signToken 111 = .ok (.bipush 21, 2) := by decide +kernel
theorem dX7_signToken_113 : decode cX7_signToken 113 = .ok (.ireturn, 1) := by decide +kernel
theorem dX7_signToken_114 : decode cX7_signToken 114 = .ok (.bipush 22, 2) := by decide +kernel
theorem dX7_signToken_116 : decode cX7_signToken 116 = .ok (.ireturn, 1) := by decide +kernel
theorem dX7_signToken_117 : decode cX7_signToken 117 = .ok (.iload_n 1, 1) := by decide +kernel
theorem dX7_signToken_118 : decode cX7_signToken 118 = .ok (.bipush 61, 2) := by decide +kernel
theorem dX7_signToken_120 : decode cX7_signToken 120 = .ok (.if_icmp .ne 8, 3) := by decide +kernel
theorem dX7_signToken_123 : decode cX7_signToken 123 = .ok (.bipush 24, 2) := by decide +kernel
theorem dX7_signToken_125 : decode cX7_signToken 125 = .ok (.goto 16, 3) := by decide +kernel
theorem dX7_signToken_128 : decode cX7_signToken 128 = .ok (.iload_n 1, 1) := by decide +kernel
theorem dX7_signToken_129 : decode cX7_signToken 129 = .ok (.bipush 62, 2) := by decide +kernel
theorem dX7_signToken_131 : decode cX7_signToken 131 = .ok (.if_icmp .ne 8, 3) := by decide +kernel
theorem dX7_signToken_134 : decode cX7_signToken 134 = .ok (.bipush 26, 2) := by decide +kernel
theorem dX7_signToken_136 : decode cX7_signToken 136 = .ok (.goto 5, 3) := by decide +kernel
theorem dX7_signToken_139 : decode cX7_signToken 139 = .ok (.bipush 23, 2) := by decide +kernel
theorem dX7_signToken_141 : decode cX7_signToken 141 = .ok (.ireturn, 1) := by decide +kernel
theorem dX7_signToken_142 : decode cX7_signToken 142 = .ok (.bipush 25, 2) := by decide +kernel
theorem dX7_signToken_144 : decode cX7_signToken 144 = .ok (.ireturn, 1) := by decide +kernel
theorem dX7_signToken_145 : decode cX7_signToken 145 = .ok (.iload_n 1, 1) := by decide +kernel
theorem dX7_signToken_146 : decode cX7_signToken 146 = .ok (.bipush 61, 2) := by decide +kernel
theorem dX7_signToken_148 : decode cX7_signToken 148 = .ok (.if_icmp .ne 8, 3) := by decide +kernel
theorem dX7_signToken_151 : decode cX7_signToken 151 = .ok (.bipush 27, 2) := by decide +kernel
theorem dX7_signToken_153 : decode cX7_signToken 153 = .ok (.goto 5, 3) := by decide +kernel
theorem dX7_signToken_156 : decode cX7_signToken 156 = .ok (.bipush 28, 2) := by decide +kernel
theorem dX7_signToken_158 : decode cX7_signToken 158 = .ok (.ireturn, 1) := by decide +kernel
theorem dX7_signToken_159 : decode cX7_signToken 159 = .ok (.bipush 29, 2) := by decide +kernel
theorem dX7_signToken_161 : decode cX7_signToken 161 = .ok (.ireturn, 1) := by decide +kernel
theorem dX7_signToken_162 : decode cX7_signToken 162 = .ok (.bipush 30, 2) := by decide +kernel
theorem dX7_signToken_164 : decode cX7_signToken 164 = .ok (.ireturn, 1) := by decide +kernel
theorem dX7_signToken_165 : decode cX7_signToken 165 = .ok (.bipush 31, 2) := by decide +kernel
theorem dX7_signToken_167 : decode cX7_signToken 167 = .ok (.ireturn, 1) := by decide +kernel
theorem dX7_signToken_168 : decode cX7_signToken 168 = .ok (.bipush 32, 2) := by decide +kernel
theorem dX7_signToken_170 : decode cX7_signToken 170 = .ok (.ireturn, 1) := by decide +kernel
theorem dX7_signToken_171 : decode cX7_signToken 171 = .ok (.bipush 36, 2) := by decide +kernel
theorem dX7_signToken_173 : decode cX7_signToken 173 = .ok (.ireturn, 1) := by decide +kernel
theorem dX8_init_0 : decode cX8_init 0 = .ok (.aload_n 0, 1) := by decide +kernel
theorem dX8_init_1 : decode cX8_init 1 = .ok (.invokespecial 3, 3) := by decide +kernel
theorem dX8_init_4 : decode cX8_init 4 = .ok (.aload_n 0, 1) := by decide +kernel
theorem dX8_init_5 : decode cX8_init 5 = .ok (.bipush 6, 2) := by decide +kernel
theorem dX8_init_7 : decode cX8_init 7 = .ok (.newarray .int, 2) := by decide +kernel
theorem dX8_init_9 : decode cX8_init 9 = .ok (.putfield 9, 3) := by decide +kernel
theorem dX8_init_12 : decode cX8_init 12 = .ok (.aload_n 0, 1) := by decide +kernel
theorem dX8_init_13 : decode cX8_init 13 = .ok (.bipush 6, 2) := by decide +kernel
theorem dX8_init_15 : decode cX8_init 15 = .ok (.newarray .int, 2) := by decide +kernel
theorem dX8_init_17 : decode cX8_init 17 = .ok (.putfield 15, 3) := by decide +kernel
theorem dX8_init_20 : decode cX8_init 20 = .ok (.aload_n 0, 1) := by decide +kernel
theorem dX8_init_21 : decode cX8_init 21 = .ok (.bipush 6, 2) := by decide +kernel
theorem dX8_init_23 : decode cX8_init 23 = .ok (.newarray .int, 2) := by decide +kernel
theorem dX8_init_25 : decode cX8_init 25 = .ok (.putfield 18, 3) := by decide +kernel
theorem dX8_init_28 : decode cX8_init 28 = .ok (.aload_n 0, 1) := by decide +kernel
theorem dX8_init_29 : decode cX8_init 29 = .ok (.bipush 6, 2) := by decide +kernel
theorem dX8_init_31 : decode cX8_init 31 = .ok (.newarray .int, 2) := by decide +kernel
theorem dX8_init_33 : decode cX8_init 33 = .ok (.putfield 21, 3) := by decide +kernel
theorem dX8_init_36 : decode cX8_init 36 = .ok (.aload_n 0, 1) := by decide +kernel
theorem dX8_init_37 : decode cX8_init 37 = .ok (.bipush 6, 2) := by decide +kernel
theorem dX8_init_39 : decode cX8_init 39 = .ok (.newarray .boolean, 2) := by decide +kernel
theorem dX8_init_41 : decode cX8_init 41 = .ok (.putfield 24, 3) := by decide +kernel
theorem dX8_init_44 : decode cX8_init 44 = .ok (.aload_n 0, 1) := by decide +kernel
theorem dX8_init_45 : decode cX8_init 45 = .ok (.bipush 6, 2) := by decide +kernel
theorem dX8_init_47 : decode cX8_init 47 = .ok (.newarray .boolean, 2) := by decide +kernel
theorem dX8_init_49 : decode cX8_init 49 = .ok (.putfield 28, 3) := by decide +kernel
theorem dX8_init_52 : decode cX8_init 52 = .ok (.aload_n 0, 1) := by decide +kernel
theorem dX8_init_53 : decode cX8_init 53 = .ok (.bipush 6, 2) := by decide +kernel
theorem dX8_init_55 : decode cX8_init 55 = .ok (.newarray .int, 2) := by decide +kernel
theorem dX8_init_57 : decode cX8_init 57 = .ok (.putfield 31, 3) := by decide +kernel
theorem dX8_init_60 : decode cX8_init 60 = .ok (.aload_n 0, 1) := by decide +kernel
theorem dX8_init_61 : decode cX8_init 61 = .ok (.iconst (-1), 1) := by decide +kernel
theorem dX8_init_62 : decode cX8_init 62 = .ok (.putfield 34, 3) := by decide +kernel
theorem dX8_init_65 : decode cX8_init 65 = .ok (.return_, 1) := by decide +kernel
theorem dX8_start_0 : decode cX8_start 0 = .ok (.iconst 0, 1) := by decide +kernel
theorem dX8_start_1 : decode cX8_start 1 = .ok (.istore_n 2, 1) := by decide +kernel
theorem dX8_start_2 : decode cX8_start 2 = .ok (.iload_n 2, 1) := by decide +kernel
theorem dX8_start_3 : decode cX8_start 3 = .ok (.bipush 6, 2) := by decide +kernel
theorem dX8_start_5 : decode cX8_start 5 = .ok (.if_icmp .ge 75, 3) := by decide +kernel
theorem dX8_start_8 : decode cX8_start 8 = .ok (.aload_n 0, 1) := by decide +kernel
theorem dX8_start_9 : decode cX8_start 9 = .ok (.getfield 9, 3) := by decide +kernel
theorem dX8_start_12 : decode cX8_start 12 = .ok (.iload_n 2, 1) := by decide +kernel
theorem dX8_start_13 : decode cX8_start 13 = .ok (.iload_n 2, 1) := by decide +kernel
theorem dX8_start_14 : decode cX8_start 14 = .ok (.aload_n 1, 1) := by decide +kernel
theorem dX8_start_15 : decode cX8_start 15 = .ok (.getfield 38, 3) := by decide +kernel
theorem dX8_start_18 : decode cX8_start 18 = .ok (.if_icmp .ge 12, 3) := by decide +kernel
theorem dX8_start_21 : decode cX8_start 21 = .ok (.aload_n 1, 1) := by decide +kernel
theorem dX8_start_22 : decode cX8_start 22 = .ok (.getfield 43, 3) := by decide +kernel
theorem dX8_start_25 : decode cX8_start 25 = .ok (.iload_n 2, 1) := by decide +kernel
theorem dX8_start_26 : decode cX8_start 26 = .ok (.iaload, 1) := by decide +kernel
theorem dX8_start_27 : decode cX8_start 27 = .ok (.goto 4, 3) := by decide +kernel
theorem dX8_start_30 : decode cX8_start 30 = .ok (.iconst 0, 1) := by decide +kernel
theorem dX8_start_31 : decode cX8_start 31 = .ok (.iastore, 1) := by decide +kernel
theorem dX8_start_32 : decode cX8_start 32 = .ok (.aload_n 0, 1) := by decide +kernel
theorem dX8_start_33 : decode cX8_start 33 = .ok (.getfield 15, 3) := by decide +kernel
theorem dX8_start_36 : decode cX8_start 36 = .ok (.iload_n 2, 1) := by decide +kernel
theorem dX8_start_37 : decode cX8_start 37 = .ok (.iconst 0, 1) := by decide +kernel
theorem dX8_start_38 : decode cX8_start 38 = .ok (.iastore, 1) := by decide +kernel
theorem dX8_start_39 : decode cX8_start 39 = .ok (.aload_n 0, 1) := by decide +kernel
theorem dX8_start_40 : decode cX8_start 40 = .ok (.getfield 18, 3) := by decide +kernel
theorem dX8_start_43 : decode cX8_start 43 = .ok (.iload_n 2, 1) := by decide +kernel
theorem dX8_start_44 : decode cX8_start 44 = .ok (.iconst 0, 1) := by decide +kernel
theorem dX8_start_45 : decode cX8_start 45 = .ok (.iastore, 1) := by decide +kernel
theorem dX8_start_46 : decode cX8_start 46 = .ok (.aload_n 0, 1) := by decide +kernel
theorem dX8_start_47 : decode cX8_start 47 = .ok (.getfield 21, 3) := by decide +kernel
theorem dX8_start_50 : decode cX8_start 50 = .ok (.iload_n 2, 1) := by decide +kernel
theorem dX8_start_51 : decode cX8_start 51 = .ok (.iconst 0, 1) := by decide +kernel
theorem dX8_start_52 : decode cX8_start 52 = .ok (.iastore, 1) := by decide +kernel
theorem dX8_start_53 : decode cX8_start 53 = .ok (.aload_n 0, 1) := by decide +kernel
theorem dX8_start_54 : decode cX8_start 54 = .ok (.getfield 24, 3) := by decide +kernel
theorem dX8_start_57 : decode cX8_start 57 = .ok (.iload_n 2, 1) := by decide +kernel
theorem dX8_start_58 : decode cX8_start 58 = .ok (.iconst 0, 1) := by decide +kernel
theorem dX8_start_59 : decode cX8_start 59 = .ok (.bastore, 1) := by decide +kernel
theorem dX8_start_60 : decode cX8_start 60 = .ok (.aload_n 0, 1) := by decide +kernel
theorem dX8_start_61 : decode cX8_start 61 = .ok (.getfield 28, 3) := by decide +kernel
theorem dX8_start_64 : decode cX8_start 64 = .ok (.iload_n 2, 1) := by decide +kernel
theorem dX8_start_65 : decode cX8_start 65 = .ok (.iconst 0, 1) := by decide +kernel
theorem dX8_start_66 : decode cX8_start 66 = .ok (.bastore, 1) := by decide +kernel
theorem dX8_start_67 : decode cX8_start 67 = .ok (.aload_n 0, 1) := by decide +kernel
theorem dX8_start_68 : decode cX8_start 68 = .ok (.getfield 31, 3) := by decide +kernel
theorem dX8_start_71 : decode cX8_start 71 = .ok (.iload_n 2, 1) := by decide +kernel
theorem dX8_start_72 : decode cX8_start 72 = .ok (.iconst 0, 1) := by decide +kernel
theorem dX8_start_73 : decode cX8_start 73 = .ok (.iastore, 1) := by decide +kernel
theorem dX8_start_74 : decode cX8_start 74 = .ok (.iinc 2 1, 3) := by decide +kernel
theorem dX8_start_77 : decode cX8_start 77 = .ok (.goto (-75), 3) := by decide +kernel
theorem dX8_start_80 : decode cX8_start 80 = .ok (.aload_n 0, 1) := by decide +kernel
theorem dX8_start_81 : decode cX8_start 81 = .ok (.iconst 0, 1) := by decide +kernel
theorem dX8_start_82 : decode cX8_start 82 = .ok (.putfield 44, 3) := by decide +kernel
theorem dX8_start_85 : decode cX8_start 85 = .ok (.aload_n 0, 1) := by decide +kernel
theorem dX8_start_86 : decode cX8_start 86 = .ok (.iconst 0, 1) := by decide +kernel
theorem dX8_start_87 : decode cX8_start 87 = .ok (.putfield 47, 3) := by decide +kernel
theorem dX8_start_90 : decode cX8_start 90 = .ok (.aload_n 0, 1) := by decide +kernel
theorem dX8_start_91 : decode cX8_start 91 = .ok (.iconst (-1), 1) := by decide +kernel
theorem dX8_start_92 : decode cX8_start 92 = .ok (.putfield 34, 3) := by decide +kernel
theorem dX8_start_95 : decode cX8_start 95 = .ok (.aload_n 0, 1) := by decide +kernel
theorem dX8_start_96 : decode cX8_start 96 = .ok (.aload_n 1, 1) := by decide +kernel
theorem dX8_start_97 : decode cX8_start 97 = .ok (.getfield 50, 3) := by decide +kernel
theorem dX8_start_100 : decode cX8_start 100 = .ok (.putfield 53, 3) := by decide +kernel
theorem dX8_start_103 : decode cX8_start 103 = .ok (.return_, 1) := by decide +kernel
theorem dX8_takeFrom_0 : decode cX8_takeFrom 0 = .ok (.iconst 0, 1) := by decide +kernel
theorem dX8_takeFrom_1 : decode cX8_takeFrom 1 = .ok (.istore_n 2, 1) := by decide +kernel
theorem dX8_takeFrom_2 : decode cX8_takeFrom 2 = .ok (.iload_n 2, 1) := by decide +kernel
theorem dX8_takeFrom_3 : decode cX8_takeFrom 3 = .ok (.bipush 6, 2) := by decide +kernel
theorem dX8_takeFrom_5 : decode cX8_takeFrom 5 = .ok (.if_icmp .ge 93, 3) := by decide +kernel
theorem dX8_takeFrom_8 : decode cX8_takeFrom 8 = .ok (.aload_n 0, 1) := by decide +kernel
theorem dX8_takeFrom_9 : decode cX8_takeFrom 9 = .ok (.getfield 9, 3) := by decide +kernel
theorem dX8_takeFrom_12 : decode cX8_takeFrom 12 = .ok (.iload_n 2, 1) := by decide +kernel
theorem dX8_takeFrom_13 : decode cX8_takeFrom 13 = .ok (.aload_n 1, 1) := by decide +kernel
theorem dX8_takeFrom_14 : decode cX8_takeFrom 14 = .ok (.getfield 9, 3) := by decide +kernel
theorem dX8_takeFrom_17 : decode cX8_takeFrom 17 = .ok (.iload_n 2, 1) := by decide +kernel
theorem dX8_takeFrom_18 : decode cX8_takeFrom 18 = .ok (.iaload, 1) := by decide +kernel
theorem dX8_takeFrom_19 : decode cX8_takeFrom 19 = .ok (.iastore, 1) := by decide +kernel
theorem dX8_takeFrom_20 : decode cX8_takeFrom 20 = .ok (.aload_n 0, 1) := by decide +kernel
theorem dX8_takeFrom_21 : decode cX8_takeFrom 21 = .ok (.getfield 15, 3) := by decide +kernel
theorem dX8_takeFrom_24 : decode cX8_takeFrom 24 = .ok (.iload_n 2, 1) := by decide +kernel
theorem dX8_takeFrom_25 : decode cX8_takeFrom 25 = .ok (.aload_n 1, 1) := by decide +kernel
theorem dX8_takeFrom_26 : decode cX8_takeFrom 26 = .ok (.getfield 15, 3) := by decide +kernel
theorem dX8_takeFrom_29 : decode cX8_takeFrom 29 = .ok (.iload_n 2, 1) := by decide +kernel
theorem dX8_takeFrom_30 : decode cX8_takeFrom 30 = .ok (.iaload, 1) := by decide +kernel
theorem dX8_takeFrom_31 : decode cX8_takeFrom 31 = .ok (.iastore, 1) := by decide +kernel
theorem dX8_takeFrom_32 : decode cX8_takeFrom 32 = .ok (.aload_n 0, 1) := by decide +kernel
theorem dX8_takeFrom_33 : decode cX8_takeFrom 33 = .ok (.getfield 18, 3) := by decide +kernel
theorem dX8_takeFrom_36 : decode cX8_takeFrom 36 = .ok (.iload_n 2, 1) := by decide +kernel
theorem dX8_takeFrom_37 : decode cX8_takeFrom 37 = .ok (.aload_n 1, 1) := by decide +kernel
theorem dX8_takeFrom_38 : decode cX8_takeFrom 38 = .ok (.getfield 18, 3) := by decide +kernel
theorem dX8_takeFrom_41 : decode cX8_takeFrom 41 = .ok (.iload_n 2, 1) := by decide +kernel
theorem dX8_takeFrom_42 : decode cX8_takeFrom 42 = .ok (.iaload, 1) := by decide +kernel
theorem dX8_takeFrom_43 : decode cX8_takeFrom 43 = .ok (.iastore, 1) := by decide +kernel
theorem dX8_takeFrom_44 : decode cX8_takeFrom 44 = .ok (.aload_n 0, 1) := by decide +kernel
theorem dX8_takeFrom_45 : decode cX8_takeFrom 45 = .ok (.getfield 21, 3) := by decide +kernel
theorem dX8_takeFrom_48 : decode cX8_takeFrom 48 = .ok (.iload_n 2, 1) := by decide +kernel
theorem dX8_takeFrom_49 : decode cX8_takeFrom 49 = .ok (.aload_n 1, 1) := by decide +kernel
theorem dX8_takeFrom_50 : decode cX8_takeFrom 50 = .ok (.getfield 21, 3) := by decide +kernel
theorem dX8_takeFrom_53 : decode cX8_takeFrom 53 = .ok (.iload_n 2, 1) := by decide +kernel
theorem dX8_takeFrom_54 : decode cX8_takeFrom 54 = .ok (.iaload, 1) := by decide +kernel
theorem dX8_takeFrom_55 : decode cX8_takeFrom 55 = .ok (.iastore, 1) := by decide +kernel
theorem dX8_takeFrom_56 : decode cX8_takeFrom 56 = .ok (.aload_n 0, 1) := by decide +kernel
theorem dX8_takeFrom_57 : decode cX8_takeFrom 57 = .ok (.getfield 24, 3) := by decide +kernel
theorem dX8_takeFrom_60 : decode cX8_takeFrom 60 = .ok (.iload_n 2, 1) := by decide +kernel
theorem dX8_takeFrom_61 : decode cX8_takeFrom 61 = .ok (.aload_n 1, 1) := by decide +kernel
theorem dX8_takeFrom_62 : decode cX8_takeFrom 62 = .ok (.getfield 24, 3) := by decide +kernel
theorem dX8_takeFrom_65 : decode cX8_takeFrom 65 = .ok (.iload_n 2, 1) := by decide +kernel
theorem dX8_takeFrom_66 : decode cX8_takeFrom 66 = .ok (.baload, 1) := by decide +kernel
theorem dX8_takeFrom_67 : decode cX8_takeFrom 67 = .ok (.bastore, 1) := by decide +kernel
theorem dX8_takeFrom_68 : decode cX8_takeFrom 68 = .ok (.aload_n 0, 1) := by decide +kernel
theorem dX8_takeFrom_69 : decode cX8_takeFrom 69 = .ok (.getfield 28, 3) := by decide +kernel
theorem dX8_takeFrom_72 : decode cX8_takeFrom 72 = .ok (.iload_n 2, 1) := by decide +kernel
theorem dX8_takeFrom_73 : decode cX8_takeFrom 73 = .ok (.aload_n 1, 1) := by decide +kernel
theorem dX8_takeFrom_74 : decode cX8_takeFrom 74 = .ok (.getfield 28, 3) := by decide +kernel
theorem dX8_takeFrom_77 : decode cX8_takeFrom 77 = .ok (.iload_n 2, 1) := by decide +kernel
theorem dX8_takeFrom_78 : decode cX8_takeFrom 78 = .ok (.baload, 1) := by decide +kernel
theorem dX8_takeFrom_79 : decode cX8_takeFrom 79 = .ok (.bastore, 1) := by decide +kernel
theorem dX8_takeFrom_80 : decode cX8_takeFrom 80 = .ok (.aload_n 0, 1) := by decide +kernel
theorem dX8_takeFrom_81 : decode cX8_takeFrom 81 = .ok (.getfield 31, 3) := by decide +kernel
theorem dX8_takeFrom_84 : decode cX8_takeFrom 84 = .ok (.iload_n 2, 1) := by decide +kernel
theorem dX8_takeFrom_85 : decode cX8_takeFrom 85 = .ok (.aload_n 1, 1) := by decide +kernel
theorem dX8_takeFrom_86 : decode cX8_takeFrom 86 = .ok (.getfield 31, 3) := by decide +kernel
theorem dX8_takeFrom_89 : decode cX8_takeFrom 89 = .ok (.iload_n 2, 1) := by decide +kernel
theorem dX8_takeFrom_90 : decode cX8_takeFrom 90 = .ok (.iaload, 1) := by decide +kernel
theorem dX8_takeFrom_91 : decode cX8_takeFrom 91 = .ok (.iastore, 1) := by decide +kernel
theorem dX8_takeFrom_92 : decode cX8_takeFrom 92 = .ok (.iinc 2 1, 3) := by decide +kernel
theorem dX8_takeFrom_95 : decode cX8_takeFrom 95 = .ok (.goto (-93), 3) := by decide +kernel
theorem dX8_takeFrom_98 : decode cX8_takeFrom 98 = .ok (.aload_n 0, 1) := by decide +kernel
theorem dX8_takeFrom_99 : decode cX8_takeFrom 99 = .ok (.aload_n 1, 1) := by decide +kernel
theorem dX8_takeFrom_100 : decode cX8_takeFrom 100 = .ok (.getfield 44, 3) := by decide +kernel
theorem dX8_takeFrom_103 : decode cX8_takeFrom 103 = .ok (.putfield 44, 3) := by decide +kernel
theorem dX8_takeFrom_106 : decode cX8_takeFrom 106 = .ok (.aload_n 0, 1) := by decide +kernel
theorem dX8_takeFrom_107 : decode cX8_takeFrom 107 = .ok (.aload_n 1, 1) := by decide +kernel
theorem dX8_takeFrom_108 : decode cX8_takeFrom 108 = .ok (.getfield 47, 3) := by decide +kernel
theorem dX8_takeFrom_111 : decode cX8_takeFrom 111 = .ok (.putfield 47, 3) := by decide +kernel
theorem dX8_takeFrom_114 : decode cX8_takeFrom 114 = .ok (.aload_n 0, 1) := by decide +kernel
theorem dX8_takeFrom_115 : decode cX8_takeFrom 115 = .ok (.aload_n 1, 1) := by decide +kernel
theorem dX8_takeFrom_116 : decode cX8_takeFrom 116 = .ok (.getfield 34, 3) := by decide +kernel
theorem dX8_takeFrom_119 : decode cX8_takeFrom 119 = .ok (.putfield 34, 3) := by decide +kernel
theorem dX8_takeFrom_122 : decode cX8_takeFrom 122 = .ok (.aload_n 0, 1) := by decide +kernel
theorem dX8_takeFrom_123 : decode cX8_takeFrom 123 = .ok (.aload_n 1, 1) := by decide +kernel
theorem dX8_takeFrom_124 : decode cX8_takeFrom 124 = .ok (.getfield 53, 3) := by decide +kernel
theorem dX8_takeFrom_127 : decode cX8_takeFrom 127 = .ok (.putfield 53, 3) := by decide +kernel
theorem dX8_takeFrom_130 : decode cX8_takeFrom 130 = .ok (.return_, 1) := by decide +kernel
theorem dX8_worthOf_0 : decode cX8_worthOf 0 = .ok (.aload_n 0, 1) := by decide +kernel
theorem dX8_worthOf_1 : decode cX8_worthOf 1 = .ok (.getfield 9, 3) := by decide +kernel
theorem dX8_worthOf_4 : decode cX8_worthOf 4 = .ok (.iload_n 1, 1) := by decide +kernel
theorem dX8_worthOf_5 : decode cX8_worthOf 5 = .ok (.iaload, 1) := by decide +kernel
theorem dX8_worthOf_6 : decode cX8_worthOf 6 = .ok (.aload_n 0, 1) := by decide +kernel
theorem dX8_worthOf_7 : decode cX8_worthOf 7 = .ok (.getfield 15, 3) := by decide +kernel
theorem dX8_worthOf_10 : decode cX8_worthOf 10 = .ok (.iload_n 1, 1) := by decide +kernel
theorem dX8_worthOf_11 : decode cX8_worthOf 11 = .ok (.iaload, 1) := by decide +kernel
theorem dX8_worthOf_12 : decode cX8_worthOf 12 = .ok (.isub, 1) := by decide +kernel
theorem dX8_worthOf_13 : decode cX8_worthOf 13 = .ok (.ireturn, 1) := by decide +kernel
theorem dX8_howManySoldUp_0 : decode cX8_howManySoldUp 0 = .ok (.iconst 0, 1) := by decide +kernel
theorem dX8_howManySoldUp_1 : decode cX8_howManySoldUp 1 = .ok (.istore_n 1, 1) := by decide +kernel
theorem dX8_howManySoldUp_2 : decode cX8_howManySoldUp 2 = .ok (.aload_n 0, 1) := by decide +kernel
theorem dX8_howManySoldUp_3 : decode cX8_howManySoldUp 3 = .ok (.getfield 24, 3) := by decide +kernel
theorem dX8_howManySoldUp_6 : decode cX8_howManySoldUp 6 = .ok (.astore_n 2, 1) := by decide +kernel
theorem dX8_howManySoldUp_7 : decode cX8_howManySoldUp 7 = .ok (.aload_n 2, 1) := by decide +kernel
theorem dX8_howManySoldUp_8 : decode cX8_howManySoldUp 8 = .ok (.arraylength, 1) := by decide +kernel
theorem dX8_howManySoldUp_9 : decode cX8_howManySoldUp 9 = .ok (.istore_n 3, 1) := by decide +kernel
theorem dX8_howManySoldUp_10 : decode cX8_howManySoldUp 10 = .ok (.iconst 0, 1) := by decide +kernel
theorem dX8_howManySoldUp_11 : decode cX8_howManySoldUp 11 = .ok (.istore 4, 2) := by decide +kernel
theorem dX8_howManySoldUp_13 : decode cX8_howManySoldUp 13 = .ok (.iload 4, 2) := by decide +kernel
theorem dX8_howManySoldUp_15 : decode cX8_howManySoldUp 15 = .ok (.iload_n 3, 1) := by decide +kernel
theorem dX8_howManySoldUp_16 : decode cX8_howManySoldUp 16 = .ok (.if_icmp .ge 23, 3) := by decide +kernel
theorem dX8_howManySoldUp_19 : decode cX8_howManySoldUp 19 = .ok (.aload_n 2, 1) := by decide +kernel
theorem dX8_howManySoldUp_20 : decode cX8_howManySoldUp 20 = .ok (.iload 4, 2) := by decide +kernel
theorem dX8_howManySoldUp_22 : decode cX8_howManySoldUp 22 = .ok (.baload, 1) := by decide +kernel
theorem dX8_howManySoldUp_23 : decode cX8_howManySoldUp 23 = .ok (.istore 5, 2) := by decide +kernel
theorem dX8_howManySoldUp_25 : decode cX8_howManySoldUp 25 = .ok (.iload 5, 2) := by decide +kernel
theorem dX8_howManySoldUp_27 : decode cX8_howManySoldUp 27 = .ok (.ifCond .eq 6, 3) := by decide +kernel
theorem dX8_howManySoldUp_30 : decode cX8_howManySoldUp 30 = .ok (.iinc 1 1, 3) := by decide +kernel
theorem dX8_howManySoldUp_33 : decode cX8_howManySoldUp 33 = .ok (.iinc 4 1, 3) := by decide +kernel
theorem dX8_howManySoldUp_36 : decode cX8_howManySoldUp 36 = .ok (.goto (-23), 3) := by decide +kernel
theorem dX8_howManySoldUp_39 : decode cX8_howManySoldUp 39 = .ok (.iload_n 1, 1) := by decide +kernel
theorem dX8_howManySoldUp_40 : decode cX8_howManySoldUp 40 = .ok (.ireturn, 1) := by decide +kernel
theorem dX8_shows_0 : decode cX8_shows 0 = .ok (.iload_n 1, 1) := by decide +kernel
theorem dX8_shows_1 : decode cX8_shows 1 = .ok (.lookupswitch 49 #[(0, 27), (1, 34)], 27) := by decide +kernel
theorem dX8_shows_28 : decode cX8_shows 28 = .ok (.aload_n 0, 1) := by decide +kernel
theorem dX8_shows_29 : decode cX8_shows 29 = .ok (.getfield 24, 3) := by decide +kernel
theorem dX8_shows_32 : decode cX8_shows 32 = .ok (.iload_n 2, 1) := by decide +kernel
theorem dX8_shows_33 : decode cX8_shows 33 = .ok (.baload, 1) := by decide +kernel
theorem dX8_shows_34 : decode cX8_shows 34 = .ok (.ireturn, 1) := by decide +kernel
theorem dX8_shows_35 : decode cX8_shows 35 = .ok (.aload_n 0, 1) := by decide +kernel
theorem dX8_shows_36 : decode cX8_shows 36 = .ok (.getfield 15, 3) := by decide +kernel
theorem dX8_shows_39 : decode cX8_shows 39 = .ok (.iload_n 2, 1) := by decide +kernel
theorem dX8_shows_40 : decode cX8_shows 40 = .ok (.iaload, 1) := by decide +kernel
theorem dX8_shows_41 : decode cX8_shows 41 = .ok (.ifCond .ge 7, 3) := by decide +kernel
theorem dX8_shows_44 : decode cX8_shows 44 = .ok (.iconst 1, 1) := by decide +kernel
theorem dX8_shows_45 : decode cX8_shows 45 = .ok (.goto 4, 3) := by decide +kernel
theorem dX8_shows_48 : decode cX8_shows 48 = .ok (.iconst 0, 1) := by decide +kernel
theorem dX8_shows_49 : decode cX8_shows 49 = .ok (.ireturn, 1) := by decide +kernel
theorem dX8_shows_50 : decode cX8_shows 50 = .ok (.aload_n 0, 1) := by decide +kernel
theorem dX8_shows_51 : decode cX8_shows 51 = .ok (.iload_n 2, 1) := by decide +kernel
theorem dX8_shows_52 : decode cX8_shows 52 = .ok (.invokevirtual 56, 3) := by decide +kernel
theorem dX8_shows_55 : decode cX8_shows 55 = .ok (.ifCond .ge 7, 3) := by decide +kernel
theorem dX8_shows_58 : decode cX8_shows 58 = .ok (.iconst 1, 1) := by decide +kernel
theorem dX8_shows_59 : decode cX8_shows 59 = .ok (.goto 4, 3) := by decide +kernel
theorem dX8_shows_62 : decode cX8_shows 62 = .ok (.iconst 0, 1) := by decide +kernel
theorem dX8_shows_63 : decode cX8_shows 63 = .ok (.ireturn, 1) := by decide +kernel
theorem dX8_nextNumber_0 : decode cX8_nextNumber 0 = .ok (.aload_n 0, 1) := by decide +kernel
theorem dX8_nextNumber_1 : decode cX8_nextNumber 1 = .ok (.aload_n 0, 1) := by decide +kernel
theorem dX8_nextNumber_2 : decode cX8_nextNumber 2 = .ok (.getfield 53, 3) := by decide +kernel
theorem dX8_nextNumber_5 : decode cX8_nextNumber 5 = .ok (.ldc 60, 2) := by decide +kernel
theorem dX8_nextNumber_7 : decode cX8_nextNumber 7 = .ok (.imul, 1) := by decide +kernel
theorem dX8_nextNumber_8 : decode cX8_nextNumber 8 = .ok (.sipush 12345, 3) := by decide +kernel
theorem dX8_nextNumber_11 : decode cX8_nextNumber 11 = .ok (.iadd, 1) := by decide +kernel
theorem dX8_nextNumber_12 : decode cX8_nextNumber 12 = .ok (.ldc 63, 2) := by decide +kernel
theorem dX8_nextNumber_14 : decode cX8_nextNumber 14 = .ok (.iand, 1) := by decide +kernel
theorem dX8_nextNumber_15 : decode cX8_nextNumber 15 = .ok (.putfield 53, 3) := by decide +kernel
theorem dX8_nextNumber_18 : decode cX8_nextNumber 18 = .ok (.aload_n 0, 1) := by decide +kernel
theorem dX8_nextNumber_19 : decode cX8_nextNumber 19 = .ok (.getfield 53, 3) := by decide +kernel
theorem dX8_nextNumber_22 : decode cX8_nextNumber 22 = .ok (.ldc 64, 2) := by decide +kernel
theorem dX8_nextNumber_24 : decode cX8_nextNumber 24 = .ok (.idiv, 1) := by decide +kernel
theorem dX8_nextNumber_25 : decode cX8_nextNumber 25 = .ok (.ireturn, 1) := by decide +kernel
theorem dX9_init_0 : decode cX9_init 0 = .ok (.aload_n 0, 1) := by decide +kernel
theorem dX9_init_1 : decode cX9_init 1 = .ok (.invokespecial 1, 3) := by decide +kernel
theorem dX9_init_4 : decode cX9_init 4 = .ok (.aload_n 0, 1) := by decide +kernel
theorem dX9_init_5 : decode cX9_init 5 = .ok (.bipush 20, 2) := by decide +kernel
theorem dX9_init_7 : decode cX9_init 7 = .ok (.newarray .int, 2) := by decide +kernel
theorem dX9_init_9 : decode cX9_init 9 = .ok (.putfield 9, 3) := by decide +kernel
theorem dX9_init_12 : decode cX9_init 12 = .ok (.aload_n 0, 1) := by decide +kernel
theorem dX9_init_13 : decode cX9_init 13 = .ok (.bipush 20, 2) := by decide +kernel
theorem dX9_init_15 : decode cX9_init 15 = .ok (.newarray .int, 2) := by decide +kernel
theorem dX9_init_17 : decode cX9_init 17 = .ok (.putfield 13, 3) := by decide +kernel
theorem dX9_init_20 : decode cX9_init 20 = .ok (.aload_n 0, 1) := by decide +kernel
theorem dX9_init_21 : decode cX9_init 21 = .ok (.bipush 20, 2) := by decide +kernel
theorem dX9_init_23 : decode cX9_init 23 = .ok (.newarray .int, 2) := by decide +kernel
theorem dX9_init_25 : decode cX9_init 25 = .ok (.putfield 16, 3) := by decide +kernel
theorem dX9_init_28 : decode cX9_init 28 = .ok (.aload_n 0, 1) := by decide +kernel
theorem dX9_init_29 : decode cX9_init 29 = .ok (.bipush 20, 2) := by decide +kernel
theorem dX9_init_31 : decode cX9_init 31 = .ok (.newarray .int, 2) := by decide +kernel
theorem dX9_init_33 : decode cX9_init 33 = .ok (.putfield 19, 3) := by decide +kernel
theorem dX9_init_36 : decode cX9_init 36 = .ok (.aload_n 0, 1) := by decide +kernel
theorem dX9_init_37 : decode cX9_init 37 = .ok (.bipush 20, 2) := by decide +kernel
theorem dX9_init_39 : decode cX9_init 39 = .ok (.newarray .int, 2) := by decide +kernel
theorem dX9_init_41 : decode cX9_init 41 = .ok (.putfield 22, 3) := by decide +kernel
theorem dX9_init_44 : decode cX9_init 44 = .ok (.return_, 1) := by decide +kernel
theorem dX9_clear_0 : decode cX9_clear 0 = .ok (.aload_n 0, 1) := by decide +kernel
theorem dX9_clear_1 : decode cX9_clear 1 = .ok (.iconst 0, 1) := by decide +kernel
theorem dX9_clear_2 : decode cX9_clear 2 = .ok (.putfield 25, 3) := by decide +kernel
theorem dX9_clear_5 : decode cX9_clear 5 = .ok (.return_, 1) := by decide +kernel
theorem dX9_drew_0 : decode cX9_drew 0 = .ok (.aload_n 0, 1) := by decide +kernel
theorem dX9_drew_1 : decode cX9_drew 1 = .ok (.iconst 0, 1) := by decide +kernel
theorem dX9_drew_2 : decode cX9_drew 2 = .ok (.iload_n 1, 1) := by decide +kernel
theorem dX9_drew_3 : decode cX9_drew 3 = .ok (.invokevirtual 29, 3) := by decide +kernel
theorem dX9_drew_6 : decode cX9_drew 6 = .ok (.return_, 1) := by decide +kernel
theorem dX9_sent_0 : decode cX9_sent 0 = .ok (.aload_n 0, 1) := by decide +kernel
theorem dX9_sent_1 : decode cX9_sent 1 = .ok (.iconst 1, 1) := by decide +kernel
theorem dX9_sent_2 : decode cX9_sent 2 = .ok (.iload_n 1, 1) := by decide +kernel
theorem dX9_sent_3 : decode cX9_sent 3 = .ok (.invokevirtual 29, 3) := by decide +kernel
theorem dX9_sent_6 : decode cX9_sent 6 = .ok (.return_, 1) := by decide +kernel
theorem dX9_lent_0 : decode cX9_lent 0 = .ok (.aload_n 0, 1) := by decide +kernel
theorem dX9_lent_1 : decode cX9_lent 1 = .ok (.iconst 2, 1) := by decide +kernel
theorem dX9_lent_2 : decode cX9_lent 2 = .ok (.iload_n 2, 1) := by decide +kernel
theorem dX9_lent_3 : decode cX9_lent 3 = .ok (.invokevirtual 29, 3) := by decide +kernel
theorem dX9_lent_6 : decode cX9_lent 6 = .ok (.aload_n 0, 1) := by decide +kernel
theorem dX9_lent_7 : decode cX9_lent 7 = .ok (.getfield 16, 3) := by decide +kernel
theorem dX9_lent_10 : decode cX9_lent 10 = .ok (.aload_n 0, 1) := by decide +kernel
theorem dX9_lent_11 : decode cX9_lent 11 = .ok (.getfield 25, 3) := by decide +kernel
theorem dX9_lent_14 : decode cX9_lent 14 = .ok (.iconst 1, 1) := by decide +kernel
theorem dX9_lent_15 : decode cX9_lent 15 = .ok (.isub, 1) := by decide +kernel
theorem dX9_lent_16 : decode cX9_lent 16 = .ok (.iload_n 3, 1) := by decide +kernel
theorem dX9_lent_17 : decode cX9_lent 17 = .ok (.iastore, 1) := by decide +kernel
theorem dX9_lent_18 : decode cX9_lent 18 = .ok (.aload_n 0, 1) := by decide +kernel
theorem dX9_lent_19 : decode cX9_lent 19 = .ok (.getfield 19, 3) := by decide +kernel
theorem dX9_lent_22 : decode cX9_lent 22 = .ok (.aload_n 0, 1) := by decide +kernel
theorem dX9_lent_23 : decode cX9_lent 23 = .ok (.getfield 25, 3) := by decide +kernel
theorem dX9_lent_26 : decode cX9_lent 26 = .ok (.iconst 1, 1) := by decide +kernel
theorem dX9_lent_27 : decode cX9_lent 27 = .ok (.isub, 1) := by decide +kernel
theorem dX9_lent_28 : decode cX9_lent 28 = .ok (.aload_n 1, 1) := by decide +kernel
theorem dX9_lent_29 : decode cX9_lent 29 = .ok (.getfield 33, 3) := by decide +kernel
theorem dX9_lent_32 : decode cX9_lent 32 = .ok (.iload_n 2, 1) := by decide +kernel
theorem dX9_lent_33 : decode cX9_lent 33 = .ok (.iaload, 1) := by decide +kernel
theorem dX9_lent_34 : decode cX9_lent 34 = .ok (.iastore, 1) := by decide +kernel
theorem dX9_lent_35 : decode cX9_lent 35 = .ok (.aload_n 0, 1) := by decide +kernel
theorem dX9_lent_36 : decode cX9_lent 36 = .ok (.getfield 22, 3) := by decide +kernel
theorem dX9_lent_39 : decode cX9_lent 39 = .ok (.aload_n 0, 1) := by decide +kernel
theorem dX9_lent_40 : decode cX9_lent 40 = .ok (.getfield 25, 3) := by decide +kernel
theorem dX9_lent_43 : decode cX9_lent 43 = .ok (.iconst 1, 1) := by decide +kernel
theorem dX9_lent_44 : decode cX9_lent 44 = .ok (.isub, 1) := by decide +kernel
theorem dX9_lent_45 : decode cX9_lent 45 = .ok (.aload_n 1, 1) := by decide +kernel
theorem dX9_lent_46 : decode cX9_lent 46 = .ok (.getfield 33, 3) := by decide +kernel
theorem dX9_lent_49 : decode cX9_lent 49 = .ok (.iload_n 3, 1) := by decide +kernel
theorem dX9_lent_50 : decode cX9_lent 50 = .ok (.iaload, 1) := by decide +kernel
theorem dX9_lent_51 : decode cX9_lent 51 = .ok (.iastore, 1) := by decide +kernel
theorem dX9_lent_52 : decode cX9_lent 52 = .ok (.return_, 1) := by decide +kernel
theorem dX9_add_0 : decode cX9_add 0 = .ok (.aload_n 0, 1) := by decide +kernel
theorem dX9_add_1 : decode cX9_add 1 = .ok (.getfield 25, 3) := by decide +kernel
theorem dX9_add_4 : decode cX9_add 4 = .ok (.bipush 20, 2) := by decide +kernel
theorem dX9_add_6 : decode cX9_add 6 = .ok (.if_icmp .lt 7, 3) := by decide +kernel
theorem dX9_add_9 : decode cX9_add 9 = .ok (.aload_n 0, 1) := by decide +kernel
theorem dX9_add_10 : decode cX9_add 10 = .ok (.invokevirtual 38, 3) := by decide +kernel
theorem dX9_add_13 : decode cX9_add 13 = .ok (.aload_n 0, 1) := by decide +kernel
theorem dX9_add_14 : decode cX9_add 14 = .ok (.getfield 9, 3) := by decide +kernel
theorem dX9_add_17 : decode cX9_add 17 = .ok (.aload_n 0, 1) := by decide +kernel
theorem dX9_add_18 : decode cX9_add 18 = .ok (.getfield 25, 3) := by decide +kernel
theorem dX9_add_21 : decode cX9_add 21 = .ok (.iload_n 1, 1) := by decide +kernel
theorem dX9_add_22 : decode cX9_add 22 = .ok (.iastore, 1) := by decide +kernel
theorem dX9_add_23 : decode cX9_add 23 = .ok (.aload_n 0, 1) := by decide +kernel
theorem dX9_add_24 : decode cX9_add 24 = .ok (.getfield 13, 3) := by decide +kernel
theorem dX9_add_27 : decode cX9_add 27 = .ok (.aload_n 0, 1) := by decide +kernel
theorem dX9_add_28 : decode cX9_add 28 = .ok (.getfield 25, 3) := by decide +kernel
theorem dX9_add_31 : decode cX9_add 31 = .ok (.iload_n 2, 1) := by decide +kernel
theorem dX9_add_32 : decode cX9_add 32 = .ok (.iastore, 1) := by decide +kernel
theorem dX9_add_33 : decode cX9_add 33 = .ok (.aload_n 0, 1) := by decide +kernel
theorem dX9_add_34 : decode cX9_add 34 = .ok (.dup, 1) := by decide +kernel
theorem dX9_add_35 : decode cX9_add 35 = .ok (.getfield 25, 3) := by decide +kernel
theorem dX9_add_38 : decode cX9_add 38 = .ok (.iconst 1, 1) := by decide +kernel
theorem dX9_add_39 : decode cX9_add 39 = .ok (.iadd, 1) := by decide +kernel
theorem dX9_add_40 : decode cX9_add 40 = .ok (.putfield 25, 3) := by decide +kernel
theorem dX9_add_43 : decode cX9_add 43 = .ok (.return_, 1) := by decide +kernel
theorem dX9_forgetFirst_0 : decode cX9_forgetFirst 0 = .ok (.iconst 1, 1) := by decide +kernel
theorem dX9_forgetFirst_1 : decode cX9_forgetFirst 1 = .ok (.istore_n 1, 1) := by decide +kernel
theorem dX9_forgetFirst_2 : decode cX9_forgetFirst 2 = .ok (.iload_n 1, 1) := by decide +kernel
theorem dX9_forgetFirst_3 : decode cX9_forgetFirst 3 = .ok (.bipush 20, 2) := by decide +kernel
theorem dX9_forgetFirst_5 : decode cX9_forgetFirst 5 = .ok (.if_icmp .ge 79, 3) := by decide +kernel
theorem dX9_forgetFirst_8 : decode cX9_forgetFirst 8 = .ok (.aload_n 0, 1) := by decide +kernel
theorem dX9_forgetFirst_9 : decode cX9_forgetFirst 9 = .ok (.getfield 9, 3) := by decide +kernel
theorem dX9_forgetFirst_12 : decode cX9_forgetFirst 12 = .ok (.iload_n 1, 1) := by decide +kernel
theorem dX9_forgetFirst_13 : decode cX9_forgetFirst 13 = .ok (.iconst 1, 1) := by decide +kernel
theorem dX9_forgetFirst_14 : decode cX9_forgetFirst 14 = .ok (.isub, 1) := by decide +kernel
theorem dX9_forgetFirst_15 : decode cX9_forgetFirst 15 = .ok (.aload_n 0, 1) := by decide +kernel
theorem dX9_forgetFirst_16 : decode cX9_forgetFirst 16 = .ok (.getfield 9, 3) := by decide +kernel
theorem dX9_forgetFirst_19 : decode cX9_forgetFirst 19 = .ok (.iload_n 1, 1) := by decide +kernel
theorem dX9_forgetFirst_20 : decode cX9_forgetFirst 20 = .ok (.iaload, 1) := by decide +kernel
theorem dX9_forgetFirst_21 : decode cX9_forgetFirst 21 = .ok (.iastore, 1) := by decide +kernel
theorem dX9_forgetFirst_22 : decode cX9_forgetFirst 22 = .ok (.aload_n 0, 1) := by decide +kernel
theorem dX9_forgetFirst_23 : decode cX9_forgetFirst 23 = .ok (.getfield 13, 3) := by decide +kernel
theorem dX9_forgetFirst_26 : decode cX9_forgetFirst 26 = .ok (.iload_n 1, 1) := by decide +kernel
theorem dX9_forgetFirst_27 : decode cX9_forgetFirst 27 = .ok (.iconst 1, 1) := by decide +kernel
theorem dX9_forgetFirst_28 : decode cX9_forgetFirst 28 = .ok (.isub, 1) := by decide +kernel
theorem dX9_forgetFirst_29 : decode cX9_forgetFirst 29 = .ok (.aload_n 0, 1) := by decide +kernel
theorem dX9_forgetFirst_30 : decode cX9_forgetFirst 30 = .ok (.getfield 13, 3) := by decide +kernel
theorem dX9_forgetFirst_33 : decode cX9_forgetFirst 33 = .ok (.iload_n 1, 1) := by decide +kernel
theorem dX9_forgetFirst_34 : decode cX9_forgetFirst 34 = .ok (.iaload, 1) := by decide +kernel
theorem dX9_forgetFirst_35 : decode cX9_forgetFirst 35 = .ok (.iastore, 1) := by decide +kernel
theorem dX9_forgetFirst_36 : decode cX9_forgetFirst 36 = .ok (.aload_n 0, 1) := by decide +kernel
theorem dX9_forgetFirst_37 : decode cX9_forgetFirst 37 = .ok (.getfield 16, 3) := by decide +kernel
theorem dX9_forgetFirst_40 : decode cX9_forgetFirst 40 = .ok (.iload_n 1, 1) := by decide +kernel
theorem dX9_forgetFirst_41 : decode cX9_forgetFirst 41 = .ok (.iconst 1, 1) := by decide +kernel
theorem dX9_forgetFirst_42 : decode cX9_forgetFirst 42 = .ok (.isub, 1) := by decide +kernel
theorem dX9_forgetFirst_43 : decode cX9_forgetFirst 43 = .ok (.aload_n 0, 1) := by decide +kernel
theorem dX9_forgetFirst_44 : decode cX9_forgetFirst 44 = .ok (.getfield 16, 3) := by decide +kernel
theorem dX9_forgetFirst_47 : decode cX9_forgetFirst 47 = .ok (.iload_n 1, 1) := by decide +kernel
theorem dX9_forgetFirst_48 : decode cX9_forgetFirst 48 = .ok (.iaload, 1) := by decide +kernel
theorem dX9_forgetFirst_49 : decode cX9_forgetFirst 49 = .ok (.iastore, 1) := by decide +kernel
theorem dX9_forgetFirst_50 : decode cX9_forgetFirst 50 = .ok (.aload_n 0, 1) := by decide +kernel
theorem dX9_forgetFirst_51 : decode cX9_forgetFirst 51 = .ok (.getfield 19, 3) := by decide +kernel
theorem dX9_forgetFirst_54 : decode cX9_forgetFirst 54 = .ok (.iload_n 1, 1) := by decide +kernel
theorem dX9_forgetFirst_55 : decode cX9_forgetFirst 55 = .ok (.iconst 1, 1) := by decide +kernel
theorem dX9_forgetFirst_56 : decode cX9_forgetFirst 56 = .ok (.isub, 1) := by decide +kernel
theorem dX9_forgetFirst_57 : decode cX9_forgetFirst 57 = .ok (.aload_n 0, 1) := by decide +kernel
theorem dX9_forgetFirst_58 : decode cX9_forgetFirst 58 = .ok (.getfield 19, 3) := by decide +kernel
theorem dX9_forgetFirst_61 : decode cX9_forgetFirst 61 = .ok (.iload_n 1, 1) := by decide +kernel
theorem dX9_forgetFirst_62 : decode cX9_forgetFirst 62 = .ok (.iaload, 1) := by decide +kernel
theorem dX9_forgetFirst_63 : decode cX9_forgetFirst 63 = .ok (.iastore, 1) := by decide +kernel
theorem dX9_forgetFirst_64 : decode cX9_forgetFirst 64 = .ok (.aload_n 0, 1) := by decide +kernel
theorem dX9_forgetFirst_65 : decode cX9_forgetFirst 65 = .ok (.getfield 22, 3) := by decide +kernel
theorem dX9_forgetFirst_68 : decode cX9_forgetFirst 68 = .ok (.iload_n 1, 1) := by decide +kernel
theorem dX9_forgetFirst_69 : decode cX9_forgetFirst 69 = .ok (.iconst 1, 1) := by decide +kernel
theorem dX9_forgetFirst_70 : decode cX9_forgetFirst 70 = .ok (.isub, 1) := by decide +kernel
theorem dX9_forgetFirst_71 : decode cX9_forgetFirst 71 = .ok (.aload_n 0, 1) := by decide +kernel
theorem dX9_forgetFirst_72 : decode cX9_forgetFirst 72 = .ok (.getfield 22, 3) := by decide +kernel
theorem dX9_forgetFirst_75 : decode cX9_forgetFirst 75 = .ok (.iload_n 1, 1) := by decide +kernel
theorem dX9_forgetFirst_76 : decode cX9_forgetFirst 76 = .ok (.iaload, 1) := by decide +kernel
theorem dX9_forgetFirst_77 : decode cX9_forgetFirst 77 = .ok (.iastore, 1) := by decide +kernel
theorem dX9_forgetFirst_78 : decode cX9_forgetFirst 78 = .ok (.iinc 1 1, 3) := by decide +kernel
theorem dX9_forgetFirst_81 : decode cX9_forgetFirst 81 = .ok (.goto (-79), 3) := by decide +kernel
theorem dX9_forgetFirst_84 : decode cX9_forgetFirst 84 = .ok (.aload_n 0, 1) := by decide +kernel
theorem dX9_forgetFirst_85 : decode cX9_forgetFirst 85 = .ok (.bipush 19, 2) := by decide +kernel
theorem dX9_forgetFirst_87 : decode cX9_forgetFirst 87 = .ok (.putfield 25, 3) := by decide +kernel
theorem dX9_forgetFirst_90 : decode cX9_forgetFirst 90 = .ok (.return_, 1) := by decide +kernel
theorem dX9_undoLatest_0 : decode cX9_undoLatest 0 = .ok (.aload_n 0, 1) := by decide +kernel
theorem dX9_undoLatest_1 : decode cX9_undoLatest 1 = .ok (.getfield 25, 3) := by decide +kernel
theorem dX9_undoLatest_4 : decode cX9_undoLatest 4 = .ok (.iconst 1, 1) := by decide +kernel
theorem dX9_undoLatest_5 : decode cX9_undoLatest 5 = .ok (.if_icmp .ge 5, 3) := by decide +kernel
theorem dX9_undoLatest_8 : decode cX9_undoLatest 8 = .ok (.iconst 0, 1) := by decide +kernel
theorem dX9_undoLatest_9 : decode cX9_undoLatest 9 = .ok (.ireturn, 1) := by decide +kernel
theorem dX9_undoLatest_10 : decode cX9_undoLatest 10 = .ok (.aload_n 0, 1) := by decide +kernel
theorem dX9_undoLatest_11 : decode cX9_undoLatest 11 = .ok (.dup, 1) := by decide +kernel
theorem dX9_undoLatest_12 : decode cX9_undoLatest 12 = .ok (.getfield 25, 3) := by decide +kernel
theorem dX9_undoLatest_15 : decode cX9_undoLatest 15 = .ok (.iconst 1, 1) := by decide +kernel
theorem dX9_undoLatest_16 : decode cX9_undoLatest 16 = .ok (.isub, 1) := by decide +kernel
theorem dX9_undoLatest_17 : decode cX9_undoLatest 17 = .ok (.putfield 25, 3) := by decide +kernel
theorem dX9_undoLatest_20 : decode cX9_undoLatest 20 = .ok (.aload_n 0, 1) := by decide +kernel
theorem dX9_undoLatest_21 : decode cX9_undoLatest 21 = .ok (.getfield 13, 3) := by decide +kernel
theorem dX9_undoLatest_24 : decode cX9_undoLatest 24 = .ok (.aload_n 0, 1) := by decide +kernel
theorem dX9_undoLatest_25 : decode cX9_undoLatest 25 = .ok (.getfield 25, 3) := by decide +kernel
theorem dX9_undoLatest_28 : decode cX9_undoLatest 28 = .ok (.iaload, 1) := by decide +kernel
theorem dX9_undoLatest_29 : decode cX9_undoLatest 29 = .ok (.istore_n 2, 1) := by decide +kernel
theorem dX9_undoLatest_30 : decode cX9_undoLatest 30 = .ok (.aload_n 0, 1) := by decide +kernel
theorem dX9_undoLatest_31 : decode cX9_undoLatest 31 = .ok (.getfield 9, 3) := by decide +kernel
theorem dX9_undoLatest_34 : decode cX9_undoLatest 34 = .ok (.aload_n 0, 1) := by decide +kernel
theorem dX9_undoLatest_35 : decode cX9_undoLatest 35 = .ok (.getfield 25, 3) := by decide +kernel
theorem dX9_undoLatest_38 : decode cX9_undoLatest 38 = .ok (.iaload, 1) := by decide +kernel
theorem dX9_undoLatest_39 : decode cX9_undoLatest 39 = .ok (.lookupswitch 56 #[(0, 25), (1, 48)], 25) := by decide +kernel
theorem dX9_undoLatest_64 : decode cX9_undoLatest 64 = .ok (.aload_n 1, 1) := by decide +kernel
theorem dX9_undoLatest_65 : decode cX9_undoLatest 65 = .ok (.getfield 41, 3) := by decide +kernel
theorem dX9_undoLatest_68 : decode cX9_undoLatest 68 = .ok (.iload_n 2, 1) := by decide +kernel
theorem dX9_undoLatest_69 : decode cX9_undoLatest 69 = .ok (.aload_n 1, 1) := by decide +kernel
theorem dX9_undoLatest_70 : decode cX9_undoLatest 70 = .ok (.getfield 41, 3) := by decide +kernel
theorem dX9_undoLatest_73 : decode cX9_undoLatest 73 = .ok (.iload_n 2, 1) := by decide +kernel
theorem dX9_undoLatest_74 : decode cX9_undoLatest 74 = .ok (.baload, 1) := by decide +kernel
theorem dX9_undoLatest_75 : decode cX9_undoLatest 75 = .ok (.ifCond .ne 7, 3) := by decide +kernel
theorem dX9_undoLatest_78 : decode cX9_undoLatest 78 = .ok (.iconst 1, 1) := by decide +kernel
theorem dX9_undoLatest_79 : decode cX9_undoLatest 79 = .ok (.goto 4, 3) := by decide +kernel
theorem dX9_undoLatest_82 : decode cX9_undoLatest 82 = .ok (.iconst 0, 1) := by decide +kernel
theorem dX9_undoLatest_83 : decode cX9_undoLatest 83 = .ok (.bastore, 1) := by decide +kernel
theorem dX9_undoLatest_84 : decode cX9_undoLatest 84 = .ok (.goto 49, 3) := by decide +kernel
theorem dX9_undoLatest_87 : decode cX9_undoLatest 87 = .ok (.aload_n 1, 1) := by decide +kernel
theorem dX9_undoLatest_88 : decode cX9_undoLatest 88 = .ok (.iload_n 2, 1) := by decide +kernel
theorem dX9_undoLatest_89 : decode cX9_undoLatest 89 = .ok (.putfield 45, 3) := by decide +kernel
theorem dX9_undoLatest_92 : decode cX9_undoLatest 92 = .ok (.goto 41, 3) := by decide +kernel
theorem dX9_undoLatest_95 : decode cX9_undoLatest 95 = .ok (.aload_n 1, 1) := by decide +kernel
theorem dX9_undoLatest_96 : decode cX9_undoLatest 96 = .ok (.getfield 33, 3) := by decide +kernel
theorem dX9_undoLatest_99 : decode cX9_undoLatest 99 = .ok (.iload_n 2, 1) := by decide +kernel
theorem dX9_undoLatest_100 : decode cX9_undoLatest 100 = .ok (.aload_n 0, 1) := by decide +kernel
theorem dX9_undoLatest_101 : decode cX9_undoLatest 101 = .ok (.getfield 19, 3) := by decide +kernel
theorem dX9_undoLatest_104 : decode cX9_undoLatest 104 = .ok (.aload_n 0, 1) := by decide +kernel
theorem dX9_undoLatest_105 : decode cX9_undoLatest 105 = .ok (.getfield 25, 3) := by decide +kernel
theorem dX9_undoLatest_108 : decode cX9_undoLatest 108 = .ok (.iaload, 1) := by decide +kernel
theorem dX9_undoLatest_109 : decode cX9_undoLatest 109 = .ok (.iastore, 1) := by decide +kernel
theorem dX9_undoLatest_110 : decode cX9_undoLatest 110 = .ok (.aload_n 1, 1) := by decide +kernel
theorem dX9_undoLatest_111 : decode cX9_undoLatest 111 = .ok (.getfield 33, 3) := by decide +kernel
theorem dX9_undoLatest_114 : decode cX9_undoLatest 114 = .ok (.aload_n 0, 1) := by decide +kernel
theorem dX9_undoLatest_115 : decode cX9_undoLatest 115 = .ok (.getfield 16, 3) := by decide +kernel
theorem dX9_undoLatest_118 : decode cX9_undoLatest 118 = .ok (.aload_n 0, 1) := by decide +kernel
theorem dX9_undoLatest_119 : decode cX9_undoLatest 119 = .ok (.getfield 25, 3) := by decide +kernel
theorem dX9_undoLatest_122 : decode cX9_undoLatest 122 = .ok (.iaload, 1) := by decide +kernel
theorem dX9_undoLatest_123 : decode cX9_undoLatest 123 = .ok (.aload_n 0, 1) := by decide +kernel
theorem dX9_undoLatest_124 : decode cX9_undoLatest 124 = .ok (.getfield 22, 3) := by decide +kernel
theorem dX9_undoLatest_127 : decode cX9_undoLatest 127 = .ok (.aload_n 0, 1) := by decide +kernel
theorem dX9_undoLatest_128 : decode cX9_undoLatest 128 = .ok (.getfield 25, 3) := by decide +kernel
theorem dX9_undoLatest_131 : decode cX9_undoLatest 131 = .ok (.iaload, 1) := by decide +kernel
theorem dX9_undoLatest_132 : decode cX9_undoLatest 132 = .ok (.iastore, 1) := by decide +kernel
theorem dX9_undoLatest_133 : decode cX9_undoLatest 133 = .ok (.iconst 1, 1) := by decide +kernel
theorem dX9_undoLatest_134 : decode cX9_undoLatest 134 = .ok (.ireturn, 1) := by decide +kernel
