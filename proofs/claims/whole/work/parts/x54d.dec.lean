theorem dX11_drawnKind_28 : decode cX11_drawnKind 28 = .ok (.invokevirtual 410, 3) := by decide +kernel
theorem dX11_drawnKind_31 : decode cX11_drawnKind 31 = .ok (.istore_n 3, 1) := by decide +kernel
theorem dX11_drawnKind_32 : decode cX11_drawnKind 32 = .ok (.iconst 0, 1) := by decide +kernel
theorem dX11_drawnKind_33 : decode cX11_drawnKind 33 = .ok (.istore 4, 2) := by decide +kernel
theorem dX11_drawnKind_35 : decode cX11_drawnKind 35 = .ok (.aload_n 0, 1) := by decide +kernel
theorem dX11_drawnKind_36 : decode cX11_drawnKind 36 = .ok (.getfield 33, 3) := by decide +kernel
theorem dX11_drawnKind_39 : decode cX11_drawnKind 39 = .ok (.iconst 0, 1) := by decide +kernel
theorem dX11_drawnKind_40 : decode cX11_drawnKind 40 = .ok (.iaload, 1) := by decide +kernel
theorem dX11_drawnKind_41 : decode cX11_drawnKind 41 = .ok (.istore 5, 2) := by decide +kernel
theorem dX11_drawnKind_43 : decode cX11_drawnKind 43 = .ok (.iload 5, 2) := by decide +kernel
theorem dX11_drawnKind_45 : decode cX11_drawnKind 45 = .ok (.iload_n 3, 1) := by decide +kernel
theorem dX11_drawnKind_46 : decode cX11_drawnKind 46 = .ok (.if_icmp .gt 21, 3) := by decide +kernel
theorem dX11_drawnKind_49 : decode cX11_drawnKind 49 = .ok (.iinc 4 1, 3) := by decide +kernel
theorem dX11_drawnKind_52 : decode cX11_drawnKind 52 = .ok (.iload 5, 2) := by decide +kernel
theorem dX11_drawnKind_54 : decode cX11_drawnKind 54 = .ok (.aload_n 0, 1) := by decide +kernel
theorem dX11_drawnKind_55 : decode cX11_drawnKind 55 = .ok (.getfield 33, 3) := by decide +kernel
theorem dX11_drawnKind_58 : decode cX11_drawnKind 58 = .ok (.iload 4, 2) := by decide +kernel
theorem dX11_drawnKind_60 : decode cX11_drawnKind 60 = .ok (.iaload, 1) := by decide +kernel
theorem dX11_drawnKind_61 : decode cX11_drawnKind 61 = .ok (.iadd, 1) := by decide +kernel
theorem dX11_drawnKind_62 : decode cX11_drawnKind 62 = .ok (.istore 5, 2) := by decide +kernel
theorem dX11_drawnKind_64 : decode cX11_drawnKind 64 = .ok (.goto (-21), 3) := by decide +kernel
theorem dX11_drawnKind_67 : decode cX11_drawnKind 67 = .ok (.iload 4, 2) := by decide +kernel
theorem dX11_drawnKind_69 : decode cX11_drawnKind 69 = .ok (.ireturn, 1) := by decide +kernel
theorem dX11_weatherOf_0 : decode cX11_weatherOf 0 = .ok (.aload_n 0, 1) := by decide +kernel
theorem dX11_weatherOf_1 : decode cX11_weatherOf 1 = .ok (.getfield 112, 3) := by decide +kernel
theorem dX11_weatherOf_4 : decode cX11_weatherOf 4 = .ok (.iload_n 1, 1) := by decide +kernel
theorem dX11_weatherOf_5 : decode cX11_weatherOf 5 = .ok (.iaload, 1) := by decide +kernel
theorem dX11_weatherOf_6 : decode cX11_weatherOf 6 = .ok (.ifCond .lt 10, 3) := by decide +kernel
theorem dX11_weatherOf_9 : decode cX11_weatherOf 9 = .ok (.aload_n 0, 1) := by decide +kernel
theorem dX11_weatherOf_10 : decode cX11_weatherOf 10 = .ok (.getfield 112, 3) := by decide +kernel
theorem dX11_weatherOf_13 : decode cX11_weatherOf 13 = .ok (.iload_n 1, 1) := by decide +kernel
theorem dX11_weatherOf_14 : decode cX11_weatherOf 14 = .ok (.iaload, 1) := by decide +kernel
theorem dX11_weatherOf_15 : decode cX11_weatherOf 15 = .ok (.ireturn, 1) := by decide +kernel
theorem dX11_weatherOf_16 : decode cX11_weatherOf 16 = .ok (.aload_n 0, 1) := by decide +kernel
theorem dX11_weatherOf_17 : decode cX11_weatherOf 17 = .ok (.getfield 48, 3) := by decide +kernel
theorem dX11_weatherOf_20 : decode cX11_weatherOf 20 = .ok (.iconst 0, 1) := by decide +kernel
theorem dX11_weatherOf_21 : decode cX11_weatherOf 21 = .ok (.aload_n 0, 1) := by decide +kernel
theorem dX11_weatherOf_22 : decode cX11_weatherOf 22 = .ok (.getfield 237, 3) := by decide +kernel
theorem dX11_weatherOf_25 : decode cX11_weatherOf 25 = .ok (.aload_n 0, 1) := by decide +kernel
theorem dX11_weatherOf_26 : decode cX11_weatherOf 26 = .ok (.getfield 118, 3) := by decide +kernel
theorem dX11_weatherOf_29 : decode cX11_weatherOf 29 = .ok (.iload_n 1, 1) := by decide +kernel
theorem dX11_weatherOf_30 : decode cX11_weatherOf 30 = .ok (.iaload, 1) := by decide +kernel
theorem dX11_weatherOf_31 : decode cX11_weatherOf 31 = .ok (.invokestatic 253, 3) := by decide +kernel
theorem dX11_weatherOf_34 : decode cX11_weatherOf 34 = .ok (.istore_n 2, 1) := by decide +kernel
theorem dX11_weatherOf_35 : decode cX11_weatherOf 35 = .ok (.iload_n 2, 1) := by decide +kernel
theorem dX11_weatherOf_36 : decode cX11_weatherOf 36 = .ok (.ifCond .lt 12, 3) := by decide +kernel
theorem dX11_weatherOf_39 : decode cX11_weatherOf 39 = .ok (.aload_n 0, 1) := by decide +kernel
theorem dX11_weatherOf_40 : decode cX11_weatherOf 40 = .ok (.getfield 51, 3) := by decide +kernel
theorem dX11_weatherOf_43 : decode cX11_weatherOf 43 = .ok (.iload_n 2, 1) := by decide +kernel
theorem dX11_weatherOf_44 : decode cX11_weatherOf 44 = .ok (.iaload, 1) := by decide +kernel
theorem dX11_weatherOf_45 : decode cX11_weatherOf 45 = .ok (.goto 21, 3) := by decide +kernel
theorem dX11_weatherOf_48 : decode cX11_weatherOf 48 = .ok (.aload_n 0, 1) := by decide +kernel
theorem dX11_weatherOf_49 : decode cX11_weatherOf 49 = .ok (.getfield 371, 3) := by decide +kernel
theorem dX11_weatherOf_52 : decode cX11_weatherOf 52 = .ok (.ifCond .eq 10, 3) := by decide +kernel
theorem dX11_weatherOf_55 : decode cX11_weatherOf 55 = .ok (.aload_n 0, 1) := by decide +kernel
theorem dX11_weatherOf_56 : decode cX11_weatherOf 56 = .ok (.invokevirtual 413, 3) := by decide +kernel
theorem dX11_weatherOf_59 : decode cX11_weatherOf 59 = .ok (.goto 7, 3) := by decide +kernel
theorem dX11_weatherOf_62 : decode cX11_weatherOf 62 = .ok (.aload_n 0, 1) := by decide +kernel
theorem dX11_weatherOf_63 : decode cX11_weatherOf 63 = .ok (.invokevirtual 407, 3) := by decide +kernel
theorem dX11_weatherOf_66 : decode cX11_weatherOf 66 = .ok (.ireturn, 1) := by decide +kernel
theorem dX11_bounded__0 : decode cX11_bounded_ 0 = .ok (.iload_n 0, 1) := by decide +kernel
theorem dX11_bounded__1 : decode cX11_bounded_ 1 = .ok (.iload_n 1, 1) := by decide +kernel
theorem dX11_bounded__2 : decode cX11_bounded_ 2 = .ok (.if_icmp .ge 7, 3) := by decide +kernel
theorem dX11_bounded__5 : decode cX11_bounded_ 5 = .ok (.iload_n 1, 1) := by decide +kernel
theorem dX11_bounded__6 : decode cX11_bounded_ 6 = .ok (.goto 13, 3) := by decide +kernel
theorem dX11_bounded__9 : decode cX11_bounded_ 9 = .ok (.iload_n 0, 1) := by decide +kernel
theorem dX11_bounded__10 : decode cX11_bounded_ 10 = .ok (.iload_n 2, 1) := by decide +kernel
theorem dX11_bounded__11 : decode cX11_bounded_ 11 = .ok (.if_icmp .le 7, 3) := by decide +kernel
theorem dX11_bounded__14 : decode cX11_bounded_ 14 = .ok (.iload_n 2, 1) := by decide +kernel
theorem dX11_bounded__15 : decode cX11_bounded_ 15 = .ok (.goto 4, 3) := by decide +kernel
theorem dX11_bounded__18 : decode cX11_bounded_ 18 = .ok (.iload_n 0, 1) := by decide +kernel
theorem dX11_bounded__19 : decode cX11_bounded_ 19 = .ok (.ireturn, 1) := by decide +kernel
theorem dX11_looks_0 : decode cX11_looks 0 = .ok (.bipush 6, 2) := by decide +kernel
theorem dX11_looks_2 : decode cX11_looks 2 = .ok (.iload_n 1, 1) := by decide +kernel
theorem dX11_looks_3 : decode cX11_looks 3 = .ok (.imul, 1) := by decide +kernel
theorem dX11_looks_4 : decode cX11_looks 4 = .ok (.iload_n 2, 1) := by decide +kernel
theorem dX11_looks_5 : decode cX11_looks 5 = .ok (.iadd, 1) := by decide +kernel
theorem dX11_looks_6 : decode cX11_looks 6 = .ok (.istore 4, 2) := by decide +kernel
theorem dX11_looks_8 : decode cX11_looks 8 = .ok (.aload_n 0, 1) := by decide +kernel
theorem dX11_looks_9 : decode cX11_looks 9 = .ok (.iload_n 1, 1) := by decide +kernel
theorem dX11_looks_10 : decode cX11_looks 10 = .ok (.iload_n 2, 1) := by decide +kernel
theorem dX11_looks_11 : decode cX11_looks 11 = .ok (.iload_n 3, 1) := by decide +kernel
theorem dX11_looks_12 : decode cX11_looks 12 = .ok (.invokevirtual 416, 3) := by decide +kernel
theorem dX11_looks_15 : decode cX11_looks 15 = .ok (.aload_n 0, 1) := by decide +kernel
theorem dX11_looks_16 : decode cX11_looks 16 = .ok (.getfield 60, 3) := by decide +kernel
theorem dX11_looks_19 : decode cX11_looks 19 = .ok (.iconst 0, 1) := by decide +kernel
theorem dX11_looks_20 : decode cX11_looks 20 = .ok (.baload, 1) := by decide +kernel
theorem dX11_looks_21 : decode cX11_looks 21 = .ok (.ifCond .eq 21, 3) := by decide +kernel
theorem dX11_looks_24 : decode cX11_looks 24 = .ok (.aload_n 0, 1) := by decide +kernel
theorem dX11_looks_25 : decode cX11_looks 25 = .ok (.iconst 0, 1) := by decide +kernel
theorem dX11_looks_26 : decode cX11_looks 26 = .ok (.invokevirtual 393, 3) := by decide +kernel
theorem dX11_looks_29 : decode cX11_looks 29 = .ok (.lconst 0, 1) := by decide +kernel
theorem dX11_looks_30 : decode cX11_looks 30 = .ok (.lcmp, 1) := by decide +kernel
theorem dX11_looks_31 : decode cX11_looks 31 = .ok (.ifCond .ne 11, 3) := by decide +kernel
theorem dX11_looks_34 : decode cX11_looks 34 = .ok (.aload_n 0, 1) := by decide +kernel
theorem dX11_looks_35 : decode cX11_looks 35 = .ok (.getfield 336, 3) := by decide +kernel
theorem dX11_looks_38 : decode cX11_looks 38 = .ok (.ifCond .ne 4, 3) := by decide +kernel
theorem dX11_looks_41 : decode cX11_looks 41 = .ok (.return_, 1) := by decide +kernel
theorem dX11_looks_42 : decode cX11_looks 42 = .ok (.aload_n 0, 1) := by decide +kernel
theorem dX11_looks_43 : decode cX11_looks 43 = .ok (.getfield 100, 3) := by decide +kernel
theorem dX11_looks_46 : decode cX11_looks 46 = .ok (.iload 4, 2) := by decide +kernel
theorem dX11_looks_48 : decode cX11_looks 48 = .ok (.dup2, 1) := by decide +kernel
theorem dX11_looks_49 : decode cX11_looks 49 = .ok (.iaload, 1) := by decide +kernel
theorem dX11_looks_50 : decode cX11_looks 50 = .ok (.iconst 1, 1) := by decide +kernel
theorem dX11_looks_51 : decode cX11_looks 51 = .ok (.iadd, 1) := by decide +kernel
theorem dX11_looks_52 : decode cX11_looks 52 = .ok (.iastore, 1) := by decide +kernel
theorem dX11_looks_53 : decode cX11_looks 53 = .ok (.aload_n 0, 1) := by decide +kernel
theorem dX11_looks_54 : decode cX11_looks 54 = .ok (.iconst 1, 1) := by decide +kernel
theorem dX11_looks_55 : decode cX11_looks 55 = .ok (.aload_n 0, 1) := by decide +kernel
theorem dX11_looks_56 : decode cX11_looks 56 = .ok (.iload_n 2, 1) := by decide +kernel
theorem dX11_looks_57 : decode cX11_looks 57 = .ok (.invokevirtual 386, 3) := by decide +kernel
theorem dX11_looks_60 : decode cX11_looks 60 = .ok (.iconst 0, 1) := by decide +kernel
theorem dX11_looks_61 : decode cX11_looks 61 = .ok (.bipush 99, 2) := by decide +kernel
theorem dX11_looks_63 : decode cX11_looks 63 = .ok (.invokevirtual 419, 3) := by decide +kernel
theorem dX11_looks_66 : decode cX11_looks 66 = .ok (.istore 5, 2) := by decide +kernel
theorem dX11_looks_68 : decode cX11_looks 68 = .ok (.aload_n 0, 1) := by decide +kernel
theorem dX11_looks_69 : decode cX11_looks 69 = .ok (.getfield 97, 3) := by decide +kernel
theorem dX11_looks_72 : decode cX11_looks 72 = .ok (.iload 4, 2) := by decide +kernel
theorem dX11_looks_74 : decode cX11_looks 74 = .ok (.aload_n 0, 1) := by decide +kernel
theorem dX11_looks_75 : decode cX11_looks 75 = .ok (.getfield 97, 3) := by decide +kernel
theorem dX11_looks_78 : decode cX11_looks 78 = .ok (.iload 4, 2) := by decide +kernel
theorem dX11_looks_80 : decode cX11_looks 80 = .ok (.iaload, 1) := by decide +kernel
theorem dX11_looks_81 : decode cX11_looks 81 = .ok (.iload 5, 2) := by decide +kernel
theorem dX11_looks_83 : decode cX11_looks 83 = .ok (.iadd, 1) := by decide +kernel
theorem dX11_looks_84 : decode cX11_looks 84 = .ok (.iconst 0, 1) := by decide +kernel
theorem dX11_looks_85 : decode cX11_looks 85 = .ok (.ldc 189, 2) := by decide +kernel
theorem dX11_looks_87 : decode cX11_looks 87 = .ok (.invokestatic 423, 3) := by decide +kernel
theorem dX11_looks_90 : decode cX11_looks 90 = .ok (.iastore, 1) := by decide +kernel
theorem dX11_looks_91 : decode cX11_looks 91 = .ok (.aload_n 0, 1) := by decide +kernel
theorem dX11_looks_92 : decode cX11_looks 92 = .ok (.iload_n 1, 1) := by decide +kernel
theorem dX11_looks_93 : decode cX11_looks 93 = .ok (.iload_n 2, 1) := by decide +kernel
theorem dX11_looks_94 : decode cX11_looks 94 = .ok (.iload_n 3, 1) := by decide +kernel
theorem dX11_looks_95 : decode cX11_looks 95 = .ok (.invokevirtual 416, 3) := by decide +kernel
theorem dX11_looks_98 : decode cX11_looks 98 = .ok (.aload_n 0, 1) := by decide +kernel
theorem dX11_looks_99 : decode cX11_looks 99 = .ok (.getfield 94, 3) := by decide +kernel
theorem dX11_looks_102 : decode cX11_looks 102 = .ok (.iload 4, 2) := by decide +kernel
theorem dX11_looks_104 : decode cX11_looks 104 = .ok (.aload_n 0, 1) := by decide +kernel
theorem dX11_looks_105 : decode cX11_looks 105 = .ok (.getfield 94, 3) := by decide +kernel
theorem dX11_looks_108 : decode cX11_looks 108 = .ok (.iload 4, 2) := by decide +kernel
theorem dX11_looks_110 : decode cX11_looks 110 = .ok (.iaload, 1) := by decide +kernel
theorem dX11_looks_111 : decode cX11_looks 111 = .ok (.aload_n 0, 1) := by decide +kernel
theorem dX11_looks_112 : decode cX11_looks 112 = .ok (.iconst 2, 1) := by decide +kernel
theorem dX11_looks_113 : decode cX11_looks 113 = .ok (.aload_n 0, 1) := by decide +kernel
theorem dX11_looks_114 : decode cX11_looks 114 = .ok (.iload_n 3, 1) := by decide +kernel
theorem dX11_looks_115 : decode cX11_looks 115 = .ok (.invokevirtual 383, 3) := by decide +kernel
theorem dX11_looks_118 : decode cX11_looks 118 = .ok (.iload 5, 2) := by decide +kernel
theorem dX11_looks_120 : decode cX11_looks 120 = .ok (.imul, 1) := by decide +kernel
theorem dX11_looks_121 : decode cX11_looks 121 = .ok (.sipush (-999), 3) := by decide +kernel
theorem dX11_looks_124 : decode cX11_looks 124 = .ok (.sipush 999, 3) := by decide +kernel
theorem dX11_looks_127 : decode cX11_looks 127 = .ok (.invokevirtual 419, 3) := by decide +kernel
theorem dX11_looks_130 : decode cX11_looks 130 = .ok (.iadd, 1) := by decide +kernel
theorem dX11_looks_131 : decode cX11_looks 131 = .ok (.ldc_w 426, 3) := by decide +kernel
theorem dX11_looks_134 : decode cX11_looks 134 = .ok (.ldc 189, 2) := by decide +kernel
theorem dX11_looks_136 : decode cX11_looks 136 = .ok (.invokestatic 423, 3) := by decide +kernel
theorem dX11_looks_139 : decode cX11_looks 139 = .ok (.iastore, 1) := by decide +kernel
theorem dX11_looks_140 : decode cX11_looks 140 = .ok (.return_, 1) := by decide +kernel
theorem dX11_pays_0 : decode cX11_pays 0 = .ok (.bipush 6, 2) := by decide +kernel
theorem dX11_pays_2 : decode cX11_pays 2 = .ok (.iload_n 1, 1) := by decide +kernel
theorem dX11_pays_3 : decode cX11_pays 3 = .ok (.imul, 1) := by decide +kernel
theorem dX11_pays_4 : decode cX11_pays 4 = .ok (.iload_n 2, 1) := by decide +kernel
theorem dX11_pays_5 : decode cX11_pays 5 = .ok (.iadd, 1) := by decide +kernel
theorem dX11_pays_6 : decode cX11_pays 6 = .ok (.istore_n 3, 1) := by decide +kernel
theorem dX11_pays_7 : decode cX11_pays 7 = .ok (.aload_n 0, 1) := by decide +kernel
theorem dX11_pays_8 : decode cX11_pays 8 = .ok (.getfield 91, 3) := by decide +kernel
theorem dX11_pays_11 : decode cX11_pays 11 = .ok (.iload_n 3, 1) := by decide +kernel
theorem dX11_pays_12 : decode cX11_pays 12 = .ok (.iaload, 1) := by decide +kernel
theorem dX11_pays_13 : decode cX11_pays 13 = .ok (.aload_n 0, 1) := by decide +kernel
theorem dX11_pays_14 : decode cX11_pays 14 = .ok (.getfield 45, 3) := by decide +kernel
theorem dX11_pays_17 : decode cX11_pays 17 = .ok (.iload_n 2, 1) := by decide +kernel
theorem dX11_pays_18 : decode cX11_pays 18 = .ok (.iaload, 1) := by decide +kernel
theorem dX11_pays_19 : decode cX11_pays 19 = .ok (.iadd, 1) := by decide +kernel
theorem dX11_pays_20 : decode cX11_pays 20 = .ok (.aload_n 0, 1) := by decide +kernel
theorem dX11_pays_21 : decode cX11_pays 21 = .ok (.getfield 94, 3) := by decide +kernel
theorem dX11_pays_24 : decode cX11_pays 24 = .ok (.iload_n 3, 1) := by decide +kernel
theorem dX11_pays_25 : decode cX11_pays 25 = .ok (.iaload, 1) := by decide +kernel
theorem dX11_pays_26 : decode cX11_pays 26 = .ok (.isub, 1) := by decide +kernel
theorem dX11_pays_27 : decode cX11_pays 27 = .ok (.istore 4, 2) := by decide +kernel
theorem dX11_pays_29 : decode cX11_pays 29 = .ok (.aload_n 0, 1) := by decide +kernel
theorem dX11_pays_30 : decode cX11_pays 30 = .ok (.getfield 91, 3) := by decide +kernel
theorem dX11_pays_33 : decode cX11_pays 33 = .ok (.iload_n 3, 1) := by decide +kernel
theorem dX11_pays_34 : decode cX11_pays 34 = .ok (.iload 4, 2) := by decide +kernel
theorem dX11_pays_36 : decode cX11_pays 36 = .ok (.ldc 189, 2) := by decide +kernel
theorem dX11_pays_38 : decode cX11_pays 38 = .ok (.if_icmp .le 8, 3) := by decide +kernel
theorem dX11_pays_41 : decode cX11_pays 41 = .ok (.ldc 189, 2) := by decide +kernel
theorem dX11_pays_43 : decode cX11_pays 43 = .ok (.goto 5, 3) := by decide +kernel
theorem dX11_pays_46 : decode cX11_pays 46 = .ok (.iload 4, 2) := by decide +kernel
theorem dX11_pays_48 : decode cX11_pays 48 = .ok (.iastore, 1) := by decide +kernel
theorem dX11_pays_49 : decode cX11_pays 49 = .ok (.aload_n 0, 1) := by decide +kernel
theorem dX11_pays_50 : decode cX11_pays 50 = .ok (.getfield 94, 3) := by decide +kernel
theorem dX11_pays_53 : decode cX11_pays 53 = .ok (.iload_n 3, 1) := by decide +kernel
theorem dX11_pays_54 : decode cX11_pays 54 = .ok (.iconst 0, 1) := by decide +kernel
theorem dX11_pays_55 : decode cX11_pays 55 = .ok (.iastore, 1) := by decide +kernel
theorem dX11_pays_56 : decode cX11_pays 56 = .ok (.iload 4, 2) := by decide +kernel
theorem dX11_pays_58 : decode cX11_pays 58 = .ok (.ifCond .ge 15, 3) := by decide +kernel
theorem dX11_pays_61 : decode cX11_pays 61 = .ok (.aload_n 0, 1) := by decide +kernel
theorem dX11_pays_62 : decode cX11_pays 62 = .ok (.getfield 106, 3) := by decide +kernel
theorem dX11_pays_65 : decode cX11_pays 65 = .ok (.iload_n 1, 1) := by decide +kernel
theorem dX11_pays_66 : decode cX11_pays 66 = .ok (.dup2, 1) := by decide +kernel
theorem dX11_pays_67 : decode cX11_pays 67 = .ok (.iaload, 1) := by decide +kernel
theorem dX11_pays_68 : decode cX11_pays 68 = .ok (.iconst 1, 1) := by decide +kernel
theorem dX11_pays_69 : decode cX11_pays 69 = .ok (.iload_n 2, 1) := by decide +kernel
theorem dX11_pays_70 : decode cX11_pays 70 = .ok (.ishl, 1) := by decide +kernel
theorem dX11_pays_71 : decode cX11_pays 71 = .ok (.ior, 1) := by decide +kernel
theorem dX11_pays_72 : decode cX11_pays 72 = .ok (.iastore, 1) := by decide +kernel
theorem dX11_pays_73 : decode cX11_pays 73 = .ok (.return_, 1) := by decide +kernel
theorem dX11_dayGoes_0 : decode cX11_dayGoes 0 = .ok (.aload_n 0, 1) := by decide +kernel
theorem dX11_dayGoes_1 : decode cX11_dayGoes 1 = .ok (.iload_n 1, 1) := by decide +kernel
theorem dX11_dayGoes_2 : decode cX11_dayGoes 2 = .ok (.invokevirtual 427, 3) := by decide +kernel
theorem dX11_dayGoes_5 : decode cX11_dayGoes 5 = .ok (.istore_n 2, 1) := by decide +kernel
theorem dX11_dayGoes_6 : decode cX11_dayGoes 6 = .ok (.iload_n 2, 1) := by decide +kernel
theorem dX11_dayGoes_7 : decode cX11_dayGoes 7 = .ok (.ifCond .ge 16, 3) := by decide +kernel
theorem dX11_dayGoes_10 : decode cX11_dayGoes 10 = .ok (.aload_n 0, 1) := by decide +kernel
theorem dX11_dayGoes_11 : decode cX11_dayGoes 11 = .ok (.getfield 115, 3) := by decide +kernel
theorem dX11_dayGoes_14 : decode cX11_dayGoes 14 = .ok (.iload_n 1, 1) := by decide +kernel
theorem dX11_dayGoes_15 : decode cX11_dayGoes 15 = .ok (.dup2, 1) := by decide +kernel
theorem dX11_dayGoes_16 : decode cX11_dayGoes 16 = .ok (.iaload, 1) := by decide +kernel
theorem dX11_dayGoes_17 : decode cX11_dayGoes 17 = .ok (.iconst 1, 1) := by decide +kernel
theorem dX11_dayGoes_18 : decode cX11_dayGoes 18 = .ok (.iadd, 1) := by decide +kernel
theorem dX11_dayGoes_19 : decode cX11_dayGoes 19 = .ok (.iastore, 1) := by decide +kernel
theorem dX11_dayGoes_20 : decode cX11_dayGoes 20 = .ok (.goto 18, 3) := by decide +kernel
theorem dX11_dayGoes_23 : decode cX11_dayGoes 23 = .ok (.aload_n 0, 1) := by decide +kernel
theorem dX11_dayGoes_24 : decode cX11_dayGoes 24 = .ok (.getfield 103, 3) := by decide +kernel
theorem dX11_dayGoes_27 : decode cX11_dayGoes 27 = .ok (.bipush 6, 2) := by decide +kernel
theorem dX11_dayGoes_29 : decode cX11_dayGoes 29 = .ok (.iload_n 1, 1) := by decide +kernel
theorem dX11_dayGoes_30 : decode cX11_dayGoes 30 = .ok (.imul, 1) := by decide +kernel
theorem dX11_dayGoes_31 : decode cX11_dayGoes 31 = .ok (.iload_n 2, 1) := by decide +kernel
theorem dX11_dayGoes_32 : decode cX11_dayGoes 32 = .ok (.iadd, 1) := by decide +kernel
theorem dX11_dayGoes_33 : decode cX11_dayGoes 33 = .ok (.dup2, 1) := by decide +kernel
theorem dX11_dayGoes_34 : decode cX11_dayGoes 34 = .ok (.iaload, 1) := by decide +kernel
theorem dX11_dayGoes_35 : decode cX11_dayGoes 35 = .ok (.iconst 1, 1) := by decide +kernel
theorem dX11_dayGoes_36 : decode cX11_dayGoes 36 = .ok (.iadd, 1) := by decide +kernel
theorem dX11_dayGoes_37 : decode cX11_dayGoes 37 = .ok (.iastore, 1) := by decide +kernel
theorem dX11_dayGoes_38 : decode cX11_dayGoes 38 = .ok (.iconst 0, 1) := by decide +kernel
theorem dX11_dayGoes_39 : decode cX11_dayGoes 39 = .ok (.istore_n 3, 1) := by decide +kernel
theorem dX11_dayGoes_40 : decode cX11_dayGoes 40 = .ok (.iload_n 3, 1) := by decide +kernel
theorem dX11_dayGoes_41 : decode cX11_dayGoes 41 = .ok (.aload_n 0, 1) := by decide +kernel
theorem dX11_dayGoes_42 : decode cX11_dayGoes 42 = .ok (.getfield 234, 3) := by decide +kernel
theorem dX11_dayGoes_45 : decode cX11_dayGoes 45 = .ok (.if_icmp .ge 40, 3) := by decide +kernel
theorem dX11_dayGoes_48 : decode cX11_dayGoes 48 = .ok (.iload_n 2, 1) := by decide +kernel
theorem dX11_dayGoes_49 : decode cX11_dayGoes 49 = .ok (.ifCond .lt 36, 3) := by decide +kernel
theorem dX11_dayGoes_52 : decode cX11_dayGoes 52 = .ok (.aload_n 0, 1) := by decide +kernel
theorem dX11_dayGoes_53 : decode cX11_dayGoes 53 = .ok (.getfield 106, 3) := by decide +kernel
theorem dX11_dayGoes_56 : decode cX11_dayGoes 56 = .ok (.iload_n 1, 1) := by decide +kernel
theorem dX11_dayGoes_57 : decode cX11_dayGoes 57 = .ok (.iaload, 1) := by decide +kernel
theorem dX11_dayGoes_58 : decode cX11_dayGoes 58 = .ok (.aload_n 0, 1) := by decide +kernel
theorem dX11_dayGoes_59 : decode cX11_dayGoes 59 = .ok (.getfield 109, 3) := by decide +kernel
theorem dX11_dayGoes_62 : decode cX11_dayGoes 62 = .ok (.iload_n 1, 1) := by decide +kernel
theorem dX11_dayGoes_63 : decode cX11_dayGoes 63 = .ok (.iaload, 1) := by decide +kernel
theorem dX11_dayGoes_64 : decode cX11_dayGoes 64 = .ok (.ior, 1) := by decide +kernel
theorem dX11_dayGoes_65 : decode cX11_dayGoes 65 = .ok (.iload_n 3, 1) := by decide +kernel
theorem dX11_dayGoes_66 : decode cX11_dayGoes 66 = .ok (.invokestatic 430, 3) := by decide +kernel
theorem dX11_dayGoes_69 : decode cX11_dayGoes 69 = .ok (.ifCond .ne 10, 3) := by decide +kernel
theorem dX11_dayGoes_72 : decode cX11_dayGoes 72 = .ok (.aload_n 0, 1) := by decide +kernel
theorem dX11_dayGoes_73 : decode cX11_dayGoes 73 = .ok (.iload_n 1, 1) := by decide +kernel
theorem dX11_dayGoes_74 : decode cX11_dayGoes 74 = .ok (.iload_n 3, 1) := by decide +kernel
theorem dX11_dayGoes_75 : decode cX11_dayGoes 75 = .ok (.iload_n 2, 1) := by decide +kernel
theorem dX11_dayGoes_76 : decode cX11_dayGoes 76 = .ok (.invokevirtual 433, 3) := by decide +kernel
theorem dX11_dayGoes_79 : decode cX11_dayGoes 79 = .ok (.iinc 3 1, 3) := by decide +kernel
theorem dX11_dayGoes_82 : decode cX11_dayGoes 82 = .ok (.goto (-42), 3) := by decide +kernel
theorem dX11_dayGoes_85 : decode cX11_dayGoes 85 = .ok (.iconst 0, 1) := by decide +kernel
theorem dX11_dayGoes_86 : decode cX11_dayGoes 86 = .ok (.istore_n 3, 1) := by decide +kernel
theorem dX11_dayGoes_87 : decode cX11_dayGoes 87 = .ok (.iload_n 3, 1) := by decide +kernel
theorem dX11_dayGoes_88 : decode cX11_dayGoes 88 = .ok (.aload_n 0, 1) := by decide +kernel
theorem dX11_dayGoes_89 : decode cX11_dayGoes 89 = .ok (.getfield 234, 3) := by decide +kernel
theorem dX11_dayGoes_92 : decode cX11_dayGoes 92 = .ok (.if_icmp .ge 53, 3) := by decide +kernel
theorem dX11_dayGoes_95 : decode cX11_dayGoes 95 = .ok (.aload_n 0, 1) := by decide +kernel
theorem dX11_dayGoes_96 : decode cX11_dayGoes 96 = .ok (.getfield 380, 3) := by decide +kernel
theorem dX11_dayGoes_99 : decode cX11_dayGoes 99 = .ok (.ifCond .ne 46, 3) := by decide +kernel
theorem dX11_dayGoes_102 : decode cX11_dayGoes 102 = .ok (.aload_n 0, 1) := by decide +kernel
theorem dX11_dayGoes_103 : decode cX11_dayGoes 103 = .ok (.getfield 118, 3) := by decide +kernel
theorem dX11_dayGoes_106 : decode cX11_dayGoes 106 = .ok (.iload_n 1, 1) := by decide +kernel
theorem dX11_dayGoes_107 : decode cX11_dayGoes 107 = .ok (.iaload, 1) := by decide +kernel
theorem dX11_dayGoes_108 : decode cX11_dayGoes 108 = .ok (.iconst 1, 1) := by decide +kernel
theorem dX11_dayGoes_109 : decode cX11_dayGoes 109 = .ok (.iadd, 1) := by decide +kernel
theorem dX11_dayGoes_110 : decode cX11_dayGoes 110 = .ok (.aload_n 0, 1) := by decide +kernel
theorem dX11_dayGoes_111 : decode cX11_dayGoes 111 = .ok (.getfield 24, 3) := by decide +kernel
theorem dX11_dayGoes_114 : decode cX11_dayGoes 114 = .ok (.iconst 0, 1) := by decide +kernel
theorem dX11_dayGoes_115 : decode cX11_dayGoes 115 = .ok (.iaload, 1) := by decide +kernel
theorem dX11_dayGoes_116 : decode cX11_dayGoes 116 = .ok (.irem, 1) := by decide +kernel
theorem dX11_dayGoes_117 : decode cX11_dayGoes 117 = .ok (.ifCond .ne 28, 3) := by decide +kernel
theorem dX11_dayGoes_120 : decode cX11_dayGoes 120 = .ok (.aload_n 0, 1) := by decide +kernel
theorem dX11_dayGoes_121 : decode cX11_dayGoes 121 = .ok (.getfield 106, 3) := by decide +kernel
theorem dX11_dayGoes_124 : decode cX11_dayGoes 124 = .ok (.iload_n 1, 1) := by decide +kernel
theorem dX11_dayGoes_125 : decode cX11_dayGoes 125 = .ok (.iaload, 1) := by decide +kernel
theorem dX11_dayGoes_126 : decode cX11_dayGoes 126 = .ok (.iload_n 3, 1) := by decide +kernel
theorem dX11_dayGoes_127 : decode cX11_dayGoes 127 = .ok (.invokestatic 430, 3) := by decide +kernel
theorem dX11_dayGoes_130 : decode cX11_dayGoes 130 = .ok (.ifCond .ne 9, 3) := by decide +kernel
theorem dX11_dayGoes_133 : decode cX11_dayGoes 133 = .ok (.aload_n 0, 1) := by decide +kernel
theorem dX11_dayGoes_134 : decode cX11_dayGoes 134 = .ok (.iload_n 1, 1) := by decide +kernel
theorem dX11_dayGoes_135 : decode cX11_dayGoes 135 = .ok (.iload_n 3, 1) := by decide +kernel
theorem dX11_dayGoes_136 : decode cX11_dayGoes 136 = .ok (.invokevirtual 436, 3) := by decide +kernel
theorem dX11_dayGoes_139 : decode cX11_dayGoes 139 = .ok (.iinc 3 1, 3) := by decide +kernel
theorem dX11_dayGoes_142 : decode cX11_dayGoes 142 = .ok (.goto (-55), 3) := by decide +kernel
theorem dX11_dayGoes_145 : decode cX11_dayGoes 145 = .ok (.aload_n 0, 1) := by decide +kernel
theorem dX11_dayGoes_146 : decode cX11_dayGoes 146 = .ok (.getfield 112, 3) := by decide +kernel
theorem dX11_dayGoes_149 : decode cX11_dayGoes 149 = .ok (.iload_n 1, 1) := by decide +kernel
theorem dX11_dayGoes_150 : decode cX11_dayGoes 150 = .ok (.iconst (-1), 1) := by decide +kernel
theorem dX11_dayGoes_151 : decode cX11_dayGoes 151 = .ok (.iastore, 1) := by decide +kernel
theorem dX11_dayGoes_152 : decode cX11_dayGoes 152 = .ok (.aload_n 0, 1) := by decide +kernel
theorem dX11_dayGoes_153 : decode cX11_dayGoes 153 = .ok (.getfield 118, 3) := by decide +kernel
theorem dX11_dayGoes_156 : decode cX11_dayGoes 156 = .ok (.iload_n 1, 1) := by decide +kernel
theorem dX11_dayGoes_157 : decode cX11_dayGoes 157 = .ok (.dup2, 1) := by decide +kernel
theorem dX11_dayGoes_158 : decode cX11_dayGoes 158 = .ok (.iaload, 1) := by decide +kernel
theorem dX11_dayGoes_159 : decode cX11_dayGoes 159 = .ok (.iconst 1, 1) := by decide +kernel
theorem dX11_dayGoes_160 : decode cX11_dayGoes 160 = .ok (.iadd, 1) := by decide +kernel
theorem dX11_dayGoes_161 : decode cX11_dayGoes 161 = .ok (.iastore, 1) := by decide +kernel
theorem dX11_dayGoes_162 : decode cX11_dayGoes 162 = .ok (.return_, 1) := by decide +kernel
theorem dX11_goMany_0 : decode cX11_goMany 0 = .ok (.iconst 0, 1) := by decide +kernel
theorem dX11_goMany_1 : decode cX11_goMany 1 = .ok (.istore_n 2, 1) := by decide +kernel
theorem dX11_goMany_2 : decode cX11_goMany 2 = .ok (.iload_n 2, 1) := by decide +kernel
theorem dX11_goMany_3 : decode cX11_goMany 3 = .ok (.iload_n 1, 1) := by decide +kernel
theorem dX11_goMany_4 : decode cX11_goMany 4 = .ok (.if_icmp .ge 14, 3) := by decide +kernel
theorem dX11_goMany_7 : decode cX11_goMany 7 = .ok (.aload_n 0, 1) := by decide +kernel
theorem dX11_goMany_8 : decode cX11_goMany 8 = .ok (.iconst 1, 1) := by decide +kernel
theorem dX11_goMany_9 : decode cX11_goMany 9 = .ok (.invokevirtual 440, 3) := by decide +kernel
theorem dX11_goMany_12 : decode cX11_goMany 12 = .ok (.iinc 2 1, 3) := by decide +kernel
theorem dX11_goMany_15 : decode cX11_goMany 15 = .ok (.goto (-13), 3) := by decide +kernel
theorem dX11_goMany_18 : decode cX11_goMany 18 = .ok (.return_, 1) := by decide +kernel
theorem dX11_lookedAll_0 : decode cX11_lookedAll 0 = .ok (.iconst 0, 1) := by decide +kernel
theorem dX11_lookedAll_1 : decode cX11_lookedAll 1 = .ok (.istore_n 2, 1) := by decide +kernel
theorem dX11_lookedAll_2 : decode cX11_lookedAll 2 = .ok (.iconst 0, 1) := by decide +kernel
theorem dX11_lookedAll_3 : decode cX11_lookedAll 3 = .ok (.istore_n 3, 1) := by decide +kernel
theorem dX11_lookedAll_4 : decode cX11_lookedAll 4 = .ok (.iload_n 3, 1) := by decide +kernel
theorem dX11_lookedAll_5 : decode cX11_lookedAll 5 = .ok (.aload_n 0, 1) := by decide +kernel
theorem dX11_lookedAll_6 : decode cX11_lookedAll 6 = .ok (.getfield 234, 3) := by decide +kernel
theorem dX11_lookedAll_9 : decode cX11_lookedAll 9 = .ok (.if_icmp .ge 23, 3) := by decide +kernel
theorem dX11_lookedAll_12 : decode cX11_lookedAll 12 = .ok (.iload_n 2, 1) := by decide +kernel
theorem dX11_lookedAll_13 : decode cX11_lookedAll 13 = .ok (.aload_n 0, 1) := by decide +kernel
theorem dX11_lookedAll_14 : decode cX11_lookedAll 14 = .ok (.getfield 100, 3) := by decide +kernel
theorem dX11_lookedAll_17 : decode cX11_lookedAll 17 = .ok (.bipush 6, 2) := by decide +kernel
theorem dX11_lookedAll_19 : decode cX11_lookedAll 19 = .ok (.iload_n 1, 1) := by decide +kernel
theorem dX11_lookedAll_20 : decode cX11_lookedAll 20 = .ok (.imul, 1) := by decide +kernel
theorem dX11_lookedAll_21 : decode cX11_lookedAll 21 = .ok (.iload_n 3, 1) := by decide +kernel
theorem dX11_lookedAll_22 : decode cX11_lookedAll 22 = .ok (.iadd, 1) := by decide +kernel
theorem dX11_lookedAll_23 : decode cX11_lookedAll 23 = .ok (.iaload, 1) := by decide +kernel
theorem dX11_lookedAll_24 : decode cX11_lookedAll 24 = .ok (.iadd, 1) := by decide +kernel
theorem dX11_lookedAll_25 : decode cX11_lookedAll 25 = .ok (.istore_n 2, 1) := by decide +kernel
theorem dX11_lookedAll_26 : decode cX11_lookedAll 26 = .ok (.iinc 3 1, 3) := by decide +kernel
theorem dX11_lookedAll_29 : decode cX11_lookedAll 29 = .ok (.goto (-25), 3) := by decide +kernel
theorem dX11_lookedAll_32 : decode cX11_lookedAll 32 = .ok (.iload_n 2, 1) := by decide +kernel
theorem dX11_lookedAll_33 : decode cX11_lookedAll 33 = .ok (.ireturn, 1) := by decide +kernel
theorem dX11_hasOf_0 : decode cX11_hasOf 0 = .ok (.aload_n 0, 1) := by decide +kernel
theorem dX11_hasOf_1 : decode cX11_hasOf 1 = .ok (.getfield 91, 3) := by decide +kernel
theorem dX11_hasOf_4 : decode cX11_hasOf 4 = .ok (.bipush 6, 2) := by decide +kernel
theorem dX11_hasOf_6 : decode cX11_hasOf 6 = .ok (.iload_n 1, 1) := by decide +kernel
theorem dX11_hasOf_7 : decode cX11_hasOf 7 = .ok (.imul, 1) := by decide +kernel
theorem dX11_hasOf_8 : decode cX11_hasOf 8 = .ok (.iload_n 2, 1) := by decide +kernel
theorem dX11_hasOf_9 : decode cX11_hasOf 9 = .ok (.iadd, 1) := by decide +kernel
theorem dX11_hasOf_10 : decode cX11_hasOf 10 = .ok (.iaload, 1) := by decide +kernel
theorem dX11_hasOf_11 : decode cX11_hasOf 11 = .ok (.aload_n 0, 1) := by decide +kernel
theorem dX11_hasOf_12 : decode cX11_hasOf 12 = .ok (.getfield 94, 3) := by decide +kernel
theorem dX11_hasOf_15 : decode cX11_hasOf 15 = .ok (.bipush 6, 2) := by decide +kernel
theorem dX11_hasOf_17 : decode cX11_hasOf 17 = .ok (.iload_n 1, 1) := by decide +kernel
theorem dX11_hasOf_18 : decode cX11_hasOf 18 = .ok (.imul, 1) := by decide +kernel
theorem dX11_hasOf_19 : decode cX11_hasOf 19 = .ok (.iload_n 2, 1) := by decide +kernel
theorem dX11_hasOf_20 : decode cX11_hasOf 20 = .ok (.iadd, 1) := by decide +kernel
theorem dX11_hasOf_21 : decode cX11_hasOf 21 = .ok (.iaload, 1) := by decide +kernel
theorem dX11_hasOf_22 : decode cX11_hasOf 22 = .ok (.isub, 1) := by decide +kernel
theorem dX11_hasOf_23 : decode cX11_hasOf 23 = .ok (.ireturn, 1) := by decide +kernel
theorem dX11_fails_0 : decode cX11_fails 0 = .ok (.aload_n 0, 1) := by decide +kernel
theorem dX11_fails_1 : decode cX11_fails 1 = .ok (.iload_n 1, 1) := by decide +kernel
theorem dX11_fails_2 : decode cX11_fails 2 = .ok (.putfield 151, 3) := by decide +kernel
theorem dX11_fails_5 : decode cX11_fails 5 = .ok (.iconst 0, 1) := by decide +kernel
theorem dX11_fails_6 : decode cX11_fails 6 = .ok (.ireturn, 1) := by decide +kernel
theorem dX11_house_0 : decode cX11_house 0 = .ok (.aload_n 0, 1) := by decide +kernel
theorem dX11_house_1 : decode cX11_house 1 = .ok (.iconst 0, 1) := by decide +kernel
theorem dX11_house_2 : decode cX11_house 2 = .ok (.putfield 151, 3) := by decide +kernel
theorem dX11_house_5 : decode cX11_house 5 = .ok (.aload_n 0, 1) := by decide +kernel
theorem dX11_house_6 : decode cX11_house 6 = .ok (.iload_n 1, 1) := by decide +kernel
theorem dX11_house_7 : decode cX11_house 7 = .ok (.invokevirtual 443, 3) := by decide +kernel
theorem dX11_house_10 : decode cX11_house 10 = .ok (.ifCond .ne 9, 3) := by decide +kernel
theorem dX11_house_13 : decode cX11_house 13 = .ok (.aload_n 0, 1) := by decide +kernel
theorem dX11_house_14 : decode cX11_house 14 = .ok (.iconst 1, 1) := by decide +kernel
theorem dX11_house_15 : decode cX11_house 15 = .ok (.invokevirtual 446, 3) := by decide +kernel
theorem dX11_house_18 : decode cX11_house 18 = .ok (.ireturn, 1) := by decide +kernel
theorem dX11_house_19 : decode cX11_house 19 = .ok (.iload_n 2, 1) := by decide +kernel
theorem dX11_house_20 : decode cX11_house 20 = .ok (.tableswitch 101 0 6 #[44, 51, 58, 65, 72, 79, 90], 44) := by decide +kernel
theorem dX11_house_64 : decode cX11_house 64 = .ok (.aload_n 0, 1) := by decide +kernel
theorem dX11_house_65 : decode cX11_house 65 = .ok (.getfield 91, 3) := by decide +kernel
theorem dX11_house_68 : decode cX11_house 68 = .ok (.iload_n 1, 1) := by decide +kernel
theorem dX11_house_69 : decode cX11_house 69 = .ok (.iaload, 1) := by decide +kernel
theorem dX11_house_70 : decode cX11_house 70 = .ok (.ireturn, 1) := by decide +kernel
theorem dX11_house_71 : decode cX11_house 71 = .ok (.aload_n 0, 1) := by decide +kernel
theorem dX11_house_72 : decode cX11_house 72 = .ok (.getfield 94, 3) := by decide +kernel
theorem dX11_house_75 : decode cX11_house 75 = .ok (.iload_n 1, 1) := by decide +kernel
theorem dX11_house_76 : decode cX11_house 76 = .ok (.iaload, 1) := by decide +kernel
theorem dX11_house_77 : decode cX11_house 77 = .ok (.ireturn, 1) := by decide +kernel
theorem dX11_house_78 : decode cX11_house 78 = .ok (.aload_n 0, 1) := by decide +kernel
theorem dX11_house_79 : decode cX11_house 79 = .ok (.getfield 97, 3) := by decide +kernel
theorem dX11_house_82 : decode cX11_house 82 = .ok (.iload_n 1, 1) := by decide +kernel
theorem dX11_house_83 : decode cX11_house 83 = .ok (.iaload, 1) := by decide +kernel
theorem dX11_house_84 : decode cX11_house 84 = .ok (.ireturn, 1) := by decide +kernel
theorem dX11_house_85 : decode cX11_house 85 = .ok (.aload_n 0, 1) := by decide +kernel
theorem dX11_house_86 : decode cX11_house 86 = .ok (.getfield 42, 3) := by decide +kernel
theorem dX11_house_89 : decode cX11_house 89 = .ok (.iload_n 1, 1) := by decide +kernel
theorem dX11_house_90 : decode cX11_house 90 = .ok (.iaload, 1) := by decide +kernel
theorem dX11_house_91 : decode cX11_house 91 = .ok (.ireturn, 1) := by decide +kernel
theorem dX11_house_92 : decode cX11_house 92 = .ok (.aload_n 0, 1) := by decide +kernel
theorem dX11_house_93 : decode cX11_house 93 = .ok (.getfield 100, 3) := by decide +kernel
theorem dX11_house_96 : decode cX11_house 96 = .ok (.iload_n 1, 1) := by decide +kernel
theorem dX11_house_97 : decode cX11_house 97 = .ok (.iaload, 1) := by decide +kernel
theorem dX11_house_98 : decode cX11_house 98 = .ok (.ireturn, 1) := by decide +kernel
theorem dX11_house_99 : decode cX11_house 99 = .ok (.aload_n 0, 1) := by decide +kernel
theorem dX11_house_100 : decode cX11_house 100 = .ok (.getfield 106, 3) := by decide +kernel
theorem dX11_house_103 : decode cX11_house 103 = .ok (.iconst 0, 1) := by decide +kernel
theorem dX11_house_104 : decode cX11_house 104 = .ok (.iaload, 1) := by decide +kernel
theorem dX11_house_105 : decode cX11_house 105 = .ok (.iload_n 1, 1) := by decide +kernel
theorem dX11_house_106 : decode cX11_house 106 = .ok (.ishr, 1) := by decide +kernel
theorem dX11_house_107 : decode cX11_house 107 = .ok (.iconst 1, 1) := by decide +kernel
theorem dX11_house_108 : decode cX11_house 108 = .ok (.iand, 1) := by decide +kernel
theorem dX11_house_109 : decode cX11_house 109 = .ok (.ireturn, 1) := by decide +kernel
theorem dX11_house_110 : decode cX11_house 110 = .ok (.aload_n 0, 1) := by decide +kernel
theorem dX11_house_111 : decode cX11_house 111 = .ok (.getfield 109, 3) := by decide +kernel
theorem dX11_house_114 : decode cX11_house 114 = .ok (.iconst 0, 1) := by decide +kernel
theorem dX11_house_115 : decode cX11_house 115 = .ok (.iaload, 1) := by decide +kernel
theorem dX11_house_116 : decode cX11_house 116 = .ok (.iload_n 1, 1) := by decide +kernel
theorem dX11_house_117 : decode cX11_house 117 = .ok (.ishr, 1) := by decide +kernel
theorem dX11_house_118 : decode cX11_house 118 = .ok (.iconst 1, 1) := by decide +kernel
theorem dX11_house_119 : decode cX11_house 119 = .ok (.iand, 1) := by decide +kernel
theorem dX11_house_120 : decode cX11_house 120 = .ok (.ireturn, 1) := by decide +kernel
theorem dX11_house_121 : decode cX11_house 121 = .ok (.aload_n 0, 1) := by decide +kernel
theorem dX11_house_122 : decode cX11_house 122 = .ok (.iconst 2, 1) := by decide +kernel
theorem dX11_house_123 : decode cX11_house 123 = .ok (.invokevirtual 446, 3) := by decide +kernel
theorem dX11_house_126 : decode cX11_house 126 = .ok (.ireturn, 1) := by decide +kernel
theorem dX11_kind_0 : decode cX11_kind 0 = .ok (.aload_n 0, 1) := by decide +kernel
theorem dX11_kind_1 : decode cX11_kind 1 = .ok (.iconst 0, 1) := by decide +kernel
theorem dX11_kind_2 : decode cX11_kind 2 = .ok (.putfield 151, 3) := by decide +kernel
theorem dX11_kind_5 : decode cX11_kind 5 = .ok (.aload_n 0, 1) := by decide +kernel
theorem dX11_kind_6 : decode cX11_kind 6 = .ok (.iload_n 1, 1) := by decide +kernel
theorem dX11_kind_7 : decode cX11_kind 7 = .ok (.invokevirtual 449, 3) := by decide +kernel
theorem dX11_kind_10 : decode cX11_kind 10 = .ok (.ifCond .ne 5, 3) := by decide +kernel
theorem dX11_kind_13 : decode cX11_kind 13 = .ok (.iconst (-1), 1) := by decide +kernel
theorem dX11_kind_14 : decode cX11_kind 14 = .ok (.ireturn, 1) := by decide +kernel
theorem dX11_kind_15 : decode cX11_kind 15 = .ok (.iload_n 2, 1) := by decide +kernel
theorem dX11_kind_16 : decode cX11_kind 16 = .ok (.ifCond .ne 12, 3) := by decide +kernel
theorem dX11_kind_19 : decode cX11_kind 19 = .ok (.aload_n 0, 1) := by decide +kernel
theorem dX11_kind_20 : decode cX11_kind 20 = .ok (.getfield 30, 3) := by decide +kernel
theorem dX11_kind_23 : decode cX11_kind 23 = .ok (.iload_n 1, 1) := by decide +kernel
theorem dX11_kind_24 : decode cX11_kind 24 = .ok (.iaload, 1) := by decide +kernel
theorem dX11_kind_25 : decode cX11_kind 25 = .ok (.goto 32, 3) := by decide +kernel
theorem dX11_kind_28 : decode cX11_kind 28 = .ok (.iload_n 2, 1) := by decide +kernel
theorem dX11_kind_29 : decode cX11_kind 29 = .ok (.iconst 1, 1) := by decide +kernel
theorem dX11_kind_30 : decode cX11_kind 30 = .ok (.if_icmp .ne 12, 3) := by decide +kernel
theorem dX11_kind_33 : decode cX11_kind 33 = .ok (.aload_n 0, 1) := by decide +kernel
theorem dX11_kind_34 : decode cX11_kind 34 = .ok (.getfield 33, 3) := by decide +kernel
theorem dX11_kind_37 : decode cX11_kind 37 = .ok (.iload_n 1, 1) := by decide +kernel
theorem dX11_kind_38 : decode cX11_kind 38 = .ok (.iaload, 1) := by decide +kernel
theorem dX11_kind_39 : decode cX11_kind 39 = .ok (.goto 18, 3) := by decide +kernel
theorem dX11_kind_42 : decode cX11_kind 42 = .ok (.iload_n 2, 1) := by decide +kernel
theorem dX11_kind_43 : decode cX11_kind 43 = .ok (.iconst 2, 1) := by decide +kernel
theorem dX11_kind_44 : decode cX11_kind 44 = .ok (.if_icmp .ne 12, 3) := by decide +kernel
theorem dX11_kind_47 : decode cX11_kind 47 = .ok (.aload_n 0, 1) := by decide +kernel
theorem dX11_kind_48 : decode cX11_kind 48 = .ok (.getfield 103, 3) := by decide +kernel
theorem dX11_kind_51 : decode cX11_kind 51 = .ok (.iload_n 1, 1) := by decide +kernel
theorem dX11_kind_52 : decode cX11_kind 52 = .ok (.iaload, 1) := by decide +kernel
theorem dX11_kind_53 : decode cX11_kind 53 = .ok (.goto 4, 3) := by decide +kernel
theorem dX11_kind_56 : decode cX11_kind 56 = .ok (.iconst (-1), 1) := by decide +kernel
theorem dX11_kind_57 : decode cX11_kind 57 = .ok (.ireturn, 1) := by decide +kernel
theorem dX11_weatherIn_0 : decode cX11_weatherIn 0 = .ok (.iload_n 1, 1) := by decide +kernel
theorem dX11_weatherIn_1 : decode cX11_weatherIn 1 = .ok (.ifCond .ne 19, 3) := by decide +kernel
theorem dX11_weatherIn_4 : decode cX11_weatherIn 4 = .ok (.aload_n 0, 1) := by decide +kernel
theorem dX11_weatherIn_5 : decode cX11_weatherIn 5 = .ok (.getfield 112, 3) := by decide +kernel
theorem dX11_weatherIn_8 : decode cX11_weatherIn 8 = .ok (.iconst 0, 1) := by decide +kernel
theorem dX11_weatherIn_9 : decode cX11_weatherIn 9 = .ok (.iaload, 1) := by decide +kernel
theorem dX11_weatherIn_10 : decode cX11_weatherIn 10 = .ok (.ifCond .lt 10, 3) := by decide +kernel
theorem dX11_weatherIn_13 : decode cX11_weatherIn 13 = .ok (.aload_n 0, 1) := by decide +kernel
theorem dX11_weatherIn_14 : decode cX11_weatherIn 14 = .ok (.getfield 112, 3) := by decide +kernel
theorem dX11_weatherIn_17 : decode cX11_weatherIn 17 = .ok (.iconst 0, 1) := by decide +kernel
theorem dX11_weatherIn_18 : decode cX11_weatherIn 18 = .ok (.iaload, 1) := by decide +kernel
theorem dX11_weatherIn_19 : decode cX11_weatherIn 19 = .ok (.ireturn, 1) := by decide +kernel
theorem dX11_weatherIn_20 : decode cX11_weatherIn 20 = .ok (.aload_n 0, 1) := by decide +kernel
theorem dX11_weatherIn_21 : decode cX11_weatherIn 21 = .ok (.getfield 48, 3) := by decide +kernel
theorem dX11_weatherIn_24 : decode cX11_weatherIn 24 = .ok (.iconst 0, 1) := by decide +kernel
theorem dX11_weatherIn_25 : decode cX11_weatherIn 25 = .ok (.aload_n 0, 1) := by decide +kernel
theorem dX11_weatherIn_26 : decode cX11_weatherIn 26 = .ok (.getfield 237, 3) := by decide +kernel
theorem dX11_weatherIn_29 : decode cX11_weatherIn 29 = .ok (.aload_n 0, 1) := by decide +kernel
theorem dX11_weatherIn_30 : decode cX11_weatherIn 30 = .ok (.getfield 118, 3) := by decide +kernel
theorem dX11_weatherIn_33 : decode cX11_weatherIn 33 = .ok (.iconst 0, 1) := by decide +kernel
theorem dX11_weatherIn_34 : decode cX11_weatherIn 34 = .ok (.iaload, 1) := by decide +kernel
theorem dX11_weatherIn_35 : decode cX11_weatherIn 35 = .ok (.iload_n 1, 1) := by decide +kernel
theorem dX11_weatherIn_36 : decode cX11_weatherIn 36 = .ok (.iadd, 1) := by decide +kernel
theorem dX11_weatherIn_37 : decode cX11_weatherIn 37 = .ok (.invokestatic 253, 3) := by decide +kernel
theorem dX11_weatherIn_40 : decode cX11_weatherIn 40 = .ok (.istore_n 2, 1) := by decide +kernel
theorem dX11_weatherIn_41 : decode cX11_weatherIn 41 = .ok (.iload_n 2, 1) := by decide +kernel
theorem dX11_weatherIn_42 : decode cX11_weatherIn 42 = .ok (.ifCond .lt 12, 3) := by decide +kernel
theorem dX11_weatherIn_45 : decode cX11_weatherIn 45 = .ok (.aload_n 0, 1) := by decide +kernel
theorem dX11_weatherIn_46 : decode cX11_weatherIn 46 = .ok (.getfield 51, 3) := by decide +kernel
theorem dX11_weatherIn_49 : decode cX11_weatherIn 49 = .ok (.iload_n 2, 1) := by decide +kernel
theorem dX11_weatherIn_50 : decode cX11_weatherIn 50 = .ok (.iaload, 1) := by decide +kernel
theorem dX11_weatherIn_51 : decode cX11_weatherIn 51 = .ok (.goto 7, 3) := by decide +kernel
theorem dX11_weatherIn_54 : decode cX11_weatherIn 54 = .ok (.aload_n 0, 1) := by decide +kernel
theorem dX11_weatherIn_55 : decode cX11_weatherIn 55 = .ok (.invokevirtual 407, 3) := by decide +kernel
theorem dX11_weatherIn_58 : decode cX11_weatherIn 58 = .ok (.ireturn, 1) := by decide +kernel
theorem dX11_weather_0 : decode cX11_weather 0 = .ok (.aload_n 0, 1) := by decide +kernel
theorem dX11_weather_1 : decode cX11_weather 1 = .ok (.iconst 0, 1) := by decide +kernel
theorem dX11_weather_2 : decode cX11_weather 2 = .ok (.putfield 151, 3) := by decide +kernel
theorem dX11_weather_5 : decode cX11_weather 5 = .ok (.iload_n 1, 1) := by decide +kernel
theorem dX11_weather_6 : decode cX11_weather 6 = .ok (.iconst 0, 1) := by decide +kernel
theorem dX11_weather_7 : decode cX11_weather 7 = .ok (.sipush 200, 3) := by decide +kernel
theorem dX11_weather_10 : decode cX11_weather 10 = .ok (.invokestatic 196, 3) := by decide +kernel
theorem dX11_weather_13 : decode cX11_weather 13 = .ok (.ifCond .ne 5, 3) := by decide +kernel
theorem dX11_weather_16 : decode cX11_weather 16 = .ok (.iconst (-1), 1) := by decide +kernel
theorem dX11_weather_17 : decode cX11_weather 17 = .ok (.ireturn, 1) := by decide +kernel
theorem dX11_weather_18 : decode cX11_weather 18 = .ok (.aload_n 0, 1) := by decide +kernel
theorem dX11_weather_19 : decode cX11_weather 19 = .ok (.iload_n 1, 1) := by decide +kernel
theorem dX11_weather_20 : decode cX11_weather 20 = .ok (.invokevirtual 452, 3) := by decide +kernel
theorem dX11_weather_23 : decode cX11_weather 23 = .ok (.istore_n 2, 1) := by decide +kernel
theorem dX11_weather_24 : decode cX11_weather 24 = .ok (.iload_n 2, 1) := by decide +kernel
theorem dX11_weather_25 : decode cX11_weather 25 = .ok (.ifCond .ge 8, 3) := by decide +kernel
theorem dX11_weather_28 : decode cX11_weather 28 = .ok (.bipush (-2), 2) := by decide +kernel
theorem dX11_weather_30 : decode cX11_weather 30 = .ok (.goto 4, 3) := by decide +kernel
theorem dX11_weather_33 : decode cX11_weather 33 = .ok (.iload_n 2, 1) := by decide +kernel
theorem dX11_weather_34 : decode cX11_weather 34 = .ok (.ireturn, 1) := by decide +kernel
theorem dX11_law_0 : decode cX11_law 0 = .ok (.aload_n 0, 1) := by decide +kernel
theorem dX11_law_1 : decode cX11_law 1 = .ok (.iconst 0, 1) := by decide +kernel
theorem dX11_law_2 : decode cX11_law 2 = .ok (.putfield 151, 3) := by decide +kernel
theorem dX11_law_5 : decode cX11_law 5 = .ok (.iload_n 1, 1) := by decide +kernel
theorem dX11_law_6 : decode cX11_law 6 = .ok (.iconst 0, 1) := by decide +kernel
theorem dX11_law_7 : decode cX11_law 7 = .ok (.iconst 2, 1) := by decide +kernel
theorem dX11_law_8 : decode cX11_law 8 = .ok (.invokestatic 196, 3) := by decide +kernel
theorem dX11_law_11 : decode cX11_law 11 = .ok (.ifCond .eq 28, 3) := by decide +kernel
theorem dX11_law_14 : decode cX11_law 14 = .ok (.aload_n 0, 1) := by decide +kernel
theorem dX11_law_15 : decode cX11_law 15 = .ok (.getfield 60, 3) := by decide +kernel
theorem dX11_law_18 : decode cX11_law 18 = .ok (.iload_n 1, 1) := by decide +kernel
theorem dX11_law_19 : decode cX11_law 19 = .ok (.baload, 1) := by decide +kernel
theorem dX11_law_20 : decode cX11_law 20 = .ok (.ifCond .eq 19, 3) := by decide +kernel
theorem dX11_law_23 : decode cX11_law 23 = .ok (.aload_n 0, 1) := by decide +kernel
theorem dX11_law_24 : decode cX11_law 24 = .ok (.iload_n 2, 1) := by decide +kernel
theorem dX11_law_25 : decode cX11_law 25 = .ok (.invokevirtual 443, 3) := by decide +kernel
theorem dX11_law_28 : decode cX11_law 28 = .ok (.ifCond .eq 11, 3) := by decide +kernel
theorem dX11_law_31 : decode cX11_law 31 = .ok (.aload_n 0, 1) := by decide +kernel
theorem dX11_law_32 : decode cX11_law 32 = .ok (.iload_n 3, 1) := by decide +kernel
theorem dX11_law_33 : decode cX11_law 33 = .ok (.invokevirtual 449, 3) := by decide +kernel
theorem dX11_law_36 : decode cX11_law 36 = .ok (.ifCond .ne 7, 3) := by decide +kernel
theorem dX11_law_39 : decode cX11_law 39 = .ok (.ldc2_w 455, 3) := by decide +kernel
theorem dX11_law_42 : decode cX11_law 42 = .ok (.lreturn, 1) := by decide +kernel
theorem dX11_law_43 : decode cX11_law 43 = .ok (.aload_n 0, 1) := by decide +kernel
theorem dX11_law_44 : decode cX11_law 44 = .ok (.invokevirtual 359, 3) := by decide +kernel
theorem dX11_law_47 : decode cX11_law 47 = .ok (.aload_n 0, 1) := by decide +kernel
theorem dX11_law_48 : decode cX11_law 48 = .ok (.iconst 0, 1) := by decide +kernel
theorem dX11_law_49 : decode cX11_law 49 = .ok (.iload_n 2, 1) := by decide +kernel
theorem dX11_law_50 : decode cX11_law 50 = .ok (.iload_n 3, 1) := by decide +kernel
theorem dX11_law_51 : decode cX11_law 51 = .ok (.invokevirtual 416, 3) := by decide +kernel
theorem dX11_law_54 : decode cX11_law 54 = .ok (.aload_n 0, 1) := by decide +kernel
theorem dX11_law_55 : decode cX11_law 55 = .ok (.iload_n 1, 1) := by decide +kernel
theorem dX11_law_56 : decode cX11_law 56 = .ok (.invokevirtual 393, 3) := by decide +kernel
theorem dX11_law_59 : decode cX11_law 59 = .ok (.lstore 4, 2) := by decide +kernel
theorem dX11_law_61 : decode cX11_law 61 = .ok (.aload_n 0, 1) := by decide +kernel
theorem dX11_law_62 : decode cX11_law 62 = .ok (.getfield 336, 3) := by decide +kernel
theorem dX11_law_65 : decode cX11_law 65 = .ok (.ifCond .eq 9, 3) := by decide +kernel
theorem dX11_law_68 : decode cX11_law 68 = .ok (.ldc2_w 455, 3) := by decide +kernel
theorem dX11_law_71 : decode cX11_law 71 = .ok (.goto 5, 3) := by decide +kernel
theorem dX11_law_74 : decode cX11_law 74 = .ok (.lload 4, 2) := by decide +kernel
theorem dX11_law_76 : decode cX11_law 76 = .ok (.lreturn, 1) := by decide +kernel
theorem dX11_blind_0 : decode cX11_blind 0 = .ok (.aload_n 0, 1) := by decide +kernel
theorem dX11_blind_1 : decode cX11_blind 1 = .ok (.iconst 0, 1) := by decide +kernel
theorem dX11_blind_2 : decode cX11_blind 2 = .ok (.putfield 151, 3) := by decide +kernel
theorem dX11_blind_5 : decode cX11_blind 5 = .ok (.aload_n 0, 1) := by decide +kernel
theorem dX11_blind_6 : decode cX11_blind 6 = .ok (.iload_n 1, 1) := by decide +kernel
theorem dX11_blind_7 : decode cX11_blind 7 = .ok (.invokevirtual 443, 3) := by decide +kernel
theorem dX11_blind_10 : decode cX11_blind 10 = .ok (.ifCond .ne 5, 3) := by decide +kernel
theorem dX11_blind_13 : decode cX11_blind 13 = .ok (.iconst (-1), 1) := by decide +kernel
theorem dX11_blind_14 : decode cX11_blind 14 = .ok (.ireturn, 1) := by decide +kernel
theorem dX11_blind_15 : decode cX11_blind 15 = .ok (.aload_n 0, 1) := by decide +kernel
theorem dX11_blind_16 : decode cX11_blind 16 = .ok (.invokevirtual 457, 3) := by decide +kernel
theorem dX11_blind_19 : decode cX11_blind 19 = .ok (.aload_n 0, 1) := by decide +kernel
theorem dX11_blind_20 : decode cX11_blind 20 = .ok (.getfield 109, 3) := by decide +kernel
theorem dX11_blind_23 : decode cX11_blind 23 = .ok (.iconst 0, 1) := by decide +kernel
theorem dX11_blind_24 : decode cX11_blind 24 = .ok (.dup2, 1) := by decide +kernel
theorem dX11_blind_25 : decode cX11_blind 25 = .ok (.iaload, 1) := by decide +kernel
theorem dX11_blind_26 : decode cX11_blind 26 = .ok (.iconst 1, 1) := by decide +kernel
theorem dX11_blind_27 : decode cX11_blind 27 = .ok (.iload_n 1, 1) := by decide +kernel
theorem dX11_blind_28 : decode cX11_blind 28 = .ok (.ishl, 1) := by decide +kernel
theorem dX11_blind_29 : decode cX11_blind 29 = .ok (.ixor, 1) := by decide +kernel
theorem dX11_blind_30 : decode cX11_blind 30 = .ok (.iastore, 1) := by decide +kernel
theorem dX11_blind_31 : decode cX11_blind 31 = .ok (.aload_n 0, 1) := by decide +kernel
theorem dX11_blind_32 : decode cX11_blind 32 = .ok (.getfield 109, 3) := by decide +kernel
theorem dX11_blind_35 : decode cX11_blind 35 = .ok (.iconst 0, 1) := by decide +kernel
theorem dX11_blind_36 : decode cX11_blind 36 = .ok (.iaload, 1) := by decide +kernel
theorem dX11_blind_37 : decode cX11_blind 37 = .ok (.iload_n 1, 1) := by decide +kernel
theorem dX11_blind_38 : decode cX11_blind 38 = .ok (.ishr, 1) := by decide +kernel
theorem dX11_blind_39 : decode cX11_blind 39 = .ok (.iconst 1, 1) := by decide +kernel
theorem dX11_blind_40 : decode cX11_blind 40 = .ok (.iand, 1) := by decide +kernel
theorem dX11_blind_41 : decode cX11_blind 41 = .ok (.ireturn, 1) := by decide +kernel
theorem dX11_send_0 : decode cX11_send 0 = .ok (.aload_n 0, 1) := by decide +kernel
theorem dX11_send_1 : decode cX11_send 1 = .ok (.iconst 0, 1) := by decide +kernel
theorem dX11_send_2 : decode cX11_send 2 = .ok (.putfield 151, 3) := by decide +kernel
theorem dX11_send_5 : decode cX11_send 5 = .ok (.aload_n 0, 1) := by decide +kernel
theorem dX11_send_6 : decode cX11_send 6 = .ok (.iload_n 1, 1) := by decide +kernel
theorem dX11_send_7 : decode cX11_send 7 = .ok (.invokevirtual 449, 3) := by decide +kernel
theorem dX11_send_10 : decode cX11_send 10 = .ok (.ifCond .ne 5, 3) := by decide +kernel
theorem dX11_send_13 : decode cX11_send 13 = .ok (.iconst 0, 1) := by decide +kernel
theorem dX11_send_14 : decode cX11_send 14 = .ok (.ireturn, 1) := by decide +kernel
theorem dX11_send_15 : decode cX11_send 15 = .ok (.aload_n 0, 1) := by decide +kernel
theorem dX11_send_16 : decode cX11_send 16 = .ok (.invokevirtual 457, 3) := by decide +kernel
theorem dX11_send_19 : decode cX11_send 19 = .ok (.aload_n 0, 1) := by decide +kernel
theorem dX11_send_20 : decode cX11_send 20 = .ok (.getfield 112, 3) := by decide +kernel
theorem dX11_send_23 : decode cX11_send 23 = .ok (.iconst 0, 1) := by decide +kernel
theorem dX11_send_24 : decode cX11_send 24 = .ok (.iload_n 1, 1) := by decide +kernel
theorem dX11_send_25 : decode cX11_send 25 = .ok (.iastore, 1) := by decide +kernel
theorem dX11_send_26 : decode cX11_send 26 = .ok (.iconst 1, 1) := by decide +kernel
theorem dX11_send_27 : decode cX11_send 27 = .ok (.ireturn, 1) := by decide +kernel
theorem dX11_lend_0 : decode cX11_lend 0 = .ok (.aload_n 0, 1) := by decide +kernel
theorem dX11_lend_1 : decode cX11_lend 1 = .ok (.iconst 0, 1) := by decide +kernel
theorem dX11_lend_2 : decode cX11_lend 2 = .ok (.putfield 151, 3) := by decide +kernel
theorem dX11_lend_5 : decode cX11_lend 5 = .ok (.aload_n 0, 1) := by decide +kernel
theorem dX11_lend_6 : decode cX11_lend 6 = .ok (.iload_n 1, 1) := by decide +kernel
theorem dX11_lend_7 : decode cX11_lend 7 = .ok (.invokevirtual 443, 3) := by decide +kernel
theorem dX11_lend_10 : decode cX11_lend 10 = .ok (.ifCond .eq 27, 3) := by decide +kernel
theorem dX11_lend_13 : decode cX11_lend 13 = .ok (.aload_n 0, 1) := by decide +kernel
theorem dX11_lend_14 : decode cX11_lend 14 = .ok (.iload_n 2, 1) := by decide +kernel
theorem dX11_lend_15 : decode cX11_lend 15 = .ok (.invokevirtual 443, 3) := by decide +kernel
theorem dX11_lend_18 : decode cX11_lend 18 = .ok (.ifCond .eq 19, 3) := by decide +kernel
theorem dX11_lend_21 : decode cX11_lend 21 = .ok (.iload_n 1, 1) := by decide +kernel
theorem dX11_lend_22 : decode cX11_lend 22 = .ok (.iload_n 2, 1) := by decide +kernel
theorem dX11_lend_23 : decode cX11_lend 23 = .ok (.if_icmp .eq 14, 3) := by decide +kernel
theorem dX11_lend_26 : decode cX11_lend 26 = .ok (.iload_n 3, 1) := by decide +kernel
theorem dX11_lend_27 : decode cX11_lend 27 = .ok (.iconst 1, 1) := by decide +kernel
theorem dX11_lend_28 : decode cX11_lend 28 = .ok (.sipush 999, 3) := by decide +kernel
theorem dX11_lend_31 : decode cX11_lend 31 = .ok (.invokestatic 196, 3) := by decide +kernel
theorem dX11_lend_34 : decode cX11_lend 34 = .ok (.ifCond .ne 5, 3) := by decide +kernel
theorem dX11_lend_37 : decode cX11_lend 37 = .ok (.iconst (-1), 1) := by decide +kernel
theorem dX11_lend_38 : decode cX11_lend 38 = .ok (.ireturn, 1) := by decide +kernel
theorem dX11_lend_39 : decode cX11_lend 39 = .ok (.aload_n 0, 1) := by decide +kernel
theorem dX11_lend_40 : decode cX11_lend 40 = .ok (.getfield 106, 3) := by decide +kernel
theorem dX11_lend_43 : decode cX11_lend 43 = .ok (.iconst 0, 1) := by decide +kernel
theorem dX11_lend_44 : decode cX11_lend 44 = .ok (.iaload, 1) := by decide +kernel
theorem dX11_lend_45 : decode cX11_lend 45 = .ok (.iload_n 1, 1) := by decide +kernel
theorem dX11_lend_46 : decode cX11_lend 46 = .ok (.invokestatic 430, 3) := by decide +kernel
theorem dX11_lend_49 : decode cX11_lend 49 = .ok (.ifCond .ne 26, 3) := by decide +kernel
theorem dX11_lend_52 : decode cX11_lend 52 = .ok (.aload_n 0, 1) := by decide +kernel
theorem dX11_lend_53 : decode cX11_lend 53 = .ok (.getfield 106, 3) := by decide +kernel
theorem dX11_lend_56 : decode cX11_lend 56 = .ok (.iconst 0, 1) := by decide +kernel
theorem dX11_lend_57 : decode cX11_lend 57 = .ok (.iaload, 1) := by decide +kernel
theorem dX11_lend_58 : decode cX11_lend 58 = .ok (.iload_n 2, 1) := by decide +kernel
theorem dX11_lend_59 : decode cX11_lend 59 = .ok (.invokestatic 430, 3) := by decide +kernel
theorem dX11_lend_62 : decode cX11_lend 62 = .ok (.ifCond .ne 13, 3) := by decide +kernel
theorem dX11_lend_65 : decode cX11_lend 65 = .ok (.aload_n 0, 1) := by decide +kernel
theorem dX11_lend_66 : decode cX11_lend 66 = .ok (.getfield 91, 3) := by decide +kernel
theorem dX11_lend_69 : decode cX11_lend 69 = .ok (.iload_n 1, 1) := by decide +kernel
theorem dX11_lend_70 : decode cX11_lend 70 = .ok (.iaload, 1) := by decide +kernel
theorem dX11_lend_71 : decode cX11_lend 71 = .ok (.iload_n 3, 1) := by decide +kernel
theorem dX11_lend_72 : decode cX11_lend 72 = .ok (.if_icmp .ge 6, 3) := by decide +kernel
theorem dX11_lend_75 : decode cX11_lend 75 = .ok (.bipush (-2), 2) := by decide +kernel
theorem dX11_lend_77 : decode cX11_lend 77 = .ok (.ireturn, 1) := by decide +kernel
theorem dX11_lend_78 : decode cX11_lend 78 = .ok (.aload_n 0, 1) := by decide +kernel
theorem dX11_lend_79 : decode cX11_lend 79 = .ok (.invokevirtual 457, 3) := by decide +kernel
theorem dX11_lend_82 : decode cX11_lend 82 = .ok (.aload_n 0, 1) := by decide +kernel
theorem dX11_lend_83 : decode cX11_lend 83 = .ok (.getfield 91, 3) := by decide +kernel
theorem dX11_lend_86 : decode cX11_lend 86 = .ok (.iload_n 1, 1) := by decide +kernel
theorem dX11_lend_87 : decode cX11_lend 87 = .ok (.dup2, 1) := by decide +kernel
theorem dX11_lend_88 : decode cX11_lend 88 = .ok (.iaload, 1) := by decide +kernel
theorem dX11_lend_89 : decode cX11_lend 89 = .ok (.iload_n 3, 1) := by decide +kernel
theorem dX11_lend_90 : decode cX11_lend 90 = .ok (.isub, 1) := by decide +kernel
theorem dX11_lend_91 : decode cX11_lend 91 = .ok (.iastore, 1) := by decide +kernel
theorem dX11_lend_92 : decode cX11_lend 92 = .ok (.aload_n 0, 1) := by decide +kernel
theorem dX11_lend_93 : decode cX11_lend 93 = .ok (.getfield 91, 3) := by decide +kernel
theorem dX11_lend_96 : decode cX11_lend 96 = .ok (.iload_n 2, 1) := by decide +kernel
theorem dX11_lend_97 : decode cX11_lend 97 = .ok (.aload_n 0, 1) := by decide +kernel
theorem dX11_lend_98 : decode cX11_lend 98 = .ok (.getfield 91, 3) := by decide +kernel
theorem dX11_lend_101 : decode cX11_lend 101 = .ok (.iload_n 2, 1) := by decide +kernel
theorem dX11_lend_102 : decode cX11_lend 102 = .ok (.iaload, 1) := by decide +kernel
theorem dX11_lend_103 : decode cX11_lend 103 = .ok (.iload_n 3, 1) := by decide +kernel
theorem dX11_lend_104 : decode cX11_lend 104 = .ok (.iadd, 1) := by decide +kernel
theorem dX11_lend_105 : decode cX11_lend 105 = .ok (.ldc_w 426, 3) := by decide +kernel
theorem dX11_lend_108 : decode cX11_lend 108 = .ok (.ldc 189, 2) := by decide +kernel
theorem dX11_lend_110 : decode cX11_lend 110 = .ok (.invokestatic 423, 3) := by decide +kernel
theorem dX11_lend_113 : decode cX11_lend 113 = .ok (.iastore, 1) := by decide +kernel
theorem dX11_lend_114 : decode cX11_lend 114 = .ok (.aload_n 0, 1) := by decide +kernel
theorem dX11_lend_115 : decode cX11_lend 115 = .ok (.getfield 91, 3) := by decide +kernel
theorem dX11_lend_118 : decode cX11_lend 118 = .ok (.iload_n 2, 1) := by decide +kernel
theorem dX11_lend_119 : decode cX11_lend 119 = .ok (.iaload, 1) := by decide +kernel
theorem dX11_lend_120 : decode cX11_lend 120 = .ok (.ireturn, 1) := by decide +kernel
theorem dX11_go_0 : decode cX11_go 0 = .ok (.aload_n 0, 1) := by decide +kernel
theorem dX11_go_1 : decode cX11_go 1 = .ok (.iconst 0, 1) := by decide +kernel
theorem dX11_go_2 : decode cX11_go 2 = .ok (.putfield 151, 3) := by decide +kernel
theorem dX11_go_5 : decode cX11_go 5 = .ok (.iload_n 1, 1) := by decide +kernel
theorem dX11_go_6 : decode cX11_go 6 = .ok (.iconst 0, 1) := by decide +kernel
theorem dX11_go_7 : decode cX11_go 7 = .ok (.sipush 200, 3) := by decide +kernel
theorem dX11_go_10 : decode cX11_go 10 = .ok (.invokestatic 196, 3) := by decide +kernel
theorem dX11_go_13 : decode cX11_go 13 = .ok (.ifCond .eq 17, 3) := by decide +kernel
theorem dX11_go_16 : decode cX11_go 16 = .ok (.aload_n 0, 1) := by decide +kernel
theorem dX11_go_17 : decode cX11_go 17 = .ok (.getfield 118, 3) := by decide +kernel
theorem dX11_go_20 : decode cX11_go 20 = .ok (.iconst 0, 1) := by decide +kernel
theorem dX11_go_21 : decode cX11_go 21 = .ok (.iaload, 1) := by decide +kernel
theorem dX11_go_22 : decode cX11_go 22 = .ok (.iload_n 1, 1) := by decide +kernel
theorem dX11_go_23 : decode cX11_go 23 = .ok (.iadd, 1) := by decide +kernel
theorem dX11_go_24 : decode cX11_go 24 = .ok (.sipush 9000, 3) := by decide +kernel
theorem dX11_go_27 : decode cX11_go 27 = .ok (.if_icmp .le 5, 3) := by decide +kernel
theorem dX11_go_30 : decode cX11_go 30 = .ok (.iconst (-1), 1) := by decide +kernel
theorem dX11_go_31 : decode cX11_go 31 = .ok (.ireturn, 1) := by decide +kernel
theorem dX11_go_32 : decode cX11_go 32 = .ok (.aload_n 0, 1) := by decide +kernel
theorem dX11_go_33 : decode cX11_go 33 = .ok (.invokevirtual 359, 3) := by decide +kernel
theorem dX11_go_36 : decode cX11_go 36 = .ok (.aload_n 0, 1) := by decide +kernel
theorem dX11_go_37 : decode cX11_go 37 = .ok (.iconst 1, 1) := by decide +kernel
theorem dX11_go_38 : decode cX11_go 38 = .ok (.putfield 371, 3) := by decide +kernel
theorem dX11_go_41 : decode cX11_go 41 = .ok (.iconst 0, 1) := by decide +kernel
theorem dX11_go_42 : decode cX11_go 42 = .ok (.istore_n 2, 1) := by decide +kernel
theorem dX11_go_43 : decode cX11_go 43 = .ok (.iload_n 2, 1) := by decide +kernel
theorem dX11_go_44 : decode cX11_go 44 = .ok (.iload_n 1, 1) := by decide +kernel
theorem dX11_go_45 : decode cX11_go 45 = .ok (.if_icmp .ge 14, 3) := by decide +kernel
theorem dX11_go_48 : decode cX11_go 48 = .ok (.aload_n 0, 1) := by decide +kernel
theorem dX11_go_49 : decode cX11_go 49 = .ok (.iconst 0, 1) := by decide +kernel
theorem dX11_go_50 : decode cX11_go 50 = .ok (.invokevirtual 440, 3) := by decide +kernel
theorem dX11_go_53 : decode cX11_go 53 = .ok (.iinc 2 1, 3) := by decide +kernel
theorem dX11_go_56 : decode cX11_go 56 = .ok (.goto (-13), 3) := by decide +kernel
theorem dX11_go_59 : decode cX11_go 59 = .ok (.aload_n 0, 1) := by decide +kernel
theorem dX11_go_60 : decode cX11_go 60 = .ok (.iconst 0, 1) := by decide +kernel
theorem dX11_go_61 : decode cX11_go 61 = .ok (.putfield 371, 3) := by decide +kernel
theorem dX11_go_64 : decode cX11_go 64 = .ok (.aload_n 0, 1) := by decide +kernel
theorem dX11_go_65 : decode cX11_go 65 = .ok (.iload_n 1, 1) := by decide +kernel
theorem dX11_go_66 : decode cX11_go 66 = .ok (.ifCond .le 7, 3) := by decide +kernel
theorem dX11_go_69 : decode cX11_go 69 = .ok (.iconst 0, 1) := by decide +kernel
theorem dX11_go_70 : decode cX11_go 70 = .ok (.goto 7, 3) := by decide +kernel
theorem dX11_go_73 : decode cX11_go 73 = .ok (.aload_n 0, 1) := by decide +kernel
theorem dX11_go_74 : decode cX11_go 74 = .ok (.getfield 365, 3) := by decide +kernel
theorem dX11_go_77 : decode cX11_go 77 = .ok (.putfield 365, 3) := by decide +kernel
theorem dX11_go_80 : decode cX11_go 80 = .ok (.aload_n 0, 1) := by decide +kernel
theorem dX11_go_81 : decode cX11_go 81 = .ok (.getfield 118, 3) := by decide +kernel
theorem dX11_go_84 : decode cX11_go 84 = .ok (.iconst 0, 1) := by decide +kernel
theorem dX11_go_85 : decode cX11_go 85 = .ok (.iaload, 1) := by decide +kernel
theorem dX11_go_86 : decode cX11_go 86 = .ok (.ireturn, 1) := by decide +kernel
theorem dX11_ahead_0 : decode cX11_ahead 0 = .ok (.aload_n 0, 1) := by decide +kernel
theorem dX11_ahead_1 : decode cX11_ahead 1 = .ok (.iconst 0, 1) := by decide +kernel
theorem dX11_ahead_2 : decode cX11_ahead 2 = .ok (.putfield 151, 3) := by decide +kernel
theorem dX11_ahead_5 : decode cX11_ahead 5 = .ok (.iload_n 1, 1) := by decide +kernel
theorem dX11_ahead_6 : decode cX11_ahead 6 = .ok (.iconst 0, 1) := by decide +kernel
theorem dX11_ahead_7 : decode cX11_ahead 7 = .ok (.sipush 200, 3) := by decide +kernel
theorem dX11_ahead_10 : decode cX11_ahead 10 = .ok (.invokestatic 196, 3) := by decide +kernel
theorem dX11_ahead_13 : decode cX11_ahead 13 = .ok (.ifCond .eq 25, 3) := by decide +kernel
theorem dX11_ahead_16 : decode cX11_ahead 16 = .ok (.iload_n 2, 1) := by decide +kernel
theorem dX11_ahead_17 : decode cX11_ahead 17 = .ok (.iconst 0, 1) := by decide +kernel
theorem dX11_ahead_18 : decode cX11_ahead 18 = .ok (.iconst 4, 1) := by decide +kernel
theorem dX11_ahead_19 : decode cX11_ahead 19 = .ok (.invokestatic 196, 3) := by decide +kernel
theorem dX11_ahead_22 : decode cX11_ahead 22 = .ok (.ifCond .eq 16, 3) := by decide +kernel
theorem dX11_ahead_25 : decode cX11_ahead 25 = .ok (.iload_n 2, 1) := by decide +kernel
theorem dX11_ahead_26 : decode cX11_ahead 26 = .ok (.iconst 3, 1) := by decide +kernel
theorem dX11_ahead_27 : decode cX11_ahead 27 = .ok (.if_icmp .ge 15, 3) := by decide +kernel
theorem dX11_ahead_30 : decode cX11_ahead 30 = .ok (.aload_n 0, 1) := by decide +kernel
theorem dX11_ahead_31 : decode cX11_ahead 31 = .ok (.iload_n 3, 1) := by decide +kernel
theorem dX11_ahead_32 : decode cX11_ahead 32 = .ok (.invokevirtual 443, 3) := by decide +kernel
theorem dX11_ahead_35 : decode cX11_ahead 35 = .ok (.ifCond .ne 7, 3) := by decide +kernel
theorem dX11_ahead_38 : decode cX11_ahead 38 = .ok (.ldc_w 460, 3) := by decide +kernel
theorem dX11_ahead_41 : decode cX11_ahead 41 = .ok (.ireturn, 1) := by decide +kernel
theorem dX11_ahead_42 : decode cX11_ahead 42 = .ok (.aload_n 0, 1) := by decide +kernel
theorem dX11_ahead_43 : decode cX11_ahead 43 = .ok (.invokevirtual 461, 3) := by decide +kernel
theorem dX11_ahead_46 : decode cX11_ahead 46 = .ok (.aload_n 0, 1) := by decide +kernel
theorem dX11_ahead_47 : decode cX11_ahead 47 = .ok (.iload_n 1, 1) := by decide +kernel
theorem dX11_ahead_48 : decode cX11_ahead 48 = .ok (.invokevirtual 464, 3) := by decide +kernel
theorem dX11_ahead_51 : decode cX11_ahead 51 = .ok (.iload_n 2, 1) := by decide +kernel
theorem dX11_ahead_52 : decode cX11_ahead 52 = .ok (.tableswitch 72 0 3 #[32, 42, 52, 62], 32) := by decide +kernel
theorem dX11_ahead_84 : decode cX11_ahead 84 = .ok (.aload_n 0, 1) := by decide +kernel
theorem dX11_ahead_85 : decode cX11_ahead 85 = .ok (.getfield 91, 3) := by decide +kernel
theorem dX11_ahead_88 : decode cX11_ahead 88 = .ok (.bipush 6, 2) := by decide +kernel
theorem dX11_ahead_90 : decode cX11_ahead 90 = .ok (.iload_n 3, 1) := by decide +kernel
theorem dX11_ahead_91 : decode cX11_ahead 91 = .ok (.iadd, 1) := by decide +kernel
theorem dX11_ahead_92 : decode cX11_ahead 92 = .ok (.iaload, 1) := by decide +kernel
theorem dX11_ahead_93 : decode cX11_ahead 93 = .ok (.ireturn, 1) := by decide +kernel
theorem dX11_ahead_94 : decode cX11_ahead 94 = .ok (.aload_n 0, 1) := by decide +kernel
theorem dX11_ahead_95 : decode cX11_ahead 95 = .ok (.getfield 94, 3) := by decide +kernel
theorem dX11_ahead_98 : decode cX11_ahead 98 = .ok (.bipush 6, 2) := by decide +kernel
theorem dX11_ahead_100 : decode cX11_ahead 100 = .ok (.iload_n 3, 1) := by decide +kernel
theorem dX11_ahead_101 : decode cX11_ahead 101 = .ok (.iadd, 1) := by decide +kernel
theorem dX11_ahead_102 : decode cX11_ahead 102 = .ok (.iaload, 1) := by decide +kernel
theorem dX11_ahead_103 : decode cX11_ahead 103 = .ok (.ireturn, 1) := by decide +kernel
theorem dX11_ahead_104 : decode cX11_ahead 104 = .ok (.aload_n 0, 1) := by decide +kernel
theorem dX11_ahead_105 : decode cX11_ahead 105 = .ok (.getfield 97, 3) := by decide +kernel
theorem dX11_ahead_108 : decode cX11_ahead 108 = .ok (.bipush 6, 2) := by decide +kernel
theorem dX11_ahead_110 : decode cX11_ahead 110 = .ok (.iload_n 3, 1) := by decide +kernel
theorem dX11_ahead_111 : decode cX11_ahead 111 = .ok (.iadd, 1) := by decide +kernel
theorem dX11_ahead_112 : decode cX11_ahead 112 = .ok (.iaload, 1) := by decide +kernel
theorem dX11_ahead_113 : decode cX11_ahead 113 = .ok (.ireturn, 1) := by decide +kernel
theorem dX11_ahead_114 : decode cX11_ahead 114 = .ok (.aload_n 0, 1) := by decide +kernel
theorem dX11_ahead_115 : decode cX11_ahead 115 = .ok (.getfield 106, 3) := by decide +kernel
theorem dX11_ahead_118 : decode cX11_ahead 118 = .ok (.iconst 1, 1) := by decide +kernel
theorem dX11_ahead_119 : decode cX11_ahead 119 = .ok (.iaload, 1) := by decide +kernel
theorem dX11_ahead_120 : decode cX11_ahead 120 = .ok (.invokestatic 467, 3) := by decide +kernel
theorem dX11_ahead_123 : decode cX11_ahead 123 = .ok (.ireturn, 1) := by decide +kernel
theorem dX11_ahead_124 : decode cX11_ahead 124 = .ok (.aload_n 0, 1) := by decide +kernel
theorem dX11_ahead_125 : decode cX11_ahead 125 = .ok (.iconst 1, 1) := by decide +kernel
theorem dX11_ahead_126 : decode cX11_ahead 126 = .ok (.invokevirtual 470, 3) := by decide +kernel
theorem dX11_ahead_129 : decode cX11_ahead 129 = .ok (.aload_n 0, 1) := by decide +kernel
theorem dX11_ahead_130 : decode cX11_ahead 130 = .ok (.iconst 0, 1) := by decide +kernel
theorem dX11_ahead_131 : decode cX11_ahead 131 = .ok (.invokevirtual 470, 3) := by decide +kernel
theorem dX11_ahead_134 : decode cX11_ahead 134 = .ok (.isub, 1) := by decide +kernel
theorem dX11_ahead_135 : decode cX11_ahead 135 = .ok (.ireturn, 1) := by decide +kernel
theorem dX11_daysTo_0 : decode cX11_daysTo 0 = .ok (.aload_n 0, 1) := by decide +kernel
theorem dX11_daysTo_1 : decode cX11_daysTo 1 = .ok (.invokevirtual 461, 3) := by decide +kernel
theorem dX11_daysTo_4 : decode cX11_daysTo 4 = .ok (.iconst 0, 1) := by decide +kernel
theorem dX11_daysTo_5 : decode cX11_daysTo 5 = .ok (.istore_n 3, 1) := by decide +kernel
theorem dX11_daysTo_6 : decode cX11_daysTo 6 = .ok (.iload_n 3, 1) := by decide +kernel
theorem dX11_daysTo_7 : decode cX11_daysTo 7 = .ok (.sipush 200, 3) := by decide +kernel
theorem dX11_daysTo_10 : decode cX11_daysTo 10 = .ok (.if_icmp .ge 79, 3) := by decide +kernel
theorem dX11_daysTo_13 : decode cX11_daysTo 13 = .ok (.iload_n 1, 1) := by decide +kernel
theorem dX11_daysTo_14 : decode cX11_daysTo 14 = .ok (.ifCond .ne 16, 3) := by decide +kernel
theorem dX11_daysTo_17 : decode cX11_daysTo 17 = .ok (.aload_n 0, 1) := by decide +kernel
theorem dX11_daysTo_18 : decode cX11_daysTo 18 = .ok (.getfield 106, 3) := by decide +kernel
theorem dX11_daysTo_21 : decode cX11_daysTo 21 = .ok (.iconst 1, 1) := by decide +kernel
theorem dX11_daysTo_22 : decode cX11_daysTo 22 = .ok (.iaload, 1) := by decide +kernel
theorem dX11_daysTo_23 : decode cX11_daysTo 23 = .ok (.iload_n 2, 1) := by decide +kernel
theorem dX11_daysTo_24 : decode cX11_daysTo 24 = .ok (.invokestatic 430, 3) := by decide +kernel
theorem dX11_daysTo_27 : decode cX11_daysTo 27 = .ok (.goto 42, 3) := by decide +kernel
theorem dX11_daysTo_30 : decode cX11_daysTo 30 = .ok (.iload_n 1, 1) := by decide +kernel
theorem dX11_daysTo_31 : decode cX11_daysTo 31 = .ok (.iconst 1, 1) := by decide +kernel
theorem dX11_daysTo_32 : decode cX11_daysTo 32 = .ok (.if_icmp .ne 23, 3) := by decide +kernel
theorem dX11_daysTo_35 : decode cX11_daysTo 35 = .ok (.aload_n 0, 1) := by decide +kernel
theorem dX11_daysTo_36 : decode cX11_daysTo 36 = .ok (.getfield 94, 3) := by decide +kernel
theorem dX11_daysTo_39 : decode cX11_daysTo 39 = .ok (.bipush 6, 2) := by decide +kernel
theorem dX11_daysTo_41 : decode cX11_daysTo 41 = .ok (.iload_n 2, 1) := by decide +kernel
theorem dX11_daysTo_42 : decode cX11_daysTo 42 = .ok (.iadd, 1) := by decide +kernel
theorem dX11_daysTo_43 : decode cX11_daysTo 43 = .ok (.iaload, 1) := by decide +kernel
theorem dX11_daysTo_44 : decode cX11_daysTo 44 = .ok (.ifCond .ge 7, 3) := by decide +kernel
theorem dX11_daysTo_47 : decode cX11_daysTo 47 = .ok (.iconst 1, 1) := by decide +kernel
theorem dX11_daysTo_48 : decode cX11_daysTo 48 = .ok (.goto 21, 3) := by decide +kernel
theorem dX11_daysTo_51 : decode cX11_daysTo 51 = .ok (.iconst 0, 1) := by decide +kernel
theorem dX11_daysTo_52 : decode cX11_daysTo 52 = .ok (.goto 17, 3) := by decide +kernel
theorem dX11_daysTo_55 : decode cX11_daysTo 55 = .ok (.aload_n 0, 1) := by decide +kernel
theorem dX11_daysTo_56 : decode cX11_daysTo 56 = .ok (.iconst 1, 1) := by decide +kernel
theorem dX11_daysTo_57 : decode cX11_daysTo 57 = .ok (.iload_n 2, 1) := by decide +kernel
theorem dX11_daysTo_58 : decode cX11_daysTo 58 = .ok (.invokevirtual 473, 3) := by decide +kernel
theorem dX11_daysTo_61 : decode cX11_daysTo 61 = .ok (.ifCond .ge 7, 3) := by decide +kernel
theorem dX11_daysTo_64 : decode cX11_daysTo 64 = .ok (.iconst 1, 1) := by decide +kernel
theorem dX11_daysTo_65 : decode cX11_daysTo 65 = .ok (.goto 4, 3) := by decide +kernel
theorem dX11_daysTo_68 : decode cX11_daysTo 68 = .ok (.iconst 0, 1) := by decide +kernel
theorem dX11_daysTo_69 : decode cX11_daysTo 69 = .ok (.istore 4, 2) := by decide +kernel
theorem dX11_daysTo_71 : decode cX11_daysTo 71 = .ok (.iload 4, 2) := by decide +kernel
theorem dX11_daysTo_73 : decode cX11_daysTo 73 = .ok (.ifCond .eq 5, 3) := by decide +kernel
theorem dX11_daysTo_76 : decode cX11_daysTo 76 = .ok (.iload_n 3, 1) := by decide +kernel
theorem dX11_daysTo_77 : decode cX11_daysTo 77 = .ok (.ireturn, 1) := by decide +kernel
theorem dX11_daysTo_78 : decode cX11_daysTo 78 = .ok (.aload_n 0, 1) := by decide +kernel
theorem dX11_daysTo_79 : decode cX11_daysTo 79 = .ok (.iconst 1, 1) := by decide +kernel
theorem dX11_daysTo_80 : decode cX11_daysTo 80 = .ok (.invokevirtual 440, 3) := by decide +kernel
theorem dX11_daysTo_83 : decode cX11_daysTo 83 = .ok (.iinc 3 1, 3) := by decide +kernel
theorem dX11_daysTo_86 : decode cX11_daysTo 86 = .ok (.goto (-80), 3) := by decide +kernel
theorem dX11_daysTo_89 : decode cX11_daysTo 89 = .ok (.bipush (-2), 2) := by decide +kernel
theorem dX11_daysTo_91 : decode cX11_daysTo 91 = .ok (.ireturn, 1) := by decide +kernel
theorem dX11_sold_0 : decode cX11_sold 0 = .ok (.aload_n 0, 1) := by decide +kernel
theorem dX11_sold_1 : decode cX11_sold 1 = .ok (.iconst 0, 1) := by decide +kernel
theorem dX11_sold_2 : decode cX11_sold 2 = .ok (.putfield 151, 3) := by decide +kernel
theorem dX11_sold_5 : decode cX11_sold 5 = .ok (.aload_n 0, 1) := by decide +kernel
theorem dX11_sold_6 : decode cX11_sold 6 = .ok (.iload_n 1, 1) := by decide +kernel
theorem dX11_sold_7 : decode cX11_sold 7 = .ok (.invokevirtual 443, 3) := by decide +kernel
theorem dX11_sold_10 : decode cX11_sold 10 = .ok (.ifCond .eq 12, 3) := by decide +kernel
theorem dX11_sold_13 : decode cX11_sold 13 = .ok (.aload_n 0, 1) := by decide +kernel
theorem dX11_sold_14 : decode cX11_sold 14 = .ok (.iconst 0, 1) := by decide +kernel
theorem dX11_sold_15 : decode cX11_sold 15 = .ok (.iload_n 1, 1) := by decide +kernel
theorem dX11_sold_16 : decode cX11_sold 16 = .ok (.invokevirtual 476, 3) := by decide +kernel
theorem dX11_sold_19 : decode cX11_sold 19 = .ok (.goto 4, 3) := by decide +kernel
theorem dX11_sold_22 : decode cX11_sold 22 = .ok (.iconst (-1), 1) := by decide +kernel
theorem dX11_sold_23 : decode cX11_sold 23 = .ok (.ireturn, 1) := by decide +kernel
theorem dX11_credit_0 : decode cX11_credit 0 = .ok (.aload_n 0, 1) := by decide +kernel
theorem dX11_credit_1 : decode cX11_credit 1 = .ok (.iconst 0, 1) := by decide +kernel
theorem dX11_credit_2 : decode cX11_credit 2 = .ok (.putfield 151, 3) := by decide +kernel
theorem dX11_credit_5 : decode cX11_credit 5 = .ok (.aload_n 0, 1) := by decide +kernel
theorem dX11_credit_6 : decode cX11_credit 6 = .ok (.iload_n 1, 1) := by decide +kernel
theorem dX11_credit_7 : decode cX11_credit 7 = .ok (.invokevirtual 443, 3) := by decide +kernel
theorem dX11_credit_10 : decode cX11_credit 10 = .ok (.ifCond .eq 12, 3) := by decide +kernel
theorem dX11_credit_13 : decode cX11_credit 13 = .ok (.aload_n 0, 1) := by decide +kernel
theorem dX11_credit_14 : decode cX11_credit 14 = .ok (.iconst 1, 1) := by decide +kernel
theorem dX11_credit_15 : decode cX11_credit 15 = .ok (.iload_n 1, 1) := by decide +kernel
theorem dX11_credit_16 : decode cX11_credit 16 = .ok (.invokevirtual 476, 3) := by decide +kernel
theorem dX11_credit_19 : decode cX11_credit 19 = .ok (.goto 4, 3) := by decide +kernel
theorem dX11_credit_22 : decode cX11_credit 22 = .ok (.iconst (-1), 1) := by decide +kernel
theorem dX11_credit_23 : decode cX11_credit 23 = .ok (.ireturn, 1) := by decide +kernel
theorem dX11_owes_0 : decode cX11_owes 0 = .ok (.aload_n 0, 1) := by decide +kernel
theorem dX11_owes_1 : decode cX11_owes 1 = .ok (.iconst 0, 1) := by decide +kernel
theorem dX11_owes_2 : decode cX11_owes 2 = .ok (.putfield 151, 3) := by decide +kernel
theorem dX11_owes_5 : decode cX11_owes 5 = .ok (.aload_n 0, 1) := by decide +kernel
theorem dX11_owes_6 : decode cX11_owes 6 = .ok (.iload_n 1, 1) := by decide +kernel
theorem dX11_owes_7 : decode cX11_owes 7 = .ok (.invokevirtual 443, 3) := by decide +kernel
theorem dX11_owes_10 : decode cX11_owes 10 = .ok (.ifCond .eq 12, 3) := by decide +kernel
theorem dX11_owes_13 : decode cX11_owes 13 = .ok (.aload_n 0, 1) := by decide +kernel
theorem dX11_owes_14 : decode cX11_owes 14 = .ok (.iconst 2, 1) := by decide +kernel
theorem dX11_owes_15 : decode cX11_owes 15 = .ok (.iload_n 1, 1) := by decide +kernel
theorem dX11_owes_16 : decode cX11_owes 16 = .ok (.invokevirtual 476, 3) := by decide +kernel
theorem dX11_owes_19 : decode cX11_owes 19 = .ok (.goto 4, 3) := by decide +kernel
theorem dX11_owes_22 : decode cX11_owes 22 = .ok (.iconst (-1), 1) := by decide +kernel
theorem dX11_owes_23 : decode cX11_owes 23 = .ok (.ireturn, 1) := by decide +kernel
theorem dX11_termIn_0 : decode cX11_termIn 0 = .ok (.aload_n 0, 1) := by decide +kernel
theorem dX11_termIn_1 : decode cX11_termIn 1 = .ok (.iconst 0, 1) := by decide +kernel
theorem dX11_termIn_2 : decode cX11_termIn 2 = .ok (.putfield 151, 3) := by decide +kernel
theorem dX11_termIn_5 : decode cX11_termIn 5 = .ok (.aload_n 0, 1) := by decide +kernel
theorem dX11_termIn_6 : decode cX11_termIn 6 = .ok (.getfield 24, 3) := by decide +kernel
theorem dX11_termIn_9 : decode cX11_termIn 9 = .ok (.iconst 0, 1) := by decide +kernel
theorem dX11_termIn_10 : decode cX11_termIn 10 = .ok (.iaload, 1) := by decide +kernel
theorem dX11_termIn_11 : decode cX11_termIn 11 = .ok (.aload_n 0, 1) := by decide +kernel
theorem dX11_termIn_12 : decode cX11_termIn 12 = .ok (.getfield 118, 3) := by decide +kernel
theorem dX11_termIn_15 : decode cX11_termIn 15 = .ok (.iconst 0, 1) := by decide +kernel
theorem dX11_termIn_16 : decode cX11_termIn 16 = .ok (.iaload, 1) := by decide +kernel
theorem dX11_termIn_17 : decode cX11_termIn 17 = .ok (.aload_n 0, 1) := by decide +kernel
theorem dX11_termIn_18 : decode cX11_termIn 18 = .ok (.getfield 24, 3) := by decide +kernel
theorem dX11_termIn_21 : decode cX11_termIn 21 = .ok (.iconst 0, 1) := by decide +kernel
theorem dX11_termIn_22 : decode cX11_termIn 22 = .ok (.iaload, 1) := by decide +kernel
theorem dX11_termIn_23 : decode cX11_termIn 23 = .ok (.irem, 1) := by decide +kernel
theorem dX11_termIn_24 : decode cX11_termIn 24 = .ok (.isub, 1) := by decide +kernel
theorem dX11_termIn_25 : decode cX11_termIn 25 = .ok (.ireturn, 1) := by decide +kernel
theorem dX11_often_0 : decode cX11_often 0 = .ok (.aload_n 0, 1) := by decide +kernel
theorem dX11_often_1 : decode cX11_often 1 = .ok (.iconst 0, 1) := by decide +kernel
theorem dX11_often_2 : decode cX11_often 2 = .ok (.putfield 151, 3) := by decide +kernel
theorem dX11_often_5 : decode cX11_often 5 = .ok (.aload_n 0, 1) := by decide +kernel
theorem dX11_often_6 : decode cX11_often 6 = .ok (.iload_n 1, 1) := by decide +kernel
theorem dX11_often_7 : decode cX11_often 7 = .ok (.invokevirtual 449, 3) := by decide +kernel
theorem dX11_often_10 : decode cX11_often 10 = .ok (.ifCond .eq 14, 3) := by decide +kernel
theorem dX11_often_13 : decode cX11_often 13 = .ok (.iload_n 2, 1) := by decide +kernel
theorem dX11_often_14 : decode cX11_often 14 = .ok (.iconst 0, 1) := by decide +kernel
theorem dX11_often_15 : decode cX11_often 15 = .ok (.sipush 200, 3) := by decide +kernel
theorem dX11_often_18 : decode cX11_often 18 = .ok (.invokestatic 196, 3) := by decide +kernel
theorem dX11_often_21 : decode cX11_often 21 = .ok (.ifCond .ne 5, 3) := by decide +kernel
theorem dX11_often_24 : decode cX11_often 24 = .ok (.iconst (-1), 1) := by decide +kernel
theorem dX11_often_25 : decode cX11_often 25 = .ok (.ireturn, 1) := by decide +kernel
theorem dX11_often_26 : decode cX11_often 26 = .ok (.iconst 0, 1) := by decide +kernel
theorem dX11_often_27 : decode cX11_often 27 = .ok (.istore_n 3, 1) := by decide +kernel
theorem dX11_often_28 : decode cX11_often 28 = .ok (.iconst 0, 1) := by decide +kernel
theorem dX11_often_29 : decode cX11_often 29 = .ok (.istore 4, 2) := by decide +kernel
theorem dX11_often_31 : decode cX11_often 31 = .ok (.iload 4, 2) := by decide +kernel
theorem dX11_often_33 : decode cX11_often 33 = .ok (.iload_n 2, 1) := by decide +kernel
theorem dX11_often_34 : decode cX11_often 34 = .ok (.if_icmp .ge 27, 3) := by decide +kernel
theorem dX11_often_37 : decode cX11_often 37 = .ok (.iload_n 3, 1) := by decide +kernel
theorem dX11_often_38 : decode cX11_often 38 = .ok (.aload_n 0, 1) := by decide +kernel
theorem dX11_often_39 : decode cX11_often 39 = .ok (.iload 4, 2) := by decide +kernel
theorem dX11_often_41 : decode cX11_often 41 = .ok (.invokevirtual 452, 3) := by decide +kernel
theorem dX11_often_44 : decode cX11_often 44 = .ok (.iload_n 1, 1) := by decide +kernel
theorem dX11_often_45 : decode cX11_often 45 = .ok (.if_icmp .ne 7, 3) := by decide +kernel
theorem dX11_often_48 : decode cX11_often 48 = .ok (.iconst 1, 1) := by decide +kernel
theorem dX11_often_49 : decode cX11_often 49 = .ok (.goto 4, 3) := by decide +kernel
theorem dX11_often_52 : decode cX11_often 52 = .ok (.iconst 0, 1) := by decide +kernel
theorem dX11_often_53 : decode cX11_often 53 = .ok (.iadd, 1) := by decide +kernel
theorem dX11_often_54 : decode cX11_often 54 = .ok (.istore_n 3, 1) := by decide +kernel
theorem dX11_often_55 : decode cX11_often 55 = .ok (.iinc 4 1, 3) := by decide +kernel
theorem dX11_often_58 : decode cX11_often 58 = .ok (.goto (-27), 3) := by decide +kernel
theorem dX11_often_61 : decode cX11_often 61 = .ok (.iload_n 3, 1) := by decide +kernel
theorem dX11_often_62 : decode cX11_often 62 = .ok (.ireturn, 1) := by decide +kernel
theorem dX11_suits_0 : decode cX11_suits 0 = .ok (.iload_n 2, 1) := by decide +kernel
theorem dX11_suits_1 : decode cX11_suits 1 = .ok (.aload_n 0, 1) := by decide +kernel
theorem dX11_suits_2 : decode cX11_suits 2 = .ok (.getfield 479, 3) := by decide +kernel
theorem dX11_suits_5 : decode cX11_suits 5 = .ok (.if_icmp .ge 21, 3) := by decide +kernel
theorem dX11_suits_8 : decode cX11_suits 8 = .ok (.aload_n 0, 1) := by decide +kernel
theorem dX11_suits_9 : decode cX11_suits 9 = .ok (.iload_n 2, 1) := by decide +kernel
theorem dX11_suits_10 : decode cX11_suits 10 = .ok (.invokevirtual 452, 3) := by decide +kernel
theorem dX11_suits_13 : decode cX11_suits 13 = .ok (.aload_n 0, 1) := by decide +kernel
theorem dX11_suits_14 : decode cX11_suits 14 = .ok (.getfield 57, 3) := by decide +kernel
theorem dX11_suits_17 : decode cX11_suits 17 = .ok (.iload_n 1, 1) := by decide +kernel
theorem dX11_suits_18 : decode cX11_suits 18 = .ok (.iaload, 1) := by decide +kernel
theorem dX11_suits_19 : decode cX11_suits 19 = .ok (.if_icmp .ne 7, 3) := by decide +kernel
theorem dX11_suits_22 : decode cX11_suits 22 = .ok (.iconst 1, 1) := by decide +kernel
theorem dX11_suits_23 : decode cX11_suits 23 = .ok (.goto 4, 3) := by decide +kernel
theorem dX11_suits_26 : decode cX11_suits 26 = .ok (.iconst 0, 1) := by decide +kernel
theorem dX11_suits_27 : decode cX11_suits 27 = .ok (.ireturn, 1) := by decide +kernel
theorem dX11_costOf_0 : decode cX11_costOf 0 = .ok (.aload_n 0, 1) := by decide +kernel
theorem dX11_costOf_1 : decode cX11_costOf 1 = .ok (.getfield 30, 3) := by decide +kernel
theorem dX11_costOf_4 : decode cX11_costOf 4 = .ok (.aload_n 0, 1) := by decide +kernel
theorem dX11_costOf_5 : decode cX11_costOf 5 = .ok (.getfield 57, 3) := by decide +kernel
theorem dX11_costOf_8 : decode cX11_costOf 8 = .ok (.iload_n 1, 1) := by decide +kernel
theorem dX11_costOf_9 : decode cX11_costOf 9 = .ok (.iaload, 1) := by decide +kernel
theorem dX11_costOf_10 : decode cX11_costOf 10 = .ok (.iaload, 1) := by decide +kernel
theorem dX11_costOf_11 : decode cX11_costOf 11 = .ok (.aload_n 0, 1) := by decide +kernel
theorem dX11_costOf_12 : decode cX11_costOf 12 = .ok (.getfield 42, 3) := by decide +kernel
theorem dX11_costOf_15 : decode cX11_costOf 15 = .ok (.aload_n 0, 1) := by decide +kernel
theorem dX11_costOf_16 : decode cX11_costOf 16 = .ok (.getfield 54, 3) := by decide +kernel
theorem dX11_costOf_19 : decode cX11_costOf 19 = .ok (.iload_n 1, 1) := by decide +kernel
theorem dX11_costOf_20 : decode cX11_costOf 20 = .ok (.iaload, 1) := by decide +kernel
theorem dX11_costOf_21 : decode cX11_costOf 21 = .ok (.iaload, 1) := by decide +kernel
theorem dX11_costOf_22 : decode cX11_costOf 22 = .ok (.imul, 1) := by decide +kernel
theorem dX11_costOf_23 : decode cX11_costOf 23 = .ok (.ireturn, 1) := by decide +kernel
theorem dX11_layPlan_0 : decode cX11_layPlan 0 = .ok (.iconst 0, 1) := by decide +kernel
theorem dX11_layPlan_1 : decode cX11_layPlan 1 = .ok (.istore_n 1, 1) := by decide +kernel
theorem dX11_layPlan_2 : decode cX11_layPlan 2 = .ok (.iload_n 1, 1) := by decide +kernel
theorem dX11_layPlan_3 : decode cX11_layPlan 3 = .ok (.sipush 256, 3) := by decide +kernel
theorem dX11_layPlan_6 : decode cX11_layPlan 6 = .ok (.if_icmp .ge 41, 3) := by decide +kernel
theorem dX11_layPlan_9 : decode cX11_layPlan 9 = .ok (.aload_n 0, 1) := by decide +kernel
theorem dX11_layPlan_10 : decode cX11_layPlan 10 = .ok (.getfield 121, 3) := by decide +kernel
theorem dX11_layPlan_13 : decode cX11_layPlan 13 = .ok (.sipush 256, 3) := by decide +kernel
theorem dX11_layPlan_16 : decode cX11_layPlan 16 = .ok (.aload_n 0, 1) := by decide +kernel
theorem dX11_layPlan_17 : decode cX11_layPlan 17 = .ok (.getfield 240, 3) := by decide +kernel
theorem dX11_layPlan_20 : decode cX11_layPlan 20 = .ok (.imul, 1) := by decide +kernel
theorem dX11_layPlan_21 : decode cX11_layPlan 21 = .ok (.iload_n 1, 1) := by decide +kernel
theorem dX11_layPlan_22 : decode cX11_layPlan 22 = .ok (.iadd, 1) := by decide +kernel
theorem dX11_layPlan_23 : decode cX11_layPlan 23 = .ok (.iconst 0, 1) := by decide +kernel
theorem dX11_layPlan_24 : decode cX11_layPlan 24 = .ok (.iastore, 1) := by decide +kernel
theorem dX11_layPlan_25 : decode cX11_layPlan 25 = .ok (.aload_n 0, 1) := by decide +kernel
theorem dX11_layPlan_26 : decode cX11_layPlan 26 = .ok (.getfield 124, 3) := by decide +kernel
theorem dX11_layPlan_29 : decode cX11_layPlan 29 = .ok (.sipush 256, 3) := by decide +kernel
theorem dX11_layPlan_32 : decode cX11_layPlan 32 = .ok (.aload_n 0, 1) := by decide +kernel
theorem dX11_layPlan_33 : decode cX11_layPlan 33 = .ok (.getfield 240, 3) := by decide +kernel
theorem dX11_layPlan_36 : decode cX11_layPlan 36 = .ok (.imul, 1) := by decide +kernel
theorem dX11_layPlan_37 : decode cX11_layPlan 37 = .ok (.iload_n 1, 1) := by decide +kernel
theorem dX11_layPlan_38 : decode cX11_layPlan 38 = .ok (.iadd, 1) := by decide +kernel
theorem dX11_layPlan_39 : decode cX11_layPlan 39 = .ok (.iconst 0, 1) := by decide +kernel
theorem dX11_layPlan_40 : decode cX11_layPlan 40 = .ok (.iastore, 1) := by decide +kernel
theorem dX11_layPlan_41 : decode cX11_layPlan 41 = .ok (.iinc 1 1, 3) := by decide +kernel
theorem dX11_layPlan_44 : decode cX11_layPlan 44 = .ok (.goto (-42), 3) := by decide +kernel
theorem dX11_layPlan_47 : decode cX11_layPlan 47 = .ok (.aload_n 0, 1) := by decide +kernel
theorem dX11_layPlan_48 : decode cX11_layPlan 48 = .ok (.getfield 240, 3) := by decide +kernel
theorem dX11_layPlan_51 : decode cX11_layPlan 51 = .ok (.iconst 1, 1) := by decide +kernel
theorem dX11_layPlan_52 : decode cX11_layPlan 52 = .ok (.isub, 1) := by decide +kernel
theorem dX11_layPlan_53 : decode cX11_layPlan 53 = .ok (.istore_n 1, 1) := by decide +kernel
theorem dX11_layPlan_54 : decode cX11_layPlan 54 = .ok (.iload_n 1, 1) := by decide +kernel
theorem dX11_layPlan_55 : decode cX11_layPlan 55 = .ok (.ifCond .lt 206, 3) := by decide +kernel
theorem dX11_layPlan_58 : decode cX11_layPlan 58 = .ok (.iconst 0, 1) := by decide +kernel
theorem dX11_layPlan_59 : decode cX11_layPlan 59 = .ok (.istore_n 2, 1) := by decide +kernel
theorem dX11_layPlan_60 : decode cX11_layPlan 60 = .ok (.iload_n 2, 1) := by decide +kernel
theorem dX11_layPlan_61 : decode cX11_layPlan 61 = .ok (.sipush 256, 3) := by decide +kernel
theorem dX11_layPlan_64 : decode cX11_layPlan 64 = .ok (.if_icmp .ge 191, 3) := by decide +kernel
theorem dX11_layPlan_67 : decode cX11_layPlan 67 = .ok (.sipush 256, 3) := by decide +kernel
theorem dX11_layPlan_70 : decode cX11_layPlan 70 = .ok (.iload_n 1, 1) := by decide +kernel
theorem dX11_layPlan_71 : decode cX11_layPlan 71 = .ok (.imul, 1) := by decide +kernel
theorem dX11_layPlan_72 : decode cX11_layPlan 72 = .ok (.iload_n 2, 1) := by decide +kernel
theorem dX11_layPlan_73 : decode cX11_layPlan 73 = .ok (.iadd, 1) := by decide +kernel
theorem dX11_layPlan_74 : decode cX11_layPlan 74 = .ok (.istore_n 3, 1) := by decide +kernel
theorem dX11_layPlan_75 : decode cX11_layPlan 75 = .ok (.aload_n 0, 1) := by decide +kernel
theorem dX11_layPlan_76 : decode cX11_layPlan 76 = .ok (.getfield 121, 3) := by decide +kernel
theorem dX11_layPlan_79 : decode cX11_layPlan 79 = .ok (.iload_n 3, 1) := by decide +kernel
theorem dX11_layPlan_80 : decode cX11_layPlan 80 = .ok (.aload_n 0, 1) := by decide +kernel
theorem dX11_layPlan_81 : decode cX11_layPlan 81 = .ok (.getfield 121, 3) := by decide +kernel
theorem dX11_layPlan_84 : decode cX11_layPlan 84 = .ok (.iload_n 3, 1) := by decide +kernel
theorem dX11_layPlan_85 : decode cX11_layPlan 85 = .ok (.sipush 256, 3) := by decide +kernel
theorem dX11_layPlan_88 : decode cX11_layPlan 88 = .ok (.iadd, 1) := by decide +kernel
theorem dX11_layPlan_89 : decode cX11_layPlan 89 = .ok (.iaload, 1) := by decide +kernel
theorem dX11_layPlan_90 : decode cX11_layPlan 90 = .ok (.iastore, 1) := by decide +kernel
theorem dX11_layPlan_91 : decode cX11_layPlan 91 = .ok (.aload_n 0, 1) := by decide +kernel
theorem dX11_layPlan_92 : decode cX11_layPlan 92 = .ok (.getfield 124, 3) := by decide +kernel
theorem dX11_layPlan_95 : decode cX11_layPlan 95 = .ok (.iload_n 3, 1) := by decide +kernel
theorem dX11_layPlan_96 : decode cX11_layPlan 96 = .ok (.aload_n 0, 1) := by decide +kernel
theorem dX11_layPlan_97 : decode cX11_layPlan 97 = .ok (.getfield 124, 3) := by decide +kernel
theorem dX11_layPlan_100 : decode cX11_layPlan 100 = .ok (.iload_n 3, 1) := by decide +kernel
theorem dX11_layPlan_101 : decode cX11_layPlan 101 = .ok (.sipush 256, 3) := by decide +kernel
theorem dX11_layPlan_104 : decode cX11_layPlan 104 = .ok (.iadd, 1) := by decide +kernel
theorem dX11_layPlan_105 : decode cX11_layPlan 105 = .ok (.iaload, 1) := by decide +kernel
theorem dX11_layPlan_106 : decode cX11_layPlan 106 = .ok (.iastore, 1) := by decide +kernel
theorem dX11_layPlan_107 : decode cX11_layPlan 107 = .ok (.iconst 0, 1) := by decide +kernel
theorem dX11_layPlan_108 : decode cX11_layPlan 108 = .ok (.istore 4, 2) := by decide +kernel
theorem dX11_layPlan_110 : decode cX11_layPlan 110 = .ok (.iload 4, 2) := by decide +kernel
theorem dX11_layPlan_112 : decode cX11_layPlan 112 = .ok (.bipush 8, 2) := by decide +kernel
theorem dX11_layPlan_114 : decode cX11_layPlan 114 = .ok (.if_icmp .ge 135, 3) := by decide +kernel
theorem dX11_layPlan_117 : decode cX11_layPlan 117 = .ok (.iload_n 2, 1) := by decide +kernel
theorem dX11_layPlan_118 : decode cX11_layPlan 118 = .ok (.iload 4, 2) := by decide +kernel
theorem dX11_layPlan_120 : decode cX11_layPlan 120 = .ok (.invokestatic 430, 3) := by decide +kernel
theorem dX11_layPlan_123 : decode cX11_layPlan 123 = .ok (.ifCond .ne 120, 3) := by decide +kernel
theorem dX11_layPlan_126 : decode cX11_layPlan 126 = .ok (.aload_n 0, 1) := by decide +kernel
theorem dX11_layPlan_127 : decode cX11_layPlan 127 = .ok (.iload_n 1, 1) := by decide +kernel
theorem dX11_layPlan_128 : decode cX11_layPlan 128 = .ok (.iload 4, 2) := by decide +kernel
theorem dX11_layPlan_130 : decode cX11_layPlan 130 = .ok (.invokevirtual 482, 3) := by decide +kernel
theorem dX11_layPlan_133 : decode cX11_layPlan 133 = .ok (.ifCond .ne 6, 3) := by decide +kernel
theorem dX11_layPlan_136 : decode cX11_layPlan 136 = .ok (.goto 107, 3) := by decide +kernel
theorem dX11_layPlan_139 : decode cX11_layPlan 139 = .ok (.sipush 256, 3) := by decide +kernel
theorem dX11_layPlan_142 : decode cX11_layPlan 142 = .ok (.iload_n 1, 1) := by decide +kernel
theorem dX11_layPlan_143 : decode cX11_layPlan 143 = .ok (.iconst 1, 1) := by decide +kernel
theorem dX11_layPlan_144 : decode cX11_layPlan 144 = .ok (.iadd, 1) := by decide +kernel
theorem dX11_layPlan_145 : decode cX11_layPlan 145 = .ok (.imul, 1) := by decide +kernel
theorem dX11_layPlan_146 : decode cX11_layPlan 146 = .ok (.iload_n 2, 1) := by decide +kernel
theorem dX11_layPlan_147 : decode cX11_layPlan 147 = .ok (.iconst 1, 1) := by decide +kernel
theorem dX11_layPlan_148 : decode cX11_layPlan 148 = .ok (.iload 4, 2) := by decide +kernel
theorem dX11_layPlan_150 : decode cX11_layPlan 150 = .ok (.ishl, 1) := by decide +kernel
theorem dX11_layPlan_151 : decode cX11_layPlan 151 = .ok (.ior, 1) := by decide +kernel
theorem dX11_layPlan_152 : decode cX11_layPlan 152 = .ok (.iadd, 1) := by decide +kernel
theorem dX11_layPlan_153 : decode cX11_layPlan 153 = .ok (.istore 5, 2) := by decide +kernel
theorem dX11_layPlan_155 : decode cX11_layPlan 155 = .ok (.aload_n 0, 1) := by decide +kernel
theorem dX11_layPlan_156 : decode cX11_layPlan 156 = .ok (.getfield 124, 3) := by decide +kernel
theorem dX11_layPlan_159 : decode cX11_layPlan 159 = .ok (.iload 5, 2) := by decide +kernel
theorem dX11_layPlan_161 : decode cX11_layPlan 161 = .ok (.iaload, 1) := by decide +kernel
theorem dX11_layPlan_162 : decode cX11_layPlan 162 = .ok (.aload_n 0, 1) := by decide +kernel
theorem dX11_layPlan_163 : decode cX11_layPlan 163 = .ok (.iload_n 1, 1) := by decide +kernel
theorem dX11_layPlan_164 : decode cX11_layPlan 164 = .ok (.invokevirtual 485, 3) := by decide +kernel
theorem dX11_layPlan_167 : decode cX11_layPlan 167 = .ok (.iadd, 1) := by decide +kernel
theorem dX11_layPlan_168 : decode cX11_layPlan 168 = .ok (.istore 6, 2) := by decide +kernel
theorem dX11_layPlan_170 : decode cX11_layPlan 170 = .ok (.aload_n 0, 1) := by decide +kernel
theorem dX11_layPlan_171 : decode cX11_layPlan 171 = .ok (.getfield 121, 3) := by decide +kernel
theorem dX11_layPlan_174 : decode cX11_layPlan 174 = .ok (.iload 5, 2) := by decide +kernel
theorem dX11_layPlan_176 : decode cX11_layPlan 176 = .ok (.iaload, 1) := by decide +kernel
theorem dX11_layPlan_177 : decode cX11_layPlan 177 = .ok (.iconst 1, 1) := by decide +kernel
theorem dX11_layPlan_178 : decode cX11_layPlan 178 = .ok (.iadd, 1) := by decide +kernel
theorem dX11_layPlan_179 : decode cX11_layPlan 179 = .ok (.aload_n 0, 1) := by decide +kernel
theorem dX11_layPlan_180 : decode cX11_layPlan 180 = .ok (.getfield 121, 3) := by decide +kernel
theorem dX11_layPlan_183 : decode cX11_layPlan 183 = .ok (.iload_n 3, 1) := by decide +kernel
theorem dX11_layPlan_184 : decode cX11_layPlan 184 = .ok (.iaload, 1) := by decide +kernel
theorem dX11_layPlan_185 : decode cX11_layPlan 185 = .ok (.if_icmp .lt 58, 3) := by decide +kernel
theorem dX11_layPlan_188 : decode cX11_layPlan 188 = .ok (.aload_n 0, 1) := by decide +kernel
theorem dX11_layPlan_189 : decode cX11_layPlan 189 = .ok (.getfield 121, 3) := by decide +kernel
theorem dX11_layPlan_192 : decode cX11_layPlan 192 = .ok (.iload 5, 2) := by decide +kernel
theorem dX11_layPlan_194 : decode cX11_layPlan 194 = .ok (.iaload, 1) := by decide +kernel
theorem dX11_layPlan_195 : decode cX11_layPlan 195 = .ok (.iconst 1, 1) := by decide +kernel
theorem dX11_layPlan_196 : decode cX11_layPlan 196 = .ok (.iadd, 1) := by decide +kernel
theorem dX11_layPlan_197 : decode cX11_layPlan 197 = .ok (.aload_n 0, 1) := by decide +kernel
theorem dX11_layPlan_198 : decode cX11_layPlan 198 = .ok (.getfield 121, 3) := by decide +kernel
theorem dX11_layPlan_201 : decode cX11_layPlan 201 = .ok (.iload_n 3, 1) := by decide +kernel
theorem dX11_layPlan_202 : decode cX11_layPlan 202 = .ok (.iaload, 1) := by decide +kernel
theorem dX11_layPlan_203 : decode cX11_layPlan 203 = .ok (.if_icmp .ne 17, 3) := by decide +kernel
theorem dX11_layPlan_206 : decode cX11_layPlan 206 = .ok (.iload 6, 2) := by decide +kernel
theorem dX11_layPlan_208 : decode cX11_layPlan 208 = .ok (.aload_n 0, 1) := by decide +kernel
theorem dX11_layPlan_209 : decode cX11_layPlan 209 = .ok (.getfield 124, 3) := by decide +kernel
theorem dX11_layPlan_212 : decode cX11_layPlan 212 = .ok (.iload_n 3, 1) := by decide +kernel
theorem dX11_layPlan_213 : decode cX11_layPlan 213 = .ok (.iaload, 1) := by decide +kernel
theorem dX11_layPlan_214 : decode cX11_layPlan 214 = .ok (.if_icmp .lt 6, 3) := by decide +kernel
theorem dX11_layPlan_217 : decode cX11_layPlan 217 = .ok (.goto 26, 3) := by decide +kernel
theorem dX11_layPlan_220 : decode cX11_layPlan 220 = .ok (.aload_n 0, 1) := by decide +kernel
theorem dX11_layPlan_221 : decode cX11_layPlan 221 = .ok (.getfield 121, 3) := by decide +kernel
theorem dX11_layPlan_224 : decode cX11_layPlan 224 = .ok (.iload_n 3, 1) := by decide +kernel
theorem dX11_layPlan_225 : decode cX11_layPlan 225 = .ok (.aload_n 0, 1) := by decide +kernel
theorem dX11_layPlan_226 : decode cX11_layPlan 226 = .ok (.getfield 121, 3) := by decide +kernel
theorem dX11_layPlan_229 : decode cX11_layPlan 229 = .ok (.iload 5, 2) := by decide +kernel
theorem dX11_layPlan_231 : decode cX11_layPlan 231 = .ok (.iaload, 1) := by decide +kernel
theorem dX11_layPlan_232 : decode cX11_layPlan 232 = .ok (.iconst 1, 1) := by decide +kernel
theorem dX11_layPlan_233 : decode cX11_layPlan 233 = .ok (.iadd, 1) := by decide +kernel
theorem dX11_layPlan_234 : decode cX11_layPlan 234 = .ok (.iastore, 1) := by decide +kernel
theorem dX11_layPlan_235 : decode cX11_layPlan 235 = .ok (.aload_n 0, 1) := by decide +kernel
theorem dX11_layPlan_236 : decode cX11_layPlan 236 = .ok (.getfield 124, 3) := by decide +kernel
theorem dX11_layPlan_239 : decode cX11_layPlan 239 = .ok (.iload_n 3, 1) := by decide +kernel
theorem dX11_layPlan_240 : decode cX11_layPlan 240 = .ok (.iload 6, 2) := by decide +kernel
theorem dX11_layPlan_242 : decode cX11_layPlan 242 = .ok (.iastore, 1) := by decide +kernel
theorem dX11_layPlan_243 : decode cX11_layPlan 243 = .ok (.iinc 4 1, 3) := by decide +kernel
theorem dX11_layPlan_246 : decode cX11_layPlan 246 = .ok (.goto (-136), 3) := by decide +kernel
theorem dX11_layPlan_249 : decode cX11_layPlan 249 = .ok (.iinc 2 1, 3) := by decide +kernel
theorem dX11_layPlan_252 : decode cX11_layPlan 252 = .ok (.goto (-192), 3) := by decide +kernel
theorem dX11_layPlan_255 : decode cX11_layPlan 255 = .ok (.iinc 1 (-1), 3) := by decide +kernel
theorem dX11_layPlan_258 : decode cX11_layPlan 258 = .ok (.goto (-204), 3) := by decide +kernel
theorem dX11_layPlan_261 : decode cX11_layPlan 261 = .ok (.return_, 1) := by decide +kernel
theorem dX11_dayFor_0 : decode cX11_dayFor 0 = .ok (.sipush 256, 3) := by decide +kernel
theorem dX11_dayFor_3 : decode cX11_dayFor 3 = .ok (.iload_n 1, 1) := by decide +kernel
theorem dX11_dayFor_4 : decode cX11_dayFor 4 = .ok (.imul, 1) := by decide +kernel
theorem dX11_dayFor_5 : decode cX11_dayFor 5 = .ok (.iload_n 2, 1) := by decide +kernel
theorem dX11_dayFor_6 : decode cX11_dayFor 6 = .ok (.iadd, 1) := by decide +kernel
theorem dX11_dayFor_7 : decode cX11_dayFor 7 = .ok (.istore_n 3, 1) := by decide +kernel
theorem dX11_dayFor_8 : decode cX11_dayFor 8 = .ok (.iconst 0, 1) := by decide +kernel
theorem dX11_dayFor_9 : decode cX11_dayFor 9 = .ok (.istore 4, 2) := by decide +kernel
theorem dX11_dayFor_11 : decode cX11_dayFor 11 = .ok (.iload 4, 2) := by decide +kernel
theorem dX11_dayFor_13 : decode cX11_dayFor 13 = .ok (.bipush 8, 2) := by decide +kernel
theorem dX11_dayFor_15 : decode cX11_dayFor 15 = .ok (.if_icmp .ge 90, 3) := by decide +kernel
theorem dX11_dayFor_18 : decode cX11_dayFor 18 = .ok (.iload_n 2, 1) := by decide +kernel
theorem dX11_dayFor_19 : decode cX11_dayFor 19 = .ok (.iload 4, 2) := by decide +kernel
theorem dX11_dayFor_21 : decode cX11_dayFor 21 = .ok (.invokestatic 430, 3) := by decide +kernel
theorem dX11_dayFor_24 : decode cX11_dayFor 24 = .ok (.ifCond .ne 75, 3) := by decide +kernel
theorem dX11_dayFor_27 : decode cX11_dayFor 27 = .ok (.aload_n 0, 1) := by decide +kernel
theorem dX11_dayFor_28 : decode cX11_dayFor 28 = .ok (.iload_n 1, 1) := by decide +kernel
theorem dX11_dayFor_29 : decode cX11_dayFor 29 = .ok (.iload 4, 2) := by decide +kernel
theorem dX11_dayFor_31 : decode cX11_dayFor 31 = .ok (.invokevirtual 482, 3) := by decide +kernel
theorem dX11_dayFor_34 : decode cX11_dayFor 34 = .ok (.ifCond .ne 6, 3) := by decide +kernel
theorem dX11_dayFor_37 : decode cX11_dayFor 37 = .ok (.goto 62, 3) := by decide +kernel
theorem dX11_dayFor_40 : decode cX11_dayFor 40 = .ok (.sipush 256, 3) := by decide +kernel
theorem dX11_dayFor_43 : decode cX11_dayFor 43 = .ok (.iload_n 1, 1) := by decide +kernel
theorem dX11_dayFor_44 : decode cX11_dayFor 44 = .ok (.iconst 1, 1) := by decide +kernel
theorem dX11_dayFor_45 : decode cX11_dayFor 45 = .ok (.iadd, 1) := by decide +kernel
theorem dX11_dayFor_46 : decode cX11_dayFor 46 = .ok (.imul, 1) := by decide +kernel
theorem dX11_dayFor_47 : decode cX11_dayFor 47 = .ok (.iload_n 2, 1) := by decide +kernel
theorem dX11_dayFor_48 : decode cX11_dayFor 48 = .ok (.iconst 1, 1) := by decide +kernel
theorem dX11_dayFor_49 : decode cX11_dayFor 49 = .ok (.iload 4, 2) := by decide +kernel
theorem dX11_dayFor_51 : decode cX11_dayFor 51 = .ok (.ishl, 1) := by decide +kernel
theorem dX11_dayFor_52 : decode cX11_dayFor 52 = .ok (.ior, 1) := by decide +kernel
theorem dX11_dayFor_53 : decode cX11_dayFor 53 = .ok (.iadd, 1) := by decide +kernel
theorem dX11_dayFor_54 : decode cX11_dayFor 54 = .ok (.istore 5, 2) := by decide +kernel
theorem dX11_dayFor_56 : decode cX11_dayFor 56 = .ok (.aload_n 0, 1) := by decide +kernel
theorem dX11_dayFor_57 : decode cX11_dayFor 57 = .ok (.getfield 121, 3) := by decide +kernel
theorem dX11_dayFor_60 : decode cX11_dayFor 60 = .ok (.iload 5, 2) := by decide +kernel
theorem dX11_dayFor_62 : decode cX11_dayFor 62 = .ok (.iaload, 1) := by decide +kernel
theorem dX11_dayFor_63 : decode cX11_dayFor 63 = .ok (.iconst 1, 1) := by decide +kernel
theorem dX11_dayFor_64 : decode cX11_dayFor 64 = .ok (.iadd, 1) := by decide +kernel
theorem dX11_dayFor_65 : decode cX11_dayFor 65 = .ok (.aload_n 0, 1) := by decide +kernel
theorem dX11_dayFor_66 : decode cX11_dayFor 66 = .ok (.getfield 121, 3) := by decide +kernel
theorem dX11_dayFor_69 : decode cX11_dayFor 69 = .ok (.iload_n 3, 1) := by decide +kernel
theorem dX11_dayFor_70 : decode cX11_dayFor 70 = .ok (.iaload, 1) := by decide +kernel
theorem dX11_dayFor_71 : decode cX11_dayFor 71 = .ok (.if_icmp .ne 28, 3) := by decide +kernel
theorem dX11_dayFor_74 : decode cX11_dayFor 74 = .ok (.aload_n 0, 1) := by decide +kernel
theorem dX11_dayFor_75 : decode cX11_dayFor 75 = .ok (.getfield 124, 3) := by decide +kernel
theorem dX11_dayFor_78 : decode cX11_dayFor 78 = .ok (.iload 5, 2) := by decide +kernel
theorem dX11_dayFor_80 : decode cX11_dayFor 80 = .ok (.iaload, 1) := by decide +kernel
theorem dX11_dayFor_81 : decode cX11_dayFor 81 = .ok (.aload_n 0, 1) := by decide +kernel
theorem dX11_dayFor_82 : decode cX11_dayFor 82 = .ok (.iload_n 1, 1) := by decide +kernel
theorem dX11_dayFor_83 : decode cX11_dayFor 83 = .ok (.invokevirtual 485, 3) := by decide +kernel
theorem dX11_dayFor_86 : decode cX11_dayFor 86 = .ok (.iadd, 1) := by decide +kernel
theorem dX11_dayFor_87 : decode cX11_dayFor 87 = .ok (.aload_n 0, 1) := by decide +kernel
theorem dX11_dayFor_88 : decode cX11_dayFor 88 = .ok (.getfield 124, 3) := by decide +kernel
theorem dX11_dayFor_91 : decode cX11_dayFor 91 = .ok (.iload_n 3, 1) := by decide +kernel
theorem dX11_dayFor_92 : decode cX11_dayFor 92 = .ok (.iaload, 1) := by decide +kernel
theorem dX11_dayFor_93 : decode cX11_dayFor 93 = .ok (.if_icmp .ne 6, 3) := by decide +kernel
theorem dX11_dayFor_96 : decode cX11_dayFor 96 = .ok (.iload 4, 2) := by decide +kernel
theorem dX11_dayFor_98 : decode cX11_dayFor 98 = .ok (.ireturn, 1) := by decide +kernel
theorem dX11_dayFor_99 : decode cX11_dayFor 99 = .ok (.iinc 4 1, 3) := by decide +kernel
theorem dX11_dayFor_102 : decode cX11_dayFor 102 = .ok (.goto (-91), 3) := by decide +kernel
theorem dX11_dayFor_105 : decode cX11_dayFor 105 = .ok (.iconst (-1), 1) := by decide +kernel
theorem dX11_dayFor_106 : decode cX11_dayFor 106 = .ok (.ireturn, 1) := by decide +kernel
theorem dX11_plan_0 : decode cX11_plan 0 = .ok (.aload_n 0, 1) := by decide +kernel
theorem dX11_plan_1 : decode cX11_plan 1 = .ok (.iconst 0, 1) := by decide +kernel
theorem dX11_plan_2 : decode cX11_plan 2 = .ok (.putfield 151, 3) := by decide +kernel
theorem dX11_plan_5 : decode cX11_plan 5 = .ok (.iload_n 1, 1) := by decide +kernel
theorem dX11_plan_6 : decode cX11_plan 6 = .ok (.iconst 0, 1) := by decide +kernel
theorem dX11_plan_7 : decode cX11_plan 7 = .ok (.bipush 8, 2) := by decide +kernel
theorem dX11_plan_9 : decode cX11_plan 9 = .ok (.invokestatic 196, 3) := by decide +kernel
theorem dX11_plan_12 : decode cX11_plan 12 = .ok (.ifCond .eq 13, 3) := by decide +kernel
theorem dX11_plan_15 : decode cX11_plan 15 = .ok (.iload_n 2, 1) := by decide +kernel
theorem dX11_plan_16 : decode cX11_plan 16 = .ok (.iconst 0, 1) := by decide +kernel
theorem dX11_plan_17 : decode cX11_plan 17 = .ok (.bipush 7, 2) := by decide +kernel
theorem dX11_plan_19 : decode cX11_plan 19 = .ok (.invokestatic 196, 3) := by decide +kernel
theorem dX11_plan_22 : decode cX11_plan 22 = .ok (.ifCond .ne 5, 3) := by decide +kernel
theorem dX11_plan_25 : decode cX11_plan 25 = .ok (.iconst (-1), 1) := by decide +kernel
theorem dX11_plan_26 : decode cX11_plan 26 = .ok (.ireturn, 1) := by decide +kernel
theorem dX11_plan_27 : decode cX11_plan 27 = .ok (.iload_n 2, 1) := by decide +kernel
theorem dX11_plan_28 : decode cX11_plan 28 = .ok (.bipush 6, 2) := by decide +kernel
theorem dX11_plan_30 : decode cX11_plan 30 = .ok (.if_icmp .ge 14, 3) := by decide +kernel
theorem dX11_plan_33 : decode cX11_plan 33 = .ok (.iload_n 2, 1) := by decide +kernel
theorem dX11_plan_34 : decode cX11_plan 34 = .ok (.aload_n 0, 1) := by decide +kernel
theorem dX11_plan_35 : decode cX11_plan 35 = .ok (.getfield 240, 3) := by decide +kernel
theorem dX11_plan_38 : decode cX11_plan 38 = .ok (.if_icmp .lt 6, 3) := by decide +kernel
theorem dX11_plan_41 : decode cX11_plan 41 = .ok (.bipush (-2), 2) := by decide +kernel
theorem dX11_plan_43 : decode cX11_plan 43 = .ok (.ireturn, 1) := by decide +kernel
theorem dX11_plan_44 : decode cX11_plan 44 = .ok (.aload_n 0, 1) := by decide +kernel
theorem dX11_plan_45 : decode cX11_plan 45 = .ok (.iload_n 1, 1) := by decide +kernel
theorem dX11_plan_46 : decode cX11_plan 46 = .ok (.putfield 479, 3) := by decide +kernel
theorem dX11_plan_49 : decode cX11_plan 49 = .ok (.aload_n 0, 1) := by decide +kernel
theorem dX11_plan_50 : decode cX11_plan 50 = .ok (.invokevirtual 488, 3) := by decide +kernel
theorem dX11_plan_53 : decode cX11_plan 53 = .ok (.iload_n 2, 1) := by decide +kernel
theorem dX11_plan_54 : decode cX11_plan 54 = .ok (.iconst 5, 1) := by decide +kernel
theorem dX11_plan_55 : decode cX11_plan 55 = .ok (.if_icmp .le 25, 3) := by decide +kernel
theorem dX11_plan_58 : decode cX11_plan 58 = .ok (.iload_n 2, 1) := by decide +kernel
theorem dX11_plan_59 : decode cX11_plan 59 = .ok (.bipush 6, 2) := by decide +kernel
theorem dX11_plan_61 : decode cX11_plan 61 = .ok (.if_icmp .ne 12, 3) := by decide +kernel
theorem dX11_plan_64 : decode cX11_plan 64 = .ok (.aload_n 0, 1) := by decide +kernel
theorem dX11_plan_65 : decode cX11_plan 65 = .ok (.getfield 121, 3) := by decide +kernel
theorem dX11_plan_68 : decode cX11_plan 68 = .ok (.iconst 0, 1) := by decide +kernel
theorem dX11_plan_69 : decode cX11_plan 69 = .ok (.iaload, 1) := by decide +kernel
theorem dX11_plan_70 : decode cX11_plan 70 = .ok (.goto 9, 3) := by decide +kernel
theorem dX11_plan_73 : decode cX11_plan 73 = .ok (.aload_n 0, 1) := by decide +kernel
theorem dX11_plan_74 : decode cX11_plan 74 = .ok (.getfield 124, 3) := by decide +kernel
theorem dX11_plan_77 : decode cX11_plan 77 = .ok (.iconst 0, 1) := by decide +kernel
theorem dX11_plan_78 : decode cX11_plan 78 = .ok (.iaload, 1) := by decide +kernel
theorem dX11_plan_79 : decode cX11_plan 79 = .ok (.ireturn, 1) := by decide +kernel
theorem dX11_plan_80 : decode cX11_plan 80 = .ok (.iconst 0, 1) := by decide +kernel
theorem dX11_plan_81 : decode cX11_plan 81 = .ok (.istore_n 3, 1) := by decide +kernel
theorem dX11_plan_82 : decode cX11_plan 82 = .ok (.iconst 0, 1) := by decide +kernel
theorem dX11_plan_83 : decode cX11_plan 83 = .ok (.istore 4, 2) := by decide +kernel
theorem dX11_plan_85 : decode cX11_plan 85 = .ok (.iload 4, 2) := by decide +kernel
theorem dX11_plan_87 : decode cX11_plan 87 = .ok (.iload_n 2, 1) := by decide +kernel
theorem dX11_plan_88 : decode cX11_plan 88 = .ok (.if_icmp .ge 34, 3) := by decide +kernel
theorem dX11_plan_91 : decode cX11_plan 91 = .ok (.aload_n 0, 1) := by decide +kernel
theorem dX11_plan_92 : decode cX11_plan 92 = .ok (.iload 4, 2) := by decide +kernel
theorem dX11_plan_94 : decode cX11_plan 94 = .ok (.iload_n 3, 1) := by decide +kernel
theorem dX11_plan_95 : decode cX11_plan 95 = .ok (.invokevirtual 491, 3) := by decide +kernel
theorem dX11_plan_98 : decode cX11_plan 98 = .ok (.istore 5, 2) := by decide +kernel
theorem dX11_plan_100 : decode cX11_plan 100 = .ok (.iload_n 3, 1) := by decide +kernel
theorem dX11_plan_101 : decode cX11_plan 101 = .ok (.iload 5, 2) := by decide +kernel
theorem dX11_plan_103 : decode cX11_plan 103 = .ok (.ifCond .ge 7, 3) := by decide +kernel
theorem dX11_plan_106 : decode cX11_plan 106 = .ok (.iconst 0, 1) := by decide +kernel
theorem dX11_plan_107 : decode cX11_plan 107 = .ok (.goto 7, 3) := by decide +kernel
theorem dX11_plan_110 : decode cX11_plan 110 = .ok (.iconst 1, 1) := by decide +kernel
theorem dX11_plan_111 : decode cX11_plan 111 = .ok (.iload 5, 2) := by decide +kernel
theorem dX11_plan_113 : decode cX11_plan 113 = .ok (.ishl, 1) := by decide +kernel
theorem dX11_plan_114 : decode cX11_plan 114 = .ok (.ior, 1) := by decide +kernel
theorem dX11_plan_115 : decode cX11_plan 115 = .ok (.istore_n 3, 1) := by decide +kernel
theorem dX11_plan_116 : decode cX11_plan 116 = .ok (.iinc 4 1, 3) := by decide +kernel
theorem dX11_plan_119 : decode cX11_plan 119 = .ok (.goto (-34), 3) := by decide +kernel
theorem dX11_plan_122 : decode cX11_plan 122 = .ok (.aload_n 0, 1) := by decide +kernel
theorem dX11_plan_123 : decode cX11_plan 123 = .ok (.iload_n 2, 1) := by decide +kernel
theorem dX11_plan_124 : decode cX11_plan 124 = .ok (.iload_n 3, 1) := by decide +kernel
theorem dX11_plan_125 : decode cX11_plan 125 = .ok (.invokevirtual 491, 3) := by decide +kernel
theorem dX11_plan_128 : decode cX11_plan 128 = .ok (.istore 4, 2) := by decide +kernel
theorem dX11_plan_130 : decode cX11_plan 130 = .ok (.iload 4, 2) := by decide +kernel
theorem dX11_plan_132 : decode cX11_plan 132 = .ok (.ifCond .ge 8, 3) := by decide +kernel
theorem dX11_plan_135 : decode cX11_plan 135 = .ok (.bipush (-2), 2) := by decide +kernel
theorem dX11_plan_137 : decode cX11_plan 137 = .ok (.goto 5, 3) := by decide +kernel
theorem dX11_plan_140 : decode cX11_plan 140 = .ok (.iload 4, 2) := by decide +kernel
theorem dX11_plan_142 : decode cX11_plan 142 = .ok (.ireturn, 1) := by decide +kernel
theorem dX11_shared_0 : decode cX11_shared 0 = .ok (.lload_n 2, 1) := by decide +kernel
theorem dX11_shared_1 : decode cX11_shared 1 = .ok (.lconst 0, 1) := by decide +kernel
theorem dX11_shared_2 : decode cX11_shared 2 = .ok (.lcmp, 1) := by decide +kernel
theorem dX11_shared_3 : decode cX11_shared 3 = .ok (.ifCond .eq 16, 3) := by decide +kernel
theorem dX11_shared_6 : decode cX11_shared 6 = .ok (.lload_n 0, 1) := by decide +kernel
theorem dX11_shared_7 : decode cX11_shared 7 = .ok (.lload_n 2, 1) := by decide +kernel
theorem dX11_shared_8 : decode cX11_shared 8 = .ok (.lrem, 1) := by decide +kernel
theorem dX11_shared_9 : decode cX11_shared 9 = .ok (.lstore 4, 2) := by decide +kernel
theorem dX11_shared_11 : decode cX11_shared 11 = .ok (.lload_n 2, 1) := by decide +kernel
theorem dX11_shared_12 : decode cX11_shared 12 = .ok (.lstore_n 0, 1) := by decide +kernel
theorem dX11_shared_13 : decode cX11_shared 13 = .ok (.lload 4, 2) := by decide +kernel
theorem dX11_shared_15 : decode cX11_shared 15 = .ok (.lstore_n 2, 1) := by decide +kernel
theorem dX11_shared_16 : decode cX11_shared 16 = .ok (.goto (-16), 3) := by decide +kernel
theorem dX11_shared_19 : decode cX11_shared 19 = .ok (.lload_n 0, 1) := by decide +kernel
theorem dX11_shared_20 : decode cX11_shared 20 = .ok (.lreturn, 1) := by decide +kernel
theorem dX11_least_0 : decode cX11_least 0 = .ok (.lload_n 2, 1) := by decide +kernel
theorem dX11_least_1 : decode cX11_least 1 = .ok (.lload_n 0, 1) := by decide +kernel
theorem dX11_least_2 : decode cX11_least 2 = .ok (.invokestatic 494, 3) := by decide +kernel
theorem dX11_least_5 : decode cX11_least 5 = .ok (.lstore 5, 2) := by decide +kernel
theorem dX11_least_7 : decode cX11_least 7 = .ok (.iload 4, 2) := by decide +kernel
theorem dX11_least_9 : decode cX11_least 9 = .ok (.ifCond .ne 10, 3) := by decide +kernel
theorem dX11_least_12 : decode cX11_least 12 = .ok (.lload_n 0, 1) := by decide +kernel
theorem dX11_least_13 : decode cX11_least 13 = .ok (.lload 5, 2) := by decide +kernel
theorem dX11_least_15 : decode cX11_least 15 = .ok (.ldiv, 1) := by decide +kernel
theorem dX11_least_16 : decode cX11_least 16 = .ok (.goto 7, 3) := by decide +kernel
theorem dX11_least_19 : decode cX11_least 19 = .ok (.lload_n 2, 1) := by decide +kernel
theorem dX11_least_20 : decode cX11_least 20 = .ok (.lload 5, 2) := by decide +kernel
theorem dX11_least_22 : decode cX11_least 22 = .ok (.ldiv, 1) := by decide +kernel
theorem dX11_least_23 : decode cX11_least 23 = .ok (.lreturn, 1) := by decide +kernel
theorem dX11_paysOf_0 : decode cX11_paysOf 0 = .ok (.aload_n 0, 1) := by decide +kernel
theorem dX11_paysOf_1 : decode cX11_paysOf 1 = .ok (.getfield 30, 3) := by decide +kernel
theorem dX11_paysOf_4 : decode cX11_paysOf 4 = .ok (.iload_n 2, 1) := by decide +kernel
theorem dX11_paysOf_5 : decode cX11_paysOf 5 = .ok (.iaload, 1) := by decide +kernel
theorem dX11_paysOf_6 : decode cX11_paysOf 6 = .ok (.aload_n 0, 1) := by decide +kernel
theorem dX11_paysOf_7 : decode cX11_paysOf 7 = .ok (.getfield 42, 3) := by decide +kernel
theorem dX11_paysOf_10 : decode cX11_paysOf 10 = .ok (.iload_n 1, 1) := by decide +kernel
theorem dX11_paysOf_11 : decode cX11_paysOf 11 = .ok (.iaload, 1) := by decide +kernel
theorem dX11_paysOf_12 : decode cX11_paysOf 12 = .ok (.imul, 1) := by decide +kernel
theorem dX11_paysOf_13 : decode cX11_paysOf 13 = .ok (.ireturn, 1) := by decide +kernel
theorem dX11_share_0 : decode cX11_share 0 = .ok (.aload_n 0, 1) := by decide +kernel
theorem dX11_share_1 : decode cX11_share 1 = .ok (.iconst 0, 1) := by decide +kernel
theorem dX11_share_2 : decode cX11_share 2 = .ok (.putfield 151, 3) := by decide +kernel
theorem dX11_share_5 : decode cX11_share 5 = .ok (.aload_n 0, 1) := by decide +kernel
theorem dX11_share_6 : decode cX11_share 6 = .ok (.iload_n 1, 1) := by decide +kernel
theorem dX11_share_7 : decode cX11_share 7 = .ok (.invokevirtual 497, 3) := by decide +kernel
theorem dX11_share_10 : decode cX11_share 10 = .ok (.ifCond .eq 29, 3) := by decide +kernel
theorem dX11_share_13 : decode cX11_share 13 = .ok (.aload_n 0, 1) := by decide +kernel
theorem dX11_share_14 : decode cX11_share 14 = .ok (.iload_n 2, 1) := by decide +kernel
theorem dX11_share_15 : decode cX11_share 15 = .ok (.invokevirtual 443, 3) := by decide +kernel
theorem dX11_share_18 : decode cX11_share 18 = .ok (.ifCond .eq 21, 3) := by decide +kernel
theorem dX11_share_21 : decode cX11_share 21 = .ok (.aload_n 0, 1) := by decide +kernel
theorem dX11_share_22 : decode cX11_share 22 = .ok (.iload_n 3, 1) := by decide +kernel
theorem dX11_share_23 : decode cX11_share 23 = .ok (.invokevirtual 449, 3) := by decide +kernel
theorem dX11_share_26 : decode cX11_share 26 = .ok (.ifCond .eq 13, 3) := by decide +kernel
theorem dX11_share_29 : decode cX11_share 29 = .ok (.iload 4, 2) := by decide +kernel
theorem dX11_share_31 : decode cX11_share 31 = .ok (.iconst 0, 1) := by decide +kernel
theorem dX11_share_32 : decode cX11_share 32 = .ok (.iconst 1, 1) := by decide +kernel
theorem dX11_share_33 : decode cX11_share 33 = .ok (.invokestatic 196, 3) := by decide +kernel
theorem dX11_share_36 : decode cX11_share 36 = .ok (.ifCond .ne 5, 3) := by decide +kernel
theorem dX11_share_39 : decode cX11_share 39 = .ok (.iconst (-1), 1) := by decide +kernel
theorem dX11_share_40 : decode cX11_share 40 = .ok (.ireturn, 1) := by decide +kernel
theorem dX11_share_41 : decode cX11_share 41 = .ok (.iconst 0, 1) := by decide +kernel
theorem dX11_share_42 : decode cX11_share 42 = .ok (.istore 5, 2) := by decide +kernel
theorem dX11_share_44 : decode cX11_share 44 = .ok (.iconst 0, 1) := by decide +kernel
theorem dX11_share_45 : decode cX11_share 45 = .ok (.istore 6, 2) := by decide +kernel
theorem dX11_share_47 : decode cX11_share 47 = .ok (.iload_n 1, 1) := by decide +kernel
theorem dX11_share_48 : decode cX11_share 48 = .ok (.iload_n 2, 1) := by decide +kernel
theorem dX11_share_49 : decode cX11_share 49 = .ok (.invokestatic 430, 3) := by decide +kernel
theorem dX11_share_52 : decode cX11_share 52 = .ok (.ifCond .eq 119, 3) := by decide +kernel
theorem dX11_share_55 : decode cX11_share 55 = .ok (.iload 5, 2) := by decide +kernel
theorem dX11_share_57 : decode cX11_share 57 = .ok (.aload_n 0, 1) := by decide +kernel
theorem dX11_share_58 : decode cX11_share 58 = .ok (.iload_n 2, 1) := by decide +kernel
theorem dX11_share_59 : decode cX11_share 59 = .ok (.iload_n 3, 1) := by decide +kernel
theorem dX11_share_60 : decode cX11_share 60 = .ok (.invokevirtual 500, 3) := by decide +kernel
theorem dX11_share_63 : decode cX11_share 63 = .ok (.if_icmp .ge 108, 3) := by decide +kernel
theorem dX11_share_66 : decode cX11_share 66 = .ok (.aload_n 0, 1) := by decide +kernel
theorem dX11_share_67 : decode cX11_share 67 = .ok (.iload_n 2, 1) := by decide +kernel
theorem dX11_share_68 : decode cX11_share 68 = .ok (.iload_n 3, 1) := by decide +kernel
theorem dX11_share_69 : decode cX11_share 69 = .ok (.invokevirtual 500, 3) := by decide +kernel
theorem dX11_share_72 : decode cX11_share 72 = .ok (.istore 7, 2) := by decide +kernel
theorem dX11_share_74 : decode cX11_share 74 = .ok (.iconst 0, 1) := by decide +kernel
theorem dX11_share_75 : decode cX11_share 75 = .ok (.istore 8, 2) := by decide +kernel
theorem dX11_share_77 : decode cX11_share 77 = .ok (.iconst 0, 1) := by decide +kernel
theorem dX11_share_78 : decode cX11_share 78 = .ok (.istore 9, 2) := by decide +kernel
theorem dX11_share_80 : decode cX11_share 80 = .ok (.iload 9, 2) := by decide +kernel
theorem dX11_share_82 : decode cX11_share 82 = .ok (.aload_n 0, 1) := by decide +kernel
theorem dX11_share_83 : decode cX11_share 83 = .ok (.getfield 234, 3) := by decide +kernel
theorem dX11_share_86 : decode cX11_share 86 = .ok (.if_icmp .ge 62, 3) := by decide +kernel
theorem dX11_share_89 : decode cX11_share 89 = .ok (.iload_n 1, 1) := by decide +kernel
theorem dX11_share_90 : decode cX11_share 90 = .ok (.iload 9, 2) := by decide +kernel
theorem dX11_share_92 : decode cX11_share 92 = .ok (.invokestatic 430, 3) := by decide +kernel
theorem dX11_share_95 : decode cX11_share 95 = .ok (.ifCond .eq 47, 3) := by decide +kernel
theorem dX11_share_98 : decode cX11_share 98 = .ok (.aload_n 0, 1) := by decide +kernel
theorem dX11_share_99 : decode cX11_share 99 = .ok (.iload 9, 2) := by decide +kernel
theorem dX11_share_101 : decode cX11_share 101 = .ok (.iload_n 3, 1) := by decide +kernel
theorem dX11_share_102 : decode cX11_share 102 = .ok (.invokevirtual 500, 3) := by decide +kernel
theorem dX11_share_105 : decode cX11_share 105 = .ok (.iload 5, 2) := by decide +kernel
theorem dX11_share_107 : decode cX11_share 107 = .ok (.if_icmp .gt 6, 3) := by decide +kernel
theorem dX11_share_110 : decode cX11_share 110 = .ok (.goto 32, 3) := by decide +kernel
theorem dX11_share_113 : decode cX11_share 113 = .ok (.aload_n 0, 1) := by decide +kernel
theorem dX11_share_114 : decode cX11_share 114 = .ok (.iload 9, 2) := by decide +kernel
theorem dX11_share_116 : decode cX11_share 116 = .ok (.iload_n 3, 1) := by decide +kernel
theorem dX11_share_117 : decode cX11_share 117 = .ok (.invokevirtual 500, 3) := by decide +kernel
theorem dX11_share_120 : decode cX11_share 120 = .ok (.iload 7, 2) := by decide +kernel
theorem dX11_share_122 : decode cX11_share 122 = .ok (.if_icmp .ge 13, 3) := by decide +kernel
theorem dX11_share_125 : decode cX11_share 125 = .ok (.aload_n 0, 1) := by decide +kernel
theorem dX11_share_126 : decode cX11_share 126 = .ok (.iload 9, 2) := by decide +kernel
theorem dX11_share_128 : decode cX11_share 128 = .ok (.iload_n 3, 1) := by decide +kernel
theorem dX11_share_129 : decode cX11_share 129 = .ok (.invokevirtual 500, 3) := by decide +kernel
theorem dX11_share_132 : decode cX11_share 132 = .ok (.goto 5, 3) := by decide +kernel
theorem dX11_share_135 : decode cX11_share 135 = .ok (.iload 7, 2) := by decide +kernel
theorem dX11_share_137 : decode cX11_share 137 = .ok (.istore 7, 2) := by decide +kernel
theorem dX11_share_139 : decode cX11_share 139 = .ok (.iinc 8 1, 3) := by decide +kernel
theorem dX11_share_142 : decode cX11_share 142 = .ok (.iinc 9 1, 3) := by decide +kernel
theorem dX11_share_145 : decode cX11_share 145 = .ok (.goto (-65), 3) := by decide +kernel
theorem dX11_share_148 : decode cX11_share 148 = .ok (.iload 6, 2) := by decide +kernel
theorem dX11_share_150 : decode cX11_share 150 = .ok (.iload 7, 2) := by decide +kernel
theorem dX11_share_152 : decode cX11_share 152 = .ok (.iload 5, 2) := by decide +kernel
theorem dX11_share_154 : decode cX11_share 154 = .ok (.isub, 1) := by decide +kernel
theorem dX11_share_155 : decode cX11_share 155 = .ok (.bipush 60, 2) := by decide +kernel
theorem dX11_share_157 : decode cX11_share 157 = .ok (.iload 8, 2) := by decide +kernel
theorem dX11_share_159 : decode cX11_share 159 = .ok (.idiv, 1) := by decide +kernel
theorem dX11_share_160 : decode cX11_share 160 = .ok (.imul, 1) := by decide +kernel
theorem dX11_share_161 : decode cX11_share 161 = .ok (.iadd, 1) := by decide +kernel
theorem dX11_share_162 : decode cX11_share 162 = .ok (.istore 6, 2) := by decide +kernel
theorem dX11_share_164 : decode cX11_share 164 = .ok (.iload 7, 2) := by decide +kernel
theorem dX11_share_166 : decode cX11_share 166 = .ok (.istore 5, 2) := by decide +kernel
theorem dX11_share_168 : decode cX11_share 168 = .ok (.goto (-121), 3) := by decide +kernel
theorem dX11_share_171 : decode cX11_share 171 = .ok (.iload 6, 2) := by decide +kernel
theorem dX11_share_173 : decode cX11_share 173 = .ok (.i2l, 1) := by decide +kernel
theorem dX11_share_174 : decode cX11_share 174 = .ok (.ldc2_w 503, 3) := by decide +kernel
theorem dX11_share_177 : decode cX11_share 177 = .ok (.iload 4, 2) := by decide +kernel
theorem dX11_share_179 : decode cX11_share 179 = .ok (.invokestatic 505, 3) := by decide +kernel
theorem dX11_share_182 : decode cX11_share 182 = .ok (.l2i, 1) := by decide +kernel
theorem dX11_share_183 : decode cX11_share 183 = .ok (.ireturn, 1) := by decide +kernel
theorem dX11_waits_0 : decode cX11_waits 0 = .ok (.aload_n 0, 1) := by decide +kernel
theorem dX11_waits_1 : decode cX11_waits 1 = .ok (.iconst 0, 1) := by decide +kernel
theorem dX11_waits_2 : decode cX11_waits 2 = .ok (.putfield 151, 3) := by decide +kernel
theorem dX11_waits_5 : decode cX11_waits 5 = .ok (.iload_n 1, 1) := by decide +kernel
theorem dX11_waits_6 : decode cX11_waits 6 = .ok (.iconst 0, 1) := by decide +kernel
theorem dX11_waits_7 : decode cX11_waits 7 = .ok (.bipush 6, 2) := by decide +kernel
theorem dX11_waits_9 : decode cX11_waits 9 = .ok (.invokestatic 196, 3) := by decide +kernel
theorem dX11_waits_12 : decode cX11_waits 12 = .ok (.ifCond .eq 12, 3) := by decide +kernel
theorem dX11_waits_15 : decode cX11_waits 15 = .ok (.iload_n 2, 1) := by decide +kernel
theorem dX11_waits_16 : decode cX11_waits 16 = .ok (.iconst 0, 1) := by decide +kernel
theorem dX11_waits_17 : decode cX11_waits 17 = .ok (.iconst 1, 1) := by decide +kernel
theorem dX11_waits_18 : decode cX11_waits 18 = .ok (.invokestatic 196, 3) := by decide +kernel
theorem dX11_waits_21 : decode cX11_waits 21 = .ok (.ifCond .ne 7, 3) := by decide +kernel
theorem dX11_waits_24 : decode cX11_waits 24 = .ok (.ldc2_w 509, 3) := by decide +kernel
theorem dX11_waits_27 : decode cX11_waits 27 = .ok (.lreturn, 1) := by decide +kernel
theorem dX11_waits_28 : decode cX11_waits 28 = .ok (.lconst 0, 1) := by decide +kernel
theorem dX11_waits_29 : decode cX11_waits 29 = .ok (.lstore_n 3, 1) := by decide +kernel
theorem dX11_waits_30 : decode cX11_waits 30 = .ok (.lconst 1, 1) := by decide +kernel
theorem dX11_waits_31 : decode cX11_waits 31 = .ok (.lstore 5, 2) := by decide +kernel
theorem dX11_waits_33 : decode cX11_waits 33 = .ok (.iconst 0, 1) := by decide +kernel
theorem dX11_waits_34 : decode cX11_waits 34 = .ok (.istore 7, 2) := by decide +kernel
theorem dX11_waits_36 : decode cX11_waits 36 = .ok (.iload 7, 2) := by decide +kernel
theorem dX11_waits_38 : decode cX11_waits 38 = .ok (.iload_n 1, 1) := by decide +kernel
theorem dX11_waits_39 : decode cX11_waits 39 = .ok (.if_icmp .ge 106, 3) := by decide +kernel
theorem dX11_waits_42 : decode cX11_waits 42 = .ok (.aload_n 0, 1) := by decide +kernel
theorem dX11_waits_43 : decode cX11_waits 43 = .ok (.invokevirtual 404, 3) := by decide +kernel
theorem dX11_waits_46 : decode cX11_waits 46 = .ok (.ifCond .le 99, 3) := by decide +kernel
theorem dX11_waits_49 : decode cX11_waits 49 = .ok (.lconst 0, 1) := by decide +kernel
theorem dX11_waits_50 : decode cX11_waits 50 = .ok (.lstore 8, 2) := by decide +kernel
theorem dX11_waits_52 : decode cX11_waits 52 = .ok (.iconst 0, 1) := by decide +kernel
theorem dX11_waits_53 : decode cX11_waits 53 = .ok (.istore 10, 2) := by decide +kernel
theorem dX11_waits_55 : decode cX11_waits 55 = .ok (.iload 10, 2) := by decide +kernel
theorem dX11_waits_57 : decode cX11_waits 57 = .ok (.aload_n 0, 1) := by decide +kernel
theorem dX11_waits_58 : decode cX11_waits 58 = .ok (.getfield 231, 3) := by decide +kernel
theorem dX11_waits_61 : decode cX11_waits 61 = .ok (.if_icmp .ge 49, 3) := by decide +kernel
theorem dX11_waits_64 : decode cX11_waits 64 = .ok (.aload_n 0, 1) := by decide +kernel
theorem dX11_waits_65 : decode cX11_waits 65 = .ok (.getfield 30, 3) := by decide +kernel
theorem dX11_waits_68 : decode cX11_waits 68 = .ok (.iload 10, 2) := by decide +kernel
theorem dX11_waits_70 : decode cX11_waits 70 = .ok (.iaload, 1) := by decide +kernel
theorem dX11_waits_71 : decode cX11_waits 71 = .ok (.i2l, 1) := by decide +kernel
theorem dX11_waits_72 : decode cX11_waits 72 = .ok (.lload 5, 2) := by decide +kernel
theorem dX11_waits_74 : decode cX11_waits 74 = .ok (.lmul, 1) := by decide +kernel
theorem dX11_waits_75 : decode cX11_waits 75 = .ok (.lstore 11, 2) := by decide +kernel
theorem dX11_waits_77 : decode cX11_waits 77 = .ok (.lload 8, 2) := by decide +kernel
theorem dX11_waits_79 : decode cX11_waits 79 = .ok (.aload_n 0, 1) := by decide +kernel
theorem dX11_waits_80 : decode cX11_waits 80 = .ok (.getfield 33, 3) := by decide +kernel
theorem dX11_waits_83 : decode cX11_waits 83 = .ok (.iload 10, 2) := by decide +kernel
theorem dX11_waits_85 : decode cX11_waits 85 = .ok (.iaload, 1) := by decide +kernel
theorem dX11_waits_86 : decode cX11_waits 86 = .ok (.i2l, 1) := by decide +kernel
theorem dX11_waits_87 : decode cX11_waits 87 = .ok (.lload 11, 2) := by decide +kernel
theorem dX11_waits_89 : decode cX11_waits 89 = .ok (.lload_n 3, 1) := by decide +kernel
theorem dX11_waits_90 : decode cX11_waits 90 = .ok (.lcmp, 1) := by decide +kernel
theorem dX11_waits_91 : decode cX11_waits 91 = .ok (.ifCond .le 8, 3) := by decide +kernel
theorem dX11_waits_94 : decode cX11_waits 94 = .ok (.lload 11, 2) := by decide +kernel
theorem dX11_waits_96 : decode cX11_waits 96 = .ok (.goto 4, 3) := by decide +kernel
theorem dX11_waits_99 : decode cX11_waits 99 = .ok (.lload_n 3, 1) := by decide +kernel
theorem dX11_waits_100 : decode cX11_waits 100 = .ok (.lmul, 1) := by decide +kernel
theorem dX11_waits_101 : decode cX11_waits 101 = .ok (.ladd, 1) := by decide +kernel
theorem dX11_waits_102 : decode cX11_waits 102 = .ok (.lstore 8, 2) := by decide +kernel
theorem dX11_waits_104 : decode cX11_waits 104 = .ok (.iinc 10 1, 3) := by decide +kernel
theorem dX11_waits_107 : decode cX11_waits 107 = .ok (.goto (-52), 3) := by decide +kernel
theorem dX11_waits_110 : decode cX11_waits 110 = .ok (.lload 5, 2) := by decide +kernel
theorem dX11_waits_112 : decode cX11_waits 112 = .ok (.aload_n 0, 1) := by decide +kernel
theorem dX11_waits_113 : decode cX11_waits 113 = .ok (.invokevirtual 404, 3) := by decide +kernel
theorem dX11_waits_116 : decode cX11_waits 116 = .ok (.i2l, 1) := by decide +kernel
theorem dX11_waits_117 : decode cX11_waits 117 = .ok (.lmul, 1) := by decide +kernel
theorem dX11_waits_118 : decode cX11_waits 118 = .ok (.lstore 10, 2) := by decide +kernel
theorem dX11_waits_120 : decode cX11_waits 120 = .ok (.lload 8, 2) := by decide +kernel
theorem dX11_waits_122 : decode cX11_waits 122 = .ok (.lload 10, 2) := by decide +kernel
theorem dX11_waits_124 : decode cX11_waits 124 = .ok (.iconst 0, 1) := by decide +kernel
theorem dX11_waits_125 : decode cX11_waits 125 = .ok (.invokestatic 505, 3) := by decide +kernel
theorem dX11_waits_128 : decode cX11_waits 128 = .ok (.lstore_n 3, 1) := by decide +kernel
theorem dX11_waits_129 : decode cX11_waits 129 = .ok (.lload 8, 2) := by decide +kernel
theorem dX11_waits_131 : decode cX11_waits 131 = .ok (.lload 10, 2) := by decide +kernel
theorem dX11_waits_133 : decode cX11_waits 133 = .ok (.iconst 1, 1) := by decide +kernel
theorem dX11_waits_134 : decode cX11_waits 134 = .ok (.invokestatic 505, 3) := by decide +kernel
theorem dX11_waits_137 : decode cX11_waits 137 = .ok (.lstore 5, 2) := by decide +kernel
theorem dX11_waits_139 : decode cX11_waits 139 = .ok (.iinc 7 1, 3) := by decide +kernel
theorem dX11_waits_142 : decode cX11_waits 142 = .ok (.goto (-106), 3) := by decide +kernel
theorem dX11_waits_145 : decode cX11_waits 145 = .ok (.iload_n 2, 1) := by decide +kernel
theorem dX11_waits_146 : decode cX11_waits 146 = .ok (.ifCond .ne 7, 3) := by decide +kernel
theorem dX11_waits_149 : decode cX11_waits 149 = .ok (.lload_n 3, 1) := by decide +kernel
theorem dX11_waits_150 : decode cX11_waits 150 = .ok (.goto 5, 3) := by decide +kernel
theorem dX11_waits_153 : decode cX11_waits 153 = .ok (.lload 5, 2) := by decide +kernel
theorem dX11_waits_155 : decode cX11_waits 155 = .ok (.lreturn, 1) := by decide +kernel
theorem dX11_came_0 : decode cX11_came 0 = .ok (.aload_n 0, 1) := by decide +kernel
theorem dX11_came_1 : decode cX11_came 1 = .ok (.iconst 0, 1) := by decide +kernel
theorem dX11_came_2 : decode cX11_came 2 = .ok (.putfield 151, 3) := by decide +kernel
theorem dX11_came_5 : decode cX11_came 5 = .ok (.aload_n 0, 1) := by decide +kernel
theorem dX11_came_6 : decode cX11_came 6 = .ok (.iload_n 1, 1) := by decide +kernel
theorem dX11_came_7 : decode cX11_came 7 = .ok (.invokevirtual 443, 3) := by decide +kernel
theorem dX11_came_10 : decode cX11_came 10 = .ok (.ifCond .eq 23, 3) := by decide +kernel
theorem dX11_came_13 : decode cX11_came 13 = .ok (.iload_n 2, 1) := by decide +kernel
theorem dX11_came_14 : decode cX11_came 14 = .ok (.iconst 0, 1) := by decide +kernel
theorem dX11_came_15 : decode cX11_came 15 = .ok (.iconst 5, 1) := by decide +kernel
theorem dX11_came_16 : decode cX11_came 16 = .ok (.invokestatic 196, 3) := by decide +kernel
theorem dX11_came_19 : decode cX11_came 19 = .ok (.ifCond .eq 14, 3) := by decide +kernel
theorem dX11_came_22 : decode cX11_came 22 = .ok (.iload_n 3, 1) := by decide +kernel
theorem dX11_came_23 : decode cX11_came 23 = .ok (.iconst 0, 1) := by decide +kernel
theorem dX11_came_24 : decode cX11_came 24 = .ok (.sipush 9999, 3) := by decide +kernel
theorem dX11_came_27 : decode cX11_came 27 = .ok (.invokestatic 196, 3) := by decide +kernel
theorem dX11_came_30 : decode cX11_came 30 = .ok (.ifCond .ne 5, 3) := by decide +kernel
theorem dX11_came_33 : decode cX11_came 33 = .ok (.iconst (-1), 1) := by decide +kernel
theorem dX11_came_34 : decode cX11_came 34 = .ok (.ireturn, 1) := by decide +kernel
theorem dX11_came_35 : decode cX11_came 35 = .ok (.iconst 1, 1) := by decide +kernel
theorem dX11_came_36 : decode cX11_came 36 = .ok (.istore 4, 2) := by decide +kernel
theorem dX11_came_38 : decode cX11_came 38 = .ok (.iconst 0, 1) := by decide +kernel
theorem dX11_came_39 : decode cX11_came 39 = .ok (.istore 5, 2) := by decide +kernel
theorem dX11_came_41 : decode cX11_came 41 = .ok (.iload 5, 2) := by decide +kernel
theorem dX11_came_43 : decode cX11_came 43 = .ok (.iload_n 2, 1) := by decide +kernel
theorem dX11_came_44 : decode cX11_came 44 = .ok (.if_icmp .ge 18, 3) := by decide +kernel
theorem dX11_came_47 : decode cX11_came 47 = .ok (.iload 4, 2) := by decide +kernel
theorem dX11_came_49 : decode cX11_came 49 = .ok (.aload_n 0, 1) := by decide +kernel
theorem dX11_came_50 : decode cX11_came 50 = .ok (.getfield 231, 3) := by decide +kernel
theorem dX11_came_53 : decode cX11_came 53 = .ok (.imul, 1) := by decide +kernel
theorem dX11_came_54 : decode cX11_came 54 = .ok (.istore 4, 2) := by decide +kernel
theorem dX11_came_56 : decode cX11_came 56 = .ok (.iinc 5 1, 3) := by decide +kernel
theorem dX11_came_59 : decode cX11_came 59 = .ok (.goto (-18), 3) := by decide +kernel
theorem dX11_came_62 : decode cX11_came 62 = .ok (.iconst 0, 1) := by decide +kernel
theorem dX11_came_63 : decode cX11_came 63 = .ok (.istore 5, 2) := by decide +kernel
theorem dX11_came_65 : decode cX11_came 65 = .ok (.iconst 0, 1) := by decide +kernel
theorem dX11_came_66 : decode cX11_came 66 = .ok (.istore 6, 2) := by decide +kernel
theorem dX11_came_68 : decode cX11_came 68 = .ok (.iload 6, 2) := by decide +kernel
theorem dX11_came_70 : decode cX11_came 70 = .ok (.iload 4, 2) := by decide +kernel
theorem dX11_came_72 : decode cX11_came 72 = .ok (.if_icmp .ge 73, 3) := by decide +kernel
theorem dX11_came_75 : decode cX11_came 75 = .ok (.iload 6, 2) := by decide +kernel
theorem dX11_came_77 : decode cX11_came 77 = .ok (.istore 7, 2) := by decide +kernel
theorem dX11_came_79 : decode cX11_came 79 = .ok (.iconst 0, 1) := by decide +kernel
theorem dX11_came_80 : decode cX11_came 80 = .ok (.istore 8, 2) := by decide +kernel
theorem dX11_came_82 : decode cX11_came 82 = .ok (.iconst 0, 1) := by decide +kernel
theorem dX11_came_83 : decode cX11_came 83 = .ok (.istore 9, 2) := by decide +kernel
theorem dX11_came_85 : decode cX11_came 85 = .ok (.iload 9, 2) := by decide +kernel
theorem dX11_came_87 : decode cX11_came 87 = .ok (.iload_n 2, 1) := by decide +kernel
theorem dX11_came_88 : decode cX11_came 88 = .ok (.if_icmp .ge 35, 3) := by decide +kernel
theorem dX11_came_91 : decode cX11_came 91 = .ok (.iload 8, 2) := by decide +kernel
theorem dX11_came_93 : decode cX11_came 93 = .ok (.aload_n 0, 1) := by decide +kernel
theorem dX11_came_94 : decode cX11_came 94 = .ok (.iload_n 1, 1) := by decide +kernel
theorem dX11_came_95 : decode cX11_came 95 = .ok (.iload 7, 2) := by decide +kernel
theorem dX11_came_97 : decode cX11_came 97 = .ok (.aload_n 0, 1) := by decide +kernel
theorem dX11_came_98 : decode cX11_came 98 = .ok (.getfield 231, 3) := by decide +kernel
theorem dX11_came_101 : decode cX11_came 101 = .ok (.irem, 1) := by decide +kernel
theorem dX11_came_102 : decode cX11_came 102 = .ok (.invokevirtual 500, 3) := by decide +kernel
theorem dX11_came_105 : decode cX11_came 105 = .ok (.iadd, 1) := by decide +kernel
theorem dX11_came_106 : decode cX11_came 106 = .ok (.istore 8, 2) := by decide +kernel
theorem dX11_came_108 : decode cX11_came 108 = .ok (.iload 7, 2) := by decide +kernel
theorem dX11_came_110 : decode cX11_came 110 = .ok (.aload_n 0, 1) := by decide +kernel
theorem dX11_came_111 : decode cX11_came 111 = .ok (.getfield 231, 3) := by decide +kernel
theorem dX11_came_114 : decode cX11_came 114 = .ok (.idiv, 1) := by decide +kernel
theorem dX11_came_115 : decode cX11_came 115 = .ok (.istore 7, 2) := by decide +kernel
theorem dX11_came_117 : decode cX11_came 117 = .ok (.iinc 9 1, 3) := by decide +kernel
theorem dX11_came_120 : decode cX11_came 120 = .ok (.goto (-35), 3) := by decide +kernel
theorem dX11_came_123 : decode cX11_came 123 = .ok (.iload 5, 2) := by decide +kernel
theorem dX11_came_125 : decode cX11_came 125 = .ok (.iload 8, 2) := by decide +kernel
theorem dX11_came_127 : decode cX11_came 127 = .ok (.iload_n 3, 1) := by decide +kernel
theorem dX11_came_128 : decode cX11_came 128 = .ok (.if_icmp .ne 7, 3) := by decide +kernel
theorem dX11_came_131 : decode cX11_came 131 = .ok (.iconst 1, 1) := by decide +kernel
theorem dX11_came_132 : decode cX11_came 132 = .ok (.goto 4, 3) := by decide +kernel
theorem dX11_came_135 : decode cX11_came 135 = .ok (.iconst 0, 1) := by decide +kernel
theorem dX11_came_136 : decode cX11_came 136 = .ok (.iadd, 1) := by decide +kernel
theorem dX11_came_137 : decode cX11_came 137 = .ok (.istore 5, 2) := by decide +kernel
theorem dX11_came_139 : decode cX11_came 139 = .ok (.iinc 6 1, 3) := by decide +kernel
theorem dX11_came_142 : decode cX11_came 142 = .ok (.goto (-74), 3) := by decide +kernel
theorem dX11_came_145 : decode cX11_came 145 = .ok (.iload 5, 2) := by decide +kernel
theorem dX11_came_147 : decode cX11_came 147 = .ok (.ireturn, 1) := by decide +kernel
theorem dX11_likely_0 : decode cX11_likely 0 = .ok (.aload_n 0, 1) := by decide +kernel
theorem dX11_likely_1 : decode cX11_likely 1 = .ok (.iconst 0, 1) := by decide +kernel
theorem dX11_likely_2 : decode cX11_likely 2 = .ok (.putfield 151, 3) := by decide +kernel
theorem dX11_likely_5 : decode cX11_likely 5 = .ok (.aload_n 0, 1) := by decide +kernel
theorem dX11_likely_6 : decode cX11_likely 6 = .ok (.iload_n 1, 1) := by decide +kernel
theorem dX11_likely_7 : decode cX11_likely 7 = .ok (.invokevirtual 449, 3) := by decide +kernel
theorem dX11_likely_10 : decode cX11_likely 10 = .ok (.ifCond .eq 21, 3) := by decide +kernel
theorem dX11_likely_13 : decode cX11_likely 13 = .ok (.iload_n 2, 1) := by decide +kernel
theorem dX11_likely_14 : decode cX11_likely 14 = .ok (.iconst 0, 1) := by decide +kernel
theorem dX11_likely_15 : decode cX11_likely 15 = .ok (.iconst 5, 1) := by decide +kernel
theorem dX11_likely_16 : decode cX11_likely 16 = .ok (.invokestatic 196, 3) := by decide +kernel
theorem dX11_likely_19 : decode cX11_likely 19 = .ok (.ifCond .eq 12, 3) := by decide +kernel
theorem dX11_likely_22 : decode cX11_likely 22 = .ok (.iload_n 3, 1) := by decide +kernel
theorem dX11_likely_23 : decode cX11_likely 23 = .ok (.iconst 0, 1) := by decide +kernel
theorem dX11_likely_24 : decode cX11_likely 24 = .ok (.iconst 1, 1) := by decide +kernel
theorem dX11_likely_25 : decode cX11_likely 25 = .ok (.invokestatic 196, 3) := by decide +kernel
theorem dX11_likely_28 : decode cX11_likely 28 = .ok (.ifCond .ne 7, 3) := by decide +kernel
theorem dX11_likely_31 : decode cX11_likely 31 = .ok (.ldc2_w 509, 3) := by decide +kernel
theorem dX11_likely_34 : decode cX11_likely 34 = .ok (.lreturn, 1) := by decide +kernel
theorem dX11_likely_35 : decode cX11_likely 35 = .ok (.lconst 1, 1) := by decide +kernel
theorem dX11_likely_36 : decode cX11_likely 36 = .ok (.lstore 4, 2) := by decide +kernel
theorem dX11_likely_38 : decode cX11_likely 38 = .ok (.lconst 1, 1) := by decide +kernel
theorem dX11_likely_39 : decode cX11_likely 39 = .ok (.lstore 6, 2) := by decide +kernel
theorem dX11_likely_41 : decode cX11_likely 41 = .ok (.iconst 0, 1) := by decide +kernel
theorem dX11_likely_42 : decode cX11_likely 42 = .ok (.istore 8, 2) := by decide +kernel
theorem dX11_likely_44 : decode cX11_likely 44 = .ok (.iload 8, 2) := by decide +kernel
theorem dX11_likely_46 : decode cX11_likely 46 = .ok (.iload_n 2, 1) := by decide +kernel
theorem dX11_likely_47 : decode cX11_likely 47 = .ok (.if_icmp .ge 43, 3) := by decide +kernel
theorem dX11_likely_50 : decode cX11_likely 50 = .ok (.aload_n 0, 1) := by decide +kernel
theorem dX11_likely_51 : decode cX11_likely 51 = .ok (.invokevirtual 404, 3) := by decide +kernel
theorem dX11_likely_54 : decode cX11_likely 54 = .ok (.ifCond .le 36, 3) := by decide +kernel
theorem dX11_likely_57 : decode cX11_likely 57 = .ok (.lload 4, 2) := by decide +kernel
theorem dX11_likely_59 : decode cX11_likely 59 = .ok (.aload_n 0, 1) := by decide +kernel
theorem dX11_likely_60 : decode cX11_likely 60 = .ok (.invokevirtual 404, 3) := by decide +kernel
theorem dX11_likely_63 : decode cX11_likely 63 = .ok (.i2l, 1) := by decide +kernel
theorem dX11_likely_64 : decode cX11_likely 64 = .ok (.lmul, 1) := by decide +kernel
theorem dX11_likely_65 : decode cX11_likely 65 = .ok (.lstore 4, 2) := by decide +kernel
theorem dX11_likely_67 : decode cX11_likely 67 = .ok (.lload 6, 2) := by decide +kernel
theorem dX11_likely_69 : decode cX11_likely 69 = .ok (.aload_n 0, 1) := by decide +kernel
theorem dX11_likely_70 : decode cX11_likely 70 = .ok (.invokevirtual 404, 3) := by decide +kernel
theorem dX11_likely_73 : decode cX11_likely 73 = .ok (.aload_n 0, 1) := by decide +kernel
theorem dX11_likely_74 : decode cX11_likely 74 = .ok (.getfield 33, 3) := by decide +kernel
theorem dX11_likely_77 : decode cX11_likely 77 = .ok (.iload_n 1, 1) := by decide +kernel
theorem dX11_likely_78 : decode cX11_likely 78 = .ok (.iaload, 1) := by decide +kernel
theorem dX11_likely_79 : decode cX11_likely 79 = .ok (.isub, 1) := by decide +kernel
theorem dX11_likely_80 : decode cX11_likely 80 = .ok (.i2l, 1) := by decide +kernel
theorem dX11_likely_81 : decode cX11_likely 81 = .ok (.lmul, 1) := by decide +kernel
theorem dX11_likely_82 : decode cX11_likely 82 = .ok (.lstore 6, 2) := by decide +kernel
theorem dX11_likely_84 : decode cX11_likely 84 = .ok (.iinc 8 1, 3) := by decide +kernel
theorem dX11_likely_87 : decode cX11_likely 87 = .ok (.goto (-43), 3) := by decide +kernel
theorem dX11_likely_90 : decode cX11_likely 90 = .ok (.lload 4, 2) := by decide +kernel
theorem dX11_likely_92 : decode cX11_likely 92 = .ok (.lload 6, 2) := by decide +kernel
theorem dX11_likely_94 : decode cX11_likely 94 = .ok (.lsub, 1) := by decide +kernel
theorem dX11_likely_95 : decode cX11_likely 95 = .ok (.lload 4, 2) := by decide +kernel
theorem dX11_likely_97 : decode cX11_likely 97 = .ok (.iload_n 3, 1) := by decide +kernel
theorem dX11_likely_98 : decode cX11_likely 98 = .ok (.invokestatic 505, 3) := by decide +kernel
theorem dX11_likely_101 : decode cX11_likely 101 = .ok (.lreturn, 1) := by decide +kernel
theorem dX11_hasBy_0 : decode cX11_hasBy 0 = .ok (.iload_n 3, 1) := by decide +kernel
theorem dX11_hasBy_1 : decode cX11_hasBy 1 = .ok (.ifCond .ne 47, 3) := by decide +kernel
theorem dX11_hasBy_4 : decode cX11_hasBy 4 = .ok (.iload 4, 2) := by decide +kernel
theorem dX11_hasBy_6 : decode cX11_hasBy 6 = .ok (.ifCond .ne 24, 3) := by decide +kernel
theorem dX11_hasBy_9 : decode cX11_hasBy 9 = .ok (.aload_n 0, 1) := by decide +kernel
theorem dX11_hasBy_10 : decode cX11_hasBy 10 = .ok (.getfield 42, 3) := by decide +kernel
theorem dX11_hasBy_13 : decode cX11_hasBy 13 = .ok (.iload_n 1, 1) := by decide +kernel
theorem dX11_hasBy_14 : decode cX11_hasBy 14 = .ok (.iaload, 1) := by decide +kernel
theorem dX11_hasBy_15 : decode cX11_hasBy 15 = .ok (.aload_n 0, 1) := by decide +kernel
theorem dX11_hasBy_16 : decode cX11_hasBy 16 = .ok (.getfield 30, 3) := by decide +kernel
theorem dX11_hasBy_19 : decode cX11_hasBy 19 = .ok (.iload_n 2, 1) := by decide +kernel
theorem dX11_hasBy_20 : decode cX11_hasBy 20 = .ok (.iaload, 1) := by decide +kernel
theorem dX11_hasBy_21 : decode cX11_hasBy 21 = .ok (.bipush 10, 2) := by decide +kernel
theorem dX11_hasBy_23 : decode cX11_hasBy 23 = .ok (.idiv, 1) := by decide +kernel
theorem dX11_hasBy_24 : decode cX11_hasBy 24 = .ok (.iadd, 1) := by decide +kernel
theorem dX11_hasBy_25 : decode cX11_hasBy 25 = .ok (.iconst 2, 1) := by decide +kernel
theorem dX11_hasBy_26 : decode cX11_hasBy 26 = .ok (.isub, 1) := by decide +kernel
theorem dX11_hasBy_27 : decode cX11_hasBy 27 = .ok (.goto 20, 3) := by decide +kernel
theorem dX11_hasBy_30 : decode cX11_hasBy 30 = .ok (.aload_n 0, 1) := by decide +kernel
theorem dX11_hasBy_31 : decode cX11_hasBy 31 = .ok (.getfield 42, 3) := by decide +kernel
theorem dX11_hasBy_34 : decode cX11_hasBy 34 = .ok (.iload_n 1, 1) := by decide +kernel
theorem dX11_hasBy_35 : decode cX11_hasBy 35 = .ok (.iaload, 1) := by decide +kernel
theorem dX11_hasBy_36 : decode cX11_hasBy 36 = .ok (.aload_n 0, 1) := by decide +kernel
theorem dX11_hasBy_37 : decode cX11_hasBy 37 = .ok (.getfield 30, 3) := by decide +kernel
theorem dX11_hasBy_40 : decode cX11_hasBy 40 = .ok (.iload_n 2, 1) := by decide +kernel
theorem dX11_hasBy_41 : decode cX11_hasBy 41 = .ok (.iaload, 1) := by decide +kernel
theorem dX11_hasBy_42 : decode cX11_hasBy 42 = .ok (.iconst 5, 1) := by decide +kernel
theorem dX11_hasBy_43 : decode cX11_hasBy 43 = .ok (.idiv, 1) := by decide +kernel
theorem dX11_hasBy_44 : decode cX11_hasBy 44 = .ok (.iadd, 1) := by decide +kernel
theorem dX11_hasBy_45 : decode cX11_hasBy 45 = .ok (.iconst 3, 1) := by decide +kernel
theorem dX11_hasBy_46 : decode cX11_hasBy 46 = .ok (.isub, 1) := by decide +kernel
theorem dX11_hasBy_47 : decode cX11_hasBy 47 = .ok (.ireturn, 1) := by decide +kernel
theorem dX11_hasBy_48 : decode cX11_hasBy 48 = .ok (.iload 4, 2) := by decide +kernel
theorem dX11_hasBy_50 : decode cX11_hasBy 50 = .ok (.ifCond .ne 7, 3) := by decide +kernel
theorem dX11_hasBy_53 : decode cX11_hasBy 53 = .ok (.iconst 1, 1) := by decide +kernel
theorem dX11_hasBy_54 : decode cX11_hasBy 54 = .ok (.goto 11, 3) := by decide +kernel
theorem dX11_hasBy_57 : decode cX11_hasBy 57 = .ok (.aload_n 0, 1) := by decide +kernel
theorem dX11_hasBy_58 : decode cX11_hasBy 58 = .ok (.getfield 42, 3) := by decide +kernel
theorem dX11_hasBy_61 : decode cX11_hasBy 61 = .ok (.iload_n 1, 1) := by decide +kernel
theorem dX11_hasBy_62 : decode cX11_hasBy 62 = .ok (.iaload, 1) := by decide +kernel
theorem dX11_hasBy_63 : decode cX11_hasBy 63 = .ok (.iconst 2, 1) := by decide +kernel
theorem dX11_hasBy_64 : decode cX11_hasBy 64 = .ok (.idiv, 1) := by decide +kernel
theorem dX11_hasBy_65 : decode cX11_hasBy 65 = .ok (.ireturn, 1) := by decide +kernel
theorem dX11_restAt_0 : decode cX11_restAt 0 = .ok (.iconst 0, 1) := by decide +kernel
theorem dX11_restAt_1 : decode cX11_restAt 1 = .ok (.istore 5, 2) := by decide +kernel
theorem dX11_restAt_3 : decode cX11_restAt 3 = .ok (.iconst 0, 1) := by decide +kernel
theorem dX11_restAt_4 : decode cX11_restAt 4 = .ok (.istore 6, 2) := by decide +kernel
theorem dX11_restAt_6 : decode cX11_restAt 6 = .ok (.iload 6, 2) := by decide +kernel
theorem dX11_restAt_8 : decode cX11_restAt 8 = .ok (.iconst 4, 1) := by decide +kernel
theorem dX11_restAt_9 : decode cX11_restAt 9 = .ok (.if_icmp .ge 93, 3) := by decide +kernel
theorem dX11_restAt_12 : decode cX11_restAt 12 = .ok (.iload 6, 2) := by decide +kernel
theorem dX11_restAt_14 : decode cX11_restAt 14 = .ok (.iconst 2, 1) := by decide +kernel
theorem dX11_restAt_15 : decode cX11_restAt 15 = .ok (.idiv, 1) := by decide +kernel
theorem dX11_restAt_16 : decode cX11_restAt 16 = .ok (.istore 7, 2) := by decide +kernel
theorem dX11_restAt_18 : decode cX11_restAt 18 = .ok (.iload 6, 2) := by decide +kernel
theorem dX11_restAt_20 : decode cX11_restAt 20 = .ok (.iconst 2, 1) := by decide +kernel
theorem dX11_restAt_21 : decode cX11_restAt 21 = .ok (.irem, 1) := by decide +kernel
theorem dX11_restAt_22 : decode cX11_restAt 22 = .ok (.istore 8, 2) := by decide +kernel
theorem dX11_restAt_24 : decode cX11_restAt 24 = .ok (.aload_n 0, 1) := by decide +kernel
theorem dX11_restAt_25 : decode cX11_restAt 25 = .ok (.iload_n 1, 1) := by decide +kernel
theorem dX11_restAt_26 : decode cX11_restAt 26 = .ok (.iload_n 3, 1) := by decide +kernel
theorem dX11_restAt_27 : decode cX11_restAt 27 = .ok (.iconst 1, 1) := by decide +kernel
theorem dX11_restAt_28 : decode cX11_restAt 28 = .ok (.iload 7, 2) := by decide +kernel
theorem dX11_restAt_30 : decode cX11_restAt 30 = .ok (.isub, 1) := by decide +kernel
theorem dX11_restAt_31 : decode cX11_restAt 31 = .ok (.iload 8, 2) := by decide +kernel
theorem dX11_restAt_33 : decode cX11_restAt 33 = .ok (.invokevirtual 511, 3) := by decide +kernel
theorem dX11_restAt_36 : decode cX11_restAt 36 = .ok (.aload_n 0, 1) := by decide +kernel
theorem dX11_restAt_37 : decode cX11_restAt 37 = .ok (.iload_n 1, 1) := by decide +kernel
theorem dX11_restAt_38 : decode cX11_restAt 38 = .ok (.iload_n 3, 1) := by decide +kernel
theorem dX11_restAt_39 : decode cX11_restAt 39 = .ok (.iload 7, 2) := by decide +kernel
theorem dX11_restAt_41 : decode cX11_restAt 41 = .ok (.iload 8, 2) := by decide +kernel
theorem dX11_restAt_43 : decode cX11_restAt 43 = .ok (.invokevirtual 511, 3) := by decide +kernel
theorem dX11_restAt_46 : decode cX11_restAt 46 = .ok (.if_icmp .gt 50, 3) := by decide +kernel
theorem dX11_restAt_49 : decode cX11_restAt 49 = .ok (.aload_n 0, 1) := by decide +kernel
theorem dX11_restAt_50 : decode cX11_restAt 50 = .ok (.iload_n 2, 1) := by decide +kernel
theorem dX11_restAt_51 : decode cX11_restAt 51 = .ok (.iload_n 3, 1) := by decide +kernel
theorem dX11_restAt_52 : decode cX11_restAt 52 = .ok (.iconst 1, 1) := by decide +kernel
theorem dX11_restAt_53 : decode cX11_restAt 53 = .ok (.iload 8, 2) := by decide +kernel
theorem dX11_restAt_55 : decode cX11_restAt 55 = .ok (.isub, 1) := by decide +kernel
theorem dX11_restAt_56 : decode cX11_restAt 56 = .ok (.iload 7, 2) := by decide +kernel
theorem dX11_restAt_58 : decode cX11_restAt 58 = .ok (.invokevirtual 511, 3) := by decide +kernel
theorem dX11_restAt_61 : decode cX11_restAt 61 = .ok (.aload_n 0, 1) := by decide +kernel
theorem dX11_restAt_62 : decode cX11_restAt 62 = .ok (.iload_n 2, 1) := by decide +kernel
theorem dX11_restAt_63 : decode cX11_restAt 63 = .ok (.iload_n 3, 1) := by decide +kernel
theorem dX11_restAt_64 : decode cX11_restAt 64 = .ok (.iload 8, 2) := by decide +kernel
theorem dX11_restAt_66 : decode cX11_restAt 66 = .ok (.iload 7, 2) := by decide +kernel
theorem dX11_restAt_68 : decode cX11_restAt 68 = .ok (.invokevirtual 511, 3) := by decide +kernel
theorem dX11_restAt_71 : decode cX11_restAt 71 = .ok (.if_icmp .le 6, 3) := by decide +kernel
theorem dX11_restAt_74 : decode cX11_restAt 74 = .ok (.goto 22, 3) := by decide +kernel
theorem dX11_restAt_77 : decode cX11_restAt 77 = .ok (.iload 5, 2) := by decide +kernel
theorem dX11_restAt_79 : decode cX11_restAt 79 = .ok (.iload 4, 2) := by decide +kernel
theorem dX11_restAt_81 : decode cX11_restAt 81 = .ok (.if_icmp .ne 12, 3) := by decide +kernel
theorem dX11_restAt_84 : decode cX11_restAt 84 = .ok (.bipush 10, 2) := by decide +kernel
theorem dX11_restAt_86 : decode cX11_restAt 86 = .ok (.iload 7, 2) := by decide +kernel
theorem dX11_restAt_88 : decode cX11_restAt 88 = .ok (.imul, 1) := by decide +kernel
theorem dX11_restAt_89 : decode cX11_restAt 89 = .ok (.iload 8, 2) := by decide +kernel
theorem dX11_restAt_91 : decode cX11_restAt 91 = .ok (.iadd, 1) := by decide +kernel
theorem dX11_restAt_92 : decode cX11_restAt 92 = .ok (.ireturn, 1) := by decide +kernel
theorem dX11_restAt_93 : decode cX11_restAt 93 = .ok (.iinc 5 1, 3) := by decide +kernel
theorem dX11_restAt_96 : decode cX11_restAt 96 = .ok (.iinc 6 1, 3) := by decide +kernel
theorem dX11_restAt_99 : decode cX11_restAt 99 = .ok (.goto (-93), 3) := by decide +kernel
theorem dX11_restAt_102 : decode cX11_restAt 102 = .ok (.iload 4, 2) := by decide +kernel
theorem dX11_restAt_104 : decode cX11_restAt 104 = .ok (.ifCond .ge 8, 3) := by decide +kernel
theorem dX11_restAt_107 : decode cX11_restAt 107 = .ok (.iload 5, 2) := by decide +kernel
theorem dX11_restAt_109 : decode cX11_restAt 109 = .ok (.goto 5, 3) := by decide +kernel
theorem dX11_restAt_112 : decode cX11_restAt 112 = .ok (.bipush (-2), 2) := by decide +kernel
theorem dX11_restAt_114 : decode cX11_restAt 114 = .ok (.ireturn, 1) := by decide +kernel
theorem dX11_areTwo_0 : decode cX11_areTwo 0 = .ok (.aload_n 0, 1) := by decide +kernel
theorem dX11_areTwo_1 : decode cX11_areTwo 1 = .ok (.iload_n 1, 1) := by decide +kernel
theorem dX11_areTwo_2 : decode cX11_areTwo 2 = .ok (.invokevirtual 443, 3) := by decide +kernel
theorem dX11_areTwo_5 : decode cX11_areTwo 5 = .ok (.ifCond .eq 28, 3) := by decide +kernel
theorem dX11_areTwo_8 : decode cX11_areTwo 8 = .ok (.aload_n 0, 1) := by decide +kernel
theorem dX11_areTwo_9 : decode cX11_areTwo 9 = .ok (.iload_n 2, 1) := by decide +kernel
theorem dX11_areTwo_10 : decode cX11_areTwo 10 = .ok (.invokevirtual 443, 3) := by decide +kernel
theorem dX11_areTwo_13 : decode cX11_areTwo 13 = .ok (.ifCond .eq 20, 3) := by decide +kernel
theorem dX11_areTwo_16 : decode cX11_areTwo 16 = .ok (.iload_n 1, 1) := by decide +kernel
theorem dX11_areTwo_17 : decode cX11_areTwo 17 = .ok (.iload_n 2, 1) := by decide +kernel
theorem dX11_areTwo_18 : decode cX11_areTwo 18 = .ok (.if_icmp .eq 15, 3) := by decide +kernel
theorem dX11_areTwo_21 : decode cX11_areTwo 21 = .ok (.aload_n 0, 1) := by decide +kernel
theorem dX11_areTwo_22 : decode cX11_areTwo 22 = .ok (.iload_n 3, 1) := by decide +kernel
theorem dX11_areTwo_23 : decode cX11_areTwo 23 = .ok (.invokevirtual 449, 3) := by decide +kernel
theorem dX11_areTwo_26 : decode cX11_areTwo 26 = .ok (.ifCond .eq 7, 3) := by decide +kernel
theorem dX11_areTwo_29 : decode cX11_areTwo 29 = .ok (.iconst 1, 1) := by decide +kernel
theorem dX11_areTwo_30 : decode cX11_areTwo 30 = .ok (.goto 4, 3) := by decide +kernel
theorem dX11_areTwo_33 : decode cX11_areTwo 33 = .ok (.iconst 0, 1) := by decide +kernel
theorem dX11_areTwo_34 : decode cX11_areTwo 34 = .ok (.ireturn, 1) := by decide +kernel
theorem dX11_rests_0 : decode cX11_rests 0 = .ok (.aload_n 0, 1) := by decide +kernel
theorem dX11_rests_1 : decode cX11_rests 1 = .ok (.iconst 0, 1) := by decide +kernel
theorem dX11_rests_2 : decode cX11_rests 2 = .ok (.putfield 151, 3) := by decide +kernel
theorem dX11_rests_5 : decode cX11_rests 5 = .ok (.aload_n 0, 1) := by decide +kernel
theorem dX11_rests_6 : decode cX11_rests 6 = .ok (.iload_n 1, 1) := by decide +kernel
theorem dX11_rests_7 : decode cX11_rests 7 = .ok (.iload_n 2, 1) := by decide +kernel
theorem dX11_rests_8 : decode cX11_rests 8 = .ok (.iload_n 3, 1) := by decide +kernel
theorem dX11_rests_9 : decode cX11_rests 9 = .ok (.invokevirtual 514, 3) := by decide +kernel
theorem dX11_rests_12 : decode cX11_rests 12 = .ok (.ifCond .eq 14, 3) := by decide +kernel
theorem dX11_rests_15 : decode cX11_rests 15 = .ok (.aload_n 0, 1) := by decide +kernel
theorem dX11_rests_16 : decode cX11_rests 16 = .ok (.iload_n 1, 1) := by decide +kernel
theorem dX11_rests_17 : decode cX11_rests 17 = .ok (.iload_n 2, 1) := by decide +kernel
theorem dX11_rests_18 : decode cX11_rests 18 = .ok (.iload_n 3, 1) := by decide +kernel
theorem dX11_rests_19 : decode cX11_rests 19 = .ok (.iconst (-1), 1) := by decide +kernel
theorem dX11_rests_20 : decode cX11_rests 20 = .ok (.invokevirtual 517, 3) := by decide +kernel
theorem dX11_rests_23 : decode cX11_rests 23 = .ok (.goto 4, 3) := by decide +kernel
theorem dX11_rests_26 : decode cX11_rests 26 = .ok (.iconst (-1), 1) := by decide +kernel
theorem dX11_rests_27 : decode cX11_rests 27 = .ok (.ireturn, 1) := by decide +kernel
theorem dX11_rest_0 : decode cX11_rest 0 = .ok (.aload_n 0, 1) := by decide +kernel
theorem dX11_rest_1 : decode cX11_rest 1 = .ok (.iconst 0, 1) := by decide +kernel
theorem dX11_rest_2 : decode cX11_rest 2 = .ok (.putfield 151, 3) := by decide +kernel
theorem dX11_rest_5 : decode cX11_rest 5 = .ok (.aload_n 0, 1) := by decide +kernel
theorem dX11_rest_6 : decode cX11_rest 6 = .ok (.iload_n 1, 1) := by decide +kernel
theorem dX11_rest_7 : decode cX11_rest 7 = .ok (.iload_n 2, 1) := by decide +kernel
theorem dX11_rest_8 : decode cX11_rest 8 = .ok (.iload_n 3, 1) := by decide +kernel
theorem dX11_rest_9 : decode cX11_rest 9 = .ok (.invokevirtual 514, 3) := by decide +kernel
theorem dX11_rest_12 : decode cX11_rest 12 = .ok (.ifCond .eq 20, 3) := by decide +kernel
theorem dX11_rest_15 : decode cX11_rest 15 = .ok (.iload 4, 2) := by decide +kernel
theorem dX11_rest_17 : decode cX11_rest 17 = .ok (.ifCond .lt 15, 3) := by decide +kernel
theorem dX11_rest_20 : decode cX11_rest 20 = .ok (.aload_n 0, 1) := by decide +kernel
theorem dX11_rest_21 : decode cX11_rest 21 = .ok (.iload_n 1, 1) := by decide +kernel
theorem dX11_rest_22 : decode cX11_rest 22 = .ok (.iload_n 2, 1) := by decide +kernel
theorem dX11_rest_23 : decode cX11_rest 23 = .ok (.iload_n 3, 1) := by decide +kernel
theorem dX11_rest_24 : decode cX11_rest 24 = .ok (.iload 4, 2) := by decide +kernel
theorem dX11_rest_26 : decode cX11_rest 26 = .ok (.invokevirtual 517, 3) := by decide +kernel
theorem dX11_rest_29 : decode cX11_rest 29 = .ok (.goto 4, 3) := by decide +kernel
theorem dX11_rest_32 : decode cX11_rest 32 = .ok (.iconst (-1), 1) := by decide +kernel
theorem dX11_rest_33 : decode cX11_rest 33 = .ok (.ireturn, 1) := by decide +kernel
theorem dX11_richest_0 : decode cX11_richest 0 = .ok (.aload_n 0, 1) := by decide +kernel
theorem dX11_richest_1 : decode cX11_richest 1 = .ok (.iconst 0, 1) := by decide +kernel
theorem dX11_richest_2 : decode cX11_richest 2 = .ok (.putfield 151, 3) := by decide +kernel
theorem dX11_richest_5 : decode cX11_richest 5 = .ok (.bipush (-2), 2) := by decide +kernel
theorem dX11_richest_7 : decode cX11_richest 7 = .ok (.istore_n 1, 1) := by decide +kernel
theorem dX11_richest_8 : decode cX11_richest 8 = .ok (.iconst 0, 1) := by decide +kernel
theorem dX11_richest_9 : decode cX11_richest 9 = .ok (.istore_n 2, 1) := by decide +kernel
theorem dX11_richest_10 : decode cX11_richest 10 = .ok (.iload_n 2, 1) := by decide +kernel
theorem dX11_richest_11 : decode cX11_richest 11 = .ok (.aload_n 0, 1) := by decide +kernel
theorem dX11_richest_12 : decode cX11_richest 12 = .ok (.getfield 234, 3) := by decide +kernel
theorem dX11_richest_15 : decode cX11_richest 15 = .ok (.if_icmp .ge 43, 3) := by decide +kernel
theorem dX11_richest_18 : decode cX11_richest 18 = .ok (.aload_n 0, 1) := by decide +kernel
theorem dX11_richest_19 : decode cX11_richest 19 = .ok (.getfield 106, 3) := by decide +kernel
theorem dX11_richest_22 : decode cX11_richest 22 = .ok (.iconst 0, 1) := by decide +kernel
theorem dX11_richest_23 : decode cX11_richest 23 = .ok (.iaload, 1) := by decide +kernel
theorem dX11_richest_24 : decode cX11_richest 24 = .ok (.iload_n 2, 1) := by decide +kernel
theorem dX11_richest_25 : decode cX11_richest 25 = .ok (.invokestatic 430, 3) := by decide +kernel
theorem dX11_richest_28 : decode cX11_richest 28 = .ok (.ifCond .ne 24, 3) := by decide +kernel
theorem dX11_richest_31 : decode cX11_richest 31 = .ok (.iload_n 1, 1) := by decide +kernel
theorem dX11_richest_32 : decode cX11_richest 32 = .ok (.ifCond .lt 18, 3) := by decide +kernel
theorem dX11_richest_35 : decode cX11_richest 35 = .ok (.aload_n 0, 1) := by decide +kernel
theorem dX11_richest_36 : decode cX11_richest 36 = .ok (.iconst 0, 1) := by decide +kernel
theorem dX11_richest_37 : decode cX11_richest 37 = .ok (.iload_n 2, 1) := by decide +kernel
theorem dX11_richest_38 : decode cX11_richest 38 = .ok (.invokevirtual 473, 3) := by decide +kernel
theorem dX11_richest_41 : decode cX11_richest 41 = .ok (.aload_n 0, 1) := by decide +kernel
theorem dX11_richest_42 : decode cX11_richest 42 = .ok (.iconst 0, 1) := by decide +kernel
theorem dX11_richest_43 : decode cX11_richest 43 = .ok (.iload_n 1, 1) := by decide +kernel
theorem dX11_richest_44 : decode cX11_richest 44 = .ok (.invokevirtual 473, 3) := by decide +kernel
theorem dX11_richest_47 : decode cX11_richest 47 = .ok (.if_icmp .le 5, 3) := by decide +kernel
theorem dX11_richest_50 : decode cX11_richest 50 = .ok (.iload_n 2, 1) := by decide +kernel
theorem dX11_richest_51 : decode cX11_richest 51 = .ok (.istore_n 1, 1) := by decide +kernel
theorem dX11_richest_52 : decode cX11_richest 52 = .ok (.iinc 2 1, 3) := by decide +kernel
theorem dX11_richest_55 : decode cX11_richest 55 = .ok (.goto (-45), 3) := by decide +kernel
theorem dX11_richest_58 : decode cX11_richest 58 = .ok (.iload_n 1, 1) := by decide +kernel
theorem dX11_richest_59 : decode cX11_richest 59 = .ok (.ireturn, 1) := by decide +kernel
theorem dX11_mostOf_0 : decode cX11_mostOf 0 = .ok (.iconst 0, 1) := by decide +kernel
theorem dX11_mostOf_1 : decode cX11_mostOf 1 = .ok (.istore_n 3, 1) := by decide +kernel
theorem dX11_mostOf_2 : decode cX11_mostOf 2 = .ok (.iconst 0, 1) := by decide +kernel
theorem dX11_mostOf_3 : decode cX11_mostOf 3 = .ok (.istore 4, 2) := by decide +kernel
theorem dX11_mostOf_5 : decode cX11_mostOf 5 = .ok (.iload 4, 2) := by decide +kernel
theorem dX11_mostOf_7 : decode cX11_mostOf 7 = .ok (.aload_n 0, 1) := by decide +kernel
theorem dX11_mostOf_8 : decode cX11_mostOf 8 = .ok (.getfield 234, 3) := by decide +kernel
theorem dX11_mostOf_11 : decode cX11_mostOf 11 = .ok (.if_icmp .ge 41, 3) := by decide +kernel
theorem dX11_mostOf_14 : decode cX11_mostOf 14 = .ok (.iload_n 1, 1) := by decide +kernel
theorem dX11_mostOf_15 : decode cX11_mostOf 15 = .ok (.iload 4, 2) := by decide +kernel
theorem dX11_mostOf_17 : decode cX11_mostOf 17 = .ok (.invokestatic 430, 3) := by decide +kernel
theorem dX11_mostOf_20 : decode cX11_mostOf 20 = .ok (.ifCond .eq 24, 3) := by decide +kernel
theorem dX11_mostOf_23 : decode cX11_mostOf 23 = .ok (.aload_n 0, 1) := by decide +kernel
theorem dX11_mostOf_24 : decode cX11_mostOf 24 = .ok (.iload 4, 2) := by decide +kernel
theorem dX11_mostOf_26 : decode cX11_mostOf 26 = .ok (.iload_n 2, 1) := by decide +kernel
theorem dX11_mostOf_27 : decode cX11_mostOf 27 = .ok (.invokevirtual 500, 3) := by decide +kernel
theorem dX11_mostOf_30 : decode cX11_mostOf 30 = .ok (.iload_n 3, 1) := by decide +kernel
theorem dX11_mostOf_31 : decode cX11_mostOf 31 = .ok (.if_icmp .le 13, 3) := by decide +kernel
theorem dX11_mostOf_34 : decode cX11_mostOf 34 = .ok (.aload_n 0, 1) := by decide +kernel
theorem dX11_mostOf_35 : decode cX11_mostOf 35 = .ok (.iload 4, 2) := by decide +kernel
theorem dX11_mostOf_37 : decode cX11_mostOf 37 = .ok (.iload_n 2, 1) := by decide +kernel
theorem dX11_mostOf_38 : decode cX11_mostOf 38 = .ok (.invokevirtual 500, 3) := by decide +kernel
theorem dX11_mostOf_41 : decode cX11_mostOf 41 = .ok (.goto 4, 3) := by decide +kernel
theorem dX11_mostOf_44 : decode cX11_mostOf 44 = .ok (.iload_n 3, 1) := by decide +kernel
theorem dX11_mostOf_45 : decode cX11_mostOf 45 = .ok (.istore_n 3, 1) := by decide +kernel
theorem dX11_mostOf_46 : decode cX11_mostOf 46 = .ok (.iinc 4 1, 3) := by decide +kernel
theorem dX11_mostOf_49 : decode cX11_mostOf 49 = .ok (.goto (-44), 3) := by decide +kernel
theorem dX11_mostOf_52 : decode cX11_mostOf 52 = .ok (.iload_n 3, 1) := by decide +kernel
theorem dX11_mostOf_53 : decode cX11_mostOf 53 = .ok (.ireturn, 1) := by decide +kernel
theorem dX11_leave_0 : decode cX11_leave 0 = .ok (.aload_n 0, 1) := by decide +kernel
theorem dX11_leave_1 : decode cX11_leave 1 = .ok (.iconst 0, 1) := by decide +kernel
theorem dX11_leave_2 : decode cX11_leave 2 = .ok (.putfield 151, 3) := by decide +kernel
theorem dX11_leave_5 : decode cX11_leave 5 = .ok (.aload_n 0, 1) := by decide +kernel
theorem dX11_leave_6 : decode cX11_leave 6 = .ok (.iload_n 1, 1) := by decide +kernel
theorem dX11_leave_7 : decode cX11_leave 7 = .ok (.invokevirtual 497, 3) := by decide +kernel
theorem dX11_leave_10 : decode cX11_leave 10 = .ok (.ifCond .eq 15, 3) := by decide +kernel
theorem dX11_leave_13 : decode cX11_leave 13 = .ok (.iload_n 1, 1) := by decide +kernel
theorem dX11_leave_14 : decode cX11_leave 14 = .ok (.ifCond .eq 11, 3) := by decide +kernel
theorem dX11_leave_17 : decode cX11_leave 17 = .ok (.aload_n 0, 1) := by decide +kernel
theorem dX11_leave_18 : decode cX11_leave 18 = .ok (.iload_n 2, 1) := by decide +kernel
theorem dX11_leave_19 : decode cX11_leave 19 = .ok (.invokevirtual 449, 3) := by decide +kernel
theorem dX11_leave_22 : decode cX11_leave 22 = .ok (.ifCond .ne 5, 3) := by decide +kernel
theorem dX11_leave_25 : decode cX11_leave 25 = .ok (.iconst (-1), 1) := by decide +kernel
theorem dX11_leave_26 : decode cX11_leave 26 = .ok (.ireturn, 1) := by decide +kernel
theorem dX11_leave_27 : decode cX11_leave 27 = .ok (.iconst 1, 1) := by decide +kernel
theorem dX11_leave_28 : decode cX11_leave 28 = .ok (.istore_n 3, 1) := by decide +kernel
theorem dX11_leave_29 : decode cX11_leave 29 = .ok (.iload_n 3, 1) := by decide +kernel
theorem dX11_leave_30 : decode cX11_leave 30 = .ok (.iload_n 1, 1) := by decide +kernel
theorem dX11_leave_31 : decode cX11_leave 31 = .ok (.if_icmp .gt 44, 3) := by decide +kernel
theorem dX11_leave_34 : decode cX11_leave 34 = .ok (.iload_n 3, 1) := by decide +kernel
theorem dX11_leave_35 : decode cX11_leave 35 = .ok (.iload_n 1, 1) := by decide +kernel
theorem dX11_leave_36 : decode cX11_leave 36 = .ok (.iconst (-1), 1) := by decide +kernel
theorem dX11_leave_37 : decode cX11_leave 37 = .ok (.ixor, 1) := by decide +kernel
theorem dX11_leave_38 : decode cX11_leave 38 = .ok (.iand, 1) := by decide +kernel
theorem dX11_leave_39 : decode cX11_leave 39 = .ok (.ifCond .ne 30, 3) := by decide +kernel
theorem dX11_leave_42 : decode cX11_leave 42 = .ok (.aload_n 0, 1) := by decide +kernel
theorem dX11_leave_43 : decode cX11_leave 43 = .ok (.iload_n 3, 1) := by decide +kernel
theorem dX11_leave_44 : decode cX11_leave 44 = .ok (.iload_n 2, 1) := by decide +kernel
theorem dX11_leave_45 : decode cX11_leave 45 = .ok (.invokevirtual 520, 3) := by decide +kernel
theorem dX11_leave_48 : decode cX11_leave 48 = .ok (.iload_n 1, 1) := by decide +kernel
theorem dX11_leave_49 : decode cX11_leave 49 = .ok (.invokestatic 467, 3) := by decide +kernel
theorem dX11_leave_52 : decode cX11_leave 52 = .ok (.imul, 1) := by decide +kernel
theorem dX11_leave_53 : decode cX11_leave 53 = .ok (.aload_n 0, 1) := by decide +kernel
theorem dX11_leave_54 : decode cX11_leave 54 = .ok (.iload_n 1, 1) := by decide +kernel
theorem dX11_leave_55 : decode cX11_leave 55 = .ok (.iload_n 2, 1) := by decide +kernel
theorem dX11_leave_56 : decode cX11_leave 56 = .ok (.invokevirtual 520, 3) := by decide +kernel
theorem dX11_leave_59 : decode cX11_leave 59 = .ok (.iload_n 3, 1) := by decide +kernel
theorem dX11_leave_60 : decode cX11_leave 60 = .ok (.invokestatic 467, 3) := by decide +kernel
theorem dX11_leave_63 : decode cX11_leave 63 = .ok (.imul, 1) := by decide +kernel
theorem dX11_leave_64 : decode cX11_leave 64 = .ok (.if_icmp .ge 5, 3) := by decide +kernel
theorem dX11_leave_67 : decode cX11_leave 67 = .ok (.iload_n 3, 1) := by decide +kernel
theorem dX11_leave_68 : decode cX11_leave 68 = .ok (.ireturn, 1) := by decide +kernel
theorem dX11_leave_69 : decode cX11_leave 69 = .ok (.iinc 3 1, 3) := by decide +kernel
theorem dX11_leave_72 : decode cX11_leave 72 = .ok (.goto (-43), 3) := by decide +kernel
theorem dX11_leave_75 : decode cX11_leave 75 = .ok (.bipush (-2), 2) := by decide +kernel
theorem dX11_leave_77 : decode cX11_leave 77 = .ok (.ireturn, 1) := by decide +kernel
theorem dX11_blinds_0 : decode cX11_blinds 0 = .ok (.aload_n 0, 1) := by decide +kernel
theorem dX11_blinds_1 : decode cX11_blinds 1 = .ok (.iconst 0, 1) := by decide +kernel
theorem dX11_blinds_2 : decode cX11_blinds 2 = .ok (.putfield 151, 3) := by decide +kernel
theorem dX11_blinds_5 : decode cX11_blinds 5 = .ok (.iload_n 1, 1) := by decide +kernel
theorem dX11_blinds_6 : decode cX11_blinds 6 = .ok (.iconst 0, 1) := by decide +kernel
theorem dX11_blinds_7 : decode cX11_blinds 7 = .ok (.bipush 60, 2) := by decide +kernel
theorem dX11_blinds_9 : decode cX11_blinds 9 = .ok (.invokestatic 196, 3) := by decide +kernel
theorem dX11_blinds_12 : decode cX11_blinds 12 = .ok (.ifCond .eq 12, 3) := by decide +kernel
theorem dX11_blinds_15 : decode cX11_blinds 15 = .ok (.iload_n 2, 1) := by decide +kernel
theorem dX11_blinds_16 : decode cX11_blinds 16 = .ok (.iconst 0, 1) := by decide +kernel
theorem dX11_blinds_17 : decode cX11_blinds 17 = .ok (.iconst 1, 1) := by decide +kernel
theorem dX11_blinds_18 : decode cX11_blinds 18 = .ok (.invokestatic 196, 3) := by decide +kernel
theorem dX11_blinds_21 : decode cX11_blinds 21 = .ok (.ifCond .ne 5, 3) := by decide +kernel
theorem dX11_blinds_24 : decode cX11_blinds 24 = .ok (.iconst (-1), 1) := by decide +kernel
theorem dX11_blinds_25 : decode cX11_blinds 25 = .ok (.ireturn, 1) := by decide +kernel
theorem dX11_blinds_26 : decode cX11_blinds 26 = .ok (.iconst (-1), 1) := by decide +kernel
theorem dX11_blinds_27 : decode cX11_blinds 27 = .ok (.istore_n 3, 1) := by decide +kernel
theorem dX11_blinds_28 : decode cX11_blinds 28 = .ok (.iconst 0, 1) := by decide +kernel
theorem dX11_blinds_29 : decode cX11_blinds 29 = .ok (.istore 4, 2) := by decide +kernel
theorem dX11_blinds_31 : decode cX11_blinds 31 = .ok (.iconst 0, 1) := by decide +kernel
theorem dX11_blinds_32 : decode cX11_blinds 32 = .ok (.istore 5, 2) := by decide +kernel
theorem dX11_blinds_34 : decode cX11_blinds 34 = .ok (.iload 5, 2) := by decide +kernel
theorem dX11_blinds_36 : decode cX11_blinds 36 = .ok (.iconst 1, 1) := by decide +kernel
theorem dX11_blinds_37 : decode cX11_blinds 37 = .ok (.aload_n 0, 1) := by decide +kernel
theorem dX11_blinds_38 : decode cX11_blinds 38 = .ok (.getfield 234, 3) := by decide +kernel
theorem dX11_blinds_41 : decode cX11_blinds 41 = .ok (.ishl, 1) := by decide +kernel
theorem dX11_blinds_42 : decode cX11_blinds 42 = .ok (.if_icmp .ge 102, 3) := by decide +kernel
theorem dX11_blinds_45 : decode cX11_blinds 45 = .ok (.iload 5, 2) := by decide +kernel
theorem dX11_blinds_47 : decode cX11_blinds 47 = .ok (.aload_n 0, 1) := by decide +kernel
theorem dX11_blinds_48 : decode cX11_blinds 48 = .ok (.getfield 106, 3) := by decide +kernel
theorem dX11_blinds_51 : decode cX11_blinds 51 = .ok (.iconst 0, 1) := by decide +kernel
theorem dX11_blinds_52 : decode cX11_blinds 52 = .ok (.iaload, 1) := by decide +kernel
theorem dX11_blinds_53 : decode cX11_blinds 53 = .ok (.aload_n 0, 1) := by decide +kernel
theorem dX11_blinds_54 : decode cX11_blinds 54 = .ok (.getfield 109, 3) := by decide +kernel
theorem dX11_blinds_57 : decode cX11_blinds 57 = .ok (.iconst 0, 1) := by decide +kernel
theorem dX11_blinds_58 : decode cX11_blinds 58 = .ok (.iaload, 1) := by decide +kernel
theorem dX11_blinds_59 : decode cX11_blinds 59 = .ok (.ior, 1) := by decide +kernel
theorem dX11_blinds_60 : decode cX11_blinds 60 = .ok (.iand, 1) := by decide +kernel
theorem dX11_blinds_61 : decode cX11_blinds 61 = .ok (.ifCond .eq 6, 3) := by decide +kernel
theorem dX11_blinds_64 : decode cX11_blinds 64 = .ok (.goto 74, 3) := by decide +kernel
theorem dX11_blinds_67 : decode cX11_blinds 67 = .ok (.aload_n 0, 1) := by decide +kernel
theorem dX11_blinds_68 : decode cX11_blinds 68 = .ok (.invokevirtual 461, 3) := by decide +kernel
theorem dX11_blinds_71 : decode cX11_blinds 71 = .ok (.aload_n 0, 1) := by decide +kernel
theorem dX11_blinds_72 : decode cX11_blinds 72 = .ok (.getfield 109, 3) := by decide +kernel
theorem dX11_blinds_75 : decode cX11_blinds 75 = .ok (.iconst 1, 1) := by decide +kernel
theorem dX11_blinds_76 : decode cX11_blinds 76 = .ok (.dup2, 1) := by decide +kernel
theorem dX11_blinds_77 : decode cX11_blinds 77 = .ok (.iaload, 1) := by decide +kernel
theorem dX11_blinds_78 : decode cX11_blinds 78 = .ok (.iload 5, 2) := by decide +kernel
theorem dX11_blinds_80 : decode cX11_blinds 80 = .ok (.ior, 1) := by decide +kernel
theorem dX11_blinds_81 : decode cX11_blinds 81 = .ok (.iastore, 1) := by decide +kernel
theorem dX11_blinds_82 : decode cX11_blinds 82 = .ok (.aload_n 0, 1) := by decide +kernel
theorem dX11_blinds_83 : decode cX11_blinds 83 = .ok (.iload_n 1, 1) := by decide +kernel
theorem dX11_blinds_84 : decode cX11_blinds 84 = .ok (.invokevirtual 464, 3) := by decide +kernel
theorem dX11_blinds_87 : decode cX11_blinds 87 = .ok (.aload_n 0, 1) := by decide +kernel
theorem dX11_blinds_88 : decode cX11_blinds 88 = .ok (.getfield 106, 3) := by decide +kernel
theorem dX11_blinds_91 : decode cX11_blinds 91 = .ok (.iconst 1, 1) := by decide +kernel
theorem dX11_blinds_92 : decode cX11_blinds 92 = .ok (.iaload, 1) := by decide +kernel
theorem dX11_blinds_93 : decode cX11_blinds 93 = .ok (.invokestatic 467, 3) := by decide +kernel
theorem dX11_blinds_96 : decode cX11_blinds 96 = .ok (.istore 6, 2) := by decide +kernel
theorem dX11_blinds_98 : decode cX11_blinds 98 = .ok (.iload_n 3, 1) := by decide +kernel
theorem dX11_blinds_99 : decode cX11_blinds 99 = .ok (.ifCond .lt 32, 3) := by decide +kernel
theorem dX11_blinds_102 : decode cX11_blinds 102 = .ok (.iload 6, 2) := by decide +kernel
theorem dX11_blinds_104 : decode cX11_blinds 104 = .ok (.iload 4, 2) := by decide +kernel
theorem dX11_blinds_106 : decode cX11_blinds 106 = .ok (.if_icmp .gt 32, 3) := by decide +kernel
theorem dX11_blinds_109 : decode cX11_blinds 109 = .ok (.iload 6, 2) := by decide +kernel
theorem dX11_blinds_111 : decode cX11_blinds 111 = .ok (.iload 4, 2) := by decide +kernel
theorem dX11_blinds_113 : decode cX11_blinds 113 = .ok (.if_icmp .ne 18, 3) := by decide +kernel
theorem dX11_blinds_116 : decode cX11_blinds 116 = .ok (.iload 5, 2) := by decide +kernel
theorem dX11_blinds_118 : decode cX11_blinds 118 = .ok (.invokestatic 467, 3) := by decide +kernel
theorem dX11_blinds_121 : decode cX11_blinds 121 = .ok (.iload_n 3, 1) := by decide +kernel
theorem dX11_blinds_122 : decode cX11_blinds 122 = .ok (.invokestatic 467, 3) := by decide +kernel
theorem dX11_blinds_125 : decode cX11_blinds 125 = .ok (.if_icmp .lt 6, 3) := by decide +kernel
theorem dX11_blinds_128 : decode cX11_blinds 128 = .ok (.goto 10, 3) := by decide +kernel
theorem dX11_blinds_131 : decode cX11_blinds 131 = .ok (.iload 5, 2) := by decide +kernel
theorem dX11_blinds_133 : decode cX11_blinds 133 = .ok (.istore_n 3, 1) := by decide +kernel
theorem dX11_blinds_134 : decode cX11_blinds 134 = .ok (.iload 6, 2) := by decide +kernel
theorem dX11_blinds_136 : decode cX11_blinds 136 = .ok (.istore 4, 2) := by decide +kernel
theorem dX11_blinds_138 : decode cX11_blinds 138 = .ok (.iinc 5 1, 3) := by decide +kernel
theorem dX11_blinds_141 : decode cX11_blinds 141 = .ok (.goto (-107), 3) := by decide +kernel
theorem dX11_blinds_144 : decode cX11_blinds 144 = .ok (.iload_n 2, 1) := by decide +kernel
theorem dX11_blinds_145 : decode cX11_blinds 145 = .ok (.ifCond .ne 7, 3) := by decide +kernel
theorem dX11_blinds_148 : decode cX11_blinds 148 = .ok (.iload_n 3, 1) := by decide +kernel
theorem dX11_blinds_149 : decode cX11_blinds 149 = .ok (.goto 5, 3) := by decide +kernel
theorem dX11_blinds_152 : decode cX11_blinds 152 = .ok (.iload 4, 2) := by decide +kernel
theorem dX11_blinds_154 : decode cX11_blinds 154 = .ok (.ireturn, 1) := by decide +kernel
theorem dX11_sumOf_0 : decode cX11_sumOf 0 = .ok (.iconst 0, 1) := by decide +kernel
theorem dX11_sumOf_1 : decode cX11_sumOf 1 = .ok (.istore_n 2, 1) := by decide +kernel
theorem dX11_sumOf_2 : decode cX11_sumOf 2 = .ok (.iconst 0, 1) := by decide +kernel
theorem dX11_sumOf_3 : decode cX11_sumOf 3 = .ok (.istore_n 3, 1) := by decide +kernel
theorem dX11_sumOf_4 : decode cX11_sumOf 4 = .ok (.iload_n 3, 1) := by decide +kernel
theorem dX11_sumOf_5 : decode cX11_sumOf 5 = .ok (.aload_n 0, 1) := by decide +kernel
theorem dX11_sumOf_6 : decode cX11_sumOf 6 = .ok (.getfield 234, 3) := by decide +kernel
theorem dX11_sumOf_9 : decode cX11_sumOf 9 = .ok (.if_icmp .ge 30, 3) := by decide +kernel
theorem dX11_sumOf_12 : decode cX11_sumOf 12 = .ok (.iload_n 2, 1) := by decide +kernel
theorem dX11_sumOf_13 : decode cX11_sumOf 13 = .ok (.iload_n 1, 1) := by decide +kernel
theorem dX11_sumOf_14 : decode cX11_sumOf 14 = .ok (.iload_n 3, 1) := by decide +kernel
theorem dX11_sumOf_15 : decode cX11_sumOf 15 = .ok (.invokestatic 430, 3) := by decide +kernel
theorem dX11_sumOf_18 : decode cX11_sumOf 18 = .ok (.ifCond .eq 12, 3) := by decide +kernel
theorem dX11_sumOf_21 : decode cX11_sumOf 21 = .ok (.aload_n 0, 1) := by decide +kernel
theorem dX11_sumOf_22 : decode cX11_sumOf 22 = .ok (.iconst 0, 1) := by decide +kernel
theorem dX11_sumOf_23 : decode cX11_sumOf 23 = .ok (.iload_n 3, 1) := by decide +kernel
theorem dX11_sumOf_24 : decode cX11_sumOf 24 = .ok (.invokevirtual 473, 3) := by decide +kernel
theorem dX11_sumOf_27 : decode cX11_sumOf 27 = .ok (.goto 4, 3) := by decide +kernel
theorem dX11_sumOf_30 : decode cX11_sumOf 30 = .ok (.iconst 0, 1) := by decide +kernel
theorem dX11_sumOf_31 : decode cX11_sumOf 31 = .ok (.iadd, 1) := by decide +kernel
theorem dX11_sumOf_32 : decode cX11_sumOf 32 = .ok (.istore_n 2, 1) := by decide +kernel
theorem dX11_sumOf_33 : decode cX11_sumOf 33 = .ok (.iinc 3 1, 3) := by decide +kernel
theorem dX11_sumOf_36 : decode cX11_sumOf 36 = .ok (.goto (-32), 3) := by decide +kernel
theorem dX11_sumOf_39 : decode cX11_sumOf 39 = .ok (.iload_n 2, 1) := by decide +kernel
theorem dX11_sumOf_40 : decode cX11_sumOf 40 = .ok (.ireturn, 1) := by decide +kernel
theorem dX11_among_0 : decode cX11_among 0 = .ok (.aload_n 0, 1) := by decide +kernel
theorem dX11_among_1 : decode cX11_among 1 = .ok (.iconst 0, 1) := by decide +kernel
theorem dX11_among_2 : decode cX11_among 2 = .ok (.putfield 151, 3) := by decide +kernel
theorem dX11_among_5 : decode cX11_among 5 = .ok (.iload_n 1, 1) := by decide +kernel
theorem dX11_among_6 : decode cX11_among 6 = .ok (.iconst 1, 1) := by decide +kernel
theorem dX11_among_7 : decode cX11_among 7 = .ok (.sipush 9999, 3) := by decide +kernel
theorem dX11_among_10 : decode cX11_among 10 = .ok (.invokestatic 196, 3) := by decide +kernel
theorem dX11_among_13 : decode cX11_among 13 = .ok (.ifCond .ne 5, 3) := by decide +kernel
theorem dX11_among_16 : decode cX11_among 16 = .ok (.iconst (-1), 1) := by decide +kernel
theorem dX11_among_17 : decode cX11_among 17 = .ok (.ireturn, 1) := by decide +kernel
theorem dX11_among_18 : decode cX11_among 18 = .ok (.bipush (-2), 2) := by decide +kernel
theorem dX11_among_20 : decode cX11_among 20 = .ok (.istore_n 2, 1) := by decide +kernel
theorem dX11_among_21 : decode cX11_among 21 = .ok (.iconst 0, 1) := by decide +kernel
theorem dX11_among_22 : decode cX11_among 22 = .ok (.istore_n 3, 1) := by decide +kernel
theorem dX11_among_23 : decode cX11_among 23 = .ok (.iload_n 3, 1) := by decide +kernel
theorem dX11_among_24 : decode cX11_among 24 = .ok (.iconst 1, 1) := by decide +kernel
theorem dX11_among_25 : decode cX11_among 25 = .ok (.aload_n 0, 1) := by decide +kernel
theorem dX11_among_26 : decode cX11_among 26 = .ok (.getfield 234, 3) := by decide +kernel
theorem dX11_among_29 : decode cX11_among 29 = .ok (.ishl, 1) := by decide +kernel
theorem dX11_among_30 : decode cX11_among 30 = .ok (.if_icmp .ge 49, 3) := by decide +kernel
theorem dX11_among_33 : decode cX11_among 33 = .ok (.iload_n 3, 1) := by decide +kernel
theorem dX11_among_34 : decode cX11_among 34 = .ok (.aload_n 0, 1) := by decide +kernel
theorem dX11_among_35 : decode cX11_among 35 = .ok (.getfield 106, 3) := by decide +kernel
theorem dX11_among_38 : decode cX11_among 38 = .ok (.iconst 0, 1) := by decide +kernel
theorem dX11_among_39 : decode cX11_among 39 = .ok (.iaload, 1) := by decide +kernel
theorem dX11_among_40 : decode cX11_among 40 = .ok (.iand, 1) := by decide +kernel
theorem dX11_among_41 : decode cX11_among 41 = .ok (.ifCond .ne 32, 3) := by decide +kernel
theorem dX11_among_44 : decode cX11_among 44 = .ok (.aload_n 0, 1) := by decide +kernel
theorem dX11_among_45 : decode cX11_among 45 = .ok (.iload_n 3, 1) := by decide +kernel
theorem dX11_among_46 : decode cX11_among 46 = .ok (.invokevirtual 523, 3) := by decide +kernel
theorem dX11_among_49 : decode cX11_among 49 = .ok (.iload_n 1, 1) := by decide +kernel
theorem dX11_among_50 : decode cX11_among 50 = .ok (.if_icmp .ge 6, 3) := by decide +kernel
theorem dX11_among_53 : decode cX11_among 53 = .ok (.goto 20, 3) := by decide +kernel
theorem dX11_among_56 : decode cX11_among 56 = .ok (.iload_n 2, 1) := by decide +kernel
theorem dX11_among_57 : decode cX11_among 57 = .ok (.ifCond .lt 14, 3) := by decide +kernel
theorem dX11_among_60 : decode cX11_among 60 = .ok (.iload_n 3, 1) := by decide +kernel
theorem dX11_among_61 : decode cX11_among 61 = .ok (.invokestatic 467, 3) := by decide +kernel
theorem dX11_among_64 : decode cX11_among 64 = .ok (.iload_n 2, 1) := by decide +kernel
theorem dX11_among_65 : decode cX11_among 65 = .ok (.invokestatic 467, 3) := by decide +kernel
theorem dX11_among_68 : decode cX11_among 68 = .ok (.if_icmp .ge 5, 3) := by decide +kernel
theorem dX11_among_71 : decode cX11_among 71 = .ok (.iload_n 3, 1) := by decide +kernel
theorem dX11_among_72 : decode cX11_among 72 = .ok (.istore_n 2, 1) := by decide +kernel
theorem dX11_among_73 : decode cX11_among 73 = .ok (.iinc 3 1, 3) := by decide +kernel
theorem dX11_among_76 : decode cX11_among 76 = .ok (.goto (-53), 3) := by decide +kernel
theorem dX11_among_79 : decode cX11_among 79 = .ok (.iload_n 2, 1) := by decide +kernel
theorem dX11_among_80 : decode cX11_among 80 = .ok (.ireturn, 1) := by decide +kernel
theorem dX11_rescue_0 : decode cX11_rescue 0 = .ok (.aload_n 0, 1) := by decide +kernel
theorem dX11_rescue_1 : decode cX11_rescue 1 = .ok (.iconst 0, 1) := by decide +kernel
theorem dX11_rescue_2 : decode cX11_rescue 2 = .ok (.putfield 151, 3) := by decide +kernel
theorem dX11_rescue_5 : decode cX11_rescue 5 = .ok (.aload_n 0, 1) := by decide +kernel
theorem dX11_rescue_6 : decode cX11_rescue 6 = .ok (.invokevirtual 461, 3) := by decide +kernel
theorem dX11_rescue_9 : decode cX11_rescue 9 = .ok (.aload_n 0, 1) := by decide +kernel
theorem dX11_rescue_10 : decode cX11_rescue 10 = .ok (.aload_n 0, 1) := by decide +kernel
theorem dX11_rescue_11 : decode cX11_rescue 11 = .ok (.getfield 24, 3) := by decide +kernel
theorem dX11_rescue_14 : decode cX11_rescue 14 = .ok (.iconst 0, 1) := by decide +kernel
theorem dX11_rescue_15 : decode cX11_rescue 15 = .ok (.iaload, 1) := by decide +kernel
theorem dX11_rescue_16 : decode cX11_rescue 16 = .ok (.aload_n 0, 1) := by decide +kernel
theorem dX11_rescue_17 : decode cX11_rescue 17 = .ok (.getfield 118, 3) := by decide +kernel
theorem dX11_rescue_20 : decode cX11_rescue 20 = .ok (.iconst 0, 1) := by decide +kernel
theorem dX11_rescue_21 : decode cX11_rescue 21 = .ok (.iaload, 1) := by decide +kernel
theorem dX11_rescue_22 : decode cX11_rescue 22 = .ok (.aload_n 0, 1) := by decide +kernel
theorem dX11_rescue_23 : decode cX11_rescue 23 = .ok (.getfield 24, 3) := by decide +kernel
theorem dX11_rescue_26 : decode cX11_rescue 26 = .ok (.iconst 0, 1) := by decide +kernel
theorem dX11_rescue_27 : decode cX11_rescue 27 = .ok (.iaload, 1) := by decide +kernel
theorem dX11_rescue_28 : decode cX11_rescue 28 = .ok (.irem, 1) := by decide +kernel
theorem dX11_rescue_29 : decode cX11_rescue 29 = .ok (.isub, 1) := by decide +kernel
theorem dX11_rescue_30 : decode cX11_rescue 30 = .ok (.invokevirtual 464, 3) := by decide +kernel
theorem dX11_rescue_33 : decode cX11_rescue 33 = .ok (.iconst 0, 1) := by decide +kernel
theorem dX11_rescue_34 : decode cX11_rescue 34 = .ok (.istore_n 1, 1) := by decide +kernel
theorem dX11_rescue_35 : decode cX11_rescue 35 = .ok (.iconst 0, 1) := by decide +kernel
theorem dX11_rescue_36 : decode cX11_rescue 36 = .ok (.istore_n 2, 1) := by decide +kernel
theorem dX11_rescue_37 : decode cX11_rescue 37 = .ok (.iconst 0, 1) := by decide +kernel
theorem dX11_rescue_38 : decode cX11_rescue 38 = .ok (.istore_n 3, 1) := by decide +kernel
theorem dX11_rescue_39 : decode cX11_rescue 39 = .ok (.iload_n 3, 1) := by decide +kernel
theorem dX11_rescue_40 : decode cX11_rescue 40 = .ok (.aload_n 0, 1) := by decide +kernel
theorem dX11_rescue_41 : decode cX11_rescue 41 = .ok (.getfield 234, 3) := by decide +kernel
theorem dX11_rescue_44 : decode cX11_rescue 44 = .ok (.if_icmp .ge 66, 3) := by decide +kernel
theorem dX11_rescue_47 : decode cX11_rescue 47 = .ok (.aload_n 0, 1) := by decide +kernel
theorem dX11_rescue_48 : decode cX11_rescue 48 = .ok (.getfield 106, 3) := by decide +kernel
theorem dX11_rescue_51 : decode cX11_rescue 51 = .ok (.iconst 1, 1) := by decide +kernel
theorem dX11_rescue_52 : decode cX11_rescue 52 = .ok (.iaload, 1) := by decide +kernel
theorem dX11_rescue_53 : decode cX11_rescue 53 = .ok (.iload_n 3, 1) := by decide +kernel
theorem dX11_rescue_54 : decode cX11_rescue 54 = .ok (.invokestatic 430, 3) := by decide +kernel
theorem dX11_rescue_57 : decode cX11_rescue 57 = .ok (.ifCond .eq 35, 3) := by decide +kernel
theorem dX11_rescue_60 : decode cX11_rescue 60 = .ok (.iload_n 1, 1) := by decide +kernel
theorem dX11_rescue_61 : decode cX11_rescue 61 = .ok (.aload_n 0, 1) := by decide +kernel
theorem dX11_rescue_62 : decode cX11_rescue 62 = .ok (.getfield 106, 3) := by decide +kernel
theorem dX11_rescue_65 : decode cX11_rescue 65 = .ok (.iconst 0, 1) := by decide +kernel
theorem dX11_rescue_66 : decode cX11_rescue 66 = .ok (.iaload, 1) := by decide +kernel
theorem dX11_rescue_67 : decode cX11_rescue 67 = .ok (.iload_n 3, 1) := by decide +kernel
theorem dX11_rescue_68 : decode cX11_rescue 68 = .ok (.invokestatic 430, 3) := by decide +kernel
theorem dX11_rescue_71 : decode cX11_rescue 71 = .ok (.ifCond .eq 7, 3) := by decide +kernel
theorem dX11_rescue_74 : decode cX11_rescue 74 = .ok (.iconst 0, 1) := by decide +kernel
theorem dX11_rescue_75 : decode cX11_rescue 75 = .ok (.goto 12, 3) := by decide +kernel
theorem dX11_rescue_78 : decode cX11_rescue 78 = .ok (.aload_n 0, 1) := by decide +kernel
theorem dX11_rescue_79 : decode cX11_rescue 79 = .ok (.getfield 91, 3) := by decide +kernel
theorem dX11_rescue_82 : decode cX11_rescue 82 = .ok (.bipush 6, 2) := by decide +kernel
theorem dX11_rescue_84 : decode cX11_rescue 84 = .ok (.iload_n 3, 1) := by decide +kernel
theorem dX11_rescue_85 : decode cX11_rescue 85 = .ok (.iadd, 1) := by decide +kernel
theorem dX11_rescue_86 : decode cX11_rescue 86 = .ok (.iaload, 1) := by decide +kernel
theorem dX11_rescue_87 : decode cX11_rescue 87 = .ok (.isub, 1) := by decide +kernel
theorem dX11_rescue_88 : decode cX11_rescue 88 = .ok (.istore_n 1, 1) := by decide +kernel
theorem dX11_rescue_89 : decode cX11_rescue 89 = .ok (.goto 15, 3) := by decide +kernel
theorem dX11_rescue_92 : decode cX11_rescue 92 = .ok (.iload_n 2, 1) := by decide +kernel
theorem dX11_rescue_93 : decode cX11_rescue 93 = .ok (.aload_n 0, 1) := by decide +kernel
theorem dX11_rescue_94 : decode cX11_rescue 94 = .ok (.getfield 91, 3) := by decide +kernel
theorem dX11_rescue_97 : decode cX11_rescue 97 = .ok (.bipush 6, 2) := by decide +kernel
theorem dX11_rescue_99 : decode cX11_rescue 99 = .ok (.iload_n 3, 1) := by decide +kernel
theorem dX11_rescue_100 : decode cX11_rescue 100 = .ok (.iadd, 1) := by decide +kernel
theorem dX11_rescue_101 : decode cX11_rescue 101 = .ok (.iaload, 1) := by decide +kernel
theorem dX11_rescue_102 : decode cX11_rescue 102 = .ok (.iadd, 1) := by decide +kernel
theorem dX11_rescue_103 : decode cX11_rescue 103 = .ok (.istore_n 2, 1) := by decide +kernel
theorem dX11_rescue_104 : decode cX11_rescue 104 = .ok (.iinc 3 1, 3) := by decide +kernel
theorem dX11_rescue_107 : decode cX11_rescue 107 = .ok (.goto (-68), 3) := by decide +kernel
theorem dX11_rescue_110 : decode cX11_rescue 110 = .ok (.iload_n 2, 1) := by decide +kernel
theorem dX11_rescue_111 : decode cX11_rescue 111 = .ok (.iload_n 1, 1) := by decide +kernel
theorem dX11_rescue_112 : decode cX11_rescue 112 = .ok (.if_icmp .ge 8, 3) := by decide +kernel
theorem dX11_rescue_115 : decode cX11_rescue 115 = .ok (.bipush (-2), 2) := by decide +kernel
theorem dX11_rescue_117 : decode cX11_rescue 117 = .ok (.goto 4, 3) := by decide +kernel
theorem dX11_rescue_120 : decode cX11_rescue 120 = .ok (.iload_n 1, 1) := by decide +kernel
theorem dX11_rescue_121 : decode cX11_rescue 121 = .ok (.ireturn, 1) := by decide +kernel
theorem dX11_have_0 : decode cX11_have 0 = .ok (.aload_n 0, 1) := by decide +kernel
theorem dX11_have_1 : decode cX11_have 1 = .ok (.iconst 0, 1) := by decide +kernel
theorem dX11_have_2 : decode cX11_have 2 = .ok (.putfield 151, 3) := by decide +kernel
theorem dX11_have_5 : decode cX11_have 5 = .ok (.aload_n 0, 1) := by decide +kernel
theorem dX11_have_6 : decode cX11_have 6 = .ok (.iload_n 1, 1) := by decide +kernel
theorem dX11_have_7 : decode cX11_have 7 = .ok (.invokevirtual 497, 3) := by decide +kernel
theorem dX11_have_10 : decode cX11_have 10 = .ok (.ifCond .eq 11, 3) := by decide +kernel
theorem dX11_have_13 : decode cX11_have 13 = .ok (.aload_n 0, 1) := by decide +kernel
theorem dX11_have_14 : decode cX11_have 14 = .ok (.iload_n 1, 1) := by decide +kernel
theorem dX11_have_15 : decode cX11_have 15 = .ok (.invokevirtual 523, 3) := by decide +kernel
theorem dX11_have_18 : decode cX11_have 18 = .ok (.goto 6, 3) := by decide +kernel
theorem dX11_have_21 : decode cX11_have 21 = .ok (.ldc_w 460, 3) := by decide +kernel
theorem dX11_have_24 : decode cX11_have 24 = .ok (.ireturn, 1) := by decide +kernel
theorem dX11_dearest_0 : decode cX11_dearest 0 = .ok (.aload_n 0, 1) := by decide +kernel
theorem dX11_dearest_1 : decode cX11_dearest 1 = .ok (.iconst 0, 1) := by decide +kernel
theorem dX11_dearest_2 : decode cX11_dearest 2 = .ok (.putfield 151, 3) := by decide +kernel
theorem dX11_dearest_5 : decode cX11_dearest 5 = .ok (.bipush (-2), 2) := by decide +kernel
theorem dX11_dearest_7 : decode cX11_dearest 7 = .ok (.istore_n 1, 1) := by decide +kernel
theorem dX11_dearest_8 : decode cX11_dearest 8 = .ok (.iconst 0, 1) := by decide +kernel
theorem dX11_dearest_9 : decode cX11_dearest 9 = .ok (.istore_n 2, 1) := by decide +kernel
theorem dX11_dearest_10 : decode cX11_dearest 10 = .ok (.iload_n 2, 1) := by decide +kernel
theorem dX11_dearest_11 : decode cX11_dearest 11 = .ok (.aload_n 0, 1) := by decide +kernel
theorem dX11_dearest_12 : decode cX11_dearest 12 = .ok (.getfield 231, 3) := by decide +kernel
theorem dX11_dearest_15 : decode cX11_dearest 15 = .ok (.if_icmp .ge 44, 3) := by decide +kernel
theorem dX11_dearest_18 : decode cX11_dearest 18 = .ok (.iload_n 1, 1) := by decide +kernel
theorem dX11_dearest_19 : decode cX11_dearest 19 = .ok (.ifCond .lt 32, 3) := by decide +kernel
theorem dX11_dearest_22 : decode cX11_dearest 22 = .ok (.aload_n 0, 1) := by decide +kernel
theorem dX11_dearest_23 : decode cX11_dearest 23 = .ok (.getfield 30, 3) := by decide +kernel
theorem dX11_dearest_26 : decode cX11_dearest 26 = .ok (.iload_n 2, 1) := by decide +kernel
theorem dX11_dearest_27 : decode cX11_dearest 27 = .ok (.iaload, 1) := by decide +kernel
theorem dX11_dearest_28 : decode cX11_dearest 28 = .ok (.aload_n 0, 1) := by decide +kernel
theorem dX11_dearest_29 : decode cX11_dearest 29 = .ok (.getfield 33, 3) := by decide +kernel
theorem dX11_dearest_32 : decode cX11_dearest 32 = .ok (.iload_n 2, 1) := by decide +kernel
theorem dX11_dearest_33 : decode cX11_dearest 33 = .ok (.iaload, 1) := by decide +kernel
theorem dX11_dearest_34 : decode cX11_dearest 34 = .ok (.imul, 1) := by decide +kernel
theorem dX11_dearest_35 : decode cX11_dearest 35 = .ok (.aload_n 0, 1) := by decide +kernel
theorem dX11_dearest_36 : decode cX11_dearest 36 = .ok (.getfield 30, 3) := by decide +kernel
theorem dX11_dearest_39 : decode cX11_dearest 39 = .ok (.iload_n 1, 1) := by decide +kernel
theorem dX11_dearest_40 : decode cX11_dearest 40 = .ok (.iaload, 1) := by decide +kernel
theorem dX11_dearest_41 : decode cX11_dearest 41 = .ok (.aload_n 0, 1) := by decide +kernel
theorem dX11_dearest_42 : decode cX11_dearest 42 = .ok (.getfield 33, 3) := by decide +kernel
theorem dX11_dearest_45 : decode cX11_dearest 45 = .ok (.iload_n 1, 1) := by decide +kernel
theorem dX11_dearest_46 : decode cX11_dearest 46 = .ok (.iaload, 1) := by decide +kernel
theorem dX11_dearest_47 : decode cX11_dearest 47 = .ok (.imul, 1) := by decide +kernel
theorem dX11_dearest_48 : decode cX11_dearest 48 = .ok (.if_icmp .le 5, 3) := by decide +kernel
theorem dX11_dearest_51 : decode cX11_dearest 51 = .ok (.iload_n 2, 1) := by decide +kernel
theorem dX11_dearest_52 : decode cX11_dearest 52 = .ok (.istore_n 1, 1) := by decide +kernel
theorem dX11_dearest_53 : decode cX11_dearest 53 = .ok (.iinc 2 1, 3) := by decide +kernel
theorem dX11_dearest_56 : decode cX11_dearest 56 = .ok (.goto (-46), 3) := by decide +kernel
theorem dX11_dearest_59 : decode cX11_dearest 59 = .ok (.iload_n 1, 1) := by decide +kernel
theorem dX11_dearest_60 : decode cX11_dearest 60 = .ok (.ireturn, 1) := by decide +kernel
theorem dX11_notes1_0 : decode cX11_notes1 0 = .ok (.aload_n 0, 1) := by decide +kernel
theorem dX11_notes1_1 : decode cX11_notes1 1 = .ok (.getfield 362, 3) := by decide +kernel
theorem dX11_notes1_4 : decode cX11_notes1 4 = .ok (.bipush 24, 2) := by decide +kernel
theorem dX11_notes1_6 : decode cX11_notes1 6 = .ok (.if_icmp .ne 5, 3) := by decide +kernel
theorem dX11_notes1_9 : decode cX11_notes1 9 = .ok (.iconst (-1), 1) := by decide +kernel
theorem dX11_notes1_10 : decode cX11_notes1 10 = .ok (.ireturn, 1) := by decide +kernel
theorem dX11_notes1_11 : decode cX11_notes1 11 = .ok (.iconst 4, 1) := by decide +kernel
theorem dX11_notes1_12 : decode cX11_notes1 12 = .ok (.aload_n 0, 1) := by decide +kernel
theorem dX11_notes1_13 : decode cX11_notes1 13 = .ok (.getfield 362, 3) := by decide +kernel
theorem dX11_notes1_16 : decode cX11_notes1 16 = .ok (.imul, 1) := by decide +kernel
theorem dX11_notes1_17 : decode cX11_notes1 17 = .ok (.istore 5, 2) := by decide +kernel
theorem dX11_notes1_19 : decode cX11_notes1 19 = .ok (.aload_n 0, 1) := by decide +kernel
theorem dX11_notes1_20 : decode cX11_notes1 20 = .ok (.getfield 130, 3) := by decide +kernel
theorem dX11_notes1_23 : decode cX11_notes1 23 = .ok (.iload 5, 2) := by decide +kernel
theorem dX11_notes1_25 : decode cX11_notes1 25 = .ok (.iload_n 1, 1) := by decide +kernel
theorem dX11_notes1_26 : decode cX11_notes1 26 = .ok (.iastore, 1) := by decide +kernel
theorem dX11_notes1_27 : decode cX11_notes1 27 = .ok (.aload_n 0, 1) := by decide +kernel
theorem dX11_notes1_28 : decode cX11_notes1 28 = .ok (.getfield 130, 3) := by decide +kernel
theorem dX11_notes1_31 : decode cX11_notes1 31 = .ok (.iload 5, 2) := by decide +kernel
theorem dX11_notes1_33 : decode cX11_notes1 33 = .ok (.iconst 1, 1) := by decide +kernel
theorem dX11_notes1_34 : decode cX11_notes1 34 = .ok (.iadd, 1) := by decide +kernel
theorem dX11_notes1_35 : decode cX11_notes1 35 = .ok (.iload_n 2, 1) := by decide +kernel
theorem dX11_notes1_36 : decode cX11_notes1 36 = .ok (.iastore, 1) := by decide +kernel
theorem dX11_notes1_37 : decode cX11_notes1 37 = .ok (.aload_n 0, 1) := by decide +kernel
theorem dX11_notes1_38 : decode cX11_notes1 38 = .ok (.getfield 130, 3) := by decide +kernel
theorem dX11_notes1_41 : decode cX11_notes1 41 = .ok (.iload 5, 2) := by decide +kernel
theorem dX11_notes1_43 : decode cX11_notes1 43 = .ok (.iconst 2, 1) := by decide +kernel
theorem dX11_notes1_44 : decode cX11_notes1 44 = .ok (.iadd, 1) := by decide +kernel
theorem dX11_notes1_45 : decode cX11_notes1 45 = .ok (.iload_n 3, 1) := by decide +kernel
theorem dX11_notes1_46 : decode cX11_notes1 46 = .ok (.iastore, 1) := by decide +kernel
theorem dX11_notes1_47 : decode cX11_notes1 47 = .ok (.aload_n 0, 1) := by decide +kernel
theorem dX11_notes1_48 : decode cX11_notes1 48 = .ok (.getfield 130, 3) := by decide +kernel
theorem dX11_notes1_51 : decode cX11_notes1 51 = .ok (.iload 5, 2) := by decide +kernel
theorem dX11_notes1_53 : decode cX11_notes1 53 = .ok (.iconst 3, 1) := by decide +kernel
theorem dX11_notes1_54 : decode cX11_notes1 54 = .ok (.iadd, 1) := by decide +kernel
theorem dX11_notes1_55 : decode cX11_notes1 55 = .ok (.iload 4, 2) := by decide +kernel
theorem dX11_notes1_57 : decode cX11_notes1 57 = .ok (.iastore, 1) := by decide +kernel
theorem dX11_notes1_58 : decode cX11_notes1 58 = .ok (.aload_n 0, 1) := by decide +kernel
theorem dX11_notes1_59 : decode cX11_notes1 59 = .ok (.dup, 1) := by decide +kernel
theorem dX11_notes1_60 : decode cX11_notes1 60 = .ok (.getfield 362, 3) := by decide +kernel
theorem dX11_notes1_63 : decode cX11_notes1 63 = .ok (.iconst 1, 1) := by decide +kernel
theorem dX11_notes1_64 : decode cX11_notes1 64 = .ok (.iadd, 1) := by decide +kernel
theorem dX11_notes1_65 : decode cX11_notes1 65 = .ok (.putfield 362, 3) := by decide +kernel
theorem dX11_notes1_68 : decode cX11_notes1 68 = .ok (.aload_n 0, 1) := by decide +kernel
theorem dX11_notes1_69 : decode cX11_notes1 69 = .ok (.getfield 362, 3) := by decide +kernel
theorem dX11_notes1_72 : decode cX11_notes1 72 = .ok (.iconst 1, 1) := by decide +kernel
theorem dX11_notes1_73 : decode cX11_notes1 73 = .ok (.isub, 1) := by decide +kernel
theorem dX11_notes1_74 : decode cX11_notes1 74 = .ok (.ireturn, 1) := by decide +kernel
theorem dX11_note_0 : decode cX11_note 0 = .ok (.aload_n 0, 1) := by decide +kernel
theorem dX11_note_1 : decode cX11_note 1 = .ok (.iconst 0, 1) := by decide +kernel
theorem dX11_note_2 : decode cX11_note 2 = .ok (.putfield 151, 3) := by decide +kernel
theorem dX11_note_5 : decode cX11_note 5 = .ok (.iload_n 1, 1) := by decide +kernel
theorem dX11_note_6 : decode cX11_note 6 = .ok (.iconst 0, 1) := by decide +kernel
theorem dX11_note_7 : decode cX11_note 7 = .ok (.bipush 99, 2) := by decide +kernel
theorem dX11_note_9 : decode cX11_note 9 = .ok (.invokestatic 196, 3) := by decide +kernel
theorem dX11_note_12 : decode cX11_note 12 = .ok (.ifCond .eq 42, 3) := by decide +kernel
theorem dX11_note_15 : decode cX11_note 15 = .ok (.aload_n 0, 1) := by decide +kernel
theorem dX11_note_16 : decode cX11_note 16 = .ok (.iload_n 2, 1) := by decide +kernel
theorem dX11_note_17 : decode cX11_note 17 = .ok (.invokevirtual 443, 3) := by decide +kernel
theorem dX11_note_20 : decode cX11_note 20 = .ok (.ifCond .eq 34, 3) := by decide +kernel
theorem dX11_note_23 : decode cX11_note 23 = .ok (.iload_n 3, 1) := by decide +kernel
theorem dX11_note_24 : decode cX11_note 24 = .ok (.iconst 0, 1) := by decide +kernel
theorem dX11_note_25 : decode cX11_note 25 = .ok (.sipush 999, 3) := by decide +kernel
theorem dX11_note_28 : decode cX11_note 28 = .ok (.invokestatic 196, 3) := by decide +kernel
theorem dX11_note_31 : decode cX11_note 31 = .ok (.ifCond .eq 23, 3) := by decide +kernel
theorem dX11_note_34 : decode cX11_note 34 = .ok (.aload_n 0, 1) := by decide +kernel
theorem dX11_note_35 : decode cX11_note 35 = .ok (.iload_n 1, 1) := by decide +kernel
theorem dX11_note_36 : decode cX11_note 36 = .ok (.iload_n 2, 1) := by decide +kernel
theorem dX11_note_37 : decode cX11_note 37 = .ok (.iload_n 3, 1) := by decide +kernel
theorem dX11_note_38 : decode cX11_note 38 = .ok (.iload 4, 2) := by decide +kernel
theorem dX11_note_40 : decode cX11_note 40 = .ok (.ifCond .eq 7, 3) := by decide +kernel
theorem dX11_note_43 : decode cX11_note 43 = .ok (.iconst 1, 1) := by decide +kernel
theorem dX11_note_44 : decode cX11_note 44 = .ok (.goto 4, 3) := by decide +kernel
theorem dX11_note_47 : decode cX11_note 47 = .ok (.iconst 0, 1) := by decide +kernel
theorem dX11_note_48 : decode cX11_note 48 = .ok (.invokevirtual 526, 3) := by decide +kernel
theorem dX11_note_51 : decode cX11_note 51 = .ok (.goto 4, 3) := by decide +kernel
theorem dX11_note_54 : decode cX11_note 54 = .ok (.iconst (-1), 1) := by decide +kernel
theorem dX11_note_55 : decode cX11_note 55 = .ok (.ireturn, 1) := by decide +kernel
theorem dX11_strike_0 : decode cX11_strike 0 = .ok (.aload_n 0, 1) := by decide +kernel
theorem dX11_strike_1 : decode cX11_strike 1 = .ok (.iconst 0, 1) := by decide +kernel
theorem dX11_strike_2 : decode cX11_strike 2 = .ok (.putfield 151, 3) := by decide +kernel
theorem dX11_strike_5 : decode cX11_strike 5 = .ok (.iload_n 1, 1) := by decide +kernel
theorem dX11_strike_6 : decode cX11_strike 6 = .ok (.ifCond .lt 11, 3) := by decide +kernel
theorem dX11_strike_9 : decode cX11_strike 9 = .ok (.iload_n 1, 1) := by decide +kernel
theorem dX11_strike_10 : decode cX11_strike 10 = .ok (.aload_n 0, 1) := by decide +kernel
theorem dX11_strike_11 : decode cX11_strike 11 = .ok (.getfield 362, 3) := by decide +kernel
theorem dX11_strike_14 : decode cX11_strike 14 = .ok (.if_icmp .lt 7, 3) := by decide +kernel
theorem dX11_strike_17 : decode cX11_strike 17 = .ok (.iconst (-1), 1) := by decide +kernel
theorem dX11_strike_18 : decode cX11_strike 18 = .ok (.goto 11, 3) := by decide +kernel
theorem dX11_strike_21 : decode cX11_strike 21 = .ok (.aload_n 0, 1) := by decide +kernel
theorem dX11_strike_22 : decode cX11_strike 22 = .ok (.iconst (-1), 1) := by decide +kernel
theorem dX11_strike_23 : decode cX11_strike 23 = .ok (.iload_n 1, 1) := by decide +kernel
theorem dX11_strike_24 : decode cX11_strike 24 = .ok (.iconst 0, 1) := by decide +kernel
theorem dX11_strike_25 : decode cX11_strike 25 = .ok (.iconst 0, 1) := by decide +kernel
theorem dX11_strike_26 : decode cX11_strike 26 = .ok (.invokevirtual 526, 3) := by decide +kernel
theorem dX11_strike_29 : decode cX11_strike 29 = .ok (.ireturn, 1) := by decide +kernel
theorem dX11_known_0 : decode cX11_known 0 = .ok (.aload_n 0, 1) := by decide +kernel
theorem dX11_known_1 : decode cX11_known 1 = .ok (.iconst 0, 1) := by decide +kernel
theorem dX11_known_2 : decode cX11_known 2 = .ok (.putfield 151, 3) := by decide +kernel
theorem dX11_known_5 : decode cX11_known 5 = .ok (.iload_n 1, 1) := by decide +kernel
theorem dX11_known_6 : decode cX11_known 6 = .ok (.iconst (-1), 1) := by decide +kernel
theorem dX11_known_7 : decode cX11_known 7 = .ok (.aload_n 0, 1) := by decide +kernel
theorem dX11_known_8 : decode cX11_known 8 = .ok (.getfield 362, 3) := by decide +kernel
theorem dX11_known_11 : decode cX11_known 11 = .ok (.invokestatic 196, 3) := by decide +kernel
theorem dX11_known_14 : decode cX11_known 14 = .ok (.ifCond .ne 5, 3) := by decide +kernel
theorem dX11_known_17 : decode cX11_known 17 = .ok (.iconst 0, 1) := by decide +kernel
theorem dX11_known_18 : decode cX11_known 18 = .ok (.ireturn, 1) := by decide +kernel
theorem dX11_known_19 : decode cX11_known 19 = .ok (.aload_n 0, 1) := by decide +kernel
theorem dX11_known_20 : decode cX11_known 20 = .ok (.iload_n 1, 1) := by decide +kernel
theorem dX11_known_21 : decode cX11_known 21 = .ok (.putfield 127, 3) := by decide +kernel
theorem dX11_known_24 : decode cX11_known 24 = .ok (.iconst 1, 1) := by decide +kernel
theorem dX11_known_25 : decode cX11_known 25 = .ok (.ireturn, 1) := by decide +kernel
theorem dX11_knownBy_0 : decode cX11_knownBy 0 = .ok (.aload_n 0, 1) := by decide +kernel
theorem dX11_knownBy_1 : decode cX11_knownBy 1 = .ok (.getfield 127, 3) := by decide +kernel
theorem dX11_knownBy_4 : decode cX11_knownBy 4 = .ok (.ifCond .ge 10, 3) := by decide +kernel
theorem dX11_knownBy_7 : decode cX11_knownBy 7 = .ok (.aload_n 0, 1) := by decide +kernel
theorem dX11_knownBy_8 : decode cX11_knownBy 8 = .ok (.getfield 362, 3) := by decide +kernel
theorem dX11_knownBy_11 : decode cX11_knownBy 11 = .ok (.goto 7, 3) := by decide +kernel
theorem dX11_knownBy_14 : decode cX11_knownBy 14 = .ok (.aload_n 0, 1) := by decide +kernel
theorem dX11_knownBy_15 : decode cX11_knownBy 15 = .ok (.getfield 127, 3) := by decide +kernel
theorem dX11_knownBy_18 : decode cX11_knownBy 18 = .ok (.ireturn, 1) := by decide +kernel
theorem dX11_fitsOf_0 : decode cX11_fitsOf 0 = .ok (.iconst 0, 1) := by decide +kernel
theorem dX11_fitsOf_1 : decode cX11_fitsOf 1 = .ok (.istore_n 2, 1) := by decide +kernel
theorem dX11_fitsOf_2 : decode cX11_fitsOf 2 = .ok (.iload_n 2, 1) := by decide +kernel
theorem dX11_fitsOf_3 : decode cX11_fitsOf 3 = .ok (.aload_n 0, 1) := by decide +kernel
theorem dX11_fitsOf_4 : decode cX11_fitsOf 4 = .ok (.invokevirtual 529, 3) := by decide +kernel
theorem dX11_fitsOf_7 : decode cX11_fitsOf 7 = .ok (.if_icmp .ge 16, 3) := by decide +kernel
theorem dX11_fitsOf_10 : decode cX11_fitsOf 10 = .ok (.aload_n 0, 1) := by decide +kernel
theorem dX11_fitsOf_11 : decode cX11_fitsOf 11 = .ok (.getfield 133, 3) := by decide +kernel
theorem dX11_fitsOf_14 : decode cX11_fitsOf 14 = .ok (.iload_n 2, 1) := by decide +kernel
theorem dX11_fitsOf_15 : decode cX11_fitsOf 15 = .ok (.iconst 1, 1) := by decide +kernel
theorem dX11_fitsOf_16 : decode cX11_fitsOf 16 = .ok (.bastore, 1) := by decide +kernel
theorem dX11_fitsOf_17 : decode cX11_fitsOf 17 = .ok (.iinc 2 1, 3) := by decide +kernel
theorem dX11_fitsOf_20 : decode cX11_fitsOf 20 = .ok (.goto (-18), 3) := by decide +kernel
theorem dX11_fitsOf_23 : decode cX11_fitsOf 23 = .ok (.aload_n 0, 1) := by decide +kernel
theorem dX11_fitsOf_24 : decode cX11_fitsOf 24 = .ok (.invokevirtual 529, 3) := by decide +kernel
theorem dX11_fitsOf_27 : decode cX11_fitsOf 27 = .ok (.iconst 1, 1) := by decide +kernel
theorem dX11_fitsOf_28 : decode cX11_fitsOf 28 = .ok (.isub, 1) := by decide +kernel
theorem dX11_fitsOf_29 : decode cX11_fitsOf 29 = .ok (.istore_n 2, 1) := by decide +kernel
theorem dX11_fitsOf_30 : decode cX11_fitsOf 30 = .ok (.iload_n 2, 1) := by decide +kernel
theorem dX11_fitsOf_31 : decode cX11_fitsOf 31 = .ok (.ifCond .lt 45, 3) := by decide +kernel
theorem dX11_fitsOf_34 : decode cX11_fitsOf 34 = .ok (.aload_n 0, 1) := by decide +kernel
theorem dX11_fitsOf_35 : decode cX11_fitsOf 35 = .ok (.getfield 133, 3) := by decide +kernel
theorem dX11_fitsOf_38 : decode cX11_fitsOf 38 = .ok (.iload_n 2, 1) := by decide +kernel
theorem dX11_fitsOf_39 : decode cX11_fitsOf 39 = .ok (.baload, 1) := by decide +kernel
theorem dX11_fitsOf_40 : decode cX11_fitsOf 40 = .ok (.ifCond .eq 30, 3) := by decide +kernel
theorem dX11_fitsOf_43 : decode cX11_fitsOf 43 = .ok (.aload_n 0, 1) := by decide +kernel
theorem dX11_fitsOf_44 : decode cX11_fitsOf 44 = .ok (.getfield 130, 3) := by decide +kernel
theorem dX11_fitsOf_47 : decode cX11_fitsOf 47 = .ok (.iconst 4, 1) := by decide +kernel
theorem dX11_fitsOf_48 : decode cX11_fitsOf 48 = .ok (.iload_n 2, 1) := by decide +kernel
theorem dX11_fitsOf_49 : decode cX11_fitsOf 49 = .ok (.imul, 1) := by decide +kernel
theorem dX11_fitsOf_50 : decode cX11_fitsOf 50 = .ok (.iaload, 1) := by decide +kernel
theorem dX11_fitsOf_51 : decode cX11_fitsOf 51 = .ok (.ifCond .ge 19, 3) := by decide +kernel
theorem dX11_fitsOf_54 : decode cX11_fitsOf 54 = .ok (.aload_n 0, 1) := by decide +kernel
theorem dX11_fitsOf_55 : decode cX11_fitsOf 55 = .ok (.getfield 133, 3) := by decide +kernel
theorem dX11_fitsOf_58 : decode cX11_fitsOf 58 = .ok (.aload_n 0, 1) := by decide +kernel
theorem dX11_fitsOf_59 : decode cX11_fitsOf 59 = .ok (.getfield 130, 3) := by decide +kernel
theorem dX11_fitsOf_62 : decode cX11_fitsOf 62 = .ok (.iconst 4, 1) := by decide +kernel
theorem dX11_fitsOf_63 : decode cX11_fitsOf 63 = .ok (.iload_n 2, 1) := by decide +kernel
theorem dX11_fitsOf_64 : decode cX11_fitsOf 64 = .ok (.imul, 1) := by decide +kernel
theorem dX11_fitsOf_65 : decode cX11_fitsOf 65 = .ok (.iconst 1, 1) := by decide +kernel
theorem dX11_fitsOf_66 : decode cX11_fitsOf 66 = .ok (.iadd, 1) := by decide +kernel
theorem dX11_fitsOf_67 : decode cX11_fitsOf 67 = .ok (.iaload, 1) := by decide +kernel
theorem dX11_fitsOf_68 : decode cX11_fitsOf 68 = .ok (.iconst 0, 1) := by decide +kernel
theorem dX11_fitsOf_69 : decode cX11_fitsOf 69 = .ok (.bastore, 1) := by decide +kernel
theorem dX11_fitsOf_70 : decode cX11_fitsOf 70 = .ok (.iinc 2 (-1), 3) := by decide +kernel
theorem dX11_fitsOf_73 : decode cX11_fitsOf 73 = .ok (.goto (-43), 3) := by decide +kernel
theorem dX11_fitsOf_76 : decode cX11_fitsOf 76 = .ok (.iconst 0, 1) := by decide +kernel
theorem dX11_fitsOf_77 : decode cX11_fitsOf 77 = .ok (.istore_n 2, 1) := by decide +kernel
theorem dX11_fitsOf_78 : decode cX11_fitsOf 78 = .ok (.iconst 0, 1) := by decide +kernel
theorem dX11_fitsOf_79 : decode cX11_fitsOf 79 = .ok (.istore_n 3, 1) := by decide +kernel
theorem dX11_fitsOf_80 : decode cX11_fitsOf 80 = .ok (.iload_n 3, 1) := by decide +kernel
theorem dX11_fitsOf_81 : decode cX11_fitsOf 81 = .ok (.aload_n 0, 1) := by decide +kernel
theorem dX11_fitsOf_82 : decode cX11_fitsOf 82 = .ok (.getfield 231, 3) := by decide +kernel
theorem dX11_fitsOf_85 : decode cX11_fitsOf 85 = .ok (.if_icmp .ge 139, 3) := by decide +kernel
theorem dX11_fitsOf_88 : decode cX11_fitsOf 88 = .ok (.iconst 1, 1) := by decide +kernel
theorem dX11_fitsOf_89 : decode cX11_fitsOf 89 = .ok (.istore 4, 2) := by decide +kernel
theorem dX11_fitsOf_91 : decode cX11_fitsOf 91 = .ok (.iconst 0, 1) := by decide +kernel
theorem dX11_fitsOf_92 : decode cX11_fitsOf 92 = .ok (.istore 5, 2) := by decide +kernel
theorem dX11_fitsOf_94 : decode cX11_fitsOf 94 = .ok (.iload 5, 2) := by decide +kernel
theorem dX11_fitsOf_96 : decode cX11_fitsOf 96 = .ok (.aload_n 0, 1) := by decide +kernel
theorem dX11_fitsOf_97 : decode cX11_fitsOf 97 = .ok (.invokevirtual 529, 3) := by decide +kernel
theorem dX11_fitsOf_100 : decode cX11_fitsOf 100 = .ok (.if_icmp .ge 103, 3) := by decide +kernel
theorem dX11_fitsOf_103 : decode cX11_fitsOf 103 = .ok (.iconst 4, 1) := by decide +kernel
theorem dX11_fitsOf_104 : decode cX11_fitsOf 104 = .ok (.iload 5, 2) := by decide +kernel
theorem dX11_fitsOf_106 : decode cX11_fitsOf 106 = .ok (.imul, 1) := by decide +kernel
theorem dX11_fitsOf_107 : decode cX11_fitsOf 107 = .ok (.istore 6, 2) := by decide +kernel
theorem dX11_fitsOf_109 : decode cX11_fitsOf 109 = .ok (.aload_n 0, 1) := by decide +kernel
theorem dX11_fitsOf_110 : decode cX11_fitsOf 110 = .ok (.getfield 133, 3) := by decide +kernel
theorem dX11_fitsOf_113 : decode cX11_fitsOf 113 = .ok (.iload 5, 2) := by decide +kernel
theorem dX11_fitsOf_115 : decode cX11_fitsOf 115 = .ok (.baload, 1) := by decide +kernel
theorem dX11_fitsOf_116 : decode cX11_fitsOf 116 = .ok (.ifCond .eq 81, 3) := by decide +kernel
theorem dX11_fitsOf_119 : decode cX11_fitsOf 119 = .ok (.aload_n 0, 1) := by decide +kernel
theorem dX11_fitsOf_120 : decode cX11_fitsOf 120 = .ok (.getfield 130, 3) := by decide +kernel
theorem dX11_fitsOf_123 : decode cX11_fitsOf 123 = .ok (.iload 6, 2) := by decide +kernel
theorem dX11_fitsOf_125 : decode cX11_fitsOf 125 = .ok (.iaload, 1) := by decide +kernel
theorem dX11_fitsOf_126 : decode cX11_fitsOf 126 = .ok (.iload_n 1, 1) := by decide +kernel
theorem dX11_fitsOf_127 : decode cX11_fitsOf 127 = .ok (.if_icmp .eq 6, 3) := by decide +kernel
theorem dX11_fitsOf_130 : decode cX11_fitsOf 130 = .ok (.goto 67, 3) := by decide +kernel
theorem dX11_fitsOf_133 : decode cX11_fitsOf 133 = .ok (.iload 4, 2) := by decide +kernel
theorem dX11_fitsOf_135 : decode cX11_fitsOf 135 = .ok (.ifCond .eq 59, 3) := by decide +kernel
theorem dX11_fitsOf_138 : decode cX11_fitsOf 138 = .ok (.aload_n 0, 1) := by decide +kernel
theorem dX11_fitsOf_139 : decode cX11_fitsOf 139 = .ok (.aload_n 0, 1) := by decide +kernel
theorem dX11_fitsOf_140 : decode cX11_fitsOf 140 = .ok (.getfield 130, 3) := by decide +kernel
theorem dX11_fitsOf_143 : decode cX11_fitsOf 143 = .ok (.iload 6, 2) := by decide +kernel
theorem dX11_fitsOf_145 : decode cX11_fitsOf 145 = .ok (.iconst 1, 1) := by decide +kernel
theorem dX11_fitsOf_146 : decode cX11_fitsOf 146 = .ok (.iadd, 1) := by decide +kernel
theorem dX11_fitsOf_147 : decode cX11_fitsOf 147 = .ok (.iaload, 1) := by decide +kernel
theorem dX11_fitsOf_148 : decode cX11_fitsOf 148 = .ok (.iload_n 3, 1) := by decide +kernel
theorem dX11_fitsOf_149 : decode cX11_fitsOf 149 = .ok (.invokevirtual 500, 3) := by decide +kernel
theorem dX11_fitsOf_152 : decode cX11_fitsOf 152 = .ok (.aload_n 0, 1) := by decide +kernel
theorem dX11_fitsOf_153 : decode cX11_fitsOf 153 = .ok (.getfield 130, 3) := by decide +kernel
theorem dX11_fitsOf_156 : decode cX11_fitsOf 156 = .ok (.iload 6, 2) := by decide +kernel
theorem dX11_fitsOf_158 : decode cX11_fitsOf 158 = .ok (.iconst 2, 1) := by decide +kernel
theorem dX11_fitsOf_159 : decode cX11_fitsOf 159 = .ok (.iadd, 1) := by decide +kernel
theorem dX11_fitsOf_160 : decode cX11_fitsOf 160 = .ok (.iaload, 1) := by decide +kernel
theorem dX11_fitsOf_161 : decode cX11_fitsOf 161 = .ok (.if_icmp .gt 7, 3) := by decide +kernel
theorem dX11_fitsOf_164 : decode cX11_fitsOf 164 = .ok (.iconst 1, 1) := by decide +kernel
theorem dX11_fitsOf_165 : decode cX11_fitsOf 165 = .ok (.goto 4, 3) := by decide +kernel
theorem dX11_fitsOf_168 : decode cX11_fitsOf 168 = .ok (.iconst 0, 1) := by decide +kernel
theorem dX11_fitsOf_169 : decode cX11_fitsOf 169 = .ok (.aload_n 0, 1) := by decide +kernel
theorem dX11_fitsOf_170 : decode cX11_fitsOf 170 = .ok (.getfield 130, 3) := by decide +kernel
theorem dX11_fitsOf_173 : decode cX11_fitsOf 173 = .ok (.iload 6, 2) := by decide +kernel
theorem dX11_fitsOf_175 : decode cX11_fitsOf 175 = .ok (.iconst 3, 1) := by decide +kernel
theorem dX11_fitsOf_176 : decode cX11_fitsOf 176 = .ok (.iadd, 1) := by decide +kernel
theorem dX11_fitsOf_177 : decode cX11_fitsOf 177 = .ok (.iaload, 1) := by decide +kernel
theorem dX11_fitsOf_178 : decode cX11_fitsOf 178 = .ok (.iconst 1, 1) := by decide +kernel
theorem dX11_fitsOf_179 : decode cX11_fitsOf 179 = .ok (.if_icmp .ne 7, 3) := by decide +kernel
theorem dX11_fitsOf_182 : decode cX11_fitsOf 182 = .ok (.iconst 1, 1) := by decide +kernel
theorem dX11_fitsOf_183 : decode cX11_fitsOf 183 = .ok (.goto 4, 3) := by decide +kernel
theorem dX11_fitsOf_186 : decode cX11_fitsOf 186 = .ok (.iconst 0, 1) := by decide +kernel
theorem dX11_fitsOf_187 : decode cX11_fitsOf 187 = .ok (.if_icmp .ne 7, 3) := by decide +kernel
theorem dX11_fitsOf_190 : decode cX11_fitsOf 190 = .ok (.iconst 1, 1) := by decide +kernel
theorem dX11_fitsOf_191 : decode cX11_fitsOf 191 = .ok (.goto 4, 3) := by decide +kernel
theorem dX11_fitsOf_194 : decode cX11_fitsOf 194 = .ok (.iconst 0, 1) := by decide +kernel
theorem dX11_fitsOf_195 : decode cX11_fitsOf 195 = .ok (.istore 4, 2) := by decide +kernel
theorem dX11_fitsOf_197 : decode cX11_fitsOf 197 = .ok (.iinc 5 1, 3) := by decide +kernel
theorem dX11_fitsOf_200 : decode cX11_fitsOf 200 = .ok (.goto (-106), 3) := by decide +kernel
theorem dX11_fitsOf_203 : decode cX11_fitsOf 203 = .ok (.iload_n 2, 1) := by decide +kernel
theorem dX11_fitsOf_204 : decode cX11_fitsOf 204 = .ok (.iload 4, 2) := by decide +kernel
theorem dX11_fitsOf_206 : decode cX11_fitsOf 206 = .ok (.ifCond .eq 9, 3) := by decide +kernel
theorem dX11_fitsOf_209 : decode cX11_fitsOf 209 = .ok (.iconst 1, 1) := by decide +kernel
theorem dX11_fitsOf_210 : decode cX11_fitsOf 210 = .ok (.iload_n 3, 1) := by decide +kernel
theorem dX11_fitsOf_211 : decode cX11_fitsOf 211 = .ok (.ishl, 1) := by decide +kernel
theorem dX11_fitsOf_212 : decode cX11_fitsOf 212 = .ok (.goto 4, 3) := by decide +kernel
theorem dX11_fitsOf_215 : decode cX11_fitsOf 215 = .ok (.iconst 0, 1) := by decide +kernel
theorem dX11_fitsOf_216 : decode cX11_fitsOf 216 = .ok (.ior, 1) := by decide +kernel
theorem dX11_fitsOf_217 : decode cX11_fitsOf 217 = .ok (.istore_n 2, 1) := by decide +kernel
theorem dX11_fitsOf_218 : decode cX11_fitsOf 218 = .ok (.iinc 3 1, 3) := by decide +kernel
theorem dX11_fitsOf_221 : decode cX11_fitsOf 221 = .ok (.goto (-141), 3) := by decide +kernel
theorem dX11_fitsOf_224 : decode cX11_fitsOf 224 = .ok (.iload_n 2, 1) := by decide +kernel
theorem dX11_fitsOf_225 : decode cX11_fitsOf 225 = .ok (.ireturn, 1) := by decide +kernel
theorem dX11_fits_0 : decode cX11_fits 0 = .ok (.aload_n 0, 1) := by decide +kernel
theorem dX11_fits_1 : decode cX11_fits 1 = .ok (.iconst 0, 1) := by decide +kernel
theorem dX11_fits_2 : decode cX11_fits 2 = .ok (.putfield 151, 3) := by decide +kernel
theorem dX11_fits_5 : decode cX11_fits 5 = .ok (.iload_n 1, 1) := by decide +kernel
theorem dX11_fits_6 : decode cX11_fits 6 = .ok (.iconst 0, 1) := by decide +kernel
theorem dX11_fits_7 : decode cX11_fits 7 = .ok (.bipush 99, 2) := by decide +kernel
theorem dX11_fits_9 : decode cX11_fits 9 = .ok (.invokestatic 196, 3) := by decide +kernel
theorem dX11_fits_12 : decode cX11_fits 12 = .ok (.ifCond .eq 11, 3) := by decide +kernel
theorem dX11_fits_15 : decode cX11_fits 15 = .ok (.aload_n 0, 1) := by decide +kernel
theorem dX11_fits_16 : decode cX11_fits 16 = .ok (.iload_n 1, 1) := by decide +kernel
theorem dX11_fits_17 : decode cX11_fits 17 = .ok (.invokevirtual 532, 3) := by decide +kernel
theorem dX11_fits_20 : decode cX11_fits 20 = .ok (.goto 4, 3) := by decide +kernel
theorem dX11_fits_23 : decode cX11_fits 23 = .ok (.iconst (-1), 1) := by decide +kernel
theorem dX11_fits_24 : decode cX11_fits 24 = .ok (.ireturn, 1) := by decide +kernel
theorem dX11_worstBy_0 : decode cX11_worstBy 0 = .ok (.iconst 0, 1) := by decide +kernel
theorem dX11_worstBy_1 : decode cX11_worstBy 1 = .ok (.istore_n 3, 1) := by decide +kernel
theorem dX11_worstBy_2 : decode cX11_worstBy 2 = .ok (.iconst 0, 1) := by decide +kernel
theorem dX11_worstBy_3 : decode cX11_worstBy 3 = .ok (.istore 4, 2) := by decide +kernel
theorem dX11_worstBy_5 : decode cX11_worstBy 5 = .ok (.iload 4, 2) := by decide +kernel
theorem dX11_worstBy_7 : decode cX11_worstBy 7 = .ok (.aload_n 0, 1) := by decide +kernel
theorem dX11_worstBy_8 : decode cX11_worstBy 8 = .ok (.getfield 231, 3) := by decide +kernel
theorem dX11_worstBy_11 : decode cX11_worstBy 11 = .ok (.if_icmp .ge 88, 3) := by decide +kernel
theorem dX11_worstBy_14 : decode cX11_worstBy 14 = .ok (.iconst 0, 1) := by decide +kernel
theorem dX11_worstBy_15 : decode cX11_worstBy 15 = .ok (.istore 5, 2) := by decide +kernel
theorem dX11_worstBy_17 : decode cX11_worstBy 17 = .ok (.iconst 0, 1) := by decide +kernel
theorem dX11_worstBy_18 : decode cX11_worstBy 18 = .ok (.istore 6, 2) := by decide +kernel
theorem dX11_worstBy_20 : decode cX11_worstBy 20 = .ok (.iload 6, 2) := by decide +kernel
theorem dX11_worstBy_22 : decode cX11_worstBy 22 = .ok (.aload_n 0, 1) := by decide +kernel
theorem dX11_worstBy_23 : decode cX11_worstBy 23 = .ok (.getfield 231, 3) := by decide +kernel
theorem dX11_worstBy_26 : decode cX11_worstBy 26 = .ok (.if_icmp .ge 54, 3) := by decide +kernel
theorem dX11_worstBy_29 : decode cX11_worstBy 29 = .ok (.iload 5, 2) := by decide +kernel
theorem dX11_worstBy_31 : decode cX11_worstBy 31 = .ok (.iload_n 2, 1) := by decide +kernel
theorem dX11_worstBy_32 : decode cX11_worstBy 32 = .ok (.iload 4, 2) := by decide +kernel
theorem dX11_worstBy_34 : decode cX11_worstBy 34 = .ok (.invokestatic 430, 3) := by decide +kernel
theorem dX11_worstBy_37 : decode cX11_worstBy 37 = .ok (.ifCond .eq 33, 3) := by decide +kernel
theorem dX11_worstBy_40 : decode cX11_worstBy 40 = .ok (.iload_n 2, 1) := by decide +kernel
theorem dX11_worstBy_41 : decode cX11_worstBy 41 = .ok (.iload 6, 2) := by decide +kernel
theorem dX11_worstBy_43 : decode cX11_worstBy 43 = .ok (.invokestatic 430, 3) := by decide +kernel
theorem dX11_worstBy_46 : decode cX11_worstBy 46 = .ok (.ifCond .eq 24, 3) := by decide +kernel
theorem dX11_worstBy_49 : decode cX11_worstBy 49 = .ok (.aload_n 0, 1) := by decide +kernel
theorem dX11_worstBy_50 : decode cX11_worstBy 50 = .ok (.iload_n 1, 1) := by decide +kernel
theorem dX11_worstBy_51 : decode cX11_worstBy 51 = .ok (.iload 6, 2) := by decide +kernel
theorem dX11_worstBy_53 : decode cX11_worstBy 53 = .ok (.invokevirtual 500, 3) := by decide +kernel
theorem dX11_worstBy_56 : decode cX11_worstBy 56 = .ok (.aload_n 0, 1) := by decide +kernel
theorem dX11_worstBy_57 : decode cX11_worstBy 57 = .ok (.iload_n 1, 1) := by decide +kernel
theorem dX11_worstBy_58 : decode cX11_worstBy 58 = .ok (.iload 4, 2) := by decide +kernel
theorem dX11_worstBy_60 : decode cX11_worstBy 60 = .ok (.invokevirtual 500, 3) := by decide +kernel
theorem dX11_worstBy_63 : decode cX11_worstBy 63 = .ok (.if_icmp .ne 7, 3) := by decide +kernel
theorem dX11_worstBy_66 : decode cX11_worstBy 66 = .ok (.iconst 1, 1) := by decide +kernel
theorem dX11_worstBy_67 : decode cX11_worstBy 67 = .ok (.goto 4, 3) := by decide +kernel
theorem dX11_worstBy_70 : decode cX11_worstBy 70 = .ok (.iconst 0, 1) := by decide +kernel
theorem dX11_worstBy_71 : decode cX11_worstBy 71 = .ok (.iadd, 1) := by decide +kernel
theorem dX11_worstBy_72 : decode cX11_worstBy 72 = .ok (.istore 5, 2) := by decide +kernel
theorem dX11_worstBy_74 : decode cX11_worstBy 74 = .ok (.iinc 6 1, 3) := by decide +kernel
theorem dX11_worstBy_77 : decode cX11_worstBy 77 = .ok (.goto (-57), 3) := by decide +kernel
theorem dX11_worstBy_80 : decode cX11_worstBy 80 = .ok (.iload 5, 2) := by decide +kernel
theorem dX11_worstBy_82 : decode cX11_worstBy 82 = .ok (.iload_n 3, 1) := by decide +kernel
theorem dX11_worstBy_83 : decode cX11_worstBy 83 = .ok (.if_icmp .le 8, 3) := by decide +kernel
theorem dX11_worstBy_86 : decode cX11_worstBy 86 = .ok (.iload 5, 2) := by decide +kernel
theorem dX11_worstBy_88 : decode cX11_worstBy 88 = .ok (.goto 4, 3) := by decide +kernel
theorem dX11_worstBy_91 : decode cX11_worstBy 91 = .ok (.iload_n 3, 1) := by decide +kernel
theorem dX11_worstBy_92 : decode cX11_worstBy 92 = .ok (.istore_n 3, 1) := by decide +kernel
theorem dX11_worstBy_93 : decode cX11_worstBy 93 = .ok (.iinc 4 1, 3) := by decide +kernel
theorem dX11_worstBy_96 : decode cX11_worstBy 96 = .ok (.goto (-91), 3) := by decide +kernel
theorem dX11_worstBy_99 : decode cX11_worstBy 99 = .ok (.iload_n 3, 1) := by decide +kernel
theorem dX11_worstBy_100 : decode cX11_worstBy 100 = .ok (.ireturn, 1) := by decide +kernel
theorem dX11_ask_0 : decode cX11_ask 0 = .ok (.aload_n 0, 1) := by decide +kernel
theorem dX11_ask_1 : decode cX11_ask 1 = .ok (.iconst 0, 1) := by decide +kernel
theorem dX11_ask_2 : decode cX11_ask 2 = .ok (.putfield 151, 3) := by decide +kernel
theorem dX11_ask_5 : decode cX11_ask 5 = .ok (.iload_n 1, 1) := by decide +kernel
theorem dX11_ask_6 : decode cX11_ask 6 = .ok (.iconst 0, 1) := by decide +kernel
theorem dX11_ask_7 : decode cX11_ask 7 = .ok (.bipush 99, 2) := by decide +kernel
theorem dX11_ask_9 : decode cX11_ask 9 = .ok (.invokestatic 196, 3) := by decide +kernel
theorem dX11_ask_12 : decode cX11_ask 12 = .ok (.ifCond .eq 12, 3) := by decide +kernel
theorem dX11_ask_15 : decode cX11_ask 15 = .ok (.iload_n 2, 1) := by decide +kernel
theorem dX11_ask_16 : decode cX11_ask 16 = .ok (.iconst 0, 1) := by decide +kernel
theorem dX11_ask_17 : decode cX11_ask 17 = .ok (.iconst 1, 1) := by decide +kernel
theorem dX11_ask_18 : decode cX11_ask 18 = .ok (.invokestatic 196, 3) := by decide +kernel
theorem dX11_ask_21 : decode cX11_ask 21 = .ok (.ifCond .ne 5, 3) := by decide +kernel
theorem dX11_ask_24 : decode cX11_ask 24 = .ok (.iconst (-1), 1) := by decide +kernel
theorem dX11_ask_25 : decode cX11_ask 25 = .ok (.ireturn, 1) := by decide +kernel
theorem dX11_ask_26 : decode cX11_ask 26 = .ok (.aload_n 0, 1) := by decide +kernel
theorem dX11_ask_27 : decode cX11_ask 27 = .ok (.getfield 234, 3) := by decide +kernel
theorem dX11_ask_30 : decode cX11_ask 30 = .ok (.ifCond .ne 6, 3) := by decide +kernel
theorem dX11_ask_33 : decode cX11_ask 33 = .ok (.bipush (-2), 2) := by decide +kernel
theorem dX11_ask_35 : decode cX11_ask 35 = .ok (.ireturn, 1) := by decide +kernel
theorem dX11_ask_36 : decode cX11_ask 36 = .ok (.aload_n 0, 1) := by decide +kernel
theorem dX11_ask_37 : decode cX11_ask 37 = .ok (.iload_n 1, 1) := by decide +kernel
theorem dX11_ask_38 : decode cX11_ask 38 = .ok (.invokevirtual 532, 3) := by decide +kernel
theorem dX11_ask_41 : decode cX11_ask 41 = .ok (.istore_n 3, 1) := by decide +kernel
theorem dX11_ask_42 : decode cX11_ask 42 = .ok (.iconst 0, 1) := by decide +kernel
theorem dX11_ask_43 : decode cX11_ask 43 = .ok (.istore 4, 2) := by decide +kernel
theorem dX11_ask_45 : decode cX11_ask 45 = .ok (.iconst 1, 1) := by decide +kernel
theorem dX11_ask_46 : decode cX11_ask 46 = .ok (.istore 5, 2) := by decide +kernel
theorem dX11_ask_48 : decode cX11_ask 48 = .ok (.iload 5, 2) := by decide +kernel
theorem dX11_ask_50 : decode cX11_ask 50 = .ok (.aload_n 0, 1) := by decide +kernel
theorem dX11_ask_51 : decode cX11_ask 51 = .ok (.getfield 234, 3) := by decide +kernel
theorem dX11_ask_54 : decode cX11_ask 54 = .ok (.if_icmp .ge 35, 3) := by decide +kernel
theorem dX11_ask_57 : decode cX11_ask 57 = .ok (.aload_n 0, 1) := by decide +kernel
theorem dX11_ask_58 : decode cX11_ask 58 = .ok (.iload 5, 2) := by decide +kernel
theorem dX11_ask_60 : decode cX11_ask 60 = .ok (.iload_n 3, 1) := by decide +kernel
theorem dX11_ask_61 : decode cX11_ask 61 = .ok (.invokevirtual 535, 3) := by decide +kernel
theorem dX11_ask_64 : decode cX11_ask 64 = .ok (.aload_n 0, 1) := by decide +kernel
theorem dX11_ask_65 : decode cX11_ask 65 = .ok (.iload 4, 2) := by decide +kernel
theorem dX11_ask_67 : decode cX11_ask 67 = .ok (.iload_n 3, 1) := by decide +kernel
theorem dX11_ask_68 : decode cX11_ask 68 = .ok (.invokevirtual 535, 3) := by decide +kernel
theorem dX11_ask_71 : decode cX11_ask 71 = .ok (.if_icmp .ge 8, 3) := by decide +kernel
theorem dX11_ask_74 : decode cX11_ask 74 = .ok (.iload 5, 2) := by decide +kernel
theorem dX11_ask_76 : decode cX11_ask 76 = .ok (.goto 5, 3) := by decide +kernel
theorem dX11_ask_79 : decode cX11_ask 79 = .ok (.iload 4, 2) := by decide +kernel
theorem dX11_ask_81 : decode cX11_ask 81 = .ok (.istore 4, 2) := by decide +kernel
theorem dX11_ask_83 : decode cX11_ask 83 = .ok (.iinc 5 1, 3) := by decide +kernel
theorem dX11_ask_86 : decode cX11_ask 86 = .ok (.goto (-38), 3) := by decide +kernel
theorem dX11_ask_89 : decode cX11_ask 89 = .ok (.iload_n 2, 1) := by decide +kernel
theorem dX11_ask_90 : decode cX11_ask 90 = .ok (.ifCond .ne 8, 3) := by decide +kernel
theorem dX11_ask_93 : decode cX11_ask 93 = .ok (.iload 4, 2) := by decide +kernel
theorem dX11_ask_95 : decode cX11_ask 95 = .ok (.goto 10, 3) := by decide +kernel
theorem dX11_ask_98 : decode cX11_ask 98 = .ok (.aload_n 0, 1) := by decide +kernel
theorem dX11_ask_99 : decode cX11_ask 99 = .ok (.iload 4, 2) := by decide +kernel
theorem dX11_ask_101 : decode cX11_ask 101 = .ok (.iload_n 3, 1) := by decide +kernel
theorem dX11_ask_102 : decode cX11_ask 102 = .ok (.invokevirtual 535, 3) := by decide +kernel
theorem dX11_ask_105 : decode cX11_ask 105 = .ok (.ireturn, 1) := by decide +kernel
theorem dX11_chance_0 : decode cX11_chance 0 = .ok (.aload_n 0, 1) := by decide +kernel
theorem dX11_chance_1 : decode cX11_chance 1 = .ok (.iconst 0, 1) := by decide +kernel
theorem dX11_chance_2 : decode cX11_chance 2 = .ok (.putfield 151, 3) := by decide +kernel
theorem dX11_chance_5 : decode cX11_chance 5 = .ok (.iload_n 1, 1) := by decide +kernel
theorem dX11_chance_6 : decode cX11_chance 6 = .ok (.ifCond .lt 21, 3) := by decide +kernel
theorem dX11_chance_9 : decode cX11_chance 9 = .ok (.iload_n 2, 1) := by decide +kernel
theorem dX11_chance_10 : decode cX11_chance 10 = .ok (.iconst 1, 1) := by decide +kernel
theorem dX11_chance_11 : decode cX11_chance 11 = .ok (.bipush 99, 2) := by decide +kernel
theorem dX11_chance_13 : decode cX11_chance 13 = .ok (.invokestatic 196, 3) := by decide +kernel
theorem dX11_chance_16 : decode cX11_chance 16 = .ok (.ifCond .eq 11, 3) := by decide +kernel
theorem dX11_chance_19 : decode cX11_chance 19 = .ok (.aload_n 0, 1) := by decide +kernel
theorem dX11_chance_20 : decode cX11_chance 20 = .ok (.iload_n 3, 1) := by decide +kernel
theorem dX11_chance_21 : decode cX11_chance 21 = .ok (.invokevirtual 443, 3) := by decide +kernel
theorem dX11_chance_24 : decode cX11_chance 24 = .ok (.ifCond .ne 5, 3) := by decide +kernel
theorem dX11_chance_27 : decode cX11_chance 27 = .ok (.iconst (-1), 1) := by decide +kernel
theorem dX11_chance_28 : decode cX11_chance 28 = .ok (.ireturn, 1) := by decide +kernel
theorem dX11_chance_29 : decode cX11_chance 29 = .ok (.aload_n 0, 1) := by decide +kernel
theorem dX11_chance_30 : decode cX11_chance 30 = .ok (.getfield 355, 3) := by decide +kernel
theorem dX11_chance_33 : decode cX11_chance 33 = .ok (.lstore 4, 2) := by decide +kernel
theorem dX11_chance_35 : decode cX11_chance 35 = .ok (.aload_n 0, 1) := by decide +kernel
theorem dX11_chance_36 : decode cX11_chance 36 = .ok (.iload_n 1, 1) := by decide +kernel
theorem dX11_chance_37 : decode cX11_chance 37 = .ok (.i2l, 1) := by decide +kernel
theorem dX11_chance_38 : decode cX11_chance 38 = .ok (.putfield 355, 3) := by decide +kernel
theorem dX11_chance_41 : decode cX11_chance 41 = .ok (.iconst 0, 1) := by decide +kernel
theorem dX11_chance_42 : decode cX11_chance 42 = .ok (.istore 6, 2) := by decide +kernel
theorem dX11_chance_44 : decode cX11_chance 44 = .ok (.iconst 0, 1) := by decide +kernel
theorem dX11_chance_45 : decode cX11_chance 45 = .ok (.istore 7, 2) := by decide +kernel
theorem dX11_chance_47 : decode cX11_chance 47 = .ok (.iload 7, 2) := by decide +kernel
theorem dX11_chance_49 : decode cX11_chance 49 = .ok (.bipush 10, 2) := by decide +kernel
theorem dX11_chance_51 : decode cX11_chance 51 = .ok (.if_icmp .ge 38, 3) := by decide +kernel
theorem dX11_chance_54 : decode cX11_chance 54 = .ok (.aload_n 0, 1) := by decide +kernel
theorem dX11_chance_55 : decode cX11_chance 55 = .ok (.invokevirtual 461, 3) := by decide +kernel
theorem dX11_chance_58 : decode cX11_chance 58 = .ok (.aload_n 0, 1) := by decide +kernel
theorem dX11_chance_59 : decode cX11_chance 59 = .ok (.iconst 1, 1) := by decide +kernel
theorem dX11_chance_60 : decode cX11_chance 60 = .ok (.putfield 371, 3) := by decide +kernel
theorem dX11_chance_63 : decode cX11_chance 63 = .ok (.aload_n 0, 1) := by decide +kernel
theorem dX11_chance_64 : decode cX11_chance 64 = .ok (.iload_n 2, 1) := by decide +kernel
theorem dX11_chance_65 : decode cX11_chance 65 = .ok (.invokevirtual 464, 3) := by decide +kernel
theorem dX11_chance_68 : decode cX11_chance 68 = .ok (.iload 6, 2) := by decide +kernel
theorem dX11_chance_70 : decode cX11_chance 70 = .ok (.aload_n 0, 1) := by decide +kernel
theorem dX11_chance_71 : decode cX11_chance 71 = .ok (.getfield 106, 3) := by decide +kernel
theorem dX11_chance_74 : decode cX11_chance 74 = .ok (.iconst 1, 1) := by decide +kernel
theorem dX11_chance_75 : decode cX11_chance 75 = .ok (.iaload, 1) := by decide +kernel
theorem dX11_chance_76 : decode cX11_chance 76 = .ok (.iload_n 3, 1) := by decide +kernel
theorem dX11_chance_77 : decode cX11_chance 77 = .ok (.ishr, 1) := by decide +kernel
theorem dX11_chance_78 : decode cX11_chance 78 = .ok (.iconst 1, 1) := by decide +kernel
theorem dX11_chance_79 : decode cX11_chance 79 = .ok (.iand, 1) := by decide +kernel
theorem dX11_chance_80 : decode cX11_chance 80 = .ok (.iadd, 1) := by decide +kernel
theorem dX11_chance_81 : decode cX11_chance 81 = .ok (.istore 6, 2) := by decide +kernel
theorem dX11_chance_83 : decode cX11_chance 83 = .ok (.iinc 7 1, 3) := by decide +kernel
theorem dX11_chance_86 : decode cX11_chance 86 = .ok (.goto (-39), 3) := by decide +kernel
theorem dX11_chance_89 : decode cX11_chance 89 = .ok (.aload_n 0, 1) := by decide +kernel
theorem dX11_chance_90 : decode cX11_chance 90 = .ok (.iconst 0, 1) := by decide +kernel
theorem dX11_chance_91 : decode cX11_chance 91 = .ok (.putfield 371, 3) := by decide +kernel
theorem dX11_chance_94 : decode cX11_chance 94 = .ok (.aload_n 0, 1) := by decide +kernel
theorem dX11_chance_95 : decode cX11_chance 95 = .ok (.lload 4, 2) := by decide +kernel
theorem dX11_chance_97 : decode cX11_chance 97 = .ok (.putfield 355, 3) := by decide +kernel
theorem dX11_chance_100 : decode cX11_chance 100 = .ok (.iload 6, 2) := by decide +kernel
theorem dX11_chance_102 : decode cX11_chance 102 = .ok (.ireturn, 1) := by decide +kernel
theorem dX11_tried_0 : decode cX11_tried 0 = .ok (.aload_n 0, 1) := by decide +kernel
theorem dX11_tried_1 : decode cX11_tried 1 = .ok (.iconst 0, 1) := by decide +kernel
theorem dX11_tried_2 : decode cX11_tried 2 = .ok (.putfield 151, 3) := by decide +kernel
theorem dX11_tried_5 : decode cX11_tried 5 = .ok (.iload_n 1, 1) := by decide +kernel
theorem dX11_tried_6 : decode cX11_tried 6 = .ok (.iconst 0, 1) := by decide +kernel
theorem dX11_tried_7 : decode cX11_tried 7 = .ok (.iconst 4, 1) := by decide +kernel
theorem dX11_tried_8 : decode cX11_tried 8 = .ok (.invokestatic 196, 3) := by decide +kernel
theorem dX11_tried_11 : decode cX11_tried 11 = .ok (.ifCond .eq 34, 3) := by decide +kernel
theorem dX11_tried_14 : decode cX11_tried 14 = .ok (.iload_n 3, 1) := by decide +kernel
theorem dX11_tried_15 : decode cX11_tried 15 = .ok (.iconst 0, 1) := by decide +kernel
theorem dX11_tried_16 : decode cX11_tried 16 = .ok (.sipush 200, 3) := by decide +kernel
theorem dX11_tried_19 : decode cX11_tried 19 = .ok (.invokestatic 196, 3) := by decide +kernel
theorem dX11_tried_22 : decode cX11_tried 22 = .ok (.ifCond .eq 23, 3) := by decide +kernel
theorem dX11_tried_25 : decode cX11_tried 25 = .ok (.iload_n 1, 1) := by decide +kernel
theorem dX11_tried_26 : decode cX11_tried 26 = .ok (.iconst 2, 1) := by decide +kernel
theorem dX11_tried_27 : decode cX11_tried 27 = .ok (.if_icmp .ne 14, 3) := by decide +kernel
theorem dX11_tried_30 : decode cX11_tried 30 = .ok (.aload_n 0, 1) := by decide +kernel
theorem dX11_tried_31 : decode cX11_tried 31 = .ok (.iload_n 2, 1) := by decide +kernel
theorem dX11_tried_32 : decode cX11_tried 32 = .ok (.invokevirtual 443, 3) := by decide +kernel
theorem dX11_tried_35 : decode cX11_tried 35 = .ok (.ifCond .ne 14, 3) := by decide +kernel
theorem dX11_tried_38 : decode cX11_tried 38 = .ok (.goto 7, 3) := by decide +kernel
theorem dX11_tried_41 : decode cX11_tried 41 = .ok (.iload_n 2, 1) := by decide +kernel
theorem dX11_tried_42 : decode cX11_tried 42 = .ok (.ifCond .eq 7, 3) := by decide +kernel
theorem dX11_tried_45 : decode cX11_tried 45 = .ok (.ldc_w 460, 3) := by decide +kernel
theorem dX11_tried_48 : decode cX11_tried 48 = .ok (.ireturn, 1) := by decide +kernel
theorem dX11_tried_49 : decode cX11_tried 49 = .ok (.aload_n 0, 1) := by decide +kernel
theorem dX11_tried_50 : decode cX11_tried 50 = .ok (.invokevirtual 461, 3) := by decide +kernel
theorem dX11_tried_53 : decode cX11_tried 53 = .ok (.iload_n 1, 1) := by decide +kernel
theorem dX11_tried_54 : decode cX11_tried 54 = .ok (.ifCond .ne 11, 3) := by decide +kernel
theorem dX11_tried_57 : decode cX11_tried 57 = .ok (.aload_n 0, 1) := by decide +kernel
theorem dX11_tried_58 : decode cX11_tried 58 = .ok (.getfield 109, 3) := by decide +kernel
theorem dX11_tried_61 : decode cX11_tried 61 = .ok (.iconst 1, 1) := by decide +kernel
theorem dX11_tried_62 : decode cX11_tried 62 = .ok (.bipush 63, 2) := by decide +kernel
theorem dX11_tried_64 : decode cX11_tried 64 = .ok (.iastore, 1) := by decide +kernel
theorem dX11_tried_65 : decode cX11_tried 65 = .ok (.iload_n 1, 1) := by decide +kernel
theorem dX11_tried_66 : decode cX11_tried 66 = .ok (.iconst 2, 1) := by decide +kernel
theorem dX11_tried_67 : decode cX11_tried 67 = .ok (.if_icmp .ne 15, 3) := by decide +kernel
theorem dX11_tried_70 : decode cX11_tried 70 = .ok (.aload_n 0, 1) := by decide +kernel
theorem dX11_tried_71 : decode cX11_tried 71 = .ok (.getfield 109, 3) := by decide +kernel
theorem dX11_tried_74 : decode cX11_tried 74 = .ok (.iconst 1, 1) := by decide +kernel
theorem dX11_tried_75 : decode cX11_tried 75 = .ok (.dup2, 1) := by decide +kernel
theorem dX11_tried_76 : decode cX11_tried 76 = .ok (.iaload, 1) := by decide +kernel
theorem dX11_tried_77 : decode cX11_tried 77 = .ok (.iconst 1, 1) := by decide +kernel
theorem dX11_tried_78 : decode cX11_tried 78 = .ok (.iload_n 2, 1) := by decide +kernel
theorem dX11_tried_79 : decode cX11_tried 79 = .ok (.ishl, 1) := by decide +kernel
theorem dX11_tried_80 : decode cX11_tried 80 = .ok (.ior, 1) := by decide +kernel
theorem dX11_tried_81 : decode cX11_tried 81 = .ok (.iastore, 1) := by decide +kernel
theorem dX11_tried_82 : decode cX11_tried 82 = .ok (.aload_n 0, 1) := by decide +kernel
theorem dX11_tried_83 : decode cX11_tried 83 = .ok (.iload_n 1, 1) := by decide +kernel
theorem dX11_tried_84 : decode cX11_tried 84 = .ok (.iconst 1, 1) := by decide +kernel
theorem dX11_tried_85 : decode cX11_tried 85 = .ok (.if_icmp .ne 7, 3) := by decide +kernel
theorem dX11_tried_88 : decode cX11_tried 88 = .ok (.iconst 1, 1) := by decide +kernel
theorem dX11_tried_89 : decode cX11_tried 89 = .ok (.goto 4, 3) := by decide +kernel
theorem dX11_tried_92 : decode cX11_tried 92 = .ok (.iconst 0, 1) := by decide +kernel
theorem dX11_tried_93 : decode cX11_tried 93 = .ok (.putfield 374, 3) := by decide +kernel
theorem dX11_tried_96 : decode cX11_tried 96 = .ok (.aload_n 0, 1) := by decide +kernel
theorem dX11_tried_97 : decode cX11_tried 97 = .ok (.iload_n 1, 1) := by decide +kernel
theorem dX11_tried_98 : decode cX11_tried 98 = .ok (.iconst 3, 1) := by decide +kernel
theorem dX11_tried_99 : decode cX11_tried 99 = .ok (.if_icmp .ne 7, 3) := by decide +kernel
theorem dX11_tried_102 : decode cX11_tried 102 = .ok (.iconst 1, 1) := by decide +kernel
theorem dX11_tried_103 : decode cX11_tried 103 = .ok (.goto 4, 3) := by decide +kernel
theorem dX11_tried_106 : decode cX11_tried 106 = .ok (.iconst 0, 1) := by decide +kernel
theorem dX11_tried_107 : decode cX11_tried 107 = .ok (.putfield 377, 3) := by decide +kernel
theorem dX11_tried_110 : decode cX11_tried 110 = .ok (.aload_n 0, 1) := by decide +kernel
theorem dX11_tried_111 : decode cX11_tried 111 = .ok (.iload_n 1, 1) := by decide +kernel
theorem dX11_tried_112 : decode cX11_tried 112 = .ok (.iconst 4, 1) := by decide +kernel
theorem dX11_tried_113 : decode cX11_tried 113 = .ok (.if_icmp .ne 7, 3) := by decide +kernel
theorem dX11_tried_116 : decode cX11_tried 116 = .ok (.iconst 1, 1) := by decide +kernel
theorem dX11_tried_117 : decode cX11_tried 117 = .ok (.goto 4, 3) := by decide +kernel
theorem dX11_tried_120 : decode cX11_tried 120 = .ok (.iconst 0, 1) := by decide +kernel
theorem dX11_tried_121 : decode cX11_tried 121 = .ok (.putfield 380, 3) := by decide +kernel
theorem dX11_tried_124 : decode cX11_tried 124 = .ok (.aload_n 0, 1) := by decide +kernel
theorem dX11_tried_125 : decode cX11_tried 125 = .ok (.iload_n 3, 1) := by decide +kernel
theorem dX11_tried_126 : decode cX11_tried 126 = .ok (.invokevirtual 464, 3) := by decide +kernel
theorem dX11_tried_129 : decode cX11_tried 129 = .ok (.aload_n 0, 1) := by decide +kernel
theorem dX11_tried_130 : decode cX11_tried 130 = .ok (.invokevirtual 359, 3) := by decide +kernel
theorem dX11_tried_133 : decode cX11_tried 133 = .ok (.iconst 0, 1) := by decide +kernel
theorem dX11_tried_134 : decode cX11_tried 134 = .ok (.istore 4, 2) := by decide +kernel
theorem dX11_tried_136 : decode cX11_tried 136 = .ok (.iconst 0, 1) := by decide +kernel
theorem dX11_tried_137 : decode cX11_tried 137 = .ok (.istore 5, 2) := by decide +kernel
theorem dX11_tried_139 : decode cX11_tried 139 = .ok (.iload 5, 2) := by decide +kernel
theorem dX11_tried_141 : decode cX11_tried 141 = .ok (.aload_n 0, 1) := by decide +kernel
theorem dX11_tried_142 : decode cX11_tried 142 = .ok (.getfield 234, 3) := by decide +kernel
theorem dX11_tried_145 : decode cX11_tried 145 = .ok (.if_icmp .ge 21, 3) := by decide +kernel
theorem dX11_tried_148 : decode cX11_tried 148 = .ok (.iload 4, 2) := by decide +kernel
theorem dX11_tried_150 : decode cX11_tried 150 = .ok (.aload_n 0, 1) := by decide +kernel
theorem dX11_tried_151 : decode cX11_tried 151 = .ok (.iconst 1, 1) := by decide +kernel
theorem dX11_tried_152 : decode cX11_tried 152 = .ok (.iload 5, 2) := by decide +kernel
theorem dX11_tried_154 : decode cX11_tried 154 = .ok (.invokevirtual 473, 3) := by decide +kernel
theorem dX11_tried_157 : decode cX11_tried 157 = .ok (.iadd, 1) := by decide +kernel
theorem dX11_tried_158 : decode cX11_tried 158 = .ok (.istore 4, 2) := by decide +kernel
theorem dX11_tried_160 : decode cX11_tried 160 = .ok (.iinc 5 1, 3) := by decide +kernel
theorem dX11_tried_163 : decode cX11_tried 163 = .ok (.goto (-24), 3) := by decide +kernel
theorem dX11_tried_166 : decode cX11_tried 166 = .ok (.iload 4, 2) := by decide +kernel
theorem dX11_tried_168 : decode cX11_tried 168 = .ok (.ireturn, 1) := by decide +kernel
theorem dX11_put_0 : decode cX11_put 0 = .ok (.aload_n 1, 1) := by decide +kernel
theorem dX11_put_1 : decode cX11_put 1 = .ok (.iload_n 2, 1) := by decide +kernel
theorem dX11_put_2 : decode cX11_put 2 = .ok (.aload_n 0, 1) := by decide +kernel
theorem dX11_put_3 : decode cX11_put 3 = .ok (.getfield 109, 3) := by decide +kernel
theorem dX11_put_6 : decode cX11_put 6 = .ok (.iconst 0, 1) := by decide +kernel
theorem dX11_put_7 : decode cX11_put 7 = .ok (.iaload, 1) := by decide +kernel
theorem dX11_put_8 : decode cX11_put 8 = .ok (.iastore, 1) := by decide +kernel
theorem dX11_put_9 : decode cX11_put 9 = .ok (.aload_n 1, 1) := by decide +kernel
theorem dX11_put_10 : decode cX11_put 10 = .ok (.iload_n 2, 1) := by decide +kernel
theorem dX11_put_11 : decode cX11_put 11 = .ok (.iconst 1, 1) := by decide +kernel
theorem dX11_put_12 : decode cX11_put 12 = .ok (.iadd, 1) := by decide +kernel
theorem dX11_put_13 : decode cX11_put 13 = .ok (.aload_n 0, 1) := by decide +kernel
theorem dX11_put_14 : decode cX11_put 14 = .ok (.getfield 112, 3) := by decide +kernel
theorem dX11_put_17 : decode cX11_put 17 = .ok (.iconst 0, 1) := by decide +kernel
theorem dX11_put_18 : decode cX11_put 18 = .ok (.iaload, 1) := by decide +kernel
theorem dX11_put_19 : decode cX11_put 19 = .ok (.iastore, 1) := by decide +kernel
theorem dX11_put_20 : decode cX11_put 20 = .ok (.iconst 0, 1) := by decide +kernel
theorem dX11_put_21 : decode cX11_put 21 = .ok (.istore_n 3, 1) := by decide +kernel
theorem dX11_put_22 : decode cX11_put 22 = .ok (.iload_n 3, 1) := by decide +kernel
theorem dX11_put_23 : decode cX11_put 23 = .ok (.bipush 6, 2) := by decide +kernel
theorem dX11_put_25 : decode cX11_put 25 = .ok (.if_icmp .ge 22, 3) := by decide +kernel
theorem dX11_put_28 : decode cX11_put 28 = .ok (.aload_n 1, 1) := by decide +kernel
theorem dX11_put_29 : decode cX11_put 29 = .ok (.iload_n 2, 1) := by decide +kernel
theorem dX11_put_30 : decode cX11_put 30 = .ok (.iconst 2, 1) := by decide +kernel
theorem dX11_put_31 : decode cX11_put 31 = .ok (.iadd, 1) := by decide +kernel
theorem dX11_put_32 : decode cX11_put 32 = .ok (.iload_n 3, 1) := by decide +kernel
theorem dX11_put_33 : decode cX11_put 33 = .ok (.iadd, 1) := by decide +kernel
theorem dX11_put_34 : decode cX11_put 34 = .ok (.aload_n 0, 1) := by decide +kernel
theorem dX11_put_35 : decode cX11_put 35 = .ok (.getfield 91, 3) := by decide +kernel
theorem dX11_put_38 : decode cX11_put 38 = .ok (.iload_n 3, 1) := by decide +kernel
theorem dX11_put_39 : decode cX11_put 39 = .ok (.iaload, 1) := by decide +kernel
theorem dX11_put_40 : decode cX11_put 40 = .ok (.iastore, 1) := by decide +kernel
theorem dX11_put_41 : decode cX11_put 41 = .ok (.iinc 3 1, 3) := by decide +kernel
theorem dX11_put_44 : decode cX11_put 44 = .ok (.goto (-22), 3) := by decide +kernel
theorem dX11_put_47 : decode cX11_put 47 = .ok (.return_, 1) := by decide +kernel
theorem dX11_take_0 : decode cX11_take 0 = .ok (.aload_n 0, 1) := by decide +kernel
theorem dX11_take_1 : decode cX11_take 1 = .ok (.getfield 109, 3) := by decide +kernel
theorem dX11_take_4 : decode cX11_take 4 = .ok (.iconst 0, 1) := by decide +kernel
theorem dX11_take_5 : decode cX11_take 5 = .ok (.aload_n 1, 1) := by decide +kernel
theorem dX11_take_6 : decode cX11_take 6 = .ok (.iload_n 2, 1) := by decide +kernel
theorem dX11_take_7 : decode cX11_take 7 = .ok (.iaload, 1) := by decide +kernel
theorem dX11_take_8 : decode cX11_take 8 = .ok (.iastore, 1) := by decide +kernel
theorem dX11_take_9 : decode cX11_take 9 = .ok (.aload_n 0, 1) := by decide +kernel
theorem dX11_take_10 : decode cX11_take 10 = .ok (.getfield 112, 3) := by decide +kernel
theorem dX11_take_13 : decode cX11_take 13 = .ok (.iconst 0, 1) := by decide +kernel
theorem dX11_take_14 : decode cX11_take 14 = .ok (.aload_n 1, 1) := by decide +kernel
theorem dX11_take_15 : decode cX11_take 15 = .ok (.iload_n 2, 1) := by decide +kernel
theorem dX11_take_16 : decode cX11_take 16 = .ok (.iconst 1, 1) := by decide +kernel
theorem dX11_take_17 : decode cX11_take 17 = .ok (.iadd, 1) := by decide +kernel
theorem dX11_take_18 : decode cX11_take 18 = .ok (.iaload, 1) := by decide +kernel
theorem dX11_take_19 : decode cX11_take 19 = .ok (.iastore, 1) := by decide +kernel
theorem dX11_take_20 : decode cX11_take 20 = .ok (.iconst 0, 1) := by decide +kernel
theorem dX11_take_21 : decode cX11_take 21 = .ok (.istore_n 3, 1) := by decide +kernel
theorem dX11_take_22 : decode cX11_take 22 = .ok (.iload_n 3, 1) := by decide +kernel
theorem dX11_take_23 : decode cX11_take 23 = .ok (.bipush 6, 2) := by decide +kernel
theorem dX11_take_25 : decode cX11_take 25 = .ok (.if_icmp .ge 22, 3) := by decide +kernel
theorem dX11_take_28 : decode cX11_take 28 = .ok (.aload_n 0, 1) := by decide +kernel
theorem dX11_take_29 : decode cX11_take 29 = .ok (.getfield 91, 3) := by decide +kernel
theorem dX11_take_32 : decode cX11_take 32 = .ok (.iload_n 3, 1) := by decide +kernel
theorem dX11_take_33 : decode cX11_take 33 = .ok (.aload_n 1, 1) := by decide +kernel
theorem dX11_take_34 : decode cX11_take 34 = .ok (.iload_n 2, 1) := by decide +kernel
theorem dX11_take_35 : decode cX11_take 35 = .ok (.iconst 2, 1) := by decide +kernel
theorem dX11_take_36 : decode cX11_take 36 = .ok (.iadd, 1) := by decide +kernel
theorem dX11_take_37 : decode cX11_take 37 = .ok (.iload_n 3, 1) := by decide +kernel
theorem dX11_take_38 : decode cX11_take 38 = .ok (.iadd, 1) := by decide +kernel
theorem dX11_take_39 : decode cX11_take 39 = .ok (.iaload, 1) := by decide +kernel
theorem dX11_take_40 : decode cX11_take 40 = .ok (.iastore, 1) := by decide +kernel
theorem dX11_take_41 : decode cX11_take 41 = .ok (.iinc 3 1, 3) := by decide +kernel
theorem dX11_take_44 : decode cX11_take 44 = .ok (.goto (-22), 3) := by decide +kernel
theorem dX11_take_47 : decode cX11_take 47 = .ok (.return_, 1) := by decide +kernel
theorem dX11_remember_0 : decode cX11_remember 0 = .ok (.aload_n 0, 1) := by decide +kernel
theorem dX11_remember_1 : decode cX11_remember 1 = .ok (.getfield 365, 3) := by decide +kernel
theorem dX11_remember_4 : decode cX11_remember 4 = .ok (.bipush 20, 2) := by decide +kernel
theorem dX11_remember_6 : decode cX11_remember 6 = .ok (.if_icmp .ne 43, 3) := by decide +kernel
theorem dX11_remember_9 : decode cX11_remember 9 = .ok (.iconst 0, 1) := by decide +kernel
theorem dX11_remember_10 : decode cX11_remember 10 = .ok (.istore_n 1, 1) := by decide +kernel
theorem dX11_remember_11 : decode cX11_remember 11 = .ok (.iload_n 1, 1) := by decide +kernel
theorem dX11_remember_12 : decode cX11_remember 12 = .ok (.sipush 152, 3) := by decide +kernel
theorem dX11_remember_15 : decode cX11_remember 15 = .ok (.if_icmp .ge 24, 3) := by decide +kernel
theorem dX11_remember_18 : decode cX11_remember 18 = .ok (.aload_n 0, 1) := by decide +kernel
theorem dX11_remember_19 : decode cX11_remember 19 = .ok (.getfield 136, 3) := by decide +kernel
theorem dX11_remember_22 : decode cX11_remember 22 = .ok (.iload_n 1, 1) := by decide +kernel
theorem dX11_remember_23 : decode cX11_remember 23 = .ok (.aload_n 0, 1) := by decide +kernel
theorem dX11_remember_24 : decode cX11_remember 24 = .ok (.getfield 136, 3) := by decide +kernel
theorem dX11_remember_27 : decode cX11_remember 27 = .ok (.iload_n 1, 1) := by decide +kernel
theorem dX11_remember_28 : decode cX11_remember 28 = .ok (.bipush 8, 2) := by decide +kernel
theorem dX11_remember_30 : decode cX11_remember 30 = .ok (.iadd, 1) := by decide +kernel
theorem dX11_remember_31 : decode cX11_remember 31 = .ok (.iaload, 1) := by decide +kernel
theorem dX11_remember_32 : decode cX11_remember 32 = .ok (.iastore, 1) := by decide +kernel
theorem dX11_remember_33 : decode cX11_remember 33 = .ok (.iinc 1 1, 3) := by decide +kernel
theorem dX11_remember_36 : decode cX11_remember 36 = .ok (.goto (-25), 3) := by decide +kernel
theorem dX11_remember_39 : decode cX11_remember 39 = .ok (.aload_n 0, 1) := by decide +kernel
theorem dX11_remember_40 : decode cX11_remember 40 = .ok (.dup, 1) := by decide +kernel
theorem dX11_remember_41 : decode cX11_remember 41 = .ok (.getfield 365, 3) := by decide +kernel
theorem dX11_remember_44 : decode cX11_remember 44 = .ok (.iconst 1, 1) := by decide +kernel
theorem dX11_remember_45 : decode cX11_remember 45 = .ok (.isub, 1) := by decide +kernel
theorem dX11_remember_46 : decode cX11_remember 46 = .ok (.putfield 365, 3) := by decide +kernel
theorem dX11_remember_49 : decode cX11_remember 49 = .ok (.aload_n 0, 1) := by decide +kernel
theorem dX11_remember_50 : decode cX11_remember 50 = .ok (.aload_n 0, 1) := by decide +kernel
theorem dX11_remember_51 : decode cX11_remember 51 = .ok (.getfield 136, 3) := by decide +kernel
theorem dX11_remember_54 : decode cX11_remember 54 = .ok (.bipush 8, 2) := by decide +kernel
theorem dX11_remember_56 : decode cX11_remember 56 = .ok (.aload_n 0, 1) := by decide +kernel
theorem dX11_remember_57 : decode cX11_remember 57 = .ok (.getfield 365, 3) := by decide +kernel
theorem dX11_remember_60 : decode cX11_remember 60 = .ok (.imul, 1) := by decide +kernel
theorem dX11_remember_61 : decode cX11_remember 61 = .ok (.invokevirtual 538, 3) := by decide +kernel
theorem dX11_remember_64 : decode cX11_remember 64 = .ok (.aload_n 0, 1) := by decide +kernel
theorem dX11_remember_65 : decode cX11_remember 65 = .ok (.dup, 1) := by decide +kernel
theorem dX11_remember_66 : decode cX11_remember 66 = .ok (.getfield 365, 3) := by decide +kernel
theorem dX11_remember_69 : decode cX11_remember 69 = .ok (.iconst 1, 1) := by decide +kernel
theorem dX11_remember_70 : decode cX11_remember 70 = .ok (.iadd, 1) := by decide +kernel
theorem dX11_remember_71 : decode cX11_remember 71 = .ok (.putfield 365, 3) := by decide +kernel
theorem dX11_remember_74 : decode cX11_remember 74 = .ok (.return_, 1) := by decide +kernel
theorem dX11_undo_0 : decode cX11_undo 0 = .ok (.aload_n 0, 1) := by decide +kernel
theorem dX11_undo_1 : decode cX11_undo 1 = .ok (.iconst 0, 1) := by decide +kernel
theorem dX11_undo_2 : decode cX11_undo 2 = .ok (.putfield 151, 3) := by decide +kernel
theorem dX11_undo_5 : decode cX11_undo 5 = .ok (.aload_n 0, 1) := by decide +kernel
theorem dX11_undo_6 : decode cX11_undo 6 = .ok (.getfield 365, 3) := by decide +kernel
theorem dX11_undo_9 : decode cX11_undo 9 = .ok (.ifCond .ne 5, 3) := by decide +kernel
theorem dX11_undo_12 : decode cX11_undo 12 = .ok (.iconst (-1), 1) := by decide +kernel
theorem dX11_undo_13 : decode cX11_undo 13 = .ok (.ireturn, 1) := by decide +kernel
theorem dX11_undo_14 : decode cX11_undo 14 = .ok (.aload_n 0, 1) := by decide +kernel
theorem dX11_undo_15 : decode cX11_undo 15 = .ok (.dup, 1) := by decide +kernel
theorem dX11_undo_16 : decode cX11_undo 16 = .ok (.getfield 365, 3) := by decide +kernel
theorem dX11_undo_19 : decode cX11_undo 19 = .ok (.iconst 1, 1) := by decide +kernel
theorem dX11_undo_20 : decode cX11_undo 20 = .ok (.isub, 1) := by decide +kernel
theorem dX11_undo_21 : decode cX11_undo 21 = .ok (.putfield 365, 3) := by decide +kernel
theorem dX11_undo_24 : decode cX11_undo 24 = .ok (.aload_n 0, 1) := by decide +kernel
theorem dX11_undo_25 : decode cX11_undo 25 = .ok (.aload_n 0, 1) := by decide +kernel
theorem dX11_undo_26 : decode cX11_undo 26 = .ok (.getfield 136, 3) := by decide +kernel
theorem dX11_undo_29 : decode cX11_undo 29 = .ok (.bipush 8, 2) := by decide +kernel
theorem dX11_undo_31 : decode cX11_undo 31 = .ok (.aload_n 0, 1) := by decide +kernel
theorem dX11_undo_32 : decode cX11_undo 32 = .ok (.getfield 365, 3) := by decide +kernel
theorem dX11_undo_35 : decode cX11_undo 35 = .ok (.imul, 1) := by decide +kernel
theorem dX11_undo_36 : decode cX11_undo 36 = .ok (.invokevirtual 541, 3) := by decide +kernel
theorem dX11_undo_39 : decode cX11_undo 39 = .ok (.aload_n 0, 1) := by decide +kernel
theorem dX11_undo_40 : decode cX11_undo 40 = .ok (.getfield 365, 3) := by decide +kernel
theorem dX11_undo_43 : decode cX11_undo 43 = .ok (.ireturn, 1) := by decide +kernel
theorem dX11_keep_0 : decode cX11_keep 0 = .ok (.aload_n 0, 1) := by decide +kernel
theorem dX11_keep_1 : decode cX11_keep 1 = .ok (.iconst 0, 1) := by decide +kernel
theorem dX11_keep_2 : decode cX11_keep 2 = .ok (.putfield 151, 3) := by decide +kernel
theorem dX11_keep_5 : decode cX11_keep 5 = .ok (.aload_n 0, 1) := by decide +kernel
theorem dX11_keep_6 : decode cX11_keep 6 = .ok (.iconst 1, 1) := by decide +kernel
theorem dX11_keep_7 : decode cX11_keep 7 = .ok (.putfield 368, 3) := by decide +kernel
theorem dX11_keep_10 : decode cX11_keep 10 = .ok (.aload_n 0, 1) := by decide +kernel
theorem dX11_keep_11 : decode cX11_keep 11 = .ok (.aload_n 0, 1) := by decide +kernel
theorem dX11_keep_12 : decode cX11_keep 12 = .ok (.getfield 139, 3) := by decide +kernel
theorem dX11_keep_15 : decode cX11_keep 15 = .ok (.iconst 0, 1) := by decide +kernel
theorem dX11_keep_16 : decode cX11_keep 16 = .ok (.invokevirtual 538, 3) := by decide +kernel
theorem dX11_keep_19 : decode cX11_keep 19 = .ok (.iconst 0, 1) := by decide +kernel
theorem dX11_keep_20 : decode cX11_keep 20 = .ok (.istore_n 1, 1) := by decide +kernel
theorem dX11_keep_21 : decode cX11_keep 21 = .ok (.iload_n 1, 1) := by decide +kernel
theorem dX11_keep_22 : decode cX11_keep 22 = .ok (.bipush 6, 2) := by decide +kernel
theorem dX11_keep_24 : decode cX11_keep 24 = .ok (.if_icmp .ge 66, 3) := by decide +kernel
theorem dX11_keep_27 : decode cX11_keep 27 = .ok (.aload_n 0, 1) := by decide +kernel
theorem dX11_keep_28 : decode cX11_keep 28 = .ok (.getfield 142, 3) := by decide +kernel
theorem dX11_keep_31 : decode cX11_keep 31 = .ok (.iload_n 1, 1) := by decide +kernel
theorem dX11_keep_32 : decode cX11_keep 32 = .ok (.aload_n 0, 1) := by decide +kernel
theorem dX11_keep_33 : decode cX11_keep 33 = .ok (.getfield 94, 3) := by decide +kernel
theorem dX11_keep_36 : decode cX11_keep 36 = .ok (.iload_n 1, 1) := by decide +kernel
theorem dX11_keep_37 : decode cX11_keep 37 = .ok (.iaload, 1) := by decide +kernel
theorem dX11_keep_38 : decode cX11_keep 38 = .ok (.iastore, 1) := by decide +kernel
theorem dX11_keep_39 : decode cX11_keep 39 = .ok (.aload_n 0, 1) := by decide +kernel
theorem dX11_keep_40 : decode cX11_keep 40 = .ok (.getfield 142, 3) := by decide +kernel
theorem dX11_keep_43 : decode cX11_keep 43 = .ok (.bipush 6, 2) := by decide +kernel
theorem dX11_keep_45 : decode cX11_keep 45 = .ok (.iload_n 1, 1) := by decide +kernel
theorem dX11_keep_46 : decode cX11_keep 46 = .ok (.iadd, 1) := by decide +kernel
theorem dX11_keep_47 : decode cX11_keep 47 = .ok (.aload_n 0, 1) := by decide +kernel
theorem dX11_keep_48 : decode cX11_keep 48 = .ok (.getfield 97, 3) := by decide +kernel
theorem dX11_keep_51 : decode cX11_keep 51 = .ok (.iload_n 1, 1) := by decide +kernel
theorem dX11_keep_52 : decode cX11_keep 52 = .ok (.iaload, 1) := by decide +kernel
theorem dX11_keep_53 : decode cX11_keep 53 = .ok (.iastore, 1) := by decide +kernel
theorem dX11_keep_54 : decode cX11_keep 54 = .ok (.aload_n 0, 1) := by decide +kernel
theorem dX11_keep_55 : decode cX11_keep 55 = .ok (.getfield 142, 3) := by decide +kernel
theorem dX11_keep_58 : decode cX11_keep 58 = .ok (.bipush 12, 2) := by decide +kernel
theorem dX11_keep_60 : decode cX11_keep 60 = .ok (.iload_n 1, 1) := by decide +kernel
theorem dX11_keep_61 : decode cX11_keep 61 = .ok (.iadd, 1) := by decide +kernel
theorem dX11_keep_62 : decode cX11_keep 62 = .ok (.aload_n 0, 1) := by decide +kernel
theorem dX11_keep_63 : decode cX11_keep 63 = .ok (.getfield 100, 3) := by decide +kernel
theorem dX11_keep_66 : decode cX11_keep 66 = .ok (.iload_n 1, 1) := by decide +kernel
theorem dX11_keep_67 : decode cX11_keep 67 = .ok (.iaload, 1) := by decide +kernel
theorem dX11_keep_68 : decode cX11_keep 68 = .ok (.iastore, 1) := by decide +kernel
theorem dX11_keep_69 : decode cX11_keep 69 = .ok (.aload_n 0, 1) := by decide +kernel
theorem dX11_keep_70 : decode cX11_keep 70 = .ok (.getfield 142, 3) := by decide +kernel
theorem dX11_keep_73 : decode cX11_keep 73 = .ok (.bipush 18, 2) := by decide +kernel
theorem dX11_keep_75 : decode cX11_keep 75 = .ok (.iload_n 1, 1) := by decide +kernel
theorem dX11_keep_76 : decode cX11_keep 76 = .ok (.iadd, 1) := by decide +kernel
theorem dX11_keep_77 : decode cX11_keep 77 = .ok (.aload_n 0, 1) := by decide +kernel
theorem dX11_keep_78 : decode cX11_keep 78 = .ok (.getfield 103, 3) := by decide +kernel
theorem dX11_keep_81 : decode cX11_keep 81 = .ok (.iload_n 1, 1) := by decide +kernel
theorem dX11_keep_82 : decode cX11_keep 82 = .ok (.iaload, 1) := by decide +kernel
theorem dX11_keep_83 : decode cX11_keep 83 = .ok (.iastore, 1) := by decide +kernel
theorem dX11_keep_84 : decode cX11_keep 84 = .ok (.iinc 1 1, 3) := by decide +kernel
theorem dX11_keep_87 : decode cX11_keep 87 = .ok (.goto (-66), 3) := by decide +kernel
theorem dX11_keep_90 : decode cX11_keep 90 = .ok (.aload_n 0, 1) := by decide +kernel
theorem dX11_keep_91 : decode cX11_keep 91 = .ok (.getfield 142, 3) := by decide +kernel
theorem dX11_keep_94 : decode cX11_keep 94 = .ok (.bipush 24, 2) := by decide +kernel
theorem dX11_keep_96 : decode cX11_keep 96 = .ok (.aload_n 0, 1) := by decide +kernel
theorem dX11_keep_97 : decode cX11_keep 97 = .ok (.getfield 106, 3) := by decide +kernel
theorem dX11_keep_100 : decode cX11_keep 100 = .ok (.iconst 0, 1) := by decide +kernel
theorem dX11_keep_101 : decode cX11_keep 101 = .ok (.iaload, 1) := by decide +kernel
theorem dX11_keep_102 : decode cX11_keep 102 = .ok (.iastore, 1) := by decide +kernel
theorem dX11_keep_103 : decode cX11_keep 103 = .ok (.aload_n 0, 1) := by decide +kernel
theorem dX11_keep_104 : decode cX11_keep 104 = .ok (.getfield 142, 3) := by decide +kernel
theorem dX11_keep_107 : decode cX11_keep 107 = .ok (.bipush 25, 2) := by decide +kernel
theorem dX11_keep_109 : decode cX11_keep 109 = .ok (.aload_n 0, 1) := by decide +kernel
theorem dX11_keep_110 : decode cX11_keep 110 = .ok (.getfield 115, 3) := by decide +kernel
theorem dX11_keep_113 : decode cX11_keep 113 = .ok (.iconst 0, 1) := by decide +kernel
theorem dX11_keep_114 : decode cX11_keep 114 = .ok (.iaload, 1) := by decide +kernel
theorem dX11_keep_115 : decode cX11_keep 115 = .ok (.iastore, 1) := by decide +kernel
theorem dX11_keep_116 : decode cX11_keep 116 = .ok (.aload_n 0, 1) := by decide +kernel
theorem dX11_keep_117 : decode cX11_keep 117 = .ok (.getfield 142, 3) := by decide +kernel
theorem dX11_keep_120 : decode cX11_keep 120 = .ok (.bipush 26, 2) := by decide +kernel
theorem dX11_keep_122 : decode cX11_keep 122 = .ok (.aload_n 0, 1) := by decide +kernel
theorem dX11_keep_123 : decode cX11_keep 123 = .ok (.getfield 118, 3) := by decide +kernel
theorem dX11_keep_126 : decode cX11_keep 126 = .ok (.iconst 0, 1) := by decide +kernel
theorem dX11_keep_127 : decode cX11_keep 127 = .ok (.iaload, 1) := by decide +kernel
theorem dX11_keep_128 : decode cX11_keep 128 = .ok (.iastore, 1) := by decide +kernel
theorem dX11_keep_129 : decode cX11_keep 129 = .ok (.aload_n 0, 1) := by decide +kernel
theorem dX11_keep_130 : decode cX11_keep 130 = .ok (.aload_n 0, 1) := by decide +kernel
theorem dX11_keep_131 : decode cX11_keep 131 = .ok (.getfield 355, 3) := by decide +kernel
theorem dX11_keep_134 : decode cX11_keep 134 = .ok (.putfield 544, 3) := by decide +kernel
theorem dX11_keep_137 : decode cX11_keep 137 = .ok (.aload_n 0, 1) := by decide +kernel
theorem dX11_keep_138 : decode cX11_keep 138 = .ok (.getfield 118, 3) := by decide +kernel
theorem dX11_keep_141 : decode cX11_keep 141 = .ok (.iconst 0, 1) := by decide +kernel
theorem dX11_keep_142 : decode cX11_keep 142 = .ok (.iaload, 1) := by decide +kernel
theorem dX11_keep_143 : decode cX11_keep 143 = .ok (.ireturn, 1) := by decide +kernel
theorem dX11_back_0 : decode cX11_back 0 = .ok (.aload_n 0, 1) := by decide +kernel
theorem dX11_back_1 : decode cX11_back 1 = .ok (.iconst 0, 1) := by decide +kernel
theorem dX11_back_2 : decode cX11_back 2 = .ok (.putfield 151, 3) := by decide +kernel
theorem dX11_back_5 : decode cX11_back 5 = .ok (.aload_n 0, 1) := by decide +kernel
theorem dX11_back_6 : decode cX11_back 6 = .ok (.getfield 368, 3) := by decide +kernel
theorem dX11_back_9 : decode cX11_back 9 = .ok (.ifCond .ne 5, 3) := by decide +kernel
theorem dX11_back_12 : decode cX11_back 12 = .ok (.iconst (-1), 1) := by decide +kernel
theorem dX11_back_13 : decode cX11_back 13 = .ok (.ireturn, 1) := by decide +kernel
theorem dX11_back_14 : decode cX11_back 14 = .ok (.aload_n 0, 1) := by decide +kernel
theorem dX11_back_15 : decode cX11_back 15 = .ok (.aload_n 0, 1) := by decide +kernel
theorem dX11_back_16 : decode cX11_back 16 = .ok (.getfield 139, 3) := by decide +kernel
theorem dX11_back_19 : decode cX11_back 19 = .ok (.iconst 0, 1) := by decide +kernel
theorem dX11_back_20 : decode cX11_back 20 = .ok (.invokevirtual 541, 3) := by decide +kernel
theorem dX11_back_23 : decode cX11_back 23 = .ok (.iconst 0, 1) := by decide +kernel
theorem dX11_back_24 : decode cX11_back 24 = .ok (.istore_n 1, 1) := by decide +kernel
theorem dX11_back_25 : decode cX11_back 25 = .ok (.iload_n 1, 1) := by decide +kernel
theorem dX11_back_26 : decode cX11_back 26 = .ok (.bipush 6, 2) := by decide +kernel
theorem dX11_back_28 : decode cX11_back 28 = .ok (.if_icmp .ge 66, 3) := by decide +kernel
theorem dX11_back_31 : decode cX11_back 31 = .ok (.aload_n 0, 1) := by decide +kernel
theorem dX11_back_32 : decode cX11_back 32 = .ok (.getfield 94, 3) := by decide +kernel
theorem dX11_back_35 : decode cX11_back 35 = .ok (.iload_n 1, 1) := by decide +kernel
theorem dX11_back_36 : decode cX11_back 36 = .ok (.aload_n 0, 1) := by decide +kernel
theorem dX11_back_37 : decode cX11_back 37 = .ok (.getfield 142, 3) := by decide +kernel
theorem dX11_back_40 : decode cX11_back 40 = .ok (.iload_n 1, 1) := by decide +kernel
theorem dX11_back_41 : decode cX11_back 41 = .ok (.iaload, 1) := by decide +kernel
theorem dX11_back_42 : decode cX11_back 42 = .ok (.iastore, 1) := by decide +kernel
theorem dX11_back_43 : decode cX11_back 43 = .ok (.aload_n 0, 1) := by decide +kernel
theorem dX11_back_44 : decode cX11_back 44 = .ok (.getfield 97, 3) := by decide +kernel
theorem dX11_back_47 : decode cX11_back 47 = .ok (.iload_n 1, 1) := by decide +kernel
theorem dX11_back_48 : decode cX11_back 48 = .ok (.aload_n 0, 1) := by decide +kernel
theorem dX11_back_49 : decode cX11_back 49 = .ok (.getfield 142, 3) := by decide +kernel
theorem dX11_back_52 : decode cX11_back 52 = .ok (.bipush 6, 2) := by decide +kernel
theorem dX11_back_54 : decode cX11_back 54 = .ok (.iload_n 1, 1) := by decide +kernel
theorem dX11_back_55 : decode cX11_back 55 = .ok (.iadd, 1) := by decide +kernel
theorem dX11_back_56 : decode cX11_back 56 = .ok (.iaload, 1) := by decide +kernel
theorem dX11_back_57 : decode cX11_back 57 = .ok (.iastore, 1) := by decide +kernel
theorem dX11_back_58 : decode cX11_back 58 = .ok (.aload_n 0, 1) := by decide +kernel
theorem dX11_back_59 : decode cX11_back 59 = .ok (.getfield 100, 3) := by decide +kernel
theorem dX11_back_62 : decode cX11_back 62 = .ok (.iload_n 1, 1) := by decide +kernel
theorem dX11_back_63 : decode cX11_back 63 = .ok (.aload_n 0, 1) := by decide +kernel
theorem dX11_back_64 : decode cX11_back 64 = .ok (.getfield 142, 3) := by decide +kernel
theorem dX11_back_67 : decode cX11_back 67 = .ok (.bipush 12, 2) := by decide +kernel
theorem dX11_back_69 : decode cX11_back 69 = .ok (.iload_n 1, 1) := by decide +kernel
theorem dX11_back_70 : decode cX11_back 70 = .ok (.iadd, 1) := by decide +kernel
theorem dX11_back_71 : decode cX11_back 71 = .ok (.iaload, 1) := by decide +kernel
theorem dX11_back_72 : decode cX11_back 72 = .ok (.iastore, 1) := by decide +kernel
theorem dX11_back_73 : decode cX11_back 73 = .ok (.aload_n 0, 1) := by decide +kernel
theorem dX11_back_74 : decode cX11_back 74 = .ok (.getfield 103, 3) := by decide +kernel
theorem dX11_back_77 : decode cX11_back 77 = .ok (.iload_n 1, 1) := by decide +kernel
theorem dX11_back_78 : decode cX11_back 78 = .ok (.aload_n 0, 1) := by decide +kernel
theorem dX11_back_79 : decode cX11_back 79 = .ok (.getfield 142, 3) := by decide +kernel
theorem dX11_back_82 : decode cX11_back 82 = .ok (.bipush 18, 2) := by decide +kernel
theorem dX11_back_84 : decode cX11_back 84 = .ok (.iload_n 1, 1) := by decide +kernel
theorem dX11_back_85 : decode cX11_back 85 = .ok (.iadd, 1) := by decide +kernel
theorem dX11_back_86 : decode cX11_back 86 = .ok (.iaload, 1) := by decide +kernel
theorem dX11_back_87 : decode cX11_back 87 = .ok (.iastore, 1) := by decide +kernel
theorem dX11_back_88 : decode cX11_back 88 = .ok (.iinc 1 1, 3) := by decide +kernel
theorem dX11_back_91 : decode cX11_back 91 = .ok (.goto (-66), 3) := by decide +kernel
theorem dX11_back_94 : decode cX11_back 94 = .ok (.aload_n 0, 1) := by decide +kernel
theorem dX11_back_95 : decode cX11_back 95 = .ok (.getfield 106, 3) := by decide +kernel
theorem dX11_back_98 : decode cX11_back 98 = .ok (.iconst 0, 1) := by decide +kernel
theorem dX11_back_99 : decode cX11_back 99 = .ok (.aload_n 0, 1) := by decide +kernel
theorem dX11_back_100 : decode cX11_back 100 = .ok (.getfield 142, 3) := by decide +kernel
theorem dX11_back_103 : decode cX11_back 103 = .ok (.bipush 24, 2) := by decide +kernel
theorem dX11_back_105 : decode cX11_back 105 = .ok (.iaload, 1) := by decide +kernel
theorem dX11_back_106 : decode cX11_back 106 = .ok (.iastore, 1) := by decide +kernel
theorem dX11_back_107 : decode cX11_back 107 = .ok (.aload_n 0, 1) := by decide +kernel
theorem dX11_back_108 : decode cX11_back 108 = .ok (.getfield 115, 3) := by decide +kernel
theorem dX11_back_111 : decode cX11_back 111 = .ok (.iconst 0, 1) := by decide +kernel
theorem dX11_back_112 : decode cX11_back 112 = .ok (.aload_n 0, 1) := by decide +kernel
theorem dX11_back_113 : decode cX11_back 113 = .ok (.getfield 142, 3) := by decide +kernel
theorem dX11_back_116 : decode cX11_back 116 = .ok (.bipush 25, 2) := by decide +kernel
theorem dX11_back_118 : decode cX11_back 118 = .ok (.iaload, 1) := by decide +kernel
theorem dX11_back_119 : decode cX11_back 119 = .ok (.iastore, 1) := by decide +kernel
theorem dX11_back_120 : decode cX11_back 120 = .ok (.aload_n 0, 1) := by decide +kernel
theorem dX11_back_121 : decode cX11_back 121 = .ok (.getfield 118, 3) := by decide +kernel
theorem dX11_back_124 : decode cX11_back 124 = .ok (.iconst 0, 1) := by decide +kernel
theorem dX11_back_125 : decode cX11_back 125 = .ok (.aload_n 0, 1) := by decide +kernel
theorem dX11_back_126 : decode cX11_back 126 = .ok (.getfield 142, 3) := by decide +kernel
theorem dX11_back_129 : decode cX11_back 129 = .ok (.bipush 26, 2) := by decide +kernel
theorem dX11_back_131 : decode cX11_back 131 = .ok (.iaload, 1) := by decide +kernel
theorem dX11_back_132 : decode cX11_back 132 = .ok (.iastore, 1) := by decide +kernel
theorem dX11_back_133 : decode cX11_back 133 = .ok (.aload_n 0, 1) := by decide +kernel
theorem dX11_back_134 : decode cX11_back 134 = .ok (.aload_n 0, 1) := by decide +kernel
theorem dX11_back_135 : decode cX11_back 135 = .ok (.getfield 544, 3) := by decide +kernel
theorem dX11_back_138 : decode cX11_back 138 = .ok (.putfield 355, 3) := by decide +kernel
theorem dX11_back_141 : decode cX11_back 141 = .ok (.aload_n 0, 1) := by decide +kernel
theorem dX11_back_142 : decode cX11_back 142 = .ok (.iconst 0, 1) := by decide +kernel
theorem dX11_back_143 : decode cX11_back 143 = .ok (.putfield 365, 3) := by decide +kernel
theorem dX11_back_146 : decode cX11_back 146 = .ok (.aload_n 0, 1) := by decide +kernel
theorem dX11_back_147 : decode cX11_back 147 = .ok (.getfield 118, 3) := by decide +kernel
theorem dX11_back_150 : decode cX11_back 150 = .ok (.iconst 0, 1) := by decide +kernel
theorem dX11_back_151 : decode cX11_back 151 = .ok (.iaload, 1) := by decide +kernel
theorem dX11_back_152 : decode cX11_back 152 = .ok (.ireturn, 1) := by decide +kernel
theorem dX11_count_0 : decode cX11_count 0 = .ok (.aload_n 0, 1) := by decide +kernel
theorem dX11_count_1 : decode cX11_count 1 = .ok (.iconst 0, 1) := by decide +kernel
theorem dX11_count_2 : decode cX11_count 2 = .ok (.putfield 151, 3) := by decide +kernel
theorem dX11_count_5 : decode cX11_count 5 = .ok (.iconst 0, 1) := by decide +kernel
theorem dX11_count_6 : decode cX11_count 6 = .ok (.istore_n 2, 1) := by decide +kernel
theorem dX11_count_7 : decode cX11_count 7 = .ok (.iload_n 1, 1) := by decide +kernel
theorem dX11_count_8 : decode cX11_count 8 = .ok (.tableswitch 187 0 12 #[68, 73, 78, 83, 88, 95, 105, 132, 159, 165, 172, 177, 182], 68) := by decide +kernel
theorem dX11_count_76 : decode cX11_count 76 = .ok (.aload_n 0, 1) := by decide +kernel
theorem dX11_count_77 : decode cX11_count 77 = .ok (.getfield 231, 3) := by decide +kernel
theorem dX11_count_80 : decode cX11_count 80 = .ok (.ireturn, 1) := by decide +kernel
theorem dX11_count_81 : decode cX11_count 81 = .ok (.aload_n 0, 1) := by decide +kernel
theorem dX11_count_82 : decode cX11_count 82 = .ok (.getfield 234, 3) := by decide +kernel
theorem dX11_count_85 : decode cX11_count 85 = .ok (.ireturn, 1) := by decide +kernel
theorem dX11_count_86 : decode cX11_count 86 = .ok (.aload_n 0, 1) := by decide +kernel
theorem dX11_count_87 : decode cX11_count 87 = .ok (.getfield 240, 3) := by decide +kernel
theorem dX11_count_90 : decode cX11_count 90 = .ok (.ireturn, 1) := by decide +kernel
theorem dX11_count_91 : decode cX11_count 91 = .ok (.aload_n 0, 1) := by decide +kernel
theorem dX11_count_92 : decode cX11_count 92 = .ok (.getfield 243, 3) := by decide +kernel
theorem dX11_count_95 : decode cX11_count 95 = .ok (.ireturn, 1) := by decide +kernel
theorem dX11_count_96 : decode cX11_count 96 = .ok (.aload_n 0, 1) := by decide +kernel
theorem dX11_count_97 : decode cX11_count 97 = .ok (.getfield 118, 3) := by decide +kernel
theorem dX11_count_100 : decode cX11_count 100 = .ok (.iconst 0, 1) := by decide +kernel
theorem dX11_count_101 : decode cX11_count 101 = .ok (.iaload, 1) := by decide +kernel
theorem dX11_count_102 : decode cX11_count 102 = .ok (.ireturn, 1) := by decide +kernel
theorem dX11_count_103 : decode cX11_count 103 = .ok (.aload_n 0, 1) := by decide +kernel
theorem dX11_count_104 : decode cX11_count 104 = .ok (.getfield 106, 3) := by decide +kernel
theorem dX11_count_107 : decode cX11_count 107 = .ok (.iconst 0, 1) := by decide +kernel
theorem dX11_count_108 : decode cX11_count 108 = .ok (.iaload, 1) := by decide +kernel
theorem dX11_count_109 : decode cX11_count 109 = .ok (.invokestatic 467, 3) := by decide +kernel
theorem dX11_count_112 : decode cX11_count 112 = .ok (.ireturn, 1) := by decide +kernel
theorem dX11_count_113 : decode cX11_count 113 = .ok (.iconst 0, 1) := by decide +kernel
theorem dX11_count_114 : decode cX11_count 114 = .ok (.istore_n 3, 1) := by decide +kernel
theorem dX11_count_115 : decode cX11_count 115 = .ok (.iload_n 3, 1) := by decide +kernel
theorem dX11_count_116 : decode cX11_count 116 = .ok (.aload_n 0, 1) := by decide +kernel
theorem dX11_count_117 : decode cX11_count 117 = .ok (.getfield 234, 3) := by decide +kernel
theorem dX11_count_120 : decode cX11_count 120 = .ok (.if_icmp .ge 18, 3) := by decide +kernel
theorem dX11_count_123 : decode cX11_count 123 = .ok (.iload_n 2, 1) := by decide +kernel
theorem dX11_count_124 : decode cX11_count 124 = .ok (.aload_n 0, 1) := by decide +kernel
theorem dX11_count_125 : decode cX11_count 125 = .ok (.getfield 91, 3) := by decide +kernel
theorem dX11_count_128 : decode cX11_count 128 = .ok (.iload_n 3, 1) := by decide +kernel
theorem dX11_count_129 : decode cX11_count 129 = .ok (.iaload, 1) := by decide +kernel
theorem dX11_count_130 : decode cX11_count 130 = .ok (.iadd, 1) := by decide +kernel
theorem dX11_count_131 : decode cX11_count 131 = .ok (.istore_n 2, 1) := by decide +kernel
theorem dX11_count_132 : decode cX11_count 132 = .ok (.iinc 3 1, 3) := by decide +kernel
theorem dX11_count_135 : decode cX11_count 135 = .ok (.goto (-20), 3) := by decide +kernel
theorem dX11_count_138 : decode cX11_count 138 = .ok (.iload_n 2, 1) := by decide +kernel
theorem dX11_count_139 : decode cX11_count 139 = .ok (.ireturn, 1) := by decide +kernel
theorem dX11_count_140 : decode cX11_count 140 = .ok (.iconst 0, 1) := by decide +kernel
theorem dX11_count_141 : decode cX11_count 141 = .ok (.istore_n 3, 1) := by decide +kernel
theorem dX11_count_142 : decode cX11_count 142 = .ok (.iload_n 3, 1) := by decide +kernel
theorem dX11_count_143 : decode cX11_count 143 = .ok (.aload_n 0, 1) := by decide +kernel
theorem dX11_count_144 : decode cX11_count 144 = .ok (.getfield 234, 3) := by decide +kernel
theorem dX11_count_147 : decode cX11_count 147 = .ok (.if_icmp .ge 18, 3) := by decide +kernel
theorem dX11_count_150 : decode cX11_count 150 = .ok (.iload_n 2, 1) := by decide +kernel
theorem dX11_count_151 : decode cX11_count 151 = .ok (.aload_n 0, 1) := by decide +kernel
theorem dX11_count_152 : decode cX11_count 152 = .ok (.getfield 94, 3) := by decide +kernel
theorem dX11_count_155 : decode cX11_count 155 = .ok (.iload_n 3, 1) := by decide +kernel
theorem dX11_count_156 : decode cX11_count 156 = .ok (.iaload, 1) := by decide +kernel
theorem dX11_count_157 : decode cX11_count 157 = .ok (.iadd, 1) := by decide +kernel
theorem dX11_count_158 : decode cX11_count 158 = .ok (.istore_n 2, 1) := by decide +kernel
theorem dX11_count_159 : decode cX11_count 159 = .ok (.iinc 3 1, 3) := by decide +kernel
theorem dX11_count_162 : decode cX11_count 162 = .ok (.goto (-20), 3) := by decide +kernel
theorem dX11_count_165 : decode cX11_count 165 = .ok (.iload_n 2, 1) := by decide +kernel
theorem dX11_count_166 : decode cX11_count 166 = .ok (.ireturn, 1) := by decide +kernel
theorem dX11_count_167 : decode cX11_count 167 = .ok (.aload_n 0, 1) := by decide +kernel
theorem dX11_count_168 : decode cX11_count 168 = .ok (.iconst 0, 1) := by decide +kernel
theorem dX11_count_169 : decode cX11_count 169 = .ok (.invokevirtual 470, 3) := by decide +kernel
theorem dX11_count_172 : decode cX11_count 172 = .ok (.ireturn, 1) := by decide +kernel
theorem dX11_count_173 : decode cX11_count 173 = .ok (.aload_n 0, 1) := by decide +kernel
theorem dX11_count_174 : decode cX11_count 174 = .ok (.getfield 115, 3) := by decide +kernel
theorem dX11_count_177 : decode cX11_count 177 = .ok (.iconst 0, 1) := by decide +kernel
theorem dX11_count_178 : decode cX11_count 178 = .ok (.iaload, 1) := by decide +kernel
theorem dX11_count_179 : decode cX11_count 179 = .ok (.ireturn, 1) := by decide +kernel
theorem dX11_count_180 : decode cX11_count 180 = .ok (.aload_n 0, 1) := by decide +kernel
theorem dX11_count_181 : decode cX11_count 181 = .ok (.getfield 362, 3) := by decide +kernel
theorem dX11_count_184 : decode cX11_count 184 = .ok (.ireturn, 1) := by decide +kernel
theorem dX11_count_185 : decode cX11_count 185 = .ok (.aload_n 0, 1) := by decide +kernel
theorem dX11_count_186 : decode cX11_count 186 = .ok (.invokevirtual 529, 3) := by decide +kernel
theorem dX11_count_189 : decode cX11_count 189 = .ok (.ireturn, 1) := by decide +kernel
theorem dX11_count_190 : decode cX11_count 190 = .ok (.aload_n 0, 1) := by decide +kernel
theorem dX11_count_191 : decode cX11_count 191 = .ok (.getfield 365, 3) := by decide +kernel
theorem dX11_count_194 : decode cX11_count 194 = .ok (.ireturn, 1) := by decide +kernel
theorem dX11_count_195 : decode cX11_count 195 = .ok (.iconst (-1), 1) := by decide +kernel
theorem dX11_count_196 : decode cX11_count 196 = .ok (.ireturn, 1) := by decide +kernel
