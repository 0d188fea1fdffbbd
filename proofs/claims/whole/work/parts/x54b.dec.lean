theorem dX10_init_0 : decode cX10_init 0 = .ok (.aload_n 0, 1) := by decide +kernel
theorem dX10_init_1 : decode cX10_init 1 = .ok (.invokespecial 3, 3) := by decide +kernel
theorem dX10_init_4 : decode cX10_init 4 = .ok (.aload_n 0, 1) := by decide +kernel
theorem dX10_init_5 : decode cX10_init 5 = .ok (.sipush 700, 3) := by decide +kernel
theorem dX10_init_8 : decode cX10_init 8 = .ok (.newarray .byte, 2) := by decide +kernel
theorem dX10_init_10 : decode cX10_init 10 = .ok (.putfield 11, 3) := by decide +kernel
theorem dX10_init_13 : decode cX10_init 13 = .ok (.aload_n 0, 1) := by decide +kernel
theorem dX10_init_14 : decode cX10_init 14 = .ok (.new 15, 3) := by decide +kernel
theorem dX10_init_17 : decode cX10_init 17 = .ok (.dup, 1) := by decide +kernel
theorem dX10_init_18 : decode cX10_init 18 = .ok (.invokespecial 17, 3) := by decide +kernel
theorem dX10_init_21 : decode cX10_init 21 = .ok (.putfield 18, 3) := by decide +kernel
theorem dX10_init_24 : decode cX10_init 24 = .ok (.aload_n 0, 1) := by decide +kernel
theorem dX10_init_25 : decode cX10_init 25 = .ok (.new 15, 3) := by decide +kernel
theorem dX10_init_28 : decode cX10_init 28 = .ok (.dup, 1) := by decide +kernel
theorem dX10_init_29 : decode cX10_init 29 = .ok (.invokespecial 17, 3) := by decide +kernel
theorem dX10_init_32 : decode cX10_init 32 = .ok (.putfield 22, 3) := by decide +kernel
theorem dX10_init_35 : decode cX10_init 35 = .ok (.aload_n 0, 1) := by decide +kernel
theorem dX10_init_36 : decode cX10_init 36 = .ok (.new 25, 3) := by decide +kernel
theorem dX10_init_39 : decode cX10_init 39 = .ok (.dup, 1) := by decide +kernel
theorem dX10_init_40 : decode cX10_init 40 = .ok (.aload_n 0, 1) := by decide +kernel
theorem dX10_init_41 : decode cX10_init 41 = .ok (.getfield 11, 3) := by decide +kernel
theorem dX10_init_44 : decode cX10_init 44 = .ok (.aload_n 0, 1) := by decide +kernel
theorem dX10_init_45 : decode cX10_init 45 = .ok (.getfield 22, 3) := by decide +kernel
theorem dX10_init_48 : decode cX10_init 48 = .ok (.invokespecial 27, 3) := by decide +kernel
theorem dX10_init_51 : decode cX10_init 51 = .ok (.putfield 30, 3) := by decide +kernel
theorem dX10_init_54 : decode cX10_init 54 = .ok (.aload_n 0, 1) := by decide +kernel
theorem dX10_init_55 : decode cX10_init 55 = .ok (.new 34, 3) := by decide +kernel
theorem dX10_init_58 : decode cX10_init 58 = .ok (.dup, 1) := by decide +kernel
theorem dX10_init_59 : decode cX10_init 59 = .ok (.invokespecial 36, 3) := by decide +kernel
theorem dX10_init_62 : decode cX10_init 62 = .ok (.putfield 37, 3) := by decide +kernel
theorem dX10_init_65 : decode cX10_init 65 = .ok (.aload_n 0, 1) := by decide +kernel
theorem dX10_init_66 : decode cX10_init 66 = .ok (.new 34, 3) := by decide +kernel
theorem dX10_init_69 : decode cX10_init 69 = .ok (.dup, 1) := by decide +kernel
theorem dX10_init_70 : decode cX10_init 70 = .ok (.invokespecial 36, 3) := by decide +kernel
theorem dX10_init_73 : decode cX10_init 73 = .ok (.putfield 41, 3) := by decide +kernel
theorem dX10_init_76 : decode cX10_init 76 = .ok (.aload_n 0, 1) := by decide +kernel
theorem dX10_init_77 : decode cX10_init 77 = .ok (.new 34, 3) := by decide +kernel
theorem dX10_init_80 : decode cX10_init 80 = .ok (.dup, 1) := by decide +kernel
theorem dX10_init_81 : decode cX10_init 81 = .ok (.invokespecial 36, 3) := by decide +kernel
theorem dX10_init_84 : decode cX10_init 84 = .ok (.putfield 44, 3) := by decide +kernel
theorem dX10_init_87 : decode cX10_init 87 = .ok (.aload_n 0, 1) := by decide +kernel
theorem dX10_init_88 : decode cX10_init 88 = .ok (.new 47, 3) := by decide +kernel
theorem dX10_init_91 : decode cX10_init 91 = .ok (.dup, 1) := by decide +kernel
theorem dX10_init_92 : decode cX10_init 92 = .ok (.invokespecial 49, 3) := by decide +kernel
theorem dX10_init_95 : decode cX10_init 95 = .ok (.putfield 50, 3) := by decide +kernel
theorem dX10_init_98 : decode cX10_init 98 = .ok (.aload_n 0, 1) := by decide +kernel
theorem dX10_init_99 : decode cX10_init 99 = .ok (.new 54, 3) := by decide +kernel
theorem dX10_init_102 : decode cX10_init 102 = .ok (.dup, 1) := by decide +kernel
theorem dX10_init_103 : decode cX10_init 103 = .ok (.invokespecial 56, 3) := by decide +kernel
theorem dX10_init_106 : decode cX10_init 106 = .ok (.putfield 57, 3) := by decide +kernel
theorem dX10_init_109 : decode cX10_init 109 = .ok (.aload_n 0, 1) := by decide +kernel
theorem dX10_init_110 : decode cX10_init 110 = .ok (.new 61, 3) := by decide +kernel
theorem dX10_init_113 : decode cX10_init 113 = .ok (.dup, 1) := by decide +kernel
theorem dX10_init_114 : decode cX10_init 114 = .ok (.invokespecial 63, 3) := by decide +kernel
theorem dX10_init_117 : decode cX10_init 117 = .ok (.putfield 64, 3) := by decide +kernel
theorem dX10_init_120 : decode cX10_init 120 = .ok (.aload_n 0, 1) := by decide +kernel
theorem dX10_init_121 : decode cX10_init 121 = .ok (.new 68, 3) := by decide +kernel
theorem dX10_init_124 : decode cX10_init 124 = .ok (.dup, 1) := by decide +kernel
theorem dX10_init_125 : decode cX10_init 125 = .ok (.invokespecial 70, 3) := by decide +kernel
theorem dX10_init_128 : decode cX10_init 128 = .ok (.putfield 71, 3) := by decide +kernel
theorem dX10_init_131 : decode cX10_init 131 = .ok (.aload_n 0, 1) := by decide +kernel
theorem dX10_init_132 : decode cX10_init 132 = .ok (.new 75, 3) := by decide +kernel
theorem dX10_init_135 : decode cX10_init 135 = .ok (.dup, 1) := by decide +kernel
theorem dX10_init_136 : decode cX10_init 136 = .ok (.invokespecial 77, 3) := by decide +kernel
theorem dX10_init_139 : decode cX10_init 139 = .ok (.putfield 78, 3) := by decide +kernel
theorem dX10_init_142 : decode cX10_init 142 = .ok (.aload_n 0, 1) := by decide +kernel
theorem dX10_init_143 : decode cX10_init 143 = .ok (.getfield 37, 3) := by decide +kernel
theorem dX10_init_146 : decode cX10_init 146 = .ok (.aload_n 0, 1) := by decide +kernel
theorem dX10_init_147 : decode cX10_init 147 = .ok (.getfield 18, 3) := by decide +kernel
theorem dX10_init_150 : decode cX10_init 150 = .ok (.invokevirtual 82, 3) := by decide +kernel
theorem dX10_init_153 : decode cX10_init 153 = .ok (.return_, 1) := by decide +kernel
theorem dX10_feed_0 : decode cX10_feed 0 = .ok (.aload_n 0, 1) := by decide +kernel
theorem dX10_feed_1 : decode cX10_feed 1 = .ok (.getfield 86, 3) := by decide +kernel
theorem dX10_feed_4 : decode cX10_feed 4 = .ok (.bipush 20, 2) := by decide +kernel
theorem dX10_feed_6 : decode cX10_feed 6 = .ok (.iadd, 1) := by decide +kernel
theorem dX10_feed_7 : decode cX10_feed 7 = .ok (.sipush 700, 3) := by decide +kernel
theorem dX10_feed_10 : decode cX10_feed 10 = .ok (.if_icmp .le 5, 3) := by decide +kernel
theorem dX10_feed_13 : decode cX10_feed 13 = .ok (.iconst (-1), 1) := by decide +kernel
theorem dX10_feed_14 : decode cX10_feed 14 = .ok (.ireturn, 1) := by decide +kernel
theorem dX10_feed_15 : decode cX10_feed 15 = .ok (.aload_n 0, 1) := by decide +kernel
theorem dX10_feed_16 : decode cX10_feed 16 = .ok (.iload_n 1, 1) := by decide +kernel
theorem dX10_feed_17 : decode cX10_feed 17 = .ok (.invokevirtual 90, 3) := by decide +kernel
theorem dX10_feed_20 : decode cX10_feed 20 = .ok (.aload_n 0, 1) := by decide +kernel
theorem dX10_feed_21 : decode cX10_feed 21 = .ok (.iload_n 2, 1) := by decide +kernel
theorem dX10_feed_22 : decode cX10_feed 22 = .ok (.invokevirtual 90, 3) := by decide +kernel
theorem dX10_feed_25 : decode cX10_feed 25 = .ok (.aload_n 0, 1) := by decide +kernel
theorem dX10_feed_26 : decode cX10_feed 26 = .ok (.iload_n 3, 1) := by decide +kernel
theorem dX10_feed_27 : decode cX10_feed 27 = .ok (.invokevirtual 90, 3) := by decide +kernel
theorem dX10_feed_30 : decode cX10_feed 30 = .ok (.aload_n 0, 1) := by decide +kernel
theorem dX10_feed_31 : decode cX10_feed 31 = .ok (.iload 4, 2) := by decide +kernel
theorem dX10_feed_33 : decode cX10_feed 33 = .ok (.invokevirtual 90, 3) := by decide +kernel
theorem dX10_feed_36 : decode cX10_feed 36 = .ok (.aload_n 0, 1) := by decide +kernel
theorem dX10_feed_37 : decode cX10_feed 37 = .ok (.iload 5, 2) := by decide +kernel
theorem dX10_feed_39 : decode cX10_feed 39 = .ok (.invokevirtual 90, 3) := by decide +kernel
theorem dX10_feed_42 : decode cX10_feed 42 = .ok (.aload_n 0, 1) := by decide +kernel
theorem dX10_feed_43 : decode cX10_feed 43 = .ok (.getfield 86, 3) := by decide +kernel
theorem dX10_feed_46 : decode cX10_feed 46 = .ok (.ireturn, 1) := by decide +kernel
theorem dX10_putNumber_0 : decode cX10_putNumber 0 = .ok (.bipush 24, 2) := by decide +kernel
theorem dX10_putNumber_2 : decode cX10_putNumber 2 = .ok (.istore_n 2, 1) := by decide +kernel
theorem dX10_putNumber_3 : decode cX10_putNumber 3 = .ok (.iload_n 2, 1) := by decide +kernel
theorem dX10_putNumber_4 : decode cX10_putNumber 4 = .ok (.ifCond .lt 42, 3) := by decide +kernel
theorem dX10_putNumber_7 : decode cX10_putNumber 7 = .ok (.aload_n 0, 1) := by decide +kernel
theorem dX10_putNumber_8 : decode cX10_putNumber 8 = .ok (.getfield 86, 3) := by decide +kernel
theorem dX10_putNumber_11 : decode cX10_putNumber 11 = .ok (.sipush 700, 3) := by decide +kernel
theorem dX10_putNumber_14 : decode cX10_putNumber 14 = .ok (.if_icmp .ge 32, 3) := by decide +kernel
theorem dX10_putNumber_17 : decode cX10_putNumber 17 = .ok (.aload_n 0, 1) := by decide +kernel
theorem dX10_putNumber_18 : decode cX10_putNumber 18 = .ok (.getfield 11, 3) := by decide +kernel
theorem dX10_putNumber_21 : decode cX10_putNumber 21 = .ok (.aload_n 0, 1) := by decide +kernel
theorem dX10_putNumber_22 : decode cX10_putNumber 22 = .ok (.getfield 86, 3) := by decide +kernel
theorem dX10_putNumber_25 : decode cX10_putNumber 25 = .ok (.iload_n 1, 1) := by decide +kernel
theorem dX10_putNumber_26 : decode cX10_putNumber 26 = .ok (.iload_n 2, 1) := by decide +kernel
theorem dX10_putNumber_27 : decode cX10_putNumber 27 = .ok (.ishr, 1) := by decide +kernel
theorem dX10_putNumber_28 : decode cX10_putNumber 28 = .ok (.i2b, 1) := by decide +kernel
theorem dX10_putNumber_29 : decode cX10_putNumber 29 = .ok (.bastore, 1) := by decide +kernel
theorem dX10_putNumber_30 : decode cX10_putNumber 30 = .ok (.aload_n 0, 1) := by decide +kernel
theorem dX10_putNumber_31 : decode cX10_putNumber 31 = .ok (.dup, 1) := by decide +kernel
theorem dX10_putNumber_32 : decode cX10_putNumber 32 = .ok (.getfield 86, 3) := by decide +kernel
theorem dX10_putNumber_35 : decode cX10_putNumber 35 = .ok (.iconst 1, 1) := by decide +kernel
theorem dX10_putNumber_36 : decode cX10_putNumber 36 = .ok (.iadd, 1) := by decide +kernel
theorem dX10_putNumber_37 : decode cX10_putNumber 37 = .ok (.putfield 86, 3) := by decide +kernel
theorem dX10_putNumber_40 : decode cX10_putNumber 40 = .ok (.iinc 2 (-8), 3) := by decide +kernel
theorem dX10_putNumber_43 : decode cX10_putNumber 43 = .ok (.goto (-40), 3) := by decide +kernel
theorem dX10_putNumber_46 : decode cX10_putNumber 46 = .ok (.return_, 1) := by decide +kernel
theorem dX10_text_0 : decode cX10_text 0 = .ok (.iload_n 1, 1) := by decide +kernel
theorem dX10_text_1 : decode cX10_text 1 = .ok (.ifCond .lt 11, 3) := by decide +kernel
theorem dX10_text_4 : decode cX10_text 4 = .ok (.iload_n 1, 1) := by decide +kernel
theorem dX10_text_5 : decode cX10_text 5 = .ok (.aload_n 0, 1) := by decide +kernel
theorem dX10_text_6 : decode cX10_text 6 = .ok (.getfield 86, 3) := by decide +kernel
theorem dX10_text_9 : decode cX10_text 9 = .ok (.if_icmp .le 6, 3) := by decide +kernel
theorem dX10_text_12 : decode cX10_text 12 = .ok (.bipush (-2), 2) := by decide +kernel
theorem dX10_text_14 : decode cX10_text 14 = .ok (.ireturn, 1) := by decide +kernel
theorem dX10_text_15 : decode cX10_text 15 = .ok (.aload_n 0, 1) := by decide +kernel
theorem dX10_text_16 : decode cX10_text 16 = .ok (.iconst 0, 1) := by decide +kernel
theorem dX10_text_17 : decode cX10_text 17 = .ok (.putfield 86, 3) := by decide +kernel
theorem dX10_text_20 : decode cX10_text 20 = .ok (.aload_n 0, 1) := by decide +kernel
theorem dX10_text_21 : decode cX10_text 21 = .ok (.getfield 30, 3) := by decide +kernel
theorem dX10_text_24 : decode cX10_text 24 = .ok (.iload_n 1, 1) := by decide +kernel
theorem dX10_text_25 : decode cX10_text 25 = .ok (.aload_n 0, 1) := by decide +kernel
theorem dX10_text_26 : decode cX10_text 26 = .ok (.getfield 22, 3) := by decide +kernel
theorem dX10_text_29 : decode cX10_text 29 = .ok (.invokevirtual 94, 3) := by decide +kernel
theorem dX10_text_32 : decode cX10_text 32 = .ok (.ifCond .ne 5, 3) := by decide +kernel
theorem dX10_text_35 : decode cX10_text 35 = .ok (.iconst (-1), 1) := by decide +kernel
theorem dX10_text_36 : decode cX10_text 36 = .ok (.ireturn, 1) := by decide +kernel
theorem dX10_text_37 : decode cX10_text 37 = .ok (.aload_n 0, 1) := by decide +kernel
theorem dX10_text_38 : decode cX10_text 38 = .ok (.getfield 18, 3) := by decide +kernel
theorem dX10_text_41 : decode cX10_text 41 = .ok (.astore_n 2, 1) := by decide +kernel
theorem dX10_text_42 : decode cX10_text 42 = .ok (.aload_n 0, 1) := by decide +kernel
theorem dX10_text_43 : decode cX10_text 43 = .ok (.aload_n 0, 1) := by decide +kernel
theorem dX10_text_44 : decode cX10_text 44 = .ok (.getfield 22, 3) := by decide +kernel
theorem dX10_text_47 : decode cX10_text 47 = .ok (.putfield 18, 3) := by decide +kernel
theorem dX10_text_50 : decode cX10_text 50 = .ok (.aload_n 0, 1) := by decide +kernel
theorem dX10_text_51 : decode cX10_text 51 = .ok (.aload_n 2, 1) := by decide +kernel
theorem dX10_text_52 : decode cX10_text 52 = .ok (.putfield 22, 3) := by decide +kernel
theorem dX10_text_55 : decode cX10_text 55 = .ok (.aload_n 0, 1) := by decide +kernel
theorem dX10_text_56 : decode cX10_text 56 = .ok (.getfield 37, 3) := by decide +kernel
theorem dX10_text_59 : decode cX10_text 59 = .ok (.aload_n 0, 1) := by decide +kernel
theorem dX10_text_60 : decode cX10_text 60 = .ok (.getfield 18, 3) := by decide +kernel
theorem dX10_text_63 : decode cX10_text 63 = .ok (.invokevirtual 82, 3) := by decide +kernel
theorem dX10_text_66 : decode cX10_text 66 = .ok (.aload_n 0, 1) := by decide +kernel
theorem dX10_text_67 : decode cX10_text 67 = .ok (.getfield 64, 3) := by decide +kernel
theorem dX10_text_70 : decode cX10_text 70 = .ok (.invokevirtual 98, 3) := by decide +kernel
theorem dX10_text_73 : decode cX10_text 73 = .ok (.aload_n 0, 1) := by decide +kernel
theorem dX10_text_74 : decode cX10_text 74 = .ok (.getfield 57, 3) := by decide +kernel
theorem dX10_text_77 : decode cX10_text 77 = .ok (.invokevirtual 101, 3) := by decide +kernel
theorem dX10_text_80 : decode cX10_text 80 = .ok (.aload_n 0, 1) := by decide +kernel
theorem dX10_text_81 : decode cX10_text 81 = .ok (.iconst 0, 1) := by decide +kernel
theorem dX10_text_82 : decode cX10_text 82 = .ok (.putfield 102, 3) := by decide +kernel
theorem dX10_text_85 : decode cX10_text 85 = .ok (.aload_n 0, 1) := by decide +kernel
theorem dX10_text_86 : decode cX10_text 86 = .ok (.getfield 30, 3) := by decide +kernel
theorem dX10_text_89 : decode cX10_text 89 = .ok (.getfield 106, 3) := by decide +kernel
theorem dX10_text_92 : decode cX10_text 92 = .ok (.ireturn, 1) := by decide +kernel
theorem dX10_fault_0 : decode cX10_fault 0 = .ok (.iload_n 1, 1) := by decide +kernel
theorem dX10_fault_1 : decode cX10_fault 1 = .ok (.lookupswitch 43 #[(0, 27), (1, 35)], 27) := by decide +kernel
theorem dX10_fault_28 : decode cX10_fault 28 = .ok (.aload_n 0, 1) := by decide +kernel
theorem dX10_fault_29 : decode cX10_fault 29 = .ok (.getfield 30, 3) := by decide +kernel
theorem dX10_fault_32 : decode cX10_fault 32 = .ok (.getfield 109, 3) := by decide +kernel
theorem dX10_fault_35 : decode cX10_fault 35 = .ok (.ireturn, 1) := by decide +kernel
theorem dX10_fault_36 : decode cX10_fault 36 = .ok (.aload_n 0, 1) := by decide +kernel
theorem dX10_fault_37 : decode cX10_fault 37 = .ok (.getfield 30, 3) := by decide +kernel
theorem dX10_fault_40 : decode cX10_fault 40 = .ok (.getfield 112, 3) := by decide +kernel
theorem dX10_fault_43 : decode cX10_fault 43 = .ok (.ireturn, 1) := by decide +kernel
theorem dX10_fault_44 : decode cX10_fault 44 = .ok (.iconst (-1), 1) := by decide +kernel
theorem dX10_fault_45 : decode cX10_fault 45 = .ok (.ireturn, 1) := by decide +kernel
theorem dX10_named_0 : decode cX10_named 0 = .ok (.iload_n 1, 1) := by decide +kernel
theorem dX10_named_1 : decode cX10_named 1 = .ok (.lookupswitch 45 #[(0, 27), (1, 36)], 27) := by decide +kernel
theorem dX10_named_28 : decode cX10_named 28 = .ok (.aload_n 0, 1) := by decide +kernel
theorem dX10_named_29 : decode cX10_named 29 = .ok (.getfield 18, 3) := by decide +kernel
theorem dX10_named_32 : decode cX10_named 32 = .ok (.iload_n 2, 1) := by decide +kernel
theorem dX10_named_33 : decode cX10_named 33 = .ok (.invokevirtual 115, 3) := by decide +kernel
theorem dX10_named_36 : decode cX10_named 36 = .ok (.ireturn, 1) := by decide +kernel
theorem dX10_named_37 : decode cX10_named 37 = .ok (.aload_n 0, 1) := by decide +kernel
theorem dX10_named_38 : decode cX10_named 38 = .ok (.getfield 18, 3) := by decide +kernel
theorem dX10_named_41 : decode cX10_named 41 = .ok (.iload_n 2, 1) := by decide +kernel
theorem dX10_named_42 : decode cX10_named 42 = .ok (.invokevirtual 119, 3) := by decide +kernel
theorem dX10_named_45 : decode cX10_named 45 = .ok (.ireturn, 1) := by decide +kernel
theorem dX10_named_46 : decode cX10_named 46 = .ok (.iconst (-1), 1) := by decide +kernel
theorem dX10_named_47 : decode cX10_named 47 = .ok (.ireturn, 1) := by decide +kernel
theorem dX10_house_0 : decode cX10_house 0 = .ok (.aload_n 0, 1) := by decide +kernel
theorem dX10_house_1 : decode cX10_house 1 = .ok (.iload_n 1, 1) := by decide +kernel
theorem dX10_house_2 : decode cX10_house 2 = .ok (.invokevirtual 122, 3) := by decide +kernel
theorem dX10_house_5 : decode cX10_house 5 = .ok (.ifCond .ne 13, 3) := by decide +kernel
theorem dX10_house_8 : decode cX10_house 8 = .ok (.new 126, 3) := by decide +kernel
theorem dX10_house_11 : decode cX10_house 11 = .ok (.dup, 1) := by decide +kernel
theorem dX10_house_12 : decode cX10_house 12 = .ok (.ldc 128, 2) := by decide +kernel
theorem dX10_house_14 : decode cX10_house 14 = .ok (.invokespecial 130, 3) := by decide +kernel
theorem dX10_house_17 : decode cX10_house 17 = .ok (.athrow, 1) := by decide +kernel
theorem dX10_house_18 : decode cX10_house 18 = .ok (.iload_n 2, 1) := by decide +kernel
theorem dX10_house_19 : decode cX10_house 19 = .ok (.tableswitch 127 0 6 #[41, 51, 61, 71, 81, 91, 109], 41) := by decide +kernel
theorem dX10_house_60 : decode cX10_house 60 = .ok (.aload_n 0, 1) := by decide +kernel
theorem dX10_house_61 : decode cX10_house 61 = .ok (.getfield 37, 3) := by decide +kernel
theorem dX10_house_64 : decode cX10_house 64 = .ok (.getfield 133, 3) := by decide +kernel
theorem dX10_house_67 : decode cX10_house 67 = .ok (.iload_n 1, 1) := by decide +kernel
theorem dX10_house_68 : decode cX10_house 68 = .ok (.iaload, 1) := by decide +kernel
theorem dX10_house_69 : decode cX10_house 69 = .ok (.ireturn, 1) := by decide +kernel
theorem dX10_house_70 : decode cX10_house 70 = .ok (.aload_n 0, 1) := by decide +kernel
theorem dX10_house_71 : decode cX10_house 71 = .ok (.getfield 37, 3) := by decide +kernel
theorem dX10_house_74 : decode cX10_house 74 = .ok (.getfield 137, 3) := by decide +kernel
theorem dX10_house_77 : decode cX10_house 77 = .ok (.iload_n 1, 1) := by decide +kernel
theorem dX10_house_78 : decode cX10_house 78 = .ok (.iaload, 1) := by decide +kernel
theorem dX10_house_79 : decode cX10_house 79 = .ok (.ireturn, 1) := by decide +kernel
theorem dX10_house_80 : decode cX10_house 80 = .ok (.aload_n 0, 1) := by decide +kernel
theorem dX10_house_81 : decode cX10_house 81 = .ok (.getfield 37, 3) := by decide +kernel
theorem dX10_house_84 : decode cX10_house 84 = .ok (.getfield 140, 3) := by decide +kernel
theorem dX10_house_87 : decode cX10_house 87 = .ok (.iload_n 1, 1) := by decide +kernel
theorem dX10_house_88 : decode cX10_house 88 = .ok (.iaload, 1) := by decide +kernel
theorem dX10_house_89 : decode cX10_house 89 = .ok (.ireturn, 1) := by decide +kernel
theorem dX10_house_90 : decode cX10_house 90 = .ok (.aload_n 0, 1) := by decide +kernel
theorem dX10_house_91 : decode cX10_house 91 = .ok (.getfield 18, 3) := by decide +kernel
theorem dX10_house_94 : decode cX10_house 94 = .ok (.getfield 143, 3) := by decide +kernel
theorem dX10_house_97 : decode cX10_house 97 = .ok (.iload_n 1, 1) := by decide +kernel
theorem dX10_house_98 : decode cX10_house 98 = .ok (.iaload, 1) := by decide +kernel
theorem dX10_house_99 : decode cX10_house 99 = .ok (.ireturn, 1) := by decide +kernel
theorem dX10_house_100 : decode cX10_house 100 = .ok (.aload_n 0, 1) := by decide +kernel
theorem dX10_house_101 : decode cX10_house 101 = .ok (.getfield 37, 3) := by decide +kernel
theorem dX10_house_104 : decode cX10_house 104 = .ok (.getfield 146, 3) := by decide +kernel
theorem dX10_house_107 : decode cX10_house 107 = .ok (.iload_n 1, 1) := by decide +kernel
theorem dX10_house_108 : decode cX10_house 108 = .ok (.iaload, 1) := by decide +kernel
theorem dX10_house_109 : decode cX10_house 109 = .ok (.ireturn, 1) := by decide +kernel
theorem dX10_house_110 : decode cX10_house 110 = .ok (.aload_n 0, 1) := by decide +kernel
theorem dX10_house_111 : decode cX10_house 111 = .ok (.getfield 37, 3) := by decide +kernel
theorem dX10_house_114 : decode cX10_house 114 = .ok (.getfield 149, 3) := by decide +kernel
theorem dX10_house_117 : decode cX10_house 117 = .ok (.iload_n 1, 1) := by decide +kernel
theorem dX10_house_118 : decode cX10_house 118 = .ok (.baload, 1) := by decide +kernel
theorem dX10_house_119 : decode cX10_house 119 = .ok (.ifCond .eq 7, 3) := by decide +kernel
theorem dX10_house_122 : decode cX10_house 122 = .ok (.iconst 1, 1) := by decide +kernel
theorem dX10_house_123 : decode cX10_house 123 = .ok (.goto 4, 3) := by decide +kernel
theorem dX10_house_126 : decode cX10_house 126 = .ok (.iconst 0, 1) := by decide +kernel
theorem dX10_house_127 : decode cX10_house 127 = .ok (.ireturn, 1) := by decide +kernel
theorem dX10_house_128 : decode cX10_house 128 = .ok (.aload_n 0, 1) := by decide +kernel
theorem dX10_house_129 : decode cX10_house 129 = .ok (.getfield 37, 3) := by decide +kernel
theorem dX10_house_132 : decode cX10_house 132 = .ok (.getfield 153, 3) := by decide +kernel
theorem dX10_house_135 : decode cX10_house 135 = .ok (.iload_n 1, 1) := by decide +kernel
theorem dX10_house_136 : decode cX10_house 136 = .ok (.baload, 1) := by decide +kernel
theorem dX10_house_137 : decode cX10_house 137 = .ok (.ifCond .eq 7, 3) := by decide +kernel
theorem dX10_house_140 : decode cX10_house 140 = .ok (.iconst 1, 1) := by decide +kernel
theorem dX10_house_141 : decode cX10_house 141 = .ok (.goto 4, 3) := by decide +kernel
theorem dX10_house_144 : decode cX10_house 144 = .ok (.iconst 0, 1) := by decide +kernel
theorem dX10_house_145 : decode cX10_house 145 = .ok (.ireturn, 1) := by decide +kernel
theorem dX10_house_146 : decode cX10_house 146 = .ok (.new 156, 3) := by decide +kernel
theorem dX10_house_149 : decode cX10_house 149 = .ok (.dup, 1) := by decide +kernel
theorem dX10_house_150 : decode cX10_house 150 = .ok (.ldc 158, 2) := by decide +kernel
theorem dX10_house_152 : decode cX10_house 152 = .ok (.invokespecial 160, 3) := by decide +kernel
theorem dX10_house_155 : decode cX10_house 155 = .ok (.athrow, 1) := by decide +kernel
theorem dX10_kind_0 : decode cX10_kind 0 = .ok (.aload_n 0, 1) := by decide +kernel
theorem dX10_kind_1 : decode cX10_kind 1 = .ok (.iload_n 1, 1) := by decide +kernel
theorem dX10_kind_2 : decode cX10_kind 2 = .ok (.invokevirtual 161, 3) := by decide +kernel
theorem dX10_kind_5 : decode cX10_kind 5 = .ok (.ifCond .ne 5, 3) := by decide +kernel
theorem dX10_kind_8 : decode cX10_kind 8 = .ok (.iconst (-1), 1) := by decide +kernel
theorem dX10_kind_9 : decode cX10_kind 9 = .ok (.ireturn, 1) := by decide +kernel
theorem dX10_kind_10 : decode cX10_kind 10 = .ok (.iload_n 2, 1) := by decide +kernel
theorem dX10_kind_11 : decode cX10_kind 11 = .ok (.tableswitch 55 0 2 #[25, 35, 45], 25) := by decide +kernel
theorem dX10_kind_36 : decode cX10_kind 36 = .ok (.aload_n 0, 1) := by decide +kernel
theorem dX10_kind_37 : decode cX10_kind 37 = .ok (.getfield 18, 3) := by decide +kernel
theorem dX10_kind_40 : decode cX10_kind 40 = .ok (.getfield 164, 3) := by decide +kernel
theorem dX10_kind_43 : decode cX10_kind 43 = .ok (.iload_n 1, 1) := by decide +kernel
theorem dX10_kind_44 : decode cX10_kind 44 = .ok (.iaload, 1) := by decide +kernel
theorem dX10_kind_45 : decode cX10_kind 45 = .ok (.ireturn, 1) := by decide +kernel
theorem dX10_kind_46 : decode cX10_kind 46 = .ok (.aload_n 0, 1) := by decide +kernel
theorem dX10_kind_47 : decode cX10_kind 47 = .ok (.getfield 18, 3) := by decide +kernel
theorem dX10_kind_50 : decode cX10_kind 50 = .ok (.getfield 167, 3) := by decide +kernel
theorem dX10_kind_53 : decode cX10_kind 53 = .ok (.iload_n 1, 1) := by decide +kernel
theorem dX10_kind_54 : decode cX10_kind 54 = .ok (.iaload, 1) := by decide +kernel
theorem dX10_kind_55 : decode cX10_kind 55 = .ok (.ireturn, 1) := by decide +kernel
theorem dX10_kind_56 : decode cX10_kind 56 = .ok (.aload_n 0, 1) := by decide +kernel
theorem dX10_kind_57 : decode cX10_kind 57 = .ok (.getfield 37, 3) := by decide +kernel
theorem dX10_kind_60 : decode cX10_kind 60 = .ok (.getfield 170, 3) := by decide +kernel
theorem dX10_kind_63 : decode cX10_kind 63 = .ok (.iload_n 1, 1) := by decide +kernel
theorem dX10_kind_64 : decode cX10_kind 64 = .ok (.iaload, 1) := by decide +kernel
theorem dX10_kind_65 : decode cX10_kind 65 = .ok (.ireturn, 1) := by decide +kernel
theorem dX10_kind_66 : decode cX10_kind 66 = .ok (.iconst (-1), 1) := by decide +kernel
theorem dX10_kind_67 : decode cX10_kind 67 = .ok (.ireturn, 1) := by decide +kernel
theorem dX10_weather_0 : decode cX10_weather 0 = .ok (.iload_n 1, 1) := by decide +kernel
theorem dX10_weather_1 : decode cX10_weather 1 = .ok (.iconst 0, 1) := by decide +kernel
theorem dX10_weather_2 : decode cX10_weather 2 = .ok (.sipush 200, 3) := by decide +kernel
theorem dX10_weather_5 : decode cX10_weather 5 = .ok (.invokestatic 173, 3) := by decide +kernel
theorem dX10_weather_8 : decode cX10_weather 8 = .ok (.ifCond .ne 5, 3) := by decide +kernel
theorem dX10_weather_11 : decode cX10_weather 11 = .ok (.iconst (-1), 1) := by decide +kernel
theorem dX10_weather_12 : decode cX10_weather 12 = .ok (.ireturn, 1) := by decide +kernel
theorem dX10_weather_13 : decode cX10_weather 13 = .ok (.aload_n 0, 1) := by decide +kernel
theorem dX10_weather_14 : decode cX10_weather 14 = .ok (.iload_n 1, 1) := by decide +kernel
theorem dX10_weather_15 : decode cX10_weather 15 = .ok (.invokevirtual 177, 3) := by decide +kernel
theorem dX10_weather_18 : decode cX10_weather 18 = .ok (.istore_n 2, 1) := by decide +kernel
theorem dX10_weather_19 : decode cX10_weather 19 = .ok (.iload_n 2, 1) := by decide +kernel
theorem dX10_weather_20 : decode cX10_weather 20 = .ok (.iconst (-1), 1) := by decide +kernel
theorem dX10_weather_21 : decode cX10_weather 21 = .ok (.if_icmp .ne 8, 3) := by decide +kernel
theorem dX10_weather_24 : decode cX10_weather 24 = .ok (.bipush (-2), 2) := by decide +kernel
theorem dX10_weather_26 : decode cX10_weather 26 = .ok (.goto 4, 3) := by decide +kernel
theorem dX10_weather_29 : decode cX10_weather 29 = .ok (.iload_n 2, 1) := by decide +kernel
theorem dX10_weather_30 : decode cX10_weather 30 = .ok (.ireturn, 1) := by decide +kernel
theorem dX10_law_0 : decode cX10_law 0 = .ok (.iload_n 1, 1) := by decide +kernel
theorem dX10_law_1 : decode cX10_law 1 = .ok (.iconst 0, 1) := by decide +kernel
theorem dX10_law_2 : decode cX10_law 2 = .ok (.iconst 2, 1) := by decide +kernel
theorem dX10_law_3 : decode cX10_law 3 = .ok (.invokestatic 173, 3) := by decide +kernel
theorem dX10_law_6 : decode cX10_law 6 = .ok (.ifCond .eq 19, 3) := by decide +kernel
theorem dX10_law_9 : decode cX10_law 9 = .ok (.aload_n 0, 1) := by decide +kernel
theorem dX10_law_10 : decode cX10_law 10 = .ok (.iload_n 2, 1) := by decide +kernel
theorem dX10_law_11 : decode cX10_law 11 = .ok (.invokevirtual 122, 3) := by decide +kernel
theorem dX10_law_14 : decode cX10_law 14 = .ok (.ifCond .eq 11, 3) := by decide +kernel
theorem dX10_law_17 : decode cX10_law 17 = .ok (.aload_n 0, 1) := by decide +kernel
theorem dX10_law_18 : decode cX10_law 18 = .ok (.iload_n 3, 1) := by decide +kernel
theorem dX10_law_19 : decode cX10_law 19 = .ok (.invokevirtual 161, 3) := by decide +kernel
theorem dX10_law_22 : decode cX10_law 22 = .ok (.ifCond .ne 7, 3) := by decide +kernel
theorem dX10_law_25 : decode cX10_law 25 = .ok (.ldc2_w 180, 3) := by decide +kernel
theorem dX10_law_28 : decode cX10_law 28 = .ok (.lreturn, 1) := by decide +kernel
theorem dX10_law_29 : decode cX10_law 29 = .ok (.aload_n 0, 1) := by decide +kernel
theorem dX10_law_30 : decode cX10_law 30 = .ok (.getfield 50, 3) := by decide +kernel
theorem dX10_law_33 : decode cX10_law 33 = .ok (.invokevirtual 182, 3) := by decide +kernel
theorem dX10_law_36 : decode cX10_law 36 = .ok (.aload_n 0, 1) := by decide +kernel
theorem dX10_law_37 : decode cX10_law 37 = .ok (.getfield 50, 3) := by decide +kernel
theorem dX10_law_40 : decode cX10_law 40 = .ok (.aload_n 0, 1) := by decide +kernel
theorem dX10_law_41 : decode cX10_law 41 = .ok (.getfield 18, 3) := by decide +kernel
theorem dX10_law_44 : decode cX10_law 44 = .ok (.aload_n 0, 1) := by decide +kernel
theorem dX10_law_45 : decode cX10_law 45 = .ok (.getfield 37, 3) := by decide +kernel
theorem dX10_law_48 : decode cX10_law 48 = .ok (.iload_n 2, 1) := by decide +kernel
theorem dX10_law_49 : decode cX10_law 49 = .ok (.iload_n 3, 1) := by decide +kernel
theorem dX10_law_50 : decode cX10_law 50 = .ok (.invokevirtual 185, 3) := by decide +kernel
theorem dX10_law_53 : decode cX10_law 53 = .ok (.aload_n 0, 1) := by decide +kernel
theorem dX10_law_54 : decode cX10_law 54 = .ok (.getfield 18, 3) := by decide +kernel
theorem dX10_law_57 : decode cX10_law 57 = .ok (.getfield 189, 3) := by decide +kernel
theorem dX10_law_60 : decode cX10_law 60 = .ok (.iload_n 1, 1) := by decide +kernel
theorem dX10_law_61 : decode cX10_law 61 = .ok (.aload_n 0, 1) := by decide +kernel
theorem dX10_law_62 : decode cX10_law 62 = .ok (.getfield 50, 3) := by decide +kernel
theorem dX10_law_65 : decode cX10_law 65 = .ok (.getfield 193, 3) := by decide +kernel
theorem dX10_law_68 : decode cX10_law 68 = .ok (.invokevirtual 197, 3) := by decide +kernel
theorem dX10_law_71 : decode cX10_law 71 = .ok (.lreturn, 1) := by decide +kernel
theorem dX10_richest_0 : decode cX10_richest 0 = .ok (.bipush (-2), 2) := by decide +kernel
theorem dX10_richest_2 : decode cX10_richest 2 = .ok (.istore_n 1, 1) := by decide +kernel
theorem dX10_richest_3 : decode cX10_richest 3 = .ok (.iconst 0, 1) := by decide +kernel
theorem dX10_richest_4 : decode cX10_richest 4 = .ok (.istore_n 2, 1) := by decide +kernel
theorem dX10_richest_5 : decode cX10_richest 5 = .ok (.iload_n 2, 1) := by decide +kernel
theorem dX10_richest_6 : decode cX10_richest 6 = .ok (.aload_n 0, 1) := by decide +kernel
theorem dX10_richest_7 : decode cX10_richest 7 = .ok (.getfield 18, 3) := by decide +kernel
theorem dX10_richest_10 : decode cX10_richest 10 = .ok (.getfield 203, 3) := by decide +kernel
theorem dX10_richest_13 : decode cX10_richest 13 = .ok (.if_icmp .ge 48, 3) := by decide +kernel
theorem dX10_richest_16 : decode cX10_richest 16 = .ok (.aload_n 0, 1) := by decide +kernel
theorem dX10_richest_17 : decode cX10_richest 17 = .ok (.getfield 37, 3) := by decide +kernel
theorem dX10_richest_20 : decode cX10_richest 20 = .ok (.getfield 149, 3) := by decide +kernel
theorem dX10_richest_23 : decode cX10_richest 23 = .ok (.iload_n 2, 1) := by decide +kernel
theorem dX10_richest_24 : decode cX10_richest 24 = .ok (.baload, 1) := by decide +kernel
theorem dX10_richest_25 : decode cX10_richest 25 = .ok (.ifCond .ne 30, 3) := by decide +kernel
theorem dX10_richest_28 : decode cX10_richest 28 = .ok (.iload_n 1, 1) := by decide +kernel
theorem dX10_richest_29 : decode cX10_richest 29 = .ok (.bipush (-2), 2) := by decide +kernel
theorem dX10_richest_31 : decode cX10_richest 31 = .ok (.if_icmp .eq 22, 3) := by decide +kernel
theorem dX10_richest_34 : decode cX10_richest 34 = .ok (.aload_n 0, 1) := by decide +kernel
theorem dX10_richest_35 : decode cX10_richest 35 = .ok (.getfield 37, 3) := by decide +kernel
theorem dX10_richest_38 : decode cX10_richest 38 = .ok (.iload_n 2, 1) := by decide +kernel
theorem dX10_richest_39 : decode cX10_richest 39 = .ok (.invokevirtual 206, 3) := by decide +kernel
theorem dX10_richest_42 : decode cX10_richest 42 = .ok (.aload_n 0, 1) := by decide +kernel
theorem dX10_richest_43 : decode cX10_richest 43 = .ok (.getfield 37, 3) := by decide +kernel
theorem dX10_richest_46 : decode cX10_richest 46 = .ok (.iload_n 1, 1) := by decide +kernel
theorem dX10_richest_47 : decode cX10_richest 47 = .ok (.invokevirtual 206, 3) := by decide +kernel
theorem dX10_richest_50 : decode cX10_richest 50 = .ok (.if_icmp .le 5, 3) := by decide +kernel
theorem dX10_richest_53 : decode cX10_richest 53 = .ok (.iload_n 2, 1) := by decide +kernel
theorem dX10_richest_54 : decode cX10_richest 54 = .ok (.istore_n 1, 1) := by decide +kernel
theorem dX10_richest_55 : decode cX10_richest 55 = .ok (.iinc 2 1, 3) := by decide +kernel
theorem dX10_richest_58 : decode cX10_richest 58 = .ok (.goto (-53), 3) := by decide +kernel
theorem dX10_richest_61 : decode cX10_richest 61 = .ok (.iload_n 1, 1) := by decide +kernel
theorem dX10_richest_62 : decode cX10_richest 62 = .ok (.ireturn, 1) := by decide +kernel
theorem dX10_dearest_0 : decode cX10_dearest 0 = .ok (.bipush (-2), 2) := by decide +kernel
theorem dX10_dearest_2 : decode cX10_dearest 2 = .ok (.istore_n 1, 1) := by decide +kernel
theorem dX10_dearest_3 : decode cX10_dearest 3 = .ok (.iconst 0, 1) := by decide +kernel
theorem dX10_dearest_4 : decode cX10_dearest 4 = .ok (.istore_n 2, 1) := by decide +kernel
theorem dX10_dearest_5 : decode cX10_dearest 5 = .ok (.iload_n 2, 1) := by decide +kernel
theorem dX10_dearest_6 : decode cX10_dearest 6 = .ok (.aload_n 0, 1) := by decide +kernel
theorem dX10_dearest_7 : decode cX10_dearest 7 = .ok (.getfield 18, 3) := by decide +kernel
theorem dX10_dearest_10 : decode cX10_dearest 10 = .ok (.getfield 209, 3) := by decide +kernel
theorem dX10_dearest_13 : decode cX10_dearest 13 = .ok (.if_icmp .ge 58, 3) := by decide +kernel
theorem dX10_dearest_16 : decode cX10_dearest 16 = .ok (.iload_n 1, 1) := by decide +kernel
theorem dX10_dearest_17 : decode cX10_dearest 17 = .ok (.bipush (-2), 2) := by decide +kernel
theorem dX10_dearest_19 : decode cX10_dearest 19 = .ok (.if_icmp .eq 44, 3) := by decide +kernel
theorem dX10_dearest_22 : decode cX10_dearest 22 = .ok (.aload_n 0, 1) := by decide +kernel
theorem dX10_dearest_23 : decode cX10_dearest 23 = .ok (.getfield 18, 3) := by decide +kernel
theorem dX10_dearest_26 : decode cX10_dearest 26 = .ok (.getfield 164, 3) := by decide +kernel
theorem dX10_dearest_29 : decode cX10_dearest 29 = .ok (.iload_n 2, 1) := by decide +kernel
theorem dX10_dearest_30 : decode cX10_dearest 30 = .ok (.iaload, 1) := by decide +kernel
theorem dX10_dearest_31 : decode cX10_dearest 31 = .ok (.aload_n 0, 1) := by decide +kernel
theorem dX10_dearest_32 : decode cX10_dearest 32 = .ok (.getfield 18, 3) := by decide +kernel
theorem dX10_dearest_35 : decode cX10_dearest 35 = .ok (.getfield 167, 3) := by decide +kernel
theorem dX10_dearest_38 : decode cX10_dearest 38 = .ok (.iload_n 2, 1) := by decide +kernel
theorem dX10_dearest_39 : decode cX10_dearest 39 = .ok (.iaload, 1) := by decide +kernel
theorem dX10_dearest_40 : decode cX10_dearest 40 = .ok (.imul, 1) := by decide +kernel
theorem dX10_dearest_41 : decode cX10_dearest 41 = .ok (.aload_n 0, 1) := by decide +kernel
theorem dX10_dearest_42 : decode cX10_dearest 42 = .ok (.getfield 18, 3) := by decide +kernel
theorem dX10_dearest_45 : decode cX10_dearest 45 = .ok (.getfield 164, 3) := by decide +kernel
theorem dX10_dearest_48 : decode cX10_dearest 48 = .ok (.iload_n 1, 1) := by decide +kernel
theorem dX10_dearest_49 : decode cX10_dearest 49 = .ok (.iaload, 1) := by decide +kernel
theorem dX10_dearest_50 : decode cX10_dearest 50 = .ok (.aload_n 0, 1) := by decide +kernel
theorem dX10_dearest_51 : decode cX10_dearest 51 = .ok (.getfield 18, 3) := by decide +kernel
theorem dX10_dearest_54 : decode cX10_dearest 54 = .ok (.getfield 167, 3) := by decide +kernel
theorem dX10_dearest_57 : decode cX10_dearest 57 = .ok (.iload_n 1, 1) := by decide +kernel
theorem dX10_dearest_58 : decode cX10_dearest 58 = .ok (.iaload, 1) := by decide +kernel
theorem dX10_dearest_59 : decode cX10_dearest 59 = .ok (.imul, 1) := by decide +kernel
theorem dX10_dearest_60 : decode cX10_dearest 60 = .ok (.if_icmp .le 5, 3) := by decide +kernel
theorem dX10_dearest_63 : decode cX10_dearest 63 = .ok (.iload_n 2, 1) := by decide +kernel
theorem dX10_dearest_64 : decode cX10_dearest 64 = .ok (.istore_n 1, 1) := by decide +kernel
theorem dX10_dearest_65 : decode cX10_dearest 65 = .ok (.iinc 2 1, 3) := by decide +kernel
theorem dX10_dearest_68 : decode cX10_dearest 68 = .ok (.goto (-63), 3) := by decide +kernel
theorem dX10_dearest_71 : decode cX10_dearest 71 = .ok (.iload_n 1, 1) := by decide +kernel
theorem dX10_dearest_72 : decode cX10_dearest 72 = .ok (.ireturn, 1) := by decide +kernel
theorem dX10_have_0 : decode cX10_have 0 = .ok (.aload_n 0, 1) := by decide +kernel
theorem dX10_have_1 : decode cX10_have 1 = .ok (.iload_n 1, 1) := by decide +kernel
theorem dX10_have_2 : decode cX10_have 2 = .ok (.invokevirtual 212, 3) := by decide +kernel
theorem dX10_have_5 : decode cX10_have 5 = .ok (.ifCond .eq 11, 3) := by decide +kernel
theorem dX10_have_8 : decode cX10_have 8 = .ok (.aload_n 0, 1) := by decide +kernel
theorem dX10_have_9 : decode cX10_have 9 = .ok (.iload_n 1, 1) := by decide +kernel
theorem dX10_have_10 : decode cX10_have 10 = .ok (.invokevirtual 215, 3) := by decide +kernel
theorem dX10_have_13 : decode cX10_have 13 = .ok (.goto 5, 3) := by decide +kernel
theorem dX10_have_16 : decode cX10_have 16 = .ok (.ldc 220, 2) := by decide +kernel
theorem dX10_have_18 : decode cX10_have 18 = .ok (.ireturn, 1) := by decide +kernel
theorem dX10_among_0 : decode cX10_among 0 = .ok (.iload_n 1, 1) := by decide +kernel
theorem dX10_among_1 : decode cX10_among 1 = .ok (.iconst 1, 1) := by decide +kernel
theorem dX10_among_2 : decode cX10_among 2 = .ok (.sipush 9999, 3) := by decide +kernel
theorem dX10_among_5 : decode cX10_among 5 = .ok (.invokestatic 173, 3) := by decide +kernel
theorem dX10_among_8 : decode cX10_among 8 = .ok (.ifCond .ne 5, 3) := by decide +kernel
theorem dX10_among_11 : decode cX10_among 11 = .ok (.iconst (-1), 1) := by decide +kernel
theorem dX10_among_12 : decode cX10_among 12 = .ok (.ireturn, 1) := by decide +kernel
theorem dX10_among_13 : decode cX10_among 13 = .ok (.bipush (-2), 2) := by decide +kernel
theorem dX10_among_15 : decode cX10_among 15 = .ok (.istore_n 2, 1) := by decide +kernel
theorem dX10_among_16 : decode cX10_among 16 = .ok (.iconst 1, 1) := by decide +kernel
theorem dX10_among_17 : decode cX10_among 17 = .ok (.istore_n 3, 1) := by decide +kernel
theorem dX10_among_18 : decode cX10_among 18 = .ok (.iload_n 3, 1) := by decide +kernel
theorem dX10_among_19 : decode cX10_among 19 = .ok (.iconst 1, 1) := by decide +kernel
theorem dX10_among_20 : decode cX10_among 20 = .ok (.aload_n 0, 1) := by decide +kernel
theorem dX10_among_21 : decode cX10_among 21 = .ok (.getfield 18, 3) := by decide +kernel
theorem dX10_among_24 : decode cX10_among 24 = .ok (.getfield 203, 3) := by decide +kernel
theorem dX10_among_27 : decode cX10_among 27 = .ok (.ishl, 1) := by decide +kernel
theorem dX10_among_28 : decode cX10_among 28 = .ok (.if_icmp .ge 57, 3) := by decide +kernel
theorem dX10_among_31 : decode cX10_among 31 = .ok (.iload_n 2, 1) := by decide +kernel
theorem dX10_among_32 : decode cX10_among 32 = .ok (.bipush (-2), 2) := by decide +kernel
theorem dX10_among_34 : decode cX10_among 34 = .ok (.if_icmp .eq 14, 3) := by decide +kernel
theorem dX10_among_37 : decode cX10_among 37 = .ok (.iload_n 3, 1) := by decide +kernel
theorem dX10_among_38 : decode cX10_among 38 = .ok (.invokestatic 221, 3) := by decide +kernel
theorem dX10_among_41 : decode cX10_among 41 = .ok (.iload_n 2, 1) := by decide +kernel
theorem dX10_among_42 : decode cX10_among 42 = .ok (.invokestatic 221, 3) := by decide +kernel
theorem dX10_among_45 : decode cX10_among 45 = .ok (.if_icmp .ge 7, 3) := by decide +kernel
theorem dX10_among_48 : decode cX10_among 48 = .ok (.iconst 1, 1) := by decide +kernel
theorem dX10_among_49 : decode cX10_among 49 = .ok (.goto 4, 3) := by decide +kernel
theorem dX10_among_52 : decode cX10_among 52 = .ok (.iconst 0, 1) := by decide +kernel
theorem dX10_among_53 : decode cX10_among 53 = .ok (.istore 4, 2) := by decide +kernel
theorem dX10_among_55 : decode cX10_among 55 = .ok (.iload 4, 2) := by decide +kernel
theorem dX10_among_57 : decode cX10_among 57 = .ok (.ifCond .eq 22, 3) := by decide +kernel
theorem dX10_among_60 : decode cX10_among 60 = .ok (.aload_n 0, 1) := by decide +kernel
theorem dX10_among_61 : decode cX10_among 61 = .ok (.iload_n 3, 1) := by decide +kernel
theorem dX10_among_62 : decode cX10_among 62 = .ok (.invokevirtual 224, 3) := by decide +kernel
theorem dX10_among_65 : decode cX10_among 65 = .ok (.ifCond .eq 14, 3) := by decide +kernel
theorem dX10_among_68 : decode cX10_among 68 = .ok (.aload_n 0, 1) := by decide +kernel
theorem dX10_among_69 : decode cX10_among 69 = .ok (.iload_n 3, 1) := by decide +kernel
theorem dX10_among_70 : decode cX10_among 70 = .ok (.invokevirtual 215, 3) := by decide +kernel
theorem dX10_among_73 : decode cX10_among 73 = .ok (.iload_n 1, 1) := by decide +kernel
theorem dX10_among_74 : decode cX10_among 74 = .ok (.if_icmp .lt 5, 3) := by decide +kernel
theorem dX10_among_77 : decode cX10_among 77 = .ok (.iload_n 3, 1) := by decide +kernel
theorem dX10_among_78 : decode cX10_among 78 = .ok (.istore_n 2, 1) := by decide +kernel
theorem dX10_among_79 : decode cX10_among 79 = .ok (.iinc 3 1, 3) := by decide +kernel
theorem dX10_among_82 : decode cX10_among 82 = .ok (.goto (-64), 3) := by decide +kernel
theorem dX10_among_85 : decode cX10_among 85 = .ok (.iload_n 2, 1) := by decide +kernel
theorem dX10_among_86 : decode cX10_among 86 = .ok (.ireturn, 1) := by decide +kernel
theorem dX10_noneSoldUp_0 : decode cX10_noneSoldUp 0 = .ok (.iconst 0, 1) := by decide +kernel
theorem dX10_noneSoldUp_1 : decode cX10_noneSoldUp 1 = .ok (.istore_n 2, 1) := by decide +kernel
theorem dX10_noneSoldUp_2 : decode cX10_noneSoldUp 2 = .ok (.iload_n 2, 1) := by decide +kernel
theorem dX10_noneSoldUp_3 : decode cX10_noneSoldUp 3 = .ok (.aload_n 0, 1) := by decide +kernel
theorem dX10_noneSoldUp_4 : decode cX10_noneSoldUp 4 = .ok (.getfield 18, 3) := by decide +kernel
theorem dX10_noneSoldUp_7 : decode cX10_noneSoldUp 7 = .ok (.getfield 203, 3) := by decide +kernel
theorem dX10_noneSoldUp_10 : decode cX10_noneSoldUp 10 = .ok (.if_icmp .ge 31, 3) := by decide +kernel
theorem dX10_noneSoldUp_13 : decode cX10_noneSoldUp 13 = .ok (.iload_n 2, 1) := by decide +kernel
theorem dX10_noneSoldUp_14 : decode cX10_noneSoldUp 14 = .ok (.iload_n 1, 1) := by decide +kernel
theorem dX10_noneSoldUp_15 : decode cX10_noneSoldUp 15 = .ok (.invokestatic 227, 3) := by decide +kernel
theorem dX10_noneSoldUp_18 : decode cX10_noneSoldUp 18 = .ok (.ifCond .eq 17, 3) := by decide +kernel
theorem dX10_noneSoldUp_21 : decode cX10_noneSoldUp 21 = .ok (.aload_n 0, 1) := by decide +kernel
theorem dX10_noneSoldUp_22 : decode cX10_noneSoldUp 22 = .ok (.getfield 37, 3) := by decide +kernel
theorem dX10_noneSoldUp_25 : decode cX10_noneSoldUp 25 = .ok (.getfield 149, 3) := by decide +kernel
theorem dX10_noneSoldUp_28 : decode cX10_noneSoldUp 28 = .ok (.iload_n 2, 1) := by decide +kernel
theorem dX10_noneSoldUp_29 : decode cX10_noneSoldUp 29 = .ok (.baload, 1) := by decide +kernel
theorem dX10_noneSoldUp_30 : decode cX10_noneSoldUp 30 = .ok (.ifCond .eq 5, 3) := by decide +kernel
theorem dX10_noneSoldUp_33 : decode cX10_noneSoldUp 33 = .ok (.iconst 0, 1) := by decide +kernel
theorem dX10_noneSoldUp_34 : decode cX10_noneSoldUp 34 = .ok (.ireturn, 1) := by decide +kernel
theorem dX10_noneSoldUp_35 : decode cX10_noneSoldUp 35 = .ok (.iinc 2 1, 3) := by decide +kernel
theorem dX10_noneSoldUp_38 : decode cX10_noneSoldUp 38 = .ok (.goto (-36), 3) := by decide +kernel
theorem dX10_noneSoldUp_41 : decode cX10_noneSoldUp 41 = .ok (.iconst 1, 1) := by decide +kernel
theorem dX10_noneSoldUp_42 : decode cX10_noneSoldUp 42 = .ok (.ireturn, 1) := by decide +kernel
theorem dX10_sumOf_0 : decode cX10_sumOf 0 = .ok (.iconst 0, 1) := by decide +kernel
theorem dX10_sumOf_1 : decode cX10_sumOf 1 = .ok (.istore_n 2, 1) := by decide +kernel
theorem dX10_sumOf_2 : decode cX10_sumOf 2 = .ok (.iconst 0, 1) := by decide +kernel
theorem dX10_sumOf_3 : decode cX10_sumOf 3 = .ok (.istore_n 3, 1) := by decide +kernel
theorem dX10_sumOf_4 : decode cX10_sumOf 4 = .ok (.iload_n 3, 1) := by decide +kernel
theorem dX10_sumOf_5 : decode cX10_sumOf 5 = .ok (.aload_n 0, 1) := by decide +kernel
theorem dX10_sumOf_6 : decode cX10_sumOf 6 = .ok (.getfield 18, 3) := by decide +kernel
theorem dX10_sumOf_9 : decode cX10_sumOf 9 = .ok (.getfield 203, 3) := by decide +kernel
theorem dX10_sumOf_12 : decode cX10_sumOf 12 = .ok (.if_icmp .ge 28, 3) := by decide +kernel
theorem dX10_sumOf_15 : decode cX10_sumOf 15 = .ok (.iload_n 3, 1) := by decide +kernel
theorem dX10_sumOf_16 : decode cX10_sumOf 16 = .ok (.iload_n 1, 1) := by decide +kernel
theorem dX10_sumOf_17 : decode cX10_sumOf 17 = .ok (.invokestatic 227, 3) := by decide +kernel
theorem dX10_sumOf_20 : decode cX10_sumOf 20 = .ok (.ifCond .eq 14, 3) := by decide +kernel
theorem dX10_sumOf_23 : decode cX10_sumOf 23 = .ok (.iload_n 2, 1) := by decide +kernel
theorem dX10_sumOf_24 : decode cX10_sumOf 24 = .ok (.aload_n 0, 1) := by decide +kernel
theorem dX10_sumOf_25 : decode cX10_sumOf 25 = .ok (.getfield 37, 3) := by decide +kernel
theorem dX10_sumOf_28 : decode cX10_sumOf 28 = .ok (.iload_n 3, 1) := by decide +kernel
theorem dX10_sumOf_29 : decode cX10_sumOf 29 = .ok (.invokevirtual 206, 3) := by decide +kernel
theorem dX10_sumOf_32 : decode cX10_sumOf 32 = .ok (.iadd, 1) := by decide +kernel
theorem dX10_sumOf_33 : decode cX10_sumOf 33 = .ok (.istore_n 2, 1) := by decide +kernel
theorem dX10_sumOf_34 : decode cX10_sumOf 34 = .ok (.iinc 3 1, 3) := by decide +kernel
theorem dX10_sumOf_37 : decode cX10_sumOf 37 = .ok (.goto (-33), 3) := by decide +kernel
theorem dX10_sumOf_40 : decode cX10_sumOf 40 = .ok (.iload_n 2, 1) := by decide +kernel
theorem dX10_sumOf_41 : decode cX10_sumOf 41 = .ok (.ireturn, 1) := by decide +kernel
theorem dX10_termIn_0 : decode cX10_termIn 0 = .ok (.aload_n 0, 1) := by decide +kernel
theorem dX10_termIn_1 : decode cX10_termIn 1 = .ok (.getfield 18, 3) := by decide +kernel
theorem dX10_termIn_4 : decode cX10_termIn 4 = .ok (.aload_n 0, 1) := by decide +kernel
theorem dX10_termIn_5 : decode cX10_termIn 5 = .ok (.getfield 37, 3) := by decide +kernel
theorem dX10_termIn_8 : decode cX10_termIn 8 = .ok (.getfield 231, 3) := by decide +kernel
theorem dX10_termIn_11 : decode cX10_termIn 11 = .ok (.invokevirtual 234, 3) := by decide +kernel
theorem dX10_termIn_14 : decode cX10_termIn 14 = .ok (.ireturn, 1) := by decide +kernel
theorem dX10_count_0 : decode cX10_count 0 = .ok (.iload_n 1, 1) := by decide +kernel
theorem dX10_count_1 : decode cX10_count 1 = .ok (.tableswitch 183 0 12 #[67, 75, 83, 91, 102, 110, 118, 129, 140, 151, 159, 167, 175], 67) := by decide +kernel
theorem dX10_count_68 : decode cX10_count 68 = .ok (.aload_n 0, 1) := by decide +kernel
theorem dX10_count_69 : decode cX10_count 69 = .ok (.getfield 18, 3) := by decide +kernel
theorem dX10_count_72 : decode cX10_count 72 = .ok (.getfield 209, 3) := by decide +kernel
theorem dX10_count_75 : decode cX10_count 75 = .ok (.ireturn, 1) := by decide +kernel
theorem dX10_count_76 : decode cX10_count 76 = .ok (.aload_n 0, 1) := by decide +kernel
theorem dX10_count_77 : decode cX10_count 77 = .ok (.getfield 18, 3) := by decide +kernel
theorem dX10_count_80 : decode cX10_count 80 = .ok (.getfield 203, 3) := by decide +kernel
theorem dX10_count_83 : decode cX10_count 83 = .ok (.ireturn, 1) := by decide +kernel
theorem dX10_count_84 : decode cX10_count 84 = .ok (.aload_n 0, 1) := by decide +kernel
theorem dX10_count_85 : decode cX10_count 85 = .ok (.getfield 18, 3) := by decide +kernel
theorem dX10_count_88 : decode cX10_count 88 = .ok (.getfield 237, 3) := by decide +kernel
theorem dX10_count_91 : decode cX10_count 91 = .ok (.ireturn, 1) := by decide +kernel
theorem dX10_count_92 : decode cX10_count 92 = .ok (.aload_n 0, 1) := by decide +kernel
theorem dX10_count_93 : decode cX10_count 93 = .ok (.getfield 18, 3) := by decide +kernel
theorem dX10_count_96 : decode cX10_count 96 = .ok (.getfield 189, 3) := by decide +kernel
theorem dX10_count_99 : decode cX10_count 99 = .ok (.getfield 240, 3) := by decide +kernel
theorem dX10_count_102 : decode cX10_count 102 = .ok (.ireturn, 1) := by decide +kernel
theorem dX10_count_103 : decode cX10_count 103 = .ok (.aload_n 0, 1) := by decide +kernel
theorem dX10_count_104 : decode cX10_count 104 = .ok (.getfield 37, 3) := by decide +kernel
theorem dX10_count_107 : decode cX10_count 107 = .ok (.getfield 231, 3) := by decide +kernel
theorem dX10_count_110 : decode cX10_count 110 = .ok (.ireturn, 1) := by decide +kernel
theorem dX10_count_111 : decode cX10_count 111 = .ok (.aload_n 0, 1) := by decide +kernel
theorem dX10_count_112 : decode cX10_count 112 = .ok (.getfield 37, 3) := by decide +kernel
theorem dX10_count_115 : decode cX10_count 115 = .ok (.invokevirtual 243, 3) := by decide +kernel
theorem dX10_count_118 : decode cX10_count 118 = .ok (.ireturn, 1) := by decide +kernel
theorem dX10_count_119 : decode cX10_count 119 = .ok (.aload_n 0, 1) := by decide +kernel
theorem dX10_count_120 : decode cX10_count 120 = .ok (.getfield 37, 3) := by decide +kernel
theorem dX10_count_123 : decode cX10_count 123 = .ok (.getfield 133, 3) := by decide +kernel
theorem dX10_count_126 : decode cX10_count 126 = .ok (.invokestatic 247, 3) := by decide +kernel
theorem dX10_count_129 : decode cX10_count 129 = .ok (.ireturn, 1) := by decide +kernel
theorem dX10_count_130 : decode cX10_count 130 = .ok (.aload_n 0, 1) := by decide +kernel
theorem dX10_count_131 : decode cX10_count 131 = .ok (.getfield 37, 3) := by decide +kernel
theorem dX10_count_134 : decode cX10_count 134 = .ok (.getfield 137, 3) := by decide +kernel
theorem dX10_count_137 : decode cX10_count 137 = .ok (.invokestatic 247, 3) := by decide +kernel
theorem dX10_count_140 : decode cX10_count 140 = .ok (.ireturn, 1) := by decide +kernel
theorem dX10_count_141 : decode cX10_count 141 = .ok (.aload_n 0, 1) := by decide +kernel
theorem dX10_count_142 : decode cX10_count 142 = .ok (.getfield 37, 3) := by decide +kernel
theorem dX10_count_145 : decode cX10_count 145 = .ok (.getfield 146, 3) := by decide +kernel
theorem dX10_count_148 : decode cX10_count 148 = .ok (.invokestatic 247, 3) := by decide +kernel
theorem dX10_count_151 : decode cX10_count 151 = .ok (.ireturn, 1) := by decide +kernel
theorem dX10_count_152 : decode cX10_count 152 = .ok (.aload_n 0, 1) := by decide +kernel
theorem dX10_count_153 : decode cX10_count 153 = .ok (.getfield 37, 3) := by decide +kernel
theorem dX10_count_156 : decode cX10_count 156 = .ok (.getfield 251, 3) := by decide +kernel
theorem dX10_count_159 : decode cX10_count 159 = .ok (.ireturn, 1) := by decide +kernel
theorem dX10_count_160 : decode cX10_count 160 = .ok (.aload_n 0, 1) := by decide +kernel
theorem dX10_count_161 : decode cX10_count 161 = .ok (.getfield 64, 3) := by decide +kernel
theorem dX10_count_164 : decode cX10_count 164 = .ok (.getfield 254, 3) := by decide +kernel
theorem dX10_count_167 : decode cX10_count 167 = .ok (.ireturn, 1) := by decide +kernel
theorem dX10_count_168 : decode cX10_count 168 = .ok (.aload_n 0, 1) := by decide +kernel
theorem dX10_count_169 : decode cX10_count 169 = .ok (.getfield 64, 3) := by decide +kernel
theorem dX10_count_172 : decode cX10_count 172 = .ok (.invokevirtual 257, 3) := by decide +kernel
theorem dX10_count_175 : decode cX10_count 175 = .ok (.ireturn, 1) := by decide +kernel
theorem dX10_count_176 : decode cX10_count 176 = .ok (.aload_n 0, 1) := by decide +kernel
theorem dX10_count_177 : decode cX10_count 177 = .ok (.getfield 57, 3) := by decide +kernel
theorem dX10_count_180 : decode cX10_count 180 = .ok (.getfield 260, 3) := by decide +kernel
theorem dX10_count_183 : decode cX10_count 183 = .ok (.ireturn, 1) := by decide +kernel
theorem dX10_count_184 : decode cX10_count 184 = .ok (.iconst (-1), 1) := by decide +kernel
theorem dX10_count_185 : decode cX10_count 185 = .ok (.ireturn, 1) := by decide +kernel
theorem dX10_sumOfRow_0 : decode cX10_sumOfRow 0 = .ok (.iconst 0, 1) := by decide +kernel
theorem dX10_sumOfRow_1 : decode cX10_sumOfRow 1 = .ok (.istore_n 1, 1) := by decide +kernel
theorem dX10_sumOfRow_2 : decode cX10_sumOfRow 2 = .ok (.aload_n 0, 1) := by decide +kernel
theorem dX10_sumOfRow_3 : decode cX10_sumOfRow 3 = .ok (.astore_n 2, 1) := by decide +kernel
theorem dX10_sumOfRow_4 : decode cX10_sumOfRow 4 = .ok (.aload_n 2, 1) := by decide +kernel
theorem dX10_sumOfRow_5 : decode cX10_sumOfRow 5 = .ok (.arraylength, 1) := by decide +kernel
theorem dX10_sumOfRow_6 : decode cX10_sumOfRow 6 = .ok (.istore_n 3, 1) := by decide +kernel
theorem dX10_sumOfRow_7 : decode cX10_sumOfRow 7 = .ok (.iconst 0, 1) := by decide +kernel
theorem dX10_sumOfRow_8 : decode cX10_sumOfRow 8 = .ok (.istore 4, 2) := by decide +kernel
theorem dX10_sumOfRow_10 : decode cX10_sumOfRow 10 = .ok (.iload 4, 2) := by decide +kernel
theorem dX10_sumOfRow_12 : decode cX10_sumOfRow 12 = .ok (.iload_n 3, 1) := by decide +kernel
theorem dX10_sumOfRow_13 : decode cX10_sumOfRow 13 = .ok (.if_icmp .ge 20, 3) := by decide +kernel
theorem dX10_sumOfRow_16 : decode cX10_sumOfRow 16 = .ok (.aload_n 2, 1) := by decide +kernel
theorem dX10_sumOfRow_17 : decode cX10_sumOfRow 17 = .ok (.iload 4, 2) := by decide +kernel
theorem dX10_sumOfRow_19 : decode cX10_sumOfRow 19 = .ok (.iaload, 1) := by decide +kernel
theorem dX10_sumOfRow_20 : decode cX10_sumOfRow 20 = .ok (.istore 5, 2) := by decide +kernel
theorem dX10_sumOfRow_22 : decode cX10_sumOfRow 22 = .ok (.iload_n 1, 1) := by decide +kernel
theorem dX10_sumOfRow_23 : decode cX10_sumOfRow 23 = .ok (.iload 5, 2) := by decide +kernel
theorem dX10_sumOfRow_25 : decode cX10_sumOfRow 25 = .ok (.iadd, 1) := by decide +kernel
theorem dX10_sumOfRow_26 : decode cX10_sumOfRow 26 = .ok (.istore_n 1, 1) := by decide +kernel
theorem dX10_sumOfRow_27 : decode cX10_sumOfRow 27 = .ok (.iinc 4 1, 3) := by decide +kernel
theorem dX10_sumOfRow_30 : decode cX10_sumOfRow 30 = .ok (.goto (-20), 3) := by decide +kernel
theorem dX10_sumOfRow_33 : decode cX10_sumOfRow 33 = .ok (.iload_n 1, 1) := by decide +kernel
theorem dX10_sumOfRow_34 : decode cX10_sumOfRow 34 = .ok (.ireturn, 1) := by decide +kernel
theorem dX10_blind_0 : decode cX10_blind 0 = .ok (.aload_n 0, 1) := by decide +kernel
theorem dX10_blind_1 : decode cX10_blind 1 = .ok (.iload_n 1, 1) := by decide +kernel
theorem dX10_blind_2 : decode cX10_blind 2 = .ok (.invokevirtual 122, 3) := by decide +kernel
theorem dX10_blind_5 : decode cX10_blind 5 = .ok (.ifCond .ne 5, 3) := by decide +kernel
theorem dX10_blind_8 : decode cX10_blind 8 = .ok (.iconst (-1), 1) := by decide +kernel
theorem dX10_blind_9 : decode cX10_blind 9 = .ok (.ireturn, 1) := by decide +kernel
theorem dX10_blind_10 : decode cX10_blind 10 = .ok (.aload_n 0, 1) := by decide +kernel
theorem dX10_blind_11 : decode cX10_blind 11 = .ok (.getfield 57, 3) := by decide +kernel
theorem dX10_blind_14 : decode cX10_blind 14 = .ok (.iload_n 1, 1) := by decide +kernel
theorem dX10_blind_15 : decode cX10_blind 15 = .ok (.invokevirtual 261, 3) := by decide +kernel
theorem dX10_blind_18 : decode cX10_blind 18 = .ok (.aload_n 0, 1) := by decide +kernel
theorem dX10_blind_19 : decode cX10_blind 19 = .ok (.getfield 37, 3) := by decide +kernel
theorem dX10_blind_22 : decode cX10_blind 22 = .ok (.getfield 153, 3) := by decide +kernel
theorem dX10_blind_25 : decode cX10_blind 25 = .ok (.iload_n 1, 1) := by decide +kernel
theorem dX10_blind_26 : decode cX10_blind 26 = .ok (.aload_n 0, 1) := by decide +kernel
theorem dX10_blind_27 : decode cX10_blind 27 = .ok (.getfield 37, 3) := by decide +kernel
theorem dX10_blind_30 : decode cX10_blind 30 = .ok (.getfield 153, 3) := by decide +kernel
theorem dX10_blind_33 : decode cX10_blind 33 = .ok (.iload_n 1, 1) := by decide +kernel
theorem dX10_blind_34 : decode cX10_blind 34 = .ok (.baload, 1) := by decide +kernel
theorem dX10_blind_35 : decode cX10_blind 35 = .ok (.ifCond .ne 7, 3) := by decide +kernel
theorem dX10_blind_38 : decode cX10_blind 38 = .ok (.iconst 1, 1) := by decide +kernel
theorem dX10_blind_39 : decode cX10_blind 39 = .ok (.goto 4, 3) := by decide +kernel
theorem dX10_blind_42 : decode cX10_blind 42 = .ok (.iconst 0, 1) := by decide +kernel
theorem dX10_blind_43 : decode cX10_blind 43 = .ok (.bastore, 1) := by decide +kernel
theorem dX10_blind_44 : decode cX10_blind 44 = .ok (.aload_n 0, 1) := by decide +kernel
theorem dX10_blind_45 : decode cX10_blind 45 = .ok (.getfield 37, 3) := by decide +kernel
theorem dX10_blind_48 : decode cX10_blind 48 = .ok (.getfield 153, 3) := by decide +kernel
theorem dX10_blind_51 : decode cX10_blind 51 = .ok (.iload_n 1, 1) := by decide +kernel
theorem dX10_blind_52 : decode cX10_blind 52 = .ok (.baload, 1) := by decide +kernel
theorem dX10_blind_53 : decode cX10_blind 53 = .ok (.ifCond .eq 7, 3) := by decide +kernel
theorem dX10_blind_56 : decode cX10_blind 56 = .ok (.iconst 1, 1) := by decide +kernel
theorem dX10_blind_57 : decode cX10_blind 57 = .ok (.goto 4, 3) := by decide +kernel
theorem dX10_blind_60 : decode cX10_blind 60 = .ok (.iconst 0, 1) := by decide +kernel
theorem dX10_blind_61 : decode cX10_blind 61 = .ok (.ireturn, 1) := by decide +kernel
theorem dX10_send_0 : decode cX10_send 0 = .ok (.aload_n 0, 1) := by decide +kernel
theorem dX10_send_1 : decode cX10_send 1 = .ok (.iload_n 1, 1) := by decide +kernel
theorem dX10_send_2 : decode cX10_send 2 = .ok (.invokevirtual 161, 3) := by decide +kernel
theorem dX10_send_5 : decode cX10_send 5 = .ok (.ifCond .ne 5, 3) := by decide +kernel
theorem dX10_send_8 : decode cX10_send 8 = .ok (.iconst 0, 1) := by decide +kernel
theorem dX10_send_9 : decode cX10_send 9 = .ok (.ireturn, 1) := by decide +kernel
theorem dX10_send_10 : decode cX10_send 10 = .ok (.aload_n 0, 1) := by decide +kernel
theorem dX10_send_11 : decode cX10_send 11 = .ok (.getfield 57, 3) := by decide +kernel
theorem dX10_send_14 : decode cX10_send 14 = .ok (.aload_n 0, 1) := by decide +kernel
theorem dX10_send_15 : decode cX10_send 15 = .ok (.getfield 37, 3) := by decide +kernel
theorem dX10_send_18 : decode cX10_send 18 = .ok (.getfield 264, 3) := by decide +kernel
theorem dX10_send_21 : decode cX10_send 21 = .ok (.invokevirtual 267, 3) := by decide +kernel
theorem dX10_send_24 : decode cX10_send 24 = .ok (.aload_n 0, 1) := by decide +kernel
theorem dX10_send_25 : decode cX10_send 25 = .ok (.getfield 37, 3) := by decide +kernel
theorem dX10_send_28 : decode cX10_send 28 = .ok (.iload_n 1, 1) := by decide +kernel
theorem dX10_send_29 : decode cX10_send 29 = .ok (.putfield 264, 3) := by decide +kernel
theorem dX10_send_32 : decode cX10_send 32 = .ok (.iconst 1, 1) := by decide +kernel
theorem dX10_send_33 : decode cX10_send 33 = .ok (.ireturn, 1) := by decide +kernel
theorem dX10_lend_0 : decode cX10_lend 0 = .ok (.aload_n 0, 1) := by decide +kernel
theorem dX10_lend_1 : decode cX10_lend 1 = .ok (.iload_n 1, 1) := by decide +kernel
theorem dX10_lend_2 : decode cX10_lend 2 = .ok (.invokevirtual 122, 3) := by decide +kernel
theorem dX10_lend_5 : decode cX10_lend 5 = .ok (.ifCond .eq 27, 3) := by decide +kernel
theorem dX10_lend_8 : decode cX10_lend 8 = .ok (.aload_n 0, 1) := by decide +kernel
theorem dX10_lend_9 : decode cX10_lend 9 = .ok (.iload_n 2, 1) := by decide +kernel
theorem dX10_lend_10 : decode cX10_lend 10 = .ok (.invokevirtual 122, 3) := by decide +kernel
theorem dX10_lend_13 : decode cX10_lend 13 = .ok (.ifCond .eq 19, 3) := by decide +kernel
theorem dX10_lend_16 : decode cX10_lend 16 = .ok (.iload_n 1, 1) := by decide +kernel
theorem dX10_lend_17 : decode cX10_lend 17 = .ok (.iload_n 2, 1) := by decide +kernel
theorem dX10_lend_18 : decode cX10_lend 18 = .ok (.if_icmp .eq 14, 3) := by decide +kernel
theorem dX10_lend_21 : decode cX10_lend 21 = .ok (.iload_n 3, 1) := by decide +kernel
theorem dX10_lend_22 : decode cX10_lend 22 = .ok (.iconst 1, 1) := by decide +kernel
theorem dX10_lend_23 : decode cX10_lend 23 = .ok (.sipush 999, 3) := by decide +kernel
theorem dX10_lend_26 : decode cX10_lend 26 = .ok (.invokestatic 173, 3) := by decide +kernel
theorem dX10_lend_29 : decode cX10_lend 29 = .ok (.ifCond .ne 5, 3) := by decide +kernel
theorem dX10_lend_32 : decode cX10_lend 32 = .ok (.iconst (-1), 1) := by decide +kernel
theorem dX10_lend_33 : decode cX10_lend 33 = .ok (.ireturn, 1) := by decide +kernel
theorem dX10_lend_34 : decode cX10_lend 34 = .ok (.aload_n 0, 1) := by decide +kernel
theorem dX10_lend_35 : decode cX10_lend 35 = .ok (.getfield 37, 3) := by decide +kernel
theorem dX10_lend_38 : decode cX10_lend 38 = .ok (.getfield 149, 3) := by decide +kernel
theorem dX10_lend_41 : decode cX10_lend 41 = .ok (.iload_n 1, 1) := by decide +kernel
theorem dX10_lend_42 : decode cX10_lend 42 = .ok (.baload, 1) := by decide +kernel
theorem dX10_lend_43 : decode cX10_lend 43 = .ok (.ifCond .ne 28, 3) := by decide +kernel
theorem dX10_lend_46 : decode cX10_lend 46 = .ok (.aload_n 0, 1) := by decide +kernel
theorem dX10_lend_47 : decode cX10_lend 47 = .ok (.getfield 37, 3) := by decide +kernel
theorem dX10_lend_50 : decode cX10_lend 50 = .ok (.getfield 149, 3) := by decide +kernel
theorem dX10_lend_53 : decode cX10_lend 53 = .ok (.iload_n 2, 1) := by decide +kernel
theorem dX10_lend_54 : decode cX10_lend 54 = .ok (.baload, 1) := by decide +kernel
theorem dX10_lend_55 : decode cX10_lend 55 = .ok (.ifCond .ne 16, 3) := by decide +kernel
theorem dX10_lend_58 : decode cX10_lend 58 = .ok (.aload_n 0, 1) := by decide +kernel
theorem dX10_lend_59 : decode cX10_lend 59 = .ok (.getfield 37, 3) := by decide +kernel
theorem dX10_lend_62 : decode cX10_lend 62 = .ok (.getfield 133, 3) := by decide +kernel
theorem dX10_lend_65 : decode cX10_lend 65 = .ok (.iload_n 1, 1) := by decide +kernel
theorem dX10_lend_66 : decode cX10_lend 66 = .ok (.iaload, 1) := by decide +kernel
theorem dX10_lend_67 : decode cX10_lend 67 = .ok (.iload_n 3, 1) := by decide +kernel
theorem dX10_lend_68 : decode cX10_lend 68 = .ok (.if_icmp .ge 6, 3) := by decide +kernel
theorem dX10_lend_71 : decode cX10_lend 71 = .ok (.bipush (-2), 2) := by decide +kernel
theorem dX10_lend_73 : decode cX10_lend 73 = .ok (.ireturn, 1) := by decide +kernel
theorem dX10_lend_74 : decode cX10_lend 74 = .ok (.aload_n 0, 1) := by decide +kernel
theorem dX10_lend_75 : decode cX10_lend 75 = .ok (.getfield 57, 3) := by decide +kernel
theorem dX10_lend_78 : decode cX10_lend 78 = .ok (.aload_n 0, 1) := by decide +kernel
theorem dX10_lend_79 : decode cX10_lend 79 = .ok (.getfield 37, 3) := by decide +kernel
theorem dX10_lend_82 : decode cX10_lend 82 = .ok (.iload_n 1, 1) := by decide +kernel
theorem dX10_lend_83 : decode cX10_lend 83 = .ok (.iload_n 2, 1) := by decide +kernel
theorem dX10_lend_84 : decode cX10_lend 84 = .ok (.invokevirtual 270, 3) := by decide +kernel
theorem dX10_lend_87 : decode cX10_lend 87 = .ok (.aload_n 0, 1) := by decide +kernel
theorem dX10_lend_88 : decode cX10_lend 88 = .ok (.getfield 37, 3) := by decide +kernel
theorem dX10_lend_91 : decode cX10_lend 91 = .ok (.getfield 133, 3) := by decide +kernel
theorem dX10_lend_94 : decode cX10_lend 94 = .ok (.iload_n 1, 1) := by decide +kernel
theorem dX10_lend_95 : decode cX10_lend 95 = .ok (.dup2, 1) := by decide +kernel
theorem dX10_lend_96 : decode cX10_lend 96 = .ok (.iaload, 1) := by decide +kernel
theorem dX10_lend_97 : decode cX10_lend 97 = .ok (.iload_n 3, 1) := by decide +kernel
theorem dX10_lend_98 : decode cX10_lend 98 = .ok (.isub, 1) := by decide +kernel
theorem dX10_lend_99 : decode cX10_lend 99 = .ok (.iastore, 1) := by decide +kernel
theorem dX10_lend_100 : decode cX10_lend 100 = .ok (.aload_n 0, 1) := by decide +kernel
theorem dX10_lend_101 : decode cX10_lend 101 = .ok (.getfield 37, 3) := by decide +kernel
theorem dX10_lend_104 : decode cX10_lend 104 = .ok (.getfield 133, 3) := by decide +kernel
theorem dX10_lend_107 : decode cX10_lend 107 = .ok (.iload_n 2, 1) := by decide +kernel
theorem dX10_lend_108 : decode cX10_lend 108 = .ok (.ldc_w 274, 3) := by decide +kernel
theorem dX10_lend_111 : decode cX10_lend 111 = .ok (.aload_n 0, 1) := by decide +kernel
theorem dX10_lend_112 : decode cX10_lend 112 = .ok (.getfield 37, 3) := by decide +kernel
theorem dX10_lend_115 : decode cX10_lend 115 = .ok (.getfield 133, 3) := by decide +kernel
theorem dX10_lend_118 : decode cX10_lend 118 = .ok (.iload_n 2, 1) := by decide +kernel
theorem dX10_lend_119 : decode cX10_lend 119 = .ok (.iaload, 1) := by decide +kernel
theorem dX10_lend_120 : decode cX10_lend 120 = .ok (.iload_n 3, 1) := by decide +kernel
theorem dX10_lend_121 : decode cX10_lend 121 = .ok (.iadd, 1) := by decide +kernel
theorem dX10_lend_122 : decode cX10_lend 122 = .ok (.invokestatic 275, 3) := by decide +kernel
theorem dX10_lend_125 : decode cX10_lend 125 = .ok (.iastore, 1) := by decide +kernel
theorem dX10_lend_126 : decode cX10_lend 126 = .ok (.aload_n 0, 1) := by decide +kernel
theorem dX10_lend_127 : decode cX10_lend 127 = .ok (.getfield 37, 3) := by decide +kernel
theorem dX10_lend_130 : decode cX10_lend 130 = .ok (.getfield 133, 3) := by decide +kernel
theorem dX10_lend_133 : decode cX10_lend 133 = .ok (.iload_n 2, 1) := by decide +kernel
theorem dX10_lend_134 : decode cX10_lend 134 = .ok (.iaload, 1) := by decide +kernel
theorem dX10_lend_135 : decode cX10_lend 135 = .ok (.ireturn, 1) := by decide +kernel
theorem dX10_go_0 : decode cX10_go 0 = .ok (.iload_n 1, 1) := by decide +kernel
theorem dX10_go_1 : decode cX10_go 1 = .ok (.iconst 0, 1) := by decide +kernel
theorem dX10_go_2 : decode cX10_go 2 = .ok (.sipush 200, 3) := by decide +kernel
theorem dX10_go_5 : decode cX10_go 5 = .ok (.invokestatic 173, 3) := by decide +kernel
theorem dX10_go_8 : decode cX10_go 8 = .ok (.ifCond .eq 18, 3) := by decide +kernel
theorem dX10_go_11 : decode cX10_go 11 = .ok (.aload_n 0, 1) := by decide +kernel
theorem dX10_go_12 : decode cX10_go 12 = .ok (.getfield 37, 3) := by decide +kernel
theorem dX10_go_15 : decode cX10_go 15 = .ok (.getfield 231, 3) := by decide +kernel
theorem dX10_go_18 : decode cX10_go 18 = .ok (.iload_n 1, 1) := by decide +kernel
theorem dX10_go_19 : decode cX10_go 19 = .ok (.iadd, 1) := by decide +kernel
theorem dX10_go_20 : decode cX10_go 20 = .ok (.sipush 9000, 3) := by decide +kernel
theorem dX10_go_23 : decode cX10_go 23 = .ok (.if_icmp .le 5, 3) := by decide +kernel
theorem dX10_go_26 : decode cX10_go 26 = .ok (.iconst (-1), 1) := by decide +kernel
theorem dX10_go_27 : decode cX10_go 27 = .ok (.ireturn, 1) := by decide +kernel
theorem dX10_go_28 : decode cX10_go 28 = .ok (.aload_n 0, 1) := by decide +kernel
theorem dX10_go_29 : decode cX10_go 29 = .ok (.getfield 50, 3) := by decide +kernel
theorem dX10_go_32 : decode cX10_go 32 = .ok (.invokevirtual 182, 3) := by decide +kernel
theorem dX10_go_35 : decode cX10_go 35 = .ok (.aload_n 0, 1) := by decide +kernel
theorem dX10_go_36 : decode cX10_go 36 = .ok (.getfield 50, 3) := by decide +kernel
theorem dX10_go_39 : decode cX10_go 39 = .ok (.iconst 1, 1) := by decide +kernel
theorem dX10_go_40 : decode cX10_go 40 = .ok (.putfield 281, 3) := by decide +kernel
theorem dX10_go_43 : decode cX10_go 43 = .ok (.iconst 0, 1) := by decide +kernel
theorem dX10_go_44 : decode cX10_go 44 = .ok (.istore_n 2, 1) := by decide +kernel
theorem dX10_go_45 : decode cX10_go 45 = .ok (.iload_n 2, 1) := by decide +kernel
theorem dX10_go_46 : decode cX10_go 46 = .ok (.iload_n 1, 1) := by decide +kernel
theorem dX10_go_47 : decode cX10_go 47 = .ok (.if_icmp .ge 25, 3) := by decide +kernel
theorem dX10_go_50 : decode cX10_go 50 = .ok (.aload_n 0, 1) := by decide +kernel
theorem dX10_go_51 : decode cX10_go 51 = .ok (.getfield 50, 3) := by decide +kernel
theorem dX10_go_54 : decode cX10_go 54 = .ok (.aload_n 0, 1) := by decide +kernel
theorem dX10_go_55 : decode cX10_go 55 = .ok (.getfield 18, 3) := by decide +kernel
theorem dX10_go_58 : decode cX10_go 58 = .ok (.aload_n 0, 1) := by decide +kernel
theorem dX10_go_59 : decode cX10_go 59 = .ok (.getfield 37, 3) := by decide +kernel
theorem dX10_go_62 : decode cX10_go 62 = .ok (.iconst (-1), 1) := by decide +kernel
theorem dX10_go_63 : decode cX10_go 63 = .ok (.invokevirtual 284, 3) := by decide +kernel
theorem dX10_go_66 : decode cX10_go 66 = .ok (.iinc 2 1, 3) := by decide +kernel
theorem dX10_go_69 : decode cX10_go 69 = .ok (.goto (-24), 3) := by decide +kernel
theorem dX10_go_72 : decode cX10_go 72 = .ok (.iload_n 1, 1) := by decide +kernel
theorem dX10_go_73 : decode cX10_go 73 = .ok (.ifCond .le 10, 3) := by decide +kernel
theorem dX10_go_76 : decode cX10_go 76 = .ok (.aload_n 0, 1) := by decide +kernel
theorem dX10_go_77 : decode cX10_go 77 = .ok (.getfield 57, 3) := by decide +kernel
theorem dX10_go_80 : decode cX10_go 80 = .ok (.invokevirtual 101, 3) := by decide +kernel
theorem dX10_go_83 : decode cX10_go 83 = .ok (.aload_n 0, 1) := by decide +kernel
theorem dX10_go_84 : decode cX10_go 84 = .ok (.getfield 37, 3) := by decide +kernel
theorem dX10_go_87 : decode cX10_go 87 = .ok (.getfield 231, 3) := by decide +kernel
theorem dX10_go_90 : decode cX10_go 90 = .ok (.ireturn, 1) := by decide +kernel
theorem dX10_undo_0 : decode cX10_undo 0 = .ok (.aload_n 0, 1) := by decide +kernel
theorem dX10_undo_1 : decode cX10_undo 1 = .ok (.getfield 57, 3) := by decide +kernel
theorem dX10_undo_4 : decode cX10_undo 4 = .ok (.aload_n 0, 1) := by decide +kernel
theorem dX10_undo_5 : decode cX10_undo 5 = .ok (.getfield 37, 3) := by decide +kernel
theorem dX10_undo_8 : decode cX10_undo 8 = .ok (.invokevirtual 288, 3) := by decide +kernel
theorem dX10_undo_11 : decode cX10_undo 11 = .ok (.ifCond .eq 13, 3) := by decide +kernel
theorem dX10_undo_14 : decode cX10_undo 14 = .ok (.aload_n 0, 1) := by decide +kernel
theorem dX10_undo_15 : decode cX10_undo 15 = .ok (.getfield 57, 3) := by decide +kernel
theorem dX10_undo_18 : decode cX10_undo 18 = .ok (.getfield 260, 3) := by decide +kernel
theorem dX10_undo_21 : decode cX10_undo 21 = .ok (.goto 4, 3) := by decide +kernel
theorem dX10_undo_24 : decode cX10_undo 24 = .ok (.iconst (-1), 1) := by decide +kernel
theorem dX10_undo_25 : decode cX10_undo 25 = .ok (.ireturn, 1) := by decide +kernel
theorem dX10_keep_0 : decode cX10_keep 0 = .ok (.aload_n 0, 1) := by decide +kernel
theorem dX10_keep_1 : decode cX10_keep 1 = .ok (.getfield 44, 3) := by decide +kernel
theorem dX10_keep_4 : decode cX10_keep 4 = .ok (.aload_n 0, 1) := by decide +kernel
theorem dX10_keep_5 : decode cX10_keep 5 = .ok (.getfield 37, 3) := by decide +kernel
theorem dX10_keep_8 : decode cX10_keep 8 = .ok (.invokevirtual 292, 3) := by decide +kernel
theorem dX10_keep_11 : decode cX10_keep 11 = .ok (.aload_n 0, 1) := by decide +kernel
theorem dX10_keep_12 : decode cX10_keep 12 = .ok (.iconst 1, 1) := by decide +kernel
theorem dX10_keep_13 : decode cX10_keep 13 = .ok (.putfield 102, 3) := by decide +kernel
theorem dX10_keep_16 : decode cX10_keep 16 = .ok (.aload_n 0, 1) := by decide +kernel
theorem dX10_keep_17 : decode cX10_keep 17 = .ok (.getfield 37, 3) := by decide +kernel
theorem dX10_keep_20 : decode cX10_keep 20 = .ok (.getfield 231, 3) := by decide +kernel
theorem dX10_keep_23 : decode cX10_keep 23 = .ok (.ireturn, 1) := by decide +kernel
theorem dX10_back_0 : decode cX10_back 0 = .ok (.aload_n 0, 1) := by decide +kernel
theorem dX10_back_1 : decode cX10_back 1 = .ok (.getfield 102, 3) := by decide +kernel
theorem dX10_back_4 : decode cX10_back 4 = .ok (.ifCond .ne 5, 3) := by decide +kernel
theorem dX10_back_7 : decode cX10_back 7 = .ok (.iconst (-1), 1) := by decide +kernel
theorem dX10_back_8 : decode cX10_back 8 = .ok (.ireturn, 1) := by decide +kernel
theorem dX10_back_9 : decode cX10_back 9 = .ok (.aload_n 0, 1) := by decide +kernel
theorem dX10_back_10 : decode cX10_back 10 = .ok (.getfield 37, 3) := by decide +kernel
theorem dX10_back_13 : decode cX10_back 13 = .ok (.aload_n 0, 1) := by decide +kernel
theorem dX10_back_14 : decode cX10_back 14 = .ok (.getfield 44, 3) := by decide +kernel
theorem dX10_back_17 : decode cX10_back 17 = .ok (.invokevirtual 292, 3) := by decide +kernel
theorem dX10_back_20 : decode cX10_back 20 = .ok (.aload_n 0, 1) := by decide +kernel
theorem dX10_back_21 : decode cX10_back 21 = .ok (.getfield 57, 3) := by decide +kernel
theorem dX10_back_24 : decode cX10_back 24 = .ok (.invokevirtual 101, 3) := by decide +kernel
theorem dX10_back_27 : decode cX10_back 27 = .ok (.aload_n 0, 1) := by decide +kernel
theorem dX10_back_28 : decode cX10_back 28 = .ok (.getfield 37, 3) := by decide +kernel
theorem dX10_back_31 : decode cX10_back 31 = .ok (.getfield 231, 3) := by decide +kernel
theorem dX10_back_34 : decode cX10_back 34 = .ok (.ireturn, 1) := by decide +kernel
theorem dX10_kindIn_0 : decode cX10_kindIn 0 = .ok (.iload_n 1, 1) := by decide +kernel
theorem dX10_kindIn_1 : decode cX10_kindIn 1 = .ok (.ifCond .ne 24, 3) := by decide +kernel
theorem dX10_kindIn_4 : decode cX10_kindIn 4 = .ok (.aload_n 0, 1) := by decide +kernel
theorem dX10_kindIn_5 : decode cX10_kindIn 5 = .ok (.getfield 37, 3) := by decide +kernel
theorem dX10_kindIn_8 : decode cX10_kindIn 8 = .ok (.getfield 264, 3) := by decide +kernel
theorem dX10_kindIn_11 : decode cX10_kindIn 11 = .ok (.iconst (-1), 1) := by decide +kernel
theorem dX10_kindIn_12 : decode cX10_kindIn 12 = .ok (.if_icmp .eq 13, 3) := by decide +kernel
theorem dX10_kindIn_15 : decode cX10_kindIn 15 = .ok (.aload_n 0, 1) := by decide +kernel
theorem dX10_kindIn_16 : decode cX10_kindIn 16 = .ok (.getfield 37, 3) := by decide +kernel
theorem dX10_kindIn_19 : decode cX10_kindIn 19 = .ok (.getfield 264, 3) := by decide +kernel
theorem dX10_kindIn_22 : decode cX10_kindIn 22 = .ok (.goto 19, 3) := by decide +kernel
theorem dX10_kindIn_25 : decode cX10_kindIn 25 = .ok (.aload_n 0, 1) := by decide +kernel
theorem dX10_kindIn_26 : decode cX10_kindIn 26 = .ok (.getfield 18, 3) := by decide +kernel
theorem dX10_kindIn_29 : decode cX10_kindIn 29 = .ok (.aload_n 0, 1) := by decide +kernel
theorem dX10_kindIn_30 : decode cX10_kindIn 30 = .ok (.getfield 37, 3) := by decide +kernel
theorem dX10_kindIn_33 : decode cX10_kindIn 33 = .ok (.getfield 231, 3) := by decide +kernel
theorem dX10_kindIn_36 : decode cX10_kindIn 36 = .ok (.iload_n 1, 1) := by decide +kernel
theorem dX10_kindIn_37 : decode cX10_kindIn 37 = .ok (.iadd, 1) := by decide +kernel
theorem dX10_kindIn_38 : decode cX10_kindIn 38 = .ok (.invokevirtual 296, 3) := by decide +kernel
theorem dX10_kindIn_41 : decode cX10_kindIn 41 = .ok (.ireturn, 1) := by decide +kernel
theorem dX10_rehearse_0 : decode cX10_rehearse 0 = .ok (.aload_n 0, 1) := by decide +kernel
theorem dX10_rehearse_1 : decode cX10_rehearse 1 = .ok (.getfield 50, 3) := by decide +kernel
theorem dX10_rehearse_4 : decode cX10_rehearse 4 = .ok (.invokevirtual 182, 3) := by decide +kernel
theorem dX10_rehearse_7 : decode cX10_rehearse 7 = .ok (.aload_n 0, 1) := by decide +kernel
theorem dX10_rehearse_8 : decode cX10_rehearse 8 = .ok (.getfield 41, 3) := by decide +kernel
theorem dX10_rehearse_11 : decode cX10_rehearse 11 = .ok (.aload_n 0, 1) := by decide +kernel
theorem dX10_rehearse_12 : decode cX10_rehearse 12 = .ok (.getfield 37, 3) := by decide +kernel
theorem dX10_rehearse_15 : decode cX10_rehearse 15 = .ok (.invokevirtual 292, 3) := by decide +kernel
theorem dX10_rehearse_18 : decode cX10_rehearse 18 = .ok (.return_, 1) := by decide +kernel
theorem dX10_passTrial_0 : decode cX10_passTrial 0 = .ok (.iconst 0, 1) := by decide +kernel
theorem dX10_passTrial_1 : decode cX10_passTrial 1 = .ok (.istore_n 3, 1) := by decide +kernel
theorem dX10_passTrial_2 : decode cX10_passTrial 2 = .ok (.iload_n 3, 1) := by decide +kernel
theorem dX10_passTrial_3 : decode cX10_passTrial 3 = .ok (.iload_n 1, 1) := by decide +kernel
theorem dX10_passTrial_4 : decode cX10_passTrial 4 = .ok (.if_icmp .ge 25, 3) := by decide +kernel
theorem dX10_passTrial_7 : decode cX10_passTrial 7 = .ok (.aload_n 0, 1) := by decide +kernel
theorem dX10_passTrial_8 : decode cX10_passTrial 8 = .ok (.getfield 50, 3) := by decide +kernel
theorem dX10_passTrial_11 : decode cX10_passTrial 11 = .ok (.aload_n 0, 1) := by decide +kernel
theorem dX10_passTrial_12 : decode cX10_passTrial 12 = .ok (.getfield 18, 3) := by decide +kernel
theorem dX10_passTrial_15 : decode cX10_passTrial 15 = .ok (.aload_n 0, 1) := by decide +kernel
theorem dX10_passTrial_16 : decode cX10_passTrial 16 = .ok (.getfield 41, 3) := by decide +kernel
theorem dX10_passTrial_19 : decode cX10_passTrial 19 = .ok (.iload_n 2, 1) := by decide +kernel
theorem dX10_passTrial_20 : decode cX10_passTrial 20 = .ok (.invokevirtual 284, 3) := by decide +kernel
theorem dX10_passTrial_23 : decode cX10_passTrial 23 = .ok (.iinc 3 1, 3) := by decide +kernel
theorem dX10_passTrial_26 : decode cX10_passTrial 26 = .ok (.goto (-24), 3) := by decide +kernel
theorem dX10_passTrial_29 : decode cX10_passTrial 29 = .ok (.return_, 1) := by decide +kernel
theorem dX10_ahead_0 : decode cX10_ahead 0 = .ok (.iload_n 1, 1) := by decide +kernel
theorem dX10_ahead_1 : decode cX10_ahead 1 = .ok (.iconst 0, 1) := by decide +kernel
theorem dX10_ahead_2 : decode cX10_ahead 2 = .ok (.sipush 200, 3) := by decide +kernel
theorem dX10_ahead_5 : decode cX10_ahead 5 = .ok (.invokestatic 173, 3) := by decide +kernel
theorem dX10_ahead_8 : decode cX10_ahead 8 = .ok (.ifCond .eq 25, 3) := by decide +kernel
theorem dX10_ahead_11 : decode cX10_ahead 11 = .ok (.iload_n 2, 1) := by decide +kernel
theorem dX10_ahead_12 : decode cX10_ahead 12 = .ok (.iconst 0, 1) := by decide +kernel
theorem dX10_ahead_13 : decode cX10_ahead 13 = .ok (.iconst 4, 1) := by decide +kernel
theorem dX10_ahead_14 : decode cX10_ahead 14 = .ok (.invokestatic 173, 3) := by decide +kernel
theorem dX10_ahead_17 : decode cX10_ahead 17 = .ok (.ifCond .eq 16, 3) := by decide +kernel
theorem dX10_ahead_20 : decode cX10_ahead 20 = .ok (.iload_n 2, 1) := by decide +kernel
theorem dX10_ahead_21 : decode cX10_ahead 21 = .ok (.iconst 3, 1) := by decide +kernel
theorem dX10_ahead_22 : decode cX10_ahead 22 = .ok (.if_icmp .ge 14, 3) := by decide +kernel
theorem dX10_ahead_25 : decode cX10_ahead 25 = .ok (.aload_n 0, 1) := by decide +kernel
theorem dX10_ahead_26 : decode cX10_ahead 26 = .ok (.iload_n 3, 1) := by decide +kernel
theorem dX10_ahead_27 : decode cX10_ahead 27 = .ok (.invokevirtual 122, 3) := by decide +kernel
theorem dX10_ahead_30 : decode cX10_ahead 30 = .ok (.ifCond .ne 6, 3) := by decide +kernel
theorem dX10_ahead_33 : decode cX10_ahead 33 = .ok (.ldc 220, 2) := by decide +kernel
theorem dX10_ahead_35 : decode cX10_ahead 35 = .ok (.ireturn, 1) := by decide +kernel
theorem dX10_ahead_36 : decode cX10_ahead 36 = .ok (.aload_n 0, 1) := by decide +kernel
theorem dX10_ahead_37 : decode cX10_ahead 37 = .ok (.invokevirtual 299, 3) := by decide +kernel
theorem dX10_ahead_40 : decode cX10_ahead 40 = .ok (.aload_n 0, 1) := by decide +kernel
theorem dX10_ahead_41 : decode cX10_ahead 41 = .ok (.iload_n 1, 1) := by decide +kernel
theorem dX10_ahead_42 : decode cX10_ahead 42 = .ok (.iload_n 2, 1) := by decide +kernel
theorem dX10_ahead_43 : decode cX10_ahead 43 = .ok (.iconst 3, 1) := by decide +kernel
theorem dX10_ahead_44 : decode cX10_ahead 44 = .ok (.if_icmp .ge 7, 3) := by decide +kernel
theorem dX10_ahead_47 : decode cX10_ahead 47 = .ok (.iload_n 3, 1) := by decide +kernel
theorem dX10_ahead_48 : decode cX10_ahead 48 = .ok (.goto 4, 3) := by decide +kernel
theorem dX10_ahead_51 : decode cX10_ahead 51 = .ok (.iconst (-1), 1) := by decide +kernel
theorem dX10_ahead_52 : decode cX10_ahead 52 = .ok (.invokevirtual 302, 3) := by decide +kernel
theorem dX10_ahead_55 : decode cX10_ahead 55 = .ok (.iload_n 2, 1) := by decide +kernel
theorem dX10_ahead_56 : decode cX10_ahead 56 = .ok (.tableswitch 70 0 3 #[32, 42, 52, 62], 32) := by decide +kernel
theorem dX10_ahead_88 : decode cX10_ahead 88 = .ok (.aload_n 0, 1) := by decide +kernel
theorem dX10_ahead_89 : decode cX10_ahead 89 = .ok (.getfield 41, 3) := by decide +kernel
theorem dX10_ahead_92 : decode cX10_ahead 92 = .ok (.getfield 133, 3) := by decide +kernel
theorem dX10_ahead_95 : decode cX10_ahead 95 = .ok (.iload_n 3, 1) := by decide +kernel
theorem dX10_ahead_96 : decode cX10_ahead 96 = .ok (.iaload, 1) := by decide +kernel
theorem dX10_ahead_97 : decode cX10_ahead 97 = .ok (.ireturn, 1) := by decide +kernel
theorem dX10_ahead_98 : decode cX10_ahead 98 = .ok (.aload_n 0, 1) := by decide +kernel
theorem dX10_ahead_99 : decode cX10_ahead 99 = .ok (.getfield 41, 3) := by decide +kernel
theorem dX10_ahead_102 : decode cX10_ahead 102 = .ok (.getfield 137, 3) := by decide +kernel
theorem dX10_ahead_105 : decode cX10_ahead 105 = .ok (.iload_n 3, 1) := by decide +kernel
theorem dX10_ahead_106 : decode cX10_ahead 106 = .ok (.iaload, 1) := by decide +kernel
theorem dX10_ahead_107 : decode cX10_ahead 107 = .ok (.ireturn, 1) := by decide +kernel
theorem dX10_ahead_108 : decode cX10_ahead 108 = .ok (.aload_n 0, 1) := by decide +kernel
theorem dX10_ahead_109 : decode cX10_ahead 109 = .ok (.getfield 41, 3) := by decide +kernel
theorem dX10_ahead_112 : decode cX10_ahead 112 = .ok (.getfield 140, 3) := by decide +kernel
theorem dX10_ahead_115 : decode cX10_ahead 115 = .ok (.iload_n 3, 1) := by decide +kernel
theorem dX10_ahead_116 : decode cX10_ahead 116 = .ok (.iaload, 1) := by decide +kernel
theorem dX10_ahead_117 : decode cX10_ahead 117 = .ok (.ireturn, 1) := by decide +kernel
theorem dX10_ahead_118 : decode cX10_ahead 118 = .ok (.aload_n 0, 1) := by decide +kernel
theorem dX10_ahead_119 : decode cX10_ahead 119 = .ok (.getfield 41, 3) := by decide +kernel
theorem dX10_ahead_122 : decode cX10_ahead 122 = .ok (.invokevirtual 243, 3) := by decide +kernel
theorem dX10_ahead_125 : decode cX10_ahead 125 = .ok (.ireturn, 1) := by decide +kernel
theorem dX10_ahead_126 : decode cX10_ahead 126 = .ok (.aload_n 0, 1) := by decide +kernel
theorem dX10_ahead_127 : decode cX10_ahead 127 = .ok (.getfield 41, 3) := by decide +kernel
theorem dX10_ahead_130 : decode cX10_ahead 130 = .ok (.getfield 146, 3) := by decide +kernel
theorem dX10_ahead_133 : decode cX10_ahead 133 = .ok (.invokestatic 247, 3) := by decide +kernel
theorem dX10_ahead_136 : decode cX10_ahead 136 = .ok (.aload_n 0, 1) := by decide +kernel
theorem dX10_ahead_137 : decode cX10_ahead 137 = .ok (.getfield 37, 3) := by decide +kernel
theorem dX10_ahead_140 : decode cX10_ahead 140 = .ok (.getfield 146, 3) := by decide +kernel
theorem dX10_ahead_143 : decode cX10_ahead 143 = .ok (.invokestatic 247, 3) := by decide +kernel
theorem dX10_ahead_146 : decode cX10_ahead 146 = .ok (.isub, 1) := by decide +kernel
theorem dX10_ahead_147 : decode cX10_ahead 147 = .ok (.ireturn, 1) := by decide +kernel
theorem dX10_sold_0 : decode cX10_sold 0 = .ok (.aload_n 0, 1) := by decide +kernel
theorem dX10_sold_1 : decode cX10_sold 1 = .ok (.iconst 0, 1) := by decide +kernel
theorem dX10_sold_2 : decode cX10_sold 2 = .ok (.iload_n 1, 1) := by decide +kernel
theorem dX10_sold_3 : decode cX10_sold 3 = .ok (.invokevirtual 306, 3) := by decide +kernel
theorem dX10_sold_6 : decode cX10_sold 6 = .ok (.ireturn, 1) := by decide +kernel
theorem dX10_credit_0 : decode cX10_credit 0 = .ok (.aload_n 0, 1) := by decide +kernel
theorem dX10_credit_1 : decode cX10_credit 1 = .ok (.iconst 1, 1) := by decide +kernel
theorem dX10_credit_2 : decode cX10_credit 2 = .ok (.iload_n 1, 1) := by decide +kernel
theorem dX10_credit_3 : decode cX10_credit 3 = .ok (.invokevirtual 306, 3) := by decide +kernel
theorem dX10_credit_6 : decode cX10_credit 6 = .ok (.ireturn, 1) := by decide +kernel
theorem dX10_owes_0 : decode cX10_owes 0 = .ok (.aload_n 0, 1) := by decide +kernel
theorem dX10_owes_1 : decode cX10_owes 1 = .ok (.iconst 2, 1) := by decide +kernel
theorem dX10_owes_2 : decode cX10_owes 2 = .ok (.iload_n 1, 1) := by decide +kernel
theorem dX10_owes_3 : decode cX10_owes 3 = .ok (.invokevirtual 306, 3) := by decide +kernel
theorem dX10_owes_6 : decode cX10_owes 6 = .ok (.ireturn, 1) := by decide +kernel
theorem dX10_daysUntil_0 : decode cX10_daysUntil 0 = .ok (.aload_n 0, 1) := by decide +kernel
theorem dX10_daysUntil_1 : decode cX10_daysUntil 1 = .ok (.iload_n 2, 1) := by decide +kernel
theorem dX10_daysUntil_2 : decode cX10_daysUntil 2 = .ok (.invokevirtual 122, 3) := by decide +kernel
theorem dX10_daysUntil_5 : decode cX10_daysUntil 5 = .ok (.ifCond .ne 5, 3) := by decide +kernel
theorem dX10_daysUntil_8 : decode cX10_daysUntil 8 = .ok (.iconst (-1), 1) := by decide +kernel
theorem dX10_daysUntil_9 : decode cX10_daysUntil 9 = .ok (.ireturn, 1) := by decide +kernel
theorem dX10_daysUntil_10 : decode cX10_daysUntil 10 = .ok (.aload_n 0, 1) := by decide +kernel
theorem dX10_daysUntil_11 : decode cX10_daysUntil 11 = .ok (.invokevirtual 299, 3) := by decide +kernel
theorem dX10_daysUntil_14 : decode cX10_daysUntil 14 = .ok (.iconst 0, 1) := by decide +kernel
theorem dX10_daysUntil_15 : decode cX10_daysUntil 15 = .ok (.istore_n 3, 1) := by decide +kernel
theorem dX10_daysUntil_16 : decode cX10_daysUntil 16 = .ok (.iload_n 3, 1) := by decide +kernel
theorem dX10_daysUntil_17 : decode cX10_daysUntil 17 = .ok (.sipush 200, 3) := by decide +kernel
theorem dX10_daysUntil_20 : decode cX10_daysUntil 20 = .ok (.if_icmp .ge 39, 3) := by decide +kernel
theorem dX10_daysUntil_23 : decode cX10_daysUntil 23 = .ok (.aload_n 0, 1) := by decide +kernel
theorem dX10_daysUntil_24 : decode cX10_daysUntil 24 = .ok (.getfield 41, 3) := by decide +kernel
theorem dX10_daysUntil_27 : decode cX10_daysUntil 27 = .ok (.iload_n 1, 1) := by decide +kernel
theorem dX10_daysUntil_28 : decode cX10_daysUntil 28 = .ok (.iload_n 2, 1) := by decide +kernel
theorem dX10_daysUntil_29 : decode cX10_daysUntil 29 = .ok (.invokevirtual 309, 3) := by decide +kernel
theorem dX10_daysUntil_32 : decode cX10_daysUntil 32 = .ok (.ifCond .eq 5, 3) := by decide +kernel
theorem dX10_daysUntil_35 : decode cX10_daysUntil 35 = .ok (.iload_n 3, 1) := by decide +kernel
theorem dX10_daysUntil_36 : decode cX10_daysUntil 36 = .ok (.ireturn, 1) := by decide +kernel
theorem dX10_daysUntil_37 : decode cX10_daysUntil 37 = .ok (.aload_n 0, 1) := by decide +kernel
theorem dX10_daysUntil_38 : decode cX10_daysUntil 38 = .ok (.getfield 50, 3) := by decide +kernel
theorem dX10_daysUntil_41 : decode cX10_daysUntil 41 = .ok (.aload_n 0, 1) := by decide +kernel
theorem dX10_daysUntil_42 : decode cX10_daysUntil 42 = .ok (.getfield 18, 3) := by decide +kernel
theorem dX10_daysUntil_45 : decode cX10_daysUntil 45 = .ok (.aload_n 0, 1) := by decide +kernel
theorem dX10_daysUntil_46 : decode cX10_daysUntil 46 = .ok (.getfield 41, 3) := by decide +kernel
theorem dX10_daysUntil_49 : decode cX10_daysUntil 49 = .ok (.iload_n 2, 1) := by decide +kernel
theorem dX10_daysUntil_50 : decode cX10_daysUntil 50 = .ok (.invokevirtual 284, 3) := by decide +kernel
theorem dX10_daysUntil_53 : decode cX10_daysUntil 53 = .ok (.iinc 3 1, 3) := by decide +kernel
theorem dX10_daysUntil_56 : decode cX10_daysUntil 56 = .ok (.goto (-40), 3) := by decide +kernel
theorem dX10_daysUntil_59 : decode cX10_daysUntil 59 = .ok (.bipush (-2), 2) := by decide +kernel
theorem dX10_daysUntil_61 : decode cX10_daysUntil 61 = .ok (.ireturn, 1) := by decide +kernel
theorem dX10_often_0 : decode cX10_often 0 = .ok (.aload_n 0, 1) := by decide +kernel
theorem dX10_often_1 : decode cX10_often 1 = .ok (.iload_n 1, 1) := by decide +kernel
theorem dX10_often_2 : decode cX10_often 2 = .ok (.invokevirtual 161, 3) := by decide +kernel
theorem dX10_often_5 : decode cX10_often 5 = .ok (.ifCond .eq 14, 3) := by decide +kernel
theorem dX10_often_8 : decode cX10_often 8 = .ok (.iload_n 2, 1) := by decide +kernel
theorem dX10_often_9 : decode cX10_often 9 = .ok (.iconst 0, 1) := by decide +kernel
theorem dX10_often_10 : decode cX10_often 10 = .ok (.sipush 200, 3) := by decide +kernel
theorem dX10_often_13 : decode cX10_often 13 = .ok (.invokestatic 173, 3) := by decide +kernel
theorem dX10_often_16 : decode cX10_often 16 = .ok (.ifCond .ne 5, 3) := by decide +kernel
theorem dX10_often_19 : decode cX10_often 19 = .ok (.iconst (-1), 1) := by decide +kernel
theorem dX10_often_20 : decode cX10_often 20 = .ok (.ireturn, 1) := by decide +kernel
theorem dX10_often_21 : decode cX10_often 21 = .ok (.iconst 0, 1) := by decide +kernel
theorem dX10_often_22 : decode cX10_often 22 = .ok (.istore_n 3, 1) := by decide +kernel
theorem dX10_often_23 : decode cX10_often 23 = .ok (.iconst 0, 1) := by decide +kernel
theorem dX10_often_24 : decode cX10_often 24 = .ok (.istore 4, 2) := by decide +kernel
theorem dX10_often_26 : decode cX10_often 26 = .ok (.iload 4, 2) := by decide +kernel
theorem dX10_often_28 : decode cX10_often 28 = .ok (.iload_n 2, 1) := by decide +kernel
theorem dX10_often_29 : decode cX10_often 29 = .ok (.if_icmp .ge 22, 3) := by decide +kernel
theorem dX10_often_32 : decode cX10_often 32 = .ok (.aload_n 0, 1) := by decide +kernel
theorem dX10_often_33 : decode cX10_often 33 = .ok (.iload 4, 2) := by decide +kernel
theorem dX10_often_35 : decode cX10_often 35 = .ok (.invokevirtual 177, 3) := by decide +kernel
theorem dX10_often_38 : decode cX10_often 38 = .ok (.iload_n 1, 1) := by decide +kernel
theorem dX10_often_39 : decode cX10_often 39 = .ok (.if_icmp .ne 6, 3) := by decide +kernel
theorem dX10_often_42 : decode cX10_often 42 = .ok (.iinc 3 1, 3) := by decide +kernel
theorem dX10_often_45 : decode cX10_often 45 = .ok (.iinc 4 1, 3) := by decide +kernel
theorem dX10_often_48 : decode cX10_often 48 = .ok (.goto (-22), 3) := by decide +kernel
theorem dX10_often_51 : decode cX10_often 51 = .ok (.iload_n 3, 1) := by decide +kernel
theorem dX10_often_52 : decode cX10_often 52 = .ok (.ireturn, 1) := by decide +kernel
theorem dX10_plan_0 : decode cX10_plan 0 = .ok (.iload_n 1, 1) := by decide +kernel
theorem dX10_plan_1 : decode cX10_plan 1 = .ok (.iconst 0, 1) := by decide +kernel
theorem dX10_plan_2 : decode cX10_plan 2 = .ok (.bipush 8, 2) := by decide +kernel
theorem dX10_plan_4 : decode cX10_plan 4 = .ok (.invokestatic 173, 3) := by decide +kernel
theorem dX10_plan_7 : decode cX10_plan 7 = .ok (.ifCond .eq 13, 3) := by decide +kernel
theorem dX10_plan_10 : decode cX10_plan 10 = .ok (.iload_n 2, 1) := by decide +kernel
theorem dX10_plan_11 : decode cX10_plan 11 = .ok (.iconst 0, 1) := by decide +kernel
theorem dX10_plan_12 : decode cX10_plan 12 = .ok (.bipush 7, 2) := by decide +kernel
theorem dX10_plan_14 : decode cX10_plan 14 = .ok (.invokestatic 173, 3) := by decide +kernel
theorem dX10_plan_17 : decode cX10_plan 17 = .ok (.ifCond .ne 5, 3) := by decide +kernel
theorem dX10_plan_20 : decode cX10_plan 20 = .ok (.iconst (-1), 1) := by decide +kernel
theorem dX10_plan_21 : decode cX10_plan 21 = .ok (.ireturn, 1) := by decide +kernel
theorem dX10_plan_22 : decode cX10_plan 22 = .ok (.iconst 0, 1) := by decide +kernel
theorem dX10_plan_23 : decode cX10_plan 23 = .ok (.istore_n 3, 1) := by decide +kernel
theorem dX10_plan_24 : decode cX10_plan 24 = .ok (.iload_n 3, 1) := by decide +kernel
theorem dX10_plan_25 : decode cX10_plan 25 = .ok (.iload_n 1, 1) := by decide +kernel
theorem dX10_plan_26 : decode cX10_plan 26 = .ok (.if_icmp .ge 23, 3) := by decide +kernel
theorem dX10_plan_29 : decode cX10_plan 29 = .ok (.aload_n 0, 1) := by decide +kernel
theorem dX10_plan_30 : decode cX10_plan 30 = .ok (.getfield 71, 3) := by decide +kernel
theorem dX10_plan_33 : decode cX10_plan 33 = .ok (.getfield 312, 3) := by decide +kernel
theorem dX10_plan_36 : decode cX10_plan 36 = .ok (.iload_n 3, 1) := by decide +kernel
theorem dX10_plan_37 : decode cX10_plan 37 = .ok (.aload_n 0, 1) := by decide +kernel
theorem dX10_plan_38 : decode cX10_plan 38 = .ok (.iload_n 3, 1) := by decide +kernel
theorem dX10_plan_39 : decode cX10_plan 39 = .ok (.invokevirtual 177, 3) := by decide +kernel
theorem dX10_plan_42 : decode cX10_plan 42 = .ok (.iastore, 1) := by decide +kernel
theorem dX10_plan_43 : decode cX10_plan 43 = .ok (.iinc 3 1, 3) := by decide +kernel
theorem dX10_plan_46 : decode cX10_plan 46 = .ok (.goto (-22), 3) := by decide +kernel
theorem dX10_plan_49 : decode cX10_plan 49 = .ok (.aload_n 0, 1) := by decide +kernel
theorem dX10_plan_50 : decode cX10_plan 50 = .ok (.getfield 71, 3) := by decide +kernel
theorem dX10_plan_53 : decode cX10_plan 53 = .ok (.aload_n 0, 1) := by decide +kernel
theorem dX10_plan_54 : decode cX10_plan 54 = .ok (.getfield 18, 3) := by decide +kernel
theorem dX10_plan_57 : decode cX10_plan 57 = .ok (.iload_n 1, 1) := by decide +kernel
theorem dX10_plan_58 : decode cX10_plan 58 = .ok (.invokevirtual 314, 3) := by decide +kernel
theorem dX10_plan_61 : decode cX10_plan 61 = .ok (.iload_n 2, 1) := by decide +kernel
theorem dX10_plan_62 : decode cX10_plan 62 = .ok (.bipush 6, 2) := by decide +kernel
theorem dX10_plan_64 : decode cX10_plan 64 = .ok (.if_icmp .ne 11, 3) := by decide +kernel
theorem dX10_plan_67 : decode cX10_plan 67 = .ok (.aload_n 0, 1) := by decide +kernel
theorem dX10_plan_68 : decode cX10_plan 68 = .ok (.getfield 71, 3) := by decide +kernel
theorem dX10_plan_71 : decode cX10_plan 71 = .ok (.getfield 318, 3) := by decide +kernel
theorem dX10_plan_74 : decode cX10_plan 74 = .ok (.ireturn, 1) := by decide +kernel
theorem dX10_plan_75 : decode cX10_plan 75 = .ok (.iload_n 2, 1) := by decide +kernel
theorem dX10_plan_76 : decode cX10_plan 76 = .ok (.bipush 7, 2) := by decide +kernel
theorem dX10_plan_78 : decode cX10_plan 78 = .ok (.if_icmp .ne 11, 3) := by decide +kernel
theorem dX10_plan_81 : decode cX10_plan 81 = .ok (.aload_n 0, 1) := by decide +kernel
theorem dX10_plan_82 : decode cX10_plan 82 = .ok (.getfield 71, 3) := by decide +kernel
theorem dX10_plan_85 : decode cX10_plan 85 = .ok (.getfield 321, 3) := by decide +kernel
theorem dX10_plan_88 : decode cX10_plan 88 = .ok (.ireturn, 1) := by decide +kernel
theorem dX10_plan_89 : decode cX10_plan 89 = .ok (.iload_n 2, 1) := by decide +kernel
theorem dX10_plan_90 : decode cX10_plan 90 = .ok (.aload_n 0, 1) := by decide +kernel
theorem dX10_plan_91 : decode cX10_plan 91 = .ok (.getfield 18, 3) := by decide +kernel
theorem dX10_plan_94 : decode cX10_plan 94 = .ok (.getfield 237, 3) := by decide +kernel
theorem dX10_plan_97 : decode cX10_plan 97 = .ok (.if_icmp .ge 15, 3) := by decide +kernel
theorem dX10_plan_100 : decode cX10_plan 100 = .ok (.aload_n 0, 1) := by decide +kernel
theorem dX10_plan_101 : decode cX10_plan 101 = .ok (.getfield 71, 3) := by decide +kernel
theorem dX10_plan_104 : decode cX10_plan 104 = .ok (.getfield 324, 3) := by decide +kernel
theorem dX10_plan_107 : decode cX10_plan 107 = .ok (.iload_n 2, 1) := by decide +kernel
theorem dX10_plan_108 : decode cX10_plan 108 = .ok (.iaload, 1) := by decide +kernel
theorem dX10_plan_109 : decode cX10_plan 109 = .ok (.goto 5, 3) := by decide +kernel
theorem dX10_plan_112 : decode cX10_plan 112 = .ok (.bipush (-2), 2) := by decide +kernel
theorem dX10_plan_114 : decode cX10_plan 114 = .ok (.ireturn, 1) := by decide +kernel
theorem dX10_blinds_0 : decode cX10_blinds 0 = .ok (.iload_n 1, 1) := by decide +kernel
theorem dX10_blinds_1 : decode cX10_blinds 1 = .ok (.iconst 0, 1) := by decide +kernel
theorem dX10_blinds_2 : decode cX10_blinds 2 = .ok (.bipush 60, 2) := by decide +kernel
theorem dX10_blinds_4 : decode cX10_blinds 4 = .ok (.invokestatic 173, 3) := by decide +kernel
theorem dX10_blinds_7 : decode cX10_blinds 7 = .ok (.ifCond .eq 12, 3) := by decide +kernel
theorem dX10_blinds_10 : decode cX10_blinds 10 = .ok (.iload_n 2, 1) := by decide +kernel
theorem dX10_blinds_11 : decode cX10_blinds 11 = .ok (.iconst 0, 1) := by decide +kernel
theorem dX10_blinds_12 : decode cX10_blinds 12 = .ok (.iconst 1, 1) := by decide +kernel
theorem dX10_blinds_13 : decode cX10_blinds 13 = .ok (.invokestatic 173, 3) := by decide +kernel
theorem dX10_blinds_16 : decode cX10_blinds 16 = .ok (.ifCond .ne 5, 3) := by decide +kernel
theorem dX10_blinds_19 : decode cX10_blinds 19 = .ok (.iconst (-1), 1) := by decide +kernel
theorem dX10_blinds_20 : decode cX10_blinds 20 = .ok (.ireturn, 1) := by decide +kernel
theorem dX10_blinds_21 : decode cX10_blinds 21 = .ok (.iconst 0, 1) := by decide +kernel
theorem dX10_blinds_22 : decode cX10_blinds 22 = .ok (.istore_n 3, 1) := by decide +kernel
theorem dX10_blinds_23 : decode cX10_blinds 23 = .ok (.iconst 0, 1) := by decide +kernel
theorem dX10_blinds_24 : decode cX10_blinds 24 = .ok (.istore 4, 2) := by decide +kernel
theorem dX10_blinds_26 : decode cX10_blinds 26 = .ok (.iconst 0, 1) := by decide +kernel
theorem dX10_blinds_27 : decode cX10_blinds 27 = .ok (.istore 5, 2) := by decide +kernel
theorem dX10_blinds_29 : decode cX10_blinds 29 = .ok (.iload 5, 2) := by decide +kernel
theorem dX10_blinds_31 : decode cX10_blinds 31 = .ok (.aload_n 0, 1) := by decide +kernel
theorem dX10_blinds_32 : decode cX10_blinds 32 = .ok (.getfield 18, 3) := by decide +kernel
theorem dX10_blinds_35 : decode cX10_blinds 35 = .ok (.getfield 203, 3) := by decide +kernel
theorem dX10_blinds_38 : decode cX10_blinds 38 = .ok (.if_icmp .ge 53, 3) := by decide +kernel
theorem dX10_blinds_41 : decode cX10_blinds 41 = .ok (.aload_n 0, 1) := by decide +kernel
theorem dX10_blinds_42 : decode cX10_blinds 42 = .ok (.iload_n 1, 1) := by decide +kernel
theorem dX10_blinds_43 : decode cX10_blinds 43 = .ok (.iload 5, 2) := by decide +kernel
theorem dX10_blinds_45 : decode cX10_blinds 45 = .ok (.aload_n 0, 1) := by decide +kernel
theorem dX10_blinds_46 : decode cX10_blinds 46 = .ok (.getfield 37, 3) := by decide +kernel
theorem dX10_blinds_49 : decode cX10_blinds 49 = .ok (.getfield 153, 3) := by decide +kernel
theorem dX10_blinds_52 : decode cX10_blinds 52 = .ok (.iload 5, 2) := by decide +kernel
theorem dX10_blinds_54 : decode cX10_blinds 54 = .ok (.baload, 1) := by decide +kernel
theorem dX10_blinds_55 : decode cX10_blinds 55 = .ok (.invokevirtual 327, 3) := by decide +kernel
theorem dX10_blinds_58 : decode cX10_blinds 58 = .ok (.ifCond .eq 27, 3) := by decide +kernel
theorem dX10_blinds_61 : decode cX10_blinds 61 = .ok (.aload_n 0, 1) := by decide +kernel
theorem dX10_blinds_62 : decode cX10_blinds 62 = .ok (.iload_n 1, 1) := by decide +kernel
theorem dX10_blinds_63 : decode cX10_blinds 63 = .ok (.iload 5, 2) := by decide +kernel
theorem dX10_blinds_65 : decode cX10_blinds 65 = .ok (.iconst 1, 1) := by decide +kernel
theorem dX10_blinds_66 : decode cX10_blinds 66 = .ok (.invokevirtual 327, 3) := by decide +kernel
theorem dX10_blinds_69 : decode cX10_blinds 69 = .ok (.ifCond .eq 9, 3) := by decide +kernel
theorem dX10_blinds_72 : decode cX10_blinds 72 = .ok (.iinc 4 1, 3) := by decide +kernel
theorem dX10_blinds_75 : decode cX10_blinds 75 = .ok (.goto 10, 3) := by decide +kernel
theorem dX10_blinds_78 : decode cX10_blinds 78 = .ok (.iload_n 3, 1) := by decide +kernel
theorem dX10_blinds_79 : decode cX10_blinds 79 = .ok (.iconst 1, 1) := by decide +kernel
theorem dX10_blinds_80 : decode cX10_blinds 80 = .ok (.iload 5, 2) := by decide +kernel
theorem dX10_blinds_82 : decode cX10_blinds 82 = .ok (.ishl, 1) := by decide +kernel
theorem dX10_blinds_83 : decode cX10_blinds 83 = .ok (.ior, 1) := by decide +kernel
theorem dX10_blinds_84 : decode cX10_blinds 84 = .ok (.istore_n 3, 1) := by decide +kernel
theorem dX10_blinds_85 : decode cX10_blinds 85 = .ok (.iinc 5 1, 3) := by decide +kernel
theorem dX10_blinds_88 : decode cX10_blinds 88 = .ok (.goto (-59), 3) := by decide +kernel
theorem dX10_blinds_91 : decode cX10_blinds 91 = .ok (.iload_n 2, 1) := by decide +kernel
theorem dX10_blinds_92 : decode cX10_blinds 92 = .ok (.ifCond .ne 7, 3) := by decide +kernel
theorem dX10_blinds_95 : decode cX10_blinds 95 = .ok (.iload_n 3, 1) := by decide +kernel
theorem dX10_blinds_96 : decode cX10_blinds 96 = .ok (.goto 5, 3) := by decide +kernel
theorem dX10_blinds_99 : decode cX10_blinds 99 = .ok (.iload 4, 2) := by decide +kernel
theorem dX10_blinds_101 : decode cX10_blinds 101 = .ok (.ireturn, 1) := by decide +kernel
theorem dX10_isSoldUpIn_0 : decode cX10_isSoldUpIn 0 = .ok (.aload_n 0, 1) := by decide +kernel
theorem dX10_isSoldUpIn_1 : decode cX10_isSoldUpIn 1 = .ok (.invokevirtual 299, 3) := by decide +kernel
theorem dX10_isSoldUpIn_4 : decode cX10_isSoldUpIn 4 = .ok (.aload_n 0, 1) := by decide +kernel
theorem dX10_isSoldUpIn_5 : decode cX10_isSoldUpIn 5 = .ok (.getfield 41, 3) := by decide +kernel
theorem dX10_isSoldUpIn_8 : decode cX10_isSoldUpIn 8 = .ok (.getfield 153, 3) := by decide +kernel
theorem dX10_isSoldUpIn_11 : decode cX10_isSoldUpIn 11 = .ok (.iload_n 2, 1) := by decide +kernel
theorem dX10_isSoldUpIn_12 : decode cX10_isSoldUpIn 12 = .ok (.iload_n 3, 1) := by decide +kernel
theorem dX10_isSoldUpIn_13 : decode cX10_isSoldUpIn 13 = .ok (.bastore, 1) := by decide +kernel
theorem dX10_isSoldUpIn_14 : decode cX10_isSoldUpIn 14 = .ok (.aload_n 0, 1) := by decide +kernel
theorem dX10_isSoldUpIn_15 : decode cX10_isSoldUpIn 15 = .ok (.iload_n 1, 1) := by decide +kernel
theorem dX10_isSoldUpIn_16 : decode cX10_isSoldUpIn 16 = .ok (.iload_n 2, 1) := by decide +kernel
theorem dX10_isSoldUpIn_17 : decode cX10_isSoldUpIn 17 = .ok (.invokevirtual 302, 3) := by decide +kernel
theorem dX10_isSoldUpIn_20 : decode cX10_isSoldUpIn 20 = .ok (.aload_n 0, 1) := by decide +kernel
theorem dX10_isSoldUpIn_21 : decode cX10_isSoldUpIn 21 = .ok (.getfield 41, 3) := by decide +kernel
theorem dX10_isSoldUpIn_24 : decode cX10_isSoldUpIn 24 = .ok (.getfield 149, 3) := by decide +kernel
theorem dX10_isSoldUpIn_27 : decode cX10_isSoldUpIn 27 = .ok (.iload_n 2, 1) := by decide +kernel
theorem dX10_isSoldUpIn_28 : decode cX10_isSoldUpIn 28 = .ok (.baload, 1) := by decide +kernel
theorem dX10_isSoldUpIn_29 : decode cX10_isSoldUpIn 29 = .ok (.ireturn, 1) := by decide +kernel
theorem dX10_rescue_0 : decode cX10_rescue 0 = .ok (.aload_n 0, 1) := by decide +kernel
theorem dX10_rescue_1 : decode cX10_rescue 1 = .ok (.invokevirtual 299, 3) := by decide +kernel
theorem dX10_rescue_4 : decode cX10_rescue 4 = .ok (.aload_n 0, 1) := by decide +kernel
theorem dX10_rescue_5 : decode cX10_rescue 5 = .ok (.aload_n 0, 1) := by decide +kernel
theorem dX10_rescue_6 : decode cX10_rescue 6 = .ok (.invokevirtual 331, 3) := by decide +kernel
theorem dX10_rescue_9 : decode cX10_rescue 9 = .ok (.iconst (-1), 1) := by decide +kernel
theorem dX10_rescue_10 : decode cX10_rescue 10 = .ok (.invokevirtual 302, 3) := by decide +kernel
theorem dX10_rescue_13 : decode cX10_rescue 13 = .ok (.iconst 0, 1) := by decide +kernel
theorem dX10_rescue_14 : decode cX10_rescue 14 = .ok (.istore_n 1, 1) := by decide +kernel
theorem dX10_rescue_15 : decode cX10_rescue 15 = .ok (.iconst 0, 1) := by decide +kernel
theorem dX10_rescue_16 : decode cX10_rescue 16 = .ok (.istore_n 2, 1) := by decide +kernel
theorem dX10_rescue_17 : decode cX10_rescue 17 = .ok (.iconst 0, 1) := by decide +kernel
theorem dX10_rescue_18 : decode cX10_rescue 18 = .ok (.istore_n 3, 1) := by decide +kernel
theorem dX10_rescue_19 : decode cX10_rescue 19 = .ok (.iload_n 3, 1) := by decide +kernel
theorem dX10_rescue_20 : decode cX10_rescue 20 = .ok (.aload_n 0, 1) := by decide +kernel
theorem dX10_rescue_21 : decode cX10_rescue 21 = .ok (.getfield 18, 3) := by decide +kernel
theorem dX10_rescue_24 : decode cX10_rescue 24 = .ok (.getfield 203, 3) := by decide +kernel
theorem dX10_rescue_27 : decode cX10_rescue 27 = .ok (.if_icmp .ge 60, 3) := by decide +kernel
theorem dX10_rescue_30 : decode cX10_rescue 30 = .ok (.aload_n 0, 1) := by decide +kernel
theorem dX10_rescue_31 : decode cX10_rescue 31 = .ok (.getfield 41, 3) := by decide +kernel
theorem dX10_rescue_34 : decode cX10_rescue 34 = .ok (.getfield 149, 3) := by decide +kernel
theorem dX10_rescue_37 : decode cX10_rescue 37 = .ok (.iload_n 3, 1) := by decide +kernel
theorem dX10_rescue_38 : decode cX10_rescue 38 = .ok (.baload, 1) := by decide +kernel
theorem dX10_rescue_39 : decode cX10_rescue 39 = .ok (.ifCond .ne 18, 3) := by decide +kernel
theorem dX10_rescue_42 : decode cX10_rescue 42 = .ok (.iload_n 2, 1) := by decide +kernel
theorem dX10_rescue_43 : decode cX10_rescue 43 = .ok (.aload_n 0, 1) := by decide +kernel
theorem dX10_rescue_44 : decode cX10_rescue 44 = .ok (.getfield 41, 3) := by decide +kernel
theorem dX10_rescue_47 : decode cX10_rescue 47 = .ok (.getfield 133, 3) := by decide +kernel
theorem dX10_rescue_50 : decode cX10_rescue 50 = .ok (.iload_n 3, 1) := by decide +kernel
theorem dX10_rescue_51 : decode cX10_rescue 51 = .ok (.iaload, 1) := by decide +kernel
theorem dX10_rescue_52 : decode cX10_rescue 52 = .ok (.iadd, 1) := by decide +kernel
theorem dX10_rescue_53 : decode cX10_rescue 53 = .ok (.istore_n 2, 1) := by decide +kernel
theorem dX10_rescue_54 : decode cX10_rescue 54 = .ok (.goto 27, 3) := by decide +kernel
theorem dX10_rescue_57 : decode cX10_rescue 57 = .ok (.aload_n 0, 1) := by decide +kernel
theorem dX10_rescue_58 : decode cX10_rescue 58 = .ok (.getfield 37, 3) := by decide +kernel
theorem dX10_rescue_61 : decode cX10_rescue 61 = .ok (.getfield 149, 3) := by decide +kernel
theorem dX10_rescue_64 : decode cX10_rescue 64 = .ok (.iload_n 3, 1) := by decide +kernel
theorem dX10_rescue_65 : decode cX10_rescue 65 = .ok (.baload, 1) := by decide +kernel
theorem dX10_rescue_66 : decode cX10_rescue 66 = .ok (.ifCond .ne 15, 3) := by decide +kernel
theorem dX10_rescue_69 : decode cX10_rescue 69 = .ok (.iload_n 1, 1) := by decide +kernel
theorem dX10_rescue_70 : decode cX10_rescue 70 = .ok (.aload_n 0, 1) := by decide +kernel
theorem dX10_rescue_71 : decode cX10_rescue 71 = .ok (.getfield 41, 3) := by decide +kernel
theorem dX10_rescue_74 : decode cX10_rescue 74 = .ok (.getfield 133, 3) := by decide +kernel
theorem dX10_rescue_77 : decode cX10_rescue 77 = .ok (.iload_n 3, 1) := by decide +kernel
theorem dX10_rescue_78 : decode cX10_rescue 78 = .ok (.iaload, 1) := by decide +kernel
theorem dX10_rescue_79 : decode cX10_rescue 79 = .ok (.isub, 1) := by decide +kernel
theorem dX10_rescue_80 : decode cX10_rescue 80 = .ok (.istore_n 1, 1) := by decide +kernel
theorem dX10_rescue_81 : decode cX10_rescue 81 = .ok (.iinc 3 1, 3) := by decide +kernel
theorem dX10_rescue_84 : decode cX10_rescue 84 = .ok (.goto (-65), 3) := by decide +kernel
theorem dX10_rescue_87 : decode cX10_rescue 87 = .ok (.iload_n 2, 1) := by decide +kernel
theorem dX10_rescue_88 : decode cX10_rescue 88 = .ok (.iload_n 1, 1) := by decide +kernel
theorem dX10_rescue_89 : decode cX10_rescue 89 = .ok (.if_icmp .ge 8, 3) := by decide +kernel
theorem dX10_rescue_92 : decode cX10_rescue 92 = .ok (.bipush (-2), 2) := by decide +kernel
theorem dX10_rescue_94 : decode cX10_rescue 94 = .ok (.goto 4, 3) := by decide +kernel
theorem dX10_rescue_97 : decode cX10_rescue 97 = .ok (.iload_n 1, 1) := by decide +kernel
theorem dX10_rescue_98 : decode cX10_rescue 98 = .ok (.ireturn, 1) := by decide +kernel
theorem dX10_chance_0 : decode cX10_chance 0 = .ok (.iload_n 1, 1) := by decide +kernel
theorem dX10_chance_1 : decode cX10_chance 1 = .ok (.ifCond .lt 21, 3) := by decide +kernel
theorem dX10_chance_4 : decode cX10_chance 4 = .ok (.iload_n 2, 1) := by decide +kernel
theorem dX10_chance_5 : decode cX10_chance 5 = .ok (.iconst 1, 1) := by decide +kernel
theorem dX10_chance_6 : decode cX10_chance 6 = .ok (.bipush 99, 2) := by decide +kernel
theorem dX10_chance_8 : decode cX10_chance 8 = .ok (.invokestatic 173, 3) := by decide +kernel
theorem dX10_chance_11 : decode cX10_chance 11 = .ok (.ifCond .eq 11, 3) := by decide +kernel
theorem dX10_chance_14 : decode cX10_chance 14 = .ok (.aload_n 0, 1) := by decide +kernel
theorem dX10_chance_15 : decode cX10_chance 15 = .ok (.iload_n 3, 1) := by decide +kernel
theorem dX10_chance_16 : decode cX10_chance 16 = .ok (.invokevirtual 122, 3) := by decide +kernel
theorem dX10_chance_19 : decode cX10_chance 19 = .ok (.ifCond .ne 5, 3) := by decide +kernel
theorem dX10_chance_22 : decode cX10_chance 22 = .ok (.iconst (-1), 1) := by decide +kernel
theorem dX10_chance_23 : decode cX10_chance 23 = .ok (.ireturn, 1) := by decide +kernel
theorem dX10_chance_24 : decode cX10_chance 24 = .ok (.iconst 0, 1) := by decide +kernel
theorem dX10_chance_25 : decode cX10_chance 25 = .ok (.istore 4, 2) := by decide +kernel
theorem dX10_chance_27 : decode cX10_chance 27 = .ok (.iload_n 1, 1) := by decide +kernel
theorem dX10_chance_28 : decode cX10_chance 28 = .ok (.istore 5, 2) := by decide +kernel
theorem dX10_chance_30 : decode cX10_chance 30 = .ok (.iconst 0, 1) := by decide +kernel
theorem dX10_chance_31 : decode cX10_chance 31 = .ok (.istore 6, 2) := by decide +kernel
theorem dX10_chance_33 : decode cX10_chance 33 = .ok (.iload 6, 2) := by decide +kernel
theorem dX10_chance_35 : decode cX10_chance 35 = .ok (.bipush 10, 2) := by decide +kernel
theorem dX10_chance_37 : decode cX10_chance 37 = .ok (.if_icmp .ge 60, 3) := by decide +kernel
theorem dX10_chance_40 : decode cX10_chance 40 = .ok (.aload_n 0, 1) := by decide +kernel
theorem dX10_chance_41 : decode cX10_chance 41 = .ok (.invokevirtual 299, 3) := by decide +kernel
theorem dX10_chance_44 : decode cX10_chance 44 = .ok (.aload_n 0, 1) := by decide +kernel
theorem dX10_chance_45 : decode cX10_chance 45 = .ok (.getfield 50, 3) := by decide +kernel
theorem dX10_chance_48 : decode cX10_chance 48 = .ok (.iconst 1, 1) := by decide +kernel
theorem dX10_chance_49 : decode cX10_chance 49 = .ok (.putfield 281, 3) := by decide +kernel
theorem dX10_chance_52 : decode cX10_chance 52 = .ok (.aload_n 0, 1) := by decide +kernel
theorem dX10_chance_53 : decode cX10_chance 53 = .ok (.getfield 41, 3) := by decide +kernel
theorem dX10_chance_56 : decode cX10_chance 56 = .ok (.iload 5, 2) := by decide +kernel
theorem dX10_chance_58 : decode cX10_chance 58 = .ok (.putfield 334, 3) := by decide +kernel
theorem dX10_chance_61 : decode cX10_chance 61 = .ok (.aload_n 0, 1) := by decide +kernel
theorem dX10_chance_62 : decode cX10_chance 62 = .ok (.iload_n 2, 1) := by decide +kernel
theorem dX10_chance_63 : decode cX10_chance 63 = .ok (.iload_n 3, 1) := by decide +kernel
theorem dX10_chance_64 : decode cX10_chance 64 = .ok (.invokevirtual 302, 3) := by decide +kernel
theorem dX10_chance_67 : decode cX10_chance 67 = .ok (.aload_n 0, 1) := by decide +kernel
theorem dX10_chance_68 : decode cX10_chance 68 = .ok (.getfield 41, 3) := by decide +kernel
theorem dX10_chance_71 : decode cX10_chance 71 = .ok (.getfield 334, 3) := by decide +kernel
theorem dX10_chance_74 : decode cX10_chance 74 = .ok (.istore 5, 2) := by decide +kernel
theorem dX10_chance_76 : decode cX10_chance 76 = .ok (.aload_n 0, 1) := by decide +kernel
theorem dX10_chance_77 : decode cX10_chance 77 = .ok (.getfield 41, 3) := by decide +kernel
theorem dX10_chance_80 : decode cX10_chance 80 = .ok (.getfield 149, 3) := by decide +kernel
theorem dX10_chance_83 : decode cX10_chance 83 = .ok (.iload_n 3, 1) := by decide +kernel
theorem dX10_chance_84 : decode cX10_chance 84 = .ok (.baload, 1) := by decide +kernel
theorem dX10_chance_85 : decode cX10_chance 85 = .ok (.ifCond .eq 6, 3) := by decide +kernel
theorem dX10_chance_88 : decode cX10_chance 88 = .ok (.iinc 4 1, 3) := by decide +kernel
theorem dX10_chance_91 : decode cX10_chance 91 = .ok (.iinc 6 1, 3) := by decide +kernel
theorem dX10_chance_94 : decode cX10_chance 94 = .ok (.goto (-61), 3) := by decide +kernel
theorem dX10_chance_97 : decode cX10_chance 97 = .ok (.iload 4, 2) := by decide +kernel
theorem dX10_chance_99 : decode cX10_chance 99 = .ok (.ireturn, 1) := by decide +kernel
theorem dX10_tried_0 : decode cX10_tried 0 = .ok (.iload_n 1, 1) := by decide +kernel
theorem dX10_tried_1 : decode cX10_tried 1 = .ok (.iconst 2, 1) := by decide +kernel
theorem dX10_tried_2 : decode cX10_tried 2 = .ok (.if_icmp .ne 11, 3) := by decide +kernel
theorem dX10_tried_5 : decode cX10_tried 5 = .ok (.aload_n 0, 1) := by decide +kernel
theorem dX10_tried_6 : decode cX10_tried 6 = .ok (.iload_n 2, 1) := by decide +kernel
theorem dX10_tried_7 : decode cX10_tried 7 = .ok (.invokevirtual 122, 3) := by decide +kernel
theorem dX10_tried_10 : decode cX10_tried 10 = .ok (.goto 12, 3) := by decide +kernel
theorem dX10_tried_13 : decode cX10_tried 13 = .ok (.iload_n 2, 1) := by decide +kernel
theorem dX10_tried_14 : decode cX10_tried 14 = .ok (.ifCond .ne 7, 3) := by decide +kernel
theorem dX10_tried_17 : decode cX10_tried 17 = .ok (.iconst 1, 1) := by decide +kernel
theorem dX10_tried_18 : decode cX10_tried 18 = .ok (.goto 4, 3) := by decide +kernel
theorem dX10_tried_21 : decode cX10_tried 21 = .ok (.iconst 0, 1) := by decide +kernel
theorem dX10_tried_22 : decode cX10_tried 22 = .ok (.istore 4, 2) := by decide +kernel
theorem dX10_tried_24 : decode cX10_tried 24 = .ok (.iload_n 1, 1) := by decide +kernel
theorem dX10_tried_25 : decode cX10_tried 25 = .ok (.iconst 0, 1) := by decide +kernel
theorem dX10_tried_26 : decode cX10_tried 26 = .ok (.iconst 4, 1) := by decide +kernel
theorem dX10_tried_27 : decode cX10_tried 27 = .ok (.invokestatic 173, 3) := by decide +kernel
theorem dX10_tried_30 : decode cX10_tried 30 = .ok (.ifCond .eq 19, 3) := by decide +kernel
theorem dX10_tried_33 : decode cX10_tried 33 = .ok (.iload 4, 2) := by decide +kernel
theorem dX10_tried_35 : decode cX10_tried 35 = .ok (.ifCond .eq 14, 3) := by decide +kernel
theorem dX10_tried_38 : decode cX10_tried 38 = .ok (.iload_n 3, 1) := by decide +kernel
theorem dX10_tried_39 : decode cX10_tried 39 = .ok (.iconst 0, 1) := by decide +kernel
theorem dX10_tried_40 : decode cX10_tried 40 = .ok (.sipush 200, 3) := by decide +kernel
theorem dX10_tried_43 : decode cX10_tried 43 = .ok (.invokestatic 173, 3) := by decide +kernel
theorem dX10_tried_46 : decode cX10_tried 46 = .ok (.ifCond .ne 6, 3) := by decide +kernel
theorem dX10_tried_49 : decode cX10_tried 49 = .ok (.ldc 220, 2) := by decide +kernel
theorem dX10_tried_51 : decode cX10_tried 51 = .ok (.ireturn, 1) := by decide +kernel
theorem dX10_tried_52 : decode cX10_tried 52 = .ok (.aload_n 0, 1) := by decide +kernel
theorem dX10_tried_53 : decode cX10_tried 53 = .ok (.invokevirtual 299, 3) := by decide +kernel
theorem dX10_tried_56 : decode cX10_tried 56 = .ok (.iconst 0, 1) := by decide +kernel
theorem dX10_tried_57 : decode cX10_tried 57 = .ok (.istore 5, 2) := by decide +kernel
theorem dX10_tried_59 : decode cX10_tried 59 = .ok (.iload 5, 2) := by decide +kernel
theorem dX10_tried_61 : decode cX10_tried 61 = .ok (.aload_n 0, 1) := by decide +kernel
theorem dX10_tried_62 : decode cX10_tried 62 = .ok (.getfield 18, 3) := by decide +kernel
theorem dX10_tried_65 : decode cX10_tried 65 = .ok (.getfield 203, 3) := by decide +kernel
theorem dX10_tried_68 : decode cX10_tried 68 = .ok (.if_icmp .ge 35, 3) := by decide +kernel
theorem dX10_tried_71 : decode cX10_tried 71 = .ok (.iload_n 1, 1) := by decide +kernel
theorem dX10_tried_72 : decode cX10_tried 72 = .ok (.ifCond .eq 14, 3) := by decide +kernel
theorem dX10_tried_75 : decode cX10_tried 75 = .ok (.iload_n 1, 1) := by decide +kernel
theorem dX10_tried_76 : decode cX10_tried 76 = .ok (.iconst 2, 1) := by decide +kernel
theorem dX10_tried_77 : decode cX10_tried 77 = .ok (.if_icmp .ne 20, 3) := by decide +kernel
theorem dX10_tried_80 : decode cX10_tried 80 = .ok (.iload 5, 2) := by decide +kernel
theorem dX10_tried_82 : decode cX10_tried 82 = .ok (.iload_n 2, 1) := by decide +kernel
theorem dX10_tried_83 : decode cX10_tried 83 = .ok (.if_icmp .ne 14, 3) := by decide +kernel
theorem dX10_tried_86 : decode cX10_tried 86 = .ok (.aload_n 0, 1) := by decide +kernel
theorem dX10_tried_87 : decode cX10_tried 87 = .ok (.getfield 41, 3) := by decide +kernel
theorem dX10_tried_90 : decode cX10_tried 90 = .ok (.getfield 153, 3) := by decide +kernel
theorem dX10_tried_93 : decode cX10_tried 93 = .ok (.iload 5, 2) := by decide +kernel
theorem dX10_tried_95 : decode cX10_tried 95 = .ok (.iconst 1, 1) := by decide +kernel
theorem dX10_tried_96 : decode cX10_tried 96 = .ok (.bastore, 1) := by decide +kernel
theorem dX10_tried_97 : decode cX10_tried 97 = .ok (.iinc 5 1, 3) := by decide +kernel
theorem dX10_tried_100 : decode cX10_tried 100 = .ok (.goto (-41), 3) := by decide +kernel
theorem dX10_tried_103 : decode cX10_tried 103 = .ok (.aload_n 0, 1) := by decide +kernel
theorem dX10_tried_104 : decode cX10_tried 104 = .ok (.getfield 50, 3) := by decide +kernel
theorem dX10_tried_107 : decode cX10_tried 107 = .ok (.iload_n 1, 1) := by decide +kernel
theorem dX10_tried_108 : decode cX10_tried 108 = .ok (.iconst 1, 1) := by decide +kernel
theorem dX10_tried_109 : decode cX10_tried 109 = .ok (.if_icmp .ne 7, 3) := by decide +kernel
theorem dX10_tried_112 : decode cX10_tried 112 = .ok (.iconst 1, 1) := by decide +kernel
theorem dX10_tried_113 : decode cX10_tried 113 = .ok (.goto 4, 3) := by decide +kernel
theorem dX10_tried_116 : decode cX10_tried 116 = .ok (.iconst 0, 1) := by decide +kernel
theorem dX10_tried_117 : decode cX10_tried 117 = .ok (.putfield 337, 3) := by decide +kernel
theorem dX10_tried_120 : decode cX10_tried 120 = .ok (.aload_n 0, 1) := by decide +kernel
theorem dX10_tried_121 : decode cX10_tried 121 = .ok (.getfield 50, 3) := by decide +kernel
theorem dX10_tried_124 : decode cX10_tried 124 = .ok (.iload_n 1, 1) := by decide +kernel
theorem dX10_tried_125 : decode cX10_tried 125 = .ok (.iconst 3, 1) := by decide +kernel
theorem dX10_tried_126 : decode cX10_tried 126 = .ok (.if_icmp .ne 7, 3) := by decide +kernel
theorem dX10_tried_129 : decode cX10_tried 129 = .ok (.iconst 1, 1) := by decide +kernel
theorem dX10_tried_130 : decode cX10_tried 130 = .ok (.goto 4, 3) := by decide +kernel
theorem dX10_tried_133 : decode cX10_tried 133 = .ok (.iconst 0, 1) := by decide +kernel
theorem dX10_tried_134 : decode cX10_tried 134 = .ok (.putfield 340, 3) := by decide +kernel
theorem dX10_tried_137 : decode cX10_tried 137 = .ok (.aload_n 0, 1) := by decide +kernel
theorem dX10_tried_138 : decode cX10_tried 138 = .ok (.getfield 50, 3) := by decide +kernel
theorem dX10_tried_141 : decode cX10_tried 141 = .ok (.iload_n 1, 1) := by decide +kernel
theorem dX10_tried_142 : decode cX10_tried 142 = .ok (.iconst 4, 1) := by decide +kernel
theorem dX10_tried_143 : decode cX10_tried 143 = .ok (.if_icmp .ne 7, 3) := by decide +kernel
theorem dX10_tried_146 : decode cX10_tried 146 = .ok (.iconst 1, 1) := by decide +kernel
theorem dX10_tried_147 : decode cX10_tried 147 = .ok (.goto 4, 3) := by decide +kernel
theorem dX10_tried_150 : decode cX10_tried 150 = .ok (.iconst 0, 1) := by decide +kernel
theorem dX10_tried_151 : decode cX10_tried 151 = .ok (.putfield 343, 3) := by decide +kernel
theorem dX10_tried_154 : decode cX10_tried 154 = .ok (.aload_n 0, 1) := by decide +kernel
theorem dX10_tried_155 : decode cX10_tried 155 = .ok (.iload_n 3, 1) := by decide +kernel
theorem dX10_tried_156 : decode cX10_tried 156 = .ok (.iconst (-1), 1) := by decide +kernel
theorem dX10_tried_157 : decode cX10_tried 157 = .ok (.invokevirtual 302, 3) := by decide +kernel
theorem dX10_tried_160 : decode cX10_tried 160 = .ok (.aload_n 0, 1) := by decide +kernel
theorem dX10_tried_161 : decode cX10_tried 161 = .ok (.getfield 41, 3) := by decide +kernel
theorem dX10_tried_164 : decode cX10_tried 164 = .ok (.getfield 133, 3) := by decide +kernel
theorem dX10_tried_167 : decode cX10_tried 167 = .ok (.invokestatic 247, 3) := by decide +kernel
theorem dX10_tried_170 : decode cX10_tried 170 = .ok (.aload_n 0, 1) := by decide +kernel
theorem dX10_tried_171 : decode cX10_tried 171 = .ok (.getfield 41, 3) := by decide +kernel
theorem dX10_tried_174 : decode cX10_tried 174 = .ok (.getfield 137, 3) := by decide +kernel
theorem dX10_tried_177 : decode cX10_tried 177 = .ok (.invokestatic 247, 3) := by decide +kernel
theorem dX10_tried_180 : decode cX10_tried 180 = .ok (.isub, 1) := by decide +kernel
theorem dX10_tried_181 : decode cX10_tried 181 = .ok (.ireturn, 1) := by decide +kernel
theorem dX10_share_0 : decode cX10_share 0 = .ok (.aload_n 0, 1) := by decide +kernel
theorem dX10_share_1 : decode cX10_share 1 = .ok (.iload_n 1, 1) := by decide +kernel
theorem dX10_share_2 : decode cX10_share 2 = .ok (.invokevirtual 212, 3) := by decide +kernel
theorem dX10_share_5 : decode cX10_share 5 = .ok (.ifCond .eq 29, 3) := by decide +kernel
theorem dX10_share_8 : decode cX10_share 8 = .ok (.aload_n 0, 1) := by decide +kernel
theorem dX10_share_9 : decode cX10_share 9 = .ok (.iload_n 2, 1) := by decide +kernel
theorem dX10_share_10 : decode cX10_share 10 = .ok (.invokevirtual 122, 3) := by decide +kernel
theorem dX10_share_13 : decode cX10_share 13 = .ok (.ifCond .eq 21, 3) := by decide +kernel
theorem dX10_share_16 : decode cX10_share 16 = .ok (.aload_n 0, 1) := by decide +kernel
theorem dX10_share_17 : decode cX10_share 17 = .ok (.iload_n 3, 1) := by decide +kernel
theorem dX10_share_18 : decode cX10_share 18 = .ok (.invokevirtual 161, 3) := by decide +kernel
theorem dX10_share_21 : decode cX10_share 21 = .ok (.ifCond .eq 13, 3) := by decide +kernel
theorem dX10_share_24 : decode cX10_share 24 = .ok (.iload 4, 2) := by decide +kernel
theorem dX10_share_26 : decode cX10_share 26 = .ok (.iconst 0, 1) := by decide +kernel
theorem dX10_share_27 : decode cX10_share 27 = .ok (.iconst 1, 1) := by decide +kernel
theorem dX10_share_28 : decode cX10_share 28 = .ok (.invokestatic 173, 3) := by decide +kernel
theorem dX10_share_31 : decode cX10_share 31 = .ok (.ifCond .ne 5, 3) := by decide +kernel
theorem dX10_share_34 : decode cX10_share 34 = .ok (.iconst (-1), 1) := by decide +kernel
theorem dX10_share_35 : decode cX10_share 35 = .ok (.ireturn, 1) := by decide +kernel
theorem dX10_share_36 : decode cX10_share 36 = .ok (.aload_n 0, 1) := by decide +kernel
theorem dX10_share_37 : decode cX10_share 37 = .ok (.getfield 78, 3) := by decide +kernel
theorem dX10_share_40 : decode cX10_share 40 = .ok (.iload_n 2, 1) := by decide +kernel
theorem dX10_share_41 : decode cX10_share 41 = .ok (.iload_n 1, 1) := by decide +kernel
theorem dX10_share_42 : decode cX10_share 42 = .ok (.invokestatic 227, 3) := by decide +kernel
theorem dX10_share_45 : decode cX10_share 45 = .ok (.ifCond .eq 14, 3) := by decide +kernel
theorem dX10_share_48 : decode cX10_share 48 = .ok (.aload_n 0, 1) := by decide +kernel
theorem dX10_share_49 : decode cX10_share 49 = .ok (.iload_n 1, 1) := by decide +kernel
theorem dX10_share_50 : decode cX10_share 50 = .ok (.iload_n 2, 1) := by decide +kernel
theorem dX10_share_51 : decode cX10_share 51 = .ok (.iload_n 3, 1) := by decide +kernel
theorem dX10_share_52 : decode cX10_share 52 = .ok (.invokevirtual 346, 3) := by decide +kernel
theorem dX10_share_55 : decode cX10_share 55 = .ok (.i2l, 1) := by decide +kernel
theorem dX10_share_56 : decode cX10_share 56 = .ok (.goto 4, 3) := by decide +kernel
theorem dX10_share_59 : decode cX10_share 59 = .ok (.lconst 0, 1) := by decide +kernel
theorem dX10_share_60 : decode cX10_share 60 = .ok (.ldc2_w 350, 3) := by decide +kernel
theorem dX10_share_63 : decode cX10_share 63 = .ok (.invokevirtual 352, 3) := by decide +kernel
theorem dX10_share_66 : decode cX10_share 66 = .ok (.aload_n 0, 1) := by decide +kernel
theorem dX10_share_67 : decode cX10_share 67 = .ok (.getfield 78, 3) := by decide +kernel
theorem dX10_share_70 : decode cX10_share 70 = .ok (.iload 4, 2) := by decide +kernel
theorem dX10_share_72 : decode cX10_share 72 = .ok (.invokevirtual 356, 3) := by decide +kernel
theorem dX10_share_75 : decode cX10_share 75 = .ok (.l2i, 1) := by decide +kernel
theorem dX10_share_76 : decode cX10_share 76 = .ok (.ireturn, 1) := by decide +kernel
theorem dX10_partsOf_0 : decode cX10_partsOf 0 = .ok (.iconst 0, 1) := by decide +kernel
theorem dX10_partsOf_1 : decode cX10_partsOf 1 = .ok (.istore 4, 2) := by decide +kernel
theorem dX10_partsOf_3 : decode cX10_partsOf 3 = .ok (.aload_n 0, 1) := by decide +kernel
theorem dX10_partsOf_4 : decode cX10_partsOf 4 = .ok (.getfield 18, 3) := by decide +kernel
theorem dX10_partsOf_7 : decode cX10_partsOf 7 = .ok (.iload_n 2, 1) := by decide +kernel
theorem dX10_partsOf_8 : decode cX10_partsOf 8 = .ok (.iload_n 3, 1) := by decide +kernel
theorem dX10_partsOf_9 : decode cX10_partsOf 9 = .ok (.invokevirtual 360, 3) := by decide +kernel
theorem dX10_partsOf_12 : decode cX10_partsOf 12 = .ok (.istore 5, 2) := by decide +kernel
theorem dX10_partsOf_14 : decode cX10_partsOf 14 = .ok (.iconst 1, 1) := by decide +kernel
theorem dX10_partsOf_15 : decode cX10_partsOf 15 = .ok (.istore 6, 2) := by decide +kernel
theorem dX10_partsOf_17 : decode cX10_partsOf 17 = .ok (.iload 6, 2) := by decide +kernel
theorem dX10_partsOf_19 : decode cX10_partsOf 19 = .ok (.iload 5, 2) := by decide +kernel
theorem dX10_partsOf_21 : decode cX10_partsOf 21 = .ok (.if_icmp .gt 75, 3) := by decide +kernel
theorem dX10_partsOf_24 : decode cX10_partsOf 24 = .ok (.iconst 0, 1) := by decide +kernel
theorem dX10_partsOf_25 : decode cX10_partsOf 25 = .ok (.istore 7, 2) := by decide +kernel
theorem dX10_partsOf_27 : decode cX10_partsOf 27 = .ok (.iconst 0, 1) := by decide +kernel
theorem dX10_partsOf_28 : decode cX10_partsOf 28 = .ok (.istore 8, 2) := by decide +kernel
theorem dX10_partsOf_30 : decode cX10_partsOf 30 = .ok (.iload 8, 2) := by decide +kernel
theorem dX10_partsOf_32 : decode cX10_partsOf 32 = .ok (.aload_n 0, 1) := by decide +kernel
theorem dX10_partsOf_33 : decode cX10_partsOf 33 = .ok (.getfield 18, 3) := by decide +kernel
theorem dX10_partsOf_36 : decode cX10_partsOf 36 = .ok (.getfield 203, 3) := by decide +kernel
theorem dX10_partsOf_39 : decode cX10_partsOf 39 = .ok (.if_icmp .ge 36, 3) := by decide +kernel
theorem dX10_partsOf_42 : decode cX10_partsOf 42 = .ok (.iload 8, 2) := by decide +kernel
theorem dX10_partsOf_44 : decode cX10_partsOf 44 = .ok (.iload_n 1, 1) := by decide +kernel
theorem dX10_partsOf_45 : decode cX10_partsOf 45 = .ok (.invokestatic 227, 3) := by decide +kernel
theorem dX10_partsOf_48 : decode cX10_partsOf 48 = .ok (.ifCond .eq 21, 3) := by decide +kernel
theorem dX10_partsOf_51 : decode cX10_partsOf 51 = .ok (.aload_n 0, 1) := by decide +kernel
theorem dX10_partsOf_52 : decode cX10_partsOf 52 = .ok (.getfield 18, 3) := by decide +kernel
theorem dX10_partsOf_55 : decode cX10_partsOf 55 = .ok (.iload 8, 2) := by decide +kernel
theorem dX10_partsOf_57 : decode cX10_partsOf 57 = .ok (.iload_n 3, 1) := by decide +kernel
theorem dX10_partsOf_58 : decode cX10_partsOf 58 = .ok (.invokevirtual 360, 3) := by decide +kernel
theorem dX10_partsOf_61 : decode cX10_partsOf 61 = .ok (.iload 6, 2) := by decide +kernel
theorem dX10_partsOf_63 : decode cX10_partsOf 63 = .ok (.if_icmp .lt 6, 3) := by decide +kernel
theorem dX10_partsOf_66 : decode cX10_partsOf 66 = .ok (.iinc 7 1, 3) := by decide +kernel
theorem dX10_partsOf_69 : decode cX10_partsOf 69 = .ok (.iinc 8 1, 3) := by decide +kernel
theorem dX10_partsOf_72 : decode cX10_partsOf 72 = .ok (.goto (-42), 3) := by decide +kernel
theorem dX10_partsOf_75 : decode cX10_partsOf 75 = .ok (.iload 7, 2) := by decide +kernel
theorem dX10_partsOf_77 : decode cX10_partsOf 77 = .ok (.ifCond .le 13, 3) := by decide +kernel
theorem dX10_partsOf_80 : decode cX10_partsOf 80 = .ok (.iload 4, 2) := by decide +kernel
theorem dX10_partsOf_82 : decode cX10_partsOf 82 = .ok (.bipush 60, 2) := by decide +kernel
theorem dX10_partsOf_84 : decode cX10_partsOf 84 = .ok (.iload 7, 2) := by decide +kernel
theorem dX10_partsOf_86 : decode cX10_partsOf 86 = .ok (.idiv, 1) := by decide +kernel
theorem dX10_partsOf_87 : decode cX10_partsOf 87 = .ok (.iadd, 1) := by decide +kernel
theorem dX10_partsOf_88 : decode cX10_partsOf 88 = .ok (.istore 4, 2) := by decide +kernel
theorem dX10_partsOf_90 : decode cX10_partsOf 90 = .ok (.iinc 6 1, 3) := by decide +kernel
theorem dX10_partsOf_93 : decode cX10_partsOf 93 = .ok (.goto (-76), 3) := by decide +kernel
theorem dX10_partsOf_96 : decode cX10_partsOf 96 = .ok (.iload 4, 2) := by decide +kernel
theorem dX10_partsOf_98 : decode cX10_partsOf 98 = .ok (.ireturn, 1) := by decide +kernel
theorem dX10_leave_0 : decode cX10_leave 0 = .ok (.iload_n 1, 1) := by decide +kernel
theorem dX10_leave_1 : decode cX10_leave 1 = .ok (.iconst 1, 1) := by decide +kernel
theorem dX10_leave_2 : decode cX10_leave 2 = .ok (.if_icmp .lt 19, 3) := by decide +kernel
theorem dX10_leave_5 : decode cX10_leave 5 = .ok (.aload_n 0, 1) := by decide +kernel
theorem dX10_leave_6 : decode cX10_leave 6 = .ok (.iload_n 1, 1) := by decide +kernel
theorem dX10_leave_7 : decode cX10_leave 7 = .ok (.invokevirtual 212, 3) := by decide +kernel
theorem dX10_leave_10 : decode cX10_leave 10 = .ok (.ifCond .eq 11, 3) := by decide +kernel
theorem dX10_leave_13 : decode cX10_leave 13 = .ok (.aload_n 0, 1) := by decide +kernel
theorem dX10_leave_14 : decode cX10_leave 14 = .ok (.iload_n 2, 1) := by decide +kernel
theorem dX10_leave_15 : decode cX10_leave 15 = .ok (.invokevirtual 161, 3) := by decide +kernel
theorem dX10_leave_18 : decode cX10_leave 18 = .ok (.ifCond .ne 5, 3) := by decide +kernel
theorem dX10_leave_21 : decode cX10_leave 21 = .ok (.iconst (-1), 1) := by decide +kernel
theorem dX10_leave_22 : decode cX10_leave 22 = .ok (.ireturn, 1) := by decide +kernel
theorem dX10_leave_23 : decode cX10_leave 23 = .ok (.iload_n 1, 1) := by decide +kernel
theorem dX10_leave_24 : decode cX10_leave 24 = .ok (.invokestatic 221, 3) := by decide +kernel
theorem dX10_leave_27 : decode cX10_leave 27 = .ok (.istore_n 3, 1) := by decide +kernel
theorem dX10_leave_28 : decode cX10_leave 28 = .ok (.aload_n 0, 1) := by decide +kernel
theorem dX10_leave_29 : decode cX10_leave 29 = .ok (.iload_n 1, 1) := by decide +kernel
theorem dX10_leave_30 : decode cX10_leave 30 = .ok (.iload_n 2, 1) := by decide +kernel
theorem dX10_leave_31 : decode cX10_leave 31 = .ok (.invokevirtual 363, 3) := by decide +kernel
theorem dX10_leave_34 : decode cX10_leave 34 = .ok (.istore 4, 2) := by decide +kernel
theorem dX10_leave_36 : decode cX10_leave 36 = .ok (.iconst 1, 1) := by decide +kernel
theorem dX10_leave_37 : decode cX10_leave 37 = .ok (.istore 5, 2) := by decide +kernel
theorem dX10_leave_39 : decode cX10_leave 39 = .ok (.iload 5, 2) := by decide +kernel
theorem dX10_leave_41 : decode cX10_leave 41 = .ok (.iload_n 1, 1) := by decide +kernel
theorem dX10_leave_42 : decode cX10_leave 42 = .ok (.if_icmp .gt 53, 3) := by decide +kernel
theorem dX10_leave_45 : decode cX10_leave 45 = .ok (.iload 5, 2) := by decide +kernel
theorem dX10_leave_47 : decode cX10_leave 47 = .ok (.iload_n 1, 1) := by decide +kernel
theorem dX10_leave_48 : decode cX10_leave 48 = .ok (.iand, 1) := by decide +kernel
theorem dX10_leave_49 : decode cX10_leave 49 = .ok (.iload 5, 2) := by decide +kernel
theorem dX10_leave_51 : decode cX10_leave 51 = .ok (.if_icmp .ne 7, 3) := by decide +kernel
theorem dX10_leave_54 : decode cX10_leave 54 = .ok (.iconst 1, 1) := by decide +kernel
theorem dX10_leave_55 : decode cX10_leave 55 = .ok (.goto 4, 3) := by decide +kernel
theorem dX10_leave_58 : decode cX10_leave 58 = .ok (.iconst 0, 1) := by decide +kernel
theorem dX10_leave_59 : decode cX10_leave 59 = .ok (.istore 6, 2) := by decide +kernel
theorem dX10_leave_61 : decode cX10_leave 61 = .ok (.iload 6, 2) := by decide +kernel
theorem dX10_leave_63 : decode cX10_leave 63 = .ok (.ifCond .eq 26, 3) := by decide +kernel
theorem dX10_leave_66 : decode cX10_leave 66 = .ok (.aload_n 0, 1) := by decide +kernel
theorem dX10_leave_67 : decode cX10_leave 67 = .ok (.iload 5, 2) := by decide +kernel
theorem dX10_leave_69 : decode cX10_leave 69 = .ok (.iload_n 2, 1) := by decide +kernel
theorem dX10_leave_70 : decode cX10_leave 70 = .ok (.invokevirtual 363, 3) := by decide +kernel
theorem dX10_leave_73 : decode cX10_leave 73 = .ok (.iload_n 3, 1) := by decide +kernel
theorem dX10_leave_74 : decode cX10_leave 74 = .ok (.imul, 1) := by decide +kernel
theorem dX10_leave_75 : decode cX10_leave 75 = .ok (.iload 5, 2) := by decide +kernel
theorem dX10_leave_77 : decode cX10_leave 77 = .ok (.invokestatic 221, 3) := by decide +kernel
theorem dX10_leave_80 : decode cX10_leave 80 = .ok (.iload 4, 2) := by decide +kernel
theorem dX10_leave_82 : decode cX10_leave 82 = .ok (.imul, 1) := by decide +kernel
theorem dX10_leave_83 : decode cX10_leave 83 = .ok (.if_icmp .ge 6, 3) := by decide +kernel
theorem dX10_leave_86 : decode cX10_leave 86 = .ok (.iload 5, 2) := by decide +kernel
theorem dX10_leave_88 : decode cX10_leave 88 = .ok (.ireturn, 1) := by decide +kernel
theorem dX10_leave_89 : decode cX10_leave 89 = .ok (.iinc 5 1, 3) := by decide +kernel
theorem dX10_leave_92 : decode cX10_leave 92 = .ok (.goto (-53), 3) := by decide +kernel
theorem dX10_leave_95 : decode cX10_leave 95 = .ok (.bipush (-2), 2) := by decide +kernel
theorem dX10_leave_97 : decode cX10_leave 97 = .ok (.ireturn, 1) := by decide +kernel
theorem dX10_mostOf_0 : decode cX10_mostOf 0 = .ok (.iconst 0, 1) := by decide +kernel
theorem dX10_mostOf_1 : decode cX10_mostOf 1 = .ok (.istore_n 3, 1) := by decide +kernel
theorem dX10_mostOf_2 : decode cX10_mostOf 2 = .ok (.iconst 0, 1) := by decide +kernel
theorem dX10_mostOf_3 : decode cX10_mostOf 3 = .ok (.istore 4, 2) := by decide +kernel
theorem dX10_mostOf_5 : decode cX10_mostOf 5 = .ok (.iload 4, 2) := by decide +kernel
theorem dX10_mostOf_7 : decode cX10_mostOf 7 = .ok (.aload_n 0, 1) := by decide +kernel
theorem dX10_mostOf_8 : decode cX10_mostOf 8 = .ok (.getfield 18, 3) := by decide +kernel
theorem dX10_mostOf_11 : decode cX10_mostOf 11 = .ok (.getfield 203, 3) := by decide +kernel
theorem dX10_mostOf_14 : decode cX10_mostOf 14 = .ok (.if_icmp .ge 33, 3) := by decide +kernel
theorem dX10_mostOf_17 : decode cX10_mostOf 17 = .ok (.iload 4, 2) := by decide +kernel
theorem dX10_mostOf_19 : decode cX10_mostOf 19 = .ok (.iload_n 1, 1) := by decide +kernel
theorem dX10_mostOf_20 : decode cX10_mostOf 20 = .ok (.invokestatic 227, 3) := by decide +kernel
theorem dX10_mostOf_23 : decode cX10_mostOf 23 = .ok (.ifCond .eq 18, 3) := by decide +kernel
theorem dX10_mostOf_26 : decode cX10_mostOf 26 = .ok (.iload_n 3, 1) := by decide +kernel
theorem dX10_mostOf_27 : decode cX10_mostOf 27 = .ok (.aload_n 0, 1) := by decide +kernel
theorem dX10_mostOf_28 : decode cX10_mostOf 28 = .ok (.getfield 18, 3) := by decide +kernel
theorem dX10_mostOf_31 : decode cX10_mostOf 31 = .ok (.iload 4, 2) := by decide +kernel
theorem dX10_mostOf_33 : decode cX10_mostOf 33 = .ok (.iload_n 2, 1) := by decide +kernel
theorem dX10_mostOf_34 : decode cX10_mostOf 34 = .ok (.invokevirtual 360, 3) := by decide +kernel
theorem dX10_mostOf_37 : decode cX10_mostOf 37 = .ok (.invokestatic 366, 3) := by decide +kernel
theorem dX10_mostOf_40 : decode cX10_mostOf 40 = .ok (.istore_n 3, 1) := by decide +kernel
theorem dX10_mostOf_41 : decode cX10_mostOf 41 = .ok (.iinc 4 1, 3) := by decide +kernel
theorem dX10_mostOf_44 : decode cX10_mostOf 44 = .ok (.goto (-39), 3) := by decide +kernel
theorem dX10_mostOf_47 : decode cX10_mostOf 47 = .ok (.iload_n 3, 1) := by decide +kernel
theorem dX10_mostOf_48 : decode cX10_mostOf 48 = .ok (.ireturn, 1) := by decide +kernel
theorem dX10_waits_0 : decode cX10_waits 0 = .ok (.iload_n 1, 1) := by decide +kernel
theorem dX10_waits_1 : decode cX10_waits 1 = .ok (.iconst 0, 1) := by decide +kernel
theorem dX10_waits_2 : decode cX10_waits 2 = .ok (.bipush 6, 2) := by decide +kernel
theorem dX10_waits_4 : decode cX10_waits 4 = .ok (.invokestatic 173, 3) := by decide +kernel
theorem dX10_waits_7 : decode cX10_waits 7 = .ok (.ifCond .eq 12, 3) := by decide +kernel
theorem dX10_waits_10 : decode cX10_waits 10 = .ok (.iload_n 2, 1) := by decide +kernel
theorem dX10_waits_11 : decode cX10_waits 11 = .ok (.iconst 0, 1) := by decide +kernel
theorem dX10_waits_12 : decode cX10_waits 12 = .ok (.iconst 1, 1) := by decide +kernel
theorem dX10_waits_13 : decode cX10_waits 13 = .ok (.invokestatic 173, 3) := by decide +kernel
theorem dX10_waits_16 : decode cX10_waits 16 = .ok (.ifCond .ne 7, 3) := by decide +kernel
theorem dX10_waits_19 : decode cX10_waits 19 = .ok (.ldc2_w 369, 3) := by decide +kernel
theorem dX10_waits_22 : decode cX10_waits 22 = .ok (.lreturn, 1) := by decide +kernel
theorem dX10_waits_23 : decode cX10_waits 23 = .ok (.aload_n 0, 1) := by decide +kernel
theorem dX10_waits_24 : decode cX10_waits 24 = .ok (.getfield 78, 3) := by decide +kernel
theorem dX10_waits_27 : decode cX10_waits 27 = .ok (.lconst 0, 1) := by decide +kernel
theorem dX10_waits_28 : decode cX10_waits 28 = .ok (.lconst 1, 1) := by decide +kernel
theorem dX10_waits_29 : decode cX10_waits 29 = .ok (.invokevirtual 352, 3) := by decide +kernel
theorem dX10_waits_32 : decode cX10_waits 32 = .ok (.iconst 0, 1) := by decide +kernel
theorem dX10_waits_33 : decode cX10_waits 33 = .ok (.istore_n 3, 1) := by decide +kernel
theorem dX10_waits_34 : decode cX10_waits 34 = .ok (.iload_n 3, 1) := by decide +kernel
theorem dX10_waits_35 : decode cX10_waits 35 = .ok (.iload_n 1, 1) := by decide +kernel
theorem dX10_waits_36 : decode cX10_waits 36 = .ok (.if_icmp .ge 50, 3) := by decide +kernel
theorem dX10_waits_39 : decode cX10_waits 39 = .ok (.aload_n 0, 1) := by decide +kernel
theorem dX10_waits_40 : decode cX10_waits 40 = .ok (.getfield 18, 3) := by decide +kernel
theorem dX10_waits_43 : decode cX10_waits 43 = .ok (.getfield 371, 3) := by decide +kernel
theorem dX10_waits_46 : decode cX10_waits 46 = .ok (.ifCond .le 40, 3) := by decide +kernel
theorem dX10_waits_49 : decode cX10_waits 49 = .ok (.aload_n 0, 1) := by decide +kernel
theorem dX10_waits_50 : decode cX10_waits 50 = .ok (.getfield 78, 3) := by decide +kernel
theorem dX10_waits_53 : decode cX10_waits 53 = .ok (.aload_n 0, 1) := by decide +kernel
theorem dX10_waits_54 : decode cX10_waits 54 = .ok (.aload_n 0, 1) := by decide +kernel
theorem dX10_waits_55 : decode cX10_waits 55 = .ok (.getfield 78, 3) := by decide +kernel
theorem dX10_waits_58 : decode cX10_waits 58 = .ok (.invokevirtual 374, 3) := by decide +kernel
theorem dX10_waits_61 : decode cX10_waits 61 = .ok (.aload_n 0, 1) := by decide +kernel
theorem dX10_waits_62 : decode cX10_waits 62 = .ok (.getfield 78, 3) := by decide +kernel
theorem dX10_waits_65 : decode cX10_waits 65 = .ok (.getfield 378, 3) := by decide +kernel
theorem dX10_waits_68 : decode cX10_waits 68 = .ok (.aload_n 0, 1) := by decide +kernel
theorem dX10_waits_69 : decode cX10_waits 69 = .ok (.getfield 18, 3) := by decide +kernel
theorem dX10_waits_72 : decode cX10_waits 72 = .ok (.getfield 371, 3) := by decide +kernel
theorem dX10_waits_75 : decode cX10_waits 75 = .ok (.i2l, 1) := by decide +kernel
theorem dX10_waits_76 : decode cX10_waits 76 = .ok (.lmul, 1) := by decide +kernel
theorem dX10_waits_77 : decode cX10_waits 77 = .ok (.invokevirtual 352, 3) := by decide +kernel
theorem dX10_waits_80 : decode cX10_waits 80 = .ok (.iinc 3 1, 3) := by decide +kernel
theorem dX10_waits_83 : decode cX10_waits 83 = .ok (.goto (-49), 3) := by decide +kernel
theorem dX10_waits_86 : decode cX10_waits 86 = .ok (.aload_n 0, 1) := by decide +kernel
theorem dX10_waits_87 : decode cX10_waits 87 = .ok (.getfield 78, 3) := by decide +kernel
theorem dX10_waits_90 : decode cX10_waits 90 = .ok (.iload_n 2, 1) := by decide +kernel
theorem dX10_waits_91 : decode cX10_waits 91 = .ok (.invokevirtual 356, 3) := by decide +kernel
theorem dX10_waits_94 : decode cX10_waits 94 = .ok (.lreturn, 1) := by decide +kernel
theorem dX10_sumOfBetter_0 : decode cX10_sumOfBetter 0 = .ok (.lconst 0, 1) := by decide +kernel
theorem dX10_sumOfBetter_1 : decode cX10_sumOfBetter 1 = .ok (.lstore_n 2, 1) := by decide +kernel
theorem dX10_sumOfBetter_2 : decode cX10_sumOfBetter 2 = .ok (.iconst 0, 1) := by decide +kernel
theorem dX10_sumOfBetter_3 : decode cX10_sumOfBetter 3 = .ok (.istore 4, 2) := by decide +kernel
theorem dX10_sumOfBetter_5 : decode cX10_sumOfBetter 5 = .ok (.iload 4, 2) := by decide +kernel
theorem dX10_sumOfBetter_7 : decode cX10_sumOfBetter 7 = .ok (.aload_n 0, 1) := by decide +kernel
theorem dX10_sumOfBetter_8 : decode cX10_sumOfBetter 8 = .ok (.getfield 18, 3) := by decide +kernel
theorem dX10_sumOfBetter_11 : decode cX10_sumOfBetter 11 = .ok (.getfield 209, 3) := by decide +kernel
theorem dX10_sumOfBetter_14 : decode cX10_sumOfBetter 14 = .ok (.if_icmp .ge 47, 3) := by decide +kernel
theorem dX10_sumOfBetter_17 : decode cX10_sumOfBetter 17 = .ok (.lload_n 2, 1) := by decide +kernel
theorem dX10_sumOfBetter_18 : decode cX10_sumOfBetter 18 = .ok (.aload_n 0, 1) := by decide +kernel
theorem dX10_sumOfBetter_19 : decode cX10_sumOfBetter 19 = .ok (.getfield 18, 3) := by decide +kernel
theorem dX10_sumOfBetter_22 : decode cX10_sumOfBetter 22 = .ok (.getfield 167, 3) := by decide +kernel
theorem dX10_sumOfBetter_25 : decode cX10_sumOfBetter 25 = .ok (.iload 4, 2) := by decide +kernel
theorem dX10_sumOfBetter_27 : decode cX10_sumOfBetter 27 = .ok (.iaload, 1) := by decide +kernel
theorem dX10_sumOfBetter_28 : decode cX10_sumOfBetter 28 = .ok (.i2l, 1) := by decide +kernel
theorem dX10_sumOfBetter_29 : decode cX10_sumOfBetter 29 = .ok (.aload_n 0, 1) := by decide +kernel
theorem dX10_sumOfBetter_30 : decode cX10_sumOfBetter 30 = .ok (.getfield 18, 3) := by decide +kernel
theorem dX10_sumOfBetter_33 : decode cX10_sumOfBetter 33 = .ok (.getfield 164, 3) := by decide +kernel
theorem dX10_sumOfBetter_36 : decode cX10_sumOfBetter 36 = .ok (.iload 4, 2) := by decide +kernel
theorem dX10_sumOfBetter_38 : decode cX10_sumOfBetter 38 = .ok (.iaload, 1) := by decide +kernel
theorem dX10_sumOfBetter_39 : decode cX10_sumOfBetter 39 = .ok (.i2l, 1) := by decide +kernel
theorem dX10_sumOfBetter_40 : decode cX10_sumOfBetter 40 = .ok (.aload_n 1, 1) := by decide +kernel
theorem dX10_sumOfBetter_41 : decode cX10_sumOfBetter 41 = .ok (.getfield 378, 3) := by decide +kernel
theorem dX10_sumOfBetter_44 : decode cX10_sumOfBetter 44 = .ok (.lmul, 1) := by decide +kernel
theorem dX10_sumOfBetter_45 : decode cX10_sumOfBetter 45 = .ok (.aload_n 1, 1) := by decide +kernel
theorem dX10_sumOfBetter_46 : decode cX10_sumOfBetter 46 = .ok (.getfield 382, 3) := by decide +kernel
theorem dX10_sumOfBetter_49 : decode cX10_sumOfBetter 49 = .ok (.invokestatic 385, 3) := by decide +kernel
theorem dX10_sumOfBetter_52 : decode cX10_sumOfBetter 52 = .ok (.lmul, 1) := by decide +kernel
theorem dX10_sumOfBetter_53 : decode cX10_sumOfBetter 53 = .ok (.ladd, 1) := by decide +kernel
theorem dX10_sumOfBetter_54 : decode cX10_sumOfBetter 54 = .ok (.lstore_n 2, 1) := by decide +kernel
theorem dX10_sumOfBetter_55 : decode cX10_sumOfBetter 55 = .ok (.iinc 4 1, 3) := by decide +kernel
theorem dX10_sumOfBetter_58 : decode cX10_sumOfBetter 58 = .ok (.goto (-53), 3) := by decide +kernel
theorem dX10_sumOfBetter_61 : decode cX10_sumOfBetter 61 = .ok (.lload_n 2, 1) := by decide +kernel
theorem dX10_sumOfBetter_62 : decode cX10_sumOfBetter 62 = .ok (.lreturn, 1) := by decide +kernel
theorem dX10_came_0 : decode cX10_came 0 = .ok (.aload_n 0, 1) := by decide +kernel
theorem dX10_came_1 : decode cX10_came 1 = .ok (.iload_n 1, 1) := by decide +kernel
theorem dX10_came_2 : decode cX10_came 2 = .ok (.invokevirtual 122, 3) := by decide +kernel
theorem dX10_came_5 : decode cX10_came 5 = .ok (.ifCond .eq 23, 3) := by decide +kernel
theorem dX10_came_8 : decode cX10_came 8 = .ok (.iload_n 2, 1) := by decide +kernel
theorem dX10_came_9 : decode cX10_came 9 = .ok (.iconst 0, 1) := by decide +kernel
theorem dX10_came_10 : decode cX10_came 10 = .ok (.iconst 5, 1) := by decide +kernel
theorem dX10_came_11 : decode cX10_came 11 = .ok (.invokestatic 173, 3) := by decide +kernel
theorem dX10_came_14 : decode cX10_came 14 = .ok (.ifCond .eq 14, 3) := by decide +kernel
theorem dX10_came_17 : decode cX10_came 17 = .ok (.iload_n 3, 1) := by decide +kernel
theorem dX10_came_18 : decode cX10_came 18 = .ok (.iconst 0, 1) := by decide +kernel
theorem dX10_came_19 : decode cX10_came 19 = .ok (.sipush 9999, 3) := by decide +kernel
theorem dX10_came_22 : decode cX10_came 22 = .ok (.invokestatic 173, 3) := by decide +kernel
theorem dX10_came_25 : decode cX10_came 25 = .ok (.ifCond .ne 5, 3) := by decide +kernel
theorem dX10_came_28 : decode cX10_came 28 = .ok (.iconst (-1), 1) := by decide +kernel
theorem dX10_came_29 : decode cX10_came 29 = .ok (.ireturn, 1) := by decide +kernel
theorem dX10_came_30 : decode cX10_came 30 = .ok (.aload_n 0, 1) := by decide +kernel
theorem dX10_came_31 : decode cX10_came 31 = .ok (.getfield 18, 3) := by decide +kernel
theorem dX10_came_34 : decode cX10_came 34 = .ok (.getfield 209, 3) := by decide +kernel
theorem dX10_came_37 : decode cX10_came 37 = .ok (.iload_n 2, 1) := by decide +kernel
theorem dX10_came_38 : decode cX10_came 38 = .ok (.invokestatic 388, 3) := by decide +kernel
theorem dX10_came_41 : decode cX10_came 41 = .ok (.l2i, 1) := by decide +kernel
theorem dX10_came_42 : decode cX10_came 42 = .ok (.istore 4, 2) := by decide +kernel
theorem dX10_came_44 : decode cX10_came 44 = .ok (.iconst 0, 1) := by decide +kernel
theorem dX10_came_45 : decode cX10_came 45 = .ok (.istore 5, 2) := by decide +kernel
theorem dX10_came_47 : decode cX10_came 47 = .ok (.iconst 0, 1) := by decide +kernel
theorem dX10_came_48 : decode cX10_came 48 = .ok (.istore 6, 2) := by decide +kernel
theorem dX10_came_50 : decode cX10_came 50 = .ok (.iload 6, 2) := by decide +kernel
theorem dX10_came_52 : decode cX10_came 52 = .ok (.iload 4, 2) := by decide +kernel
theorem dX10_came_54 : decode cX10_came 54 = .ok (.if_icmp .ge 24, 3) := by decide +kernel
theorem dX10_came_57 : decode cX10_came 57 = .ok (.aload_n 0, 1) := by decide +kernel
theorem dX10_came_58 : decode cX10_came 58 = .ok (.iload 6, 2) := by decide +kernel
theorem dX10_came_60 : decode cX10_came 60 = .ok (.iload_n 2, 1) := by decide +kernel
theorem dX10_came_61 : decode cX10_came 61 = .ok (.iload_n 1, 1) := by decide +kernel
theorem dX10_came_62 : decode cX10_came 62 = .ok (.invokevirtual 392, 3) := by decide +kernel
theorem dX10_came_65 : decode cX10_came 65 = .ok (.iload_n 3, 1) := by decide +kernel
theorem dX10_came_66 : decode cX10_came 66 = .ok (.if_icmp .ne 6, 3) := by decide +kernel
theorem dX10_came_69 : decode cX10_came 69 = .ok (.iinc 5 1, 3) := by decide +kernel
theorem dX10_came_72 : decode cX10_came 72 = .ok (.iinc 6 1, 3) := by decide +kernel
theorem dX10_came_75 : decode cX10_came 75 = .ok (.goto (-25), 3) := by decide +kernel
theorem dX10_came_78 : decode cX10_came 78 = .ok (.iload 5, 2) := by decide +kernel
theorem dX10_came_80 : decode cX10_came 80 = .ok (.ireturn, 1) := by decide +kernel
theorem dX10_sumOfKinds_0 : decode cX10_sumOfKinds 0 = .ok (.iconst 0, 1) := by decide +kernel
theorem dX10_sumOfKinds_1 : decode cX10_sumOfKinds 1 = .ok (.istore 4, 2) := by decide +kernel
theorem dX10_sumOfKinds_3 : decode cX10_sumOfKinds 3 = .ok (.iload_n 1, 1) := by decide +kernel
theorem dX10_sumOfKinds_4 : decode cX10_sumOfKinds 4 = .ok (.istore 5, 2) := by decide +kernel
theorem dX10_sumOfKinds_6 : decode cX10_sumOfKinds 6 = .ok (.iconst 0, 1) := by decide +kernel
theorem dX10_sumOfKinds_7 : decode cX10_sumOfKinds 7 = .ok (.istore 6, 2) := by decide +kernel
theorem dX10_sumOfKinds_9 : decode cX10_sumOfKinds 9 = .ok (.iload 6, 2) := by decide +kernel
theorem dX10_sumOfKinds_11 : decode cX10_sumOfKinds 11 = .ok (.iload_n 2, 1) := by decide +kernel
theorem dX10_sumOfKinds_12 : decode cX10_sumOfKinds 12 = .ok (.if_icmp .ge 54, 3) := by decide +kernel
theorem dX10_sumOfKinds_15 : decode cX10_sumOfKinds 15 = .ok (.aload_n 0, 1) := by decide +kernel
theorem dX10_sumOfKinds_16 : decode cX10_sumOfKinds 16 = .ok (.getfield 18, 3) := by decide +kernel
theorem dX10_sumOfKinds_19 : decode cX10_sumOfKinds 19 = .ok (.getfield 209, 3) := by decide +kernel
theorem dX10_sumOfKinds_22 : decode cX10_sumOfKinds 22 = .ok (.ifCond .le 44, 3) := by decide +kernel
theorem dX10_sumOfKinds_25 : decode cX10_sumOfKinds 25 = .ok (.iload 4, 2) := by decide +kernel
theorem dX10_sumOfKinds_27 : decode cX10_sumOfKinds 27 = .ok (.aload_n 0, 1) := by decide +kernel
theorem dX10_sumOfKinds_28 : decode cX10_sumOfKinds 28 = .ok (.getfield 18, 3) := by decide +kernel
theorem dX10_sumOfKinds_31 : decode cX10_sumOfKinds 31 = .ok (.iload_n 3, 1) := by decide +kernel
theorem dX10_sumOfKinds_32 : decode cX10_sumOfKinds 32 = .ok (.iload 5, 2) := by decide +kernel
theorem dX10_sumOfKinds_34 : decode cX10_sumOfKinds 34 = .ok (.aload_n 0, 1) := by decide +kernel
theorem dX10_sumOfKinds_35 : decode cX10_sumOfKinds 35 = .ok (.getfield 18, 3) := by decide +kernel
theorem dX10_sumOfKinds_38 : decode cX10_sumOfKinds 38 = .ok (.getfield 209, 3) := by decide +kernel
theorem dX10_sumOfKinds_41 : decode cX10_sumOfKinds 41 = .ok (.irem, 1) := by decide +kernel
theorem dX10_sumOfKinds_42 : decode cX10_sumOfKinds 42 = .ok (.invokevirtual 360, 3) := by decide +kernel
theorem dX10_sumOfKinds_45 : decode cX10_sumOfKinds 45 = .ok (.iadd, 1) := by decide +kernel
theorem dX10_sumOfKinds_46 : decode cX10_sumOfKinds 46 = .ok (.istore 4, 2) := by decide +kernel
theorem dX10_sumOfKinds_48 : decode cX10_sumOfKinds 48 = .ok (.iload 5, 2) := by decide +kernel
theorem dX10_sumOfKinds_50 : decode cX10_sumOfKinds 50 = .ok (.aload_n 0, 1) := by decide +kernel
theorem dX10_sumOfKinds_51 : decode cX10_sumOfKinds 51 = .ok (.getfield 18, 3) := by decide +kernel
theorem dX10_sumOfKinds_54 : decode cX10_sumOfKinds 54 = .ok (.getfield 209, 3) := by decide +kernel
theorem dX10_sumOfKinds_57 : decode cX10_sumOfKinds 57 = .ok (.idiv, 1) := by decide +kernel
theorem dX10_sumOfKinds_58 : decode cX10_sumOfKinds 58 = .ok (.istore 5, 2) := by decide +kernel
theorem dX10_sumOfKinds_60 : decode cX10_sumOfKinds 60 = .ok (.iinc 6 1, 3) := by decide +kernel
theorem dX10_sumOfKinds_63 : decode cX10_sumOfKinds 63 = .ok (.goto (-54), 3) := by decide +kernel
theorem dX10_sumOfKinds_66 : decode cX10_sumOfKinds 66 = .ok (.iload 4, 2) := by decide +kernel
theorem dX10_sumOfKinds_68 : decode cX10_sumOfKinds 68 = .ok (.ireturn, 1) := by decide +kernel
theorem dX10_likely_0 : decode cX10_likely 0 = .ok (.aload_n 0, 1) := by decide +kernel
theorem dX10_likely_1 : decode cX10_likely 1 = .ok (.iload_n 1, 1) := by decide +kernel
theorem dX10_likely_2 : decode cX10_likely 2 = .ok (.invokevirtual 161, 3) := by decide +kernel
theorem dX10_likely_5 : decode cX10_likely 5 = .ok (.ifCond .eq 21, 3) := by decide +kernel
theorem dX10_likely_8 : decode cX10_likely 8 = .ok (.iload_n 2, 1) := by decide +kernel
theorem dX10_likely_9 : decode cX10_likely 9 = .ok (.iconst 0, 1) := by decide +kernel
theorem dX10_likely_10 : decode cX10_likely 10 = .ok (.iconst 5, 1) := by decide +kernel
theorem dX10_likely_11 : decode cX10_likely 11 = .ok (.invokestatic 173, 3) := by decide +kernel
theorem dX10_likely_14 : decode cX10_likely 14 = .ok (.ifCond .eq 12, 3) := by decide +kernel
theorem dX10_likely_17 : decode cX10_likely 17 = .ok (.iload_n 3, 1) := by decide +kernel
theorem dX10_likely_18 : decode cX10_likely 18 = .ok (.iconst 0, 1) := by decide +kernel
theorem dX10_likely_19 : decode cX10_likely 19 = .ok (.iconst 1, 1) := by decide +kernel
theorem dX10_likely_20 : decode cX10_likely 20 = .ok (.invokestatic 173, 3) := by decide +kernel
theorem dX10_likely_23 : decode cX10_likely 23 = .ok (.ifCond .ne 7, 3) := by decide +kernel
theorem dX10_likely_26 : decode cX10_likely 26 = .ok (.ldc2_w 369, 3) := by decide +kernel
theorem dX10_likely_29 : decode cX10_likely 29 = .ok (.lreturn, 1) := by decide +kernel
theorem dX10_likely_30 : decode cX10_likely 30 = .ok (.aload_n 0, 1) := by decide +kernel
theorem dX10_likely_31 : decode cX10_likely 31 = .ok (.getfield 18, 3) := by decide +kernel
theorem dX10_likely_34 : decode cX10_likely 34 = .ok (.getfield 371, 3) := by decide +kernel
theorem dX10_likely_37 : decode cX10_likely 37 = .ok (.ifCond .ne 15, 3) := by decide +kernel
theorem dX10_likely_40 : decode cX10_likely 40 = .ok (.aload_n 0, 1) := by decide +kernel
theorem dX10_likely_41 : decode cX10_likely 41 = .ok (.getfield 78, 3) := by decide +kernel
theorem dX10_likely_44 : decode cX10_likely 44 = .ok (.lconst 0, 1) := by decide +kernel
theorem dX10_likely_45 : decode cX10_likely 45 = .ok (.lconst 1, 1) := by decide +kernel
theorem dX10_likely_46 : decode cX10_likely 46 = .ok (.invokevirtual 352, 3) := by decide +kernel
theorem dX10_likely_49 : decode cX10_likely 49 = .ok (.goto 49, 3) := by decide +kernel
theorem dX10_likely_52 : decode cX10_likely 52 = .ok (.aload_n 0, 1) := by decide +kernel
theorem dX10_likely_53 : decode cX10_likely 53 = .ok (.getfield 18, 3) := by decide +kernel
theorem dX10_likely_56 : decode cX10_likely 56 = .ok (.getfield 371, 3) := by decide +kernel
theorem dX10_likely_59 : decode cX10_likely 59 = .ok (.iload_n 2, 1) := by decide +kernel
theorem dX10_likely_60 : decode cX10_likely 60 = .ok (.invokestatic 388, 3) := by decide +kernel
theorem dX10_likely_63 : decode cX10_likely 63 = .ok (.lstore 4, 2) := by decide +kernel
theorem dX10_likely_65 : decode cX10_likely 65 = .ok (.aload_n 0, 1) := by decide +kernel
theorem dX10_likely_66 : decode cX10_likely 66 = .ok (.getfield 78, 3) := by decide +kernel
theorem dX10_likely_69 : decode cX10_likely 69 = .ok (.lload 4, 2) := by decide +kernel
theorem dX10_likely_71 : decode cX10_likely 71 = .ok (.aload_n 0, 1) := by decide +kernel
theorem dX10_likely_72 : decode cX10_likely 72 = .ok (.getfield 18, 3) := by decide +kernel
theorem dX10_likely_75 : decode cX10_likely 75 = .ok (.getfield 371, 3) := by decide +kernel
theorem dX10_likely_78 : decode cX10_likely 78 = .ok (.aload_n 0, 1) := by decide +kernel
theorem dX10_likely_79 : decode cX10_likely 79 = .ok (.getfield 18, 3) := by decide +kernel
theorem dX10_likely_82 : decode cX10_likely 82 = .ok (.getfield 167, 3) := by decide +kernel
theorem dX10_likely_85 : decode cX10_likely 85 = .ok (.iload_n 1, 1) := by decide +kernel
theorem dX10_likely_86 : decode cX10_likely 86 = .ok (.iaload, 1) := by decide +kernel
theorem dX10_likely_87 : decode cX10_likely 87 = .ok (.isub, 1) := by decide +kernel
theorem dX10_likely_88 : decode cX10_likely 88 = .ok (.iload_n 2, 1) := by decide +kernel
theorem dX10_likely_89 : decode cX10_likely 89 = .ok (.invokestatic 388, 3) := by decide +kernel
theorem dX10_likely_92 : decode cX10_likely 92 = .ok (.lsub, 1) := by decide +kernel
theorem dX10_likely_93 : decode cX10_likely 93 = .ok (.lload 4, 2) := by decide +kernel
theorem dX10_likely_95 : decode cX10_likely 95 = .ok (.invokevirtual 352, 3) := by decide +kernel
theorem dX10_likely_98 : decode cX10_likely 98 = .ok (.aload_n 0, 1) := by decide +kernel
theorem dX10_likely_99 : decode cX10_likely 99 = .ok (.getfield 78, 3) := by decide +kernel
theorem dX10_likely_102 : decode cX10_likely 102 = .ok (.iload_n 3, 1) := by decide +kernel
theorem dX10_likely_103 : decode cX10_likely 103 = .ok (.invokevirtual 356, 3) := by decide +kernel
theorem dX10_likely_106 : decode cX10_likely 106 = .ok (.lreturn, 1) := by decide +kernel
theorem dX10_power_0 : decode cX10_power 0 = .ok (.lconst 1, 1) := by decide +kernel
theorem dX10_power_1 : decode cX10_power 1 = .ok (.lstore_n 2, 1) := by decide +kernel
theorem dX10_power_2 : decode cX10_power 2 = .ok (.iconst 0, 1) := by decide +kernel
theorem dX10_power_3 : decode cX10_power 3 = .ok (.istore 4, 2) := by decide +kernel
theorem dX10_power_5 : decode cX10_power 5 = .ok (.iload 4, 2) := by decide +kernel
theorem dX10_power_7 : decode cX10_power 7 = .ok (.iload_n 1, 1) := by decide +kernel
theorem dX10_power_8 : decode cX10_power 8 = .ok (.if_icmp .ge 14, 3) := by decide +kernel
theorem dX10_power_11 : decode cX10_power 11 = .ok (.lload_n 2, 1) := by decide +kernel
theorem dX10_power_12 : decode cX10_power 12 = .ok (.iload_n 0, 1) := by decide +kernel
theorem dX10_power_13 : decode cX10_power 13 = .ok (.i2l, 1) := by decide +kernel
theorem dX10_power_14 : decode cX10_power 14 = .ok (.lmul, 1) := by decide +kernel
theorem dX10_power_15 : decode cX10_power 15 = .ok (.lstore_n 2, 1) := by decide +kernel
theorem dX10_power_16 : decode cX10_power 16 = .ok (.iinc 4 1, 3) := by decide +kernel
theorem dX10_power_19 : decode cX10_power 19 = .ok (.goto (-14), 3) := by decide +kernel
theorem dX10_power_22 : decode cX10_power 22 = .ok (.lload_n 2, 1) := by decide +kernel
theorem dX10_power_23 : decode cX10_power 23 = .ok (.lreturn, 1) := by decide +kernel
theorem dX10_rests_0 : decode cX10_rests 0 = .ok (.aload_n 0, 1) := by decide +kernel
theorem dX10_rests_1 : decode cX10_rests 1 = .ok (.iload_n 1, 1) := by decide +kernel
theorem dX10_rests_2 : decode cX10_rests 2 = .ok (.iload_n 2, 1) := by decide +kernel
theorem dX10_rests_3 : decode cX10_rests 3 = .ok (.iload_n 3, 1) := by decide +kernel
theorem dX10_rests_4 : decode cX10_rests 4 = .ok (.invokevirtual 395, 3) := by decide +kernel
theorem dX10_rests_7 : decode cX10_rests 7 = .ok (.ifCond .ne 5, 3) := by decide +kernel
theorem dX10_rests_10 : decode cX10_rests 10 = .ok (.iconst (-1), 1) := by decide +kernel
theorem dX10_rests_11 : decode cX10_rests 11 = .ok (.ireturn, 1) := by decide +kernel
theorem dX10_rests_12 : decode cX10_rests 12 = .ok (.iconst 0, 1) := by decide +kernel
theorem dX10_rests_13 : decode cX10_rests 13 = .ok (.istore 4, 2) := by decide +kernel
theorem dX10_rests_15 : decode cX10_rests 15 = .ok (.iconst 0, 1) := by decide +kernel
theorem dX10_rests_16 : decode cX10_rests 16 = .ok (.istore 5, 2) := by decide +kernel
theorem dX10_rests_18 : decode cX10_rests 18 = .ok (.iload 5, 2) := by decide +kernel
theorem dX10_rests_20 : decode cX10_rests 20 = .ok (.iconst 4, 1) := by decide +kernel
theorem dX10_rests_21 : decode cX10_rests 21 = .ok (.if_icmp .ge 24, 3) := by decide +kernel
theorem dX10_rests_24 : decode cX10_rests 24 = .ok (.aload_n 0, 1) := by decide +kernel
theorem dX10_rests_25 : decode cX10_rests 25 = .ok (.iload_n 1, 1) := by decide +kernel
theorem dX10_rests_26 : decode cX10_rests 26 = .ok (.iload_n 2, 1) := by decide +kernel
theorem dX10_rests_27 : decode cX10_rests 27 = .ok (.iload_n 3, 1) := by decide +kernel
theorem dX10_rests_28 : decode cX10_rests 28 = .ok (.iload 5, 2) := by decide +kernel
theorem dX10_rests_30 : decode cX10_rests 30 = .ok (.invokevirtual 398, 3) := by decide +kernel
theorem dX10_rests_33 : decode cX10_rests 33 = .ok (.ifCond .eq 6, 3) := by decide +kernel
theorem dX10_rests_36 : decode cX10_rests 36 = .ok (.iinc 4 1, 3) := by decide +kernel
theorem dX10_rests_39 : decode cX10_rests 39 = .ok (.iinc 5 1, 3) := by decide +kernel
theorem dX10_rests_42 : decode cX10_rests 42 = .ok (.goto (-24), 3) := by decide +kernel
theorem dX10_rests_45 : decode cX10_rests 45 = .ok (.iload 4, 2) := by decide +kernel
theorem dX10_rests_47 : decode cX10_rests 47 = .ok (.ireturn, 1) := by decide +kernel
theorem dX10_rest_0 : decode cX10_rest 0 = .ok (.aload_n 0, 1) := by decide +kernel
theorem dX10_rest_1 : decode cX10_rest 1 = .ok (.iload_n 1, 1) := by decide +kernel
theorem dX10_rest_2 : decode cX10_rest 2 = .ok (.iload_n 2, 1) := by decide +kernel
theorem dX10_rest_3 : decode cX10_rest 3 = .ok (.iload_n 3, 1) := by decide +kernel
theorem dX10_rest_4 : decode cX10_rest 4 = .ok (.invokevirtual 395, 3) := by decide +kernel
theorem dX10_rest_7 : decode cX10_rest 7 = .ok (.ifCond .eq 8, 3) := by decide +kernel
theorem dX10_rest_10 : decode cX10_rest 10 = .ok (.iload 4, 2) := by decide +kernel
theorem dX10_rest_12 : decode cX10_rest 12 = .ok (.ifCond .ge 5, 3) := by decide +kernel
theorem dX10_rest_15 : decode cX10_rest 15 = .ok (.iconst (-1), 1) := by decide +kernel
theorem dX10_rest_16 : decode cX10_rest 16 = .ok (.ireturn, 1) := by decide +kernel
theorem dX10_rest_17 : decode cX10_rest 17 = .ok (.iconst 0, 1) := by decide +kernel
theorem dX10_rest_18 : decode cX10_rest 18 = .ok (.istore 5, 2) := by decide +kernel
theorem dX10_rest_20 : decode cX10_rest 20 = .ok (.iconst 0, 1) := by decide +kernel
theorem dX10_rest_21 : decode cX10_rest 21 = .ok (.istore 6, 2) := by decide +kernel
theorem dX10_rest_23 : decode cX10_rest 23 = .ok (.iload 6, 2) := by decide +kernel
theorem dX10_rest_25 : decode cX10_rest 25 = .ok (.iconst 4, 1) := by decide +kernel
theorem dX10_rest_26 : decode cX10_rest 26 = .ok (.if_icmp .ge 44, 3) := by decide +kernel
theorem dX10_rest_29 : decode cX10_rest 29 = .ok (.aload_n 0, 1) := by decide +kernel
theorem dX10_rest_30 : decode cX10_rest 30 = .ok (.iload_n 1, 1) := by decide +kernel
theorem dX10_rest_31 : decode cX10_rest 31 = .ok (.iload_n 2, 1) := by decide +kernel
theorem dX10_rest_32 : decode cX10_rest 32 = .ok (.iload_n 3, 1) := by decide +kernel
theorem dX10_rest_33 : decode cX10_rest 33 = .ok (.iload 6, 2) := by decide +kernel
theorem dX10_rest_35 : decode cX10_rest 35 = .ok (.invokevirtual 398, 3) := by decide +kernel
theorem dX10_rest_38 : decode cX10_rest 38 = .ok (.ifCond .eq 26, 3) := by decide +kernel
theorem dX10_rest_41 : decode cX10_rest 41 = .ok (.iload 5, 2) := by decide +kernel
theorem dX10_rest_43 : decode cX10_rest 43 = .ok (.iload 4, 2) := by decide +kernel
theorem dX10_rest_45 : decode cX10_rest 45 = .ok (.if_icmp .ne 16, 3) := by decide +kernel
theorem dX10_rest_48 : decode cX10_rest 48 = .ok (.bipush 10, 2) := by decide +kernel
theorem dX10_rest_50 : decode cX10_rest 50 = .ok (.iload 6, 2) := by decide +kernel
theorem dX10_rest_52 : decode cX10_rest 52 = .ok (.iconst 1, 1) := by decide +kernel
theorem dX10_rest_53 : decode cX10_rest 53 = .ok (.ishr, 1) := by decide +kernel
theorem dX10_rest_54 : decode cX10_rest 54 = .ok (.imul, 1) := by decide +kernel
theorem dX10_rest_55 : decode cX10_rest 55 = .ok (.iload 6, 2) := by decide +kernel
theorem dX10_rest_57 : decode cX10_rest 57 = .ok (.iconst 1, 1) := by decide +kernel
theorem dX10_rest_58 : decode cX10_rest 58 = .ok (.iand, 1) := by decide +kernel
theorem dX10_rest_59 : decode cX10_rest 59 = .ok (.iadd, 1) := by decide +kernel
theorem dX10_rest_60 : decode cX10_rest 60 = .ok (.ireturn, 1) := by decide +kernel
theorem dX10_rest_61 : decode cX10_rest 61 = .ok (.iinc 5 1, 3) := by decide +kernel
theorem dX10_rest_64 : decode cX10_rest 64 = .ok (.iinc 6 1, 3) := by decide +kernel
theorem dX10_rest_67 : decode cX10_rest 67 = .ok (.goto (-44), 3) := by decide +kernel
theorem dX10_rest_70 : decode cX10_rest 70 = .ok (.bipush (-2), 2) := by decide +kernel
theorem dX10_rest_72 : decode cX10_rest 72 = .ok (.ireturn, 1) := by decide +kernel
theorem dX10_isView_0 : decode cX10_isView 0 = .ok (.aload_n 0, 1) := by decide +kernel
theorem dX10_isView_1 : decode cX10_isView 1 = .ok (.iload_n 1, 1) := by decide +kernel
theorem dX10_isView_2 : decode cX10_isView 2 = .ok (.invokevirtual 122, 3) := by decide +kernel
theorem dX10_isView_5 : decode cX10_isView 5 = .ok (.ifCond .eq 28, 3) := by decide +kernel
theorem dX10_isView_8 : decode cX10_isView 8 = .ok (.aload_n 0, 1) := by decide +kernel
theorem dX10_isView_9 : decode cX10_isView 9 = .ok (.iload_n 2, 1) := by decide +kernel
theorem dX10_isView_10 : decode cX10_isView 10 = .ok (.invokevirtual 122, 3) := by decide +kernel
theorem dX10_isView_13 : decode cX10_isView 13 = .ok (.ifCond .eq 20, 3) := by decide +kernel
theorem dX10_isView_16 : decode cX10_isView 16 = .ok (.iload_n 1, 1) := by decide +kernel
theorem dX10_isView_17 : decode cX10_isView 17 = .ok (.iload_n 2, 1) := by decide +kernel
theorem dX10_isView_18 : decode cX10_isView 18 = .ok (.if_icmp .eq 15, 3) := by decide +kernel
theorem dX10_isView_21 : decode cX10_isView 21 = .ok (.aload_n 0, 1) := by decide +kernel
theorem dX10_isView_22 : decode cX10_isView 22 = .ok (.iload_n 3, 1) := by decide +kernel
theorem dX10_isView_23 : decode cX10_isView 23 = .ok (.invokevirtual 161, 3) := by decide +kernel
theorem dX10_isView_26 : decode cX10_isView 26 = .ok (.ifCond .eq 7, 3) := by decide +kernel
theorem dX10_isView_29 : decode cX10_isView 29 = .ok (.iconst 1, 1) := by decide +kernel
theorem dX10_isView_30 : decode cX10_isView 30 = .ok (.goto 4, 3) := by decide +kernel
theorem dX10_isView_33 : decode cX10_isView 33 = .ok (.iconst 0, 1) := by decide +kernel
theorem dX10_isView_34 : decode cX10_isView 34 = .ok (.ireturn, 1) := by decide +kernel
theorem dX10_isRest_0 : decode cX10_isRest 0 = .ok (.iload 4, 2) := by decide +kernel
theorem dX10_isRest_2 : decode cX10_isRest 2 = .ok (.iconst 1, 1) := by decide +kernel
theorem dX10_isRest_3 : decode cX10_isRest 3 = .ok (.ishr, 1) := by decide +kernel
theorem dX10_isRest_4 : decode cX10_isRest 4 = .ok (.istore 5, 2) := by decide +kernel
theorem dX10_isRest_6 : decode cX10_isRest 6 = .ok (.iload 4, 2) := by decide +kernel
theorem dX10_isRest_8 : decode cX10_isRest 8 = .ok (.iconst 1, 1) := by decide +kernel
theorem dX10_isRest_9 : decode cX10_isRest 9 = .ok (.iand, 1) := by decide +kernel
theorem dX10_isRest_10 : decode cX10_isRest 10 = .ok (.istore 6, 2) := by decide +kernel
theorem dX10_isRest_12 : decode cX10_isRest 12 = .ok (.aload_n 0, 1) := by decide +kernel
theorem dX10_isRest_13 : decode cX10_isRest 13 = .ok (.iload_n 1, 1) := by decide +kernel
theorem dX10_isRest_14 : decode cX10_isRest 14 = .ok (.iload_n 3, 1) := by decide +kernel
theorem dX10_isRest_15 : decode cX10_isRest 15 = .ok (.iload 5, 2) := by decide +kernel
theorem dX10_isRest_17 : decode cX10_isRest 17 = .ok (.iload 6, 2) := by decide +kernel
theorem dX10_isRest_19 : decode cX10_isRest 19 = .ok (.invokevirtual 402, 3) := by decide +kernel
theorem dX10_isRest_22 : decode cX10_isRest 22 = .ok (.aload_n 0, 1) := by decide +kernel
theorem dX10_isRest_23 : decode cX10_isRest 23 = .ok (.iload_n 1, 1) := by decide +kernel
theorem dX10_isRest_24 : decode cX10_isRest 24 = .ok (.iload_n 3, 1) := by decide +kernel
theorem dX10_isRest_25 : decode cX10_isRest 25 = .ok (.iconst 1, 1) := by decide +kernel
theorem dX10_isRest_26 : decode cX10_isRest 26 = .ok (.iload 5, 2) := by decide +kernel
theorem dX10_isRest_28 : decode cX10_isRest 28 = .ok (.isub, 1) := by decide +kernel
theorem dX10_isRest_29 : decode cX10_isRest 29 = .ok (.iload 6, 2) := by decide +kernel
theorem dX10_isRest_31 : decode cX10_isRest 31 = .ok (.invokevirtual 402, 3) := by decide +kernel
theorem dX10_isRest_34 : decode cX10_isRest 34 = .ok (.if_icmp .lt 32, 3) := by decide +kernel
theorem dX10_isRest_37 : decode cX10_isRest 37 = .ok (.aload_n 0, 1) := by decide +kernel
theorem dX10_isRest_38 : decode cX10_isRest 38 = .ok (.iload_n 2, 1) := by decide +kernel
theorem dX10_isRest_39 : decode cX10_isRest 39 = .ok (.iload_n 3, 1) := by decide +kernel
theorem dX10_isRest_40 : decode cX10_isRest 40 = .ok (.iload 6, 2) := by decide +kernel
theorem dX10_isRest_42 : decode cX10_isRest 42 = .ok (.iload 5, 2) := by decide +kernel
theorem dX10_isRest_44 : decode cX10_isRest 44 = .ok (.invokevirtual 402, 3) := by decide +kernel
theorem dX10_isRest_47 : decode cX10_isRest 47 = .ok (.aload_n 0, 1) := by decide +kernel
theorem dX10_isRest_48 : decode cX10_isRest 48 = .ok (.iload_n 2, 1) := by decide +kernel
theorem dX10_isRest_49 : decode cX10_isRest 49 = .ok (.iload_n 3, 1) := by decide +kernel
theorem dX10_isRest_50 : decode cX10_isRest 50 = .ok (.iconst 1, 1) := by decide +kernel
theorem dX10_isRest_51 : decode cX10_isRest 51 = .ok (.iload 6, 2) := by decide +kernel
theorem dX10_isRest_53 : decode cX10_isRest 53 = .ok (.isub, 1) := by decide +kernel
theorem dX10_isRest_54 : decode cX10_isRest 54 = .ok (.iload 5, 2) := by decide +kernel
theorem dX10_isRest_56 : decode cX10_isRest 56 = .ok (.invokevirtual 402, 3) := by decide +kernel
theorem dX10_isRest_59 : decode cX10_isRest 59 = .ok (.if_icmp .lt 7, 3) := by decide +kernel
theorem dX10_isRest_62 : decode cX10_isRest 62 = .ok (.iconst 1, 1) := by decide +kernel
theorem dX10_isRest_63 : decode cX10_isRest 63 = .ok (.goto 4, 3) := by decide +kernel
theorem dX10_isRest_66 : decode cX10_isRest 66 = .ok (.iconst 0, 1) := by decide +kernel
theorem dX10_isRest_67 : decode cX10_isRest 67 = .ok (.ireturn, 1) := by decide +kernel
theorem dX10_gain_0 : decode cX10_gain 0 = .ok (.aload_n 0, 1) := by decide +kernel
theorem dX10_gain_1 : decode cX10_gain 1 = .ok (.getfield 18, 3) := by decide +kernel
theorem dX10_gain_4 : decode cX10_gain 4 = .ok (.getfield 143, 3) := by decide +kernel
theorem dX10_gain_7 : decode cX10_gain 7 = .ok (.iload_n 1, 1) := by decide +kernel
theorem dX10_gain_8 : decode cX10_gain 8 = .ok (.iaload, 1) := by decide +kernel
theorem dX10_gain_9 : decode cX10_gain 9 = .ok (.istore 5, 2) := by decide +kernel
theorem dX10_gain_11 : decode cX10_gain 11 = .ok (.aload_n 0, 1) := by decide +kernel
theorem dX10_gain_12 : decode cX10_gain 12 = .ok (.getfield 18, 3) := by decide +kernel
theorem dX10_gain_15 : decode cX10_gain 15 = .ok (.getfield 164, 3) := by decide +kernel
theorem dX10_gain_18 : decode cX10_gain 18 = .ok (.iload_n 2, 1) := by decide +kernel
theorem dX10_gain_19 : decode cX10_gain 19 = .ok (.iaload, 1) := by decide +kernel
theorem dX10_gain_20 : decode cX10_gain 20 = .ok (.istore 6, 2) := by decide +kernel
theorem dX10_gain_22 : decode cX10_gain 22 = .ok (.iload_n 3, 1) := by decide +kernel
theorem dX10_gain_23 : decode cX10_gain 23 = .ok (.ifCond .ne 31, 3) := by decide +kernel
theorem dX10_gain_26 : decode cX10_gain 26 = .ok (.iload 4, 2) := by decide +kernel
theorem dX10_gain_28 : decode cX10_gain 28 = .ok (.ifCond .ne 16, 3) := by decide +kernel
theorem dX10_gain_31 : decode cX10_gain 31 = .ok (.iload 5, 2) := by decide +kernel
theorem dX10_gain_33 : decode cX10_gain 33 = .ok (.iload 6, 2) := by decide +kernel
theorem dX10_gain_35 : decode cX10_gain 35 = .ok (.bipush 10, 2) := by decide +kernel
theorem dX10_gain_37 : decode cX10_gain 37 = .ok (.idiv, 1) := by decide +kernel
theorem dX10_gain_38 : decode cX10_gain 38 = .ok (.iadd, 1) := by decide +kernel
theorem dX10_gain_39 : decode cX10_gain 39 = .ok (.iconst 2, 1) := by decide +kernel
theorem dX10_gain_40 : decode cX10_gain 40 = .ok (.isub, 1) := by decide +kernel
theorem dX10_gain_41 : decode cX10_gain 41 = .ok (.goto 12, 3) := by decide +kernel
theorem dX10_gain_44 : decode cX10_gain 44 = .ok (.iload 5, 2) := by decide +kernel
theorem dX10_gain_46 : decode cX10_gain 46 = .ok (.iload 6, 2) := by decide +kernel
theorem dX10_gain_48 : decode cX10_gain 48 = .ok (.iconst 5, 1) := by decide +kernel
theorem dX10_gain_49 : decode cX10_gain 49 = .ok (.idiv, 1) := by decide +kernel
theorem dX10_gain_50 : decode cX10_gain 50 = .ok (.iadd, 1) := by decide +kernel
theorem dX10_gain_51 : decode cX10_gain 51 = .ok (.iconst 3, 1) := by decide +kernel
theorem dX10_gain_52 : decode cX10_gain 52 = .ok (.isub, 1) := by decide +kernel
theorem dX10_gain_53 : decode cX10_gain 53 = .ok (.ireturn, 1) := by decide +kernel
theorem dX10_gain_54 : decode cX10_gain 54 = .ok (.iload 4, 2) := by decide +kernel
theorem dX10_gain_56 : decode cX10_gain 56 = .ok (.ifCond .ne 7, 3) := by decide +kernel
theorem dX10_gain_59 : decode cX10_gain 59 = .ok (.iconst 1, 1) := by decide +kernel
theorem dX10_gain_60 : decode cX10_gain 60 = .ok (.goto 7, 3) := by decide +kernel
theorem dX10_gain_63 : decode cX10_gain 63 = .ok (.iload 5, 2) := by decide +kernel
theorem dX10_gain_65 : decode cX10_gain 65 = .ok (.iconst 2, 1) := by decide +kernel
theorem dX10_gain_66 : decode cX10_gain 66 = .ok (.idiv, 1) := by decide +kernel
theorem dX10_gain_67 : decode cX10_gain 67 = .ok (.ireturn, 1) := by decide +kernel
theorem dX10_note_0 : decode cX10_note 0 = .ok (.iload_n 1, 1) := by decide +kernel
theorem dX10_note_1 : decode cX10_note 1 = .ok (.invokestatic 406, 3) := by decide +kernel
theorem dX10_note_4 : decode cX10_note 4 = .ok (.ifCond .eq 22, 3) := by decide +kernel
theorem dX10_note_7 : decode cX10_note 7 = .ok (.aload_n 0, 1) := by decide +kernel
theorem dX10_note_8 : decode cX10_note 8 = .ok (.iload_n 2, 1) := by decide +kernel
theorem dX10_note_9 : decode cX10_note 9 = .ok (.invokevirtual 122, 3) := by decide +kernel
theorem dX10_note_12 : decode cX10_note 12 = .ok (.ifCond .eq 14, 3) := by decide +kernel
theorem dX10_note_15 : decode cX10_note 15 = .ok (.iload_n 3, 1) := by decide +kernel
theorem dX10_note_16 : decode cX10_note 16 = .ok (.iconst 0, 1) := by decide +kernel
theorem dX10_note_17 : decode cX10_note 17 = .ok (.sipush 999, 3) := by decide +kernel
theorem dX10_note_20 : decode cX10_note 20 = .ok (.invokestatic 173, 3) := by decide +kernel
theorem dX10_note_23 : decode cX10_note 23 = .ok (.ifCond .ne 5, 3) := by decide +kernel
theorem dX10_note_26 : decode cX10_note 26 = .ok (.iconst (-1), 1) := by decide +kernel
theorem dX10_note_27 : decode cX10_note 27 = .ok (.ireturn, 1) := by decide +kernel
theorem dX10_note_28 : decode cX10_note 28 = .ok (.aload_n 0, 1) := by decide +kernel
theorem dX10_note_29 : decode cX10_note 29 = .ok (.getfield 64, 3) := by decide +kernel
theorem dX10_note_32 : decode cX10_note 32 = .ok (.iload_n 1, 1) := by decide +kernel
theorem dX10_note_33 : decode cX10_note 33 = .ok (.iload_n 2, 1) := by decide +kernel
theorem dX10_note_34 : decode cX10_note 34 = .ok (.iload_n 3, 1) := by decide +kernel
theorem dX10_note_35 : decode cX10_note 35 = .ok (.iload 4, 2) := by decide +kernel
theorem dX10_note_37 : decode cX10_note 37 = .ok (.invokevirtual 409, 3) := by decide +kernel
theorem dX10_note_40 : decode cX10_note 40 = .ok (.ireturn, 1) := by decide +kernel
theorem dX10_strike_0 : decode cX10_strike 0 = .ok (.aload_n 0, 1) := by decide +kernel
theorem dX10_strike_1 : decode cX10_strike 1 = .ok (.getfield 64, 3) := by decide +kernel
theorem dX10_strike_4 : decode cX10_strike 4 = .ok (.iload_n 1, 1) := by decide +kernel
theorem dX10_strike_5 : decode cX10_strike 5 = .ok (.invokevirtual 413, 3) := by decide +kernel
theorem dX10_strike_8 : decode cX10_strike 8 = .ok (.ireturn, 1) := by decide +kernel
theorem dX10_known_0 : decode cX10_known 0 = .ok (.iload_n 1, 1) := by decide +kernel
theorem dX10_known_1 : decode cX10_known 1 = .ok (.iconst (-1), 1) := by decide +kernel
theorem dX10_known_2 : decode cX10_known 2 = .ok (.aload_n 0, 1) := by decide +kernel
theorem dX10_known_3 : decode cX10_known 3 = .ok (.getfield 64, 3) := by decide +kernel
theorem dX10_known_6 : decode cX10_known 6 = .ok (.getfield 254, 3) := by decide +kernel
theorem dX10_known_9 : decode cX10_known 9 = .ok (.invokestatic 173, 3) := by decide +kernel
theorem dX10_known_12 : decode cX10_known 12 = .ok (.ifCond .ne 5, 3) := by decide +kernel
theorem dX10_known_15 : decode cX10_known 15 = .ok (.iconst 0, 1) := by decide +kernel
theorem dX10_known_16 : decode cX10_known 16 = .ok (.ireturn, 1) := by decide +kernel
theorem dX10_known_17 : decode cX10_known 17 = .ok (.aload_n 0, 1) := by decide +kernel
theorem dX10_known_18 : decode cX10_known 18 = .ok (.getfield 64, 3) := by decide +kernel
theorem dX10_known_21 : decode cX10_known 21 = .ok (.iload_n 1, 1) := by decide +kernel
theorem dX10_known_22 : decode cX10_known 22 = .ok (.putfield 416, 3) := by decide +kernel
theorem dX10_known_25 : decode cX10_known 25 = .ok (.iconst 1, 1) := by decide +kernel
theorem dX10_known_26 : decode cX10_known 26 = .ok (.ireturn, 1) := by decide +kernel
theorem dX10_fits_0 : decode cX10_fits 0 = .ok (.iload_n 1, 1) := by decide +kernel
theorem dX10_fits_1 : decode cX10_fits 1 = .ok (.invokestatic 406, 3) := by decide +kernel
theorem dX10_fits_4 : decode cX10_fits 4 = .ok (.ifCond .eq 18, 3) := by decide +kernel
theorem dX10_fits_7 : decode cX10_fits 7 = .ok (.aload_n 0, 1) := by decide +kernel
theorem dX10_fits_8 : decode cX10_fits 8 = .ok (.getfield 64, 3) := by decide +kernel
theorem dX10_fits_11 : decode cX10_fits 11 = .ok (.aload_n 0, 1) := by decide +kernel
theorem dX10_fits_12 : decode cX10_fits 12 = .ok (.getfield 18, 3) := by decide +kernel
theorem dX10_fits_15 : decode cX10_fits 15 = .ok (.iload_n 1, 1) := by decide +kernel
theorem dX10_fits_16 : decode cX10_fits 16 = .ok (.invokevirtual 419, 3) := by decide +kernel
theorem dX10_fits_19 : decode cX10_fits 19 = .ok (.goto 4, 3) := by decide +kernel
theorem dX10_fits_22 : decode cX10_fits 22 = .ok (.iconst (-1), 1) := by decide +kernel
theorem dX10_fits_23 : decode cX10_fits 23 = .ok (.ireturn, 1) := by decide +kernel
theorem dX10_ask_0 : decode cX10_ask 0 = .ok (.iload_n 1, 1) := by decide +kernel
theorem dX10_ask_1 : decode cX10_ask 1 = .ok (.invokestatic 406, 3) := by decide +kernel
theorem dX10_ask_4 : decode cX10_ask 4 = .ok (.ifCond .eq 12, 3) := by decide +kernel
theorem dX10_ask_7 : decode cX10_ask 7 = .ok (.iload_n 2, 1) := by decide +kernel
theorem dX10_ask_8 : decode cX10_ask 8 = .ok (.iconst 0, 1) := by decide +kernel
theorem dX10_ask_9 : decode cX10_ask 9 = .ok (.iconst 1, 1) := by decide +kernel
theorem dX10_ask_10 : decode cX10_ask 10 = .ok (.invokestatic 173, 3) := by decide +kernel
theorem dX10_ask_13 : decode cX10_ask 13 = .ok (.ifCond .ne 5, 3) := by decide +kernel
theorem dX10_ask_16 : decode cX10_ask 16 = .ok (.iconst (-1), 1) := by decide +kernel
theorem dX10_ask_17 : decode cX10_ask 17 = .ok (.ireturn, 1) := by decide +kernel
theorem dX10_ask_18 : decode cX10_ask 18 = .ok (.aload_n 0, 1) := by decide +kernel
theorem dX10_ask_19 : decode cX10_ask 19 = .ok (.getfield 18, 3) := by decide +kernel
theorem dX10_ask_22 : decode cX10_ask 22 = .ok (.getfield 203, 3) := by decide +kernel
theorem dX10_ask_25 : decode cX10_ask 25 = .ok (.ifCond .ne 6, 3) := by decide +kernel
theorem dX10_ask_28 : decode cX10_ask 28 = .ok (.bipush (-2), 2) := by decide +kernel
theorem dX10_ask_30 : decode cX10_ask 30 = .ok (.ireturn, 1) := by decide +kernel
theorem dX10_ask_31 : decode cX10_ask 31 = .ok (.aload_n 0, 1) := by decide +kernel
theorem dX10_ask_32 : decode cX10_ask 32 = .ok (.getfield 64, 3) := by decide +kernel
theorem dX10_ask_35 : decode cX10_ask 35 = .ok (.aload_n 0, 1) := by decide +kernel
theorem dX10_ask_36 : decode cX10_ask 36 = .ok (.getfield 18, 3) := by decide +kernel
theorem dX10_ask_39 : decode cX10_ask 39 = .ok (.iload_n 1, 1) := by decide +kernel
theorem dX10_ask_40 : decode cX10_ask 40 = .ok (.invokevirtual 419, 3) := by decide +kernel
theorem dX10_ask_43 : decode cX10_ask 43 = .ok (.istore_n 3, 1) := by decide +kernel
theorem dX10_ask_44 : decode cX10_ask 44 = .ok (.iconst 0, 1) := by decide +kernel
theorem dX10_ask_45 : decode cX10_ask 45 = .ok (.istore 4, 2) := by decide +kernel
theorem dX10_ask_47 : decode cX10_ask 47 = .ok (.iconst 1, 1) := by decide +kernel
theorem dX10_ask_48 : decode cX10_ask 48 = .ok (.istore 5, 2) := by decide +kernel
theorem dX10_ask_50 : decode cX10_ask 50 = .ok (.iload 5, 2) := by decide +kernel
theorem dX10_ask_52 : decode cX10_ask 52 = .ok (.aload_n 0, 1) := by decide +kernel
theorem dX10_ask_53 : decode cX10_ask 53 = .ok (.getfield 18, 3) := by decide +kernel
theorem dX10_ask_56 : decode cX10_ask 56 = .ok (.getfield 203, 3) := by decide +kernel
theorem dX10_ask_59 : decode cX10_ask 59 = .ok (.if_icmp .ge 30, 3) := by decide +kernel
theorem dX10_ask_62 : decode cX10_ask 62 = .ok (.aload_n 0, 1) := by decide +kernel
theorem dX10_ask_63 : decode cX10_ask 63 = .ok (.iload_n 3, 1) := by decide +kernel
theorem dX10_ask_64 : decode cX10_ask 64 = .ok (.iload 5, 2) := by decide +kernel
theorem dX10_ask_66 : decode cX10_ask 66 = .ok (.invokevirtual 423, 3) := by decide +kernel
theorem dX10_ask_69 : decode cX10_ask 69 = .ok (.aload_n 0, 1) := by decide +kernel
theorem dX10_ask_70 : decode cX10_ask 70 = .ok (.iload_n 3, 1) := by decide +kernel
theorem dX10_ask_71 : decode cX10_ask 71 = .ok (.iload 4, 2) := by decide +kernel
theorem dX10_ask_73 : decode cX10_ask 73 = .ok (.invokevirtual 423, 3) := by decide +kernel
theorem dX10_ask_76 : decode cX10_ask 76 = .ok (.if_icmp .ge 7, 3) := by decide +kernel
theorem dX10_ask_79 : decode cX10_ask 79 = .ok (.iload 5, 2) := by decide +kernel
theorem dX10_ask_81 : decode cX10_ask 81 = .ok (.istore 4, 2) := by decide +kernel
theorem dX10_ask_83 : decode cX10_ask 83 = .ok (.iinc 5 1, 3) := by decide +kernel
theorem dX10_ask_86 : decode cX10_ask 86 = .ok (.goto (-36), 3) := by decide +kernel
theorem dX10_ask_89 : decode cX10_ask 89 = .ok (.iload_n 2, 1) := by decide +kernel
theorem dX10_ask_90 : decode cX10_ask 90 = .ok (.ifCond .ne 8, 3) := by decide +kernel
theorem dX10_ask_93 : decode cX10_ask 93 = .ok (.iload 4, 2) := by decide +kernel
theorem dX10_ask_95 : decode cX10_ask 95 = .ok (.goto 10, 3) := by decide +kernel
theorem dX10_ask_98 : decode cX10_ask 98 = .ok (.aload_n 0, 1) := by decide +kernel
theorem dX10_ask_99 : decode cX10_ask 99 = .ok (.iload_n 3, 1) := by decide +kernel
theorem dX10_ask_100 : decode cX10_ask 100 = .ok (.iload 4, 2) := by decide +kernel
theorem dX10_ask_102 : decode cX10_ask 102 = .ok (.invokevirtual 423, 3) := by decide +kernel
theorem dX10_ask_105 : decode cX10_ask 105 = .ok (.ireturn, 1) := by decide +kernel
theorem dX10_leftAtWorst_0 : decode cX10_leftAtWorst 0 = .ok (.iconst 0, 1) := by decide +kernel
theorem dX10_leftAtWorst_1 : decode cX10_leftAtWorst 1 = .ok (.istore_n 3, 1) := by decide +kernel
theorem dX10_leftAtWorst_2 : decode cX10_leftAtWorst 2 = .ok (.iconst 0, 1) := by decide +kernel
theorem dX10_leftAtWorst_3 : decode cX10_leftAtWorst 3 = .ok (.istore 4, 2) := by decide +kernel
theorem dX10_leftAtWorst_5 : decode cX10_leftAtWorst 5 = .ok (.iload 4, 2) := by decide +kernel
theorem dX10_leftAtWorst_7 : decode cX10_leftAtWorst 7 = .ok (.aload_n 0, 1) := by decide +kernel
theorem dX10_leftAtWorst_8 : decode cX10_leftAtWorst 8 = .ok (.getfield 18, 3) := by decide +kernel
theorem dX10_leftAtWorst_11 : decode cX10_leftAtWorst 11 = .ok (.getfield 209, 3) := by decide +kernel
theorem dX10_leftAtWorst_14 : decode cX10_leftAtWorst 14 = .ok (.if_icmp .ge 84, 3) := by decide +kernel
theorem dX10_leftAtWorst_17 : decode cX10_leftAtWorst 17 = .ok (.iconst 0, 1) := by decide +kernel
theorem dX10_leftAtWorst_18 : decode cX10_leftAtWorst 18 = .ok (.istore 5, 2) := by decide +kernel
theorem dX10_leftAtWorst_20 : decode cX10_leftAtWorst 20 = .ok (.iconst 0, 1) := by decide +kernel
theorem dX10_leftAtWorst_21 : decode cX10_leftAtWorst 21 = .ok (.istore 6, 2) := by decide +kernel
theorem dX10_leftAtWorst_23 : decode cX10_leftAtWorst 23 = .ok (.iload 6, 2) := by decide +kernel
theorem dX10_leftAtWorst_25 : decode cX10_leftAtWorst 25 = .ok (.aload_n 0, 1) := by decide +kernel
theorem dX10_leftAtWorst_26 : decode cX10_leftAtWorst 26 = .ok (.getfield 18, 3) := by decide +kernel
theorem dX10_leftAtWorst_29 : decode cX10_leftAtWorst 29 = .ok (.getfield 209, 3) := by decide +kernel
theorem dX10_leftAtWorst_32 : decode cX10_leftAtWorst 32 = .ok (.if_icmp .ge 44, 3) := by decide +kernel
theorem dX10_leftAtWorst_35 : decode cX10_leftAtWorst 35 = .ok (.iload 6, 2) := by decide +kernel
theorem dX10_leftAtWorst_37 : decode cX10_leftAtWorst 37 = .ok (.iload_n 1, 1) := by decide +kernel
theorem dX10_leftAtWorst_38 : decode cX10_leftAtWorst 38 = .ok (.invokestatic 227, 3) := by decide +kernel
theorem dX10_leftAtWorst_41 : decode cX10_leftAtWorst 41 = .ok (.ifCond .eq 29, 3) := by decide +kernel
theorem dX10_leftAtWorst_44 : decode cX10_leftAtWorst 44 = .ok (.aload_n 0, 1) := by decide +kernel
theorem dX10_leftAtWorst_45 : decode cX10_leftAtWorst 45 = .ok (.getfield 18, 3) := by decide +kernel
theorem dX10_leftAtWorst_48 : decode cX10_leftAtWorst 48 = .ok (.iload_n 2, 1) := by decide +kernel
theorem dX10_leftAtWorst_49 : decode cX10_leftAtWorst 49 = .ok (.iload 6, 2) := by decide +kernel
theorem dX10_leftAtWorst_51 : decode cX10_leftAtWorst 51 = .ok (.invokevirtual 360, 3) := by decide +kernel
theorem dX10_leftAtWorst_54 : decode cX10_leftAtWorst 54 = .ok (.aload_n 0, 1) := by decide +kernel
theorem dX10_leftAtWorst_55 : decode cX10_leftAtWorst 55 = .ok (.getfield 18, 3) := by decide +kernel
theorem dX10_leftAtWorst_58 : decode cX10_leftAtWorst 58 = .ok (.iload_n 2, 1) := by decide +kernel
theorem dX10_leftAtWorst_59 : decode cX10_leftAtWorst 59 = .ok (.iload 4, 2) := by decide +kernel
theorem dX10_leftAtWorst_61 : decode cX10_leftAtWorst 61 = .ok (.invokevirtual 360, 3) := by decide +kernel
theorem dX10_leftAtWorst_64 : decode cX10_leftAtWorst 64 = .ok (.if_icmp .ne 6, 3) := by decide +kernel
theorem dX10_leftAtWorst_67 : decode cX10_leftAtWorst 67 = .ok (.iinc 5 1, 3) := by decide +kernel
theorem dX10_leftAtWorst_70 : decode cX10_leftAtWorst 70 = .ok (.iinc 6 1, 3) := by decide +kernel
theorem dX10_leftAtWorst_73 : decode cX10_leftAtWorst 73 = .ok (.goto (-50), 3) := by decide +kernel
theorem dX10_leftAtWorst_76 : decode cX10_leftAtWorst 76 = .ok (.iload 4, 2) := by decide +kernel
theorem dX10_leftAtWorst_78 : decode cX10_leftAtWorst 78 = .ok (.iload_n 1, 1) := by decide +kernel
theorem dX10_leftAtWorst_79 : decode cX10_leftAtWorst 79 = .ok (.invokestatic 227, 3) := by decide +kernel
theorem dX10_leftAtWorst_82 : decode cX10_leftAtWorst 82 = .ok (.ifCond .eq 10, 3) := by decide +kernel
theorem dX10_leftAtWorst_85 : decode cX10_leftAtWorst 85 = .ok (.iload_n 3, 1) := by decide +kernel
theorem dX10_leftAtWorst_86 : decode cX10_leftAtWorst 86 = .ok (.iload 5, 2) := by decide +kernel
theorem dX10_leftAtWorst_88 : decode cX10_leftAtWorst 88 = .ok (.invokestatic 366, 3) := by decide +kernel
theorem dX10_leftAtWorst_91 : decode cX10_leftAtWorst 91 = .ok (.istore_n 3, 1) := by decide +kernel
theorem dX10_leftAtWorst_92 : decode cX10_leftAtWorst 92 = .ok (.iinc 4 1, 3) := by decide +kernel
theorem dX10_leftAtWorst_95 : decode cX10_leftAtWorst 95 = .ok (.goto (-90), 3) := by decide +kernel
theorem dX10_leftAtWorst_98 : decode cX10_leftAtWorst 98 = .ok (.iload_n 3, 1) := by decide +kernel
theorem dX10_leftAtWorst_99 : decode cX10_leftAtWorst 99 = .ok (.ireturn, 1) := by decide +kernel
theorem dX10_isWithin_0 : decode cX10_isWithin 0 = .ok (.iload_n 0, 1) := by decide +kernel
theorem dX10_isWithin_1 : decode cX10_isWithin 1 = .ok (.iload_n 1, 1) := by decide +kernel
theorem dX10_isWithin_2 : decode cX10_isWithin 2 = .ok (.if_icmp .lt 12, 3) := by decide +kernel
theorem dX10_isWithin_5 : decode cX10_isWithin 5 = .ok (.iload_n 0, 1) := by decide +kernel
theorem dX10_isWithin_6 : decode cX10_isWithin 6 = .ok (.iload_n 2, 1) := by decide +kernel
theorem dX10_isWithin_7 : decode cX10_isWithin 7 = .ok (.if_icmp .gt 7, 3) := by decide +kernel
theorem dX10_isWithin_10 : decode cX10_isWithin 10 = .ok (.iconst 1, 1) := by decide +kernel
theorem dX10_isWithin_11 : decode cX10_isWithin 11 = .ok (.goto 4, 3) := by decide +kernel
theorem dX10_isWithin_14 : decode cX10_isWithin 14 = .ok (.iconst 0, 1) := by decide +kernel
theorem dX10_isWithin_15 : decode cX10_isWithin 15 = .ok (.ireturn, 1) := by decide +kernel
theorem dX10_isToldDay_0 : decode cX10_isToldDay 0 = .ok (.iload_n 0, 1) := by decide +kernel
theorem dX10_isToldDay_1 : decode cX10_isToldDay 1 = .ok (.iconst 0, 1) := by decide +kernel
theorem dX10_isToldDay_2 : decode cX10_isToldDay 2 = .ok (.bipush 99, 2) := by decide +kernel
theorem dX10_isToldDay_4 : decode cX10_isToldDay 4 = .ok (.invokestatic 173, 3) := by decide +kernel
theorem dX10_isToldDay_7 : decode cX10_isToldDay 7 = .ok (.ireturn, 1) := by decide +kernel
theorem dX10_isAmong_0 : decode cX10_isAmong 0 = .ok (.iload_n 1, 1) := by decide +kernel
theorem dX10_isAmong_1 : decode cX10_isAmong 1 = .ok (.iload_n 0, 1) := by decide +kernel
theorem dX10_isAmong_2 : decode cX10_isAmong 2 = .ok (.ishr, 1) := by decide +kernel
theorem dX10_isAmong_3 : decode cX10_isAmong 3 = .ok (.iconst 1, 1) := by decide +kernel
theorem dX10_isAmong_4 : decode cX10_isAmong 4 = .ok (.iand, 1) := by decide +kernel
theorem dX10_isAmong_5 : decode cX10_isAmong 5 = .ok (.iconst 1, 1) := by decide +kernel
theorem dX10_isAmong_6 : decode cX10_isAmong 6 = .ok (.if_icmp .ne 7, 3) := by decide +kernel
theorem dX10_isAmong_9 : decode cX10_isAmong 9 = .ok (.iconst 1, 1) := by decide +kernel
theorem dX10_isAmong_10 : decode cX10_isAmong 10 = .ok (.goto 4, 3) := by decide +kernel
theorem dX10_isAmong_13 : decode cX10_isAmong 13 = .ok (.iconst 0, 1) := by decide +kernel
theorem dX10_isAmong_14 : decode cX10_isAmong 14 = .ok (.ireturn, 1) := by decide +kernel
theorem dX10_isKind_0 : decode cX10_isKind 0 = .ok (.iload_n 1, 1) := by decide +kernel
theorem dX10_isKind_1 : decode cX10_isKind 1 = .ok (.iconst 0, 1) := by decide +kernel
theorem dX10_isKind_2 : decode cX10_isKind 2 = .ok (.aload_n 0, 1) := by decide +kernel
theorem dX10_isKind_3 : decode cX10_isKind 3 = .ok (.getfield 18, 3) := by decide +kernel
theorem dX10_isKind_6 : decode cX10_isKind 6 = .ok (.getfield 209, 3) := by decide +kernel
theorem dX10_isKind_9 : decode cX10_isKind 9 = .ok (.iconst 1, 1) := by decide +kernel
theorem dX10_isKind_10 : decode cX10_isKind 10 = .ok (.isub, 1) := by decide +kernel
theorem dX10_isKind_11 : decode cX10_isKind 11 = .ok (.invokestatic 173, 3) := by decide +kernel
theorem dX10_isKind_14 : decode cX10_isKind 14 = .ok (.ireturn, 1) := by decide +kernel
theorem dX10_isHouse_0 : decode cX10_isHouse 0 = .ok (.iload_n 1, 1) := by decide +kernel
theorem dX10_isHouse_1 : decode cX10_isHouse 1 = .ok (.iconst 0, 1) := by decide +kernel
theorem dX10_isHouse_2 : decode cX10_isHouse 2 = .ok (.aload_n 0, 1) := by decide +kernel
theorem dX10_isHouse_3 : decode cX10_isHouse 3 = .ok (.getfield 18, 3) := by decide +kernel
theorem dX10_isHouse_6 : decode cX10_isHouse 6 = .ok (.getfield 203, 3) := by decide +kernel
theorem dX10_isHouse_9 : decode cX10_isHouse 9 = .ok (.iconst 1, 1) := by decide +kernel
theorem dX10_isHouse_10 : decode cX10_isHouse 10 = .ok (.isub, 1) := by decide +kernel
theorem dX10_isHouse_11 : decode cX10_isHouse 11 = .ok (.invokestatic 173, 3) := by decide +kernel
theorem dX10_isHouse_14 : decode cX10_isHouse 14 = .ok (.ireturn, 1) := by decide +kernel
theorem dX10_areHouses_0 : decode cX10_areHouses 0 = .ok (.iload_n 1, 1) := by decide +kernel
theorem dX10_areHouses_1 : decode cX10_areHouses 1 = .ok (.iconst 0, 1) := by decide +kernel
theorem dX10_areHouses_2 : decode cX10_areHouses 2 = .ok (.iconst 1, 1) := by decide +kernel
theorem dX10_areHouses_3 : decode cX10_areHouses 3 = .ok (.aload_n 0, 1) := by decide +kernel
theorem dX10_areHouses_4 : decode cX10_areHouses 4 = .ok (.getfield 18, 3) := by decide +kernel
theorem dX10_areHouses_7 : decode cX10_areHouses 7 = .ok (.getfield 203, 3) := by decide +kernel
theorem dX10_areHouses_10 : decode cX10_areHouses 10 = .ok (.ishl, 1) := by decide +kernel
theorem dX10_areHouses_11 : decode cX10_areHouses 11 = .ok (.iconst 1, 1) := by decide +kernel
theorem dX10_areHouses_12 : decode cX10_areHouses 12 = .ok (.isub, 1) := by decide +kernel
theorem dX10_areHouses_13 : decode cX10_areHouses 13 = .ok (.invokestatic 173, 3) := by decide +kernel
theorem dX10_areHouses_16 : decode cX10_areHouses 16 = .ok (.ireturn, 1) := by decide +kernel
theorem dL_house_0 : decode cL_house 0 = .ok (.aload_n 3, 1) := by decide +kernel
theorem dL_house_1 : decode cL_house 1 = .ok (.iconst 0, 1) := by decide +kernel
theorem dL_house_2 : decode cL_house 2 = .ok (.aload_n 0, 1) := by decide +kernel
theorem dL_house_3 : decode cL_house 3 = .ok (.iload_n 1, 1) := by decide +kernel
theorem dL_house_4 : decode cL_house 4 = .ok (.iload_n 2, 1) := by decide +kernel
theorem dL_house_5 : decode cL_house 5 = .ok (.invokevirtual 7, 3) := by decide +kernel
theorem dL_house_8 : decode cL_house 8 = .ok (.i2l, 1) := by decide +kernel
theorem dL_house_9 : decode cL_house 9 = .ok (.lastore, 1) := by decide +kernel
theorem dL_house_10 : decode cL_house 10 = .ok (.goto 11, 3) := by decide +kernel
theorem dL_house_13 : decode cL_house 13 = .ok (.astore 4, 2) := by decide +kernel
theorem dL_house_15 : decode cL_house 15 = .ok (.iconst 1, 1) := by decide +kernel
theorem dL_house_16 : decode cL_house 16 = .ok (.ireturn, 1) := by decide +kernel
theorem dL_house_17 : decode cL_house 17 = .ok (.astore 4, 2) := by decide +kernel
theorem dL_house_19 : decode cL_house 19 = .ok (.iconst 2, 1) := by decide +kernel
theorem dL_house_20 : decode cL_house 20 = .ok (.ireturn, 1) := by decide +kernel
theorem dL_house_21 : decode cL_house 21 = .ok (.iconst 0, 1) := by decide +kernel
theorem dL_house_22 : decode cL_house 22 = .ok (.ireturn, 1) := by decide +kernel
theorem dL_law_0 : decode cL_law 0 = .ok (.new 8, 3) := by decide +kernel
theorem dL_law_3 : decode cL_law 3 = .ok (.dup, 1) := by decide +kernel
theorem dL_law_4 : decode cL_law 4 = .ok (.invokespecial 17, 3) := by decide +kernel
theorem dL_law_7 : decode cL_law 7 = .ok (.astore_n 1, 1) := by decide +kernel
theorem dL_law_8 : decode cL_law 8 = .ok (.new 18, 3) := by decide +kernel
theorem dL_law_11 : decode cL_law 11 = .ok (.dup, 1) := by decide +kernel
theorem dL_law_12 : decode cL_law 12 = .ok (.invokespecial 20, 3) := by decide +kernel
theorem dL_law_15 : decode cL_law 15 = .ok (.astore_n 2, 1) := by decide +kernel
theorem dL_law_16 : decode cL_law 16 = .ok (.iconst 1, 1) := by decide +kernel
theorem dL_law_17 : decode cL_law 17 = .ok (.newarray .long, 2) := by decide +kernel
theorem dL_law_19 : decode cL_law 19 = .ok (.astore_n 3, 1) := by decide +kernel
theorem dL_law_20 : decode cL_law 20 = .ok (.iconst 0, 1) := by decide +kernel
theorem dL_law_21 : decode cL_law 21 = .ok (.istore 4, 2) := by decide +kernel
theorem dL_law_23 : decode cL_law 23 = .ok (.iload 4, 2) := by decide +kernel
theorem dL_law_25 : decode cL_law 25 = .ok (.aload_n 0, 1) := by decide +kernel
theorem dL_law_26 : decode cL_law 26 = .ok (.arraylength, 1) := by decide +kernel
theorem dL_law_27 : decode cL_law 27 = .ok (.bipush 6, 2) := by decide +kernel
theorem dL_law_29 : decode cL_law 29 = .ok (.isub, 1) := by decide +kernel
theorem dL_law_30 : decode cL_law 30 = .ok (.if_icmp .gt 1701, 3) := by decide +kernel
theorem dL_law_33 : decode cL_law 33 = .ok (.aload_n 0, 1) := by decide +kernel
theorem dL_law_34 : decode cL_law 34 = .ok (.iload 4, 2) := by decide +kernel
theorem dL_law_36 : decode cL_law 36 = .ok (.iaload, 1) := by decide +kernel
theorem dL_law_37 : decode cL_law 37 = .ok (.bipush 63, 2) := by decide +kernel
theorem dL_law_39 : decode cL_law 39 = .ok (.iand, 1) := by decide +kernel
theorem dL_law_40 : decode cL_law 40 = .ok (.tableswitch 1685 0 42 #[188, 261, 286, 311, 348, 416, 453, 478, 528, 553, 578, 627, 652, 701, 726, 751, 788, 849, 887, 936, 986, 1035, 1096, 1109, 1146, 1183, 1208, 1221, 1234, 1271, 1296, 1321, 1334, 1411, 1436, 1461, 1486, 1523, 1572, 1621, 1634, 1647, 1660], 188) := by decide +kernel
theorem dL_law_228 : decode cL_law 228 = .ok (.aload_n 1, 1) := by decide +kernel
theorem dL_law_229 : decode cL_law 229 = .ok (.aload_n 0, 1) := by decide +kernel
theorem dL_law_230 : decode cL_law 230 = .ok (.iload 4, 2) := by decide +kernel
theorem dL_law_232 : decode cL_law 232 = .ok (.iconst 1, 1) := by decide +kernel
theorem dL_law_233 : decode cL_law 233 = .ok (.iadd, 1) := by decide +kernel
theorem dL_law_234 : decode cL_law 234 = .ok (.iaload, 1) := by decide +kernel
theorem dL_law_235 : decode cL_law 235 = .ok (.aload_n 0, 1) := by decide +kernel
theorem dL_law_236 : decode cL_law 236 = .ok (.iload 4, 2) := by decide +kernel
theorem dL_law_238 : decode cL_law 238 = .ok (.iconst 2, 1) := by decide +kernel
theorem dL_law_239 : decode cL_law 239 = .ok (.iadd, 1) := by decide +kernel
theorem dL_law_240 : decode cL_law 240 = .ok (.iaload, 1) := by decide +kernel
theorem dL_law_241 : decode cL_law 241 = .ok (.aload_n 0, 1) := by decide +kernel
theorem dL_law_242 : decode cL_law 242 = .ok (.iload 4, 2) := by decide +kernel
theorem dL_law_244 : decode cL_law 244 = .ok (.iconst 3, 1) := by decide +kernel
theorem dL_law_245 : decode cL_law 245 = .ok (.iadd, 1) := by decide +kernel
theorem dL_law_246 : decode cL_law 246 = .ok (.iaload, 1) := by decide +kernel
theorem dL_law_247 : decode cL_law 247 = .ok (.aload_n 0, 1) := by decide +kernel
theorem dL_law_248 : decode cL_law 248 = .ok (.iload 4, 2) := by decide +kernel
theorem dL_law_250 : decode cL_law 250 = .ok (.iconst 4, 1) := by decide +kernel
theorem dL_law_251 : decode cL_law 251 = .ok (.iadd, 1) := by decide +kernel
theorem dL_law_252 : decode cL_law 252 = .ok (.iaload, 1) := by decide +kernel
theorem dL_law_253 : decode cL_law 253 = .ok (.aload_n 0, 1) := by decide +kernel
theorem dL_law_254 : decode cL_law 254 = .ok (.iload 4, 2) := by decide +kernel
theorem dL_law_256 : decode cL_law 256 = .ok (.iconst 5, 1) := by decide +kernel
theorem dL_law_257 : decode cL_law 257 = .ok (.iadd, 1) := by decide +kernel
theorem dL_law_258 : decode cL_law 258 = .ok (.iaload, 1) := by decide +kernel
theorem dL_law_259 : decode cL_law 259 = .ok (.invokevirtual 21, 3) := by decide +kernel
theorem dL_law_262 : decode cL_law 262 = .ok (.aload_n 2, 1) := by decide +kernel
theorem dL_law_263 : decode cL_law 263 = .ok (.aload_n 0, 1) := by decide +kernel
theorem dL_law_264 : decode cL_law 264 = .ok (.iload 4, 2) := by decide +kernel
theorem dL_law_266 : decode cL_law 266 = .ok (.iconst 1, 1) := by decide +kernel
theorem dL_law_267 : decode cL_law 267 = .ok (.iadd, 1) := by decide +kernel
theorem dL_law_268 : decode cL_law 268 = .ok (.iaload, 1) := by decide +kernel
theorem dL_law_269 : decode cL_law 269 = .ok (.aload_n 0, 1) := by decide +kernel
theorem dL_law_270 : decode cL_law 270 = .ok (.iload 4, 2) := by decide +kernel
theorem dL_law_272 : decode cL_law 272 = .ok (.iconst 2, 1) := by decide +kernel
theorem dL_law_273 : decode cL_law 273 = .ok (.iadd, 1) := by decide +kernel
theorem dL_law_274 : decode cL_law 274 = .ok (.iaload, 1) := by decide +kernel
theorem dL_law_275 : decode cL_law 275 = .ok (.aload_n 0, 1) := by decide +kernel
theorem dL_law_276 : decode cL_law 276 = .ok (.iload 4, 2) := by decide +kernel
theorem dL_law_278 : decode cL_law 278 = .ok (.iconst 3, 1) := by decide +kernel
theorem dL_law_279 : decode cL_law 279 = .ok (.iadd, 1) := by decide +kernel
theorem dL_law_280 : decode cL_law 280 = .ok (.iaload, 1) := by decide +kernel
theorem dL_law_281 : decode cL_law 281 = .ok (.aload_n 0, 1) := by decide +kernel
theorem dL_law_282 : decode cL_law 282 = .ok (.iload 4, 2) := by decide +kernel
theorem dL_law_284 : decode cL_law 284 = .ok (.iconst 4, 1) := by decide +kernel
theorem dL_law_285 : decode cL_law 285 = .ok (.iadd, 1) := by decide +kernel
theorem dL_law_286 : decode cL_law 286 = .ok (.iaload, 1) := by decide +kernel
theorem dL_law_287 : decode cL_law 287 = .ok (.aload_n 0, 1) := by decide +kernel
theorem dL_law_288 : decode cL_law 288 = .ok (.iload 4, 2) := by decide +kernel
theorem dL_law_290 : decode cL_law 290 = .ok (.iconst 5, 1) := by decide +kernel
theorem dL_law_291 : decode cL_law 291 = .ok (.iadd, 1) := by decide +kernel
theorem dL_law_292 : decode cL_law 292 = .ok (.iaload, 1) := by decide +kernel
theorem dL_law_293 : decode cL_law 293 = .ok (.invokevirtual 25, 3) := by decide +kernel
theorem dL_law_296 : decode cL_law 296 = .ok (.if_icmp .eq 1429, 3) := by decide +kernel
theorem dL_law_299 : decode cL_law 299 = .ok (.iconst 0, 1) := by decide +kernel
theorem dL_law_300 : decode cL_law 300 = .ok (.ireturn, 1) := by decide +kernel
theorem dL_law_301 : decode cL_law 301 = .ok (.aload_n 1, 1) := by decide +kernel
theorem dL_law_302 : decode cL_law 302 = .ok (.aload_n 0, 1) := by decide +kernel
theorem dL_law_303 : decode cL_law 303 = .ok (.iload 4, 2) := by decide +kernel
theorem dL_law_305 : decode cL_law 305 = .ok (.iconst 1, 1) := by decide +kernel
theorem dL_law_306 : decode cL_law 306 = .ok (.iadd, 1) := by decide +kernel
theorem dL_law_307 : decode cL_law 307 = .ok (.iaload, 1) := by decide +kernel
theorem dL_law_308 : decode cL_law 308 = .ok (.invokevirtual 26, 3) := by decide +kernel
theorem dL_law_311 : decode cL_law 311 = .ok (.aload_n 2, 1) := by decide +kernel
theorem dL_law_312 : decode cL_law 312 = .ok (.aload_n 0, 1) := by decide +kernel
theorem dL_law_313 : decode cL_law 313 = .ok (.iload 4, 2) := by decide +kernel
theorem dL_law_315 : decode cL_law 315 = .ok (.iconst 1, 1) := by decide +kernel
theorem dL_law_316 : decode cL_law 316 = .ok (.iadd, 1) := by decide +kernel
theorem dL_law_317 : decode cL_law 317 = .ok (.iaload, 1) := by decide +kernel
theorem dL_law_318 : decode cL_law 318 = .ok (.invokevirtual 30, 3) := by decide +kernel
theorem dL_law_321 : decode cL_law 321 = .ok (.if_icmp .eq 1404, 3) := by decide +kernel
theorem dL_law_324 : decode cL_law 324 = .ok (.iconst 0, 1) := by decide +kernel
theorem dL_law_325 : decode cL_law 325 = .ok (.ireturn, 1) := by decide +kernel
theorem dL_law_326 : decode cL_law 326 = .ok (.aload_n 1, 1) := by decide +kernel
theorem dL_law_327 : decode cL_law 327 = .ok (.aload_n 0, 1) := by decide +kernel
theorem dL_law_328 : decode cL_law 328 = .ok (.iload 4, 2) := by decide +kernel
theorem dL_law_330 : decode cL_law 330 = .ok (.iconst 1, 1) := by decide +kernel
theorem dL_law_331 : decode cL_law 331 = .ok (.iadd, 1) := by decide +kernel
theorem dL_law_332 : decode cL_law 332 = .ok (.iaload, 1) := by decide +kernel
theorem dL_law_333 : decode cL_law 333 = .ok (.invokevirtual 31, 3) := by decide +kernel
theorem dL_law_336 : decode cL_law 336 = .ok (.aload_n 2, 1) := by decide +kernel
theorem dL_law_337 : decode cL_law 337 = .ok (.aload_n 0, 1) := by decide +kernel
theorem dL_law_338 : decode cL_law 338 = .ok (.iload 4, 2) := by decide +kernel
theorem dL_law_340 : decode cL_law 340 = .ok (.iconst 1, 1) := by decide +kernel
theorem dL_law_341 : decode cL_law 341 = .ok (.iadd, 1) := by decide +kernel
theorem dL_law_342 : decode cL_law 342 = .ok (.iaload, 1) := by decide +kernel
theorem dL_law_343 : decode cL_law 343 = .ok (.invokevirtual 34, 3) := by decide +kernel
theorem dL_law_346 : decode cL_law 346 = .ok (.if_icmp .eq 1379, 3) := by decide +kernel
theorem dL_law_349 : decode cL_law 349 = .ok (.iconst 0, 1) := by decide +kernel
theorem dL_law_350 : decode cL_law 350 = .ok (.ireturn, 1) := by decide +kernel
theorem dL_law_351 : decode cL_law 351 = .ok (.aload_n 1, 1) := by decide +kernel
theorem dL_law_352 : decode cL_law 352 = .ok (.aload_n 0, 1) := by decide +kernel
theorem dL_law_353 : decode cL_law 353 = .ok (.iload 4, 2) := by decide +kernel
theorem dL_law_355 : decode cL_law 355 = .ok (.iconst 1, 1) := by decide +kernel
theorem dL_law_356 : decode cL_law 356 = .ok (.iadd, 1) := by decide +kernel
theorem dL_law_357 : decode cL_law 357 = .ok (.iaload, 1) := by decide +kernel
theorem dL_law_358 : decode cL_law 358 = .ok (.aload_n 0, 1) := by decide +kernel
theorem dL_law_359 : decode cL_law 359 = .ok (.iload 4, 2) := by decide +kernel
theorem dL_law_361 : decode cL_law 361 = .ok (.iconst 2, 1) := by decide +kernel
theorem dL_law_362 : decode cL_law 362 = .ok (.iadd, 1) := by decide +kernel
theorem dL_law_363 : decode cL_law 363 = .ok (.iaload, 1) := by decide +kernel
theorem dL_law_364 : decode cL_law 364 = .ok (.invokevirtual 35, 3) := by decide +kernel
theorem dL_law_367 : decode cL_law 367 = .ok (.aload_n 2, 1) := by decide +kernel
theorem dL_law_368 : decode cL_law 368 = .ok (.aload_n 0, 1) := by decide +kernel
theorem dL_law_369 : decode cL_law 369 = .ok (.iload 4, 2) := by decide +kernel
theorem dL_law_371 : decode cL_law 371 = .ok (.iconst 1, 1) := by decide +kernel
theorem dL_law_372 : decode cL_law 372 = .ok (.iadd, 1) := by decide +kernel
theorem dL_law_373 : decode cL_law 373 = .ok (.iaload, 1) := by decide +kernel
theorem dL_law_374 : decode cL_law 374 = .ok (.aload_n 0, 1) := by decide +kernel
theorem dL_law_375 : decode cL_law 375 = .ok (.iload 4, 2) := by decide +kernel
theorem dL_law_377 : decode cL_law 377 = .ok (.iconst 2, 1) := by decide +kernel
theorem dL_law_378 : decode cL_law 378 = .ok (.iadd, 1) := by decide +kernel
theorem dL_law_379 : decode cL_law 379 = .ok (.iaload, 1) := by decide +kernel
theorem dL_law_380 : decode cL_law 380 = .ok (.invokevirtual 38, 3) := by decide +kernel
theorem dL_law_383 : decode cL_law 383 = .ok (.if_icmp .eq 1342, 3) := by decide +kernel
theorem dL_law_386 : decode cL_law 386 = .ok (.iconst 0, 1) := by decide +kernel
theorem dL_law_387 : decode cL_law 387 = .ok (.ireturn, 1) := by decide +kernel
theorem dL_law_388 : decode cL_law 388 = .ok (.aload_n 1, 1) := by decide +kernel
theorem dL_law_389 : decode cL_law 389 = .ok (.aload_n 0, 1) := by decide +kernel
theorem dL_law_390 : decode cL_law 390 = .ok (.iload 4, 2) := by decide +kernel
theorem dL_law_392 : decode cL_law 392 = .ok (.iconst 1, 1) := by decide +kernel
theorem dL_law_393 : decode cL_law 393 = .ok (.iadd, 1) := by decide +kernel
theorem dL_law_394 : decode cL_law 394 = .ok (.iaload, 1) := by decide +kernel
theorem dL_law_395 : decode cL_law 395 = .ok (.aload_n 0, 1) := by decide +kernel
theorem dL_law_396 : decode cL_law 396 = .ok (.iload 4, 2) := by decide +kernel
theorem dL_law_398 : decode cL_law 398 = .ok (.iconst 2, 1) := by decide +kernel
theorem dL_law_399 : decode cL_law 399 = .ok (.iadd, 1) := by decide +kernel
theorem dL_law_400 : decode cL_law 400 = .ok (.iaload, 1) := by decide +kernel
theorem dL_law_401 : decode cL_law 401 = .ok (.aload_n 3, 1) := by decide +kernel
theorem dL_law_402 : decode cL_law 402 = .ok (.invokestatic 39, 3) := by decide +kernel
theorem dL_law_405 : decode cL_law 405 = .ok (.istore 5, 2) := by decide +kernel
theorem dL_law_407 : decode cL_law 407 = .ok (.aload_n 2, 1) := by decide +kernel
theorem dL_law_408 : decode cL_law 408 = .ok (.aload_n 0, 1) := by decide +kernel
theorem dL_law_409 : decode cL_law 409 = .ok (.iload 4, 2) := by decide +kernel
theorem dL_law_411 : decode cL_law 411 = .ok (.iconst 1, 1) := by decide +kernel
theorem dL_law_412 : decode cL_law 412 = .ok (.iadd, 1) := by decide +kernel
theorem dL_law_413 : decode cL_law 413 = .ok (.iaload, 1) := by decide +kernel
theorem dL_law_414 : decode cL_law 414 = .ok (.aload_n 0, 1) := by decide +kernel
theorem dL_law_415 : decode cL_law 415 = .ok (.iload 4, 2) := by decide +kernel
theorem dL_law_417 : decode cL_law 417 = .ok (.iconst 2, 1) := by decide +kernel
theorem dL_law_418 : decode cL_law 418 = .ok (.iadd, 1) := by decide +kernel
theorem dL_law_419 : decode cL_law 419 = .ok (.iaload, 1) := by decide +kernel
theorem dL_law_420 : decode cL_law 420 = .ok (.invokevirtual 44, 3) := by decide +kernel
theorem dL_law_423 : decode cL_law 423 = .ok (.istore 6, 2) := by decide +kernel
theorem dL_law_425 : decode cL_law 425 = .ok (.aload_n 2, 1) := by decide +kernel
theorem dL_law_426 : decode cL_law 426 = .ok (.invokevirtual 45, 3) := by decide +kernel
theorem dL_law_429 : decode cL_law 429 = .ok (.iload 5, 2) := by decide +kernel
theorem dL_law_431 : decode cL_law 431 = .ok (.if_icmp .eq 5, 3) := by decide +kernel
theorem dL_law_434 : decode cL_law 434 = .ok (.iconst 0, 1) := by decide +kernel
theorem dL_law_435 : decode cL_law 435 = .ok (.ireturn, 1) := by decide +kernel
theorem dL_law_436 : decode cL_law 436 = .ok (.iload 5, 2) := by decide +kernel
theorem dL_law_438 : decode cL_law 438 = .ok (.ifCond .ne 15, 3) := by decide +kernel
theorem dL_law_441 : decode cL_law 441 = .ok (.aload_n 3, 1) := by decide +kernel
theorem dL_law_442 : decode cL_law 442 = .ok (.iconst 0, 1) := by decide +kernel
theorem dL_law_443 : decode cL_law 443 = .ok (.laload, 1) := by decide +kernel
theorem dL_law_444 : decode cL_law 444 = .ok (.iload 6, 2) := by decide +kernel
theorem dL_law_446 : decode cL_law 446 = .ok (.i2l, 1) := by decide +kernel
theorem dL_law_447 : decode cL_law 447 = .ok (.lcmp, 1) := by decide +kernel
theorem dL_law_448 : decode cL_law 448 = .ok (.ifCond .eq 5, 3) := by decide +kernel
theorem dL_law_451 : decode cL_law 451 = .ok (.iconst 0, 1) := by decide +kernel
theorem dL_law_452 : decode cL_law 452 = .ok (.ireturn, 1) := by decide +kernel
theorem dL_law_453 : decode cL_law 453 = .ok (.goto 1272, 3) := by decide +kernel
theorem dL_law_456 : decode cL_law 456 = .ok (.aload_n 1, 1) := by decide +kernel
theorem dL_law_457 : decode cL_law 457 = .ok (.aload_n 0, 1) := by decide +kernel
theorem dL_law_458 : decode cL_law 458 = .ok (.iload 4, 2) := by decide +kernel
theorem dL_law_460 : decode cL_law 460 = .ok (.iconst 1, 1) := by decide +kernel
theorem dL_law_461 : decode cL_law 461 = .ok (.iadd, 1) := by decide +kernel
theorem dL_law_462 : decode cL_law 462 = .ok (.iaload, 1) := by decide +kernel
theorem dL_law_463 : decode cL_law 463 = .ok (.aload_n 0, 1) := by decide +kernel
theorem dL_law_464 : decode cL_law 464 = .ok (.iload 4, 2) := by decide +kernel
theorem dL_law_466 : decode cL_law 466 = .ok (.iconst 2, 1) := by decide +kernel
theorem dL_law_467 : decode cL_law 467 = .ok (.iadd, 1) := by decide +kernel
theorem dL_law_468 : decode cL_law 468 = .ok (.iaload, 1) := by decide +kernel
theorem dL_law_469 : decode cL_law 469 = .ok (.invokevirtual 49, 3) := by decide +kernel
theorem dL_law_472 : decode cL_law 472 = .ok (.aload_n 2, 1) := by decide +kernel
theorem dL_law_473 : decode cL_law 473 = .ok (.aload_n 0, 1) := by decide +kernel
theorem dL_law_474 : decode cL_law 474 = .ok (.iload 4, 2) := by decide +kernel
theorem dL_law_476 : decode cL_law 476 = .ok (.iconst 1, 1) := by decide +kernel
theorem dL_law_477 : decode cL_law 477 = .ok (.iadd, 1) := by decide +kernel
theorem dL_law_478 : decode cL_law 478 = .ok (.iaload, 1) := by decide +kernel
theorem dL_law_479 : decode cL_law 479 = .ok (.aload_n 0, 1) := by decide +kernel
theorem dL_law_480 : decode cL_law 480 = .ok (.iload 4, 2) := by decide +kernel
theorem dL_law_482 : decode cL_law 482 = .ok (.iconst 2, 1) := by decide +kernel
theorem dL_law_483 : decode cL_law 483 = .ok (.iadd, 1) := by decide +kernel
theorem dL_law_484 : decode cL_law 484 = .ok (.iaload, 1) := by decide +kernel
theorem dL_law_485 : decode cL_law 485 = .ok (.invokevirtual 52, 3) := by decide +kernel
theorem dL_law_488 : decode cL_law 488 = .ok (.if_icmp .eq 1237, 3) := by decide +kernel
theorem dL_law_491 : decode cL_law 491 = .ok (.iconst 0, 1) := by decide +kernel
theorem dL_law_492 : decode cL_law 492 = .ok (.ireturn, 1) := by decide +kernel
theorem dL_law_493 : decode cL_law 493 = .ok (.aload_n 1, 1) := by decide +kernel
theorem dL_law_494 : decode cL_law 494 = .ok (.aload_n 0, 1) := by decide +kernel
theorem dL_law_495 : decode cL_law 495 = .ok (.iload 4, 2) := by decide +kernel
theorem dL_law_497 : decode cL_law 497 = .ok (.iconst 1, 1) := by decide +kernel
theorem dL_law_498 : decode cL_law 498 = .ok (.iadd, 1) := by decide +kernel
theorem dL_law_499 : decode cL_law 499 = .ok (.iaload, 1) := by decide +kernel
theorem dL_law_500 : decode cL_law 500 = .ok (.invokevirtual 53, 3) := by decide +kernel
theorem dL_law_503 : decode cL_law 503 = .ok (.aload_n 2, 1) := by decide +kernel
theorem dL_law_504 : decode cL_law 504 = .ok (.aload_n 0, 1) := by decide +kernel
theorem dL_law_505 : decode cL_law 505 = .ok (.iload 4, 2) := by decide +kernel
theorem dL_law_507 : decode cL_law 507 = .ok (.iconst 1, 1) := by decide +kernel
theorem dL_law_508 : decode cL_law 508 = .ok (.iadd, 1) := by decide +kernel
theorem dL_law_509 : decode cL_law 509 = .ok (.iaload, 1) := by decide +kernel
theorem dL_law_510 : decode cL_law 510 = .ok (.invokevirtual 56, 3) := by decide +kernel
theorem dL_law_513 : decode cL_law 513 = .ok (.if_icmp .eq 1212, 3) := by decide +kernel
theorem dL_law_516 : decode cL_law 516 = .ok (.iconst 0, 1) := by decide +kernel
theorem dL_law_517 : decode cL_law 517 = .ok (.ireturn, 1) := by decide +kernel
theorem dL_law_518 : decode cL_law 518 = .ok (.aload_n 1, 1) := by decide +kernel
theorem dL_law_519 : decode cL_law 519 = .ok (.aload_n 0, 1) := by decide +kernel
theorem dL_law_520 : decode cL_law 520 = .ok (.iload 4, 2) := by decide +kernel
theorem dL_law_522 : decode cL_law 522 = .ok (.iconst 1, 1) := by decide +kernel
theorem dL_law_523 : decode cL_law 523 = .ok (.iadd, 1) := by decide +kernel
theorem dL_law_524 : decode cL_law 524 = .ok (.iaload, 1) := by decide +kernel
theorem dL_law_525 : decode cL_law 525 = .ok (.aload_n 0, 1) := by decide +kernel
theorem dL_law_526 : decode cL_law 526 = .ok (.iload 4, 2) := by decide +kernel
theorem dL_law_528 : decode cL_law 528 = .ok (.iconst 2, 1) := by decide +kernel
theorem dL_law_529 : decode cL_law 529 = .ok (.iadd, 1) := by decide +kernel
theorem dL_law_530 : decode cL_law 530 = .ok (.iaload, 1) := by decide +kernel
theorem dL_law_531 : decode cL_law 531 = .ok (.aload_n 0, 1) := by decide +kernel
theorem dL_law_532 : decode cL_law 532 = .ok (.iload 4, 2) := by decide +kernel
theorem dL_law_534 : decode cL_law 534 = .ok (.iconst 3, 1) := by decide +kernel
theorem dL_law_535 : decode cL_law 535 = .ok (.iadd, 1) := by decide +kernel
theorem dL_law_536 : decode cL_law 536 = .ok (.iaload, 1) := by decide +kernel
theorem dL_law_537 : decode cL_law 537 = .ok (.invokevirtual 57, 3) := by decide +kernel
theorem dL_law_540 : decode cL_law 540 = .ok (.aload_n 2, 1) := by decide +kernel
theorem dL_law_541 : decode cL_law 541 = .ok (.aload_n 0, 1) := by decide +kernel
theorem dL_law_542 : decode cL_law 542 = .ok (.iload 4, 2) := by decide +kernel
theorem dL_law_544 : decode cL_law 544 = .ok (.iconst 1, 1) := by decide +kernel
theorem dL_law_545 : decode cL_law 545 = .ok (.iadd, 1) := by decide +kernel
theorem dL_law_546 : decode cL_law 546 = .ok (.iaload, 1) := by decide +kernel
theorem dL_law_547 : decode cL_law 547 = .ok (.aload_n 0, 1) := by decide +kernel
theorem dL_law_548 : decode cL_law 548 = .ok (.iload 4, 2) := by decide +kernel
theorem dL_law_550 : decode cL_law 550 = .ok (.iconst 2, 1) := by decide +kernel
theorem dL_law_551 : decode cL_law 551 = .ok (.iadd, 1) := by decide +kernel
theorem dL_law_552 : decode cL_law 552 = .ok (.iaload, 1) := by decide +kernel
theorem dL_law_553 : decode cL_law 553 = .ok (.aload_n 0, 1) := by decide +kernel
theorem dL_law_554 : decode cL_law 554 = .ok (.iload 4, 2) := by decide +kernel
theorem dL_law_556 : decode cL_law 556 = .ok (.iconst 3, 1) := by decide +kernel
theorem dL_law_557 : decode cL_law 557 = .ok (.iadd, 1) := by decide +kernel
theorem dL_law_558 : decode cL_law 558 = .ok (.iaload, 1) := by decide +kernel
theorem dL_law_559 : decode cL_law 559 = .ok (.invokevirtual 61, 3) := by decide +kernel
theorem dL_law_562 : decode cL_law 562 = .ok (.lcmp, 1) := by decide +kernel
theorem dL_law_563 : decode cL_law 563 = .ok (.ifCond .eq 1162, 3) := by decide +kernel
theorem dL_law_566 : decode cL_law 566 = .ok (.iconst 0, 1) := by decide +kernel
theorem dL_law_567 : decode cL_law 567 = .ok (.ireturn, 1) := by decide +kernel
theorem dL_law_568 : decode cL_law 568 = .ok (.aload_n 1, 1) := by decide +kernel
theorem dL_law_569 : decode cL_law 569 = .ok (.aload_n 0, 1) := by decide +kernel
theorem dL_law_570 : decode cL_law 570 = .ok (.iload 4, 2) := by decide +kernel
theorem dL_law_572 : decode cL_law 572 = .ok (.iconst 1, 1) := by decide +kernel
theorem dL_law_573 : decode cL_law 573 = .ok (.iadd, 1) := by decide +kernel
theorem dL_law_574 : decode cL_law 574 = .ok (.iaload, 1) := by decide +kernel
theorem dL_law_575 : decode cL_law 575 = .ok (.invokevirtual 62, 3) := by decide +kernel
theorem dL_law_578 : decode cL_law 578 = .ok (.aload_n 2, 1) := by decide +kernel
theorem dL_law_579 : decode cL_law 579 = .ok (.aload_n 0, 1) := by decide +kernel
theorem dL_law_580 : decode cL_law 580 = .ok (.iload 4, 2) := by decide +kernel
theorem dL_law_582 : decode cL_law 582 = .ok (.iconst 1, 1) := by decide +kernel
theorem dL_law_583 : decode cL_law 583 = .ok (.iadd, 1) := by decide +kernel
theorem dL_law_584 : decode cL_law 584 = .ok (.iaload, 1) := by decide +kernel
theorem dL_law_585 : decode cL_law 585 = .ok (.invokevirtual 65, 3) := by decide +kernel
theorem dL_law_588 : decode cL_law 588 = .ok (.if_icmp .eq 1137, 3) := by decide +kernel
theorem dL_law_591 : decode cL_law 591 = .ok (.iconst 0, 1) := by decide +kernel
theorem dL_law_592 : decode cL_law 592 = .ok (.ireturn, 1) := by decide +kernel
theorem dL_law_593 : decode cL_law 593 = .ok (.aload_n 1, 1) := by decide +kernel
theorem dL_law_594 : decode cL_law 594 = .ok (.aload_n 0, 1) := by decide +kernel
theorem dL_law_595 : decode cL_law 595 = .ok (.iload 4, 2) := by decide +kernel
theorem dL_law_597 : decode cL_law 597 = .ok (.iconst 1, 1) := by decide +kernel
theorem dL_law_598 : decode cL_law 598 = .ok (.iadd, 1) := by decide +kernel
theorem dL_law_599 : decode cL_law 599 = .ok (.iaload, 1) := by decide +kernel
theorem dL_law_600 : decode cL_law 600 = .ok (.invokevirtual 66, 3) := by decide +kernel
theorem dL_law_603 : decode cL_law 603 = .ok (.aload_n 2, 1) := by decide +kernel
theorem dL_law_604 : decode cL_law 604 = .ok (.aload_n 0, 1) := by decide +kernel
theorem dL_law_605 : decode cL_law 605 = .ok (.iload 4, 2) := by decide +kernel
theorem dL_law_607 : decode cL_law 607 = .ok (.iconst 1, 1) := by decide +kernel
theorem dL_law_608 : decode cL_law 608 = .ok (.iadd, 1) := by decide +kernel
theorem dL_law_609 : decode cL_law 609 = .ok (.iaload, 1) := by decide +kernel
theorem dL_law_610 : decode cL_law 610 = .ok (.invokevirtual 70, 3) := by decide +kernel
theorem dL_law_613 : decode cL_law 613 = .ok (.if_icmp .eq 1112, 3) := by decide +kernel
theorem dL_law_616 : decode cL_law 616 = .ok (.iconst 0, 1) := by decide +kernel
theorem dL_law_617 : decode cL_law 617 = .ok (.ireturn, 1) := by decide +kernel
theorem dL_law_618 : decode cL_law 618 = .ok (.aload_n 1, 1) := by decide +kernel
theorem dL_law_619 : decode cL_law 619 = .ok (.aload_n 0, 1) := by decide +kernel
theorem dL_law_620 : decode cL_law 620 = .ok (.iload 4, 2) := by decide +kernel
theorem dL_law_622 : decode cL_law 622 = .ok (.iconst 1, 1) := by decide +kernel
theorem dL_law_623 : decode cL_law 623 = .ok (.iadd, 1) := by decide +kernel
theorem dL_law_624 : decode cL_law 624 = .ok (.iaload, 1) := by decide +kernel
theorem dL_law_625 : decode cL_law 625 = .ok (.aload_n 0, 1) := by decide +kernel
theorem dL_law_626 : decode cL_law 626 = .ok (.iload 4, 2) := by decide +kernel
theorem dL_law_628 : decode cL_law 628 = .ok (.iconst 2, 1) := by decide +kernel
theorem dL_law_629 : decode cL_law 629 = .ok (.iadd, 1) := by decide +kernel
theorem dL_law_630 : decode cL_law 630 = .ok (.iaload, 1) := by decide +kernel
theorem dL_law_631 : decode cL_law 631 = .ok (.aload_n 0, 1) := by decide +kernel
theorem dL_law_632 : decode cL_law 632 = .ok (.iload 4, 2) := by decide +kernel
theorem dL_law_634 : decode cL_law 634 = .ok (.iconst 3, 1) := by decide +kernel
theorem dL_law_635 : decode cL_law 635 = .ok (.iadd, 1) := by decide +kernel
theorem dL_law_636 : decode cL_law 636 = .ok (.iaload, 1) := by decide +kernel
theorem dL_law_637 : decode cL_law 637 = .ok (.invokevirtual 71, 3) := by decide +kernel
theorem dL_law_640 : decode cL_law 640 = .ok (.aload_n 2, 1) := by decide +kernel
theorem dL_law_641 : decode cL_law 641 = .ok (.aload_n 0, 1) := by decide +kernel
theorem dL_law_642 : decode cL_law 642 = .ok (.iload 4, 2) := by decide +kernel
theorem dL_law_644 : decode cL_law 644 = .ok (.iconst 1, 1) := by decide +kernel
theorem dL_law_645 : decode cL_law 645 = .ok (.iadd, 1) := by decide +kernel
theorem dL_law_646 : decode cL_law 646 = .ok (.iaload, 1) := by decide +kernel
theorem dL_law_647 : decode cL_law 647 = .ok (.aload_n 0, 1) := by decide +kernel
theorem dL_law_648 : decode cL_law 648 = .ok (.iload 4, 2) := by decide +kernel
theorem dL_law_650 : decode cL_law 650 = .ok (.iconst 2, 1) := by decide +kernel
theorem dL_law_651 : decode cL_law 651 = .ok (.iadd, 1) := by decide +kernel
theorem dL_law_652 : decode cL_law 652 = .ok (.iaload, 1) := by decide +kernel
theorem dL_law_653 : decode cL_law 653 = .ok (.aload_n 0, 1) := by decide +kernel
theorem dL_law_654 : decode cL_law 654 = .ok (.iload 4, 2) := by decide +kernel
theorem dL_law_656 : decode cL_law 656 = .ok (.iconst 3, 1) := by decide +kernel
theorem dL_law_657 : decode cL_law 657 = .ok (.iadd, 1) := by decide +kernel
theorem dL_law_658 : decode cL_law 658 = .ok (.iaload, 1) := by decide +kernel
theorem dL_law_659 : decode cL_law 659 = .ok (.invokevirtual 75, 3) := by decide +kernel
theorem dL_law_662 : decode cL_law 662 = .ok (.if_icmp .eq 1063, 3) := by decide +kernel
theorem dL_law_665 : decode cL_law 665 = .ok (.iconst 0, 1) := by decide +kernel
theorem dL_law_666 : decode cL_law 666 = .ok (.ireturn, 1) := by decide +kernel
theorem dL_law_667 : decode cL_law 667 = .ok (.aload_n 1, 1) := by decide +kernel
theorem dL_law_668 : decode cL_law 668 = .ok (.aload_n 0, 1) := by decide +kernel
theorem dL_law_669 : decode cL_law 669 = .ok (.iload 4, 2) := by decide +kernel
theorem dL_law_671 : decode cL_law 671 = .ok (.iconst 1, 1) := by decide +kernel
theorem dL_law_672 : decode cL_law 672 = .ok (.iadd, 1) := by decide +kernel
theorem dL_law_673 : decode cL_law 673 = .ok (.iaload, 1) := by decide +kernel
theorem dL_law_674 : decode cL_law 674 = .ok (.invokevirtual 76, 3) := by decide +kernel
theorem dL_law_677 : decode cL_law 677 = .ok (.aload_n 2, 1) := by decide +kernel
theorem dL_law_678 : decode cL_law 678 = .ok (.aload_n 0, 1) := by decide +kernel
theorem dL_law_679 : decode cL_law 679 = .ok (.iload 4, 2) := by decide +kernel
theorem dL_law_681 : decode cL_law 681 = .ok (.iconst 1, 1) := by decide +kernel
theorem dL_law_682 : decode cL_law 682 = .ok (.iadd, 1) := by decide +kernel
theorem dL_law_683 : decode cL_law 683 = .ok (.iaload, 1) := by decide +kernel
theorem dL_law_684 : decode cL_law 684 = .ok (.invokevirtual 79, 3) := by decide +kernel
theorem dL_law_687 : decode cL_law 687 = .ok (.if_icmp .eq 1038, 3) := by decide +kernel
theorem dL_law_690 : decode cL_law 690 = .ok (.iconst 0, 1) := by decide +kernel
theorem dL_law_691 : decode cL_law 691 = .ok (.ireturn, 1) := by decide +kernel
theorem dL_law_692 : decode cL_law 692 = .ok (.aload_n 1, 1) := by decide +kernel
theorem dL_law_693 : decode cL_law 693 = .ok (.aload_n 0, 1) := by decide +kernel
theorem dL_law_694 : decode cL_law 694 = .ok (.iload 4, 2) := by decide +kernel
theorem dL_law_696 : decode cL_law 696 = .ok (.iconst 1, 1) := by decide +kernel
theorem dL_law_697 : decode cL_law 697 = .ok (.iadd, 1) := by decide +kernel
theorem dL_law_698 : decode cL_law 698 = .ok (.iaload, 1) := by decide +kernel
theorem dL_law_699 : decode cL_law 699 = .ok (.aload_n 0, 1) := by decide +kernel
theorem dL_law_700 : decode cL_law 700 = .ok (.iload 4, 2) := by decide +kernel
theorem dL_law_702 : decode cL_law 702 = .ok (.iconst 2, 1) := by decide +kernel
theorem dL_law_703 : decode cL_law 703 = .ok (.iadd, 1) := by decide +kernel
theorem dL_law_704 : decode cL_law 704 = .ok (.iaload, 1) := by decide +kernel
theorem dL_law_705 : decode cL_law 705 = .ok (.aload_n 0, 1) := by decide +kernel
theorem dL_law_706 : decode cL_law 706 = .ok (.iload 4, 2) := by decide +kernel
theorem dL_law_708 : decode cL_law 708 = .ok (.iconst 3, 1) := by decide +kernel
theorem dL_law_709 : decode cL_law 709 = .ok (.iadd, 1) := by decide +kernel
theorem dL_law_710 : decode cL_law 710 = .ok (.iaload, 1) := by decide +kernel
theorem dL_law_711 : decode cL_law 711 = .ok (.invokevirtual 80, 3) := by decide +kernel
theorem dL_law_714 : decode cL_law 714 = .ok (.aload_n 2, 1) := by decide +kernel
theorem dL_law_715 : decode cL_law 715 = .ok (.aload_n 0, 1) := by decide +kernel
theorem dL_law_716 : decode cL_law 716 = .ok (.iload 4, 2) := by decide +kernel
theorem dL_law_718 : decode cL_law 718 = .ok (.iconst 1, 1) := by decide +kernel
theorem dL_law_719 : decode cL_law 719 = .ok (.iadd, 1) := by decide +kernel
theorem dL_law_720 : decode cL_law 720 = .ok (.iaload, 1) := by decide +kernel
theorem dL_law_721 : decode cL_law 721 = .ok (.aload_n 0, 1) := by decide +kernel
theorem dL_law_722 : decode cL_law 722 = .ok (.iload 4, 2) := by decide +kernel
theorem dL_law_724 : decode cL_law 724 = .ok (.iconst 2, 1) := by decide +kernel
theorem dL_law_725 : decode cL_law 725 = .ok (.iadd, 1) := by decide +kernel
theorem dL_law_726 : decode cL_law 726 = .ok (.iaload, 1) := by decide +kernel
theorem dL_law_727 : decode cL_law 727 = .ok (.aload_n 0, 1) := by decide +kernel
theorem dL_law_728 : decode cL_law 728 = .ok (.iload 4, 2) := by decide +kernel
theorem dL_law_730 : decode cL_law 730 = .ok (.iconst 3, 1) := by decide +kernel
theorem dL_law_731 : decode cL_law 731 = .ok (.iadd, 1) := by decide +kernel
theorem dL_law_732 : decode cL_law 732 = .ok (.iaload, 1) := by decide +kernel
theorem dL_law_733 : decode cL_law 733 = .ok (.invokevirtual 83, 3) := by decide +kernel
theorem dL_law_736 : decode cL_law 736 = .ok (.if_icmp .eq 989, 3) := by decide +kernel
theorem dL_law_739 : decode cL_law 739 = .ok (.iconst 0, 1) := by decide +kernel
theorem dL_law_740 : decode cL_law 740 = .ok (.ireturn, 1) := by decide +kernel
theorem dL_law_741 : decode cL_law 741 = .ok (.aload_n 1, 1) := by decide +kernel
theorem dL_law_742 : decode cL_law 742 = .ok (.aload_n 0, 1) := by decide +kernel
theorem dL_law_743 : decode cL_law 743 = .ok (.iload 4, 2) := by decide +kernel
theorem dL_law_745 : decode cL_law 745 = .ok (.iconst 1, 1) := by decide +kernel
theorem dL_law_746 : decode cL_law 746 = .ok (.iadd, 1) := by decide +kernel
theorem dL_law_747 : decode cL_law 747 = .ok (.iaload, 1) := by decide +kernel
theorem dL_law_748 : decode cL_law 748 = .ok (.invokevirtual 84, 3) := by decide +kernel
theorem dL_law_751 : decode cL_law 751 = .ok (.aload_n 2, 1) := by decide +kernel
theorem dL_law_752 : decode cL_law 752 = .ok (.aload_n 0, 1) := by decide +kernel
theorem dL_law_753 : decode cL_law 753 = .ok (.iload 4, 2) := by decide +kernel
theorem dL_law_755 : decode cL_law 755 = .ok (.iconst 1, 1) := by decide +kernel
theorem dL_law_756 : decode cL_law 756 = .ok (.iadd, 1) := by decide +kernel
theorem dL_law_757 : decode cL_law 757 = .ok (.iaload, 1) := by decide +kernel
theorem dL_law_758 : decode cL_law 758 = .ok (.invokevirtual 87, 3) := by decide +kernel
theorem dL_law_761 : decode cL_law 761 = .ok (.if_icmp .eq 964, 3) := by decide +kernel
theorem dL_law_764 : decode cL_law 764 = .ok (.iconst 0, 1) := by decide +kernel
theorem dL_law_765 : decode cL_law 765 = .ok (.ireturn, 1) := by decide +kernel
theorem dL_law_766 : decode cL_law 766 = .ok (.aload_n 1, 1) := by decide +kernel
theorem dL_law_767 : decode cL_law 767 = .ok (.aload_n 0, 1) := by decide +kernel
theorem dL_law_768 : decode cL_law 768 = .ok (.iload 4, 2) := by decide +kernel
theorem dL_law_770 : decode cL_law 770 = .ok (.iconst 1, 1) := by decide +kernel
theorem dL_law_771 : decode cL_law 771 = .ok (.iadd, 1) := by decide +kernel
theorem dL_law_772 : decode cL_law 772 = .ok (.iaload, 1) := by decide +kernel
theorem dL_law_773 : decode cL_law 773 = .ok (.invokevirtual 88, 3) := by decide +kernel
theorem dL_law_776 : decode cL_law 776 = .ok (.aload_n 2, 1) := by decide +kernel
theorem dL_law_777 : decode cL_law 777 = .ok (.aload_n 0, 1) := by decide +kernel
theorem dL_law_778 : decode cL_law 778 = .ok (.iload 4, 2) := by decide +kernel
theorem dL_law_780 : decode cL_law 780 = .ok (.iconst 1, 1) := by decide +kernel
theorem dL_law_781 : decode cL_law 781 = .ok (.iadd, 1) := by decide +kernel
theorem dL_law_782 : decode cL_law 782 = .ok (.iaload, 1) := by decide +kernel
theorem dL_law_783 : decode cL_law 783 = .ok (.invokevirtual 91, 3) := by decide +kernel
theorem dL_law_786 : decode cL_law 786 = .ok (.if_icmp .eq 939, 3) := by decide +kernel
theorem dL_law_789 : decode cL_law 789 = .ok (.iconst 0, 1) := by decide +kernel
theorem dL_law_790 : decode cL_law 790 = .ok (.ireturn, 1) := by decide +kernel
theorem dL_law_791 : decode cL_law 791 = .ok (.aload_n 1, 1) := by decide +kernel
theorem dL_law_792 : decode cL_law 792 = .ok (.aload_n 0, 1) := by decide +kernel
theorem dL_law_793 : decode cL_law 793 = .ok (.iload 4, 2) := by decide +kernel
theorem dL_law_795 : decode cL_law 795 = .ok (.iconst 1, 1) := by decide +kernel
theorem dL_law_796 : decode cL_law 796 = .ok (.iadd, 1) := by decide +kernel
theorem dL_law_797 : decode cL_law 797 = .ok (.iaload, 1) := by decide +kernel
theorem dL_law_798 : decode cL_law 798 = .ok (.aload_n 0, 1) := by decide +kernel
theorem dL_law_799 : decode cL_law 799 = .ok (.iload 4, 2) := by decide +kernel
theorem dL_law_801 : decode cL_law 801 = .ok (.iconst 2, 1) := by decide +kernel
theorem dL_law_802 : decode cL_law 802 = .ok (.iadd, 1) := by decide +kernel
theorem dL_law_803 : decode cL_law 803 = .ok (.iaload, 1) := by decide +kernel
theorem dL_law_804 : decode cL_law 804 = .ok (.invokevirtual 92, 3) := by decide +kernel
theorem dL_law_807 : decode cL_law 807 = .ok (.aload_n 2, 1) := by decide +kernel
theorem dL_law_808 : decode cL_law 808 = .ok (.aload_n 0, 1) := by decide +kernel
theorem dL_law_809 : decode cL_law 809 = .ok (.iload 4, 2) := by decide +kernel
theorem dL_law_811 : decode cL_law 811 = .ok (.iconst 1, 1) := by decide +kernel
theorem dL_law_812 : decode cL_law 812 = .ok (.iadd, 1) := by decide +kernel
theorem dL_law_813 : decode cL_law 813 = .ok (.iaload, 1) := by decide +kernel
theorem dL_law_814 : decode cL_law 814 = .ok (.aload_n 0, 1) := by decide +kernel
theorem dL_law_815 : decode cL_law 815 = .ok (.iload 4, 2) := by decide +kernel
theorem dL_law_817 : decode cL_law 817 = .ok (.iconst 2, 1) := by decide +kernel
theorem dL_law_818 : decode cL_law 818 = .ok (.iadd, 1) := by decide +kernel
theorem dL_law_819 : decode cL_law 819 = .ok (.iaload, 1) := by decide +kernel
theorem dL_law_820 : decode cL_law 820 = .ok (.invokevirtual 95, 3) := by decide +kernel
theorem dL_law_823 : decode cL_law 823 = .ok (.if_icmp .eq 902, 3) := by decide +kernel
theorem dL_law_826 : decode cL_law 826 = .ok (.iconst 0, 1) := by decide +kernel
theorem dL_law_827 : decode cL_law 827 = .ok (.ireturn, 1) := by decide +kernel
theorem dL_law_828 : decode cL_law 828 = .ok (.aload_n 1, 1) := by decide +kernel
theorem dL_law_829 : decode cL_law 829 = .ok (.aload_n 0, 1) := by decide +kernel
theorem dL_law_830 : decode cL_law 830 = .ok (.iload 4, 2) := by decide +kernel
theorem dL_law_832 : decode cL_law 832 = .ok (.iconst 1, 1) := by decide +kernel
theorem dL_law_833 : decode cL_law 833 = .ok (.iadd, 1) := by decide +kernel
theorem dL_law_834 : decode cL_law 834 = .ok (.iaload, 1) := by decide +kernel
theorem dL_law_835 : decode cL_law 835 = .ok (.aload_n 0, 1) := by decide +kernel
theorem dL_law_836 : decode cL_law 836 = .ok (.iload 4, 2) := by decide +kernel
theorem dL_law_838 : decode cL_law 838 = .ok (.iconst 2, 1) := by decide +kernel
theorem dL_law_839 : decode cL_law 839 = .ok (.iadd, 1) := by decide +kernel
theorem dL_law_840 : decode cL_law 840 = .ok (.iaload, 1) := by decide +kernel
theorem dL_law_841 : decode cL_law 841 = .ok (.aload_n 0, 1) := by decide +kernel
theorem dL_law_842 : decode cL_law 842 = .ok (.iload 4, 2) := by decide +kernel
theorem dL_law_844 : decode cL_law 844 = .ok (.iconst 3, 1) := by decide +kernel
theorem dL_law_845 : decode cL_law 845 = .ok (.iadd, 1) := by decide +kernel
theorem dL_law_846 : decode cL_law 846 = .ok (.iaload, 1) := by decide +kernel
theorem dL_law_847 : decode cL_law 847 = .ok (.aload_n 0, 1) := by decide +kernel
theorem dL_law_848 : decode cL_law 848 = .ok (.iload 4, 2) := by decide +kernel
theorem dL_law_850 : decode cL_law 850 = .ok (.iconst 4, 1) := by decide +kernel
theorem dL_law_851 : decode cL_law 851 = .ok (.iadd, 1) := by decide +kernel
theorem dL_law_852 : decode cL_law 852 = .ok (.iaload, 1) := by decide +kernel
theorem dL_law_853 : decode cL_law 853 = .ok (.invokevirtual 96, 3) := by decide +kernel
theorem dL_law_856 : decode cL_law 856 = .ok (.aload_n 2, 1) := by decide +kernel
theorem dL_law_857 : decode cL_law 857 = .ok (.aload_n 0, 1) := by decide +kernel
theorem dL_law_858 : decode cL_law 858 = .ok (.iload 4, 2) := by decide +kernel
theorem dL_law_860 : decode cL_law 860 = .ok (.iconst 1, 1) := by decide +kernel
theorem dL_law_861 : decode cL_law 861 = .ok (.iadd, 1) := by decide +kernel
theorem dL_law_862 : decode cL_law 862 = .ok (.iaload, 1) := by decide +kernel
theorem dL_law_863 : decode cL_law 863 = .ok (.aload_n 0, 1) := by decide +kernel
theorem dL_law_864 : decode cL_law 864 = .ok (.iload 4, 2) := by decide +kernel
theorem dL_law_866 : decode cL_law 866 = .ok (.iconst 2, 1) := by decide +kernel
theorem dL_law_867 : decode cL_law 867 = .ok (.iadd, 1) := by decide +kernel
theorem dL_law_868 : decode cL_law 868 = .ok (.iaload, 1) := by decide +kernel
theorem dL_law_869 : decode cL_law 869 = .ok (.aload_n 0, 1) := by decide +kernel
theorem dL_law_870 : decode cL_law 870 = .ok (.iload 4, 2) := by decide +kernel
theorem dL_law_872 : decode cL_law 872 = .ok (.iconst 3, 1) := by decide +kernel
theorem dL_law_873 : decode cL_law 873 = .ok (.iadd, 1) := by decide +kernel
theorem dL_law_874 : decode cL_law 874 = .ok (.iaload, 1) := by decide +kernel
theorem dL_law_875 : decode cL_law 875 = .ok (.aload_n 0, 1) := by decide +kernel
theorem dL_law_876 : decode cL_law 876 = .ok (.iload 4, 2) := by decide +kernel
theorem dL_law_878 : decode cL_law 878 = .ok (.iconst 4, 1) := by decide +kernel
theorem dL_law_879 : decode cL_law 879 = .ok (.iadd, 1) := by decide +kernel
theorem dL_law_880 : decode cL_law 880 = .ok (.iaload, 1) := by decide +kernel
theorem dL_law_881 : decode cL_law 881 = .ok (.invokevirtual 100, 3) := by decide +kernel
theorem dL_law_884 : decode cL_law 884 = .ok (.if_icmp .eq 841, 3) := by decide +kernel
theorem dL_law_887 : decode cL_law 887 = .ok (.iconst 0, 1) := by decide +kernel
theorem dL_law_888 : decode cL_law 888 = .ok (.ireturn, 1) := by decide +kernel
theorem dL_law_889 : decode cL_law 889 = .ok (.aload_n 1, 1) := by decide +kernel
theorem dL_law_890 : decode cL_law 890 = .ok (.aload_n 0, 1) := by decide +kernel
theorem dL_law_891 : decode cL_law 891 = .ok (.iload 4, 2) := by decide +kernel
theorem dL_law_893 : decode cL_law 893 = .ok (.iconst 1, 1) := by decide +kernel
theorem dL_law_894 : decode cL_law 894 = .ok (.iadd, 1) := by decide +kernel
theorem dL_law_895 : decode cL_law 895 = .ok (.iaload, 1) := by decide +kernel
theorem dL_law_896 : decode cL_law 896 = .ok (.aload_n 0, 1) := by decide +kernel
theorem dL_law_897 : decode cL_law 897 = .ok (.iload 4, 2) := by decide +kernel
theorem dL_law_899 : decode cL_law 899 = .ok (.iconst 2, 1) := by decide +kernel
theorem dL_law_900 : decode cL_law 900 = .ok (.iadd, 1) := by decide +kernel
theorem dL_law_901 : decode cL_law 901 = .ok (.iaload, 1) := by decide +kernel
theorem dL_law_902 : decode cL_law 902 = .ok (.invokevirtual 101, 3) := by decide +kernel
theorem dL_law_905 : decode cL_law 905 = .ok (.aload_n 2, 1) := by decide +kernel
theorem dL_law_906 : decode cL_law 906 = .ok (.aload_n 0, 1) := by decide +kernel
theorem dL_law_907 : decode cL_law 907 = .ok (.iload 4, 2) := by decide +kernel
theorem dL_law_909 : decode cL_law 909 = .ok (.iconst 1, 1) := by decide +kernel
theorem dL_law_910 : decode cL_law 910 = .ok (.iadd, 1) := by decide +kernel
theorem dL_law_911 : decode cL_law 911 = .ok (.iaload, 1) := by decide +kernel
theorem dL_law_912 : decode cL_law 912 = .ok (.aload_n 0, 1) := by decide +kernel
theorem dL_law_913 : decode cL_law 913 = .ok (.iload 4, 2) := by decide +kernel
theorem dL_law_915 : decode cL_law 915 = .ok (.iconst 2, 1) := by decide +kernel
theorem dL_law_916 : decode cL_law 916 = .ok (.iadd, 1) := by decide +kernel
theorem dL_law_917 : decode cL_law 917 = .ok (.iaload, 1) := by decide +kernel
theorem dL_law_918 : decode cL_law 918 = .ok (.invokevirtual 105, 3) := by decide +kernel
theorem dL_law_921 : decode cL_law 921 = .ok (.lcmp, 1) := by decide +kernel
theorem dL_law_922 : decode cL_law 922 = .ok (.ifCond .eq 803, 3) := by decide +kernel
theorem dL_law_925 : decode cL_law 925 = .ok (.iconst 0, 1) := by decide +kernel
theorem dL_law_926 : decode cL_law 926 = .ok (.ireturn, 1) := by decide +kernel
theorem dL_law_927 : decode cL_law 927 = .ok (.aload_n 1, 1) := by decide +kernel
theorem dL_law_928 : decode cL_law 928 = .ok (.aload_n 0, 1) := by decide +kernel
theorem dL_law_929 : decode cL_law 929 = .ok (.iload 4, 2) := by decide +kernel
theorem dL_law_931 : decode cL_law 931 = .ok (.iconst 1, 1) := by decide +kernel
theorem dL_law_932 : decode cL_law 932 = .ok (.iadd, 1) := by decide +kernel
theorem dL_law_933 : decode cL_law 933 = .ok (.iaload, 1) := by decide +kernel
theorem dL_law_934 : decode cL_law 934 = .ok (.aload_n 0, 1) := by decide +kernel
theorem dL_law_935 : decode cL_law 935 = .ok (.iload 4, 2) := by decide +kernel
theorem dL_law_937 : decode cL_law 937 = .ok (.iconst 2, 1) := by decide +kernel
theorem dL_law_938 : decode cL_law 938 = .ok (.iadd, 1) := by decide +kernel
theorem dL_law_939 : decode cL_law 939 = .ok (.iaload, 1) := by decide +kernel
theorem dL_law_940 : decode cL_law 940 = .ok (.aload_n 0, 1) := by decide +kernel
theorem dL_law_941 : decode cL_law 941 = .ok (.iload 4, 2) := by decide +kernel
theorem dL_law_943 : decode cL_law 943 = .ok (.iconst 3, 1) := by decide +kernel
theorem dL_law_944 : decode cL_law 944 = .ok (.iadd, 1) := by decide +kernel
theorem dL_law_945 : decode cL_law 945 = .ok (.iaload, 1) := by decide +kernel
theorem dL_law_946 : decode cL_law 946 = .ok (.invokevirtual 106, 3) := by decide +kernel
theorem dL_law_949 : decode cL_law 949 = .ok (.aload_n 2, 1) := by decide +kernel
theorem dL_law_950 : decode cL_law 950 = .ok (.aload_n 0, 1) := by decide +kernel
theorem dL_law_951 : decode cL_law 951 = .ok (.iload 4, 2) := by decide +kernel
theorem dL_law_953 : decode cL_law 953 = .ok (.iconst 1, 1) := by decide +kernel
theorem dL_law_954 : decode cL_law 954 = .ok (.iadd, 1) := by decide +kernel
theorem dL_law_955 : decode cL_law 955 = .ok (.iaload, 1) := by decide +kernel
theorem dL_law_956 : decode cL_law 956 = .ok (.aload_n 0, 1) := by decide +kernel
theorem dL_law_957 : decode cL_law 957 = .ok (.iload 4, 2) := by decide +kernel
theorem dL_law_959 : decode cL_law 959 = .ok (.iconst 2, 1) := by decide +kernel
theorem dL_law_960 : decode cL_law 960 = .ok (.iadd, 1) := by decide +kernel
theorem dL_law_961 : decode cL_law 961 = .ok (.iaload, 1) := by decide +kernel
theorem dL_law_962 : decode cL_law 962 = .ok (.aload_n 0, 1) := by decide +kernel
theorem dL_law_963 : decode cL_law 963 = .ok (.iload 4, 2) := by decide +kernel
theorem dL_law_965 : decode cL_law 965 = .ok (.iconst 3, 1) := by decide +kernel
theorem dL_law_966 : decode cL_law 966 = .ok (.iadd, 1) := by decide +kernel
theorem dL_law_967 : decode cL_law 967 = .ok (.iaload, 1) := by decide +kernel
theorem dL_law_968 : decode cL_law 968 = .ok (.invokevirtual 109, 3) := by decide +kernel
theorem dL_law_971 : decode cL_law 971 = .ok (.if_icmp .eq 754, 3) := by decide +kernel
theorem dL_law_974 : decode cL_law 974 = .ok (.iconst 0, 1) := by decide +kernel
theorem dL_law_975 : decode cL_law 975 = .ok (.ireturn, 1) := by decide +kernel
theorem dL_law_976 : decode cL_law 976 = .ok (.aload_n 1, 1) := by decide +kernel
theorem dL_law_977 : decode cL_law 977 = .ok (.aload_n 0, 1) := by decide +kernel
theorem dL_law_978 : decode cL_law 978 = .ok (.iload 4, 2) := by decide +kernel
theorem dL_law_980 : decode cL_law 980 = .ok (.iconst 1, 1) := by decide +kernel
theorem dL_law_981 : decode cL_law 981 = .ok (.iadd, 1) := by decide +kernel
theorem dL_law_982 : decode cL_law 982 = .ok (.iaload, 1) := by decide +kernel
theorem dL_law_983 : decode cL_law 983 = .ok (.aload_n 0, 1) := by decide +kernel
theorem dL_law_984 : decode cL_law 984 = .ok (.iload 4, 2) := by decide +kernel
theorem dL_law_986 : decode cL_law 986 = .ok (.iconst 2, 1) := by decide +kernel
theorem dL_law_987 : decode cL_law 987 = .ok (.iadd, 1) := by decide +kernel
theorem dL_law_988 : decode cL_law 988 = .ok (.iaload, 1) := by decide +kernel
theorem dL_law_989 : decode cL_law 989 = .ok (.aload_n 0, 1) := by decide +kernel
theorem dL_law_990 : decode cL_law 990 = .ok (.iload 4, 2) := by decide +kernel
theorem dL_law_992 : decode cL_law 992 = .ok (.iconst 3, 1) := by decide +kernel
theorem dL_law_993 : decode cL_law 993 = .ok (.iadd, 1) := by decide +kernel
theorem dL_law_994 : decode cL_law 994 = .ok (.iaload, 1) := by decide +kernel
theorem dL_law_995 : decode cL_law 995 = .ok (.invokevirtual 110, 3) := by decide +kernel
theorem dL_law_998 : decode cL_law 998 = .ok (.aload_n 2, 1) := by decide +kernel
theorem dL_law_999 : decode cL_law 999 = .ok (.aload_n 0, 1) := by decide +kernel
theorem dL_law_1000 : decode cL_law 1000 = .ok (.iload 4, 2) := by decide +kernel
theorem dL_law_1002 : decode cL_law 1002 = .ok (.iconst 1, 1) := by decide +kernel
theorem dL_law_1003 : decode cL_law 1003 = .ok (.iadd, 1) := by decide +kernel
theorem dL_law_1004 : decode cL_law 1004 = .ok (.iaload, 1) := by decide +kernel
theorem dL_law_1005 : decode cL_law 1005 = .ok (.aload_n 0, 1) := by decide +kernel
theorem dL_law_1006 : decode cL_law 1006 = .ok (.iload 4, 2) := by decide +kernel
theorem dL_law_1008 : decode cL_law 1008 = .ok (.iconst 2, 1) := by decide +kernel
theorem dL_law_1009 : decode cL_law 1009 = .ok (.iadd, 1) := by decide +kernel
theorem dL_law_1010 : decode cL_law 1010 = .ok (.iaload, 1) := by decide +kernel
theorem dL_law_1011 : decode cL_law 1011 = .ok (.aload_n 0, 1) := by decide +kernel
theorem dL_law_1012 : decode cL_law 1012 = .ok (.iload 4, 2) := by decide +kernel
theorem dL_law_1014 : decode cL_law 1014 = .ok (.iconst 3, 1) := by decide +kernel
theorem dL_law_1015 : decode cL_law 1015 = .ok (.iadd, 1) := by decide +kernel
theorem dL_law_1016 : decode cL_law 1016 = .ok (.iaload, 1) := by decide +kernel
theorem dL_law_1017 : decode cL_law 1017 = .ok (.invokevirtual 113, 3) := by decide +kernel
theorem dL_law_1020 : decode cL_law 1020 = .ok (.lcmp, 1) := by decide +kernel
theorem dL_law_1021 : decode cL_law 1021 = .ok (.ifCond .eq 704, 3) := by decide +kernel
theorem dL_law_1024 : decode cL_law 1024 = .ok (.iconst 0, 1) := by decide +kernel
theorem dL_law_1025 : decode cL_law 1025 = .ok (.ireturn, 1) := by decide +kernel
theorem dL_law_1026 : decode cL_law 1026 = .ok (.aload_n 1, 1) := by decide +kernel
theorem dL_law_1027 : decode cL_law 1027 = .ok (.aload_n 0, 1) := by decide +kernel
theorem dL_law_1028 : decode cL_law 1028 = .ok (.iload 4, 2) := by decide +kernel
theorem dL_law_1030 : decode cL_law 1030 = .ok (.iconst 1, 1) := by decide +kernel
theorem dL_law_1031 : decode cL_law 1031 = .ok (.iadd, 1) := by decide +kernel
theorem dL_law_1032 : decode cL_law 1032 = .ok (.iaload, 1) := by decide +kernel
theorem dL_law_1033 : decode cL_law 1033 = .ok (.aload_n 0, 1) := by decide +kernel
theorem dL_law_1034 : decode cL_law 1034 = .ok (.iload 4, 2) := by decide +kernel
theorem dL_law_1036 : decode cL_law 1036 = .ok (.iconst 2, 1) := by decide +kernel
theorem dL_law_1037 : decode cL_law 1037 = .ok (.iadd, 1) := by decide +kernel
theorem dL_law_1038 : decode cL_law 1038 = .ok (.iaload, 1) := by decide +kernel
theorem dL_law_1039 : decode cL_law 1039 = .ok (.aload_n 0, 1) := by decide +kernel
theorem dL_law_1040 : decode cL_law 1040 = .ok (.iload 4, 2) := by decide +kernel
theorem dL_law_1042 : decode cL_law 1042 = .ok (.iconst 3, 1) := by decide +kernel
theorem dL_law_1043 : decode cL_law 1043 = .ok (.iadd, 1) := by decide +kernel
theorem dL_law_1044 : decode cL_law 1044 = .ok (.iaload, 1) := by decide +kernel
theorem dL_law_1045 : decode cL_law 1045 = .ok (.invokevirtual 114, 3) := by decide +kernel
theorem dL_law_1048 : decode cL_law 1048 = .ok (.aload_n 2, 1) := by decide +kernel
theorem dL_law_1049 : decode cL_law 1049 = .ok (.aload_n 0, 1) := by decide +kernel
theorem dL_law_1050 : decode cL_law 1050 = .ok (.iload 4, 2) := by decide +kernel
theorem dL_law_1052 : decode cL_law 1052 = .ok (.iconst 1, 1) := by decide +kernel
theorem dL_law_1053 : decode cL_law 1053 = .ok (.iadd, 1) := by decide +kernel
theorem dL_law_1054 : decode cL_law 1054 = .ok (.iaload, 1) := by decide +kernel
theorem dL_law_1055 : decode cL_law 1055 = .ok (.aload_n 0, 1) := by decide +kernel
theorem dL_law_1056 : decode cL_law 1056 = .ok (.iload 4, 2) := by decide +kernel
theorem dL_law_1058 : decode cL_law 1058 = .ok (.iconst 2, 1) := by decide +kernel
theorem dL_law_1059 : decode cL_law 1059 = .ok (.iadd, 1) := by decide +kernel
theorem dL_law_1060 : decode cL_law 1060 = .ok (.iaload, 1) := by decide +kernel
theorem dL_law_1061 : decode cL_law 1061 = .ok (.aload_n 0, 1) := by decide +kernel
theorem dL_law_1062 : decode cL_law 1062 = .ok (.iload 4, 2) := by decide +kernel
theorem dL_law_1064 : decode cL_law 1064 = .ok (.iconst 3, 1) := by decide +kernel
theorem dL_law_1065 : decode cL_law 1065 = .ok (.iadd, 1) := by decide +kernel
theorem dL_law_1066 : decode cL_law 1066 = .ok (.iaload, 1) := by decide +kernel
theorem dL_law_1067 : decode cL_law 1067 = .ok (.invokevirtual 117, 3) := by decide +kernel
theorem dL_law_1070 : decode cL_law 1070 = .ok (.if_icmp .eq 655, 3) := by decide +kernel
theorem dL_law_1073 : decode cL_law 1073 = .ok (.iconst 0, 1) := by decide +kernel
theorem dL_law_1074 : decode cL_law 1074 = .ok (.ireturn, 1) := by decide +kernel
theorem dL_law_1075 : decode cL_law 1075 = .ok (.aload_n 1, 1) := by decide +kernel
theorem dL_law_1076 : decode cL_law 1076 = .ok (.aload_n 0, 1) := by decide +kernel
theorem dL_law_1077 : decode cL_law 1077 = .ok (.iload 4, 2) := by decide +kernel
theorem dL_law_1079 : decode cL_law 1079 = .ok (.iconst 1, 1) := by decide +kernel
theorem dL_law_1080 : decode cL_law 1080 = .ok (.iadd, 1) := by decide +kernel
theorem dL_law_1081 : decode cL_law 1081 = .ok (.iaload, 1) := by decide +kernel
theorem dL_law_1082 : decode cL_law 1082 = .ok (.aload_n 0, 1) := by decide +kernel
theorem dL_law_1083 : decode cL_law 1083 = .ok (.iload 4, 2) := by decide +kernel
theorem dL_law_1085 : decode cL_law 1085 = .ok (.iconst 2, 1) := by decide +kernel
theorem dL_law_1086 : decode cL_law 1086 = .ok (.iadd, 1) := by decide +kernel
theorem dL_law_1087 : decode cL_law 1087 = .ok (.iaload, 1) := by decide +kernel
theorem dL_law_1088 : decode cL_law 1088 = .ok (.aload_n 0, 1) := by decide +kernel
theorem dL_law_1089 : decode cL_law 1089 = .ok (.iload 4, 2) := by decide +kernel
theorem dL_law_1091 : decode cL_law 1091 = .ok (.iconst 3, 1) := by decide +kernel
theorem dL_law_1092 : decode cL_law 1092 = .ok (.iadd, 1) := by decide +kernel
theorem dL_law_1093 : decode cL_law 1093 = .ok (.iaload, 1) := by decide +kernel
theorem dL_law_1094 : decode cL_law 1094 = .ok (.aload_n 0, 1) := by decide +kernel
theorem dL_law_1095 : decode cL_law 1095 = .ok (.iload 4, 2) := by decide +kernel
theorem dL_law_1097 : decode cL_law 1097 = .ok (.iconst 4, 1) := by decide +kernel
theorem dL_law_1098 : decode cL_law 1098 = .ok (.iadd, 1) := by decide +kernel
theorem dL_law_1099 : decode cL_law 1099 = .ok (.iaload, 1) := by decide +kernel
theorem dL_law_1100 : decode cL_law 1100 = .ok (.invokevirtual 118, 3) := by decide +kernel
theorem dL_law_1103 : decode cL_law 1103 = .ok (.aload_n 2, 1) := by decide +kernel
theorem dL_law_1104 : decode cL_law 1104 = .ok (.aload_n 0, 1) := by decide +kernel
theorem dL_law_1105 : decode cL_law 1105 = .ok (.iload 4, 2) := by decide +kernel
theorem dL_law_1107 : decode cL_law 1107 = .ok (.iconst 1, 1) := by decide +kernel
theorem dL_law_1108 : decode cL_law 1108 = .ok (.iadd, 1) := by decide +kernel
theorem dL_law_1109 : decode cL_law 1109 = .ok (.iaload, 1) := by decide +kernel
theorem dL_law_1110 : decode cL_law 1110 = .ok (.aload_n 0, 1) := by decide +kernel
theorem dL_law_1111 : decode cL_law 1111 = .ok (.iload 4, 2) := by decide +kernel
theorem dL_law_1113 : decode cL_law 1113 = .ok (.iconst 2, 1) := by decide +kernel
theorem dL_law_1114 : decode cL_law 1114 = .ok (.iadd, 1) := by decide +kernel
theorem dL_law_1115 : decode cL_law 1115 = .ok (.iaload, 1) := by decide +kernel
theorem dL_law_1116 : decode cL_law 1116 = .ok (.aload_n 0, 1) := by decide +kernel
theorem dL_law_1117 : decode cL_law 1117 = .ok (.iload 4, 2) := by decide +kernel
theorem dL_law_1119 : decode cL_law 1119 = .ok (.iconst 3, 1) := by decide +kernel
theorem dL_law_1120 : decode cL_law 1120 = .ok (.iadd, 1) := by decide +kernel
theorem dL_law_1121 : decode cL_law 1121 = .ok (.iaload, 1) := by decide +kernel
theorem dL_law_1122 : decode cL_law 1122 = .ok (.aload_n 0, 1) := by decide +kernel
theorem dL_law_1123 : decode cL_law 1123 = .ok (.iload 4, 2) := by decide +kernel
theorem dL_law_1125 : decode cL_law 1125 = .ok (.iconst 4, 1) := by decide +kernel
theorem dL_law_1126 : decode cL_law 1126 = .ok (.iadd, 1) := by decide +kernel
theorem dL_law_1127 : decode cL_law 1127 = .ok (.iaload, 1) := by decide +kernel
theorem dL_law_1128 : decode cL_law 1128 = .ok (.invokevirtual 121, 3) := by decide +kernel
theorem dL_law_1131 : decode cL_law 1131 = .ok (.if_icmp .eq 594, 3) := by decide +kernel
theorem dL_law_1134 : decode cL_law 1134 = .ok (.iconst 0, 1) := by decide +kernel
theorem dL_law_1135 : decode cL_law 1135 = .ok (.ireturn, 1) := by decide +kernel
theorem dL_law_1136 : decode cL_law 1136 = .ok (.aload_n 1, 1) := by decide +kernel
theorem dL_law_1137 : decode cL_law 1137 = .ok (.invokevirtual 122, 3) := by decide +kernel
theorem dL_law_1140 : decode cL_law 1140 = .ok (.aload_n 2, 1) := by decide +kernel
theorem dL_law_1141 : decode cL_law 1141 = .ok (.invokevirtual 125, 3) := by decide +kernel
theorem dL_law_1144 : decode cL_law 1144 = .ok (.if_icmp .eq 581, 3) := by decide +kernel
theorem dL_law_1147 : decode cL_law 1147 = .ok (.iconst 0, 1) := by decide +kernel
theorem dL_law_1148 : decode cL_law 1148 = .ok (.ireturn, 1) := by decide +kernel
theorem dL_law_1149 : decode cL_law 1149 = .ok (.aload_n 1, 1) := by decide +kernel
theorem dL_law_1150 : decode cL_law 1150 = .ok (.aload_n 0, 1) := by decide +kernel
theorem dL_law_1151 : decode cL_law 1151 = .ok (.iload 4, 2) := by decide +kernel
theorem dL_law_1153 : decode cL_law 1153 = .ok (.iconst 1, 1) := by decide +kernel
theorem dL_law_1154 : decode cL_law 1154 = .ok (.iadd, 1) := by decide +kernel
theorem dL_law_1155 : decode cL_law 1155 = .ok (.iaload, 1) := by decide +kernel
theorem dL_law_1156 : decode cL_law 1156 = .ok (.aload_n 0, 1) := by decide +kernel
theorem dL_law_1157 : decode cL_law 1157 = .ok (.iload 4, 2) := by decide +kernel
theorem dL_law_1159 : decode cL_law 1159 = .ok (.iconst 2, 1) := by decide +kernel
theorem dL_law_1160 : decode cL_law 1160 = .ok (.iadd, 1) := by decide +kernel
theorem dL_law_1161 : decode cL_law 1161 = .ok (.iaload, 1) := by decide +kernel
theorem dL_law_1162 : decode cL_law 1162 = .ok (.invokevirtual 126, 3) := by decide +kernel
theorem dL_law_1165 : decode cL_law 1165 = .ok (.aload_n 2, 1) := by decide +kernel
theorem dL_law_1166 : decode cL_law 1166 = .ok (.aload_n 0, 1) := by decide +kernel
theorem dL_law_1167 : decode cL_law 1167 = .ok (.iload 4, 2) := by decide +kernel
theorem dL_law_1169 : decode cL_law 1169 = .ok (.iconst 1, 1) := by decide +kernel
theorem dL_law_1170 : decode cL_law 1170 = .ok (.iadd, 1) := by decide +kernel
theorem dL_law_1171 : decode cL_law 1171 = .ok (.iaload, 1) := by decide +kernel
theorem dL_law_1172 : decode cL_law 1172 = .ok (.aload_n 0, 1) := by decide +kernel
theorem dL_law_1173 : decode cL_law 1173 = .ok (.iload 4, 2) := by decide +kernel
theorem dL_law_1175 : decode cL_law 1175 = .ok (.iconst 2, 1) := by decide +kernel
theorem dL_law_1176 : decode cL_law 1176 = .ok (.iadd, 1) := by decide +kernel
theorem dL_law_1177 : decode cL_law 1177 = .ok (.iaload, 1) := by decide +kernel
theorem dL_law_1178 : decode cL_law 1178 = .ok (.invokevirtual 129, 3) := by decide +kernel
theorem dL_law_1181 : decode cL_law 1181 = .ok (.if_icmp .eq 544, 3) := by decide +kernel
theorem dL_law_1184 : decode cL_law 1184 = .ok (.iconst 0, 1) := by decide +kernel
theorem dL_law_1185 : decode cL_law 1185 = .ok (.ireturn, 1) := by decide +kernel
theorem dL_law_1186 : decode cL_law 1186 = .ok (.aload_n 1, 1) := by decide +kernel
theorem dL_law_1187 : decode cL_law 1187 = .ok (.aload_n 0, 1) := by decide +kernel
theorem dL_law_1188 : decode cL_law 1188 = .ok (.iload 4, 2) := by decide +kernel
theorem dL_law_1190 : decode cL_law 1190 = .ok (.iconst 1, 1) := by decide +kernel
theorem dL_law_1191 : decode cL_law 1191 = .ok (.iadd, 1) := by decide +kernel
theorem dL_law_1192 : decode cL_law 1192 = .ok (.iaload, 1) := by decide +kernel
theorem dL_law_1193 : decode cL_law 1193 = .ok (.aload_n 0, 1) := by decide +kernel
theorem dL_law_1194 : decode cL_law 1194 = .ok (.iload 4, 2) := by decide +kernel
theorem dL_law_1196 : decode cL_law 1196 = .ok (.iconst 2, 1) := by decide +kernel
theorem dL_law_1197 : decode cL_law 1197 = .ok (.iadd, 1) := by decide +kernel
theorem dL_law_1198 : decode cL_law 1198 = .ok (.iaload, 1) := by decide +kernel
theorem dL_law_1199 : decode cL_law 1199 = .ok (.invokevirtual 130, 3) := by decide +kernel
theorem dL_law_1202 : decode cL_law 1202 = .ok (.aload_n 2, 1) := by decide +kernel
theorem dL_law_1203 : decode cL_law 1203 = .ok (.aload_n 0, 1) := by decide +kernel
theorem dL_law_1204 : decode cL_law 1204 = .ok (.iload 4, 2) := by decide +kernel
theorem dL_law_1206 : decode cL_law 1206 = .ok (.iconst 1, 1) := by decide +kernel
theorem dL_law_1207 : decode cL_law 1207 = .ok (.iadd, 1) := by decide +kernel
theorem dL_law_1208 : decode cL_law 1208 = .ok (.iaload, 1) := by decide +kernel
theorem dL_law_1209 : decode cL_law 1209 = .ok (.aload_n 0, 1) := by decide +kernel
theorem dL_law_1210 : decode cL_law 1210 = .ok (.iload 4, 2) := by decide +kernel
theorem dL_law_1212 : decode cL_law 1212 = .ok (.iconst 2, 1) := by decide +kernel
theorem dL_law_1213 : decode cL_law 1213 = .ok (.iadd, 1) := by decide +kernel
theorem dL_law_1214 : decode cL_law 1214 = .ok (.iaload, 1) := by decide +kernel
theorem dL_law_1215 : decode cL_law 1215 = .ok (.invokevirtual 133, 3) := by decide +kernel
theorem dL_law_1218 : decode cL_law 1218 = .ok (.if_icmp .eq 507, 3) := by decide +kernel
theorem dL_law_1221 : decode cL_law 1221 = .ok (.iconst 0, 1) := by decide +kernel
theorem dL_law_1222 : decode cL_law 1222 = .ok (.ireturn, 1) := by decide +kernel
theorem dL_law_1223 : decode cL_law 1223 = .ok (.aload_n 1, 1) := by decide +kernel
theorem dL_law_1224 : decode cL_law 1224 = .ok (.aload_n 0, 1) := by decide +kernel
theorem dL_law_1225 : decode cL_law 1225 = .ok (.iload 4, 2) := by decide +kernel
theorem dL_law_1227 : decode cL_law 1227 = .ok (.iconst 1, 1) := by decide +kernel
theorem dL_law_1228 : decode cL_law 1228 = .ok (.iadd, 1) := by decide +kernel
theorem dL_law_1229 : decode cL_law 1229 = .ok (.iaload, 1) := by decide +kernel
theorem dL_law_1230 : decode cL_law 1230 = .ok (.invokevirtual 134, 3) := by decide +kernel
theorem dL_law_1233 : decode cL_law 1233 = .ok (.aload_n 2, 1) := by decide +kernel
theorem dL_law_1234 : decode cL_law 1234 = .ok (.aload_n 0, 1) := by decide +kernel
theorem dL_law_1235 : decode cL_law 1235 = .ok (.iload 4, 2) := by decide +kernel
theorem dL_law_1237 : decode cL_law 1237 = .ok (.iconst 1, 1) := by decide +kernel
theorem dL_law_1238 : decode cL_law 1238 = .ok (.iadd, 1) := by decide +kernel
theorem dL_law_1239 : decode cL_law 1239 = .ok (.iaload, 1) := by decide +kernel
theorem dL_law_1240 : decode cL_law 1240 = .ok (.invokevirtual 137, 3) := by decide +kernel
theorem dL_law_1243 : decode cL_law 1243 = .ok (.if_icmp .eq 482, 3) := by decide +kernel
theorem dL_law_1246 : decode cL_law 1246 = .ok (.iconst 0, 1) := by decide +kernel
theorem dL_law_1247 : decode cL_law 1247 = .ok (.ireturn, 1) := by decide +kernel
theorem dL_law_1248 : decode cL_law 1248 = .ok (.aload_n 1, 1) := by decide +kernel
theorem dL_law_1249 : decode cL_law 1249 = .ok (.invokevirtual 138, 3) := by decide +kernel
theorem dL_law_1252 : decode cL_law 1252 = .ok (.aload_n 2, 1) := by decide +kernel
theorem dL_law_1253 : decode cL_law 1253 = .ok (.invokevirtual 141, 3) := by decide +kernel
theorem dL_law_1256 : decode cL_law 1256 = .ok (.if_icmp .eq 469, 3) := by decide +kernel
theorem dL_law_1259 : decode cL_law 1259 = .ok (.iconst 0, 1) := by decide +kernel
theorem dL_law_1260 : decode cL_law 1260 = .ok (.ireturn, 1) := by decide +kernel
theorem dL_law_1261 : decode cL_law 1261 = .ok (.aload_n 1, 1) := by decide +kernel
theorem dL_law_1262 : decode cL_law 1262 = .ok (.invokevirtual 142, 3) := by decide +kernel
theorem dL_law_1265 : decode cL_law 1265 = .ok (.aload_n 2, 1) := by decide +kernel
theorem dL_law_1266 : decode cL_law 1266 = .ok (.invokevirtual 145, 3) := by decide +kernel
theorem dL_law_1269 : decode cL_law 1269 = .ok (.if_icmp .eq 456, 3) := by decide +kernel
theorem dL_law_1272 : decode cL_law 1272 = .ok (.iconst 0, 1) := by decide +kernel
theorem dL_law_1273 : decode cL_law 1273 = .ok (.ireturn, 1) := by decide +kernel
theorem dL_law_1274 : decode cL_law 1274 = .ok (.aload_n 1, 1) := by decide +kernel
theorem dL_law_1275 : decode cL_law 1275 = .ok (.aload_n 0, 1) := by decide +kernel
theorem dL_law_1276 : decode cL_law 1276 = .ok (.iload 4, 2) := by decide +kernel
theorem dL_law_1278 : decode cL_law 1278 = .ok (.iconst 1, 1) := by decide +kernel
theorem dL_law_1279 : decode cL_law 1279 = .ok (.iadd, 1) := by decide +kernel
theorem dL_law_1280 : decode cL_law 1280 = .ok (.iaload, 1) := by decide +kernel
theorem dL_law_1281 : decode cL_law 1281 = .ok (.aload_n 0, 1) := by decide +kernel
theorem dL_law_1282 : decode cL_law 1282 = .ok (.iload 4, 2) := by decide +kernel
theorem dL_law_1284 : decode cL_law 1284 = .ok (.iconst 2, 1) := by decide +kernel
theorem dL_law_1285 : decode cL_law 1285 = .ok (.iadd, 1) := by decide +kernel
theorem dL_law_1286 : decode cL_law 1286 = .ok (.iaload, 1) := by decide +kernel
theorem dL_law_1287 : decode cL_law 1287 = .ok (.invokevirtual 146, 3) := by decide +kernel
theorem dL_law_1290 : decode cL_law 1290 = .ok (.aload_n 2, 1) := by decide +kernel
theorem dL_law_1291 : decode cL_law 1291 = .ok (.aload_n 0, 1) := by decide +kernel
theorem dL_law_1292 : decode cL_law 1292 = .ok (.iload 4, 2) := by decide +kernel
theorem dL_law_1294 : decode cL_law 1294 = .ok (.iconst 1, 1) := by decide +kernel
theorem dL_law_1295 : decode cL_law 1295 = .ok (.iadd, 1) := by decide +kernel
theorem dL_law_1296 : decode cL_law 1296 = .ok (.iaload, 1) := by decide +kernel
theorem dL_law_1297 : decode cL_law 1297 = .ok (.aload_n 0, 1) := by decide +kernel
theorem dL_law_1298 : decode cL_law 1298 = .ok (.iload 4, 2) := by decide +kernel
theorem dL_law_1300 : decode cL_law 1300 = .ok (.iconst 2, 1) := by decide +kernel
theorem dL_law_1301 : decode cL_law 1301 = .ok (.iadd, 1) := by decide +kernel
theorem dL_law_1302 : decode cL_law 1302 = .ok (.iaload, 1) := by decide +kernel
theorem dL_law_1303 : decode cL_law 1303 = .ok (.invokevirtual 149, 3) := by decide +kernel
theorem dL_law_1306 : decode cL_law 1306 = .ok (.if_icmp .eq 419, 3) := by decide +kernel
theorem dL_law_1309 : decode cL_law 1309 = .ok (.iconst 0, 1) := by decide +kernel
theorem dL_law_1310 : decode cL_law 1310 = .ok (.ireturn, 1) := by decide +kernel
theorem dL_law_1311 : decode cL_law 1311 = .ok (.aload_n 1, 1) := by decide +kernel
theorem dL_law_1312 : decode cL_law 1312 = .ok (.aload_n 0, 1) := by decide +kernel
theorem dL_law_1313 : decode cL_law 1313 = .ok (.iload 4, 2) := by decide +kernel
theorem dL_law_1315 : decode cL_law 1315 = .ok (.iconst 1, 1) := by decide +kernel
theorem dL_law_1316 : decode cL_law 1316 = .ok (.iadd, 1) := by decide +kernel
theorem dL_law_1317 : decode cL_law 1317 = .ok (.iaload, 1) := by decide +kernel
theorem dL_law_1318 : decode cL_law 1318 = .ok (.invokevirtual 150, 3) := by decide +kernel
theorem dL_law_1321 : decode cL_law 1321 = .ok (.aload_n 2, 1) := by decide +kernel
theorem dL_law_1322 : decode cL_law 1322 = .ok (.aload_n 0, 1) := by decide +kernel
theorem dL_law_1323 : decode cL_law 1323 = .ok (.iload 4, 2) := by decide +kernel
theorem dL_law_1325 : decode cL_law 1325 = .ok (.iconst 1, 1) := by decide +kernel
theorem dL_law_1326 : decode cL_law 1326 = .ok (.iadd, 1) := by decide +kernel
theorem dL_law_1327 : decode cL_law 1327 = .ok (.iaload, 1) := by decide +kernel
theorem dL_law_1328 : decode cL_law 1328 = .ok (.invokevirtual 153, 3) := by decide +kernel
theorem dL_law_1331 : decode cL_law 1331 = .ok (.if_icmp .eq 394, 3) := by decide +kernel
theorem dL_law_1334 : decode cL_law 1334 = .ok (.iconst 0, 1) := by decide +kernel
theorem dL_law_1335 : decode cL_law 1335 = .ok (.ireturn, 1) := by decide +kernel
theorem dL_law_1336 : decode cL_law 1336 = .ok (.aload_n 1, 1) := by decide +kernel
theorem dL_law_1337 : decode cL_law 1337 = .ok (.aload_n 0, 1) := by decide +kernel
theorem dL_law_1338 : decode cL_law 1338 = .ok (.iload 4, 2) := by decide +kernel
theorem dL_law_1340 : decode cL_law 1340 = .ok (.iconst 1, 1) := by decide +kernel
theorem dL_law_1341 : decode cL_law 1341 = .ok (.iadd, 1) := by decide +kernel
theorem dL_law_1342 : decode cL_law 1342 = .ok (.iaload, 1) := by decide +kernel
theorem dL_law_1343 : decode cL_law 1343 = .ok (.invokevirtual 154, 3) := by decide +kernel
theorem dL_law_1346 : decode cL_law 1346 = .ok (.aload_n 2, 1) := by decide +kernel
theorem dL_law_1347 : decode cL_law 1347 = .ok (.aload_n 0, 1) := by decide +kernel
theorem dL_law_1348 : decode cL_law 1348 = .ok (.iload 4, 2) := by decide +kernel
theorem dL_law_1350 : decode cL_law 1350 = .ok (.iconst 1, 1) := by decide +kernel
theorem dL_law_1351 : decode cL_law 1351 = .ok (.iadd, 1) := by decide +kernel
theorem dL_law_1352 : decode cL_law 1352 = .ok (.iaload, 1) := by decide +kernel
theorem dL_law_1353 : decode cL_law 1353 = .ok (.invokevirtual 157, 3) := by decide +kernel
theorem dL_law_1356 : decode cL_law 1356 = .ok (.if_icmp .eq 369, 3) := by decide +kernel
theorem dL_law_1359 : decode cL_law 1359 = .ok (.iconst 0, 1) := by decide +kernel
theorem dL_law_1360 : decode cL_law 1360 = .ok (.ireturn, 1) := by decide +kernel
theorem dL_law_1361 : decode cL_law 1361 = .ok (.aload_n 1, 1) := by decide +kernel
theorem dL_law_1362 : decode cL_law 1362 = .ok (.invokevirtual 158, 3) := by decide +kernel
theorem dL_law_1365 : decode cL_law 1365 = .ok (.aload_n 2, 1) := by decide +kernel
theorem dL_law_1366 : decode cL_law 1366 = .ok (.invokevirtual 161, 3) := by decide +kernel
theorem dL_law_1369 : decode cL_law 1369 = .ok (.if_icmp .eq 356, 3) := by decide +kernel
theorem dL_law_1372 : decode cL_law 1372 = .ok (.iconst 0, 1) := by decide +kernel
theorem dL_law_1373 : decode cL_law 1373 = .ok (.ireturn, 1) := by decide +kernel
theorem dL_law_1374 : decode cL_law 1374 = .ok (.aload_n 1, 1) := by decide +kernel
theorem dL_law_1375 : decode cL_law 1375 = .ok (.aload_n 0, 1) := by decide +kernel
theorem dL_law_1376 : decode cL_law 1376 = .ok (.iload 4, 2) := by decide +kernel
theorem dL_law_1378 : decode cL_law 1378 = .ok (.iconst 1, 1) := by decide +kernel
theorem dL_law_1379 : decode cL_law 1379 = .ok (.iadd, 1) := by decide +kernel
theorem dL_law_1380 : decode cL_law 1380 = .ok (.iaload, 1) := by decide +kernel
theorem dL_law_1381 : decode cL_law 1381 = .ok (.aload_n 0, 1) := by decide +kernel
theorem dL_law_1382 : decode cL_law 1382 = .ok (.iload 4, 2) := by decide +kernel
theorem dL_law_1384 : decode cL_law 1384 = .ok (.iconst 2, 1) := by decide +kernel
theorem dL_law_1385 : decode cL_law 1385 = .ok (.iadd, 1) := by decide +kernel
theorem dL_law_1386 : decode cL_law 1386 = .ok (.iaload, 1) := by decide +kernel
theorem dL_law_1387 : decode cL_law 1387 = .ok (.aload_n 0, 1) := by decide +kernel
theorem dL_law_1388 : decode cL_law 1388 = .ok (.iload 4, 2) := by decide +kernel
theorem dL_law_1390 : decode cL_law 1390 = .ok (.iconst 3, 1) := by decide +kernel
theorem dL_law_1391 : decode cL_law 1391 = .ok (.iadd, 1) := by decide +kernel
theorem dL_law_1392 : decode cL_law 1392 = .ok (.iaload, 1) := by decide +kernel
theorem dL_law_1393 : decode cL_law 1393 = .ok (.aload_n 0, 1) := by decide +kernel
theorem dL_law_1394 : decode cL_law 1394 = .ok (.iload 4, 2) := by decide +kernel
theorem dL_law_1396 : decode cL_law 1396 = .ok (.iconst 4, 1) := by decide +kernel
theorem dL_law_1397 : decode cL_law 1397 = .ok (.iadd, 1) := by decide +kernel
theorem dL_law_1398 : decode cL_law 1398 = .ok (.iaload, 1) := by decide +kernel
theorem dL_law_1399 : decode cL_law 1399 = .ok (.ifCond .eq 7, 3) := by decide +kernel
theorem dL_law_1402 : decode cL_law 1402 = .ok (.iconst 1, 1) := by decide +kernel
theorem dL_law_1403 : decode cL_law 1403 = .ok (.goto 4, 3) := by decide +kernel
theorem dL_law_1406 : decode cL_law 1406 = .ok (.iconst 0, 1) := by decide +kernel
theorem dL_law_1407 : decode cL_law 1407 = .ok (.invokevirtual 162, 3) := by decide +kernel
theorem dL_law_1410 : decode cL_law 1410 = .ok (.aload_n 2, 1) := by decide +kernel
theorem dL_law_1411 : decode cL_law 1411 = .ok (.aload_n 0, 1) := by decide +kernel
theorem dL_law_1412 : decode cL_law 1412 = .ok (.iload 4, 2) := by decide +kernel
theorem dL_law_1414 : decode cL_law 1414 = .ok (.iconst 1, 1) := by decide +kernel
theorem dL_law_1415 : decode cL_law 1415 = .ok (.iadd, 1) := by decide +kernel
theorem dL_law_1416 : decode cL_law 1416 = .ok (.iaload, 1) := by decide +kernel
theorem dL_law_1417 : decode cL_law 1417 = .ok (.aload_n 0, 1) := by decide +kernel
theorem dL_law_1418 : decode cL_law 1418 = .ok (.iload 4, 2) := by decide +kernel
theorem dL_law_1420 : decode cL_law 1420 = .ok (.iconst 2, 1) := by decide +kernel
theorem dL_law_1421 : decode cL_law 1421 = .ok (.iadd, 1) := by decide +kernel
theorem dL_law_1422 : decode cL_law 1422 = .ok (.iaload, 1) := by decide +kernel
theorem dL_law_1423 : decode cL_law 1423 = .ok (.aload_n 0, 1) := by decide +kernel
theorem dL_law_1424 : decode cL_law 1424 = .ok (.iload 4, 2) := by decide +kernel
theorem dL_law_1426 : decode cL_law 1426 = .ok (.iconst 3, 1) := by decide +kernel
theorem dL_law_1427 : decode cL_law 1427 = .ok (.iadd, 1) := by decide +kernel
theorem dL_law_1428 : decode cL_law 1428 = .ok (.iaload, 1) := by decide +kernel
theorem dL_law_1429 : decode cL_law 1429 = .ok (.aload_n 0, 1) := by decide +kernel
theorem dL_law_1430 : decode cL_law 1430 = .ok (.iload 4, 2) := by decide +kernel
theorem dL_law_1432 : decode cL_law 1432 = .ok (.iconst 4, 1) := by decide +kernel
theorem dL_law_1433 : decode cL_law 1433 = .ok (.iadd, 1) := by decide +kernel
theorem dL_law_1434 : decode cL_law 1434 = .ok (.iaload, 1) := by decide +kernel
theorem dL_law_1435 : decode cL_law 1435 = .ok (.ifCond .eq 7, 3) := by decide +kernel
theorem dL_law_1438 : decode cL_law 1438 = .ok (.iconst 1, 1) := by decide +kernel
theorem dL_law_1439 : decode cL_law 1439 = .ok (.goto 4, 3) := by decide +kernel
theorem dL_law_1442 : decode cL_law 1442 = .ok (.iconst 0, 1) := by decide +kernel
theorem dL_law_1443 : decode cL_law 1443 = .ok (.invokevirtual 166, 3) := by decide +kernel
theorem dL_law_1446 : decode cL_law 1446 = .ok (.if_icmp .eq 279, 3) := by decide +kernel
theorem dL_law_1449 : decode cL_law 1449 = .ok (.iconst 0, 1) := by decide +kernel
theorem dL_law_1450 : decode cL_law 1450 = .ok (.ireturn, 1) := by decide +kernel
theorem dL_law_1451 : decode cL_law 1451 = .ok (.aload_n 1, 1) := by decide +kernel
theorem dL_law_1452 : decode cL_law 1452 = .ok (.aload_n 0, 1) := by decide +kernel
theorem dL_law_1453 : decode cL_law 1453 = .ok (.iload 4, 2) := by decide +kernel
theorem dL_law_1455 : decode cL_law 1455 = .ok (.iconst 1, 1) := by decide +kernel
theorem dL_law_1456 : decode cL_law 1456 = .ok (.iadd, 1) := by decide +kernel
theorem dL_law_1457 : decode cL_law 1457 = .ok (.iaload, 1) := by decide +kernel
theorem dL_law_1458 : decode cL_law 1458 = .ok (.invokevirtual 167, 3) := by decide +kernel
theorem dL_law_1461 : decode cL_law 1461 = .ok (.aload_n 2, 1) := by decide +kernel
theorem dL_law_1462 : decode cL_law 1462 = .ok (.aload_n 0, 1) := by decide +kernel
theorem dL_law_1463 : decode cL_law 1463 = .ok (.iload 4, 2) := by decide +kernel
theorem dL_law_1465 : decode cL_law 1465 = .ok (.iconst 1, 1) := by decide +kernel
theorem dL_law_1466 : decode cL_law 1466 = .ok (.iadd, 1) := by decide +kernel
theorem dL_law_1467 : decode cL_law 1467 = .ok (.iaload, 1) := by decide +kernel
theorem dL_law_1468 : decode cL_law 1468 = .ok (.invokevirtual 170, 3) := by decide +kernel
theorem dL_law_1471 : decode cL_law 1471 = .ok (.if_icmp .eq 254, 3) := by decide +kernel
theorem dL_law_1474 : decode cL_law 1474 = .ok (.iconst 0, 1) := by decide +kernel
theorem dL_law_1475 : decode cL_law 1475 = .ok (.ireturn, 1) := by decide +kernel
theorem dL_law_1476 : decode cL_law 1476 = .ok (.aload_n 1, 1) := by decide +kernel
theorem dL_law_1477 : decode cL_law 1477 = .ok (.aload_n 0, 1) := by decide +kernel
theorem dL_law_1478 : decode cL_law 1478 = .ok (.iload 4, 2) := by decide +kernel
theorem dL_law_1480 : decode cL_law 1480 = .ok (.iconst 1, 1) := by decide +kernel
theorem dL_law_1481 : decode cL_law 1481 = .ok (.iadd, 1) := by decide +kernel
theorem dL_law_1482 : decode cL_law 1482 = .ok (.iaload, 1) := by decide +kernel
theorem dL_law_1483 : decode cL_law 1483 = .ok (.invokevirtual 171, 3) := by decide +kernel
theorem dL_law_1486 : decode cL_law 1486 = .ok (.aload_n 2, 1) := by decide +kernel
theorem dL_law_1487 : decode cL_law 1487 = .ok (.aload_n 0, 1) := by decide +kernel
theorem dL_law_1488 : decode cL_law 1488 = .ok (.iload 4, 2) := by decide +kernel
theorem dL_law_1490 : decode cL_law 1490 = .ok (.iconst 1, 1) := by decide +kernel
theorem dL_law_1491 : decode cL_law 1491 = .ok (.iadd, 1) := by decide +kernel
theorem dL_law_1492 : decode cL_law 1492 = .ok (.iaload, 1) := by decide +kernel
theorem dL_law_1493 : decode cL_law 1493 = .ok (.invokevirtual 174, 3) := by decide +kernel
theorem dL_law_1496 : decode cL_law 1496 = .ok (.if_icmp .eq 229, 3) := by decide +kernel
theorem dL_law_1499 : decode cL_law 1499 = .ok (.iconst 0, 1) := by decide +kernel
theorem dL_law_1500 : decode cL_law 1500 = .ok (.ireturn, 1) := by decide +kernel
theorem dL_law_1501 : decode cL_law 1501 = .ok (.aload_n 1, 1) := by decide +kernel
theorem dL_law_1502 : decode cL_law 1502 = .ok (.aload_n 0, 1) := by decide +kernel
theorem dL_law_1503 : decode cL_law 1503 = .ok (.iload 4, 2) := by decide +kernel
theorem dL_law_1505 : decode cL_law 1505 = .ok (.iconst 1, 1) := by decide +kernel
theorem dL_law_1506 : decode cL_law 1506 = .ok (.iadd, 1) := by decide +kernel
theorem dL_law_1507 : decode cL_law 1507 = .ok (.iaload, 1) := by decide +kernel
theorem dL_law_1508 : decode cL_law 1508 = .ok (.invokevirtual 175, 3) := by decide +kernel
theorem dL_law_1511 : decode cL_law 1511 = .ok (.aload_n 2, 1) := by decide +kernel
theorem dL_law_1512 : decode cL_law 1512 = .ok (.aload_n 0, 1) := by decide +kernel
theorem dL_law_1513 : decode cL_law 1513 = .ok (.iload 4, 2) := by decide +kernel
theorem dL_law_1515 : decode cL_law 1515 = .ok (.iconst 1, 1) := by decide +kernel
theorem dL_law_1516 : decode cL_law 1516 = .ok (.iadd, 1) := by decide +kernel
theorem dL_law_1517 : decode cL_law 1517 = .ok (.iaload, 1) := by decide +kernel
theorem dL_law_1518 : decode cL_law 1518 = .ok (.invokevirtual 178, 3) := by decide +kernel
theorem dL_law_1521 : decode cL_law 1521 = .ok (.if_icmp .eq 204, 3) := by decide +kernel
theorem dL_law_1524 : decode cL_law 1524 = .ok (.iconst 0, 1) := by decide +kernel
theorem dL_law_1525 : decode cL_law 1525 = .ok (.ireturn, 1) := by decide +kernel
theorem dL_law_1526 : decode cL_law 1526 = .ok (.aload_n 1, 1) := by decide +kernel
theorem dL_law_1527 : decode cL_law 1527 = .ok (.aload_n 0, 1) := by decide +kernel
theorem dL_law_1528 : decode cL_law 1528 = .ok (.iload 4, 2) := by decide +kernel
theorem dL_law_1530 : decode cL_law 1530 = .ok (.iconst 1, 1) := by decide +kernel
theorem dL_law_1531 : decode cL_law 1531 = .ok (.iadd, 1) := by decide +kernel
theorem dL_law_1532 : decode cL_law 1532 = .ok (.iaload, 1) := by decide +kernel
theorem dL_law_1533 : decode cL_law 1533 = .ok (.aload_n 0, 1) := by decide +kernel
theorem dL_law_1534 : decode cL_law 1534 = .ok (.iload 4, 2) := by decide +kernel
theorem dL_law_1536 : decode cL_law 1536 = .ok (.iconst 2, 1) := by decide +kernel
theorem dL_law_1537 : decode cL_law 1537 = .ok (.iadd, 1) := by decide +kernel
theorem dL_law_1538 : decode cL_law 1538 = .ok (.iaload, 1) := by decide +kernel
theorem dL_law_1539 : decode cL_law 1539 = .ok (.invokevirtual 179, 3) := by decide +kernel
theorem dL_law_1542 : decode cL_law 1542 = .ok (.aload_n 2, 1) := by decide +kernel
theorem dL_law_1543 : decode cL_law 1543 = .ok (.aload_n 0, 1) := by decide +kernel
theorem dL_law_1544 : decode cL_law 1544 = .ok (.iload 4, 2) := by decide +kernel
theorem dL_law_1546 : decode cL_law 1546 = .ok (.iconst 1, 1) := by decide +kernel
theorem dL_law_1547 : decode cL_law 1547 = .ok (.iadd, 1) := by decide +kernel
theorem dL_law_1548 : decode cL_law 1548 = .ok (.iaload, 1) := by decide +kernel
theorem dL_law_1549 : decode cL_law 1549 = .ok (.aload_n 0, 1) := by decide +kernel
theorem dL_law_1550 : decode cL_law 1550 = .ok (.iload 4, 2) := by decide +kernel
theorem dL_law_1552 : decode cL_law 1552 = .ok (.iconst 2, 1) := by decide +kernel
theorem dL_law_1553 : decode cL_law 1553 = .ok (.iadd, 1) := by decide +kernel
theorem dL_law_1554 : decode cL_law 1554 = .ok (.iaload, 1) := by decide +kernel
theorem dL_law_1555 : decode cL_law 1555 = .ok (.invokevirtual 182, 3) := by decide +kernel
theorem dL_law_1558 : decode cL_law 1558 = .ok (.if_icmp .eq 167, 3) := by decide +kernel
theorem dL_law_1561 : decode cL_law 1561 = .ok (.iconst 0, 1) := by decide +kernel
theorem dL_law_1562 : decode cL_law 1562 = .ok (.ireturn, 1) := by decide +kernel
theorem dL_law_1563 : decode cL_law 1563 = .ok (.aload_n 1, 1) := by decide +kernel
theorem dL_law_1564 : decode cL_law 1564 = .ok (.aload_n 0, 1) := by decide +kernel
theorem dL_law_1565 : decode cL_law 1565 = .ok (.iload 4, 2) := by decide +kernel
theorem dL_law_1567 : decode cL_law 1567 = .ok (.iconst 1, 1) := by decide +kernel
theorem dL_law_1568 : decode cL_law 1568 = .ok (.iadd, 1) := by decide +kernel
theorem dL_law_1569 : decode cL_law 1569 = .ok (.iaload, 1) := by decide +kernel
theorem dL_law_1570 : decode cL_law 1570 = .ok (.aload_n 0, 1) := by decide +kernel
theorem dL_law_1571 : decode cL_law 1571 = .ok (.iload 4, 2) := by decide +kernel
theorem dL_law_1573 : decode cL_law 1573 = .ok (.iconst 2, 1) := by decide +kernel
theorem dL_law_1574 : decode cL_law 1574 = .ok (.iadd, 1) := by decide +kernel
theorem dL_law_1575 : decode cL_law 1575 = .ok (.iaload, 1) := by decide +kernel
theorem dL_law_1576 : decode cL_law 1576 = .ok (.aload_n 0, 1) := by decide +kernel
theorem dL_law_1577 : decode cL_law 1577 = .ok (.iload 4, 2) := by decide +kernel
theorem dL_law_1579 : decode cL_law 1579 = .ok (.iconst 3, 1) := by decide +kernel
theorem dL_law_1580 : decode cL_law 1580 = .ok (.iadd, 1) := by decide +kernel
theorem dL_law_1581 : decode cL_law 1581 = .ok (.iaload, 1) := by decide +kernel
theorem dL_law_1582 : decode cL_law 1582 = .ok (.invokevirtual 183, 3) := by decide +kernel
theorem dL_law_1585 : decode cL_law 1585 = .ok (.aload_n 2, 1) := by decide +kernel
theorem dL_law_1586 : decode cL_law 1586 = .ok (.aload_n 0, 1) := by decide +kernel
theorem dL_law_1587 : decode cL_law 1587 = .ok (.iload 4, 2) := by decide +kernel
theorem dL_law_1589 : decode cL_law 1589 = .ok (.iconst 1, 1) := by decide +kernel
theorem dL_law_1590 : decode cL_law 1590 = .ok (.iadd, 1) := by decide +kernel
theorem dL_law_1591 : decode cL_law 1591 = .ok (.iaload, 1) := by decide +kernel
theorem dL_law_1592 : decode cL_law 1592 = .ok (.aload_n 0, 1) := by decide +kernel
theorem dL_law_1593 : decode cL_law 1593 = .ok (.iload 4, 2) := by decide +kernel
theorem dL_law_1595 : decode cL_law 1595 = .ok (.iconst 2, 1) := by decide +kernel
theorem dL_law_1596 : decode cL_law 1596 = .ok (.iadd, 1) := by decide +kernel
theorem dL_law_1597 : decode cL_law 1597 = .ok (.iaload, 1) := by decide +kernel
theorem dL_law_1598 : decode cL_law 1598 = .ok (.aload_n 0, 1) := by decide +kernel
theorem dL_law_1599 : decode cL_law 1599 = .ok (.iload 4, 2) := by decide +kernel
theorem dL_law_1601 : decode cL_law 1601 = .ok (.iconst 3, 1) := by decide +kernel
theorem dL_law_1602 : decode cL_law 1602 = .ok (.iadd, 1) := by decide +kernel
theorem dL_law_1603 : decode cL_law 1603 = .ok (.iaload, 1) := by decide +kernel
theorem dL_law_1604 : decode cL_law 1604 = .ok (.invokevirtual 186, 3) := by decide +kernel
theorem dL_law_1607 : decode cL_law 1607 = .ok (.if_icmp .eq 118, 3) := by decide +kernel
theorem dL_law_1610 : decode cL_law 1610 = .ok (.iconst 0, 1) := by decide +kernel
theorem dL_law_1611 : decode cL_law 1611 = .ok (.ireturn, 1) := by decide +kernel
theorem dL_law_1612 : decode cL_law 1612 = .ok (.aload_n 1, 1) := by decide +kernel
theorem dL_law_1613 : decode cL_law 1613 = .ok (.aload_n 0, 1) := by decide +kernel
theorem dL_law_1614 : decode cL_law 1614 = .ok (.iload 4, 2) := by decide +kernel
theorem dL_law_1616 : decode cL_law 1616 = .ok (.iconst 1, 1) := by decide +kernel
theorem dL_law_1617 : decode cL_law 1617 = .ok (.iadd, 1) := by decide +kernel
theorem dL_law_1618 : decode cL_law 1618 = .ok (.iaload, 1) := by decide +kernel
theorem dL_law_1619 : decode cL_law 1619 = .ok (.aload_n 0, 1) := by decide +kernel
theorem dL_law_1620 : decode cL_law 1620 = .ok (.iload 4, 2) := by decide +kernel
theorem dL_law_1622 : decode cL_law 1622 = .ok (.iconst 2, 1) := by decide +kernel
theorem dL_law_1623 : decode cL_law 1623 = .ok (.iadd, 1) := by decide +kernel
theorem dL_law_1624 : decode cL_law 1624 = .ok (.iaload, 1) := by decide +kernel
theorem dL_law_1625 : decode cL_law 1625 = .ok (.aload_n 0, 1) := by decide +kernel
theorem dL_law_1626 : decode cL_law 1626 = .ok (.iload 4, 2) := by decide +kernel
theorem dL_law_1628 : decode cL_law 1628 = .ok (.iconst 3, 1) := by decide +kernel
theorem dL_law_1629 : decode cL_law 1629 = .ok (.iadd, 1) := by decide +kernel
theorem dL_law_1630 : decode cL_law 1630 = .ok (.iaload, 1) := by decide +kernel
theorem dL_law_1631 : decode cL_law 1631 = .ok (.invokevirtual 187, 3) := by decide +kernel
theorem dL_law_1634 : decode cL_law 1634 = .ok (.aload_n 2, 1) := by decide +kernel
theorem dL_law_1635 : decode cL_law 1635 = .ok (.aload_n 0, 1) := by decide +kernel
theorem dL_law_1636 : decode cL_law 1636 = .ok (.iload 4, 2) := by decide +kernel
theorem dL_law_1638 : decode cL_law 1638 = .ok (.iconst 1, 1) := by decide +kernel
theorem dL_law_1639 : decode cL_law 1639 = .ok (.iadd, 1) := by decide +kernel
theorem dL_law_1640 : decode cL_law 1640 = .ok (.iaload, 1) := by decide +kernel
theorem dL_law_1641 : decode cL_law 1641 = .ok (.aload_n 0, 1) := by decide +kernel
theorem dL_law_1642 : decode cL_law 1642 = .ok (.iload 4, 2) := by decide +kernel
theorem dL_law_1644 : decode cL_law 1644 = .ok (.iconst 2, 1) := by decide +kernel
theorem dL_law_1645 : decode cL_law 1645 = .ok (.iadd, 1) := by decide +kernel
theorem dL_law_1646 : decode cL_law 1646 = .ok (.iaload, 1) := by decide +kernel
theorem dL_law_1647 : decode cL_law 1647 = .ok (.aload_n 0, 1) := by decide +kernel
theorem dL_law_1648 : decode cL_law 1648 = .ok (.iload 4, 2) := by decide +kernel
theorem dL_law_1650 : decode cL_law 1650 = .ok (.iconst 3, 1) := by decide +kernel
theorem dL_law_1651 : decode cL_law 1651 = .ok (.iadd, 1) := by decide +kernel
theorem dL_law_1652 : decode cL_law 1652 = .ok (.iaload, 1) := by decide +kernel
theorem dL_law_1653 : decode cL_law 1653 = .ok (.invokevirtual 190, 3) := by decide +kernel
theorem dL_law_1656 : decode cL_law 1656 = .ok (.if_icmp .eq 69, 3) := by decide +kernel
theorem dL_law_1659 : decode cL_law 1659 = .ok (.iconst 0, 1) := by decide +kernel
theorem dL_law_1660 : decode cL_law 1660 = .ok (.ireturn, 1) := by decide +kernel
theorem dL_law_1661 : decode cL_law 1661 = .ok (.aload_n 1, 1) := by decide +kernel
theorem dL_law_1662 : decode cL_law 1662 = .ok (.invokevirtual 191, 3) := by decide +kernel
theorem dL_law_1665 : decode cL_law 1665 = .ok (.aload_n 2, 1) := by decide +kernel
theorem dL_law_1666 : decode cL_law 1666 = .ok (.invokevirtual 194, 3) := by decide +kernel
theorem dL_law_1669 : decode cL_law 1669 = .ok (.if_icmp .eq 56, 3) := by decide +kernel
theorem dL_law_1672 : decode cL_law 1672 = .ok (.iconst 0, 1) := by decide +kernel
theorem dL_law_1673 : decode cL_law 1673 = .ok (.ireturn, 1) := by decide +kernel
theorem dL_law_1674 : decode cL_law 1674 = .ok (.aload_n 1, 1) := by decide +kernel
theorem dL_law_1675 : decode cL_law 1675 = .ok (.invokevirtual 195, 3) := by decide +kernel
theorem dL_law_1678 : decode cL_law 1678 = .ok (.aload_n 2, 1) := by decide +kernel
theorem dL_law_1679 : decode cL_law 1679 = .ok (.invokevirtual 198, 3) := by decide +kernel
theorem dL_law_1682 : decode cL_law 1682 = .ok (.if_icmp .eq 43, 3) := by decide +kernel
theorem dL_law_1685 : decode cL_law 1685 = .ok (.iconst 0, 1) := by decide +kernel
theorem dL_law_1686 : decode cL_law 1686 = .ok (.ireturn, 1) := by decide +kernel
theorem dL_law_1687 : decode cL_law 1687 = .ok (.aload_n 1, 1) := by decide +kernel
theorem dL_law_1688 : decode cL_law 1688 = .ok (.invokevirtual 199, 3) := by decide +kernel
theorem dL_law_1691 : decode cL_law 1691 = .ok (.aload_n 2, 1) := by decide +kernel
theorem dL_law_1692 : decode cL_law 1692 = .ok (.invokevirtual 202, 3) := by decide +kernel
theorem dL_law_1695 : decode cL_law 1695 = .ok (.if_icmp .eq 30, 3) := by decide +kernel
theorem dL_law_1698 : decode cL_law 1698 = .ok (.iconst 0, 1) := by decide +kernel
theorem dL_law_1699 : decode cL_law 1699 = .ok (.ireturn, 1) := by decide +kernel
theorem dL_law_1700 : decode cL_law 1700 = .ok (.aload_n 1, 1) := by decide +kernel
theorem dL_law_1701 : decode cL_law 1701 = .ok (.aload_n 0, 1) := by decide +kernel
theorem dL_law_1702 : decode cL_law 1702 = .ok (.iload 4, 2) := by decide +kernel
theorem dL_law_1704 : decode cL_law 1704 = .ok (.iconst 1, 1) := by decide +kernel
theorem dL_law_1705 : decode cL_law 1705 = .ok (.iadd, 1) := by decide +kernel
theorem dL_law_1706 : decode cL_law 1706 = .ok (.iaload, 1) := by decide +kernel
theorem dL_law_1707 : decode cL_law 1707 = .ok (.invokevirtual 203, 3) := by decide +kernel
theorem dL_law_1710 : decode cL_law 1710 = .ok (.aload_n 2, 1) := by decide +kernel
theorem dL_law_1711 : decode cL_law 1711 = .ok (.aload_n 0, 1) := by decide +kernel
theorem dL_law_1712 : decode cL_law 1712 = .ok (.iload 4, 2) := by decide +kernel
theorem dL_law_1714 : decode cL_law 1714 = .ok (.iconst 1, 1) := by decide +kernel
theorem dL_law_1715 : decode cL_law 1715 = .ok (.iadd, 1) := by decide +kernel
theorem dL_law_1716 : decode cL_law 1716 = .ok (.iaload, 1) := by decide +kernel
theorem dL_law_1717 : decode cL_law 1717 = .ok (.invokevirtual 206, 3) := by decide +kernel
theorem dL_law_1720 : decode cL_law 1720 = .ok (.if_icmp .eq 5, 3) := by decide +kernel
theorem dL_law_1723 : decode cL_law 1723 = .ok (.iconst 0, 1) := by decide +kernel
theorem dL_law_1724 : decode cL_law 1724 = .ok (.ireturn, 1) := by decide +kernel
theorem dL_law_1725 : decode cL_law 1725 = .ok (.iinc 4 6, 3) := by decide +kernel
theorem dL_law_1728 : decode cL_law 1728 = .ok (.goto (-1705), 3) := by decide +kernel
theorem dL_law_1731 : decode cL_law 1731 = .ok (.iconst 1, 1) := by decide +kernel
theorem dL_law_1732 : decode cL_law 1732 = .ok (.ireturn, 1) := by decide +kernel
