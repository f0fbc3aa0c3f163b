theorem dX5_init_0 : decode cX5_init 0 = .ok (.aload_n 0, 1) := by decide +kernel
theorem dX5_init_1 : decode cX5_init 1 = .ok (.invokespecial 1, 3) := by decide +kernel
theorem dX5_init_4 : decode cX5_init 4 = .ok (.aload_n 0, 1) := by decide +kernel
theorem dX5_init_5 : decode cX5_init 5 = .ok (.sipush 200, 3) := by decide +kernel
theorem dX5_init_8 : decode cX5_init 8 = .ok (.newarray .int, 2) := by decide +kernel
theorem dX5_init_10 : decode cX5_init 10 = .ok (.putfield 7, 3) := by decide +kernel
theorem dX5_init_13 : decode cX5_init 13 = .ok (.aload_n 0, 1) := by decide +kernel
theorem dX5_init_14 : decode cX5_init 14 = .ok (.bipush 35, 2) := by decide +kernel
theorem dX5_init_16 : decode cX5_init 16 = .ok (.newarray .int, 2) := by decide +kernel
theorem dX5_init_18 : decode cX5_init 18 = .ok (.putfield 13, 3) := by decide +kernel
theorem dX5_init_21 : decode cX5_init 21 = .ok (.aload_n 0, 1) := by decide +kernel
theorem dX5_init_22 : decode cX5_init 22 = .ok (.bipush 35, 2) := by decide +kernel
theorem dX5_init_24 : decode cX5_init 24 = .ok (.newarray .int, 2) := by decide +kernel
theorem dX5_init_26 : decode cX5_init 26 = .ok (.putfield 16, 3) := by decide +kernel
theorem dX5_init_29 : decode cX5_init 29 = .ok (.aload_n 0, 1) := by decide +kernel
theorem dX5_init_30 : decode cX5_init 30 = .ok (.bipush 22, 2) := by decide +kernel
theorem dX5_init_32 : decode cX5_init 32 = .ok (.newarray .int, 2) := by decide +kernel
theorem dX5_init_34 : decode cX5_init 34 = .ok (.putfield 19, 3) := by decide +kernel
theorem dX5_init_37 : decode cX5_init 37 = .ok (.aload_n 0, 1) := by decide +kernel
theorem dX5_init_38 : decode cX5_init 38 = .ok (.sipush 176, 3) := by decide +kernel
theorem dX5_init_41 : decode cX5_init 41 = .ok (.newarray .int, 2) := by decide +kernel
theorem dX5_init_43 : decode cX5_init 43 = .ok (.putfield 22, 3) := by decide +kernel
theorem dX5_init_46 : decode cX5_init 46 = .ok (.aload_n 0, 1) := by decide +kernel
theorem dX5_init_47 : decode cX5_init 47 = .ok (.bipush 44, 2) := by decide +kernel
theorem dX5_init_49 : decode cX5_init 49 = .ok (.newarray .int, 2) := by decide +kernel
theorem dX5_init_51 : decode cX5_init 51 = .ok (.putfield 25, 3) := by decide +kernel
theorem dX5_init_54 : decode cX5_init 54 = .ok (.aload_n 0, 1) := by decide +kernel
theorem dX5_init_55 : decode cX5_init 55 = .ok (.iconst (-1), 1) := by decide +kernel
theorem dX5_init_56 : decode cX5_init 56 = .ok (.putfield 28, 3) := by decide +kernel
theorem dX5_init_59 : decode cX5_init 59 = .ok (.aload_n 0, 1) := by decide +kernel
theorem dX5_init_60 : decode cX5_init 60 = .ok (.bipush 22, 2) := by decide +kernel
theorem dX5_init_62 : decode cX5_init 62 = .ok (.newarray .int, 2) := by decide +kernel
theorem dX5_init_64 : decode cX5_init 64 = .ok (.putfield 32, 3) := by decide +kernel
theorem dX5_init_67 : decode cX5_init 67 = .ok (.aload_n 0, 1) := by decide +kernel
theorem dX5_init_68 : decode cX5_init 68 = .ok (.invokevirtual 35, 3) := by decide +kernel
theorem dX5_init_71 : decode cX5_init 71 = .ok (.aload_n 0, 1) := by decide +kernel
theorem dX5_init_72 : decode cX5_init 72 = .ok (.iconst 0, 1) := by decide +kernel
theorem dX5_init_73 : decode cX5_init 73 = .ok (.iconst 0, 1) := by decide +kernel
theorem dX5_init_74 : decode cX5_init 74 = .ok (.iconst 0, 1) := by decide +kernel
theorem dX5_init_75 : decode cX5_init 75 = .ok (.iconst 0, 1) := by decide +kernel
theorem dX5_init_76 : decode cX5_init 76 = .ok (.invokevirtual 38, 3) := by decide +kernel
theorem dX5_init_79 : decode cX5_init 79 = .ok (.aload_n 0, 1) := by decide +kernel
theorem dX5_init_80 : decode cX5_init 80 = .ok (.iconst 1, 1) := by decide +kernel
theorem dX5_init_81 : decode cX5_init 81 = .ok (.iconst 0, 1) := by decide +kernel
theorem dX5_init_82 : decode cX5_init 82 = .ok (.iconst 0, 1) := by decide +kernel
theorem dX5_init_83 : decode cX5_init 83 = .ok (.bipush 10, 2) := by decide +kernel
theorem dX5_init_85 : decode cX5_init 85 = .ok (.invokevirtual 38, 3) := by decide +kernel
theorem dX5_init_88 : decode cX5_init 88 = .ok (.aload_n 0, 1) := by decide +kernel
theorem dX5_init_89 : decode cX5_init 89 = .ok (.iconst 2, 1) := by decide +kernel
theorem dX5_init_90 : decode cX5_init 90 = .ok (.iconst 0, 1) := by decide +kernel
theorem dX5_init_91 : decode cX5_init 91 = .ok (.iconst 1, 1) := by decide +kernel
theorem dX5_init_92 : decode cX5_init 92 = .ok (.iconst 0, 1) := by decide +kernel
theorem dX5_init_93 : decode cX5_init 93 = .ok (.invokevirtual 38, 3) := by decide +kernel
theorem dX5_init_96 : decode cX5_init 96 = .ok (.aload_n 0, 1) := by decide +kernel
theorem dX5_init_97 : decode cX5_init 97 = .ok (.iconst 2, 1) := by decide +kernel
theorem dX5_init_98 : decode cX5_init 98 = .ok (.iconst 0, 1) := by decide +kernel
theorem dX5_init_99 : decode cX5_init 99 = .ok (.iconst 2, 1) := by decide +kernel
theorem dX5_init_100 : decode cX5_init 100 = .ok (.iconst 3, 1) := by decide +kernel
theorem dX5_init_101 : decode cX5_init 101 = .ok (.invokevirtual 38, 3) := by decide +kernel
theorem dX5_init_104 : decode cX5_init 104 = .ok (.aload_n 0, 1) := by decide +kernel
theorem dX5_init_105 : decode cX5_init 105 = .ok (.iconst 3, 1) := by decide +kernel
theorem dX5_init_106 : decode cX5_init 106 = .ok (.iconst 0, 1) := by decide +kernel
theorem dX5_init_107 : decode cX5_init 107 = .ok (.iconst 0, 1) := by decide +kernel
theorem dX5_init_108 : decode cX5_init 108 = .ok (.iconst 0, 1) := by decide +kernel
theorem dX5_init_109 : decode cX5_init 109 = .ok (.invokevirtual 38, 3) := by decide +kernel
theorem dX5_init_112 : decode cX5_init 112 = .ok (.aload_n 0, 1) := by decide +kernel
theorem dX5_init_113 : decode cX5_init 113 = .ok (.iconst 1, 1) := by decide +kernel
theorem dX5_init_114 : decode cX5_init 114 = .ok (.iconst 0, 1) := by decide +kernel
theorem dX5_init_115 : decode cX5_init 115 = .ok (.iconst 5, 1) := by decide +kernel
theorem dX5_init_116 : decode cX5_init 116 = .ok (.iconst 5, 1) := by decide +kernel
theorem dX5_init_117 : decode cX5_init 117 = .ok (.invokevirtual 38, 3) := by decide +kernel
theorem dX5_init_120 : decode cX5_init 120 = .ok (.aload_n 0, 1) := by decide +kernel
theorem dX5_init_121 : decode cX5_init 121 = .ok (.iconst 2, 1) := by decide +kernel
theorem dX5_init_122 : decode cX5_init 122 = .ok (.iconst 0, 1) := by decide +kernel
theorem dX5_init_123 : decode cX5_init 123 = .ok (.iconst 3, 1) := by decide +kernel
theorem dX5_init_124 : decode cX5_init 124 = .ok (.bipush 6, 2) := by decide +kernel
theorem dX5_init_126 : decode cX5_init 126 = .ok (.invokevirtual 38, 3) := by decide +kernel
theorem dX5_init_129 : decode cX5_init 129 = .ok (.aload_n 0, 1) := by decide +kernel
theorem dX5_init_130 : decode cX5_init 130 = .ok (.getfield 16, 3) := by decide +kernel
theorem dX5_init_133 : decode cX5_init 133 = .ok (.iconst 1, 1) := by decide +kernel
theorem dX5_init_134 : decode cX5_init 134 = .ok (.iconst 4, 1) := by decide +kernel
theorem dX5_init_135 : decode cX5_init 135 = .ok (.iastore, 1) := by decide +kernel
theorem dX5_init_136 : decode cX5_init 136 = .ok (.aload_n 0, 1) := by decide +kernel
theorem dX5_init_137 : decode cX5_init 137 = .ok (.invokevirtual 42, 3) := by decide +kernel
theorem dX5_init_140 : decode cX5_init 140 = .ok (.return_, 1) := by decide +kernel
theorem dX5_in_0 : decode cX5_in 0 = .ok (.iload_n 0, 1) := by decide +kernel
theorem dX5_in_1 : decode cX5_in 1 = .ok (.iload_n 1, 1) := by decide +kernel
theorem dX5_in_2 : decode cX5_in 2 = .ok (.if_icmp .lt 12, 3) := by decide +kernel
theorem dX5_in_5 : decode cX5_in 5 = .ok (.iload_n 0, 1) := by decide +kernel
theorem dX5_in_6 : decode cX5_in 6 = .ok (.iload_n 2, 1) := by decide +kernel
theorem dX5_in_7 : decode cX5_in 7 = .ok (.if_icmp .gt 7, 3) := by decide +kernel
theorem dX5_in_10 : decode cX5_in 10 = .ok (.iconst 1, 1) := by decide +kernel
theorem dX5_in_11 : decode cX5_in 11 = .ok (.goto 4, 3) := by decide +kernel
theorem dX5_in_14 : decode cX5_in 14 = .ok (.iconst 0, 1) := by decide +kernel
theorem dX5_in_15 : decode cX5_in 15 = .ok (.ireturn, 1) := by decide +kernel
theorem dX5_isMan_0 : decode cX5_isMan 0 = .ok (.iload_n 1, 1) := by decide +kernel
theorem dX5_isMan_1 : decode cX5_isMan 1 = .ok (.iconst 0, 1) := by decide +kernel
theorem dX5_isMan_2 : decode cX5_isMan 2 = .ok (.aload_n 0, 1) := by decide +kernel
theorem dX5_isMan_3 : decode cX5_isMan 3 = .ok (.getfield 13, 3) := by decide +kernel
theorem dX5_isMan_6 : decode cX5_isMan 6 = .ok (.iconst 0, 1) := by decide +kernel
theorem dX5_isMan_7 : decode cX5_isMan 7 = .ok (.iaload, 1) := by decide +kernel
theorem dX5_isMan_8 : decode cX5_isMan 8 = .ok (.iconst 1, 1) := by decide +kernel
theorem dX5_isMan_9 : decode cX5_isMan 9 = .ok (.isub, 1) := by decide +kernel
theorem dX5_isMan_10 : decode cX5_isMan 10 = .ok (.invokestatic 45, 3) := by decide +kernel
theorem dX5_isMan_13 : decode cX5_isMan 13 = .ok (.ireturn, 1) := by decide +kernel
theorem dX5_isWord_0 : decode cX5_isWord 0 = .ok (.iload_n 0, 1) := by decide +kernel
theorem dX5_isWord_1 : decode cX5_isWord 1 = .ok (.iconst 0, 1) := by decide +kernel
theorem dX5_isWord_2 : decode cX5_isWord 2 = .ok (.iconst 2, 1) := by decide +kernel
theorem dX5_isWord_3 : decode cX5_isWord 3 = .ok (.invokestatic 45, 3) := by decide +kernel
theorem dX5_isWord_6 : decode cX5_isWord 6 = .ok (.ireturn, 1) := by decide +kernel
theorem dX5_ones_0 : decode cX5_ones 0 = .ok (.iconst 0, 1) := by decide +kernel
theorem dX5_ones_1 : decode cX5_ones 1 = .ok (.istore_n 1, 1) := by decide +kernel
theorem dX5_ones_2 : decode cX5_ones 2 = .ok (.iconst 0, 1) := by decide +kernel
theorem dX5_ones_3 : decode cX5_ones 3 = .ok (.istore_n 2, 1) := by decide +kernel
theorem dX5_ones_4 : decode cX5_ones 4 = .ok (.iload_n 2, 1) := by decide +kernel
theorem dX5_ones_5 : decode cX5_ones 5 = .ok (.bipush 8, 2) := by decide +kernel
theorem dX5_ones_7 : decode cX5_ones 7 = .ok (.if_icmp .ge 17, 3) := by decide +kernel
theorem dX5_ones_10 : decode cX5_ones 10 = .ok (.iload_n 1, 1) := by decide +kernel
theorem dX5_ones_11 : decode cX5_ones 11 = .ok (.iload_n 0, 1) := by decide +kernel
theorem dX5_ones_12 : decode cX5_ones 12 = .ok (.iload_n 2, 1) := by decide +kernel
theorem dX5_ones_13 : decode cX5_ones 13 = .ok (.ishr, 1) := by decide +kernel
theorem dX5_ones_14 : decode cX5_ones 14 = .ok (.iconst 1, 1) := by decide +kernel
theorem dX5_ones_15 : decode cX5_ones 15 = .ok (.iand, 1) := by decide +kernel
theorem dX5_ones_16 : decode cX5_ones 16 = .ok (.iadd, 1) := by decide +kernel
theorem dX5_ones_17 : decode cX5_ones 17 = .ok (.istore_n 1, 1) := by decide +kernel
theorem dX5_ones_18 : decode cX5_ones 18 = .ok (.iinc 2 1, 3) := by decide +kernel
theorem dX5_ones_21 : decode cX5_ones 21 = .ok (.goto (-17), 3) := by decide +kernel
theorem dX5_ones_24 : decode cX5_ones 24 = .ok (.iload_n 1, 1) := by decide +kernel
theorem dX5_ones_25 : decode cX5_ones 25 = .ok (.ireturn, 1) := by decide +kernel
theorem dX5_write_0 : decode cX5_write 0 = .ok (.iload_n 1, 1) := by decide +kernel
theorem dX5_write_1 : decode cX5_write 1 = .ok (.bipush 32, 2) := by decide +kernel
theorem dX5_write_3 : decode cX5_write 3 = .ok (.bipush 126, 2) := by decide +kernel
theorem dX5_write_5 : decode cX5_write 5 = .ok (.invokestatic 45, 3) := by decide +kernel
theorem dX5_write_8 : decode cX5_write 8 = .ok (.ifCond .ne 5, 3) := by decide +kernel
theorem dX5_write_11 : decode cX5_write 11 = .ok (.iconst (-1), 1) := by decide +kernel
theorem dX5_write_12 : decode cX5_write 12 = .ok (.ireturn, 1) := by decide +kernel
theorem dX5_write_13 : decode cX5_write 13 = .ok (.aload_n 0, 1) := by decide +kernel
theorem dX5_write_14 : decode cX5_write 14 = .ok (.getfield 49, 3) := by decide +kernel
theorem dX5_write_17 : decode cX5_write 17 = .ok (.sipush 200, 3) := by decide +kernel
theorem dX5_write_20 : decode cX5_write 20 = .ok (.if_icmp .ne 6, 3) := by decide +kernel
theorem dX5_write_23 : decode cX5_write 23 = .ok (.bipush (-3), 2) := by decide +kernel
theorem dX5_write_25 : decode cX5_write 25 = .ok (.ireturn, 1) := by decide +kernel
theorem dX5_write_26 : decode cX5_write 26 = .ok (.aload_n 0, 1) := by decide +kernel
theorem dX5_write_27 : decode cX5_write 27 = .ok (.getfield 7, 3) := by decide +kernel
theorem dX5_write_30 : decode cX5_write 30 = .ok (.aload_n 0, 1) := by decide +kernel
theorem dX5_write_31 : decode cX5_write 31 = .ok (.getfield 49, 3) := by decide +kernel
theorem dX5_write_34 : decode cX5_write 34 = .ok (.iload_n 1, 1) := by decide +kernel
theorem dX5_write_35 : decode cX5_write 35 = .ok (.iastore, 1) := by decide +kernel
theorem dX5_write_36 : decode cX5_write 36 = .ok (.aload_n 0, 1) := by decide +kernel
theorem dX5_write_37 : decode cX5_write 37 = .ok (.dup, 1) := by decide +kernel
theorem dX5_write_38 : decode cX5_write 38 = .ok (.getfield 49, 3) := by decide +kernel
theorem dX5_write_41 : decode cX5_write 41 = .ok (.iconst 1, 1) := by decide +kernel
theorem dX5_write_42 : decode cX5_write 42 = .ok (.iadd, 1) := by decide +kernel
theorem dX5_write_43 : decode cX5_write 43 = .ok (.putfield 49, 3) := by decide +kernel
theorem dX5_write_46 : decode cX5_write 46 = .ok (.aload_n 0, 1) := by decide +kernel
theorem dX5_write_47 : decode cX5_write 47 = .ok (.getfield 49, 3) := by decide +kernel
theorem dX5_write_50 : decode cX5_write 50 = .ok (.ireturn, 1) := by decide +kernel
theorem dX5_wipe_0 : decode cX5_wipe 0 = .ok (.aload_n 0, 1) := by decide +kernel
theorem dX5_wipe_1 : decode cX5_wipe 1 = .ok (.getfield 49, 3) := by decide +kernel
theorem dX5_wipe_4 : decode cX5_wipe 4 = .ok (.istore_n 1, 1) := by decide +kernel
theorem dX5_wipe_5 : decode cX5_wipe 5 = .ok (.aload_n 0, 1) := by decide +kernel
theorem dX5_wipe_6 : decode cX5_wipe 6 = .ok (.iconst 0, 1) := by decide +kernel
theorem dX5_wipe_7 : decode cX5_wipe 7 = .ok (.putfield 49, 3) := by decide +kernel
theorem dX5_wipe_10 : decode cX5_wipe 10 = .ok (.iload_n 1, 1) := by decide +kernel
theorem dX5_wipe_11 : decode cX5_wipe 11 = .ok (.ireturn, 1) := by decide +kernel
theorem dX5_letterAt_0 : decode cX5_letterAt 0 = .ok (.iload_n 1, 1) := by decide +kernel
theorem dX5_letterAt_1 : decode cX5_letterAt 1 = .ok (.aload_n 0, 1) := by decide +kernel
theorem dX5_letterAt_2 : decode cX5_letterAt 2 = .ok (.getfield 49, 3) := by decide +kernel
theorem dX5_letterAt_5 : decode cX5_letterAt 5 = .ok (.if_icmp .ge 12, 3) := by decide +kernel
theorem dX5_letterAt_8 : decode cX5_letterAt 8 = .ok (.aload_n 0, 1) := by decide +kernel
theorem dX5_letterAt_9 : decode cX5_letterAt 9 = .ok (.getfield 7, 3) := by decide +kernel
theorem dX5_letterAt_12 : decode cX5_letterAt 12 = .ok (.iload_n 1, 1) := by decide +kernel
theorem dX5_letterAt_13 : decode cX5_letterAt 13 = .ok (.iaload, 1) := by decide +kernel
theorem dX5_letterAt_14 : decode cX5_letterAt 14 = .ok (.goto 4, 3) := by decide +kernel
theorem dX5_letterAt_17 : decode cX5_letterAt 17 = .ok (.iconst (-1), 1) := by decide +kernel
theorem dX5_letterAt_18 : decode cX5_letterAt 18 = .ok (.ireturn, 1) := by decide +kernel
theorem dX5_isFigure_0 : decode cX5_isFigure 0 = .ok (.iload_n 0, 1) := by decide +kernel
theorem dX5_isFigure_1 : decode cX5_isFigure 1 = .ok (.bipush 48, 2) := by decide +kernel
theorem dX5_isFigure_3 : decode cX5_isFigure 3 = .ok (.bipush 57, 2) := by decide +kernel
theorem dX5_isFigure_5 : decode cX5_isFigure 5 = .ok (.invokestatic 45, 3) := by decide +kernel
theorem dX5_isFigure_8 : decode cX5_isFigure 8 = .ok (.ireturn, 1) := by decide +kernel
theorem dX5_number_0 : decode cX5_number 0 = .ok (.aload_n 0, 1) := by decide +kernel
theorem dX5_number_1 : decode cX5_number 1 = .ok (.aload_n 0, 1) := by decide +kernel
theorem dX5_number_2 : decode cX5_number 2 = .ok (.getfield 52, 3) := by decide +kernel
theorem dX5_number_5 : decode cX5_number 5 = .ok (.invokevirtual 55, 3) := by decide +kernel
theorem dX5_number_8 : decode cX5_number 8 = .ok (.invokestatic 59, 3) := by decide +kernel
theorem dX5_number_11 : decode cX5_number 11 = .ok (.ifCond .ne 5, 3) := by decide +kernel
theorem dX5_number_14 : decode cX5_number 14 = .ok (.iconst (-1), 1) := by decide +kernel
theorem dX5_number_15 : decode cX5_number 15 = .ok (.ireturn, 1) := by decide +kernel
theorem dX5_number_16 : decode cX5_number 16 = .ok (.aload_n 0, 1) := by decide +kernel
theorem dX5_number_17 : decode cX5_number 17 = .ok (.aload_n 0, 1) := by decide +kernel
theorem dX5_number_18 : decode cX5_number 18 = .ok (.getfield 52, 3) := by decide +kernel
theorem dX5_number_21 : decode cX5_number 21 = .ok (.invokevirtual 55, 3) := by decide +kernel
theorem dX5_number_24 : decode cX5_number 24 = .ok (.bipush 48, 2) := by decide +kernel
theorem dX5_number_26 : decode cX5_number 26 = .ok (.isub, 1) := by decide +kernel
theorem dX5_number_27 : decode cX5_number 27 = .ok (.istore_n 1, 1) := by decide +kernel
theorem dX5_number_28 : decode cX5_number 28 = .ok (.aload_n 0, 1) := by decide +kernel
theorem dX5_number_29 : decode cX5_number 29 = .ok (.dup, 1) := by decide +kernel
theorem dX5_number_30 : decode cX5_number 30 = .ok (.getfield 52, 3) := by decide +kernel
theorem dX5_number_33 : decode cX5_number 33 = .ok (.iconst 1, 1) := by decide +kernel
theorem dX5_number_34 : decode cX5_number 34 = .ok (.iadd, 1) := by decide +kernel
theorem dX5_number_35 : decode cX5_number 35 = .ok (.putfield 52, 3) := by decide +kernel
theorem dX5_number_38 : decode cX5_number 38 = .ok (.aload_n 0, 1) := by decide +kernel
theorem dX5_number_39 : decode cX5_number 39 = .ok (.aload_n 0, 1) := by decide +kernel
theorem dX5_number_40 : decode cX5_number 40 = .ok (.getfield 52, 3) := by decide +kernel
theorem dX5_number_43 : decode cX5_number 43 = .ok (.invokevirtual 55, 3) := by decide +kernel
theorem dX5_number_46 : decode cX5_number 46 = .ok (.invokestatic 59, 3) := by decide +kernel
theorem dX5_number_49 : decode cX5_number 49 = .ok (.ifCond .eq 30, 3) := by decide +kernel
theorem dX5_number_52 : decode cX5_number 52 = .ok (.bipush 10, 2) := by decide +kernel
theorem dX5_number_54 : decode cX5_number 54 = .ok (.iload_n 1, 1) := by decide +kernel
theorem dX5_number_55 : decode cX5_number 55 = .ok (.imul, 1) := by decide +kernel
theorem dX5_number_56 : decode cX5_number 56 = .ok (.aload_n 0, 1) := by decide +kernel
theorem dX5_number_57 : decode cX5_number 57 = .ok (.aload_n 0, 1) := by decide +kernel
theorem dX5_number_58 : decode cX5_number 58 = .ok (.getfield 52, 3) := by decide +kernel
theorem dX5_number_61 : decode cX5_number 61 = .ok (.invokevirtual 55, 3) := by decide +kernel
theorem dX5_number_64 : decode cX5_number 64 = .ok (.iadd, 1) := by decide +kernel
theorem dX5_number_65 : decode cX5_number 65 = .ok (.bipush 48, 2) := by decide +kernel
theorem dX5_number_67 : decode cX5_number 67 = .ok (.isub, 1) := by decide +kernel
theorem dX5_number_68 : decode cX5_number 68 = .ok (.istore_n 1, 1) := by decide +kernel
theorem dX5_number_69 : decode cX5_number 69 = .ok (.aload_n 0, 1) := by decide +kernel
theorem dX5_number_70 : decode cX5_number 70 = .ok (.dup, 1) := by decide +kernel
theorem dX5_number_71 : decode cX5_number 71 = .ok (.getfield 52, 3) := by decide +kernel
theorem dX5_number_74 : decode cX5_number 74 = .ok (.iconst 1, 1) := by decide +kernel
theorem dX5_number_75 : decode cX5_number 75 = .ok (.iadd, 1) := by decide +kernel
theorem dX5_number_76 : decode cX5_number 76 = .ok (.putfield 52, 3) := by decide +kernel
theorem dX5_number_79 : decode cX5_number 79 = .ok (.iload_n 1, 1) := by decide +kernel
theorem dX5_number_80 : decode cX5_number 80 = .ok (.ireturn, 1) := by decide +kernel
theorem dX5_sign_0 : decode cX5_sign 0 = .ok (.aload_n 0, 1) := by decide +kernel
theorem dX5_sign_1 : decode cX5_sign 1 = .ok (.aload_n 0, 1) := by decide +kernel
theorem dX5_sign_2 : decode cX5_sign 2 = .ok (.getfield 52, 3) := by decide +kernel
theorem dX5_sign_5 : decode cX5_sign 5 = .ok (.invokevirtual 55, 3) := by decide +kernel
theorem dX5_sign_8 : decode cX5_sign 8 = .ok (.iload_n 1, 1) := by decide +kernel
theorem dX5_sign_9 : decode cX5_sign 9 = .ok (.if_icmp .ne 7, 3) := by decide +kernel
theorem dX5_sign_12 : decode cX5_sign 12 = .ok (.iconst 1, 1) := by decide +kernel
theorem dX5_sign_13 : decode cX5_sign 13 = .ok (.goto 4, 3) := by decide +kernel
theorem dX5_sign_16 : decode cX5_sign 16 = .ok (.iconst 0, 1) := by decide +kernel
theorem dX5_sign_17 : decode cX5_sign 17 = .ok (.istore_n 2, 1) := by decide +kernel
theorem dX5_sign_18 : decode cX5_sign 18 = .ok (.aload_n 0, 1) := by decide +kernel
theorem dX5_sign_19 : decode cX5_sign 19 = .ok (.dup, 1) := by decide +kernel
theorem dX5_sign_20 : decode cX5_sign 20 = .ok (.getfield 52, 3) := by decide +kernel
theorem dX5_sign_23 : decode cX5_sign 23 = .ok (.iload_n 2, 1) := by decide +kernel
theorem dX5_sign_24 : decode cX5_sign 24 = .ok (.ifCond .eq 7, 3) := by decide +kernel
theorem dX5_sign_27 : decode cX5_sign 27 = .ok (.iconst 1, 1) := by decide +kernel
theorem dX5_sign_28 : decode cX5_sign 28 = .ok (.goto 4, 3) := by decide +kernel
theorem dX5_sign_31 : decode cX5_sign 31 = .ok (.iconst 0, 1) := by decide +kernel
theorem dX5_sign_32 : decode cX5_sign 32 = .ok (.iadd, 1) := by decide +kernel
theorem dX5_sign_33 : decode cX5_sign 33 = .ok (.putfield 52, 3) := by decide +kernel
theorem dX5_sign_36 : decode cX5_sign 36 = .ok (.iload_n 2, 1) := by decide +kernel
theorem dX5_sign_37 : decode cX5_sign 37 = .ok (.ireturn, 1) := by decide +kernel
theorem dX5_begins_0 : decode cX5_begins 0 = .ok (.iconst 0, 1) := by decide +kernel
theorem dX5_begins_1 : decode cX5_begins 1 = .ok (.istore_n 1, 1) := by decide +kernel
theorem dX5_begins_2 : decode cX5_begins 2 = .ok (.iload_n 1, 1) := by decide +kernel
theorem dX5_begins_3 : decode cX5_begins 3 = .ok (.bipush 35, 2) := by decide +kernel
theorem dX5_begins_5 : decode cX5_begins 5 = .ok (.if_icmp .ge 16, 3) := by decide +kernel
theorem dX5_begins_8 : decode cX5_begins 8 = .ok (.aload_n 0, 1) := by decide +kernel
theorem dX5_begins_9 : decode cX5_begins 9 = .ok (.getfield 16, 3) := by decide +kernel
theorem dX5_begins_12 : decode cX5_begins 12 = .ok (.iload_n 1, 1) := by decide +kernel
theorem dX5_begins_13 : decode cX5_begins 13 = .ok (.iconst 0, 1) := by decide +kernel
theorem dX5_begins_14 : decode cX5_begins 14 = .ok (.iastore, 1) := by decide +kernel
theorem dX5_begins_15 : decode cX5_begins 15 = .ok (.iinc 1 1, 3) := by decide +kernel
theorem dX5_begins_18 : decode cX5_begins 18 = .ok (.goto (-16), 3) := by decide +kernel
theorem dX5_begins_21 : decode cX5_begins 21 = .ok (.return_, 1) := by decide +kernel
theorem dX5_adds_0 : decode cX5_adds 0 = .ok (.aload_n 0, 1) := by decide +kernel
theorem dX5_adds_1 : decode cX5_adds 1 = .ok (.getfield 16, 3) := by decide +kernel
theorem dX5_adds_4 : decode cX5_adds 4 = .ok (.iconst 0, 1) := by decide +kernel
theorem dX5_adds_5 : decode cX5_adds 5 = .ok (.iaload, 1) := by decide +kernel
theorem dX5_adds_6 : decode cX5_adds 6 = .ok (.istore 5, 2) := by decide +kernel
theorem dX5_adds_8 : decode cX5_adds 8 = .ok (.aload_n 0, 1) := by decide +kernel
theorem dX5_adds_9 : decode cX5_adds 9 = .ok (.getfield 16, 3) := by decide +kernel
theorem dX5_adds_12 : decode cX5_adds 12 = .ok (.iconst 3, 1) := by decide +kernel
theorem dX5_adds_13 : decode cX5_adds 13 = .ok (.iload 5, 2) := by decide +kernel
theorem dX5_adds_15 : decode cX5_adds 15 = .ok (.iadd, 1) := by decide +kernel
theorem dX5_adds_16 : decode cX5_adds 16 = .ok (.iload_n 1, 1) := by decide +kernel
theorem dX5_adds_17 : decode cX5_adds 17 = .ok (.iastore, 1) := by decide +kernel
theorem dX5_adds_18 : decode cX5_adds 18 = .ok (.aload_n 0, 1) := by decide +kernel
theorem dX5_adds_19 : decode cX5_adds 19 = .ok (.getfield 16, 3) := by decide +kernel
theorem dX5_adds_22 : decode cX5_adds 22 = .ok (.bipush 11, 2) := by decide +kernel
theorem dX5_adds_24 : decode cX5_adds 24 = .ok (.iload 5, 2) := by decide +kernel
theorem dX5_adds_26 : decode cX5_adds 26 = .ok (.iadd, 1) := by decide +kernel
theorem dX5_adds_27 : decode cX5_adds 27 = .ok (.iload_n 2, 1) := by decide +kernel
theorem dX5_adds_28 : decode cX5_adds 28 = .ok (.iastore, 1) := by decide +kernel
theorem dX5_adds_29 : decode cX5_adds 29 = .ok (.aload_n 0, 1) := by decide +kernel
theorem dX5_adds_30 : decode cX5_adds 30 = .ok (.getfield 16, 3) := by decide +kernel
theorem dX5_adds_33 : decode cX5_adds 33 = .ok (.bipush 19, 2) := by decide +kernel
theorem dX5_adds_35 : decode cX5_adds 35 = .ok (.iload 5, 2) := by decide +kernel
theorem dX5_adds_37 : decode cX5_adds 37 = .ok (.iadd, 1) := by decide +kernel
theorem dX5_adds_38 : decode cX5_adds 38 = .ok (.iload_n 3, 1) := by decide +kernel
theorem dX5_adds_39 : decode cX5_adds 39 = .ok (.iastore, 1) := by decide +kernel
theorem dX5_adds_40 : decode cX5_adds 40 = .ok (.aload_n 0, 1) := by decide +kernel
theorem dX5_adds_41 : decode cX5_adds 41 = .ok (.getfield 16, 3) := by decide +kernel
theorem dX5_adds_44 : decode cX5_adds 44 = .ok (.bipush 27, 2) := by decide +kernel
theorem dX5_adds_46 : decode cX5_adds 46 = .ok (.iload 5, 2) := by decide +kernel
theorem dX5_adds_48 : decode cX5_adds 48 = .ok (.iadd, 1) := by decide +kernel
theorem dX5_adds_49 : decode cX5_adds 49 = .ok (.iload 4, 2) := by decide +kernel
theorem dX5_adds_51 : decode cX5_adds 51 = .ok (.iastore, 1) := by decide +kernel
theorem dX5_adds_52 : decode cX5_adds 52 = .ok (.aload_n 0, 1) := by decide +kernel
theorem dX5_adds_53 : decode cX5_adds 53 = .ok (.getfield 16, 3) := by decide +kernel
theorem dX5_adds_56 : decode cX5_adds 56 = .ok (.iconst 0, 1) := by decide +kernel
theorem dX5_adds_57 : decode cX5_adds 57 = .ok (.dup2, 1) := by decide +kernel
theorem dX5_adds_58 : decode cX5_adds 58 = .ok (.iaload, 1) := by decide +kernel
theorem dX5_adds_59 : decode cX5_adds 59 = .ok (.iconst 1, 1) := by decide +kernel
theorem dX5_adds_60 : decode cX5_adds 60 = .ok (.iadd, 1) := by decide +kernel
theorem dX5_adds_61 : decode cX5_adds 61 = .ok (.iastore, 1) := by decide +kernel
theorem dX5_adds_62 : decode cX5_adds 62 = .ok (.return_, 1) := by decide +kernel
theorem dX5_readsMan_0 : decode cX5_readsMan 0 = .ok (.aload_n 0, 1) := by decide +kernel
theorem dX5_readsMan_1 : decode cX5_readsMan 1 = .ok (.invokevirtual 63, 3) := by decide +kernel
theorem dX5_readsMan_4 : decode cX5_readsMan 4 = .ok (.istore_n 1, 1) := by decide +kernel
theorem dX5_readsMan_5 : decode cX5_readsMan 5 = .ok (.iload_n 1, 1) := by decide +kernel
theorem dX5_readsMan_6 : decode cX5_readsMan 6 = .ok (.iconst 0, 1) := by decide +kernel
theorem dX5_readsMan_7 : decode cX5_readsMan 7 = .ok (.iconst 3, 1) := by decide +kernel
theorem dX5_readsMan_8 : decode cX5_readsMan 8 = .ok (.invokestatic 45, 3) := by decide +kernel
theorem dX5_readsMan_11 : decode cX5_readsMan 11 = .ok (.ifCond .eq 12, 3) := by decide +kernel
theorem dX5_readsMan_14 : decode cX5_readsMan 14 = .ok (.aload_n 0, 1) := by decide +kernel
theorem dX5_readsMan_15 : decode cX5_readsMan 15 = .ok (.bipush 44, 2) := by decide +kernel
theorem dX5_readsMan_17 : decode cX5_readsMan 17 = .ok (.invokevirtual 67, 3) := by decide +kernel
theorem dX5_readsMan_20 : decode cX5_readsMan 20 = .ok (.ifCond .ne 5, 3) := by decide +kernel
theorem dX5_readsMan_23 : decode cX5_readsMan 23 = .ok (.iconst 0, 1) := by decide +kernel
theorem dX5_readsMan_24 : decode cX5_readsMan 24 = .ok (.ireturn, 1) := by decide +kernel
theorem dX5_readsMan_25 : decode cX5_readsMan 25 = .ok (.aload_n 0, 1) := by decide +kernel
theorem dX5_readsMan_26 : decode cX5_readsMan 26 = .ok (.invokevirtual 63, 3) := by decide +kernel
theorem dX5_readsMan_29 : decode cX5_readsMan 29 = .ok (.istore_n 2, 1) := by decide +kernel
theorem dX5_readsMan_30 : decode cX5_readsMan 30 = .ok (.iload_n 2, 1) := by decide +kernel
theorem dX5_readsMan_31 : decode cX5_readsMan 31 = .ok (.iconst 0, 1) := by decide +kernel
theorem dX5_readsMan_32 : decode cX5_readsMan 32 = .ok (.iconst 3, 1) := by decide +kernel
theorem dX5_readsMan_33 : decode cX5_readsMan 33 = .ok (.invokestatic 45, 3) := by decide +kernel
theorem dX5_readsMan_36 : decode cX5_readsMan 36 = .ok (.ifCond .eq 12, 3) := by decide +kernel
theorem dX5_readsMan_39 : decode cX5_readsMan 39 = .ok (.aload_n 0, 1) := by decide +kernel
theorem dX5_readsMan_40 : decode cX5_readsMan 40 = .ok (.bipush 44, 2) := by decide +kernel
theorem dX5_readsMan_42 : decode cX5_readsMan 42 = .ok (.invokevirtual 67, 3) := by decide +kernel
theorem dX5_readsMan_45 : decode cX5_readsMan 45 = .ok (.ifCond .ne 5, 3) := by decide +kernel
theorem dX5_readsMan_48 : decode cX5_readsMan 48 = .ok (.iconst 0, 1) := by decide +kernel
theorem dX5_readsMan_49 : decode cX5_readsMan 49 = .ok (.ireturn, 1) := by decide +kernel
theorem dX5_readsMan_50 : decode cX5_readsMan 50 = .ok (.aload_n 0, 1) := by decide +kernel
theorem dX5_readsMan_51 : decode cX5_readsMan 51 = .ok (.invokevirtual 63, 3) := by decide +kernel
theorem dX5_readsMan_54 : decode cX5_readsMan 54 = .ok (.istore_n 3, 1) := by decide +kernel
theorem dX5_readsMan_55 : decode cX5_readsMan 55 = .ok (.iload_n 3, 1) := by decide +kernel
theorem dX5_readsMan_56 : decode cX5_readsMan 56 = .ok (.iconst 0, 1) := by decide +kernel
theorem dX5_readsMan_57 : decode cX5_readsMan 57 = .ok (.bipush 7, 2) := by decide +kernel
theorem dX5_readsMan_59 : decode cX5_readsMan 59 = .ok (.invokestatic 45, 3) := by decide +kernel
theorem dX5_readsMan_62 : decode cX5_readsMan 62 = .ok (.ifCond .eq 12, 3) := by decide +kernel
theorem dX5_readsMan_65 : decode cX5_readsMan 65 = .ok (.aload_n 0, 1) := by decide +kernel
theorem dX5_readsMan_66 : decode cX5_readsMan 66 = .ok (.bipush 44, 2) := by decide +kernel
theorem dX5_readsMan_68 : decode cX5_readsMan 68 = .ok (.invokevirtual 67, 3) := by decide +kernel
theorem dX5_readsMan_71 : decode cX5_readsMan 71 = .ok (.ifCond .ne 5, 3) := by decide +kernel
theorem dX5_readsMan_74 : decode cX5_readsMan 74 = .ok (.iconst 0, 1) := by decide +kernel
theorem dX5_readsMan_75 : decode cX5_readsMan 75 = .ok (.ireturn, 1) := by decide +kernel
theorem dX5_readsMan_76 : decode cX5_readsMan 76 = .ok (.aload_n 0, 1) := by decide +kernel
theorem dX5_readsMan_77 : decode cX5_readsMan 77 = .ok (.invokevirtual 63, 3) := by decide +kernel
theorem dX5_readsMan_80 : decode cX5_readsMan 80 = .ok (.istore 4, 2) := by decide +kernel
theorem dX5_readsMan_82 : decode cX5_readsMan 82 = .ok (.iload 4, 2) := by decide +kernel
theorem dX5_readsMan_84 : decode cX5_readsMan 84 = .ok (.iconst 0, 1) := by decide +kernel
theorem dX5_readsMan_85 : decode cX5_readsMan 85 = .ok (.bipush 10, 2) := by decide +kernel
theorem dX5_readsMan_87 : decode cX5_readsMan 87 = .ok (.invokestatic 45, 3) := by decide +kernel
theorem dX5_readsMan_90 : decode cX5_readsMan 90 = .ok (.ifCond .eq 23, 3) := by decide +kernel
theorem dX5_readsMan_93 : decode cX5_readsMan 93 = .ok (.aload_n 0, 1) := by decide +kernel
theorem dX5_readsMan_94 : decode cX5_readsMan 94 = .ok (.bipush 59, 2) := by decide +kernel
theorem dX5_readsMan_96 : decode cX5_readsMan 96 = .ok (.invokevirtual 67, 3) := by decide +kernel
theorem dX5_readsMan_99 : decode cX5_readsMan 99 = .ok (.ifCond .eq 14, 3) := by decide +kernel
theorem dX5_readsMan_102 : decode cX5_readsMan 102 = .ok (.aload_n 0, 1) := by decide +kernel
theorem dX5_readsMan_103 : decode cX5_readsMan 103 = .ok (.getfield 16, 3) := by decide +kernel
theorem dX5_readsMan_106 : decode cX5_readsMan 106 = .ok (.iconst 0, 1) := by decide +kernel
theorem dX5_readsMan_107 : decode cX5_readsMan 107 = .ok (.iaload, 1) := by decide +kernel
theorem dX5_readsMan_108 : decode cX5_readsMan 108 = .ok (.bipush 8, 2) := by decide +kernel
theorem dX5_readsMan_110 : decode cX5_readsMan 110 = .ok (.if_icmp .ne 5, 3) := by decide +kernel
theorem dX5_readsMan_113 : decode cX5_readsMan 113 = .ok (.iconst 0, 1) := by decide +kernel
theorem dX5_readsMan_114 : decode cX5_readsMan 114 = .ok (.ireturn, 1) := by decide +kernel
theorem dX5_readsMan_115 : decode cX5_readsMan 115 = .ok (.aload_n 0, 1) := by decide +kernel
theorem dX5_readsMan_116 : decode cX5_readsMan 116 = .ok (.iload_n 1, 1) := by decide +kernel
theorem dX5_readsMan_117 : decode cX5_readsMan 117 = .ok (.iload_n 2, 1) := by decide +kernel
theorem dX5_readsMan_118 : decode cX5_readsMan 118 = .ok (.iload_n 3, 1) := by decide +kernel
theorem dX5_readsMan_119 : decode cX5_readsMan 119 = .ok (.iload 4, 2) := by decide +kernel
theorem dX5_readsMan_121 : decode cX5_readsMan 121 = .ok (.invokevirtual 38, 3) := by decide +kernel
theorem dX5_readsMan_124 : decode cX5_readsMan 124 = .ok (.iconst 1, 1) := by decide +kernel
theorem dX5_readsMan_125 : decode cX5_readsMan 125 = .ok (.ireturn, 1) := by decide +kernel
theorem dX5_readsOne_0 : decode cX5_readsOne 0 = .ok (.aload_n 0, 1) := by decide +kernel
theorem dX5_readsOne_1 : decode cX5_readsOne 1 = .ok (.getfield 16, 3) := by decide +kernel
theorem dX5_readsOne_4 : decode cX5_readsOne 4 = .ok (.iload_n 1, 1) := by decide +kernel
theorem dX5_readsOne_5 : decode cX5_readsOne 5 = .ok (.aload_n 0, 1) := by decide +kernel
theorem dX5_readsOne_6 : decode cX5_readsOne 6 = .ok (.invokevirtual 63, 3) := by decide +kernel
theorem dX5_readsOne_9 : decode cX5_readsOne 9 = .ok (.iastore, 1) := by decide +kernel
theorem dX5_readsOne_10 : decode cX5_readsOne 10 = .ok (.aload_n 0, 1) := by decide +kernel
theorem dX5_readsOne_11 : decode cX5_readsOne 11 = .ok (.getfield 16, 3) := by decide +kernel
theorem dX5_readsOne_14 : decode cX5_readsOne 14 = .ok (.iload_n 1, 1) := by decide +kernel
theorem dX5_readsOne_15 : decode cX5_readsOne 15 = .ok (.iaload, 1) := by decide +kernel
theorem dX5_readsOne_16 : decode cX5_readsOne 16 = .ok (.iconst 0, 1) := by decide +kernel
theorem dX5_readsOne_17 : decode cX5_readsOne 17 = .ok (.iload_n 2, 1) := by decide +kernel
theorem dX5_readsOne_18 : decode cX5_readsOne 18 = .ok (.invokestatic 45, 3) := by decide +kernel
theorem dX5_readsOne_21 : decode cX5_readsOne 21 = .ok (.ifCond .eq 16, 3) := by decide +kernel
theorem dX5_readsOne_24 : decode cX5_readsOne 24 = .ok (.aload_n 0, 1) := by decide +kernel
theorem dX5_readsOne_25 : decode cX5_readsOne 25 = .ok (.bipush 59, 2) := by decide +kernel
theorem dX5_readsOne_27 : decode cX5_readsOne 27 = .ok (.invokevirtual 67, 3) := by decide +kernel
theorem dX5_readsOne_30 : decode cX5_readsOne 30 = .ok (.ifCond .eq 7, 3) := by decide +kernel
theorem dX5_readsOne_33 : decode cX5_readsOne 33 = .ok (.iconst 1, 1) := by decide +kernel
theorem dX5_readsOne_34 : decode cX5_readsOne 34 = .ok (.goto 4, 3) := by decide +kernel
theorem dX5_readsOne_37 : decode cX5_readsOne 37 = .ok (.iconst 0, 1) := by decide +kernel
theorem dX5_readsOne_38 : decode cX5_readsOne 38 = .ok (.ireturn, 1) := by decide +kernel
theorem dX5_reads_0 : decode cX5_reads 0 = .ok (.aload_n 0, 1) := by decide +kernel
theorem dX5_reads_1 : decode cX5_reads 1 = .ok (.invokevirtual 35, 3) := by decide +kernel
theorem dX5_reads_4 : decode cX5_reads 4 = .ok (.aload_n 0, 1) := by decide +kernel
theorem dX5_reads_5 : decode cX5_reads 5 = .ok (.iconst 0, 1) := by decide +kernel
theorem dX5_reads_6 : decode cX5_reads 6 = .ok (.putfield 52, 3) := by decide +kernel
theorem dX5_reads_9 : decode cX5_reads 9 = .ok (.aload_n 0, 1) := by decide +kernel
theorem dX5_reads_10 : decode cX5_reads 10 = .ok (.getfield 52, 3) := by decide +kernel
theorem dX5_reads_13 : decode cX5_reads 13 = .ok (.aload_n 0, 1) := by decide +kernel
theorem dX5_reads_14 : decode cX5_reads 14 = .ok (.getfield 49, 3) := by decide +kernel
theorem dX5_reads_17 : decode cX5_reads 17 = .ok (.if_icmp .ge 87, 3) := by decide +kernel
theorem dX5_reads_20 : decode cX5_reads 20 = .ok (.aload_n 0, 1) := by decide +kernel
theorem dX5_reads_21 : decode cX5_reads 21 = .ok (.getfield 52, 3) := by decide +kernel
theorem dX5_reads_24 : decode cX5_reads 24 = .ok (.istore_n 1, 1) := by decide +kernel
theorem dX5_reads_25 : decode cX5_reads 25 = .ok (.aload_n 0, 1) := by decide +kernel
theorem dX5_reads_26 : decode cX5_reads 26 = .ok (.getfield 7, 3) := by decide +kernel
theorem dX5_reads_29 : decode cX5_reads 29 = .ok (.aload_n 0, 1) := by decide +kernel
theorem dX5_reads_30 : decode cX5_reads 30 = .ok (.getfield 52, 3) := by decide +kernel
theorem dX5_reads_33 : decode cX5_reads 33 = .ok (.iaload, 1) := by decide +kernel
theorem dX5_reads_34 : decode cX5_reads 34 = .ok (.istore_n 2, 1) := by decide +kernel
theorem dX5_reads_35 : decode cX5_reads 35 = .ok (.aload_n 0, 1) := by decide +kernel
theorem dX5_reads_36 : decode cX5_reads 36 = .ok (.dup, 1) := by decide +kernel
theorem dX5_reads_37 : decode cX5_reads 37 = .ok (.getfield 52, 3) := by decide +kernel
theorem dX5_reads_40 : decode cX5_reads 40 = .ok (.iconst 1, 1) := by decide +kernel
theorem dX5_reads_41 : decode cX5_reads 41 = .ok (.iadd, 1) := by decide +kernel
theorem dX5_reads_42 : decode cX5_reads 42 = .ok (.putfield 52, 3) := by decide +kernel
theorem dX5_reads_45 : decode cX5_reads 45 = .ok (.iload_n 2, 1) := by decide +kernel
theorem dX5_reads_46 : decode cX5_reads 46 = .ok (.bipush 109, 2) := by decide +kernel
theorem dX5_reads_48 : decode cX5_reads 48 = .ok (.if_icmp .ne 10, 3) := by decide +kernel
theorem dX5_reads_51 : decode cX5_reads 51 = .ok (.aload_n 0, 1) := by decide +kernel
theorem dX5_reads_52 : decode cX5_reads 52 = .ok (.invokevirtual 70, 3) := by decide +kernel
theorem dX5_reads_55 : decode cX5_reads 55 = .ok (.goto 39, 3) := by decide +kernel
theorem dX5_reads_58 : decode cX5_reads 58 = .ok (.iload_n 2, 1) := by decide +kernel
theorem dX5_reads_59 : decode cX5_reads 59 = .ok (.bipush 122, 2) := by decide +kernel
theorem dX5_reads_61 : decode cX5_reads 61 = .ok (.if_icmp .ne 13, 3) := by decide +kernel
theorem dX5_reads_64 : decode cX5_reads 64 = .ok (.aload_n 0, 1) := by decide +kernel
theorem dX5_reads_65 : decode cX5_reads 65 = .ok (.iconst 1, 1) := by decide +kernel
theorem dX5_reads_66 : decode cX5_reads 66 = .ok (.bipush 99, 2) := by decide +kernel
theorem dX5_reads_68 : decode cX5_reads 68 = .ok (.invokevirtual 74, 3) := by decide +kernel
theorem dX5_reads_71 : decode cX5_reads 71 = .ok (.goto 23, 3) := by decide +kernel
theorem dX5_reads_74 : decode cX5_reads 74 = .ok (.iload_n 2, 1) := by decide +kernel
theorem dX5_reads_75 : decode cX5_reads 75 = .ok (.bipush 101, 2) := by decide +kernel
theorem dX5_reads_77 : decode cX5_reads 77 = .ok (.if_icmp .ne 16, 3) := by decide +kernel
theorem dX5_reads_80 : decode cX5_reads 80 = .ok (.aload_n 0, 1) := by decide +kernel
theorem dX5_reads_81 : decode cX5_reads 81 = .ok (.iconst 2, 1) := by decide +kernel
theorem dX5_reads_82 : decode cX5_reads 82 = .ok (.iconst 1, 1) := by decide +kernel
theorem dX5_reads_83 : decode cX5_reads 83 = .ok (.invokevirtual 74, 3) := by decide +kernel
theorem dX5_reads_86 : decode cX5_reads 86 = .ok (.ifCond .eq 7, 3) := by decide +kernel
theorem dX5_reads_89 : decode cX5_reads 89 = .ok (.iconst 1, 1) := by decide +kernel
theorem dX5_reads_90 : decode cX5_reads 90 = .ok (.goto 4, 3) := by decide +kernel
theorem dX5_reads_93 : decode cX5_reads 93 = .ok (.iconst 0, 1) := by decide +kernel
theorem dX5_reads_94 : decode cX5_reads 94 = .ok (.istore_n 3, 1) := by decide +kernel
theorem dX5_reads_95 : decode cX5_reads 95 = .ok (.iload_n 3, 1) := by decide +kernel
theorem dX5_reads_96 : decode cX5_reads 96 = .ok (.ifCond .ne 5, 3) := by decide +kernel
theorem dX5_reads_99 : decode cX5_reads 99 = .ok (.iload_n 1, 1) := by decide +kernel
theorem dX5_reads_100 : decode cX5_reads 100 = .ok (.ireturn, 1) := by decide +kernel
theorem dX5_reads_101 : decode cX5_reads 101 = .ok (.goto (-92), 3) := by decide +kernel
theorem dX5_reads_104 : decode cX5_reads 104 = .ok (.bipush (-4), 2) := by decide +kernel
theorem dX5_reads_106 : decode cX5_reads 106 = .ok (.ireturn, 1) := by decide +kernel
theorem dX5_fault_0 : decode cX5_fault 0 = .ok (.aload_n 0, 1) := by decide +kernel
theorem dX5_fault_1 : decode cX5_fault 1 = .ok (.invokevirtual 78, 3) := by decide +kernel
theorem dX5_fault_4 : decode cX5_fault 4 = .ok (.ireturn, 1) := by decide +kernel
theorem dX5_lays_0 : decode cX5_lays 0 = .ok (.iconst 0, 1) := by decide +kernel
theorem dX5_lays_1 : decode cX5_lays 1 = .ok (.istore_n 1, 1) := by decide +kernel
theorem dX5_lays_2 : decode cX5_lays 2 = .ok (.iload_n 1, 1) := by decide +kernel
theorem dX5_lays_3 : decode cX5_lays 3 = .ok (.bipush 35, 2) := by decide +kernel
theorem dX5_lays_5 : decode cX5_lays 5 = .ok (.if_icmp .ge 21, 3) := by decide +kernel
theorem dX5_lays_8 : decode cX5_lays 8 = .ok (.aload_n 0, 1) := by decide +kernel
theorem dX5_lays_9 : decode cX5_lays 9 = .ok (.getfield 13, 3) := by decide +kernel
theorem dX5_lays_12 : decode cX5_lays 12 = .ok (.iload_n 1, 1) := by decide +kernel
theorem dX5_lays_13 : decode cX5_lays 13 = .ok (.aload_n 0, 1) := by decide +kernel
theorem dX5_lays_14 : decode cX5_lays 14 = .ok (.getfield 16, 3) := by decide +kernel
theorem dX5_lays_17 : decode cX5_lays 17 = .ok (.iload_n 1, 1) := by decide +kernel
theorem dX5_lays_18 : decode cX5_lays 18 = .ok (.iaload, 1) := by decide +kernel
theorem dX5_lays_19 : decode cX5_lays 19 = .ok (.iastore, 1) := by decide +kernel
theorem dX5_lays_20 : decode cX5_lays 20 = .ok (.iinc 1 1, 3) := by decide +kernel
theorem dX5_lays_23 : decode cX5_lays 23 = .ok (.goto (-21), 3) := by decide +kernel
theorem dX5_lays_26 : decode cX5_lays 26 = .ok (.iconst 0, 1) := by decide +kernel
theorem dX5_lays_27 : decode cX5_lays 27 = .ok (.istore_n 1, 1) := by decide +kernel
theorem dX5_lays_28 : decode cX5_lays 28 = .ok (.iload_n 1, 1) := by decide +kernel
theorem dX5_lays_29 : decode cX5_lays 29 = .ok (.bipush 22, 2) := by decide +kernel
theorem dX5_lays_31 : decode cX5_lays 31 = .ok (.if_icmp .ge 55, 3) := by decide +kernel
theorem dX5_lays_34 : decode cX5_lays 34 = .ok (.aload_n 0, 1) := by decide +kernel
theorem dX5_lays_35 : decode cX5_lays 35 = .ok (.getfield 19, 3) := by decide +kernel
theorem dX5_lays_38 : decode cX5_lays 38 = .ok (.iload_n 1, 1) := by decide +kernel
theorem dX5_lays_39 : decode cX5_lays 39 = .ok (.iload_n 1, 1) := by decide +kernel
theorem dX5_lays_40 : decode cX5_lays 40 = .ok (.bipush 8, 2) := by decide +kernel
theorem dX5_lays_42 : decode cX5_lays 42 = .ok (.if_icmp .ge 15, 3) := by decide +kernel
theorem dX5_lays_45 : decode cX5_lays 45 = .ok (.aload_n 0, 1) := by decide +kernel
theorem dX5_lays_46 : decode cX5_lays 46 = .ok (.getfield 13, 3) := by decide +kernel
theorem dX5_lays_49 : decode cX5_lays 49 = .ok (.bipush 11, 2) := by decide +kernel
theorem dX5_lays_51 : decode cX5_lays 51 = .ok (.iload_n 1, 1) := by decide +kernel
theorem dX5_lays_52 : decode cX5_lays 52 = .ok (.iadd, 1) := by decide +kernel
theorem dX5_lays_53 : decode cX5_lays 53 = .ok (.iaload, 1) := by decide +kernel
theorem dX5_lays_54 : decode cX5_lays 54 = .ok (.goto 25, 3) := by decide +kernel
theorem dX5_lays_57 : decode cX5_lays 57 = .ok (.iload_n 1, 1) := by decide +kernel
theorem dX5_lays_58 : decode cX5_lays 58 = .ok (.bipush 16, 2) := by decide +kernel
theorem dX5_lays_60 : decode cX5_lays 60 = .ok (.if_icmp .ge 18, 3) := by decide +kernel
theorem dX5_lays_63 : decode cX5_lays 63 = .ok (.aload_n 0, 1) := by decide +kernel
theorem dX5_lays_64 : decode cX5_lays 64 = .ok (.getfield 13, 3) := by decide +kernel
theorem dX5_lays_67 : decode cX5_lays 67 = .ok (.bipush 19, 2) := by decide +kernel
theorem dX5_lays_69 : decode cX5_lays 69 = .ok (.iload_n 1, 1) := by decide +kernel
theorem dX5_lays_70 : decode cX5_lays 70 = .ok (.iadd, 1) := by decide +kernel
theorem dX5_lays_71 : decode cX5_lays 71 = .ok (.bipush 8, 2) := by decide +kernel
theorem dX5_lays_73 : decode cX5_lays 73 = .ok (.isub, 1) := by decide +kernel
theorem dX5_lays_74 : decode cX5_lays 74 = .ok (.iaload, 1) := by decide +kernel
theorem dX5_lays_75 : decode cX5_lays 75 = .ok (.goto 4, 3) := by decide +kernel
theorem dX5_lays_78 : decode cX5_lays 78 = .ok (.iconst 0, 1) := by decide +kernel
theorem dX5_lays_79 : decode cX5_lays 79 = .ok (.iastore, 1) := by decide +kernel
theorem dX5_lays_80 : decode cX5_lays 80 = .ok (.iinc 1 1, 3) := by decide +kernel
theorem dX5_lays_83 : decode cX5_lays 83 = .ok (.goto (-55), 3) := by decide +kernel
theorem dX5_lays_86 : decode cX5_lays 86 = .ok (.aload_n 0, 1) := by decide +kernel
theorem dX5_lays_87 : decode cX5_lays 87 = .ok (.getfield 19, 3) := by decide +kernel
theorem dX5_lays_90 : decode cX5_lays 90 = .ok (.bipush 16, 2) := by decide +kernel
theorem dX5_lays_92 : decode cX5_lays 92 = .ok (.aload_n 0, 1) := by decide +kernel
theorem dX5_lays_93 : decode cX5_lays 93 = .ok (.getfield 13, 3) := by decide +kernel
theorem dX5_lays_96 : decode cX5_lays 96 = .ok (.iconst 2, 1) := by decide +kernel
theorem dX5_lays_97 : decode cX5_lays 97 = .ok (.iaload, 1) := by decide +kernel
theorem dX5_lays_98 : decode cX5_lays 98 = .ok (.iastore, 1) := by decide +kernel
theorem dX5_lays_99 : decode cX5_lays 99 = .ok (.aload_n 0, 1) := by decide +kernel
theorem dX5_lays_100 : decode cX5_lays 100 = .ok (.getfield 19, 3) := by decide +kernel
theorem dX5_lays_103 : decode cX5_lays 103 = .ok (.bipush 18, 2) := by decide +kernel
theorem dX5_lays_105 : decode cX5_lays 105 = .ok (.iconst (-1), 1) := by decide +kernel
theorem dX5_lays_106 : decode cX5_lays 106 = .ok (.iastore, 1) := by decide +kernel
theorem dX5_lays_107 : decode cX5_lays 107 = .ok (.aload_n 0, 1) := by decide +kernel
theorem dX5_lays_108 : decode cX5_lays 108 = .ok (.iconst 0, 1) := by decide +kernel
theorem dX5_lays_109 : decode cX5_lays 109 = .ok (.putfield 81, 3) := by decide +kernel
theorem dX5_lays_112 : decode cX5_lays 112 = .ok (.aload_n 0, 1) := by decide +kernel
theorem dX5_lays_113 : decode cX5_lays 113 = .ok (.iconst 0, 1) := by decide +kernel
theorem dX5_lays_114 : decode cX5_lays 114 = .ok (.putfield 84, 3) := by decide +kernel
theorem dX5_lays_117 : decode cX5_lays 117 = .ok (.return_, 1) := by decide +kernel
theorem dX5_lay_0 : decode cX5_lay 0 = .ok (.aload_n 0, 1) := by decide +kernel
theorem dX5_lay_1 : decode cX5_lay 1 = .ok (.invokevirtual 78, 3) := by decide +kernel
theorem dX5_lay_4 : decode cX5_lay 4 = .ok (.bipush (-4), 2) := by decide +kernel
theorem dX5_lay_6 : decode cX5_lay 6 = .ok (.if_icmp .ne 16, 3) := by decide +kernel
theorem dX5_lay_9 : decode cX5_lay 9 = .ok (.aload_n 0, 1) := by decide +kernel
theorem dX5_lay_10 : decode cX5_lay 10 = .ok (.getfield 16, 3) := by decide +kernel
theorem dX5_lay_13 : decode cX5_lay 13 = .ok (.iconst 0, 1) := by decide +kernel
theorem dX5_lay_14 : decode cX5_lay 14 = .ok (.iaload, 1) := by decide +kernel
theorem dX5_lay_15 : decode cX5_lay 15 = .ok (.ifCond .le 7, 3) := by decide +kernel
theorem dX5_lay_18 : decode cX5_lay 18 = .ok (.iconst 1, 1) := by decide +kernel
theorem dX5_lay_19 : decode cX5_lay 19 = .ok (.goto 4, 3) := by decide +kernel
theorem dX5_lay_22 : decode cX5_lay 22 = .ok (.iconst 0, 1) := by decide +kernel
theorem dX5_lay_23 : decode cX5_lay 23 = .ok (.istore_n 1, 1) := by decide +kernel
theorem dX5_lay_24 : decode cX5_lay 24 = .ok (.iconst 0, 1) := by decide +kernel
theorem dX5_lay_25 : decode cX5_lay 25 = .ok (.istore_n 2, 1) := by decide +kernel
theorem dX5_lay_26 : decode cX5_lay 26 = .ok (.iload_n 2, 1) := by decide +kernel
theorem dX5_lay_27 : decode cX5_lay 27 = .ok (.aload_n 0, 1) := by decide +kernel
theorem dX5_lay_28 : decode cX5_lay 28 = .ok (.getfield 16, 3) := by decide +kernel
theorem dX5_lay_31 : decode cX5_lay 31 = .ok (.iconst 0, 1) := by decide +kernel
theorem dX5_lay_32 : decode cX5_lay 32 = .ok (.iaload, 1) := by decide +kernel
theorem dX5_lay_33 : decode cX5_lay 33 = .ok (.if_icmp .ge 37, 3) := by decide +kernel
theorem dX5_lay_36 : decode cX5_lay 36 = .ok (.iload_n 1, 1) := by decide +kernel
theorem dX5_lay_37 : decode cX5_lay 37 = .ok (.ifCond .eq 33, 3) := by decide +kernel
theorem dX5_lay_40 : decode cX5_lay 40 = .ok (.aload_n 0, 1) := by decide +kernel
theorem dX5_lay_41 : decode cX5_lay 41 = .ok (.getfield 16, 3) := by decide +kernel
theorem dX5_lay_44 : decode cX5_lay 44 = .ok (.bipush 19, 2) := by decide +kernel
theorem dX5_lay_46 : decode cX5_lay 46 = .ok (.iload_n 2, 1) := by decide +kernel
theorem dX5_lay_47 : decode cX5_lay 47 = .ok (.iadd, 1) := by decide +kernel
theorem dX5_lay_48 : decode cX5_lay 48 = .ok (.iaload, 1) := by decide +kernel
theorem dX5_lay_49 : decode cX5_lay 49 = .ok (.aload_n 0, 1) := by decide +kernel
theorem dX5_lay_50 : decode cX5_lay 50 = .ok (.getfield 16, 3) := by decide +kernel
theorem dX5_lay_53 : decode cX5_lay 53 = .ok (.iconst 0, 1) := by decide +kernel
theorem dX5_lay_54 : decode cX5_lay 54 = .ok (.iaload, 1) := by decide +kernel
theorem dX5_lay_55 : decode cX5_lay 55 = .ok (.if_icmp .ge 7, 3) := by decide +kernel
theorem dX5_lay_58 : decode cX5_lay 58 = .ok (.iconst 1, 1) := by decide +kernel
theorem dX5_lay_59 : decode cX5_lay 59 = .ok (.goto 4, 3) := by decide +kernel
theorem dX5_lay_62 : decode cX5_lay 62 = .ok (.iconst 0, 1) := by decide +kernel
theorem dX5_lay_63 : decode cX5_lay 63 = .ok (.istore_n 1, 1) := by decide +kernel
theorem dX5_lay_64 : decode cX5_lay 64 = .ok (.iinc 2 1, 3) := by decide +kernel
theorem dX5_lay_67 : decode cX5_lay 67 = .ok (.goto (-41), 3) := by decide +kernel
theorem dX5_lay_70 : decode cX5_lay 70 = .ok (.iload_n 1, 1) := by decide +kernel
theorem dX5_lay_71 : decode cX5_lay 71 = .ok (.ifCond .ne 6, 3) := by decide +kernel
theorem dX5_lay_74 : decode cX5_lay 74 = .ok (.bipush (-2), 2) := by decide +kernel
theorem dX5_lay_76 : decode cX5_lay 76 = .ok (.ireturn, 1) := by decide +kernel
theorem dX5_lay_77 : decode cX5_lay 77 = .ok (.aload_n 0, 1) := by decide +kernel
theorem dX5_lay_78 : decode cX5_lay 78 = .ok (.invokevirtual 42, 3) := by decide +kernel
theorem dX5_lay_81 : decode cX5_lay 81 = .ok (.aload_n 0, 1) := by decide +kernel
theorem dX5_lay_82 : decode cX5_lay 82 = .ok (.getfield 13, 3) := by decide +kernel
theorem dX5_lay_85 : decode cX5_lay 85 = .ok (.iconst 0, 1) := by decide +kernel
theorem dX5_lay_86 : decode cX5_lay 86 = .ok (.iaload, 1) := by decide +kernel
theorem dX5_lay_87 : decode cX5_lay 87 = .ok (.ireturn, 1) := by decide +kernel
theorem dX5_turnOf_0 : decode cX5_turnOf 0 = .ok (.iload_n 0, 1) := by decide +kernel
theorem dX5_turnOf_1 : decode cX5_turnOf 1 = .ok (.ifCond .ge 7, 3) := by decide +kernel
theorem dX5_turnOf_4 : decode cX5_turnOf 4 = .ok (.iconst 0, 1) := by decide +kernel
theorem dX5_turnOf_5 : decode cX5_turnOf 5 = .ok (.goto 12, 3) := by decide +kernel
theorem dX5_turnOf_8 : decode cX5_turnOf 8 = .ok (.iload_n 0, 1) := by decide +kernel
theorem dX5_turnOf_9 : decode cX5_turnOf 9 = .ok (.ifCond .ne 7, 3) := by decide +kernel
theorem dX5_turnOf_12 : decode cX5_turnOf 12 = .ok (.iconst 3, 1) := by decide +kernel
theorem dX5_turnOf_13 : decode cX5_turnOf 13 = .ok (.goto 4, 3) := by decide +kernel
theorem dX5_turnOf_16 : decode cX5_turnOf 16 = .ok (.iload_n 0, 1) := by decide +kernel
theorem dX5_turnOf_17 : decode cX5_turnOf 17 = .ok (.ireturn, 1) := by decide +kernel
theorem dX5_dueOf_0 : decode cX5_dueOf 0 = .ok (.aload_n 0, 1) := by decide +kernel
theorem dX5_dueOf_1 : decode cX5_dueOf 1 = .ok (.getfield 13, 3) := by decide +kernel
theorem dX5_dueOf_4 : decode cX5_dueOf 4 = .ok (.bipush 11, 2) := by decide +kernel
theorem dX5_dueOf_6 : decode cX5_dueOf 6 = .ok (.iload_n 1, 1) := by decide +kernel
theorem dX5_dueOf_7 : decode cX5_dueOf 7 = .ok (.iadd, 1) := by decide +kernel
theorem dX5_dueOf_8 : decode cX5_dueOf 8 = .ok (.iaload, 1) := by decide +kernel
theorem dX5_dueOf_9 : decode cX5_dueOf 9 = .ok (.aload_n 0, 1) := by decide +kernel
theorem dX5_dueOf_10 : decode cX5_dueOf 10 = .ok (.getfield 19, 3) := by decide +kernel
theorem dX5_dueOf_13 : decode cX5_dueOf 13 = .ok (.bipush 19, 2) := by decide +kernel
theorem dX5_dueOf_15 : decode cX5_dueOf 15 = .ok (.iaload, 1) := by decide +kernel
theorem dX5_dueOf_16 : decode cX5_dueOf 16 = .ok (.iadd, 1) := by decide +kernel
theorem dX5_dueOf_17 : decode cX5_dueOf 17 = .ok (.iconst 4, 1) := by decide +kernel
theorem dX5_dueOf_18 : decode cX5_dueOf 18 = .ok (.irem, 1) := by decide +kernel
theorem dX5_dueOf_19 : decode cX5_dueOf 19 = .ok (.ireturn, 1) := by decide +kernel
theorem dX5_man_0 : decode cX5_man 0 = .ok (.aload_n 0, 1) := by decide +kernel
theorem dX5_man_1 : decode cX5_man 1 = .ok (.iload_n 1, 1) := by decide +kernel
theorem dX5_man_2 : decode cX5_man 2 = .ok (.invokevirtual 87, 3) := by decide +kernel
theorem dX5_man_5 : decode cX5_man 5 = .ok (.ifCond .ne 5, 3) := by decide +kernel
theorem dX5_man_8 : decode cX5_man 8 = .ok (.iconst (-1), 1) := by decide +kernel
theorem dX5_man_9 : decode cX5_man 9 = .ok (.ireturn, 1) := by decide +kernel
theorem dX5_man_10 : decode cX5_man 10 = .ok (.iload_n 2, 1) := by decide +kernel
theorem dX5_man_11 : decode cX5_man 11 = .ok (.tableswitch 75 0 4 #[33, 42, 49, 59, 69], 33) := by decide +kernel
theorem dX5_man_44 : decode cX5_man 44 = .ok (.aload_n 0, 1) := by decide +kernel
theorem dX5_man_45 : decode cX5_man 45 = .ok (.getfield 13, 3) := by decide +kernel
theorem dX5_man_48 : decode cX5_man 48 = .ok (.iconst 3, 1) := by decide +kernel
theorem dX5_man_49 : decode cX5_man 49 = .ok (.iload_n 1, 1) := by decide +kernel
theorem dX5_man_50 : decode cX5_man 50 = .ok (.iadd, 1) := by decide +kernel
theorem dX5_man_51 : decode cX5_man 51 = .ok (.iaload, 1) := by decide +kernel
theorem dX5_man_52 : decode cX5_man 52 = .ok (.ireturn, 1) := by decide +kernel
theorem dX5_man_53 : decode cX5_man 53 = .ok (.aload_n 0, 1) := by decide +kernel
theorem dX5_man_54 : decode cX5_man 54 = .ok (.getfield 19, 3) := by decide +kernel
theorem dX5_man_57 : decode cX5_man 57 = .ok (.iload_n 1, 1) := by decide +kernel
theorem dX5_man_58 : decode cX5_man 58 = .ok (.iaload, 1) := by decide +kernel
theorem dX5_man_59 : decode cX5_man 59 = .ok (.ireturn, 1) := by decide +kernel
theorem dX5_man_60 : decode cX5_man 60 = .ok (.aload_n 0, 1) := by decide +kernel
theorem dX5_man_61 : decode cX5_man 61 = .ok (.getfield 19, 3) := by decide +kernel
theorem dX5_man_64 : decode cX5_man 64 = .ok (.bipush 8, 2) := by decide +kernel
theorem dX5_man_66 : decode cX5_man 66 = .ok (.iload_n 1, 1) := by decide +kernel
theorem dX5_man_67 : decode cX5_man 67 = .ok (.iadd, 1) := by decide +kernel
theorem dX5_man_68 : decode cX5_man 68 = .ok (.iaload, 1) := by decide +kernel
theorem dX5_man_69 : decode cX5_man 69 = .ok (.ireturn, 1) := by decide +kernel
theorem dX5_man_70 : decode cX5_man 70 = .ok (.aload_n 0, 1) := by decide +kernel
theorem dX5_man_71 : decode cX5_man 71 = .ok (.getfield 13, 3) := by decide +kernel
theorem dX5_man_74 : decode cX5_man 74 = .ok (.bipush 27, 2) := by decide +kernel
theorem dX5_man_76 : decode cX5_man 76 = .ok (.iload_n 1, 1) := by decide +kernel
theorem dX5_man_77 : decode cX5_man 77 = .ok (.iadd, 1) := by decide +kernel
theorem dX5_man_78 : decode cX5_man 78 = .ok (.iaload, 1) := by decide +kernel
theorem dX5_man_79 : decode cX5_man 79 = .ok (.ireturn, 1) := by decide +kernel
theorem dX5_man_80 : decode cX5_man 80 = .ok (.aload_n 0, 1) := by decide +kernel
theorem dX5_man_81 : decode cX5_man 81 = .ok (.iload_n 1, 1) := by decide +kernel
theorem dX5_man_82 : decode cX5_man 82 = .ok (.invokevirtual 90, 3) := by decide +kernel
theorem dX5_man_85 : decode cX5_man 85 = .ok (.ireturn, 1) := by decide +kernel
theorem dX5_man_86 : decode cX5_man 86 = .ok (.iconst (-1), 1) := by decide +kernel
theorem dX5_man_87 : decode cX5_man 87 = .ok (.ireturn, 1) := by decide +kernel
theorem dX5_isLooking_0 : decode cX5_isLooking 0 = .ok (.iload_n 1, 1) := by decide +kernel
theorem dX5_isLooking_1 : decode cX5_isLooking 1 = .ok (.aload_n 0, 1) := by decide +kernel
theorem dX5_isLooking_2 : decode cX5_isLooking 2 = .ok (.getfield 28, 3) := by decide +kernel
theorem dX5_isLooking_5 : decode cX5_isLooking 5 = .ok (.if_icmp .eq 15, 3) := by decide +kernel
theorem dX5_isLooking_8 : decode cX5_isLooking 8 = .ok (.aload_n 0, 1) := by decide +kernel
theorem dX5_isLooking_9 : decode cX5_isLooking 9 = .ok (.getfield 13, 3) := by decide +kernel
theorem dX5_isLooking_12 : decode cX5_isLooking 12 = .ok (.iconst 3, 1) := by decide +kernel
theorem dX5_isLooking_13 : decode cX5_isLooking 13 = .ok (.iload_n 1, 1) := by decide +kernel
theorem dX5_isLooking_14 : decode cX5_isLooking 14 = .ok (.iadd, 1) := by decide +kernel
theorem dX5_isLooking_15 : decode cX5_isLooking 15 = .ok (.iaload, 1) := by decide +kernel
theorem dX5_isLooking_16 : decode cX5_isLooking 16 = .ok (.iconst 2, 1) := by decide +kernel
theorem dX5_isLooking_17 : decode cX5_isLooking 17 = .ok (.if_icmp .ne 7, 3) := by decide +kernel
theorem dX5_isLooking_20 : decode cX5_isLooking 20 = .ok (.iconst 1, 1) := by decide +kernel
theorem dX5_isLooking_21 : decode cX5_isLooking 21 = .ok (.goto 4, 3) := by decide +kernel
theorem dX5_isLooking_24 : decode cX5_isLooking 24 = .ok (.iconst 0, 1) := by decide +kernel
theorem dX5_isLooking_25 : decode cX5_isLooking 25 = .ok (.ireturn, 1) := by decide +kernel
theorem dX5_leader_0 : decode cX5_leader 0 = .ok (.iload_n 1, 1) := by decide +kernel
theorem dX5_leader_1 : decode cX5_leader 1 = .ok (.istore_n 2, 1) := by decide +kernel
theorem dX5_leader_2 : decode cX5_leader 2 = .ok (.iconst 0, 1) := by decide +kernel
theorem dX5_leader_3 : decode cX5_leader 3 = .ok (.istore_n 3, 1) := by decide +kernel
theorem dX5_leader_4 : decode cX5_leader 4 = .ok (.iload_n 3, 1) := by decide +kernel
theorem dX5_leader_5 : decode cX5_leader 5 = .ok (.bipush 8, 2) := by decide +kernel
theorem dX5_leader_7 : decode cX5_leader 7 = .ok (.if_icmp .gt 44, 3) := by decide +kernel
theorem dX5_leader_10 : decode cX5_leader 10 = .ok (.aload_n 0, 1) := by decide +kernel
theorem dX5_leader_11 : decode cX5_leader 11 = .ok (.iload_n 2, 1) := by decide +kernel
theorem dX5_leader_12 : decode cX5_leader 12 = .ok (.invokevirtual 93, 3) := by decide +kernel
theorem dX5_leader_15 : decode cX5_leader 15 = .ok (.ifCond .ne 5, 3) := by decide +kernel
theorem dX5_leader_18 : decode cX5_leader 18 = .ok (.iload_n 2, 1) := by decide +kernel
theorem dX5_leader_19 : decode cX5_leader 19 = .ok (.ireturn, 1) := by decide +kernel
theorem dX5_leader_20 : decode cX5_leader 20 = .ok (.iload_n 2, 1) := by decide +kernel
theorem dX5_leader_21 : decode cX5_leader 21 = .ok (.aload_n 0, 1) := by decide +kernel
theorem dX5_leader_22 : decode cX5_leader 22 = .ok (.getfield 28, 3) := by decide +kernel
theorem dX5_leader_25 : decode cX5_leader 25 = .ok (.if_icmp .ne 10, 3) := by decide +kernel
theorem dX5_leader_28 : decode cX5_leader 28 = .ok (.aload_n 0, 1) := by decide +kernel
theorem dX5_leader_29 : decode cX5_leader 29 = .ok (.getfield 96, 3) := by decide +kernel
theorem dX5_leader_32 : decode cX5_leader 32 = .ok (.goto 12, 3) := by decide +kernel
theorem dX5_leader_35 : decode cX5_leader 35 = .ok (.aload_n 0, 1) := by decide +kernel
theorem dX5_leader_36 : decode cX5_leader 36 = .ok (.getfield 19, 3) := by decide +kernel
theorem dX5_leader_39 : decode cX5_leader 39 = .ok (.bipush 8, 2) := by decide +kernel
theorem dX5_leader_41 : decode cX5_leader 41 = .ok (.iload_n 2, 1) := by decide +kernel
theorem dX5_leader_42 : decode cX5_leader 42 = .ok (.iadd, 1) := by decide +kernel
theorem dX5_leader_43 : decode cX5_leader 43 = .ok (.iaload, 1) := by decide +kernel
theorem dX5_leader_44 : decode cX5_leader 44 = .ok (.istore_n 2, 1) := by decide +kernel
theorem dX5_leader_45 : decode cX5_leader 45 = .ok (.iinc 3 1, 3) := by decide +kernel
theorem dX5_leader_48 : decode cX5_leader 48 = .ok (.goto (-44), 3) := by decide +kernel
theorem dX5_leader_51 : decode cX5_leader 51 = .ok (.bipush (-4), 2) := by decide +kernel
theorem dX5_leader_53 : decode cX5_leader 53 = .ok (.ireturn, 1) := by decide +kernel
theorem dX5_turnsAs_0 : decode cX5_turnsAs 0 = .ok (.aload_n 0, 1) := by decide +kernel
theorem dX5_turnsAs_1 : decode cX5_turnsAs 1 = .ok (.getfield 19, 3) := by decide +kernel
theorem dX5_turnsAs_4 : decode cX5_turnsAs 4 = .ok (.bipush 16, 2) := by decide +kernel
theorem dX5_turnsAs_6 : decode cX5_turnsAs 6 = .ok (.iaload, 1) := by decide +kernel
theorem dX5_turnsAs_7 : decode cX5_turnsAs 7 = .ok (.iconst 1, 1) := by decide +kernel
theorem dX5_turnsAs_8 : decode cX5_turnsAs 8 = .ok (.if_icmp .ne 7, 3) := by decide +kernel
theorem dX5_turnsAs_11 : decode cX5_turnsAs 11 = .ok (.iload_n 1, 1) := by decide +kernel
theorem dX5_turnsAs_12 : decode cX5_turnsAs 12 = .ok (.goto 8, 3) := by decide +kernel
theorem dX5_turnsAs_15 : decode cX5_turnsAs 15 = .ok (.aload_n 0, 1) := by decide +kernel
theorem dX5_turnsAs_16 : decode cX5_turnsAs 16 = .ok (.iload_n 1, 1) := by decide +kernel
theorem dX5_turnsAs_17 : decode cX5_turnsAs 17 = .ok (.invokevirtual 99, 3) := by decide +kernel
theorem dX5_turnsAs_20 : decode cX5_turnsAs 20 = .ok (.istore_n 2, 1) := by decide +kernel
theorem dX5_turnsAs_21 : decode cX5_turnsAs 21 = .ok (.iload_n 2, 1) := by decide +kernel
theorem dX5_turnsAs_22 : decode cX5_turnsAs 22 = .ok (.bipush (-4), 2) := by decide +kernel
theorem dX5_turnsAs_24 : decode cX5_turnsAs 24 = .ok (.if_icmp .ne 7, 3) := by decide +kernel
theorem dX5_turnsAs_27 : decode cX5_turnsAs 27 = .ok (.iload_n 1, 1) := by decide +kernel
theorem dX5_turnsAs_28 : decode cX5_turnsAs 28 = .ok (.goto 4, 3) := by decide +kernel
theorem dX5_turnsAs_31 : decode cX5_turnsAs 31 = .ok (.iload_n 2, 1) := by decide +kernel
theorem dX5_turnsAs_32 : decode cX5_turnsAs 32 = .ok (.ireturn, 1) := by decide +kernel
theorem dX5_mayErr_0 : decode cX5_mayErr 0 = .ok (.aload_n 0, 1) := by decide +kernel
theorem dX5_mayErr_1 : decode cX5_mayErr 1 = .ok (.getfield 13, 3) := by decide +kernel
theorem dX5_mayErr_4 : decode cX5_mayErr 4 = .ok (.iconst 3, 1) := by decide +kernel
theorem dX5_mayErr_5 : decode cX5_mayErr 5 = .ok (.iload_n 1, 1) := by decide +kernel
theorem dX5_mayErr_6 : decode cX5_mayErr 6 = .ok (.iadd, 1) := by decide +kernel
theorem dX5_mayErr_7 : decode cX5_mayErr 7 = .ok (.iaload, 1) := by decide +kernel
theorem dX5_mayErr_8 : decode cX5_mayErr 8 = .ok (.ifCond .eq 19, 3) := by decide +kernel
theorem dX5_mayErr_11 : decode cX5_mayErr 11 = .ok (.aload_n 0, 1) := by decide +kernel
theorem dX5_mayErr_12 : decode cX5_mayErr 12 = .ok (.getfield 13, 3) := by decide +kernel
theorem dX5_mayErr_15 : decode cX5_mayErr 15 = .ok (.iconst 3, 1) := by decide +kernel
theorem dX5_mayErr_16 : decode cX5_mayErr 16 = .ok (.iload_n 1, 1) := by decide +kernel
theorem dX5_mayErr_17 : decode cX5_mayErr 17 = .ok (.iadd, 1) := by decide +kernel
theorem dX5_mayErr_18 : decode cX5_mayErr 18 = .ok (.iaload, 1) := by decide +kernel
theorem dX5_mayErr_19 : decode cX5_mayErr 19 = .ok (.iconst 3, 1) := by decide +kernel
theorem dX5_mayErr_20 : decode cX5_mayErr 20 = .ok (.if_icmp .eq 7, 3) := by decide +kernel
theorem dX5_mayErr_23 : decode cX5_mayErr 23 = .ok (.iconst 1, 1) := by decide +kernel
theorem dX5_mayErr_24 : decode cX5_mayErr 24 = .ok (.goto 4, 3) := by decide +kernel
theorem dX5_mayErr_27 : decode cX5_mayErr 27 = .ok (.iconst 0, 1) := by decide +kernel
theorem dX5_mayErr_28 : decode cX5_mayErr 28 = .ok (.ireturn, 1) := by decide +kernel
theorem dX5_drawOf_0 : decode cX5_drawOf 0 = .ok (.lload_n 0, 1) := by decide +kernel
theorem dX5_drawOf_1 : decode cX5_drawOf 1 = .ok (.lload_n 0, 1) := by decide +kernel
theorem dX5_drawOf_2 : decode cX5_drawOf 2 = .ok (.lmul, 1) := by decide +kernel
theorem dX5_drawOf_3 : decode cX5_drawOf 3 = .ok (.ldc2_w 102, 3) := by decide +kernel
theorem dX5_drawOf_6 : decode cX5_drawOf 6 = .ok (.lrem, 1) := by decide +kernel
theorem dX5_drawOf_7 : decode cX5_drawOf 7 = .ok (.l2i, 1) := by decide +kernel
theorem dX5_drawOf_8 : decode cX5_drawOf 8 = .ok (.bipush 8, 2) := by decide +kernel
theorem dX5_drawOf_10 : decode cX5_drawOf 10 = .ok (.idiv, 1) := by decide +kernel
theorem dX5_drawOf_11 : decode cX5_drawOf 11 = .ok (.ireturn, 1) := by decide +kernel
theorem dX5_wrongly_0 : decode cX5_wrongly 0 = .ok (.iload_n 0, 1) := by decide +kernel
theorem dX5_wrongly_1 : decode cX5_wrongly 1 = .ok (.iconst 2, 1) := by decide +kernel
theorem dX5_wrongly_2 : decode cX5_wrongly 2 = .ok (.if_icmp .ne 7, 3) := by decide +kernel
theorem dX5_wrongly_5 : decode cX5_wrongly 5 = .ok (.iconst 2, 1) := by decide +kernel
theorem dX5_wrongly_6 : decode cX5_wrongly 6 = .ok (.goto 6, 3) := by decide +kernel
theorem dX5_wrongly_9 : decode cX5_wrongly 9 = .ok (.iconst 1, 1) := by decide +kernel
theorem dX5_wrongly_10 : decode cX5_wrongly 10 = .ok (.iload_n 0, 1) := by decide +kernel
theorem dX5_wrongly_11 : decode cX5_wrongly 11 = .ok (.isub, 1) := by decide +kernel
theorem dX5_wrongly_12 : decode cX5_wrongly 12 = .ok (.ireturn, 1) := by decide +kernel
theorem dX5_errors_0 : decode cX5_errors 0 = .ok (.iconst 0, 1) := by decide +kernel
theorem dX5_errors_1 : decode cX5_errors 1 = .ok (.istore_n 2, 1) := by decide +kernel
theorem dX5_errors_2 : decode cX5_errors 2 = .ok (.iconst 0, 1) := by decide +kernel
theorem dX5_errors_3 : decode cX5_errors 3 = .ok (.istore_n 3, 1) := by decide +kernel
theorem dX5_errors_4 : decode cX5_errors 4 = .ok (.iload_n 3, 1) := by decide +kernel
theorem dX5_errors_5 : decode cX5_errors 5 = .ok (.aload_n 0, 1) := by decide +kernel
theorem dX5_errors_6 : decode cX5_errors 6 = .ok (.getfield 13, 3) := by decide +kernel
theorem dX5_errors_9 : decode cX5_errors 9 = .ok (.iconst 0, 1) := by decide +kernel
theorem dX5_errors_10 : decode cX5_errors 10 = .ok (.iaload, 1) := by decide +kernel
theorem dX5_errors_11 : decode cX5_errors 11 = .ok (.if_icmp .ge 95, 3) := by decide +kernel
theorem dX5_errors_14 : decode cX5_errors 14 = .ok (.ldc2_w 104, 3) := by decide +kernel
theorem dX5_errors_17 : decode cX5_errors 17 = .ok (.aload_n 0, 1) := by decide +kernel
theorem dX5_errors_18 : decode cX5_errors 18 = .ok (.getfield 13, 3) := by decide +kernel
theorem dX5_errors_21 : decode cX5_errors 21 = .ok (.iconst 1, 1) := by decide +kernel
theorem dX5_errors_22 : decode cX5_errors 22 = .ok (.iaload, 1) := by decide +kernel
theorem dX5_errors_23 : decode cX5_errors 23 = .ok (.i2l, 1) := by decide +kernel
theorem dX5_errors_24 : decode cX5_errors 24 = .ok (.lmul, 1) := by decide +kernel
theorem dX5_errors_25 : decode cX5_errors 25 = .ok (.ldc2_w 106, 3) := by decide +kernel
theorem dX5_errors_28 : decode cX5_errors 28 = .ok (.aload_n 0, 1) := by decide +kernel
theorem dX5_errors_29 : decode cX5_errors 29 = .ok (.getfield 19, 3) := by decide +kernel
theorem dX5_errors_32 : decode cX5_errors 32 = .ok (.bipush 17, 2) := by decide +kernel
theorem dX5_errors_34 : decode cX5_errors 34 = .ok (.iaload, 1) := by decide +kernel
theorem dX5_errors_35 : decode cX5_errors 35 = .ok (.i2l, 1) := by decide +kernel
theorem dX5_errors_36 : decode cX5_errors 36 = .ok (.lmul, 1) := by decide +kernel
theorem dX5_errors_37 : decode cX5_errors 37 = .ok (.ladd, 1) := by decide +kernel
theorem dX5_errors_38 : decode cX5_errors 38 = .ok (.ldc2_w 108, 3) := by decide +kernel
theorem dX5_errors_41 : decode cX5_errors 41 = .ok (.iload_n 3, 1) := by decide +kernel
theorem dX5_errors_42 : decode cX5_errors 42 = .ok (.i2l, 1) := by decide +kernel
theorem dX5_errors_43 : decode cX5_errors 43 = .ok (.lmul, 1) := by decide +kernel
theorem dX5_errors_44 : decode cX5_errors 44 = .ok (.ladd, 1) := by decide +kernel
theorem dX5_errors_45 : decode cX5_errors 45 = .ok (.lconst 1, 1) := by decide +kernel
theorem dX5_errors_46 : decode cX5_errors 46 = .ok (.ladd, 1) := by decide +kernel
theorem dX5_errors_47 : decode cX5_errors 47 = .ok (.invokestatic 110, 3) := by decide +kernel
theorem dX5_errors_50 : decode cX5_errors 50 = .ok (.bipush 10, 2) := by decide +kernel
theorem dX5_errors_52 : decode cX5_errors 52 = .ok (.irem, 1) := by decide +kernel
theorem dX5_errors_53 : decode cX5_errors 53 = .ok (.istore 4, 2) := by decide +kernel
theorem dX5_errors_55 : decode cX5_errors 55 = .ok (.iload_n 2, 1) := by decide +kernel
theorem dX5_errors_56 : decode cX5_errors 56 = .ok (.iload_n 1, 1) := by decide +kernel
theorem dX5_errors_57 : decode cX5_errors 57 = .ok (.ifCond .eq 16, 3) := by decide +kernel
theorem dX5_errors_60 : decode cX5_errors 60 = .ok (.aload_n 0, 1) := by decide +kernel
theorem dX5_errors_61 : decode cX5_errors 61 = .ok (.getfield 13, 3) := by decide +kernel
theorem dX5_errors_64 : decode cX5_errors 64 = .ok (.bipush 27, 2) := by decide +kernel
theorem dX5_errors_66 : decode cX5_errors 66 = .ok (.iload_n 3, 1) := by decide +kernel
theorem dX5_errors_67 : decode cX5_errors 67 = .ok (.iadd, 1) := by decide +kernel
theorem dX5_errors_68 : decode cX5_errors 68 = .ok (.iaload, 1) := by decide +kernel
theorem dX5_errors_69 : decode cX5_errors 69 = .ok (.iconst 5, 1) := by decide +kernel
theorem dX5_errors_70 : decode cX5_errors 70 = .ok (.if_icmp .ge 21, 3) := by decide +kernel
theorem dX5_errors_73 : decode cX5_errors 73 = .ok (.iload_n 1, 1) := by decide +kernel
theorem dX5_errors_74 : decode cX5_errors 74 = .ok (.ifCond .ne 23, 3) := by decide +kernel
theorem dX5_errors_77 : decode cX5_errors 77 = .ok (.iload 4, 2) := by decide +kernel
theorem dX5_errors_79 : decode cX5_errors 79 = .ok (.aload_n 0, 1) := by decide +kernel
theorem dX5_errors_80 : decode cX5_errors 80 = .ok (.getfield 13, 3) := by decide +kernel
theorem dX5_errors_83 : decode cX5_errors 83 = .ok (.bipush 27, 2) := by decide +kernel
theorem dX5_errors_85 : decode cX5_errors 85 = .ok (.iload_n 3, 1) := by decide +kernel
theorem dX5_errors_86 : decode cX5_errors 86 = .ok (.iadd, 1) := by decide +kernel
theorem dX5_errors_87 : decode cX5_errors 87 = .ok (.iaload, 1) := by decide +kernel
theorem dX5_errors_88 : decode cX5_errors 88 = .ok (.if_icmp .ge 9, 3) := by decide +kernel
theorem dX5_errors_91 : decode cX5_errors 91 = .ok (.iconst 1, 1) := by decide +kernel
theorem dX5_errors_92 : decode cX5_errors 92 = .ok (.iload_n 3, 1) := by decide +kernel
theorem dX5_errors_93 : decode cX5_errors 93 = .ok (.ishl, 1) := by decide +kernel
theorem dX5_errors_94 : decode cX5_errors 94 = .ok (.goto 4, 3) := by decide +kernel
theorem dX5_errors_97 : decode cX5_errors 97 = .ok (.iconst 0, 1) := by decide +kernel
theorem dX5_errors_98 : decode cX5_errors 98 = .ok (.ior, 1) := by decide +kernel
theorem dX5_errors_99 : decode cX5_errors 99 = .ok (.istore_n 2, 1) := by decide +kernel
theorem dX5_errors_100 : decode cX5_errors 100 = .ok (.iinc 3 1, 3) := by decide +kernel
theorem dX5_errors_103 : decode cX5_errors 103 = .ok (.goto (-99), 3) := by decide +kernel
theorem dX5_errors_106 : decode cX5_errors 106 = .ok (.iload_n 2, 1) := by decide +kernel
theorem dX5_errors_107 : decode cX5_errors 107 = .ok (.ireturn, 1) := by decide +kernel
theorem dX5_turnBy_0 : decode cX5_turnBy 0 = .ok (.aload_n 0, 1) := by decide +kernel
theorem dX5_turnBy_1 : decode cX5_turnBy 1 = .ok (.iload_n 1, 1) := by decide +kernel
theorem dX5_turnBy_2 : decode cX5_turnBy 2 = .ok (.invokevirtual 114, 3) := by decide +kernel
theorem dX5_turnBy_5 : decode cX5_turnBy 5 = .ok (.istore 4, 2) := by decide +kernel
theorem dX5_turnBy_7 : decode cX5_turnBy 7 = .ok (.aload_n 0, 1) := by decide +kernel
theorem dX5_turnBy_8 : decode cX5_turnBy 8 = .ok (.getfield 13, 3) := by decide +kernel
theorem dX5_turnBy_11 : decode cX5_turnBy 11 = .ok (.iconst 3, 1) := by decide +kernel
theorem dX5_turnBy_12 : decode cX5_turnBy 12 = .ok (.iload 4, 2) := by decide +kernel
theorem dX5_turnBy_14 : decode cX5_turnBy 14 = .ok (.iadd, 1) := by decide +kernel
theorem dX5_turnBy_15 : decode cX5_turnBy 15 = .ok (.iaload, 1) := by decide +kernel
theorem dX5_turnBy_16 : decode cX5_turnBy 16 = .ok (.iconst 3, 1) := by decide +kernel
theorem dX5_turnBy_17 : decode cX5_turnBy 17 = .ok (.if_icmp .ne 14, 3) := by decide +kernel
theorem dX5_turnBy_20 : decode cX5_turnBy 20 = .ok (.aload_n 0, 1) := by decide +kernel
theorem dX5_turnBy_21 : decode cX5_turnBy 21 = .ok (.getfield 19, 3) := by decide +kernel
theorem dX5_turnBy_24 : decode cX5_turnBy 24 = .ok (.bipush 18, 2) := by decide +kernel
theorem dX5_turnBy_26 : decode cX5_turnBy 26 = .ok (.iaload, 1) := by decide +kernel
theorem dX5_turnBy_27 : decode cX5_turnBy 27 = .ok (.invokestatic 117, 3) := by decide +kernel
theorem dX5_turnBy_30 : decode cX5_turnBy 30 = .ok (.ireturn, 1) := by decide +kernel
theorem dX5_turnBy_31 : decode cX5_turnBy 31 = .ok (.aload_n 0, 1) := by decide +kernel
theorem dX5_turnBy_32 : decode cX5_turnBy 32 = .ok (.iload 4, 2) := by decide +kernel
theorem dX5_turnBy_34 : decode cX5_turnBy 34 = .ok (.invokevirtual 120, 3) := by decide +kernel
theorem dX5_turnBy_37 : decode cX5_turnBy 37 = .ok (.ifCond .eq 17, 3) := by decide +kernel
theorem dX5_turnBy_40 : decode cX5_turnBy 40 = .ok (.iload_n 3, 1) := by decide +kernel
theorem dX5_turnBy_41 : decode cX5_turnBy 41 = .ok (.iload 4, 2) := by decide +kernel
theorem dX5_turnBy_43 : decode cX5_turnBy 43 = .ok (.ishr, 1) := by decide +kernel
theorem dX5_turnBy_44 : decode cX5_turnBy 44 = .ok (.iconst 1, 1) := by decide +kernel
theorem dX5_turnBy_45 : decode cX5_turnBy 45 = .ok (.iand, 1) := by decide +kernel
theorem dX5_turnBy_46 : decode cX5_turnBy 46 = .ok (.iconst 1, 1) := by decide +kernel
theorem dX5_turnBy_47 : decode cX5_turnBy 47 = .ok (.if_icmp .ne 7, 3) := by decide +kernel
theorem dX5_turnBy_50 : decode cX5_turnBy 50 = .ok (.iconst 1, 1) := by decide +kernel
theorem dX5_turnBy_51 : decode cX5_turnBy 51 = .ok (.goto 4, 3) := by decide +kernel
theorem dX5_turnBy_54 : decode cX5_turnBy 54 = .ok (.iconst 0, 1) := by decide +kernel
theorem dX5_turnBy_55 : decode cX5_turnBy 55 = .ok (.istore 5, 2) := by decide +kernel
theorem dX5_turnBy_57 : decode cX5_turnBy 57 = .ok (.iload 5, 2) := by decide +kernel
theorem dX5_turnBy_59 : decode cX5_turnBy 59 = .ok (.ifCond .eq 10, 3) := by decide +kernel
theorem dX5_turnBy_62 : decode cX5_turnBy 62 = .ok (.iload_n 2, 1) := by decide +kernel
theorem dX5_turnBy_63 : decode cX5_turnBy 63 = .ok (.invokestatic 123, 3) := by decide +kernel
theorem dX5_turnBy_66 : decode cX5_turnBy 66 = .ok (.goto 4, 3) := by decide +kernel
theorem dX5_turnBy_69 : decode cX5_turnBy 69 = .ok (.iload_n 2, 1) := by decide +kernel
theorem dX5_turnBy_70 : decode cX5_turnBy 70 = .ok (.invokestatic 117, 3) := by decide +kernel
theorem dX5_turnBy_73 : decode cX5_turnBy 73 = .ok (.ireturn, 1) := by decide +kernel
theorem dX5_says_0 : decode cX5_says 0 = .ok (.iconst 0, 1) := by decide +kernel
theorem dX5_says_1 : decode cX5_says 1 = .ok (.istore_n 3, 1) := by decide +kernel
theorem dX5_says_2 : decode cX5_says 2 = .ok (.iload_n 3, 1) := by decide +kernel
theorem dX5_says_3 : decode cX5_says 3 = .ok (.aload_n 0, 1) := by decide +kernel
theorem dX5_says_4 : decode cX5_says 4 = .ok (.getfield 13, 3) := by decide +kernel
theorem dX5_says_7 : decode cX5_says 7 = .ok (.iconst 0, 1) := by decide +kernel
theorem dX5_says_8 : decode cX5_says 8 = .ok (.iaload, 1) := by decide +kernel
theorem dX5_says_9 : decode cX5_says 9 = .ok (.if_icmp .ge 61, 3) := by decide +kernel
theorem dX5_says_12 : decode cX5_says 12 = .ok (.aload_n 0, 1) := by decide +kernel
theorem dX5_says_13 : decode cX5_says 13 = .ok (.iload_n 3, 1) := by decide +kernel
theorem dX5_says_14 : decode cX5_says 14 = .ok (.iload_n 1, 1) := by decide +kernel
theorem dX5_says_15 : decode cX5_says 15 = .ok (.iload_n 2, 1) := by decide +kernel
theorem dX5_says_16 : decode cX5_says 16 = .ok (.invokevirtual 126, 3) := by decide +kernel
theorem dX5_says_19 : decode cX5_says 19 = .ok (.istore 4, 2) := by decide +kernel
theorem dX5_says_21 : decode cX5_says 21 = .ok (.aload_n 0, 1) := by decide +kernel
theorem dX5_says_22 : decode cX5_says 22 = .ok (.getfield 19, 3) := by decide +kernel
theorem dX5_says_25 : decode cX5_says 25 = .ok (.bipush 20, 2) := by decide +kernel
theorem dX5_says_27 : decode cX5_says 27 = .ok (.dup2, 1) := by decide +kernel
theorem dX5_says_28 : decode cX5_says 28 = .ok (.iaload, 1) := by decide +kernel
theorem dX5_says_29 : decode cX5_says 29 = .ok (.iload 4, 2) := by decide +kernel
theorem dX5_says_31 : decode cX5_says 31 = .ok (.iload_n 1, 1) := by decide +kernel
theorem dX5_says_32 : decode cX5_says 32 = .ok (.invokestatic 117, 3) := by decide +kernel
theorem dX5_says_35 : decode cX5_says 35 = .ok (.if_icmp .ne 7, 3) := by decide +kernel
theorem dX5_says_38 : decode cX5_says 38 = .ok (.iconst 0, 1) := by decide +kernel
theorem dX5_says_39 : decode cX5_says 39 = .ok (.goto 6, 3) := by decide +kernel
theorem dX5_says_42 : decode cX5_says 42 = .ok (.iconst 1, 1) := by decide +kernel
theorem dX5_says_43 : decode cX5_says 43 = .ok (.iload_n 3, 1) := by decide +kernel
theorem dX5_says_44 : decode cX5_says 44 = .ok (.ishl, 1) := by decide +kernel
theorem dX5_says_45 : decode cX5_says 45 = .ok (.ior, 1) := by decide +kernel
theorem dX5_says_46 : decode cX5_says 46 = .ok (.iastore, 1) := by decide +kernel
theorem dX5_says_47 : decode cX5_says 47 = .ok (.aload_n 0, 1) := by decide +kernel
theorem dX5_says_48 : decode cX5_says 48 = .ok (.getfield 19, 3) := by decide +kernel
theorem dX5_says_51 : decode cX5_says 51 = .ok (.iload_n 3, 1) := by decide +kernel
theorem dX5_says_52 : decode cX5_says 52 = .ok (.aload_n 0, 1) := by decide +kernel
theorem dX5_says_53 : decode cX5_says 53 = .ok (.getfield 19, 3) := by decide +kernel
theorem dX5_says_56 : decode cX5_says 56 = .ok (.iload_n 3, 1) := by decide +kernel
theorem dX5_says_57 : decode cX5_says 57 = .ok (.iaload, 1) := by decide +kernel
theorem dX5_says_58 : decode cX5_says 58 = .ok (.iload 4, 2) := by decide +kernel
theorem dX5_says_60 : decode cX5_says 60 = .ok (.iadd, 1) := by decide +kernel
theorem dX5_says_61 : decode cX5_says 61 = .ok (.iconst 4, 1) := by decide +kernel
theorem dX5_says_62 : decode cX5_says 62 = .ok (.irem, 1) := by decide +kernel
theorem dX5_says_63 : decode cX5_says 63 = .ok (.iastore, 1) := by decide +kernel
theorem dX5_says_64 : decode cX5_says 64 = .ok (.iinc 3 1, 3) := by decide +kernel
theorem dX5_says_67 : decode cX5_says 67 = .ok (.goto (-65), 3) := by decide +kernel
theorem dX5_says_70 : decode cX5_says 70 = .ok (.aload_n 0, 1) := by decide +kernel
theorem dX5_says_71 : decode cX5_says 71 = .ok (.getfield 19, 3) := by decide +kernel
theorem dX5_says_74 : decode cX5_says 74 = .ok (.bipush 18, 2) := by decide +kernel
theorem dX5_says_76 : decode cX5_says 76 = .ok (.iload_n 1, 1) := by decide +kernel
theorem dX5_says_77 : decode cX5_says 77 = .ok (.iastore, 1) := by decide +kernel
theorem dX5_says_78 : decode cX5_says 78 = .ok (.aload_n 0, 1) := by decide +kernel
theorem dX5_says_79 : decode cX5_says 79 = .ok (.getfield 19, 3) := by decide +kernel
theorem dX5_says_82 : decode cX5_says 82 = .ok (.bipush 19, 2) := by decide +kernel
theorem dX5_says_84 : decode cX5_says 84 = .ok (.aload_n 0, 1) := by decide +kernel
theorem dX5_says_85 : decode cX5_says 85 = .ok (.getfield 19, 3) := by decide +kernel
theorem dX5_says_88 : decode cX5_says 88 = .ok (.bipush 19, 2) := by decide +kernel
theorem dX5_says_90 : decode cX5_says 90 = .ok (.iaload, 1) := by decide +kernel
theorem dX5_says_91 : decode cX5_says 91 = .ok (.iload_n 1, 1) := by decide +kernel
theorem dX5_says_92 : decode cX5_says 92 = .ok (.invokestatic 117, 3) := by decide +kernel
theorem dX5_says_95 : decode cX5_says 95 = .ok (.iadd, 1) := by decide +kernel
theorem dX5_says_96 : decode cX5_says 96 = .ok (.iconst 4, 1) := by decide +kernel
theorem dX5_says_97 : decode cX5_says 97 = .ok (.irem, 1) := by decide +kernel
theorem dX5_says_98 : decode cX5_says 98 = .ok (.iastore, 1) := by decide +kernel
theorem dX5_says_99 : decode cX5_says 99 = .ok (.aload_n 0, 1) := by decide +kernel
theorem dX5_says_100 : decode cX5_says 100 = .ok (.getfield 19, 3) := by decide +kernel
theorem dX5_says_103 : decode cX5_says 103 = .ok (.bipush 17, 2) := by decide +kernel
theorem dX5_says_105 : decode cX5_says 105 = .ok (.dup2, 1) := by decide +kernel
theorem dX5_says_106 : decode cX5_says 106 = .ok (.iaload, 1) := by decide +kernel
theorem dX5_says_107 : decode cX5_says 107 = .ok (.iconst 1, 1) := by decide +kernel
theorem dX5_says_108 : decode cX5_says 108 = .ok (.iadd, 1) := by decide +kernel
theorem dX5_says_109 : decode cX5_says 109 = .ok (.iastore, 1) := by decide +kernel
theorem dX5_says_110 : decode cX5_says 110 = .ok (.return_, 1) := by decide +kernel
theorem dX5_keeps_0 : decode cX5_keeps 0 = .ok (.aload_n 0, 1) := by decide +kernel
theorem dX5_keeps_1 : decode cX5_keeps 1 = .ok (.getfield 81, 3) := by decide +kernel
theorem dX5_keeps_4 : decode cX5_keeps 4 = .ok (.bipush 8, 2) := by decide +kernel
theorem dX5_keeps_6 : decode cX5_keeps 6 = .ok (.if_icmp .ne 43, 3) := by decide +kernel
theorem dX5_keeps_9 : decode cX5_keeps 9 = .ok (.iconst 0, 1) := by decide +kernel
theorem dX5_keeps_10 : decode cX5_keeps 10 = .ok (.istore_n 1, 1) := by decide +kernel
theorem dX5_keeps_11 : decode cX5_keeps 11 = .ok (.iload_n 1, 1) := by decide +kernel
theorem dX5_keeps_12 : decode cX5_keeps 12 = .ok (.sipush 154, 3) := by decide +kernel
theorem dX5_keeps_15 : decode cX5_keeps 15 = .ok (.if_icmp .ge 24, 3) := by decide +kernel
theorem dX5_keeps_18 : decode cX5_keeps 18 = .ok (.aload_n 0, 1) := by decide +kernel
theorem dX5_keeps_19 : decode cX5_keeps 19 = .ok (.getfield 22, 3) := by decide +kernel
theorem dX5_keeps_22 : decode cX5_keeps 22 = .ok (.iload_n 1, 1) := by decide +kernel
theorem dX5_keeps_23 : decode cX5_keeps 23 = .ok (.aload_n 0, 1) := by decide +kernel
theorem dX5_keeps_24 : decode cX5_keeps 24 = .ok (.getfield 22, 3) := by decide +kernel
theorem dX5_keeps_27 : decode cX5_keeps 27 = .ok (.iload_n 1, 1) := by decide +kernel
theorem dX5_keeps_28 : decode cX5_keeps 28 = .ok (.bipush 22, 2) := by decide +kernel
theorem dX5_keeps_30 : decode cX5_keeps 30 = .ok (.iadd, 1) := by decide +kernel
theorem dX5_keeps_31 : decode cX5_keeps 31 = .ok (.iaload, 1) := by decide +kernel
theorem dX5_keeps_32 : decode cX5_keeps 32 = .ok (.iastore, 1) := by decide +kernel
theorem dX5_keeps_33 : decode cX5_keeps 33 = .ok (.iinc 1 1, 3) := by decide +kernel
theorem dX5_keeps_36 : decode cX5_keeps 36 = .ok (.goto (-25), 3) := by decide +kernel
theorem dX5_keeps_39 : decode cX5_keeps 39 = .ok (.aload_n 0, 1) := by decide +kernel
theorem dX5_keeps_40 : decode cX5_keeps 40 = .ok (.dup, 1) := by decide +kernel
theorem dX5_keeps_41 : decode cX5_keeps 41 = .ok (.getfield 81, 3) := by decide +kernel
theorem dX5_keeps_44 : decode cX5_keeps 44 = .ok (.iconst 1, 1) := by decide +kernel
theorem dX5_keeps_45 : decode cX5_keeps 45 = .ok (.isub, 1) := by decide +kernel
theorem dX5_keeps_46 : decode cX5_keeps 46 = .ok (.putfield 81, 3) := by decide +kernel
theorem dX5_keeps_49 : decode cX5_keeps 49 = .ok (.iconst 0, 1) := by decide +kernel
theorem dX5_keeps_50 : decode cX5_keeps 50 = .ok (.istore_n 1, 1) := by decide +kernel
theorem dX5_keeps_51 : decode cX5_keeps 51 = .ok (.iload_n 1, 1) := by decide +kernel
theorem dX5_keeps_52 : decode cX5_keeps 52 = .ok (.bipush 22, 2) := by decide +kernel
theorem dX5_keeps_54 : decode cX5_keeps 54 = .ok (.if_icmp .ge 29, 3) := by decide +kernel
theorem dX5_keeps_57 : decode cX5_keeps 57 = .ok (.aload_n 0, 1) := by decide +kernel
theorem dX5_keeps_58 : decode cX5_keeps 58 = .ok (.getfield 22, 3) := by decide +kernel
theorem dX5_keeps_61 : decode cX5_keeps 61 = .ok (.bipush 22, 2) := by decide +kernel
theorem dX5_keeps_63 : decode cX5_keeps 63 = .ok (.aload_n 0, 1) := by decide +kernel
theorem dX5_keeps_64 : decode cX5_keeps 64 = .ok (.getfield 81, 3) := by decide +kernel
theorem dX5_keeps_67 : decode cX5_keeps 67 = .ok (.imul, 1) := by decide +kernel
theorem dX5_keeps_68 : decode cX5_keeps 68 = .ok (.iload_n 1, 1) := by decide +kernel
theorem dX5_keeps_69 : decode cX5_keeps 69 = .ok (.iadd, 1) := by decide +kernel
theorem dX5_keeps_70 : decode cX5_keeps 70 = .ok (.aload_n 0, 1) := by decide +kernel
theorem dX5_keeps_71 : decode cX5_keeps 71 = .ok (.getfield 19, 3) := by decide +kernel
theorem dX5_keeps_74 : decode cX5_keeps 74 = .ok (.iload_n 1, 1) := by decide +kernel
theorem dX5_keeps_75 : decode cX5_keeps 75 = .ok (.iaload, 1) := by decide +kernel
theorem dX5_keeps_76 : decode cX5_keeps 76 = .ok (.iastore, 1) := by decide +kernel
theorem dX5_keeps_77 : decode cX5_keeps 77 = .ok (.iinc 1 1, 3) := by decide +kernel
theorem dX5_keeps_80 : decode cX5_keeps 80 = .ok (.goto (-29), 3) := by decide +kernel
theorem dX5_keeps_83 : decode cX5_keeps 83 = .ok (.aload_n 0, 1) := by decide +kernel
theorem dX5_keeps_84 : decode cX5_keeps 84 = .ok (.dup, 1) := by decide +kernel
theorem dX5_keeps_85 : decode cX5_keeps 85 = .ok (.getfield 81, 3) := by decide +kernel
theorem dX5_keeps_88 : decode cX5_keeps 88 = .ok (.iconst 1, 1) := by decide +kernel
theorem dX5_keeps_89 : decode cX5_keeps 89 = .ok (.iadd, 1) := by decide +kernel
theorem dX5_keeps_90 : decode cX5_keeps 90 = .ok (.putfield 81, 3) := by decide +kernel
theorem dX5_keeps_93 : decode cX5_keeps 93 = .ok (.return_, 1) := by decide +kernel
theorem dX5_wrong_0 : decode cX5_wrong 0 = .ok (.iconst 0, 1) := by decide +kernel
theorem dX5_wrong_1 : decode cX5_wrong 1 = .ok (.istore_n 1, 1) := by decide +kernel
theorem dX5_wrong_2 : decode cX5_wrong 2 = .ok (.iconst 0, 1) := by decide +kernel
theorem dX5_wrong_3 : decode cX5_wrong 3 = .ok (.istore_n 2, 1) := by decide +kernel
theorem dX5_wrong_4 : decode cX5_wrong 4 = .ok (.iload_n 2, 1) := by decide +kernel
theorem dX5_wrong_5 : decode cX5_wrong 5 = .ok (.aload_n 0, 1) := by decide +kernel
theorem dX5_wrong_6 : decode cX5_wrong 6 = .ok (.getfield 13, 3) := by decide +kernel
theorem dX5_wrong_9 : decode cX5_wrong 9 = .ok (.iconst 0, 1) := by decide +kernel
theorem dX5_wrong_10 : decode cX5_wrong 10 = .ok (.iaload, 1) := by decide +kernel
theorem dX5_wrong_11 : decode cX5_wrong 11 = .ok (.if_icmp .ge 33, 3) := by decide +kernel
theorem dX5_wrong_14 : decode cX5_wrong 14 = .ok (.iload_n 1, 1) := by decide +kernel
theorem dX5_wrong_15 : decode cX5_wrong 15 = .ok (.aload_n 0, 1) := by decide +kernel
theorem dX5_wrong_16 : decode cX5_wrong 16 = .ok (.getfield 19, 3) := by decide +kernel
theorem dX5_wrong_19 : decode cX5_wrong 19 = .ok (.iload_n 2, 1) := by decide +kernel
theorem dX5_wrong_20 : decode cX5_wrong 20 = .ok (.iaload, 1) := by decide +kernel
theorem dX5_wrong_21 : decode cX5_wrong 21 = .ok (.aload_n 0, 1) := by decide +kernel
theorem dX5_wrong_22 : decode cX5_wrong 22 = .ok (.iload_n 2, 1) := by decide +kernel
theorem dX5_wrong_23 : decode cX5_wrong 23 = .ok (.invokevirtual 90, 3) := by decide +kernel
theorem dX5_wrong_26 : decode cX5_wrong 26 = .ok (.if_icmp .eq 9, 3) := by decide +kernel
theorem dX5_wrong_29 : decode cX5_wrong 29 = .ok (.iconst 1, 1) := by decide +kernel
theorem dX5_wrong_30 : decode cX5_wrong 30 = .ok (.iload_n 2, 1) := by decide +kernel
theorem dX5_wrong_31 : decode cX5_wrong 31 = .ok (.ishl, 1) := by decide +kernel
theorem dX5_wrong_32 : decode cX5_wrong 32 = .ok (.goto 4, 3) := by decide +kernel
theorem dX5_wrong_35 : decode cX5_wrong 35 = .ok (.iconst 0, 1) := by decide +kernel
theorem dX5_wrong_36 : decode cX5_wrong 36 = .ok (.ior, 1) := by decide +kernel
theorem dX5_wrong_37 : decode cX5_wrong 37 = .ok (.istore_n 1, 1) := by decide +kernel
theorem dX5_wrong_38 : decode cX5_wrong 38 = .ok (.iinc 2 1, 3) := by decide +kernel
theorem dX5_wrong_41 : decode cX5_wrong 41 = .ok (.goto (-37), 3) := by decide +kernel
theorem dX5_wrong_44 : decode cX5_wrong 44 = .ok (.iload_n 1, 1) := by decide +kernel
theorem dX5_wrong_45 : decode cX5_wrong 45 = .ok (.ireturn, 1) := by decide +kernel
theorem dX5_word_0 : decode cX5_word 0 = .ok (.iload_n 1, 1) := by decide +kernel
theorem dX5_word_1 : decode cX5_word 1 = .ok (.invokestatic 130, 3) := by decide +kernel
theorem dX5_word_4 : decode cX5_word 4 = .ok (.ifCond .ne 5, 3) := by decide +kernel
theorem dX5_word_7 : decode cX5_word 7 = .ok (.iconst (-1), 1) := by decide +kernel
theorem dX5_word_8 : decode cX5_word 8 = .ok (.ireturn, 1) := by decide +kernel
theorem dX5_word_9 : decode cX5_word 9 = .ok (.aload_n 0, 1) := by decide +kernel
theorem dX5_word_10 : decode cX5_word 10 = .ok (.getfield 19, 3) := by decide +kernel
theorem dX5_word_13 : decode cX5_word 13 = .ok (.bipush 17, 2) := by decide +kernel
theorem dX5_word_15 : decode cX5_word 15 = .ok (.iaload, 1) := by decide +kernel
theorem dX5_word_16 : decode cX5_word 16 = .ok (.sipush 999, 3) := by decide +kernel
theorem dX5_word_19 : decode cX5_word 19 = .ok (.if_icmp .ne 6, 3) := by decide +kernel
theorem dX5_word_22 : decode cX5_word 22 = .ok (.bipush (-2), 2) := by decide +kernel
theorem dX5_word_24 : decode cX5_word 24 = .ok (.ireturn, 1) := by decide +kernel
theorem dX5_word_25 : decode cX5_word 25 = .ok (.aload_n 0, 1) := by decide +kernel
theorem dX5_word_26 : decode cX5_word 26 = .ok (.invokevirtual 133, 3) := by decide +kernel
theorem dX5_word_29 : decode cX5_word 29 = .ok (.aload_n 0, 1) := by decide +kernel
theorem dX5_word_30 : decode cX5_word 30 = .ok (.iload_n 1, 1) := by decide +kernel
theorem dX5_word_31 : decode cX5_word 31 = .ok (.aload_n 0, 1) := by decide +kernel
theorem dX5_word_32 : decode cX5_word 32 = .ok (.iconst 0, 1) := by decide +kernel
theorem dX5_word_33 : decode cX5_word 33 = .ok (.invokevirtual 136, 3) := by decide +kernel
theorem dX5_word_36 : decode cX5_word 36 = .ok (.invokevirtual 140, 3) := by decide +kernel
theorem dX5_word_39 : decode cX5_word 39 = .ok (.aload_n 0, 1) := by decide +kernel
theorem dX5_word_40 : decode cX5_word 40 = .ok (.invokevirtual 144, 3) := by decide +kernel
theorem dX5_word_43 : decode cX5_word 43 = .ok (.invokestatic 147, 3) := by decide +kernel
theorem dX5_word_46 : decode cX5_word 46 = .ok (.ireturn, 1) := by decide +kernel
theorem dX5_comesBy_0 : decode cX5_comesBy 0 = .ok (.iload_n 1, 1) := by decide +kernel
theorem dX5_comesBy_1 : decode cX5_comesBy 1 = .ok (.istore_n 3, 1) := by decide +kernel
theorem dX5_comesBy_2 : decode cX5_comesBy 2 = .ok (.iconst 0, 1) := by decide +kernel
theorem dX5_comesBy_3 : decode cX5_comesBy 3 = .ok (.istore 4, 2) := by decide +kernel
theorem dX5_comesBy_5 : decode cX5_comesBy 5 = .ok (.iconst 0, 1) := by decide +kernel
theorem dX5_comesBy_6 : decode cX5_comesBy 6 = .ok (.istore 5, 2) := by decide +kernel
theorem dX5_comesBy_8 : decode cX5_comesBy 8 = .ok (.iload 5, 2) := by decide +kernel
theorem dX5_comesBy_10 : decode cX5_comesBy 10 = .ok (.bipush 8, 2) := by decide +kernel
theorem dX5_comesBy_12 : decode cX5_comesBy 12 = .ok (.if_icmp .gt 48, 3) := by decide +kernel
theorem dX5_comesBy_15 : decode cX5_comesBy 15 = .ok (.iload 4, 2) := by decide +kernel
theorem dX5_comesBy_17 : decode cX5_comesBy 17 = .ok (.ifCond .ne 8, 3) := by decide +kernel
theorem dX5_comesBy_20 : decode cX5_comesBy 20 = .ok (.iload_n 3, 1) := by decide +kernel
theorem dX5_comesBy_21 : decode cX5_comesBy 21 = .ok (.iload_n 2, 1) := by decide +kernel
theorem dX5_comesBy_22 : decode cX5_comesBy 22 = .ok (.if_icmp .ne 7, 3) := by decide +kernel
theorem dX5_comesBy_25 : decode cX5_comesBy 25 = .ok (.iconst 1, 1) := by decide +kernel
theorem dX5_comesBy_26 : decode cX5_comesBy 26 = .ok (.goto 4, 3) := by decide +kernel
theorem dX5_comesBy_29 : decode cX5_comesBy 29 = .ok (.iconst 0, 1) := by decide +kernel
theorem dX5_comesBy_30 : decode cX5_comesBy 30 = .ok (.istore 4, 2) := by decide +kernel
theorem dX5_comesBy_32 : decode cX5_comesBy 32 = .ok (.aload_n 0, 1) := by decide +kernel
theorem dX5_comesBy_33 : decode cX5_comesBy 33 = .ok (.iload_n 3, 1) := by decide +kernel
theorem dX5_comesBy_34 : decode cX5_comesBy 34 = .ok (.invokevirtual 93, 3) := by decide +kernel
theorem dX5_comesBy_37 : decode cX5_comesBy 37 = .ok (.ifCond .eq 15, 3) := by decide +kernel
theorem dX5_comesBy_40 : decode cX5_comesBy 40 = .ok (.aload_n 0, 1) := by decide +kernel
theorem dX5_comesBy_41 : decode cX5_comesBy 41 = .ok (.getfield 19, 3) := by decide +kernel
theorem dX5_comesBy_44 : decode cX5_comesBy 44 = .ok (.bipush 8, 2) := by decide +kernel
theorem dX5_comesBy_46 : decode cX5_comesBy 46 = .ok (.iload_n 3, 1) := by decide +kernel
theorem dX5_comesBy_47 : decode cX5_comesBy 47 = .ok (.iadd, 1) := by decide +kernel
theorem dX5_comesBy_48 : decode cX5_comesBy 48 = .ok (.iaload, 1) := by decide +kernel
theorem dX5_comesBy_49 : decode cX5_comesBy 49 = .ok (.goto 4, 3) := by decide +kernel
theorem dX5_comesBy_52 : decode cX5_comesBy 52 = .ok (.iload_n 3, 1) := by decide +kernel
theorem dX5_comesBy_53 : decode cX5_comesBy 53 = .ok (.istore_n 3, 1) := by decide +kernel
theorem dX5_comesBy_54 : decode cX5_comesBy 54 = .ok (.iinc 5 1, 3) := by decide +kernel
theorem dX5_comesBy_57 : decode cX5_comesBy 57 = .ok (.goto (-49), 3) := by decide +kernel
theorem dX5_comesBy_60 : decode cX5_comesBy 60 = .ok (.iload 4, 2) := by decide +kernel
theorem dX5_comesBy_62 : decode cX5_comesBy 62 = .ok (.ireturn, 1) := by decide +kernel
theorem dX5_shout_0 : decode cX5_shout 0 = .ok (.aload_n 0, 1) := by decide +kernel
theorem dX5_shout_1 : decode cX5_shout 1 = .ok (.iload_n 1, 1) := by decide +kernel
theorem dX5_shout_2 : decode cX5_shout 2 = .ok (.invokevirtual 87, 3) := by decide +kernel
theorem dX5_shout_5 : decode cX5_shout 5 = .ok (.ifCond .ne 5, 3) := by decide +kernel
theorem dX5_shout_8 : decode cX5_shout 8 = .ok (.iconst (-1), 1) := by decide +kernel
theorem dX5_shout_9 : decode cX5_shout 9 = .ok (.ireturn, 1) := by decide +kernel
theorem dX5_shout_10 : decode cX5_shout 10 = .ok (.aload_n 0, 1) := by decide +kernel
theorem dX5_shout_11 : decode cX5_shout 11 = .ok (.invokevirtual 133, 3) := by decide +kernel
theorem dX5_shout_14 : decode cX5_shout 14 = .ok (.iconst 0, 1) := by decide +kernel
theorem dX5_shout_15 : decode cX5_shout 15 = .ok (.istore_n 2, 1) := by decide +kernel
theorem dX5_shout_16 : decode cX5_shout 16 = .ok (.iconst 0, 1) := by decide +kernel
theorem dX5_shout_17 : decode cX5_shout 17 = .ok (.istore_n 3, 1) := by decide +kernel
theorem dX5_shout_18 : decode cX5_shout 18 = .ok (.iload_n 3, 1) := by decide +kernel
theorem dX5_shout_19 : decode cX5_shout 19 = .ok (.aload_n 0, 1) := by decide +kernel
theorem dX5_shout_20 : decode cX5_shout 20 = .ok (.getfield 13, 3) := by decide +kernel
theorem dX5_shout_23 : decode cX5_shout 23 = .ok (.iconst 0, 1) := by decide +kernel
theorem dX5_shout_24 : decode cX5_shout 24 = .ok (.iaload, 1) := by decide +kernel
theorem dX5_shout_25 : decode cX5_shout 25 = .ok (.if_icmp .ge 75, 3) := by decide +kernel
theorem dX5_shout_28 : decode cX5_shout 28 = .ok (.iload_n 3, 1) := by decide +kernel
theorem dX5_shout_29 : decode cX5_shout 29 = .ok (.iload_n 1, 1) := by decide +kernel
theorem dX5_shout_30 : decode cX5_shout 30 = .ok (.if_icmp .eq 32, 3) := by decide +kernel
theorem dX5_shout_33 : decode cX5_shout 33 = .ok (.aload_n 0, 1) := by decide +kernel
theorem dX5_shout_34 : decode cX5_shout 34 = .ok (.getfield 19, 3) := by decide +kernel
theorem dX5_shout_37 : decode cX5_shout 37 = .ok (.bipush 16, 2) := by decide +kernel
theorem dX5_shout_39 : decode cX5_shout 39 = .ok (.iaload, 1) := by decide +kernel
theorem dX5_shout_40 : decode cX5_shout 40 = .ok (.ifCond .ne 54, 3) := by decide +kernel
theorem dX5_shout_43 : decode cX5_shout 43 = .ok (.aload_n 0, 1) := by decide +kernel
theorem dX5_shout_44 : decode cX5_shout 44 = .ok (.iload_n 3, 1) := by decide +kernel
theorem dX5_shout_45 : decode cX5_shout 45 = .ok (.invokevirtual 99, 3) := by decide +kernel
theorem dX5_shout_48 : decode cX5_shout 48 = .ok (.bipush (-4), 2) := by decide +kernel
theorem dX5_shout_50 : decode cX5_shout 50 = .ok (.if_icmp .eq 44, 3) := by decide +kernel
theorem dX5_shout_53 : decode cX5_shout 53 = .ok (.aload_n 0, 1) := by decide +kernel
