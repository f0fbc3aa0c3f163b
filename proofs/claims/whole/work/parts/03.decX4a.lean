theorem dX4_init_0 : decode cX4_init 0 = .ok (.aload_n 0, 1) := by decide +kernel
theorem dX4_init_1 : decode cX4_init 1 = .ok (.invokespecial 1, 3) := by decide +kernel
theorem dX4_init_4 : decode cX4_init 4 = .ok (.aload_n 0, 1) := by decide +kernel
theorem dX4_init_5 : decode cX4_init 5 = .ok (.new 7, 3) := by decide +kernel
theorem dX4_init_8 : decode cX4_init 8 = .ok (.dup, 1) := by decide +kernel
theorem dX4_init_9 : decode cX4_init 9 = .ok (.invokespecial 9, 3) := by decide +kernel
theorem dX4_init_12 : decode cX4_init 12 = .ok (.putfield 10, 3) := by decide +kernel
theorem dX4_init_15 : decode cX4_init 15 = .ok (.aload_n 0, 1) := by decide +kernel
theorem dX4_init_16 : decode cX4_init 16 = .ok (.new 16, 3) := by decide +kernel
theorem dX4_init_19 : decode cX4_init 19 = .ok (.dup, 1) := by decide +kernel
theorem dX4_init_20 : decode cX4_init 20 = .ok (.invokespecial 18, 3) := by decide +kernel
theorem dX4_init_23 : decode cX4_init 23 = .ok (.putfield 19, 3) := by decide +kernel
theorem dX4_init_26 : decode cX4_init 26 = .ok (.aload_n 0, 1) := by decide +kernel
theorem dX4_init_27 : decode cX4_init 27 = .ok (.new 16, 3) := by decide +kernel
theorem dX4_init_30 : decode cX4_init 30 = .ok (.dup, 1) := by decide +kernel
theorem dX4_init_31 : decode cX4_init 31 = .ok (.invokespecial 18, 3) := by decide +kernel
theorem dX4_init_34 : decode cX4_init 34 = .ok (.putfield 23, 3) := by decide +kernel
theorem dX4_init_37 : decode cX4_init 37 = .ok (.aload_n 0, 1) := by decide +kernel
theorem dX4_init_38 : decode cX4_init 38 = .ok (.new 26, 3) := by decide +kernel
theorem dX4_init_41 : decode cX4_init 41 = .ok (.dup, 1) := by decide +kernel
theorem dX4_init_42 : decode cX4_init 42 = .ok (.invokespecial 28, 3) := by decide +kernel
theorem dX4_init_45 : decode cX4_init 45 = .ok (.putfield 29, 3) := by decide +kernel
theorem dX4_init_48 : decode cX4_init 48 = .ok (.aload_n 0, 1) := by decide +kernel
theorem dX4_init_49 : decode cX4_init 49 = .ok (.new 26, 3) := by decide +kernel
theorem dX4_init_52 : decode cX4_init 52 = .ok (.dup, 1) := by decide +kernel
theorem dX4_init_53 : decode cX4_init 53 = .ok (.invokespecial 28, 3) := by decide +kernel
theorem dX4_init_56 : decode cX4_init 56 = .ok (.putfield 33, 3) := by decide +kernel
theorem dX4_init_59 : decode cX4_init 59 = .ok (.aload_n 0, 1) := by decide +kernel
theorem dX4_init_60 : decode cX4_init 60 = .ok (.new 36, 3) := by decide +kernel
theorem dX4_init_63 : decode cX4_init 63 = .ok (.dup, 1) := by decide +kernel
theorem dX4_init_64 : decode cX4_init 64 = .ok (.bipush 8, 2) := by decide +kernel
theorem dX4_init_66 : decode cX4_init 66 = .ok (.invokespecial 38, 3) := by decide +kernel
theorem dX4_init_69 : decode cX4_init 69 = .ok (.putfield 41, 3) := by decide +kernel
theorem dX4_init_72 : decode cX4_init 72 = .ok (.aload_n 0, 1) := by decide +kernel
theorem dX4_init_73 : decode cX4_init 73 = .ok (.new 36, 3) := by decide +kernel
theorem dX4_init_76 : decode cX4_init 76 = .ok (.dup, 1) := by decide +kernel
theorem dX4_init_77 : decode cX4_init 77 = .ok (.iconst 2, 1) := by decide +kernel
theorem dX4_init_78 : decode cX4_init 78 = .ok (.invokespecial 38, 3) := by decide +kernel
theorem dX4_init_81 : decode cX4_init 81 = .ok (.putfield 45, 3) := by decide +kernel
theorem dX4_init_84 : decode cX4_init 84 = .ok (.aload_n 0, 1) := by decide +kernel
theorem dX4_init_85 : decode cX4_init 85 = .ok (.bipush 8, 2) := by decide +kernel
theorem dX4_init_87 : decode cX4_init 87 = .ok (.newarray .int, 2) := by decide +kernel
theorem dX4_init_89 : decode cX4_init 89 = .ok (.putfield 48, 3) := by decide +kernel
theorem dX4_init_92 : decode cX4_init 92 = .ok (.aload_n 0, 1) := by decide +kernel
theorem dX4_init_93 : decode cX4_init 93 = .ok (.bipush 8, 2) := by decide +kernel
theorem dX4_init_95 : decode cX4_init 95 = .ok (.newarray .int, 2) := by decide +kernel
theorem dX4_init_97 : decode cX4_init 97 = .ok (.putfield 52, 3) := by decide +kernel
theorem dX4_init_100 : decode cX4_init 100 = .ok (.aload_n 0, 1) := by decide +kernel
theorem dX4_init_101 : decode cX4_init 101 = .ok (.iconst 3, 1) := by decide +kernel
theorem dX4_init_102 : decode cX4_init 102 = .ok (.newarray .int, 2) := by decide +kernel
theorem dX4_init_104 : decode cX4_init 104 = .ok (.putfield 55, 3) := by decide +kernel
theorem dX4_init_107 : decode cX4_init 107 = .ok (.iconst 0, 1) := by decide +kernel
theorem dX4_init_108 : decode cX4_init 108 = .ok (.istore_n 1, 1) := by decide +kernel
theorem dX4_init_109 : decode cX4_init 109 = .ok (.iload_n 1, 1) := by decide +kernel
theorem dX4_init_110 : decode cX4_init 110 = .ok (.ldc 58, 2) := by decide +kernel
theorem dX4_init_112 : decode cX4_init 112 = .ok (.invokevirtual 60, 3) := by decide +kernel
theorem dX4_init_115 : decode cX4_init 115 = .ok (.if_icmp .ge 23, 3) := by decide +kernel
theorem dX4_init_118 : decode cX4_init 118 = .ok (.aload_n 0, 1) := by decide +kernel
theorem dX4_init_119 : decode cX4_init 119 = .ok (.getfield 10, 3) := by decide +kernel
theorem dX4_init_122 : decode cX4_init 122 = .ok (.ldc 58, 2) := by decide +kernel
theorem dX4_init_124 : decode cX4_init 124 = .ok (.iload_n 1, 1) := by decide +kernel
theorem dX4_init_125 : decode cX4_init 125 = .ok (.invokevirtual 66, 3) := by decide +kernel
theorem dX4_init_128 : decode cX4_init 128 = .ok (.invokevirtual 70, 3) := by decide +kernel
theorem dX4_init_131 : decode cX4_init 131 = .ok (.pop, 1) := by decide +kernel
theorem dX4_init_132 : decode cX4_init 132 = .ok (.iinc 1 1, 3) := by decide +kernel
theorem dX4_init_135 : decode cX4_init 135 = .ok (.goto (-26), 3) := by decide +kernel
theorem dX4_init_138 : decode cX4_init 138 = .ok (.aload_n 0, 1) := by decide +kernel
theorem dX4_init_139 : decode cX4_init 139 = .ok (.invokevirtual 74, 3) := by decide +kernel
theorem dX4_init_142 : decode cX4_init 142 = .ok (.pop, 1) := by decide +kernel
theorem dX4_init_143 : decode cX4_init 143 = .ok (.aload_n 0, 1) := by decide +kernel
theorem dX4_init_144 : decode cX4_init 144 = .ok (.getfield 10, 3) := by decide +kernel
theorem dX4_init_147 : decode cX4_init 147 = .ok (.invokevirtual 78, 3) := by decide +kernel
theorem dX4_init_150 : decode cX4_init 150 = .ok (.return_, 1) := by decide +kernel
theorem dX4_write_0 : decode cX4_write 0 = .ok (.iload_n 1, 1) := by decide +kernel
theorem dX4_write_1 : decode cX4_write 1 = .ok (.bipush 32, 2) := by decide +kernel
theorem dX4_write_3 : decode cX4_write 3 = .ok (.if_icmp .lt 9, 3) := by decide +kernel
theorem dX4_write_6 : decode cX4_write 6 = .ok (.iload_n 1, 1) := by decide +kernel
theorem dX4_write_7 : decode cX4_write 7 = .ok (.bipush 126, 2) := by decide +kernel
theorem dX4_write_9 : decode cX4_write 9 = .ok (.if_icmp .le 5, 3) := by decide +kernel
theorem dX4_write_12 : decode cX4_write 12 = .ok (.iconst (-1), 1) := by decide +kernel
theorem dX4_write_13 : decode cX4_write 13 = .ok (.ireturn, 1) := by decide +kernel
theorem dX4_write_14 : decode cX4_write 14 = .ok (.aload_n 0, 1) := by decide +kernel
theorem dX4_write_15 : decode cX4_write 15 = .ok (.getfield 10, 3) := by decide +kernel
theorem dX4_write_18 : decode cX4_write 18 = .ok (.iload_n 1, 1) := by decide +kernel
theorem dX4_write_19 : decode cX4_write 19 = .ok (.i2c, 1) := by decide +kernel
theorem dX4_write_20 : decode cX4_write 20 = .ok (.invokevirtual 70, 3) := by decide +kernel
theorem dX4_write_23 : decode cX4_write 23 = .ok (.ifCond .eq 13, 3) := by decide +kernel
theorem dX4_write_26 : decode cX4_write 26 = .ok (.aload_n 0, 1) := by decide +kernel
theorem dX4_write_27 : decode cX4_write 27 = .ok (.getfield 10, 3) := by decide +kernel
theorem dX4_write_30 : decode cX4_write 30 = .ok (.getfield 81, 3) := by decide +kernel
theorem dX4_write_33 : decode cX4_write 33 = .ok (.goto 5, 3) := by decide +kernel
theorem dX4_write_36 : decode cX4_write 36 = .ok (.bipush (-3), 2) := by decide +kernel
theorem dX4_write_38 : decode cX4_write 38 = .ok (.ireturn, 1) := by decide +kernel
theorem dX4_wipe_0 : decode cX4_wipe 0 = .ok (.aload_n 0, 1) := by decide +kernel
theorem dX4_wipe_1 : decode cX4_wipe 1 = .ok (.getfield 10, 3) := by decide +kernel
theorem dX4_wipe_4 : decode cX4_wipe 4 = .ok (.getfield 81, 3) := by decide +kernel
theorem dX4_wipe_7 : decode cX4_wipe 7 = .ok (.istore_n 1, 1) := by decide +kernel
theorem dX4_wipe_8 : decode cX4_wipe 8 = .ok (.aload_n 0, 1) := by decide +kernel
theorem dX4_wipe_9 : decode cX4_wipe 9 = .ok (.getfield 10, 3) := by decide +kernel
theorem dX4_wipe_12 : decode cX4_wipe 12 = .ok (.invokevirtual 78, 3) := by decide +kernel
theorem dX4_wipe_15 : decode cX4_wipe 15 = .ok (.iload_n 1, 1) := by decide +kernel
theorem dX4_wipe_16 : decode cX4_wipe 16 = .ok (.ireturn, 1) := by decide +kernel
theorem dX4_fault_0 : decode cX4_fault 0 = .ok (.aload_n 0, 1) := by decide +kernel
theorem dX4_fault_1 : decode cX4_fault 1 = .ok (.getfield 10, 3) := by decide +kernel
theorem dX4_fault_4 : decode cX4_fault 4 = .ok (.aload_n 0, 1) := by decide +kernel
theorem dX4_fault_5 : decode cX4_fault 5 = .ok (.getfield 23, 3) := by decide +kernel
theorem dX4_fault_8 : decode cX4_fault 8 = .ok (.invokevirtual 84, 3) := by decide +kernel
theorem dX4_fault_11 : decode cX4_fault 11 = .ok (.ireturn, 1) := by decide +kernel
theorem dX4_lay_0 : decode cX4_lay 0 = .ok (.aload_n 0, 1) := by decide +kernel
theorem dX4_lay_1 : decode cX4_lay 1 = .ok (.invokevirtual 74, 3) := by decide +kernel
theorem dX4_lay_4 : decode cX4_lay 4 = .ok (.ifCond .eq 13, 3) := by decide +kernel
theorem dX4_lay_7 : decode cX4_lay 7 = .ok (.aload_n 0, 1) := by decide +kernel
theorem dX4_lay_8 : decode cX4_lay 8 = .ok (.getfield 19, 3) := by decide +kernel
theorem dX4_lay_11 : decode cX4_lay 11 = .ok (.getfield 88, 3) := by decide +kernel
theorem dX4_lay_14 : decode cX4_lay 14 = .ok (.goto 5, 3) := by decide +kernel
theorem dX4_lay_17 : decode cX4_lay 17 = .ok (.bipush (-2), 2) := by decide +kernel
theorem dX4_lay_19 : decode cX4_lay 19 = .ok (.ireturn, 1) := by decide +kernel
theorem dX4_man_0 : decode cX4_man 0 = .ok (.aload_n 0, 1) := by decide +kernel
theorem dX4_man_1 : decode cX4_man 1 = .ok (.iload_n 1, 1) := by decide +kernel
theorem dX4_man_2 : decode cX4_man 2 = .ok (.invokevirtual 91, 3) := by decide +kernel
theorem dX4_man_5 : decode cX4_man 5 = .ok (.ifCond .ne 5, 3) := by decide +kernel
theorem dX4_man_8 : decode cX4_man 8 = .ok (.iconst (-1), 1) := by decide +kernel
theorem dX4_man_9 : decode cX4_man 9 = .ok (.ireturn, 1) := by decide +kernel
theorem dX4_man_10 : decode cX4_man 10 = .ok (.iload_n 2, 1) := by decide +kernel
theorem dX4_man_11 : decode cX4_man 11 = .ok (.tableswitch 83 0 4 #[33, 43, 53, 63, 73], 33) := by decide +kernel
theorem dX4_man_44 : decode cX4_man 44 = .ok (.aload_n 0, 1) := by decide +kernel
theorem dX4_man_45 : decode cX4_man 45 = .ok (.getfield 19, 3) := by decide +kernel
theorem dX4_man_48 : decode cX4_man 48 = .ok (.getfield 95, 3) := by decide +kernel
theorem dX4_man_51 : decode cX4_man 51 = .ok (.iload_n 1, 1) := by decide +kernel
theorem dX4_man_52 : decode cX4_man 52 = .ok (.iaload, 1) := by decide +kernel
theorem dX4_man_53 : decode cX4_man 53 = .ok (.ireturn, 1) := by decide +kernel
theorem dX4_man_54 : decode cX4_man 54 = .ok (.aload_n 0, 1) := by decide +kernel
theorem dX4_man_55 : decode cX4_man 55 = .ok (.getfield 29, 3) := by decide +kernel
theorem dX4_man_58 : decode cX4_man 58 = .ok (.getfield 98, 3) := by decide +kernel
theorem dX4_man_61 : decode cX4_man 61 = .ok (.iload_n 1, 1) := by decide +kernel
theorem dX4_man_62 : decode cX4_man 62 = .ok (.iaload, 1) := by decide +kernel
theorem dX4_man_63 : decode cX4_man 63 = .ok (.ireturn, 1) := by decide +kernel
theorem dX4_man_64 : decode cX4_man 64 = .ok (.aload_n 0, 1) := by decide +kernel
theorem dX4_man_65 : decode cX4_man 65 = .ok (.getfield 29, 3) := by decide +kernel
theorem dX4_man_68 : decode cX4_man 68 = .ok (.getfield 101, 3) := by decide +kernel
theorem dX4_man_71 : decode cX4_man 71 = .ok (.iload_n 1, 1) := by decide +kernel
theorem dX4_man_72 : decode cX4_man 72 = .ok (.iaload, 1) := by decide +kernel
theorem dX4_man_73 : decode cX4_man 73 = .ok (.ireturn, 1) := by decide +kernel
theorem dX4_man_74 : decode cX4_man 74 = .ok (.aload_n 0, 1) := by decide +kernel
theorem dX4_man_75 : decode cX4_man 75 = .ok (.getfield 19, 3) := by decide +kernel
theorem dX4_man_78 : decode cX4_man 78 = .ok (.getfield 104, 3) := by decide +kernel
theorem dX4_man_81 : decode cX4_man 81 = .ok (.iload_n 1, 1) := by decide +kernel
theorem dX4_man_82 : decode cX4_man 82 = .ok (.iaload, 1) := by decide +kernel
theorem dX4_man_83 : decode cX4_man 83 = .ok (.ireturn, 1) := by decide +kernel
theorem dX4_man_84 : decode cX4_man 84 = .ok (.aload_n 0, 1) := by decide +kernel
theorem dX4_man_85 : decode cX4_man 85 = .ok (.aload_n 0, 1) := by decide +kernel
theorem dX4_man_86 : decode cX4_man 86 = .ok (.getfield 29, 3) := by decide +kernel
theorem dX4_man_89 : decode cX4_man 89 = .ok (.iload_n 1, 1) := by decide +kernel
theorem dX4_man_90 : decode cX4_man 90 = .ok (.invokevirtual 107, 3) := by decide +kernel
theorem dX4_man_93 : decode cX4_man 93 = .ok (.ireturn, 1) := by decide +kernel
theorem dX4_man_94 : decode cX4_man 94 = .ok (.iconst (-1), 1) := by decide +kernel
theorem dX4_man_95 : decode cX4_man 95 = .ok (.ireturn, 1) := by decide +kernel
theorem dX4_word_0 : decode cX4_word 0 = .ok (.iload_n 1, 1) := by decide +kernel
theorem dX4_word_1 : decode cX4_word 1 = .ok (.invokestatic 111, 3) := by decide +kernel
theorem dX4_word_4 : decode cX4_word 4 = .ok (.ifCond .ne 5, 3) := by decide +kernel
theorem dX4_word_7 : decode cX4_word 7 = .ok (.iconst (-1), 1) := by decide +kernel
theorem dX4_word_8 : decode cX4_word 8 = .ok (.ireturn, 1) := by decide +kernel
theorem dX4_word_9 : decode cX4_word 9 = .ok (.aload_n 0, 1) := by decide +kernel
theorem dX4_word_10 : decode cX4_word 10 = .ok (.getfield 29, 3) := by decide +kernel
theorem dX4_word_13 : decode cX4_word 13 = .ok (.getfield 114, 3) := by decide +kernel
theorem dX4_word_16 : decode cX4_word 16 = .ok (.sipush 999, 3) := by decide +kernel
theorem dX4_word_19 : decode cX4_word 19 = .ok (.if_icmp .lt 6, 3) := by decide +kernel
theorem dX4_word_22 : decode cX4_word 22 = .ok (.bipush (-2), 2) := by decide +kernel
theorem dX4_word_24 : decode cX4_word 24 = .ok (.ireturn, 1) := by decide +kernel
theorem dX4_word_25 : decode cX4_word 25 = .ok (.aload_n 0, 1) := by decide +kernel
theorem dX4_word_26 : decode cX4_word 26 = .ok (.getfield 41, 3) := by decide +kernel
theorem dX4_word_29 : decode cX4_word 29 = .ok (.aload_n 0, 1) := by decide +kernel
theorem dX4_word_30 : decode cX4_word 30 = .ok (.getfield 29, 3) := by decide +kernel
theorem dX4_word_33 : decode cX4_word 33 = .ok (.invokevirtual 117, 3) := by decide +kernel
theorem dX4_word_36 : decode cX4_word 36 = .ok (.aload_n 0, 1) := by decide +kernel
theorem dX4_word_37 : decode cX4_word 37 = .ok (.invokevirtual 121, 3) := by decide +kernel
theorem dX4_word_40 : decode cX4_word 40 = .ok (.aload_n 0, 1) := by decide +kernel
theorem dX4_word_41 : decode cX4_word 41 = .ok (.aload_n 0, 1) := by decide +kernel
theorem dX4_word_42 : decode cX4_word 42 = .ok (.getfield 29, 3) := by decide +kernel
theorem dX4_word_45 : decode cX4_word 45 = .ok (.iload_n 1, 1) := by decide +kernel
theorem dX4_word_46 : decode cX4_word 46 = .ok (.invokevirtual 124, 3) := by decide +kernel
theorem dX4_word_49 : decode cX4_word 49 = .ok (.aload_n 0, 1) := by decide +kernel
theorem dX4_word_50 : decode cX4_word 50 = .ok (.aload_n 0, 1) := by decide +kernel
theorem dX4_word_51 : decode cX4_word 51 = .ok (.getfield 29, 3) := by decide +kernel
theorem dX4_word_54 : decode cX4_word 54 = .ok (.invokevirtual 128, 3) := by decide +kernel
theorem dX4_word_57 : decode cX4_word 57 = .ok (.invokestatic 132, 3) := by decide +kernel
theorem dX4_word_60 : decode cX4_word 60 = .ok (.ireturn, 1) := by decide +kernel
theorem dX4_shout_0 : decode cX4_shout 0 = .ok (.aload_n 0, 1) := by decide +kernel
theorem dX4_shout_1 : decode cX4_shout 1 = .ok (.iload_n 1, 1) := by decide +kernel
theorem dX4_shout_2 : decode cX4_shout 2 = .ok (.invokevirtual 91, 3) := by decide +kernel
theorem dX4_shout_5 : decode cX4_shout 5 = .ok (.ifCond .ne 5, 3) := by decide +kernel
theorem dX4_shout_8 : decode cX4_shout 8 = .ok (.iconst (-1), 1) := by decide +kernel
theorem dX4_shout_9 : decode cX4_shout 9 = .ok (.ireturn, 1) := by decide +kernel
theorem dX4_shout_10 : decode cX4_shout 10 = .ok (.aload_n 0, 1) := by decide +kernel
theorem dX4_shout_11 : decode cX4_shout 11 = .ok (.getfield 41, 3) := by decide +kernel
theorem dX4_shout_14 : decode cX4_shout 14 = .ok (.aload_n 0, 1) := by decide +kernel
theorem dX4_shout_15 : decode cX4_shout 15 = .ok (.getfield 29, 3) := by decide +kernel
theorem dX4_shout_18 : decode cX4_shout 18 = .ok (.invokevirtual 117, 3) := by decide +kernel
theorem dX4_shout_21 : decode cX4_shout 21 = .ok (.iconst 0, 1) := by decide +kernel
theorem dX4_shout_22 : decode cX4_shout 22 = .ok (.istore_n 2, 1) := by decide +kernel
theorem dX4_shout_23 : decode cX4_shout 23 = .ok (.iconst 0, 1) := by decide +kernel
theorem dX4_shout_24 : decode cX4_shout 24 = .ok (.istore_n 3, 1) := by decide +kernel
theorem dX4_shout_25 : decode cX4_shout 25 = .ok (.iload_n 3, 1) := by decide +kernel
theorem dX4_shout_26 : decode cX4_shout 26 = .ok (.aload_n 0, 1) := by decide +kernel
theorem dX4_shout_27 : decode cX4_shout 27 = .ok (.getfield 19, 3) := by decide +kernel
theorem dX4_shout_30 : decode cX4_shout 30 = .ok (.getfield 88, 3) := by decide +kernel
theorem dX4_shout_33 : decode cX4_shout 33 = .ok (.if_icmp .ge 51, 3) := by decide +kernel
theorem dX4_shout_36 : decode cX4_shout 36 = .ok (.iload_n 3, 1) := by decide +kernel
theorem dX4_shout_37 : decode cX4_shout 37 = .ok (.iload_n 1, 1) := by decide +kernel
theorem dX4_shout_38 : decode cX4_shout 38 = .ok (.if_icmp .eq 12, 3) := by decide +kernel
theorem dX4_shout_41 : decode cX4_shout 41 = .ok (.aload_n 0, 1) := by decide +kernel
theorem dX4_shout_42 : decode cX4_shout 42 = .ok (.iload_n 3, 1) := by decide +kernel
theorem dX4_shout_43 : decode cX4_shout 43 = .ok (.iload_n 1, 1) := by decide +kernel
theorem dX4_shout_44 : decode cX4_shout 44 = .ok (.invokevirtual 138, 3) := by decide +kernel
theorem dX4_shout_47 : decode cX4_shout 47 = .ok (.ifCond .eq 31, 3) := by decide +kernel
theorem dX4_shout_50 : decode cX4_shout 50 = .ok (.aload_n 0, 1) := by decide +kernel
theorem dX4_shout_51 : decode cX4_shout 51 = .ok (.getfield 29, 3) := by decide +kernel
theorem dX4_shout_54 : decode cX4_shout 54 = .ok (.getfield 98, 3) := by decide +kernel
theorem dX4_shout_57 : decode cX4_shout 57 = .ok (.iload_n 3, 1) := by decide +kernel
theorem dX4_shout_58 : decode cX4_shout 58 = .ok (.aload_n 0, 1) := by decide +kernel
theorem dX4_shout_59 : decode cX4_shout 59 = .ok (.getfield 29, 3) := by decide +kernel
theorem dX4_shout_62 : decode cX4_shout 62 = .ok (.getfield 98, 3) := by decide +kernel
theorem dX4_shout_65 : decode cX4_shout 65 = .ok (.iload_n 3, 1) := by decide +kernel
theorem dX4_shout_66 : decode cX4_shout 66 = .ok (.iaload, 1) := by decide +kernel
theorem dX4_shout_67 : decode cX4_shout 67 = .ok (.iconst 2, 1) := by decide +kernel
theorem dX4_shout_68 : decode cX4_shout 68 = .ok (.iadd, 1) := by decide +kernel
theorem dX4_shout_69 : decode cX4_shout 69 = .ok (.iconst 4, 1) := by decide +kernel
theorem dX4_shout_70 : decode cX4_shout 70 = .ok (.irem, 1) := by decide +kernel
theorem dX4_shout_71 : decode cX4_shout 71 = .ok (.iastore, 1) := by decide +kernel
theorem dX4_shout_72 : decode cX4_shout 72 = .ok (.iload_n 2, 1) := by decide +kernel
theorem dX4_shout_73 : decode cX4_shout 73 = .ok (.iconst 1, 1) := by decide +kernel
theorem dX4_shout_74 : decode cX4_shout 74 = .ok (.iload_n 3, 1) := by decide +kernel
theorem dX4_shout_75 : decode cX4_shout 75 = .ok (.ishl, 1) := by decide +kernel
theorem dX4_shout_76 : decode cX4_shout 76 = .ok (.ior, 1) := by decide +kernel
theorem dX4_shout_77 : decode cX4_shout 77 = .ok (.istore_n 2, 1) := by decide +kernel
theorem dX4_shout_78 : decode cX4_shout 78 = .ok (.iinc 3 1, 3) := by decide +kernel
theorem dX4_shout_81 : decode cX4_shout 81 = .ok (.goto (-56), 3) := by decide +kernel
theorem dX4_shout_84 : decode cX4_shout 84 = .ok (.aload_n 0, 1) := by decide +kernel
theorem dX4_shout_85 : decode cX4_shout 85 = .ok (.getfield 29, 3) := by decide +kernel
theorem dX4_shout_88 : decode cX4_shout 88 = .ok (.dup, 1) := by decide +kernel
theorem dX4_shout_89 : decode cX4_shout 89 = .ok (.getfield 142, 3) := by decide +kernel
theorem dX4_shout_92 : decode cX4_shout 92 = .ok (.iload_n 2, 1) := by decide +kernel
theorem dX4_shout_93 : decode cX4_shout 93 = .ok (.ior, 1) := by decide +kernel
theorem dX4_shout_94 : decode cX4_shout 94 = .ok (.putfield 142, 3) := by decide +kernel
theorem dX4_shout_97 : decode cX4_shout 97 = .ok (.iload_n 2, 1) := by decide +kernel
theorem dX4_shout_98 : decode cX4_shout 98 = .ok (.invokestatic 132, 3) := by decide +kernel
theorem dX4_shout_101 : decode cX4_shout 101 = .ok (.ireturn, 1) := by decide +kernel
theorem dX4_eyes_0 : decode cX4_eyes 0 = .ok (.iload_n 1, 1) := by decide +kernel
theorem dX4_eyes_1 : decode cX4_eyes 1 = .ok (.invokestatic 145, 3) := by decide +kernel
theorem dX4_eyes_4 : decode cX4_eyes 4 = .ok (.ifCond .ne 5, 3) := by decide +kernel
theorem dX4_eyes_7 : decode cX4_eyes 7 = .ok (.iconst (-1), 1) := by decide +kernel
theorem dX4_eyes_8 : decode cX4_eyes 8 = .ok (.ireturn, 1) := by decide +kernel
theorem dX4_eyes_9 : decode cX4_eyes 9 = .ok (.aload_n 0, 1) := by decide +kernel
theorem dX4_eyes_10 : decode cX4_eyes 10 = .ok (.getfield 41, 3) := by decide +kernel
theorem dX4_eyes_13 : decode cX4_eyes 13 = .ok (.aload_n 0, 1) := by decide +kernel
theorem dX4_eyes_14 : decode cX4_eyes 14 = .ok (.getfield 29, 3) := by decide +kernel
theorem dX4_eyes_17 : decode cX4_eyes 17 = .ok (.invokevirtual 117, 3) := by decide +kernel
theorem dX4_eyes_20 : decode cX4_eyes 20 = .ok (.aload_n 0, 1) := by decide +kernel
theorem dX4_eyes_21 : decode cX4_eyes 21 = .ok (.getfield 29, 3) := by decide +kernel
theorem dX4_eyes_24 : decode cX4_eyes 24 = .ok (.getfield 148, 3) := by decide +kernel
theorem dX4_eyes_27 : decode cX4_eyes 27 = .ok (.istore_n 2, 1) := by decide +kernel
theorem dX4_eyes_28 : decode cX4_eyes 28 = .ok (.aload_n 0, 1) := by decide +kernel
theorem dX4_eyes_29 : decode cX4_eyes 29 = .ok (.getfield 29, 3) := by decide +kernel
theorem dX4_eyes_32 : decode cX4_eyes 32 = .ok (.iload_n 1, 1) := by decide +kernel
theorem dX4_eyes_33 : decode cX4_eyes 33 = .ok (.putfield 148, 3) := by decide +kernel
theorem dX4_eyes_36 : decode cX4_eyes 36 = .ok (.iload_n 2, 1) := by decide +kernel
theorem dX4_eyes_37 : decode cX4_eyes 37 = .ok (.ireturn, 1) := by decide +kernel
theorem dX4_look_0 : decode cX4_look 0 = .ok (.aload_n 0, 1) := by decide +kernel
theorem dX4_look_1 : decode cX4_look 1 = .ok (.iload_n 1, 1) := by decide +kernel
theorem dX4_look_2 : decode cX4_look 2 = .ok (.invokevirtual 91, 3) := by decide +kernel
theorem dX4_look_5 : decode cX4_look 5 = .ok (.ifCond .eq 11, 3) := by decide +kernel
theorem dX4_look_8 : decode cX4_look 8 = .ok (.aload_n 0, 1) := by decide +kernel
theorem dX4_look_9 : decode cX4_look 9 = .ok (.iload_n 2, 1) := by decide +kernel
theorem dX4_look_10 : decode cX4_look 10 = .ok (.invokevirtual 91, 3) := by decide +kernel
theorem dX4_look_13 : decode cX4_look 13 = .ok (.ifCond .ne 5, 3) := by decide +kernel
theorem dX4_look_16 : decode cX4_look 16 = .ok (.iconst (-1), 1) := by decide +kernel
theorem dX4_look_17 : decode cX4_look 17 = .ok (.ireturn, 1) := by decide +kernel
theorem dX4_look_18 : decode cX4_look 18 = .ok (.aload_n 0, 1) := by decide +kernel
theorem dX4_look_19 : decode cX4_look 19 = .ok (.getfield 41, 3) := by decide +kernel
theorem dX4_look_22 : decode cX4_look 22 = .ok (.aload_n 0, 1) := by decide +kernel
theorem dX4_look_23 : decode cX4_look 23 = .ok (.getfield 29, 3) := by decide +kernel
theorem dX4_look_26 : decode cX4_look 26 = .ok (.invokevirtual 117, 3) := by decide +kernel
theorem dX4_look_29 : decode cX4_look 29 = .ok (.aload_n 0, 1) := by decide +kernel
theorem dX4_look_30 : decode cX4_look 30 = .ok (.getfield 29, 3) := by decide +kernel
theorem dX4_look_33 : decode cX4_look 33 = .ok (.getfield 101, 3) := by decide +kernel
theorem dX4_look_36 : decode cX4_look 36 = .ok (.iload_n 1, 1) := by decide +kernel
theorem dX4_look_37 : decode cX4_look 37 = .ok (.iaload, 1) := by decide +kernel
theorem dX4_look_38 : decode cX4_look 38 = .ok (.istore_n 3, 1) := by decide +kernel
theorem dX4_look_39 : decode cX4_look 39 = .ok (.aload_n 0, 1) := by decide +kernel
theorem dX4_look_40 : decode cX4_look 40 = .ok (.getfield 29, 3) := by decide +kernel
theorem dX4_look_43 : decode cX4_look 43 = .ok (.getfield 101, 3) := by decide +kernel
theorem dX4_look_46 : decode cX4_look 46 = .ok (.iload_n 1, 1) := by decide +kernel
theorem dX4_look_47 : decode cX4_look 47 = .ok (.iload_n 2, 1) := by decide +kernel
theorem dX4_look_48 : decode cX4_look 48 = .ok (.iastore, 1) := by decide +kernel
theorem dX4_look_49 : decode cX4_look 49 = .ok (.iload_n 3, 1) := by decide +kernel
theorem dX4_look_50 : decode cX4_look 50 = .ok (.ireturn, 1) := by decide +kernel
theorem dX4_undo_0 : decode cX4_undo 0 = .ok (.aload_n 0, 1) := by decide +kernel
theorem dX4_undo_1 : decode cX4_undo 1 = .ok (.getfield 41, 3) := by decide +kernel
theorem dX4_undo_4 : decode cX4_undo 4 = .ok (.aload_n 0, 1) := by decide +kernel
theorem dX4_undo_5 : decode cX4_undo 5 = .ok (.getfield 29, 3) := by decide +kernel
theorem dX4_undo_8 : decode cX4_undo 8 = .ok (.invokevirtual 151, 3) := by decide +kernel
theorem dX4_undo_11 : decode cX4_undo 11 = .ok (.ifCond .eq 13, 3) := by decide +kernel
theorem dX4_undo_14 : decode cX4_undo 14 = .ok (.aload_n 0, 1) := by decide +kernel
theorem dX4_undo_15 : decode cX4_undo 15 = .ok (.getfield 41, 3) := by decide +kernel
theorem dX4_undo_18 : decode cX4_undo 18 = .ok (.getfield 155, 3) := by decide +kernel
theorem dX4_undo_21 : decode cX4_undo 21 = .ok (.goto 5, 3) := by decide +kernel
theorem dX4_undo_24 : decode cX4_undo 24 = .ok (.bipush (-2), 2) := by decide +kernel
theorem dX4_undo_26 : decode cX4_undo 26 = .ok (.ireturn, 1) := by decide +kernel
theorem dX4_who_0 : decode cX4_who 0 = .ok (.iload_n 1, 1) := by decide +kernel
theorem dX4_who_1 : decode cX4_who 1 = .ok (.tableswitch 71 0 2 #[27, 36, 63], 27) := by decide +kernel
theorem dX4_who_28 : decode cX4_who 28 = .ok (.aload_n 0, 1) := by decide +kernel
theorem dX4_who_29 : decode cX4_who 29 = .ok (.aload_n 0, 1) := by decide +kernel
theorem dX4_who_30 : decode cX4_who 30 = .ok (.getfield 29, 3) := by decide +kernel
theorem dX4_who_33 : decode cX4_who 33 = .ok (.invokevirtual 128, 3) := by decide +kernel
theorem dX4_who_36 : decode cX4_who 36 = .ok (.ireturn, 1) := by decide +kernel
theorem dX4_who_37 : decode cX4_who 37 = .ok (.aload_n 0, 1) := by decide +kernel
theorem dX4_who_38 : decode cX4_who 38 = .ok (.getfield 29, 3) := by decide +kernel
theorem dX4_who_41 : decode cX4_who 41 = .ok (.getfield 158, 3) := by decide +kernel
theorem dX4_who_44 : decode cX4_who 44 = .ok (.aload_n 0, 1) := by decide +kernel
theorem dX4_who_45 : decode cX4_who 45 = .ok (.getfield 29, 3) := by decide +kernel
theorem dX4_who_48 : decode cX4_who 48 = .ok (.getfield 142, 3) := by decide +kernel
theorem dX4_who_51 : decode cX4_who 51 = .ok (.ior, 1) := by decide +kernel
theorem dX4_who_52 : decode cX4_who 52 = .ok (.aload_n 0, 1) := by decide +kernel
theorem dX4_who_53 : decode cX4_who 53 = .ok (.aload_n 0, 1) := by decide +kernel
theorem dX4_who_54 : decode cX4_who 54 = .ok (.getfield 29, 3) := by decide +kernel
theorem dX4_who_57 : decode cX4_who 57 = .ok (.invokevirtual 128, 3) := by decide +kernel
theorem dX4_who_60 : decode cX4_who 60 = .ok (.iconst (-1), 1) := by decide +kernel
theorem dX4_who_61 : decode cX4_who 61 = .ok (.ixor, 1) := by decide +kernel
theorem dX4_who_62 : decode cX4_who 62 = .ok (.iand, 1) := by decide +kernel
theorem dX4_who_63 : decode cX4_who 63 = .ok (.ireturn, 1) := by decide +kernel
theorem dX4_who_64 : decode cX4_who 64 = .ok (.aload_n 0, 1) := by decide +kernel
theorem dX4_who_65 : decode cX4_who 65 = .ok (.getfield 29, 3) := by decide +kernel
theorem dX4_who_68 : decode cX4_who 68 = .ok (.getfield 158, 3) := by decide +kernel
theorem dX4_who_71 : decode cX4_who 71 = .ok (.ireturn, 1) := by decide +kernel
theorem dX4_who_72 : decode cX4_who 72 = .ok (.iconst (-1), 1) := by decide +kernel
theorem dX4_who_73 : decode cX4_who 73 = .ok (.ireturn, 1) := by decide +kernel
theorem dX4_follows_0 : decode cX4_follows 0 = .ok (.aload_n 0, 1) := by decide +kernel
theorem dX4_follows_1 : decode cX4_follows 1 = .ok (.iload_n 1, 1) := by decide +kernel
theorem dX4_follows_2 : decode cX4_follows 2 = .ok (.invokevirtual 91, 3) := by decide +kernel
theorem dX4_follows_5 : decode cX4_follows 5 = .ok (.ifCond .ne 5, 3) := by decide +kernel
theorem dX4_follows_8 : decode cX4_follows 8 = .ok (.iconst (-1), 1) := by decide +kernel
theorem dX4_follows_9 : decode cX4_follows 9 = .ok (.ireturn, 1) := by decide +kernel
theorem dX4_follows_10 : decode cX4_follows 10 = .ok (.aload_n 0, 1) := by decide +kernel
theorem dX4_follows_11 : decode cX4_follows 11 = .ok (.getfield 29, 3) := by decide +kernel
theorem dX4_follows_14 : decode cX4_follows 14 = .ok (.getfield 148, 3) := by decide +kernel
theorem dX4_follows_17 : decode cX4_follows 17 = .ok (.iconst 1, 1) := by decide +kernel
theorem dX4_follows_18 : decode cX4_follows 18 = .ok (.if_icmp .ne 7, 3) := by decide +kernel
theorem dX4_follows_21 : decode cX4_follows 21 = .ok (.iload_n 1, 1) := by decide +kernel
theorem dX4_follows_22 : decode cX4_follows 22 = .ok (.goto 10, 3) := by decide +kernel
theorem dX4_follows_25 : decode cX4_follows 25 = .ok (.aload_n 0, 1) := by decide +kernel
theorem dX4_follows_26 : decode cX4_follows 26 = .ok (.iload_n 1, 1) := by decide +kernel
theorem dX4_follows_27 : decode cX4_follows 27 = .ok (.bipush (-4), 2) := by decide +kernel
theorem dX4_follows_29 : decode cX4_follows 29 = .ok (.invokevirtual 161, 3) := by decide +kernel
theorem dX4_follows_32 : decode cX4_follows 32 = .ok (.ireturn, 1) := by decide +kernel
theorem dX4_runs_0 : decode cX4_runs 0 = .ok (.aload_n 0, 1) := by decide +kernel
theorem dX4_runs_1 : decode cX4_runs 1 = .ok (.iload_n 1, 1) := by decide +kernel
theorem dX4_runs_2 : decode cX4_runs 2 = .ok (.invokevirtual 91, 3) := by decide +kernel
theorem dX4_runs_5 : decode cX4_runs 5 = .ok (.ifCond .ne 5, 3) := by decide +kernel
theorem dX4_runs_8 : decode cX4_runs 8 = .ok (.iconst (-1), 1) := by decide +kernel
theorem dX4_runs_9 : decode cX4_runs 9 = .ok (.ireturn, 1) := by decide +kernel
theorem dX4_runs_10 : decode cX4_runs 10 = .ok (.iconst 0, 1) := by decide +kernel
theorem dX4_runs_11 : decode cX4_runs 11 = .ok (.istore_n 2, 1) := by decide +kernel
theorem dX4_runs_12 : decode cX4_runs 12 = .ok (.iconst 0, 1) := by decide +kernel
theorem dX4_runs_13 : decode cX4_runs 13 = .ok (.istore_n 3, 1) := by decide +kernel
theorem dX4_runs_14 : decode cX4_runs 14 = .ok (.iload_n 3, 1) := by decide +kernel
theorem dX4_runs_15 : decode cX4_runs 15 = .ok (.aload_n 0, 1) := by decide +kernel
theorem dX4_runs_16 : decode cX4_runs 16 = .ok (.getfield 19, 3) := by decide +kernel
theorem dX4_runs_19 : decode cX4_runs 19 = .ok (.getfield 88, 3) := by decide +kernel
theorem dX4_runs_22 : decode cX4_runs 22 = .ok (.if_icmp .ge 28, 3) := by decide +kernel
theorem dX4_runs_25 : decode cX4_runs 25 = .ok (.iload_n 3, 1) := by decide +kernel
theorem dX4_runs_26 : decode cX4_runs 26 = .ok (.iload_n 1, 1) := by decide +kernel
theorem dX4_runs_27 : decode cX4_runs 27 = .ok (.if_icmp .eq 17, 3) := by decide +kernel
theorem dX4_runs_30 : decode cX4_runs 30 = .ok (.aload_n 0, 1) := by decide +kernel
theorem dX4_runs_31 : decode cX4_runs 31 = .ok (.iload_n 3, 1) := by decide +kernel
theorem dX4_runs_32 : decode cX4_runs 32 = .ok (.bipush (-4), 2) := by decide +kernel
theorem dX4_runs_34 : decode cX4_runs 34 = .ok (.invokevirtual 161, 3) := by decide +kernel
theorem dX4_runs_37 : decode cX4_runs 37 = .ok (.iload_n 1, 1) := by decide +kernel
theorem dX4_runs_38 : decode cX4_runs 38 = .ok (.if_icmp .ne 6, 3) := by decide +kernel
theorem dX4_runs_41 : decode cX4_runs 41 = .ok (.iinc 2 1, 3) := by decide +kernel
theorem dX4_runs_44 : decode cX4_runs 44 = .ok (.iinc 3 1, 3) := by decide +kernel
theorem dX4_runs_47 : decode cX4_runs 47 = .ok (.goto (-33), 3) := by decide +kernel
theorem dX4_runs_50 : decode cX4_runs 50 = .ok (.iload_n 2, 1) := by decide +kernel
theorem dX4_runs_51 : decode cX4_runs 51 = .ok (.ireturn, 1) := by decide +kernel
theorem dX4_most_0 : decode cX4_most 0 = .ok (.iload_n 1, 1) := by decide +kernel
theorem dX4_most_1 : decode cX4_most 1 = .ok (.invokestatic 145, 3) := by decide +kernel
theorem dX4_most_4 : decode cX4_most 4 = .ok (.ifCond .ne 5, 3) := by decide +kernel
theorem dX4_most_7 : decode cX4_most 7 = .ok (.iconst (-1), 1) := by decide +kernel
theorem dX4_most_8 : decode cX4_most 8 = .ok (.ireturn, 1) := by decide +kernel
theorem dX4_most_9 : decode cX4_most 9 = .ok (.iconst 0, 1) := by decide +kernel
theorem dX4_most_10 : decode cX4_most 10 = .ok (.istore_n 2, 1) := by decide +kernel
theorem dX4_most_11 : decode cX4_most 11 = .ok (.iconst 1, 1) := by decide +kernel
theorem dX4_most_12 : decode cX4_most 12 = .ok (.istore_n 3, 1) := by decide +kernel
theorem dX4_most_13 : decode cX4_most 13 = .ok (.iload_n 3, 1) := by decide +kernel
theorem dX4_most_14 : decode cX4_most 14 = .ok (.iconst 4, 1) := by decide +kernel
theorem dX4_most_15 : decode cX4_most 15 = .ok (.if_icmp .ge 24, 3) := by decide +kernel
theorem dX4_most_18 : decode cX4_most 18 = .ok (.aload_n 0, 1) := by decide +kernel
theorem dX4_most_19 : decode cX4_most 19 = .ok (.iload_n 3, 1) := by decide +kernel
theorem dX4_most_20 : decode cX4_most 20 = .ok (.invokevirtual 165, 3) := by decide +kernel
theorem dX4_most_23 : decode cX4_most 23 = .ok (.aload_n 0, 1) := by decide +kernel
theorem dX4_most_24 : decode cX4_most 24 = .ok (.iload_n 2, 1) := by decide +kernel
theorem dX4_most_25 : decode cX4_most 25 = .ok (.invokevirtual 165, 3) := by decide +kernel
theorem dX4_most_28 : decode cX4_most 28 = .ok (.if_icmp .le 5, 3) := by decide +kernel
theorem dX4_most_31 : decode cX4_most 31 = .ok (.iload_n 3, 1) := by decide +kernel
theorem dX4_most_32 : decode cX4_most 32 = .ok (.istore_n 2, 1) := by decide +kernel
theorem dX4_most_33 : decode cX4_most 33 = .ok (.iinc 3 1, 3) := by decide +kernel
theorem dX4_most_36 : decode cX4_most 36 = .ok (.goto (-23), 3) := by decide +kernel
theorem dX4_most_39 : decode cX4_most 39 = .ok (.iload_n 1, 1) := by decide +kernel
theorem dX4_most_40 : decode cX4_most 40 = .ok (.ifCond .ne 7, 3) := by decide +kernel
theorem dX4_most_43 : decode cX4_most 43 = .ok (.iload_n 2, 1) := by decide +kernel
theorem dX4_most_44 : decode cX4_most 44 = .ok (.goto 8, 3) := by decide +kernel
theorem dX4_most_47 : decode cX4_most 47 = .ok (.aload_n 0, 1) := by decide +kernel
theorem dX4_most_48 : decode cX4_most 48 = .ok (.iload_n 2, 1) := by decide +kernel
theorem dX4_most_49 : decode cX4_most 49 = .ok (.invokevirtual 165, 3) := by decide +kernel
theorem dX4_most_52 : decode cX4_most 52 = .ok (.ireturn, 1) := by decide +kernel
theorem dX4_groups_0 : decode cX4_groups 0 = .ok (.iload_n 1, 1) := by decide +kernel
theorem dX4_groups_1 : decode cX4_groups 1 = .ok (.invokestatic 145, 3) := by decide +kernel
theorem dX4_groups_4 : decode cX4_groups 4 = .ok (.ifCond .ne 5, 3) := by decide +kernel
theorem dX4_groups_7 : decode cX4_groups 7 = .ok (.iconst (-1), 1) := by decide +kernel
theorem dX4_groups_8 : decode cX4_groups 8 = .ok (.ireturn, 1) := by decide +kernel
theorem dX4_groups_9 : decode cX4_groups 9 = .ok (.iconst 0, 1) := by decide +kernel
theorem dX4_groups_10 : decode cX4_groups 10 = .ok (.istore_n 2, 1) := by decide +kernel
theorem dX4_groups_11 : decode cX4_groups 11 = .ok (.iconst 0, 1) := by decide +kernel
theorem dX4_groups_12 : decode cX4_groups 12 = .ok (.istore_n 3, 1) := by decide +kernel
theorem dX4_groups_13 : decode cX4_groups 13 = .ok (.iconst 0, 1) := by decide +kernel
theorem dX4_groups_14 : decode cX4_groups 14 = .ok (.istore 4, 2) := by decide +kernel
theorem dX4_groups_16 : decode cX4_groups 16 = .ok (.iconst 0, 1) := by decide +kernel
theorem dX4_groups_17 : decode cX4_groups 17 = .ok (.istore 5, 2) := by decide +kernel
theorem dX4_groups_19 : decode cX4_groups 19 = .ok (.iload 5, 2) := by decide +kernel
theorem dX4_groups_21 : decode cX4_groups 21 = .ok (.aload_n 0, 1) := by decide +kernel
theorem dX4_groups_22 : decode cX4_groups 22 = .ok (.getfield 19, 3) := by decide +kernel
theorem dX4_groups_25 : decode cX4_groups 25 = .ok (.getfield 88, 3) := by decide +kernel
theorem dX4_groups_28 : decode cX4_groups 28 = .ok (.if_icmp .ge 55, 3) := by decide +kernel
theorem dX4_groups_31 : decode cX4_groups 31 = .ok (.iload 5, 2) := by decide +kernel
theorem dX4_groups_33 : decode cX4_groups 33 = .ok (.ifCond .eq 28, 3) := by decide +kernel
theorem dX4_groups_36 : decode cX4_groups 36 = .ok (.aload_n 0, 1) := by decide +kernel
theorem dX4_groups_37 : decode cX4_groups 37 = .ok (.getfield 29, 3) := by decide +kernel
theorem dX4_groups_40 : decode cX4_groups 40 = .ok (.getfield 98, 3) := by decide +kernel
theorem dX4_groups_43 : decode cX4_groups 43 = .ok (.iload 5, 2) := by decide +kernel
theorem dX4_groups_45 : decode cX4_groups 45 = .ok (.iaload, 1) := by decide +kernel
theorem dX4_groups_46 : decode cX4_groups 46 = .ok (.aload_n 0, 1) := by decide +kernel
theorem dX4_groups_47 : decode cX4_groups 47 = .ok (.getfield 29, 3) := by decide +kernel
theorem dX4_groups_50 : decode cX4_groups 50 = .ok (.getfield 98, 3) := by decide +kernel
theorem dX4_groups_53 : decode cX4_groups 53 = .ok (.iload 5, 2) := by decide +kernel
theorem dX4_groups_55 : decode cX4_groups 55 = .ok (.iconst 1, 1) := by decide +kernel
theorem dX4_groups_56 : decode cX4_groups 56 = .ok (.isub, 1) := by decide +kernel
theorem dX4_groups_57 : decode cX4_groups 57 = .ok (.iaload, 1) := by decide +kernel
theorem dX4_groups_58 : decode cX4_groups 58 = .ok (.if_icmp .eq 9, 3) := by decide +kernel
theorem dX4_groups_61 : decode cX4_groups 61 = .ok (.iinc 2 1, 3) := by decide +kernel
theorem dX4_groups_64 : decode cX4_groups 64 = .ok (.iconst 0, 1) := by decide +kernel
theorem dX4_groups_65 : decode cX4_groups 65 = .ok (.istore 4, 2) := by decide +kernel
theorem dX4_groups_67 : decode cX4_groups 67 = .ok (.iinc 4 1, 3) := by decide +kernel
theorem dX4_groups_70 : decode cX4_groups 70 = .ok (.iload_n 3, 1) := by decide +kernel
theorem dX4_groups_71 : decode cX4_groups 71 = .ok (.iload 4, 2) := by decide +kernel
theorem dX4_groups_73 : decode cX4_groups 73 = .ok (.invokestatic 168, 3) := by decide +kernel
theorem dX4_groups_76 : decode cX4_groups 76 = .ok (.istore_n 3, 1) := by decide +kernel
theorem dX4_groups_77 : decode cX4_groups 77 = .ok (.iinc 5 1, 3) := by decide +kernel
theorem dX4_groups_80 : decode cX4_groups 80 = .ok (.goto (-61), 3) := by decide +kernel
theorem dX4_groups_83 : decode cX4_groups 83 = .ok (.iload_n 1, 1) := by decide +kernel
theorem dX4_groups_84 : decode cX4_groups 84 = .ok (.ifCond .ne 7, 3) := by decide +kernel
theorem dX4_groups_87 : decode cX4_groups 87 = .ok (.iload_n 2, 1) := by decide +kernel
theorem dX4_groups_88 : decode cX4_groups 88 = .ok (.goto 4, 3) := by decide +kernel
theorem dX4_groups_91 : decode cX4_groups 91 = .ok (.iload_n 3, 1) := by decide +kernel
theorem dX4_groups_92 : decode cX4_groups 92 = .ok (.ireturn, 1) := by decide +kernel
theorem dX4_plan_0 : decode cX4_plan 0 = .ok (.iload_n 1, 1) := by decide +kernel
theorem dX4_plan_1 : decode cX4_plan 1 = .ok (.iconst (-1), 1) := by decide +kernel
theorem dX4_plan_2 : decode cX4_plan 2 = .ok (.if_icmp .lt 8, 3) := by decide +kernel
theorem dX4_plan_5 : decode cX4_plan 5 = .ok (.iload_n 1, 1) := by decide +kernel
theorem dX4_plan_6 : decode cX4_plan 6 = .ok (.iconst 5, 1) := by decide +kernel
theorem dX4_plan_7 : decode cX4_plan 7 = .ok (.if_icmp .lt 5, 3) := by decide +kernel
theorem dX4_plan_10 : decode cX4_plan 10 = .ok (.iconst (-1), 1) := by decide +kernel
theorem dX4_plan_11 : decode cX4_plan 11 = .ok (.ireturn, 1) := by decide +kernel
theorem dX4_plan_12 : decode cX4_plan 12 = .ok (.aload_n 0, 1) := by decide +kernel
theorem dX4_plan_13 : decode cX4_plan 13 = .ok (.invokevirtual 173, 3) := by decide +kernel
theorem dX4_plan_16 : decode cX4_plan 16 = .ok (.iconst 0, 1) := by decide +kernel
theorem dX4_plan_17 : decode cX4_plan 17 = .ok (.istore_n 2, 1) := by decide +kernel
theorem dX4_plan_18 : decode cX4_plan 18 = .ok (.iload_n 2, 1) := by decide +kernel
theorem dX4_plan_19 : decode cX4_plan 19 = .ok (.iconst 5, 1) := by decide +kernel
theorem dX4_plan_20 : decode cX4_plan 20 = .ok (.if_icmp .gt 37, 3) := by decide +kernel
theorem dX4_plan_23 : decode cX4_plan 23 = .ok (.aload_n 0, 1) := by decide +kernel
theorem dX4_plan_24 : decode cX4_plan 24 = .ok (.iload_n 2, 1) := by decide +kernel
theorem dX4_plan_25 : decode cX4_plan 25 = .ok (.invokevirtual 176, 3) := by decide +kernel
theorem dX4_plan_28 : decode cX4_plan 28 = .ok (.istore_n 3, 1) := by decide +kernel
theorem dX4_plan_29 : decode cX4_plan 29 = .ok (.iload_n 3, 1) := by decide +kernel
theorem dX4_plan_30 : decode cX4_plan 30 = .ok (.bipush (-4), 2) := by decide +kernel
theorem dX4_plan_32 : decode cX4_plan 32 = .ok (.if_icmp .eq 19, 3) := by decide +kernel
theorem dX4_plan_35 : decode cX4_plan 35 = .ok (.iload_n 1, 1) := by decide +kernel
theorem dX4_plan_36 : decode cX4_plan 36 = .ok (.iconst (-1), 1) := by decide +kernel
theorem dX4_plan_37 : decode cX4_plan 37 = .ok (.if_icmp .ne 7, 3) := by decide +kernel
theorem dX4_plan_40 : decode cX4_plan 40 = .ok (.iload_n 2, 1) := by decide +kernel
theorem dX4_plan_41 : decode cX4_plan 41 = .ok (.goto 9, 3) := by decide +kernel
theorem dX4_plan_44 : decode cX4_plan 44 = .ok (.iload_n 3, 1) := by decide +kernel
theorem dX4_plan_45 : decode cX4_plan 45 = .ok (.iload_n 2, 1) := by decide +kernel
theorem dX4_plan_46 : decode cX4_plan 46 = .ok (.iload_n 1, 1) := by decide +kernel
theorem dX4_plan_47 : decode cX4_plan 47 = .ok (.invokestatic 179, 3) := by decide +kernel
theorem dX4_plan_50 : decode cX4_plan 50 = .ok (.ireturn, 1) := by decide +kernel
theorem dX4_plan_51 : decode cX4_plan 51 = .ok (.iinc 2 1, 3) := by decide +kernel
theorem dX4_plan_54 : decode cX4_plan 54 = .ok (.goto (-36), 3) := by decide +kernel
theorem dX4_plan_57 : decode cX4_plan 57 = .ok (.bipush (-4), 2) := by decide +kernel
theorem dX4_plan_59 : decode cX4_plan 59 = .ok (.ireturn, 1) := by decide +kernel
theorem dX4_turn_0 : decode cX4_turn 0 = .ok (.aload_n 0, 1) := by decide +kernel
theorem dX4_turn_1 : decode cX4_turn 1 = .ok (.iload_n 1, 1) := by decide +kernel
theorem dX4_turn_2 : decode cX4_turn 2 = .ok (.invokevirtual 91, 3) := by decide +kernel
theorem dX4_turn_5 : decode cX4_turn 5 = .ok (.ifCond .eq 10, 3) := by decide +kernel
theorem dX4_turn_8 : decode cX4_turn 8 = .ok (.iload_n 2, 1) := by decide +kernel
theorem dX4_turn_9 : decode cX4_turn 9 = .ok (.invokestatic 111, 3) := by decide +kernel
theorem dX4_turn_12 : decode cX4_turn 12 = .ok (.ifCond .ne 5, 3) := by decide +kernel
theorem dX4_turn_15 : decode cX4_turn 15 = .ok (.iconst (-1), 1) := by decide +kernel
theorem dX4_turn_16 : decode cX4_turn 16 = .ok (.ireturn, 1) := by decide +kernel
theorem dX4_turn_17 : decode cX4_turn 17 = .ok (.aload_n 0, 1) := by decide +kernel
theorem dX4_turn_18 : decode cX4_turn 18 = .ok (.invokevirtual 173, 3) := by decide +kernel
theorem dX4_turn_21 : decode cX4_turn 21 = .ok (.aload_n 0, 1) := by decide +kernel
theorem dX4_turn_22 : decode cX4_turn 22 = .ok (.iload_n 1, 1) := by decide +kernel
theorem dX4_turn_23 : decode cX4_turn 23 = .ok (.iload_n 2, 1) := by decide +kernel
theorem dX4_turn_24 : decode cX4_turn 24 = .ok (.invokevirtual 183, 3) := by decide +kernel
theorem dX4_turn_27 : decode cX4_turn 27 = .ok (.ireturn, 1) := by decide +kernel
theorem dX4_alike_0 : decode cX4_alike 0 = .ok (.iload_n 1, 1) := by decide +kernel
theorem dX4_alike_1 : decode cX4_alike 1 = .ok (.invokestatic 111, 3) := by decide +kernel
theorem dX4_alike_4 : decode cX4_alike 4 = .ok (.ifCond .eq 10, 3) := by decide +kernel
theorem dX4_alike_7 : decode cX4_alike 7 = .ok (.iload_n 2, 1) := by decide +kernel
theorem dX4_alike_8 : decode cX4_alike 8 = .ok (.invokestatic 145, 3) := by decide +kernel
theorem dX4_alike_11 : decode cX4_alike 11 = .ok (.ifCond .ne 5, 3) := by decide +kernel
theorem dX4_alike_14 : decode cX4_alike 14 = .ok (.iconst (-1), 1) := by decide +kernel
theorem dX4_alike_15 : decode cX4_alike 15 = .ok (.ireturn, 1) := by decide +kernel
theorem dX4_alike_16 : decode cX4_alike 16 = .ok (.aload_n 0, 1) := by decide +kernel
theorem dX4_alike_17 : decode cX4_alike 17 = .ok (.invokevirtual 121, 3) := by decide +kernel
theorem dX4_alike_20 : decode cX4_alike 20 = .ok (.iconst 0, 1) := by decide +kernel
theorem dX4_alike_21 : decode cX4_alike 21 = .ok (.istore_n 3, 1) := by decide +kernel
theorem dX4_alike_22 : decode cX4_alike 22 = .ok (.iconst 0, 1) := by decide +kernel
theorem dX4_alike_23 : decode cX4_alike 23 = .ok (.istore 4, 2) := by decide +kernel
theorem dX4_alike_25 : decode cX4_alike 25 = .ok (.iload 4, 2) := by decide +kernel
theorem dX4_alike_27 : decode cX4_alike 27 = .ok (.iconst 4, 1) := by decide +kernel
theorem dX4_alike_28 : decode cX4_alike 28 = .ok (.if_icmp .ge 23, 3) := by decide +kernel
theorem dX4_alike_31 : decode cX4_alike 31 = .ok (.iload_n 3, 1) := by decide +kernel
theorem dX4_alike_32 : decode cX4_alike 32 = .ok (.aload_n 0, 1) := by decide +kernel
theorem dX4_alike_33 : decode cX4_alike 33 = .ok (.iload 4, 2) := by decide +kernel
theorem dX4_alike_35 : decode cX4_alike 35 = .ok (.getstatic 186, 3) := by decide +kernel
theorem dX4_alike_38 : decode cX4_alike 38 = .ok (.iload_n 1, 1) := by decide +kernel
theorem dX4_alike_39 : decode cX4_alike 39 = .ok (.iaload, 1) := by decide +kernel
theorem dX4_alike_40 : decode cX4_alike 40 = .ok (.invokevirtual 189, 3) := by decide +kernel
theorem dX4_alike_43 : decode cX4_alike 43 = .ok (.iadd, 1) := by decide +kernel
theorem dX4_alike_44 : decode cX4_alike 44 = .ok (.istore_n 3, 1) := by decide +kernel
theorem dX4_alike_45 : decode cX4_alike 45 = .ok (.iinc 4 1, 3) := by decide +kernel
theorem dX4_alike_48 : decode cX4_alike 48 = .ok (.goto (-23), 3) := by decide +kernel
theorem dX4_alike_51 : decode cX4_alike 51 = .ok (.iconst 1, 1) := by decide +kernel
theorem dX4_alike_52 : decode cX4_alike 52 = .ok (.istore 4, 2) := by decide +kernel
theorem dX4_alike_54 : decode cX4_alike 54 = .ok (.iconst 0, 1) := by decide +kernel
theorem dX4_alike_55 : decode cX4_alike 55 = .ok (.istore 5, 2) := by decide +kernel
theorem dX4_alike_57 : decode cX4_alike 57 = .ok (.iload 5, 2) := by decide +kernel
theorem dX4_alike_59 : decode cX4_alike 59 = .ok (.aload_n 0, 1) := by decide +kernel
theorem dX4_alike_60 : decode cX4_alike 60 = .ok (.getfield 19, 3) := by decide +kernel
theorem dX4_alike_63 : decode cX4_alike 63 = .ok (.getfield 88, 3) := by decide +kernel
theorem dX4_alike_66 : decode cX4_alike 66 = .ok (.if_icmp .ge 32, 3) := by decide +kernel
theorem dX4_alike_69 : decode cX4_alike 69 = .ok (.aload_n 0, 1) := by decide +kernel
theorem dX4_alike_70 : decode cX4_alike 70 = .ok (.getfield 48, 3) := by decide +kernel
theorem dX4_alike_73 : decode cX4_alike 73 = .ok (.iload 5, 2) := by decide +kernel
theorem dX4_alike_75 : decode cX4_alike 75 = .ok (.iaload, 1) := by decide +kernel
theorem dX4_alike_76 : decode cX4_alike 76 = .ok (.iload 5, 2) := by decide +kernel
theorem dX4_alike_78 : decode cX4_alike 78 = .ok (.if_icmp .ne 14, 3) := by decide +kernel
theorem dX4_alike_81 : decode cX4_alike 81 = .ok (.iload 4, 2) := by decide +kernel
theorem dX4_alike_83 : decode cX4_alike 83 = .ok (.aload_n 0, 1) := by decide +kernel
theorem dX4_alike_84 : decode cX4_alike 84 = .ok (.iload 5, 2) := by decide +kernel
theorem dX4_alike_86 : decode cX4_alike 86 = .ok (.invokevirtual 192, 3) := by decide +kernel
theorem dX4_alike_89 : decode cX4_alike 89 = .ok (.imul, 1) := by decide +kernel
theorem dX4_alike_90 : decode cX4_alike 90 = .ok (.istore 4, 2) := by decide +kernel
theorem dX4_alike_92 : decode cX4_alike 92 = .ok (.iinc 5 1, 3) := by decide +kernel
theorem dX4_alike_95 : decode cX4_alike 95 = .ok (.goto (-38), 3) := by decide +kernel
theorem dX4_alike_98 : decode cX4_alike 98 = .ok (.iload_n 3, 1) := by decide +kernel
theorem dX4_alike_99 : decode cX4_alike 99 = .ok (.iload 4, 2) := by decide +kernel
theorem dX4_alike_101 : decode cX4_alike 101 = .ok (.iload_n 2, 1) := by decide +kernel
theorem dX4_alike_102 : decode cX4_alike 102 = .ok (.invokestatic 195, 3) := by decide +kernel
theorem dX4_alike_105 : decode cX4_alike 105 = .ok (.ireturn, 1) := by decide +kernel
theorem dX4_right_0 : decode cX4_right 0 = .ok (.aload_n 0, 1) := by decide +kernel
theorem dX4_right_1 : decode cX4_right 1 = .ok (.iload_n 1, 1) := by decide +kernel
theorem dX4_right_2 : decode cX4_right 2 = .ok (.invokevirtual 91, 3) := by decide +kernel
theorem dX4_right_5 : decode cX4_right 5 = .ok (.ifCond .eq 17, 3) := by decide +kernel
theorem dX4_right_8 : decode cX4_right 8 = .ok (.iload_n 2, 1) := by decide +kernel
theorem dX4_right_9 : decode cX4_right 9 = .ok (.invokestatic 111, 3) := by decide +kernel
theorem dX4_right_12 : decode cX4_right 12 = .ok (.ifCond .eq 10, 3) := by decide +kernel
theorem dX4_right_15 : decode cX4_right 15 = .ok (.iload_n 3, 1) := by decide +kernel
theorem dX4_right_16 : decode cX4_right 16 = .ok (.invokestatic 145, 3) := by decide +kernel
theorem dX4_right_19 : decode cX4_right 19 = .ok (.ifCond .ne 5, 3) := by decide +kernel
theorem dX4_right_22 : decode cX4_right 22 = .ok (.iconst (-1), 1) := by decide +kernel
theorem dX4_right_23 : decode cX4_right 23 = .ok (.ireturn, 1) := by decide +kernel
theorem dX4_right_24 : decode cX4_right 24 = .ok (.aload_n 0, 1) := by decide +kernel
theorem dX4_right_25 : decode cX4_right 25 = .ok (.invokevirtual 121, 3) := by decide +kernel
theorem dX4_right_28 : decode cX4_right 28 = .ok (.getstatic 186, 3) := by decide +kernel
theorem dX4_right_31 : decode cX4_right 31 = .ok (.iload_n 2, 1) := by decide +kernel
theorem dX4_right_32 : decode cX4_right 32 = .ok (.iaload, 1) := by decide +kernel
theorem dX4_right_33 : decode cX4_right 33 = .ok (.istore 4, 2) := by decide +kernel
theorem dX4_right_35 : decode cX4_right 35 = .ok (.aload_n 0, 1) := by decide +kernel
theorem dX4_right_36 : decode cX4_right 36 = .ok (.aload_n 0, 1) := by decide +kernel
theorem dX4_right_37 : decode cX4_right 37 = .ok (.getfield 29, 3) := by decide +kernel
theorem dX4_right_40 : decode cX4_right 40 = .ok (.iload_n 1, 1) := by decide +kernel
theorem dX4_right_41 : decode cX4_right 41 = .ok (.invokevirtual 107, 3) := by decide +kernel
theorem dX4_right_44 : decode cX4_right 44 = .ok (.iload 4, 2) := by decide +kernel
theorem dX4_right_46 : decode cX4_right 46 = .ok (.iadd, 1) := by decide +kernel
theorem dX4_right_47 : decode cX4_right 47 = .ok (.iconst 4, 1) := by decide +kernel
theorem dX4_right_48 : decode cX4_right 48 = .ok (.irem, 1) := by decide +kernel
theorem dX4_right_49 : decode cX4_right 49 = .ok (.istore 5, 2) := by decide +kernel
theorem dX4_right_51 : decode cX4_right 51 = .ok (.iconst 0, 1) := by decide +kernel
theorem dX4_right_52 : decode cX4_right 52 = .ok (.istore 6, 2) := by decide +kernel
theorem dX4_right_54 : decode cX4_right 54 = .ok (.iconst 0, 1) := by decide +kernel
theorem dX4_right_55 : decode cX4_right 55 = .ok (.istore 7, 2) := by decide +kernel
theorem dX4_right_57 : decode cX4_right 57 = .ok (.iload 7, 2) := by decide +kernel
theorem dX4_right_59 : decode cX4_right 59 = .ok (.iconst 3, 1) := by decide +kernel
theorem dX4_right_60 : decode cX4_right 60 = .ok (.if_icmp .ge 40, 3) := by decide +kernel
theorem dX4_right_63 : decode cX4_right 63 = .ok (.aload_n 0, 1) := by decide +kernel
theorem dX4_right_64 : decode cX4_right 64 = .ok (.iload_n 1, 1) := by decide +kernel
theorem dX4_right_65 : decode cX4_right 65 = .ok (.iload 7, 2) := by decide +kernel
theorem dX4_right_67 : decode cX4_right 67 = .ok (.iload 4, 2) := by decide +kernel
theorem dX4_right_69 : decode cX4_right 69 = .ok (.invokevirtual 198, 3) := by decide +kernel
theorem dX4_right_72 : decode cX4_right 72 = .ok (.iload 5, 2) := by decide +kernel
theorem dX4_right_74 : decode cX4_right 74 = .ok (.if_icmp .ne 20, 3) := by decide +kernel
theorem dX4_right_77 : decode cX4_right 77 = .ok (.iload 6, 2) := by decide +kernel
theorem dX4_right_79 : decode cX4_right 79 = .ok (.aload_n 0, 1) := by decide +kernel
theorem dX4_right_80 : decode cX4_right 80 = .ok (.aload_n 0, 1) := by decide +kernel
theorem dX4_right_81 : decode cX4_right 81 = .ok (.getfield 48, 3) := by decide +kernel
theorem dX4_right_84 : decode cX4_right 84 = .ok (.iload_n 1, 1) := by decide +kernel
theorem dX4_right_85 : decode cX4_right 85 = .ok (.iaload, 1) := by decide +kernel
theorem dX4_right_86 : decode cX4_right 86 = .ok (.iload 7, 2) := by decide +kernel
theorem dX4_right_88 : decode cX4_right 88 = .ok (.invokevirtual 201, 3) := by decide +kernel
theorem dX4_right_91 : decode cX4_right 91 = .ok (.iadd, 1) := by decide +kernel
theorem dX4_right_92 : decode cX4_right 92 = .ok (.istore 6, 2) := by decide +kernel
theorem dX4_right_94 : decode cX4_right 94 = .ok (.iinc 7 1, 3) := by decide +kernel
theorem dX4_right_97 : decode cX4_right 97 = .ok (.goto (-40), 3) := by decide +kernel
theorem dX4_right_100 : decode cX4_right 100 = .ok (.iload 6, 2) := by decide +kernel
theorem dX4_right_102 : decode cX4_right 102 = .ok (.aload_n 0, 1) := by decide +kernel
theorem dX4_right_103 : decode cX4_right 103 = .ok (.aload_n 0, 1) := by decide +kernel
theorem dX4_right_104 : decode cX4_right 104 = .ok (.getfield 48, 3) := by decide +kernel
theorem dX4_right_107 : decode cX4_right 107 = .ok (.iload_n 1, 1) := by decide +kernel
theorem dX4_right_108 : decode cX4_right 108 = .ok (.iaload, 1) := by decide +kernel
theorem dX4_right_109 : decode cX4_right 109 = .ok (.invokevirtual 192, 3) := by decide +kernel
theorem dX4_right_112 : decode cX4_right 112 = .ok (.iload_n 3, 1) := by decide +kernel
theorem dX4_right_113 : decode cX4_right 113 = .ok (.invokestatic 195, 3) := by decide +kernel
theorem dX4_right_116 : decode cX4_right 116 = .ok (.ireturn, 1) := by decide +kernel
theorem dX4_which_0 : decode cX4_which 0 = .ok (.aload_n 0, 1) := by decide +kernel
theorem dX4_which_1 : decode cX4_which 1 = .ok (.iload_n 1, 1) := by decide +kernel
theorem dX4_which_2 : decode cX4_which 2 = .ok (.invokevirtual 91, 3) := by decide +kernel
theorem dX4_which_5 : decode cX4_which 5 = .ok (.ifCond .eq 12, 3) := by decide +kernel
theorem dX4_which_8 : decode cX4_which 8 = .ok (.iload_n 2, 1) := by decide +kernel
theorem dX4_which_9 : decode cX4_which 9 = .ok (.ifCond .lt 8, 3) := by decide +kernel
theorem dX4_which_12 : decode cX4_which 12 = .ok (.iload_n 2, 1) := by decide +kernel
theorem dX4_which_13 : decode cX4_which 13 = .ok (.iconst 4, 1) := by decide +kernel
theorem dX4_which_14 : decode cX4_which 14 = .ok (.if_icmp .lt 5, 3) := by decide +kernel
theorem dX4_which_17 : decode cX4_which 17 = .ok (.iconst (-1), 1) := by decide +kernel
theorem dX4_which_18 : decode cX4_which 18 = .ok (.ireturn, 1) := by decide +kernel
theorem dX4_which_19 : decode cX4_which 19 = .ok (.aload_n 0, 1) := by decide +kernel
theorem dX4_which_20 : decode cX4_which 20 = .ok (.invokevirtual 173, 3) := by decide +kernel
theorem dX4_which_23 : decode cX4_which 23 = .ok (.iconst 0, 1) := by decide +kernel
theorem dX4_which_24 : decode cX4_which 24 = .ok (.istore_n 3, 1) := by decide +kernel
theorem dX4_which_25 : decode cX4_which 25 = .ok (.iconst 0, 1) := by decide +kernel
theorem dX4_which_26 : decode cX4_which 26 = .ok (.istore 4, 2) := by decide +kernel
theorem dX4_which_28 : decode cX4_which 28 = .ok (.iload 4, 2) := by decide +kernel
theorem dX4_which_30 : decode cX4_which 30 = .ok (.iconst 3, 1) := by decide +kernel
theorem dX4_which_31 : decode cX4_which 31 = .ok (.if_icmp .ge 27, 3) := by decide +kernel
theorem dX4_which_34 : decode cX4_which 34 = .ok (.aload_n 0, 1) := by decide +kernel
theorem dX4_which_35 : decode cX4_which 35 = .ok (.iload_n 1, 1) := by decide +kernel
theorem dX4_which_36 : decode cX4_which 36 = .ok (.iload 4, 2) := by decide +kernel
theorem dX4_which_38 : decode cX4_which 38 = .ok (.invokevirtual 183, 3) := by decide +kernel
theorem dX4_which_41 : decode cX4_which 41 = .ok (.iload_n 2, 1) := by decide +kernel
theorem dX4_which_42 : decode cX4_which 42 = .ok (.if_icmp .ne 10, 3) := by decide +kernel
theorem dX4_which_45 : decode cX4_which 45 = .ok (.iload_n 3, 1) := by decide +kernel
theorem dX4_which_46 : decode cX4_which 46 = .ok (.iconst 1, 1) := by decide +kernel
theorem dX4_which_47 : decode cX4_which 47 = .ok (.iload 4, 2) := by decide +kernel
theorem dX4_which_49 : decode cX4_which 49 = .ok (.ishl, 1) := by decide +kernel
theorem dX4_which_50 : decode cX4_which 50 = .ok (.ior, 1) := by decide +kernel
theorem dX4_which_51 : decode cX4_which 51 = .ok (.istore_n 3, 1) := by decide +kernel
theorem dX4_which_52 : decode cX4_which 52 = .ok (.iinc 4 1, 3) := by decide +kernel
theorem dX4_which_55 : decode cX4_which 55 = .ok (.goto (-27), 3) := by decide +kernel
theorem dX4_which_58 : decode cX4_which 58 = .ok (.iload_n 3, 1) := by decide +kernel
theorem dX4_which_59 : decode cX4_which 59 = .ok (.ireturn, 1) := by decide +kernel
theorem dX4_safe_0 : decode cX4_safe 0 = .ok (.aload_n 0, 1) := by decide +kernel
theorem dX4_safe_1 : decode cX4_safe 1 = .ok (.iload_n 1, 1) := by decide +kernel
theorem dX4_safe_2 : decode cX4_safe 2 = .ok (.invokevirtual 91, 3) := by decide +kernel
theorem dX4_safe_5 : decode cX4_safe 5 = .ok (.ifCond .ne 5, 3) := by decide +kernel
theorem dX4_safe_8 : decode cX4_safe 8 = .ok (.iconst (-1), 1) := by decide +kernel
theorem dX4_safe_9 : decode cX4_safe 9 = .ok (.ireturn, 1) := by decide +kernel
theorem dX4_safe_10 : decode cX4_safe 10 = .ok (.iconst 0, 1) := by decide +kernel
theorem dX4_safe_11 : decode cX4_safe 11 = .ok (.istore_n 2, 1) := by decide +kernel
theorem dX4_safe_12 : decode cX4_safe 12 = .ok (.iload_n 2, 1) := by decide +kernel
theorem dX4_safe_13 : decode cX4_safe 13 = .ok (.aload_n 0, 1) := by decide +kernel
theorem dX4_safe_14 : decode cX4_safe 14 = .ok (.getfield 19, 3) := by decide +kernel
theorem dX4_safe_17 : decode cX4_safe 17 = .ok (.getfield 88, 3) := by decide +kernel
theorem dX4_safe_20 : decode cX4_safe 20 = .ok (.if_icmp .ge 36, 3) := by decide +kernel
theorem dX4_safe_23 : decode cX4_safe 23 = .ok (.aload_n 0, 1) := by decide +kernel
theorem dX4_safe_24 : decode cX4_safe 24 = .ok (.iload_n 2, 1) := by decide +kernel
theorem dX4_safe_25 : decode cX4_safe 25 = .ok (.iload_n 1, 1) := by decide +kernel
theorem dX4_safe_26 : decode cX4_safe 26 = .ok (.invokevirtual 161, 3) := by decide +kernel
theorem dX4_safe_29 : decode cX4_safe 29 = .ok (.istore_n 3, 1) := by decide +kernel
theorem dX4_safe_30 : decode cX4_safe 30 = .ok (.iload_n 3, 1) := by decide +kernel
theorem dX4_safe_31 : decode cX4_safe 31 = .ok (.bipush (-4), 2) := by decide +kernel
theorem dX4_safe_33 : decode cX4_safe 33 = .ok (.if_icmp .eq 17, 3) := by decide +kernel
theorem dX4_safe_36 : decode cX4_safe 36 = .ok (.aload_n 0, 1) := by decide +kernel
theorem dX4_safe_37 : decode cX4_safe 37 = .ok (.getfield 19, 3) := by decide +kernel
theorem dX4_safe_40 : decode cX4_safe 40 = .ok (.getfield 95, 3) := by decide +kernel
theorem dX4_safe_43 : decode cX4_safe 43 = .ok (.iload_n 3, 1) := by decide +kernel
theorem dX4_safe_44 : decode cX4_safe 44 = .ok (.iaload, 1) := by decide +kernel
theorem dX4_safe_45 : decode cX4_safe 45 = .ok (.ifCond .ne 5, 3) := by decide +kernel
theorem dX4_safe_48 : decode cX4_safe 48 = .ok (.iload_n 2, 1) := by decide +kernel
theorem dX4_safe_49 : decode cX4_safe 49 = .ok (.ireturn, 1) := by decide +kernel
theorem dX4_safe_50 : decode cX4_safe 50 = .ok (.iinc 2 1, 3) := by decide +kernel
theorem dX4_safe_53 : decode cX4_safe 53 = .ok (.goto (-41), 3) := by decide +kernel
theorem dX4_safe_56 : decode cX4_safe 56 = .ok (.bipush (-4), 2) := by decide +kernel
theorem dX4_safe_58 : decode cX4_safe 58 = .ok (.ireturn, 1) := by decide +kernel
theorem dX4_numbers_0 : decode cX4_numbers 0 = .ok (.iload_n 1, 1) := by decide +kernel
theorem dX4_numbers_1 : decode cX4_numbers 1 = .ok (.iconst 1, 1) := by decide +kernel
theorem dX4_numbers_2 : decode cX4_numbers 2 = .ok (.if_icmp .lt 8, 3) := by decide +kernel
theorem dX4_numbers_5 : decode cX4_numbers 5 = .ok (.iload_n 1, 1) := by decide +kernel
theorem dX4_numbers_6 : decode cX4_numbers 6 = .ok (.iconst 5, 1) := by decide +kernel
theorem dX4_numbers_7 : decode cX4_numbers 7 = .ok (.if_icmp .le 5, 3) := by decide +kernel
theorem dX4_numbers_10 : decode cX4_numbers 10 = .ok (.iconst (-1), 1) := by decide +kernel
theorem dX4_numbers_11 : decode cX4_numbers 11 = .ok (.ireturn, 1) := by decide +kernel
theorem dX4_numbers_12 : decode cX4_numbers 12 = .ok (.aload_n 0, 1) := by decide +kernel
theorem dX4_numbers_13 : decode cX4_numbers 13 = .ok (.invokevirtual 173, 3) := by decide +kernel
theorem dX4_numbers_16 : decode cX4_numbers 16 = .ok (.iconst 0, 1) := by decide +kernel
theorem dX4_numbers_17 : decode cX4_numbers 17 = .ok (.istore_n 2, 1) := by decide +kernel
theorem dX4_numbers_18 : decode cX4_numbers 18 = .ok (.iconst 0, 1) := by decide +kernel
theorem dX4_numbers_19 : decode cX4_numbers 19 = .ok (.istore_n 3, 1) := by decide +kernel
theorem dX4_numbers_20 : decode cX4_numbers 20 = .ok (.iload_n 3, 1) := by decide +kernel
theorem dX4_numbers_21 : decode cX4_numbers 21 = .ok (.getstatic 204, 3) := by decide +kernel
theorem dX4_numbers_24 : decode cX4_numbers 24 = .ok (.iload_n 1, 1) := by decide +kernel
theorem dX4_numbers_25 : decode cX4_numbers 25 = .ok (.iaload, 1) := by decide +kernel
theorem dX4_numbers_26 : decode cX4_numbers 26 = .ok (.if_icmp .ge 21, 3) := by decide +kernel
theorem dX4_numbers_29 : decode cX4_numbers 29 = .ok (.aload_n 0, 1) := by decide +kernel
theorem dX4_numbers_30 : decode cX4_numbers 30 = .ok (.iload_n 3, 1) := by decide +kernel
theorem dX4_numbers_31 : decode cX4_numbers 31 = .ok (.iload_n 1, 1) := by decide +kernel
theorem dX4_numbers_32 : decode cX4_numbers 32 = .ok (.invokevirtual 207, 3) := by decide +kernel
theorem dX4_numbers_35 : decode cX4_numbers 35 = .ok (.ifCond .eq 6, 3) := by decide +kernel
theorem dX4_numbers_38 : decode cX4_numbers 38 = .ok (.iinc 2 1, 3) := by decide +kernel
theorem dX4_numbers_41 : decode cX4_numbers 41 = .ok (.iinc 3 1, 3) := by decide +kernel
theorem dX4_numbers_44 : decode cX4_numbers 44 = .ok (.goto (-24), 3) := by decide +kernel
theorem dX4_numbers_47 : decode cX4_numbers 47 = .ok (.iload_n 2, 1) := by decide +kernel
theorem dX4_numbers_48 : decode cX4_numbers 48 = .ok (.ireturn, 1) := by decide +kernel
theorem dX4_drill_0 : decode cX4_drill 0 = .ok (.iload_n 1, 1) := by decide +kernel
theorem dX4_drill_1 : decode cX4_drill 1 = .ok (.ifCond .lt 28, 3) := by decide +kernel
theorem dX4_drill_4 : decode cX4_drill 4 = .ok (.iload_n 1, 1) := by decide +kernel
theorem dX4_drill_5 : decode cX4_drill 5 = .ok (.sipush 9999, 3) := by decide +kernel
theorem dX4_drill_8 : decode cX4_drill 8 = .ok (.if_icmp .gt 21, 3) := by decide +kernel
theorem dX4_drill_11 : decode cX4_drill 11 = .ok (.iload_n 2, 1) := by decide +kernel
theorem dX4_drill_12 : decode cX4_drill 12 = .ok (.iconst 1, 1) := by decide +kernel
theorem dX4_drill_13 : decode cX4_drill 13 = .ok (.if_icmp .lt 16, 3) := by decide +kernel
theorem dX4_drill_16 : decode cX4_drill 16 = .ok (.iload_n 2, 1) := by decide +kernel
theorem dX4_drill_17 : decode cX4_drill 17 = .ok (.bipush 60, 2) := by decide +kernel
theorem dX4_drill_19 : decode cX4_drill 19 = .ok (.if_icmp .gt 10, 3) := by decide +kernel
theorem dX4_drill_22 : decode cX4_drill 22 = .ok (.iload_n 3, 1) := by decide +kernel
theorem dX4_drill_23 : decode cX4_drill 23 = .ok (.invokestatic 145, 3) := by decide +kernel
theorem dX4_drill_26 : decode cX4_drill 26 = .ok (.ifCond .ne 5, 3) := by decide +kernel
theorem dX4_drill_29 : decode cX4_drill 29 = .ok (.iconst (-1), 1) := by decide +kernel
theorem dX4_drill_30 : decode cX4_drill 30 = .ok (.ireturn, 1) := by decide +kernel
theorem dX4_drill_31 : decode cX4_drill 31 = .ok (.aload_n 0, 1) := by decide +kernel
theorem dX4_drill_32 : decode cX4_drill 32 = .ok (.invokevirtual 121, 3) := by decide +kernel
theorem dX4_drill_35 : decode cX4_drill 35 = .ok (.aload_n 0, 1) := by decide +kernel
theorem dX4_drill_36 : decode cX4_drill 36 = .ok (.getfield 33, 3) := by decide +kernel
theorem dX4_drill_39 : decode cX4_drill 39 = .ok (.aload_n 0, 1) := by decide +kernel
theorem dX4_drill_40 : decode cX4_drill 40 = .ok (.getfield 29, 3) := by decide +kernel
theorem dX4_drill_43 : decode cX4_drill 43 = .ok (.invokevirtual 210, 3) := by decide +kernel
theorem dX4_drill_46 : decode cX4_drill 46 = .ok (.iconst 0, 1) := by decide +kernel
theorem dX4_drill_47 : decode cX4_drill 47 = .ok (.istore 4, 2) := by decide +kernel
theorem dX4_drill_49 : decode cX4_drill 49 = .ok (.iconst 0, 1) := by decide +kernel
theorem dX4_drill_50 : decode cX4_drill 50 = .ok (.istore 5, 2) := by decide +kernel
theorem dX4_drill_52 : decode cX4_drill 52 = .ok (.iload 5, 2) := by decide +kernel
theorem dX4_drill_54 : decode cX4_drill 54 = .ok (.iload_n 2, 1) := by decide +kernel
theorem dX4_drill_55 : decode cX4_drill 55 = .ok (.if_icmp .ge 52, 3) := by decide +kernel
theorem dX4_drill_58 : decode cX4_drill 58 = .ok (.aload_n 0, 1) := by decide +kernel
theorem dX4_drill_59 : decode cX4_drill 59 = .ok (.aload_n 0, 1) := by decide +kernel
theorem dX4_drill_60 : decode cX4_drill 60 = .ok (.getfield 33, 3) := by decide +kernel
theorem dX4_drill_63 : decode cX4_drill 63 = .ok (.ldc2_w 213, 3) := by decide +kernel
theorem dX4_drill_66 : decode cX4_drill 66 = .ok (.iload_n 1, 1) := by decide +kernel
theorem dX4_drill_67 : decode cX4_drill 67 = .ok (.i2l, 1) := by decide +kernel
theorem dX4_drill_68 : decode cX4_drill 68 = .ok (.lmul, 1) := by decide +kernel
theorem dX4_drill_69 : decode cX4_drill 69 = .ok (.ldc2_w 215, 3) := by decide +kernel
theorem dX4_drill_72 : decode cX4_drill 72 = .ok (.iload 5, 2) := by decide +kernel
theorem dX4_drill_74 : decode cX4_drill 74 = .ok (.i2l, 1) := by decide +kernel
theorem dX4_drill_75 : decode cX4_drill 75 = .ok (.lmul, 1) := by decide +kernel
theorem dX4_drill_76 : decode cX4_drill 76 = .ok (.ladd, 1) := by decide +kernel
theorem dX4_drill_77 : decode cX4_drill 77 = .ok (.lconst 1, 1) := by decide +kernel
theorem dX4_drill_78 : decode cX4_drill 78 = .ok (.ladd, 1) := by decide +kernel
theorem dX4_drill_79 : decode cX4_drill 79 = .ok (.invokestatic 217, 3) := by decide +kernel
theorem dX4_drill_82 : decode cX4_drill 82 = .ok (.iconst 3, 1) := by decide +kernel
theorem dX4_drill_83 : decode cX4_drill 83 = .ok (.irem, 1) := by decide +kernel
theorem dX4_drill_84 : decode cX4_drill 84 = .ok (.invokevirtual 124, 3) := by decide +kernel
theorem dX4_drill_87 : decode cX4_drill 87 = .ok (.aload_n 0, 1) := by decide +kernel
theorem dX4_drill_88 : decode cX4_drill 88 = .ok (.aload_n 0, 1) := by decide +kernel
theorem dX4_drill_89 : decode cX4_drill 89 = .ok (.getfield 33, 3) := by decide +kernel
theorem dX4_drill_92 : decode cX4_drill 92 = .ok (.invokevirtual 221, 3) := by decide +kernel
theorem dX4_drill_95 : decode cX4_drill 95 = .ok (.ifCond .eq 6, 3) := by decide +kernel
theorem dX4_drill_98 : decode cX4_drill 98 = .ok (.iinc 4 1, 3) := by decide +kernel
theorem dX4_drill_101 : decode cX4_drill 101 = .ok (.iinc 5 1, 3) := by decide +kernel
theorem dX4_drill_104 : decode cX4_drill 104 = .ok (.goto (-52), 3) := by decide +kernel
theorem dX4_drill_107 : decode cX4_drill 107 = .ok (.iload_n 3, 1) := by decide +kernel
theorem dX4_drill_108 : decode cX4_drill 108 = .ok (.ifCond .ne 17, 3) := by decide +kernel
theorem dX4_drill_111 : decode cX4_drill 111 = .ok (.aload_n 0, 1) := by decide +kernel
theorem dX4_drill_112 : decode cX4_drill 112 = .ok (.aload_n 0, 1) := by decide +kernel
theorem dX4_drill_113 : decode cX4_drill 113 = .ok (.getfield 33, 3) := by decide +kernel
theorem dX4_drill_116 : decode cX4_drill 116 = .ok (.invokevirtual 128, 3) := by decide +kernel
theorem dX4_drill_119 : decode cX4_drill 119 = .ok (.invokestatic 132, 3) := by decide +kernel
theorem dX4_drill_122 : decode cX4_drill 122 = .ok (.goto 5, 3) := by decide +kernel
theorem dX4_drill_125 : decode cX4_drill 125 = .ok (.iload 4, 2) := by decide +kernel
theorem dX4_drill_127 : decode cX4_drill 127 = .ok (.ireturn, 1) := by decide +kernel
theorem dX4_keep_0 : decode cX4_keep 0 = .ok (.aload_n 0, 1) := by decide +kernel
theorem dX4_keep_1 : decode cX4_keep 1 = .ok (.getfield 45, 3) := by decide +kernel
theorem dX4_keep_4 : decode cX4_keep 4 = .ok (.getfield 155, 3) := by decide +kernel
theorem dX4_keep_7 : decode cX4_keep 7 = .ok (.iconst 2, 1) := by decide +kernel
theorem dX4_keep_8 : decode cX4_keep 8 = .ok (.if_icmp .lt 6, 3) := by decide +kernel
theorem dX4_keep_11 : decode cX4_keep 11 = .ok (.bipush (-3), 2) := by decide +kernel
theorem dX4_keep_13 : decode cX4_keep 13 = .ok (.ireturn, 1) := by decide +kernel
theorem dX4_keep_14 : decode cX4_keep 14 = .ok (.aload_n 0, 1) := by decide +kernel
theorem dX4_keep_15 : decode cX4_keep 15 = .ok (.getfield 45, 3) := by decide +kernel
theorem dX4_keep_18 : decode cX4_keep 18 = .ok (.aload_n 0, 1) := by decide +kernel
theorem dX4_keep_19 : decode cX4_keep 19 = .ok (.getfield 29, 3) := by decide +kernel
theorem dX4_keep_22 : decode cX4_keep 22 = .ok (.invokevirtual 117, 3) := by decide +kernel
theorem dX4_keep_25 : decode cX4_keep 25 = .ok (.aload_n 0, 1) := by decide +kernel
theorem dX4_keep_26 : decode cX4_keep 26 = .ok (.getfield 45, 3) := by decide +kernel
theorem dX4_keep_29 : decode cX4_keep 29 = .ok (.getfield 155, 3) := by decide +kernel
theorem dX4_keep_32 : decode cX4_keep 32 = .ok (.ireturn, 1) := by decide +kernel
theorem dX4_back_0 : decode cX4_back 0 = .ok (.aload_n 0, 1) := by decide +kernel
theorem dX4_back_1 : decode cX4_back 1 = .ok (.getfield 45, 3) := by decide +kernel
theorem dX4_back_4 : decode cX4_back 4 = .ok (.aload_n 0, 1) := by decide +kernel
theorem dX4_back_5 : decode cX4_back 5 = .ok (.getfield 29, 3) := by decide +kernel
theorem dX4_back_8 : decode cX4_back 8 = .ok (.invokevirtual 151, 3) := by decide +kernel
theorem dX4_back_11 : decode cX4_back 11 = .ok (.ifCond .ne 6, 3) := by decide +kernel
theorem dX4_back_14 : decode cX4_back 14 = .ok (.bipush (-2), 2) := by decide +kernel
theorem dX4_back_16 : decode cX4_back 16 = .ok (.ireturn, 1) := by decide +kernel
theorem dX4_back_17 : decode cX4_back 17 = .ok (.aload_n 0, 1) := by decide +kernel
theorem dX4_back_18 : decode cX4_back 18 = .ok (.getfield 41, 3) := by decide +kernel
theorem dX4_back_21 : decode cX4_back 21 = .ok (.iconst 0, 1) := by decide +kernel
theorem dX4_back_22 : decode cX4_back 22 = .ok (.putfield 155, 3) := by decide +kernel
theorem dX4_back_25 : decode cX4_back 25 = .ok (.aload_n 0, 1) := by decide +kernel
theorem dX4_back_26 : decode cX4_back 26 = .ok (.getfield 45, 3) := by decide +kernel
theorem dX4_back_29 : decode cX4_back 29 = .ok (.getfield 155, 3) := by decide +kernel
theorem dX4_back_32 : decode cX4_back 32 = .ok (.ireturn, 1) := by decide +kernel
theorem dX4_count_0 : decode cX4_count 0 = .ok (.iload_n 1, 1) := by decide +kernel
theorem dX4_count_1 : decode cX4_count 1 = .ok (.tableswitch 87 0 5 #[39, 47, 55, 63, 71, 79], 39) := by decide +kernel
theorem dX4_count_40 : decode cX4_count 40 = .ok (.aload_n 0, 1) := by decide +kernel
theorem dX4_count_41 : decode cX4_count 41 = .ok (.getfield 19, 3) := by decide +kernel
theorem dX4_count_44 : decode cX4_count 44 = .ok (.getfield 88, 3) := by decide +kernel
theorem dX4_count_47 : decode cX4_count 47 = .ok (.ireturn, 1) := by decide +kernel
theorem dX4_count_48 : decode cX4_count 48 = .ok (.aload_n 0, 1) := by decide +kernel
theorem dX4_count_49 : decode cX4_count 49 = .ok (.getfield 29, 3) := by decide +kernel
theorem dX4_count_52 : decode cX4_count 52 = .ok (.getfield 114, 3) := by decide +kernel
theorem dX4_count_55 : decode cX4_count 55 = .ok (.ireturn, 1) := by decide +kernel
theorem dX4_count_56 : decode cX4_count 56 = .ok (.aload_n 0, 1) := by decide +kernel
theorem dX4_count_57 : decode cX4_count 57 = .ok (.getfield 29, 3) := by decide +kernel
theorem dX4_count_60 : decode cX4_count 60 = .ok (.getfield 148, 3) := by decide +kernel
theorem dX4_count_63 : decode cX4_count 63 = .ok (.ireturn, 1) := by decide +kernel
theorem dX4_count_64 : decode cX4_count 64 = .ok (.aload_n 0, 1) := by decide +kernel
theorem dX4_count_65 : decode cX4_count 65 = .ok (.getfield 41, 3) := by decide +kernel
theorem dX4_count_68 : decode cX4_count 68 = .ok (.getfield 155, 3) := by decide +kernel
theorem dX4_count_71 : decode cX4_count 71 = .ok (.ireturn, 1) := by decide +kernel
theorem dX4_count_72 : decode cX4_count 72 = .ok (.aload_n 0, 1) := by decide +kernel
