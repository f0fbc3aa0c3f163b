theorem dX4_count_73 : decode cX4_count 73 = .ok (.getfield 45, 3) := by decide +kernel
theorem dX4_count_76 : decode cX4_count 76 = .ok (.getfield 155, 3) := by decide +kernel
theorem dX4_count_79 : decode cX4_count 79 = .ok (.ireturn, 1) := by decide +kernel
theorem dX4_count_80 : decode cX4_count 80 = .ok (.aload_n 0, 1) := by decide +kernel
theorem dX4_count_81 : decode cX4_count 81 = .ok (.getfield 10, 3) := by decide +kernel
theorem dX4_count_84 : decode cX4_count 84 = .ok (.getfield 81, 3) := by decide +kernel
theorem dX4_count_87 : decode cX4_count 87 = .ok (.ireturn, 1) := by decide +kernel
theorem dX4_count_88 : decode cX4_count 88 = .ok (.iconst (-1), 1) := by decide +kernel
theorem dX4_count_89 : decode cX4_count 89 = .ok (.ireturn, 1) := by decide +kernel
theorem dX4_isMan_0 : decode cX4_isMan 0 = .ok (.iload_n 1, 1) := by decide +kernel
theorem dX4_isMan_1 : decode cX4_isMan 1 = .ok (.ifCond .lt 18, 3) := by decide +kernel
theorem dX4_isMan_4 : decode cX4_isMan 4 = .ok (.iload_n 1, 1) := by decide +kernel
theorem dX4_isMan_5 : decode cX4_isMan 5 = .ok (.aload_n 0, 1) := by decide +kernel
theorem dX4_isMan_6 : decode cX4_isMan 6 = .ok (.getfield 19, 3) := by decide +kernel
theorem dX4_isMan_9 : decode cX4_isMan 9 = .ok (.getfield 88, 3) := by decide +kernel
theorem dX4_isMan_12 : decode cX4_isMan 12 = .ok (.if_icmp .ge 7, 3) := by decide +kernel
theorem dX4_isMan_15 : decode cX4_isMan 15 = .ok (.iconst 1, 1) := by decide +kernel
theorem dX4_isMan_16 : decode cX4_isMan 16 = .ok (.goto 4, 3) := by decide +kernel
theorem dX4_isMan_19 : decode cX4_isMan 19 = .ok (.iconst 0, 1) := by decide +kernel
theorem dX4_isMan_20 : decode cX4_isMan 20 = .ok (.ireturn, 1) := by decide +kernel
theorem dX4_isWord_0 : decode cX4_isWord 0 = .ok (.iload_n 0, 1) := by decide +kernel
theorem dX4_isWord_1 : decode cX4_isWord 1 = .ok (.ifCond .lt 12, 3) := by decide +kernel
theorem dX4_isWord_4 : decode cX4_isWord 4 = .ok (.iload_n 0, 1) := by decide +kernel
theorem dX4_isWord_5 : decode cX4_isWord 5 = .ok (.iconst 3, 1) := by decide +kernel
theorem dX4_isWord_6 : decode cX4_isWord 6 = .ok (.if_icmp .ge 7, 3) := by decide +kernel
theorem dX4_isWord_9 : decode cX4_isWord 9 = .ok (.iconst 1, 1) := by decide +kernel
theorem dX4_isWord_10 : decode cX4_isWord 10 = .ok (.goto 4, 3) := by decide +kernel
theorem dX4_isWord_13 : decode cX4_isWord 13 = .ok (.iconst 0, 1) := by decide +kernel
theorem dX4_isWord_14 : decode cX4_isWord 14 = .ok (.ireturn, 1) := by decide +kernel
theorem dX4_isEither_0 : decode cX4_isEither 0 = .ok (.iload_n 0, 1) := by decide +kernel
theorem dX4_isEither_1 : decode cX4_isEither 1 = .ok (.ifCond .eq 8, 3) := by decide +kernel
theorem dX4_isEither_4 : decode cX4_isEither 4 = .ok (.iload_n 0, 1) := by decide +kernel
theorem dX4_isEither_5 : decode cX4_isEither 5 = .ok (.iconst 1, 1) := by decide +kernel
theorem dX4_isEither_6 : decode cX4_isEither 6 = .ok (.if_icmp .ne 7, 3) := by decide +kernel
theorem dX4_isEither_9 : decode cX4_isEither 9 = .ok (.iconst 1, 1) := by decide +kernel
theorem dX4_isEither_10 : decode cX4_isEither 10 = .ok (.goto 4, 3) := by decide +kernel
theorem dX4_isEither_13 : decode cX4_isEither 13 = .ok (.iconst 0, 1) := by decide +kernel
theorem dX4_isEither_14 : decode cX4_isEither 14 = .ok (.ireturn, 1) := by decide +kernel
theorem dX4_layScript_0 : decode cX4_layScript 0 = .ok (.aload_n 0, 1) := by decide +kernel
theorem dX4_layScript_1 : decode cX4_layScript 1 = .ok (.getfield 10, 3) := by decide +kernel
theorem dX4_layScript_4 : decode cX4_layScript 4 = .ok (.aload_n 0, 1) := by decide +kernel
theorem dX4_layScript_5 : decode cX4_layScript 5 = .ok (.getfield 23, 3) := by decide +kernel
theorem dX4_layScript_8 : decode cX4_layScript 8 = .ok (.invokevirtual 84, 3) := by decide +kernel
theorem dX4_layScript_11 : decode cX4_layScript 11 = .ok (.bipush (-4), 2) := by decide +kernel
theorem dX4_layScript_13 : decode cX4_layScript 13 = .ok (.if_icmp .ne 13, 3) := by decide +kernel
theorem dX4_layScript_16 : decode cX4_layScript 16 = .ok (.aload_n 0, 1) := by decide +kernel
theorem dX4_layScript_17 : decode cX4_layScript 17 = .ok (.getfield 23, 3) := by decide +kernel
theorem dX4_layScript_20 : decode cX4_layScript 20 = .ok (.invokevirtual 224, 3) := by decide +kernel
theorem dX4_layScript_23 : decode cX4_layScript 23 = .ok (.ifCond .ne 5, 3) := by decide +kernel
theorem dX4_layScript_26 : decode cX4_layScript 26 = .ok (.iconst 0, 1) := by decide +kernel
theorem dX4_layScript_27 : decode cX4_layScript 27 = .ok (.ireturn, 1) := by decide +kernel
theorem dX4_layScript_28 : decode cX4_layScript 28 = .ok (.aload_n 0, 1) := by decide +kernel
theorem dX4_layScript_29 : decode cX4_layScript 29 = .ok (.getfield 19, 3) := by decide +kernel
theorem dX4_layScript_32 : decode cX4_layScript 32 = .ok (.astore_n 1, 1) := by decide +kernel
theorem dX4_layScript_33 : decode cX4_layScript 33 = .ok (.aload_n 0, 1) := by decide +kernel
theorem dX4_layScript_34 : decode cX4_layScript 34 = .ok (.aload_n 0, 1) := by decide +kernel
theorem dX4_layScript_35 : decode cX4_layScript 35 = .ok (.getfield 23, 3) := by decide +kernel
theorem dX4_layScript_38 : decode cX4_layScript 38 = .ok (.putfield 19, 3) := by decide +kernel
theorem dX4_layScript_41 : decode cX4_layScript 41 = .ok (.aload_n 0, 1) := by decide +kernel
theorem dX4_layScript_42 : decode cX4_layScript 42 = .ok (.aload_n 1, 1) := by decide +kernel
theorem dX4_layScript_43 : decode cX4_layScript 43 = .ok (.putfield 23, 3) := by decide +kernel
theorem dX4_layScript_46 : decode cX4_layScript 46 = .ok (.aload_n 0, 1) := by decide +kernel
theorem dX4_layScript_47 : decode cX4_layScript 47 = .ok (.getfield 29, 3) := by decide +kernel
theorem dX4_layScript_50 : decode cX4_layScript 50 = .ok (.aload_n 0, 1) := by decide +kernel
theorem dX4_layScript_51 : decode cX4_layScript 51 = .ok (.getfield 19, 3) := by decide +kernel
theorem dX4_layScript_54 : decode cX4_layScript 54 = .ok (.invokevirtual 227, 3) := by decide +kernel
theorem dX4_layScript_57 : decode cX4_layScript 57 = .ok (.aload_n 0, 1) := by decide +kernel
theorem dX4_layScript_58 : decode cX4_layScript 58 = .ok (.getfield 41, 3) := by decide +kernel
theorem dX4_layScript_61 : decode cX4_layScript 61 = .ok (.iconst 0, 1) := by decide +kernel
theorem dX4_layScript_62 : decode cX4_layScript 62 = .ok (.putfield 155, 3) := by decide +kernel
theorem dX4_layScript_65 : decode cX4_layScript 65 = .ok (.aload_n 0, 1) := by decide +kernel
theorem dX4_layScript_66 : decode cX4_layScript 66 = .ok (.getfield 45, 3) := by decide +kernel
theorem dX4_layScript_69 : decode cX4_layScript 69 = .ok (.iconst 0, 1) := by decide +kernel
theorem dX4_layScript_70 : decode cX4_layScript 70 = .ok (.putfield 155, 3) := by decide +kernel
theorem dX4_layScript_73 : decode cX4_layScript 73 = .ok (.iconst 1, 1) := by decide +kernel
theorem dX4_layScript_74 : decode cX4_layScript 74 = .ok (.ireturn, 1) := by decide +kernel
theorem dX4_chainEnd_0 : decode cX4_chainEnd 0 = .ok (.iload_n 1, 1) := by decide +kernel
theorem dX4_chainEnd_1 : decode cX4_chainEnd 1 = .ok (.istore_n 3, 1) := by decide +kernel
theorem dX4_chainEnd_2 : decode cX4_chainEnd 2 = .ok (.iconst 0, 1) := by decide +kernel
theorem dX4_chainEnd_3 : decode cX4_chainEnd 3 = .ok (.istore 4, 2) := by decide +kernel
theorem dX4_chainEnd_5 : decode cX4_chainEnd 5 = .ok (.iload 4, 2) := by decide +kernel
theorem dX4_chainEnd_7 : decode cX4_chainEnd 7 = .ok (.aload_n 0, 1) := by decide +kernel
theorem dX4_chainEnd_8 : decode cX4_chainEnd 8 = .ok (.getfield 19, 3) := by decide +kernel
theorem dX4_chainEnd_11 : decode cX4_chainEnd 11 = .ok (.getfield 88, 3) := by decide +kernel
theorem dX4_chainEnd_14 : decode cX4_chainEnd 14 = .ok (.if_icmp .gt 39, 3) := by decide +kernel
theorem dX4_chainEnd_17 : decode cX4_chainEnd 17 = .ok (.iload_n 3, 1) := by decide +kernel
theorem dX4_chainEnd_18 : decode cX4_chainEnd 18 = .ok (.iload_n 2, 1) := by decide +kernel
theorem dX4_chainEnd_19 : decode cX4_chainEnd 19 = .ok (.if_icmp .eq 34, 3) := by decide +kernel
theorem dX4_chainEnd_22 : decode cX4_chainEnd 22 = .ok (.aload_n 0, 1) := by decide +kernel
theorem dX4_chainEnd_23 : decode cX4_chainEnd 23 = .ok (.getfield 19, 3) := by decide +kernel
theorem dX4_chainEnd_26 : decode cX4_chainEnd 26 = .ok (.getfield 95, 3) := by decide +kernel
theorem dX4_chainEnd_29 : decode cX4_chainEnd 29 = .ok (.iload_n 3, 1) := by decide +kernel
theorem dX4_chainEnd_30 : decode cX4_chainEnd 30 = .ok (.iaload, 1) := by decide +kernel
theorem dX4_chainEnd_31 : decode cX4_chainEnd 31 = .ok (.iconst 2, 1) := by decide +kernel
theorem dX4_chainEnd_32 : decode cX4_chainEnd 32 = .ok (.if_icmp .eq 5, 3) := by decide +kernel
theorem dX4_chainEnd_35 : decode cX4_chainEnd 35 = .ok (.iload_n 3, 1) := by decide +kernel
theorem dX4_chainEnd_36 : decode cX4_chainEnd 36 = .ok (.ireturn, 1) := by decide +kernel
theorem dX4_chainEnd_37 : decode cX4_chainEnd 37 = .ok (.aload_n 0, 1) := by decide +kernel
theorem dX4_chainEnd_38 : decode cX4_chainEnd 38 = .ok (.getfield 29, 3) := by decide +kernel
theorem dX4_chainEnd_41 : decode cX4_chainEnd 41 = .ok (.getfield 101, 3) := by decide +kernel
theorem dX4_chainEnd_44 : decode cX4_chainEnd 44 = .ok (.iload_n 3, 1) := by decide +kernel
theorem dX4_chainEnd_45 : decode cX4_chainEnd 45 = .ok (.iaload, 1) := by decide +kernel
theorem dX4_chainEnd_46 : decode cX4_chainEnd 46 = .ok (.istore_n 3, 1) := by decide +kernel
theorem dX4_chainEnd_47 : decode cX4_chainEnd 47 = .ok (.iinc 4 1, 3) := by decide +kernel
theorem dX4_chainEnd_50 : decode cX4_chainEnd 50 = .ok (.goto (-45), 3) := by decide +kernel
theorem dX4_chainEnd_53 : decode cX4_chainEnd 53 = .ok (.bipush (-4), 2) := by decide +kernel
theorem dX4_chainEnd_55 : decode cX4_chainEnd 55 = .ok (.ireturn, 1) := by decide +kernel
theorem dX4_heeds_0 : decode cX4_heeds 0 = .ok (.aload_n 0, 1) := by decide +kernel
theorem dX4_heeds_1 : decode cX4_heeds 1 = .ok (.getfield 29, 3) := by decide +kernel
theorem dX4_heeds_4 : decode cX4_heeds 4 = .ok (.getfield 148, 3) := by decide +kernel
theorem dX4_heeds_7 : decode cX4_heeds 7 = .ok (.ifCond .ne 30, 3) := by decide +kernel
theorem dX4_heeds_10 : decode cX4_heeds 10 = .ok (.aload_n 0, 1) := by decide +kernel
theorem dX4_heeds_11 : decode cX4_heeds 11 = .ok (.iload_n 1, 1) := by decide +kernel
theorem dX4_heeds_12 : decode cX4_heeds 12 = .ok (.bipush (-4), 2) := by decide +kernel
theorem dX4_heeds_14 : decode cX4_heeds 14 = .ok (.invokevirtual 161, 3) := by decide +kernel
theorem dX4_heeds_17 : decode cX4_heeds 17 = .ok (.bipush (-4), 2) := by decide +kernel
theorem dX4_heeds_19 : decode cX4_heeds 19 = .ok (.if_icmp .eq 18, 3) := by decide +kernel
theorem dX4_heeds_22 : decode cX4_heeds 22 = .ok (.aload_n 0, 1) := by decide +kernel
theorem dX4_heeds_23 : decode cX4_heeds 23 = .ok (.iload_n 1, 1) := by decide +kernel
theorem dX4_heeds_24 : decode cX4_heeds 24 = .ok (.iload_n 2, 1) := by decide +kernel
theorem dX4_heeds_25 : decode cX4_heeds 25 = .ok (.invokevirtual 161, 3) := by decide +kernel
theorem dX4_heeds_28 : decode cX4_heeds 28 = .ok (.bipush (-4), 2) := by decide +kernel
theorem dX4_heeds_30 : decode cX4_heeds 30 = .ok (.if_icmp .ne 7, 3) := by decide +kernel
theorem dX4_heeds_33 : decode cX4_heeds 33 = .ok (.iconst 1, 1) := by decide +kernel
theorem dX4_heeds_34 : decode cX4_heeds 34 = .ok (.goto 4, 3) := by decide +kernel
theorem dX4_heeds_37 : decode cX4_heeds 37 = .ok (.iconst 0, 1) := by decide +kernel
theorem dX4_heeds_38 : decode cX4_heeds 38 = .ok (.ireturn, 1) := by decide +kernel
theorem dX4_findLeaders_0 : decode cX4_findLeaders 0 = .ok (.iconst 0, 1) := by decide +kernel
theorem dX4_findLeaders_1 : decode cX4_findLeaders 1 = .ok (.istore_n 1, 1) := by decide +kernel
theorem dX4_findLeaders_2 : decode cX4_findLeaders 2 = .ok (.iload_n 1, 1) := by decide +kernel
theorem dX4_findLeaders_3 : decode cX4_findLeaders 3 = .ok (.aload_n 0, 1) := by decide +kernel
theorem dX4_findLeaders_4 : decode cX4_findLeaders 4 = .ok (.getfield 19, 3) := by decide +kernel
theorem dX4_findLeaders_7 : decode cX4_findLeaders 7 = .ok (.getfield 88, 3) := by decide +kernel
theorem dX4_findLeaders_10 : decode cX4_findLeaders 10 = .ok (.if_icmp .ge 49, 3) := by decide +kernel
theorem dX4_findLeaders_13 : decode cX4_findLeaders 13 = .ok (.aload_n 0, 1) := by decide +kernel
theorem dX4_findLeaders_14 : decode cX4_findLeaders 14 = .ok (.getfield 29, 3) := by decide +kernel
theorem dX4_findLeaders_17 : decode cX4_findLeaders 17 = .ok (.getfield 148, 3) := by decide +kernel
theorem dX4_findLeaders_20 : decode cX4_findLeaders 20 = .ok (.iconst 1, 1) := by decide +kernel
theorem dX4_findLeaders_21 : decode cX4_findLeaders 21 = .ok (.if_icmp .ne 7, 3) := by decide +kernel
theorem dX4_findLeaders_24 : decode cX4_findLeaders 24 = .ok (.iload_n 1, 1) := by decide +kernel
theorem dX4_findLeaders_25 : decode cX4_findLeaders 25 = .ok (.goto 10, 3) := by decide +kernel
theorem dX4_findLeaders_28 : decode cX4_findLeaders 28 = .ok (.aload_n 0, 1) := by decide +kernel
theorem dX4_findLeaders_29 : decode cX4_findLeaders 29 = .ok (.iload_n 1, 1) := by decide +kernel
theorem dX4_findLeaders_30 : decode cX4_findLeaders 30 = .ok (.bipush (-4), 2) := by decide +kernel
theorem dX4_findLeaders_32 : decode cX4_findLeaders 32 = .ok (.invokevirtual 161, 3) := by decide +kernel
theorem dX4_findLeaders_35 : decode cX4_findLeaders 35 = .ok (.istore_n 2, 1) := by decide +kernel
theorem dX4_findLeaders_36 : decode cX4_findLeaders 36 = .ok (.aload_n 0, 1) := by decide +kernel
theorem dX4_findLeaders_37 : decode cX4_findLeaders 37 = .ok (.getfield 48, 3) := by decide +kernel
theorem dX4_findLeaders_40 : decode cX4_findLeaders 40 = .ok (.iload_n 1, 1) := by decide +kernel
theorem dX4_findLeaders_41 : decode cX4_findLeaders 41 = .ok (.iload_n 2, 1) := by decide +kernel
theorem dX4_findLeaders_42 : decode cX4_findLeaders 42 = .ok (.bipush (-4), 2) := by decide +kernel
theorem dX4_findLeaders_44 : decode cX4_findLeaders 44 = .ok (.if_icmp .ne 7, 3) := by decide +kernel
theorem dX4_findLeaders_47 : decode cX4_findLeaders 47 = .ok (.iload_n 1, 1) := by decide +kernel
theorem dX4_findLeaders_48 : decode cX4_findLeaders 48 = .ok (.goto 4, 3) := by decide +kernel
theorem dX4_findLeaders_51 : decode cX4_findLeaders 51 = .ok (.iload_n 2, 1) := by decide +kernel
theorem dX4_findLeaders_52 : decode cX4_findLeaders 52 = .ok (.iastore, 1) := by decide +kernel
theorem dX4_findLeaders_53 : decode cX4_findLeaders 53 = .ok (.iinc 1 1, 3) := by decide +kernel
theorem dX4_findLeaders_56 : decode cX4_findLeaders 56 = .ok (.goto (-54), 3) := by decide +kernel
theorem dX4_findLeaders_59 : decode cX4_findLeaders 59 = .ok (.return_, 1) := by decide +kernel
theorem dX4_drawOf_0 : decode cX4_drawOf 0 = .ok (.lload_n 0, 1) := by decide +kernel
theorem dX4_drawOf_1 : decode cX4_drawOf 1 = .ok (.lload_n 0, 1) := by decide +kernel
theorem dX4_drawOf_2 : decode cX4_drawOf 2 = .ok (.lmul, 1) := by decide +kernel
theorem dX4_drawOf_3 : decode cX4_drawOf 3 = .ok (.ldc2_w 231, 3) := by decide +kernel
theorem dX4_drawOf_6 : decode cX4_drawOf 6 = .ok (.lrem, 1) := by decide +kernel
theorem dX4_drawOf_7 : decode cX4_drawOf 7 = .ok (.ldc2_w 233, 3) := by decide +kernel
theorem dX4_drawOf_10 : decode cX4_drawOf 10 = .ok (.ldiv, 1) := by decide +kernel
theorem dX4_drawOf_11 : decode cX4_drawOf 11 = .ok (.l2i, 1) := by decide +kernel
theorem dX4_drawOf_12 : decode cX4_drawOf 12 = .ok (.ireturn, 1) := by decide +kernel
theorem dX4_isChancy_0 : decode cX4_isChancy 0 = .ok (.aload_n 0, 1) := by decide +kernel
theorem dX4_isChancy_1 : decode cX4_isChancy 1 = .ok (.getfield 19, 3) := by decide +kernel
theorem dX4_isChancy_4 : decode cX4_isChancy 4 = .ok (.getfield 95, 3) := by decide +kernel
theorem dX4_isChancy_7 : decode cX4_isChancy 7 = .ok (.iload_n 1, 1) := by decide +kernel
theorem dX4_isChancy_8 : decode cX4_isChancy 8 = .ok (.iaload, 1) := by decide +kernel
theorem dX4_isChancy_9 : decode cX4_isChancy 9 = .ok (.iconst 1, 1) := by decide +kernel
theorem dX4_isChancy_10 : decode cX4_isChancy 10 = .ok (.if_icmp .eq 16, 3) := by decide +kernel
theorem dX4_isChancy_13 : decode cX4_isChancy 13 = .ok (.aload_n 0, 1) := by decide +kernel
theorem dX4_isChancy_14 : decode cX4_isChancy 14 = .ok (.getfield 19, 3) := by decide +kernel
theorem dX4_isChancy_17 : decode cX4_isChancy 17 = .ok (.getfield 95, 3) := by decide +kernel
theorem dX4_isChancy_20 : decode cX4_isChancy 20 = .ok (.iload_n 1, 1) := by decide +kernel
theorem dX4_isChancy_21 : decode cX4_isChancy 21 = .ok (.iaload, 1) := by decide +kernel
theorem dX4_isChancy_22 : decode cX4_isChancy 22 = .ok (.iconst 2, 1) := by decide +kernel
theorem dX4_isChancy_23 : decode cX4_isChancy 23 = .ok (.if_icmp .ne 7, 3) := by decide +kernel
theorem dX4_isChancy_26 : decode cX4_isChancy 26 = .ok (.iconst 1, 1) := by decide +kernel
theorem dX4_isChancy_27 : decode cX4_isChancy 27 = .ok (.goto 4, 3) := by decide +kernel
theorem dX4_isChancy_30 : decode cX4_isChancy 30 = .ok (.iconst 0, 1) := by decide +kernel
theorem dX4_isChancy_31 : decode cX4_isChancy 31 = .ok (.ireturn, 1) := by decide +kernel
theorem dX4_mannerOf_0 : decode cX4_mannerOf 0 = .ok (.aload_n 0, 1) := by decide +kernel
theorem dX4_mannerOf_1 : decode cX4_mannerOf 1 = .ok (.getfield 19, 3) := by decide +kernel
theorem dX4_mannerOf_4 : decode cX4_mannerOf 4 = .ok (.getfield 95, 3) := by decide +kernel
theorem dX4_mannerOf_7 : decode cX4_mannerOf 7 = .ok (.iload_n 1, 1) := by decide +kernel
theorem dX4_mannerOf_8 : decode cX4_mannerOf 8 = .ok (.iaload, 1) := by decide +kernel
theorem dX4_mannerOf_9 : decode cX4_mannerOf 9 = .ok (.iconst 3, 1) := by decide +kernel
theorem dX4_mannerOf_10 : decode cX4_mannerOf 10 = .ok (.if_icmp .ne 5, 3) := by decide +kernel
theorem dX4_mannerOf_13 : decode cX4_mannerOf 13 = .ok (.iconst 2, 1) := by decide +kernel
theorem dX4_mannerOf_14 : decode cX4_mannerOf 14 = .ok (.ireturn, 1) := by decide +kernel
theorem dX4_mannerOf_15 : decode cX4_mannerOf 15 = .ok (.aload_n 0, 1) := by decide +kernel
theorem dX4_mannerOf_16 : decode cX4_mannerOf 16 = .ok (.iload_n 1, 1) := by decide +kernel
theorem dX4_mannerOf_17 : decode cX4_mannerOf 17 = .ok (.invokevirtual 235, 3) := by decide +kernel
theorem dX4_mannerOf_20 : decode cX4_mannerOf 20 = .ok (.ifCond .eq 11, 3) := by decide +kernel
theorem dX4_mannerOf_23 : decode cX4_mannerOf 23 = .ok (.iload_n 2, 1) := by decide +kernel
theorem dX4_mannerOf_24 : decode cX4_mannerOf 24 = .ok (.ifCond .eq 7, 3) := by decide +kernel
theorem dX4_mannerOf_27 : decode cX4_mannerOf 27 = .ok (.iconst 1, 1) := by decide +kernel
theorem dX4_mannerOf_28 : decode cX4_mannerOf 28 = .ok (.goto 4, 3) := by decide +kernel
theorem dX4_mannerOf_31 : decode cX4_mannerOf 31 = .ok (.iconst 0, 1) := by decide +kernel
theorem dX4_mannerOf_32 : decode cX4_mannerOf 32 = .ok (.ireturn, 1) := by decide +kernel
theorem dX4_errsByDraw_0 : decode cX4_errsByDraw 0 = .ok (.ldc2_w 213, 3) := by decide +kernel
theorem dX4_errsByDraw_3 : decode cX4_errsByDraw 3 = .ok (.aload_n 0, 1) := by decide +kernel
theorem dX4_errsByDraw_4 : decode cX4_errsByDraw 4 = .ok (.getfield 19, 3) := by decide +kernel
theorem dX4_errsByDraw_7 : decode cX4_errsByDraw 7 = .ok (.getfield 238, 3) := by decide +kernel
theorem dX4_errsByDraw_10 : decode cX4_errsByDraw 10 = .ok (.i2l, 1) := by decide +kernel
theorem dX4_errsByDraw_11 : decode cX4_errsByDraw 11 = .ok (.lmul, 1) := by decide +kernel
theorem dX4_errsByDraw_12 : decode cX4_errsByDraw 12 = .ok (.ldc2_w 215, 3) := by decide +kernel
theorem dX4_errsByDraw_15 : decode cX4_errsByDraw 15 = .ok (.iload_n 2, 1) := by decide +kernel
theorem dX4_errsByDraw_16 : decode cX4_errsByDraw 16 = .ok (.i2l, 1) := by decide +kernel
theorem dX4_errsByDraw_17 : decode cX4_errsByDraw 17 = .ok (.lmul, 1) := by decide +kernel
theorem dX4_errsByDraw_18 : decode cX4_errsByDraw 18 = .ok (.ladd, 1) := by decide +kernel
theorem dX4_errsByDraw_19 : decode cX4_errsByDraw 19 = .ok (.ldc2_w 241, 3) := by decide +kernel
theorem dX4_errsByDraw_22 : decode cX4_errsByDraw 22 = .ok (.iload_n 1, 1) := by decide +kernel
theorem dX4_errsByDraw_23 : decode cX4_errsByDraw 23 = .ok (.i2l, 1) := by decide +kernel
theorem dX4_errsByDraw_24 : decode cX4_errsByDraw 24 = .ok (.lmul, 1) := by decide +kernel
theorem dX4_errsByDraw_25 : decode cX4_errsByDraw 25 = .ok (.ladd, 1) := by decide +kernel
theorem dX4_errsByDraw_26 : decode cX4_errsByDraw 26 = .ok (.lconst 1, 1) := by decide +kernel
theorem dX4_errsByDraw_27 : decode cX4_errsByDraw 27 = .ok (.ladd, 1) := by decide +kernel
theorem dX4_errsByDraw_28 : decode cX4_errsByDraw 28 = .ok (.lstore_n 3, 1) := by decide +kernel
theorem dX4_errsByDraw_29 : decode cX4_errsByDraw 29 = .ok (.lload_n 3, 1) := by decide +kernel
theorem dX4_errsByDraw_30 : decode cX4_errsByDraw 30 = .ok (.invokestatic 217, 3) := by decide +kernel
theorem dX4_errsByDraw_33 : decode cX4_errsByDraw 33 = .ok (.bipush 10, 2) := by decide +kernel
theorem dX4_errsByDraw_35 : decode cX4_errsByDraw 35 = .ok (.irem, 1) := by decide +kernel
theorem dX4_errsByDraw_36 : decode cX4_errsByDraw 36 = .ok (.aload_n 0, 1) := by decide +kernel
theorem dX4_errsByDraw_37 : decode cX4_errsByDraw 37 = .ok (.getfield 19, 3) := by decide +kernel
theorem dX4_errsByDraw_40 : decode cX4_errsByDraw 40 = .ok (.getfield 104, 3) := by decide +kernel
theorem dX4_errsByDraw_43 : decode cX4_errsByDraw 43 = .ok (.iload_n 1, 1) := by decide +kernel
theorem dX4_errsByDraw_44 : decode cX4_errsByDraw 44 = .ok (.iaload, 1) := by decide +kernel
theorem dX4_errsByDraw_45 : decode cX4_errsByDraw 45 = .ok (.if_icmp .ge 7, 3) := by decide +kernel
theorem dX4_errsByDraw_48 : decode cX4_errsByDraw 48 = .ok (.iconst 1, 1) := by decide +kernel
theorem dX4_errsByDraw_49 : decode cX4_errsByDraw 49 = .ok (.goto 4, 3) := by decide +kernel
theorem dX4_errsByDraw_52 : decode cX4_errsByDraw 52 = .ok (.iconst 0, 1) := by decide +kernel
theorem dX4_errsByDraw_53 : decode cX4_errsByDraw 53 = .ok (.ireturn, 1) := by decide +kernel
theorem dX4_turnBy_0 : decode cX4_turnBy 0 = .ok (.iload_n 0, 1) := by decide +kernel
theorem dX4_turnBy_1 : decode cX4_turnBy 1 = .ok (.iconst 2, 1) := by decide +kernel
theorem dX4_turnBy_2 : decode cX4_turnBy 2 = .ok (.if_icmp .ne 5, 3) := by decide +kernel
theorem dX4_turnBy_5 : decode cX4_turnBy 5 = .ok (.iload_n 2, 1) := by decide +kernel
theorem dX4_turnBy_6 : decode cX4_turnBy 6 = .ok (.ireturn, 1) := by decide +kernel
theorem dX4_turnBy_7 : decode cX4_turnBy 7 = .ok (.iload_n 0, 1) := by decide +kernel
theorem dX4_turnBy_8 : decode cX4_turnBy 8 = .ok (.iconst 1, 1) := by decide +kernel
theorem dX4_turnBy_9 : decode cX4_turnBy 9 = .ok (.if_icmp .ne 9, 3) := by decide +kernel
theorem dX4_turnBy_12 : decode cX4_turnBy 12 = .ok (.iconst 4, 1) := by decide +kernel
theorem dX4_turnBy_13 : decode cX4_turnBy 13 = .ok (.iload_n 1, 1) := by decide +kernel
theorem dX4_turnBy_14 : decode cX4_turnBy 14 = .ok (.isub, 1) := by decide +kernel
theorem dX4_turnBy_15 : decode cX4_turnBy 15 = .ok (.goto 4, 3) := by decide +kernel
theorem dX4_turnBy_18 : decode cX4_turnBy 18 = .ok (.iload_n 1, 1) := by decide +kernel
theorem dX4_turnBy_19 : decode cX4_turnBy 19 = .ok (.ireturn, 1) := by decide +kernel
theorem dX4_say_0 : decode cX4_say 0 = .ok (.getstatic 186, 3) := by decide +kernel
theorem dX4_say_3 : decode cX4_say 3 = .ok (.iload_n 2, 1) := by decide +kernel
theorem dX4_say_4 : decode cX4_say 4 = .ok (.iaload, 1) := by decide +kernel
theorem dX4_say_5 : decode cX4_say 5 = .ok (.istore_n 3, 1) := by decide +kernel
theorem dX4_say_6 : decode cX4_say 6 = .ok (.iconst 0, 1) := by decide +kernel
theorem dX4_say_7 : decode cX4_say 7 = .ok (.istore 4, 2) := by decide +kernel
theorem dX4_say_9 : decode cX4_say 9 = .ok (.iload 4, 2) := by decide +kernel
theorem dX4_say_11 : decode cX4_say 11 = .ok (.aload_n 0, 1) := by decide +kernel
theorem dX4_say_12 : decode cX4_say 12 = .ok (.getfield 19, 3) := by decide +kernel
theorem dX4_say_15 : decode cX4_say 15 = .ok (.getfield 88, 3) := by decide +kernel
theorem dX4_say_18 : decode cX4_say 18 = .ok (.if_icmp .ge 87, 3) := by decide +kernel
theorem dX4_say_21 : decode cX4_say 21 = .ok (.aload_n 0, 1) := by decide +kernel
theorem dX4_say_22 : decode cX4_say 22 = .ok (.aload_n 0, 1) := by decide +kernel
theorem dX4_say_23 : decode cX4_say 23 = .ok (.getfield 48, 3) := by decide +kernel
theorem dX4_say_26 : decode cX4_say 26 = .ok (.iload 4, 2) := by decide +kernel
theorem dX4_say_28 : decode cX4_say 28 = .ok (.iaload, 1) := by decide +kernel
theorem dX4_say_29 : decode cX4_say 29 = .ok (.aload_n 1, 1) := by decide +kernel
theorem dX4_say_30 : decode cX4_say 30 = .ok (.getfield 114, 3) := by decide +kernel
theorem dX4_say_33 : decode cX4_say 33 = .ok (.invokevirtual 243, 3) := by decide +kernel
theorem dX4_say_36 : decode cX4_say 36 = .ok (.istore 5, 2) := by decide +kernel
theorem dX4_say_38 : decode cX4_say 38 = .ok (.aload_n 0, 1) := by decide +kernel
theorem dX4_say_39 : decode cX4_say 39 = .ok (.aload_n 0, 1) := by decide +kernel
theorem dX4_say_40 : decode cX4_say 40 = .ok (.getfield 48, 3) := by decide +kernel
theorem dX4_say_43 : decode cX4_say 43 = .ok (.iload 4, 2) := by decide +kernel
theorem dX4_say_45 : decode cX4_say 45 = .ok (.iaload, 1) := by decide +kernel
theorem dX4_say_46 : decode cX4_say 46 = .ok (.iload 5, 2) := by decide +kernel
theorem dX4_say_48 : decode cX4_say 48 = .ok (.invokevirtual 246, 3) := by decide +kernel
theorem dX4_say_51 : decode cX4_say 51 = .ok (.iload_n 3, 1) := by decide +kernel
theorem dX4_say_52 : decode cX4_say 52 = .ok (.aload_n 1, 1) := by decide +kernel
theorem dX4_say_53 : decode cX4_say 53 = .ok (.getfield 250, 3) := by decide +kernel
theorem dX4_say_56 : decode cX4_say 56 = .ok (.invokestatic 253, 3) := by decide +kernel
theorem dX4_say_59 : decode cX4_say 59 = .ok (.istore 6, 2) := by decide +kernel
theorem dX4_say_61 : decode cX4_say 61 = .ok (.aload_n 1, 1) := by decide +kernel
theorem dX4_say_62 : decode cX4_say 62 = .ok (.getfield 98, 3) := by decide +kernel
theorem dX4_say_65 : decode cX4_say 65 = .ok (.iload 4, 2) := by decide +kernel
theorem dX4_say_67 : decode cX4_say 67 = .ok (.aload_n 1, 1) := by decide +kernel
theorem dX4_say_68 : decode cX4_say 68 = .ok (.getfield 98, 3) := by decide +kernel
theorem dX4_say_71 : decode cX4_say 71 = .ok (.iload 4, 2) := by decide +kernel
theorem dX4_say_73 : decode cX4_say 73 = .ok (.iaload, 1) := by decide +kernel
theorem dX4_say_74 : decode cX4_say 74 = .ok (.iload 6, 2) := by decide +kernel
theorem dX4_say_76 : decode cX4_say 76 = .ok (.iadd, 1) := by decide +kernel
theorem dX4_say_77 : decode cX4_say 77 = .ok (.iconst 4, 1) := by decide +kernel
theorem dX4_say_78 : decode cX4_say 78 = .ok (.irem, 1) := by decide +kernel
theorem dX4_say_79 : decode cX4_say 79 = .ok (.iastore, 1) := by decide +kernel
theorem dX4_say_80 : decode cX4_say 80 = .ok (.iload 6, 2) := by decide +kernel
theorem dX4_say_82 : decode cX4_say 82 = .ok (.iload_n 3, 1) := by decide +kernel
theorem dX4_say_83 : decode cX4_say 83 = .ok (.if_icmp .eq 16, 3) := by decide +kernel
theorem dX4_say_86 : decode cX4_say 86 = .ok (.aload_n 1, 1) := by decide +kernel
theorem dX4_say_87 : decode cX4_say 87 = .ok (.dup, 1) := by decide +kernel
theorem dX4_say_88 : decode cX4_say 88 = .ok (.getfield 158, 3) := by decide +kernel
theorem dX4_say_91 : decode cX4_say 91 = .ok (.iconst 1, 1) := by decide +kernel
theorem dX4_say_92 : decode cX4_say 92 = .ok (.iload 4, 2) := by decide +kernel
theorem dX4_say_94 : decode cX4_say 94 = .ok (.ishl, 1) := by decide +kernel
theorem dX4_say_95 : decode cX4_say 95 = .ok (.ior, 1) := by decide +kernel
theorem dX4_say_96 : decode cX4_say 96 = .ok (.putfield 158, 3) := by decide +kernel
theorem dX4_say_99 : decode cX4_say 99 = .ok (.iinc 4 1, 3) := by decide +kernel
theorem dX4_say_102 : decode cX4_say 102 = .ok (.goto (-93), 3) := by decide +kernel
theorem dX4_say_105 : decode cX4_say 105 = .ok (.aload_n 1, 1) := by decide +kernel
theorem dX4_say_106 : decode cX4_say 106 = .ok (.dup, 1) := by decide +kernel
theorem dX4_say_107 : decode cX4_say 107 = .ok (.getfield 114, 3) := by decide +kernel
theorem dX4_say_110 : decode cX4_say 110 = .ok (.iconst 1, 1) := by decide +kernel
theorem dX4_say_111 : decode cX4_say 111 = .ok (.iadd, 1) := by decide +kernel
theorem dX4_say_112 : decode cX4_say 112 = .ok (.putfield 114, 3) := by decide +kernel
theorem dX4_say_115 : decode cX4_say 115 = .ok (.aload_n 1, 1) := by decide +kernel
theorem dX4_say_116 : decode cX4_say 116 = .ok (.iload_n 3, 1) := by decide +kernel
theorem dX4_say_117 : decode cX4_say 117 = .ok (.putfield 250, 3) := by decide +kernel
theorem dX4_say_120 : decode cX4_say 120 = .ok (.aload_n 1, 1) := by decide +kernel
theorem dX4_say_121 : decode cX4_say 121 = .ok (.aload_n 1, 1) := by decide +kernel
theorem dX4_say_122 : decode cX4_say 122 = .ok (.getfield 256, 3) := by decide +kernel
theorem dX4_say_125 : decode cX4_say 125 = .ok (.iload_n 3, 1) := by decide +kernel
theorem dX4_say_126 : decode cX4_say 126 = .ok (.iadd, 1) := by decide +kernel
theorem dX4_say_127 : decode cX4_say 127 = .ok (.iconst 4, 1) := by decide +kernel
theorem dX4_say_128 : decode cX4_say 128 = .ok (.irem, 1) := by decide +kernel
theorem dX4_say_129 : decode cX4_say 129 = .ok (.putfield 256, 3) := by decide +kernel
theorem dX4_say_132 : decode cX4_say 132 = .ok (.return_, 1) := by decide +kernel
theorem dX4_dueFacing_0 : decode cX4_dueFacing 0 = .ok (.aload_n 0, 1) := by decide +kernel
theorem dX4_dueFacing_1 : decode cX4_dueFacing 1 = .ok (.getfield 19, 3) := by decide +kernel
theorem dX4_dueFacing_4 : decode cX4_dueFacing 4 = .ok (.getfield 259, 3) := by decide +kernel
theorem dX4_dueFacing_7 : decode cX4_dueFacing 7 = .ok (.iload_n 2, 1) := by decide +kernel
theorem dX4_dueFacing_8 : decode cX4_dueFacing 8 = .ok (.iaload, 1) := by decide +kernel
theorem dX4_dueFacing_9 : decode cX4_dueFacing 9 = .ok (.aload_n 1, 1) := by decide +kernel
theorem dX4_dueFacing_10 : decode cX4_dueFacing 10 = .ok (.getfield 256, 3) := by decide +kernel
theorem dX4_dueFacing_13 : decode cX4_dueFacing 13 = .ok (.iadd, 1) := by decide +kernel
theorem dX4_dueFacing_14 : decode cX4_dueFacing 14 = .ok (.iconst 4, 1) := by decide +kernel
theorem dX4_dueFacing_15 : decode cX4_dueFacing 15 = .ok (.irem, 1) := by decide +kernel
theorem dX4_dueFacing_16 : decode cX4_dueFacing 16 = .ok (.ireturn, 1) := by decide +kernel
theorem dX4_wrongMen_0 : decode cX4_wrongMen 0 = .ok (.iconst 0, 1) := by decide +kernel
theorem dX4_wrongMen_1 : decode cX4_wrongMen 1 = .ok (.istore_n 2, 1) := by decide +kernel
theorem dX4_wrongMen_2 : decode cX4_wrongMen 2 = .ok (.iconst 0, 1) := by decide +kernel
theorem dX4_wrongMen_3 : decode cX4_wrongMen 3 = .ok (.istore_n 3, 1) := by decide +kernel
theorem dX4_wrongMen_4 : decode cX4_wrongMen 4 = .ok (.iload_n 3, 1) := by decide +kernel
theorem dX4_wrongMen_5 : decode cX4_wrongMen 5 = .ok (.aload_n 0, 1) := by decide +kernel
theorem dX4_wrongMen_6 : decode cX4_wrongMen 6 = .ok (.getfield 19, 3) := by decide +kernel
theorem dX4_wrongMen_9 : decode cX4_wrongMen 9 = .ok (.getfield 88, 3) := by decide +kernel
theorem dX4_wrongMen_12 : decode cX4_wrongMen 12 = .ok (.if_icmp .ge 30, 3) := by decide +kernel
theorem dX4_wrongMen_15 : decode cX4_wrongMen 15 = .ok (.aload_n 1, 1) := by decide +kernel
theorem dX4_wrongMen_16 : decode cX4_wrongMen 16 = .ok (.getfield 98, 3) := by decide +kernel
theorem dX4_wrongMen_19 : decode cX4_wrongMen 19 = .ok (.iload_n 3, 1) := by decide +kernel
theorem dX4_wrongMen_20 : decode cX4_wrongMen 20 = .ok (.iaload, 1) := by decide +kernel
theorem dX4_wrongMen_21 : decode cX4_wrongMen 21 = .ok (.aload_n 0, 1) := by decide +kernel
theorem dX4_wrongMen_22 : decode cX4_wrongMen 22 = .ok (.aload_n 1, 1) := by decide +kernel
theorem dX4_wrongMen_23 : decode cX4_wrongMen 23 = .ok (.iload_n 3, 1) := by decide +kernel
theorem dX4_wrongMen_24 : decode cX4_wrongMen 24 = .ok (.invokevirtual 107, 3) := by decide +kernel
theorem dX4_wrongMen_27 : decode cX4_wrongMen 27 = .ok (.if_icmp .eq 9, 3) := by decide +kernel
theorem dX4_wrongMen_30 : decode cX4_wrongMen 30 = .ok (.iload_n 2, 1) := by decide +kernel
theorem dX4_wrongMen_31 : decode cX4_wrongMen 31 = .ok (.iconst 1, 1) := by decide +kernel
theorem dX4_wrongMen_32 : decode cX4_wrongMen 32 = .ok (.iload_n 3, 1) := by decide +kernel
theorem dX4_wrongMen_33 : decode cX4_wrongMen 33 = .ok (.ishl, 1) := by decide +kernel
theorem dX4_wrongMen_34 : decode cX4_wrongMen 34 = .ok (.ior, 1) := by decide +kernel
theorem dX4_wrongMen_35 : decode cX4_wrongMen 35 = .ok (.istore_n 2, 1) := by decide +kernel
theorem dX4_wrongMen_36 : decode cX4_wrongMen 36 = .ok (.iinc 3 1, 3) := by decide +kernel
theorem dX4_wrongMen_39 : decode cX4_wrongMen 39 = .ok (.goto (-35), 3) := by decide +kernel
theorem dX4_wrongMen_42 : decode cX4_wrongMen 42 = .ok (.iload_n 2, 1) := by decide +kernel
theorem dX4_wrongMen_43 : decode cX4_wrongMen 43 = .ok (.ireturn, 1) := by decide +kernel
theorem dX4_menFacing_0 : decode cX4_menFacing 0 = .ok (.iconst 0, 1) := by decide +kernel
theorem dX4_menFacing_1 : decode cX4_menFacing 1 = .ok (.istore_n 2, 1) := by decide +kernel
theorem dX4_menFacing_2 : decode cX4_menFacing 2 = .ok (.iconst 0, 1) := by decide +kernel
theorem dX4_menFacing_3 : decode cX4_menFacing 3 = .ok (.istore_n 3, 1) := by decide +kernel
theorem dX4_menFacing_4 : decode cX4_menFacing 4 = .ok (.iload_n 3, 1) := by decide +kernel
theorem dX4_menFacing_5 : decode cX4_menFacing 5 = .ok (.aload_n 0, 1) := by decide +kernel
theorem dX4_menFacing_6 : decode cX4_menFacing 6 = .ok (.getfield 19, 3) := by decide +kernel
theorem dX4_menFacing_9 : decode cX4_menFacing 9 = .ok (.getfield 88, 3) := by decide +kernel
theorem dX4_menFacing_12 : decode cX4_menFacing 12 = .ok (.if_icmp .ge 25, 3) := by decide +kernel
theorem dX4_menFacing_15 : decode cX4_menFacing 15 = .ok (.aload_n 0, 1) := by decide +kernel
theorem dX4_menFacing_16 : decode cX4_menFacing 16 = .ok (.getfield 29, 3) := by decide +kernel
theorem dX4_menFacing_19 : decode cX4_menFacing 19 = .ok (.getfield 98, 3) := by decide +kernel
theorem dX4_menFacing_22 : decode cX4_menFacing 22 = .ok (.iload_n 3, 1) := by decide +kernel
theorem dX4_menFacing_23 : decode cX4_menFacing 23 = .ok (.iaload, 1) := by decide +kernel
theorem dX4_menFacing_24 : decode cX4_menFacing 24 = .ok (.iload_n 1, 1) := by decide +kernel
theorem dX4_menFacing_25 : decode cX4_menFacing 25 = .ok (.if_icmp .ne 6, 3) := by decide +kernel
theorem dX4_menFacing_28 : decode cX4_menFacing 28 = .ok (.iinc 2 1, 3) := by decide +kernel
theorem dX4_menFacing_31 : decode cX4_menFacing 31 = .ok (.iinc 3 1, 3) := by decide +kernel
theorem dX4_menFacing_34 : decode cX4_menFacing 34 = .ok (.goto (-30), 3) := by decide +kernel
theorem dX4_menFacing_37 : decode cX4_menFacing 37 = .ok (.iload_n 2, 1) := by decide +kernel
theorem dX4_menFacing_38 : decode cX4_menFacing 38 = .ok (.ireturn, 1) := by decide +kernel
theorem dX4_isAlike_0 : decode cX4_isAlike 0 = .ok (.iconst 1, 1) := by decide +kernel
theorem dX4_isAlike_1 : decode cX4_isAlike 1 = .ok (.istore_n 2, 1) := by decide +kernel
theorem dX4_isAlike_2 : decode cX4_isAlike 2 = .ok (.iload_n 2, 1) := by decide +kernel
theorem dX4_isAlike_3 : decode cX4_isAlike 3 = .ok (.aload_n 0, 1) := by decide +kernel
theorem dX4_isAlike_4 : decode cX4_isAlike 4 = .ok (.getfield 19, 3) := by decide +kernel
theorem dX4_isAlike_7 : decode cX4_isAlike 7 = .ok (.getfield 88, 3) := by decide +kernel
theorem dX4_isAlike_10 : decode cX4_isAlike 10 = .ok (.if_icmp .ge 26, 3) := by decide +kernel
theorem dX4_isAlike_13 : decode cX4_isAlike 13 = .ok (.aload_n 1, 1) := by decide +kernel
theorem dX4_isAlike_14 : decode cX4_isAlike 14 = .ok (.getfield 98, 3) := by decide +kernel
theorem dX4_isAlike_17 : decode cX4_isAlike 17 = .ok (.iload_n 2, 1) := by decide +kernel
theorem dX4_isAlike_18 : decode cX4_isAlike 18 = .ok (.iaload, 1) := by decide +kernel
theorem dX4_isAlike_19 : decode cX4_isAlike 19 = .ok (.aload_n 1, 1) := by decide +kernel
theorem dX4_isAlike_20 : decode cX4_isAlike 20 = .ok (.getfield 98, 3) := by decide +kernel
theorem dX4_isAlike_23 : decode cX4_isAlike 23 = .ok (.iconst 0, 1) := by decide +kernel
theorem dX4_isAlike_24 : decode cX4_isAlike 24 = .ok (.iaload, 1) := by decide +kernel
theorem dX4_isAlike_25 : decode cX4_isAlike 25 = .ok (.if_icmp .eq 5, 3) := by decide +kernel
theorem dX4_isAlike_28 : decode cX4_isAlike 28 = .ok (.iconst 0, 1) := by decide +kernel
theorem dX4_isAlike_29 : decode cX4_isAlike 29 = .ok (.ireturn, 1) := by decide +kernel
theorem dX4_isAlike_30 : decode cX4_isAlike 30 = .ok (.iinc 2 1, 3) := by decide +kernel
theorem dX4_isAlike_33 : decode cX4_isAlike 33 = .ok (.goto (-31), 3) := by decide +kernel
theorem dX4_isAlike_36 : decode cX4_isAlike 36 = .ok (.iconst 1, 1) := by decide +kernel
theorem dX4_isAlike_37 : decode cX4_isAlike 37 = .ok (.ireturn, 1) := by decide +kernel
theorem dX4_findManners_0 : decode cX4_findManners 0 = .ok (.aload_n 0, 1) := by decide +kernel
theorem dX4_findManners_1 : decode cX4_findManners 1 = .ok (.invokevirtual 121, 3) := by decide +kernel
theorem dX4_findManners_4 : decode cX4_findManners 4 = .ok (.iconst 0, 1) := by decide +kernel
theorem dX4_findManners_5 : decode cX4_findManners 5 = .ok (.istore_n 1, 1) := by decide +kernel
theorem dX4_findManners_6 : decode cX4_findManners 6 = .ok (.iload_n 1, 1) := by decide +kernel
theorem dX4_findManners_7 : decode cX4_findManners 7 = .ok (.aload_n 0, 1) := by decide +kernel
theorem dX4_findManners_8 : decode cX4_findManners 8 = .ok (.getfield 19, 3) := by decide +kernel
theorem dX4_findManners_11 : decode cX4_findManners 11 = .ok (.getfield 88, 3) := by decide +kernel
theorem dX4_findManners_14 : decode cX4_findManners 14 = .ok (.if_icmp .ge 48, 3) := by decide +kernel
theorem dX4_findManners_17 : decode cX4_findManners 17 = .ok (.aload_n 0, 1) := by decide +kernel
theorem dX4_findManners_18 : decode cX4_findManners 18 = .ok (.getfield 52, 3) := by decide +kernel
theorem dX4_findManners_21 : decode cX4_findManners 21 = .ok (.iload_n 1, 1) := by decide +kernel
theorem dX4_findManners_22 : decode cX4_findManners 22 = .ok (.aload_n 0, 1) := by decide +kernel
theorem dX4_findManners_23 : decode cX4_findManners 23 = .ok (.aload_n 0, 1) := by decide +kernel
theorem dX4_findManners_24 : decode cX4_findManners 24 = .ok (.getfield 48, 3) := by decide +kernel
theorem dX4_findManners_27 : decode cX4_findManners 27 = .ok (.iload_n 1, 1) := by decide +kernel
theorem dX4_findManners_28 : decode cX4_findManners 28 = .ok (.iaload, 1) := by decide +kernel
theorem dX4_findManners_29 : decode cX4_findManners 29 = .ok (.aload_n 0, 1) := by decide +kernel
theorem dX4_findManners_30 : decode cX4_findManners 30 = .ok (.getfield 19, 3) := by decide +kernel
theorem dX4_findManners_33 : decode cX4_findManners 33 = .ok (.getfield 104, 3) := by decide +kernel
theorem dX4_findManners_36 : decode cX4_findManners 36 = .ok (.aload_n 0, 1) := by decide +kernel
theorem dX4_findManners_37 : decode cX4_findManners 37 = .ok (.getfield 48, 3) := by decide +kernel
theorem dX4_findManners_40 : decode cX4_findManners 40 = .ok (.iload_n 1, 1) := by decide +kernel
theorem dX4_findManners_41 : decode cX4_findManners 41 = .ok (.iaload, 1) := by decide +kernel
theorem dX4_findManners_42 : decode cX4_findManners 42 = .ok (.iaload, 1) := by decide +kernel
theorem dX4_findManners_43 : decode cX4_findManners 43 = .ok (.iconst 5, 1) := by decide +kernel
theorem dX4_findManners_44 : decode cX4_findManners 44 = .ok (.if_icmp .lt 7, 3) := by decide +kernel
theorem dX4_findManners_47 : decode cX4_findManners 47 = .ok (.iconst 1, 1) := by decide +kernel
theorem dX4_findManners_48 : decode cX4_findManners 48 = .ok (.goto 4, 3) := by decide +kernel
theorem dX4_findManners_51 : decode cX4_findManners 51 = .ok (.iconst 0, 1) := by decide +kernel
theorem dX4_findManners_52 : decode cX4_findManners 52 = .ok (.invokevirtual 246, 3) := by decide +kernel
theorem dX4_findManners_55 : decode cX4_findManners 55 = .ok (.iastore, 1) := by decide +kernel
theorem dX4_findManners_56 : decode cX4_findManners 56 = .ok (.iinc 1 1, 3) := by decide +kernel
theorem dX4_findManners_59 : decode cX4_findManners 59 = .ok (.goto (-53), 3) := by decide +kernel
theorem dX4_findManners_62 : decode cX4_findManners 62 = .ok (.return_, 1) := by decide +kernel
theorem dX4_facingBy_0 : decode cX4_facingBy 0 = .ok (.aload_n 0, 1) := by decide +kernel
theorem dX4_facingBy_1 : decode cX4_facingBy 1 = .ok (.getfield 29, 3) := by decide +kernel
theorem dX4_facingBy_4 : decode cX4_facingBy 4 = .ok (.getfield 98, 3) := by decide +kernel
theorem dX4_facingBy_7 : decode cX4_facingBy 7 = .ok (.iload_n 1, 1) := by decide +kernel
theorem dX4_facingBy_8 : decode cX4_facingBy 8 = .ok (.iaload, 1) := by decide +kernel
theorem dX4_facingBy_9 : decode cX4_facingBy 9 = .ok (.iload_n 2, 1) := by decide +kernel
theorem dX4_facingBy_10 : decode cX4_facingBy 10 = .ok (.iload_n 3, 1) := by decide +kernel
theorem dX4_facingBy_11 : decode cX4_facingBy 11 = .ok (.aload_n 0, 1) := by decide +kernel
theorem dX4_facingBy_12 : decode cX4_facingBy 12 = .ok (.getfield 29, 3) := by decide +kernel
theorem dX4_facingBy_15 : decode cX4_facingBy 15 = .ok (.getfield 250, 3) := by decide +kernel
theorem dX4_facingBy_18 : decode cX4_facingBy 18 = .ok (.invokestatic 253, 3) := by decide +kernel
theorem dX4_facingBy_21 : decode cX4_facingBy 21 = .ok (.iadd, 1) := by decide +kernel
theorem dX4_facingBy_22 : decode cX4_facingBy 22 = .ok (.iconst 4, 1) := by decide +kernel
theorem dX4_facingBy_23 : decode cX4_facingBy 23 = .ok (.irem, 1) := by decide +kernel
theorem dX4_facingBy_24 : decode cX4_facingBy 24 = .ok (.ireturn, 1) := by decide +kernel
theorem dX4_facingForeseen_0 : decode cX4_facingForeseen 0 = .ok (.aload_n 0, 1) := by decide +kernel
theorem dX4_facingForeseen_1 : decode cX4_facingForeseen 1 = .ok (.iload_n 1, 1) := by decide +kernel
theorem dX4_facingForeseen_2 : decode cX4_facingForeseen 2 = .ok (.aload_n 0, 1) := by decide +kernel
theorem dX4_facingForeseen_3 : decode cX4_facingForeseen 3 = .ok (.getfield 52, 3) := by decide +kernel
theorem dX4_facingForeseen_6 : decode cX4_facingForeseen 6 = .ok (.iload_n 1, 1) := by decide +kernel
theorem dX4_facingForeseen_7 : decode cX4_facingForeseen 7 = .ok (.iaload, 1) := by decide +kernel
theorem dX4_facingForeseen_8 : decode cX4_facingForeseen 8 = .ok (.getstatic 186, 3) := by decide +kernel
theorem dX4_facingForeseen_11 : decode cX4_facingForeseen 11 = .ok (.iload_n 2, 1) := by decide +kernel
theorem dX4_facingForeseen_12 : decode cX4_facingForeseen 12 = .ok (.iaload, 1) := by decide +kernel
theorem dX4_facingForeseen_13 : decode cX4_facingForeseen 13 = .ok (.invokevirtual 198, 3) := by decide +kernel
theorem dX4_facingForeseen_16 : decode cX4_facingForeseen 16 = .ok (.ireturn, 1) := by decide +kernel
theorem dX4_firstRowAlike_0 : decode cX4_firstRowAlike 0 = .ok (.iconst 0, 1) := by decide +kernel
theorem dX4_firstRowAlike_1 : decode cX4_firstRowAlike 1 = .ok (.istore_n 2, 1) := by decide +kernel
theorem dX4_firstRowAlike_2 : decode cX4_firstRowAlike 2 = .ok (.iload_n 2, 1) := by decide +kernel
theorem dX4_firstRowAlike_3 : decode cX4_firstRowAlike 3 = .ok (.getstatic 204, 3) := by decide +kernel
theorem dX4_firstRowAlike_6 : decode cX4_firstRowAlike 6 = .ok (.iload_n 1, 1) := by decide +kernel
theorem dX4_firstRowAlike_7 : decode cX4_firstRowAlike 7 = .ok (.iaload, 1) := by decide +kernel
theorem dX4_firstRowAlike_8 : decode cX4_firstRowAlike 8 = .ok (.if_icmp .ge 20, 3) := by decide +kernel
theorem dX4_firstRowAlike_11 : decode cX4_firstRowAlike 11 = .ok (.aload_n 0, 1) := by decide +kernel
theorem dX4_firstRowAlike_12 : decode cX4_firstRowAlike 12 = .ok (.iload_n 2, 1) := by decide +kernel
theorem dX4_firstRowAlike_13 : decode cX4_firstRowAlike 13 = .ok (.iload_n 1, 1) := by decide +kernel
theorem dX4_firstRowAlike_14 : decode cX4_firstRowAlike 14 = .ok (.invokevirtual 207, 3) := by decide +kernel
theorem dX4_firstRowAlike_17 : decode cX4_firstRowAlike 17 = .ok (.ifCond .eq 5, 3) := by decide +kernel
theorem dX4_firstRowAlike_20 : decode cX4_firstRowAlike 20 = .ok (.iload_n 2, 1) := by decide +kernel
theorem dX4_firstRowAlike_21 : decode cX4_firstRowAlike 21 = .ok (.ireturn, 1) := by decide +kernel
theorem dX4_firstRowAlike_22 : decode cX4_firstRowAlike 22 = .ok (.iinc 2 1, 3) := by decide +kernel
theorem dX4_firstRowAlike_25 : decode cX4_firstRowAlike 25 = .ok (.goto (-23), 3) := by decide +kernel
theorem dX4_firstRowAlike_28 : decode cX4_firstRowAlike 28 = .ok (.bipush (-4), 2) := by decide +kernel
theorem dX4_firstRowAlike_30 : decode cX4_firstRowAlike 30 = .ok (.ireturn, 1) := by decide +kernel
theorem dX4_wordOfRow_0 : decode cX4_wordOfRow 0 = .ok (.iload_n 2, 1) := by decide +kernel
theorem dX4_wordOfRow_1 : decode cX4_wordOfRow 1 = .ok (.iload_n 1, 1) := by decide +kernel
theorem dX4_wordOfRow_2 : decode cX4_wordOfRow 2 = .ok (.if_icmp .lt 6, 3) := by decide +kernel
theorem dX4_wordOfRow_5 : decode cX4_wordOfRow 5 = .ok (.bipush (-4), 2) := by decide +kernel
theorem dX4_wordOfRow_7 : decode cX4_wordOfRow 7 = .ok (.ireturn, 1) := by decide +kernel
theorem dX4_wordOfRow_8 : decode cX4_wordOfRow 8 = .ok (.iload_n 0, 1) := by decide +kernel
theorem dX4_wordOfRow_9 : decode cX4_wordOfRow 9 = .ok (.istore_n 3, 1) := by decide +kernel
theorem dX4_wordOfRow_10 : decode cX4_wordOfRow 10 = .ok (.iload_n 1, 1) := by decide +kernel
theorem dX4_wordOfRow_11 : decode cX4_wordOfRow 11 = .ok (.iconst 1, 1) := by decide +kernel
theorem dX4_wordOfRow_12 : decode cX4_wordOfRow 12 = .ok (.isub, 1) := by decide +kernel
theorem dX4_wordOfRow_13 : decode cX4_wordOfRow 13 = .ok (.istore 4, 2) := by decide +kernel
theorem dX4_wordOfRow_15 : decode cX4_wordOfRow 15 = .ok (.iload 4, 2) := by decide +kernel
theorem dX4_wordOfRow_17 : decode cX4_wordOfRow 17 = .ok (.iload_n 2, 1) := by decide +kernel
theorem dX4_wordOfRow_18 : decode cX4_wordOfRow 18 = .ok (.if_icmp .le 13, 3) := by decide +kernel
theorem dX4_wordOfRow_21 : decode cX4_wordOfRow 21 = .ok (.iload_n 3, 1) := by decide +kernel
theorem dX4_wordOfRow_22 : decode cX4_wordOfRow 22 = .ok (.iconst 3, 1) := by decide +kernel
theorem dX4_wordOfRow_23 : decode cX4_wordOfRow 23 = .ok (.idiv, 1) := by decide +kernel
theorem dX4_wordOfRow_24 : decode cX4_wordOfRow 24 = .ok (.istore_n 3, 1) := by decide +kernel
theorem dX4_wordOfRow_25 : decode cX4_wordOfRow 25 = .ok (.iinc 4 (-1), 3) := by decide +kernel
theorem dX4_wordOfRow_28 : decode cX4_wordOfRow 28 = .ok (.goto (-13), 3) := by decide +kernel
theorem dX4_wordOfRow_31 : decode cX4_wordOfRow 31 = .ok (.iload_n 3, 1) := by decide +kernel
theorem dX4_wordOfRow_32 : decode cX4_wordOfRow 32 = .ok (.iconst 3, 1) := by decide +kernel
theorem dX4_wordOfRow_33 : decode cX4_wordOfRow 33 = .ok (.irem, 1) := by decide +kernel
theorem dX4_wordOfRow_34 : decode cX4_wordOfRow 34 = .ok (.ireturn, 1) := by decide +kernel
theorem dX4_isRowAlike_0 : decode cX4_isRowAlike 0 = .ok (.aload_n 0, 1) := by decide +kernel
theorem dX4_isRowAlike_1 : decode cX4_isRowAlike 1 = .ok (.iload_n 1, 1) := by decide +kernel
theorem dX4_isRowAlike_2 : decode cX4_isRowAlike 2 = .ok (.iload_n 2, 1) := by decide +kernel
theorem dX4_isRowAlike_3 : decode cX4_isRowAlike 3 = .ok (.invokevirtual 260, 3) := by decide +kernel
theorem dX4_isRowAlike_6 : decode cX4_isRowAlike 6 = .ok (.aload_n 0, 1) := by decide +kernel
theorem dX4_isRowAlike_7 : decode cX4_isRowAlike 7 = .ok (.getfield 29, 3) := by decide +kernel
theorem dX4_isRowAlike_10 : decode cX4_isRowAlike 10 = .ok (.getfield 98, 3) := by decide +kernel
theorem dX4_isRowAlike_13 : decode cX4_isRowAlike 13 = .ok (.iconst 0, 1) := by decide +kernel
theorem dX4_isRowAlike_14 : decode cX4_isRowAlike 14 = .ok (.iaload, 1) := by decide +kernel
theorem dX4_isRowAlike_15 : decode cX4_isRowAlike 15 = .ok (.aload_n 0, 1) := by decide +kernel
theorem dX4_isRowAlike_16 : decode cX4_isRowAlike 16 = .ok (.getfield 55, 3) := by decide +kernel
theorem dX4_isRowAlike_19 : decode cX4_isRowAlike 19 = .ok (.aload_n 0, 1) := by decide +kernel
theorem dX4_isRowAlike_20 : decode cX4_isRowAlike 20 = .ok (.getfield 52, 3) := by decide +kernel
theorem dX4_isRowAlike_23 : decode cX4_isRowAlike 23 = .ok (.iconst 0, 1) := by decide +kernel
theorem dX4_isRowAlike_24 : decode cX4_isRowAlike 24 = .ok (.iaload, 1) := by decide +kernel
theorem dX4_isRowAlike_25 : decode cX4_isRowAlike 25 = .ok (.iaload, 1) := by decide +kernel
theorem dX4_isRowAlike_26 : decode cX4_isRowAlike 26 = .ok (.iadd, 1) := by decide +kernel
theorem dX4_isRowAlike_27 : decode cX4_isRowAlike 27 = .ok (.iconst 4, 1) := by decide +kernel
theorem dX4_isRowAlike_28 : decode cX4_isRowAlike 28 = .ok (.irem, 1) := by decide +kernel
theorem dX4_isRowAlike_29 : decode cX4_isRowAlike 29 = .ok (.istore_n 3, 1) := by decide +kernel
theorem dX4_isRowAlike_30 : decode cX4_isRowAlike 30 = .ok (.iconst 1, 1) := by decide +kernel
theorem dX4_isRowAlike_31 : decode cX4_isRowAlike 31 = .ok (.istore 4, 2) := by decide +kernel
theorem dX4_isRowAlike_33 : decode cX4_isRowAlike 33 = .ok (.iload 4, 2) := by decide +kernel
theorem dX4_isRowAlike_35 : decode cX4_isRowAlike 35 = .ok (.aload_n 0, 1) := by decide +kernel
theorem dX4_isRowAlike_36 : decode cX4_isRowAlike 36 = .ok (.getfield 19, 3) := by decide +kernel
theorem dX4_isRowAlike_39 : decode cX4_isRowAlike 39 = .ok (.getfield 88, 3) := by decide +kernel
theorem dX4_isRowAlike_42 : decode cX4_isRowAlike 42 = .ok (.if_icmp .ge 40, 3) := by decide +kernel
theorem dX4_isRowAlike_45 : decode cX4_isRowAlike 45 = .ok (.aload_n 0, 1) := by decide +kernel
theorem dX4_isRowAlike_46 : decode cX4_isRowAlike 46 = .ok (.getfield 29, 3) := by decide +kernel
theorem dX4_isRowAlike_49 : decode cX4_isRowAlike 49 = .ok (.getfield 98, 3) := by decide +kernel
theorem dX4_isRowAlike_52 : decode cX4_isRowAlike 52 = .ok (.iload 4, 2) := by decide +kernel
theorem dX4_isRowAlike_54 : decode cX4_isRowAlike 54 = .ok (.iaload, 1) := by decide +kernel
theorem dX4_isRowAlike_55 : decode cX4_isRowAlike 55 = .ok (.aload_n 0, 1) := by decide +kernel
theorem dX4_isRowAlike_56 : decode cX4_isRowAlike 56 = .ok (.getfield 55, 3) := by decide +kernel
theorem dX4_isRowAlike_59 : decode cX4_isRowAlike 59 = .ok (.aload_n 0, 1) := by decide +kernel
theorem dX4_isRowAlike_60 : decode cX4_isRowAlike 60 = .ok (.getfield 52, 3) := by decide +kernel
theorem dX4_isRowAlike_63 : decode cX4_isRowAlike 63 = .ok (.iload 4, 2) := by decide +kernel
theorem dX4_isRowAlike_65 : decode cX4_isRowAlike 65 = .ok (.iaload, 1) := by decide +kernel
theorem dX4_isRowAlike_66 : decode cX4_isRowAlike 66 = .ok (.iaload, 1) := by decide +kernel
theorem dX4_isRowAlike_67 : decode cX4_isRowAlike 67 = .ok (.iadd, 1) := by decide +kernel
theorem dX4_isRowAlike_68 : decode cX4_isRowAlike 68 = .ok (.iconst 4, 1) := by decide +kernel
theorem dX4_isRowAlike_69 : decode cX4_isRowAlike 69 = .ok (.irem, 1) := by decide +kernel
theorem dX4_isRowAlike_70 : decode cX4_isRowAlike 70 = .ok (.iload_n 3, 1) := by decide +kernel
theorem dX4_isRowAlike_71 : decode cX4_isRowAlike 71 = .ok (.if_icmp .eq 5, 3) := by decide +kernel
theorem dX4_isRowAlike_74 : decode cX4_isRowAlike 74 = .ok (.iconst 0, 1) := by decide +kernel
theorem dX4_isRowAlike_75 : decode cX4_isRowAlike 75 = .ok (.ireturn, 1) := by decide +kernel
theorem dX4_isRowAlike_76 : decode cX4_isRowAlike 76 = .ok (.iinc 4 1, 3) := by decide +kernel
theorem dX4_isRowAlike_79 : decode cX4_isRowAlike 79 = .ok (.goto (-46), 3) := by decide +kernel
theorem dX4_isRowAlike_82 : decode cX4_isRowAlike 82 = .ok (.iconst 1, 1) := by decide +kernel
theorem dX4_isRowAlike_83 : decode cX4_isRowAlike 83 = .ok (.ireturn, 1) := by decide +kernel
theorem dX4_addUpRow_0 : decode cX4_addUpRow 0 = .ok (.iconst 0, 1) := by decide +kernel
theorem dX4_addUpRow_1 : decode cX4_addUpRow 1 = .ok (.istore_n 3, 1) := by decide +kernel
theorem dX4_addUpRow_2 : decode cX4_addUpRow 2 = .ok (.iconst 0, 1) := by decide +kernel
theorem dX4_addUpRow_3 : decode cX4_addUpRow 3 = .ok (.istore 4, 2) := by decide +kernel
theorem dX4_addUpRow_5 : decode cX4_addUpRow 5 = .ok (.iconst 0, 1) := by decide +kernel
theorem dX4_addUpRow_6 : decode cX4_addUpRow 6 = .ok (.istore 5, 2) := by decide +kernel
theorem dX4_addUpRow_8 : decode cX4_addUpRow 8 = .ok (.iload_n 1, 1) := by decide +kernel
theorem dX4_addUpRow_9 : decode cX4_addUpRow 9 = .ok (.istore 6, 2) := by decide +kernel
theorem dX4_addUpRow_11 : decode cX4_addUpRow 11 = .ok (.iload_n 2, 1) := by decide +kernel
theorem dX4_addUpRow_12 : decode cX4_addUpRow 12 = .ok (.iconst 1, 1) := by decide +kernel
theorem dX4_addUpRow_13 : decode cX4_addUpRow 13 = .ok (.isub, 1) := by decide +kernel
theorem dX4_addUpRow_14 : decode cX4_addUpRow 14 = .ok (.istore 7, 2) := by decide +kernel
theorem dX4_addUpRow_16 : decode cX4_addUpRow 16 = .ok (.iload 7, 2) := by decide +kernel
theorem dX4_addUpRow_18 : decode cX4_addUpRow 18 = .ok (.ifCond .lt 87, 3) := by decide +kernel
theorem dX4_addUpRow_21 : decode cX4_addUpRow 21 = .ok (.getstatic 186, 3) := by decide +kernel
theorem dX4_addUpRow_24 : decode cX4_addUpRow 24 = .ok (.iload 6, 2) := by decide +kernel
theorem dX4_addUpRow_26 : decode cX4_addUpRow 26 = .ok (.iconst 3, 1) := by decide +kernel
theorem dX4_addUpRow_27 : decode cX4_addUpRow 27 = .ok (.irem, 1) := by decide +kernel
theorem dX4_addUpRow_28 : decode cX4_addUpRow 28 = .ok (.iaload, 1) := by decide +kernel
theorem dX4_addUpRow_29 : decode cX4_addUpRow 29 = .ok (.istore 8, 2) := by decide +kernel
theorem dX4_addUpRow_31 : decode cX4_addUpRow 31 = .ok (.iload 6, 2) := by decide +kernel
theorem dX4_addUpRow_33 : decode cX4_addUpRow 33 = .ok (.iconst 3, 1) := by decide +kernel
theorem dX4_addUpRow_34 : decode cX4_addUpRow 34 = .ok (.idiv, 1) := by decide +kernel
theorem dX4_addUpRow_35 : decode cX4_addUpRow 35 = .ok (.istore 6, 2) := by decide +kernel
theorem dX4_addUpRow_37 : decode cX4_addUpRow 37 = .ok (.iload 7, 2) := by decide +kernel
theorem dX4_addUpRow_39 : decode cX4_addUpRow 39 = .ok (.ifCond .ne 13, 3) := by decide +kernel
theorem dX4_addUpRow_42 : decode cX4_addUpRow 42 = .ok (.aload_n 0, 1) := by decide +kernel
theorem dX4_addUpRow_43 : decode cX4_addUpRow 43 = .ok (.getfield 29, 3) := by decide +kernel
theorem dX4_addUpRow_46 : decode cX4_addUpRow 46 = .ok (.getfield 250, 3) := by decide +kernel
theorem dX4_addUpRow_49 : decode cX4_addUpRow 49 = .ok (.goto 11, 3) := by decide +kernel
theorem dX4_addUpRow_52 : decode cX4_addUpRow 52 = .ok (.getstatic 186, 3) := by decide +kernel
theorem dX4_addUpRow_55 : decode cX4_addUpRow 55 = .ok (.iload 6, 2) := by decide +kernel
theorem dX4_addUpRow_57 : decode cX4_addUpRow 57 = .ok (.iconst 3, 1) := by decide +kernel
theorem dX4_addUpRow_58 : decode cX4_addUpRow 58 = .ok (.irem, 1) := by decide +kernel
theorem dX4_addUpRow_59 : decode cX4_addUpRow 59 = .ok (.iaload, 1) := by decide +kernel
theorem dX4_addUpRow_60 : decode cX4_addUpRow 60 = .ok (.istore 9, 2) := by decide +kernel
theorem dX4_addUpRow_62 : decode cX4_addUpRow 62 = .ok (.iload_n 3, 1) := by decide +kernel
theorem dX4_addUpRow_63 : decode cX4_addUpRow 63 = .ok (.iconst 0, 1) := by decide +kernel
theorem dX4_addUpRow_64 : decode cX4_addUpRow 64 = .ok (.iload 8, 2) := by decide +kernel
theorem dX4_addUpRow_66 : decode cX4_addUpRow 66 = .ok (.iload 9, 2) := by decide +kernel
theorem dX4_addUpRow_68 : decode cX4_addUpRow 68 = .ok (.invokestatic 253, 3) := by decide +kernel
theorem dX4_addUpRow_71 : decode cX4_addUpRow 71 = .ok (.iadd, 1) := by decide +kernel
theorem dX4_addUpRow_72 : decode cX4_addUpRow 72 = .ok (.istore_n 3, 1) := by decide +kernel
theorem dX4_addUpRow_73 : decode cX4_addUpRow 73 = .ok (.iload 4, 2) := by decide +kernel
theorem dX4_addUpRow_75 : decode cX4_addUpRow 75 = .ok (.iconst 1, 1) := by decide +kernel
theorem dX4_addUpRow_76 : decode cX4_addUpRow 76 = .ok (.iload 8, 2) := by decide +kernel
theorem dX4_addUpRow_78 : decode cX4_addUpRow 78 = .ok (.iload 9, 2) := by decide +kernel
theorem dX4_addUpRow_80 : decode cX4_addUpRow 80 = .ok (.invokestatic 253, 3) := by decide +kernel
theorem dX4_addUpRow_83 : decode cX4_addUpRow 83 = .ok (.iadd, 1) := by decide +kernel
theorem dX4_addUpRow_84 : decode cX4_addUpRow 84 = .ok (.istore 4, 2) := by decide +kernel
theorem dX4_addUpRow_86 : decode cX4_addUpRow 86 = .ok (.iload 5, 2) := by decide +kernel
theorem dX4_addUpRow_88 : decode cX4_addUpRow 88 = .ok (.iconst 2, 1) := by decide +kernel
theorem dX4_addUpRow_89 : decode cX4_addUpRow 89 = .ok (.iload 8, 2) := by decide +kernel
theorem dX4_addUpRow_91 : decode cX4_addUpRow 91 = .ok (.iload 9, 2) := by decide +kernel
theorem dX4_addUpRow_93 : decode cX4_addUpRow 93 = .ok (.invokestatic 253, 3) := by decide +kernel
theorem dX4_addUpRow_96 : decode cX4_addUpRow 96 = .ok (.iadd, 1) := by decide +kernel
theorem dX4_addUpRow_97 : decode cX4_addUpRow 97 = .ok (.istore 5, 2) := by decide +kernel
theorem dX4_addUpRow_99 : decode cX4_addUpRow 99 = .ok (.iinc 7 (-1), 3) := by decide +kernel
theorem dX4_addUpRow_102 : decode cX4_addUpRow 102 = .ok (.goto (-86), 3) := by decide +kernel
theorem dX4_addUpRow_105 : decode cX4_addUpRow 105 = .ok (.aload_n 0, 1) := by decide +kernel
theorem dX4_addUpRow_106 : decode cX4_addUpRow 106 = .ok (.getfield 55, 3) := by decide +kernel
theorem dX4_addUpRow_109 : decode cX4_addUpRow 109 = .ok (.iconst 0, 1) := by decide +kernel
theorem dX4_addUpRow_110 : decode cX4_addUpRow 110 = .ok (.iload_n 3, 1) := by decide +kernel
theorem dX4_addUpRow_111 : decode cX4_addUpRow 111 = .ok (.iastore, 1) := by decide +kernel
theorem dX4_addUpRow_112 : decode cX4_addUpRow 112 = .ok (.aload_n 0, 1) := by decide +kernel
theorem dX4_addUpRow_113 : decode cX4_addUpRow 113 = .ok (.getfield 55, 3) := by decide +kernel
theorem dX4_addUpRow_116 : decode cX4_addUpRow 116 = .ok (.iconst 1, 1) := by decide +kernel
theorem dX4_addUpRow_117 : decode cX4_addUpRow 117 = .ok (.iload 4, 2) := by decide +kernel
theorem dX4_addUpRow_119 : decode cX4_addUpRow 119 = .ok (.iastore, 1) := by decide +kernel
theorem dX4_addUpRow_120 : decode cX4_addUpRow 120 = .ok (.aload_n 0, 1) := by decide +kernel
theorem dX4_addUpRow_121 : decode cX4_addUpRow 121 = .ok (.getfield 55, 3) := by decide +kernel
theorem dX4_addUpRow_124 : decode cX4_addUpRow 124 = .ok (.iconst 2, 1) := by decide +kernel
theorem dX4_addUpRow_125 : decode cX4_addUpRow 125 = .ok (.iload 5, 2) := by decide +kernel
theorem dX4_addUpRow_127 : decode cX4_addUpRow 127 = .ok (.iastore, 1) := by decide +kernel
theorem dX4_addUpRow_128 : decode cX4_addUpRow 128 = .ok (.return_, 1) := by decide +kernel
theorem dX4_waysToTurn_0 : decode cX4_waysToTurn 0 = .ok (.aload_n 0, 1) := by decide +kernel
theorem dX4_waysToTurn_1 : decode cX4_waysToTurn 1 = .ok (.iload_n 1, 1) := by decide +kernel
theorem dX4_waysToTurn_2 : decode cX4_waysToTurn 2 = .ok (.invokevirtual 235, 3) := by decide +kernel
theorem dX4_waysToTurn_5 : decode cX4_waysToTurn 5 = .ok (.ifCond .eq 8, 3) := by decide +kernel
theorem dX4_waysToTurn_8 : decode cX4_waysToTurn 8 = .ok (.bipush 10, 2) := by decide +kernel
theorem dX4_waysToTurn_10 : decode cX4_waysToTurn 10 = .ok (.goto 4, 3) := by decide +kernel
theorem dX4_waysToTurn_13 : decode cX4_waysToTurn 13 = .ok (.iconst 1, 1) := by decide +kernel
theorem dX4_waysToTurn_14 : decode cX4_waysToTurn 14 = .ok (.ireturn, 1) := by decide +kernel
theorem dX4_waysOfManner_0 : decode cX4_waysOfManner 0 = .ok (.aload_n 0, 1) := by decide +kernel
theorem dX4_waysOfManner_1 : decode cX4_waysOfManner 1 = .ok (.iload_n 1, 1) := by decide +kernel
theorem dX4_waysOfManner_2 : decode cX4_waysOfManner 2 = .ok (.invokevirtual 235, 3) := by decide +kernel
theorem dX4_waysOfManner_5 : decode cX4_waysOfManner 5 = .ok (.ifCond .ne 19, 3) := by decide +kernel
theorem dX4_waysOfManner_8 : decode cX4_waysOfManner 8 = .ok (.iload_n 2, 1) := by decide +kernel
theorem dX4_waysOfManner_9 : decode cX4_waysOfManner 9 = .ok (.aload_n 0, 1) := by decide +kernel
theorem dX4_waysOfManner_10 : decode cX4_waysOfManner 10 = .ok (.iload_n 1, 1) := by decide +kernel
theorem dX4_waysOfManner_11 : decode cX4_waysOfManner 11 = .ok (.iconst 0, 1) := by decide +kernel
theorem dX4_waysOfManner_12 : decode cX4_waysOfManner 12 = .ok (.invokevirtual 246, 3) := by decide +kernel
theorem dX4_waysOfManner_15 : decode cX4_waysOfManner 15 = .ok (.if_icmp .ne 7, 3) := by decide +kernel
theorem dX4_waysOfManner_18 : decode cX4_waysOfManner 18 = .ok (.iconst 1, 1) := by decide +kernel
theorem dX4_waysOfManner_19 : decode cX4_waysOfManner 19 = .ok (.goto 4, 3) := by decide +kernel
theorem dX4_waysOfManner_22 : decode cX4_waysOfManner 22 = .ok (.iconst 0, 1) := by decide +kernel
theorem dX4_waysOfManner_23 : decode cX4_waysOfManner 23 = .ok (.ireturn, 1) := by decide +kernel
theorem dX4_waysOfManner_24 : decode cX4_waysOfManner 24 = .ok (.iload_n 2, 1) := by decide +kernel
theorem dX4_waysOfManner_25 : decode cX4_waysOfManner 25 = .ok (.iconst 1, 1) := by decide +kernel
theorem dX4_waysOfManner_26 : decode cX4_waysOfManner 26 = .ok (.if_icmp .ne 13, 3) := by decide +kernel
theorem dX4_waysOfManner_29 : decode cX4_waysOfManner 29 = .ok (.aload_n 0, 1) := by decide +kernel
theorem dX4_waysOfManner_30 : decode cX4_waysOfManner 30 = .ok (.getfield 19, 3) := by decide +kernel
theorem dX4_waysOfManner_33 : decode cX4_waysOfManner 33 = .ok (.getfield 104, 3) := by decide +kernel
theorem dX4_waysOfManner_36 : decode cX4_waysOfManner 36 = .ok (.iload_n 1, 1) := by decide +kernel
theorem dX4_waysOfManner_37 : decode cX4_waysOfManner 37 = .ok (.iaload, 1) := by decide +kernel
theorem dX4_waysOfManner_38 : decode cX4_waysOfManner 38 = .ok (.ireturn, 1) := by decide +kernel
theorem dX4_waysOfManner_39 : decode cX4_waysOfManner 39 = .ok (.iload_n 2, 1) := by decide +kernel
theorem dX4_waysOfManner_40 : decode cX4_waysOfManner 40 = .ok (.ifCond .ne 18, 3) := by decide +kernel
theorem dX4_waysOfManner_43 : decode cX4_waysOfManner 43 = .ok (.bipush 10, 2) := by decide +kernel
theorem dX4_waysOfManner_45 : decode cX4_waysOfManner 45 = .ok (.aload_n 0, 1) := by decide +kernel
theorem dX4_waysOfManner_46 : decode cX4_waysOfManner 46 = .ok (.getfield 19, 3) := by decide +kernel
theorem dX4_waysOfManner_49 : decode cX4_waysOfManner 49 = .ok (.getfield 104, 3) := by decide +kernel
theorem dX4_waysOfManner_52 : decode cX4_waysOfManner 52 = .ok (.iload_n 1, 1) := by decide +kernel
theorem dX4_waysOfManner_53 : decode cX4_waysOfManner 53 = .ok (.iaload, 1) := by decide +kernel
theorem dX4_waysOfManner_54 : decode cX4_waysOfManner 54 = .ok (.isub, 1) := by decide +kernel
theorem dX4_waysOfManner_55 : decode cX4_waysOfManner 55 = .ok (.goto 4, 3) := by decide +kernel
theorem dX4_waysOfManner_58 : decode cX4_waysOfManner 58 = .ok (.iconst 0, 1) := by decide +kernel
theorem dX4_waysOfManner_59 : decode cX4_waysOfManner 59 = .ok (.ireturn, 1) := by decide +kernel
theorem dX4_waysAllFace_0 : decode cX4_waysAllFace 0 = .ok (.iconst 1, 1) := by decide +kernel
theorem dX4_waysAllFace_1 : decode cX4_waysAllFace 1 = .ok (.istore_n 3, 1) := by decide +kernel
theorem dX4_waysAllFace_2 : decode cX4_waysAllFace 2 = .ok (.iconst 0, 1) := by decide +kernel
theorem dX4_waysAllFace_3 : decode cX4_waysAllFace 3 = .ok (.istore 4, 2) := by decide +kernel
theorem dX4_waysAllFace_5 : decode cX4_waysAllFace 5 = .ok (.iload 4, 2) := by decide +kernel
theorem dX4_waysAllFace_7 : decode cX4_waysAllFace 7 = .ok (.aload_n 0, 1) := by decide +kernel
theorem dX4_waysAllFace_8 : decode cX4_waysAllFace 8 = .ok (.getfield 19, 3) := by decide +kernel
theorem dX4_waysAllFace_11 : decode cX4_waysAllFace 11 = .ok (.getfield 88, 3) := by decide +kernel
theorem dX4_waysAllFace_14 : decode cX4_waysAllFace 14 = .ok (.if_icmp .ge 32, 3) := by decide +kernel
theorem dX4_waysAllFace_17 : decode cX4_waysAllFace 17 = .ok (.aload_n 0, 1) := by decide +kernel
theorem dX4_waysAllFace_18 : decode cX4_waysAllFace 18 = .ok (.getfield 48, 3) := by decide +kernel
theorem dX4_waysAllFace_21 : decode cX4_waysAllFace 21 = .ok (.iload 4, 2) := by decide +kernel
theorem dX4_waysAllFace_23 : decode cX4_waysAllFace 23 = .ok (.iaload, 1) := by decide +kernel
theorem dX4_waysAllFace_24 : decode cX4_waysAllFace 24 = .ok (.iload 4, 2) := by decide +kernel
theorem dX4_waysAllFace_26 : decode cX4_waysAllFace 26 = .ok (.if_icmp .ne 14, 3) := by decide +kernel
theorem dX4_waysAllFace_29 : decode cX4_waysAllFace 29 = .ok (.iload_n 3, 1) := by decide +kernel
theorem dX4_waysAllFace_30 : decode cX4_waysAllFace 30 = .ok (.aload_n 0, 1) := by decide +kernel
theorem dX4_waysAllFace_31 : decode cX4_waysAllFace 31 = .ok (.iload 4, 2) := by decide +kernel
theorem dX4_waysAllFace_33 : decode cX4_waysAllFace 33 = .ok (.iload_n 1, 1) := by decide +kernel
theorem dX4_waysAllFace_34 : decode cX4_waysAllFace 34 = .ok (.iload_n 2, 1) := by decide +kernel
theorem dX4_waysAllFace_35 : decode cX4_waysAllFace 35 = .ok (.invokevirtual 264, 3) := by decide +kernel
theorem dX4_waysAllFace_38 : decode cX4_waysAllFace 38 = .ok (.imul, 1) := by decide +kernel
theorem dX4_waysAllFace_39 : decode cX4_waysAllFace 39 = .ok (.istore_n 3, 1) := by decide +kernel
theorem dX4_waysAllFace_40 : decode cX4_waysAllFace 40 = .ok (.iinc 4 1, 3) := by decide +kernel
theorem dX4_waysAllFace_43 : decode cX4_waysAllFace 43 = .ok (.goto (-38), 3) := by decide +kernel
theorem dX4_waysAllFace_46 : decode cX4_waysAllFace 46 = .ok (.iload_n 3, 1) := by decide +kernel
theorem dX4_waysAllFace_47 : decode cX4_waysAllFace 47 = .ok (.ireturn, 1) := by decide +kernel
theorem dX4_waysLedFace_0 : decode cX4_waysLedFace 0 = .ok (.iconst 0, 1) := by decide +kernel
theorem dX4_waysLedFace_1 : decode cX4_waysLedFace 1 = .ok (.istore 4, 2) := by decide +kernel
theorem dX4_waysLedFace_3 : decode cX4_waysLedFace 3 = .ok (.iconst 0, 1) := by decide +kernel
theorem dX4_waysLedFace_4 : decode cX4_waysLedFace 4 = .ok (.istore 5, 2) := by decide +kernel
theorem dX4_waysLedFace_6 : decode cX4_waysLedFace 6 = .ok (.iload 5, 2) := by decide +kernel
theorem dX4_waysLedFace_8 : decode cX4_waysLedFace 8 = .ok (.iconst 3, 1) := by decide +kernel
theorem dX4_waysLedFace_9 : decode cX4_waysLedFace 9 = .ok (.if_icmp .ge 33, 3) := by decide +kernel
theorem dX4_waysLedFace_12 : decode cX4_waysLedFace 12 = .ok (.aload_n 0, 1) := by decide +kernel
theorem dX4_waysLedFace_13 : decode cX4_waysLedFace 13 = .ok (.iload_n 1, 1) := by decide +kernel
theorem dX4_waysLedFace_14 : decode cX4_waysLedFace 14 = .ok (.iload 5, 2) := by decide +kernel
theorem dX4_waysLedFace_16 : decode cX4_waysLedFace 16 = .ok (.iload_n 2, 1) := by decide +kernel
theorem dX4_waysLedFace_17 : decode cX4_waysLedFace 17 = .ok (.iload_n 3, 1) := by decide +kernel
theorem dX4_waysLedFace_18 : decode cX4_waysLedFace 18 = .ok (.invokevirtual 267, 3) := by decide +kernel
theorem dX4_waysLedFace_21 : decode cX4_waysLedFace 21 = .ok (.ifCond .eq 15, 3) := by decide +kernel
theorem dX4_waysLedFace_24 : decode cX4_waysLedFace 24 = .ok (.iload 4, 2) := by decide +kernel
theorem dX4_waysLedFace_26 : decode cX4_waysLedFace 26 = .ok (.aload_n 0, 1) := by decide +kernel
theorem dX4_waysLedFace_27 : decode cX4_waysLedFace 27 = .ok (.iload_n 1, 1) := by decide +kernel
theorem dX4_waysLedFace_28 : decode cX4_waysLedFace 28 = .ok (.iload 5, 2) := by decide +kernel
theorem dX4_waysLedFace_30 : decode cX4_waysLedFace 30 = .ok (.invokevirtual 201, 3) := by decide +kernel
theorem dX4_waysLedFace_33 : decode cX4_waysLedFace 33 = .ok (.iadd, 1) := by decide +kernel
theorem dX4_waysLedFace_34 : decode cX4_waysLedFace 34 = .ok (.istore 4, 2) := by decide +kernel
theorem dX4_waysLedFace_36 : decode cX4_waysLedFace 36 = .ok (.iinc 5 1, 3) := by decide +kernel
theorem dX4_waysLedFace_39 : decode cX4_waysLedFace 39 = .ok (.goto (-33), 3) := by decide +kernel
theorem dX4_waysLedFace_42 : decode cX4_waysLedFace 42 = .ok (.iload 4, 2) := by decide +kernel
theorem dX4_waysLedFace_44 : decode cX4_waysLedFace 44 = .ok (.ireturn, 1) := by decide +kernel
theorem dX4_wouldLedFace_0 : decode cX4_wouldLedFace 0 = .ok (.iconst 0, 1) := by decide +kernel
theorem dX4_wouldLedFace_1 : decode cX4_wouldLedFace 1 = .ok (.istore 5, 2) := by decide +kernel
theorem dX4_wouldLedFace_3 : decode cX4_wouldLedFace 3 = .ok (.iload 5, 2) := by decide +kernel
theorem dX4_wouldLedFace_5 : decode cX4_wouldLedFace 5 = .ok (.aload_n 0, 1) := by decide +kernel
theorem dX4_wouldLedFace_6 : decode cX4_wouldLedFace 6 = .ok (.getfield 19, 3) := by decide +kernel
theorem dX4_wouldLedFace_9 : decode cX4_wouldLedFace 9 = .ok (.getfield 88, 3) := by decide +kernel
theorem dX4_wouldLedFace_12 : decode cX4_wouldLedFace 12 = .ok (.if_icmp .ge 35, 3) := by decide +kernel
theorem dX4_wouldLedFace_15 : decode cX4_wouldLedFace 15 = .ok (.aload_n 0, 1) := by decide +kernel
theorem dX4_wouldLedFace_16 : decode cX4_wouldLedFace 16 = .ok (.getfield 48, 3) := by decide +kernel
theorem dX4_wouldLedFace_19 : decode cX4_wouldLedFace 19 = .ok (.iload 5, 2) := by decide +kernel
theorem dX4_wouldLedFace_21 : decode cX4_wouldLedFace 21 = .ok (.iaload, 1) := by decide +kernel
theorem dX4_wouldLedFace_22 : decode cX4_wouldLedFace 22 = .ok (.iload_n 1, 1) := by decide +kernel
theorem dX4_wouldLedFace_23 : decode cX4_wouldLedFace 23 = .ok (.if_icmp .ne 18, 3) := by decide +kernel
theorem dX4_wouldLedFace_26 : decode cX4_wouldLedFace 26 = .ok (.aload_n 0, 1) := by decide +kernel
theorem dX4_wouldLedFace_27 : decode cX4_wouldLedFace 27 = .ok (.iload 5, 2) := by decide +kernel
theorem dX4_wouldLedFace_29 : decode cX4_wouldLedFace 29 = .ok (.iload_n 2, 1) := by decide +kernel
theorem dX4_wouldLedFace_30 : decode cX4_wouldLedFace 30 = .ok (.iload 4, 2) := by decide +kernel
theorem dX4_wouldLedFace_32 : decode cX4_wouldLedFace 32 = .ok (.invokevirtual 198, 3) := by decide +kernel
theorem dX4_wouldLedFace_35 : decode cX4_wouldLedFace 35 = .ok (.iload_n 3, 1) := by decide +kernel
theorem dX4_wouldLedFace_36 : decode cX4_wouldLedFace 36 = .ok (.if_icmp .eq 5, 3) := by decide +kernel
theorem dX4_wouldLedFace_39 : decode cX4_wouldLedFace 39 = .ok (.iconst 0, 1) := by decide +kernel
theorem dX4_wouldLedFace_40 : decode cX4_wouldLedFace 40 = .ok (.ireturn, 1) := by decide +kernel
theorem dX4_wouldLedFace_41 : decode cX4_wouldLedFace 41 = .ok (.iinc 5 1, 3) := by decide +kernel
theorem dX4_wouldLedFace_44 : decode cX4_wouldLedFace 44 = .ok (.goto (-41), 3) := by decide +kernel
theorem dX4_wouldLedFace_47 : decode cX4_wouldLedFace 47 = .ok (.iconst 1, 1) := by decide +kernel
theorem dX4_wouldLedFace_48 : decode cX4_wouldLedFace 48 = .ok (.ireturn, 1) := by decide +kernel
theorem dX4_partInLowestTerms_0 : decode cX4_partInLowestTerms 0 = .ok (.iload_n 0, 1) := by decide +kernel
theorem dX4_partInLowestTerms_1 : decode cX4_partInLowestTerms 1 = .ok (.iload_n 1, 1) := by decide +kernel
theorem dX4_partInLowestTerms_2 : decode cX4_partInLowestTerms 2 = .ok (.invokestatic 271, 3) := by decide +kernel
theorem dX4_partInLowestTerms_5 : decode cX4_partInLowestTerms 5 = .ok (.istore_n 3, 1) := by decide +kernel
theorem dX4_partInLowestTerms_6 : decode cX4_partInLowestTerms 6 = .ok (.iload_n 2, 1) := by decide +kernel
theorem dX4_partInLowestTerms_7 : decode cX4_partInLowestTerms 7 = .ok (.ifCond .ne 7, 3) := by decide +kernel
theorem dX4_partInLowestTerms_10 : decode cX4_partInLowestTerms 10 = .ok (.iload_n 0, 1) := by decide +kernel
theorem dX4_partInLowestTerms_11 : decode cX4_partInLowestTerms 11 = .ok (.goto 4, 3) := by decide +kernel
theorem dX4_partInLowestTerms_14 : decode cX4_partInLowestTerms 14 = .ok (.iload_n 1, 1) := by decide +kernel
theorem dX4_partInLowestTerms_15 : decode cX4_partInLowestTerms 15 = .ok (.istore 4, 2) := by decide +kernel
theorem dX4_partInLowestTerms_17 : decode cX4_partInLowestTerms 17 = .ok (.iload_n 3, 1) := by decide +kernel
theorem dX4_partInLowestTerms_18 : decode cX4_partInLowestTerms 18 = .ok (.ifCond .le 10, 3) := by decide +kernel
theorem dX4_partInLowestTerms_21 : decode cX4_partInLowestTerms 21 = .ok (.iload 4, 2) := by decide +kernel
theorem dX4_partInLowestTerms_23 : decode cX4_partInLowestTerms 23 = .ok (.iload_n 3, 1) := by decide +kernel
theorem dX4_partInLowestTerms_24 : decode cX4_partInLowestTerms 24 = .ok (.idiv, 1) := by decide +kernel
theorem dX4_partInLowestTerms_25 : decode cX4_partInLowestTerms 25 = .ok (.goto 5, 3) := by decide +kernel
theorem dX4_partInLowestTerms_28 : decode cX4_partInLowestTerms 28 = .ok (.iload 4, 2) := by decide +kernel
theorem dX4_partInLowestTerms_30 : decode cX4_partInLowestTerms 30 = .ok (.ireturn, 1) := by decide +kernel
theorem dX4_commonDivisor_0 : decode cX4_commonDivisor 0 = .ok (.iload_n 0, 1) := by decide +kernel
theorem dX4_commonDivisor_1 : decode cX4_commonDivisor 1 = .ok (.istore_n 2, 1) := by decide +kernel
theorem dX4_commonDivisor_2 : decode cX4_commonDivisor 2 = .ok (.iload_n 1, 1) := by decide +kernel
theorem dX4_commonDivisor_3 : decode cX4_commonDivisor 3 = .ok (.istore_n 3, 1) := by decide +kernel
theorem dX4_commonDivisor_4 : decode cX4_commonDivisor 4 = .ok (.iconst 0, 1) := by decide +kernel
theorem dX4_commonDivisor_5 : decode cX4_commonDivisor 5 = .ok (.istore 4, 2) := by decide +kernel
theorem dX4_commonDivisor_7 : decode cX4_commonDivisor 7 = .ok (.iload 4, 2) := by decide +kernel
theorem dX4_commonDivisor_9 : decode cX4_commonDivisor 9 = .ok (.bipush 64, 2) := by decide +kernel
theorem dX4_commonDivisor_11 : decode cX4_commonDivisor 11 = .ok (.if_icmp .ge 23, 3) := by decide +kernel
theorem dX4_commonDivisor_14 : decode cX4_commonDivisor 14 = .ok (.iload_n 3, 1) := by decide +kernel
theorem dX4_commonDivisor_15 : decode cX4_commonDivisor 15 = .ok (.ifCond .eq 19, 3) := by decide +kernel
theorem dX4_commonDivisor_18 : decode cX4_commonDivisor 18 = .ok (.iload_n 2, 1) := by decide +kernel
theorem dX4_commonDivisor_19 : decode cX4_commonDivisor 19 = .ok (.iload_n 3, 1) := by decide +kernel
theorem dX4_commonDivisor_20 : decode cX4_commonDivisor 20 = .ok (.irem, 1) := by decide +kernel
theorem dX4_commonDivisor_21 : decode cX4_commonDivisor 21 = .ok (.istore 5, 2) := by decide +kernel
theorem dX4_commonDivisor_23 : decode cX4_commonDivisor 23 = .ok (.iload_n 3, 1) := by decide +kernel
theorem dX4_commonDivisor_24 : decode cX4_commonDivisor 24 = .ok (.istore_n 2, 1) := by decide +kernel
theorem dX4_commonDivisor_25 : decode cX4_commonDivisor 25 = .ok (.iload 5, 2) := by decide +kernel
theorem dX4_commonDivisor_27 : decode cX4_commonDivisor 27 = .ok (.istore_n 3, 1) := by decide +kernel
theorem dX4_commonDivisor_28 : decode cX4_commonDivisor 28 = .ok (.iinc 4 1, 3) := by decide +kernel
theorem dX4_commonDivisor_31 : decode cX4_commonDivisor 31 = .ok (.goto (-24), 3) := by decide +kernel
theorem dX4_commonDivisor_34 : decode cX4_commonDivisor 34 = .ok (.iload_n 2, 1) := by decide +kernel
theorem dX4_commonDivisor_35 : decode cX4_commonDivisor 35 = .ok (.ireturn, 1) := by decide +kernel
