theorem dX5_shout_54 : decode cX5_shout 54 = .ok (.iload_n 3, 1) := by decide +kernel
theorem dX5_shout_55 : decode cX5_shout 55 = .ok (.iload_n 1, 1) := by decide +kernel
theorem dX5_shout_56 : decode cX5_shout 56 = .ok (.invokevirtual 150, 3) := by decide +kernel
theorem dX5_shout_59 : decode cX5_shout 59 = .ok (.ifCond .eq 35, 3) := by decide +kernel
theorem dX5_shout_62 : decode cX5_shout 62 = .ok (.aload_n 0, 1) := by decide +kernel
theorem dX5_shout_63 : decode cX5_shout 63 = .ok (.getfield 19, 3) := by decide +kernel
theorem dX5_shout_66 : decode cX5_shout 66 = .ok (.iload_n 3, 1) := by decide +kernel
theorem dX5_shout_67 : decode cX5_shout 67 = .ok (.aload_n 0, 1) := by decide +kernel
theorem dX5_shout_68 : decode cX5_shout 68 = .ok (.getfield 19, 3) := by decide +kernel
theorem dX5_shout_71 : decode cX5_shout 71 = .ok (.iload_n 3, 1) := by decide +kernel
theorem dX5_shout_72 : decode cX5_shout 72 = .ok (.iaload, 1) := by decide +kernel
theorem dX5_shout_73 : decode cX5_shout 73 = .ok (.iconst 2, 1) := by decide +kernel
theorem dX5_shout_74 : decode cX5_shout 74 = .ok (.iadd, 1) := by decide +kernel
theorem dX5_shout_75 : decode cX5_shout 75 = .ok (.iconst 4, 1) := by decide +kernel
theorem dX5_shout_76 : decode cX5_shout 76 = .ok (.irem, 1) := by decide +kernel
theorem dX5_shout_77 : decode cX5_shout 77 = .ok (.iastore, 1) := by decide +kernel
theorem dX5_shout_78 : decode cX5_shout 78 = .ok (.aload_n 0, 1) := by decide +kernel
theorem dX5_shout_79 : decode cX5_shout 79 = .ok (.getfield 19, 3) := by decide +kernel
theorem dX5_shout_82 : decode cX5_shout 82 = .ok (.bipush 21, 2) := by decide +kernel
theorem dX5_shout_84 : decode cX5_shout 84 = .ok (.dup2, 1) := by decide +kernel
theorem dX5_shout_85 : decode cX5_shout 85 = .ok (.iaload, 1) := by decide +kernel
theorem dX5_shout_86 : decode cX5_shout 86 = .ok (.iconst 1, 1) := by decide +kernel
theorem dX5_shout_87 : decode cX5_shout 87 = .ok (.iload_n 3, 1) := by decide +kernel
theorem dX5_shout_88 : decode cX5_shout 88 = .ok (.ishl, 1) := by decide +kernel
theorem dX5_shout_89 : decode cX5_shout 89 = .ok (.ior, 1) := by decide +kernel
theorem dX5_shout_90 : decode cX5_shout 90 = .ok (.iastore, 1) := by decide +kernel
theorem dX5_shout_91 : decode cX5_shout 91 = .ok (.iinc 2 1, 3) := by decide +kernel
theorem dX5_shout_94 : decode cX5_shout 94 = .ok (.iinc 3 1, 3) := by decide +kernel
theorem dX5_shout_97 : decode cX5_shout 97 = .ok (.goto (-79), 3) := by decide +kernel
theorem dX5_shout_100 : decode cX5_shout 100 = .ok (.iload_n 2, 1) := by decide +kernel
theorem dX5_shout_101 : decode cX5_shout 101 = .ok (.ireturn, 1) := by decide +kernel
theorem dX5_eyes_0 : decode cX5_eyes 0 = .ok (.iload_n 1, 1) := by decide +kernel
theorem dX5_eyes_1 : decode cX5_eyes 1 = .ok (.iconst 0, 1) := by decide +kernel
theorem dX5_eyes_2 : decode cX5_eyes 2 = .ok (.iconst 1, 1) := by decide +kernel
theorem dX5_eyes_3 : decode cX5_eyes 3 = .ok (.invokestatic 45, 3) := by decide +kernel
theorem dX5_eyes_6 : decode cX5_eyes 6 = .ok (.ifCond .ne 5, 3) := by decide +kernel
theorem dX5_eyes_9 : decode cX5_eyes 9 = .ok (.iconst (-1), 1) := by decide +kernel
theorem dX5_eyes_10 : decode cX5_eyes 10 = .ok (.ireturn, 1) := by decide +kernel
theorem dX5_eyes_11 : decode cX5_eyes 11 = .ok (.aload_n 0, 1) := by decide +kernel
theorem dX5_eyes_12 : decode cX5_eyes 12 = .ok (.invokevirtual 133, 3) := by decide +kernel
theorem dX5_eyes_15 : decode cX5_eyes 15 = .ok (.aload_n 0, 1) := by decide +kernel
theorem dX5_eyes_16 : decode cX5_eyes 16 = .ok (.getfield 19, 3) := by decide +kernel
theorem dX5_eyes_19 : decode cX5_eyes 19 = .ok (.bipush 16, 2) := by decide +kernel
theorem dX5_eyes_21 : decode cX5_eyes 21 = .ok (.iaload, 1) := by decide +kernel
theorem dX5_eyes_22 : decode cX5_eyes 22 = .ok (.istore_n 2, 1) := by decide +kernel
theorem dX5_eyes_23 : decode cX5_eyes 23 = .ok (.aload_n 0, 1) := by decide +kernel
theorem dX5_eyes_24 : decode cX5_eyes 24 = .ok (.getfield 19, 3) := by decide +kernel
theorem dX5_eyes_27 : decode cX5_eyes 27 = .ok (.bipush 16, 2) := by decide +kernel
theorem dX5_eyes_29 : decode cX5_eyes 29 = .ok (.iload_n 1, 1) := by decide +kernel
theorem dX5_eyes_30 : decode cX5_eyes 30 = .ok (.iastore, 1) := by decide +kernel
theorem dX5_eyes_31 : decode cX5_eyes 31 = .ok (.iload_n 2, 1) := by decide +kernel
theorem dX5_eyes_32 : decode cX5_eyes 32 = .ok (.ireturn, 1) := by decide +kernel
theorem dX5_look_0 : decode cX5_look 0 = .ok (.aload_n 0, 1) := by decide +kernel
theorem dX5_look_1 : decode cX5_look 1 = .ok (.iload_n 1, 1) := by decide +kernel
theorem dX5_look_2 : decode cX5_look 2 = .ok (.invokevirtual 87, 3) := by decide +kernel
theorem dX5_look_5 : decode cX5_look 5 = .ok (.ifCond .eq 11, 3) := by decide +kernel
theorem dX5_look_8 : decode cX5_look 8 = .ok (.aload_n 0, 1) := by decide +kernel
theorem dX5_look_9 : decode cX5_look 9 = .ok (.iload_n 2, 1) := by decide +kernel
theorem dX5_look_10 : decode cX5_look 10 = .ok (.invokevirtual 87, 3) := by decide +kernel
theorem dX5_look_13 : decode cX5_look 13 = .ok (.ifCond .ne 5, 3) := by decide +kernel
theorem dX5_look_16 : decode cX5_look 16 = .ok (.iconst (-1), 1) := by decide +kernel
theorem dX5_look_17 : decode cX5_look 17 = .ok (.ireturn, 1) := by decide +kernel
theorem dX5_look_18 : decode cX5_look 18 = .ok (.aload_n 0, 1) := by decide +kernel
theorem dX5_look_19 : decode cX5_look 19 = .ok (.invokevirtual 133, 3) := by decide +kernel
theorem dX5_look_22 : decode cX5_look 22 = .ok (.aload_n 0, 1) := by decide +kernel
theorem dX5_look_23 : decode cX5_look 23 = .ok (.getfield 19, 3) := by decide +kernel
theorem dX5_look_26 : decode cX5_look 26 = .ok (.bipush 8, 2) := by decide +kernel
theorem dX5_look_28 : decode cX5_look 28 = .ok (.iload_n 1, 1) := by decide +kernel
theorem dX5_look_29 : decode cX5_look 29 = .ok (.iadd, 1) := by decide +kernel
theorem dX5_look_30 : decode cX5_look 30 = .ok (.iaload, 1) := by decide +kernel
theorem dX5_look_31 : decode cX5_look 31 = .ok (.istore_n 3, 1) := by decide +kernel
theorem dX5_look_32 : decode cX5_look 32 = .ok (.aload_n 0, 1) := by decide +kernel
theorem dX5_look_33 : decode cX5_look 33 = .ok (.getfield 19, 3) := by decide +kernel
theorem dX5_look_36 : decode cX5_look 36 = .ok (.bipush 8, 2) := by decide +kernel
theorem dX5_look_38 : decode cX5_look 38 = .ok (.iload_n 1, 1) := by decide +kernel
theorem dX5_look_39 : decode cX5_look 39 = .ok (.iadd, 1) := by decide +kernel
theorem dX5_look_40 : decode cX5_look 40 = .ok (.iload_n 2, 1) := by decide +kernel
theorem dX5_look_41 : decode cX5_look 41 = .ok (.iastore, 1) := by decide +kernel
theorem dX5_look_42 : decode cX5_look 42 = .ok (.iload_n 3, 1) := by decide +kernel
theorem dX5_look_43 : decode cX5_look 43 = .ok (.ireturn, 1) := by decide +kernel
theorem dX5_undo_0 : decode cX5_undo 0 = .ok (.aload_n 0, 1) := by decide +kernel
theorem dX5_undo_1 : decode cX5_undo 1 = .ok (.getfield 81, 3) := by decide +kernel
theorem dX5_undo_4 : decode cX5_undo 4 = .ok (.ifCond .ne 6, 3) := by decide +kernel
theorem dX5_undo_7 : decode cX5_undo 7 = .ok (.bipush (-2), 2) := by decide +kernel
theorem dX5_undo_9 : decode cX5_undo 9 = .ok (.ireturn, 1) := by decide +kernel
theorem dX5_undo_10 : decode cX5_undo 10 = .ok (.aload_n 0, 1) := by decide +kernel
theorem dX5_undo_11 : decode cX5_undo 11 = .ok (.dup, 1) := by decide +kernel
theorem dX5_undo_12 : decode cX5_undo 12 = .ok (.getfield 81, 3) := by decide +kernel
theorem dX5_undo_15 : decode cX5_undo 15 = .ok (.iconst 1, 1) := by decide +kernel
theorem dX5_undo_16 : decode cX5_undo 16 = .ok (.isub, 1) := by decide +kernel
theorem dX5_undo_17 : decode cX5_undo 17 = .ok (.putfield 81, 3) := by decide +kernel
theorem dX5_undo_20 : decode cX5_undo 20 = .ok (.iconst 0, 1) := by decide +kernel
theorem dX5_undo_21 : decode cX5_undo 21 = .ok (.istore_n 1, 1) := by decide +kernel
theorem dX5_undo_22 : decode cX5_undo 22 = .ok (.iload_n 1, 1) := by decide +kernel
theorem dX5_undo_23 : decode cX5_undo 23 = .ok (.bipush 22, 2) := by decide +kernel
theorem dX5_undo_25 : decode cX5_undo 25 = .ok (.if_icmp .ge 29, 3) := by decide +kernel
theorem dX5_undo_28 : decode cX5_undo 28 = .ok (.aload_n 0, 1) := by decide +kernel
theorem dX5_undo_29 : decode cX5_undo 29 = .ok (.getfield 19, 3) := by decide +kernel
theorem dX5_undo_32 : decode cX5_undo 32 = .ok (.iload_n 1, 1) := by decide +kernel
theorem dX5_undo_33 : decode cX5_undo 33 = .ok (.aload_n 0, 1) := by decide +kernel
theorem dX5_undo_34 : decode cX5_undo 34 = .ok (.getfield 22, 3) := by decide +kernel
theorem dX5_undo_37 : decode cX5_undo 37 = .ok (.bipush 22, 2) := by decide +kernel
theorem dX5_undo_39 : decode cX5_undo 39 = .ok (.aload_n 0, 1) := by decide +kernel
theorem dX5_undo_40 : decode cX5_undo 40 = .ok (.getfield 81, 3) := by decide +kernel
theorem dX5_undo_43 : decode cX5_undo 43 = .ok (.imul, 1) := by decide +kernel
theorem dX5_undo_44 : decode cX5_undo 44 = .ok (.iload_n 1, 1) := by decide +kernel
theorem dX5_undo_45 : decode cX5_undo 45 = .ok (.iadd, 1) := by decide +kernel
theorem dX5_undo_46 : decode cX5_undo 46 = .ok (.iaload, 1) := by decide +kernel
theorem dX5_undo_47 : decode cX5_undo 47 = .ok (.iastore, 1) := by decide +kernel
theorem dX5_undo_48 : decode cX5_undo 48 = .ok (.iinc 1 1, 3) := by decide +kernel
theorem dX5_undo_51 : decode cX5_undo 51 = .ok (.goto (-29), 3) := by decide +kernel
theorem dX5_undo_54 : decode cX5_undo 54 = .ok (.aload_n 0, 1) := by decide +kernel
theorem dX5_undo_55 : decode cX5_undo 55 = .ok (.getfield 81, 3) := by decide +kernel
theorem dX5_undo_58 : decode cX5_undo 58 = .ok (.ireturn, 1) := by decide +kernel
theorem dX5_who_0 : decode cX5_who 0 = .ok (.iload_n 1, 1) := by decide +kernel
theorem dX5_who_1 : decode cX5_who 1 = .ok (.iconst 0, 1) := by decide +kernel
theorem dX5_who_2 : decode cX5_who 2 = .ok (.iconst 2, 1) := by decide +kernel
theorem dX5_who_3 : decode cX5_who 3 = .ok (.invokestatic 45, 3) := by decide +kernel
theorem dX5_who_6 : decode cX5_who 6 = .ok (.ifCond .ne 5, 3) := by decide +kernel
theorem dX5_who_9 : decode cX5_who 9 = .ok (.iconst (-1), 1) := by decide +kernel
theorem dX5_who_10 : decode cX5_who 10 = .ok (.ireturn, 1) := by decide +kernel
theorem dX5_who_11 : decode cX5_who 11 = .ok (.iconst 1, 1) := by decide +kernel
theorem dX5_who_12 : decode cX5_who 12 = .ok (.aload_n 0, 1) := by decide +kernel
theorem dX5_who_13 : decode cX5_who 13 = .ok (.getfield 13, 3) := by decide +kernel
theorem dX5_who_16 : decode cX5_who 16 = .ok (.iconst 0, 1) := by decide +kernel
theorem dX5_who_17 : decode cX5_who 17 = .ok (.iaload, 1) := by decide +kernel
theorem dX5_who_18 : decode cX5_who 18 = .ok (.ishl, 1) := by decide +kernel
theorem dX5_who_19 : decode cX5_who 19 = .ok (.iconst 1, 1) := by decide +kernel
theorem dX5_who_20 : decode cX5_who 20 = .ok (.isub, 1) := by decide +kernel
theorem dX5_who_21 : decode cX5_who 21 = .ok (.istore_n 2, 1) := by decide +kernel
theorem dX5_who_22 : decode cX5_who 22 = .ok (.iload_n 1, 1) := by decide +kernel
theorem dX5_who_23 : decode cX5_who 23 = .ok (.ifCond .ne 10, 3) := by decide +kernel
theorem dX5_who_26 : decode cX5_who 26 = .ok (.aload_n 0, 1) := by decide +kernel
theorem dX5_who_27 : decode cX5_who 27 = .ok (.invokevirtual 144, 3) := by decide +kernel
theorem dX5_who_30 : decode cX5_who 30 = .ok (.goto 42, 3) := by decide +kernel
theorem dX5_who_33 : decode cX5_who 33 = .ok (.iload_n 1, 1) := by decide +kernel
theorem dX5_who_34 : decode cX5_who 34 = .ok (.iconst 1, 1) := by decide +kernel
theorem dX5_who_35 : decode cX5_who 35 = .ok (.if_icmp .ne 30, 3) := by decide +kernel
theorem dX5_who_38 : decode cX5_who 38 = .ok (.aload_n 0, 1) := by decide +kernel
theorem dX5_who_39 : decode cX5_who 39 = .ok (.getfield 19, 3) := by decide +kernel
theorem dX5_who_42 : decode cX5_who 42 = .ok (.bipush 20, 2) := by decide +kernel
theorem dX5_who_44 : decode cX5_who 44 = .ok (.iaload, 1) := by decide +kernel
theorem dX5_who_45 : decode cX5_who 45 = .ok (.aload_n 0, 1) := by decide +kernel
theorem dX5_who_46 : decode cX5_who 46 = .ok (.getfield 19, 3) := by decide +kernel
theorem dX5_who_49 : decode cX5_who 49 = .ok (.bipush 21, 2) := by decide +kernel
theorem dX5_who_51 : decode cX5_who 51 = .ok (.iaload, 1) := by decide +kernel
theorem dX5_who_52 : decode cX5_who 52 = .ok (.ior, 1) := by decide +kernel
theorem dX5_who_53 : decode cX5_who 53 = .ok (.iload_n 2, 1) := by decide +kernel
theorem dX5_who_54 : decode cX5_who 54 = .ok (.iand, 1) := by decide +kernel
theorem dX5_who_55 : decode cX5_who 55 = .ok (.aload_n 0, 1) := by decide +kernel
theorem dX5_who_56 : decode cX5_who 56 = .ok (.invokevirtual 144, 3) := by decide +kernel
theorem dX5_who_59 : decode cX5_who 59 = .ok (.iconst (-1), 1) := by decide +kernel
theorem dX5_who_60 : decode cX5_who 60 = .ok (.ixor, 1) := by decide +kernel
theorem dX5_who_61 : decode cX5_who 61 = .ok (.iand, 1) := by decide +kernel
theorem dX5_who_62 : decode cX5_who 62 = .ok (.goto 10, 3) := by decide +kernel
theorem dX5_who_65 : decode cX5_who 65 = .ok (.aload_n 0, 1) := by decide +kernel
theorem dX5_who_66 : decode cX5_who 66 = .ok (.getfield 19, 3) := by decide +kernel
theorem dX5_who_69 : decode cX5_who 69 = .ok (.bipush 20, 2) := by decide +kernel
theorem dX5_who_71 : decode cX5_who 71 = .ok (.iaload, 1) := by decide +kernel
theorem dX5_who_72 : decode cX5_who 72 = .ok (.ireturn, 1) := by decide +kernel
theorem dX5_follows_0 : decode cX5_follows 0 = .ok (.aload_n 0, 1) := by decide +kernel
theorem dX5_follows_1 : decode cX5_follows 1 = .ok (.iload_n 1, 1) := by decide +kernel
theorem dX5_follows_2 : decode cX5_follows 2 = .ok (.invokevirtual 87, 3) := by decide +kernel
theorem dX5_follows_5 : decode cX5_follows 5 = .ok (.ifCond .ne 7, 3) := by decide +kernel
theorem dX5_follows_8 : decode cX5_follows 8 = .ok (.iconst (-1), 1) := by decide +kernel
theorem dX5_follows_9 : decode cX5_follows 9 = .ok (.goto 23, 3) := by decide +kernel
theorem dX5_follows_12 : decode cX5_follows 12 = .ok (.aload_n 0, 1) := by decide +kernel
theorem dX5_follows_13 : decode cX5_follows 13 = .ok (.getfield 19, 3) := by decide +kernel
theorem dX5_follows_16 : decode cX5_follows 16 = .ok (.bipush 16, 2) := by decide +kernel
theorem dX5_follows_18 : decode cX5_follows 18 = .ok (.iaload, 1) := by decide +kernel
theorem dX5_follows_19 : decode cX5_follows 19 = .ok (.iconst 1, 1) := by decide +kernel
theorem dX5_follows_20 : decode cX5_follows 20 = .ok (.if_icmp .ne 7, 3) := by decide +kernel
theorem dX5_follows_23 : decode cX5_follows 23 = .ok (.iload_n 1, 1) := by decide +kernel
theorem dX5_follows_24 : decode cX5_follows 24 = .ok (.goto 8, 3) := by decide +kernel
theorem dX5_follows_27 : decode cX5_follows 27 = .ok (.aload_n 0, 1) := by decide +kernel
theorem dX5_follows_28 : decode cX5_follows 28 = .ok (.iload_n 1, 1) := by decide +kernel
theorem dX5_follows_29 : decode cX5_follows 29 = .ok (.invokevirtual 99, 3) := by decide +kernel
theorem dX5_follows_32 : decode cX5_follows 32 = .ok (.ireturn, 1) := by decide +kernel
theorem dX5_runs_0 : decode cX5_runs 0 = .ok (.aload_n 0, 1) := by decide +kernel
theorem dX5_runs_1 : decode cX5_runs 1 = .ok (.iload_n 1, 1) := by decide +kernel
theorem dX5_runs_2 : decode cX5_runs 2 = .ok (.invokevirtual 87, 3) := by decide +kernel
theorem dX5_runs_5 : decode cX5_runs 5 = .ok (.ifCond .ne 5, 3) := by decide +kernel
theorem dX5_runs_8 : decode cX5_runs 8 = .ok (.iconst (-1), 1) := by decide +kernel
theorem dX5_runs_9 : decode cX5_runs 9 = .ok (.ireturn, 1) := by decide +kernel
theorem dX5_runs_10 : decode cX5_runs 10 = .ok (.iconst 0, 1) := by decide +kernel
theorem dX5_runs_11 : decode cX5_runs 11 = .ok (.istore_n 2, 1) := by decide +kernel
theorem dX5_runs_12 : decode cX5_runs 12 = .ok (.iconst 0, 1) := by decide +kernel
theorem dX5_runs_13 : decode cX5_runs 13 = .ok (.istore_n 3, 1) := by decide +kernel
theorem dX5_runs_14 : decode cX5_runs 14 = .ok (.iload_n 3, 1) := by decide +kernel
theorem dX5_runs_15 : decode cX5_runs 15 = .ok (.aload_n 0, 1) := by decide +kernel
theorem dX5_runs_16 : decode cX5_runs 16 = .ok (.getfield 13, 3) := by decide +kernel
theorem dX5_runs_19 : decode cX5_runs 19 = .ok (.iconst 0, 1) := by decide +kernel
theorem dX5_runs_20 : decode cX5_runs 20 = .ok (.iaload, 1) := by decide +kernel
theorem dX5_runs_21 : decode cX5_runs 21 = .ok (.if_icmp .ge 31, 3) := by decide +kernel
theorem dX5_runs_24 : decode cX5_runs 24 = .ok (.iload_n 2, 1) := by decide +kernel
theorem dX5_runs_25 : decode cX5_runs 25 = .ok (.iload_n 3, 1) := by decide +kernel
theorem dX5_runs_26 : decode cX5_runs 26 = .ok (.iload_n 1, 1) := by decide +kernel
theorem dX5_runs_27 : decode cX5_runs 27 = .ok (.if_icmp .eq 16, 3) := by decide +kernel
theorem dX5_runs_30 : decode cX5_runs 30 = .ok (.aload_n 0, 1) := by decide +kernel
theorem dX5_runs_31 : decode cX5_runs 31 = .ok (.iload_n 3, 1) := by decide +kernel
theorem dX5_runs_32 : decode cX5_runs 32 = .ok (.invokevirtual 99, 3) := by decide +kernel
theorem dX5_runs_35 : decode cX5_runs 35 = .ok (.iload_n 1, 1) := by decide +kernel
theorem dX5_runs_36 : decode cX5_runs 36 = .ok (.if_icmp .ne 7, 3) := by decide +kernel
theorem dX5_runs_39 : decode cX5_runs 39 = .ok (.iconst 1, 1) := by decide +kernel
theorem dX5_runs_40 : decode cX5_runs 40 = .ok (.goto 4, 3) := by decide +kernel
theorem dX5_runs_43 : decode cX5_runs 43 = .ok (.iconst 0, 1) := by decide +kernel
theorem dX5_runs_44 : decode cX5_runs 44 = .ok (.iadd, 1) := by decide +kernel
theorem dX5_runs_45 : decode cX5_runs 45 = .ok (.istore_n 2, 1) := by decide +kernel
theorem dX5_runs_46 : decode cX5_runs 46 = .ok (.iinc 3 1, 3) := by decide +kernel
theorem dX5_runs_49 : decode cX5_runs 49 = .ok (.goto (-35), 3) := by decide +kernel
theorem dX5_runs_52 : decode cX5_runs 52 = .ok (.iload_n 2, 1) := by decide +kernel
theorem dX5_runs_53 : decode cX5_runs 53 = .ok (.ireturn, 1) := by decide +kernel
theorem dX5_most_0 : decode cX5_most 0 = .ok (.iload_n 1, 1) := by decide +kernel
theorem dX5_most_1 : decode cX5_most 1 = .ok (.iconst 0, 1) := by decide +kernel
theorem dX5_most_2 : decode cX5_most 2 = .ok (.iconst 1, 1) := by decide +kernel
theorem dX5_most_3 : decode cX5_most 3 = .ok (.invokestatic 45, 3) := by decide +kernel
theorem dX5_most_6 : decode cX5_most 6 = .ok (.ifCond .ne 5, 3) := by decide +kernel
theorem dX5_most_9 : decode cX5_most 9 = .ok (.iconst (-1), 1) := by decide +kernel
theorem dX5_most_10 : decode cX5_most 10 = .ok (.ireturn, 1) := by decide +kernel
theorem dX5_most_11 : decode cX5_most 11 = .ok (.iconst 0, 1) := by decide +kernel
theorem dX5_most_12 : decode cX5_most 12 = .ok (.istore_n 2, 1) := by decide +kernel
theorem dX5_most_13 : decode cX5_most 13 = .ok (.iconst (-1), 1) := by decide +kernel
theorem dX5_most_14 : decode cX5_most 14 = .ok (.istore_n 3, 1) := by decide +kernel
theorem dX5_most_15 : decode cX5_most 15 = .ok (.iconst 0, 1) := by decide +kernel
theorem dX5_most_16 : decode cX5_most 16 = .ok (.istore 4, 2) := by decide +kernel
theorem dX5_most_18 : decode cX5_most 18 = .ok (.iload 4, 2) := by decide +kernel
theorem dX5_most_20 : decode cX5_most 20 = .ok (.iconst 4, 1) := by decide +kernel
theorem dX5_most_21 : decode cX5_most 21 = .ok (.if_icmp .ge 80, 3) := by decide +kernel
theorem dX5_most_24 : decode cX5_most 24 = .ok (.iconst 0, 1) := by decide +kernel
theorem dX5_most_25 : decode cX5_most 25 = .ok (.istore 5, 2) := by decide +kernel
theorem dX5_most_27 : decode cX5_most 27 = .ok (.iconst 0, 1) := by decide +kernel
theorem dX5_most_28 : decode cX5_most 28 = .ok (.istore 6, 2) := by decide +kernel
theorem dX5_most_30 : decode cX5_most 30 = .ok (.iload 6, 2) := by decide +kernel
theorem dX5_most_32 : decode cX5_most 32 = .ok (.aload_n 0, 1) := by decide +kernel
theorem dX5_most_33 : decode cX5_most 33 = .ok (.getfield 13, 3) := by decide +kernel
theorem dX5_most_36 : decode cX5_most 36 = .ok (.iconst 0, 1) := by decide +kernel
theorem dX5_most_37 : decode cX5_most 37 = .ok (.iaload, 1) := by decide +kernel
theorem dX5_most_38 : decode cX5_most 38 = .ok (.if_icmp .ge 31, 3) := by decide +kernel
theorem dX5_most_41 : decode cX5_most 41 = .ok (.iload 5, 2) := by decide +kernel
theorem dX5_most_43 : decode cX5_most 43 = .ok (.aload_n 0, 1) := by decide +kernel
theorem dX5_most_44 : decode cX5_most 44 = .ok (.getfield 19, 3) := by decide +kernel
theorem dX5_most_47 : decode cX5_most 47 = .ok (.iload 6, 2) := by decide +kernel
theorem dX5_most_49 : decode cX5_most 49 = .ok (.iaload, 1) := by decide +kernel
theorem dX5_most_50 : decode cX5_most 50 = .ok (.iload 4, 2) := by decide +kernel
theorem dX5_most_52 : decode cX5_most 52 = .ok (.if_icmp .ne 7, 3) := by decide +kernel
theorem dX5_most_55 : decode cX5_most 55 = .ok (.iconst 1, 1) := by decide +kernel
theorem dX5_most_56 : decode cX5_most 56 = .ok (.goto 4, 3) := by decide +kernel
theorem dX5_most_59 : decode cX5_most 59 = .ok (.iconst 0, 1) := by decide +kernel
theorem dX5_most_60 : decode cX5_most 60 = .ok (.iadd, 1) := by decide +kernel
theorem dX5_most_61 : decode cX5_most 61 = .ok (.istore 5, 2) := by decide +kernel
theorem dX5_most_63 : decode cX5_most 63 = .ok (.iinc 6 1, 3) := by decide +kernel
theorem dX5_most_66 : decode cX5_most 66 = .ok (.goto (-36), 3) := by decide +kernel
theorem dX5_most_69 : decode cX5_most 69 = .ok (.iload 5, 2) := by decide +kernel
theorem dX5_most_71 : decode cX5_most 71 = .ok (.iload_n 3, 1) := by decide +kernel
theorem dX5_most_72 : decode cX5_most 72 = .ok (.if_icmp .le 8, 3) := by decide +kernel
theorem dX5_most_75 : decode cX5_most 75 = .ok (.iload 4, 2) := by decide +kernel
theorem dX5_most_77 : decode cX5_most 77 = .ok (.goto 4, 3) := by decide +kernel
theorem dX5_most_80 : decode cX5_most 80 = .ok (.iload_n 2, 1) := by decide +kernel
theorem dX5_most_81 : decode cX5_most 81 = .ok (.istore_n 2, 1) := by decide +kernel
theorem dX5_most_82 : decode cX5_most 82 = .ok (.iload 5, 2) := by decide +kernel
theorem dX5_most_84 : decode cX5_most 84 = .ok (.iload_n 3, 1) := by decide +kernel
theorem dX5_most_85 : decode cX5_most 85 = .ok (.if_icmp .le 8, 3) := by decide +kernel
theorem dX5_most_88 : decode cX5_most 88 = .ok (.iload 5, 2) := by decide +kernel
theorem dX5_most_90 : decode cX5_most 90 = .ok (.goto 4, 3) := by decide +kernel
theorem dX5_most_93 : decode cX5_most 93 = .ok (.iload_n 3, 1) := by decide +kernel
theorem dX5_most_94 : decode cX5_most 94 = .ok (.istore_n 3, 1) := by decide +kernel
theorem dX5_most_95 : decode cX5_most 95 = .ok (.iinc 4 1, 3) := by decide +kernel
theorem dX5_most_98 : decode cX5_most 98 = .ok (.goto (-80), 3) := by decide +kernel
theorem dX5_most_101 : decode cX5_most 101 = .ok (.iload_n 1, 1) := by decide +kernel
theorem dX5_most_102 : decode cX5_most 102 = .ok (.ifCond .ne 7, 3) := by decide +kernel
theorem dX5_most_105 : decode cX5_most 105 = .ok (.iload_n 2, 1) := by decide +kernel
theorem dX5_most_106 : decode cX5_most 106 = .ok (.goto 4, 3) := by decide +kernel
theorem dX5_most_109 : decode cX5_most 109 = .ok (.iload_n 3, 1) := by decide +kernel
theorem dX5_most_110 : decode cX5_most 110 = .ok (.ireturn, 1) := by decide +kernel
theorem dX5_groups_0 : decode cX5_groups 0 = .ok (.iload_n 1, 1) := by decide +kernel
theorem dX5_groups_1 : decode cX5_groups 1 = .ok (.iconst 0, 1) := by decide +kernel
theorem dX5_groups_2 : decode cX5_groups 2 = .ok (.iconst 1, 1) := by decide +kernel
theorem dX5_groups_3 : decode cX5_groups 3 = .ok (.invokestatic 45, 3) := by decide +kernel
theorem dX5_groups_6 : decode cX5_groups 6 = .ok (.ifCond .ne 5, 3) := by decide +kernel
theorem dX5_groups_9 : decode cX5_groups 9 = .ok (.iconst (-1), 1) := by decide +kernel
theorem dX5_groups_10 : decode cX5_groups 10 = .ok (.ireturn, 1) := by decide +kernel
theorem dX5_groups_11 : decode cX5_groups 11 = .ok (.iconst 0, 1) := by decide +kernel
theorem dX5_groups_12 : decode cX5_groups 12 = .ok (.istore_n 2, 1) := by decide +kernel
theorem dX5_groups_13 : decode cX5_groups 13 = .ok (.iconst 0, 1) := by decide +kernel
theorem dX5_groups_14 : decode cX5_groups 14 = .ok (.istore_n 3, 1) := by decide +kernel
theorem dX5_groups_15 : decode cX5_groups 15 = .ok (.iconst 0, 1) := by decide +kernel
theorem dX5_groups_16 : decode cX5_groups 16 = .ok (.istore 4, 2) := by decide +kernel
theorem dX5_groups_18 : decode cX5_groups 18 = .ok (.iconst 0, 1) := by decide +kernel
theorem dX5_groups_19 : decode cX5_groups 19 = .ok (.istore 5, 2) := by decide +kernel
theorem dX5_groups_21 : decode cX5_groups 21 = .ok (.iload 5, 2) := by decide +kernel
theorem dX5_groups_23 : decode cX5_groups 23 = .ok (.aload_n 0, 1) := by decide +kernel
theorem dX5_groups_24 : decode cX5_groups 24 = .ok (.getfield 13, 3) := by decide +kernel
theorem dX5_groups_27 : decode cX5_groups 27 = .ok (.iconst 0, 1) := by decide +kernel
theorem dX5_groups_28 : decode cX5_groups 28 = .ok (.iaload, 1) := by decide +kernel
theorem dX5_groups_29 : decode cX5_groups 29 = .ok (.if_icmp .ge 70, 3) := by decide +kernel
theorem dX5_groups_32 : decode cX5_groups 32 = .ok (.iload 5, 2) := by decide +kernel
theorem dX5_groups_34 : decode cX5_groups 34 = .ok (.ifCond .le 29, 3) := by decide +kernel
theorem dX5_groups_37 : decode cX5_groups 37 = .ok (.aload_n 0, 1) := by decide +kernel
theorem dX5_groups_38 : decode cX5_groups 38 = .ok (.getfield 19, 3) := by decide +kernel
theorem dX5_groups_41 : decode cX5_groups 41 = .ok (.iload 5, 2) := by decide +kernel
theorem dX5_groups_43 : decode cX5_groups 43 = .ok (.iaload, 1) := by decide +kernel
theorem dX5_groups_44 : decode cX5_groups 44 = .ok (.aload_n 0, 1) := by decide +kernel
theorem dX5_groups_45 : decode cX5_groups 45 = .ok (.getfield 19, 3) := by decide +kernel
theorem dX5_groups_48 : decode cX5_groups 48 = .ok (.iload 5, 2) := by decide +kernel
theorem dX5_groups_50 : decode cX5_groups 50 = .ok (.iconst 1, 1) := by decide +kernel
theorem dX5_groups_51 : decode cX5_groups 51 = .ok (.isub, 1) := by decide +kernel
theorem dX5_groups_52 : decode cX5_groups 52 = .ok (.iaload, 1) := by decide +kernel
theorem dX5_groups_53 : decode cX5_groups 53 = .ok (.if_icmp .ne 10, 3) := by decide +kernel
theorem dX5_groups_56 : decode cX5_groups 56 = .ok (.iload 4, 2) := by decide +kernel
theorem dX5_groups_58 : decode cX5_groups 58 = .ok (.iconst 1, 1) := by decide +kernel
theorem dX5_groups_59 : decode cX5_groups 59 = .ok (.iadd, 1) := by decide +kernel
theorem dX5_groups_60 : decode cX5_groups 60 = .ok (.goto 4, 3) := by decide +kernel
theorem dX5_groups_63 : decode cX5_groups 63 = .ok (.iconst 1, 1) := by decide +kernel
theorem dX5_groups_64 : decode cX5_groups 64 = .ok (.istore 4, 2) := by decide +kernel
theorem dX5_groups_66 : decode cX5_groups 66 = .ok (.iload_n 2, 1) := by decide +kernel
theorem dX5_groups_67 : decode cX5_groups 67 = .ok (.iload 4, 2) := by decide +kernel
theorem dX5_groups_69 : decode cX5_groups 69 = .ok (.iconst 1, 1) := by decide +kernel
theorem dX5_groups_70 : decode cX5_groups 70 = .ok (.if_icmp .ne 7, 3) := by decide +kernel
theorem dX5_groups_73 : decode cX5_groups 73 = .ok (.iconst 1, 1) := by decide +kernel
theorem dX5_groups_74 : decode cX5_groups 74 = .ok (.goto 4, 3) := by decide +kernel
theorem dX5_groups_77 : decode cX5_groups 77 = .ok (.iconst 0, 1) := by decide +kernel
theorem dX5_groups_78 : decode cX5_groups 78 = .ok (.iadd, 1) := by decide +kernel
theorem dX5_groups_79 : decode cX5_groups 79 = .ok (.istore_n 2, 1) := by decide +kernel
theorem dX5_groups_80 : decode cX5_groups 80 = .ok (.iload 4, 2) := by decide +kernel
theorem dX5_groups_82 : decode cX5_groups 82 = .ok (.iload_n 3, 1) := by decide +kernel
theorem dX5_groups_83 : decode cX5_groups 83 = .ok (.if_icmp .le 8, 3) := by decide +kernel
theorem dX5_groups_86 : decode cX5_groups 86 = .ok (.iload 4, 2) := by decide +kernel
theorem dX5_groups_88 : decode cX5_groups 88 = .ok (.goto 4, 3) := by decide +kernel
theorem dX5_groups_91 : decode cX5_groups 91 = .ok (.iload_n 3, 1) := by decide +kernel
theorem dX5_groups_92 : decode cX5_groups 92 = .ok (.istore_n 3, 1) := by decide +kernel
theorem dX5_groups_93 : decode cX5_groups 93 = .ok (.iinc 5 1, 3) := by decide +kernel
theorem dX5_groups_96 : decode cX5_groups 96 = .ok (.goto (-75), 3) := by decide +kernel
theorem dX5_groups_99 : decode cX5_groups 99 = .ok (.iload_n 1, 1) := by decide +kernel
theorem dX5_groups_100 : decode cX5_groups 100 = .ok (.ifCond .ne 7, 3) := by decide +kernel
theorem dX5_groups_103 : decode cX5_groups 103 = .ok (.iload_n 2, 1) := by decide +kernel
theorem dX5_groups_104 : decode cX5_groups 104 = .ok (.goto 4, 3) := by decide +kernel
theorem dX5_groups_107 : decode cX5_groups 107 = .ok (.iload_n 3, 1) := by decide +kernel
theorem dX5_groups_108 : decode cX5_groups 108 = .ok (.ireturn, 1) := by decide +kernel
theorem dX5_holds_0 : decode cX5_holds 0 = .ok (.iconst 0, 1) := by decide +kernel
theorem dX5_holds_1 : decode cX5_holds 1 = .ok (.istore_n 1, 1) := by decide +kernel
theorem dX5_holds_2 : decode cX5_holds 2 = .ok (.iload_n 1, 1) := by decide +kernel
theorem dX5_holds_3 : decode cX5_holds 3 = .ok (.bipush 22, 2) := by decide +kernel
theorem dX5_holds_5 : decode cX5_holds 5 = .ok (.if_icmp .ge 21, 3) := by decide +kernel
theorem dX5_holds_8 : decode cX5_holds 8 = .ok (.aload_n 0, 1) := by decide +kernel
theorem dX5_holds_9 : decode cX5_holds 9 = .ok (.getfield 32, 3) := by decide +kernel
theorem dX5_holds_12 : decode cX5_holds 12 = .ok (.iload_n 1, 1) := by decide +kernel
theorem dX5_holds_13 : decode cX5_holds 13 = .ok (.aload_n 0, 1) := by decide +kernel
theorem dX5_holds_14 : decode cX5_holds 14 = .ok (.getfield 19, 3) := by decide +kernel
theorem dX5_holds_17 : decode cX5_holds 17 = .ok (.iload_n 1, 1) := by decide +kernel
theorem dX5_holds_18 : decode cX5_holds 18 = .ok (.iaload, 1) := by decide +kernel
theorem dX5_holds_19 : decode cX5_holds 19 = .ok (.iastore, 1) := by decide +kernel
theorem dX5_holds_20 : decode cX5_holds 20 = .ok (.iinc 1 1, 3) := by decide +kernel
theorem dX5_holds_23 : decode cX5_holds 23 = .ok (.goto (-21), 3) := by decide +kernel
theorem dX5_holds_26 : decode cX5_holds 26 = .ok (.return_, 1) := by decide +kernel
theorem dX5_lets_0 : decode cX5_lets 0 = .ok (.iconst 0, 1) := by decide +kernel
theorem dX5_lets_1 : decode cX5_lets 1 = .ok (.istore_n 1, 1) := by decide +kernel
theorem dX5_lets_2 : decode cX5_lets 2 = .ok (.iload_n 1, 1) := by decide +kernel
theorem dX5_lets_3 : decode cX5_lets 3 = .ok (.bipush 22, 2) := by decide +kernel
theorem dX5_lets_5 : decode cX5_lets 5 = .ok (.if_icmp .ge 21, 3) := by decide +kernel
theorem dX5_lets_8 : decode cX5_lets 8 = .ok (.aload_n 0, 1) := by decide +kernel
theorem dX5_lets_9 : decode cX5_lets 9 = .ok (.getfield 19, 3) := by decide +kernel
theorem dX5_lets_12 : decode cX5_lets 12 = .ok (.iload_n 1, 1) := by decide +kernel
theorem dX5_lets_13 : decode cX5_lets 13 = .ok (.aload_n 0, 1) := by decide +kernel
theorem dX5_lets_14 : decode cX5_lets 14 = .ok (.getfield 32, 3) := by decide +kernel
theorem dX5_lets_17 : decode cX5_lets 17 = .ok (.iload_n 1, 1) := by decide +kernel
theorem dX5_lets_18 : decode cX5_lets 18 = .ok (.iaload, 1) := by decide +kernel
theorem dX5_lets_19 : decode cX5_lets 19 = .ok (.iastore, 1) := by decide +kernel
theorem dX5_lets_20 : decode cX5_lets 20 = .ok (.iinc 1 1, 3) := by decide +kernel
theorem dX5_lets_23 : decode cX5_lets 23 = .ok (.goto (-21), 3) := by decide +kernel
theorem dX5_lets_26 : decode cX5_lets 26 = .ok (.return_, 1) := by decide +kernel
theorem dX5_isOneWay_0 : decode cX5_isOneWay 0 = .ok (.iconst 1, 1) := by decide +kernel
theorem dX5_isOneWay_1 : decode cX5_isOneWay 1 = .ok (.istore_n 1, 1) := by decide +kernel
theorem dX5_isOneWay_2 : decode cX5_isOneWay 2 = .ok (.iconst 1, 1) := by decide +kernel
theorem dX5_isOneWay_3 : decode cX5_isOneWay 3 = .ok (.istore_n 2, 1) := by decide +kernel
theorem dX5_isOneWay_4 : decode cX5_isOneWay 4 = .ok (.iload_n 2, 1) := by decide +kernel
theorem dX5_isOneWay_5 : decode cX5_isOneWay 5 = .ok (.aload_n 0, 1) := by decide +kernel
theorem dX5_isOneWay_6 : decode cX5_isOneWay 6 = .ok (.getfield 13, 3) := by decide +kernel
theorem dX5_isOneWay_9 : decode cX5_isOneWay 9 = .ok (.iconst 0, 1) := by decide +kernel
theorem dX5_isOneWay_10 : decode cX5_isOneWay 10 = .ok (.iaload, 1) := by decide +kernel
theorem dX5_isOneWay_11 : decode cX5_isOneWay 11 = .ok (.if_icmp .ge 34, 3) := by decide +kernel
theorem dX5_isOneWay_14 : decode cX5_isOneWay 14 = .ok (.iload_n 1, 1) := by decide +kernel
theorem dX5_isOneWay_15 : decode cX5_isOneWay 15 = .ok (.ifCond .eq 22, 3) := by decide +kernel
theorem dX5_isOneWay_18 : decode cX5_isOneWay 18 = .ok (.aload_n 0, 1) := by decide +kernel
theorem dX5_isOneWay_19 : decode cX5_isOneWay 19 = .ok (.getfield 19, 3) := by decide +kernel
theorem dX5_isOneWay_22 : decode cX5_isOneWay 22 = .ok (.iload_n 2, 1) := by decide +kernel
theorem dX5_isOneWay_23 : decode cX5_isOneWay 23 = .ok (.iaload, 1) := by decide +kernel
theorem dX5_isOneWay_24 : decode cX5_isOneWay 24 = .ok (.aload_n 0, 1) := by decide +kernel
theorem dX5_isOneWay_25 : decode cX5_isOneWay 25 = .ok (.getfield 19, 3) := by decide +kernel
theorem dX5_isOneWay_28 : decode cX5_isOneWay 28 = .ok (.iconst 0, 1) := by decide +kernel
theorem dX5_isOneWay_29 : decode cX5_isOneWay 29 = .ok (.iaload, 1) := by decide +kernel
theorem dX5_isOneWay_30 : decode cX5_isOneWay 30 = .ok (.if_icmp .ne 7, 3) := by decide +kernel
theorem dX5_isOneWay_33 : decode cX5_isOneWay 33 = .ok (.iconst 1, 1) := by decide +kernel
theorem dX5_isOneWay_34 : decode cX5_isOneWay 34 = .ok (.goto 4, 3) := by decide +kernel
theorem dX5_isOneWay_37 : decode cX5_isOneWay 37 = .ok (.iconst 0, 1) := by decide +kernel
theorem dX5_isOneWay_38 : decode cX5_isOneWay 38 = .ok (.istore_n 1, 1) := by decide +kernel
theorem dX5_isOneWay_39 : decode cX5_isOneWay 39 = .ok (.iinc 2 1, 3) := by decide +kernel
theorem dX5_isOneWay_42 : decode cX5_isOneWay 42 = .ok (.goto (-38), 3) := by decide +kernel
theorem dX5_isOneWay_45 : decode cX5_isOneWay 45 = .ok (.iload_n 1, 1) := by decide +kernel
theorem dX5_isOneWay_46 : decode cX5_isOneWay 46 = .ok (.ireturn, 1) := by decide +kernel
theorem dX5_rows_0 : decode cX5_rows 0 = .ok (.aload_n 0, 1) := by decide +kernel
theorem dX5_rows_1 : decode cX5_rows 1 = .ok (.invokevirtual 153, 3) := by decide +kernel
theorem dX5_rows_4 : decode cX5_rows 4 = .ok (.iconst 0, 1) := by decide +kernel
theorem dX5_rows_5 : decode cX5_rows 5 = .ok (.istore_n 2, 1) := by decide +kernel
theorem dX5_rows_6 : decode cX5_rows 6 = .ok (.iconst 1, 1) := by decide +kernel
theorem dX5_rows_7 : decode cX5_rows 7 = .ok (.istore_n 3, 1) := by decide +kernel
theorem dX5_rows_8 : decode cX5_rows 8 = .ok (.iconst 0, 1) := by decide +kernel
theorem dX5_rows_9 : decode cX5_rows 9 = .ok (.istore 4, 2) := by decide +kernel
theorem dX5_rows_11 : decode cX5_rows 11 = .ok (.iload 4, 2) := by decide +kernel
theorem dX5_rows_13 : decode cX5_rows 13 = .ok (.iload_n 1, 1) := by decide +kernel
theorem dX5_rows_14 : decode cX5_rows 14 = .ok (.if_icmp .ge 13, 3) := by decide +kernel
theorem dX5_rows_17 : decode cX5_rows 17 = .ok (.iload_n 3, 1) := by decide +kernel
theorem dX5_rows_18 : decode cX5_rows 18 = .ok (.iconst 3, 1) := by decide +kernel
theorem dX5_rows_19 : decode cX5_rows 19 = .ok (.imul, 1) := by decide +kernel
theorem dX5_rows_20 : decode cX5_rows 20 = .ok (.istore_n 3, 1) := by decide +kernel
theorem dX5_rows_21 : decode cX5_rows 21 = .ok (.iinc 4 1, 3) := by decide +kernel
theorem dX5_rows_24 : decode cX5_rows 24 = .ok (.goto (-13), 3) := by decide +kernel
theorem dX5_rows_27 : decode cX5_rows 27 = .ok (.iconst 0, 1) := by decide +kernel
theorem dX5_rows_28 : decode cX5_rows 28 = .ok (.istore 4, 2) := by decide +kernel
theorem dX5_rows_30 : decode cX5_rows 30 = .ok (.iload 4, 2) := by decide +kernel
theorem dX5_rows_32 : decode cX5_rows 32 = .ok (.iload_n 3, 1) := by decide +kernel
theorem dX5_rows_33 : decode cX5_rows 33 = .ok (.if_icmp .ge 94, 3) := by decide +kernel
theorem dX5_rows_36 : decode cX5_rows 36 = .ok (.iload_n 3, 1) := by decide +kernel
theorem dX5_rows_37 : decode cX5_rows 37 = .ok (.istore 5, 2) := by decide +kernel
theorem dX5_rows_39 : decode cX5_rows 39 = .ok (.iconst 0, 1) := by decide +kernel
theorem dX5_rows_40 : decode cX5_rows 40 = .ok (.istore 6, 2) := by decide +kernel
theorem dX5_rows_42 : decode cX5_rows 42 = .ok (.iload 6, 2) := by decide +kernel
theorem dX5_rows_44 : decode cX5_rows 44 = .ok (.iload_n 1, 1) := by decide +kernel
theorem dX5_rows_45 : decode cX5_rows 45 = .ok (.if_icmp .ge 31, 3) := by decide +kernel
theorem dX5_rows_48 : decode cX5_rows 48 = .ok (.iload 5, 2) := by decide +kernel
theorem dX5_rows_50 : decode cX5_rows 50 = .ok (.iconst 3, 1) := by decide +kernel
theorem dX5_rows_51 : decode cX5_rows 51 = .ok (.idiv, 1) := by decide +kernel
theorem dX5_rows_52 : decode cX5_rows 52 = .ok (.istore 5, 2) := by decide +kernel
theorem dX5_rows_54 : decode cX5_rows 54 = .ok (.aload_n 0, 1) := by decide +kernel
theorem dX5_rows_55 : decode cX5_rows 55 = .ok (.iload 4, 2) := by decide +kernel
theorem dX5_rows_57 : decode cX5_rows 57 = .ok (.iload 5, 2) := by decide +kernel
theorem dX5_rows_59 : decode cX5_rows 59 = .ok (.idiv, 1) := by decide +kernel
theorem dX5_rows_60 : decode cX5_rows 60 = .ok (.iconst 3, 1) := by decide +kernel
theorem dX5_rows_61 : decode cX5_rows 61 = .ok (.irem, 1) := by decide +kernel
theorem dX5_rows_62 : decode cX5_rows 62 = .ok (.aload_n 0, 1) := by decide +kernel
theorem dX5_rows_63 : decode cX5_rows 63 = .ok (.iconst 1, 1) := by decide +kernel
theorem dX5_rows_64 : decode cX5_rows 64 = .ok (.invokevirtual 136, 3) := by decide +kernel
theorem dX5_rows_67 : decode cX5_rows 67 = .ok (.invokevirtual 140, 3) := by decide +kernel
theorem dX5_rows_70 : decode cX5_rows 70 = .ok (.iinc 6 1, 3) := by decide +kernel
theorem dX5_rows_73 : decode cX5_rows 73 = .ok (.goto (-31), 3) := by decide +kernel
theorem dX5_rows_76 : decode cX5_rows 76 = .ok (.aload_n 0, 1) := by decide +kernel
theorem dX5_rows_77 : decode cX5_rows 77 = .ok (.invokevirtual 156, 3) := by decide +kernel
theorem dX5_rows_80 : decode cX5_rows 80 = .ok (.istore 6, 2) := by decide +kernel
theorem dX5_rows_82 : decode cX5_rows 82 = .ok (.aload_n 0, 1) := by decide +kernel
theorem dX5_rows_83 : decode cX5_rows 83 = .ok (.iload 6, 2) := by decide +kernel
theorem dX5_rows_85 : decode cX5_rows 85 = .ok (.ifCond .eq 12, 3) := by decide +kernel
theorem dX5_rows_88 : decode cX5_rows 88 = .ok (.iload_n 2, 1) := by decide +kernel
theorem dX5_rows_89 : decode cX5_rows 89 = .ok (.ifCond .ne 8, 3) := by decide +kernel
theorem dX5_rows_92 : decode cX5_rows 92 = .ok (.iload 4, 2) := by decide +kernel
theorem dX5_rows_94 : decode cX5_rows 94 = .ok (.goto 7, 3) := by decide +kernel
theorem dX5_rows_97 : decode cX5_rows 97 = .ok (.aload_n 0, 1) := by decide +kernel
theorem dX5_rows_98 : decode cX5_rows 98 = .ok (.getfield 159, 3) := by decide +kernel
theorem dX5_rows_101 : decode cX5_rows 101 = .ok (.putfield 159, 3) := by decide +kernel
theorem dX5_rows_104 : decode cX5_rows 104 = .ok (.iload_n 2, 1) := by decide +kernel
theorem dX5_rows_105 : decode cX5_rows 105 = .ok (.iload 6, 2) := by decide +kernel
theorem dX5_rows_107 : decode cX5_rows 107 = .ok (.ifCond .eq 7, 3) := by decide +kernel
theorem dX5_rows_110 : decode cX5_rows 110 = .ok (.iconst 1, 1) := by decide +kernel
theorem dX5_rows_111 : decode cX5_rows 111 = .ok (.goto 4, 3) := by decide +kernel
theorem dX5_rows_114 : decode cX5_rows 114 = .ok (.iconst 0, 1) := by decide +kernel
theorem dX5_rows_115 : decode cX5_rows 115 = .ok (.iadd, 1) := by decide +kernel
theorem dX5_rows_116 : decode cX5_rows 116 = .ok (.istore_n 2, 1) := by decide +kernel
theorem dX5_rows_117 : decode cX5_rows 117 = .ok (.aload_n 0, 1) := by decide +kernel
theorem dX5_rows_118 : decode cX5_rows 118 = .ok (.invokevirtual 162, 3) := by decide +kernel
theorem dX5_rows_121 : decode cX5_rows 121 = .ok (.iinc 4 1, 3) := by decide +kernel
theorem dX5_rows_124 : decode cX5_rows 124 = .ok (.goto (-94), 3) := by decide +kernel
theorem dX5_rows_127 : decode cX5_rows 127 = .ok (.iload_n 2, 1) := by decide +kernel
theorem dX5_rows_128 : decode cX5_rows 128 = .ok (.ireturn, 1) := by decide +kernel
theorem dX5_plan_0 : decode cX5_plan 0 = .ok (.iload_n 1, 1) := by decide +kernel
theorem dX5_plan_1 : decode cX5_plan 1 = .ok (.iconst (-1), 1) := by decide +kernel
theorem dX5_plan_2 : decode cX5_plan 2 = .ok (.iconst 4, 1) := by decide +kernel
theorem dX5_plan_3 : decode cX5_plan 3 = .ok (.invokestatic 45, 3) := by decide +kernel
theorem dX5_plan_6 : decode cX5_plan 6 = .ok (.ifCond .ne 5, 3) := by decide +kernel
theorem dX5_plan_9 : decode cX5_plan 9 = .ok (.iconst (-1), 1) := by decide +kernel
theorem dX5_plan_10 : decode cX5_plan 10 = .ok (.ireturn, 1) := by decide +kernel
theorem dX5_plan_11 : decode cX5_plan 11 = .ok (.iconst 0, 1) := by decide +kernel
theorem dX5_plan_12 : decode cX5_plan 12 = .ok (.istore_n 2, 1) := by decide +kernel
theorem dX5_plan_13 : decode cX5_plan 13 = .ok (.iload_n 2, 1) := by decide +kernel
theorem dX5_plan_14 : decode cX5_plan 14 = .ok (.iconst 5, 1) := by decide +kernel
theorem dX5_plan_15 : decode cX5_plan 15 = .ok (.if_icmp .gt 66, 3) := by decide +kernel
theorem dX5_plan_18 : decode cX5_plan 18 = .ok (.aload_n 0, 1) := by decide +kernel
theorem dX5_plan_19 : decode cX5_plan 19 = .ok (.iload_n 2, 1) := by decide +kernel
theorem dX5_plan_20 : decode cX5_plan 20 = .ok (.invokevirtual 165, 3) := by decide +kernel
theorem dX5_plan_23 : decode cX5_plan 23 = .ok (.ifCond .le 52, 3) := by decide +kernel
theorem dX5_plan_26 : decode cX5_plan 26 = .ok (.aload_n 0, 1) := by decide +kernel
theorem dX5_plan_27 : decode cX5_plan 27 = .ok (.getfield 159, 3) := by decide +kernel
theorem dX5_plan_30 : decode cX5_plan 30 = .ok (.istore_n 3, 1) := by decide +kernel
theorem dX5_plan_31 : decode cX5_plan 31 = .ok (.iload_n 2, 1) := by decide +kernel
theorem dX5_plan_32 : decode cX5_plan 32 = .ok (.iconst 1, 1) := by decide +kernel
theorem dX5_plan_33 : decode cX5_plan 33 = .ok (.isub, 1) := by decide +kernel
theorem dX5_plan_34 : decode cX5_plan 34 = .ok (.istore 4, 2) := by decide +kernel
theorem dX5_plan_36 : decode cX5_plan 36 = .ok (.iload 4, 2) := by decide +kernel
theorem dX5_plan_38 : decode cX5_plan 38 = .ok (.iload_n 1, 1) := by decide +kernel
theorem dX5_plan_39 : decode cX5_plan 39 = .ok (.if_icmp .le 13, 3) := by decide +kernel
theorem dX5_plan_42 : decode cX5_plan 42 = .ok (.iload_n 3, 1) := by decide +kernel
theorem dX5_plan_43 : decode cX5_plan 43 = .ok (.iconst 3, 1) := by decide +kernel
theorem dX5_plan_44 : decode cX5_plan 44 = .ok (.idiv, 1) := by decide +kernel
theorem dX5_plan_45 : decode cX5_plan 45 = .ok (.istore_n 3, 1) := by decide +kernel
theorem dX5_plan_46 : decode cX5_plan 46 = .ok (.iinc 4 (-1), 3) := by decide +kernel
theorem dX5_plan_49 : decode cX5_plan 49 = .ok (.goto (-13), 3) := by decide +kernel
theorem dX5_plan_52 : decode cX5_plan 52 = .ok (.iload_n 1, 1) := by decide +kernel
theorem dX5_plan_53 : decode cX5_plan 53 = .ok (.iconst (-1), 1) := by decide +kernel
theorem dX5_plan_54 : decode cX5_plan 54 = .ok (.if_icmp .ne 7, 3) := by decide +kernel
theorem dX5_plan_57 : decode cX5_plan 57 = .ok (.iload_n 2, 1) := by decide +kernel
theorem dX5_plan_58 : decode cX5_plan 58 = .ok (.goto 16, 3) := by decide +kernel
theorem dX5_plan_61 : decode cX5_plan 61 = .ok (.iload_n 1, 1) := by decide +kernel
theorem dX5_plan_62 : decode cX5_plan 62 = .ok (.iload_n 2, 1) := by decide +kernel
theorem dX5_plan_63 : decode cX5_plan 63 = .ok (.if_icmp .ge 9, 3) := by decide +kernel
theorem dX5_plan_66 : decode cX5_plan 66 = .ok (.iload_n 3, 1) := by decide +kernel
theorem dX5_plan_67 : decode cX5_plan 67 = .ok (.iconst 3, 1) := by decide +kernel
theorem dX5_plan_68 : decode cX5_plan 68 = .ok (.irem, 1) := by decide +kernel
theorem dX5_plan_69 : decode cX5_plan 69 = .ok (.goto 5, 3) := by decide +kernel
theorem dX5_plan_72 : decode cX5_plan 72 = .ok (.bipush (-4), 2) := by decide +kernel
theorem dX5_plan_74 : decode cX5_plan 74 = .ok (.ireturn, 1) := by decide +kernel
theorem dX5_plan_75 : decode cX5_plan 75 = .ok (.iinc 2 1, 3) := by decide +kernel
theorem dX5_plan_78 : decode cX5_plan 78 = .ok (.goto (-65), 3) := by decide +kernel
theorem dX5_plan_81 : decode cX5_plan 81 = .ok (.bipush (-4), 2) := by decide +kernel
theorem dX5_plan_83 : decode cX5_plan 83 = .ok (.ireturn, 1) := by decide +kernel
theorem dX5_turn_0 : decode cX5_turn 0 = .ok (.aload_n 0, 1) := by decide +kernel
theorem dX5_turn_1 : decode cX5_turn 1 = .ok (.iload_n 1, 1) := by decide +kernel
theorem dX5_turn_2 : decode cX5_turn 2 = .ok (.invokevirtual 87, 3) := by decide +kernel
theorem dX5_turn_5 : decode cX5_turn 5 = .ok (.ifCond .eq 33, 3) := by decide +kernel
theorem dX5_turn_8 : decode cX5_turn 8 = .ok (.iload_n 2, 1) := by decide +kernel
theorem dX5_turn_9 : decode cX5_turn 9 = .ok (.invokestatic 130, 3) := by decide +kernel
theorem dX5_turn_12 : decode cX5_turn 12 = .ok (.ifCond .eq 26, 3) := by decide +kernel
theorem dX5_turn_15 : decode cX5_turn 15 = .ok (.aload_n 0, 1) := by decide +kernel
theorem dX5_turn_16 : decode cX5_turn 16 = .ok (.getfield 19, 3) := by decide +kernel
theorem dX5_turn_19 : decode cX5_turn 19 = .ok (.iload_n 1, 1) := by decide +kernel
theorem dX5_turn_20 : decode cX5_turn 20 = .ok (.iaload, 1) := by decide +kernel
theorem dX5_turn_21 : decode cX5_turn 21 = .ok (.aload_n 0, 1) := by decide +kernel
theorem dX5_turn_22 : decode cX5_turn 22 = .ok (.iload_n 1, 1) := by decide +kernel
theorem dX5_turn_23 : decode cX5_turn 23 = .ok (.iload_n 2, 1) := by decide +kernel
theorem dX5_turn_24 : decode cX5_turn 24 = .ok (.aload_n 0, 1) := by decide +kernel
theorem dX5_turn_25 : decode cX5_turn 25 = .ok (.iconst 1, 1) := by decide +kernel
theorem dX5_turn_26 : decode cX5_turn 26 = .ok (.invokevirtual 136, 3) := by decide +kernel
theorem dX5_turn_29 : decode cX5_turn 29 = .ok (.invokevirtual 126, 3) := by decide +kernel
theorem dX5_turn_32 : decode cX5_turn 32 = .ok (.iadd, 1) := by decide +kernel
theorem dX5_turn_33 : decode cX5_turn 33 = .ok (.iconst 4, 1) := by decide +kernel
theorem dX5_turn_34 : decode cX5_turn 34 = .ok (.irem, 1) := by decide +kernel
theorem dX5_turn_35 : decode cX5_turn 35 = .ok (.goto 4, 3) := by decide +kernel
theorem dX5_turn_38 : decode cX5_turn 38 = .ok (.iconst (-1), 1) := by decide +kernel
theorem dX5_turn_39 : decode cX5_turn 39 = .ok (.ireturn, 1) := by decide +kernel
theorem dX5_common_0 : decode cX5_common 0 = .ok (.iload_n 0, 1) := by decide +kernel
theorem dX5_common_1 : decode cX5_common 1 = .ok (.istore_n 2, 1) := by decide +kernel
theorem dX5_common_2 : decode cX5_common 2 = .ok (.iload_n 1, 1) := by decide +kernel
theorem dX5_common_3 : decode cX5_common 3 = .ok (.istore_n 3, 1) := by decide +kernel
theorem dX5_common_4 : decode cX5_common 4 = .ok (.iload_n 3, 1) := by decide +kernel
theorem dX5_common_5 : decode cX5_common 5 = .ok (.ifCond .le 16, 3) := by decide +kernel
theorem dX5_common_8 : decode cX5_common 8 = .ok (.iload_n 2, 1) := by decide +kernel
theorem dX5_common_9 : decode cX5_common 9 = .ok (.iload_n 3, 1) := by decide +kernel
theorem dX5_common_10 : decode cX5_common 10 = .ok (.irem, 1) := by decide +kernel
theorem dX5_common_11 : decode cX5_common 11 = .ok (.istore 4, 2) := by decide +kernel
theorem dX5_common_13 : decode cX5_common 13 = .ok (.iload_n 3, 1) := by decide +kernel
theorem dX5_common_14 : decode cX5_common 14 = .ok (.istore_n 2, 1) := by decide +kernel
theorem dX5_common_15 : decode cX5_common 15 = .ok (.iload 4, 2) := by decide +kernel
theorem dX5_common_17 : decode cX5_common 17 = .ok (.istore_n 3, 1) := by decide +kernel
theorem dX5_common_18 : decode cX5_common 18 = .ok (.goto (-14), 3) := by decide +kernel
theorem dX5_common_21 : decode cX5_common 21 = .ok (.iload_n 2, 1) := by decide +kernel
theorem dX5_common_22 : decode cX5_common 22 = .ok (.ireturn, 1) := by decide +kernel
theorem dX5_doubtful_0 : decode cX5_doubtful 0 = .ok (.iconst 0, 1) := by decide +kernel
theorem dX5_doubtful_1 : decode cX5_doubtful 1 = .ok (.istore_n 1, 1) := by decide +kernel
theorem dX5_doubtful_2 : decode cX5_doubtful 2 = .ok (.iconst 0, 1) := by decide +kernel
theorem dX5_doubtful_3 : decode cX5_doubtful 3 = .ok (.istore_n 2, 1) := by decide +kernel
theorem dX5_doubtful_4 : decode cX5_doubtful 4 = .ok (.iload_n 2, 1) := by decide +kernel
theorem dX5_doubtful_5 : decode cX5_doubtful 5 = .ok (.aload_n 0, 1) := by decide +kernel
theorem dX5_doubtful_6 : decode cX5_doubtful 6 = .ok (.getfield 13, 3) := by decide +kernel
theorem dX5_doubtful_9 : decode cX5_doubtful 9 = .ok (.iconst 0, 1) := by decide +kernel
theorem dX5_doubtful_10 : decode cX5_doubtful 10 = .ok (.iaload, 1) := by decide +kernel
theorem dX5_doubtful_11 : decode cX5_doubtful 11 = .ok (.if_icmp .ge 36, 3) := by decide +kernel
theorem dX5_doubtful_14 : decode cX5_doubtful 14 = .ok (.iload_n 1, 1) := by decide +kernel
theorem dX5_doubtful_15 : decode cX5_doubtful 15 = .ok (.aload_n 0, 1) := by decide +kernel
theorem dX5_doubtful_16 : decode cX5_doubtful 16 = .ok (.iload_n 2, 1) := by decide +kernel
theorem dX5_doubtful_17 : decode cX5_doubtful 17 = .ok (.invokevirtual 114, 3) := by decide +kernel
theorem dX5_doubtful_20 : decode cX5_doubtful 20 = .ok (.iload_n 2, 1) := by decide +kernel
theorem dX5_doubtful_21 : decode cX5_doubtful 21 = .ok (.if_icmp .ne 17, 3) := by decide +kernel
theorem dX5_doubtful_24 : decode cX5_doubtful 24 = .ok (.aload_n 0, 1) := by decide +kernel
theorem dX5_doubtful_25 : decode cX5_doubtful 25 = .ok (.iload_n 2, 1) := by decide +kernel
theorem dX5_doubtful_26 : decode cX5_doubtful 26 = .ok (.invokevirtual 120, 3) := by decide +kernel
theorem dX5_doubtful_29 : decode cX5_doubtful 29 = .ok (.ifCond .eq 9, 3) := by decide +kernel
theorem dX5_doubtful_32 : decode cX5_doubtful 32 = .ok (.iconst 1, 1) := by decide +kernel
theorem dX5_doubtful_33 : decode cX5_doubtful 33 = .ok (.iload_n 2, 1) := by decide +kernel
theorem dX5_doubtful_34 : decode cX5_doubtful 34 = .ok (.ishl, 1) := by decide +kernel
theorem dX5_doubtful_35 : decode cX5_doubtful 35 = .ok (.goto 4, 3) := by decide +kernel
theorem dX5_doubtful_38 : decode cX5_doubtful 38 = .ok (.iconst 0, 1) := by decide +kernel
theorem dX5_doubtful_39 : decode cX5_doubtful 39 = .ok (.ior, 1) := by decide +kernel
theorem dX5_doubtful_40 : decode cX5_doubtful 40 = .ok (.istore_n 1, 1) := by decide +kernel
theorem dX5_doubtful_41 : decode cX5_doubtful 41 = .ok (.iinc 2 1, 3) := by decide +kernel
theorem dX5_doubtful_44 : decode cX5_doubtful 44 = .ok (.goto (-40), 3) := by decide +kernel
theorem dX5_doubtful_47 : decode cX5_doubtful 47 = .ok (.iload_n 1, 1) := by decide +kernel
theorem dX5_doubtful_48 : decode cX5_doubtful 48 = .ok (.ireturn, 1) := by decide +kernel
theorem dX5_alike_0 : decode cX5_alike 0 = .ok (.iload_n 1, 1) := by decide +kernel
theorem dX5_alike_1 : decode cX5_alike 1 = .ok (.invokestatic 130, 3) := by decide +kernel
theorem dX5_alike_4 : decode cX5_alike 4 = .ok (.ifCond .eq 12, 3) := by decide +kernel
theorem dX5_alike_7 : decode cX5_alike 7 = .ok (.iload_n 2, 1) := by decide +kernel
theorem dX5_alike_8 : decode cX5_alike 8 = .ok (.iconst 0, 1) := by decide +kernel
theorem dX5_alike_9 : decode cX5_alike 9 = .ok (.iconst 1, 1) := by decide +kernel
theorem dX5_alike_10 : decode cX5_alike 10 = .ok (.invokestatic 45, 3) := by decide +kernel
theorem dX5_alike_13 : decode cX5_alike 13 = .ok (.ifCond .ne 5, 3) := by decide +kernel
theorem dX5_alike_16 : decode cX5_alike 16 = .ok (.iconst (-1), 1) := by decide +kernel
theorem dX5_alike_17 : decode cX5_alike 17 = .ok (.ireturn, 1) := by decide +kernel
theorem dX5_alike_18 : decode cX5_alike 18 = .ok (.aload_n 0, 1) := by decide +kernel
theorem dX5_alike_19 : decode cX5_alike 19 = .ok (.invokevirtual 168, 3) := by decide +kernel
theorem dX5_alike_22 : decode cX5_alike 22 = .ok (.istore_n 3, 1) := by decide +kernel
theorem dX5_alike_23 : decode cX5_alike 23 = .ok (.iconst 0, 1) := by decide +kernel
theorem dX5_alike_24 : decode cX5_alike 24 = .ok (.istore 4, 2) := by decide +kernel
theorem dX5_alike_26 : decode cX5_alike 26 = .ok (.iconst 1, 1) := by decide +kernel
theorem dX5_alike_27 : decode cX5_alike 27 = .ok (.istore 5, 2) := by decide +kernel
theorem dX5_alike_29 : decode cX5_alike 29 = .ok (.iconst 0, 1) := by decide +kernel
theorem dX5_alike_30 : decode cX5_alike 30 = .ok (.istore 6, 2) := by decide +kernel
theorem dX5_alike_32 : decode cX5_alike 32 = .ok (.iload 6, 2) := by decide +kernel
theorem dX5_alike_34 : decode cX5_alike 34 = .ok (.iload_n 3, 1) := by decide +kernel
theorem dX5_alike_35 : decode cX5_alike 35 = .ok (.invokestatic 147, 3) := by decide +kernel
theorem dX5_alike_38 : decode cX5_alike 38 = .ok (.if_icmp .ge 16, 3) := by decide +kernel
theorem dX5_alike_41 : decode cX5_alike 41 = .ok (.iload 5, 2) := by decide +kernel
theorem dX5_alike_43 : decode cX5_alike 43 = .ok (.bipush 10, 2) := by decide +kernel
theorem dX5_alike_45 : decode cX5_alike 45 = .ok (.imul, 1) := by decide +kernel
theorem dX5_alike_46 : decode cX5_alike 46 = .ok (.istore 5, 2) := by decide +kernel
theorem dX5_alike_48 : decode cX5_alike 48 = .ok (.iinc 6 1, 3) := by decide +kernel
theorem dX5_alike_51 : decode cX5_alike 51 = .ok (.goto (-19), 3) := by decide +kernel
theorem dX5_alike_54 : decode cX5_alike 54 = .ok (.iconst 0, 1) := by decide +kernel
theorem dX5_alike_55 : decode cX5_alike 55 = .ok (.istore 6, 2) := by decide +kernel
theorem dX5_alike_57 : decode cX5_alike 57 = .ok (.iload 6, 2) := by decide +kernel
theorem dX5_alike_59 : decode cX5_alike 59 = .ok (.sipush 256, 3) := by decide +kernel
theorem dX5_alike_62 : decode cX5_alike 62 = .ok (.if_icmp .ge 166, 3) := by decide +kernel
theorem dX5_alike_65 : decode cX5_alike 65 = .ok (.iload 6, 2) := by decide +kernel
theorem dX5_alike_67 : decode cX5_alike 67 = .ok (.iload_n 3, 1) := by decide +kernel
theorem dX5_alike_68 : decode cX5_alike 68 = .ok (.iconst (-1), 1) := by decide +kernel
theorem dX5_alike_69 : decode cX5_alike 69 = .ok (.ixor, 1) := by decide +kernel
theorem dX5_alike_70 : decode cX5_alike 70 = .ok (.iand, 1) := by decide +kernel
theorem dX5_alike_71 : decode cX5_alike 71 = .ok (.ifCond .ne 151, 3) := by decide +kernel
theorem dX5_alike_74 : decode cX5_alike 74 = .ok (.iconst 1, 1) := by decide +kernel
theorem dX5_alike_75 : decode cX5_alike 75 = .ok (.istore 7, 2) := by decide +kernel
theorem dX5_alike_77 : decode cX5_alike 77 = .ok (.iconst 1, 1) := by decide +kernel
theorem dX5_alike_78 : decode cX5_alike 78 = .ok (.istore 8, 2) := by decide +kernel
theorem dX5_alike_80 : decode cX5_alike 80 = .ok (.iconst 0, 1) := by decide +kernel
theorem dX5_alike_81 : decode cX5_alike 81 = .ok (.istore 9, 2) := by decide +kernel
theorem dX5_alike_83 : decode cX5_alike 83 = .ok (.iload 9, 2) := by decide +kernel
theorem dX5_alike_85 : decode cX5_alike 85 = .ok (.aload_n 0, 1) := by decide +kernel
theorem dX5_alike_86 : decode cX5_alike 86 = .ok (.getfield 13, 3) := by decide +kernel
theorem dX5_alike_89 : decode cX5_alike 89 = .ok (.iconst 0, 1) := by decide +kernel
theorem dX5_alike_90 : decode cX5_alike 90 = .ok (.iaload, 1) := by decide +kernel
theorem dX5_alike_91 : decode cX5_alike 91 = .ok (.if_icmp .ge 115, 3) := by decide +kernel
theorem dX5_alike_94 : decode cX5_alike 94 = .ok (.iload 7, 2) := by decide +kernel
theorem dX5_alike_96 : decode cX5_alike 96 = .ok (.iload_n 3, 1) := by decide +kernel
theorem dX5_alike_97 : decode cX5_alike 97 = .ok (.iload 9, 2) := by decide +kernel
theorem dX5_alike_99 : decode cX5_alike 99 = .ok (.ishr, 1) := by decide +kernel
theorem dX5_alike_100 : decode cX5_alike 100 = .ok (.iconst 1, 1) := by decide +kernel
theorem dX5_alike_101 : decode cX5_alike 101 = .ok (.iand, 1) := by decide +kernel
theorem dX5_alike_102 : decode cX5_alike 102 = .ok (.ifCond .ne 7, 3) := by decide +kernel
theorem dX5_alike_105 : decode cX5_alike 105 = .ok (.iconst 1, 1) := by decide +kernel
theorem dX5_alike_106 : decode cX5_alike 106 = .ok (.goto 40, 3) := by decide +kernel
theorem dX5_alike_109 : decode cX5_alike 109 = .ok (.iload 6, 2) := by decide +kernel
theorem dX5_alike_111 : decode cX5_alike 111 = .ok (.iload 9, 2) := by decide +kernel
theorem dX5_alike_113 : decode cX5_alike 113 = .ok (.ishr, 1) := by decide +kernel
theorem dX5_alike_114 : decode cX5_alike 114 = .ok (.iconst 1, 1) := by decide +kernel
theorem dX5_alike_115 : decode cX5_alike 115 = .ok (.iand, 1) := by decide +kernel
theorem dX5_alike_116 : decode cX5_alike 116 = .ok (.iconst 1, 1) := by decide +kernel
theorem dX5_alike_117 : decode cX5_alike 117 = .ok (.if_icmp .ne 16, 3) := by decide +kernel
theorem dX5_alike_120 : decode cX5_alike 120 = .ok (.aload_n 0, 1) := by decide +kernel
theorem dX5_alike_121 : decode cX5_alike 121 = .ok (.getfield 13, 3) := by decide +kernel
theorem dX5_alike_124 : decode cX5_alike 124 = .ok (.bipush 27, 2) := by decide +kernel
theorem dX5_alike_126 : decode cX5_alike 126 = .ok (.iload 9, 2) := by decide +kernel
theorem dX5_alike_128 : decode cX5_alike 128 = .ok (.iadd, 1) := by decide +kernel
theorem dX5_alike_129 : decode cX5_alike 129 = .ok (.iaload, 1) := by decide +kernel
theorem dX5_alike_130 : decode cX5_alike 130 = .ok (.goto 16, 3) := by decide +kernel
theorem dX5_alike_133 : decode cX5_alike 133 = .ok (.bipush 10, 2) := by decide +kernel
theorem dX5_alike_135 : decode cX5_alike 135 = .ok (.aload_n 0, 1) := by decide +kernel
theorem dX5_alike_136 : decode cX5_alike 136 = .ok (.getfield 13, 3) := by decide +kernel
theorem dX5_alike_139 : decode cX5_alike 139 = .ok (.bipush 27, 2) := by decide +kernel
theorem dX5_alike_141 : decode cX5_alike 141 = .ok (.iload 9, 2) := by decide +kernel
theorem dX5_alike_143 : decode cX5_alike 143 = .ok (.iadd, 1) := by decide +kernel
theorem dX5_alike_144 : decode cX5_alike 144 = .ok (.iaload, 1) := by decide +kernel
theorem dX5_alike_145 : decode cX5_alike 145 = .ok (.isub, 1) := by decide +kernel
theorem dX5_alike_146 : decode cX5_alike 146 = .ok (.imul, 1) := by decide +kernel
theorem dX5_alike_147 : decode cX5_alike 147 = .ok (.istore 7, 2) := by decide +kernel
theorem dX5_alike_149 : decode cX5_alike 149 = .ok (.iload 8, 2) := by decide +kernel
theorem dX5_alike_151 : decode cX5_alike 151 = .ok (.ifCond .eq 46, 3) := by decide +kernel
theorem dX5_alike_154 : decode cX5_alike 154 = .ok (.aload_n 0, 1) := by decide +kernel
theorem dX5_alike_155 : decode cX5_alike 155 = .ok (.getfield 19, 3) := by decide +kernel
theorem dX5_alike_158 : decode cX5_alike 158 = .ok (.iload 9, 2) := by decide +kernel
theorem dX5_alike_160 : decode cX5_alike 160 = .ok (.iaload, 1) := by decide +kernel
theorem dX5_alike_161 : decode cX5_alike 161 = .ok (.aload_n 0, 1) := by decide +kernel
theorem dX5_alike_162 : decode cX5_alike 162 = .ok (.iload 9, 2) := by decide +kernel
theorem dX5_alike_164 : decode cX5_alike 164 = .ok (.iload_n 1, 1) := by decide +kernel
theorem dX5_alike_165 : decode cX5_alike 165 = .ok (.iload 6, 2) := by decide +kernel
theorem dX5_alike_167 : decode cX5_alike 167 = .ok (.invokevirtual 126, 3) := by decide +kernel
theorem dX5_alike_170 : decode cX5_alike 170 = .ok (.iadd, 1) := by decide +kernel
theorem dX5_alike_171 : decode cX5_alike 171 = .ok (.iconst 4, 1) := by decide +kernel
theorem dX5_alike_172 : decode cX5_alike 172 = .ok (.irem, 1) := by decide +kernel
theorem dX5_alike_173 : decode cX5_alike 173 = .ok (.aload_n 0, 1) := by decide +kernel
theorem dX5_alike_174 : decode cX5_alike 174 = .ok (.getfield 19, 3) := by decide +kernel
theorem dX5_alike_177 : decode cX5_alike 177 = .ok (.iconst 0, 1) := by decide +kernel
theorem dX5_alike_178 : decode cX5_alike 178 = .ok (.iaload, 1) := by decide +kernel
theorem dX5_alike_179 : decode cX5_alike 179 = .ok (.aload_n 0, 1) := by decide +kernel
theorem dX5_alike_180 : decode cX5_alike 180 = .ok (.iconst 0, 1) := by decide +kernel
theorem dX5_alike_181 : decode cX5_alike 181 = .ok (.iload_n 1, 1) := by decide +kernel
theorem dX5_alike_182 : decode cX5_alike 182 = .ok (.iload 6, 2) := by decide +kernel
theorem dX5_alike_184 : decode cX5_alike 184 = .ok (.invokevirtual 126, 3) := by decide +kernel
theorem dX5_alike_187 : decode cX5_alike 187 = .ok (.iadd, 1) := by decide +kernel
theorem dX5_alike_188 : decode cX5_alike 188 = .ok (.iconst 4, 1) := by decide +kernel
theorem dX5_alike_189 : decode cX5_alike 189 = .ok (.irem, 1) := by decide +kernel
theorem dX5_alike_190 : decode cX5_alike 190 = .ok (.if_icmp .ne 7, 3) := by decide +kernel
theorem dX5_alike_193 : decode cX5_alike 193 = .ok (.iconst 1, 1) := by decide +kernel
theorem dX5_alike_194 : decode cX5_alike 194 = .ok (.goto 4, 3) := by decide +kernel
theorem dX5_alike_197 : decode cX5_alike 197 = .ok (.iconst 0, 1) := by decide +kernel
theorem dX5_alike_198 : decode cX5_alike 198 = .ok (.istore 8, 2) := by decide +kernel
theorem dX5_alike_200 : decode cX5_alike 200 = .ok (.iinc 9 1, 3) := by decide +kernel
theorem dX5_alike_203 : decode cX5_alike 203 = .ok (.goto (-120), 3) := by decide +kernel
theorem dX5_alike_206 : decode cX5_alike 206 = .ok (.iload 4, 2) := by decide +kernel
theorem dX5_alike_208 : decode cX5_alike 208 = .ok (.iload 8, 2) := by decide +kernel
theorem dX5_alike_210 : decode cX5_alike 210 = .ok (.ifCond .eq 8, 3) := by decide +kernel
theorem dX5_alike_213 : decode cX5_alike 213 = .ok (.iload 7, 2) := by decide +kernel
theorem dX5_alike_215 : decode cX5_alike 215 = .ok (.goto 4, 3) := by decide +kernel
theorem dX5_alike_218 : decode cX5_alike 218 = .ok (.iconst 0, 1) := by decide +kernel
theorem dX5_alike_219 : decode cX5_alike 219 = .ok (.iadd, 1) := by decide +kernel
theorem dX5_alike_220 : decode cX5_alike 220 = .ok (.istore 4, 2) := by decide +kernel
theorem dX5_alike_222 : decode cX5_alike 222 = .ok (.iinc 6 1, 3) := by decide +kernel
theorem dX5_alike_225 : decode cX5_alike 225 = .ok (.goto (-168), 3) := by decide +kernel
theorem dX5_alike_228 : decode cX5_alike 228 = .ok (.iload 4, 2) := by decide +kernel
theorem dX5_alike_230 : decode cX5_alike 230 = .ok (.iload 5, 2) := by decide +kernel
theorem dX5_alike_232 : decode cX5_alike 232 = .ok (.invokestatic 171, 3) := by decide +kernel
theorem dX5_alike_235 : decode cX5_alike 235 = .ok (.istore 6, 2) := by decide +kernel
theorem dX5_alike_237 : decode cX5_alike 237 = .ok (.iload_n 2, 1) := by decide +kernel
theorem dX5_alike_238 : decode cX5_alike 238 = .ok (.ifCond .ne 11, 3) := by decide +kernel
theorem dX5_alike_241 : decode cX5_alike 241 = .ok (.iload 4, 2) := by decide +kernel
theorem dX5_alike_243 : decode cX5_alike 243 = .ok (.iload 6, 2) := by decide +kernel
theorem dX5_alike_245 : decode cX5_alike 245 = .ok (.idiv, 1) := by decide +kernel
theorem dX5_alike_246 : decode cX5_alike 246 = .ok (.goto 8, 3) := by decide +kernel
theorem dX5_alike_249 : decode cX5_alike 249 = .ok (.iload 5, 2) := by decide +kernel
theorem dX5_alike_251 : decode cX5_alike 251 = .ok (.iload 6, 2) := by decide +kernel
theorem dX5_alike_253 : decode cX5_alike 253 = .ok (.idiv, 1) := by decide +kernel
theorem dX5_alike_254 : decode cX5_alike 254 = .ok (.ireturn, 1) := by decide +kernel
theorem dX5_right_0 : decode cX5_right 0 = .ok (.aload_n 0, 1) := by decide +kernel
theorem dX5_right_1 : decode cX5_right 1 = .ok (.iload_n 1, 1) := by decide +kernel
theorem dX5_right_2 : decode cX5_right 2 = .ok (.invokevirtual 87, 3) := by decide +kernel
theorem dX5_right_5 : decode cX5_right 5 = .ok (.ifCond .eq 19, 3) := by decide +kernel
theorem dX5_right_8 : decode cX5_right 8 = .ok (.iload_n 2, 1) := by decide +kernel
theorem dX5_right_9 : decode cX5_right 9 = .ok (.invokestatic 130, 3) := by decide +kernel
theorem dX5_right_12 : decode cX5_right 12 = .ok (.ifCond .eq 12, 3) := by decide +kernel
theorem dX5_right_15 : decode cX5_right 15 = .ok (.iload_n 3, 1) := by decide +kernel
theorem dX5_right_16 : decode cX5_right 16 = .ok (.iconst 0, 1) := by decide +kernel
theorem dX5_right_17 : decode cX5_right 17 = .ok (.iconst 1, 1) := by decide +kernel
theorem dX5_right_18 : decode cX5_right 18 = .ok (.invokestatic 45, 3) := by decide +kernel
theorem dX5_right_21 : decode cX5_right 21 = .ok (.ifCond .ne 5, 3) := by decide +kernel
theorem dX5_right_24 : decode cX5_right 24 = .ok (.iconst (-1), 1) := by decide +kernel
theorem dX5_right_25 : decode cX5_right 25 = .ok (.ireturn, 1) := by decide +kernel
theorem dX5_right_26 : decode cX5_right 26 = .ok (.aload_n 0, 1) := by decide +kernel
theorem dX5_right_27 : decode cX5_right 27 = .ok (.iload_n 1, 1) := by decide +kernel
theorem dX5_right_28 : decode cX5_right 28 = .ok (.invokevirtual 114, 3) := by decide +kernel
theorem dX5_right_31 : decode cX5_right 31 = .ok (.istore 4, 2) := by decide +kernel
theorem dX5_right_33 : decode cX5_right 33 = .ok (.aload_n 0, 1) := by decide +kernel
theorem dX5_right_34 : decode cX5_right 34 = .ok (.iload_n 1, 1) := by decide +kernel
theorem dX5_right_35 : decode cX5_right 35 = .ok (.invokevirtual 90, 3) := by decide +kernel
theorem dX5_right_38 : decode cX5_right 38 = .ok (.iload_n 2, 1) := by decide +kernel
theorem dX5_right_39 : decode cX5_right 39 = .ok (.invokestatic 117, 3) := by decide +kernel
theorem dX5_right_42 : decode cX5_right 42 = .ok (.iadd, 1) := by decide +kernel
theorem dX5_right_43 : decode cX5_right 43 = .ok (.iconst 4, 1) := by decide +kernel
theorem dX5_right_44 : decode cX5_right 44 = .ok (.irem, 1) := by decide +kernel
theorem dX5_right_45 : decode cX5_right 45 = .ok (.istore 5, 2) := by decide +kernel
theorem dX5_right_47 : decode cX5_right 47 = .ok (.aload_n 0, 1) := by decide +kernel
theorem dX5_right_48 : decode cX5_right 48 = .ok (.iload 4, 2) := by decide +kernel
theorem dX5_right_50 : decode cX5_right 50 = .ok (.invokevirtual 120, 3) := by decide +kernel
theorem dX5_right_53 : decode cX5_right 53 = .ok (.ifCond .eq 16, 3) := by decide +kernel
theorem dX5_right_56 : decode cX5_right 56 = .ok (.aload_n 0, 1) := by decide +kernel
theorem dX5_right_57 : decode cX5_right 57 = .ok (.getfield 13, 3) := by decide +kernel
theorem dX5_right_60 : decode cX5_right 60 = .ok (.bipush 27, 2) := by decide +kernel
theorem dX5_right_62 : decode cX5_right 62 = .ok (.iload 4, 2) := by decide +kernel
theorem dX5_right_64 : decode cX5_right 64 = .ok (.iadd, 1) := by decide +kernel
theorem dX5_right_65 : decode cX5_right 65 = .ok (.iaload, 1) := by decide +kernel
theorem dX5_right_66 : decode cX5_right 66 = .ok (.goto 4, 3) := by decide +kernel
theorem dX5_right_69 : decode cX5_right 69 = .ok (.iconst 0, 1) := by decide +kernel
theorem dX5_right_70 : decode cX5_right 70 = .ok (.istore 6, 2) := by decide +kernel
theorem dX5_right_72 : decode cX5_right 72 = .ok (.aload_n 0, 1) := by decide +kernel
theorem dX5_right_73 : decode cX5_right 73 = .ok (.getfield 19, 3) := by decide +kernel
theorem dX5_right_76 : decode cX5_right 76 = .ok (.iload_n 1, 1) := by decide +kernel
theorem dX5_right_77 : decode cX5_right 77 = .ok (.iaload, 1) := by decide +kernel
theorem dX5_right_78 : decode cX5_right 78 = .ok (.aload_n 0, 1) := by decide +kernel
theorem dX5_right_79 : decode cX5_right 79 = .ok (.iload_n 1, 1) := by decide +kernel
theorem dX5_right_80 : decode cX5_right 80 = .ok (.iload_n 2, 1) := by decide +kernel
theorem dX5_right_81 : decode cX5_right 81 = .ok (.iconst 0, 1) := by decide +kernel
theorem dX5_right_82 : decode cX5_right 82 = .ok (.invokevirtual 126, 3) := by decide +kernel
theorem dX5_right_85 : decode cX5_right 85 = .ok (.iadd, 1) := by decide +kernel
theorem dX5_right_86 : decode cX5_right 86 = .ok (.iconst 4, 1) := by decide +kernel
theorem dX5_right_87 : decode cX5_right 87 = .ok (.irem, 1) := by decide +kernel
theorem dX5_right_88 : decode cX5_right 88 = .ok (.iload 5, 2) := by decide +kernel
theorem dX5_right_90 : decode cX5_right 90 = .ok (.if_icmp .ne 11, 3) := by decide +kernel
theorem dX5_right_93 : decode cX5_right 93 = .ok (.bipush 10, 2) := by decide +kernel
theorem dX5_right_95 : decode cX5_right 95 = .ok (.iload 6, 2) := by decide +kernel
theorem dX5_right_97 : decode cX5_right 97 = .ok (.isub, 1) := by decide +kernel
theorem dX5_right_98 : decode cX5_right 98 = .ok (.goto 4, 3) := by decide +kernel
theorem dX5_right_101 : decode cX5_right 101 = .ok (.iconst 0, 1) := by decide +kernel
theorem dX5_right_102 : decode cX5_right 102 = .ok (.istore 7, 2) := by decide +kernel
theorem dX5_right_104 : decode cX5_right 104 = .ok (.iload 7, 2) := by decide +kernel
theorem dX5_right_106 : decode cX5_right 106 = .ok (.aload_n 0, 1) := by decide +kernel
theorem dX5_right_107 : decode cX5_right 107 = .ok (.getfield 19, 3) := by decide +kernel
theorem dX5_right_110 : decode cX5_right 110 = .ok (.iload_n 1, 1) := by decide +kernel
theorem dX5_right_111 : decode cX5_right 111 = .ok (.iaload, 1) := by decide +kernel
theorem dX5_right_112 : decode cX5_right 112 = .ok (.aload_n 0, 1) := by decide +kernel
theorem dX5_right_113 : decode cX5_right 113 = .ok (.iload_n 1, 1) := by decide +kernel
theorem dX5_right_114 : decode cX5_right 114 = .ok (.iload_n 2, 1) := by decide +kernel
theorem dX5_right_115 : decode cX5_right 115 = .ok (.sipush 255, 3) := by decide +kernel
theorem dX5_right_118 : decode cX5_right 118 = .ok (.invokevirtual 126, 3) := by decide +kernel
theorem dX5_right_121 : decode cX5_right 121 = .ok (.iadd, 1) := by decide +kernel
theorem dX5_right_122 : decode cX5_right 122 = .ok (.iconst 4, 1) := by decide +kernel
theorem dX5_right_123 : decode cX5_right 123 = .ok (.irem, 1) := by decide +kernel
theorem dX5_right_124 : decode cX5_right 124 = .ok (.iload 5, 2) := by decide +kernel
theorem dX5_right_126 : decode cX5_right 126 = .ok (.if_icmp .ne 8, 3) := by decide +kernel
theorem dX5_right_129 : decode cX5_right 129 = .ok (.iload 6, 2) := by decide +kernel
theorem dX5_right_131 : decode cX5_right 131 = .ok (.goto 4, 3) := by decide +kernel
theorem dX5_right_134 : decode cX5_right 134 = .ok (.iconst 0, 1) := by decide +kernel
theorem dX5_right_135 : decode cX5_right 135 = .ok (.iadd, 1) := by decide +kernel
theorem dX5_right_136 : decode cX5_right 136 = .ok (.istore 7, 2) := by decide +kernel
theorem dX5_right_138 : decode cX5_right 138 = .ok (.iload 7, 2) := by decide +kernel
theorem dX5_right_140 : decode cX5_right 140 = .ok (.bipush 10, 2) := by decide +kernel
theorem dX5_right_142 : decode cX5_right 142 = .ok (.invokestatic 171, 3) := by decide +kernel
theorem dX5_right_145 : decode cX5_right 145 = .ok (.istore 8, 2) := by decide +kernel
theorem dX5_right_147 : decode cX5_right 147 = .ok (.iload_n 3, 1) := by decide +kernel
theorem dX5_right_148 : decode cX5_right 148 = .ok (.ifCond .ne 11, 3) := by decide +kernel
theorem dX5_right_151 : decode cX5_right 151 = .ok (.iload 7, 2) := by decide +kernel
theorem dX5_right_153 : decode cX5_right 153 = .ok (.iload 8, 2) := by decide +kernel
theorem dX5_right_155 : decode cX5_right 155 = .ok (.idiv, 1) := by decide +kernel
theorem dX5_right_156 : decode cX5_right 156 = .ok (.goto 8, 3) := by decide +kernel
theorem dX5_right_159 : decode cX5_right 159 = .ok (.bipush 10, 2) := by decide +kernel
theorem dX5_right_161 : decode cX5_right 161 = .ok (.iload 8, 2) := by decide +kernel
theorem dX5_right_163 : decode cX5_right 163 = .ok (.idiv, 1) := by decide +kernel
theorem dX5_right_164 : decode cX5_right 164 = .ok (.ireturn, 1) := by decide +kernel
theorem dX5_which_0 : decode cX5_which 0 = .ok (.aload_n 0, 1) := by decide +kernel
theorem dX5_which_1 : decode cX5_which 1 = .ok (.iload_n 1, 1) := by decide +kernel
theorem dX5_which_2 : decode cX5_which 2 = .ok (.invokevirtual 87, 3) := by decide +kernel
theorem dX5_which_5 : decode cX5_which 5 = .ok (.ifCond .eq 12, 3) := by decide +kernel
theorem dX5_which_8 : decode cX5_which 8 = .ok (.iload_n 2, 1) := by decide +kernel
theorem dX5_which_9 : decode cX5_which 9 = .ok (.iconst 0, 1) := by decide +kernel
theorem dX5_which_10 : decode cX5_which 10 = .ok (.iconst 3, 1) := by decide +kernel
theorem dX5_which_11 : decode cX5_which 11 = .ok (.invokestatic 45, 3) := by decide +kernel
theorem dX5_which_14 : decode cX5_which 14 = .ok (.ifCond .ne 5, 3) := by decide +kernel
theorem dX5_which_17 : decode cX5_which 17 = .ok (.iconst (-1), 1) := by decide +kernel
theorem dX5_which_18 : decode cX5_which 18 = .ok (.ireturn, 1) := by decide +kernel
theorem dX5_which_19 : decode cX5_which 19 = .ok (.iconst 0, 1) := by decide +kernel
theorem dX5_which_20 : decode cX5_which 20 = .ok (.istore_n 3, 1) := by decide +kernel
theorem dX5_which_21 : decode cX5_which 21 = .ok (.iconst 0, 1) := by decide +kernel
theorem dX5_which_22 : decode cX5_which 22 = .ok (.istore 4, 2) := by decide +kernel
theorem dX5_which_24 : decode cX5_which 24 = .ok (.iload 4, 2) := by decide +kernel
theorem dX5_which_26 : decode cX5_which 26 = .ok (.iconst 3, 1) := by decide +kernel
theorem dX5_which_27 : decode cX5_which 27 = .ok (.if_icmp .ge 31, 3) := by decide +kernel
theorem dX5_which_30 : decode cX5_which 30 = .ok (.iload_n 3, 1) := by decide +kernel
theorem dX5_which_31 : decode cX5_which 31 = .ok (.aload_n 0, 1) := by decide +kernel
theorem dX5_which_32 : decode cX5_which 32 = .ok (.iload_n 1, 1) := by decide +kernel
theorem dX5_which_33 : decode cX5_which 33 = .ok (.iload 4, 2) := by decide +kernel
theorem dX5_which_35 : decode cX5_which 35 = .ok (.invokevirtual 175, 3) := by decide +kernel
theorem dX5_which_38 : decode cX5_which 38 = .ok (.iload_n 2, 1) := by decide +kernel
theorem dX5_which_39 : decode cX5_which 39 = .ok (.if_icmp .ne 10, 3) := by decide +kernel
theorem dX5_which_42 : decode cX5_which 42 = .ok (.iconst 1, 1) := by decide +kernel
theorem dX5_which_43 : decode cX5_which 43 = .ok (.iload 4, 2) := by decide +kernel
theorem dX5_which_45 : decode cX5_which 45 = .ok (.ishl, 1) := by decide +kernel
theorem dX5_which_46 : decode cX5_which 46 = .ok (.goto 4, 3) := by decide +kernel
theorem dX5_which_49 : decode cX5_which 49 = .ok (.iconst 0, 1) := by decide +kernel
theorem dX5_which_50 : decode cX5_which 50 = .ok (.ior, 1) := by decide +kernel
theorem dX5_which_51 : decode cX5_which 51 = .ok (.istore_n 3, 1) := by decide +kernel
theorem dX5_which_52 : decode cX5_which 52 = .ok (.iinc 4 1, 3) := by decide +kernel
theorem dX5_which_55 : decode cX5_which 55 = .ok (.goto (-31), 3) := by decide +kernel
theorem dX5_which_58 : decode cX5_which 58 = .ok (.iload_n 3, 1) := by decide +kernel
theorem dX5_which_59 : decode cX5_which 59 = .ok (.ireturn, 1) := by decide +kernel
theorem dX5_safe_0 : decode cX5_safe 0 = .ok (.aload_n 0, 1) := by decide +kernel
theorem dX5_safe_1 : decode cX5_safe 1 = .ok (.iload_n 1, 1) := by decide +kernel
theorem dX5_safe_2 : decode cX5_safe 2 = .ok (.invokevirtual 87, 3) := by decide +kernel
theorem dX5_safe_5 : decode cX5_safe 5 = .ok (.ifCond .ne 5, 3) := by decide +kernel
theorem dX5_safe_8 : decode cX5_safe 8 = .ok (.iconst (-1), 1) := by decide +kernel
theorem dX5_safe_9 : decode cX5_safe 9 = .ok (.ireturn, 1) := by decide +kernel
theorem dX5_safe_10 : decode cX5_safe 10 = .ok (.bipush (-4), 2) := by decide +kernel
theorem dX5_safe_12 : decode cX5_safe 12 = .ok (.istore_n 2, 1) := by decide +kernel
theorem dX5_safe_13 : decode cX5_safe 13 = .ok (.aload_n 0, 1) := by decide +kernel
theorem dX5_safe_14 : decode cX5_safe 14 = .ok (.iload_n 1, 1) := by decide +kernel
theorem dX5_safe_15 : decode cX5_safe 15 = .ok (.putfield 28, 3) := by decide +kernel
theorem dX5_safe_18 : decode cX5_safe 18 = .ok (.aload_n 0, 1) := by decide +kernel
theorem dX5_safe_19 : decode cX5_safe 19 = .ok (.getfield 13, 3) := by decide +kernel
theorem dX5_safe_22 : decode cX5_safe 22 = .ok (.iconst 0, 1) := by decide +kernel
theorem dX5_safe_23 : decode cX5_safe 23 = .ok (.iaload, 1) := by decide +kernel
theorem dX5_safe_24 : decode cX5_safe 24 = .ok (.iconst 1, 1) := by decide +kernel
theorem dX5_safe_25 : decode cX5_safe 25 = .ok (.isub, 1) := by decide +kernel
theorem dX5_safe_26 : decode cX5_safe 26 = .ok (.istore_n 3, 1) := by decide +kernel
theorem dX5_safe_27 : decode cX5_safe 27 = .ok (.iload_n 3, 1) := by decide +kernel
theorem dX5_safe_28 : decode cX5_safe 28 = .ok (.ifCond .lt 62, 3) := by decide +kernel
theorem dX5_safe_31 : decode cX5_safe 31 = .ok (.aload_n 0, 1) := by decide +kernel
theorem dX5_safe_32 : decode cX5_safe 32 = .ok (.iload_n 3, 1) := by decide +kernel
theorem dX5_safe_33 : decode cX5_safe 33 = .ok (.putfield 96, 3) := by decide +kernel
theorem dX5_safe_36 : decode cX5_safe 36 = .ok (.iload_n 3, 1) := by decide +kernel
theorem dX5_safe_37 : decode cX5_safe 37 = .ok (.iload_n 1, 1) := by decide +kernel
theorem dX5_safe_38 : decode cX5_safe 38 = .ok (.if_icmp .ne 8, 3) := by decide +kernel
theorem dX5_safe_41 : decode cX5_safe 41 = .ok (.bipush (-4), 2) := by decide +kernel
theorem dX5_safe_43 : decode cX5_safe 43 = .ok (.goto 8, 3) := by decide +kernel
theorem dX5_safe_46 : decode cX5_safe 46 = .ok (.aload_n 0, 1) := by decide +kernel
theorem dX5_safe_47 : decode cX5_safe 47 = .ok (.iload_n 1, 1) := by decide +kernel
theorem dX5_safe_48 : decode cX5_safe 48 = .ok (.invokevirtual 99, 3) := by decide +kernel
theorem dX5_safe_51 : decode cX5_safe 51 = .ok (.istore 4, 2) := by decide +kernel
theorem dX5_safe_53 : decode cX5_safe 53 = .ok (.iload 4, 2) := by decide +kernel
theorem dX5_safe_55 : decode cX5_safe 55 = .ok (.bipush (-4), 2) := by decide +kernel
theorem dX5_safe_57 : decode cX5_safe 57 = .ok (.if_icmp .eq 25, 3) := by decide +kernel
theorem dX5_safe_60 : decode cX5_safe 60 = .ok (.iload 4, 2) := by decide +kernel
theorem dX5_safe_62 : decode cX5_safe 62 = .ok (.iload_n 1, 1) := by decide +kernel
theorem dX5_safe_63 : decode cX5_safe 63 = .ok (.if_icmp .eq 19, 3) := by decide +kernel
theorem dX5_safe_66 : decode cX5_safe 66 = .ok (.aload_n 0, 1) := by decide +kernel
theorem dX5_safe_67 : decode cX5_safe 67 = .ok (.getfield 13, 3) := by decide +kernel
theorem dX5_safe_70 : decode cX5_safe 70 = .ok (.iconst 3, 1) := by decide +kernel
theorem dX5_safe_71 : decode cX5_safe 71 = .ok (.iload 4, 2) := by decide +kernel
theorem dX5_safe_73 : decode cX5_safe 73 = .ok (.iadd, 1) := by decide +kernel
theorem dX5_safe_74 : decode cX5_safe 74 = .ok (.iaload, 1) := by decide +kernel
theorem dX5_safe_75 : decode cX5_safe 75 = .ok (.ifCond .ne 7, 3) := by decide +kernel
theorem dX5_safe_78 : decode cX5_safe 78 = .ok (.iload_n 3, 1) := by decide +kernel
theorem dX5_safe_79 : decode cX5_safe 79 = .ok (.goto 4, 3) := by decide +kernel
theorem dX5_safe_82 : decode cX5_safe 82 = .ok (.iload_n 2, 1) := by decide +kernel
theorem dX5_safe_83 : decode cX5_safe 83 = .ok (.istore_n 2, 1) := by decide +kernel
theorem dX5_safe_84 : decode cX5_safe 84 = .ok (.iinc 3 (-1), 3) := by decide +kernel
theorem dX5_safe_87 : decode cX5_safe 87 = .ok (.goto (-60), 3) := by decide +kernel
theorem dX5_safe_90 : decode cX5_safe 90 = .ok (.aload_n 0, 1) := by decide +kernel
theorem dX5_safe_91 : decode cX5_safe 91 = .ok (.iconst (-1), 1) := by decide +kernel
theorem dX5_safe_92 : decode cX5_safe 92 = .ok (.putfield 28, 3) := by decide +kernel
theorem dX5_safe_95 : decode cX5_safe 95 = .ok (.iload_n 2, 1) := by decide +kernel
theorem dX5_safe_96 : decode cX5_safe 96 = .ok (.ireturn, 1) := by decide +kernel
theorem dX5_numbers_0 : decode cX5_numbers 0 = .ok (.iload_n 1, 1) := by decide +kernel
theorem dX5_numbers_1 : decode cX5_numbers 1 = .ok (.iconst 1, 1) := by decide +kernel
theorem dX5_numbers_2 : decode cX5_numbers 2 = .ok (.iconst 5, 1) := by decide +kernel
theorem dX5_numbers_3 : decode cX5_numbers 3 = .ok (.invokestatic 45, 3) := by decide +kernel
theorem dX5_numbers_6 : decode cX5_numbers 6 = .ok (.ifCond .eq 11, 3) := by decide +kernel
theorem dX5_numbers_9 : decode cX5_numbers 9 = .ok (.aload_n 0, 1) := by decide +kernel
theorem dX5_numbers_10 : decode cX5_numbers 10 = .ok (.iload_n 1, 1) := by decide +kernel
theorem dX5_numbers_11 : decode cX5_numbers 11 = .ok (.invokevirtual 165, 3) := by decide +kernel
theorem dX5_numbers_14 : decode cX5_numbers 14 = .ok (.goto 4, 3) := by decide +kernel
theorem dX5_numbers_17 : decode cX5_numbers 17 = .ok (.iconst (-1), 1) := by decide +kernel
theorem dX5_numbers_18 : decode cX5_numbers 18 = .ok (.ireturn, 1) := by decide +kernel
theorem dX5_drill_0 : decode cX5_drill 0 = .ok (.iload_n 1, 1) := by decide +kernel
theorem dX5_drill_1 : decode cX5_drill 1 = .ok (.iconst 0, 1) := by decide +kernel
theorem dX5_drill_2 : decode cX5_drill 2 = .ok (.sipush 9999, 3) := by decide +kernel
theorem dX5_drill_5 : decode cX5_drill 5 = .ok (.invokestatic 45, 3) := by decide +kernel
theorem dX5_drill_8 : decode cX5_drill 8 = .ok (.ifCond .eq 22, 3) := by decide +kernel
theorem dX5_drill_11 : decode cX5_drill 11 = .ok (.iload_n 2, 1) := by decide +kernel
theorem dX5_drill_12 : decode cX5_drill 12 = .ok (.iconst 1, 1) := by decide +kernel
theorem dX5_drill_13 : decode cX5_drill 13 = .ok (.bipush 60, 2) := by decide +kernel
theorem dX5_drill_15 : decode cX5_drill 15 = .ok (.invokestatic 45, 3) := by decide +kernel
theorem dX5_drill_18 : decode cX5_drill 18 = .ok (.ifCond .eq 12, 3) := by decide +kernel
theorem dX5_drill_21 : decode cX5_drill 21 = .ok (.iload_n 3, 1) := by decide +kernel
theorem dX5_drill_22 : decode cX5_drill 22 = .ok (.iconst 0, 1) := by decide +kernel
theorem dX5_drill_23 : decode cX5_drill 23 = .ok (.iconst 1, 1) := by decide +kernel
theorem dX5_drill_24 : decode cX5_drill 24 = .ok (.invokestatic 45, 3) := by decide +kernel
theorem dX5_drill_27 : decode cX5_drill 27 = .ok (.ifCond .ne 5, 3) := by decide +kernel
theorem dX5_drill_30 : decode cX5_drill 30 = .ok (.iconst (-1), 1) := by decide +kernel
theorem dX5_drill_31 : decode cX5_drill 31 = .ok (.ireturn, 1) := by decide +kernel
theorem dX5_drill_32 : decode cX5_drill 32 = .ok (.aload_n 0, 1) := by decide +kernel
theorem dX5_drill_33 : decode cX5_drill 33 = .ok (.invokevirtual 153, 3) := by decide +kernel
theorem dX5_drill_36 : decode cX5_drill 36 = .ok (.iconst 0, 1) := by decide +kernel
theorem dX5_drill_37 : decode cX5_drill 37 = .ok (.istore 4, 2) := by decide +kernel
theorem dX5_drill_39 : decode cX5_drill 39 = .ok (.iconst 0, 1) := by decide +kernel
theorem dX5_drill_40 : decode cX5_drill 40 = .ok (.istore 5, 2) := by decide +kernel
theorem dX5_drill_42 : decode cX5_drill 42 = .ok (.iload 5, 2) := by decide +kernel
theorem dX5_drill_44 : decode cX5_drill 44 = .ok (.iload_n 2, 1) := by decide +kernel
theorem dX5_drill_45 : decode cX5_drill 45 = .ok (.if_icmp .ge 56, 3) := by decide +kernel
theorem dX5_drill_48 : decode cX5_drill 48 = .ok (.aload_n 0, 1) := by decide +kernel
theorem dX5_drill_49 : decode cX5_drill 49 = .ok (.ldc2_w 104, 3) := by decide +kernel
theorem dX5_drill_52 : decode cX5_drill 52 = .ok (.iload_n 1, 1) := by decide +kernel
theorem dX5_drill_53 : decode cX5_drill 53 = .ok (.i2l, 1) := by decide +kernel
theorem dX5_drill_54 : decode cX5_drill 54 = .ok (.lmul, 1) := by decide +kernel
theorem dX5_drill_55 : decode cX5_drill 55 = .ok (.ldc2_w 106, 3) := by decide +kernel
theorem dX5_drill_58 : decode cX5_drill 58 = .ok (.iload 5, 2) := by decide +kernel
theorem dX5_drill_60 : decode cX5_drill 60 = .ok (.i2l, 1) := by decide +kernel
theorem dX5_drill_61 : decode cX5_drill 61 = .ok (.lmul, 1) := by decide +kernel
theorem dX5_drill_62 : decode cX5_drill 62 = .ok (.ladd, 1) := by decide +kernel
theorem dX5_drill_63 : decode cX5_drill 63 = .ok (.lconst 1, 1) := by decide +kernel
theorem dX5_drill_64 : decode cX5_drill 64 = .ok (.ladd, 1) := by decide +kernel
theorem dX5_drill_65 : decode cX5_drill 65 = .ok (.invokestatic 110, 3) := by decide +kernel
theorem dX5_drill_68 : decode cX5_drill 68 = .ok (.iconst 3, 1) := by decide +kernel
theorem dX5_drill_69 : decode cX5_drill 69 = .ok (.irem, 1) := by decide +kernel
theorem dX5_drill_70 : decode cX5_drill 70 = .ok (.aload_n 0, 1) := by decide +kernel
theorem dX5_drill_71 : decode cX5_drill 71 = .ok (.iconst 0, 1) := by decide +kernel
theorem dX5_drill_72 : decode cX5_drill 72 = .ok (.invokevirtual 136, 3) := by decide +kernel
theorem dX5_drill_75 : decode cX5_drill 75 = .ok (.invokevirtual 140, 3) := by decide +kernel
theorem dX5_drill_78 : decode cX5_drill 78 = .ok (.iload 4, 2) := by decide +kernel
theorem dX5_drill_80 : decode cX5_drill 80 = .ok (.aload_n 0, 1) := by decide +kernel
theorem dX5_drill_81 : decode cX5_drill 81 = .ok (.invokevirtual 156, 3) := by decide +kernel
theorem dX5_drill_84 : decode cX5_drill 84 = .ok (.ifCond .eq 7, 3) := by decide +kernel
theorem dX5_drill_87 : decode cX5_drill 87 = .ok (.iconst 1, 1) := by decide +kernel
theorem dX5_drill_88 : decode cX5_drill 88 = .ok (.goto 4, 3) := by decide +kernel
theorem dX5_drill_91 : decode cX5_drill 91 = .ok (.iconst 0, 1) := by decide +kernel
theorem dX5_drill_92 : decode cX5_drill 92 = .ok (.iadd, 1) := by decide +kernel
theorem dX5_drill_93 : decode cX5_drill 93 = .ok (.istore 4, 2) := by decide +kernel
theorem dX5_drill_95 : decode cX5_drill 95 = .ok (.iinc 5 1, 3) := by decide +kernel
theorem dX5_drill_98 : decode cX5_drill 98 = .ok (.goto (-56), 3) := by decide +kernel
theorem dX5_drill_101 : decode cX5_drill 101 = .ok (.aload_n 0, 1) := by decide +kernel
theorem dX5_drill_102 : decode cX5_drill 102 = .ok (.invokevirtual 144, 3) := by decide +kernel
theorem dX5_drill_105 : decode cX5_drill 105 = .ok (.invokestatic 147, 3) := by decide +kernel
theorem dX5_drill_108 : decode cX5_drill 108 = .ok (.istore 5, 2) := by decide +kernel
theorem dX5_drill_110 : decode cX5_drill 110 = .ok (.aload_n 0, 1) := by decide +kernel
theorem dX5_drill_111 : decode cX5_drill 111 = .ok (.invokevirtual 162, 3) := by decide +kernel
theorem dX5_drill_114 : decode cX5_drill 114 = .ok (.iload_n 3, 1) := by decide +kernel
theorem dX5_drill_115 : decode cX5_drill 115 = .ok (.ifCond .ne 8, 3) := by decide +kernel
theorem dX5_drill_118 : decode cX5_drill 118 = .ok (.iload 5, 2) := by decide +kernel
theorem dX5_drill_120 : decode cX5_drill 120 = .ok (.goto 5, 3) := by decide +kernel
theorem dX5_drill_123 : decode cX5_drill 123 = .ok (.iload 4, 2) := by decide +kernel
theorem dX5_drill_125 : decode cX5_drill 125 = .ok (.ireturn, 1) := by decide +kernel
theorem dX5_keep_0 : decode cX5_keep 0 = .ok (.aload_n 0, 1) := by decide +kernel
theorem dX5_keep_1 : decode cX5_keep 1 = .ok (.getfield 84, 3) := by decide +kernel
theorem dX5_keep_4 : decode cX5_keep 4 = .ok (.iconst 2, 1) := by decide +kernel
theorem dX5_keep_5 : decode cX5_keep 5 = .ok (.if_icmp .ne 6, 3) := by decide +kernel
theorem dX5_keep_8 : decode cX5_keep 8 = .ok (.bipush (-3), 2) := by decide +kernel
theorem dX5_keep_10 : decode cX5_keep 10 = .ok (.ireturn, 1) := by decide +kernel
theorem dX5_keep_11 : decode cX5_keep 11 = .ok (.iconst 0, 1) := by decide +kernel
theorem dX5_keep_12 : decode cX5_keep 12 = .ok (.istore_n 1, 1) := by decide +kernel
theorem dX5_keep_13 : decode cX5_keep 13 = .ok (.iload_n 1, 1) := by decide +kernel
theorem dX5_keep_14 : decode cX5_keep 14 = .ok (.bipush 22, 2) := by decide +kernel
theorem dX5_keep_16 : decode cX5_keep 16 = .ok (.if_icmp .ge 29, 3) := by decide +kernel
theorem dX5_keep_19 : decode cX5_keep 19 = .ok (.aload_n 0, 1) := by decide +kernel
theorem dX5_keep_20 : decode cX5_keep 20 = .ok (.getfield 25, 3) := by decide +kernel
theorem dX5_keep_23 : decode cX5_keep 23 = .ok (.bipush 22, 2) := by decide +kernel
theorem dX5_keep_25 : decode cX5_keep 25 = .ok (.aload_n 0, 1) := by decide +kernel
theorem dX5_keep_26 : decode cX5_keep 26 = .ok (.getfield 84, 3) := by decide +kernel
theorem dX5_keep_29 : decode cX5_keep 29 = .ok (.imul, 1) := by decide +kernel
theorem dX5_keep_30 : decode cX5_keep 30 = .ok (.iload_n 1, 1) := by decide +kernel
theorem dX5_keep_31 : decode cX5_keep 31 = .ok (.iadd, 1) := by decide +kernel
theorem dX5_keep_32 : decode cX5_keep 32 = .ok (.aload_n 0, 1) := by decide +kernel
theorem dX5_keep_33 : decode cX5_keep 33 = .ok (.getfield 19, 3) := by decide +kernel
theorem dX5_keep_36 : decode cX5_keep 36 = .ok (.iload_n 1, 1) := by decide +kernel
theorem dX5_keep_37 : decode cX5_keep 37 = .ok (.iaload, 1) := by decide +kernel
theorem dX5_keep_38 : decode cX5_keep 38 = .ok (.iastore, 1) := by decide +kernel
theorem dX5_keep_39 : decode cX5_keep 39 = .ok (.iinc 1 1, 3) := by decide +kernel
theorem dX5_keep_42 : decode cX5_keep 42 = .ok (.goto (-29), 3) := by decide +kernel
theorem dX5_keep_45 : decode cX5_keep 45 = .ok (.aload_n 0, 1) := by decide +kernel
theorem dX5_keep_46 : decode cX5_keep 46 = .ok (.dup, 1) := by decide +kernel
theorem dX5_keep_47 : decode cX5_keep 47 = .ok (.getfield 84, 3) := by decide +kernel
theorem dX5_keep_50 : decode cX5_keep 50 = .ok (.iconst 1, 1) := by decide +kernel
theorem dX5_keep_51 : decode cX5_keep 51 = .ok (.iadd, 1) := by decide +kernel
theorem dX5_keep_52 : decode cX5_keep 52 = .ok (.putfield 84, 3) := by decide +kernel
theorem dX5_keep_55 : decode cX5_keep 55 = .ok (.aload_n 0, 1) := by decide +kernel
theorem dX5_keep_56 : decode cX5_keep 56 = .ok (.getfield 84, 3) := by decide +kernel
theorem dX5_keep_59 : decode cX5_keep 59 = .ok (.ireturn, 1) := by decide +kernel
theorem dX5_back_0 : decode cX5_back 0 = .ok (.aload_n 0, 1) := by decide +kernel
theorem dX5_back_1 : decode cX5_back 1 = .ok (.getfield 84, 3) := by decide +kernel
theorem dX5_back_4 : decode cX5_back 4 = .ok (.ifCond .ne 6, 3) := by decide +kernel
theorem dX5_back_7 : decode cX5_back 7 = .ok (.bipush (-2), 2) := by decide +kernel
theorem dX5_back_9 : decode cX5_back 9 = .ok (.ireturn, 1) := by decide +kernel
theorem dX5_back_10 : decode cX5_back 10 = .ok (.aload_n 0, 1) := by decide +kernel
theorem dX5_back_11 : decode cX5_back 11 = .ok (.dup, 1) := by decide +kernel
theorem dX5_back_12 : decode cX5_back 12 = .ok (.getfield 84, 3) := by decide +kernel
theorem dX5_back_15 : decode cX5_back 15 = .ok (.iconst 1, 1) := by decide +kernel
theorem dX5_back_16 : decode cX5_back 16 = .ok (.isub, 1) := by decide +kernel
theorem dX5_back_17 : decode cX5_back 17 = .ok (.putfield 84, 3) := by decide +kernel
theorem dX5_back_20 : decode cX5_back 20 = .ok (.iconst 0, 1) := by decide +kernel
theorem dX5_back_21 : decode cX5_back 21 = .ok (.istore_n 1, 1) := by decide +kernel
theorem dX5_back_22 : decode cX5_back 22 = .ok (.iload_n 1, 1) := by decide +kernel
theorem dX5_back_23 : decode cX5_back 23 = .ok (.bipush 22, 2) := by decide +kernel
theorem dX5_back_25 : decode cX5_back 25 = .ok (.if_icmp .ge 29, 3) := by decide +kernel
theorem dX5_back_28 : decode cX5_back 28 = .ok (.aload_n 0, 1) := by decide +kernel
theorem dX5_back_29 : decode cX5_back 29 = .ok (.getfield 19, 3) := by decide +kernel
theorem dX5_back_32 : decode cX5_back 32 = .ok (.iload_n 1, 1) := by decide +kernel
theorem dX5_back_33 : decode cX5_back 33 = .ok (.aload_n 0, 1) := by decide +kernel
theorem dX5_back_34 : decode cX5_back 34 = .ok (.getfield 25, 3) := by decide +kernel
theorem dX5_back_37 : decode cX5_back 37 = .ok (.bipush 22, 2) := by decide +kernel
theorem dX5_back_39 : decode cX5_back 39 = .ok (.aload_n 0, 1) := by decide +kernel
theorem dX5_back_40 : decode cX5_back 40 = .ok (.getfield 84, 3) := by decide +kernel
theorem dX5_back_43 : decode cX5_back 43 = .ok (.imul, 1) := by decide +kernel
theorem dX5_back_44 : decode cX5_back 44 = .ok (.iload_n 1, 1) := by decide +kernel
theorem dX5_back_45 : decode cX5_back 45 = .ok (.iadd, 1) := by decide +kernel
theorem dX5_back_46 : decode cX5_back 46 = .ok (.iaload, 1) := by decide +kernel
theorem dX5_back_47 : decode cX5_back 47 = .ok (.iastore, 1) := by decide +kernel
theorem dX5_back_48 : decode cX5_back 48 = .ok (.iinc 1 1, 3) := by decide +kernel
theorem dX5_back_51 : decode cX5_back 51 = .ok (.goto (-29), 3) := by decide +kernel
theorem dX5_back_54 : decode cX5_back 54 = .ok (.aload_n 0, 1) := by decide +kernel
theorem dX5_back_55 : decode cX5_back 55 = .ok (.iconst 0, 1) := by decide +kernel
theorem dX5_back_56 : decode cX5_back 56 = .ok (.putfield 81, 3) := by decide +kernel
theorem dX5_back_59 : decode cX5_back 59 = .ok (.aload_n 0, 1) := by decide +kernel
theorem dX5_back_60 : decode cX5_back 60 = .ok (.getfield 84, 3) := by decide +kernel
theorem dX5_back_63 : decode cX5_back 63 = .ok (.ireturn, 1) := by decide +kernel
theorem dX5_count_0 : decode cX5_count 0 = .ok (.iload_n 1, 1) := by decide +kernel
theorem dX5_count_1 : decode cX5_count 1 = .ok (.tableswitch 77 0 5 #[39, 46, 54, 62, 67, 72], 39) := by decide +kernel
theorem dX5_count_40 : decode cX5_count 40 = .ok (.aload_n 0, 1) := by decide +kernel
theorem dX5_count_41 : decode cX5_count 41 = .ok (.getfield 13, 3) := by decide +kernel
theorem dX5_count_44 : decode cX5_count 44 = .ok (.iconst 0, 1) := by decide +kernel
theorem dX5_count_45 : decode cX5_count 45 = .ok (.iaload, 1) := by decide +kernel
theorem dX5_count_46 : decode cX5_count 46 = .ok (.ireturn, 1) := by decide +kernel
theorem dX5_count_47 : decode cX5_count 47 = .ok (.aload_n 0, 1) := by decide +kernel
theorem dX5_count_48 : decode cX5_count 48 = .ok (.getfield 19, 3) := by decide +kernel
theorem dX5_count_51 : decode cX5_count 51 = .ok (.bipush 17, 2) := by decide +kernel
theorem dX5_count_53 : decode cX5_count 53 = .ok (.iaload, 1) := by decide +kernel
theorem dX5_count_54 : decode cX5_count 54 = .ok (.ireturn, 1) := by decide +kernel
theorem dX5_count_55 : decode cX5_count 55 = .ok (.aload_n 0, 1) := by decide +kernel
theorem dX5_count_56 : decode cX5_count 56 = .ok (.getfield 19, 3) := by decide +kernel
theorem dX5_count_59 : decode cX5_count 59 = .ok (.bipush 16, 2) := by decide +kernel
theorem dX5_count_61 : decode cX5_count 61 = .ok (.iaload, 1) := by decide +kernel
theorem dX5_count_62 : decode cX5_count 62 = .ok (.ireturn, 1) := by decide +kernel
theorem dX5_count_63 : decode cX5_count 63 = .ok (.aload_n 0, 1) := by decide +kernel
theorem dX5_count_64 : decode cX5_count 64 = .ok (.getfield 81, 3) := by decide +kernel
theorem dX5_count_67 : decode cX5_count 67 = .ok (.ireturn, 1) := by decide +kernel
theorem dX5_count_68 : decode cX5_count 68 = .ok (.aload_n 0, 1) := by decide +kernel
theorem dX5_count_69 : decode cX5_count 69 = .ok (.getfield 84, 3) := by decide +kernel
theorem dX5_count_72 : decode cX5_count 72 = .ok (.ireturn, 1) := by decide +kernel
theorem dX5_count_73 : decode cX5_count 73 = .ok (.aload_n 0, 1) := by decide +kernel
theorem dX5_count_74 : decode cX5_count 74 = .ok (.getfield 49, 3) := by decide +kernel
theorem dX5_count_77 : decode cX5_count 77 = .ok (.ireturn, 1) := by decide +kernel
theorem dX5_count_78 : decode cX5_count 78 = .ok (.iconst (-1), 1) := by decide +kernel
theorem dX5_count_79 : decode cX5_count 79 = .ok (.ireturn, 1) := by decide +kernel
