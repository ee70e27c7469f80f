theorem dX3_movePistons_88 : decode cX3_movePistons 88 = .ok (.ireturn, 1) := by decide +kernel
theorem dX3_advanceTimers_0 : decode cX3_advanceTimers 0 = .ok (.iconst 0, 1) := by decide +kernel
theorem dX3_advanceTimers_1 : decode cX3_advanceTimers 1 = .ok (.istore_n 1, 1) := by decide +kernel
theorem dX3_advanceTimers_2 : decode cX3_advanceTimers 2 = .ok (.iconst 0, 1) := by decide +kernel
theorem dX3_advanceTimers_3 : decode cX3_advanceTimers 3 = .ok (.istore_n 2, 1) := by decide +kernel
theorem dX3_advanceTimers_4 : decode cX3_advanceTimers 4 = .ok (.iload_n 2, 1) := by decide +kernel
theorem dX3_advanceTimers_5 : decode cX3_advanceTimers 5 = .ok (.aload_n 0, 1) := by decide +kernel
theorem dX3_advanceTimers_6 : decode cX3_advanceTimers 6 = .ok (.getfield 49, 3) := by decide +kernel
theorem dX3_advanceTimers_9 : decode cX3_advanceTimers 9 = .ok (.getfield 121, 3) := by decide +kernel
theorem dX3_advanceTimers_12 : decode cX3_advanceTimers 12 = .ok (.if_icmp .ge 68, 3) := by decide +kernel
theorem dX3_advanceTimers_15 : decode cX3_advanceTimers 15 = .ok (.aload_n 0, 1) := by decide +kernel
theorem dX3_advanceTimers_16 : decode cX3_advanceTimers 16 = .ok (.getfield 12, 3) := by decide +kernel
theorem dX3_advanceTimers_19 : decode cX3_advanceTimers 19 = .ok (.getfield 152, 3) := by decide +kernel
theorem dX3_advanceTimers_22 : decode cX3_advanceTimers 22 = .ok (.iload_n 2, 1) := by decide +kernel
theorem dX3_advanceTimers_23 : decode cX3_advanceTimers 23 = .ok (.invokestatic 141, 3) := by decide +kernel
theorem dX3_advanceTimers_26 : decode cX3_advanceTimers 26 = .ok (.ifCond .eq 19, 3) := by decide +kernel
theorem dX3_advanceTimers_29 : decode cX3_advanceTimers 29 = .ok (.aload_n 0, 1) := by decide +kernel
theorem dX3_advanceTimers_30 : decode cX3_advanceTimers 30 = .ok (.getfield 39, 3) := by decide +kernel
theorem dX3_advanceTimers_33 : decode cX3_advanceTimers 33 = .ok (.iload_n 2, 1) := by decide +kernel
theorem dX3_advanceTimers_34 : decode cX3_advanceTimers 34 = .ok (.iaload, 1) := by decide +kernel
theorem dX3_advanceTimers_35 : decode cX3_advanceTimers 35 = .ok (.iconst 1, 1) := by decide +kernel
theorem dX3_advanceTimers_36 : decode cX3_advanceTimers 36 = .ok (.iadd, 1) := by decide +kernel
theorem dX3_advanceTimers_37 : decode cX3_advanceTimers 37 = .ok (.bipush 60, 2) := by decide +kernel
theorem dX3_advanceTimers_39 : decode cX3_advanceTimers 39 = .ok (.invokestatic 155, 3) := by decide +kernel
theorem dX3_advanceTimers_42 : decode cX3_advanceTimers 42 = .ok (.goto 4, 3) := by decide +kernel
theorem dX3_advanceTimers_45 : decode cX3_advanceTimers 45 = .ok (.iconst 0, 1) := by decide +kernel
theorem dX3_advanceTimers_46 : decode cX3_advanceTimers 46 = .ok (.istore_n 3, 1) := by decide +kernel
theorem dX3_advanceTimers_47 : decode cX3_advanceTimers 47 = .ok (.iload_n 1, 1) := by decide +kernel
theorem dX3_advanceTimers_48 : decode cX3_advanceTimers 48 = .ok (.ifCond .ne 13, 3) := by decide +kernel
theorem dX3_advanceTimers_51 : decode cX3_advanceTimers 51 = .ok (.iload_n 3, 1) := by decide +kernel
theorem dX3_advanceTimers_52 : decode cX3_advanceTimers 52 = .ok (.aload_n 0, 1) := by decide +kernel
theorem dX3_advanceTimers_53 : decode cX3_advanceTimers 53 = .ok (.getfield 39, 3) := by decide +kernel
theorem dX3_advanceTimers_56 : decode cX3_advanceTimers 56 = .ok (.iload_n 2, 1) := by decide +kernel
theorem dX3_advanceTimers_57 : decode cX3_advanceTimers 57 = .ok (.iaload, 1) := by decide +kernel
theorem dX3_advanceTimers_58 : decode cX3_advanceTimers 58 = .ok (.if_icmp .eq 7, 3) := by decide +kernel
theorem dX3_advanceTimers_61 : decode cX3_advanceTimers 61 = .ok (.iconst 1, 1) := by decide +kernel
theorem dX3_advanceTimers_62 : decode cX3_advanceTimers 62 = .ok (.goto 4, 3) := by decide +kernel
theorem dX3_advanceTimers_65 : decode cX3_advanceTimers 65 = .ok (.iconst 0, 1) := by decide +kernel
theorem dX3_advanceTimers_66 : decode cX3_advanceTimers 66 = .ok (.istore_n 1, 1) := by decide +kernel
theorem dX3_advanceTimers_67 : decode cX3_advanceTimers 67 = .ok (.aload_n 0, 1) := by decide +kernel
theorem dX3_advanceTimers_68 : decode cX3_advanceTimers 68 = .ok (.getfield 39, 3) := by decide +kernel
theorem dX3_advanceTimers_71 : decode cX3_advanceTimers 71 = .ok (.iload_n 2, 1) := by decide +kernel
theorem dX3_advanceTimers_72 : decode cX3_advanceTimers 72 = .ok (.iload_n 3, 1) := by decide +kernel
theorem dX3_advanceTimers_73 : decode cX3_advanceTimers 73 = .ok (.iastore, 1) := by decide +kernel
theorem dX3_advanceTimers_74 : decode cX3_advanceTimers 74 = .ok (.iinc 2 1, 3) := by decide +kernel
theorem dX3_advanceTimers_77 : decode cX3_advanceTimers 77 = .ok (.goto (-73), 3) := by decide +kernel
theorem dX3_advanceTimers_80 : decode cX3_advanceTimers 80 = .ok (.iload_n 1, 1) := by decide +kernel
theorem dX3_advanceTimers_81 : decode cX3_advanceTimers 81 = .ok (.ireturn, 1) := by decide +kernel
theorem dX4_init_0 : decode cX4_init 0 = .ok (.aload_n 0, 1) := by decide +kernel
theorem dX4_init_1 : decode cX4_init 1 = .ok (.invokespecial 1, 3) := by decide +kernel
theorem dX4_init_4 : decode cX4_init 4 = .ok (.return_, 1) := by decide +kernel
theorem dX4_reset_0 : decode cX4_reset 0 = .ok (.aload_n 0, 1) := by decide +kernel
theorem dX4_reset_1 : decode cX4_reset 1 = .ok (.iconst 0, 1) := by decide +kernel
theorem dX4_reset_2 : decode cX4_reset 2 = .ok (.putfield 7, 3) := by decide +kernel
theorem dX4_reset_5 : decode cX4_reset 5 = .ok (.aload_n 0, 1) := by decide +kernel
theorem dX4_reset_6 : decode cX4_reset 6 = .ok (.iconst 0, 1) := by decide +kernel
theorem dX4_reset_7 : decode cX4_reset 7 = .ok (.putfield 13, 3) := by decide +kernel
theorem dX4_reset_10 : decode cX4_reset 10 = .ok (.aload_n 0, 1) := by decide +kernel
theorem dX4_reset_11 : decode cX4_reset 11 = .ok (.iconst 0, 1) := by decide +kernel
theorem dX4_reset_12 : decode cX4_reset 12 = .ok (.putfield 16, 3) := by decide +kernel
theorem dX4_reset_15 : decode cX4_reset 15 = .ok (.aload_n 0, 1) := by decide +kernel
theorem dX4_reset_16 : decode cX4_reset 16 = .ok (.aload_n 1, 1) := by decide +kernel
theorem dX4_reset_17 : decode cX4_reset 17 = .ok (.aload_n 1, 1) := by decide +kernel
theorem dX4_reset_18 : decode cX4_reset 18 = .ok (.iconst 0, 1) := by decide +kernel
theorem dX4_reset_19 : decode cX4_reset 19 = .ok (.invokevirtual 20, 3) := by decide +kernel
theorem dX4_reset_22 : decode cX4_reset 22 = .ok (.invokevirtual 26, 3) := by decide +kernel
theorem dX4_reset_25 : decode cX4_reset 25 = .ok (.return_, 1) := by decide +kernel
theorem dX4_makeDue_0 : decode cX4_makeDue 0 = .ok (.iload_n 2, 1) := by decide +kernel
theorem dX4_makeDue_1 : decode cX4_makeDue 1 = .ok (.aload_n 1, 1) := by decide +kernel
theorem dX4_makeDue_2 : decode cX4_makeDue 2 = .ok (.getfield 30, 3) := by decide +kernel
theorem dX4_makeDue_5 : decode cX4_makeDue 5 = .ok (.if_icmp .ge 7, 3) := by decide +kernel
theorem dX4_makeDue_8 : decode cX4_makeDue 8 = .ok (.iconst 1, 1) := by decide +kernel
theorem dX4_makeDue_9 : decode cX4_makeDue 9 = .ok (.goto 4, 3) := by decide +kernel
theorem dX4_makeDue_12 : decode cX4_makeDue 12 = .ok (.iconst 0, 1) := by decide +kernel
theorem dX4_makeDue_13 : decode cX4_makeDue 13 = .ok (.istore_n 3, 1) := by decide +kernel
theorem dX4_makeDue_14 : decode cX4_makeDue 14 = .ok (.aload_n 0, 1) := by decide +kernel
theorem dX4_makeDue_15 : decode cX4_makeDue 15 = .ok (.iload_n 2, 1) := by decide +kernel
theorem dX4_makeDue_16 : decode cX4_makeDue 16 = .ok (.putfield 33, 3) := by decide +kernel
theorem dX4_makeDue_19 : decode cX4_makeDue 19 = .ok (.aload_n 0, 1) := by decide +kernel
theorem dX4_makeDue_20 : decode cX4_makeDue 20 = .ok (.iload_n 3, 1) := by decide +kernel
theorem dX4_makeDue_21 : decode cX4_makeDue 21 = .ok (.ifCond .eq 12, 3) := by decide +kernel
theorem dX4_makeDue_24 : decode cX4_makeDue 24 = .ok (.aload_n 1, 1) := by decide +kernel
theorem dX4_makeDue_25 : decode cX4_makeDue 25 = .ok (.getfield 36, 3) := by decide +kernel
theorem dX4_makeDue_28 : decode cX4_makeDue 28 = .ok (.iload_n 2, 1) := by decide +kernel
theorem dX4_makeDue_29 : decode cX4_makeDue 29 = .ok (.iaload, 1) := by decide +kernel
theorem dX4_makeDue_30 : decode cX4_makeDue 30 = .ok (.goto 4, 3) := by decide +kernel
theorem dX4_makeDue_33 : decode cX4_makeDue 33 = .ok (.iconst 0, 1) := by decide +kernel
theorem dX4_makeDue_34 : decode cX4_makeDue 34 = .ok (.putfield 40, 3) := by decide +kernel
theorem dX4_makeDue_37 : decode cX4_makeDue 37 = .ok (.aload_n 0, 1) := by decide +kernel
theorem dX4_makeDue_38 : decode cX4_makeDue 38 = .ok (.iload_n 3, 1) := by decide +kernel
theorem dX4_makeDue_39 : decode cX4_makeDue 39 = .ok (.ifCond .eq 12, 3) := by decide +kernel
theorem dX4_makeDue_42 : decode cX4_makeDue 42 = .ok (.aload_n 1, 1) := by decide +kernel
theorem dX4_makeDue_43 : decode cX4_makeDue 43 = .ok (.getfield 43, 3) := by decide +kernel
theorem dX4_makeDue_46 : decode cX4_makeDue 46 = .ok (.iload_n 2, 1) := by decide +kernel
theorem dX4_makeDue_47 : decode cX4_makeDue 47 = .ok (.iaload, 1) := by decide +kernel
theorem dX4_makeDue_48 : decode cX4_makeDue 48 = .ok (.goto 4, 3) := by decide +kernel
theorem dX4_makeDue_51 : decode cX4_makeDue 51 = .ok (.iconst 0, 1) := by decide +kernel
theorem dX4_makeDue_52 : decode cX4_makeDue 52 = .ok (.putfield 46, 3) := by decide +kernel
theorem dX4_makeDue_55 : decode cX4_makeDue 55 = .ok (.return_, 1) := by decide +kernel
theorem dX4_judge_0 : decode cX4_judge 0 = .ok (.aload_n 0, 1) := by decide +kernel
theorem dX4_judge_1 : decode cX4_judge 1 = .ok (.getfield 16, 3) := by decide +kernel
theorem dX4_judge_4 : decode cX4_judge 4 = .ok (.ifCond .ne 25, 3) := by decide +kernel
theorem dX4_judge_7 : decode cX4_judge 7 = .ok (.iload_n 3, 1) := by decide +kernel
theorem dX4_judge_8 : decode cX4_judge 8 = .ok (.ifCond .eq 10, 3) := by decide +kernel
theorem dX4_judge_11 : decode cX4_judge 11 = .ok (.aload_n 0, 1) := by decide +kernel
theorem dX4_judge_12 : decode cX4_judge 12 = .ok (.getfield 40, 3) := by decide +kernel
theorem dX4_judge_15 : decode cX4_judge 15 = .ok (.goto 7, 3) := by decide +kernel
theorem dX4_judge_18 : decode cX4_judge 18 = .ok (.aload_n 0, 1) := by decide +kernel
theorem dX4_judge_19 : decode cX4_judge 19 = .ok (.getfield 46, 3) := by decide +kernel
theorem dX4_judge_22 : decode cX4_judge 22 = .ok (.iload_n 2, 1) := by decide +kernel
theorem dX4_judge_23 : decode cX4_judge 23 = .ok (.invokestatic 49, 3) := by decide +kernel
theorem dX4_judge_26 : decode cX4_judge 26 = .ok (.ifCond .ne 9, 3) := by decide +kernel
theorem dX4_judge_29 : decode cX4_judge 29 = .ok (.aload_n 0, 1) := by decide +kernel
theorem dX4_judge_30 : decode cX4_judge 30 = .ok (.iconst 1, 1) := by decide +kernel
theorem dX4_judge_31 : decode cX4_judge 31 = .ok (.putfield 16, 3) := by decide +kernel
theorem dX4_judge_34 : decode cX4_judge 34 = .ok (.return_, 1) := by decide +kernel
theorem dX4_judge_35 : decode cX4_judge 35 = .ok (.aload_n 0, 1) := by decide +kernel
theorem dX4_judge_36 : decode cX4_judge 36 = .ok (.dup, 1) := by decide +kernel
theorem dX4_judge_37 : decode cX4_judge 37 = .ok (.getfield 7, 3) := by decide +kernel
theorem dX4_judge_40 : decode cX4_judge 40 = .ok (.iconst 1, 1) := by decide +kernel
theorem dX4_judge_41 : decode cX4_judge 41 = .ok (.iadd, 1) := by decide +kernel
theorem dX4_judge_42 : decode cX4_judge 42 = .ok (.putfield 7, 3) := by decide +kernel
theorem dX4_judge_45 : decode cX4_judge 45 = .ok (.aload_n 0, 1) := by decide +kernel
theorem dX4_judge_46 : decode cX4_judge 46 = .ok (.dup, 1) := by decide +kernel
theorem dX4_judge_47 : decode cX4_judge 47 = .ok (.getfield 40, 3) := by decide +kernel
theorem dX4_judge_50 : decode cX4_judge 50 = .ok (.iconst 1, 1) := by decide +kernel
theorem dX4_judge_51 : decode cX4_judge 51 = .ok (.iload_n 2, 1) := by decide +kernel
theorem dX4_judge_52 : decode cX4_judge 52 = .ok (.ishl, 1) := by decide +kernel
theorem dX4_judge_53 : decode cX4_judge 53 = .ok (.iconst (-1), 1) := by decide +kernel
theorem dX4_judge_54 : decode cX4_judge 54 = .ok (.ixor, 1) := by decide +kernel
theorem dX4_judge_55 : decode cX4_judge 55 = .ok (.iand, 1) := by decide +kernel
theorem dX4_judge_56 : decode cX4_judge 56 = .ok (.putfield 40, 3) := by decide +kernel
theorem dX4_judge_59 : decode cX4_judge 59 = .ok (.aload_n 0, 1) := by decide +kernel
theorem dX4_judge_60 : decode cX4_judge 60 = .ok (.dup, 1) := by decide +kernel
theorem dX4_judge_61 : decode cX4_judge 61 = .ok (.getfield 46, 3) := by decide +kernel
theorem dX4_judge_64 : decode cX4_judge 64 = .ok (.iconst 1, 1) := by decide +kernel
theorem dX4_judge_65 : decode cX4_judge 65 = .ok (.iload_n 2, 1) := by decide +kernel
theorem dX4_judge_66 : decode cX4_judge 66 = .ok (.ishl, 1) := by decide +kernel
theorem dX4_judge_67 : decode cX4_judge 67 = .ok (.iconst (-1), 1) := by decide +kernel
theorem dX4_judge_68 : decode cX4_judge 68 = .ok (.ixor, 1) := by decide +kernel
theorem dX4_judge_69 : decode cX4_judge 69 = .ok (.iand, 1) := by decide +kernel
theorem dX4_judge_70 : decode cX4_judge 70 = .ok (.putfield 46, 3) := by decide +kernel
theorem dX4_judge_73 : decode cX4_judge 73 = .ok (.aload_n 0, 1) := by decide +kernel
theorem dX4_judge_74 : decode cX4_judge 74 = .ok (.getfield 40, 3) := by decide +kernel
theorem dX4_judge_77 : decode cX4_judge 77 = .ok (.ifCond .ne 10, 3) := by decide +kernel
theorem dX4_judge_80 : decode cX4_judge 80 = .ok (.aload_n 0, 1) := by decide +kernel
theorem dX4_judge_81 : decode cX4_judge 81 = .ok (.getfield 46, 3) := by decide +kernel
theorem dX4_judge_84 : decode cX4_judge 84 = .ok (.ifCond .eq 4, 3) := by decide +kernel
theorem dX4_judge_87 : decode cX4_judge 87 = .ok (.return_, 1) := by decide +kernel
theorem dX4_judge_88 : decode cX4_judge 88 = .ok (.aload_n 1, 1) := by decide +kernel
theorem dX4_judge_89 : decode cX4_judge 89 = .ok (.aload_n 0, 1) := by decide +kernel
theorem dX4_judge_90 : decode cX4_judge 90 = .ok (.getfield 33, 3) := by decide +kernel
theorem dX4_judge_93 : decode cX4_judge 93 = .ok (.iconst 1, 1) := by decide +kernel
theorem dX4_judge_94 : decode cX4_judge 94 = .ok (.iadd, 1) := by decide +kernel
theorem dX4_judge_95 : decode cX4_judge 95 = .ok (.invokevirtual 20, 3) := by decide +kernel
theorem dX4_judge_98 : decode cX4_judge 98 = .ok (.istore 4, 2) := by decide +kernel
theorem dX4_judge_100 : decode cX4_judge 100 = .ok (.iload 4, 2) := by decide +kernel
theorem dX4_judge_102 : decode cX4_judge 102 = .ok (.aload_n 1, 1) := by decide +kernel
theorem dX4_judge_103 : decode cX4_judge 103 = .ok (.getfield 30, 3) := by decide +kernel
theorem dX4_judge_106 : decode cX4_judge 106 = .ok (.if_icmp .lt 20, 3) := by decide +kernel
theorem dX4_judge_109 : decode cX4_judge 109 = .ok (.aload_n 1, 1) := by decide +kernel
theorem dX4_judge_110 : decode cX4_judge 110 = .ok (.iconst 0, 1) := by decide +kernel
theorem dX4_judge_111 : decode cX4_judge 111 = .ok (.invokevirtual 20, 3) := by decide +kernel
theorem dX4_judge_114 : decode cX4_judge 114 = .ok (.istore 4, 2) := by decide +kernel
theorem dX4_judge_116 : decode cX4_judge 116 = .ok (.aload_n 0, 1) := by decide +kernel
theorem dX4_judge_117 : decode cX4_judge 117 = .ok (.dup, 1) := by decide +kernel
theorem dX4_judge_118 : decode cX4_judge 118 = .ok (.getfield 13, 3) := by decide +kernel
theorem dX4_judge_121 : decode cX4_judge 121 = .ok (.iconst 1, 1) := by decide +kernel
theorem dX4_judge_122 : decode cX4_judge 122 = .ok (.iadd, 1) := by decide +kernel
theorem dX4_judge_123 : decode cX4_judge 123 = .ok (.putfield 13, 3) := by decide +kernel
theorem dX4_judge_126 : decode cX4_judge 126 = .ok (.aload_n 0, 1) := by decide +kernel
theorem dX4_judge_127 : decode cX4_judge 127 = .ok (.aload_n 1, 1) := by decide +kernel
theorem dX4_judge_128 : decode cX4_judge 128 = .ok (.iload 4, 2) := by decide +kernel
theorem dX4_judge_130 : decode cX4_judge 130 = .ok (.invokevirtual 26, 3) := by decide +kernel
theorem dX4_judge_133 : decode cX4_judge 133 = .ok (.return_, 1) := by decide +kernel
theorem dX5_init_0 : decode cX5_init 0 = .ok (.aload_n 0, 1) := by decide +kernel
theorem dX5_init_1 : decode cX5_init 1 = .ok (.invokespecial 3, 3) := by decide +kernel
theorem dX5_init_4 : decode cX5_init 4 = .ok (.aload_n 0, 1) := by decide +kernel
theorem dX5_init_5 : decode cX5_init 5 = .ok (.bipush 16, 2) := by decide +kernel
theorem dX5_init_7 : decode cX5_init 7 = .ok (.newarray .int, 2) := by decide +kernel
theorem dX5_init_9 : decode cX5_init 9 = .ok (.putfield 9, 3) := by decide +kernel
theorem dX5_init_12 : decode cX5_init 12 = .ok (.aload_n 0, 1) := by decide +kernel
theorem dX5_init_13 : decode cX5_init 13 = .ok (.bipush 16, 2) := by decide +kernel
theorem dX5_init_15 : decode cX5_init 15 = .ok (.newarray .int, 2) := by decide +kernel
theorem dX5_init_17 : decode cX5_init 17 = .ok (.putfield 15, 3) := by decide +kernel
theorem dX5_init_20 : decode cX5_init 20 = .ok (.aload_n 0, 1) := by decide +kernel
theorem dX5_init_21 : decode cX5_init 21 = .ok (.bipush 16, 2) := by decide +kernel
theorem dX5_init_23 : decode cX5_init 23 = .ok (.newarray .int, 2) := by decide +kernel
theorem dX5_init_25 : decode cX5_init 25 = .ok (.putfield 18, 3) := by decide +kernel
theorem dX5_init_28 : decode cX5_init 28 = .ok (.aload_n 0, 1) := by decide +kernel
theorem dX5_init_29 : decode cX5_init 29 = .ok (.bipush 16, 2) := by decide +kernel
theorem dX5_init_31 : decode cX5_init 31 = .ok (.newarray .int, 2) := by decide +kernel
theorem dX5_init_33 : decode cX5_init 33 = .ok (.putfield 21, 3) := by decide +kernel
theorem dX5_init_36 : decode cX5_init 36 = .ok (.aload_n 0, 1) := by decide +kernel
theorem dX5_init_37 : decode cX5_init 37 = .ok (.bipush 16, 2) := by decide +kernel
theorem dX5_init_39 : decode cX5_init 39 = .ok (.newarray .int, 2) := by decide +kernel
theorem dX5_init_41 : decode cX5_init 41 = .ok (.putfield 24, 3) := by decide +kernel
theorem dX5_init_44 : decode cX5_init 44 = .ok (.aload_n 0, 1) := by decide +kernel
theorem dX5_init_45 : decode cX5_init 45 = .ok (.bipush 16, 2) := by decide +kernel
theorem dX5_init_47 : decode cX5_init 47 = .ok (.newarray .int, 2) := by decide +kernel
theorem dX5_init_49 : decode cX5_init 49 = .ok (.putfield 27, 3) := by decide +kernel
theorem dX5_init_52 : decode cX5_init 52 = .ok (.return_, 1) := by decide +kernel
theorem dX5_clear_0 : decode cX5_clear 0 = .ok (.aload_n 0, 1) := by decide +kernel
theorem dX5_clear_1 : decode cX5_clear 1 = .ok (.iconst 0, 1) := by decide +kernel
theorem dX5_clear_2 : decode cX5_clear 2 = .ok (.putfield 30, 3) := by decide +kernel
theorem dX5_clear_5 : decode cX5_clear 5 = .ok (.aload_n 0, 1) := by decide +kernel
theorem dX5_clear_6 : decode cX5_clear 6 = .ok (.getfield 9, 3) := by decide +kernel
theorem dX5_clear_9 : decode cX5_clear 9 = .ok (.iconst 0, 1) := by decide +kernel
theorem dX5_clear_10 : decode cX5_clear 10 = .ok (.invokestatic 34, 3) := by decide +kernel
theorem dX5_clear_13 : decode cX5_clear 13 = .ok (.aload_n 0, 1) := by decide +kernel
theorem dX5_clear_14 : decode cX5_clear 14 = .ok (.getfield 15, 3) := by decide +kernel
theorem dX5_clear_17 : decode cX5_clear 17 = .ok (.iconst 0, 1) := by decide +kernel
theorem dX5_clear_18 : decode cX5_clear 18 = .ok (.invokestatic 34, 3) := by decide +kernel
theorem dX5_clear_21 : decode cX5_clear 21 = .ok (.aload_n 0, 1) := by decide +kernel
theorem dX5_clear_22 : decode cX5_clear 22 = .ok (.getfield 18, 3) := by decide +kernel
theorem dX5_clear_25 : decode cX5_clear 25 = .ok (.iconst 0, 1) := by decide +kernel
theorem dX5_clear_26 : decode cX5_clear 26 = .ok (.invokestatic 34, 3) := by decide +kernel
theorem dX5_clear_29 : decode cX5_clear 29 = .ok (.return_, 1) := by decide +kernel
theorem dX5_movesIn_0 : decode cX5_movesIn 0 = .ok (.aload_n 0, 1) := by decide +kernel
theorem dX5_movesIn_1 : decode cX5_movesIn 1 = .ok (.getfield 9, 3) := by decide +kernel
theorem dX5_movesIn_4 : decode cX5_movesIn 4 = .ok (.iload_n 1, 1) := by decide +kernel
theorem dX5_movesIn_5 : decode cX5_movesIn 5 = .ok (.iaload, 1) := by decide +kernel
theorem dX5_movesIn_6 : decode cX5_movesIn 6 = .ok (.aload_n 0, 1) := by decide +kernel
theorem dX5_movesIn_7 : decode cX5_movesIn 7 = .ok (.getfield 15, 3) := by decide +kernel
theorem dX5_movesIn_10 : decode cX5_movesIn 10 = .ok (.iload_n 1, 1) := by decide +kernel
theorem dX5_movesIn_11 : decode cX5_movesIn 11 = .ok (.iaload, 1) := by decide +kernel
theorem dX5_movesIn_12 : decode cX5_movesIn 12 = .ok (.ior, 1) := by decide +kernel
theorem dX5_movesIn_13 : decode cX5_movesIn 13 = .ok (.ireturn, 1) := by decide +kernel
theorem dX5_movingCylinders_0 : decode cX5_movingCylinders 0 = .ok (.iconst 0, 1) := by decide +kernel
theorem dX5_movingCylinders_1 : decode cX5_movingCylinders 1 = .ok (.istore_n 1, 1) := by decide +kernel
theorem dX5_movingCylinders_2 : decode cX5_movingCylinders 2 = .ok (.iconst 0, 1) := by decide +kernel
theorem dX5_movingCylinders_3 : decode cX5_movingCylinders 3 = .ok (.istore_n 2, 1) := by decide +kernel
theorem dX5_movingCylinders_4 : decode cX5_movingCylinders 4 = .ok (.iload_n 2, 1) := by decide +kernel
theorem dX5_movingCylinders_5 : decode cX5_movingCylinders 5 = .ok (.aload_n 0, 1) := by decide +kernel
theorem dX5_movingCylinders_6 : decode cX5_movingCylinders 6 = .ok (.getfield 30, 3) := by decide +kernel
theorem dX5_movingCylinders_9 : decode cX5_movingCylinders 9 = .ok (.if_icmp .ge 17, 3) := by decide +kernel
theorem dX5_movingCylinders_12 : decode cX5_movingCylinders 12 = .ok (.iload_n 1, 1) := by decide +kernel
theorem dX5_movingCylinders_13 : decode cX5_movingCylinders 13 = .ok (.aload_n 0, 1) := by decide +kernel
theorem dX5_movingCylinders_14 : decode cX5_movingCylinders 14 = .ok (.iload_n 2, 1) := by decide +kernel
theorem dX5_movingCylinders_15 : decode cX5_movingCylinders 15 = .ok (.invokevirtual 40, 3) := by decide +kernel
theorem dX5_movingCylinders_18 : decode cX5_movingCylinders 18 = .ok (.ior, 1) := by decide +kernel
theorem dX5_movingCylinders_19 : decode cX5_movingCylinders 19 = .ok (.istore_n 1, 1) := by decide +kernel
theorem dX5_movingCylinders_20 : decode cX5_movingCylinders 20 = .ok (.iinc 2 1, 3) := by decide +kernel
theorem dX5_movingCylinders_23 : decode cX5_movingCylinders 23 = .ok (.goto (-19), 3) := by decide +kernel
theorem dX5_movingCylinders_26 : decode cX5_movingCylinders 26 = .ok (.iload_n 1, 1) := by decide +kernel
theorem dX5_movingCylinders_27 : decode cX5_movingCylinders 27 = .ok (.ireturn, 1) := by decide +kernel
theorem dX5_stepBefore_0 : decode cX5_stepBefore 0 = .ok (.iload_n 1, 1) := by decide +kernel
theorem dX5_stepBefore_1 : decode cX5_stepBefore 1 = .ok (.ifCond .le 9, 3) := by decide +kernel
theorem dX5_stepBefore_4 : decode cX5_stepBefore 4 = .ok (.iload_n 1, 1) := by decide +kernel
theorem dX5_stepBefore_5 : decode cX5_stepBefore 5 = .ok (.iconst 1, 1) := by decide +kernel
theorem dX5_stepBefore_6 : decode cX5_stepBefore 6 = .ok (.isub, 1) := by decide +kernel
theorem dX5_stepBefore_7 : decode cX5_stepBefore 7 = .ok (.goto 9, 3) := by decide +kernel
theorem dX5_stepBefore_10 : decode cX5_stepBefore 10 = .ok (.aload_n 0, 1) := by decide +kernel
theorem dX5_stepBefore_11 : decode cX5_stepBefore 11 = .ok (.getfield 30, 3) := by decide +kernel
theorem dX5_stepBefore_14 : decode cX5_stepBefore 14 = .ok (.iconst 1, 1) := by decide +kernel
theorem dX5_stepBefore_15 : decode cX5_stepBefore 15 = .ok (.isub, 1) := by decide +kernel
theorem dX5_stepBefore_16 : decode cX5_stepBefore 16 = .ok (.ireturn, 1) := by decide +kernel
theorem dX5_movingStepFrom_0 : decode cX5_movingStepFrom 0 = .ok (.iload_n 1, 1) := by decide +kernel
theorem dX5_movingStepFrom_1 : decode cX5_movingStepFrom 1 = .ok (.istore_n 2, 1) := by decide +kernel
theorem dX5_movingStepFrom_2 : decode cX5_movingStepFrom 2 = .ok (.iload_n 2, 1) := by decide +kernel
theorem dX5_movingStepFrom_3 : decode cX5_movingStepFrom 3 = .ok (.aload_n 0, 1) := by decide +kernel
theorem dX5_movingStepFrom_4 : decode cX5_movingStepFrom 4 = .ok (.getfield 30, 3) := by decide +kernel
theorem dX5_movingStepFrom_7 : decode cX5_movingStepFrom 7 = .ok (.if_icmp .ge 27, 3) := by decide +kernel
theorem dX5_movingStepFrom_10 : decode cX5_movingStepFrom 10 = .ok (.aload_n 0, 1) := by decide +kernel
theorem dX5_movingStepFrom_11 : decode cX5_movingStepFrom 11 = .ok (.getfield 9, 3) := by decide +kernel
theorem dX5_movingStepFrom_14 : decode cX5_movingStepFrom 14 = .ok (.iload_n 2, 1) := by decide +kernel
theorem dX5_movingStepFrom_15 : decode cX5_movingStepFrom 15 = .ok (.iaload, 1) := by decide +kernel
theorem dX5_movingStepFrom_16 : decode cX5_movingStepFrom 16 = .ok (.aload_n 0, 1) := by decide +kernel
theorem dX5_movingStepFrom_17 : decode cX5_movingStepFrom 17 = .ok (.getfield 15, 3) := by decide +kernel
theorem dX5_movingStepFrom_20 : decode cX5_movingStepFrom 20 = .ok (.iload_n 2, 1) := by decide +kernel
theorem dX5_movingStepFrom_21 : decode cX5_movingStepFrom 21 = .ok (.iaload, 1) := by decide +kernel
theorem dX5_movingStepFrom_22 : decode cX5_movingStepFrom 22 = .ok (.ior, 1) := by decide +kernel
theorem dX5_movingStepFrom_23 : decode cX5_movingStepFrom 23 = .ok (.ifCond .eq 5, 3) := by decide +kernel
theorem dX5_movingStepFrom_26 : decode cX5_movingStepFrom 26 = .ok (.iload_n 2, 1) := by decide +kernel
theorem dX5_movingStepFrom_27 : decode cX5_movingStepFrom 27 = .ok (.ireturn, 1) := by decide +kernel
theorem dX5_movingStepFrom_28 : decode cX5_movingStepFrom 28 = .ok (.iinc 2 1, 3) := by decide +kernel
theorem dX5_movingStepFrom_31 : decode cX5_movingStepFrom 31 = .ok (.goto (-29), 3) := by decide +kernel
theorem dX5_movingStepFrom_34 : decode cX5_movingStepFrom 34 = .ok (.aload_n 0, 1) := by decide +kernel
theorem dX5_movingStepFrom_35 : decode cX5_movingStepFrom 35 = .ok (.getfield 30, 3) := by decide +kernel
theorem dX5_movingStepFrom_38 : decode cX5_movingStepFrom 38 = .ok (.ireturn, 1) := by decide +kernel
theorem dX5_firstClash_0 : decode cX5_firstClash 0 = .ok (.aload_n 0, 1) := by decide +kernel
theorem dX5_firstClash_1 : decode cX5_firstClash 1 = .ok (.getfield 9, 3) := by decide +kernel
theorem dX5_firstClash_4 : decode cX5_firstClash 4 = .ok (.iload_n 1, 1) := by decide +kernel
theorem dX5_firstClash_5 : decode cX5_firstClash 5 = .ok (.iaload, 1) := by decide +kernel
theorem dX5_firstClash_6 : decode cX5_firstClash 6 = .ok (.iload_n 2, 1) := by decide +kernel
theorem dX5_firstClash_7 : decode cX5_firstClash 7 = .ok (.invokestatic 44, 3) := by decide +kernel
theorem dX5_firstClash_10 : decode cX5_firstClash 10 = .ok (.istore_n 3, 1) := by decide +kernel
theorem dX5_firstClash_11 : decode cX5_firstClash 11 = .ok (.iload_n 3, 1) := by decide +kernel
theorem dX5_firstClash_12 : decode cX5_firstClash 12 = .ok (.ifCond .ne 18, 3) := by decide +kernel
theorem dX5_firstClash_15 : decode cX5_firstClash 15 = .ok (.aload_n 0, 1) := by decide +kernel
theorem dX5_firstClash_16 : decode cX5_firstClash 16 = .ok (.getfield 15, 3) := by decide +kernel
theorem dX5_firstClash_19 : decode cX5_firstClash 19 = .ok (.iload_n 1, 1) := by decide +kernel
theorem dX5_firstClash_20 : decode cX5_firstClash 20 = .ok (.iaload, 1) := by decide +kernel
theorem dX5_firstClash_21 : decode cX5_firstClash 21 = .ok (.iload_n 2, 1) := by decide +kernel
theorem dX5_firstClash_22 : decode cX5_firstClash 22 = .ok (.invokestatic 44, 3) := by decide +kernel
theorem dX5_firstClash_25 : decode cX5_firstClash 25 = .ok (.ifCond .ne 5, 3) := by decide +kernel
theorem dX5_firstClash_28 : decode cX5_firstClash 28 = .ok (.iconst (-1), 1) := by decide +kernel
theorem dX5_firstClash_29 : decode cX5_firstClash 29 = .ok (.ireturn, 1) := by decide +kernel
theorem dX5_firstClash_30 : decode cX5_firstClash 30 = .ok (.iconst 0, 1) := by decide +kernel
theorem dX5_firstClash_31 : decode cX5_firstClash 31 = .ok (.istore 4, 2) := by decide +kernel
theorem dX5_firstClash_33 : decode cX5_firstClash 33 = .ok (.iload 4, 2) := by decide +kernel
theorem dX5_firstClash_35 : decode cX5_firstClash 35 = .ok (.aload_n 0, 1) := by decide +kernel
theorem dX5_firstClash_36 : decode cX5_firstClash 36 = .ok (.getfield 30, 3) := by decide +kernel
theorem dX5_firstClash_39 : decode cX5_firstClash 39 = .ok (.if_icmp .ge 63, 3) := by decide +kernel
theorem dX5_firstClash_42 : decode cX5_firstClash 42 = .ok (.iload_n 3, 1) := by decide +kernel
theorem dX5_firstClash_43 : decode cX5_firstClash 43 = .ok (.ifCond .eq 13, 3) := by decide +kernel
theorem dX5_firstClash_46 : decode cX5_firstClash 46 = .ok (.aload_n 0, 1) := by decide +kernel
theorem dX5_firstClash_47 : decode cX5_firstClash 47 = .ok (.getfield 15, 3) := by decide +kernel
theorem dX5_firstClash_50 : decode cX5_firstClash 50 = .ok (.iload 4, 2) := by decide +kernel
theorem dX5_firstClash_52 : decode cX5_firstClash 52 = .ok (.iaload, 1) := by decide +kernel
theorem dX5_firstClash_53 : decode cX5_firstClash 53 = .ok (.goto 10, 3) := by decide +kernel
theorem dX5_firstClash_56 : decode cX5_firstClash 56 = .ok (.aload_n 0, 1) := by decide +kernel
theorem dX5_firstClash_57 : decode cX5_firstClash 57 = .ok (.getfield 9, 3) := by decide +kernel
theorem dX5_firstClash_60 : decode cX5_firstClash 60 = .ok (.iload 4, 2) := by decide +kernel
theorem dX5_firstClash_62 : decode cX5_firstClash 62 = .ok (.iaload, 1) := by decide +kernel
theorem dX5_firstClash_63 : decode cX5_firstClash 63 = .ok (.istore 5, 2) := by decide +kernel
theorem dX5_firstClash_65 : decode cX5_firstClash 65 = .ok (.iload 5, 2) := by decide +kernel
theorem dX5_firstClash_67 : decode cX5_firstClash 67 = .ok (.iload_n 2, 1) := by decide +kernel
theorem dX5_firstClash_68 : decode cX5_firstClash 68 = .ok (.invokestatic 44, 3) := by decide +kernel
theorem dX5_firstClash_71 : decode cX5_firstClash 71 = .ok (.ifCond .eq 25, 3) := by decide +kernel
theorem dX5_firstClash_74 : decode cX5_firstClash 74 = .ok (.aload_n 0, 1) := by decide +kernel
theorem dX5_firstClash_75 : decode cX5_firstClash 75 = .ok (.aload_n 0, 1) := by decide +kernel
theorem dX5_firstClash_76 : decode cX5_firstClash 76 = .ok (.iload 4, 2) := by decide +kernel
theorem dX5_firstClash_78 : decode cX5_firstClash 78 = .ok (.invokevirtual 48, 3) := by decide +kernel
theorem dX5_firstClash_81 : decode cX5_firstClash 81 = .ok (.aload_n 0, 1) := by decide +kernel
theorem dX5_firstClash_82 : decode cX5_firstClash 82 = .ok (.getfield 21, 3) := by decide +kernel
theorem dX5_firstClash_85 : decode cX5_firstClash 85 = .ok (.iload_n 1, 1) := by decide +kernel
theorem dX5_firstClash_86 : decode cX5_firstClash 86 = .ok (.iaload, 1) := by decide +kernel
theorem dX5_firstClash_87 : decode cX5_firstClash 87 = .ok (.invokevirtual 51, 3) := by decide +kernel
theorem dX5_firstClash_90 : decode cX5_firstClash 90 = .ok (.ifCond .eq 6, 3) := by decide +kernel
theorem dX5_firstClash_93 : decode cX5_firstClash 93 = .ok (.iload 4, 2) := by decide +kernel
theorem dX5_firstClash_95 : decode cX5_firstClash 95 = .ok (.ireturn, 1) := by decide +kernel
theorem dX5_firstClash_96 : decode cX5_firstClash 96 = .ok (.iinc 4 1, 3) := by decide +kernel
theorem dX5_firstClash_99 : decode cX5_firstClash 99 = .ok (.goto (-66), 3) := by decide +kernel
theorem dX5_firstClash_102 : decode cX5_firstClash 102 = .ok (.iconst (-1), 1) := by decide +kernel
theorem dX5_firstClash_103 : decode cX5_firstClash 103 = .ok (.ireturn, 1) := by decide +kernel
theorem dX5_endsReached_0 : decode cX5_endsReached 0 = .ok (.aload_n 0, 1) := by decide +kernel
theorem dX5_endsReached_1 : decode cX5_endsReached 1 = .ok (.getfield 18, 3) := by decide +kernel
theorem dX5_endsReached_4 : decode cX5_endsReached 4 = .ok (.iload_n 1, 1) := by decide +kernel
theorem dX5_endsReached_5 : decode cX5_endsReached 5 = .ok (.iaload, 1) := by decide +kernel
theorem dX5_endsReached_6 : decode cX5_endsReached 6 = .ok (.ifCond .ne 31, 3) := by decide +kernel
theorem dX5_endsReached_9 : decode cX5_endsReached 9 = .ok (.aload_n 0, 1) := by decide +kernel
theorem dX5_endsReached_10 : decode cX5_endsReached 10 = .ok (.getfield 9, 3) := by decide +kernel
theorem dX5_endsReached_13 : decode cX5_endsReached 13 = .ok (.iload_n 1, 1) := by decide +kernel
theorem dX5_endsReached_14 : decode cX5_endsReached 14 = .ok (.iaload, 1) := by decide +kernel
theorem dX5_endsReached_15 : decode cX5_endsReached 15 = .ok (.iload_n 2, 1) := by decide +kernel
theorem dX5_endsReached_16 : decode cX5_endsReached 16 = .ok (.iconst (-1), 1) := by decide +kernel
theorem dX5_endsReached_17 : decode cX5_endsReached 17 = .ok (.ixor, 1) := by decide +kernel
theorem dX5_endsReached_18 : decode cX5_endsReached 18 = .ok (.iand, 1) := by decide +kernel
theorem dX5_endsReached_19 : decode cX5_endsReached 19 = .ok (.ifCond .ne 18, 3) := by decide +kernel
theorem dX5_endsReached_22 : decode cX5_endsReached 22 = .ok (.aload_n 0, 1) := by decide +kernel
theorem dX5_endsReached_23 : decode cX5_endsReached 23 = .ok (.getfield 15, 3) := by decide +kernel
theorem dX5_endsReached_26 : decode cX5_endsReached 26 = .ok (.iload_n 1, 1) := by decide +kernel
theorem dX5_endsReached_27 : decode cX5_endsReached 27 = .ok (.iaload, 1) := by decide +kernel
theorem dX5_endsReached_28 : decode cX5_endsReached 28 = .ok (.iload_n 2, 1) := by decide +kernel
theorem dX5_endsReached_29 : decode cX5_endsReached 29 = .ok (.iand, 1) := by decide +kernel
theorem dX5_endsReached_30 : decode cX5_endsReached 30 = .ok (.ifCond .ne 7, 3) := by decide +kernel
theorem dX5_endsReached_33 : decode cX5_endsReached 33 = .ok (.iconst 1, 1) := by decide +kernel
theorem dX5_endsReached_34 : decode cX5_endsReached 34 = .ok (.goto 4, 3) := by decide +kernel
theorem dX5_endsReached_37 : decode cX5_endsReached 37 = .ok (.iconst 0, 1) := by decide +kernel
theorem dX5_endsReached_38 : decode cX5_endsReached 38 = .ok (.ireturn, 1) := by decide +kernel
theorem dX5_divide_0 : decode cX5_divide 0 = .ok (.aload_n 0, 1) := by decide +kernel
theorem dX5_divide_1 : decode cX5_divide 1 = .ok (.getfield 30, 3) := by decide +kernel
theorem dX5_divide_4 : decode cX5_divide 4 = .ok (.istore_n 1, 1) := by decide +kernel
theorem dX5_divide_5 : decode cX5_divide 5 = .ok (.iconst 0, 1) := by decide +kernel
theorem dX5_divide_6 : decode cX5_divide 6 = .ok (.istore_n 2, 1) := by decide +kernel
theorem dX5_divide_7 : decode cX5_divide 7 = .ok (.iconst 0, 1) := by decide +kernel
theorem dX5_divide_8 : decode cX5_divide 8 = .ok (.istore_n 3, 1) := by decide +kernel
theorem dX5_divide_9 : decode cX5_divide 9 = .ok (.iload_n 3, 1) := by decide +kernel
theorem dX5_divide_10 : decode cX5_divide 10 = .ok (.aload_n 0, 1) := by decide +kernel
theorem dX5_divide_11 : decode cX5_divide 11 = .ok (.getfield 30, 3) := by decide +kernel
theorem dX5_divide_14 : decode cX5_divide 14 = .ok (.if_icmp .ge 33, 3) := by decide +kernel
theorem dX5_divide_17 : decode cX5_divide 17 = .ok (.aload_n 0, 1) := by decide +kernel
theorem dX5_divide_18 : decode cX5_divide 18 = .ok (.iload_n 3, 1) := by decide +kernel
theorem dX5_divide_19 : decode cX5_divide 19 = .ok (.iload_n 3, 1) := by decide +kernel
theorem dX5_divide_20 : decode cX5_divide 20 = .ok (.aload_n 0, 1) := by decide +kernel
theorem dX5_divide_21 : decode cX5_divide 21 = .ok (.getfield 30, 3) := by decide +kernel
theorem dX5_divide_24 : decode cX5_divide 24 = .ok (.iadd, 1) := by decide +kernel
theorem dX5_divide_25 : decode cX5_divide 25 = .ok (.invokevirtual 54, 3) := by decide +kernel
theorem dX5_divide_28 : decode cX5_divide 28 = .ok (.istore 4, 2) := by decide +kernel
theorem dX5_divide_30 : decode cX5_divide 30 = .ok (.iload 4, 2) := by decide +kernel
theorem dX5_divide_32 : decode cX5_divide 32 = .ok (.iload_n 1, 1) := by decide +kernel
theorem dX5_divide_33 : decode cX5_divide 33 = .ok (.if_icmp .ge 8, 3) := by decide +kernel
theorem dX5_divide_36 : decode cX5_divide 36 = .ok (.iload 4, 2) := by decide +kernel
theorem dX5_divide_38 : decode cX5_divide 38 = .ok (.istore_n 1, 1) := by decide +kernel
theorem dX5_divide_39 : decode cX5_divide 39 = .ok (.iload_n 3, 1) := by decide +kernel
theorem dX5_divide_40 : decode cX5_divide 40 = .ok (.istore_n 2, 1) := by decide +kernel
theorem dX5_divide_41 : decode cX5_divide 41 = .ok (.iinc 3 1, 3) := by decide +kernel
theorem dX5_divide_44 : decode cX5_divide 44 = .ok (.goto (-35), 3) := by decide +kernel
theorem dX5_divide_47 : decode cX5_divide 47 = .ok (.aload_n 0, 1) := by decide +kernel
theorem dX5_divide_48 : decode cX5_divide 48 = .ok (.iload_n 2, 1) := by decide +kernel
theorem dX5_divide_49 : decode cX5_divide 49 = .ok (.iload_n 1, 1) := by decide +kernel
theorem dX5_divide_50 : decode cX5_divide 50 = .ok (.invokevirtual 58, 3) := by decide +kernel
theorem dX5_divide_53 : decode cX5_divide 53 = .ok (.aload_n 0, 1) := by decide +kernel
theorem dX5_divide_54 : decode cX5_divide 54 = .ok (.invokevirtual 62, 3) := by decide +kernel
theorem dX5_divide_57 : decode cX5_divide 57 = .ok (.return_, 1) := by decide +kernel
theorem dX5_groupsNeeded_0 : decode cX5_groupsNeeded 0 = .ok (.iconst 1, 1) := by decide +kernel
theorem dX5_groupsNeeded_1 : decode cX5_groupsNeeded 1 = .ok (.istore_n 3, 1) := by decide +kernel
theorem dX5_groupsNeeded_2 : decode cX5_groupsNeeded 2 = .ok (.iconst 0, 1) := by decide +kernel
theorem dX5_groupsNeeded_3 : decode cX5_groupsNeeded 3 = .ok (.istore 4, 2) := by decide +kernel
theorem dX5_groupsNeeded_5 : decode cX5_groupsNeeded 5 = .ok (.iload_n 1, 1) := by decide +kernel
theorem dX5_groupsNeeded_6 : decode cX5_groupsNeeded 6 = .ok (.istore 5, 2) := by decide +kernel
theorem dX5_groupsNeeded_8 : decode cX5_groupsNeeded 8 = .ok (.iload 5, 2) := by decide +kernel
theorem dX5_groupsNeeded_10 : decode cX5_groupsNeeded 10 = .ok (.iload_n 2, 1) := by decide +kernel
theorem dX5_groupsNeeded_11 : decode cX5_groupsNeeded 11 = .ok (.if_icmp .ge 57, 3) := by decide +kernel
theorem dX5_groupsNeeded_14 : decode cX5_groupsNeeded 14 = .ok (.aload_n 0, 1) := by decide +kernel
theorem dX5_groupsNeeded_15 : decode cX5_groupsNeeded 15 = .ok (.iload 5, 2) := by decide +kernel
theorem dX5_groupsNeeded_17 : decode cX5_groupsNeeded 17 = .ok (.aload_n 0, 1) := by decide +kernel
theorem dX5_groupsNeeded_18 : decode cX5_groupsNeeded 18 = .ok (.getfield 30, 3) := by decide +kernel
theorem dX5_groupsNeeded_21 : decode cX5_groupsNeeded 21 = .ok (.if_icmp .ge 8, 3) := by decide +kernel
theorem dX5_groupsNeeded_24 : decode cX5_groupsNeeded 24 = .ok (.iload 5, 2) := by decide +kernel
theorem dX5_groupsNeeded_26 : decode cX5_groupsNeeded 26 = .ok (.goto 10, 3) := by decide +kernel
theorem dX5_groupsNeeded_29 : decode cX5_groupsNeeded 29 = .ok (.iload 5, 2) := by decide +kernel
theorem dX5_groupsNeeded_31 : decode cX5_groupsNeeded 31 = .ok (.aload_n 0, 1) := by decide +kernel
theorem dX5_groupsNeeded_32 : decode cX5_groupsNeeded 32 = .ok (.getfield 30, 3) := by decide +kernel
theorem dX5_groupsNeeded_35 : decode cX5_groupsNeeded 35 = .ok (.isub, 1) := by decide +kernel
theorem dX5_groupsNeeded_36 : decode cX5_groupsNeeded 36 = .ok (.invokevirtual 40, 3) := by decide +kernel
theorem dX5_groupsNeeded_39 : decode cX5_groupsNeeded 39 = .ok (.istore 6, 2) := by decide +kernel
theorem dX5_groupsNeeded_41 : decode cX5_groupsNeeded 41 = .ok (.iload 4, 2) := by decide +kernel
theorem dX5_groupsNeeded_43 : decode cX5_groupsNeeded 43 = .ok (.iload 6, 2) := by decide +kernel
theorem dX5_groupsNeeded_45 : decode cX5_groupsNeeded 45 = .ok (.iand, 1) := by decide +kernel
theorem dX5_groupsNeeded_46 : decode cX5_groupsNeeded 46 = .ok (.ifCond .eq 9, 3) := by decide +kernel
theorem dX5_groupsNeeded_49 : decode cX5_groupsNeeded 49 = .ok (.iinc 3 1, 3) := by decide +kernel
theorem dX5_groupsNeeded_52 : decode cX5_groupsNeeded 52 = .ok (.iconst 0, 1) := by decide +kernel
theorem dX5_groupsNeeded_53 : decode cX5_groupsNeeded 53 = .ok (.istore 4, 2) := by decide +kernel
theorem dX5_groupsNeeded_55 : decode cX5_groupsNeeded 55 = .ok (.iload 4, 2) := by decide +kernel
theorem dX5_groupsNeeded_57 : decode cX5_groupsNeeded 57 = .ok (.iload 6, 2) := by decide +kernel
theorem dX5_groupsNeeded_59 : decode cX5_groupsNeeded 59 = .ok (.ior, 1) := by decide +kernel
theorem dX5_groupsNeeded_60 : decode cX5_groupsNeeded 60 = .ok (.istore 4, 2) := by decide +kernel
theorem dX5_groupsNeeded_62 : decode cX5_groupsNeeded 62 = .ok (.iinc 5 1, 3) := by decide +kernel
theorem dX5_groupsNeeded_65 : decode cX5_groupsNeeded 65 = .ok (.goto (-57), 3) := by decide +kernel
theorem dX5_groupsNeeded_68 : decode cX5_groupsNeeded 68 = .ok (.iload_n 3, 1) := by decide +kernel
theorem dX5_groupsNeeded_69 : decode cX5_groupsNeeded 69 = .ok (.ireturn, 1) := by decide +kernel
theorem dX5_placeCuts_0 : decode cX5_placeCuts 0 = .ok (.aload_n 0, 1) := by decide +kernel
theorem dX5_placeCuts_1 : decode cX5_placeCuts 1 = .ok (.iconst 0, 1) := by decide +kernel
theorem dX5_placeCuts_2 : decode cX5_placeCuts 2 = .ok (.putfield 65, 3) := by decide +kernel
theorem dX5_placeCuts_5 : decode cX5_placeCuts 5 = .ok (.iload_n 1, 1) := by decide +kernel
theorem dX5_placeCuts_6 : decode cX5_placeCuts 6 = .ok (.istore_n 3, 1) := by decide +kernel
theorem dX5_placeCuts_7 : decode cX5_placeCuts 7 = .ok (.iload_n 3, 1) := by decide +kernel
theorem dX5_placeCuts_8 : decode cX5_placeCuts 8 = .ok (.aload_n 0, 1) := by decide +kernel
theorem dX5_placeCuts_9 : decode cX5_placeCuts 9 = .ok (.getfield 30, 3) := by decide +kernel
theorem dX5_placeCuts_12 : decode cX5_placeCuts 12 = .ok (.if_icmp .ge 57, 3) := by decide +kernel
theorem dX5_placeCuts_15 : decode cX5_placeCuts 15 = .ok (.aload_n 0, 1) := by decide +kernel
theorem dX5_placeCuts_16 : decode cX5_placeCuts 16 = .ok (.getfield 65, 3) := by decide +kernel
theorem dX5_placeCuts_19 : decode cX5_placeCuts 19 = .ok (.iload_n 2, 1) := by decide +kernel
theorem dX5_placeCuts_20 : decode cX5_placeCuts 20 = .ok (.if_icmp .ge 49, 3) := by decide +kernel
theorem dX5_placeCuts_23 : decode cX5_placeCuts 23 = .ok (.aload_n 0, 1) := by decide +kernel
theorem dX5_placeCuts_24 : decode cX5_placeCuts 24 = .ok (.iload_n 3, 1) := by decide +kernel
theorem dX5_placeCuts_25 : decode cX5_placeCuts 25 = .ok (.iload_n 1, 1) := by decide +kernel
theorem dX5_placeCuts_26 : decode cX5_placeCuts 26 = .ok (.aload_n 0, 1) := by decide +kernel
theorem dX5_placeCuts_27 : decode cX5_placeCuts 27 = .ok (.getfield 30, 3) := by decide +kernel
theorem dX5_placeCuts_30 : decode cX5_placeCuts 30 = .ok (.iadd, 1) := by decide +kernel
theorem dX5_placeCuts_31 : decode cX5_placeCuts 31 = .ok (.invokevirtual 54, 3) := by decide +kernel
theorem dX5_placeCuts_34 : decode cX5_placeCuts 34 = .ok (.iload_n 2, 1) := by decide +kernel
theorem dX5_placeCuts_35 : decode cX5_placeCuts 35 = .ok (.aload_n 0, 1) := by decide +kernel
theorem dX5_placeCuts_36 : decode cX5_placeCuts 36 = .ok (.getfield 65, 3) := by decide +kernel
theorem dX5_placeCuts_39 : decode cX5_placeCuts 39 = .ok (.isub, 1) := by decide +kernel
theorem dX5_placeCuts_40 : decode cX5_placeCuts 40 = .ok (.if_icmp .gt 23, 3) := by decide +kernel
theorem dX5_placeCuts_43 : decode cX5_placeCuts 43 = .ok (.aload_n 0, 1) := by decide +kernel
theorem dX5_placeCuts_44 : decode cX5_placeCuts 44 = .ok (.getfield 24, 3) := by decide +kernel
theorem dX5_placeCuts_47 : decode cX5_placeCuts 47 = .ok (.aload_n 0, 1) := by decide +kernel
theorem dX5_placeCuts_48 : decode cX5_placeCuts 48 = .ok (.getfield 65, 3) := by decide +kernel
theorem dX5_placeCuts_51 : decode cX5_placeCuts 51 = .ok (.iload_n 3, 1) := by decide +kernel
theorem dX5_placeCuts_52 : decode cX5_placeCuts 52 = .ok (.iastore, 1) := by decide +kernel
theorem dX5_placeCuts_53 : decode cX5_placeCuts 53 = .ok (.aload_n 0, 1) := by decide +kernel
theorem dX5_placeCuts_54 : decode cX5_placeCuts 54 = .ok (.dup, 1) := by decide +kernel
theorem dX5_placeCuts_55 : decode cX5_placeCuts 55 = .ok (.getfield 65, 3) := by decide +kernel
theorem dX5_placeCuts_58 : decode cX5_placeCuts 58 = .ok (.iconst 1, 1) := by decide +kernel
theorem dX5_placeCuts_59 : decode cX5_placeCuts 59 = .ok (.iadd, 1) := by decide +kernel
theorem dX5_placeCuts_60 : decode cX5_placeCuts 60 = .ok (.putfield 65, 3) := by decide +kernel
theorem dX5_placeCuts_63 : decode cX5_placeCuts 63 = .ok (.iinc 3 1, 3) := by decide +kernel
theorem dX5_placeCuts_66 : decode cX5_placeCuts 66 = .ok (.goto (-59), 3) := by decide +kernel
theorem dX5_placeCuts_69 : decode cX5_placeCuts 69 = .ok (.return_, 1) := by decide +kernel
theorem dX5_firstStepOf_0 : decode cX5_firstStepOf 0 = .ok (.iload_n 1, 1) := by decide +kernel
theorem dX5_firstStepOf_1 : decode cX5_firstStepOf 1 = .ok (.ifCond .lt 20, 3) := by decide +kernel
theorem dX5_firstStepOf_4 : decode cX5_firstStepOf 4 = .ok (.iload_n 1, 1) := by decide +kernel
theorem dX5_firstStepOf_5 : decode cX5_firstStepOf 5 = .ok (.aload_n 0, 1) := by decide +kernel
theorem dX5_firstStepOf_6 : decode cX5_firstStepOf 6 = .ok (.getfield 65, 3) := by decide +kernel
theorem dX5_firstStepOf_9 : decode cX5_firstStepOf 9 = .ok (.if_icmp .ge 12, 3) := by decide +kernel
theorem dX5_firstStepOf_12 : decode cX5_firstStepOf 12 = .ok (.aload_n 0, 1) := by decide +kernel
theorem dX5_firstStepOf_13 : decode cX5_firstStepOf 13 = .ok (.getfield 24, 3) := by decide +kernel
theorem dX5_firstStepOf_16 : decode cX5_firstStepOf 16 = .ok (.iload_n 1, 1) := by decide +kernel
theorem dX5_firstStepOf_17 : decode cX5_firstStepOf 17 = .ok (.iaload, 1) := by decide +kernel
theorem dX5_firstStepOf_18 : decode cX5_firstStepOf 18 = .ok (.goto 4, 3) := by decide +kernel
theorem dX5_firstStepOf_21 : decode cX5_firstStepOf 21 = .ok (.iconst (-1), 1) := by decide +kernel
theorem dX5_firstStepOf_22 : decode cX5_firstStepOf 22 = .ok (.ireturn, 1) := by decide +kernel
theorem dX5_nameGroups_0 : decode cX5_nameGroups 0 = .ok (.aload_n 0, 1) := by decide +kernel
theorem dX5_nameGroups_1 : decode cX5_nameGroups 1 = .ok (.getfield 65, 3) := by decide +kernel
theorem dX5_nameGroups_4 : decode cX5_nameGroups 4 = .ok (.iconst 1, 1) := by decide +kernel
theorem dX5_nameGroups_5 : decode cX5_nameGroups 5 = .ok (.isub, 1) := by decide +kernel
theorem dX5_nameGroups_6 : decode cX5_nameGroups 6 = .ok (.istore_n 1, 1) := by decide +kernel
theorem dX5_nameGroups_7 : decode cX5_nameGroups 7 = .ok (.iconst 0, 1) := by decide +kernel
theorem dX5_nameGroups_8 : decode cX5_nameGroups 8 = .ok (.istore_n 2, 1) := by decide +kernel
theorem dX5_nameGroups_9 : decode cX5_nameGroups 9 = .ok (.iconst 0, 1) := by decide +kernel
theorem dX5_nameGroups_10 : decode cX5_nameGroups 10 = .ok (.istore_n 3, 1) := by decide +kernel
theorem dX5_nameGroups_11 : decode cX5_nameGroups 11 = .ok (.iload_n 3, 1) := by decide +kernel
theorem dX5_nameGroups_12 : decode cX5_nameGroups 12 = .ok (.aload_n 0, 1) := by decide +kernel
theorem dX5_nameGroups_13 : decode cX5_nameGroups 13 = .ok (.getfield 30, 3) := by decide +kernel
theorem dX5_nameGroups_16 : decode cX5_nameGroups 16 = .ok (.if_icmp .ge 39, 3) := by decide +kernel
theorem dX5_nameGroups_19 : decode cX5_nameGroups 19 = .ok (.iload_n 2, 1) := by decide +kernel
theorem dX5_nameGroups_20 : decode cX5_nameGroups 20 = .ok (.aload_n 0, 1) := by decide +kernel
theorem dX5_nameGroups_21 : decode cX5_nameGroups 21 = .ok (.getfield 65, 3) := by decide +kernel
theorem dX5_nameGroups_24 : decode cX5_nameGroups 24 = .ok (.if_icmp .ge 18, 3) := by decide +kernel
theorem dX5_nameGroups_27 : decode cX5_nameGroups 27 = .ok (.aload_n 0, 1) := by decide +kernel
theorem dX5_nameGroups_28 : decode cX5_nameGroups 28 = .ok (.getfield 24, 3) := by decide +kernel
theorem dX5_nameGroups_31 : decode cX5_nameGroups 31 = .ok (.iload_n 2, 1) := by decide +kernel
theorem dX5_nameGroups_32 : decode cX5_nameGroups 32 = .ok (.iaload, 1) := by decide +kernel
theorem dX5_nameGroups_33 : decode cX5_nameGroups 33 = .ok (.iload_n 3, 1) := by decide +kernel
theorem dX5_nameGroups_34 : decode cX5_nameGroups 34 = .ok (.if_icmp .ne 8, 3) := by decide +kernel
theorem dX5_nameGroups_37 : decode cX5_nameGroups 37 = .ok (.iload_n 2, 1) := by decide +kernel
theorem dX5_nameGroups_38 : decode cX5_nameGroups 38 = .ok (.istore_n 1, 1) := by decide +kernel
theorem dX5_nameGroups_39 : decode cX5_nameGroups 39 = .ok (.iinc 2 1, 3) := by decide +kernel
theorem dX5_nameGroups_42 : decode cX5_nameGroups 42 = .ok (.aload_n 0, 1) := by decide +kernel
theorem dX5_nameGroups_43 : decode cX5_nameGroups 43 = .ok (.getfield 27, 3) := by decide +kernel
theorem dX5_nameGroups_46 : decode cX5_nameGroups 46 = .ok (.iload_n 3, 1) := by decide +kernel
theorem dX5_nameGroups_47 : decode cX5_nameGroups 47 = .ok (.iload_n 1, 1) := by decide +kernel
theorem dX5_nameGroups_48 : decode cX5_nameGroups 48 = .ok (.iastore, 1) := by decide +kernel
theorem dX5_nameGroups_49 : decode cX5_nameGroups 49 = .ok (.iinc 3 1, 3) := by decide +kernel
theorem dX5_nameGroups_52 : decode cX5_nameGroups 52 = .ok (.goto (-41), 3) := by decide +kernel
theorem dX5_nameGroups_55 : decode cX5_nameGroups 55 = .ok (.return_, 1) := by decide +kernel
theorem dX6_init_0 : decode cX6_init 0 = .ok (.aload_n 0, 1) := by decide +kernel
theorem dX6_init_1 : decode cX6_init 1 = .ok (.invokespecial 3, 3) := by decide +kernel
theorem dX6_init_4 : decode cX6_init 4 = .ok (.aload_n 0, 1) := by decide +kernel
theorem dX6_init_5 : decode cX6_init 5 = .ok (.bipush 6, 2) := by decide +kernel
theorem dX6_init_7 : decode cX6_init 7 = .ok (.newarray .int, 2) := by decide +kernel
theorem dX6_init_9 : decode cX6_init 9 = .ok (.putfield 9, 3) := by decide +kernel
theorem dX6_init_12 : decode cX6_init 12 = .ok (.aload_n 0, 1) := by decide +kernel
theorem dX6_init_13 : decode cX6_init 13 = .ok (.bipush 16, 2) := by decide +kernel
theorem dX6_init_15 : decode cX6_init 15 = .ok (.newarray .int, 2) := by decide +kernel
theorem dX6_init_17 : decode cX6_init 17 = .ok (.putfield 15, 3) := by decide +kernel
theorem dX6_init_20 : decode cX6_init 20 = .ok (.return_, 1) := by decide +kernel
theorem dX6_take_0 : decode cX6_take 0 = .ok (.aload_n 1, 1) := by decide +kernel
theorem dX6_take_1 : decode cX6_take 1 = .ok (.getfield 18, 3) := by decide +kernel
theorem dX6_take_4 : decode cX6_take 4 = .ok (.iconst 0, 1) := by decide +kernel
theorem dX6_take_5 : decode cX6_take 5 = .ok (.aload_n 0, 1) := by decide +kernel
theorem dX6_take_6 : decode cX6_take 6 = .ok (.getfield 9, 3) := by decide +kernel
theorem dX6_take_9 : decode cX6_take 9 = .ok (.iconst 0, 1) := by decide +kernel
theorem dX6_take_10 : decode cX6_take 10 = .ok (.bipush 6, 2) := by decide +kernel
theorem dX6_take_12 : decode cX6_take 12 = .ok (.invokestatic 21, 3) := by decide +kernel
theorem dX6_take_15 : decode cX6_take 15 = .ok (.aload_n 1, 1) := by decide +kernel
theorem dX6_take_16 : decode cX6_take 16 = .ok (.getfield 27, 3) := by decide +kernel
theorem dX6_take_19 : decode cX6_take 19 = .ok (.iconst 0, 1) := by decide +kernel
theorem dX6_take_20 : decode cX6_take 20 = .ok (.aload_n 0, 1) := by decide +kernel
theorem dX6_take_21 : decode cX6_take 21 = .ok (.getfield 15, 3) := by decide +kernel
theorem dX6_take_24 : decode cX6_take 24 = .ok (.iconst 0, 1) := by decide +kernel
theorem dX6_take_25 : decode cX6_take 25 = .ok (.bipush 16, 2) := by decide +kernel
theorem dX6_take_27 : decode cX6_take 27 = .ok (.invokestatic 21, 3) := by decide +kernel
theorem dX6_take_30 : decode cX6_take 30 = .ok (.aload_n 0, 1) := by decide +kernel
theorem dX6_take_31 : decode cX6_take 31 = .ok (.aload_n 1, 1) := by decide +kernel
theorem dX6_take_32 : decode cX6_take 32 = .ok (.getfield 28, 3) := by decide +kernel
theorem dX6_take_35 : decode cX6_take 35 = .ok (.putfield 32, 3) := by decide +kernel
theorem dX6_take_38 : decode cX6_take 38 = .ok (.aload_n 0, 1) := by decide +kernel
theorem dX6_take_39 : decode cX6_take 39 = .ok (.aload_n 1, 1) := by decide +kernel
theorem dX6_take_40 : decode cX6_take 40 = .ok (.getfield 33, 3) := by decide +kernel
theorem dX6_take_43 : decode cX6_take 43 = .ok (.getfield 37, 3) := by decide +kernel
theorem dX6_take_46 : decode cX6_take 46 = .ok (.putfield 42, 3) := by decide +kernel
theorem dX6_take_49 : decode cX6_take 49 = .ok (.return_, 1) := by decide +kernel
theorem dX6_matches_0 : decode cX6_matches 0 = .ok (.aload_n 0, 1) := by decide +kernel
theorem dX6_matches_1 : decode cX6_matches 1 = .ok (.getfield 32, 3) := by decide +kernel
theorem dX6_matches_4 : decode cX6_matches 4 = .ok (.aload_n 1, 1) := by decide +kernel
theorem dX6_matches_5 : decode cX6_matches 5 = .ok (.getfield 28, 3) := by decide +kernel
theorem dX6_matches_8 : decode cX6_matches 8 = .ok (.if_icmp .ne 21, 3) := by decide +kernel
theorem dX6_matches_11 : decode cX6_matches 11 = .ok (.aload_n 0, 1) := by decide +kernel
theorem dX6_matches_12 : decode cX6_matches 12 = .ok (.getfield 42, 3) := by decide +kernel
theorem dX6_matches_15 : decode cX6_matches 15 = .ok (.aload_n 1, 1) := by decide +kernel
theorem dX6_matches_16 : decode cX6_matches 16 = .ok (.getfield 33, 3) := by decide +kernel
theorem dX6_matches_19 : decode cX6_matches 19 = .ok (.getfield 37, 3) := by decide +kernel
theorem dX6_matches_22 : decode cX6_matches 22 = .ok (.if_icmp .ne 7, 3) := by decide +kernel
theorem dX6_matches_25 : decode cX6_matches 25 = .ok (.iconst 1, 1) := by decide +kernel
theorem dX6_matches_26 : decode cX6_matches 26 = .ok (.goto 4, 3) := by decide +kernel
theorem dX6_matches_29 : decode cX6_matches 29 = .ok (.iconst 0, 1) := by decide +kernel
theorem dX6_matches_30 : decode cX6_matches 30 = .ok (.istore_n 2, 1) := by decide +kernel
theorem dX6_matches_31 : decode cX6_matches 31 = .ok (.iconst 0, 1) := by decide +kernel
theorem dX6_matches_32 : decode cX6_matches 32 = .ok (.istore_n 3, 1) := by decide +kernel
theorem dX6_matches_33 : decode cX6_matches 33 = .ok (.iload_n 3, 1) := by decide +kernel
theorem dX6_matches_34 : decode cX6_matches 34 = .ok (.bipush 6, 2) := by decide +kernel
theorem dX6_matches_36 : decode cX6_matches 36 = .ok (.if_icmp .ge 34, 3) := by decide +kernel
theorem dX6_matches_39 : decode cX6_matches 39 = .ok (.iload_n 2, 1) := by decide +kernel
theorem dX6_matches_40 : decode cX6_matches 40 = .ok (.ifCond .eq 30, 3) := by decide +kernel
theorem dX6_matches_43 : decode cX6_matches 43 = .ok (.aload_n 0, 1) := by decide +kernel
theorem dX6_matches_44 : decode cX6_matches 44 = .ok (.getfield 9, 3) := by decide +kernel
theorem dX6_matches_47 : decode cX6_matches 47 = .ok (.iload_n 3, 1) := by decide +kernel
theorem dX6_matches_48 : decode cX6_matches 48 = .ok (.iaload, 1) := by decide +kernel
theorem dX6_matches_49 : decode cX6_matches 49 = .ok (.aload_n 1, 1) := by decide +kernel
theorem dX6_matches_50 : decode cX6_matches 50 = .ok (.getfield 18, 3) := by decide +kernel
theorem dX6_matches_53 : decode cX6_matches 53 = .ok (.iload_n 3, 1) := by decide +kernel
theorem dX6_matches_54 : decode cX6_matches 54 = .ok (.iaload, 1) := by decide +kernel
theorem dX6_matches_55 : decode cX6_matches 55 = .ok (.if_icmp .ne 7, 3) := by decide +kernel
theorem dX6_matches_58 : decode cX6_matches 58 = .ok (.iconst 1, 1) := by decide +kernel
theorem dX6_matches_59 : decode cX6_matches 59 = .ok (.goto 4, 3) := by decide +kernel
theorem dX6_matches_62 : decode cX6_matches 62 = .ok (.iconst 0, 1) := by decide +kernel
theorem dX6_matches_63 : decode cX6_matches 63 = .ok (.istore_n 2, 1) := by decide +kernel
theorem dX6_matches_64 : decode cX6_matches 64 = .ok (.iinc 3 1, 3) := by decide +kernel
theorem dX6_matches_67 : decode cX6_matches 67 = .ok (.goto (-34), 3) := by decide +kernel
theorem dX6_matches_70 : decode cX6_matches 70 = .ok (.iconst 0, 1) := by decide +kernel
theorem dX6_matches_71 : decode cX6_matches 71 = .ok (.istore_n 3, 1) := by decide +kernel
theorem dX6_matches_72 : decode cX6_matches 72 = .ok (.iload_n 3, 1) := by decide +kernel
theorem dX6_matches_73 : decode cX6_matches 73 = .ok (.bipush 16, 2) := by decide +kernel
theorem dX6_matches_75 : decode cX6_matches 75 = .ok (.if_icmp .ge 34, 3) := by decide +kernel
theorem dX6_matches_78 : decode cX6_matches 78 = .ok (.iload_n 2, 1) := by decide +kernel
theorem dX6_matches_79 : decode cX6_matches 79 = .ok (.ifCond .eq 30, 3) := by decide +kernel
theorem dX6_matches_82 : decode cX6_matches 82 = .ok (.aload_n 0, 1) := by decide +kernel
theorem dX6_matches_83 : decode cX6_matches 83 = .ok (.getfield 15, 3) := by decide +kernel
theorem dX6_matches_86 : decode cX6_matches 86 = .ok (.iload_n 3, 1) := by decide +kernel
theorem dX6_matches_87 : decode cX6_matches 87 = .ok (.iaload, 1) := by decide +kernel
theorem dX6_matches_88 : decode cX6_matches 88 = .ok (.aload_n 1, 1) := by decide +kernel
theorem dX6_matches_89 : decode cX6_matches 89 = .ok (.getfield 27, 3) := by decide +kernel
theorem dX6_matches_92 : decode cX6_matches 92 = .ok (.iload_n 3, 1) := by decide +kernel
theorem dX6_matches_93 : decode cX6_matches 93 = .ok (.iaload, 1) := by decide +kernel
theorem dX6_matches_94 : decode cX6_matches 94 = .ok (.if_icmp .ne 7, 3) := by decide +kernel
theorem dX6_matches_97 : decode cX6_matches 97 = .ok (.iconst 1, 1) := by decide +kernel
theorem dX6_matches_98 : decode cX6_matches 98 = .ok (.goto 4, 3) := by decide +kernel
theorem dX6_matches_101 : decode cX6_matches 101 = .ok (.iconst 0, 1) := by decide +kernel
theorem dX6_matches_102 : decode cX6_matches 102 = .ok (.istore_n 2, 1) := by decide +kernel
theorem dX6_matches_103 : decode cX6_matches 103 = .ok (.iinc 3 1, 3) := by decide +kernel
theorem dX6_matches_106 : decode cX6_matches 106 = .ok (.goto (-34), 3) := by decide +kernel
theorem dX6_matches_109 : decode cX6_matches 109 = .ok (.iload_n 2, 1) := by decide +kernel
theorem dX6_matches_110 : decode cX6_matches 110 = .ok (.ireturn, 1) := by decide +kernel
theorem dX7_init_0 : decode cX7_init 0 = .ok (.aload_n 0, 1) := by decide +kernel
theorem dX7_init_1 : decode cX7_init 1 = .ok (.invokespecial 1, 3) := by decide +kernel
theorem dX7_init_4 : decode cX7_init 4 = .ok (.new 7, 3) := by decide +kernel
theorem dX7_init_7 : decode cX7_init 7 = .ok (.dup, 1) := by decide +kernel
theorem dX7_init_8 : decode cX7_init 8 = .ok (.invokespecial 9, 3) := by decide +kernel
theorem dX7_init_11 : decode cX7_init 11 = .ok (.astore_n 1, 1) := by decide +kernel
theorem dX7_init_12 : decode cX7_init 12 = .ok (.aload_n 0, 1) := by decide +kernel
theorem dX7_init_13 : decode cX7_init 13 = .ok (.new 10, 3) := by decide +kernel
theorem dX7_init_16 : decode cX7_init 16 = .ok (.dup, 1) := by decide +kernel
theorem dX7_init_17 : decode cX7_init 17 = .ok (.invokespecial 12, 3) := by decide +kernel
theorem dX7_init_20 : decode cX7_init 20 = .ok (.putfield 13, 3) := by decide +kernel
theorem dX7_init_23 : decode cX7_init 23 = .ok (.aload_n 0, 1) := by decide +kernel
theorem dX7_init_24 : decode cX7_init 24 = .ok (.new 19, 3) := by decide +kernel
theorem dX7_init_27 : decode cX7_init 27 = .ok (.dup, 1) := by decide +kernel
theorem dX7_init_28 : decode cX7_init 28 = .ok (.aload_n 1, 1) := by decide +kernel
theorem dX7_init_29 : decode cX7_init 29 = .ok (.invokespecial 21, 3) := by decide +kernel
theorem dX7_init_32 : decode cX7_init 32 = .ok (.putfield 24, 3) := by decide +kernel
theorem dX7_init_35 : decode cX7_init 35 = .ok (.aload_n 0, 1) := by decide +kernel
theorem dX7_init_36 : decode cX7_init 36 = .ok (.new 19, 3) := by decide +kernel
theorem dX7_init_39 : decode cX7_init 39 = .ok (.dup, 1) := by decide +kernel
theorem dX7_init_40 : decode cX7_init 40 = .ok (.aload_n 1, 1) := by decide +kernel
theorem dX7_init_41 : decode cX7_init 41 = .ok (.invokespecial 21, 3) := by decide +kernel
theorem dX7_init_44 : decode cX7_init 44 = .ok (.putfield 28, 3) := by decide +kernel
theorem dX7_init_47 : decode cX7_init 47 = .ok (.aload_n 0, 1) := by decide +kernel
theorem dX7_init_48 : decode cX7_init 48 = .ok (.new 31, 3) := by decide +kernel
theorem dX7_init_51 : decode cX7_init 51 = .ok (.dup, 1) := by decide +kernel
theorem dX7_init_52 : decode cX7_init 52 = .ok (.invokespecial 33, 3) := by decide +kernel
theorem dX7_init_55 : decode cX7_init 55 = .ok (.putfield 34, 3) := by decide +kernel
theorem dX7_init_58 : decode cX7_init 58 = .ok (.aload_n 0, 1) := by decide +kernel
theorem dX7_init_59 : decode cX7_init 59 = .ok (.new 7, 3) := by decide +kernel
theorem dX7_init_62 : decode cX7_init 62 = .ok (.dup, 1) := by decide +kernel
theorem dX7_init_63 : decode cX7_init 63 = .ok (.invokespecial 9, 3) := by decide +kernel
theorem dX7_init_66 : decode cX7_init 66 = .ok (.putfield 38, 3) := by decide +kernel
theorem dX7_init_69 : decode cX7_init 69 = .ok (.aload_n 0, 1) := by decide +kernel
theorem dX7_init_70 : decode cX7_init 70 = .ok (.iconst 0, 1) := by decide +kernel
theorem dX7_init_71 : decode cX7_init 71 = .ok (.putfield 42, 3) := by decide +kernel
theorem dX7_init_74 : decode cX7_init 74 = .ok (.return_, 1) := by decide +kernel
theorem dX7_type_0 : decode cX7_type 0 = .ok (.iload_n 1, 1) := by decide +kernel
theorem dX7_type_1 : decode cX7_type 1 = .ok (.bipush 32, 2) := by decide +kernel
theorem dX7_type_3 : decode cX7_type 3 = .ok (.if_icmp .lt 9, 3) := by decide +kernel
theorem dX7_type_6 : decode cX7_type 6 = .ok (.iload_n 1, 1) := by decide +kernel
theorem dX7_type_7 : decode cX7_type 7 = .ok (.bipush 126, 2) := by decide +kernel
theorem dX7_type_9 : decode cX7_type 9 = .ok (.if_icmp .le 13, 3) := by decide +kernel
theorem dX7_type_12 : decode cX7_type 12 = .ok (.new 46, 3) := by decide +kernel
theorem dX7_type_15 : decode cX7_type 15 = .ok (.dup, 1) := by decide +kernel
theorem dX7_type_16 : decode cX7_type 16 = .ok (.ldc 48, 2) := by decide +kernel
theorem dX7_type_18 : decode cX7_type 18 = .ok (.invokespecial 50, 3) := by decide +kernel
theorem dX7_type_21 : decode cX7_type 21 = .ok (.athrow, 1) := by decide +kernel
theorem dX7_type_22 : decode cX7_type 22 = .ok (.aload_n 0, 1) := by decide +kernel
theorem dX7_type_23 : decode cX7_type 23 = .ok (.getfield 13, 3) := by decide +kernel
theorem dX7_type_26 : decode cX7_type 26 = .ok (.getfield 53, 3) := by decide +kernel
theorem dX7_type_29 : decode cX7_type 29 = .ok (.bipush 80, 2) := by decide +kernel
theorem dX7_type_31 : decode cX7_type 31 = .ok (.if_icmp .lt 13, 3) := by decide +kernel
theorem dX7_type_34 : decode cX7_type 34 = .ok (.new 56, 3) := by decide +kernel
theorem dX7_type_37 : decode cX7_type 37 = .ok (.dup, 1) := by decide +kernel
theorem dX7_type_38 : decode cX7_type 38 = .ok (.ldc 58, 2) := by decide +kernel
theorem dX7_type_40 : decode cX7_type 40 = .ok (.invokespecial 60, 3) := by decide +kernel
theorem dX7_type_43 : decode cX7_type 43 = .ok (.athrow, 1) := by decide +kernel
theorem dX7_type_44 : decode cX7_type 44 = .ok (.aload_n 0, 1) := by decide +kernel
theorem dX7_type_45 : decode cX7_type 45 = .ok (.getfield 13, 3) := by decide +kernel
theorem dX7_type_48 : decode cX7_type 48 = .ok (.iload_n 1, 1) := by decide +kernel
theorem dX7_type_49 : decode cX7_type 49 = .ok (.invokevirtual 61, 3) := by decide +kernel
theorem dX7_type_52 : decode cX7_type 52 = .ok (.aload_n 0, 1) := by decide +kernel
theorem dX7_type_53 : decode cX7_type 53 = .ok (.getfield 13, 3) := by decide +kernel
theorem dX7_type_56 : decode cX7_type 56 = .ok (.getfield 53, 3) := by decide +kernel
theorem dX7_type_59 : decode cX7_type 59 = .ok (.ireturn, 1) := by decide +kernel
theorem dX7_clearText_0 : decode cX7_clearText 0 = .ok (.aload_n 0, 1) := by decide +kernel
theorem dX7_clearText_1 : decode cX7_clearText 1 = .ok (.getfield 13, 3) := by decide +kernel
theorem dX7_clearText_4 : decode cX7_clearText 4 = .ok (.getfield 53, 3) := by decide +kernel
theorem dX7_clearText_7 : decode cX7_clearText 7 = .ok (.istore_n 1, 1) := by decide +kernel
theorem dX7_clearText_8 : decode cX7_clearText 8 = .ok (.aload_n 0, 1) := by decide +kernel
theorem dX7_clearText_9 : decode cX7_clearText 9 = .ok (.getfield 13, 3) := by decide +kernel
theorem dX7_clearText_12 : decode cX7_clearText 12 = .ok (.iconst 0, 1) := by decide +kernel
theorem dX7_clearText_13 : decode cX7_clearText 13 = .ok (.putfield 53, 3) := by decide +kernel
theorem dX7_clearText_16 : decode cX7_clearText 16 = .ok (.iload_n 1, 1) := by decide +kernel
theorem dX7_clearText_17 : decode cX7_clearText 17 = .ok (.ireturn, 1) := by decide +kernel
theorem dX7_readSequence_0 : decode cX7_readSequence 0 = .ok (.aload_n 0, 1) := by decide +kernel
theorem dX7_readSequence_1 : decode cX7_readSequence 1 = .ok (.getfield 13, 3) := by decide +kernel
theorem dX7_readSequence_4 : decode cX7_readSequence 4 = .ok (.aload_n 0, 1) := by decide +kernel
theorem dX7_readSequence_5 : decode cX7_readSequence 5 = .ok (.getfield 38, 3) := by decide +kernel
theorem dX7_readSequence_8 : decode cX7_readSequence 8 = .ok (.invokevirtual 65, 3) := by decide +kernel
theorem dX7_readSequence_11 : decode cX7_readSequence 11 = .ok (.aload_n 0, 1) := by decide +kernel
theorem dX7_readSequence_12 : decode cX7_readSequence 12 = .ok (.aload_n 0, 1) := by decide +kernel
theorem dX7_readSequence_13 : decode cX7_readSequence 13 = .ok (.getfield 13, 3) := by decide +kernel
theorem dX7_readSequence_16 : decode cX7_readSequence 16 = .ok (.getfield 68, 3) := by decide +kernel
theorem dX7_readSequence_19 : decode cX7_readSequence 19 = .ok (.putfield 42, 3) := by decide +kernel
theorem dX7_readSequence_22 : decode cX7_readSequence 22 = .ok (.aload_n 0, 1) := by decide +kernel
theorem dX7_readSequence_23 : decode cX7_readSequence 23 = .ok (.getfield 13, 3) := by decide +kernel
theorem dX7_readSequence_26 : decode cX7_readSequence 26 = .ok (.getfield 68, 3) := by decide +kernel
theorem dX7_readSequence_29 : decode cX7_readSequence 29 = .ok (.ifCond .eq 13, 3) := by decide +kernel
theorem dX7_readSequence_32 : decode cX7_readSequence 32 = .ok (.iconst (-1), 1) := by decide +kernel
theorem dX7_readSequence_33 : decode cX7_readSequence 33 = .ok (.aload_n 0, 1) := by decide +kernel
theorem dX7_readSequence_34 : decode cX7_readSequence 34 = .ok (.getfield 13, 3) := by decide +kernel
theorem dX7_readSequence_37 : decode cX7_readSequence 37 = .ok (.getfield 71, 3) := by decide +kernel
theorem dX7_readSequence_40 : decode cX7_readSequence 40 = .ok (.isub, 1) := by decide +kernel
theorem dX7_readSequence_41 : decode cX7_readSequence 41 = .ok (.ireturn, 1) := by decide +kernel
theorem dX7_readSequence_42 : decode cX7_readSequence 42 = .ok (.aload_n 0, 1) := by decide +kernel
theorem dX7_readSequence_43 : decode cX7_readSequence 43 = .ok (.getfield 13, 3) := by decide +kernel
theorem dX7_readSequence_46 : decode cX7_readSequence 46 = .ok (.iconst 0, 1) := by decide +kernel
theorem dX7_readSequence_47 : decode cX7_readSequence 47 = .ok (.putfield 53, 3) := by decide +kernel
theorem dX7_readSequence_50 : decode cX7_readSequence 50 = .ok (.aload_n 0, 1) := by decide +kernel
theorem dX7_readSequence_51 : decode cX7_readSequence 51 = .ok (.getfield 38, 3) := by decide +kernel
theorem dX7_readSequence_54 : decode cX7_readSequence 54 = .ok (.invokevirtual 74, 3) := by decide +kernel
theorem dX7_readSequence_57 : decode cX7_readSequence 57 = .ok (.aload_n 0, 1) := by decide +kernel
theorem dX7_readSequence_58 : decode cX7_readSequence 58 = .ok (.getfield 24, 3) := by decide +kernel
theorem dX7_readSequence_61 : decode cX7_readSequence 61 = .ok (.getfield 77, 3) := by decide +kernel
theorem dX7_readSequence_64 : decode cX7_readSequence 64 = .ok (.astore_n 1, 1) := by decide +kernel
theorem dX7_readSequence_65 : decode cX7_readSequence 65 = .ok (.aload_n 0, 1) := by decide +kernel
theorem dX7_readSequence_66 : decode cX7_readSequence 66 = .ok (.getfield 24, 3) := by decide +kernel
theorem dX7_readSequence_69 : decode cX7_readSequence 69 = .ok (.aload_n 0, 1) := by decide +kernel
theorem dX7_readSequence_70 : decode cX7_readSequence 70 = .ok (.getfield 38, 3) := by decide +kernel
theorem dX7_readSequence_73 : decode cX7_readSequence 73 = .ok (.putfield 77, 3) := by decide +kernel
theorem dX7_readSequence_76 : decode cX7_readSequence 76 = .ok (.aload_n 0, 1) := by decide +kernel
theorem dX7_readSequence_77 : decode cX7_readSequence 77 = .ok (.aload_n 1, 1) := by decide +kernel
theorem dX7_readSequence_78 : decode cX7_readSequence 78 = .ok (.putfield 38, 3) := by decide +kernel
theorem dX7_readSequence_81 : decode cX7_readSequence 81 = .ok (.aload_n 0, 1) := by decide +kernel
theorem dX7_readSequence_82 : decode cX7_readSequence 82 = .ok (.getfield 24, 3) := by decide +kernel
theorem dX7_readSequence_85 : decode cX7_readSequence 85 = .ok (.invokevirtual 80, 3) := by decide +kernel
theorem dX7_readSequence_88 : decode cX7_readSequence 88 = .ok (.aload_n 0, 1) := by decide +kernel
theorem dX7_readSequence_89 : decode cX7_readSequence 89 = .ok (.getfield 24, 3) := by decide +kernel
theorem dX7_readSequence_92 : decode cX7_readSequence 92 = .ok (.getfield 77, 3) := by decide +kernel
theorem dX7_readSequence_95 : decode cX7_readSequence 95 = .ok (.getfield 83, 3) := by decide +kernel
theorem dX7_readSequence_98 : decode cX7_readSequence 98 = .ok (.ireturn, 1) := by decide +kernel
theorem dX7_errorKind_0 : decode cX7_errorKind 0 = .ok (.aload_n 0, 1) := by decide +kernel
theorem dX7_errorKind_1 : decode cX7_errorKind 1 = .ok (.getfield 42, 3) := by decide +kernel
theorem dX7_errorKind_4 : decode cX7_errorKind 4 = .ok (.ireturn, 1) := by decide +kernel
theorem dX7_steps_0 : decode cX7_steps 0 = .ok (.aload_n 0, 1) := by decide +kernel
theorem dX7_steps_1 : decode cX7_steps 1 = .ok (.getfield 24, 3) := by decide +kernel
theorem dX7_steps_4 : decode cX7_steps 4 = .ok (.getfield 77, 3) := by decide +kernel
theorem dX7_steps_7 : decode cX7_steps 7 = .ok (.getfield 83, 3) := by decide +kernel
theorem dX7_steps_10 : decode cX7_steps 10 = .ok (.ireturn, 1) := by decide +kernel
theorem dX7_moves_0 : decode cX7_moves 0 = .ok (.aload_n 0, 1) := by decide +kernel
theorem dX7_moves_1 : decode cX7_moves 1 = .ok (.iload_n 1, 1) := by decide +kernel
theorem dX7_moves_2 : decode cX7_moves 2 = .ok (.invokevirtual 86, 3) := by decide +kernel
theorem dX7_moves_5 : decode cX7_moves 5 = .ok (.aload_n 0, 1) := by decide +kernel
theorem dX7_moves_6 : decode cX7_moves 6 = .ok (.getfield 24, 3) := by decide +kernel
theorem dX7_moves_9 : decode cX7_moves 9 = .ok (.getfield 77, 3) := by decide +kernel
theorem dX7_moves_12 : decode cX7_moves 12 = .ok (.iload_n 1, 1) := by decide +kernel
theorem dX7_moves_13 : decode cX7_moves 13 = .ok (.invokevirtual 89, 3) := by decide +kernel
theorem dX7_moves_16 : decode cX7_moves 16 = .ok (.ireturn, 1) := by decide +kernel
theorem dX7_direction_0 : decode cX7_direction 0 = .ok (.aload_n 0, 1) := by decide +kernel
theorem dX7_direction_1 : decode cX7_direction 1 = .ok (.iload_n 1, 1) := by decide +kernel
theorem dX7_direction_2 : decode cX7_direction 2 = .ok (.invokevirtual 86, 3) := by decide +kernel
theorem dX7_direction_5 : decode cX7_direction 5 = .ok (.iload_n 2, 1) := by decide +kernel
theorem dX7_direction_6 : decode cX7_direction 6 = .ok (.invokestatic 93, 3) := by decide +kernel
theorem dX7_direction_9 : decode cX7_direction 9 = .ok (.aload_n 0, 1) := by decide +kernel
theorem dX7_direction_10 : decode cX7_direction 10 = .ok (.getfield 24, 3) := by decide +kernel
theorem dX7_direction_13 : decode cX7_direction 13 = .ok (.getfield 77, 3) := by decide +kernel
theorem dX7_direction_16 : decode cX7_direction 16 = .ok (.getfield 96, 3) := by decide +kernel
theorem dX7_direction_19 : decode cX7_direction 19 = .ok (.iload_n 1, 1) := by decide +kernel
theorem dX7_direction_20 : decode cX7_direction 20 = .ok (.iaload, 1) := by decide +kernel
theorem dX7_direction_21 : decode cX7_direction 21 = .ok (.iload_n 2, 1) := by decide +kernel
theorem dX7_direction_22 : decode cX7_direction 22 = .ok (.invokestatic 100, 3) := by decide +kernel
theorem dX7_direction_25 : decode cX7_direction 25 = .ok (.ifCond .eq 5, 3) := by decide +kernel
theorem dX7_direction_28 : decode cX7_direction 28 = .ok (.iconst 1, 1) := by decide +kernel
theorem dX7_direction_29 : decode cX7_direction 29 = .ok (.ireturn, 1) := by decide +kernel
theorem dX7_direction_30 : decode cX7_direction 30 = .ok (.aload_n 0, 1) := by decide +kernel
theorem dX7_direction_31 : decode cX7_direction 31 = .ok (.getfield 24, 3) := by decide +kernel
theorem dX7_direction_34 : decode cX7_direction 34 = .ok (.getfield 77, 3) := by decide +kernel
theorem dX7_direction_37 : decode cX7_direction 37 = .ok (.getfield 104, 3) := by decide +kernel
theorem dX7_direction_40 : decode cX7_direction 40 = .ok (.iload_n 1, 1) := by decide +kernel
theorem dX7_direction_41 : decode cX7_direction 41 = .ok (.iaload, 1) := by decide +kernel
theorem dX7_direction_42 : decode cX7_direction 42 = .ok (.iload_n 2, 1) := by decide +kernel
theorem dX7_direction_43 : decode cX7_direction 43 = .ok (.invokestatic 100, 3) := by decide +kernel
theorem dX7_direction_46 : decode cX7_direction 46 = .ok (.ifCond .eq 7, 3) := by decide +kernel
theorem dX7_direction_49 : decode cX7_direction 49 = .ok (.iconst (-1), 1) := by decide +kernel
theorem dX7_direction_50 : decode cX7_direction 50 = .ok (.goto 4, 3) := by decide +kernel
theorem dX7_direction_53 : decode cX7_direction 53 = .ok (.iconst 0, 1) := by decide +kernel
theorem dX7_direction_54 : decode cX7_direction 54 = .ok (.ireturn, 1) := by decide +kernel
theorem dX7_pause_0 : decode cX7_pause 0 = .ok (.aload_n 0, 1) := by decide +kernel
theorem dX7_pause_1 : decode cX7_pause 1 = .ok (.iload_n 1, 1) := by decide +kernel
theorem dX7_pause_2 : decode cX7_pause 2 = .ok (.invokevirtual 86, 3) := by decide +kernel
theorem dX7_pause_5 : decode cX7_pause 5 = .ok (.aload_n 0, 1) := by decide +kernel
theorem dX7_pause_6 : decode cX7_pause 6 = .ok (.getfield 24, 3) := by decide +kernel
theorem dX7_pause_9 : decode cX7_pause 9 = .ok (.getfield 77, 3) := by decide +kernel
theorem dX7_pause_12 : decode cX7_pause 12 = .ok (.getfield 107, 3) := by decide +kernel
theorem dX7_pause_15 : decode cX7_pause 15 = .ok (.iload_n 1, 1) := by decide +kernel
theorem dX7_pause_16 : decode cX7_pause 16 = .ok (.iaload, 1) := by decide +kernel
theorem dX7_pause_17 : decode cX7_pause 17 = .ok (.ireturn, 1) := by decide +kernel
theorem dX7_clashes_0 : decode cX7_clashes 0 = .ok (.aload_n 0, 1) := by decide +kernel
theorem dX7_clashes_1 : decode cX7_clashes 1 = .ok (.invokevirtual 110, 3) := by decide +kernel
theorem dX7_clashes_4 : decode cX7_clashes 4 = .ok (.iconst 0, 1) := by decide +kernel
theorem dX7_clashes_5 : decode cX7_clashes 5 = .ok (.istore_n 1, 1) := by decide +kernel
theorem dX7_clashes_6 : decode cX7_clashes 6 = .ok (.iconst 0, 1) := by decide +kernel
theorem dX7_clashes_7 : decode cX7_clashes 7 = .ok (.istore_n 2, 1) := by decide +kernel
theorem dX7_clashes_8 : decode cX7_clashes 8 = .ok (.iload_n 2, 1) := by decide +kernel
theorem dX7_clashes_9 : decode cX7_clashes 9 = .ok (.aload_n 0, 1) := by decide +kernel
theorem dX7_clashes_10 : decode cX7_clashes 10 = .ok (.getfield 24, 3) := by decide +kernel
theorem dX7_clashes_13 : decode cX7_clashes 13 = .ok (.getfield 77, 3) := by decide +kernel
theorem dX7_clashes_16 : decode cX7_clashes 16 = .ok (.getfield 83, 3) := by decide +kernel
theorem dX7_clashes_19 : decode cX7_clashes 19 = .ok (.if_icmp .ge 41, 3) := by decide +kernel
theorem dX7_clashes_22 : decode cX7_clashes 22 = .ok (.iconst 0, 1) := by decide +kernel
theorem dX7_clashes_23 : decode cX7_clashes 23 = .ok (.istore_n 3, 1) := by decide +kernel
theorem dX7_clashes_24 : decode cX7_clashes 24 = .ok (.iload_n 3, 1) := by decide +kernel
theorem dX7_clashes_25 : decode cX7_clashes 25 = .ok (.bipush 6, 2) := by decide +kernel
theorem dX7_clashes_27 : decode cX7_clashes 27 = .ok (.if_icmp .ge 27, 3) := by decide +kernel
theorem dX7_clashes_30 : decode cX7_clashes 30 = .ok (.aload_n 0, 1) := by decide +kernel
theorem dX7_clashes_31 : decode cX7_clashes 31 = .ok (.getfield 24, 3) := by decide +kernel
theorem dX7_clashes_34 : decode cX7_clashes 34 = .ok (.getfield 77, 3) := by decide +kernel
theorem dX7_clashes_37 : decode cX7_clashes 37 = .ok (.iload_n 2, 1) := by decide +kernel
theorem dX7_clashes_38 : decode cX7_clashes 38 = .ok (.iload_n 3, 1) := by decide +kernel
theorem dX7_clashes_39 : decode cX7_clashes 39 = .ok (.invokevirtual 113, 3) := by decide +kernel
theorem dX7_clashes_42 : decode cX7_clashes 42 = .ok (.ifCond .lt 6, 3) := by decide +kernel
theorem dX7_clashes_45 : decode cX7_clashes 45 = .ok (.iinc 1 1, 3) := by decide +kernel
theorem dX7_clashes_48 : decode cX7_clashes 48 = .ok (.iinc 3 1, 3) := by decide +kernel
theorem dX7_clashes_51 : decode cX7_clashes 51 = .ok (.goto (-27), 3) := by decide +kernel
theorem dX7_clashes_54 : decode cX7_clashes 54 = .ok (.iinc 2 1, 3) := by decide +kernel
theorem dX7_clashes_57 : decode cX7_clashes 57 = .ok (.goto (-49), 3) := by decide +kernel
theorem dX7_clashes_60 : decode cX7_clashes 60 = .ok (.iload_n 1, 1) := by decide +kernel
theorem dX7_clashes_61 : decode cX7_clashes 61 = .ok (.ireturn, 1) := by decide +kernel
theorem dX7_clash_0 : decode cX7_clash 0 = .ok (.aload_n 0, 1) := by decide +kernel
theorem dX7_clash_1 : decode cX7_clash 1 = .ok (.iload_n 1, 1) := by decide +kernel
theorem dX7_clash_2 : decode cX7_clash 2 = .ok (.invokevirtual 86, 3) := by decide +kernel
theorem dX7_clash_5 : decode cX7_clash 5 = .ok (.iload_n 2, 1) := by decide +kernel
theorem dX7_clash_6 : decode cX7_clash 6 = .ok (.invokestatic 93, 3) := by decide +kernel
theorem dX7_clash_9 : decode cX7_clash 9 = .ok (.aload_n 0, 1) := by decide +kernel
theorem dX7_clash_10 : decode cX7_clash 10 = .ok (.getfield 24, 3) := by decide +kernel
theorem dX7_clash_13 : decode cX7_clash 13 = .ok (.getfield 77, 3) := by decide +kernel
theorem dX7_clash_16 : decode cX7_clash 16 = .ok (.iload_n 1, 1) := by decide +kernel
theorem dX7_clash_17 : decode cX7_clash 17 = .ok (.iload_n 2, 1) := by decide +kernel
theorem dX7_clash_18 : decode cX7_clash 18 = .ok (.invokevirtual 113, 3) := by decide +kernel
theorem dX7_clash_21 : decode cX7_clash 21 = .ok (.ireturn, 1) := by decide +kernel
theorem dX7_groups_0 : decode cX7_groups 0 = .ok (.aload_n 0, 1) := by decide +kernel
theorem dX7_groups_1 : decode cX7_groups 1 = .ok (.invokevirtual 110, 3) := by decide +kernel
theorem dX7_groups_4 : decode cX7_groups 4 = .ok (.aload_n 0, 1) := by decide +kernel
theorem dX7_groups_5 : decode cX7_groups 5 = .ok (.getfield 24, 3) := by decide +kernel
theorem dX7_groups_8 : decode cX7_groups 8 = .ok (.getfield 77, 3) := by decide +kernel
theorem dX7_groups_11 : decode cX7_groups 11 = .ok (.getfield 117, 3) := by decide +kernel
theorem dX7_groups_14 : decode cX7_groups 14 = .ok (.ireturn, 1) := by decide +kernel
theorem dX7_cut_0 : decode cX7_cut 0 = .ok (.iload_n 1, 1) := by decide +kernel
theorem dX7_cut_1 : decode cX7_cut 1 = .ok (.ifCond .lt 17, 3) := by decide +kernel
theorem dX7_cut_4 : decode cX7_cut 4 = .ok (.iload_n 1, 1) := by decide +kernel
theorem dX7_cut_5 : decode cX7_cut 5 = .ok (.aload_n 0, 1) := by decide +kernel
theorem dX7_cut_6 : decode cX7_cut 6 = .ok (.getfield 24, 3) := by decide +kernel
theorem dX7_cut_9 : decode cX7_cut 9 = .ok (.getfield 77, 3) := by decide +kernel
theorem dX7_cut_12 : decode cX7_cut 12 = .ok (.getfield 117, 3) := by decide +kernel
theorem dX7_cut_15 : decode cX7_cut 15 = .ok (.if_icmp .lt 13, 3) := by decide +kernel
theorem dX7_cut_18 : decode cX7_cut 18 = .ok (.new 120, 3) := by decide +kernel
theorem dX7_cut_21 : decode cX7_cut 21 = .ok (.dup, 1) := by decide +kernel
theorem dX7_cut_22 : decode cX7_cut 22 = .ok (.ldc 122, 2) := by decide +kernel
theorem dX7_cut_24 : decode cX7_cut 24 = .ok (.invokespecial 124, 3) := by decide +kernel
theorem dX7_cut_27 : decode cX7_cut 27 = .ok (.athrow, 1) := by decide +kernel
theorem dX7_cut_28 : decode cX7_cut 28 = .ok (.aload_n 0, 1) := by decide +kernel
theorem dX7_cut_29 : decode cX7_cut 29 = .ok (.getfield 24, 3) := by decide +kernel
theorem dX7_cut_32 : decode cX7_cut 32 = .ok (.getfield 77, 3) := by decide +kernel
theorem dX7_cut_35 : decode cX7_cut 35 = .ok (.getfield 125, 3) := by decide +kernel
theorem dX7_cut_38 : decode cX7_cut 38 = .ok (.iload_n 1, 1) := by decide +kernel
theorem dX7_cut_39 : decode cX7_cut 39 = .ok (.iaload, 1) := by decide +kernel
theorem dX7_cut_40 : decode cX7_cut 40 = .ok (.ireturn, 1) := by decide +kernel
theorem dX7_groupOf_0 : decode cX7_groupOf 0 = .ok (.aload_n 0, 1) := by decide +kernel
theorem dX7_groupOf_1 : decode cX7_groupOf 1 = .ok (.iload_n 1, 1) := by decide +kernel
theorem dX7_groupOf_2 : decode cX7_groupOf 2 = .ok (.invokevirtual 86, 3) := by decide +kernel
theorem dX7_groupOf_5 : decode cX7_groupOf 5 = .ok (.aload_n 0, 1) := by decide +kernel
theorem dX7_groupOf_6 : decode cX7_groupOf 6 = .ok (.getfield 24, 3) := by decide +kernel
theorem dX7_groupOf_9 : decode cX7_groupOf 9 = .ok (.getfield 77, 3) := by decide +kernel
theorem dX7_groupOf_12 : decode cX7_groupOf 12 = .ok (.getfield 128, 3) := by decide +kernel
theorem dX7_groupOf_15 : decode cX7_groupOf 15 = .ok (.iload_n 1, 1) := by decide +kernel
theorem dX7_groupOf_16 : decode cX7_groupOf 16 = .ok (.iaload, 1) := by decide +kernel
theorem dX7_groupOf_17 : decode cX7_groupOf 17 = .ok (.ireturn, 1) := by decide +kernel
theorem dX7_valves_0 : decode cX7_valves 0 = .ok (.iload_n 1, 1) := by decide +kernel
theorem dX7_valves_1 : decode cX7_valves 1 = .ok (.invokestatic 131, 3) := by decide +kernel
theorem dX7_valves_4 : decode cX7_valves 4 = .ok (.aload_n 0, 1) := by decide +kernel
theorem dX7_valves_5 : decode cX7_valves 5 = .ok (.invokevirtual 110, 3) := by decide +kernel
theorem dX7_valves_8 : decode cX7_valves 8 = .ok (.aload_n 0, 1) := by decide +kernel
theorem dX7_valves_9 : decode cX7_valves 9 = .ok (.iload_n 1, 1) := by decide +kernel
theorem dX7_valves_10 : decode cX7_valves 10 = .ok (.invokevirtual 134, 3) := by decide +kernel
theorem dX7_valves_13 : decode cX7_valves 13 = .ok (.ireturn, 1) := by decide +kernel
theorem dX7_setMethod_0 : decode cX7_setMethod 0 = .ok (.iload_n 1, 1) := by decide +kernel
theorem dX7_setMethod_1 : decode cX7_setMethod 1 = .ok (.invokestatic 131, 3) := by decide +kernel
theorem dX7_setMethod_4 : decode cX7_setMethod 4 = .ok (.aload_n 0, 1) := by decide +kernel
theorem dX7_setMethod_5 : decode cX7_setMethod 5 = .ok (.getfield 24, 3) := by decide +kernel
theorem dX7_setMethod_8 : decode cX7_setMethod 8 = .ok (.getfield 137, 3) := by decide +kernel
theorem dX7_setMethod_11 : decode cX7_setMethod 11 = .ok (.getfield 141, 3) := by decide +kernel
theorem dX7_setMethod_14 : decode cX7_setMethod 14 = .ok (.istore_n 2, 1) := by decide +kernel
theorem dX7_setMethod_15 : decode cX7_setMethod 15 = .ok (.aload_n 0, 1) := by decide +kernel
theorem dX7_setMethod_16 : decode cX7_setMethod 16 = .ok (.getfield 24, 3) := by decide +kernel
theorem dX7_setMethod_19 : decode cX7_setMethod 19 = .ok (.getfield 137, 3) := by decide +kernel
theorem dX7_setMethod_22 : decode cX7_setMethod 22 = .ok (.iload_n 1, 1) := by decide +kernel
theorem dX7_setMethod_23 : decode cX7_setMethod 23 = .ok (.putfield 141, 3) := by decide +kernel
theorem dX7_setMethod_26 : decode cX7_setMethod 26 = .ok (.aload_n 0, 1) := by decide +kernel
theorem dX7_setMethod_27 : decode cX7_setMethod 27 = .ok (.getfield 24, 3) := by decide +kernel
theorem dX7_setMethod_30 : decode cX7_setMethod 30 = .ok (.invokevirtual 80, 3) := by decide +kernel
theorem dX7_setMethod_33 : decode cX7_setMethod 33 = .ok (.iload_n 2, 1) := by decide +kernel
theorem dX7_setMethod_34 : decode cX7_setMethod 34 = .ok (.ireturn, 1) := by decide +kernel
theorem dX7_setStroke_0 : decode cX7_setStroke 0 = .ok (.iload_n 1, 1) := by decide +kernel
theorem dX7_setStroke_1 : decode cX7_setStroke 1 = .ok (.invokestatic 93, 3) := by decide +kernel
theorem dX7_setStroke_4 : decode cX7_setStroke 4 = .ok (.iload_n 2, 1) := by decide +kernel
theorem dX7_setStroke_5 : decode cX7_setStroke 5 = .ok (.iconst 1, 1) := by decide +kernel
theorem dX7_setStroke_6 : decode cX7_setStroke 6 = .ok (.if_icmp .lt 9, 3) := by decide +kernel
theorem dX7_setStroke_9 : decode cX7_setStroke 9 = .ok (.iload_n 2, 1) := by decide +kernel
theorem dX7_setStroke_10 : decode cX7_setStroke 10 = .ok (.bipush 20, 2) := by decide +kernel
theorem dX7_setStroke_12 : decode cX7_setStroke 12 = .ok (.if_icmp .le 13, 3) := by decide +kernel
theorem dX7_setStroke_15 : decode cX7_setStroke 15 = .ok (.new 46, 3) := by decide +kernel
theorem dX7_setStroke_18 : decode cX7_setStroke 18 = .ok (.dup, 1) := by decide +kernel
theorem dX7_setStroke_19 : decode cX7_setStroke 19 = .ok (.ldc 146, 2) := by decide +kernel
theorem dX7_setStroke_21 : decode cX7_setStroke 21 = .ok (.invokespecial 50, 3) := by decide +kernel
theorem dX7_setStroke_24 : decode cX7_setStroke 24 = .ok (.athrow, 1) := by decide +kernel
theorem dX7_setStroke_25 : decode cX7_setStroke 25 = .ok (.aload_n 0, 1) := by decide +kernel
theorem dX7_setStroke_26 : decode cX7_setStroke 26 = .ok (.getfield 24, 3) := by decide +kernel
theorem dX7_setStroke_29 : decode cX7_setStroke 29 = .ok (.getfield 148, 3) := by decide +kernel
theorem dX7_setStroke_32 : decode cX7_setStroke 32 = .ok (.iload_n 1, 1) := by decide +kernel
theorem dX7_setStroke_33 : decode cX7_setStroke 33 = .ok (.iaload, 1) := by decide +kernel
theorem dX7_setStroke_34 : decode cX7_setStroke 34 = .ok (.istore_n 3, 1) := by decide +kernel
theorem dX7_setStroke_35 : decode cX7_setStroke 35 = .ok (.aload_n 0, 1) := by decide +kernel
theorem dX7_setStroke_36 : decode cX7_setStroke 36 = .ok (.getfield 24, 3) := by decide +kernel
theorem dX7_setStroke_39 : decode cX7_setStroke 39 = .ok (.getfield 148, 3) := by decide +kernel
theorem dX7_setStroke_42 : decode cX7_setStroke 42 = .ok (.iload_n 1, 1) := by decide +kernel
theorem dX7_setStroke_43 : decode cX7_setStroke 43 = .ok (.iload_n 2, 1) := by decide +kernel
theorem dX7_setStroke_44 : decode cX7_setStroke 44 = .ok (.iastore, 1) := by decide +kernel
theorem dX7_setStroke_45 : decode cX7_setStroke 45 = .ok (.aload_n 0, 1) := by decide +kernel
theorem dX7_setStroke_46 : decode cX7_setStroke 46 = .ok (.getfield 24, 3) := by decide +kernel
theorem dX7_setStroke_49 : decode cX7_setStroke 49 = .ok (.invokevirtual 80, 3) := by decide +kernel
theorem dX7_setStroke_52 : decode cX7_setStroke 52 = .ok (.iload_n 3, 1) := by decide +kernel
theorem dX7_setStroke_53 : decode cX7_setStroke 53 = .ok (.ireturn, 1) := by decide +kernel
theorem dX7_setStart_0 : decode cX7_setStart 0 = .ok (.aload_n 0, 1) := by decide +kernel
theorem dX7_setStart_1 : decode cX7_setStart 1 = .ok (.getfield 24, 3) := by decide +kernel
theorem dX7_setStart_4 : decode cX7_setStart 4 = .ok (.getfield 151, 3) := by decide +kernel
theorem dX7_setStart_7 : decode cX7_setStart 7 = .ok (.istore_n 2, 1) := by decide +kernel
theorem dX7_setStart_8 : decode cX7_setStart 8 = .ok (.aload_n 0, 1) := by decide +kernel
theorem dX7_setStart_9 : decode cX7_setStart 9 = .ok (.getfield 24, 3) := by decide +kernel
theorem dX7_setStart_12 : decode cX7_setStart 12 = .ok (.iload_n 1, 1) := by decide +kernel
theorem dX7_setStart_13 : decode cX7_setStart 13 = .ok (.putfield 151, 3) := by decide +kernel
theorem dX7_setStart_16 : decode cX7_setStart 16 = .ok (.iload_n 2, 1) := by decide +kernel
theorem dX7_setStart_17 : decode cX7_setStart 17 = .ok (.ireturn, 1) := by decide +kernel
theorem dX7_setFault_0 : decode cX7_setFault 0 = .ok (.iload_n 1, 1) := by decide +kernel
theorem dX7_setFault_1 : decode cX7_setFault 1 = .ok (.invokestatic 93, 3) := by decide +kernel
theorem dX7_setFault_4 : decode cX7_setFault 4 = .ok (.iload_n 2, 1) := by decide +kernel
theorem dX7_setFault_5 : decode cX7_setFault 5 = .ok (.invokestatic 155, 3) := by decide +kernel
theorem dX7_setFault_8 : decode cX7_setFault 8 = .ok (.aload_n 0, 1) := by decide +kernel
theorem dX7_setFault_9 : decode cX7_setFault 9 = .ok (.getfield 24, 3) := by decide +kernel
theorem dX7_setFault_12 : decode cX7_setFault 12 = .ok (.getfield 158, 3) := by decide +kernel
theorem dX7_setFault_15 : decode cX7_setFault 15 = .ok (.iload_n 2, 1) := by decide +kernel
theorem dX7_setFault_16 : decode cX7_setFault 16 = .ok (.iaload, 1) := by decide +kernel
theorem dX7_setFault_17 : decode cX7_setFault 17 = .ok (.iload_n 1, 1) := by decide +kernel
theorem dX7_setFault_18 : decode cX7_setFault 18 = .ok (.invokestatic 100, 3) := by decide +kernel
theorem dX7_setFault_21 : decode cX7_setFault 21 = .ok (.istore 4, 2) := by decide +kernel
theorem dX7_setFault_23 : decode cX7_setFault 23 = .ok (.aload_n 0, 1) := by decide +kernel
theorem dX7_setFault_24 : decode cX7_setFault 24 = .ok (.getfield 24, 3) := by decide +kernel
theorem dX7_setFault_27 : decode cX7_setFault 27 = .ok (.iload_n 1, 1) := by decide +kernel
theorem dX7_setFault_28 : decode cX7_setFault 28 = .ok (.iload_n 2, 1) := by decide +kernel
theorem dX7_setFault_29 : decode cX7_setFault 29 = .ok (.iload_n 3, 1) := by decide +kernel
theorem dX7_setFault_30 : decode cX7_setFault 30 = .ok (.invokevirtual 161, 3) := by decide +kernel
theorem dX7_setFault_33 : decode cX7_setFault 33 = .ok (.iload 4, 2) := by decide +kernel
theorem dX7_setFault_35 : decode cX7_setFault 35 = .ok (.ireturn, 1) := by decide +kernel
theorem dX7_rest_0 : decode cX7_rest 0 = .ok (.aload_n 0, 1) := by decide +kernel
theorem dX7_rest_1 : decode cX7_rest 1 = .ok (.getfield 24, 3) := by decide +kernel
theorem dX7_rest_4 : decode cX7_rest 4 = .ok (.getfield 165, 3) := by decide +kernel
theorem dX7_rest_7 : decode cX7_rest 7 = .ok (.istore_n 1, 1) := by decide +kernel
theorem dX7_rest_8 : decode cX7_rest 8 = .ok (.aload_n 0, 1) := by decide +kernel
theorem dX7_rest_9 : decode cX7_rest 9 = .ok (.getfield 24, 3) := by decide +kernel
theorem dX7_rest_12 : decode cX7_rest 12 = .ok (.invokevirtual 80, 3) := by decide +kernel
theorem dX7_rest_15 : decode cX7_rest 15 = .ok (.iload_n 1, 1) := by decide +kernel
theorem dX7_rest_16 : decode cX7_rest 16 = .ok (.ireturn, 1) := by decide +kernel
theorem dX7_ticks_0 : decode cX7_ticks 0 = .ok (.iload_n 1, 1) := by decide +kernel
theorem dX7_ticks_1 : decode cX7_ticks 1 = .ok (.ifCond .lt 10, 3) := by decide +kernel
theorem dX7_ticks_4 : decode cX7_ticks 4 = .ok (.iload_n 1, 1) := by decide +kernel
theorem dX7_ticks_5 : decode cX7_ticks 5 = .ok (.sipush 5000, 3) := by decide +kernel
theorem dX7_ticks_8 : decode cX7_ticks 8 = .ok (.if_icmp .le 13, 3) := by decide +kernel
theorem dX7_ticks_11 : decode cX7_ticks 11 = .ok (.new 46, 3) := by decide +kernel
theorem dX7_ticks_14 : decode cX7_ticks 14 = .ok (.dup, 1) := by decide +kernel
theorem dX7_ticks_15 : decode cX7_ticks 15 = .ok (.ldc 168, 2) := by decide +kernel
theorem dX7_ticks_17 : decode cX7_ticks 17 = .ok (.invokespecial 50, 3) := by decide +kernel
theorem dX7_ticks_20 : decode cX7_ticks 20 = .ok (.athrow, 1) := by decide +kernel
theorem dX7_ticks_21 : decode cX7_ticks 21 = .ok (.aload_n 0, 1) := by decide +kernel
theorem dX7_ticks_22 : decode cX7_ticks 22 = .ok (.invokevirtual 110, 3) := by decide +kernel
theorem dX7_ticks_25 : decode cX7_ticks 25 = .ok (.aload_n 0, 1) := by decide +kernel
theorem dX7_ticks_26 : decode cX7_ticks 26 = .ok (.getfield 24, 3) := by decide +kernel
theorem dX7_ticks_29 : decode cX7_ticks 29 = .ok (.getfield 170, 3) := by decide +kernel
theorem dX7_ticks_32 : decode cX7_ticks 32 = .ok (.getfield 174, 3) := by decide +kernel
theorem dX7_ticks_35 : decode cX7_ticks 35 = .ok (.istore_n 2, 1) := by decide +kernel
theorem dX7_ticks_36 : decode cX7_ticks 36 = .ok (.aload_n 0, 1) := by decide +kernel
theorem dX7_ticks_37 : decode cX7_ticks 37 = .ok (.getfield 24, 3) := by decide +kernel
theorem dX7_ticks_40 : decode cX7_ticks 40 = .ok (.iload_n 1, 1) := by decide +kernel
theorem dX7_ticks_41 : decode cX7_ticks 41 = .ok (.invokevirtual 177, 3) := by decide +kernel
theorem dX7_ticks_44 : decode cX7_ticks 44 = .ok (.aload_n 0, 1) := by decide +kernel
theorem dX7_ticks_45 : decode cX7_ticks 45 = .ok (.getfield 24, 3) := by decide +kernel
theorem dX7_ticks_48 : decode cX7_ticks 48 = .ok (.getfield 170, 3) := by decide +kernel
theorem dX7_ticks_51 : decode cX7_ticks 51 = .ok (.getfield 174, 3) := by decide +kernel
theorem dX7_ticks_54 : decode cX7_ticks 54 = .ok (.iload_n 2, 1) := by decide +kernel
theorem dX7_ticks_55 : decode cX7_ticks 55 = .ok (.isub, 1) := by decide +kernel
theorem dX7_ticks_56 : decode cX7_ticks 56 = .ok (.ireturn, 1) := by decide +kernel
theorem dX7_time_0 : decode cX7_time 0 = .ok (.aload_n 0, 1) := by decide +kernel
theorem dX7_time_1 : decode cX7_time 1 = .ok (.getfield 24, 3) := by decide +kernel
theorem dX7_time_4 : decode cX7_time 4 = .ok (.getfield 165, 3) := by decide +kernel
theorem dX7_time_7 : decode cX7_time 7 = .ok (.ireturn, 1) := by decide +kernel
theorem dX7_position_0 : decode cX7_position 0 = .ok (.iload_n 1, 1) := by decide +kernel
theorem dX7_position_1 : decode cX7_position 1 = .ok (.invokestatic 93, 3) := by decide +kernel
theorem dX7_position_4 : decode cX7_position 4 = .ok (.aload_n 0, 1) := by decide +kernel
theorem dX7_position_5 : decode cX7_position 5 = .ok (.getfield 24, 3) := by decide +kernel
theorem dX7_position_8 : decode cX7_position 8 = .ok (.getfield 180, 3) := by decide +kernel
theorem dX7_position_11 : decode cX7_position 11 = .ok (.iload_n 1, 1) := by decide +kernel
theorem dX7_position_12 : decode cX7_position 12 = .ok (.iaload, 1) := by decide +kernel
theorem dX7_position_13 : decode cX7_position 13 = .ok (.ireturn, 1) := by decide +kernel
theorem dX7_isOut_0 : decode cX7_isOut 0 = .ok (.iload_n 1, 1) := by decide +kernel
theorem dX7_isOut_1 : decode cX7_isOut 1 = .ok (.invokestatic 93, 3) := by decide +kernel
theorem dX7_isOut_4 : decode cX7_isOut 4 = .ok (.aload_n 0, 1) := by decide +kernel
theorem dX7_isOut_5 : decode cX7_isOut 5 = .ok (.getfield 24, 3) := by decide +kernel
theorem dX7_isOut_8 : decode cX7_isOut 8 = .ok (.getfield 183, 3) := by decide +kernel
theorem dX7_isOut_11 : decode cX7_isOut 11 = .ok (.iload_n 1, 1) := by decide +kernel
theorem dX7_isOut_12 : decode cX7_isOut 12 = .ok (.invokestatic 100, 3) := by decide +kernel
theorem dX7_isOut_15 : decode cX7_isOut 15 = .ok (.ireturn, 1) := by decide +kernel
theorem dX7_sensor_0 : decode cX7_sensor 0 = .ok (.iload_n 1, 1) := by decide +kernel
theorem dX7_sensor_1 : decode cX7_sensor 1 = .ok (.invokestatic 93, 3) := by decide +kernel
theorem dX7_sensor_4 : decode cX7_sensor 4 = .ok (.iload_n 2, 1) := by decide +kernel
theorem dX7_sensor_5 : decode cX7_sensor 5 = .ok (.ifCond .lt 8, 3) := by decide +kernel
theorem dX7_sensor_8 : decode cX7_sensor 8 = .ok (.iload_n 2, 1) := by decide +kernel
theorem dX7_sensor_9 : decode cX7_sensor 9 = .ok (.iconst 1, 1) := by decide +kernel
theorem dX7_sensor_10 : decode cX7_sensor 10 = .ok (.if_icmp .le 13, 3) := by decide +kernel
theorem dX7_sensor_13 : decode cX7_sensor 13 = .ok (.new 120, 3) := by decide +kernel
theorem dX7_sensor_16 : decode cX7_sensor 16 = .ok (.dup, 1) := by decide +kernel
theorem dX7_sensor_17 : decode cX7_sensor 17 = .ok (.ldc 186, 2) := by decide +kernel
theorem dX7_sensor_19 : decode cX7_sensor 19 = .ok (.invokespecial 124, 3) := by decide +kernel
theorem dX7_sensor_22 : decode cX7_sensor 22 = .ok (.athrow, 1) := by decide +kernel
theorem dX7_sensor_23 : decode cX7_sensor 23 = .ok (.iload_n 2, 1) := by decide +kernel
theorem dX7_sensor_24 : decode cX7_sensor 24 = .ok (.ifCond .ne 13, 3) := by decide +kernel
theorem dX7_sensor_27 : decode cX7_sensor 27 = .ok (.aload_n 0, 1) := by decide +kernel
theorem dX7_sensor_28 : decode cX7_sensor 28 = .ok (.getfield 24, 3) := by decide +kernel
theorem dX7_sensor_31 : decode cX7_sensor 31 = .ok (.invokevirtual 188, 3) := by decide +kernel
theorem dX7_sensor_34 : decode cX7_sensor 34 = .ok (.goto 10, 3) := by decide +kernel
theorem dX7_sensor_37 : decode cX7_sensor 37 = .ok (.aload_n 0, 1) := by decide +kernel
theorem dX7_sensor_38 : decode cX7_sensor 38 = .ok (.getfield 24, 3) := by decide +kernel
theorem dX7_sensor_41 : decode cX7_sensor 41 = .ok (.invokevirtual 192, 3) := by decide +kernel
theorem dX7_sensor_44 : decode cX7_sensor 44 = .ok (.iload_n 1, 1) := by decide +kernel
theorem dX7_sensor_45 : decode cX7_sensor 45 = .ok (.invokestatic 100, 3) := by decide +kernel
theorem dX7_sensor_48 : decode cX7_sensor 48 = .ok (.ireturn, 1) := by decide +kernel
theorem dX7_timer_0 : decode cX7_timer 0 = .ok (.aload_n 0, 1) := by decide +kernel
theorem dX7_timer_1 : decode cX7_timer 1 = .ok (.iload_n 1, 1) := by decide +kernel
theorem dX7_timer_2 : decode cX7_timer 2 = .ok (.invokevirtual 86, 3) := by decide +kernel
theorem dX7_timer_5 : decode cX7_timer 5 = .ok (.aload_n 0, 1) := by decide +kernel
theorem dX7_timer_6 : decode cX7_timer 6 = .ok (.getfield 24, 3) := by decide +kernel
theorem dX7_timer_9 : decode cX7_timer 9 = .ok (.getfield 195, 3) := by decide +kernel
theorem dX7_timer_12 : decode cX7_timer 12 = .ok (.iload_n 1, 1) := by decide +kernel
theorem dX7_timer_13 : decode cX7_timer 13 = .ok (.iaload, 1) := by decide +kernel
theorem dX7_timer_14 : decode cX7_timer 14 = .ok (.ireturn, 1) := by decide +kernel
theorem dX7_active_0 : decode cX7_active 0 = .ok (.aload_n 0, 1) := by decide +kernel
theorem dX7_active_1 : decode cX7_active 1 = .ok (.getfield 24, 3) := by decide +kernel
theorem dX7_active_4 : decode cX7_active 4 = .ok (.getfield 137, 3) := by decide +kernel
theorem dX7_active_7 : decode cX7_active 7 = .ok (.getfield 198, 3) := by decide +kernel
theorem dX7_active_10 : decode cX7_active 10 = .ok (.ireturn, 1) := by decide +kernel
theorem dX7_commands_0 : decode cX7_commands 0 = .ok (.iload_n 1, 1) := by decide +kernel
theorem dX7_commands_1 : decode cX7_commands 1 = .ok (.invokestatic 93, 3) := by decide +kernel
theorem dX7_commands_4 : decode cX7_commands 4 = .ok (.aload_n 0, 1) := by decide +kernel
theorem dX7_commands_5 : decode cX7_commands 5 = .ok (.getfield 24, 3) := by decide +kernel
theorem dX7_commands_8 : decode cX7_commands 8 = .ok (.getfield 137, 3) := by decide +kernel
theorem dX7_commands_11 : decode cX7_commands 11 = .ok (.iload_n 1, 1) := by decide +kernel
theorem dX7_commands_12 : decode cX7_commands 12 = .ok (.invokevirtual 201, 3) := by decide +kernel
theorem dX7_commands_15 : decode cX7_commands 15 = .ok (.ireturn, 1) := by decide +kernel
theorem dX7_events_0 : decode cX7_events 0 = .ok (.aload_n 0, 1) := by decide +kernel
theorem dX7_events_1 : decode cX7_events 1 = .ok (.getfield 24, 3) := by decide +kernel
theorem dX7_events_4 : decode cX7_events 4 = .ok (.getfield 170, 3) := by decide +kernel
theorem dX7_events_7 : decode cX7_events 7 = .ok (.getfield 174, 3) := by decide +kernel
theorem dX7_events_10 : decode cX7_events 10 = .ok (.ireturn, 1) := by decide +kernel
theorem dX7_eventTime_0 : decode cX7_eventTime 0 = .ok (.iload_n 1, 1) := by decide +kernel
theorem dX7_eventTime_1 : decode cX7_eventTime 1 = .ok (.invokestatic 204, 3) := by decide +kernel
theorem dX7_eventTime_4 : decode cX7_eventTime 4 = .ok (.aload_n 0, 1) := by decide +kernel
theorem dX7_eventTime_5 : decode cX7_eventTime 5 = .ok (.getfield 24, 3) := by decide +kernel
theorem dX7_eventTime_8 : decode cX7_eventTime 8 = .ok (.getfield 170, 3) := by decide +kernel
theorem dX7_eventTime_11 : decode cX7_eventTime 11 = .ok (.iload_n 1, 1) := by decide +kernel
theorem dX7_eventTime_12 : decode cX7_eventTime 12 = .ok (.invokevirtual 207, 3) := by decide +kernel
theorem dX7_eventTime_15 : decode cX7_eventTime 15 = .ok (.istore_n 2, 1) := by decide +kernel
theorem dX7_eventTime_16 : decode cX7_eventTime 16 = .ok (.iload_n 2, 1) := by decide +kernel
theorem dX7_eventTime_17 : decode cX7_eventTime 17 = .ok (.ifCond .ge 7, 3) := by decide +kernel
theorem dX7_eventTime_20 : decode cX7_eventTime 20 = .ok (.iconst (-1), 1) := by decide +kernel
theorem dX7_eventTime_21 : decode cX7_eventTime 21 = .ok (.goto 15, 3) := by decide +kernel
theorem dX7_eventTime_24 : decode cX7_eventTime 24 = .ok (.aload_n 0, 1) := by decide +kernel
theorem dX7_eventTime_25 : decode cX7_eventTime 25 = .ok (.getfield 24, 3) := by decide +kernel
theorem dX7_eventTime_28 : decode cX7_eventTime 28 = .ok (.getfield 170, 3) := by decide +kernel
theorem dX7_eventTime_31 : decode cX7_eventTime 31 = .ok (.getfield 210, 3) := by decide +kernel
theorem dX7_eventTime_34 : decode cX7_eventTime 34 = .ok (.iload_n 2, 1) := by decide +kernel
theorem dX7_eventTime_35 : decode cX7_eventTime 35 = .ok (.iaload, 1) := by decide +kernel
theorem dX7_eventTime_36 : decode cX7_eventTime 36 = .ok (.ireturn, 1) := by decide +kernel
theorem dX7_eventMove_0 : decode cX7_eventMove 0 = .ok (.iload_n 1, 1) := by decide +kernel
theorem dX7_eventMove_1 : decode cX7_eventMove 1 = .ok (.invokestatic 204, 3) := by decide +kernel
theorem dX7_eventMove_4 : decode cX7_eventMove 4 = .ok (.aload_n 0, 1) := by decide +kernel
theorem dX7_eventMove_5 : decode cX7_eventMove 5 = .ok (.getfield 24, 3) := by decide +kernel
theorem dX7_eventMove_8 : decode cX7_eventMove 8 = .ok (.getfield 170, 3) := by decide +kernel
theorem dX7_eventMove_11 : decode cX7_eventMove 11 = .ok (.iload_n 1, 1) := by decide +kernel
theorem dX7_eventMove_12 : decode cX7_eventMove 12 = .ok (.invokevirtual 207, 3) := by decide +kernel
theorem dX7_eventMove_15 : decode cX7_eventMove 15 = .ok (.istore_n 2, 1) := by decide +kernel
theorem dX7_eventMove_16 : decode cX7_eventMove 16 = .ok (.iload_n 2, 1) := by decide +kernel
theorem dX7_eventMove_17 : decode cX7_eventMove 17 = .ok (.ifCond .ge 7, 3) := by decide +kernel
theorem dX7_eventMove_20 : decode cX7_eventMove 20 = .ok (.iconst (-1), 1) := by decide +kernel
theorem dX7_eventMove_21 : decode cX7_eventMove 21 = .ok (.goto 15, 3) := by decide +kernel
theorem dX7_eventMove_24 : decode cX7_eventMove 24 = .ok (.aload_n 0, 1) := by decide +kernel
theorem dX7_eventMove_25 : decode cX7_eventMove 25 = .ok (.getfield 24, 3) := by decide +kernel
theorem dX7_eventMove_28 : decode cX7_eventMove 28 = .ok (.getfield 170, 3) := by decide +kernel
theorem dX7_eventMove_31 : decode cX7_eventMove 31 = .ok (.getfield 213, 3) := by decide +kernel
theorem dX7_eventMove_34 : decode cX7_eventMove 34 = .ok (.iload_n 2, 1) := by decide +kernel
theorem dX7_eventMove_35 : decode cX7_eventMove 35 = .ok (.iaload, 1) := by decide +kernel
theorem dX7_eventMove_36 : decode cX7_eventMove 36 = .ok (.ireturn, 1) := by decide +kernel
theorem dX7_rightEvents_0 : decode cX7_rightEvents 0 = .ok (.aload_n 0, 1) := by decide +kernel
theorem dX7_rightEvents_1 : decode cX7_rightEvents 1 = .ok (.getfield 24, 3) := by decide +kernel
theorem dX7_rightEvents_4 : decode cX7_rightEvents 4 = .ok (.getfield 216, 3) := by decide +kernel
theorem dX7_rightEvents_7 : decode cX7_rightEvents 7 = .ok (.getfield 220, 3) := by decide +kernel
theorem dX7_rightEvents_10 : decode cX7_rightEvents 10 = .ok (.ireturn, 1) := by decide +kernel
theorem dX7_cycles_0 : decode cX7_cycles 0 = .ok (.aload_n 0, 1) := by decide +kernel
theorem dX7_cycles_1 : decode cX7_cycles 1 = .ok (.getfield 24, 3) := by decide +kernel
theorem dX7_cycles_4 : decode cX7_cycles 4 = .ok (.getfield 216, 3) := by decide +kernel
theorem dX7_cycles_7 : decode cX7_cycles 7 = .ok (.getfield 225, 3) := by decide +kernel
theorem dX7_cycles_10 : decode cX7_cycles 10 = .ok (.ireturn, 1) := by decide +kernel
theorem dX7_quiet_0 : decode cX7_quiet 0 = .ok (.aload_n 0, 1) := by decide +kernel
theorem dX7_quiet_1 : decode cX7_quiet 1 = .ok (.getfield 24, 3) := by decide +kernel
theorem dX7_quiet_4 : decode cX7_quiet 4 = .ok (.getfield 165, 3) := by decide +kernel
theorem dX7_quiet_7 : decode cX7_quiet 7 = .ok (.aload_n 0, 1) := by decide +kernel
theorem dX7_quiet_8 : decode cX7_quiet 8 = .ok (.getfield 24, 3) := by decide +kernel
theorem dX7_quiet_11 : decode cX7_quiet 11 = .ok (.getfield 228, 3) := by decide +kernel
theorem dX7_quiet_14 : decode cX7_quiet 14 = .ok (.isub, 1) := by decide +kernel
theorem dX7_quiet_15 : decode cX7_quiet 15 = .ok (.ireturn, 1) := by decide +kernel
theorem dX7_works_0 : decode cX7_works 0 = .ok (.iload_n 1, 1) := by decide +kernel
theorem dX7_works_1 : decode cX7_works 1 = .ok (.invokestatic 131, 3) := by decide +kernel
theorem dX7_works_4 : decode cX7_works 4 = .ok (.aload_n 0, 1) := by decide +kernel
theorem dX7_works_5 : decode cX7_works 5 = .ok (.invokevirtual 110, 3) := by decide +kernel
theorem dX7_works_8 : decode cX7_works 8 = .ok (.aload_n 0, 1) := by decide +kernel
theorem dX7_works_9 : decode cX7_works 9 = .ok (.iload_n 1, 1) := by decide +kernel
theorem dX7_works_10 : decode cX7_works 10 = .ok (.invokevirtual 231, 3) := by decide +kernel
theorem dX7_works_13 : decode cX7_works 13 = .ok (.ifCond .lt 7, 3) := by decide +kernel
theorem dX7_works_16 : decode cX7_works 16 = .ok (.iconst 1, 1) := by decide +kernel
theorem dX7_works_17 : decode cX7_works 17 = .ok (.goto 4, 3) := by decide +kernel
theorem dX7_works_20 : decode cX7_works 20 = .ok (.iconst 0, 1) := by decide +kernel
theorem dX7_works_21 : decode cX7_works 21 = .ok (.ireturn, 1) := by decide +kernel
theorem dX7_cycleTime_0 : decode cX7_cycleTime 0 = .ok (.iload_n 1, 1) := by decide +kernel
theorem dX7_cycleTime_1 : decode cX7_cycleTime 1 = .ok (.invokestatic 131, 3) := by decide +kernel
theorem dX7_cycleTime_4 : decode cX7_cycleTime 4 = .ok (.aload_n 0, 1) := by decide +kernel
theorem dX7_cycleTime_5 : decode cX7_cycleTime 5 = .ok (.invokevirtual 110, 3) := by decide +kernel
theorem dX7_cycleTime_8 : decode cX7_cycleTime 8 = .ok (.aload_n 0, 1) := by decide +kernel
theorem dX7_cycleTime_9 : decode cX7_cycleTime 9 = .ok (.iload_n 1, 1) := by decide +kernel
theorem dX7_cycleTime_10 : decode cX7_cycleTime 10 = .ok (.invokevirtual 231, 3) := by decide +kernel
theorem dX7_cycleTime_13 : decode cX7_cycleTime 13 = .ok (.ireturn, 1) := by decide +kernel
theorem dX7_cheapest_0 : decode cX7_cheapest 0 = .ok (.aload_n 0, 1) := by decide +kernel
theorem dX7_cheapest_1 : decode cX7_cheapest 1 = .ok (.invokevirtual 110, 3) := by decide +kernel
theorem dX7_cheapest_4 : decode cX7_cheapest 4 = .ok (.iconst (-1), 1) := by decide +kernel
theorem dX7_cheapest_5 : decode cX7_cheapest 5 = .ok (.istore_n 1, 1) := by decide +kernel
theorem dX7_cheapest_6 : decode cX7_cheapest 6 = .ok (.iconst 0, 1) := by decide +kernel
theorem dX7_cheapest_7 : decode cX7_cheapest 7 = .ok (.istore_n 2, 1) := by decide +kernel
theorem dX7_cheapest_8 : decode cX7_cheapest 8 = .ok (.iconst 0, 1) := by decide +kernel
theorem dX7_cheapest_9 : decode cX7_cheapest 9 = .ok (.istore_n 3, 1) := by decide +kernel
theorem dX7_cheapest_10 : decode cX7_cheapest 10 = .ok (.iload_n 3, 1) := by decide +kernel
theorem dX7_cheapest_11 : decode cX7_cheapest 11 = .ok (.iconst 3, 1) := by decide +kernel
theorem dX7_cheapest_12 : decode cX7_cheapest 12 = .ok (.if_icmp .ge 39, 3) := by decide +kernel
theorem dX7_cheapest_15 : decode cX7_cheapest 15 = .ok (.aload_n 0, 1) := by decide +kernel
theorem dX7_cheapest_16 : decode cX7_cheapest 16 = .ok (.iload_n 3, 1) := by decide +kernel
theorem dX7_cheapest_17 : decode cX7_cheapest 17 = .ok (.invokevirtual 134, 3) := by decide +kernel
theorem dX7_cheapest_20 : decode cX7_cheapest 20 = .ok (.istore 4, 2) := by decide +kernel
theorem dX7_cheapest_22 : decode cX7_cheapest 22 = .ok (.iload_n 1, 1) := by decide +kernel
theorem dX7_cheapest_23 : decode cX7_cheapest 23 = .ok (.ifCond .lt 9, 3) := by decide +kernel
theorem dX7_cheapest_26 : decode cX7_cheapest 26 = .ok (.iload 4, 2) := by decide +kernel
theorem dX7_cheapest_28 : decode cX7_cheapest 28 = .ok (.iload_n 2, 1) := by decide +kernel
theorem dX7_cheapest_29 : decode cX7_cheapest 29 = .ok (.if_icmp .ge 16, 3) := by decide +kernel
theorem dX7_cheapest_32 : decode cX7_cheapest 32 = .ok (.aload_n 0, 1) := by decide +kernel
theorem dX7_cheapest_33 : decode cX7_cheapest 33 = .ok (.iload_n 3, 1) := by decide +kernel
theorem dX7_cheapest_34 : decode cX7_cheapest 34 = .ok (.invokevirtual 231, 3) := by decide +kernel
theorem dX7_cheapest_37 : decode cX7_cheapest 37 = .ok (.ifCond .lt 8, 3) := by decide +kernel
theorem dX7_cheapest_40 : decode cX7_cheapest 40 = .ok (.iload_n 3, 1) := by decide +kernel
theorem dX7_cheapest_41 : decode cX7_cheapest 41 = .ok (.istore_n 1, 1) := by decide +kernel
theorem dX7_cheapest_42 : decode cX7_cheapest 42 = .ok (.iload 4, 2) := by decide +kernel
theorem dX7_cheapest_44 : decode cX7_cheapest 44 = .ok (.istore_n 2, 1) := by decide +kernel
theorem dX7_cheapest_45 : decode cX7_cheapest 45 = .ok (.iinc 3 1, 3) := by decide +kernel
theorem dX7_cheapest_48 : decode cX7_cheapest 48 = .ok (.goto (-38), 3) := by decide +kernel
theorem dX7_cheapest_51 : decode cX7_cheapest 51 = .ok (.iload_n 1, 1) := by decide +kernel
theorem dX7_cheapest_52 : decode cX7_cheapest 52 = .ok (.ireturn, 1) := by decide +kernel
theorem dX7_effect_0 : decode cX7_effect 0 = .ok (.iload_n 1, 1) := by decide +kernel
theorem dX7_effect_1 : decode cX7_effect 1 = .ok (.invokestatic 93, 3) := by decide +kernel
theorem dX7_effect_4 : decode cX7_effect 4 = .ok (.iload_n 2, 1) := by decide +kernel
theorem dX7_effect_5 : decode cX7_effect 5 = .ok (.invokestatic 155, 3) := by decide +kernel
theorem dX7_effect_8 : decode cX7_effect 8 = .ok (.iload_n 3, 1) := by decide +kernel
theorem dX7_effect_9 : decode cX7_effect 9 = .ok (.ifCond .lt 10, 3) := by decide +kernel
theorem dX7_effect_12 : decode cX7_effect 12 = .ok (.iload_n 3, 1) := by decide +kernel
theorem dX7_effect_13 : decode cX7_effect 13 = .ok (.sipush 2000, 3) := by decide +kernel
theorem dX7_effect_16 : decode cX7_effect 16 = .ok (.if_icmp .le 13, 3) := by decide +kernel
theorem dX7_effect_19 : decode cX7_effect 19 = .ok (.new 46, 3) := by decide +kernel
theorem dX7_effect_22 : decode cX7_effect 22 = .ok (.dup, 1) := by decide +kernel
theorem dX7_effect_23 : decode cX7_effect 23 = .ok (.ldc 234, 2) := by decide +kernel
theorem dX7_effect_25 : decode cX7_effect 25 = .ok (.invokespecial 50, 3) := by decide +kernel
theorem dX7_effect_28 : decode cX7_effect 28 = .ok (.athrow, 1) := by decide +kernel
theorem dX7_effect_29 : decode cX7_effect 29 = .ok (.aload_n 0, 1) := by decide +kernel
theorem dX7_effect_30 : decode cX7_effect 30 = .ok (.invokevirtual 110, 3) := by decide +kernel
theorem dX7_effect_33 : decode cX7_effect 33 = .ok (.aload_n 0, 1) := by decide +kernel
theorem dX7_effect_34 : decode cX7_effect 34 = .ok (.getfield 28, 3) := by decide +kernel
theorem dX7_effect_37 : decode cX7_effect 37 = .ok (.aload_n 0, 1) := by decide +kernel
theorem dX7_effect_38 : decode cX7_effect 38 = .ok (.getfield 24, 3) := by decide +kernel
theorem dX7_effect_41 : decode cX7_effect 41 = .ok (.aload_n 0, 1) := by decide +kernel
theorem dX7_effect_42 : decode cX7_effect 42 = .ok (.getfield 24, 3) := by decide +kernel
