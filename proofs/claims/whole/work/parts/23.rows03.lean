theorem dX8_clashOf_32 : decode cX8_clashOf 32 = .ok (.iaload, 1) := by decide +kernel
theorem dX8_clashOf_33 : decode cX8_clashOf 33 = .ok (.ifCond .ne 33, 3) := by decide +kernel
theorem dX8_clashOf_36 : decode cX8_clashOf 36 = .ok (.aload_n 0, 1) := by decide +kernel
theorem dX8_clashOf_37 : decode cX8_clashOf 37 = .ok (.getfield 19, 3) := by decide +kernel
theorem dX8_clashOf_40 : decode cX8_clashOf 40 = .ok (.iload 5, 2) := by decide +kernel
theorem dX8_clashOf_42 : decode cX8_clashOf 42 = .ok (.iaload, 1) := by decide +kernel
theorem dX8_clashOf_43 : decode cX8_clashOf 43 = .ok (.iload_n 3, 1) := by decide +kernel
theorem dX8_clashOf_44 : decode cX8_clashOf 44 = .ok (.iconst (-1), 1) := by decide +kernel
theorem dX8_clashOf_45 : decode cX8_clashOf 45 = .ok (.ixor, 1) := by decide +kernel
theorem dX8_clashOf_46 : decode cX8_clashOf 46 = .ok (.iand, 1) := by decide +kernel
theorem dX8_clashOf_47 : decode cX8_clashOf 47 = .ok (.ifCond .ne 19, 3) := by decide +kernel
theorem dX8_clashOf_50 : decode cX8_clashOf 50 = .ok (.aload_n 0, 1) := by decide +kernel
theorem dX8_clashOf_51 : decode cX8_clashOf 51 = .ok (.getfield 22, 3) := by decide +kernel
theorem dX8_clashOf_54 : decode cX8_clashOf 54 = .ok (.iload 5, 2) := by decide +kernel
theorem dX8_clashOf_56 : decode cX8_clashOf 56 = .ok (.iaload, 1) := by decide +kernel
theorem dX8_clashOf_57 : decode cX8_clashOf 57 = .ok (.iload_n 3, 1) := by decide +kernel
theorem dX8_clashOf_58 : decode cX8_clashOf 58 = .ok (.iand, 1) := by decide +kernel
theorem dX8_clashOf_59 : decode cX8_clashOf 59 = .ok (.ifCond .ne 7, 3) := by decide +kernel
theorem dX8_clashOf_62 : decode cX8_clashOf 62 = .ok (.iconst 1, 1) := by decide +kernel
theorem dX8_clashOf_63 : decode cX8_clashOf 63 = .ok (.goto 4, 3) := by decide +kernel
theorem dX8_clashOf_66 : decode cX8_clashOf 66 = .ok (.iconst 0, 1) := by decide +kernel
theorem dX8_clashOf_67 : decode cX8_clashOf 67 = .ok (.istore 6, 2) := by decide +kernel
theorem dX8_clashOf_69 : decode cX8_clashOf 69 = .ok (.aload_n 0, 1) := by decide +kernel
theorem dX8_clashOf_70 : decode cX8_clashOf 70 = .ok (.iload 4, 2) := by decide +kernel
theorem dX8_clashOf_72 : decode cX8_clashOf 72 = .ok (.iload_n 2, 1) := by decide +kernel
theorem dX8_clashOf_73 : decode cX8_clashOf 73 = .ok (.invokevirtual 113, 3) := by decide +kernel
theorem dX8_clashOf_76 : decode cX8_clashOf 76 = .ok (.aload_n 0, 1) := by decide +kernel
theorem dX8_clashOf_77 : decode cX8_clashOf 77 = .ok (.iload_n 1, 1) := by decide +kernel
theorem dX8_clashOf_78 : decode cX8_clashOf 78 = .ok (.iload_n 2, 1) := by decide +kernel
theorem dX8_clashOf_79 : decode cX8_clashOf 79 = .ok (.invokevirtual 113, 3) := by decide +kernel
theorem dX8_clashOf_82 : decode cX8_clashOf 82 = .ok (.ineg, 1) := by decide +kernel
theorem dX8_clashOf_83 : decode cX8_clashOf 83 = .ok (.if_icmp .ne 20, 3) := by decide +kernel
theorem dX8_clashOf_86 : decode cX8_clashOf 86 = .ok (.aload_n 0, 1) := by decide +kernel
theorem dX8_clashOf_87 : decode cX8_clashOf 87 = .ok (.iload_n 1, 1) := by decide +kernel
theorem dX8_clashOf_88 : decode cX8_clashOf 88 = .ok (.iload_n 2, 1) := by decide +kernel
theorem dX8_clashOf_89 : decode cX8_clashOf 89 = .ok (.invokevirtual 113, 3) := by decide +kernel
theorem dX8_clashOf_92 : decode cX8_clashOf 92 = .ok (.ifCond .eq 11, 3) := by decide +kernel
theorem dX8_clashOf_95 : decode cX8_clashOf 95 = .ok (.iload 6, 2) := by decide +kernel
theorem dX8_clashOf_97 : decode cX8_clashOf 97 = .ok (.ifCond .eq 6, 3) := by decide +kernel
theorem dX8_clashOf_100 : decode cX8_clashOf 100 = .ok (.iload 4, 2) := by decide +kernel
theorem dX8_clashOf_102 : decode cX8_clashOf 102 = .ok (.ireturn, 1) := by decide +kernel
theorem dX8_clashOf_103 : decode cX8_clashOf 103 = .ok (.iinc 4 1, 3) := by decide +kernel
theorem dX8_clashOf_106 : decode cX8_clashOf 106 = .ok (.goto (-97), 3) := by decide +kernel
theorem dX8_clashOf_109 : decode cX8_clashOf 109 = .ok (.iconst (-1), 1) := by decide +kernel
theorem dX8_clashOf_110 : decode cX8_clashOf 110 = .ok (.ireturn, 1) := by decide +kernel
theorem dX8_clashes_0 : decode cX8_clashes 0 = .ok (.aload_n 0, 1) := by decide +kernel
theorem dX8_clashes_1 : decode cX8_clashes 1 = .ok (.iconst 0, 1) := by decide +kernel
theorem dX8_clashes_2 : decode cX8_clashes 2 = .ok (.putfield 47, 3) := by decide +kernel
theorem dX8_clashes_5 : decode cX8_clashes 5 = .ok (.aload_n 0, 1) := by decide +kernel
theorem dX8_clashes_6 : decode cX8_clashes 6 = .ok (.getfield 104, 3) := by decide +kernel
theorem dX8_clashes_9 : decode cX8_clashes 9 = .ok (.ifCond .ne 9, 3) := by decide +kernel
theorem dX8_clashes_12 : decode cX8_clashes 12 = .ok (.aload_n 0, 1) := by decide +kernel
theorem dX8_clashes_13 : decode cX8_clashes 13 = .ok (.iconst 1, 1) := by decide +kernel
theorem dX8_clashes_14 : decode cX8_clashes 14 = .ok (.invokevirtual 55, 3) := by decide +kernel
theorem dX8_clashes_17 : decode cX8_clashes 17 = .ok (.ireturn, 1) := by decide +kernel
theorem dX8_clashes_18 : decode cX8_clashes 18 = .ok (.iconst 0, 1) := by decide +kernel
theorem dX8_clashes_19 : decode cX8_clashes 19 = .ok (.istore_n 1, 1) := by decide +kernel
theorem dX8_clashes_20 : decode cX8_clashes 20 = .ok (.iconst 0, 1) := by decide +kernel
theorem dX8_clashes_21 : decode cX8_clashes 21 = .ok (.istore_n 2, 1) := by decide +kernel
theorem dX8_clashes_22 : decode cX8_clashes 22 = .ok (.iload_n 2, 1) := by decide +kernel
theorem dX8_clashes_23 : decode cX8_clashes 23 = .ok (.aload_n 0, 1) := by decide +kernel
theorem dX8_clashes_24 : decode cX8_clashes 24 = .ok (.getfield 104, 3) := by decide +kernel
theorem dX8_clashes_27 : decode cX8_clashes 27 = .ok (.if_icmp .ge 40, 3) := by decide +kernel
theorem dX8_clashes_30 : decode cX8_clashes 30 = .ok (.iconst 0, 1) := by decide +kernel
theorem dX8_clashes_31 : decode cX8_clashes 31 = .ok (.istore_n 3, 1) := by decide +kernel
theorem dX8_clashes_32 : decode cX8_clashes 32 = .ok (.iload_n 3, 1) := by decide +kernel
theorem dX8_clashes_33 : decode cX8_clashes 33 = .ok (.bipush 6, 2) := by decide +kernel
theorem dX8_clashes_35 : decode cX8_clashes 35 = .ok (.if_icmp .ge 26, 3) := by decide +kernel
theorem dX8_clashes_38 : decode cX8_clashes 38 = .ok (.iload_n 1, 1) := by decide +kernel
theorem dX8_clashes_39 : decode cX8_clashes 39 = .ok (.aload_n 0, 1) := by decide +kernel
theorem dX8_clashes_40 : decode cX8_clashes 40 = .ok (.iload_n 2, 1) := by decide +kernel
theorem dX8_clashes_41 : decode cX8_clashes 41 = .ok (.iload_n 3, 1) := by decide +kernel
theorem dX8_clashes_42 : decode cX8_clashes 42 = .ok (.invokevirtual 123, 3) := by decide +kernel
theorem dX8_clashes_45 : decode cX8_clashes 45 = .ok (.ifCond .lt 7, 3) := by decide +kernel
theorem dX8_clashes_48 : decode cX8_clashes 48 = .ok (.iconst 1, 1) := by decide +kernel
theorem dX8_clashes_49 : decode cX8_clashes 49 = .ok (.goto 4, 3) := by decide +kernel
theorem dX8_clashes_52 : decode cX8_clashes 52 = .ok (.iconst 0, 1) := by decide +kernel
theorem dX8_clashes_53 : decode cX8_clashes 53 = .ok (.iadd, 1) := by decide +kernel
theorem dX8_clashes_54 : decode cX8_clashes 54 = .ok (.istore_n 1, 1) := by decide +kernel
theorem dX8_clashes_55 : decode cX8_clashes 55 = .ok (.iinc 3 1, 3) := by decide +kernel
theorem dX8_clashes_58 : decode cX8_clashes 58 = .ok (.goto (-26), 3) := by decide +kernel
theorem dX8_clashes_61 : decode cX8_clashes 61 = .ok (.iinc 2 1, 3) := by decide +kernel
theorem dX8_clashes_64 : decode cX8_clashes 64 = .ok (.goto (-42), 3) := by decide +kernel
theorem dX8_clashes_67 : decode cX8_clashes 67 = .ok (.iload_n 1, 1) := by decide +kernel
theorem dX8_clashes_68 : decode cX8_clashes 68 = .ok (.ireturn, 1) := by decide +kernel
theorem dX8_clash_0 : decode cX8_clash 0 = .ok (.aload_n 0, 1) := by decide +kernel
theorem dX8_clash_1 : decode cX8_clash 1 = .ok (.iconst 0, 1) := by decide +kernel
theorem dX8_clash_2 : decode cX8_clash 2 = .ok (.putfield 47, 3) := by decide +kernel
theorem dX8_clash_5 : decode cX8_clash 5 = .ok (.aload_n 0, 1) := by decide +kernel
theorem dX8_clash_6 : decode cX8_clash 6 = .ok (.iload_n 1, 1) := by decide +kernel
theorem dX8_clash_7 : decode cX8_clash 7 = .ok (.invokevirtual 110, 3) := by decide +kernel
theorem dX8_clash_10 : decode cX8_clash 10 = .ok (.ifCond .eq 21, 3) := by decide +kernel
theorem dX8_clash_13 : decode cX8_clash 13 = .ok (.iload_n 2, 1) := by decide +kernel
theorem dX8_clash_14 : decode cX8_clash 14 = .ok (.iconst 0, 1) := by decide +kernel
theorem dX8_clash_15 : decode cX8_clash 15 = .ok (.iconst 5, 1) := by decide +kernel
theorem dX8_clash_16 : decode cX8_clash 16 = .ok (.invokestatic 51, 3) := by decide +kernel
theorem dX8_clash_19 : decode cX8_clash 19 = .ok (.ifCond .eq 12, 3) := by decide +kernel
theorem dX8_clash_22 : decode cX8_clash 22 = .ok (.aload_n 0, 1) := by decide +kernel
theorem dX8_clash_23 : decode cX8_clash 23 = .ok (.iload_n 1, 1) := by decide +kernel
theorem dX8_clash_24 : decode cX8_clash 24 = .ok (.iload_n 2, 1) := by decide +kernel
theorem dX8_clash_25 : decode cX8_clash 25 = .ok (.invokevirtual 123, 3) := by decide +kernel
theorem dX8_clash_28 : decode cX8_clash 28 = .ok (.goto 8, 3) := by decide +kernel
theorem dX8_clash_31 : decode cX8_clash 31 = .ok (.aload_n 0, 1) := by decide +kernel
theorem dX8_clash_32 : decode cX8_clash 32 = .ok (.iconst 1, 1) := by decide +kernel
theorem dX8_clash_33 : decode cX8_clash 33 = .ok (.invokevirtual 55, 3) := by decide +kernel
theorem dX8_clash_36 : decode cX8_clash 36 = .ok (.ireturn, 1) := by decide +kernel
theorem dX8_countOf_0 : decode cX8_countOf 0 = .ok (.iconst 0, 1) := by decide +kernel
theorem dX8_countOf_1 : decode cX8_countOf 1 = .ok (.istore_n 1, 1) := by decide +kernel
theorem dX8_countOf_2 : decode cX8_countOf 2 = .ok (.iconst 0, 1) := by decide +kernel
theorem dX8_countOf_3 : decode cX8_countOf 3 = .ok (.istore_n 2, 1) := by decide +kernel
theorem dX8_countOf_4 : decode cX8_countOf 4 = .ok (.iload_n 2, 1) := by decide +kernel
theorem dX8_countOf_5 : decode cX8_countOf 5 = .ok (.bipush 16, 2) := by decide +kernel
theorem dX8_countOf_7 : decode cX8_countOf 7 = .ok (.if_icmp .ge 17, 3) := by decide +kernel
theorem dX8_countOf_10 : decode cX8_countOf 10 = .ok (.iload_n 1, 1) := by decide +kernel
theorem dX8_countOf_11 : decode cX8_countOf 11 = .ok (.iload_n 0, 1) := by decide +kernel
theorem dX8_countOf_12 : decode cX8_countOf 12 = .ok (.iload_n 2, 1) := by decide +kernel
theorem dX8_countOf_13 : decode cX8_countOf 13 = .ok (.ishr, 1) := by decide +kernel
theorem dX8_countOf_14 : decode cX8_countOf 14 = .ok (.iconst 1, 1) := by decide +kernel
theorem dX8_countOf_15 : decode cX8_countOf 15 = .ok (.iand, 1) := by decide +kernel
theorem dX8_countOf_16 : decode cX8_countOf 16 = .ok (.iadd, 1) := by decide +kernel
theorem dX8_countOf_17 : decode cX8_countOf 17 = .ok (.istore_n 1, 1) := by decide +kernel
theorem dX8_countOf_18 : decode cX8_countOf 18 = .ok (.iinc 2 1, 3) := by decide +kernel
theorem dX8_countOf_21 : decode cX8_countOf 21 = .ok (.goto (-17), 3) := by decide +kernel
theorem dX8_countOf_24 : decode cX8_countOf 24 = .ok (.iload_n 1, 1) := by decide +kernel
theorem dX8_countOf_25 : decode cX8_countOf 25 = .ok (.ireturn, 1) := by decide +kernel
theorem dX8_areGroups_0 : decode cX8_areGroups 0 = .ok (.iconst 0, 1) := by decide +kernel
theorem dX8_areGroups_1 : decode cX8_areGroups 1 = .ok (.istore_n 2, 1) := by decide +kernel
theorem dX8_areGroups_2 : decode cX8_areGroups 2 = .ok (.iload_n 1, 1) := by decide +kernel
theorem dX8_areGroups_3 : decode cX8_areGroups 3 = .ok (.iload_n 2, 1) := by decide +kernel
theorem dX8_areGroups_4 : decode cX8_areGroups 4 = .ok (.ishr, 1) := by decide +kernel
theorem dX8_areGroups_5 : decode cX8_areGroups 5 = .ok (.iconst 1, 1) := by decide +kernel
theorem dX8_areGroups_6 : decode cX8_areGroups 6 = .ok (.iand, 1) := by decide +kernel
theorem dX8_areGroups_7 : decode cX8_areGroups 7 = .ok (.ifCond .ne 9, 3) := by decide +kernel
theorem dX8_areGroups_10 : decode cX8_areGroups 10 = .ok (.iinc 2 1, 3) := by decide +kernel
theorem dX8_areGroups_13 : decode cX8_areGroups 13 = .ok (.goto (-11), 3) := by decide +kernel
theorem dX8_areGroups_16 : decode cX8_areGroups 16 = .ok (.iconst 0, 1) := by decide +kernel
theorem dX8_areGroups_17 : decode cX8_areGroups 17 = .ok (.istore_n 3, 1) := by decide +kernel
theorem dX8_areGroups_18 : decode cX8_areGroups 18 = .ok (.iconst 0, 1) := by decide +kernel
theorem dX8_areGroups_19 : decode cX8_areGroups 19 = .ok (.istore 4, 2) := by decide +kernel
theorem dX8_areGroups_21 : decode cX8_areGroups 21 = .ok (.iload 4, 2) := by decide +kernel
theorem dX8_areGroups_23 : decode cX8_areGroups 23 = .ok (.aload_n 0, 1) := by decide +kernel
theorem dX8_areGroups_24 : decode cX8_areGroups 24 = .ok (.getfield 104, 3) := by decide +kernel
theorem dX8_areGroups_27 : decode cX8_areGroups 27 = .ok (.if_icmp .ge 67, 3) := by decide +kernel
theorem dX8_areGroups_30 : decode cX8_areGroups 30 = .ok (.iload_n 2, 1) := by decide +kernel
theorem dX8_areGroups_31 : decode cX8_areGroups 31 = .ok (.iload 4, 2) := by decide +kernel
theorem dX8_areGroups_33 : decode cX8_areGroups 33 = .ok (.iadd, 1) := by decide +kernel
theorem dX8_areGroups_34 : decode cX8_areGroups 34 = .ok (.aload_n 0, 1) := by decide +kernel
theorem dX8_areGroups_35 : decode cX8_areGroups 35 = .ok (.getfield 104, 3) := by decide +kernel
theorem dX8_areGroups_38 : decode cX8_areGroups 38 = .ok (.irem, 1) := by decide +kernel
theorem dX8_areGroups_39 : decode cX8_areGroups 39 = .ok (.istore 5, 2) := by decide +kernel
theorem dX8_areGroups_41 : decode cX8_areGroups 41 = .ok (.iload_n 1, 1) := by decide +kernel
theorem dX8_areGroups_42 : decode cX8_areGroups 42 = .ok (.iload 5, 2) := by decide +kernel
theorem dX8_areGroups_44 : decode cX8_areGroups 44 = .ok (.ishr, 1) := by decide +kernel
theorem dX8_areGroups_45 : decode cX8_areGroups 45 = .ok (.iconst 1, 1) := by decide +kernel
theorem dX8_areGroups_46 : decode cX8_areGroups 46 = .ok (.iand, 1) := by decide +kernel
theorem dX8_areGroups_47 : decode cX8_areGroups 47 = .ok (.iconst 1, 1) := by decide +kernel
theorem dX8_areGroups_48 : decode cX8_areGroups 48 = .ok (.if_icmp .ne 7, 3) := by decide +kernel
theorem dX8_areGroups_51 : decode cX8_areGroups 51 = .ok (.iconst 0, 1) := by decide +kernel
theorem dX8_areGroups_52 : decode cX8_areGroups 52 = .ok (.goto 4, 3) := by decide +kernel
theorem dX8_areGroups_55 : decode cX8_areGroups 55 = .ok (.iload_n 3, 1) := by decide +kernel
theorem dX8_areGroups_56 : decode cX8_areGroups 56 = .ok (.istore_n 3, 1) := by decide +kernel
theorem dX8_areGroups_57 : decode cX8_areGroups 57 = .ok (.aload_n 0, 1) := by decide +kernel
theorem dX8_areGroups_58 : decode cX8_areGroups 58 = .ok (.getfield 19, 3) := by decide +kernel
theorem dX8_areGroups_61 : decode cX8_areGroups 61 = .ok (.iload 5, 2) := by decide +kernel
theorem dX8_areGroups_63 : decode cX8_areGroups 63 = .ok (.iaload, 1) := by decide +kernel
theorem dX8_areGroups_64 : decode cX8_areGroups 64 = .ok (.aload_n 0, 1) := by decide +kernel
theorem dX8_areGroups_65 : decode cX8_areGroups 65 = .ok (.getfield 22, 3) := by decide +kernel
theorem dX8_areGroups_68 : decode cX8_areGroups 68 = .ok (.iload 5, 2) := by decide +kernel
theorem dX8_areGroups_70 : decode cX8_areGroups 70 = .ok (.iaload, 1) := by decide +kernel
theorem dX8_areGroups_71 : decode cX8_areGroups 71 = .ok (.ior, 1) := by decide +kernel
theorem dX8_areGroups_72 : decode cX8_areGroups 72 = .ok (.istore 6, 2) := by decide +kernel
theorem dX8_areGroups_74 : decode cX8_areGroups 74 = .ok (.iload_n 3, 1) := by decide +kernel
theorem dX8_areGroups_75 : decode cX8_areGroups 75 = .ok (.iload 6, 2) := by decide +kernel
theorem dX8_areGroups_77 : decode cX8_areGroups 77 = .ok (.iand, 1) := by decide +kernel
theorem dX8_areGroups_78 : decode cX8_areGroups 78 = .ok (.ifCond .eq 5, 3) := by decide +kernel
theorem dX8_areGroups_81 : decode cX8_areGroups 81 = .ok (.iconst 0, 1) := by decide +kernel
theorem dX8_areGroups_82 : decode cX8_areGroups 82 = .ok (.ireturn, 1) := by decide +kernel
theorem dX8_areGroups_83 : decode cX8_areGroups 83 = .ok (.iload_n 3, 1) := by decide +kernel
theorem dX8_areGroups_84 : decode cX8_areGroups 84 = .ok (.iload 6, 2) := by decide +kernel
theorem dX8_areGroups_86 : decode cX8_areGroups 86 = .ok (.ior, 1) := by decide +kernel
theorem dX8_areGroups_87 : decode cX8_areGroups 87 = .ok (.istore_n 3, 1) := by decide +kernel
theorem dX8_areGroups_88 : decode cX8_areGroups 88 = .ok (.iinc 4 1, 3) := by decide +kernel
theorem dX8_areGroups_91 : decode cX8_areGroups 91 = .ok (.goto (-70), 3) := by decide +kernel
theorem dX8_areGroups_94 : decode cX8_areGroups 94 = .ok (.iconst 1, 1) := by decide +kernel
theorem dX8_areGroups_95 : decode cX8_areGroups 95 = .ok (.ireturn, 1) := by decide +kernel
theorem dX8_isAhead_0 : decode cX8_isAhead 0 = .ok (.iload_n 0, 1) := by decide +kernel
theorem dX8_isAhead_1 : decode cX8_isAhead 1 = .ok (.iload_n 1, 1) := by decide +kernel
theorem dX8_isAhead_2 : decode cX8_isAhead 2 = .ok (.ixor, 1) := by decide +kernel
theorem dX8_isAhead_3 : decode cX8_isAhead 3 = .ok (.istore_n 2, 1) := by decide +kernel
theorem dX8_isAhead_4 : decode cX8_isAhead 4 = .ok (.iload_n 2, 1) := by decide +kernel
theorem dX8_isAhead_5 : decode cX8_isAhead 5 = .ok (.ifCond .eq 16, 3) := by decide +kernel
theorem dX8_isAhead_8 : decode cX8_isAhead 8 = .ok (.iload_n 0, 1) := by decide +kernel
theorem dX8_isAhead_9 : decode cX8_isAhead 9 = .ok (.iload_n 2, 1) := by decide +kernel
theorem dX8_isAhead_10 : decode cX8_isAhead 10 = .ok (.iand, 1) := by decide +kernel
theorem dX8_isAhead_11 : decode cX8_isAhead 11 = .ok (.iload_n 2, 1) := by decide +kernel
theorem dX8_isAhead_12 : decode cX8_isAhead 12 = .ok (.ineg, 1) := by decide +kernel
theorem dX8_isAhead_13 : decode cX8_isAhead 13 = .ok (.iand, 1) := by decide +kernel
theorem dX8_isAhead_14 : decode cX8_isAhead 14 = .ok (.ifCond .eq 7, 3) := by decide +kernel
theorem dX8_isAhead_17 : decode cX8_isAhead 17 = .ok (.iconst 1, 1) := by decide +kernel
theorem dX8_isAhead_18 : decode cX8_isAhead 18 = .ok (.goto 4, 3) := by decide +kernel
theorem dX8_isAhead_21 : decode cX8_isAhead 21 = .ok (.iconst 0, 1) := by decide +kernel
theorem dX8_isAhead_22 : decode cX8_isAhead 22 = .ok (.ireturn, 1) := by decide +kernel
theorem dX8_divides_0 : decode cX8_divides 0 = .ok (.iconst 0, 1) := by decide +kernel
theorem dX8_divides_1 : decode cX8_divides 1 = .ok (.istore_n 1, 1) := by decide +kernel
theorem dX8_divides_2 : decode cX8_divides 2 = .ok (.bipush 17, 2) := by decide +kernel
theorem dX8_divides_4 : decode cX8_divides 4 = .ok (.istore_n 2, 1) := by decide +kernel
theorem dX8_divides_5 : decode cX8_divides 5 = .ok (.iconst 1, 1) := by decide +kernel
theorem dX8_divides_6 : decode cX8_divides 6 = .ok (.istore_n 3, 1) := by decide +kernel
theorem dX8_divides_7 : decode cX8_divides 7 = .ok (.iload_n 3, 1) := by decide +kernel
theorem dX8_divides_8 : decode cX8_divides 8 = .ok (.iconst 1, 1) := by decide +kernel
theorem dX8_divides_9 : decode cX8_divides 9 = .ok (.aload_n 0, 1) := by decide +kernel
theorem dX8_divides_10 : decode cX8_divides 10 = .ok (.getfield 104, 3) := by decide +kernel
theorem dX8_divides_13 : decode cX8_divides 13 = .ok (.ishl, 1) := by decide +kernel
theorem dX8_divides_14 : decode cX8_divides 14 = .ok (.if_icmp .ge 48, 3) := by decide +kernel
theorem dX8_divides_17 : decode cX8_divides 17 = .ok (.iload_n 3, 1) := by decide +kernel
theorem dX8_divides_18 : decode cX8_divides 18 = .ok (.invokestatic 126, 3) := by decide +kernel
theorem dX8_divides_21 : decode cX8_divides 21 = .ok (.istore 4, 2) := by decide +kernel
theorem dX8_divides_23 : decode cX8_divides 23 = .ok (.iload 4, 2) := by decide +kernel
theorem dX8_divides_25 : decode cX8_divides 25 = .ok (.iload_n 2, 1) := by decide +kernel
theorem dX8_divides_26 : decode cX8_divides 26 = .ok (.if_icmp .lt 17, 3) := by decide +kernel
theorem dX8_divides_29 : decode cX8_divides 29 = .ok (.iload 4, 2) := by decide +kernel
theorem dX8_divides_31 : decode cX8_divides 31 = .ok (.iload_n 2, 1) := by decide +kernel
theorem dX8_divides_32 : decode cX8_divides 32 = .ok (.if_icmp .ne 24, 3) := by decide +kernel
theorem dX8_divides_35 : decode cX8_divides 35 = .ok (.iload_n 3, 1) := by decide +kernel
theorem dX8_divides_36 : decode cX8_divides 36 = .ok (.iload_n 1, 1) := by decide +kernel
theorem dX8_divides_37 : decode cX8_divides 37 = .ok (.invokestatic 129, 3) := by decide +kernel
theorem dX8_divides_40 : decode cX8_divides 40 = .ok (.ifCond .eq 16, 3) := by decide +kernel
theorem dX8_divides_43 : decode cX8_divides 43 = .ok (.aload_n 0, 1) := by decide +kernel
theorem dX8_divides_44 : decode cX8_divides 44 = .ok (.iload_n 3, 1) := by decide +kernel
theorem dX8_divides_45 : decode cX8_divides 45 = .ok (.invokevirtual 133, 3) := by decide +kernel
theorem dX8_divides_48 : decode cX8_divides 48 = .ok (.ifCond .eq 8, 3) := by decide +kernel
theorem dX8_divides_51 : decode cX8_divides 51 = .ok (.iload_n 3, 1) := by decide +kernel
theorem dX8_divides_52 : decode cX8_divides 52 = .ok (.istore_n 1, 1) := by decide +kernel
theorem dX8_divides_53 : decode cX8_divides 53 = .ok (.iload 4, 2) := by decide +kernel
theorem dX8_divides_55 : decode cX8_divides 55 = .ok (.istore_n 2, 1) := by decide +kernel
theorem dX8_divides_56 : decode cX8_divides 56 = .ok (.iinc 3 1, 3) := by decide +kernel
theorem dX8_divides_59 : decode cX8_divides 59 = .ok (.goto (-52), 3) := by decide +kernel
theorem dX8_divides_62 : decode cX8_divides 62 = .ok (.aload_n 0, 1) := by decide +kernel
theorem dX8_divides_63 : decode cX8_divides 63 = .ok (.iconst 0, 1) := by decide +kernel
theorem dX8_divides_64 : decode cX8_divides 64 = .ok (.putfield 136, 3) := by decide +kernel
theorem dX8_divides_67 : decode cX8_divides 67 = .ok (.iconst 0, 1) := by decide +kernel
theorem dX8_divides_68 : decode cX8_divides 68 = .ok (.istore_n 3, 1) := by decide +kernel
theorem dX8_divides_69 : decode cX8_divides 69 = .ok (.iload_n 3, 1) := by decide +kernel
theorem dX8_divides_70 : decode cX8_divides 70 = .ok (.aload_n 0, 1) := by decide +kernel
theorem dX8_divides_71 : decode cX8_divides 71 = .ok (.getfield 104, 3) := by decide +kernel
theorem dX8_divides_74 : decode cX8_divides 74 = .ok (.if_icmp .ge 38, 3) := by decide +kernel
theorem dX8_divides_77 : decode cX8_divides 77 = .ok (.iload_n 1, 1) := by decide +kernel
theorem dX8_divides_78 : decode cX8_divides 78 = .ok (.iload_n 3, 1) := by decide +kernel
theorem dX8_divides_79 : decode cX8_divides 79 = .ok (.ishr, 1) := by decide +kernel
theorem dX8_divides_80 : decode cX8_divides 80 = .ok (.iconst 1, 1) := by decide +kernel
theorem dX8_divides_81 : decode cX8_divides 81 = .ok (.iand, 1) := by decide +kernel
theorem dX8_divides_82 : decode cX8_divides 82 = .ok (.iconst 1, 1) := by decide +kernel
theorem dX8_divides_83 : decode cX8_divides 83 = .ok (.if_icmp .ne 23, 3) := by decide +kernel
theorem dX8_divides_86 : decode cX8_divides 86 = .ok (.aload_n 0, 1) := by decide +kernel
theorem dX8_divides_87 : decode cX8_divides 87 = .ok (.getfield 28, 3) := by decide +kernel
theorem dX8_divides_90 : decode cX8_divides 90 = .ok (.aload_n 0, 1) := by decide +kernel
theorem dX8_divides_91 : decode cX8_divides 91 = .ok (.getfield 136, 3) := by decide +kernel
theorem dX8_divides_94 : decode cX8_divides 94 = .ok (.iload_n 3, 1) := by decide +kernel
theorem dX8_divides_95 : decode cX8_divides 95 = .ok (.iastore, 1) := by decide +kernel
theorem dX8_divides_96 : decode cX8_divides 96 = .ok (.aload_n 0, 1) := by decide +kernel
theorem dX8_divides_97 : decode cX8_divides 97 = .ok (.dup, 1) := by decide +kernel
theorem dX8_divides_98 : decode cX8_divides 98 = .ok (.getfield 136, 3) := by decide +kernel
theorem dX8_divides_101 : decode cX8_divides 101 = .ok (.iconst 1, 1) := by decide +kernel
theorem dX8_divides_102 : decode cX8_divides 102 = .ok (.iadd, 1) := by decide +kernel
theorem dX8_divides_103 : decode cX8_divides 103 = .ok (.putfield 136, 3) := by decide +kernel
theorem dX8_divides_106 : decode cX8_divides 106 = .ok (.iinc 3 1, 3) := by decide +kernel
theorem dX8_divides_109 : decode cX8_divides 109 = .ok (.goto (-40), 3) := by decide +kernel
theorem dX8_divides_112 : decode cX8_divides 112 = .ok (.return_, 1) := by decide +kernel
theorem dX8_groupFor_0 : decode cX8_groupFor 0 = .ok (.aload_n 0, 1) := by decide +kernel
theorem dX8_groupFor_1 : decode cX8_groupFor 1 = .ok (.getfield 136, 3) := by decide +kernel
theorem dX8_groupFor_4 : decode cX8_groupFor 4 = .ok (.iconst 1, 1) := by decide +kernel
theorem dX8_groupFor_5 : decode cX8_groupFor 5 = .ok (.isub, 1) := by decide +kernel
theorem dX8_groupFor_6 : decode cX8_groupFor 6 = .ok (.istore_n 2, 1) := by decide +kernel
theorem dX8_groupFor_7 : decode cX8_groupFor 7 = .ok (.iconst 0, 1) := by decide +kernel
theorem dX8_groupFor_8 : decode cX8_groupFor 8 = .ok (.istore_n 3, 1) := by decide +kernel
theorem dX8_groupFor_9 : decode cX8_groupFor 9 = .ok (.iload_n 3, 1) := by decide +kernel
theorem dX8_groupFor_10 : decode cX8_groupFor 10 = .ok (.aload_n 0, 1) := by decide +kernel
theorem dX8_groupFor_11 : decode cX8_groupFor 11 = .ok (.getfield 136, 3) := by decide +kernel
theorem dX8_groupFor_14 : decode cX8_groupFor 14 = .ok (.if_icmp .ge 25, 3) := by decide +kernel
theorem dX8_groupFor_17 : decode cX8_groupFor 17 = .ok (.aload_n 0, 1) := by decide +kernel
theorem dX8_groupFor_18 : decode cX8_groupFor 18 = .ok (.getfield 28, 3) := by decide +kernel
theorem dX8_groupFor_21 : decode cX8_groupFor 21 = .ok (.iload_n 3, 1) := by decide +kernel
theorem dX8_groupFor_22 : decode cX8_groupFor 22 = .ok (.iaload, 1) := by decide +kernel
theorem dX8_groupFor_23 : decode cX8_groupFor 23 = .ok (.iload_n 1, 1) := by decide +kernel
theorem dX8_groupFor_24 : decode cX8_groupFor 24 = .ok (.if_icmp .gt 7, 3) := by decide +kernel
theorem dX8_groupFor_27 : decode cX8_groupFor 27 = .ok (.iload_n 3, 1) := by decide +kernel
theorem dX8_groupFor_28 : decode cX8_groupFor 28 = .ok (.goto 4, 3) := by decide +kernel
theorem dX8_groupFor_31 : decode cX8_groupFor 31 = .ok (.iload_n 2, 1) := by decide +kernel
theorem dX8_groupFor_32 : decode cX8_groupFor 32 = .ok (.istore_n 2, 1) := by decide +kernel
theorem dX8_groupFor_33 : decode cX8_groupFor 33 = .ok (.iinc 3 1, 3) := by decide +kernel
theorem dX8_groupFor_36 : decode cX8_groupFor 36 = .ok (.goto (-27), 3) := by decide +kernel
theorem dX8_groupFor_39 : decode cX8_groupFor 39 = .ok (.iload_n 2, 1) := by decide +kernel
theorem dX8_groupFor_40 : decode cX8_groupFor 40 = .ok (.ireturn, 1) := by decide +kernel
theorem dX8_groups_0 : decode cX8_groups 0 = .ok (.aload_n 0, 1) := by decide +kernel
theorem dX8_groups_1 : decode cX8_groups 1 = .ok (.iconst 0, 1) := by decide +kernel
theorem dX8_groups_2 : decode cX8_groups 2 = .ok (.putfield 47, 3) := by decide +kernel
theorem dX8_groups_5 : decode cX8_groups 5 = .ok (.aload_n 0, 1) := by decide +kernel
theorem dX8_groups_6 : decode cX8_groups 6 = .ok (.getfield 104, 3) := by decide +kernel
theorem dX8_groups_9 : decode cX8_groups 9 = .ok (.ifCond .ne 11, 3) := by decide +kernel
theorem dX8_groups_12 : decode cX8_groups 12 = .ok (.aload_n 0, 1) := by decide +kernel
theorem dX8_groups_13 : decode cX8_groups 13 = .ok (.iconst 1, 1) := by decide +kernel
theorem dX8_groups_14 : decode cX8_groups 14 = .ok (.invokevirtual 55, 3) := by decide +kernel
theorem dX8_groups_17 : decode cX8_groups 17 = .ok (.goto 7, 3) := by decide +kernel
theorem dX8_groups_20 : decode cX8_groups 20 = .ok (.aload_n 0, 1) := by decide +kernel
theorem dX8_groups_21 : decode cX8_groups 21 = .ok (.getfield 136, 3) := by decide +kernel
theorem dX8_groups_24 : decode cX8_groups 24 = .ok (.ireturn, 1) := by decide +kernel
theorem dX8_cut_0 : decode cX8_cut 0 = .ok (.aload_n 0, 1) := by decide +kernel
theorem dX8_cut_1 : decode cX8_cut 1 = .ok (.iconst 0, 1) := by decide +kernel
theorem dX8_cut_2 : decode cX8_cut 2 = .ok (.putfield 47, 3) := by decide +kernel
theorem dX8_cut_5 : decode cX8_cut 5 = .ok (.aload_n 0, 1) := by decide +kernel
theorem dX8_cut_6 : decode cX8_cut 6 = .ok (.getfield 104, 3) := by decide +kernel
theorem dX8_cut_9 : decode cX8_cut 9 = .ok (.ifCond .le 26, 3) := by decide +kernel
theorem dX8_cut_12 : decode cX8_cut 12 = .ok (.iload_n 1, 1) := by decide +kernel
theorem dX8_cut_13 : decode cX8_cut 13 = .ok (.iconst 0, 1) := by decide +kernel
theorem dX8_cut_14 : decode cX8_cut 14 = .ok (.aload_n 0, 1) := by decide +kernel
theorem dX8_cut_15 : decode cX8_cut 15 = .ok (.getfield 136, 3) := by decide +kernel
theorem dX8_cut_18 : decode cX8_cut 18 = .ok (.iconst 1, 1) := by decide +kernel
theorem dX8_cut_19 : decode cX8_cut 19 = .ok (.isub, 1) := by decide +kernel
theorem dX8_cut_20 : decode cX8_cut 20 = .ok (.invokestatic 51, 3) := by decide +kernel
theorem dX8_cut_23 : decode cX8_cut 23 = .ok (.ifCond .eq 12, 3) := by decide +kernel
theorem dX8_cut_26 : decode cX8_cut 26 = .ok (.aload_n 0, 1) := by decide +kernel
theorem dX8_cut_27 : decode cX8_cut 27 = .ok (.getfield 28, 3) := by decide +kernel
theorem dX8_cut_30 : decode cX8_cut 30 = .ok (.iload_n 1, 1) := by decide +kernel
theorem dX8_cut_31 : decode cX8_cut 31 = .ok (.iaload, 1) := by decide +kernel
theorem dX8_cut_32 : decode cX8_cut 32 = .ok (.goto 8, 3) := by decide +kernel
theorem dX8_cut_35 : decode cX8_cut 35 = .ok (.aload_n 0, 1) := by decide +kernel
theorem dX8_cut_36 : decode cX8_cut 36 = .ok (.iconst 1, 1) := by decide +kernel
theorem dX8_cut_37 : decode cX8_cut 37 = .ok (.invokevirtual 55, 3) := by decide +kernel
theorem dX8_cut_40 : decode cX8_cut 40 = .ok (.ireturn, 1) := by decide +kernel
theorem dX8_groupOf_0 : decode cX8_groupOf 0 = .ok (.aload_n 0, 1) := by decide +kernel
theorem dX8_groupOf_1 : decode cX8_groupOf 1 = .ok (.iconst 0, 1) := by decide +kernel
theorem dX8_groupOf_2 : decode cX8_groupOf 2 = .ok (.putfield 47, 3) := by decide +kernel
theorem dX8_groupOf_5 : decode cX8_groupOf 5 = .ok (.aload_n 0, 1) := by decide +kernel
theorem dX8_groupOf_6 : decode cX8_groupOf 6 = .ok (.iload_n 1, 1) := by decide +kernel
theorem dX8_groupOf_7 : decode cX8_groupOf 7 = .ok (.invokevirtual 110, 3) := by decide +kernel
theorem dX8_groupOf_10 : decode cX8_groupOf 10 = .ok (.ifCond .eq 11, 3) := by decide +kernel
theorem dX8_groupOf_13 : decode cX8_groupOf 13 = .ok (.aload_n 0, 1) := by decide +kernel
theorem dX8_groupOf_14 : decode cX8_groupOf 14 = .ok (.iload_n 1, 1) := by decide +kernel
theorem dX8_groupOf_15 : decode cX8_groupOf 15 = .ok (.invokevirtual 139, 3) := by decide +kernel
theorem dX8_groupOf_18 : decode cX8_groupOf 18 = .ok (.goto 8, 3) := by decide +kernel
theorem dX8_groupOf_21 : decode cX8_groupOf 21 = .ok (.aload_n 0, 1) := by decide +kernel
theorem dX8_groupOf_22 : decode cX8_groupOf 22 = .ok (.iconst 1, 1) := by decide +kernel
theorem dX8_groupOf_23 : decode cX8_groupOf 23 = .ok (.invokevirtual 55, 3) := by decide +kernel
theorem dX8_groupOf_26 : decode cX8_groupOf 26 = .ok (.ireturn, 1) := by decide +kernel
theorem dX8_valvesOf_0 : decode cX8_valvesOf 0 = .ok (.iconst 0, 1) := by decide +kernel
theorem dX8_valvesOf_1 : decode cX8_valvesOf 1 = .ok (.istore_n 2, 1) := by decide +kernel
theorem dX8_valvesOf_2 : decode cX8_valvesOf 2 = .ok (.iconst 0, 1) := by decide +kernel
theorem dX8_valvesOf_3 : decode cX8_valvesOf 3 = .ok (.istore_n 3, 1) := by decide +kernel
theorem dX8_valvesOf_4 : decode cX8_valvesOf 4 = .ok (.iload_n 3, 1) := by decide +kernel
theorem dX8_valvesOf_5 : decode cX8_valvesOf 5 = .ok (.aload_n 0, 1) := by decide +kernel
theorem dX8_valvesOf_6 : decode cX8_valvesOf 6 = .ok (.getfield 104, 3) := by decide +kernel
theorem dX8_valvesOf_9 : decode cX8_valvesOf 9 = .ok (.if_icmp .ge 18, 3) := by decide +kernel
theorem dX8_valvesOf_12 : decode cX8_valvesOf 12 = .ok (.iload_n 2, 1) := by decide +kernel
theorem dX8_valvesOf_13 : decode cX8_valvesOf 13 = .ok (.aload_n 0, 1) := by decide +kernel
theorem dX8_valvesOf_14 : decode cX8_valvesOf 14 = .ok (.getfield 19, 3) := by decide +kernel
theorem dX8_valvesOf_17 : decode cX8_valvesOf 17 = .ok (.iload_n 3, 1) := by decide +kernel
theorem dX8_valvesOf_18 : decode cX8_valvesOf 18 = .ok (.iaload, 1) := by decide +kernel
theorem dX8_valvesOf_19 : decode cX8_valvesOf 19 = .ok (.ior, 1) := by decide +kernel
theorem dX8_valvesOf_20 : decode cX8_valvesOf 20 = .ok (.istore_n 2, 1) := by decide +kernel
theorem dX8_valvesOf_21 : decode cX8_valvesOf 21 = .ok (.iinc 3 1, 3) := by decide +kernel
theorem dX8_valvesOf_24 : decode cX8_valvesOf 24 = .ok (.goto (-20), 3) := by decide +kernel
theorem dX8_valvesOf_27 : decode cX8_valvesOf 27 = .ok (.iload_n 2, 1) := by decide +kernel
theorem dX8_valvesOf_28 : decode cX8_valvesOf 28 = .ok (.invokestatic 126, 3) := by decide +kernel
theorem dX8_valvesOf_31 : decode cX8_valvesOf 31 = .ok (.iload_n 1, 1) := by decide +kernel
theorem dX8_valvesOf_32 : decode cX8_valvesOf 32 = .ok (.iconst 1, 1) := by decide +kernel
theorem dX8_valvesOf_33 : decode cX8_valvesOf 33 = .ok (.if_icmp .ne 12, 3) := by decide +kernel
theorem dX8_valvesOf_36 : decode cX8_valvesOf 36 = .ok (.aload_n 0, 1) := by decide +kernel
theorem dX8_valvesOf_37 : decode cX8_valvesOf 37 = .ok (.getfield 136, 3) := by decide +kernel
theorem dX8_valvesOf_40 : decode cX8_valvesOf 40 = .ok (.iconst 1, 1) := by decide +kernel
theorem dX8_valvesOf_41 : decode cX8_valvesOf 41 = .ok (.isub, 1) := by decide +kernel
theorem dX8_valvesOf_42 : decode cX8_valvesOf 42 = .ok (.goto 16, 3) := by decide +kernel
theorem dX8_valvesOf_45 : decode cX8_valvesOf 45 = .ok (.iload_n 1, 1) := by decide +kernel
theorem dX8_valvesOf_46 : decode cX8_valvesOf 46 = .ok (.iconst 2, 1) := by decide +kernel
theorem dX8_valvesOf_47 : decode cX8_valvesOf 47 = .ok (.if_icmp .ne 10, 3) := by decide +kernel
theorem dX8_valvesOf_50 : decode cX8_valvesOf 50 = .ok (.aload_n 0, 1) := by decide +kernel
theorem dX8_valvesOf_51 : decode cX8_valvesOf 51 = .ok (.getfield 104, 3) := by decide +kernel
theorem dX8_valvesOf_54 : decode cX8_valvesOf 54 = .ok (.goto 4, 3) := by decide +kernel
theorem dX8_valvesOf_57 : decode cX8_valvesOf 57 = .ok (.iconst 0, 1) := by decide +kernel
theorem dX8_valvesOf_58 : decode cX8_valvesOf 58 = .ok (.iadd, 1) := by decide +kernel
theorem dX8_valvesOf_59 : decode cX8_valvesOf 59 = .ok (.ireturn, 1) := by decide +kernel
theorem dX8_lacks_0 : decode cX8_lacks 0 = .ok (.aload_n 0, 1) := by decide +kernel
theorem dX8_lacks_1 : decode cX8_lacks 1 = .ok (.iload_n 1, 1) := by decide +kernel
theorem dX8_lacks_2 : decode cX8_lacks 2 = .ok (.iconst 0, 1) := by decide +kernel
theorem dX8_lacks_3 : decode cX8_lacks 3 = .ok (.iconst 2, 1) := by decide +kernel
theorem dX8_lacks_4 : decode cX8_lacks 4 = .ok (.invokestatic 51, 3) := by decide +kernel
theorem dX8_lacks_7 : decode cX8_lacks 7 = .ok (.ifCond .ne 7, 3) := by decide +kernel
theorem dX8_lacks_10 : decode cX8_lacks 10 = .ok (.iconst 1, 1) := by decide +kernel
theorem dX8_lacks_11 : decode cX8_lacks 11 = .ok (.goto 15, 3) := by decide +kernel
theorem dX8_lacks_14 : decode cX8_lacks 14 = .ok (.aload_n 0, 1) := by decide +kernel
theorem dX8_lacks_15 : decode cX8_lacks 15 = .ok (.getfield 104, 3) := by decide +kernel
theorem dX8_lacks_18 : decode cX8_lacks 18 = .ok (.ifCond .ne 7, 3) := by decide +kernel
theorem dX8_lacks_21 : decode cX8_lacks 21 = .ok (.iconst 2, 1) := by decide +kernel
theorem dX8_lacks_22 : decode cX8_lacks 22 = .ok (.goto 4, 3) := by decide +kernel
theorem dX8_lacks_25 : decode cX8_lacks 25 = .ok (.iconst 0, 1) := by decide +kernel
theorem dX8_lacks_26 : decode cX8_lacks 26 = .ok (.putfield 47, 3) := by decide +kernel
theorem dX8_lacks_29 : decode cX8_lacks 29 = .ok (.aload_n 0, 1) := by decide +kernel
theorem dX8_lacks_30 : decode cX8_lacks 30 = .ok (.getfield 47, 3) := by decide +kernel
theorem dX8_lacks_33 : decode cX8_lacks 33 = .ok (.ifCond .eq 7, 3) := by decide +kernel
theorem dX8_lacks_36 : decode cX8_lacks 36 = .ok (.iconst 1, 1) := by decide +kernel
theorem dX8_lacks_37 : decode cX8_lacks 37 = .ok (.goto 4, 3) := by decide +kernel
theorem dX8_lacks_40 : decode cX8_lacks 40 = .ok (.iconst 0, 1) := by decide +kernel
theorem dX8_lacks_41 : decode cX8_lacks 41 = .ok (.ireturn, 1) := by decide +kernel
theorem dX8_valves_0 : decode cX8_valves 0 = .ok (.aload_n 0, 1) := by decide +kernel
theorem dX8_valves_1 : decode cX8_valves 1 = .ok (.iload_n 1, 1) := by decide +kernel
theorem dX8_valves_2 : decode cX8_valves 2 = .ok (.invokevirtual 142, 3) := by decide +kernel
theorem dX8_valves_5 : decode cX8_valves 5 = .ok (.ifCond .eq 7, 3) := by decide +kernel
theorem dX8_valves_8 : decode cX8_valves 8 = .ok (.iconst 0, 1) := by decide +kernel
theorem dX8_valves_9 : decode cX8_valves 9 = .ok (.goto 8, 3) := by decide +kernel
theorem dX8_valves_12 : decode cX8_valves 12 = .ok (.aload_n 0, 1) := by decide +kernel
theorem dX8_valves_13 : decode cX8_valves 13 = .ok (.iload_n 1, 1) := by decide +kernel
theorem dX8_valves_14 : decode cX8_valves 14 = .ok (.invokevirtual 145, 3) := by decide +kernel
theorem dX8_valves_17 : decode cX8_valves 17 = .ok (.ireturn, 1) := by decide +kernel
theorem dX8_firstWithMoves_0 : decode cX8_firstWithMoves 0 = .ok (.iconst 0, 1) := by decide +kernel
theorem dX8_firstWithMoves_1 : decode cX8_firstWithMoves 1 = .ok (.istore_n 1, 1) := by decide +kernel
theorem dX8_firstWithMoves_2 : decode cX8_firstWithMoves 2 = .ok (.iload_n 1, 1) := by decide +kernel
theorem dX8_firstWithMoves_3 : decode cX8_firstWithMoves 3 = .ok (.aload_n 0, 1) := by decide +kernel
theorem dX8_firstWithMoves_4 : decode cX8_firstWithMoves 4 = .ok (.getfield 104, 3) := by decide +kernel
theorem dX8_firstWithMoves_7 : decode cX8_firstWithMoves 7 = .ok (.if_icmp .ge 18, 3) := by decide +kernel
theorem dX8_firstWithMoves_10 : decode cX8_firstWithMoves 10 = .ok (.aload_n 0, 1) := by decide +kernel
theorem dX8_firstWithMoves_11 : decode cX8_firstWithMoves 11 = .ok (.getfield 25, 3) := by decide +kernel
theorem dX8_firstWithMoves_14 : decode cX8_firstWithMoves 14 = .ok (.iload_n 1, 1) := by decide +kernel
theorem dX8_firstWithMoves_15 : decode cX8_firstWithMoves 15 = .ok (.iaload, 1) := by decide +kernel
theorem dX8_firstWithMoves_16 : decode cX8_firstWithMoves 16 = .ok (.ifCond .le 9, 3) := by decide +kernel
theorem dX8_firstWithMoves_19 : decode cX8_firstWithMoves 19 = .ok (.iinc 1 1, 3) := by decide +kernel
theorem dX8_firstWithMoves_22 : decode cX8_firstWithMoves 22 = .ok (.goto (-20), 3) := by decide +kernel
theorem dX8_firstWithMoves_25 : decode cX8_firstWithMoves 25 = .ok (.iload_n 1, 1) := by decide +kernel
theorem dX8_firstWithMoves_26 : decode cX8_firstWithMoves 26 = .ok (.ireturn, 1) := by decide +kernel
theorem dX8_movesOf_0 : decode cX8_movesOf 0 = .ok (.aload_n 0, 1) := by decide +kernel
theorem dX8_movesOf_1 : decode cX8_movesOf 1 = .ok (.getfield 104, 3) := by decide +kernel
theorem dX8_movesOf_4 : decode cX8_movesOf 4 = .ok (.ifCond .ne 7, 3) := by decide +kernel
theorem dX8_movesOf_7 : decode cX8_movesOf 7 = .ok (.iconst 0, 1) := by decide +kernel
theorem dX8_movesOf_8 : decode cX8_movesOf 8 = .ok (.goto 19, 3) := by decide +kernel
theorem dX8_movesOf_11 : decode cX8_movesOf 11 = .ok (.aload_n 0, 1) := by decide +kernel
theorem dX8_movesOf_12 : decode cX8_movesOf 12 = .ok (.getfield 19, 3) := by decide +kernel
theorem dX8_movesOf_15 : decode cX8_movesOf 15 = .ok (.iload_n 1, 1) := by decide +kernel
theorem dX8_movesOf_16 : decode cX8_movesOf 16 = .ok (.iaload, 1) := by decide +kernel
theorem dX8_movesOf_17 : decode cX8_movesOf 17 = .ok (.aload_n 0, 1) := by decide +kernel
theorem dX8_movesOf_18 : decode cX8_movesOf 18 = .ok (.getfield 22, 3) := by decide +kernel
theorem dX8_movesOf_21 : decode cX8_movesOf 21 = .ok (.iload_n 1, 1) := by decide +kernel
theorem dX8_movesOf_22 : decode cX8_movesOf 22 = .ok (.iaload, 1) := by decide +kernel
theorem dX8_movesOf_23 : decode cX8_movesOf 23 = .ok (.bipush 6, 2) := by decide +kernel
theorem dX8_movesOf_25 : decode cX8_movesOf 25 = .ok (.ishl, 1) := by decide +kernel
theorem dX8_movesOf_26 : decode cX8_movesOf 26 = .ok (.ior, 1) := by decide +kernel
theorem dX8_movesOf_27 : decode cX8_movesOf 27 = .ok (.ireturn, 1) := by decide +kernel
theorem dX8_rests_0 : decode cX8_rests 0 = .ok (.iconst 0, 1) := by decide +kernel
theorem dX8_rests_1 : decode cX8_rests 1 = .ok (.istore_n 2, 1) := by decide +kernel
theorem dX8_rests_2 : decode cX8_rests 2 = .ok (.iload_n 2, 1) := by decide +kernel
theorem dX8_rests_3 : decode cX8_rests 3 = .ok (.sipush 140, 3) := by decide +kernel
theorem dX8_rests_6 : decode cX8_rests 6 = .ok (.if_icmp .ge 50, 3) := by decide +kernel
theorem dX8_rests_9 : decode cX8_rests 9 = .ok (.iload_n 2, 1) := by decide +kernel
theorem dX8_rests_10 : decode cX8_rests 10 = .ok (.iconst 1, 1) := by decide +kernel
theorem dX8_rests_11 : decode cX8_rests 11 = .ok (.if_icmp .eq 19, 3) := by decide +kernel
theorem dX8_rests_14 : decode cX8_rests 14 = .ok (.iload_n 2, 1) := by decide +kernel
theorem dX8_rests_15 : decode cX8_rests 15 = .ok (.iconst 2, 1) := by decide +kernel
theorem dX8_rests_16 : decode cX8_rests 16 = .ok (.if_icmp .eq 14, 3) := by decide +kernel
theorem dX8_rests_19 : decode cX8_rests 19 = .ok (.iload_n 2, 1) := by decide +kernel
theorem dX8_rests_20 : decode cX8_rests 20 = .ok (.bipush 38, 2) := by decide +kernel
theorem dX8_rests_22 : decode cX8_rests 22 = .ok (.bipush 43, 2) := by decide +kernel
theorem dX8_rests_24 : decode cX8_rests 24 = .ok (.invokestatic 51, 3) := by decide +kernel
theorem dX8_rests_27 : decode cX8_rests 27 = .ok (.ifCond .eq 7, 3) := by decide +kernel
theorem dX8_rests_30 : decode cX8_rests 30 = .ok (.iconst 1, 1) := by decide +kernel
theorem dX8_rests_31 : decode cX8_rests 31 = .ok (.goto 4, 3) := by decide +kernel
theorem dX8_rests_34 : decode cX8_rests 34 = .ok (.iconst 0, 1) := by decide +kernel
theorem dX8_rests_35 : decode cX8_rests 35 = .ok (.istore_n 3, 1) := by decide +kernel
theorem dX8_rests_36 : decode cX8_rests 36 = .ok (.aload_n 1, 1) := by decide +kernel
theorem dX8_rests_37 : decode cX8_rests 37 = .ok (.iload_n 2, 1) := by decide +kernel
theorem dX8_rests_38 : decode cX8_rests 38 = .ok (.iload_n 3, 1) := by decide +kernel
theorem dX8_rests_39 : decode cX8_rests 39 = .ok (.ifCond .eq 9, 3) := by decide +kernel
theorem dX8_rests_42 : decode cX8_rests 42 = .ok (.aload_n 1, 1) := by decide +kernel
theorem dX8_rests_43 : decode cX8_rests 43 = .ok (.iload_n 2, 1) := by decide +kernel
theorem dX8_rests_44 : decode cX8_rests 44 = .ok (.iaload, 1) := by decide +kernel
theorem dX8_rests_45 : decode cX8_rests 45 = .ok (.goto 4, 3) := by decide +kernel
theorem dX8_rests_48 : decode cX8_rests 48 = .ok (.iconst 0, 1) := by decide +kernel
theorem dX8_rests_49 : decode cX8_rests 49 = .ok (.iastore, 1) := by decide +kernel
theorem dX8_rests_50 : decode cX8_rests 50 = .ok (.iinc 2 1, 3) := by decide +kernel
theorem dX8_rests_53 : decode cX8_rests 53 = .ok (.goto (-51), 3) := by decide +kernel
theorem dX8_rests_56 : decode cX8_rests 56 = .ok (.aload_n 1, 1) := by decide +kernel
theorem dX8_rests_57 : decode cX8_rests 57 = .ok (.iconst 3, 1) := by decide +kernel
theorem dX8_rests_58 : decode cX8_rests 58 = .ok (.aload_n 0, 1) := by decide +kernel
theorem dX8_rests_59 : decode cX8_rests 59 = .ok (.getfield 104, 3) := by decide +kernel
theorem dX8_rests_62 : decode cX8_rests 62 = .ok (.ifCond .le 19, 3) := by decide +kernel
theorem dX8_rests_65 : decode cX8_rests 65 = .ok (.aload_n 1, 1) := by decide +kernel
theorem dX8_rests_66 : decode cX8_rests 66 = .ok (.iconst 1, 1) := by decide +kernel
theorem dX8_rests_67 : decode cX8_rests 67 = .ok (.iaload, 1) := by decide +kernel
theorem dX8_rests_68 : decode cX8_rests 68 = .ok (.iconst 1, 1) := by decide +kernel
theorem dX8_rests_69 : decode cX8_rests 69 = .ok (.if_icmp .ne 12, 3) := by decide +kernel
theorem dX8_rests_72 : decode cX8_rests 72 = .ok (.aload_n 0, 1) := by decide +kernel
theorem dX8_rests_73 : decode cX8_rests 73 = .ok (.getfield 136, 3) := by decide +kernel
theorem dX8_rests_76 : decode cX8_rests 76 = .ok (.iconst 1, 1) := by decide +kernel
theorem dX8_rests_77 : decode cX8_rests 77 = .ok (.isub, 1) := by decide +kernel
theorem dX8_rests_78 : decode cX8_rests 78 = .ok (.goto 4, 3) := by decide +kernel
theorem dX8_rests_81 : decode cX8_rests 81 = .ok (.iconst (-1), 1) := by decide +kernel
theorem dX8_rests_82 : decode cX8_rests 82 = .ok (.iastore, 1) := by decide +kernel
theorem dX8_rests_83 : decode cX8_rests 83 = .ok (.aload_n 1, 1) := by decide +kernel
theorem dX8_rests_84 : decode cX8_rests 84 = .ok (.bipush 7, 2) := by decide +kernel
theorem dX8_rests_86 : decode cX8_rests 86 = .ok (.aload_n 0, 1) := by decide +kernel
theorem dX8_rests_87 : decode cX8_rests 87 = .ok (.invokevirtual 148, 3) := by decide +kernel
theorem dX8_rests_90 : decode cX8_rests 90 = .ok (.iastore, 1) := by decide +kernel
theorem dX8_rests_91 : decode cX8_rests 91 = .ok (.aload_n 1, 1) := by decide +kernel
theorem dX8_rests_92 : decode cX8_rests 92 = .ok (.bipush 8, 2) := by decide +kernel
theorem dX8_rests_94 : decode cX8_rests 94 = .ok (.aload_n 0, 1) := by decide +kernel
theorem dX8_rests_95 : decode cX8_rests 95 = .ok (.aload_n 1, 1) := by decide +kernel
theorem dX8_rests_96 : decode cX8_rests 96 = .ok (.bipush 7, 2) := by decide +kernel
theorem dX8_rests_98 : decode cX8_rests 98 = .ok (.iaload, 1) := by decide +kernel
theorem dX8_rests_99 : decode cX8_rests 99 = .ok (.invokevirtual 152, 3) := by decide +kernel
theorem dX8_rests_102 : decode cX8_rests 102 = .ok (.iastore, 1) := by decide +kernel
theorem dX8_rests_103 : decode cX8_rests 103 = .ok (.aload_n 1, 1) := by decide +kernel
theorem dX8_rests_104 : decode cX8_rests 104 = .ok (.bipush 11, 2) := by decide +kernel
theorem dX8_rests_106 : decode cX8_rests 106 = .ok (.iconst (-1), 1) := by decide +kernel
theorem dX8_rests_107 : decode cX8_rests 107 = .ok (.iastore, 1) := by decide +kernel
theorem dX8_rests_108 : decode cX8_rests 108 = .ok (.aload_n 1, 1) := by decide +kernel
theorem dX8_rests_109 : decode cX8_rests 109 = .ok (.bipush 12, 2) := by decide +kernel
theorem dX8_rests_111 : decode cX8_rests 111 = .ok (.iconst (-1), 1) := by decide +kernel
theorem dX8_rests_112 : decode cX8_rests 112 = .ok (.iastore, 1) := by decide +kernel
theorem dX8_rests_113 : decode cX8_rests 113 = .ok (.return_, 1) := by decide +kernel
theorem dX8_senses_0 : decode cX8_senses 0 = .ok (.aload_n 1, 1) := by decide +kernel
theorem dX8_senses_1 : decode cX8_senses 1 = .ok (.bipush 20, 2) := by decide +kernel
theorem dX8_senses_3 : decode cX8_senses 3 = .ok (.iload_n 2, 1) := by decide +kernel
theorem dX8_senses_4 : decode cX8_senses 4 = .ok (.iadd, 1) := by decide +kernel
theorem dX8_senses_5 : decode cX8_senses 5 = .ok (.iaload, 1) := by decide +kernel
theorem dX8_senses_6 : decode cX8_senses 6 = .ok (.iload_n 3, 1) := by decide +kernel
theorem dX8_senses_7 : decode cX8_senses 7 = .ok (.ifCond .ne 7, 3) := by decide +kernel
theorem dX8_senses_10 : decode cX8_senses 10 = .ok (.iconst 0, 1) := by decide +kernel
theorem dX8_senses_11 : decode cX8_senses 11 = .ok (.goto 9, 3) := by decide +kernel
theorem dX8_senses_14 : decode cX8_senses 14 = .ok (.aload_n 0, 1) := by decide +kernel
theorem dX8_senses_15 : decode cX8_senses 15 = .ok (.getfield 16, 3) := by decide +kernel
theorem dX8_senses_18 : decode cX8_senses 18 = .ok (.iload_n 2, 1) := by decide +kernel
theorem dX8_senses_19 : decode cX8_senses 19 = .ok (.iaload, 1) := by decide +kernel
theorem dX8_senses_20 : decode cX8_senses 20 = .ok (.if_icmp .ne 7, 3) := by decide +kernel
theorem dX8_senses_23 : decode cX8_senses 23 = .ok (.iconst 1, 1) := by decide +kernel
theorem dX8_senses_24 : decode cX8_senses 24 = .ok (.goto 4, 3) := by decide +kernel
theorem dX8_senses_27 : decode cX8_senses 27 = .ok (.iconst 0, 1) := by decide +kernel
theorem dX8_senses_28 : decode cX8_senses 28 = .ok (.istore 4, 2) := by decide +kernel
theorem dX8_senses_30 : decode cX8_senses 30 = .ok (.aload_n 1, 1) := by decide +kernel
theorem dX8_senses_31 : decode cX8_senses 31 = .ok (.bipush 38, 2) := by decide +kernel
theorem dX8_senses_33 : decode cX8_senses 33 = .ok (.iload_n 2, 1) := by decide +kernel
theorem dX8_senses_34 : decode cX8_senses 34 = .ok (.iadd, 1) := by decide +kernel
theorem dX8_senses_35 : decode cX8_senses 35 = .ok (.iaload, 1) := by decide +kernel
theorem dX8_senses_36 : decode cX8_senses 36 = .ok (.iconst 1, 1) := by decide +kernel
theorem dX8_senses_37 : decode cX8_senses 37 = .ok (.iconst 2, 1) := by decide +kernel
theorem dX8_senses_38 : decode cX8_senses 38 = .ok (.iload_n 3, 1) := by decide +kernel
theorem dX8_senses_39 : decode cX8_senses 39 = .ok (.imul, 1) := by decide +kernel
theorem dX8_senses_40 : decode cX8_senses 40 = .ok (.iadd, 1) := by decide +kernel
theorem dX8_senses_41 : decode cX8_senses 41 = .ok (.ishr, 1) := by decide +kernel
theorem dX8_senses_42 : decode cX8_senses 42 = .ok (.istore 5, 2) := by decide +kernel
theorem dX8_senses_44 : decode cX8_senses 44 = .ok (.iload 5, 2) := by decide +kernel
theorem dX8_senses_46 : decode cX8_senses 46 = .ok (.iconst 1, 1) := by decide +kernel
theorem dX8_senses_47 : decode cX8_senses 47 = .ok (.iand, 1) := by decide +kernel
theorem dX8_senses_48 : decode cX8_senses 48 = .ok (.ifCond .ne 19, 3) := by decide +kernel
theorem dX8_senses_51 : decode cX8_senses 51 = .ok (.iload 4, 2) := by decide +kernel
theorem dX8_senses_53 : decode cX8_senses 53 = .ok (.ifCond .ne 10, 3) := by decide +kernel
theorem dX8_senses_56 : decode cX8_senses 56 = .ok (.iload 5, 2) := by decide +kernel
theorem dX8_senses_58 : decode cX8_senses 58 = .ok (.iconst 2, 1) := by decide +kernel
theorem dX8_senses_59 : decode cX8_senses 59 = .ok (.iand, 1) := by decide +kernel
theorem dX8_senses_60 : decode cX8_senses 60 = .ok (.ifCond .eq 7, 3) := by decide +kernel
theorem dX8_senses_63 : decode cX8_senses 63 = .ok (.iconst 1, 1) := by decide +kernel
theorem dX8_senses_64 : decode cX8_senses 64 = .ok (.goto 4, 3) := by decide +kernel
theorem dX8_senses_67 : decode cX8_senses 67 = .ok (.iconst 0, 1) := by decide +kernel
theorem dX8_senses_68 : decode cX8_senses 68 = .ok (.ireturn, 1) := by decide +kernel
theorem dX8_isComplete_0 : decode cX8_isComplete 0 = .ok (.aload_n 1, 1) := by decide +kernel
theorem dX8_isComplete_1 : decode cX8_isComplete 1 = .ok (.bipush 44, 2) := by decide +kernel
theorem dX8_isComplete_3 : decode cX8_isComplete 3 = .ok (.iload_n 2, 1) := by decide +kernel
theorem dX8_isComplete_4 : decode cX8_isComplete 4 = .ok (.iadd, 1) := by decide +kernel
theorem dX8_isComplete_5 : decode cX8_isComplete 5 = .ok (.iaload, 1) := by decide +kernel
theorem dX8_isComplete_6 : decode cX8_isComplete 6 = .ok (.aload_n 0, 1) := by decide +kernel
theorem dX8_isComplete_7 : decode cX8_isComplete 7 = .ok (.getfield 25, 3) := by decide +kernel
theorem dX8_isComplete_10 : decode cX8_isComplete 10 = .ok (.iload_n 2, 1) := by decide +kernel
theorem dX8_isComplete_11 : decode cX8_isComplete 11 = .ok (.iaload, 1) := by decide +kernel
theorem dX8_isComplete_12 : decode cX8_isComplete 12 = .ok (.if_icmp .lt 7, 3) := by decide +kernel
theorem dX8_isComplete_15 : decode cX8_isComplete 15 = .ok (.iconst 1, 1) := by decide +kernel
theorem dX8_isComplete_16 : decode cX8_isComplete 16 = .ok (.goto 4, 3) := by decide +kernel
theorem dX8_isComplete_19 : decode cX8_isComplete 19 = .ok (.iconst 0, 1) := by decide +kernel
theorem dX8_isComplete_20 : decode cX8_isComplete 20 = .ok (.istore_n 3, 1) := by decide +kernel
theorem dX8_isComplete_21 : decode cX8_isComplete 21 = .ok (.iconst 0, 1) := by decide +kernel
theorem dX8_isComplete_22 : decode cX8_isComplete 22 = .ok (.istore 4, 2) := by decide +kernel
theorem dX8_isComplete_24 : decode cX8_isComplete 24 = .ok (.iload 4, 2) := by decide +kernel
theorem dX8_isComplete_26 : decode cX8_isComplete 26 = .ok (.bipush 6, 2) := by decide +kernel
theorem dX8_isComplete_28 : decode cX8_isComplete 28 = .ok (.if_icmp .ge 53, 3) := by decide +kernel
theorem dX8_isComplete_31 : decode cX8_isComplete 31 = .ok (.aload_n 0, 1) := by decide +kernel
theorem dX8_isComplete_32 : decode cX8_isComplete 32 = .ok (.iload_n 2, 1) := by decide +kernel
theorem dX8_isComplete_33 : decode cX8_isComplete 33 = .ok (.iload 4, 2) := by decide +kernel
theorem dX8_isComplete_35 : decode cX8_isComplete 35 = .ok (.invokevirtual 113, 3) := by decide +kernel
theorem dX8_isComplete_38 : decode cX8_isComplete 38 = .ok (.istore 5, 2) := by decide +kernel
theorem dX8_isComplete_40 : decode cX8_isComplete 40 = .ok (.iload_n 3, 1) := by decide +kernel
theorem dX8_isComplete_41 : decode cX8_isComplete 41 = .ok (.ifCond .eq 32, 3) := by decide +kernel
theorem dX8_isComplete_44 : decode cX8_isComplete 44 = .ok (.iload 5, 2) := by decide +kernel
theorem dX8_isComplete_46 : decode cX8_isComplete 46 = .ok (.ifCond .eq 23, 3) := by decide +kernel
theorem dX8_isComplete_49 : decode cX8_isComplete 49 = .ok (.aload_n 0, 1) := by decide +kernel
theorem dX8_isComplete_50 : decode cX8_isComplete 50 = .ok (.aload_n 1, 1) := by decide +kernel
theorem dX8_isComplete_51 : decode cX8_isComplete 51 = .ok (.iload 4, 2) := by decide +kernel
theorem dX8_isComplete_53 : decode cX8_isComplete 53 = .ok (.iload 5, 2) := by decide +kernel
theorem dX8_isComplete_55 : decode cX8_isComplete 55 = .ok (.ifCond .le 7, 3) := by decide +kernel
theorem dX8_isComplete_58 : decode cX8_isComplete 58 = .ok (.iconst 1, 1) := by decide +kernel
theorem dX8_isComplete_59 : decode cX8_isComplete 59 = .ok (.goto 4, 3) := by decide +kernel
theorem dX8_isComplete_62 : decode cX8_isComplete 62 = .ok (.iconst 0, 1) := by decide +kernel
theorem dX8_isComplete_63 : decode cX8_isComplete 63 = .ok (.invokevirtual 155, 3) := by decide +kernel
theorem dX8_isComplete_66 : decode cX8_isComplete 66 = .ok (.ifCond .eq 7, 3) := by decide +kernel
theorem dX8_isComplete_69 : decode cX8_isComplete 69 = .ok (.iconst 1, 1) := by decide +kernel
theorem dX8_isComplete_70 : decode cX8_isComplete 70 = .ok (.goto 4, 3) := by decide +kernel
theorem dX8_isComplete_73 : decode cX8_isComplete 73 = .ok (.iconst 0, 1) := by decide +kernel
theorem dX8_isComplete_74 : decode cX8_isComplete 74 = .ok (.istore_n 3, 1) := by decide +kernel
theorem dX8_isComplete_75 : decode cX8_isComplete 75 = .ok (.iinc 4 1, 3) := by decide +kernel
theorem dX8_isComplete_78 : decode cX8_isComplete 78 = .ok (.goto (-54), 3) := by decide +kernel
theorem dX8_isComplete_81 : decode cX8_isComplete 81 = .ok (.iload_n 3, 1) := by decide +kernel
theorem dX8_isComplete_82 : decode cX8_isComplete 82 = .ok (.ireturn, 1) := by decide +kernel
theorem dX8_decides_0 : decode cX8_decides 0 = .ok (.iconst 0, 1) := by decide +kernel
theorem dX8_decides_1 : decode cX8_decides 1 = .ok (.istore_n 2, 1) := by decide +kernel
theorem dX8_decides_2 : decode cX8_decides 2 = .ok (.aload_n 1, 1) := by decide +kernel
theorem dX8_decides_3 : decode cX8_decides 3 = .ok (.iconst 2, 1) := by decide +kernel
theorem dX8_decides_4 : decode cX8_decides 4 = .ok (.iaload, 1) := by decide +kernel
theorem dX8_decides_5 : decode cX8_decides 5 = .ok (.iconst 1, 1) := by decide +kernel
theorem dX8_decides_6 : decode cX8_decides 6 = .ok (.if_icmp .ne 7, 3) := by decide +kernel
theorem dX8_decides_9 : decode cX8_decides 9 = .ok (.iconst 1, 1) := by decide +kernel
theorem dX8_decides_10 : decode cX8_decides 10 = .ok (.goto 4, 3) := by decide +kernel
theorem dX8_decides_13 : decode cX8_decides 13 = .ok (.iconst 0, 1) := by decide +kernel
theorem dX8_decides_14 : decode cX8_decides 14 = .ok (.istore_n 3, 1) := by decide +kernel
theorem dX8_decides_15 : decode cX8_decides 15 = .ok (.aload_n 1, 1) := by decide +kernel
theorem dX8_decides_16 : decode cX8_decides 16 = .ok (.iconst 1, 1) := by decide +kernel
theorem dX8_decides_17 : decode cX8_decides 17 = .ok (.iaload, 1) := by decide +kernel
theorem dX8_decides_18 : decode cX8_decides 18 = .ok (.ifCond .ne 57, 3) := by decide +kernel
theorem dX8_decides_21 : decode cX8_decides 21 = .ok (.iconst 0, 1) := by decide +kernel
theorem dX8_decides_22 : decode cX8_decides 22 = .ok (.istore 4, 2) := by decide +kernel
theorem dX8_decides_24 : decode cX8_decides 24 = .ok (.iload 4, 2) := by decide +kernel
theorem dX8_decides_26 : decode cX8_decides 26 = .ok (.aload_n 0, 1) := by decide +kernel
theorem dX8_decides_27 : decode cX8_decides 27 = .ok (.getfield 104, 3) := by decide +kernel
theorem dX8_decides_30 : decode cX8_decides 30 = .ok (.if_icmp .ge 43, 3) := by decide +kernel
theorem dX8_decides_33 : decode cX8_decides 33 = .ok (.iload_n 2, 1) := by decide +kernel
theorem dX8_decides_34 : decode cX8_decides 34 = .ok (.aload_n 0, 1) := by decide +kernel
theorem dX8_decides_35 : decode cX8_decides 35 = .ok (.aload_n 1, 1) := by decide +kernel
theorem dX8_decides_36 : decode cX8_decides 36 = .ok (.aload_n 0, 1) := by decide +kernel
theorem dX8_decides_37 : decode cX8_decides 37 = .ok (.iload 4, 2) := by decide +kernel
theorem dX8_decides_39 : decode cX8_decides 39 = .ok (.invokevirtual 120, 3) := by decide +kernel
theorem dX8_decides_42 : decode cX8_decides 42 = .ok (.invokevirtual 159, 3) := by decide +kernel
theorem dX8_decides_45 : decode cX8_decides 45 = .ok (.ifCond .eq 19, 3) := by decide +kernel
theorem dX8_decides_48 : decode cX8_decides 48 = .ok (.iload 4, 2) := by decide +kernel
theorem dX8_decides_50 : decode cX8_decides 50 = .ok (.ifCond .gt 7, 3) := by decide +kernel
theorem dX8_decides_53 : decode cX8_decides 53 = .ok (.iload_n 3, 1) := by decide +kernel
theorem dX8_decides_54 : decode cX8_decides 54 = .ok (.ifCond .eq 10, 3) := by decide +kernel
theorem dX8_decides_57 : decode cX8_decides 57 = .ok (.iconst 1, 1) := by decide +kernel
theorem dX8_decides_58 : decode cX8_decides 58 = .ok (.iload 4, 2) := by decide +kernel
theorem dX8_decides_60 : decode cX8_decides 60 = .ok (.ishl, 1) := by decide +kernel
theorem dX8_decides_61 : decode cX8_decides 61 = .ok (.goto 4, 3) := by decide +kernel
theorem dX8_decides_64 : decode cX8_decides 64 = .ok (.iconst 0, 1) := by decide +kernel
theorem dX8_decides_65 : decode cX8_decides 65 = .ok (.ior, 1) := by decide +kernel
theorem dX8_decides_66 : decode cX8_decides 66 = .ok (.istore_n 2, 1) := by decide +kernel
theorem dX8_decides_67 : decode cX8_decides 67 = .ok (.iinc 4 1, 3) := by decide +kernel
theorem dX8_decides_70 : decode cX8_decides 70 = .ok (.goto (-46), 3) := by decide +kernel
theorem dX8_decides_73 : decode cX8_decides 73 = .ok (.iload_n 2, 1) := by decide +kernel
theorem dX8_decides_74 : decode cX8_decides 74 = .ok (.ireturn, 1) := by decide +kernel
theorem dX8_decides_75 : decode cX8_decides 75 = .ok (.aload_n 1, 1) := by decide +kernel
theorem dX8_decides_76 : decode cX8_decides 76 = .ok (.iconst 1, 1) := by decide +kernel
theorem dX8_decides_77 : decode cX8_decides 77 = .ok (.iaload, 1) := by decide +kernel
theorem dX8_decides_78 : decode cX8_decides 78 = .ok (.iconst 2, 1) := by decide +kernel
theorem dX8_decides_79 : decode cX8_decides 79 = .ok (.if_icmp .ne 76, 3) := by decide +kernel
theorem dX8_decides_82 : decode cX8_decides 82 = .ok (.aload_n 1, 1) := by decide +kernel
theorem dX8_decides_83 : decode cX8_decides 83 = .ok (.iconst 3, 1) := by decide +kernel
theorem dX8_decides_84 : decode cX8_decides 84 = .ok (.iaload, 1) := by decide +kernel
theorem dX8_decides_85 : decode cX8_decides 85 = .ok (.istore 4, 2) := by decide +kernel
theorem dX8_decides_87 : decode cX8_decides 87 = .ok (.iload 4, 2) := by decide +kernel
theorem dX8_decides_89 : decode cX8_decides 89 = .ok (.ifCond .ge 18, 3) := by decide +kernel
theorem dX8_decides_92 : decode cX8_decides 92 = .ok (.aload_n 1, 1) := by decide +kernel
theorem dX8_decides_93 : decode cX8_decides 93 = .ok (.iconst 3, 1) := by decide +kernel
theorem dX8_decides_94 : decode cX8_decides 94 = .ok (.iload_n 3, 1) := by decide +kernel
theorem dX8_decides_95 : decode cX8_decides 95 = .ok (.ifCond .eq 7, 3) := by decide +kernel
theorem dX8_decides_98 : decode cX8_decides 98 = .ok (.iconst 0, 1) := by decide +kernel
theorem dX8_decides_99 : decode cX8_decides 99 = .ok (.goto 4, 3) := by decide +kernel
theorem dX8_decides_102 : decode cX8_decides 102 = .ok (.iconst (-1), 1) := by decide +kernel
theorem dX8_decides_103 : decode cX8_decides 103 = .ok (.iastore, 1) := by decide +kernel
theorem dX8_decides_104 : decode cX8_decides 104 = .ok (.goto 35, 3) := by decide +kernel
theorem dX8_decides_107 : decode cX8_decides 107 = .ok (.aload_n 0, 1) := by decide +kernel
theorem dX8_decides_108 : decode cX8_decides 108 = .ok (.aload_n 1, 1) := by decide +kernel
theorem dX8_decides_109 : decode cX8_decides 109 = .ok (.iload 4, 2) := by decide +kernel
theorem dX8_decides_111 : decode cX8_decides 111 = .ok (.invokevirtual 159, 3) := by decide +kernel
theorem dX8_decides_114 : decode cX8_decides 114 = .ok (.ifCond .eq 25, 3) := by decide +kernel
theorem dX8_decides_117 : decode cX8_decides 117 = .ok (.aload_n 1, 1) := by decide +kernel
theorem dX8_decides_118 : decode cX8_decides 118 = .ok (.iconst 3, 1) := by decide +kernel
theorem dX8_decides_119 : decode cX8_decides 119 = .ok (.iload 4, 2) := by decide +kernel
theorem dX8_decides_121 : decode cX8_decides 121 = .ok (.iconst 1, 1) := by decide +kernel
theorem dX8_decides_122 : decode cX8_decides 122 = .ok (.iadd, 1) := by decide +kernel
theorem dX8_decides_123 : decode cX8_decides 123 = .ok (.aload_n 0, 1) := by decide +kernel
theorem dX8_decides_124 : decode cX8_decides 124 = .ok (.getfield 104, 3) := by decide +kernel
theorem dX8_decides_127 : decode cX8_decides 127 = .ok (.if_icmp .ge 10, 3) := by decide +kernel
theorem dX8_decides_130 : decode cX8_decides 130 = .ok (.iload 4, 2) := by decide +kernel
theorem dX8_decides_132 : decode cX8_decides 132 = .ok (.iconst 1, 1) := by decide +kernel
theorem dX8_decides_133 : decode cX8_decides 133 = .ok (.iadd, 1) := by decide +kernel
theorem dX8_decides_134 : decode cX8_decides 134 = .ok (.goto 4, 3) := by decide +kernel
theorem dX8_decides_137 : decode cX8_decides 137 = .ok (.iconst (-1), 1) := by decide +kernel
theorem dX8_decides_138 : decode cX8_decides 138 = .ok (.iastore, 1) := by decide +kernel
theorem dX8_decides_139 : decode cX8_decides 139 = .ok (.aload_n 1, 1) := by decide +kernel
theorem dX8_decides_140 : decode cX8_decides 140 = .ok (.iconst 3, 1) := by decide +kernel
theorem dX8_decides_141 : decode cX8_decides 141 = .ok (.iaload, 1) := by decide +kernel
theorem dX8_decides_142 : decode cX8_decides 142 = .ok (.ifCond .ge 7, 3) := by decide +kernel
theorem dX8_decides_145 : decode cX8_decides 145 = .ok (.iconst 0, 1) := by decide +kernel
theorem dX8_decides_146 : decode cX8_decides 146 = .ok (.goto 8, 3) := by decide +kernel
theorem dX8_decides_149 : decode cX8_decides 149 = .ok (.iconst 1, 1) := by decide +kernel
theorem dX8_decides_150 : decode cX8_decides 150 = .ok (.aload_n 1, 1) := by decide +kernel
theorem dX8_decides_151 : decode cX8_decides 151 = .ok (.iconst 3, 1) := by decide +kernel
theorem dX8_decides_152 : decode cX8_decides 152 = .ok (.iaload, 1) := by decide +kernel
theorem dX8_decides_153 : decode cX8_decides 153 = .ok (.ishl, 1) := by decide +kernel
theorem dX8_decides_154 : decode cX8_decides 154 = .ok (.ireturn, 1) := by decide +kernel
theorem dX8_decides_155 : decode cX8_decides 155 = .ok (.aload_n 1, 1) := by decide +kernel
theorem dX8_decides_156 : decode cX8_decides 156 = .ok (.iconst 3, 1) := by decide +kernel
theorem dX8_decides_157 : decode cX8_decides 157 = .ok (.iaload, 1) := by decide +kernel
theorem dX8_decides_158 : decode cX8_decides 158 = .ok (.iconst 1, 1) := by decide +kernel
theorem dX8_decides_159 : decode cX8_decides 159 = .ok (.iadd, 1) := by decide +kernel
theorem dX8_decides_160 : decode cX8_decides 160 = .ok (.aload_n 0, 1) := by decide +kernel
theorem dX8_decides_161 : decode cX8_decides 161 = .ok (.getfield 136, 3) := by decide +kernel
theorem dX8_decides_164 : decode cX8_decides 164 = .ok (.irem, 1) := by decide +kernel
theorem dX8_decides_165 : decode cX8_decides 165 = .ok (.istore 4, 2) := by decide +kernel
theorem dX8_decides_167 : decode cX8_decides 167 = .ok (.aload_n 0, 1) := by decide +kernel
theorem dX8_decides_168 : decode cX8_decides 168 = .ok (.aload_n 1, 1) := by decide +kernel
theorem dX8_decides_169 : decode cX8_decides 169 = .ok (.aload_n 0, 1) := by decide +kernel
theorem dX8_decides_170 : decode cX8_decides 170 = .ok (.aload_n 0, 1) := by decide +kernel
theorem dX8_decides_171 : decode cX8_decides 171 = .ok (.getfield 28, 3) := by decide +kernel
theorem dX8_decides_174 : decode cX8_decides 174 = .ok (.iload 4, 2) := by decide +kernel
theorem dX8_decides_176 : decode cX8_decides 176 = .ok (.iaload, 1) := by decide +kernel
theorem dX8_decides_177 : decode cX8_decides 177 = .ok (.invokevirtual 120, 3) := by decide +kernel
theorem dX8_decides_180 : decode cX8_decides 180 = .ok (.invokevirtual 159, 3) := by decide +kernel
theorem dX8_decides_183 : decode cX8_decides 183 = .ok (.ifCond .eq 22, 3) := by decide +kernel
theorem dX8_decides_186 : decode cX8_decides 186 = .ok (.aload_n 0, 1) := by decide +kernel
theorem dX8_decides_187 : decode cX8_decides 187 = .ok (.getfield 28, 3) := by decide +kernel
theorem dX8_decides_190 : decode cX8_decides 190 = .ok (.iload 4, 2) := by decide +kernel
theorem dX8_decides_192 : decode cX8_decides 192 = .ok (.iaload, 1) := by decide +kernel
theorem dX8_decides_193 : decode cX8_decides 193 = .ok (.ifCond .gt 7, 3) := by decide +kernel
theorem dX8_decides_196 : decode cX8_decides 196 = .ok (.iload_n 3, 1) := by decide +kernel
theorem dX8_decides_197 : decode cX8_decides 197 = .ok (.ifCond .eq 8, 3) := by decide +kernel
theorem dX8_decides_200 : decode cX8_decides 200 = .ok (.aload_n 1, 1) := by decide +kernel
theorem dX8_decides_201 : decode cX8_decides 201 = .ok (.iconst 3, 1) := by decide +kernel
theorem dX8_decides_202 : decode cX8_decides 202 = .ok (.iload 4, 2) := by decide +kernel
theorem dX8_decides_204 : decode cX8_decides 204 = .ok (.iastore, 1) := by decide +kernel
theorem dX8_decides_205 : decode cX8_decides 205 = .ok (.aload_n 0, 1) := by decide +kernel
theorem dX8_decides_206 : decode cX8_decides 206 = .ok (.getfield 28, 3) := by decide +kernel
theorem dX8_decides_209 : decode cX8_decides 209 = .ok (.aload_n 1, 1) := by decide +kernel
theorem dX8_decides_210 : decode cX8_decides 210 = .ok (.iconst 3, 1) := by decide +kernel
theorem dX8_decides_211 : decode cX8_decides 211 = .ok (.iaload, 1) := by decide +kernel
theorem dX8_decides_212 : decode cX8_decides 212 = .ok (.iaload, 1) := by decide +kernel
theorem dX8_decides_213 : decode cX8_decides 213 = .ok (.istore 5, 2) := by decide +kernel
theorem dX8_decides_215 : decode cX8_decides 215 = .ok (.iconst 0, 1) := by decide +kernel
theorem dX8_decides_216 : decode cX8_decides 216 = .ok (.istore 6, 2) := by decide +kernel
theorem dX8_decides_218 : decode cX8_decides 218 = .ok (.iload 6, 2) := by decide +kernel
theorem dX8_decides_220 : decode cX8_decides 220 = .ok (.aload_n 0, 1) := by decide +kernel
theorem dX8_decides_221 : decode cX8_decides 221 = .ok (.getfield 104, 3) := by decide +kernel
theorem dX8_decides_224 : decode cX8_decides 224 = .ok (.if_icmp .ge 74, 3) := by decide +kernel
theorem dX8_decides_227 : decode cX8_decides 227 = .ok (.iload 6, 2) := by decide +kernel
theorem dX8_decides_229 : decode cX8_decides 229 = .ok (.iload 5, 2) := by decide +kernel
theorem dX8_decides_231 : decode cX8_decides 231 = .ok (.if_icmp .eq 26, 3) := by decide +kernel
theorem dX8_decides_234 : decode cX8_decides 234 = .ok (.aload_n 0, 1) := by decide +kernel
theorem dX8_decides_235 : decode cX8_decides 235 = .ok (.aload_n 1, 1) := by decide +kernel
theorem dX8_decides_236 : decode cX8_decides 236 = .ok (.aload_n 0, 1) := by decide +kernel
theorem dX8_decides_237 : decode cX8_decides 237 = .ok (.iload 6, 2) := by decide +kernel
theorem dX8_decides_239 : decode cX8_decides 239 = .ok (.invokevirtual 120, 3) := by decide +kernel
theorem dX8_decides_242 : decode cX8_decides 242 = .ok (.invokevirtual 159, 3) := by decide +kernel
theorem dX8_decides_245 : decode cX8_decides 245 = .ok (.ifCond .eq 16, 3) := by decide +kernel
theorem dX8_decides_248 : decode cX8_decides 248 = .ok (.iload 6, 2) := by decide +kernel
theorem dX8_decides_250 : decode cX8_decides 250 = .ok (.ifCond .gt 7, 3) := by decide +kernel
theorem dX8_decides_253 : decode cX8_decides 253 = .ok (.iload_n 3, 1) := by decide +kernel
theorem dX8_decides_254 : decode cX8_decides 254 = .ok (.ifCond .eq 7, 3) := by decide +kernel
theorem dX8_decides_257 : decode cX8_decides 257 = .ok (.iconst 1, 1) := by decide +kernel
theorem dX8_decides_258 : decode cX8_decides 258 = .ok (.goto 4, 3) := by decide +kernel
theorem dX8_decides_261 : decode cX8_decides 261 = .ok (.iconst 0, 1) := by decide +kernel
theorem dX8_decides_262 : decode cX8_decides 262 = .ok (.istore 7, 2) := by decide +kernel
theorem dX8_decides_264 : decode cX8_decides 264 = .ok (.iload_n 2, 1) := by decide +kernel
theorem dX8_decides_265 : decode cX8_decides 265 = .ok (.aload_n 0, 1) := by decide +kernel
theorem dX8_decides_266 : decode cX8_decides 266 = .ok (.iload 6, 2) := by decide +kernel
theorem dX8_decides_268 : decode cX8_decides 268 = .ok (.invokevirtual 139, 3) := by decide +kernel
theorem dX8_decides_271 : decode cX8_decides 271 = .ok (.aload_n 1, 1) := by decide +kernel
theorem dX8_decides_272 : decode cX8_decides 272 = .ok (.iconst 3, 1) := by decide +kernel
theorem dX8_decides_273 : decode cX8_decides 273 = .ok (.iaload, 1) := by decide +kernel
theorem dX8_decides_274 : decode cX8_decides 274 = .ok (.if_icmp .ne 15, 3) := by decide +kernel
theorem dX8_decides_277 : decode cX8_decides 277 = .ok (.iload 7, 2) := by decide +kernel
theorem dX8_decides_279 : decode cX8_decides 279 = .ok (.ifCond .eq 10, 3) := by decide +kernel
theorem dX8_decides_282 : decode cX8_decides 282 = .ok (.iconst 1, 1) := by decide +kernel
theorem dX8_decides_283 : decode cX8_decides 283 = .ok (.iload 6, 2) := by decide +kernel
theorem dX8_decides_285 : decode cX8_decides 285 = .ok (.ishl, 1) := by decide +kernel
theorem dX8_decides_286 : decode cX8_decides 286 = .ok (.goto 4, 3) := by decide +kernel
theorem dX8_decides_289 : decode cX8_decides 289 = .ok (.iconst 0, 1) := by decide +kernel
theorem dX8_decides_290 : decode cX8_decides 290 = .ok (.ior, 1) := by decide +kernel
theorem dX8_decides_291 : decode cX8_decides 291 = .ok (.istore_n 2, 1) := by decide +kernel
theorem dX8_decides_292 : decode cX8_decides 292 = .ok (.iinc 6 1, 3) := by decide +kernel
theorem dX8_decides_295 : decode cX8_decides 295 = .ok (.goto (-77), 3) := by decide +kernel
theorem dX8_decides_298 : decode cX8_decides 298 = .ok (.iload_n 2, 1) := by decide +kernel
theorem dX8_decides_299 : decode cX8_decides 299 = .ok (.ireturn, 1) := by decide +kernel
theorem dX8_notesEvent_0 : decode cX8_notesEvent 0 = .ok (.aload_n 1, 1) := by decide +kernel
theorem dX8_notesEvent_1 : decode cX8_notesEvent 1 = .ok (.iconst 4, 1) := by decide +kernel
theorem dX8_notesEvent_2 : decode cX8_notesEvent 2 = .ok (.iaload, 1) := by decide +kernel
theorem dX8_notesEvent_3 : decode cX8_notesEvent 3 = .ok (.bipush 40, 2) := by decide +kernel
theorem dX8_notesEvent_5 : decode cX8_notesEvent 5 = .ok (.irem, 1) := by decide +kernel
theorem dX8_notesEvent_6 : decode cX8_notesEvent 6 = .ok (.istore 4, 2) := by decide +kernel
theorem dX8_notesEvent_8 : decode cX8_notesEvent 8 = .ok (.aload_n 1, 1) := by decide +kernel
theorem dX8_notesEvent_9 : decode cX8_notesEvent 9 = .ok (.bipush 60, 2) := by decide +kernel
theorem dX8_notesEvent_11 : decode cX8_notesEvent 11 = .ok (.iload 4, 2) := by decide +kernel
theorem dX8_notesEvent_13 : decode cX8_notesEvent 13 = .ok (.iadd, 1) := by decide +kernel
theorem dX8_notesEvent_14 : decode cX8_notesEvent 14 = .ok (.aload_n 1, 1) := by decide +kernel
theorem dX8_notesEvent_15 : decode cX8_notesEvent 15 = .ok (.iconst 0, 1) := by decide +kernel
theorem dX8_notesEvent_16 : decode cX8_notesEvent 16 = .ok (.iaload, 1) := by decide +kernel
theorem dX8_notesEvent_17 : decode cX8_notesEvent 17 = .ok (.iastore, 1) := by decide +kernel
theorem dX8_notesEvent_18 : decode cX8_notesEvent 18 = .ok (.aload_n 1, 1) := by decide +kernel
theorem dX8_notesEvent_19 : decode cX8_notesEvent 19 = .ok (.bipush 100, 2) := by decide +kernel
theorem dX8_notesEvent_21 : decode cX8_notesEvent 21 = .ok (.iload 4, 2) := by decide +kernel
theorem dX8_notesEvent_23 : decode cX8_notesEvent 23 = .ok (.iadd, 1) := by decide +kernel
theorem dX8_notesEvent_24 : decode cX8_notesEvent 24 = .ok (.iconst 2, 1) := by decide +kernel
theorem dX8_notesEvent_25 : decode cX8_notesEvent 25 = .ok (.iload_n 2, 1) := by decide +kernel
theorem dX8_notesEvent_26 : decode cX8_notesEvent 26 = .ok (.imul, 1) := by decide +kernel
theorem dX8_notesEvent_27 : decode cX8_notesEvent 27 = .ok (.iload_n 3, 1) := by decide +kernel
theorem dX8_notesEvent_28 : decode cX8_notesEvent 28 = .ok (.ifCond .eq 7, 3) := by decide +kernel
theorem dX8_notesEvent_31 : decode cX8_notesEvent 31 = .ok (.iconst 1, 1) := by decide +kernel
theorem dX8_notesEvent_32 : decode cX8_notesEvent 32 = .ok (.goto 4, 3) := by decide +kernel
theorem dX8_notesEvent_35 : decode cX8_notesEvent 35 = .ok (.iconst 0, 1) := by decide +kernel
theorem dX8_notesEvent_36 : decode cX8_notesEvent 36 = .ok (.iadd, 1) := by decide +kernel
theorem dX8_notesEvent_37 : decode cX8_notesEvent 37 = .ok (.iastore, 1) := by decide +kernel
theorem dX8_notesEvent_38 : decode cX8_notesEvent 38 = .ok (.aload_n 1, 1) := by decide +kernel
theorem dX8_notesEvent_39 : decode cX8_notesEvent 39 = .ok (.iconst 4, 1) := by decide +kernel
theorem dX8_notesEvent_40 : decode cX8_notesEvent 40 = .ok (.dup2, 1) := by decide +kernel
theorem dX8_notesEvent_41 : decode cX8_notesEvent 41 = .ok (.iaload, 1) := by decide +kernel
theorem dX8_notesEvent_42 : decode cX8_notesEvent 42 = .ok (.iconst 1, 1) := by decide +kernel
theorem dX8_notesEvent_43 : decode cX8_notesEvent 43 = .ok (.iadd, 1) := by decide +kernel
theorem dX8_notesEvent_44 : decode cX8_notesEvent 44 = .ok (.iastore, 1) := by decide +kernel
theorem dX8_notesEvent_45 : decode cX8_notesEvent 45 = .ok (.iconst 1, 1) := by decide +kernel
theorem dX8_notesEvent_46 : decode cX8_notesEvent 46 = .ok (.iload_n 3, 1) := by decide +kernel
theorem dX8_notesEvent_47 : decode cX8_notesEvent 47 = .ok (.ifCond .eq 7, 3) := by decide +kernel
theorem dX8_notesEvent_50 : decode cX8_notesEvent 50 = .ok (.iload_n 2, 1) := by decide +kernel
theorem dX8_notesEvent_51 : decode cX8_notesEvent 51 = .ok (.goto 7, 3) := by decide +kernel
theorem dX8_notesEvent_54 : decode cX8_notesEvent 54 = .ok (.bipush 6, 2) := by decide +kernel
theorem dX8_notesEvent_56 : decode cX8_notesEvent 56 = .ok (.iload_n 2, 1) := by decide +kernel
theorem dX8_notesEvent_57 : decode cX8_notesEvent 57 = .ok (.iadd, 1) := by decide +kernel
theorem dX8_notesEvent_58 : decode cX8_notesEvent 58 = .ok (.ishl, 1) := by decide +kernel
theorem dX8_notesEvent_59 : decode cX8_notesEvent 59 = .ok (.istore 5, 2) := by decide +kernel
theorem dX8_notesEvent_61 : decode cX8_notesEvent 61 = .ok (.aload_n 1, 1) := by decide +kernel
theorem dX8_notesEvent_62 : decode cX8_notesEvent 62 = .ok (.bipush 6, 2) := by decide +kernel
theorem dX8_notesEvent_64 : decode cX8_notesEvent 64 = .ok (.iaload, 1) := by decide +kernel
theorem dX8_notesEvent_65 : decode cX8_notesEvent 65 = .ok (.iconst 1, 1) := by decide +kernel
theorem dX8_notesEvent_66 : decode cX8_notesEvent 66 = .ok (.if_icmp .eq 13, 3) := by decide +kernel
theorem dX8_notesEvent_69 : decode cX8_notesEvent 69 = .ok (.aload_n 1, 1) := by decide +kernel
theorem dX8_notesEvent_70 : decode cX8_notesEvent 70 = .ok (.bipush 8, 2) := by decide +kernel
theorem dX8_notesEvent_72 : decode cX8_notesEvent 72 = .ok (.iaload, 1) := by decide +kernel
theorem dX8_notesEvent_73 : decode cX8_notesEvent 73 = .ok (.iload 5, 2) := by decide +kernel
theorem dX8_notesEvent_75 : decode cX8_notesEvent 75 = .ok (.iand, 1) := by decide +kernel
theorem dX8_notesEvent_76 : decode cX8_notesEvent 76 = .ok (.ifCond .ne 9, 3) := by decide +kernel
theorem dX8_notesEvent_79 : decode cX8_notesEvent 79 = .ok (.aload_n 1, 1) := by decide +kernel
theorem dX8_notesEvent_80 : decode cX8_notesEvent 80 = .ok (.bipush 6, 2) := by decide +kernel
theorem dX8_notesEvent_82 : decode cX8_notesEvent 82 = .ok (.iconst 1, 1) := by decide +kernel
theorem dX8_notesEvent_83 : decode cX8_notesEvent 83 = .ok (.iastore, 1) := by decide +kernel
theorem dX8_notesEvent_84 : decode cX8_notesEvent 84 = .ok (.return_, 1) := by decide +kernel
theorem dX8_notesEvent_85 : decode cX8_notesEvent 85 = .ok (.aload_n 1, 1) := by decide +kernel
theorem dX8_notesEvent_86 : decode cX8_notesEvent 86 = .ok (.iconst 5, 1) := by decide +kernel
theorem dX8_notesEvent_87 : decode cX8_notesEvent 87 = .ok (.dup2, 1) := by decide +kernel
theorem dX8_notesEvent_88 : decode cX8_notesEvent 88 = .ok (.iaload, 1) := by decide +kernel
theorem dX8_notesEvent_89 : decode cX8_notesEvent 89 = .ok (.iconst 1, 1) := by decide +kernel
theorem dX8_notesEvent_90 : decode cX8_notesEvent 90 = .ok (.iadd, 1) := by decide +kernel
theorem dX8_notesEvent_91 : decode cX8_notesEvent 91 = .ok (.iastore, 1) := by decide +kernel
theorem dX8_notesEvent_92 : decode cX8_notesEvent 92 = .ok (.aload_n 1, 1) := by decide +kernel
theorem dX8_notesEvent_93 : decode cX8_notesEvent 93 = .ok (.bipush 8, 2) := by decide +kernel
theorem dX8_notesEvent_95 : decode cX8_notesEvent 95 = .ok (.dup2, 1) := by decide +kernel
theorem dX8_notesEvent_96 : decode cX8_notesEvent 96 = .ok (.iaload, 1) := by decide +kernel
theorem dX8_notesEvent_97 : decode cX8_notesEvent 97 = .ok (.iload 5, 2) := by decide +kernel
theorem dX8_notesEvent_99 : decode cX8_notesEvent 99 = .ok (.iconst (-1), 1) := by decide +kernel
theorem dX8_notesEvent_100 : decode cX8_notesEvent 100 = .ok (.ixor, 1) := by decide +kernel
theorem dX8_notesEvent_101 : decode cX8_notesEvent 101 = .ok (.iand, 1) := by decide +kernel
theorem dX8_notesEvent_102 : decode cX8_notesEvent 102 = .ok (.iastore, 1) := by decide +kernel
theorem dX8_notesEvent_103 : decode cX8_notesEvent 103 = .ok (.aload_n 1, 1) := by decide +kernel
theorem dX8_notesEvent_104 : decode cX8_notesEvent 104 = .ok (.bipush 8, 2) := by decide +kernel
theorem dX8_notesEvent_106 : decode cX8_notesEvent 106 = .ok (.iaload, 1) := by decide +kernel
theorem dX8_notesEvent_107 : decode cX8_notesEvent 107 = .ok (.ifCond .eq 4, 3) := by decide +kernel
theorem dX8_notesEvent_110 : decode cX8_notesEvent 110 = .ok (.return_, 1) := by decide +kernel
theorem dX8_notesEvent_111 : decode cX8_notesEvent 111 = .ok (.aload_n 1, 1) := by decide +kernel
theorem dX8_notesEvent_112 : decode cX8_notesEvent 112 = .ok (.bipush 7, 2) := by decide +kernel
theorem dX8_notesEvent_114 : decode cX8_notesEvent 114 = .ok (.iaload, 1) := by decide +kernel
theorem dX8_notesEvent_115 : decode cX8_notesEvent 115 = .ok (.istore 6, 2) := by decide +kernel
theorem dX8_notesEvent_117 : decode cX8_notesEvent 117 = .ok (.iload 6, 2) := by decide +kernel
theorem dX8_notesEvent_119 : decode cX8_notesEvent 119 = .ok (.iconst 1, 1) := by decide +kernel
theorem dX8_notesEvent_120 : decode cX8_notesEvent 120 = .ok (.iadd, 1) := by decide +kernel
theorem dX8_notesEvent_121 : decode cX8_notesEvent 121 = .ok (.aload_n 0, 1) := by decide +kernel
theorem dX8_notesEvent_122 : decode cX8_notesEvent 122 = .ok (.getfield 104, 3) := by decide +kernel
theorem dX8_notesEvent_125 : decode cX8_notesEvent 125 = .ok (.if_icmp .ge 10, 3) := by decide +kernel
theorem dX8_notesEvent_128 : decode cX8_notesEvent 128 = .ok (.iload 6, 2) := by decide +kernel
theorem dX8_notesEvent_130 : decode cX8_notesEvent 130 = .ok (.iconst 1, 1) := by decide +kernel
theorem dX8_notesEvent_131 : decode cX8_notesEvent 131 = .ok (.iadd, 1) := by decide +kernel
theorem dX8_notesEvent_132 : decode cX8_notesEvent 132 = .ok (.goto 4, 3) := by decide +kernel
theorem dX8_notesEvent_135 : decode cX8_notesEvent 135 = .ok (.iconst 0, 1) := by decide +kernel
theorem dX8_notesEvent_136 : decode cX8_notesEvent 136 = .ok (.istore 6, 2) := by decide +kernel
theorem dX8_notesEvent_138 : decode cX8_notesEvent 138 = .ok (.aload_n 0, 1) := by decide +kernel
theorem dX8_notesEvent_139 : decode cX8_notesEvent 139 = .ok (.getfield 25, 3) := by decide +kernel
theorem dX8_notesEvent_142 : decode cX8_notesEvent 142 = .ok (.iload 6, 2) := by decide +kernel
theorem dX8_notesEvent_144 : decode cX8_notesEvent 144 = .ok (.iaload, 1) := by decide +kernel
theorem dX8_notesEvent_145 : decode cX8_notesEvent 145 = .ok (.ifCond .le 27, 3) := by decide +kernel
theorem dX8_notesEvent_148 : decode cX8_notesEvent 148 = .ok (.iload 6, 2) := by decide +kernel
theorem dX8_notesEvent_150 : decode cX8_notesEvent 150 = .ok (.iconst 1, 1) := by decide +kernel
theorem dX8_notesEvent_151 : decode cX8_notesEvent 151 = .ok (.iadd, 1) := by decide +kernel
theorem dX8_notesEvent_152 : decode cX8_notesEvent 152 = .ok (.aload_n 0, 1) := by decide +kernel
theorem dX8_notesEvent_153 : decode cX8_notesEvent 153 = .ok (.getfield 104, 3) := by decide +kernel
theorem dX8_notesEvent_156 : decode cX8_notesEvent 156 = .ok (.if_icmp .ge 10, 3) := by decide +kernel
theorem dX8_notesEvent_159 : decode cX8_notesEvent 159 = .ok (.iload 6, 2) := by decide +kernel
theorem dX8_notesEvent_161 : decode cX8_notesEvent 161 = .ok (.iconst 1, 1) := by decide +kernel
theorem dX8_notesEvent_162 : decode cX8_notesEvent 162 = .ok (.iadd, 1) := by decide +kernel
theorem dX8_notesEvent_163 : decode cX8_notesEvent 163 = .ok (.goto 4, 3) := by decide +kernel
theorem dX8_notesEvent_166 : decode cX8_notesEvent 166 = .ok (.iconst 0, 1) := by decide +kernel
theorem dX8_notesEvent_167 : decode cX8_notesEvent 167 = .ok (.istore 6, 2) := by decide +kernel
theorem dX8_notesEvent_169 : decode cX8_notesEvent 169 = .ok (.goto (-31), 3) := by decide +kernel
theorem dX8_notesEvent_172 : decode cX8_notesEvent 172 = .ok (.aload_n 1, 1) := by decide +kernel
theorem dX8_notesEvent_173 : decode cX8_notesEvent 173 = .ok (.bipush 7, 2) := by decide +kernel
theorem dX8_notesEvent_175 : decode cX8_notesEvent 175 = .ok (.iload 6, 2) := by decide +kernel
theorem dX8_notesEvent_177 : decode cX8_notesEvent 177 = .ok (.iastore, 1) := by decide +kernel
theorem dX8_notesEvent_178 : decode cX8_notesEvent 178 = .ok (.aload_n 1, 1) := by decide +kernel
theorem dX8_notesEvent_179 : decode cX8_notesEvent 179 = .ok (.bipush 8, 2) := by decide +kernel
theorem dX8_notesEvent_181 : decode cX8_notesEvent 181 = .ok (.aload_n 0, 1) := by decide +kernel
theorem dX8_notesEvent_182 : decode cX8_notesEvent 182 = .ok (.iload 6, 2) := by decide +kernel
theorem dX8_notesEvent_184 : decode cX8_notesEvent 184 = .ok (.invokevirtual 152, 3) := by decide +kernel
theorem dX8_notesEvent_187 : decode cX8_notesEvent 187 = .ok (.iastore, 1) := by decide +kernel
theorem dX8_notesEvent_188 : decode cX8_notesEvent 188 = .ok (.iload 6, 2) := by decide +kernel
theorem dX8_notesEvent_190 : decode cX8_notesEvent 190 = .ok (.aload_n 0, 1) := by decide +kernel
theorem dX8_notesEvent_191 : decode cX8_notesEvent 191 = .ok (.invokevirtual 148, 3) := by decide +kernel
theorem dX8_notesEvent_194 : decode cX8_notesEvent 194 = .ok (.if_icmp .ne 55, 3) := by decide +kernel
theorem dX8_notesEvent_197 : decode cX8_notesEvent 197 = .ok (.aload_n 1, 1) := by decide +kernel
theorem dX8_notesEvent_198 : decode cX8_notesEvent 198 = .ok (.bipush 9, 2) := by decide +kernel
theorem dX8_notesEvent_200 : decode cX8_notesEvent 200 = .ok (.dup2, 1) := by decide +kernel
theorem dX8_notesEvent_201 : decode cX8_notesEvent 201 = .ok (.iaload, 1) := by decide +kernel
theorem dX8_notesEvent_202 : decode cX8_notesEvent 202 = .ok (.iconst 1, 1) := by decide +kernel
theorem dX8_notesEvent_203 : decode cX8_notesEvent 203 = .ok (.iadd, 1) := by decide +kernel
theorem dX8_notesEvent_204 : decode cX8_notesEvent 204 = .ok (.iastore, 1) := by decide +kernel
theorem dX8_notesEvent_205 : decode cX8_notesEvent 205 = .ok (.aload_n 1, 1) := by decide +kernel
theorem dX8_notesEvent_206 : decode cX8_notesEvent 206 = .ok (.bipush 11, 2) := by decide +kernel
theorem dX8_notesEvent_208 : decode cX8_notesEvent 208 = .ok (.aload_n 1, 1) := by decide +kernel
theorem dX8_notesEvent_209 : decode cX8_notesEvent 209 = .ok (.bipush 9, 2) := by decide +kernel
theorem dX8_notesEvent_211 : decode cX8_notesEvent 211 = .ok (.iaload, 1) := by decide +kernel
theorem dX8_notesEvent_212 : decode cX8_notesEvent 212 = .ok (.iconst 1, 1) := by decide +kernel
theorem dX8_notesEvent_213 : decode cX8_notesEvent 213 = .ok (.if_icmp .ne 9, 3) := by decide +kernel
theorem dX8_notesEvent_216 : decode cX8_notesEvent 216 = .ok (.aload_n 1, 1) := by decide +kernel
theorem dX8_notesEvent_217 : decode cX8_notesEvent 217 = .ok (.iconst 0, 1) := by decide +kernel
theorem dX8_notesEvent_218 : decode cX8_notesEvent 218 = .ok (.iaload, 1) := by decide +kernel
theorem dX8_notesEvent_219 : decode cX8_notesEvent 219 = .ok (.goto 7, 3) := by decide +kernel
theorem dX8_notesEvent_222 : decode cX8_notesEvent 222 = .ok (.aload_n 1, 1) := by decide +kernel
theorem dX8_notesEvent_223 : decode cX8_notesEvent 223 = .ok (.bipush 11, 2) := by decide +kernel
theorem dX8_notesEvent_225 : decode cX8_notesEvent 225 = .ok (.iaload, 1) := by decide +kernel
theorem dX8_notesEvent_226 : decode cX8_notesEvent 226 = .ok (.iastore, 1) := by decide +kernel
theorem dX8_notesEvent_227 : decode cX8_notesEvent 227 = .ok (.aload_n 1, 1) := by decide +kernel
theorem dX8_notesEvent_228 : decode cX8_notesEvent 228 = .ok (.bipush 12, 2) := by decide +kernel
theorem dX8_notesEvent_230 : decode cX8_notesEvent 230 = .ok (.aload_n 1, 1) := by decide +kernel
theorem dX8_notesEvent_231 : decode cX8_notesEvent 231 = .ok (.bipush 9, 2) := by decide +kernel
theorem dX8_notesEvent_233 : decode cX8_notesEvent 233 = .ok (.iaload, 1) := by decide +kernel
theorem dX8_notesEvent_234 : decode cX8_notesEvent 234 = .ok (.iconst 2, 1) := by decide +kernel
theorem dX8_notesEvent_235 : decode cX8_notesEvent 235 = .ok (.if_icmp .ne 9, 3) := by decide +kernel
theorem dX8_notesEvent_238 : decode cX8_notesEvent 238 = .ok (.aload_n 1, 1) := by decide +kernel
theorem dX8_notesEvent_239 : decode cX8_notesEvent 239 = .ok (.iconst 0, 1) := by decide +kernel
theorem dX8_notesEvent_240 : decode cX8_notesEvent 240 = .ok (.iaload, 1) := by decide +kernel
theorem dX8_notesEvent_241 : decode cX8_notesEvent 241 = .ok (.goto 7, 3) := by decide +kernel
theorem dX8_notesEvent_244 : decode cX8_notesEvent 244 = .ok (.aload_n 1, 1) := by decide +kernel
theorem dX8_notesEvent_245 : decode cX8_notesEvent 245 = .ok (.bipush 12, 2) := by decide +kernel
theorem dX8_notesEvent_247 : decode cX8_notesEvent 247 = .ok (.iaload, 1) := by decide +kernel
theorem dX8_notesEvent_248 : decode cX8_notesEvent 248 = .ok (.iastore, 1) := by decide +kernel
theorem dX8_notesEvent_249 : decode cX8_notesEvent 249 = .ok (.return_, 1) := by decide +kernel
theorem dX8_ticksOnce_0 : decode cX8_ticksOnce 0 = .ok (.aload_n 0, 1) := by decide +kernel
theorem dX8_ticksOnce_1 : decode cX8_ticksOnce 1 = .ok (.aload_n 1, 1) := by decide +kernel
theorem dX8_ticksOnce_2 : decode cX8_ticksOnce 2 = .ok (.invokevirtual 163, 3) := by decide +kernel
theorem dX8_ticksOnce_5 : decode cX8_ticksOnce 5 = .ok (.istore_n 2, 1) := by decide +kernel
theorem dX8_ticksOnce_6 : decode cX8_ticksOnce 6 = .ok (.iconst 0, 1) := by decide +kernel
theorem dX8_ticksOnce_7 : decode cX8_ticksOnce 7 = .ok (.istore_n 3, 1) := by decide +kernel
theorem dX8_ticksOnce_8 : decode cX8_ticksOnce 8 = .ok (.iconst 0, 1) := by decide +kernel
theorem dX8_ticksOnce_9 : decode cX8_ticksOnce 9 = .ok (.istore 4, 2) := by decide +kernel
theorem dX8_ticksOnce_11 : decode cX8_ticksOnce 11 = .ok (.iload 4, 2) := by decide +kernel
theorem dX8_ticksOnce_13 : decode cX8_ticksOnce 13 = .ok (.bipush 6, 2) := by decide +kernel
theorem dX8_ticksOnce_15 : decode cX8_ticksOnce 15 = .ok (.if_icmp .ge 157, 3) := by decide +kernel
theorem dX8_ticksOnce_18 : decode cX8_ticksOnce 18 = .ok (.iconst 0, 1) := by decide +kernel
theorem dX8_ticksOnce_19 : decode cX8_ticksOnce 19 = .ok (.istore 5, 2) := by decide +kernel
theorem dX8_ticksOnce_21 : decode cX8_ticksOnce 21 = .ok (.iconst 0, 1) := by decide +kernel
theorem dX8_ticksOnce_22 : decode cX8_ticksOnce 22 = .ok (.istore 6, 2) := by decide +kernel
theorem dX8_ticksOnce_24 : decode cX8_ticksOnce 24 = .ok (.iload 6, 2) := by decide +kernel
theorem dX8_ticksOnce_26 : decode cX8_ticksOnce 26 = .ok (.aload_n 0, 1) := by decide +kernel
theorem dX8_ticksOnce_27 : decode cX8_ticksOnce 27 = .ok (.getfield 104, 3) := by decide +kernel
theorem dX8_ticksOnce_30 : decode cX8_ticksOnce 30 = .ok (.if_icmp .ge 57, 3) := by decide +kernel
theorem dX8_ticksOnce_33 : decode cX8_ticksOnce 33 = .ok (.iload_n 2, 1) := by decide +kernel
theorem dX8_ticksOnce_34 : decode cX8_ticksOnce 34 = .ok (.iload 6, 2) := by decide +kernel
theorem dX8_ticksOnce_36 : decode cX8_ticksOnce 36 = .ok (.ishr, 1) := by decide +kernel
theorem dX8_ticksOnce_37 : decode cX8_ticksOnce 37 = .ok (.iconst 1, 1) := by decide +kernel
theorem dX8_ticksOnce_38 : decode cX8_ticksOnce 38 = .ok (.iand, 1) := by decide +kernel
theorem dX8_ticksOnce_39 : decode cX8_ticksOnce 39 = .ok (.iconst 1, 1) := by decide +kernel
theorem dX8_ticksOnce_40 : decode cX8_ticksOnce 40 = .ok (.if_icmp .ne 14, 3) := by decide +kernel
theorem dX8_ticksOnce_43 : decode cX8_ticksOnce 43 = .ok (.aload_n 0, 1) := by decide +kernel
theorem dX8_ticksOnce_44 : decode cX8_ticksOnce 44 = .ok (.iload 6, 2) := by decide +kernel
theorem dX8_ticksOnce_46 : decode cX8_ticksOnce 46 = .ok (.iload 4, 2) := by decide +kernel
theorem dX8_ticksOnce_48 : decode cX8_ticksOnce 48 = .ok (.invokevirtual 113, 3) := by decide +kernel
theorem dX8_ticksOnce_51 : decode cX8_ticksOnce 51 = .ok (.goto 4, 3) := by decide +kernel
theorem dX8_ticksOnce_54 : decode cX8_ticksOnce 54 = .ok (.iconst 0, 1) := by decide +kernel
theorem dX8_ticksOnce_55 : decode cX8_ticksOnce 55 = .ok (.istore 7, 2) := by decide +kernel
theorem dX8_ticksOnce_57 : decode cX8_ticksOnce 57 = .ok (.iload 5, 2) := by decide +kernel
theorem dX8_ticksOnce_59 : decode cX8_ticksOnce 59 = .ok (.iload 7, 2) := by decide +kernel
theorem dX8_ticksOnce_61 : decode cX8_ticksOnce 61 = .ok (.ifCond .le 7, 3) := by decide +kernel
theorem dX8_ticksOnce_64 : decode cX8_ticksOnce 64 = .ok (.iconst 1, 1) := by decide +kernel
theorem dX8_ticksOnce_65 : decode cX8_ticksOnce 65 = .ok (.goto 13, 3) := by decide +kernel
theorem dX8_ticksOnce_68 : decode cX8_ticksOnce 68 = .ok (.iload 7, 2) := by decide +kernel
theorem dX8_ticksOnce_70 : decode cX8_ticksOnce 70 = .ok (.ifCond .ge 7, 3) := by decide +kernel
theorem dX8_ticksOnce_73 : decode cX8_ticksOnce 73 = .ok (.iconst 2, 1) := by decide +kernel
theorem dX8_ticksOnce_74 : decode cX8_ticksOnce 74 = .ok (.goto 4, 3) := by decide +kernel
theorem dX8_ticksOnce_77 : decode cX8_ticksOnce 77 = .ok (.iconst 0, 1) := by decide +kernel
theorem dX8_ticksOnce_78 : decode cX8_ticksOnce 78 = .ok (.ior, 1) := by decide +kernel
theorem dX8_ticksOnce_79 : decode cX8_ticksOnce 79 = .ok (.istore 5, 2) := by decide +kernel
theorem dX8_ticksOnce_81 : decode cX8_ticksOnce 81 = .ok (.iinc 6 1, 3) := by decide +kernel
theorem dX8_ticksOnce_84 : decode cX8_ticksOnce 84 = .ok (.goto (-60), 3) := by decide +kernel
theorem dX8_ticksOnce_87 : decode cX8_ticksOnce 87 = .ok (.aload_n 1, 1) := by decide +kernel
theorem dX8_ticksOnce_88 : decode cX8_ticksOnce 88 = .ok (.bipush 32, 2) := by decide +kernel
theorem dX8_ticksOnce_90 : decode cX8_ticksOnce 90 = .ok (.iload 4, 2) := by decide +kernel
theorem dX8_ticksOnce_92 : decode cX8_ticksOnce 92 = .ok (.iadd, 1) := by decide +kernel
theorem dX8_ticksOnce_93 : decode cX8_ticksOnce 93 = .ok (.iload 5, 2) := by decide +kernel
theorem dX8_ticksOnce_95 : decode cX8_ticksOnce 95 = .ok (.iastore, 1) := by decide +kernel
theorem dX8_ticksOnce_96 : decode cX8_ticksOnce 96 = .ok (.iload 5, 2) := by decide +kernel
theorem dX8_ticksOnce_98 : decode cX8_ticksOnce 98 = .ok (.iconst 1, 1) := by decide +kernel
theorem dX8_ticksOnce_99 : decode cX8_ticksOnce 99 = .ok (.if_icmp .ne 7, 3) := by decide +kernel
theorem dX8_ticksOnce_102 : decode cX8_ticksOnce 102 = .ok (.iconst 1, 1) := by decide +kernel
theorem dX8_ticksOnce_103 : decode cX8_ticksOnce 103 = .ok (.goto 20, 3) := by decide +kernel
theorem dX8_ticksOnce_106 : decode cX8_ticksOnce 106 = .ok (.iload 5, 2) := by decide +kernel
theorem dX8_ticksOnce_108 : decode cX8_ticksOnce 108 = .ok (.iconst 2, 1) := by decide +kernel
theorem dX8_ticksOnce_109 : decode cX8_ticksOnce 109 = .ok (.if_icmp .ne 7, 3) := by decide +kernel
theorem dX8_ticksOnce_112 : decode cX8_ticksOnce 112 = .ok (.iconst 0, 1) := by decide +kernel
theorem dX8_ticksOnce_113 : decode cX8_ticksOnce 113 = .ok (.goto 10, 3) := by decide +kernel
theorem dX8_ticksOnce_116 : decode cX8_ticksOnce 116 = .ok (.aload_n 1, 1) := by decide +kernel
theorem dX8_ticksOnce_117 : decode cX8_ticksOnce 117 = .ok (.bipush 26, 2) := by decide +kernel
theorem dX8_ticksOnce_119 : decode cX8_ticksOnce 119 = .ok (.iload 4, 2) := by decide +kernel
theorem dX8_ticksOnce_121 : decode cX8_ticksOnce 121 = .ok (.iadd, 1) := by decide +kernel
theorem dX8_ticksOnce_122 : decode cX8_ticksOnce 122 = .ok (.iaload, 1) := by decide +kernel
theorem dX8_ticksOnce_123 : decode cX8_ticksOnce 123 = .ok (.istore 6, 2) := by decide +kernel
theorem dX8_ticksOnce_125 : decode cX8_ticksOnce 125 = .ok (.iload 6, 2) := by decide +kernel
theorem dX8_ticksOnce_127 : decode cX8_ticksOnce 127 = .ok (.aload_n 1, 1) := by decide +kernel
theorem dX8_ticksOnce_128 : decode cX8_ticksOnce 128 = .ok (.bipush 26, 2) := by decide +kernel
theorem dX8_ticksOnce_130 : decode cX8_ticksOnce 130 = .ok (.iload 4, 2) := by decide +kernel
theorem dX8_ticksOnce_132 : decode cX8_ticksOnce 132 = .ok (.iadd, 1) := by decide +kernel
theorem dX8_ticksOnce_133 : decode cX8_ticksOnce 133 = .ok (.iaload, 1) := by decide +kernel
theorem dX8_ticksOnce_134 : decode cX8_ticksOnce 134 = .ok (.if_icmp .eq 32, 3) := by decide +kernel
theorem dX8_ticksOnce_137 : decode cX8_ticksOnce 137 = .ok (.aload_n 1, 1) := by decide +kernel
theorem dX8_ticksOnce_138 : decode cX8_ticksOnce 138 = .ok (.bipush 26, 2) := by decide +kernel
theorem dX8_ticksOnce_140 : decode cX8_ticksOnce 140 = .ok (.iload 4, 2) := by decide +kernel
theorem dX8_ticksOnce_142 : decode cX8_ticksOnce 142 = .ok (.iadd, 1) := by decide +kernel
theorem dX8_ticksOnce_143 : decode cX8_ticksOnce 143 = .ok (.iload 6, 2) := by decide +kernel
theorem dX8_ticksOnce_145 : decode cX8_ticksOnce 145 = .ok (.iastore, 1) := by decide +kernel
theorem dX8_ticksOnce_146 : decode cX8_ticksOnce 146 = .ok (.iconst 1, 1) := by decide +kernel
theorem dX8_ticksOnce_147 : decode cX8_ticksOnce 147 = .ok (.istore_n 3, 1) := by decide +kernel
theorem dX8_ticksOnce_148 : decode cX8_ticksOnce 148 = .ok (.aload_n 0, 1) := by decide +kernel
theorem dX8_ticksOnce_149 : decode cX8_ticksOnce 149 = .ok (.aload_n 1, 1) := by decide +kernel
theorem dX8_ticksOnce_150 : decode cX8_ticksOnce 150 = .ok (.iload 4, 2) := by decide +kernel
theorem dX8_ticksOnce_152 : decode cX8_ticksOnce 152 = .ok (.iload 6, 2) := by decide +kernel
theorem dX8_ticksOnce_154 : decode cX8_ticksOnce 154 = .ok (.iconst 1, 1) := by decide +kernel
theorem dX8_ticksOnce_155 : decode cX8_ticksOnce 155 = .ok (.if_icmp .ne 7, 3) := by decide +kernel
theorem dX8_ticksOnce_158 : decode cX8_ticksOnce 158 = .ok (.iconst 1, 1) := by decide +kernel
theorem dX8_ticksOnce_159 : decode cX8_ticksOnce 159 = .ok (.goto 4, 3) := by decide +kernel
theorem dX8_ticksOnce_162 : decode cX8_ticksOnce 162 = .ok (.iconst 0, 1) := by decide +kernel
theorem dX8_ticksOnce_163 : decode cX8_ticksOnce 163 = .ok (.invokevirtual 167, 3) := by decide +kernel
theorem dX8_ticksOnce_166 : decode cX8_ticksOnce 166 = .ok (.iinc 4 1, 3) := by decide +kernel
theorem dX8_ticksOnce_169 : decode cX8_ticksOnce 169 = .ok (.goto (-158), 3) := by decide +kernel
theorem dX8_ticksOnce_172 : decode cX8_ticksOnce 172 = .ok (.iconst 0, 1) := by decide +kernel
theorem dX8_ticksOnce_173 : decode cX8_ticksOnce 173 = .ok (.istore 4, 2) := by decide +kernel
theorem dX8_ticksOnce_175 : decode cX8_ticksOnce 175 = .ok (.iload 4, 2) := by decide +kernel
theorem dX8_ticksOnce_177 : decode cX8_ticksOnce 177 = .ok (.bipush 6, 2) := by decide +kernel
theorem dX8_ticksOnce_179 : decode cX8_ticksOnce 179 = .ok (.if_icmp .ge 108, 3) := by decide +kernel
theorem dX8_ticksOnce_182 : decode cX8_ticksOnce 182 = .ok (.aload_n 1, 1) := by decide +kernel
theorem dX8_ticksOnce_183 : decode cX8_ticksOnce 183 = .ok (.bipush 26, 2) := by decide +kernel
theorem dX8_ticksOnce_185 : decode cX8_ticksOnce 185 = .ok (.iload 4, 2) := by decide +kernel
theorem dX8_ticksOnce_187 : decode cX8_ticksOnce 187 = .ok (.iadd, 1) := by decide +kernel
theorem dX8_ticksOnce_188 : decode cX8_ticksOnce 188 = .ok (.iaload, 1) := by decide +kernel
theorem dX8_ticksOnce_189 : decode cX8_ticksOnce 189 = .ok (.iconst 1, 1) := by decide +kernel
theorem dX8_ticksOnce_190 : decode cX8_ticksOnce 190 = .ok (.if_icmp .ne 13, 3) := by decide +kernel
theorem dX8_ticksOnce_193 : decode cX8_ticksOnce 193 = .ok (.aload_n 0, 1) := by decide +kernel
theorem dX8_ticksOnce_194 : decode cX8_ticksOnce 194 = .ok (.getfield 16, 3) := by decide +kernel
theorem dX8_ticksOnce_197 : decode cX8_ticksOnce 197 = .ok (.iload 4, 2) := by decide +kernel
theorem dX8_ticksOnce_199 : decode cX8_ticksOnce 199 = .ok (.iaload, 1) := by decide +kernel
theorem dX8_ticksOnce_200 : decode cX8_ticksOnce 200 = .ok (.goto 4, 3) := by decide +kernel
theorem dX8_ticksOnce_203 : decode cX8_ticksOnce 203 = .ok (.iconst 0, 1) := by decide +kernel
theorem dX8_ticksOnce_204 : decode cX8_ticksOnce 204 = .ok (.istore 5, 2) := by decide +kernel
theorem dX8_ticksOnce_206 : decode cX8_ticksOnce 206 = .ok (.aload_n 1, 1) := by decide +kernel
theorem dX8_ticksOnce_207 : decode cX8_ticksOnce 207 = .ok (.bipush 38, 2) := by decide +kernel
theorem dX8_ticksOnce_209 : decode cX8_ticksOnce 209 = .ok (.iload 4, 2) := by decide +kernel
theorem dX8_ticksOnce_211 : decode cX8_ticksOnce 211 = .ok (.iadd, 1) := by decide +kernel
theorem dX8_ticksOnce_212 : decode cX8_ticksOnce 212 = .ok (.iaload, 1) := by decide +kernel
theorem dX8_ticksOnce_213 : decode cX8_ticksOnce 213 = .ok (.iconst 1, 1) := by decide +kernel
theorem dX8_ticksOnce_214 : decode cX8_ticksOnce 214 = .ok (.iand, 1) := by decide +kernel
theorem dX8_ticksOnce_215 : decode cX8_ticksOnce 215 = .ok (.iconst 1, 1) := by decide +kernel
theorem dX8_ticksOnce_216 : decode cX8_ticksOnce 216 = .ok (.if_icmp .eq 15, 3) := by decide +kernel
theorem dX8_ticksOnce_219 : decode cX8_ticksOnce 219 = .ok (.aload_n 1, 1) := by decide +kernel
theorem dX8_ticksOnce_220 : decode cX8_ticksOnce 220 = .ok (.bipush 20, 2) := by decide +kernel
theorem dX8_ticksOnce_222 : decode cX8_ticksOnce 222 = .ok (.iload 4, 2) := by decide +kernel
theorem dX8_ticksOnce_224 : decode cX8_ticksOnce 224 = .ok (.iadd, 1) := by decide +kernel
theorem dX8_ticksOnce_225 : decode cX8_ticksOnce 225 = .ok (.iaload, 1) := by decide +kernel
theorem dX8_ticksOnce_226 : decode cX8_ticksOnce 226 = .ok (.iload 5, 2) := by decide +kernel
theorem dX8_ticksOnce_228 : decode cX8_ticksOnce 228 = .ok (.if_icmp .ne 7, 3) := by decide +kernel
theorem dX8_ticksOnce_231 : decode cX8_ticksOnce 231 = .ok (.iconst 0, 1) := by decide +kernel
theorem dX8_ticksOnce_232 : decode cX8_ticksOnce 232 = .ok (.goto 20, 3) := by decide +kernel
theorem dX8_ticksOnce_235 : decode cX8_ticksOnce 235 = .ok (.aload_n 1, 1) := by decide +kernel
theorem dX8_ticksOnce_236 : decode cX8_ticksOnce 236 = .ok (.bipush 20, 2) := by decide +kernel
theorem dX8_ticksOnce_238 : decode cX8_ticksOnce 238 = .ok (.iload 4, 2) := by decide +kernel
theorem dX8_ticksOnce_240 : decode cX8_ticksOnce 240 = .ok (.iadd, 1) := by decide +kernel
theorem dX8_ticksOnce_241 : decode cX8_ticksOnce 241 = .ok (.iaload, 1) := by decide +kernel
theorem dX8_ticksOnce_242 : decode cX8_ticksOnce 242 = .ok (.iload 5, 2) := by decide +kernel
theorem dX8_ticksOnce_244 : decode cX8_ticksOnce 244 = .ok (.if_icmp .ge 7, 3) := by decide +kernel
theorem dX8_ticksOnce_247 : decode cX8_ticksOnce 247 = .ok (.iconst 1, 1) := by decide +kernel
theorem dX8_ticksOnce_248 : decode cX8_ticksOnce 248 = .ok (.goto 4, 3) := by decide +kernel
theorem dX8_ticksOnce_251 : decode cX8_ticksOnce 251 = .ok (.iconst (-1), 1) := by decide +kernel
theorem dX8_ticksOnce_252 : decode cX8_ticksOnce 252 = .ok (.istore 6, 2) := by decide +kernel
theorem dX8_ticksOnce_254 : decode cX8_ticksOnce 254 = .ok (.aload_n 1, 1) := by decide +kernel
theorem dX8_ticksOnce_255 : decode cX8_ticksOnce 255 = .ok (.bipush 20, 2) := by decide +kernel
theorem dX8_ticksOnce_257 : decode cX8_ticksOnce 257 = .ok (.iload 4, 2) := by decide +kernel
theorem dX8_ticksOnce_259 : decode cX8_ticksOnce 259 = .ok (.iadd, 1) := by decide +kernel
theorem dX8_ticksOnce_260 : decode cX8_ticksOnce 260 = .ok (.dup2, 1) := by decide +kernel
theorem dX8_ticksOnce_261 : decode cX8_ticksOnce 261 = .ok (.iaload, 1) := by decide +kernel
theorem dX8_ticksOnce_262 : decode cX8_ticksOnce 262 = .ok (.iload 6, 2) := by decide +kernel
theorem dX8_ticksOnce_264 : decode cX8_ticksOnce 264 = .ok (.iadd, 1) := by decide +kernel
theorem dX8_ticksOnce_265 : decode cX8_ticksOnce 265 = .ok (.iastore, 1) := by decide +kernel
theorem dX8_ticksOnce_266 : decode cX8_ticksOnce 266 = .ok (.iload_n 3, 1) := by decide +kernel
theorem dX8_ticksOnce_267 : decode cX8_ticksOnce 267 = .ok (.ifCond .ne 8, 3) := by decide +kernel
theorem dX8_ticksOnce_270 : decode cX8_ticksOnce 270 = .ok (.iload 6, 2) := by decide +kernel
theorem dX8_ticksOnce_272 : decode cX8_ticksOnce 272 = .ok (.ifCond .eq 7, 3) := by decide +kernel
theorem dX8_ticksOnce_275 : decode cX8_ticksOnce 275 = .ok (.iconst 1, 1) := by decide +kernel
theorem dX8_ticksOnce_276 : decode cX8_ticksOnce 276 = .ok (.goto 4, 3) := by decide +kernel
theorem dX8_ticksOnce_279 : decode cX8_ticksOnce 279 = .ok (.iconst 0, 1) := by decide +kernel
theorem dX8_ticksOnce_280 : decode cX8_ticksOnce 280 = .ok (.istore_n 3, 1) := by decide +kernel
theorem dX8_ticksOnce_281 : decode cX8_ticksOnce 281 = .ok (.iinc 4 1, 3) := by decide +kernel
theorem dX8_ticksOnce_284 : decode cX8_ticksOnce 284 = .ok (.goto (-109), 3) := by decide +kernel
theorem dX8_ticksOnce_287 : decode cX8_ticksOnce 287 = .ok (.iconst 0, 1) := by decide +kernel
theorem dX8_ticksOnce_288 : decode cX8_ticksOnce 288 = .ok (.istore 4, 2) := by decide +kernel
theorem dX8_ticksOnce_290 : decode cX8_ticksOnce 290 = .ok (.iload 4, 2) := by decide +kernel
theorem dX8_ticksOnce_292 : decode cX8_ticksOnce 292 = .ok (.aload_n 0, 1) := by decide +kernel
theorem dX8_ticksOnce_293 : decode cX8_ticksOnce 293 = .ok (.getfield 104, 3) := by decide +kernel
theorem dX8_ticksOnce_296 : decode cX8_ticksOnce 296 = .ok (.if_icmp .ge 77, 3) := by decide +kernel
theorem dX8_ticksOnce_299 : decode cX8_ticksOnce 299 = .ok (.aload_n 1, 1) := by decide +kernel
theorem dX8_ticksOnce_300 : decode cX8_ticksOnce 300 = .ok (.bipush 44, 2) := by decide +kernel
theorem dX8_ticksOnce_302 : decode cX8_ticksOnce 302 = .ok (.iload 4, 2) := by decide +kernel
theorem dX8_ticksOnce_304 : decode cX8_ticksOnce 304 = .ok (.iadd, 1) := by decide +kernel
theorem dX8_ticksOnce_305 : decode cX8_ticksOnce 305 = .ok (.iaload, 1) := by decide +kernel
theorem dX8_ticksOnce_306 : decode cX8_ticksOnce 306 = .ok (.istore 5, 2) := by decide +kernel
theorem dX8_ticksOnce_308 : decode cX8_ticksOnce 308 = .ok (.aload_n 0, 1) := by decide +kernel
theorem dX8_ticksOnce_309 : decode cX8_ticksOnce 309 = .ok (.getfield 25, 3) := by decide +kernel
theorem dX8_ticksOnce_312 : decode cX8_ticksOnce 312 = .ok (.iload 4, 2) := by decide +kernel
theorem dX8_ticksOnce_314 : decode cX8_ticksOnce 314 = .ok (.iaload, 1) := by decide +kernel
theorem dX8_ticksOnce_315 : decode cX8_ticksOnce 315 = .ok (.ifCond .le 17, 3) := by decide +kernel
theorem dX8_ticksOnce_318 : decode cX8_ticksOnce 318 = .ok (.iload_n 2, 1) := by decide +kernel
theorem dX8_ticksOnce_319 : decode cX8_ticksOnce 319 = .ok (.iload 4, 2) := by decide +kernel
theorem dX8_ticksOnce_321 : decode cX8_ticksOnce 321 = .ok (.ishr, 1) := by decide +kernel
theorem dX8_ticksOnce_322 : decode cX8_ticksOnce 322 = .ok (.iconst 1, 1) := by decide +kernel
theorem dX8_ticksOnce_323 : decode cX8_ticksOnce 323 = .ok (.iand, 1) := by decide +kernel
theorem dX8_ticksOnce_324 : decode cX8_ticksOnce 324 = .ok (.iconst 1, 1) := by decide +kernel
theorem dX8_ticksOnce_325 : decode cX8_ticksOnce 325 = .ok (.if_icmp .ne 7, 3) := by decide +kernel
theorem dX8_ticksOnce_328 : decode cX8_ticksOnce 328 = .ok (.iconst 1, 1) := by decide +kernel
theorem dX8_ticksOnce_329 : decode cX8_ticksOnce 329 = .ok (.goto 4, 3) := by decide +kernel
theorem dX8_ticksOnce_332 : decode cX8_ticksOnce 332 = .ok (.iconst 0, 1) := by decide +kernel
theorem dX8_ticksOnce_333 : decode cX8_ticksOnce 333 = .ok (.istore 6, 2) := by decide +kernel
theorem dX8_ticksOnce_335 : decode cX8_ticksOnce 335 = .ok (.aload_n 1, 1) := by decide +kernel
theorem dX8_ticksOnce_336 : decode cX8_ticksOnce 336 = .ok (.bipush 44, 2) := by decide +kernel
theorem dX8_ticksOnce_338 : decode cX8_ticksOnce 338 = .ok (.iload 4, 2) := by decide +kernel
theorem dX8_ticksOnce_340 : decode cX8_ticksOnce 340 = .ok (.iadd, 1) := by decide +kernel
theorem dX8_ticksOnce_341 : decode cX8_ticksOnce 341 = .ok (.iload 6, 2) := by decide +kernel
theorem dX8_ticksOnce_343 : decode cX8_ticksOnce 343 = .ok (.ifCond .ne 7, 3) := by decide +kernel
theorem dX8_ticksOnce_346 : decode cX8_ticksOnce 346 = .ok (.iconst 0, 1) := by decide +kernel
theorem dX8_ticksOnce_347 : decode cX8_ticksOnce 347 = .ok (.goto 19, 3) := by decide +kernel
theorem dX8_ticksOnce_350 : decode cX8_ticksOnce 350 = .ok (.iload 5, 2) := by decide +kernel
theorem dX8_ticksOnce_352 : decode cX8_ticksOnce 352 = .ok (.bipush 60, 2) := by decide +kernel
theorem dX8_ticksOnce_354 : decode cX8_ticksOnce 354 = .ok (.if_icmp .ge 10, 3) := by decide +kernel
theorem dX8_ticksOnce_357 : decode cX8_ticksOnce 357 = .ok (.iload 5, 2) := by decide +kernel
theorem dX8_ticksOnce_359 : decode cX8_ticksOnce 359 = .ok (.iconst 1, 1) := by decide +kernel
theorem dX8_ticksOnce_360 : decode cX8_ticksOnce 360 = .ok (.iadd, 1) := by decide +kernel
theorem dX8_ticksOnce_361 : decode cX8_ticksOnce 361 = .ok (.goto 5, 3) := by decide +kernel
theorem dX8_ticksOnce_364 : decode cX8_ticksOnce 364 = .ok (.bipush 60, 2) := by decide +kernel
theorem dX8_ticksOnce_366 : decode cX8_ticksOnce 366 = .ok (.iastore, 1) := by decide +kernel
theorem dX8_ticksOnce_367 : decode cX8_ticksOnce 367 = .ok (.iinc 4 1, 3) := by decide +kernel
theorem dX8_ticksOnce_370 : decode cX8_ticksOnce 370 = .ok (.goto (-80), 3) := by decide +kernel
theorem dX8_ticksOnce_373 : decode cX8_ticksOnce 373 = .ok (.aload_n 1, 1) := by decide +kernel
theorem dX8_ticksOnce_374 : decode cX8_ticksOnce 374 = .ok (.iconst 0, 1) := by decide +kernel
theorem dX8_ticksOnce_375 : decode cX8_ticksOnce 375 = .ok (.dup2, 1) := by decide +kernel
theorem dX8_ticksOnce_376 : decode cX8_ticksOnce 376 = .ok (.iaload, 1) := by decide +kernel
theorem dX8_ticksOnce_377 : decode cX8_ticksOnce 377 = .ok (.iconst 1, 1) := by decide +kernel
theorem dX8_ticksOnce_378 : decode cX8_ticksOnce 378 = .ok (.iadd, 1) := by decide +kernel
theorem dX8_ticksOnce_379 : decode cX8_ticksOnce 379 = .ok (.iastore, 1) := by decide +kernel
theorem dX8_ticksOnce_380 : decode cX8_ticksOnce 380 = .ok (.aload_n 1, 1) := by decide +kernel
theorem dX8_ticksOnce_381 : decode cX8_ticksOnce 381 = .ok (.bipush 10, 2) := by decide +kernel
theorem dX8_ticksOnce_383 : decode cX8_ticksOnce 383 = .ok (.iload_n 3, 1) := by decide +kernel
theorem dX8_ticksOnce_384 : decode cX8_ticksOnce 384 = .ok (.ifCond .eq 7, 3) := by decide +kernel
theorem dX8_ticksOnce_387 : decode cX8_ticksOnce 387 = .ok (.iconst 0, 1) := by decide +kernel
theorem dX8_ticksOnce_388 : decode cX8_ticksOnce 388 = .ok (.goto 9, 3) := by decide +kernel
theorem dX8_ticksOnce_391 : decode cX8_ticksOnce 391 = .ok (.aload_n 1, 1) := by decide +kernel
theorem dX8_ticksOnce_392 : decode cX8_ticksOnce 392 = .ok (.bipush 10, 2) := by decide +kernel
theorem dX8_ticksOnce_394 : decode cX8_ticksOnce 394 = .ok (.iaload, 1) := by decide +kernel
theorem dX8_ticksOnce_395 : decode cX8_ticksOnce 395 = .ok (.iconst 1, 1) := by decide +kernel
theorem dX8_ticksOnce_396 : decode cX8_ticksOnce 396 = .ok (.iadd, 1) := by decide +kernel
theorem dX8_ticksOnce_397 : decode cX8_ticksOnce 397 = .ok (.iastore, 1) := by decide +kernel
theorem dX8_ticksOnce_398 : decode cX8_ticksOnce 398 = .ok (.return_, 1) := by decide +kernel
theorem dX8_setMethod_0 : decode cX8_setMethod 0 = .ok (.aload_n 0, 1) := by decide +kernel
theorem dX8_setMethod_1 : decode cX8_setMethod 1 = .ok (.iconst 0, 1) := by decide +kernel
theorem dX8_setMethod_2 : decode cX8_setMethod 2 = .ok (.putfield 47, 3) := by decide +kernel
theorem dX8_setMethod_5 : decode cX8_setMethod 5 = .ok (.iload_n 1, 1) := by decide +kernel
theorem dX8_setMethod_6 : decode cX8_setMethod 6 = .ok (.iconst 0, 1) := by decide +kernel
theorem dX8_setMethod_7 : decode cX8_setMethod 7 = .ok (.iconst 2, 1) := by decide +kernel
theorem dX8_setMethod_8 : decode cX8_setMethod 8 = .ok (.invokestatic 51, 3) := by decide +kernel
theorem dX8_setMethod_11 : decode cX8_setMethod 11 = .ok (.ifCond .ne 9, 3) := by decide +kernel
theorem dX8_setMethod_14 : decode cX8_setMethod 14 = .ok (.aload_n 0, 1) := by decide +kernel
theorem dX8_setMethod_15 : decode cX8_setMethod 15 = .ok (.iconst 1, 1) := by decide +kernel
theorem dX8_setMethod_16 : decode cX8_setMethod 16 = .ok (.invokevirtual 55, 3) := by decide +kernel
theorem dX8_setMethod_19 : decode cX8_setMethod 19 = .ok (.ireturn, 1) := by decide +kernel
theorem dX8_setMethod_20 : decode cX8_setMethod 20 = .ok (.aload_n 0, 1) := by decide +kernel
theorem dX8_setMethod_21 : decode cX8_setMethod 21 = .ok (.getfield 7, 3) := by decide +kernel
theorem dX8_setMethod_24 : decode cX8_setMethod 24 = .ok (.iconst 1, 1) := by decide +kernel
theorem dX8_setMethod_25 : decode cX8_setMethod 25 = .ok (.iaload, 1) := by decide +kernel
theorem dX8_setMethod_26 : decode cX8_setMethod 26 = .ok (.istore_n 2, 1) := by decide +kernel
theorem dX8_setMethod_27 : decode cX8_setMethod 27 = .ok (.aload_n 0, 1) := by decide +kernel
theorem dX8_setMethod_28 : decode cX8_setMethod 28 = .ok (.getfield 7, 3) := by decide +kernel
theorem dX8_setMethod_31 : decode cX8_setMethod 31 = .ok (.iconst 1, 1) := by decide +kernel
