theorem dX8_setMethod_32 : decode cX8_setMethod 32 = .ok (.iload_n 1, 1) := by decide +kernel
theorem dX8_setMethod_33 : decode cX8_setMethod 33 = .ok (.iastore, 1) := by decide +kernel
theorem dX8_setMethod_34 : decode cX8_setMethod 34 = .ok (.aload_n 0, 1) := by decide +kernel
theorem dX8_setMethod_35 : decode cX8_setMethod 35 = .ok (.aload_n 0, 1) := by decide +kernel
theorem dX8_setMethod_36 : decode cX8_setMethod 36 = .ok (.getfield 7, 3) := by decide +kernel
theorem dX8_setMethod_39 : decode cX8_setMethod 39 = .ok (.invokevirtual 43, 3) := by decide +kernel
theorem dX8_setMethod_42 : decode cX8_setMethod 42 = .ok (.iload_n 2, 1) := by decide +kernel
theorem dX8_setMethod_43 : decode cX8_setMethod 43 = .ok (.ireturn, 1) := by decide +kernel
theorem dX8_setStroke_0 : decode cX8_setStroke 0 = .ok (.aload_n 0, 1) := by decide +kernel
theorem dX8_setStroke_1 : decode cX8_setStroke 1 = .ok (.iconst 0, 1) := by decide +kernel
theorem dX8_setStroke_2 : decode cX8_setStroke 2 = .ok (.putfield 47, 3) := by decide +kernel
theorem dX8_setStroke_5 : decode cX8_setStroke 5 = .ok (.iload_n 1, 1) := by decide +kernel
theorem dX8_setStroke_6 : decode cX8_setStroke 6 = .ok (.iconst 0, 1) := by decide +kernel
theorem dX8_setStroke_7 : decode cX8_setStroke 7 = .ok (.iconst 5, 1) := by decide +kernel
theorem dX8_setStroke_8 : decode cX8_setStroke 8 = .ok (.invokestatic 51, 3) := by decide +kernel
theorem dX8_setStroke_11 : decode cX8_setStroke 11 = .ok (.ifCond .ne 9, 3) := by decide +kernel
theorem dX8_setStroke_14 : decode cX8_setStroke 14 = .ok (.aload_n 0, 1) := by decide +kernel
theorem dX8_setStroke_15 : decode cX8_setStroke 15 = .ok (.iconst 1, 1) := by decide +kernel
theorem dX8_setStroke_16 : decode cX8_setStroke 16 = .ok (.invokevirtual 55, 3) := by decide +kernel
theorem dX8_setStroke_19 : decode cX8_setStroke 19 = .ok (.ireturn, 1) := by decide +kernel
theorem dX8_setStroke_20 : decode cX8_setStroke 20 = .ok (.iload_n 2, 1) := by decide +kernel
theorem dX8_setStroke_21 : decode cX8_setStroke 21 = .ok (.iconst 1, 1) := by decide +kernel
theorem dX8_setStroke_22 : decode cX8_setStroke 22 = .ok (.bipush 20, 2) := by decide +kernel
theorem dX8_setStroke_24 : decode cX8_setStroke 24 = .ok (.invokestatic 51, 3) := by decide +kernel
theorem dX8_setStroke_27 : decode cX8_setStroke 27 = .ok (.ifCond .ne 9, 3) := by decide +kernel
theorem dX8_setStroke_30 : decode cX8_setStroke 30 = .ok (.aload_n 0, 1) := by decide +kernel
theorem dX8_setStroke_31 : decode cX8_setStroke 31 = .ok (.iconst 2, 1) := by decide +kernel
theorem dX8_setStroke_32 : decode cX8_setStroke 32 = .ok (.invokevirtual 55, 3) := by decide +kernel
theorem dX8_setStroke_35 : decode cX8_setStroke 35 = .ok (.ireturn, 1) := by decide +kernel
theorem dX8_setStroke_36 : decode cX8_setStroke 36 = .ok (.aload_n 0, 1) := by decide +kernel
theorem dX8_setStroke_37 : decode cX8_setStroke 37 = .ok (.getfield 16, 3) := by decide +kernel
theorem dX8_setStroke_40 : decode cX8_setStroke 40 = .ok (.iload_n 1, 1) := by decide +kernel
theorem dX8_setStroke_41 : decode cX8_setStroke 41 = .ok (.iaload, 1) := by decide +kernel
theorem dX8_setStroke_42 : decode cX8_setStroke 42 = .ok (.istore_n 3, 1) := by decide +kernel
theorem dX8_setStroke_43 : decode cX8_setStroke 43 = .ok (.aload_n 0, 1) := by decide +kernel
theorem dX8_setStroke_44 : decode cX8_setStroke 44 = .ok (.getfield 16, 3) := by decide +kernel
theorem dX8_setStroke_47 : decode cX8_setStroke 47 = .ok (.iload_n 1, 1) := by decide +kernel
theorem dX8_setStroke_48 : decode cX8_setStroke 48 = .ok (.iload_n 2, 1) := by decide +kernel
theorem dX8_setStroke_49 : decode cX8_setStroke 49 = .ok (.iastore, 1) := by decide +kernel
theorem dX8_setStroke_50 : decode cX8_setStroke 50 = .ok (.aload_n 0, 1) := by decide +kernel
theorem dX8_setStroke_51 : decode cX8_setStroke 51 = .ok (.aload_n 0, 1) := by decide +kernel
theorem dX8_setStroke_52 : decode cX8_setStroke 52 = .ok (.getfield 7, 3) := by decide +kernel
theorem dX8_setStroke_55 : decode cX8_setStroke 55 = .ok (.invokevirtual 43, 3) := by decide +kernel
theorem dX8_setStroke_58 : decode cX8_setStroke 58 = .ok (.iload_n 3, 1) := by decide +kernel
theorem dX8_setStroke_59 : decode cX8_setStroke 59 = .ok (.ireturn, 1) := by decide +kernel
theorem dX8_setStart_0 : decode cX8_setStart 0 = .ok (.aload_n 0, 1) := by decide +kernel
theorem dX8_setStart_1 : decode cX8_setStart 1 = .ok (.iconst 0, 1) := by decide +kernel
theorem dX8_setStart_2 : decode cX8_setStart 2 = .ok (.putfield 47, 3) := by decide +kernel
theorem dX8_setStart_5 : decode cX8_setStart 5 = .ok (.aload_n 0, 1) := by decide +kernel
theorem dX8_setStart_6 : decode cX8_setStart 6 = .ok (.getfield 7, 3) := by decide +kernel
theorem dX8_setStart_9 : decode cX8_setStart 9 = .ok (.iconst 2, 1) := by decide +kernel
theorem dX8_setStart_10 : decode cX8_setStart 10 = .ok (.iaload, 1) := by decide +kernel
theorem dX8_setStart_11 : decode cX8_setStart 11 = .ok (.iconst 1, 1) := by decide +kernel
theorem dX8_setStart_12 : decode cX8_setStart 12 = .ok (.if_icmp .ne 7, 3) := by decide +kernel
theorem dX8_setStart_15 : decode cX8_setStart 15 = .ok (.iconst 1, 1) := by decide +kernel
theorem dX8_setStart_16 : decode cX8_setStart 16 = .ok (.goto 4, 3) := by decide +kernel
theorem dX8_setStart_19 : decode cX8_setStart 19 = .ok (.iconst 0, 1) := by decide +kernel
theorem dX8_setStart_20 : decode cX8_setStart 20 = .ok (.istore_n 2, 1) := by decide +kernel
theorem dX8_setStart_21 : decode cX8_setStart 21 = .ok (.aload_n 0, 1) := by decide +kernel
theorem dX8_setStart_22 : decode cX8_setStart 22 = .ok (.getfield 7, 3) := by decide +kernel
theorem dX8_setStart_25 : decode cX8_setStart 25 = .ok (.iconst 2, 1) := by decide +kernel
theorem dX8_setStart_26 : decode cX8_setStart 26 = .ok (.iload_n 1, 1) := by decide +kernel
theorem dX8_setStart_27 : decode cX8_setStart 27 = .ok (.ifCond .eq 7, 3) := by decide +kernel
theorem dX8_setStart_30 : decode cX8_setStart 30 = .ok (.iconst 1, 1) := by decide +kernel
theorem dX8_setStart_31 : decode cX8_setStart 31 = .ok (.goto 4, 3) := by decide +kernel
theorem dX8_setStart_34 : decode cX8_setStart 34 = .ok (.iconst 0, 1) := by decide +kernel
theorem dX8_setStart_35 : decode cX8_setStart 35 = .ok (.iastore, 1) := by decide +kernel
theorem dX8_setStart_36 : decode cX8_setStart 36 = .ok (.iload_n 2, 1) := by decide +kernel
theorem dX8_setStart_37 : decode cX8_setStart 37 = .ok (.ireturn, 1) := by decide +kernel
theorem dX8_setFault_0 : decode cX8_setFault 0 = .ok (.aload_n 0, 1) := by decide +kernel
theorem dX8_setFault_1 : decode cX8_setFault 1 = .ok (.iload_n 1, 1) := by decide +kernel
theorem dX8_setFault_2 : decode cX8_setFault 2 = .ok (.iconst 0, 1) := by decide +kernel
theorem dX8_setFault_3 : decode cX8_setFault 3 = .ok (.iconst 5, 1) := by decide +kernel
theorem dX8_setFault_4 : decode cX8_setFault 4 = .ok (.invokestatic 51, 3) := by decide +kernel
theorem dX8_setFault_7 : decode cX8_setFault 7 = .ok (.ifCond .ne 7, 3) := by decide +kernel
theorem dX8_setFault_10 : decode cX8_setFault 10 = .ok (.iconst 1, 1) := by decide +kernel
theorem dX8_setFault_11 : decode cX8_setFault 11 = .ok (.goto 17, 3) := by decide +kernel
theorem dX8_setFault_14 : decode cX8_setFault 14 = .ok (.iload_n 2, 1) := by decide +kernel
theorem dX8_setFault_15 : decode cX8_setFault 15 = .ok (.iconst 0, 1) := by decide +kernel
theorem dX8_setFault_16 : decode cX8_setFault 16 = .ok (.iconst 4, 1) := by decide +kernel
theorem dX8_setFault_17 : decode cX8_setFault 17 = .ok (.invokestatic 51, 3) := by decide +kernel
theorem dX8_setFault_20 : decode cX8_setFault 20 = .ok (.ifCond .ne 7, 3) := by decide +kernel
theorem dX8_setFault_23 : decode cX8_setFault 23 = .ok (.iconst 2, 1) := by decide +kernel
theorem dX8_setFault_24 : decode cX8_setFault 24 = .ok (.goto 4, 3) := by decide +kernel
theorem dX8_setFault_27 : decode cX8_setFault 27 = .ok (.iconst 0, 1) := by decide +kernel
theorem dX8_setFault_28 : decode cX8_setFault 28 = .ok (.putfield 47, 3) := by decide +kernel
theorem dX8_setFault_31 : decode cX8_setFault 31 = .ok (.aload_n 0, 1) := by decide +kernel
theorem dX8_setFault_32 : decode cX8_setFault 32 = .ok (.getfield 47, 3) := by decide +kernel
theorem dX8_setFault_35 : decode cX8_setFault 35 = .ok (.ifCond .eq 5, 3) := by decide +kernel
theorem dX8_setFault_38 : decode cX8_setFault 38 = .ok (.iconst 0, 1) := by decide +kernel
theorem dX8_setFault_39 : decode cX8_setFault 39 = .ok (.ireturn, 1) := by decide +kernel
theorem dX8_setFault_40 : decode cX8_setFault 40 = .ok (.aload_n 0, 1) := by decide +kernel
theorem dX8_setFault_41 : decode cX8_setFault 41 = .ok (.getfield 7, 3) := by decide +kernel
theorem dX8_setFault_44 : decode cX8_setFault 44 = .ok (.bipush 38, 2) := by decide +kernel
theorem dX8_setFault_46 : decode cX8_setFault 46 = .ok (.iload_n 1, 1) := by decide +kernel
theorem dX8_setFault_47 : decode cX8_setFault 47 = .ok (.iadd, 1) := by decide +kernel
theorem dX8_setFault_48 : decode cX8_setFault 48 = .ok (.iaload, 1) := by decide +kernel
theorem dX8_setFault_49 : decode cX8_setFault 49 = .ok (.iload_n 2, 1) := by decide +kernel
theorem dX8_setFault_50 : decode cX8_setFault 50 = .ok (.ishr, 1) := by decide +kernel
theorem dX8_setFault_51 : decode cX8_setFault 51 = .ok (.iconst 1, 1) := by decide +kernel
theorem dX8_setFault_52 : decode cX8_setFault 52 = .ok (.iand, 1) := by decide +kernel
theorem dX8_setFault_53 : decode cX8_setFault 53 = .ok (.iconst 1, 1) := by decide +kernel
theorem dX8_setFault_54 : decode cX8_setFault 54 = .ok (.if_icmp .ne 7, 3) := by decide +kernel
theorem dX8_setFault_57 : decode cX8_setFault 57 = .ok (.iconst 1, 1) := by decide +kernel
theorem dX8_setFault_58 : decode cX8_setFault 58 = .ok (.goto 4, 3) := by decide +kernel
theorem dX8_setFault_61 : decode cX8_setFault 61 = .ok (.iconst 0, 1) := by decide +kernel
theorem dX8_setFault_62 : decode cX8_setFault 62 = .ok (.istore 4, 2) := by decide +kernel
theorem dX8_setFault_64 : decode cX8_setFault 64 = .ok (.aload_n 0, 1) := by decide +kernel
theorem dX8_setFault_65 : decode cX8_setFault 65 = .ok (.getfield 7, 3) := by decide +kernel
theorem dX8_setFault_68 : decode cX8_setFault 68 = .ok (.bipush 38, 2) := by decide +kernel
theorem dX8_setFault_70 : decode cX8_setFault 70 = .ok (.iload_n 1, 1) := by decide +kernel
theorem dX8_setFault_71 : decode cX8_setFault 71 = .ok (.iadd, 1) := by decide +kernel
theorem dX8_setFault_72 : decode cX8_setFault 72 = .ok (.iload_n 3, 1) := by decide +kernel
theorem dX8_setFault_73 : decode cX8_setFault 73 = .ok (.ifCond .eq 19, 3) := by decide +kernel
theorem dX8_setFault_76 : decode cX8_setFault 76 = .ok (.aload_n 0, 1) := by decide +kernel
theorem dX8_setFault_77 : decode cX8_setFault 77 = .ok (.getfield 7, 3) := by decide +kernel
theorem dX8_setFault_80 : decode cX8_setFault 80 = .ok (.bipush 38, 2) := by decide +kernel
theorem dX8_setFault_82 : decode cX8_setFault 82 = .ok (.iload_n 1, 1) := by decide +kernel
theorem dX8_setFault_83 : decode cX8_setFault 83 = .ok (.iadd, 1) := by decide +kernel
theorem dX8_setFault_84 : decode cX8_setFault 84 = .ok (.iaload, 1) := by decide +kernel
theorem dX8_setFault_85 : decode cX8_setFault 85 = .ok (.iconst 1, 1) := by decide +kernel
theorem dX8_setFault_86 : decode cX8_setFault 86 = .ok (.iload_n 2, 1) := by decide +kernel
theorem dX8_setFault_87 : decode cX8_setFault 87 = .ok (.ishl, 1) := by decide +kernel
theorem dX8_setFault_88 : decode cX8_setFault 88 = .ok (.ior, 1) := by decide +kernel
theorem dX8_setFault_89 : decode cX8_setFault 89 = .ok (.goto 18, 3) := by decide +kernel
theorem dX8_setFault_92 : decode cX8_setFault 92 = .ok (.aload_n 0, 1) := by decide +kernel
theorem dX8_setFault_93 : decode cX8_setFault 93 = .ok (.getfield 7, 3) := by decide +kernel
theorem dX8_setFault_96 : decode cX8_setFault 96 = .ok (.bipush 38, 2) := by decide +kernel
theorem dX8_setFault_98 : decode cX8_setFault 98 = .ok (.iload_n 1, 1) := by decide +kernel
theorem dX8_setFault_99 : decode cX8_setFault 99 = .ok (.iadd, 1) := by decide +kernel
theorem dX8_setFault_100 : decode cX8_setFault 100 = .ok (.iaload, 1) := by decide +kernel
theorem dX8_setFault_101 : decode cX8_setFault 101 = .ok (.iconst 1, 1) := by decide +kernel
theorem dX8_setFault_102 : decode cX8_setFault 102 = .ok (.iload_n 2, 1) := by decide +kernel
theorem dX8_setFault_103 : decode cX8_setFault 103 = .ok (.ishl, 1) := by decide +kernel
theorem dX8_setFault_104 : decode cX8_setFault 104 = .ok (.iconst (-1), 1) := by decide +kernel
theorem dX8_setFault_105 : decode cX8_setFault 105 = .ok (.ixor, 1) := by decide +kernel
theorem dX8_setFault_106 : decode cX8_setFault 106 = .ok (.iand, 1) := by decide +kernel
theorem dX8_setFault_107 : decode cX8_setFault 107 = .ok (.iastore, 1) := by decide +kernel
theorem dX8_setFault_108 : decode cX8_setFault 108 = .ok (.iload 4, 2) := by decide +kernel
theorem dX8_setFault_110 : decode cX8_setFault 110 = .ok (.ireturn, 1) := by decide +kernel
theorem dX8_rest_0 : decode cX8_rest 0 = .ok (.aload_n 0, 1) := by decide +kernel
theorem dX8_rest_1 : decode cX8_rest 1 = .ok (.iconst 0, 1) := by decide +kernel
theorem dX8_rest_2 : decode cX8_rest 2 = .ok (.putfield 47, 3) := by decide +kernel
theorem dX8_rest_5 : decode cX8_rest 5 = .ok (.aload_n 0, 1) := by decide +kernel
theorem dX8_rest_6 : decode cX8_rest 6 = .ok (.getfield 7, 3) := by decide +kernel
theorem dX8_rest_9 : decode cX8_rest 9 = .ok (.iconst 0, 1) := by decide +kernel
theorem dX8_rest_10 : decode cX8_rest 10 = .ok (.iaload, 1) := by decide +kernel
theorem dX8_rest_11 : decode cX8_rest 11 = .ok (.istore_n 1, 1) := by decide +kernel
theorem dX8_rest_12 : decode cX8_rest 12 = .ok (.aload_n 0, 1) := by decide +kernel
theorem dX8_rest_13 : decode cX8_rest 13 = .ok (.aload_n 0, 1) := by decide +kernel
theorem dX8_rest_14 : decode cX8_rest 14 = .ok (.getfield 7, 3) := by decide +kernel
theorem dX8_rest_17 : decode cX8_rest 17 = .ok (.invokevirtual 43, 3) := by decide +kernel
theorem dX8_rest_20 : decode cX8_rest 20 = .ok (.iload_n 1, 1) := by decide +kernel
theorem dX8_rest_21 : decode cX8_rest 21 = .ok (.ireturn, 1) := by decide +kernel
theorem dX8_ticks_0 : decode cX8_ticks 0 = .ok (.aload_n 0, 1) := by decide +kernel
theorem dX8_ticks_1 : decode cX8_ticks 1 = .ok (.iconst 0, 1) := by decide +kernel
theorem dX8_ticks_2 : decode cX8_ticks 2 = .ok (.putfield 47, 3) := by decide +kernel
theorem dX8_ticks_5 : decode cX8_ticks 5 = .ok (.iload_n 1, 1) := by decide +kernel
theorem dX8_ticks_6 : decode cX8_ticks 6 = .ok (.iconst 0, 1) := by decide +kernel
theorem dX8_ticks_7 : decode cX8_ticks 7 = .ok (.sipush 5000, 3) := by decide +kernel
theorem dX8_ticks_10 : decode cX8_ticks 10 = .ok (.invokestatic 51, 3) := by decide +kernel
theorem dX8_ticks_13 : decode cX8_ticks 13 = .ok (.ifCond .ne 9, 3) := by decide +kernel
theorem dX8_ticks_16 : decode cX8_ticks 16 = .ok (.aload_n 0, 1) := by decide +kernel
theorem dX8_ticks_17 : decode cX8_ticks 17 = .ok (.iconst 1, 1) := by decide +kernel
theorem dX8_ticks_18 : decode cX8_ticks 18 = .ok (.invokevirtual 55, 3) := by decide +kernel
theorem dX8_ticks_21 : decode cX8_ticks 21 = .ok (.ireturn, 1) := by decide +kernel
theorem dX8_ticks_22 : decode cX8_ticks 22 = .ok (.aload_n 0, 1) := by decide +kernel
theorem dX8_ticks_23 : decode cX8_ticks 23 = .ok (.getfield 104, 3) := by decide +kernel
theorem dX8_ticks_26 : decode cX8_ticks 26 = .ok (.ifCond .ne 9, 3) := by decide +kernel
theorem dX8_ticks_29 : decode cX8_ticks 29 = .ok (.aload_n 0, 1) := by decide +kernel
theorem dX8_ticks_30 : decode cX8_ticks 30 = .ok (.iconst 2, 1) := by decide +kernel
theorem dX8_ticks_31 : decode cX8_ticks 31 = .ok (.invokevirtual 55, 3) := by decide +kernel
theorem dX8_ticks_34 : decode cX8_ticks 34 = .ok (.ireturn, 1) := by decide +kernel
theorem dX8_ticks_35 : decode cX8_ticks 35 = .ok (.aload_n 0, 1) := by decide +kernel
theorem dX8_ticks_36 : decode cX8_ticks 36 = .ok (.getfield 7, 3) := by decide +kernel
theorem dX8_ticks_39 : decode cX8_ticks 39 = .ok (.iconst 4, 1) := by decide +kernel
theorem dX8_ticks_40 : decode cX8_ticks 40 = .ok (.iaload, 1) := by decide +kernel
theorem dX8_ticks_41 : decode cX8_ticks 41 = .ok (.istore_n 2, 1) := by decide +kernel
theorem dX8_ticks_42 : decode cX8_ticks 42 = .ok (.iconst 0, 1) := by decide +kernel
theorem dX8_ticks_43 : decode cX8_ticks 43 = .ok (.istore_n 3, 1) := by decide +kernel
theorem dX8_ticks_44 : decode cX8_ticks 44 = .ok (.iload_n 3, 1) := by decide +kernel
theorem dX8_ticks_45 : decode cX8_ticks 45 = .ok (.iload_n 1, 1) := by decide +kernel
theorem dX8_ticks_46 : decode cX8_ticks 46 = .ok (.if_icmp .ge 17, 3) := by decide +kernel
theorem dX8_ticks_49 : decode cX8_ticks 49 = .ok (.aload_n 0, 1) := by decide +kernel
theorem dX8_ticks_50 : decode cX8_ticks 50 = .ok (.aload_n 0, 1) := by decide +kernel
theorem dX8_ticks_51 : decode cX8_ticks 51 = .ok (.getfield 7, 3) := by decide +kernel
theorem dX8_ticks_54 : decode cX8_ticks 54 = .ok (.invokevirtual 171, 3) := by decide +kernel
theorem dX8_ticks_57 : decode cX8_ticks 57 = .ok (.iinc 3 1, 3) := by decide +kernel
theorem dX8_ticks_60 : decode cX8_ticks 60 = .ok (.goto (-16), 3) := by decide +kernel
theorem dX8_ticks_63 : decode cX8_ticks 63 = .ok (.aload_n 0, 1) := by decide +kernel
theorem dX8_ticks_64 : decode cX8_ticks 64 = .ok (.getfield 7, 3) := by decide +kernel
theorem dX8_ticks_67 : decode cX8_ticks 67 = .ok (.iconst 4, 1) := by decide +kernel
theorem dX8_ticks_68 : decode cX8_ticks 68 = .ok (.iaload, 1) := by decide +kernel
theorem dX8_ticks_69 : decode cX8_ticks 69 = .ok (.iload_n 2, 1) := by decide +kernel
theorem dX8_ticks_70 : decode cX8_ticks 70 = .ok (.isub, 1) := by decide +kernel
theorem dX8_ticks_71 : decode cX8_ticks 71 = .ok (.ireturn, 1) := by decide +kernel
theorem dX8_time_0 : decode cX8_time 0 = .ok (.aload_n 0, 1) := by decide +kernel
theorem dX8_time_1 : decode cX8_time 1 = .ok (.iconst 0, 1) := by decide +kernel
theorem dX8_time_2 : decode cX8_time 2 = .ok (.putfield 47, 3) := by decide +kernel
theorem dX8_time_5 : decode cX8_time 5 = .ok (.aload_n 0, 1) := by decide +kernel
theorem dX8_time_6 : decode cX8_time 6 = .ok (.getfield 7, 3) := by decide +kernel
theorem dX8_time_9 : decode cX8_time 9 = .ok (.iconst 0, 1) := by decide +kernel
theorem dX8_time_10 : decode cX8_time 10 = .ok (.iaload, 1) := by decide +kernel
theorem dX8_time_11 : decode cX8_time 11 = .ok (.ireturn, 1) := by decide +kernel
theorem dX8_ofCylinder_0 : decode cX8_ofCylinder 0 = .ok (.aload_n 0, 1) := by decide +kernel
theorem dX8_ofCylinder_1 : decode cX8_ofCylinder 1 = .ok (.iload_n 1, 1) := by decide +kernel
theorem dX8_ofCylinder_2 : decode cX8_ofCylinder 2 = .ok (.iconst 0, 1) := by decide +kernel
theorem dX8_ofCylinder_3 : decode cX8_ofCylinder 3 = .ok (.iconst 5, 1) := by decide +kernel
theorem dX8_ofCylinder_4 : decode cX8_ofCylinder 4 = .ok (.invokestatic 51, 3) := by decide +kernel
theorem dX8_ofCylinder_7 : decode cX8_ofCylinder 7 = .ok (.ifCond .eq 7, 3) := by decide +kernel
theorem dX8_ofCylinder_10 : decode cX8_ofCylinder 10 = .ok (.iconst 0, 1) := by decide +kernel
theorem dX8_ofCylinder_11 : decode cX8_ofCylinder 11 = .ok (.goto 4, 3) := by decide +kernel
theorem dX8_ofCylinder_14 : decode cX8_ofCylinder 14 = .ok (.iconst 1, 1) := by decide +kernel
theorem dX8_ofCylinder_15 : decode cX8_ofCylinder 15 = .ok (.putfield 47, 3) := by decide +kernel
theorem dX8_ofCylinder_18 : decode cX8_ofCylinder 18 = .ok (.aload_n 0, 1) := by decide +kernel
theorem dX8_ofCylinder_19 : decode cX8_ofCylinder 19 = .ok (.getfield 47, 3) := by decide +kernel
theorem dX8_ofCylinder_22 : decode cX8_ofCylinder 22 = .ok (.ifCond .ne 14, 3) := by decide +kernel
theorem dX8_ofCylinder_25 : decode cX8_ofCylinder 25 = .ok (.aload_n 0, 1) := by decide +kernel
theorem dX8_ofCylinder_26 : decode cX8_ofCylinder 26 = .ok (.getfield 7, 3) := by decide +kernel
theorem dX8_ofCylinder_29 : decode cX8_ofCylinder 29 = .ok (.iload_n 2, 1) := by decide +kernel
theorem dX8_ofCylinder_30 : decode cX8_ofCylinder 30 = .ok (.iload_n 1, 1) := by decide +kernel
theorem dX8_ofCylinder_31 : decode cX8_ofCylinder 31 = .ok (.iadd, 1) := by decide +kernel
theorem dX8_ofCylinder_32 : decode cX8_ofCylinder 32 = .ok (.iaload, 1) := by decide +kernel
theorem dX8_ofCylinder_33 : decode cX8_ofCylinder 33 = .ok (.goto 4, 3) := by decide +kernel
theorem dX8_ofCylinder_36 : decode cX8_ofCylinder 36 = .ok (.iconst 0, 1) := by decide +kernel
theorem dX8_ofCylinder_37 : decode cX8_ofCylinder 37 = .ok (.ireturn, 1) := by decide +kernel
theorem dX8_position_0 : decode cX8_position 0 = .ok (.aload_n 0, 1) := by decide +kernel
theorem dX8_position_1 : decode cX8_position 1 = .ok (.iload_n 1, 1) := by decide +kernel
theorem dX8_position_2 : decode cX8_position 2 = .ok (.bipush 20, 2) := by decide +kernel
theorem dX8_position_4 : decode cX8_position 4 = .ok (.invokevirtual 174, 3) := by decide +kernel
theorem dX8_position_7 : decode cX8_position 7 = .ok (.ireturn, 1) := by decide +kernel
theorem dX8_isOut_0 : decode cX8_isOut 0 = .ok (.aload_n 0, 1) := by decide +kernel
theorem dX8_isOut_1 : decode cX8_isOut 1 = .ok (.iload_n 1, 1) := by decide +kernel
theorem dX8_isOut_2 : decode cX8_isOut 2 = .ok (.bipush 26, 2) := by decide +kernel
theorem dX8_isOut_4 : decode cX8_isOut 4 = .ok (.invokevirtual 174, 3) := by decide +kernel
theorem dX8_isOut_7 : decode cX8_isOut 7 = .ok (.iconst 1, 1) := by decide +kernel
theorem dX8_isOut_8 : decode cX8_isOut 8 = .ok (.if_icmp .ne 7, 3) := by decide +kernel
theorem dX8_isOut_11 : decode cX8_isOut 11 = .ok (.iconst 1, 1) := by decide +kernel
theorem dX8_isOut_12 : decode cX8_isOut 12 = .ok (.goto 4, 3) := by decide +kernel
theorem dX8_isOut_15 : decode cX8_isOut 15 = .ok (.iconst 0, 1) := by decide +kernel
theorem dX8_isOut_16 : decode cX8_isOut 16 = .ok (.ireturn, 1) := by decide +kernel
theorem dX8_sensor_0 : decode cX8_sensor 0 = .ok (.aload_n 0, 1) := by decide +kernel
theorem dX8_sensor_1 : decode cX8_sensor 1 = .ok (.iload_n 1, 1) := by decide +kernel
theorem dX8_sensor_2 : decode cX8_sensor 2 = .ok (.iconst 0, 1) := by decide +kernel
theorem dX8_sensor_3 : decode cX8_sensor 3 = .ok (.iconst 5, 1) := by decide +kernel
theorem dX8_sensor_4 : decode cX8_sensor 4 = .ok (.invokestatic 51, 3) := by decide +kernel
theorem dX8_sensor_7 : decode cX8_sensor 7 = .ok (.ifCond .eq 16, 3) := by decide +kernel
theorem dX8_sensor_10 : decode cX8_sensor 10 = .ok (.iload_n 2, 1) := by decide +kernel
theorem dX8_sensor_11 : decode cX8_sensor 11 = .ok (.iconst 0, 1) := by decide +kernel
theorem dX8_sensor_12 : decode cX8_sensor 12 = .ok (.iconst 1, 1) := by decide +kernel
theorem dX8_sensor_13 : decode cX8_sensor 13 = .ok (.invokestatic 51, 3) := by decide +kernel
theorem dX8_sensor_16 : decode cX8_sensor 16 = .ok (.ifCond .eq 7, 3) := by decide +kernel
theorem dX8_sensor_19 : decode cX8_sensor 19 = .ok (.iconst 0, 1) := by decide +kernel
theorem dX8_sensor_20 : decode cX8_sensor 20 = .ok (.goto 4, 3) := by decide +kernel
theorem dX8_sensor_23 : decode cX8_sensor 23 = .ok (.iconst 1, 1) := by decide +kernel
theorem dX8_sensor_24 : decode cX8_sensor 24 = .ok (.putfield 47, 3) := by decide +kernel
theorem dX8_sensor_27 : decode cX8_sensor 27 = .ok (.aload_n 0, 1) := by decide +kernel
theorem dX8_sensor_28 : decode cX8_sensor 28 = .ok (.getfield 47, 3) := by decide +kernel
theorem dX8_sensor_31 : decode cX8_sensor 31 = .ok (.ifCond .ne 20, 3) := by decide +kernel
theorem dX8_sensor_34 : decode cX8_sensor 34 = .ok (.aload_n 0, 1) := by decide +kernel
theorem dX8_sensor_35 : decode cX8_sensor 35 = .ok (.aload_n 0, 1) := by decide +kernel
theorem dX8_sensor_36 : decode cX8_sensor 36 = .ok (.getfield 7, 3) := by decide +kernel
theorem dX8_sensor_39 : decode cX8_sensor 39 = .ok (.iload_n 1, 1) := by decide +kernel
theorem dX8_sensor_40 : decode cX8_sensor 40 = .ok (.iload_n 2, 1) := by decide +kernel
theorem dX8_sensor_41 : decode cX8_sensor 41 = .ok (.invokevirtual 155, 3) := by decide +kernel
theorem dX8_sensor_44 : decode cX8_sensor 44 = .ok (.ifCond .eq 7, 3) := by decide +kernel
theorem dX8_sensor_47 : decode cX8_sensor 47 = .ok (.iconst 1, 1) := by decide +kernel
theorem dX8_sensor_48 : decode cX8_sensor 48 = .ok (.goto 4, 3) := by decide +kernel
theorem dX8_sensor_51 : decode cX8_sensor 51 = .ok (.iconst 0, 1) := by decide +kernel
theorem dX8_sensor_52 : decode cX8_sensor 52 = .ok (.ireturn, 1) := by decide +kernel
theorem dX8_timer_0 : decode cX8_timer 0 = .ok (.aload_n 0, 1) := by decide +kernel
theorem dX8_timer_1 : decode cX8_timer 1 = .ok (.iconst 0, 1) := by decide +kernel
theorem dX8_timer_2 : decode cX8_timer 2 = .ok (.putfield 47, 3) := by decide +kernel
theorem dX8_timer_5 : decode cX8_timer 5 = .ok (.aload_n 0, 1) := by decide +kernel
theorem dX8_timer_6 : decode cX8_timer 6 = .ok (.iload_n 1, 1) := by decide +kernel
theorem dX8_timer_7 : decode cX8_timer 7 = .ok (.invokevirtual 110, 3) := by decide +kernel
theorem dX8_timer_10 : decode cX8_timer 10 = .ok (.ifCond .eq 15, 3) := by decide +kernel
theorem dX8_timer_13 : decode cX8_timer 13 = .ok (.aload_n 0, 1) := by decide +kernel
theorem dX8_timer_14 : decode cX8_timer 14 = .ok (.getfield 7, 3) := by decide +kernel
theorem dX8_timer_17 : decode cX8_timer 17 = .ok (.bipush 44, 2) := by decide +kernel
theorem dX8_timer_19 : decode cX8_timer 19 = .ok (.iload_n 1, 1) := by decide +kernel
theorem dX8_timer_20 : decode cX8_timer 20 = .ok (.iadd, 1) := by decide +kernel
theorem dX8_timer_21 : decode cX8_timer 21 = .ok (.iaload, 1) := by decide +kernel
theorem dX8_timer_22 : decode cX8_timer 22 = .ok (.goto 8, 3) := by decide +kernel
theorem dX8_timer_25 : decode cX8_timer 25 = .ok (.aload_n 0, 1) := by decide +kernel
theorem dX8_timer_26 : decode cX8_timer 26 = .ok (.iconst 1, 1) := by decide +kernel
theorem dX8_timer_27 : decode cX8_timer 27 = .ok (.invokevirtual 55, 3) := by decide +kernel
theorem dX8_timer_30 : decode cX8_timer 30 = .ok (.ireturn, 1) := by decide +kernel
theorem dX8_active_0 : decode cX8_active 0 = .ok (.aload_n 0, 1) := by decide +kernel
theorem dX8_active_1 : decode cX8_active 1 = .ok (.iconst 0, 1) := by decide +kernel
theorem dX8_active_2 : decode cX8_active 2 = .ok (.putfield 47, 3) := by decide +kernel
theorem dX8_active_5 : decode cX8_active 5 = .ok (.aload_n 0, 1) := by decide +kernel
theorem dX8_active_6 : decode cX8_active 6 = .ok (.getfield 7, 3) := by decide +kernel
theorem dX8_active_9 : decode cX8_active 9 = .ok (.iconst 3, 1) := by decide +kernel
theorem dX8_active_10 : decode cX8_active 10 = .ok (.iaload, 1) := by decide +kernel
theorem dX8_active_11 : decode cX8_active 11 = .ok (.ireturn, 1) := by decide +kernel
theorem dX8_commands_0 : decode cX8_commands 0 = .ok (.aload_n 0, 1) := by decide +kernel
theorem dX8_commands_1 : decode cX8_commands 1 = .ok (.iload_n 1, 1) := by decide +kernel
theorem dX8_commands_2 : decode cX8_commands 2 = .ok (.bipush 32, 2) := by decide +kernel
theorem dX8_commands_4 : decode cX8_commands 4 = .ok (.invokevirtual 174, 3) := by decide +kernel
theorem dX8_commands_7 : decode cX8_commands 7 = .ok (.ireturn, 1) := by decide +kernel
theorem dX8_events_0 : decode cX8_events 0 = .ok (.aload_n 0, 1) := by decide +kernel
theorem dX8_events_1 : decode cX8_events 1 = .ok (.iconst 0, 1) := by decide +kernel
theorem dX8_events_2 : decode cX8_events 2 = .ok (.putfield 47, 3) := by decide +kernel
theorem dX8_events_5 : decode cX8_events 5 = .ok (.aload_n 0, 1) := by decide +kernel
theorem dX8_events_6 : decode cX8_events 6 = .ok (.getfield 7, 3) := by decide +kernel
theorem dX8_events_9 : decode cX8_events 9 = .ok (.iconst 4, 1) := by decide +kernel
theorem dX8_events_10 : decode cX8_events 10 = .ok (.iaload, 1) := by decide +kernel
theorem dX8_events_11 : decode cX8_events 11 = .ok (.ireturn, 1) := by decide +kernel
theorem dX8_ofEvent_0 : decode cX8_ofEvent 0 = .ok (.aload_n 0, 1) := by decide +kernel
theorem dX8_ofEvent_1 : decode cX8_ofEvent 1 = .ok (.iconst 0, 1) := by decide +kernel
theorem dX8_ofEvent_2 : decode cX8_ofEvent 2 = .ok (.putfield 47, 3) := by decide +kernel
theorem dX8_ofEvent_5 : decode cX8_ofEvent 5 = .ok (.iload_n 1, 1) := by decide +kernel
theorem dX8_ofEvent_6 : decode cX8_ofEvent 6 = .ok (.ifCond .ge 9, 3) := by decide +kernel
theorem dX8_ofEvent_9 : decode cX8_ofEvent 9 = .ok (.aload_n 0, 1) := by decide +kernel
theorem dX8_ofEvent_10 : decode cX8_ofEvent 10 = .ok (.iconst 1, 1) := by decide +kernel
theorem dX8_ofEvent_11 : decode cX8_ofEvent 11 = .ok (.invokevirtual 55, 3) := by decide +kernel
theorem dX8_ofEvent_14 : decode cX8_ofEvent 14 = .ok (.ireturn, 1) := by decide +kernel
theorem dX8_ofEvent_15 : decode cX8_ofEvent 15 = .ok (.iload_n 1, 1) := by decide +kernel
theorem dX8_ofEvent_16 : decode cX8_ofEvent 16 = .ok (.bipush 40, 2) := by decide +kernel
theorem dX8_ofEvent_18 : decode cX8_ofEvent 18 = .ok (.if_icmp .ge 36, 3) := by decide +kernel
theorem dX8_ofEvent_21 : decode cX8_ofEvent 21 = .ok (.iload_n 1, 1) := by decide +kernel
theorem dX8_ofEvent_22 : decode cX8_ofEvent 22 = .ok (.aload_n 0, 1) := by decide +kernel
theorem dX8_ofEvent_23 : decode cX8_ofEvent 23 = .ok (.getfield 7, 3) := by decide +kernel
theorem dX8_ofEvent_26 : decode cX8_ofEvent 26 = .ok (.iconst 4, 1) := by decide +kernel
theorem dX8_ofEvent_27 : decode cX8_ofEvent 27 = .ok (.iaload, 1) := by decide +kernel
theorem dX8_ofEvent_28 : decode cX8_ofEvent 28 = .ok (.if_icmp .ge 26, 3) := by decide +kernel
theorem dX8_ofEvent_31 : decode cX8_ofEvent 31 = .ok (.aload_n 0, 1) := by decide +kernel
theorem dX8_ofEvent_32 : decode cX8_ofEvent 32 = .ok (.getfield 7, 3) := by decide +kernel
theorem dX8_ofEvent_35 : decode cX8_ofEvent 35 = .ok (.iload_n 2, 1) := by decide +kernel
theorem dX8_ofEvent_36 : decode cX8_ofEvent 36 = .ok (.aload_n 0, 1) := by decide +kernel
theorem dX8_ofEvent_37 : decode cX8_ofEvent 37 = .ok (.getfield 7, 3) := by decide +kernel
theorem dX8_ofEvent_40 : decode cX8_ofEvent 40 = .ok (.iconst 4, 1) := by decide +kernel
theorem dX8_ofEvent_41 : decode cX8_ofEvent 41 = .ok (.iaload, 1) := by decide +kernel
theorem dX8_ofEvent_42 : decode cX8_ofEvent 42 = .ok (.iconst 1, 1) := by decide +kernel
theorem dX8_ofEvent_43 : decode cX8_ofEvent 43 = .ok (.isub, 1) := by decide +kernel
theorem dX8_ofEvent_44 : decode cX8_ofEvent 44 = .ok (.iload_n 1, 1) := by decide +kernel
theorem dX8_ofEvent_45 : decode cX8_ofEvent 45 = .ok (.isub, 1) := by decide +kernel
theorem dX8_ofEvent_46 : decode cX8_ofEvent 46 = .ok (.bipush 40, 2) := by decide +kernel
theorem dX8_ofEvent_48 : decode cX8_ofEvent 48 = .ok (.irem, 1) := by decide +kernel
theorem dX8_ofEvent_49 : decode cX8_ofEvent 49 = .ok (.iadd, 1) := by decide +kernel
theorem dX8_ofEvent_50 : decode cX8_ofEvent 50 = .ok (.iaload, 1) := by decide +kernel
theorem dX8_ofEvent_51 : decode cX8_ofEvent 51 = .ok (.goto 4, 3) := by decide +kernel
theorem dX8_ofEvent_54 : decode cX8_ofEvent 54 = .ok (.iconst (-1), 1) := by decide +kernel
theorem dX8_ofEvent_55 : decode cX8_ofEvent 55 = .ok (.ireturn, 1) := by decide +kernel
theorem dX8_eventTime_0 : decode cX8_eventTime 0 = .ok (.aload_n 0, 1) := by decide +kernel
theorem dX8_eventTime_1 : decode cX8_eventTime 1 = .ok (.iload_n 1, 1) := by decide +kernel
theorem dX8_eventTime_2 : decode cX8_eventTime 2 = .ok (.bipush 60, 2) := by decide +kernel
theorem dX8_eventTime_4 : decode cX8_eventTime 4 = .ok (.invokevirtual 177, 3) := by decide +kernel
theorem dX8_eventTime_7 : decode cX8_eventTime 7 = .ok (.ireturn, 1) := by decide +kernel
theorem dX8_eventMove_0 : decode cX8_eventMove 0 = .ok (.aload_n 0, 1) := by decide +kernel
theorem dX8_eventMove_1 : decode cX8_eventMove 1 = .ok (.iload_n 1, 1) := by decide +kernel
theorem dX8_eventMove_2 : decode cX8_eventMove 2 = .ok (.bipush 100, 2) := by decide +kernel
theorem dX8_eventMove_4 : decode cX8_eventMove 4 = .ok (.invokevirtual 177, 3) := by decide +kernel
theorem dX8_eventMove_7 : decode cX8_eventMove 7 = .ok (.ireturn, 1) := by decide +kernel
theorem dX8_rightEvents_0 : decode cX8_rightEvents 0 = .ok (.aload_n 0, 1) := by decide +kernel
theorem dX8_rightEvents_1 : decode cX8_rightEvents 1 = .ok (.iconst 0, 1) := by decide +kernel
theorem dX8_rightEvents_2 : decode cX8_rightEvents 2 = .ok (.putfield 47, 3) := by decide +kernel
theorem dX8_rightEvents_5 : decode cX8_rightEvents 5 = .ok (.aload_n 0, 1) := by decide +kernel
theorem dX8_rightEvents_6 : decode cX8_rightEvents 6 = .ok (.getfield 7, 3) := by decide +kernel
theorem dX8_rightEvents_9 : decode cX8_rightEvents 9 = .ok (.iconst 5, 1) := by decide +kernel
theorem dX8_rightEvents_10 : decode cX8_rightEvents 10 = .ok (.iaload, 1) := by decide +kernel
theorem dX8_rightEvents_11 : decode cX8_rightEvents 11 = .ok (.ireturn, 1) := by decide +kernel
theorem dX8_cycles_0 : decode cX8_cycles 0 = .ok (.aload_n 0, 1) := by decide +kernel
theorem dX8_cycles_1 : decode cX8_cycles 1 = .ok (.iconst 0, 1) := by decide +kernel
theorem dX8_cycles_2 : decode cX8_cycles 2 = .ok (.putfield 47, 3) := by decide +kernel
theorem dX8_cycles_5 : decode cX8_cycles 5 = .ok (.aload_n 0, 1) := by decide +kernel
theorem dX8_cycles_6 : decode cX8_cycles 6 = .ok (.getfield 7, 3) := by decide +kernel
theorem dX8_cycles_9 : decode cX8_cycles 9 = .ok (.bipush 9, 2) := by decide +kernel
theorem dX8_cycles_11 : decode cX8_cycles 11 = .ok (.iaload, 1) := by decide +kernel
theorem dX8_cycles_12 : decode cX8_cycles 12 = .ok (.ireturn, 1) := by decide +kernel
theorem dX8_quiet_0 : decode cX8_quiet 0 = .ok (.aload_n 0, 1) := by decide +kernel
theorem dX8_quiet_1 : decode cX8_quiet 1 = .ok (.iconst 0, 1) := by decide +kernel
theorem dX8_quiet_2 : decode cX8_quiet 2 = .ok (.putfield 47, 3) := by decide +kernel
theorem dX8_quiet_5 : decode cX8_quiet 5 = .ok (.aload_n 0, 1) := by decide +kernel
theorem dX8_quiet_6 : decode cX8_quiet 6 = .ok (.getfield 7, 3) := by decide +kernel
theorem dX8_quiet_9 : decode cX8_quiet 9 = .ok (.bipush 10, 2) := by decide +kernel
theorem dX8_quiet_11 : decode cX8_quiet 11 = .ok (.iaload, 1) := by decide +kernel
theorem dX8_quiet_12 : decode cX8_quiet 12 = .ok (.ireturn, 1) := by decide +kernel
theorem dX8_tries_0 : decode cX8_tries 0 = .ok (.iconst 0, 1) := by decide +kernel
theorem dX8_tries_1 : decode cX8_tries 1 = .ok (.istore 6, 2) := by decide +kernel
theorem dX8_tries_3 : decode cX8_tries 3 = .ok (.iload 6, 2) := by decide +kernel
theorem dX8_tries_5 : decode cX8_tries 5 = .ok (.sipush 140, 3) := by decide +kernel
theorem dX8_tries_8 : decode cX8_tries 8 = .ok (.if_icmp .ge 17, 3) := by decide +kernel
theorem dX8_tries_11 : decode cX8_tries 11 = .ok (.aload_n 0, 1) := by decide +kernel
theorem dX8_tries_12 : decode cX8_tries 12 = .ok (.getfield 13, 3) := by decide +kernel
theorem dX8_tries_15 : decode cX8_tries 15 = .ok (.iload 6, 2) := by decide +kernel
theorem dX8_tries_17 : decode cX8_tries 17 = .ok (.iconst 0, 1) := by decide +kernel
theorem dX8_tries_18 : decode cX8_tries 18 = .ok (.iastore, 1) := by decide +kernel
theorem dX8_tries_19 : decode cX8_tries 19 = .ok (.iinc 6 1, 3) := by decide +kernel
theorem dX8_tries_22 : decode cX8_tries 22 = .ok (.goto (-19), 3) := by decide +kernel
theorem dX8_tries_25 : decode cX8_tries 25 = .ok (.aload_n 0, 1) := by decide +kernel
theorem dX8_tries_26 : decode cX8_tries 26 = .ok (.getfield 13, 3) := by decide +kernel
theorem dX8_tries_29 : decode cX8_tries 29 = .ok (.iconst 1, 1) := by decide +kernel
theorem dX8_tries_30 : decode cX8_tries 30 = .ok (.iload_n 1, 1) := by decide +kernel
theorem dX8_tries_31 : decode cX8_tries 31 = .ok (.iastore, 1) := by decide +kernel
theorem dX8_tries_32 : decode cX8_tries 32 = .ok (.aload_n 0, 1) := by decide +kernel
theorem dX8_tries_33 : decode cX8_tries 33 = .ok (.getfield 13, 3) := by decide +kernel
theorem dX8_tries_36 : decode cX8_tries 36 = .ok (.iconst 2, 1) := by decide +kernel
theorem dX8_tries_37 : decode cX8_tries 37 = .ok (.iconst 1, 1) := by decide +kernel
theorem dX8_tries_38 : decode cX8_tries 38 = .ok (.iastore, 1) := by decide +kernel
theorem dX8_tries_39 : decode cX8_tries 39 = .ok (.iload_n 2, 1) := by decide +kernel
theorem dX8_tries_40 : decode cX8_tries 40 = .ok (.ifCond .lt 15, 3) := by decide +kernel
theorem dX8_tries_43 : decode cX8_tries 43 = .ok (.aload_n 0, 1) := by decide +kernel
theorem dX8_tries_44 : decode cX8_tries 44 = .ok (.getfield 13, 3) := by decide +kernel
theorem dX8_tries_47 : decode cX8_tries 47 = .ok (.bipush 38, 2) := by decide +kernel
theorem dX8_tries_49 : decode cX8_tries 49 = .ok (.iload_n 2, 1) := by decide +kernel
theorem dX8_tries_50 : decode cX8_tries 50 = .ok (.iadd, 1) := by decide +kernel
theorem dX8_tries_51 : decode cX8_tries 51 = .ok (.iconst 1, 1) := by decide +kernel
theorem dX8_tries_52 : decode cX8_tries 52 = .ok (.iload_n 3, 1) := by decide +kernel
theorem dX8_tries_53 : decode cX8_tries 53 = .ok (.ishl, 1) := by decide +kernel
theorem dX8_tries_54 : decode cX8_tries 54 = .ok (.iastore, 1) := by decide +kernel
theorem dX8_tries_55 : decode cX8_tries 55 = .ok (.aload_n 0, 1) := by decide +kernel
theorem dX8_tries_56 : decode cX8_tries 56 = .ok (.aload_n 0, 1) := by decide +kernel
theorem dX8_tries_57 : decode cX8_tries 57 = .ok (.getfield 13, 3) := by decide +kernel
theorem dX8_tries_60 : decode cX8_tries 60 = .ok (.invokevirtual 43, 3) := by decide +kernel
theorem dX8_tries_63 : decode cX8_tries 63 = .ok (.iconst 0, 1) := by decide +kernel
theorem dX8_tries_64 : decode cX8_tries 64 = .ok (.istore 6, 2) := by decide +kernel
theorem dX8_tries_66 : decode cX8_tries 66 = .ok (.iload 6, 2) := by decide +kernel
theorem dX8_tries_68 : decode cX8_tries 68 = .ok (.iload 4, 2) := by decide +kernel
theorem dX8_tries_70 : decode cX8_tries 70 = .ok (.if_icmp .ge 33, 3) := by decide +kernel
theorem dX8_tries_73 : decode cX8_tries 73 = .ok (.iload 5, 2) := by decide +kernel
theorem dX8_tries_75 : decode cX8_tries 75 = .ok (.ifCond .eq 14, 3) := by decide +kernel
theorem dX8_tries_78 : decode cX8_tries 78 = .ok (.aload_n 0, 1) := by decide +kernel
theorem dX8_tries_79 : decode cX8_tries 79 = .ok (.getfield 13, 3) := by decide +kernel
theorem dX8_tries_82 : decode cX8_tries 82 = .ok (.bipush 9, 2) := by decide +kernel
theorem dX8_tries_84 : decode cX8_tries 84 = .ok (.iaload, 1) := by decide +kernel
theorem dX8_tries_85 : decode cX8_tries 85 = .ok (.iconst 2, 1) := by decide +kernel
theorem dX8_tries_86 : decode cX8_tries 86 = .ok (.if_icmp .ge 17, 3) := by decide +kernel
theorem dX8_tries_89 : decode cX8_tries 89 = .ok (.aload_n 0, 1) := by decide +kernel
theorem dX8_tries_90 : decode cX8_tries 90 = .ok (.aload_n 0, 1) := by decide +kernel
theorem dX8_tries_91 : decode cX8_tries 91 = .ok (.getfield 13, 3) := by decide +kernel
theorem dX8_tries_94 : decode cX8_tries 94 = .ok (.invokevirtual 171, 3) := by decide +kernel
theorem dX8_tries_97 : decode cX8_tries 97 = .ok (.iinc 6 1, 3) := by decide +kernel
theorem dX8_tries_100 : decode cX8_tries 100 = .ok (.goto (-34), 3) := by decide +kernel
theorem dX8_tries_103 : decode cX8_tries 103 = .ok (.return_, 1) := by decide +kernel
theorem dX8_cycleOf_0 : decode cX8_cycleOf 0 = .ok (.aload_n 0, 1) := by decide +kernel
theorem dX8_cycleOf_1 : decode cX8_cycleOf 1 = .ok (.iload_n 1, 1) := by decide +kernel
theorem dX8_cycleOf_2 : decode cX8_cycleOf 2 = .ok (.iconst (-1), 1) := by decide +kernel
theorem dX8_cycleOf_3 : decode cX8_cycleOf 3 = .ok (.iconst 0, 1) := by decide +kernel
theorem dX8_cycleOf_4 : decode cX8_cycleOf 4 = .ok (.sipush 4000, 3) := by decide +kernel
theorem dX8_cycleOf_7 : decode cX8_cycleOf 7 = .ok (.iconst 1, 1) := by decide +kernel
theorem dX8_cycleOf_8 : decode cX8_cycleOf 8 = .ok (.invokevirtual 180, 3) := by decide +kernel
theorem dX8_cycleOf_11 : decode cX8_cycleOf 11 = .ok (.aload_n 0, 1) := by decide +kernel
theorem dX8_cycleOf_12 : decode cX8_cycleOf 12 = .ok (.getfield 13, 3) := by decide +kernel
theorem dX8_cycleOf_15 : decode cX8_cycleOf 15 = .ok (.bipush 12, 2) := by decide +kernel
theorem dX8_cycleOf_17 : decode cX8_cycleOf 17 = .ok (.iaload, 1) := by decide +kernel
theorem dX8_cycleOf_18 : decode cX8_cycleOf 18 = .ok (.ifCond .lt 21, 3) := by decide +kernel
theorem dX8_cycleOf_21 : decode cX8_cycleOf 21 = .ok (.aload_n 0, 1) := by decide +kernel
theorem dX8_cycleOf_22 : decode cX8_cycleOf 22 = .ok (.getfield 13, 3) := by decide +kernel
theorem dX8_cycleOf_25 : decode cX8_cycleOf 25 = .ok (.bipush 12, 2) := by decide +kernel
theorem dX8_cycleOf_27 : decode cX8_cycleOf 27 = .ok (.iaload, 1) := by decide +kernel
theorem dX8_cycleOf_28 : decode cX8_cycleOf 28 = .ok (.aload_n 0, 1) := by decide +kernel
theorem dX8_cycleOf_29 : decode cX8_cycleOf 29 = .ok (.getfield 13, 3) := by decide +kernel
theorem dX8_cycleOf_32 : decode cX8_cycleOf 32 = .ok (.bipush 11, 2) := by decide +kernel
theorem dX8_cycleOf_34 : decode cX8_cycleOf 34 = .ok (.iaload, 1) := by decide +kernel
theorem dX8_cycleOf_35 : decode cX8_cycleOf 35 = .ok (.isub, 1) := by decide +kernel
theorem dX8_cycleOf_36 : decode cX8_cycleOf 36 = .ok (.goto 4, 3) := by decide +kernel
theorem dX8_cycleOf_39 : decode cX8_cycleOf 39 = .ok (.iconst (-1), 1) := by decide +kernel
theorem dX8_cycleOf_40 : decode cX8_cycleOf 40 = .ok (.ireturn, 1) := by decide +kernel
theorem dX8_works_0 : decode cX8_works 0 = .ok (.aload_n 0, 1) := by decide +kernel
theorem dX8_works_1 : decode cX8_works 1 = .ok (.iload_n 1, 1) := by decide +kernel
theorem dX8_works_2 : decode cX8_works 2 = .ok (.invokevirtual 142, 3) := by decide +kernel
theorem dX8_works_5 : decode cX8_works 5 = .ok (.ifCond .ne 15, 3) := by decide +kernel
theorem dX8_works_8 : decode cX8_works 8 = .ok (.aload_n 0, 1) := by decide +kernel
theorem dX8_works_9 : decode cX8_works 9 = .ok (.iload_n 1, 1) := by decide +kernel
theorem dX8_works_10 : decode cX8_works 10 = .ok (.invokevirtual 184, 3) := by decide +kernel
theorem dX8_works_13 : decode cX8_works 13 = .ok (.ifCond .lt 7, 3) := by decide +kernel
theorem dX8_works_16 : decode cX8_works 16 = .ok (.iconst 1, 1) := by decide +kernel
theorem dX8_works_17 : decode cX8_works 17 = .ok (.goto 4, 3) := by decide +kernel
theorem dX8_works_20 : decode cX8_works 20 = .ok (.iconst 0, 1) := by decide +kernel
theorem dX8_works_21 : decode cX8_works 21 = .ok (.ireturn, 1) := by decide +kernel
theorem dX8_cycleTime_0 : decode cX8_cycleTime 0 = .ok (.aload_n 0, 1) := by decide +kernel
theorem dX8_cycleTime_1 : decode cX8_cycleTime 1 = .ok (.iload_n 1, 1) := by decide +kernel
theorem dX8_cycleTime_2 : decode cX8_cycleTime 2 = .ok (.invokevirtual 142, 3) := by decide +kernel
theorem dX8_cycleTime_5 : decode cX8_cycleTime 5 = .ok (.ifCond .eq 7, 3) := by decide +kernel
theorem dX8_cycleTime_8 : decode cX8_cycleTime 8 = .ok (.iconst 0, 1) := by decide +kernel
theorem dX8_cycleTime_9 : decode cX8_cycleTime 9 = .ok (.goto 8, 3) := by decide +kernel
theorem dX8_cycleTime_12 : decode cX8_cycleTime 12 = .ok (.aload_n 0, 1) := by decide +kernel
theorem dX8_cycleTime_13 : decode cX8_cycleTime 13 = .ok (.iload_n 1, 1) := by decide +kernel
theorem dX8_cycleTime_14 : decode cX8_cycleTime 14 = .ok (.invokevirtual 184, 3) := by decide +kernel
theorem dX8_cycleTime_17 : decode cX8_cycleTime 17 = .ok (.ireturn, 1) := by decide +kernel
theorem dX8_cheapest_0 : decode cX8_cheapest 0 = .ok (.aload_n 0, 1) := by decide +kernel
theorem dX8_cheapest_1 : decode cX8_cheapest 1 = .ok (.iconst 0, 1) := by decide +kernel
theorem dX8_cheapest_2 : decode cX8_cheapest 2 = .ok (.putfield 47, 3) := by decide +kernel
theorem dX8_cheapest_5 : decode cX8_cheapest 5 = .ok (.aload_n 0, 1) := by decide +kernel
theorem dX8_cheapest_6 : decode cX8_cheapest 6 = .ok (.getfield 104, 3) := by decide +kernel
theorem dX8_cheapest_9 : decode cX8_cheapest 9 = .ok (.ifCond .ne 9, 3) := by decide +kernel
theorem dX8_cheapest_12 : decode cX8_cheapest 12 = .ok (.aload_n 0, 1) := by decide +kernel
theorem dX8_cheapest_13 : decode cX8_cheapest 13 = .ok (.iconst 1, 1) := by decide +kernel
theorem dX8_cheapest_14 : decode cX8_cheapest 14 = .ok (.invokevirtual 55, 3) := by decide +kernel
theorem dX8_cheapest_17 : decode cX8_cheapest 17 = .ok (.ireturn, 1) := by decide +kernel
theorem dX8_cheapest_18 : decode cX8_cheapest 18 = .ok (.iconst (-1), 1) := by decide +kernel
theorem dX8_cheapest_19 : decode cX8_cheapest 19 = .ok (.istore_n 1, 1) := by decide +kernel
theorem dX8_cheapest_20 : decode cX8_cheapest 20 = .ok (.iconst 0, 1) := by decide +kernel
theorem dX8_cheapest_21 : decode cX8_cheapest 21 = .ok (.istore_n 2, 1) := by decide +kernel
theorem dX8_cheapest_22 : decode cX8_cheapest 22 = .ok (.iload_n 2, 1) := by decide +kernel
theorem dX8_cheapest_23 : decode cX8_cheapest 23 = .ok (.iconst 3, 1) := by decide +kernel
theorem dX8_cheapest_24 : decode cX8_cheapest 24 = .ok (.if_icmp .ge 40, 3) := by decide +kernel
theorem dX8_cheapest_27 : decode cX8_cheapest 27 = .ok (.aload_n 0, 1) := by decide +kernel
theorem dX8_cheapest_28 : decode cX8_cheapest 28 = .ok (.iload_n 2, 1) := by decide +kernel
theorem dX8_cheapest_29 : decode cX8_cheapest 29 = .ok (.invokevirtual 184, 3) := by decide +kernel
theorem dX8_cheapest_32 : decode cX8_cheapest 32 = .ok (.ifCond .lt 24, 3) := by decide +kernel
theorem dX8_cheapest_35 : decode cX8_cheapest 35 = .ok (.iload_n 1, 1) := by decide +kernel
theorem dX8_cheapest_36 : decode cX8_cheapest 36 = .ok (.ifCond .lt 16, 3) := by decide +kernel
theorem dX8_cheapest_39 : decode cX8_cheapest 39 = .ok (.aload_n 0, 1) := by decide +kernel
theorem dX8_cheapest_40 : decode cX8_cheapest 40 = .ok (.iload_n 2, 1) := by decide +kernel
theorem dX8_cheapest_41 : decode cX8_cheapest 41 = .ok (.invokevirtual 145, 3) := by decide +kernel
theorem dX8_cheapest_44 : decode cX8_cheapest 44 = .ok (.aload_n 0, 1) := by decide +kernel
theorem dX8_cheapest_45 : decode cX8_cheapest 45 = .ok (.iload_n 1, 1) := by decide +kernel
theorem dX8_cheapest_46 : decode cX8_cheapest 46 = .ok (.invokevirtual 145, 3) := by decide +kernel
theorem dX8_cheapest_49 : decode cX8_cheapest 49 = .ok (.if_icmp .ge 7, 3) := by decide +kernel
theorem dX8_cheapest_52 : decode cX8_cheapest 52 = .ok (.iload_n 2, 1) := by decide +kernel
theorem dX8_cheapest_53 : decode cX8_cheapest 53 = .ok (.goto 4, 3) := by decide +kernel
theorem dX8_cheapest_56 : decode cX8_cheapest 56 = .ok (.iload_n 1, 1) := by decide +kernel
theorem dX8_cheapest_57 : decode cX8_cheapest 57 = .ok (.istore_n 1, 1) := by decide +kernel
theorem dX8_cheapest_58 : decode cX8_cheapest 58 = .ok (.iinc 2 1, 3) := by decide +kernel
theorem dX8_cheapest_61 : decode cX8_cheapest 61 = .ok (.goto (-39), 3) := by decide +kernel
theorem dX8_cheapest_64 : decode cX8_cheapest 64 = .ok (.iload_n 1, 1) := by decide +kernel
theorem dX8_cheapest_65 : decode cX8_cheapest 65 = .ok (.ireturn, 1) := by decide +kernel
theorem dX8_effect_0 : decode cX8_effect 0 = .ok (.aload_n 0, 1) := by decide +kernel
theorem dX8_effect_1 : decode cX8_effect 1 = .ok (.iconst 0, 1) := by decide +kernel
theorem dX8_effect_2 : decode cX8_effect 2 = .ok (.putfield 47, 3) := by decide +kernel
theorem dX8_effect_5 : decode cX8_effect 5 = .ok (.iload_n 1, 1) := by decide +kernel
theorem dX8_effect_6 : decode cX8_effect 6 = .ok (.iconst 0, 1) := by decide +kernel
theorem dX8_effect_7 : decode cX8_effect 7 = .ok (.iconst 5, 1) := by decide +kernel
theorem dX8_effect_8 : decode cX8_effect 8 = .ok (.invokestatic 51, 3) := by decide +kernel
theorem dX8_effect_11 : decode cX8_effect 11 = .ok (.ifCond .ne 9, 3) := by decide +kernel
theorem dX8_effect_14 : decode cX8_effect 14 = .ok (.aload_n 0, 1) := by decide +kernel
theorem dX8_effect_15 : decode cX8_effect 15 = .ok (.iconst 1, 1) := by decide +kernel
theorem dX8_effect_16 : decode cX8_effect 16 = .ok (.invokevirtual 55, 3) := by decide +kernel
theorem dX8_effect_19 : decode cX8_effect 19 = .ok (.ireturn, 1) := by decide +kernel
theorem dX8_effect_20 : decode cX8_effect 20 = .ok (.iload_n 2, 1) := by decide +kernel
theorem dX8_effect_21 : decode cX8_effect 21 = .ok (.iconst 0, 1) := by decide +kernel
theorem dX8_effect_22 : decode cX8_effect 22 = .ok (.iconst 4, 1) := by decide +kernel
theorem dX8_effect_23 : decode cX8_effect 23 = .ok (.invokestatic 51, 3) := by decide +kernel
theorem dX8_effect_26 : decode cX8_effect 26 = .ok (.ifCond .eq 14, 3) := by decide +kernel
theorem dX8_effect_29 : decode cX8_effect 29 = .ok (.iload_n 3, 1) := by decide +kernel
theorem dX8_effect_30 : decode cX8_effect 30 = .ok (.iconst 0, 1) := by decide +kernel
theorem dX8_effect_31 : decode cX8_effect 31 = .ok (.sipush 2000, 3) := by decide +kernel
theorem dX8_effect_34 : decode cX8_effect 34 = .ok (.invokestatic 51, 3) := by decide +kernel
theorem dX8_effect_37 : decode cX8_effect 37 = .ok (.ifCond .ne 9, 3) := by decide +kernel
theorem dX8_effect_40 : decode cX8_effect 40 = .ok (.aload_n 0, 1) := by decide +kernel
theorem dX8_effect_41 : decode cX8_effect 41 = .ok (.iconst 2, 1) := by decide +kernel
theorem dX8_effect_42 : decode cX8_effect 42 = .ok (.invokevirtual 55, 3) := by decide +kernel
theorem dX8_effect_45 : decode cX8_effect 45 = .ok (.ireturn, 1) := by decide +kernel
theorem dX8_effect_46 : decode cX8_effect 46 = .ok (.aload_n 0, 1) := by decide +kernel
theorem dX8_effect_47 : decode cX8_effect 47 = .ok (.getfield 104, 3) := by decide +kernel
theorem dX8_effect_50 : decode cX8_effect 50 = .ok (.ifCond .ne 9, 3) := by decide +kernel
theorem dX8_effect_53 : decode cX8_effect 53 = .ok (.aload_n 0, 1) := by decide +kernel
theorem dX8_effect_54 : decode cX8_effect 54 = .ok (.iconst 3, 1) := by decide +kernel
theorem dX8_effect_55 : decode cX8_effect 55 = .ok (.invokevirtual 55, 3) := by decide +kernel
theorem dX8_effect_58 : decode cX8_effect 58 = .ok (.ireturn, 1) := by decide +kernel
theorem dX8_effect_59 : decode cX8_effect 59 = .ok (.aload_n 0, 1) := by decide +kernel
theorem dX8_effect_60 : decode cX8_effect 60 = .ok (.aload_n 0, 1) := by decide +kernel
theorem dX8_effect_61 : decode cX8_effect 61 = .ok (.getfield 7, 3) := by decide +kernel
theorem dX8_effect_64 : decode cX8_effect 64 = .ok (.iconst 1, 1) := by decide +kernel
theorem dX8_effect_65 : decode cX8_effect 65 = .ok (.iaload, 1) := by decide +kernel
theorem dX8_effect_66 : decode cX8_effect 66 = .ok (.iload_n 1, 1) := by decide +kernel
theorem dX8_effect_67 : decode cX8_effect 67 = .ok (.iload_n 2, 1) := by decide +kernel
theorem dX8_effect_68 : decode cX8_effect 68 = .ok (.iload_n 3, 1) := by decide +kernel
theorem dX8_effect_69 : decode cX8_effect 69 = .ok (.iconst 0, 1) := by decide +kernel
theorem dX8_effect_70 : decode cX8_effect 70 = .ok (.invokevirtual 180, 3) := by decide +kernel
theorem dX8_effect_73 : decode cX8_effect 73 = .ok (.aload_n 0, 1) := by decide +kernel
theorem dX8_effect_74 : decode cX8_effect 74 = .ok (.getfield 13, 3) := by decide +kernel
theorem dX8_effect_77 : decode cX8_effect 77 = .ok (.iconst 5, 1) := by decide +kernel
theorem dX8_effect_78 : decode cX8_effect 78 = .ok (.iaload, 1) := by decide +kernel
theorem dX8_effect_79 : decode cX8_effect 79 = .ok (.ireturn, 1) := by decide +kernel
theorem dX8_explains_0 : decode cX8_explains 0 = .ok (.aload_n 0, 1) := by decide +kernel
theorem dX8_explains_1 : decode cX8_explains 1 = .ok (.aload_n 0, 1) := by decide +kernel
theorem dX8_explains_2 : decode cX8_explains 2 = .ok (.getfield 7, 3) := by decide +kernel
theorem dX8_explains_5 : decode cX8_explains 5 = .ok (.iconst 1, 1) := by decide +kernel
theorem dX8_explains_6 : decode cX8_explains 6 = .ok (.iaload, 1) := by decide +kernel
theorem dX8_explains_7 : decode cX8_explains 7 = .ok (.iload_n 1, 1) := by decide +kernel
theorem dX8_explains_8 : decode cX8_explains 8 = .ok (.iload_n 2, 1) := by decide +kernel
theorem dX8_explains_9 : decode cX8_explains 9 = .ok (.aload_n 0, 1) := by decide +kernel
theorem dX8_explains_10 : decode cX8_explains 10 = .ok (.getfield 7, 3) := by decide +kernel
theorem dX8_explains_13 : decode cX8_explains 13 = .ok (.iconst 0, 1) := by decide +kernel
theorem dX8_explains_14 : decode cX8_explains 14 = .ok (.iaload, 1) := by decide +kernel
theorem dX8_explains_15 : decode cX8_explains 15 = .ok (.sipush 5000, 3) := by decide +kernel
theorem dX8_explains_18 : decode cX8_explains 18 = .ok (.if_icmp .ge 12, 3) := by decide +kernel
theorem dX8_explains_21 : decode cX8_explains 21 = .ok (.aload_n 0, 1) := by decide +kernel
theorem dX8_explains_22 : decode cX8_explains 22 = .ok (.getfield 7, 3) := by decide +kernel
theorem dX8_explains_25 : decode cX8_explains 25 = .ok (.iconst 0, 1) := by decide +kernel
theorem dX8_explains_26 : decode cX8_explains 26 = .ok (.iaload, 1) := by decide +kernel
theorem dX8_explains_27 : decode cX8_explains 27 = .ok (.goto 6, 3) := by decide +kernel
theorem dX8_explains_30 : decode cX8_explains 30 = .ok (.sipush 5000, 3) := by decide +kernel
theorem dX8_explains_33 : decode cX8_explains 33 = .ok (.iconst 0, 1) := by decide +kernel
theorem dX8_explains_34 : decode cX8_explains 34 = .ok (.invokevirtual 180, 3) := by decide +kernel
theorem dX8_explains_37 : decode cX8_explains 37 = .ok (.iconst 1, 1) := by decide +kernel
theorem dX8_explains_38 : decode cX8_explains 38 = .ok (.istore_n 3, 1) := by decide +kernel
theorem dX8_explains_39 : decode cX8_explains 39 = .ok (.bipush 20, 2) := by decide +kernel
theorem dX8_explains_41 : decode cX8_explains 41 = .ok (.istore 4, 2) := by decide +kernel
theorem dX8_explains_43 : decode cX8_explains 43 = .ok (.iload 4, 2) := by decide +kernel
theorem dX8_explains_45 : decode cX8_explains 45 = .ok (.bipush 32, 2) := by decide +kernel
theorem dX8_explains_47 : decode cX8_explains 47 = .ok (.if_icmp .ge 36, 3) := by decide +kernel
theorem dX8_explains_50 : decode cX8_explains 50 = .ok (.iload_n 3, 1) := by decide +kernel
theorem dX8_explains_51 : decode cX8_explains 51 = .ok (.ifCond .eq 24, 3) := by decide +kernel
theorem dX8_explains_54 : decode cX8_explains 54 = .ok (.aload_n 0, 1) := by decide +kernel
theorem dX8_explains_55 : decode cX8_explains 55 = .ok (.getfield 13, 3) := by decide +kernel
theorem dX8_explains_58 : decode cX8_explains 58 = .ok (.iload 4, 2) := by decide +kernel
theorem dX8_explains_60 : decode cX8_explains 60 = .ok (.iaload, 1) := by decide +kernel
theorem dX8_explains_61 : decode cX8_explains 61 = .ok (.aload_n 0, 1) := by decide +kernel
theorem dX8_explains_62 : decode cX8_explains 62 = .ok (.getfield 7, 3) := by decide +kernel
theorem dX8_explains_65 : decode cX8_explains 65 = .ok (.iload 4, 2) := by decide +kernel
theorem dX8_explains_67 : decode cX8_explains 67 = .ok (.iaload, 1) := by decide +kernel
theorem dX8_explains_68 : decode cX8_explains 68 = .ok (.if_icmp .ne 7, 3) := by decide +kernel
theorem dX8_explains_71 : decode cX8_explains 71 = .ok (.iconst 1, 1) := by decide +kernel
theorem dX8_explains_72 : decode cX8_explains 72 = .ok (.goto 4, 3) := by decide +kernel
theorem dX8_explains_75 : decode cX8_explains 75 = .ok (.iconst 0, 1) := by decide +kernel
theorem dX8_explains_76 : decode cX8_explains 76 = .ok (.istore_n 3, 1) := by decide +kernel
theorem dX8_explains_77 : decode cX8_explains 77 = .ok (.iinc 4 1, 3) := by decide +kernel
theorem dX8_explains_80 : decode cX8_explains 80 = .ok (.goto (-37), 3) := by decide +kernel
theorem dX8_explains_83 : decode cX8_explains 83 = .ok (.iload_n 3, 1) := by decide +kernel
theorem dX8_explains_84 : decode cX8_explains 84 = .ok (.ireturn, 1) := by decide +kernel
theorem dX8_suspect_0 : decode cX8_suspect 0 = .ok (.aload_n 0, 1) := by decide +kernel
theorem dX8_suspect_1 : decode cX8_suspect 1 = .ok (.iconst 0, 1) := by decide +kernel
theorem dX8_suspect_2 : decode cX8_suspect 2 = .ok (.putfield 47, 3) := by decide +kernel
theorem dX8_suspect_5 : decode cX8_suspect 5 = .ok (.iload_n 1, 1) := by decide +kernel
theorem dX8_suspect_6 : decode cX8_suspect 6 = .ok (.ifCond .ge 9, 3) := by decide +kernel
theorem dX8_suspect_9 : decode cX8_suspect 9 = .ok (.aload_n 0, 1) := by decide +kernel
theorem dX8_suspect_10 : decode cX8_suspect 10 = .ok (.iconst 1, 1) := by decide +kernel
theorem dX8_suspect_11 : decode cX8_suspect 11 = .ok (.invokevirtual 55, 3) := by decide +kernel
theorem dX8_suspect_14 : decode cX8_suspect 14 = .ok (.ireturn, 1) := by decide +kernel
theorem dX8_suspect_15 : decode cX8_suspect 15 = .ok (.aload_n 0, 1) := by decide +kernel
theorem dX8_suspect_16 : decode cX8_suspect 16 = .ok (.getfield 104, 3) := by decide +kernel
theorem dX8_suspect_19 : decode cX8_suspect 19 = .ok (.ifCond .ne 9, 3) := by decide +kernel
theorem dX8_suspect_22 : decode cX8_suspect 22 = .ok (.aload_n 0, 1) := by decide +kernel
theorem dX8_suspect_23 : decode cX8_suspect 23 = .ok (.iconst 2, 1) := by decide +kernel
theorem dX8_suspect_24 : decode cX8_suspect 24 = .ok (.invokevirtual 55, 3) := by decide +kernel
theorem dX8_suspect_27 : decode cX8_suspect 27 = .ok (.ireturn, 1) := by decide +kernel
theorem dX8_suspect_28 : decode cX8_suspect 28 = .ok (.iload_n 1, 1) := by decide +kernel
theorem dX8_suspect_29 : decode cX8_suspect 29 = .ok (.istore_n 2, 1) := by decide +kernel
theorem dX8_suspect_30 : decode cX8_suspect 30 = .ok (.iconst 0, 1) := by decide +kernel
theorem dX8_suspect_31 : decode cX8_suspect 31 = .ok (.istore_n 3, 1) := by decide +kernel
theorem dX8_suspect_32 : decode cX8_suspect 32 = .ok (.iload_n 3, 1) := by decide +kernel
theorem dX8_suspect_33 : decode cX8_suspect 33 = .ok (.bipush 30, 2) := by decide +kernel
theorem dX8_suspect_35 : decode cX8_suspect 35 = .ok (.if_icmp .ge 44, 3) := by decide +kernel
theorem dX8_suspect_38 : decode cX8_suspect 38 = .ok (.iload_n 2, 1) := by decide +kernel
theorem dX8_suspect_39 : decode cX8_suspect 39 = .ok (.ifCond .lt 40, 3) := by decide +kernel
theorem dX8_suspect_42 : decode cX8_suspect 42 = .ok (.aload_n 0, 1) := by decide +kernel
theorem dX8_suspect_43 : decode cX8_suspect 43 = .ok (.iload_n 3, 1) := by decide +kernel
theorem dX8_suspect_44 : decode cX8_suspect 44 = .ok (.iconst 5, 1) := by decide +kernel
theorem dX8_suspect_45 : decode cX8_suspect 45 = .ok (.idiv, 1) := by decide +kernel
theorem dX8_suspect_46 : decode cX8_suspect 46 = .ok (.iload_n 3, 1) := by decide +kernel
theorem dX8_suspect_47 : decode cX8_suspect 47 = .ok (.iconst 5, 1) := by decide +kernel
theorem dX8_suspect_48 : decode cX8_suspect 48 = .ok (.irem, 1) := by decide +kernel
theorem dX8_suspect_49 : decode cX8_suspect 49 = .ok (.invokevirtual 187, 3) := by decide +kernel
theorem dX8_suspect_52 : decode cX8_suspect 52 = .ok (.ifCond .eq 21, 3) := by decide +kernel
theorem dX8_suspect_55 : decode cX8_suspect 55 = .ok (.iload_n 2, 1) := by decide +kernel
theorem dX8_suspect_56 : decode cX8_suspect 56 = .ok (.ifCond .ne 14, 3) := by decide +kernel
theorem dX8_suspect_59 : decode cX8_suspect 59 = .ok (.bipush 10, 2) := by decide +kernel
theorem dX8_suspect_61 : decode cX8_suspect 61 = .ok (.iload_n 3, 1) := by decide +kernel
theorem dX8_suspect_62 : decode cX8_suspect 62 = .ok (.iconst 5, 1) := by decide +kernel
theorem dX8_suspect_63 : decode cX8_suspect 63 = .ok (.idiv, 1) := by decide +kernel
theorem dX8_suspect_64 : decode cX8_suspect 64 = .ok (.imul, 1) := by decide +kernel
theorem dX8_suspect_65 : decode cX8_suspect 65 = .ok (.iload_n 3, 1) := by decide +kernel
theorem dX8_suspect_66 : decode cX8_suspect 66 = .ok (.iconst 5, 1) := by decide +kernel
theorem dX8_suspect_67 : decode cX8_suspect 67 = .ok (.irem, 1) := by decide +kernel
theorem dX8_suspect_68 : decode cX8_suspect 68 = .ok (.iadd, 1) := by decide +kernel
theorem dX8_suspect_69 : decode cX8_suspect 69 = .ok (.ireturn, 1) := by decide +kernel
theorem dX8_suspect_70 : decode cX8_suspect 70 = .ok (.iinc 2 (-1), 3) := by decide +kernel
theorem dX8_suspect_73 : decode cX8_suspect 73 = .ok (.iinc 3 1, 3) := by decide +kernel
theorem dX8_suspect_76 : decode cX8_suspect 76 = .ok (.goto (-44), 3) := by decide +kernel
theorem dX8_suspect_79 : decode cX8_suspect 79 = .ok (.iconst (-1), 1) := by decide +kernel
theorem dX8_suspect_80 : decode cX8_suspect 80 = .ok (.ireturn, 1) := by decide +kernel
theorem dX8_fingerprint_0 : decode cX8_fingerprint 0 = .ok (.aload_n 0, 1) := by decide +kernel
theorem dX8_fingerprint_1 : decode cX8_fingerprint 1 = .ok (.iconst 0, 1) := by decide +kernel
theorem dX8_fingerprint_2 : decode cX8_fingerprint 2 = .ok (.putfield 47, 3) := by decide +kernel
theorem dX8_fingerprint_5 : decode cX8_fingerprint 5 = .ok (.ldc2_w 190, 3) := by decide +kernel
theorem dX8_fingerprint_8 : decode cX8_fingerprint 8 = .ok (.aload_n 0, 1) := by decide +kernel
theorem dX8_fingerprint_9 : decode cX8_fingerprint 9 = .ok (.getfield 7, 3) := by decide +kernel
theorem dX8_fingerprint_12 : decode cX8_fingerprint 12 = .ok (.iconst 0, 1) := by decide +kernel
theorem dX8_fingerprint_13 : decode cX8_fingerprint 13 = .ok (.iaload, 1) := by decide +kernel
theorem dX8_fingerprint_14 : decode cX8_fingerprint 14 = .ok (.i2l, 1) := by decide +kernel
theorem dX8_fingerprint_15 : decode cX8_fingerprint 15 = .ok (.ladd, 1) := by decide +kernel
theorem dX8_fingerprint_16 : decode cX8_fingerprint 16 = .ok (.lstore_n 1, 1) := by decide +kernel
theorem dX8_fingerprint_17 : decode cX8_fingerprint 17 = .ok (.ldc2_w 192, 3) := by decide +kernel
theorem dX8_fingerprint_20 : decode cX8_fingerprint 20 = .ok (.lload_n 1, 1) := by decide +kernel
theorem dX8_fingerprint_21 : decode cX8_fingerprint 21 = .ok (.lmul, 1) := by decide +kernel
theorem dX8_fingerprint_22 : decode cX8_fingerprint 22 = .ok (.aload_n 0, 1) := by decide +kernel
theorem dX8_fingerprint_23 : decode cX8_fingerprint 23 = .ok (.getfield 7, 3) := by decide +kernel
theorem dX8_fingerprint_26 : decode cX8_fingerprint 26 = .ok (.iconst 3, 1) := by decide +kernel
theorem dX8_fingerprint_27 : decode cX8_fingerprint 27 = .ok (.iaload, 1) := by decide +kernel
theorem dX8_fingerprint_28 : decode cX8_fingerprint 28 = .ok (.i2l, 1) := by decide +kernel
theorem dX8_fingerprint_29 : decode cX8_fingerprint 29 = .ok (.ladd, 1) := by decide +kernel
theorem dX8_fingerprint_30 : decode cX8_fingerprint 30 = .ok (.lstore_n 1, 1) := by decide +kernel
theorem dX8_fingerprint_31 : decode cX8_fingerprint 31 = .ok (.ldc2_w 192, 3) := by decide +kernel
theorem dX8_fingerprint_34 : decode cX8_fingerprint 34 = .ok (.lload_n 1, 1) := by decide +kernel
theorem dX8_fingerprint_35 : decode cX8_fingerprint 35 = .ok (.lmul, 1) := by decide +kernel
theorem dX8_fingerprint_36 : decode cX8_fingerprint 36 = .ok (.aload_n 0, 1) := by decide +kernel
theorem dX8_fingerprint_37 : decode cX8_fingerprint 37 = .ok (.getfield 7, 3) := by decide +kernel
theorem dX8_fingerprint_40 : decode cX8_fingerprint 40 = .ok (.iconst 4, 1) := by decide +kernel
theorem dX8_fingerprint_41 : decode cX8_fingerprint 41 = .ok (.iaload, 1) := by decide +kernel
theorem dX8_fingerprint_42 : decode cX8_fingerprint 42 = .ok (.i2l, 1) := by decide +kernel
theorem dX8_fingerprint_43 : decode cX8_fingerprint 43 = .ok (.ladd, 1) := by decide +kernel
theorem dX8_fingerprint_44 : decode cX8_fingerprint 44 = .ok (.lstore_n 1, 1) := by decide +kernel
theorem dX8_fingerprint_45 : decode cX8_fingerprint 45 = .ok (.ldc2_w 192, 3) := by decide +kernel
theorem dX8_fingerprint_48 : decode cX8_fingerprint 48 = .ok (.lload_n 1, 1) := by decide +kernel
theorem dX8_fingerprint_49 : decode cX8_fingerprint 49 = .ok (.lmul, 1) := by decide +kernel
theorem dX8_fingerprint_50 : decode cX8_fingerprint 50 = .ok (.aload_n 0, 1) := by decide +kernel
theorem dX8_fingerprint_51 : decode cX8_fingerprint 51 = .ok (.getfield 7, 3) := by decide +kernel
theorem dX8_fingerprint_54 : decode cX8_fingerprint 54 = .ok (.iconst 5, 1) := by decide +kernel
theorem dX8_fingerprint_55 : decode cX8_fingerprint 55 = .ok (.iaload, 1) := by decide +kernel
theorem dX8_fingerprint_56 : decode cX8_fingerprint 56 = .ok (.i2l, 1) := by decide +kernel
theorem dX8_fingerprint_57 : decode cX8_fingerprint 57 = .ok (.ladd, 1) := by decide +kernel
theorem dX8_fingerprint_58 : decode cX8_fingerprint 58 = .ok (.lstore_n 1, 1) := by decide +kernel
theorem dX8_fingerprint_59 : decode cX8_fingerprint 59 = .ok (.ldc2_w 192, 3) := by decide +kernel
theorem dX8_fingerprint_62 : decode cX8_fingerprint 62 = .ok (.lload_n 1, 1) := by decide +kernel
theorem dX8_fingerprint_63 : decode cX8_fingerprint 63 = .ok (.lmul, 1) := by decide +kernel
theorem dX8_fingerprint_64 : decode cX8_fingerprint 64 = .ok (.aload_n 0, 1) := by decide +kernel
theorem dX8_fingerprint_65 : decode cX8_fingerprint 65 = .ok (.getfield 7, 3) := by decide +kernel
theorem dX8_fingerprint_68 : decode cX8_fingerprint 68 = .ok (.bipush 9, 2) := by decide +kernel
theorem dX8_fingerprint_70 : decode cX8_fingerprint 70 = .ok (.iaload, 1) := by decide +kernel
theorem dX8_fingerprint_71 : decode cX8_fingerprint 71 = .ok (.i2l, 1) := by decide +kernel
theorem dX8_fingerprint_72 : decode cX8_fingerprint 72 = .ok (.ladd, 1) := by decide +kernel
theorem dX8_fingerprint_73 : decode cX8_fingerprint 73 = .ok (.lstore_n 1, 1) := by decide +kernel
theorem dX8_fingerprint_74 : decode cX8_fingerprint 74 = .ok (.ldc2_w 192, 3) := by decide +kernel
theorem dX8_fingerprint_77 : decode cX8_fingerprint 77 = .ok (.lload_n 1, 1) := by decide +kernel
theorem dX8_fingerprint_78 : decode cX8_fingerprint 78 = .ok (.lmul, 1) := by decide +kernel
theorem dX8_fingerprint_79 : decode cX8_fingerprint 79 = .ok (.aload_n 0, 1) := by decide +kernel
theorem dX8_fingerprint_80 : decode cX8_fingerprint 80 = .ok (.getfield 7, 3) := by decide +kernel
theorem dX8_fingerprint_83 : decode cX8_fingerprint 83 = .ok (.bipush 10, 2) := by decide +kernel
theorem dX8_fingerprint_85 : decode cX8_fingerprint 85 = .ok (.iaload, 1) := by decide +kernel
theorem dX8_fingerprint_86 : decode cX8_fingerprint 86 = .ok (.i2l, 1) := by decide +kernel
theorem dX8_fingerprint_87 : decode cX8_fingerprint 87 = .ok (.ladd, 1) := by decide +kernel
theorem dX8_fingerprint_88 : decode cX8_fingerprint 88 = .ok (.lstore_n 1, 1) := by decide +kernel
theorem dX8_fingerprint_89 : decode cX8_fingerprint 89 = .ok (.iconst 0, 1) := by decide +kernel
theorem dX8_fingerprint_90 : decode cX8_fingerprint 90 = .ok (.istore_n 3, 1) := by decide +kernel
theorem dX8_fingerprint_91 : decode cX8_fingerprint 91 = .ok (.iload_n 3, 1) := by decide +kernel
theorem dX8_fingerprint_92 : decode cX8_fingerprint 92 = .ok (.bipush 6, 2) := by decide +kernel
theorem dX8_fingerprint_94 : decode cX8_fingerprint 94 = .ok (.if_icmp .ge 60, 3) := by decide +kernel
theorem dX8_fingerprint_97 : decode cX8_fingerprint 97 = .ok (.ldc2_w 192, 3) := by decide +kernel
theorem dX8_fingerprint_100 : decode cX8_fingerprint 100 = .ok (.lload_n 1, 1) := by decide +kernel
theorem dX8_fingerprint_101 : decode cX8_fingerprint 101 = .ok (.lmul, 1) := by decide +kernel
theorem dX8_fingerprint_102 : decode cX8_fingerprint 102 = .ok (.aload_n 0, 1) := by decide +kernel
theorem dX8_fingerprint_103 : decode cX8_fingerprint 103 = .ok (.getfield 7, 3) := by decide +kernel
theorem dX8_fingerprint_106 : decode cX8_fingerprint 106 = .ok (.bipush 20, 2) := by decide +kernel
theorem dX8_fingerprint_108 : decode cX8_fingerprint 108 = .ok (.iload_n 3, 1) := by decide +kernel
theorem dX8_fingerprint_109 : decode cX8_fingerprint 109 = .ok (.iadd, 1) := by decide +kernel
theorem dX8_fingerprint_110 : decode cX8_fingerprint 110 = .ok (.iaload, 1) := by decide +kernel
theorem dX8_fingerprint_111 : decode cX8_fingerprint 111 = .ok (.i2l, 1) := by decide +kernel
theorem dX8_fingerprint_112 : decode cX8_fingerprint 112 = .ok (.ladd, 1) := by decide +kernel
theorem dX8_fingerprint_113 : decode cX8_fingerprint 113 = .ok (.lstore_n 1, 1) := by decide +kernel
theorem dX8_fingerprint_114 : decode cX8_fingerprint 114 = .ok (.ldc2_w 192, 3) := by decide +kernel
theorem dX8_fingerprint_117 : decode cX8_fingerprint 117 = .ok (.lload_n 1, 1) := by decide +kernel
theorem dX8_fingerprint_118 : decode cX8_fingerprint 118 = .ok (.lmul, 1) := by decide +kernel
theorem dX8_fingerprint_119 : decode cX8_fingerprint 119 = .ok (.aload_n 0, 1) := by decide +kernel
theorem dX8_fingerprint_120 : decode cX8_fingerprint 120 = .ok (.getfield 7, 3) := by decide +kernel
theorem dX8_fingerprint_123 : decode cX8_fingerprint 123 = .ok (.bipush 26, 2) := by decide +kernel
theorem dX8_fingerprint_125 : decode cX8_fingerprint 125 = .ok (.iload_n 3, 1) := by decide +kernel
theorem dX8_fingerprint_126 : decode cX8_fingerprint 126 = .ok (.iadd, 1) := by decide +kernel
theorem dX8_fingerprint_127 : decode cX8_fingerprint 127 = .ok (.iaload, 1) := by decide +kernel
theorem dX8_fingerprint_128 : decode cX8_fingerprint 128 = .ok (.i2l, 1) := by decide +kernel
theorem dX8_fingerprint_129 : decode cX8_fingerprint 129 = .ok (.ladd, 1) := by decide +kernel
theorem dX8_fingerprint_130 : decode cX8_fingerprint 130 = .ok (.lstore_n 1, 1) := by decide +kernel
theorem dX8_fingerprint_131 : decode cX8_fingerprint 131 = .ok (.ldc2_w 192, 3) := by decide +kernel
theorem dX8_fingerprint_134 : decode cX8_fingerprint 134 = .ok (.lload_n 1, 1) := by decide +kernel
theorem dX8_fingerprint_135 : decode cX8_fingerprint 135 = .ok (.lmul, 1) := by decide +kernel
theorem dX8_fingerprint_136 : decode cX8_fingerprint 136 = .ok (.aload_n 0, 1) := by decide +kernel
theorem dX8_fingerprint_137 : decode cX8_fingerprint 137 = .ok (.getfield 7, 3) := by decide +kernel
theorem dX8_fingerprint_140 : decode cX8_fingerprint 140 = .ok (.bipush 32, 2) := by decide +kernel
theorem dX8_fingerprint_142 : decode cX8_fingerprint 142 = .ok (.iload_n 3, 1) := by decide +kernel
theorem dX8_fingerprint_143 : decode cX8_fingerprint 143 = .ok (.iadd, 1) := by decide +kernel
theorem dX8_fingerprint_144 : decode cX8_fingerprint 144 = .ok (.iaload, 1) := by decide +kernel
theorem dX8_fingerprint_145 : decode cX8_fingerprint 145 = .ok (.i2l, 1) := by decide +kernel
theorem dX8_fingerprint_146 : decode cX8_fingerprint 146 = .ok (.ladd, 1) := by decide +kernel
theorem dX8_fingerprint_147 : decode cX8_fingerprint 147 = .ok (.lstore_n 1, 1) := by decide +kernel
theorem dX8_fingerprint_148 : decode cX8_fingerprint 148 = .ok (.iinc 3 1, 3) := by decide +kernel
theorem dX8_fingerprint_151 : decode cX8_fingerprint 151 = .ok (.goto (-60), 3) := by decide +kernel
theorem dX8_fingerprint_154 : decode cX8_fingerprint 154 = .ok (.iconst 0, 1) := by decide +kernel
theorem dX8_fingerprint_155 : decode cX8_fingerprint 155 = .ok (.istore_n 3, 1) := by decide +kernel
theorem dX8_fingerprint_156 : decode cX8_fingerprint 156 = .ok (.iload_n 3, 1) := by decide +kernel
theorem dX8_fingerprint_157 : decode cX8_fingerprint 157 = .ok (.aload_n 0, 1) := by decide +kernel
theorem dX8_fingerprint_158 : decode cX8_fingerprint 158 = .ok (.getfield 104, 3) := by decide +kernel
theorem dX8_fingerprint_161 : decode cX8_fingerprint 161 = .ok (.if_icmp .ge 26, 3) := by decide +kernel
theorem dX8_fingerprint_164 : decode cX8_fingerprint 164 = .ok (.ldc2_w 192, 3) := by decide +kernel
theorem dX8_fingerprint_167 : decode cX8_fingerprint 167 = .ok (.lload_n 1, 1) := by decide +kernel
theorem dX8_fingerprint_168 : decode cX8_fingerprint 168 = .ok (.lmul, 1) := by decide +kernel
theorem dX8_fingerprint_169 : decode cX8_fingerprint 169 = .ok (.aload_n 0, 1) := by decide +kernel
theorem dX8_fingerprint_170 : decode cX8_fingerprint 170 = .ok (.getfield 7, 3) := by decide +kernel
theorem dX8_fingerprint_173 : decode cX8_fingerprint 173 = .ok (.bipush 44, 2) := by decide +kernel
theorem dX8_fingerprint_175 : decode cX8_fingerprint 175 = .ok (.iload_n 3, 1) := by decide +kernel
theorem dX8_fingerprint_176 : decode cX8_fingerprint 176 = .ok (.iadd, 1) := by decide +kernel
theorem dX8_fingerprint_177 : decode cX8_fingerprint 177 = .ok (.iaload, 1) := by decide +kernel
theorem dX8_fingerprint_178 : decode cX8_fingerprint 178 = .ok (.i2l, 1) := by decide +kernel
theorem dX8_fingerprint_179 : decode cX8_fingerprint 179 = .ok (.ladd, 1) := by decide +kernel
theorem dX8_fingerprint_180 : decode cX8_fingerprint 180 = .ok (.lstore_n 1, 1) := by decide +kernel
theorem dX8_fingerprint_181 : decode cX8_fingerprint 181 = .ok (.iinc 3 1, 3) := by decide +kernel
theorem dX8_fingerprint_184 : decode cX8_fingerprint 184 = .ok (.goto (-28), 3) := by decide +kernel
theorem dX8_fingerprint_187 : decode cX8_fingerprint 187 = .ok (.lload_n 1, 1) := by decide +kernel
theorem dX8_fingerprint_188 : decode cX8_fingerprint 188 = .ok (.lreturn, 1) := by decide +kernel
theorem dJ6_bitCount_0f7a4_0 : decode cJ6_bitCount_0f7a4 0 = .ok (.iload_n 0, 1) := by decide +kernel
theorem dJ6_bitCount_0f7a4_1 : decode cJ6_bitCount_0f7a4 1 = .ok (.iload_n 0, 1) := by decide +kernel
theorem dJ6_bitCount_0f7a4_2 : decode cJ6_bitCount_0f7a4 2 = .ok (.iconst 1, 1) := by decide +kernel
theorem dJ6_bitCount_0f7a4_3 : decode cJ6_bitCount_0f7a4 3 = .ok (.iushr, 1) := by decide +kernel
theorem dJ6_bitCount_0f7a4_4 : decode cJ6_bitCount_0f7a4 4 = .ok (.ldc_w 265, 3) := by decide +kernel
theorem dJ6_bitCount_0f7a4_7 : decode cJ6_bitCount_0f7a4 7 = .ok (.iand, 1) := by decide +kernel
theorem dJ6_bitCount_0f7a4_8 : decode cJ6_bitCount_0f7a4 8 = .ok (.isub, 1) := by decide +kernel
theorem dJ6_bitCount_0f7a4_9 : decode cJ6_bitCount_0f7a4 9 = .ok (.istore_n 0, 1) := by decide +kernel
theorem dJ6_bitCount_0f7a4_10 : decode cJ6_bitCount_0f7a4 10 = .ok (.iload_n 0, 1) := by decide +kernel
theorem dJ6_bitCount_0f7a4_11 : decode cJ6_bitCount_0f7a4 11 = .ok (.ldc_w 266, 3) := by decide +kernel
theorem dJ6_bitCount_0f7a4_14 : decode cJ6_bitCount_0f7a4 14 = .ok (.iand, 1) := by decide +kernel
theorem dJ6_bitCount_0f7a4_15 : decode cJ6_bitCount_0f7a4 15 = .ok (.iload_n 0, 1) := by decide +kernel
theorem dJ6_bitCount_0f7a4_16 : decode cJ6_bitCount_0f7a4 16 = .ok (.iconst 2, 1) := by decide +kernel
theorem dJ6_bitCount_0f7a4_17 : decode cJ6_bitCount_0f7a4 17 = .ok (.iushr, 1) := by decide +kernel
theorem dJ6_bitCount_0f7a4_18 : decode cJ6_bitCount_0f7a4 18 = .ok (.ldc_w 266, 3) := by decide +kernel
theorem dJ6_bitCount_0f7a4_21 : decode cJ6_bitCount_0f7a4 21 = .ok (.iand, 1) := by decide +kernel
theorem dJ6_bitCount_0f7a4_22 : decode cJ6_bitCount_0f7a4 22 = .ok (.iadd, 1) := by decide +kernel
theorem dJ6_bitCount_0f7a4_23 : decode cJ6_bitCount_0f7a4 23 = .ok (.istore_n 0, 1) := by decide +kernel
theorem dJ6_bitCount_0f7a4_24 : decode cJ6_bitCount_0f7a4 24 = .ok (.iload_n 0, 1) := by decide +kernel
theorem dJ6_bitCount_0f7a4_25 : decode cJ6_bitCount_0f7a4 25 = .ok (.iload_n 0, 1) := by decide +kernel
theorem dJ6_bitCount_0f7a4_26 : decode cJ6_bitCount_0f7a4 26 = .ok (.iconst 4, 1) := by decide +kernel
theorem dJ6_bitCount_0f7a4_27 : decode cJ6_bitCount_0f7a4 27 = .ok (.iushr, 1) := by decide +kernel
theorem dJ6_bitCount_0f7a4_28 : decode cJ6_bitCount_0f7a4 28 = .ok (.iadd, 1) := by decide +kernel
theorem dJ6_bitCount_0f7a4_29 : decode cJ6_bitCount_0f7a4 29 = .ok (.ldc_w 267, 3) := by decide +kernel
theorem dJ6_bitCount_0f7a4_32 : decode cJ6_bitCount_0f7a4 32 = .ok (.iand, 1) := by decide +kernel
theorem dJ6_bitCount_0f7a4_33 : decode cJ6_bitCount_0f7a4 33 = .ok (.istore_n 0, 1) := by decide +kernel
theorem dJ6_bitCount_0f7a4_34 : decode cJ6_bitCount_0f7a4 34 = .ok (.iload_n 0, 1) := by decide +kernel
theorem dJ6_bitCount_0f7a4_35 : decode cJ6_bitCount_0f7a4 35 = .ok (.iload_n 0, 1) := by decide +kernel
theorem dJ6_bitCount_0f7a4_36 : decode cJ6_bitCount_0f7a4 36 = .ok (.bipush 8, 2) := by decide +kernel
theorem dJ6_bitCount_0f7a4_38 : decode cJ6_bitCount_0f7a4 38 = .ok (.iushr, 1) := by decide +kernel
theorem dJ6_bitCount_0f7a4_39 : decode cJ6_bitCount_0f7a4 39 = .ok (.iadd, 1) := by decide +kernel
theorem dJ6_bitCount_0f7a4_40 : decode cJ6_bitCount_0f7a4 40 = .ok (.istore_n 0, 1) := by decide +kernel
theorem dJ6_bitCount_0f7a4_41 : decode cJ6_bitCount_0f7a4 41 = .ok (.iload_n 0, 1) := by decide +kernel
theorem dJ6_bitCount_0f7a4_42 : decode cJ6_bitCount_0f7a4 42 = .ok (.iload_n 0, 1) := by decide +kernel
theorem dJ6_bitCount_0f7a4_43 : decode cJ6_bitCount_0f7a4 43 = .ok (.bipush 16, 2) := by decide +kernel
theorem dJ6_bitCount_0f7a4_45 : decode cJ6_bitCount_0f7a4 45 = .ok (.iushr, 1) := by decide +kernel
theorem dJ6_bitCount_0f7a4_46 : decode cJ6_bitCount_0f7a4 46 = .ok (.iadd, 1) := by decide +kernel
theorem dJ6_bitCount_0f7a4_47 : decode cJ6_bitCount_0f7a4 47 = .ok (.istore_n 0, 1) := by decide +kernel
theorem dJ6_bitCount_0f7a4_48 : decode cJ6_bitCount_0f7a4 48 = .ok (.iload_n 0, 1) := by decide +kernel
theorem dJ6_bitCount_0f7a4_49 : decode cJ6_bitCount_0f7a4 49 = .ok (.bipush 63, 2) := by decide +kernel
theorem dJ6_bitCount_0f7a4_51 : decode cJ6_bitCount_0f7a4 51 = .ok (.iand, 1) := by decide +kernel
theorem dJ6_bitCount_0f7a4_52 : decode cJ6_bitCount_0f7a4 52 = .ok (.ireturn, 1) := by decide +kernel
theorem dJ9_min_7cf53_0 : decode cJ9_min_7cf53 0 = .ok (.iload_n 0, 1) := by decide +kernel
theorem dJ9_min_7cf53_1 : decode cJ9_min_7cf53 1 = .ok (.iload_n 1, 1) := by decide +kernel
theorem dJ9_min_7cf53_2 : decode cJ9_min_7cf53 2 = .ok (.if_icmp .gt 7, 3) := by decide +kernel
theorem dJ9_min_7cf53_5 : decode cJ9_min_7cf53 5 = .ok (.iload_n 0, 1) := by decide +kernel
theorem dJ9_min_7cf53_6 : decode cJ9_min_7cf53 6 = .ok (.goto 4, 3) := by decide +kernel
theorem dJ9_min_7cf53_9 : decode cJ9_min_7cf53 9 = .ok (.iload_n 1, 1) := by decide +kernel
theorem dJ9_min_7cf53_10 : decode cJ9_min_7cf53 10 = .ok (.ireturn, 1) := by decide +kernel
theorem dJ7_fill_53178_0 : decode cJ7_fill_53178 0 = .ok (.iconst 0, 1) := by decide +kernel
theorem dJ7_fill_53178_1 : decode cJ7_fill_53178 1 = .ok (.istore_n 2, 1) := by decide +kernel
theorem dJ7_fill_53178_2 : decode cJ7_fill_53178 2 = .ok (.aload_n 0, 1) := by decide +kernel
theorem dJ7_fill_53178_3 : decode cJ7_fill_53178 3 = .ok (.arraylength, 1) := by decide +kernel
theorem dJ7_fill_53178_4 : decode cJ7_fill_53178 4 = .ok (.istore_n 3, 1) := by decide +kernel
theorem dJ7_fill_53178_5 : decode cJ7_fill_53178 5 = .ok (.iload_n 2, 1) := by decide +kernel
theorem dJ7_fill_53178_6 : decode cJ7_fill_53178 6 = .ok (.iload_n 3, 1) := by decide +kernel
theorem dJ7_fill_53178_7 : decode cJ7_fill_53178 7 = .ok (.if_icmp .ge 13, 3) := by decide +kernel
theorem dJ7_fill_53178_10 : decode cJ7_fill_53178 10 = .ok (.aload_n 0, 1) := by decide +kernel
theorem dJ7_fill_53178_11 : decode cJ7_fill_53178 11 = .ok (.iload_n 2, 1) := by decide +kernel
theorem dJ7_fill_53178_12 : decode cJ7_fill_53178 12 = .ok (.iload_n 1, 1) := by decide +kernel
theorem dJ7_fill_53178_13 : decode cJ7_fill_53178 13 = .ok (.iastore, 1) := by decide +kernel
theorem dJ7_fill_53178_14 : decode cJ7_fill_53178 14 = .ok (.iinc 2 1, 3) := by decide +kernel
theorem dJ7_fill_53178_17 : decode cJ7_fill_53178 17 = .ok (.goto (-12), 3) := by decide +kernel
theorem dJ7_fill_53178_20 : decode cJ7_fill_53178 20 = .ok (.return_, 1) := by decide +kernel
theorem dL_type_0 : decode cL_type 0 = .ok (.aload_n 2, 1) := by decide +kernel
theorem dL_type_1 : decode cL_type 1 = .ok (.iconst 0, 1) := by decide +kernel
theorem dL_type_2 : decode cL_type 2 = .ok (.aload_n 0, 1) := by decide +kernel
theorem dL_type_3 : decode cL_type 3 = .ok (.iload_n 1, 1) := by decide +kernel
theorem dL_type_4 : decode cL_type 4 = .ok (.invokevirtual 7, 3) := by decide +kernel
theorem dL_type_7 : decode cL_type 7 = .ok (.i2l, 1) := by decide +kernel
theorem dL_type_8 : decode cL_type 8 = .ok (.lastore, 1) := by decide +kernel
theorem dL_type_9 : decode cL_type 9 = .ok (.goto 9, 3) := by decide +kernel
theorem dL_type_12 : decode cL_type 12 = .ok (.astore_n 3, 1) := by decide +kernel
theorem dL_type_13 : decode cL_type 13 = .ok (.iconst 1, 1) := by decide +kernel
theorem dL_type_14 : decode cL_type 14 = .ok (.ireturn, 1) := by decide +kernel
theorem dL_type_15 : decode cL_type 15 = .ok (.astore_n 3, 1) := by decide +kernel
theorem dL_type_16 : decode cL_type 16 = .ok (.iconst 2, 1) := by decide +kernel
theorem dL_type_17 : decode cL_type 17 = .ok (.ireturn, 1) := by decide +kernel
theorem dL_type_18 : decode cL_type 18 = .ok (.iconst 0, 1) := by decide +kernel
theorem dL_type_19 : decode cL_type 19 = .ok (.ireturn, 1) := by decide +kernel
theorem dL_moves_0 : decode cL_moves 0 = .ok (.aload_n 2, 1) := by decide +kernel
theorem dL_moves_1 : decode cL_moves 1 = .ok (.iconst 0, 1) := by decide +kernel
theorem dL_moves_2 : decode cL_moves 2 = .ok (.aload_n 0, 1) := by decide +kernel
theorem dL_moves_3 : decode cL_moves 3 = .ok (.iload_n 1, 1) := by decide +kernel
theorem dL_moves_4 : decode cL_moves 4 = .ok (.invokevirtual 17, 3) := by decide +kernel
theorem dL_moves_7 : decode cL_moves 7 = .ok (.i2l, 1) := by decide +kernel
theorem dL_moves_8 : decode cL_moves 8 = .ok (.lastore, 1) := by decide +kernel
theorem dL_moves_9 : decode cL_moves 9 = .ok (.goto 6, 3) := by decide +kernel
theorem dL_moves_12 : decode cL_moves 12 = .ok (.astore_n 3, 1) := by decide +kernel
theorem dL_moves_13 : decode cL_moves 13 = .ok (.iconst 1, 1) := by decide +kernel
theorem dL_moves_14 : decode cL_moves 14 = .ok (.ireturn, 1) := by decide +kernel
theorem dL_moves_15 : decode cL_moves 15 = .ok (.iconst 0, 1) := by decide +kernel
theorem dL_moves_16 : decode cL_moves 16 = .ok (.ireturn, 1) := by decide +kernel
theorem dL_direction_0 : decode cL_direction 0 = .ok (.aload_n 3, 1) := by decide +kernel
theorem dL_direction_1 : decode cL_direction 1 = .ok (.iconst 0, 1) := by decide +kernel
theorem dL_direction_2 : decode cL_direction 2 = .ok (.aload_n 0, 1) := by decide +kernel
theorem dL_direction_3 : decode cL_direction 3 = .ok (.iload_n 1, 1) := by decide +kernel
theorem dL_direction_4 : decode cL_direction 4 = .ok (.iload_n 2, 1) := by decide +kernel
theorem dL_direction_5 : decode cL_direction 5 = .ok (.invokevirtual 22, 3) := by decide +kernel
theorem dL_direction_8 : decode cL_direction 8 = .ok (.i2l, 1) := by decide +kernel
theorem dL_direction_9 : decode cL_direction 9 = .ok (.lastore, 1) := by decide +kernel
theorem dL_direction_10 : decode cL_direction 10 = .ok (.goto 7, 3) := by decide +kernel
theorem dL_direction_13 : decode cL_direction 13 = .ok (.astore 4, 2) := by decide +kernel
theorem dL_direction_15 : decode cL_direction 15 = .ok (.iconst 1, 1) := by decide +kernel
theorem dL_direction_16 : decode cL_direction 16 = .ok (.ireturn, 1) := by decide +kernel
theorem dL_direction_17 : decode cL_direction 17 = .ok (.iconst 0, 1) := by decide +kernel
theorem dL_direction_18 : decode cL_direction 18 = .ok (.ireturn, 1) := by decide +kernel
theorem dL_pause_0 : decode cL_pause 0 = .ok (.aload_n 2, 1) := by decide +kernel
theorem dL_pause_1 : decode cL_pause 1 = .ok (.iconst 0, 1) := by decide +kernel
theorem dL_pause_2 : decode cL_pause 2 = .ok (.aload_n 0, 1) := by decide +kernel
theorem dL_pause_3 : decode cL_pause 3 = .ok (.iload_n 1, 1) := by decide +kernel
theorem dL_pause_4 : decode cL_pause 4 = .ok (.invokevirtual 26, 3) := by decide +kernel
theorem dL_pause_7 : decode cL_pause 7 = .ok (.i2l, 1) := by decide +kernel
theorem dL_pause_8 : decode cL_pause 8 = .ok (.lastore, 1) := by decide +kernel
theorem dL_pause_9 : decode cL_pause 9 = .ok (.goto 6, 3) := by decide +kernel
theorem dL_pause_12 : decode cL_pause 12 = .ok (.astore_n 3, 1) := by decide +kernel
theorem dL_pause_13 : decode cL_pause 13 = .ok (.iconst 1, 1) := by decide +kernel
theorem dL_pause_14 : decode cL_pause 14 = .ok (.ireturn, 1) := by decide +kernel
theorem dL_pause_15 : decode cL_pause 15 = .ok (.iconst 0, 1) := by decide +kernel
theorem dL_pause_16 : decode cL_pause 16 = .ok (.ireturn, 1) := by decide +kernel
theorem dL_clashes_0 : decode cL_clashes 0 = .ok (.aload_n 1, 1) := by decide +kernel
theorem dL_clashes_1 : decode cL_clashes 1 = .ok (.iconst 0, 1) := by decide +kernel
theorem dL_clashes_2 : decode cL_clashes 2 = .ok (.aload_n 0, 1) := by decide +kernel
theorem dL_clashes_3 : decode cL_clashes 3 = .ok (.invokevirtual 29, 3) := by decide +kernel
theorem dL_clashes_6 : decode cL_clashes 6 = .ok (.i2l, 1) := by decide +kernel
theorem dL_clashes_7 : decode cL_clashes 7 = .ok (.lastore, 1) := by decide +kernel
theorem dL_clashes_8 : decode cL_clashes 8 = .ok (.goto 6, 3) := by decide +kernel
theorem dL_clashes_11 : decode cL_clashes 11 = .ok (.astore_n 2, 1) := by decide +kernel
theorem dL_clashes_12 : decode cL_clashes 12 = .ok (.iconst 1, 1) := by decide +kernel
theorem dL_clashes_13 : decode cL_clashes 13 = .ok (.ireturn, 1) := by decide +kernel
theorem dL_clashes_14 : decode cL_clashes 14 = .ok (.iconst 0, 1) := by decide +kernel
theorem dL_clashes_15 : decode cL_clashes 15 = .ok (.ireturn, 1) := by decide +kernel
theorem dL_clash_0 : decode cL_clash 0 = .ok (.aload_n 3, 1) := by decide +kernel
theorem dL_clash_1 : decode cL_clash 1 = .ok (.iconst 0, 1) := by decide +kernel
theorem dL_clash_2 : decode cL_clash 2 = .ok (.aload_n 0, 1) := by decide +kernel
theorem dL_clash_3 : decode cL_clash 3 = .ok (.iload_n 1, 1) := by decide +kernel
theorem dL_clash_4 : decode cL_clash 4 = .ok (.iload_n 2, 1) := by decide +kernel
theorem dL_clash_5 : decode cL_clash 5 = .ok (.invokevirtual 33, 3) := by decide +kernel
theorem dL_clash_8 : decode cL_clash 8 = .ok (.i2l, 1) := by decide +kernel
theorem dL_clash_9 : decode cL_clash 9 = .ok (.lastore, 1) := by decide +kernel
theorem dL_clash_10 : decode cL_clash 10 = .ok (.goto 7, 3) := by decide +kernel
theorem dL_clash_13 : decode cL_clash 13 = .ok (.astore 4, 2) := by decide +kernel
theorem dL_clash_15 : decode cL_clash 15 = .ok (.iconst 1, 1) := by decide +kernel
theorem dL_clash_16 : decode cL_clash 16 = .ok (.ireturn, 1) := by decide +kernel
theorem dL_clash_17 : decode cL_clash 17 = .ok (.iconst 0, 1) := by decide +kernel
theorem dL_clash_18 : decode cL_clash 18 = .ok (.ireturn, 1) := by decide +kernel
theorem dL_groups_0 : decode cL_groups 0 = .ok (.aload_n 1, 1) := by decide +kernel
theorem dL_groups_1 : decode cL_groups 1 = .ok (.iconst 0, 1) := by decide +kernel
theorem dL_groups_2 : decode cL_groups 2 = .ok (.aload_n 0, 1) := by decide +kernel
theorem dL_groups_3 : decode cL_groups 3 = .ok (.invokevirtual 36, 3) := by decide +kernel
theorem dL_groups_6 : decode cL_groups 6 = .ok (.i2l, 1) := by decide +kernel
theorem dL_groups_7 : decode cL_groups 7 = .ok (.lastore, 1) := by decide +kernel
theorem dL_groups_8 : decode cL_groups 8 = .ok (.goto 6, 3) := by decide +kernel
theorem dL_groups_11 : decode cL_groups 11 = .ok (.astore_n 2, 1) := by decide +kernel
theorem dL_groups_12 : decode cL_groups 12 = .ok (.iconst 1, 1) := by decide +kernel
theorem dL_groups_13 : decode cL_groups 13 = .ok (.ireturn, 1) := by decide +kernel
theorem dL_groups_14 : decode cL_groups 14 = .ok (.iconst 0, 1) := by decide +kernel
theorem dL_groups_15 : decode cL_groups 15 = .ok (.ireturn, 1) := by decide +kernel
theorem dL_cut_0 : decode cL_cut 0 = .ok (.aload_n 2, 1) := by decide +kernel
theorem dL_cut_1 : decode cL_cut 1 = .ok (.iconst 0, 1) := by decide +kernel
theorem dL_cut_2 : decode cL_cut 2 = .ok (.aload_n 0, 1) := by decide +kernel
theorem dL_cut_3 : decode cL_cut 3 = .ok (.iload_n 1, 1) := by decide +kernel
theorem dL_cut_4 : decode cL_cut 4 = .ok (.invokevirtual 39, 3) := by decide +kernel
theorem dL_cut_7 : decode cL_cut 7 = .ok (.i2l, 1) := by decide +kernel
theorem dL_cut_8 : decode cL_cut 8 = .ok (.lastore, 1) := by decide +kernel
theorem dL_cut_9 : decode cL_cut 9 = .ok (.goto 6, 3) := by decide +kernel
theorem dL_cut_12 : decode cL_cut 12 = .ok (.astore_n 3, 1) := by decide +kernel
theorem dL_cut_13 : decode cL_cut 13 = .ok (.iconst 1, 1) := by decide +kernel
theorem dL_cut_14 : decode cL_cut 14 = .ok (.ireturn, 1) := by decide +kernel
theorem dL_cut_15 : decode cL_cut 15 = .ok (.iconst 0, 1) := by decide +kernel
theorem dL_cut_16 : decode cL_cut 16 = .ok (.ireturn, 1) := by decide +kernel
theorem dL_groupOf_0 : decode cL_groupOf 0 = .ok (.aload_n 2, 1) := by decide +kernel
theorem dL_groupOf_1 : decode cL_groupOf 1 = .ok (.iconst 0, 1) := by decide +kernel
theorem dL_groupOf_2 : decode cL_groupOf 2 = .ok (.aload_n 0, 1) := by decide +kernel
theorem dL_groupOf_3 : decode cL_groupOf 3 = .ok (.iload_n 1, 1) := by decide +kernel
theorem dL_groupOf_4 : decode cL_groupOf 4 = .ok (.invokevirtual 42, 3) := by decide +kernel
theorem dL_groupOf_7 : decode cL_groupOf 7 = .ok (.i2l, 1) := by decide +kernel
theorem dL_groupOf_8 : decode cL_groupOf 8 = .ok (.lastore, 1) := by decide +kernel
theorem dL_groupOf_9 : decode cL_groupOf 9 = .ok (.goto 6, 3) := by decide +kernel
theorem dL_groupOf_12 : decode cL_groupOf 12 = .ok (.astore_n 3, 1) := by decide +kernel
theorem dL_groupOf_13 : decode cL_groupOf 13 = .ok (.iconst 1, 1) := by decide +kernel
theorem dL_groupOf_14 : decode cL_groupOf 14 = .ok (.ireturn, 1) := by decide +kernel
theorem dL_groupOf_15 : decode cL_groupOf 15 = .ok (.iconst 0, 1) := by decide +kernel
theorem dL_groupOf_16 : decode cL_groupOf 16 = .ok (.ireturn, 1) := by decide +kernel
theorem dL_valves_0 : decode cL_valves 0 = .ok (.aload_n 2, 1) := by decide +kernel
theorem dL_valves_1 : decode cL_valves 1 = .ok (.iconst 0, 1) := by decide +kernel
theorem dL_valves_2 : decode cL_valves 2 = .ok (.aload_n 0, 1) := by decide +kernel
theorem dL_valves_3 : decode cL_valves 3 = .ok (.iload_n 1, 1) := by decide +kernel
theorem dL_valves_4 : decode cL_valves 4 = .ok (.invokevirtual 45, 3) := by decide +kernel
theorem dL_valves_7 : decode cL_valves 7 = .ok (.i2l, 1) := by decide +kernel
theorem dL_valves_8 : decode cL_valves 8 = .ok (.lastore, 1) := by decide +kernel
theorem dL_valves_9 : decode cL_valves 9 = .ok (.goto 9, 3) := by decide +kernel
theorem dL_valves_12 : decode cL_valves 12 = .ok (.astore_n 3, 1) := by decide +kernel
theorem dL_valves_13 : decode cL_valves 13 = .ok (.iconst 1, 1) := by decide +kernel
theorem dL_valves_14 : decode cL_valves 14 = .ok (.ireturn, 1) := by decide +kernel
theorem dL_valves_15 : decode cL_valves 15 = .ok (.astore_n 3, 1) := by decide +kernel
theorem dL_valves_16 : decode cL_valves 16 = .ok (.iconst 2, 1) := by decide +kernel
theorem dL_valves_17 : decode cL_valves 17 = .ok (.ireturn, 1) := by decide +kernel
theorem dL_valves_18 : decode cL_valves 18 = .ok (.iconst 0, 1) := by decide +kernel
theorem dL_valves_19 : decode cL_valves 19 = .ok (.ireturn, 1) := by decide +kernel
theorem dL_setMethod_0 : decode cL_setMethod 0 = .ok (.aload_n 2, 1) := by decide +kernel
theorem dL_setMethod_1 : decode cL_setMethod 1 = .ok (.iconst 0, 1) := by decide +kernel
theorem dL_setMethod_2 : decode cL_setMethod 2 = .ok (.aload_n 0, 1) := by decide +kernel
theorem dL_setMethod_3 : decode cL_setMethod 3 = .ok (.iload_n 1, 1) := by decide +kernel
theorem dL_setMethod_4 : decode cL_setMethod 4 = .ok (.invokevirtual 48, 3) := by decide +kernel
theorem dL_setMethod_7 : decode cL_setMethod 7 = .ok (.i2l, 1) := by decide +kernel
theorem dL_setMethod_8 : decode cL_setMethod 8 = .ok (.lastore, 1) := by decide +kernel
theorem dL_setMethod_9 : decode cL_setMethod 9 = .ok (.goto 6, 3) := by decide +kernel
theorem dL_setMethod_12 : decode cL_setMethod 12 = .ok (.astore_n 3, 1) := by decide +kernel
theorem dL_setMethod_13 : decode cL_setMethod 13 = .ok (.iconst 1, 1) := by decide +kernel
theorem dL_setMethod_14 : decode cL_setMethod 14 = .ok (.ireturn, 1) := by decide +kernel
theorem dL_setMethod_15 : decode cL_setMethod 15 = .ok (.iconst 0, 1) := by decide +kernel
theorem dL_setMethod_16 : decode cL_setMethod 16 = .ok (.ireturn, 1) := by decide +kernel
theorem dL_setStroke_0 : decode cL_setStroke 0 = .ok (.aload_n 3, 1) := by decide +kernel
theorem dL_setStroke_1 : decode cL_setStroke 1 = .ok (.iconst 0, 1) := by decide +kernel
theorem dL_setStroke_2 : decode cL_setStroke 2 = .ok (.aload_n 0, 1) := by decide +kernel
theorem dL_setStroke_3 : decode cL_setStroke 3 = .ok (.iload_n 1, 1) := by decide +kernel
theorem dL_setStroke_4 : decode cL_setStroke 4 = .ok (.iload_n 2, 1) := by decide +kernel
theorem dL_setStroke_5 : decode cL_setStroke 5 = .ok (.invokevirtual 51, 3) := by decide +kernel
theorem dL_setStroke_8 : decode cL_setStroke 8 = .ok (.i2l, 1) := by decide +kernel
theorem dL_setStroke_9 : decode cL_setStroke 9 = .ok (.lastore, 1) := by decide +kernel
theorem dL_setStroke_10 : decode cL_setStroke 10 = .ok (.goto 11, 3) := by decide +kernel
theorem dL_setStroke_13 : decode cL_setStroke 13 = .ok (.astore 4, 2) := by decide +kernel
theorem dL_setStroke_15 : decode cL_setStroke 15 = .ok (.iconst 1, 1) := by decide +kernel
theorem dL_setStroke_16 : decode cL_setStroke 16 = .ok (.ireturn, 1) := by decide +kernel
theorem dL_setStroke_17 : decode cL_setStroke 17 = .ok (.astore 4, 2) := by decide +kernel
theorem dL_setStroke_19 : decode cL_setStroke 19 = .ok (.iconst 2, 1) := by decide +kernel
theorem dL_setStroke_20 : decode cL_setStroke 20 = .ok (.ireturn, 1) := by decide +kernel
theorem dL_setStroke_21 : decode cL_setStroke 21 = .ok (.iconst 0, 1) := by decide +kernel
theorem dL_setStroke_22 : decode cL_setStroke 22 = .ok (.ireturn, 1) := by decide +kernel
theorem dL_setFault_0 : decode cL_setFault 0 = .ok (.aload 4, 2) := by decide +kernel
theorem dL_setFault_2 : decode cL_setFault 2 = .ok (.iconst 0, 1) := by decide +kernel
theorem dL_setFault_3 : decode cL_setFault 3 = .ok (.aload_n 0, 1) := by decide +kernel
theorem dL_setFault_4 : decode cL_setFault 4 = .ok (.iload_n 1, 1) := by decide +kernel
theorem dL_setFault_5 : decode cL_setFault 5 = .ok (.iload_n 2, 1) := by decide +kernel
theorem dL_setFault_6 : decode cL_setFault 6 = .ok (.iload_n 3, 1) := by decide +kernel
theorem dL_setFault_7 : decode cL_setFault 7 = .ok (.invokevirtual 54, 3) := by decide +kernel
theorem dL_setFault_10 : decode cL_setFault 10 = .ok (.ifCond .eq 7, 3) := by decide +kernel
theorem dL_setFault_13 : decode cL_setFault 13 = .ok (.lconst 1, 1) := by decide +kernel
theorem dL_setFault_14 : decode cL_setFault 14 = .ok (.goto 4, 3) := by decide +kernel
theorem dL_setFault_17 : decode cL_setFault 17 = .ok (.lconst 0, 1) := by decide +kernel
theorem dL_setFault_18 : decode cL_setFault 18 = .ok (.lastore, 1) := by decide +kernel
theorem dL_setFault_19 : decode cL_setFault 19 = .ok (.goto 11, 3) := by decide +kernel
theorem dL_setFault_22 : decode cL_setFault 22 = .ok (.astore 5, 2) := by decide +kernel
theorem dL_setFault_24 : decode cL_setFault 24 = .ok (.iconst 1, 1) := by decide +kernel
theorem dL_setFault_25 : decode cL_setFault 25 = .ok (.ireturn, 1) := by decide +kernel
theorem dL_setFault_26 : decode cL_setFault 26 = .ok (.astore 5, 2) := by decide +kernel
theorem dL_setFault_28 : decode cL_setFault 28 = .ok (.iconst 2, 1) := by decide +kernel
theorem dL_setFault_29 : decode cL_setFault 29 = .ok (.ireturn, 1) := by decide +kernel
theorem dL_setFault_30 : decode cL_setFault 30 = .ok (.iconst 0, 1) := by decide +kernel
theorem dL_setFault_31 : decode cL_setFault 31 = .ok (.ireturn, 1) := by decide +kernel
theorem dL_ticks_0 : decode cL_ticks 0 = .ok (.aload_n 2, 1) := by decide +kernel
theorem dL_ticks_1 : decode cL_ticks 1 = .ok (.iconst 0, 1) := by decide +kernel
theorem dL_ticks_2 : decode cL_ticks 2 = .ok (.aload_n 0, 1) := by decide +kernel
theorem dL_ticks_3 : decode cL_ticks 3 = .ok (.iload_n 1, 1) := by decide +kernel
theorem dL_ticks_4 : decode cL_ticks 4 = .ok (.invokevirtual 58, 3) := by decide +kernel
theorem dL_ticks_7 : decode cL_ticks 7 = .ok (.i2l, 1) := by decide +kernel
theorem dL_ticks_8 : decode cL_ticks 8 = .ok (.lastore, 1) := by decide +kernel
theorem dL_ticks_9 : decode cL_ticks 9 = .ok (.goto 9, 3) := by decide +kernel
theorem dL_ticks_12 : decode cL_ticks 12 = .ok (.astore_n 3, 1) := by decide +kernel
theorem dL_ticks_13 : decode cL_ticks 13 = .ok (.iconst 1, 1) := by decide +kernel
theorem dL_ticks_14 : decode cL_ticks 14 = .ok (.ireturn, 1) := by decide +kernel
theorem dL_ticks_15 : decode cL_ticks 15 = .ok (.astore_n 3, 1) := by decide +kernel
theorem dL_ticks_16 : decode cL_ticks 16 = .ok (.iconst 2, 1) := by decide +kernel
theorem dL_ticks_17 : decode cL_ticks 17 = .ok (.ireturn, 1) := by decide +kernel
theorem dL_ticks_18 : decode cL_ticks 18 = .ok (.iconst 0, 1) := by decide +kernel
theorem dL_ticks_19 : decode cL_ticks 19 = .ok (.ireturn, 1) := by decide +kernel
theorem dL_position_0 : decode cL_position 0 = .ok (.aload_n 2, 1) := by decide +kernel
theorem dL_position_1 : decode cL_position 1 = .ok (.iconst 0, 1) := by decide +kernel
theorem dL_position_2 : decode cL_position 2 = .ok (.aload_n 0, 1) := by decide +kernel
theorem dL_position_3 : decode cL_position 3 = .ok (.iload_n 1, 1) := by decide +kernel
theorem dL_position_4 : decode cL_position 4 = .ok (.invokevirtual 61, 3) := by decide +kernel
theorem dL_position_7 : decode cL_position 7 = .ok (.i2l, 1) := by decide +kernel
theorem dL_position_8 : decode cL_position 8 = .ok (.lastore, 1) := by decide +kernel
theorem dL_position_9 : decode cL_position 9 = .ok (.goto 6, 3) := by decide +kernel
theorem dL_position_12 : decode cL_position 12 = .ok (.astore_n 3, 1) := by decide +kernel
theorem dL_position_13 : decode cL_position 13 = .ok (.iconst 1, 1) := by decide +kernel
theorem dL_position_14 : decode cL_position 14 = .ok (.ireturn, 1) := by decide +kernel
theorem dL_position_15 : decode cL_position 15 = .ok (.iconst 0, 1) := by decide +kernel
theorem dL_position_16 : decode cL_position 16 = .ok (.ireturn, 1) := by decide +kernel
theorem dL_isOut_0 : decode cL_isOut 0 = .ok (.aload_n 2, 1) := by decide +kernel
theorem dL_isOut_1 : decode cL_isOut 1 = .ok (.iconst 0, 1) := by decide +kernel
theorem dL_isOut_2 : decode cL_isOut 2 = .ok (.aload_n 0, 1) := by decide +kernel
theorem dL_isOut_3 : decode cL_isOut 3 = .ok (.iload_n 1, 1) := by decide +kernel
theorem dL_isOut_4 : decode cL_isOut 4 = .ok (.invokevirtual 64, 3) := by decide +kernel
theorem dL_isOut_7 : decode cL_isOut 7 = .ok (.ifCond .eq 7, 3) := by decide +kernel
theorem dL_isOut_10 : decode cL_isOut 10 = .ok (.lconst 1, 1) := by decide +kernel
theorem dL_isOut_11 : decode cL_isOut 11 = .ok (.goto 4, 3) := by decide +kernel
theorem dL_isOut_14 : decode cL_isOut 14 = .ok (.lconst 0, 1) := by decide +kernel
theorem dL_isOut_15 : decode cL_isOut 15 = .ok (.lastore, 1) := by decide +kernel
theorem dL_isOut_16 : decode cL_isOut 16 = .ok (.goto 6, 3) := by decide +kernel
theorem dL_isOut_19 : decode cL_isOut 19 = .ok (.astore_n 3, 1) := by decide +kernel
theorem dL_isOut_20 : decode cL_isOut 20 = .ok (.iconst 1, 1) := by decide +kernel
theorem dL_isOut_21 : decode cL_isOut 21 = .ok (.ireturn, 1) := by decide +kernel
theorem dL_isOut_22 : decode cL_isOut 22 = .ok (.iconst 0, 1) := by decide +kernel
theorem dL_isOut_23 : decode cL_isOut 23 = .ok (.ireturn, 1) := by decide +kernel
theorem dL_sensor_0 : decode cL_sensor 0 = .ok (.aload_n 3, 1) := by decide +kernel
theorem dL_sensor_1 : decode cL_sensor 1 = .ok (.iconst 0, 1) := by decide +kernel
theorem dL_sensor_2 : decode cL_sensor 2 = .ok (.aload_n 0, 1) := by decide +kernel
theorem dL_sensor_3 : decode cL_sensor 3 = .ok (.iload_n 1, 1) := by decide +kernel
theorem dL_sensor_4 : decode cL_sensor 4 = .ok (.iload_n 2, 1) := by decide +kernel
theorem dL_sensor_5 : decode cL_sensor 5 = .ok (.invokevirtual 68, 3) := by decide +kernel
theorem dL_sensor_8 : decode cL_sensor 8 = .ok (.ifCond .eq 7, 3) := by decide +kernel
theorem dL_sensor_11 : decode cL_sensor 11 = .ok (.lconst 1, 1) := by decide +kernel
theorem dL_sensor_12 : decode cL_sensor 12 = .ok (.goto 4, 3) := by decide +kernel
theorem dL_sensor_15 : decode cL_sensor 15 = .ok (.lconst 0, 1) := by decide +kernel
theorem dL_sensor_16 : decode cL_sensor 16 = .ok (.lastore, 1) := by decide +kernel
theorem dL_sensor_17 : decode cL_sensor 17 = .ok (.goto 7, 3) := by decide +kernel
theorem dL_sensor_20 : decode cL_sensor 20 = .ok (.astore 4, 2) := by decide +kernel
theorem dL_sensor_22 : decode cL_sensor 22 = .ok (.iconst 1, 1) := by decide +kernel
theorem dL_sensor_23 : decode cL_sensor 23 = .ok (.ireturn, 1) := by decide +kernel
theorem dL_sensor_24 : decode cL_sensor 24 = .ok (.iconst 0, 1) := by decide +kernel
theorem dL_sensor_25 : decode cL_sensor 25 = .ok (.ireturn, 1) := by decide +kernel
theorem dL_timer_0 : decode cL_timer 0 = .ok (.aload_n 2, 1) := by decide +kernel
theorem dL_timer_1 : decode cL_timer 1 = .ok (.iconst 0, 1) := by decide +kernel
theorem dL_timer_2 : decode cL_timer 2 = .ok (.aload_n 0, 1) := by decide +kernel
theorem dL_timer_3 : decode cL_timer 3 = .ok (.iload_n 1, 1) := by decide +kernel
theorem dL_timer_4 : decode cL_timer 4 = .ok (.invokevirtual 72, 3) := by decide +kernel
theorem dL_timer_7 : decode cL_timer 7 = .ok (.i2l, 1) := by decide +kernel
theorem dL_timer_8 : decode cL_timer 8 = .ok (.lastore, 1) := by decide +kernel
theorem dL_timer_9 : decode cL_timer 9 = .ok (.goto 6, 3) := by decide +kernel
theorem dL_timer_12 : decode cL_timer 12 = .ok (.astore_n 3, 1) := by decide +kernel
theorem dL_timer_13 : decode cL_timer 13 = .ok (.iconst 1, 1) := by decide +kernel
theorem dL_timer_14 : decode cL_timer 14 = .ok (.ireturn, 1) := by decide +kernel
theorem dL_timer_15 : decode cL_timer 15 = .ok (.iconst 0, 1) := by decide +kernel
theorem dL_timer_16 : decode cL_timer 16 = .ok (.ireturn, 1) := by decide +kernel
theorem dL_commands_0 : decode cL_commands 0 = .ok (.aload_n 2, 1) := by decide +kernel
theorem dL_commands_1 : decode cL_commands 1 = .ok (.iconst 0, 1) := by decide +kernel
theorem dL_commands_2 : decode cL_commands 2 = .ok (.aload_n 0, 1) := by decide +kernel
theorem dL_commands_3 : decode cL_commands 3 = .ok (.iload_n 1, 1) := by decide +kernel
theorem dL_commands_4 : decode cL_commands 4 = .ok (.invokevirtual 75, 3) := by decide +kernel
theorem dL_commands_7 : decode cL_commands 7 = .ok (.i2l, 1) := by decide +kernel
theorem dL_commands_8 : decode cL_commands 8 = .ok (.lastore, 1) := by decide +kernel
theorem dL_commands_9 : decode cL_commands 9 = .ok (.goto 6, 3) := by decide +kernel
theorem dL_commands_12 : decode cL_commands 12 = .ok (.astore_n 3, 1) := by decide +kernel
theorem dL_commands_13 : decode cL_commands 13 = .ok (.iconst 1, 1) := by decide +kernel
theorem dL_commands_14 : decode cL_commands 14 = .ok (.ireturn, 1) := by decide +kernel
theorem dL_commands_15 : decode cL_commands 15 = .ok (.iconst 0, 1) := by decide +kernel
theorem dL_commands_16 : decode cL_commands 16 = .ok (.ireturn, 1) := by decide +kernel
theorem dL_eventTime_0 : decode cL_eventTime 0 = .ok (.aload_n 2, 1) := by decide +kernel
theorem dL_eventTime_1 : decode cL_eventTime 1 = .ok (.iconst 0, 1) := by decide +kernel
theorem dL_eventTime_2 : decode cL_eventTime 2 = .ok (.aload_n 0, 1) := by decide +kernel
theorem dL_eventTime_3 : decode cL_eventTime 3 = .ok (.iload_n 1, 1) := by decide +kernel
theorem dL_eventTime_4 : decode cL_eventTime 4 = .ok (.invokevirtual 78, 3) := by decide +kernel
theorem dL_eventTime_7 : decode cL_eventTime 7 = .ok (.i2l, 1) := by decide +kernel
theorem dL_eventTime_8 : decode cL_eventTime 8 = .ok (.lastore, 1) := by decide +kernel
theorem dL_eventTime_9 : decode cL_eventTime 9 = .ok (.goto 6, 3) := by decide +kernel
theorem dL_eventTime_12 : decode cL_eventTime 12 = .ok (.astore_n 3, 1) := by decide +kernel
theorem dL_eventTime_13 : decode cL_eventTime 13 = .ok (.iconst 1, 1) := by decide +kernel
theorem dL_eventTime_14 : decode cL_eventTime 14 = .ok (.ireturn, 1) := by decide +kernel
theorem dL_eventTime_15 : decode cL_eventTime 15 = .ok (.iconst 0, 1) := by decide +kernel
theorem dL_eventTime_16 : decode cL_eventTime 16 = .ok (.ireturn, 1) := by decide +kernel
theorem dL_eventMove_0 : decode cL_eventMove 0 = .ok (.aload_n 2, 1) := by decide +kernel
theorem dL_eventMove_1 : decode cL_eventMove 1 = .ok (.iconst 0, 1) := by decide +kernel
theorem dL_eventMove_2 : decode cL_eventMove 2 = .ok (.aload_n 0, 1) := by decide +kernel
theorem dL_eventMove_3 : decode cL_eventMove 3 = .ok (.iload_n 1, 1) := by decide +kernel
theorem dL_eventMove_4 : decode cL_eventMove 4 = .ok (.invokevirtual 81, 3) := by decide +kernel
theorem dL_eventMove_7 : decode cL_eventMove 7 = .ok (.i2l, 1) := by decide +kernel
theorem dL_eventMove_8 : decode cL_eventMove 8 = .ok (.lastore, 1) := by decide +kernel
theorem dL_eventMove_9 : decode cL_eventMove 9 = .ok (.goto 6, 3) := by decide +kernel
theorem dL_eventMove_12 : decode cL_eventMove 12 = .ok (.astore_n 3, 1) := by decide +kernel
theorem dL_eventMove_13 : decode cL_eventMove 13 = .ok (.iconst 1, 1) := by decide +kernel
theorem dL_eventMove_14 : decode cL_eventMove 14 = .ok (.ireturn, 1) := by decide +kernel
theorem dL_eventMove_15 : decode cL_eventMove 15 = .ok (.iconst 0, 1) := by decide +kernel
theorem dL_eventMove_16 : decode cL_eventMove 16 = .ok (.ireturn, 1) := by decide +kernel
theorem dL_works_0 : decode cL_works 0 = .ok (.aload_n 2, 1) := by decide +kernel
theorem dL_works_1 : decode cL_works 1 = .ok (.iconst 0, 1) := by decide +kernel
theorem dL_works_2 : decode cL_works 2 = .ok (.aload_n 0, 1) := by decide +kernel
theorem dL_works_3 : decode cL_works 3 = .ok (.iload_n 1, 1) := by decide +kernel
theorem dL_works_4 : decode cL_works 4 = .ok (.invokevirtual 84, 3) := by decide +kernel
theorem dL_works_7 : decode cL_works 7 = .ok (.ifCond .eq 7, 3) := by decide +kernel
theorem dL_works_10 : decode cL_works 10 = .ok (.lconst 1, 1) := by decide +kernel
theorem dL_works_11 : decode cL_works 11 = .ok (.goto 4, 3) := by decide +kernel
theorem dL_works_14 : decode cL_works 14 = .ok (.lconst 0, 1) := by decide +kernel
theorem dL_works_15 : decode cL_works 15 = .ok (.lastore, 1) := by decide +kernel
theorem dL_works_16 : decode cL_works 16 = .ok (.goto 9, 3) := by decide +kernel
theorem dL_works_19 : decode cL_works 19 = .ok (.astore_n 3, 1) := by decide +kernel
theorem dL_works_20 : decode cL_works 20 = .ok (.iconst 1, 1) := by decide +kernel
theorem dL_works_21 : decode cL_works 21 = .ok (.ireturn, 1) := by decide +kernel
theorem dL_works_22 : decode cL_works 22 = .ok (.astore_n 3, 1) := by decide +kernel
theorem dL_works_23 : decode cL_works 23 = .ok (.iconst 2, 1) := by decide +kernel
theorem dL_works_24 : decode cL_works 24 = .ok (.ireturn, 1) := by decide +kernel
theorem dL_works_25 : decode cL_works 25 = .ok (.iconst 0, 1) := by decide +kernel
theorem dL_works_26 : decode cL_works 26 = .ok (.ireturn, 1) := by decide +kernel
theorem dL_cycleTime_0 : decode cL_cycleTime 0 = .ok (.aload_n 2, 1) := by decide +kernel
theorem dL_cycleTime_1 : decode cL_cycleTime 1 = .ok (.iconst 0, 1) := by decide +kernel
theorem dL_cycleTime_2 : decode cL_cycleTime 2 = .ok (.aload_n 0, 1) := by decide +kernel
theorem dL_cycleTime_3 : decode cL_cycleTime 3 = .ok (.iload_n 1, 1) := by decide +kernel
theorem dL_cycleTime_4 : decode cL_cycleTime 4 = .ok (.invokevirtual 87, 3) := by decide +kernel
theorem dL_cycleTime_7 : decode cL_cycleTime 7 = .ok (.i2l, 1) := by decide +kernel
theorem dL_cycleTime_8 : decode cL_cycleTime 8 = .ok (.lastore, 1) := by decide +kernel
theorem dL_cycleTime_9 : decode cL_cycleTime 9 = .ok (.goto 9, 3) := by decide +kernel
theorem dL_cycleTime_12 : decode cL_cycleTime 12 = .ok (.astore_n 3, 1) := by decide +kernel
theorem dL_cycleTime_13 : decode cL_cycleTime 13 = .ok (.iconst 1, 1) := by decide +kernel
theorem dL_cycleTime_14 : decode cL_cycleTime 14 = .ok (.ireturn, 1) := by decide +kernel
theorem dL_cycleTime_15 : decode cL_cycleTime 15 = .ok (.astore_n 3, 1) := by decide +kernel
theorem dL_cycleTime_16 : decode cL_cycleTime 16 = .ok (.iconst 2, 1) := by decide +kernel
theorem dL_cycleTime_17 : decode cL_cycleTime 17 = .ok (.ireturn, 1) := by decide +kernel
theorem dL_cycleTime_18 : decode cL_cycleTime 18 = .ok (.iconst 0, 1) := by decide +kernel
theorem dL_cycleTime_19 : decode cL_cycleTime 19 = .ok (.ireturn, 1) := by decide +kernel
theorem dL_cheapest_0 : decode cL_cheapest 0 = .ok (.aload_n 1, 1) := by decide +kernel
theorem dL_cheapest_1 : decode cL_cheapest 1 = .ok (.iconst 0, 1) := by decide +kernel
theorem dL_cheapest_2 : decode cL_cheapest 2 = .ok (.aload_n 0, 1) := by decide +kernel
theorem dL_cheapest_3 : decode cL_cheapest 3 = .ok (.invokevirtual 90, 3) := by decide +kernel
theorem dL_cheapest_6 : decode cL_cheapest 6 = .ok (.i2l, 1) := by decide +kernel
theorem dL_cheapest_7 : decode cL_cheapest 7 = .ok (.lastore, 1) := by decide +kernel
theorem dL_cheapest_8 : decode cL_cheapest 8 = .ok (.goto 6, 3) := by decide +kernel
theorem dL_cheapest_11 : decode cL_cheapest 11 = .ok (.astore_n 2, 1) := by decide +kernel
