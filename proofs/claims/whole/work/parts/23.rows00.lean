theorem dX0_init_0 : decode cX0_init 0 = .ok (.aload_n 0, 1) := by decide +kernel
theorem dX0_init_1 : decode cX0_init 1 = .ok (.invokespecial 3, 3) := by decide +kernel
theorem dX0_init_4 : decode cX0_init 4 = .ok (.aload_n 0, 1) := by decide +kernel
theorem dX0_init_5 : decode cX0_init 5 = .ok (.iconst 1, 1) := by decide +kernel
theorem dX0_init_6 : decode cX0_init 6 = .ok (.putfield 9, 3) := by decide +kernel
theorem dX0_init_9 : decode cX0_init 9 = .ok (.aload_n 0, 1) := by decide +kernel
theorem dX0_init_10 : decode cX0_init 10 = .ok (.iconst (-1), 1) := by decide +kernel
theorem dX0_init_11 : decode cX0_init 11 = .ok (.putfield 15, 3) := by decide +kernel
theorem dX0_init_14 : decode cX0_init 14 = .ok (.return_, 1) := by decide +kernel
theorem dX0_reset_0 : decode cX0_reset 0 = .ok (.aload_n 0, 1) := by decide +kernel
theorem dX0_reset_1 : decode cX0_reset 1 = .ok (.aload_n 0, 1) := by decide +kernel
theorem dX0_reset_2 : decode cX0_reset 2 = .ok (.getfield 9, 3) := by decide +kernel
theorem dX0_reset_5 : decode cX0_reset 5 = .ok (.iconst 1, 1) := by decide +kernel
theorem dX0_reset_6 : decode cX0_reset 6 = .ok (.if_icmp .ne 12, 3) := by decide +kernel
theorem dX0_reset_9 : decode cX0_reset 9 = .ok (.aload_n 1, 1) := by decide +kernel
theorem dX0_reset_10 : decode cX0_reset 10 = .ok (.getfield 18, 3) := by decide +kernel
theorem dX0_reset_13 : decode cX0_reset 13 = .ok (.iconst 1, 1) := by decide +kernel
theorem dX0_reset_14 : decode cX0_reset 14 = .ok (.isub, 1) := by decide +kernel
theorem dX0_reset_15 : decode cX0_reset 15 = .ok (.goto 4, 3) := by decide +kernel
theorem dX0_reset_18 : decode cX0_reset 18 = .ok (.iconst (-1), 1) := by decide +kernel
theorem dX0_reset_19 : decode cX0_reset 19 = .ok (.putfield 15, 3) := by decide +kernel
theorem dX0_reset_22 : decode cX0_reset 22 = .ok (.aload_n 0, 1) := by decide +kernel
theorem dX0_reset_23 : decode cX0_reset 23 = .ok (.invokevirtual 23, 3) := by decide +kernel
theorem dX0_reset_26 : decode cX0_reset 26 = .ok (.return_, 1) := by decide +kernel
theorem dX0_commandsOf_0 : decode cX0_commandsOf 0 = .ok (.aload_n 0, 1) := by decide +kernel
theorem dX0_commandsOf_1 : decode cX0_commandsOf 1 = .ok (.getfield 26, 3) := by decide +kernel
theorem dX0_commandsOf_4 : decode cX0_commandsOf 4 = .ok (.iload_n 1, 1) := by decide +kernel
theorem dX0_commandsOf_5 : decode cX0_commandsOf 5 = .ok (.invokestatic 29, 3) := by decide +kernel
theorem dX0_commandsOf_8 : decode cX0_commandsOf 8 = .ok (.ifCond .eq 7, 3) := by decide +kernel
theorem dX0_commandsOf_11 : decode cX0_commandsOf 11 = .ok (.iconst 1, 1) := by decide +kernel
theorem dX0_commandsOf_12 : decode cX0_commandsOf 12 = .ok (.goto 4, 3) := by decide +kernel
theorem dX0_commandsOf_15 : decode cX0_commandsOf 15 = .ok (.iconst 0, 1) := by decide +kernel
theorem dX0_commandsOf_16 : decode cX0_commandsOf 16 = .ok (.aload_n 0, 1) := by decide +kernel
theorem dX0_commandsOf_17 : decode cX0_commandsOf 17 = .ok (.getfield 33, 3) := by decide +kernel
theorem dX0_commandsOf_20 : decode cX0_commandsOf 20 = .ok (.iload_n 1, 1) := by decide +kernel
theorem dX0_commandsOf_21 : decode cX0_commandsOf 21 = .ok (.invokestatic 29, 3) := by decide +kernel
theorem dX0_commandsOf_24 : decode cX0_commandsOf 24 = .ok (.ifCond .eq 7, 3) := by decide +kernel
theorem dX0_commandsOf_27 : decode cX0_commandsOf 27 = .ok (.iconst 2, 1) := by decide +kernel
theorem dX0_commandsOf_28 : decode cX0_commandsOf 28 = .ok (.goto 4, 3) := by decide +kernel
theorem dX0_commandsOf_31 : decode cX0_commandsOf 31 = .ok (.iconst 0, 1) := by decide +kernel
theorem dX0_commandsOf_32 : decode cX0_commandsOf 32 = .ok (.iadd, 1) := by decide +kernel
theorem dX0_commandsOf_33 : decode cX0_commandsOf 33 = .ok (.ireturn, 1) := by decide +kernel
theorem dX0_decide_0 : decode cX0_decide 0 = .ok (.aload_n 0, 1) := by decide +kernel
theorem dX0_decide_1 : decode cX0_decide 1 = .ok (.getfield 15, 3) := by decide +kernel
theorem dX0_decide_4 : decode cX0_decide 4 = .ok (.istore 4, 2) := by decide +kernel
theorem dX0_decide_6 : decode cX0_decide 6 = .ok (.aload_n 0, 1) := by decide +kernel
theorem dX0_decide_7 : decode cX0_decide 7 = .ok (.invokevirtual 23, 3) := by decide +kernel
theorem dX0_decide_10 : decode cX0_decide 10 = .ok (.aload_n 0, 1) := by decide +kernel
theorem dX0_decide_11 : decode cX0_decide 11 = .ok (.getfield 9, 3) := by decide +kernel
theorem dX0_decide_14 : decode cX0_decide 14 = .ok (.ifCond .ne 18, 3) := by decide +kernel
theorem dX0_decide_17 : decode cX0_decide 17 = .ok (.aload_n 0, 1) := by decide +kernel
theorem dX0_decide_18 : decode cX0_decide 18 = .ok (.aload_n 1, 1) := by decide +kernel
theorem dX0_decide_19 : decode cX0_decide 19 = .ok (.aload_n 0, 1) := by decide +kernel
theorem dX0_decide_20 : decode cX0_decide 20 = .ok (.aload_n 1, 1) := by decide +kernel
theorem dX0_decide_21 : decode cX0_decide 21 = .ok (.iload_n 2, 1) := by decide +kernel
theorem dX0_decide_22 : decode cX0_decide 22 = .ok (.iload_n 3, 1) := by decide +kernel
theorem dX0_decide_23 : decode cX0_decide 23 = .ok (.invokevirtual 36, 3) := by decide +kernel
theorem dX0_decide_26 : decode cX0_decide 26 = .ok (.invokevirtual 40, 3) := by decide +kernel
theorem dX0_decide_29 : decode cX0_decide 29 = .ok (.goto 33, 3) := by decide +kernel
theorem dX0_decide_32 : decode cX0_decide 32 = .ok (.aload_n 0, 1) := by decide +kernel
theorem dX0_decide_33 : decode cX0_decide 33 = .ok (.getfield 9, 3) := by decide +kernel
theorem dX0_decide_36 : decode cX0_decide 36 = .ok (.iconst 1, 1) := by decide +kernel
theorem dX0_decide_37 : decode cX0_decide 37 = .ok (.if_icmp .ne 18, 3) := by decide +kernel
theorem dX0_decide_40 : decode cX0_decide 40 = .ok (.aload_n 0, 1) := by decide +kernel
theorem dX0_decide_41 : decode cX0_decide 41 = .ok (.aload_n 1, 1) := by decide +kernel
theorem dX0_decide_42 : decode cX0_decide 42 = .ok (.aload_n 0, 1) := by decide +kernel
theorem dX0_decide_43 : decode cX0_decide 43 = .ok (.aload_n 1, 1) := by decide +kernel
theorem dX0_decide_44 : decode cX0_decide 44 = .ok (.iload_n 2, 1) := by decide +kernel
theorem dX0_decide_45 : decode cX0_decide 45 = .ok (.iload_n 3, 1) := by decide +kernel
theorem dX0_decide_46 : decode cX0_decide 46 = .ok (.invokevirtual 36, 3) := by decide +kernel
theorem dX0_decide_49 : decode cX0_decide 49 = .ok (.invokevirtual 44, 3) := by decide +kernel
theorem dX0_decide_52 : decode cX0_decide 52 = .ok (.goto 10, 3) := by decide +kernel
theorem dX0_decide_55 : decode cX0_decide 55 = .ok (.aload_n 0, 1) := by decide +kernel
theorem dX0_decide_56 : decode cX0_decide 56 = .ok (.aload_n 1, 1) := by decide +kernel
theorem dX0_decide_57 : decode cX0_decide 57 = .ok (.iload_n 2, 1) := by decide +kernel
theorem dX0_decide_58 : decode cX0_decide 58 = .ok (.iload_n 3, 1) := by decide +kernel
theorem dX0_decide_59 : decode cX0_decide 59 = .ok (.invokevirtual 47, 3) := by decide +kernel
theorem dX0_decide_62 : decode cX0_decide 62 = .ok (.aload_n 0, 1) := by decide +kernel
theorem dX0_decide_63 : decode cX0_decide 63 = .ok (.aload_n 0, 1) := by decide +kernel
theorem dX0_decide_64 : decode cX0_decide 64 = .ok (.getfield 15, 3) := by decide +kernel
theorem dX0_decide_67 : decode cX0_decide 67 = .ok (.iload 4, 2) := by decide +kernel
theorem dX0_decide_69 : decode cX0_decide 69 = .ok (.if_icmp .eq 7, 3) := by decide +kernel
theorem dX0_decide_72 : decode cX0_decide 72 = .ok (.iconst 1, 1) := by decide +kernel
theorem dX0_decide_73 : decode cX0_decide 73 = .ok (.goto 4, 3) := by decide +kernel
theorem dX0_decide_76 : decode cX0_decide 76 = .ok (.iconst 0, 1) := by decide +kernel
theorem dX0_decide_77 : decode cX0_decide 77 = .ok (.putfield 51, 3) := by decide +kernel
theorem dX0_decide_80 : decode cX0_decide 80 = .ok (.return_, 1) := by decide +kernel
theorem dX0_readySteps_0 : decode cX0_readySteps 0 = .ok (.iload_n 3, 1) := by decide +kernel
theorem dX0_readySteps_1 : decode cX0_readySteps 1 = .ok (.ifCond .eq 19, 3) := by decide +kernel
theorem dX0_readySteps_4 : decode cX0_readySteps 4 = .ok (.iload_n 2, 1) := by decide +kernel
theorem dX0_readySteps_5 : decode cX0_readySteps 5 = .ok (.aload_n 1, 1) := by decide +kernel
theorem dX0_readySteps_6 : decode cX0_readySteps 6 = .ok (.iconst 0, 1) := by decide +kernel
theorem dX0_readySteps_7 : decode cX0_readySteps 7 = .ok (.invokevirtual 55, 3) := by decide +kernel
theorem dX0_readySteps_10 : decode cX0_readySteps 10 = .ok (.invokestatic 29, 3) := by decide +kernel
theorem dX0_readySteps_13 : decode cX0_readySteps 13 = .ok (.ifCond .eq 7, 3) := by decide +kernel
theorem dX0_readySteps_16 : decode cX0_readySteps 16 = .ok (.iconst 1, 1) := by decide +kernel
theorem dX0_readySteps_17 : decode cX0_readySteps 17 = .ok (.goto 4, 3) := by decide +kernel
theorem dX0_readySteps_20 : decode cX0_readySteps 20 = .ok (.iconst 0, 1) := by decide +kernel
theorem dX0_readySteps_21 : decode cX0_readySteps 21 = .ok (.istore 4, 2) := by decide +kernel
theorem dX0_readySteps_23 : decode cX0_readySteps 23 = .ok (.iload_n 2, 1) := by decide +kernel
theorem dX0_readySteps_24 : decode cX0_readySteps 24 = .ok (.iconst 1, 1) := by decide +kernel
theorem dX0_readySteps_25 : decode cX0_readySteps 25 = .ok (.ishl, 1) := by decide +kernel
theorem dX0_readySteps_26 : decode cX0_readySteps 26 = .ok (.iload 4, 2) := by decide +kernel
theorem dX0_readySteps_28 : decode cX0_readySteps 28 = .ok (.ifCond .eq 7, 3) := by decide +kernel
theorem dX0_readySteps_31 : decode cX0_readySteps 31 = .ok (.iconst 1, 1) := by decide +kernel
theorem dX0_readySteps_32 : decode cX0_readySteps 32 = .ok (.goto 4, 3) := by decide +kernel
theorem dX0_readySteps_35 : decode cX0_readySteps 35 = .ok (.iconst 0, 1) := by decide +kernel
theorem dX0_readySteps_36 : decode cX0_readySteps 36 = .ok (.ior, 1) := by decide +kernel
theorem dX0_readySteps_37 : decode cX0_readySteps 37 = .ok (.ireturn, 1) := by decide +kernel
theorem dX0_switchAllOff_0 : decode cX0_switchAllOff 0 = .ok (.aload_n 0, 1) := by decide +kernel
theorem dX0_switchAllOff_1 : decode cX0_switchAllOff 1 = .ok (.iconst 0, 1) := by decide +kernel
theorem dX0_switchAllOff_2 : decode cX0_switchAllOff 2 = .ok (.putfield 26, 3) := by decide +kernel
theorem dX0_switchAllOff_5 : decode cX0_switchAllOff 5 = .ok (.aload_n 0, 1) := by decide +kernel
theorem dX0_switchAllOff_6 : decode cX0_switchAllOff 6 = .ok (.iconst 0, 1) := by decide +kernel
theorem dX0_switchAllOff_7 : decode cX0_switchAllOff 7 = .ok (.putfield 33, 3) := by decide +kernel
theorem dX0_switchAllOff_10 : decode cX0_switchAllOff 10 = .ok (.aload_n 0, 1) := by decide +kernel
theorem dX0_switchAllOff_11 : decode cX0_switchAllOff 11 = .ok (.iconst 0, 1) := by decide +kernel
theorem dX0_switchAllOff_12 : decode cX0_switchAllOff 12 = .ok (.putfield 59, 3) := by decide +kernel
theorem dX0_switchAllOff_15 : decode cX0_switchAllOff 15 = .ok (.return_, 1) := by decide +kernel
theorem dX0_switchOn_0 : decode cX0_switchOn 0 = .ok (.aload_n 0, 1) := by decide +kernel
theorem dX0_switchOn_1 : decode cX0_switchOn 1 = .ok (.dup, 1) := by decide +kernel
theorem dX0_switchOn_2 : decode cX0_switchOn 2 = .ok (.getfield 26, 3) := by decide +kernel
theorem dX0_switchOn_5 : decode cX0_switchOn 5 = .ok (.aload_n 1, 1) := by decide +kernel
theorem dX0_switchOn_6 : decode cX0_switchOn 6 = .ok (.getfield 62, 3) := by decide +kernel
theorem dX0_switchOn_9 : decode cX0_switchOn 9 = .ok (.iload_n 2, 1) := by decide +kernel
theorem dX0_switchOn_10 : decode cX0_switchOn 10 = .ok (.iaload, 1) := by decide +kernel
theorem dX0_switchOn_11 : decode cX0_switchOn 11 = .ok (.ior, 1) := by decide +kernel
theorem dX0_switchOn_12 : decode cX0_switchOn 12 = .ok (.putfield 26, 3) := by decide +kernel
theorem dX0_switchOn_15 : decode cX0_switchOn 15 = .ok (.aload_n 0, 1) := by decide +kernel
theorem dX0_switchOn_16 : decode cX0_switchOn 16 = .ok (.dup, 1) := by decide +kernel
theorem dX0_switchOn_17 : decode cX0_switchOn 17 = .ok (.getfield 33, 3) := by decide +kernel
theorem dX0_switchOn_20 : decode cX0_switchOn 20 = .ok (.aload_n 1, 1) := by decide +kernel
theorem dX0_switchOn_21 : decode cX0_switchOn 21 = .ok (.getfield 66, 3) := by decide +kernel
theorem dX0_switchOn_24 : decode cX0_switchOn 24 = .ok (.iload_n 2, 1) := by decide +kernel
theorem dX0_switchOn_25 : decode cX0_switchOn 25 = .ok (.iaload, 1) := by decide +kernel
theorem dX0_switchOn_26 : decode cX0_switchOn 26 = .ok (.ior, 1) := by decide +kernel
theorem dX0_switchOn_27 : decode cX0_switchOn 27 = .ok (.putfield 33, 3) := by decide +kernel
theorem dX0_switchOn_30 : decode cX0_switchOn 30 = .ok (.aload_n 1, 1) := by decide +kernel
theorem dX0_switchOn_31 : decode cX0_switchOn 31 = .ok (.getfield 69, 3) := by decide +kernel
theorem dX0_switchOn_34 : decode cX0_switchOn 34 = .ok (.iload_n 2, 1) := by decide +kernel
theorem dX0_switchOn_35 : decode cX0_switchOn 35 = .ok (.iaload, 1) := by decide +kernel
theorem dX0_switchOn_36 : decode cX0_switchOn 36 = .ok (.ifCond .le 15, 3) := by decide +kernel
theorem dX0_switchOn_39 : decode cX0_switchOn 39 = .ok (.aload_n 0, 1) := by decide +kernel
theorem dX0_switchOn_40 : decode cX0_switchOn 40 = .ok (.dup, 1) := by decide +kernel
theorem dX0_switchOn_41 : decode cX0_switchOn 41 = .ok (.getfield 59, 3) := by decide +kernel
theorem dX0_switchOn_44 : decode cX0_switchOn 44 = .ok (.iconst 1, 1) := by decide +kernel
theorem dX0_switchOn_45 : decode cX0_switchOn 45 = .ok (.iload_n 2, 1) := by decide +kernel
theorem dX0_switchOn_46 : decode cX0_switchOn 46 = .ok (.ishl, 1) := by decide +kernel
theorem dX0_switchOn_47 : decode cX0_switchOn 47 = .ok (.ior, 1) := by decide +kernel
theorem dX0_switchOn_48 : decode cX0_switchOn 48 = .ok (.putfield 59, 3) := by decide +kernel
theorem dX0_switchOn_51 : decode cX0_switchOn 51 = .ok (.return_, 1) := by decide +kernel
theorem dX0_decideDirect_0 : decode cX0_decideDirect 0 = .ok (.iconst 0, 1) := by decide +kernel
theorem dX0_decideDirect_1 : decode cX0_decideDirect 1 = .ok (.istore_n 3, 1) := by decide +kernel
theorem dX0_decideDirect_2 : decode cX0_decideDirect 2 = .ok (.iload_n 3, 1) := by decide +kernel
theorem dX0_decideDirect_3 : decode cX0_decideDirect 3 = .ok (.aload_n 1, 1) := by decide +kernel
theorem dX0_decideDirect_4 : decode cX0_decideDirect 4 = .ok (.getfield 72, 3) := by decide +kernel
theorem dX0_decideDirect_7 : decode cX0_decideDirect 7 = .ok (.if_icmp .ge 23, 3) := by decide +kernel
theorem dX0_decideDirect_10 : decode cX0_decideDirect 10 = .ok (.iload_n 2, 1) := by decide +kernel
theorem dX0_decideDirect_11 : decode cX0_decideDirect 11 = .ok (.iload_n 3, 1) := by decide +kernel
theorem dX0_decideDirect_12 : decode cX0_decideDirect 12 = .ok (.invokestatic 29, 3) := by decide +kernel
theorem dX0_decideDirect_15 : decode cX0_decideDirect 15 = .ok (.ifCond .eq 9, 3) := by decide +kernel
theorem dX0_decideDirect_18 : decode cX0_decideDirect 18 = .ok (.aload_n 0, 1) := by decide +kernel
theorem dX0_decideDirect_19 : decode cX0_decideDirect 19 = .ok (.aload_n 1, 1) := by decide +kernel
theorem dX0_decideDirect_20 : decode cX0_decideDirect 20 = .ok (.iload_n 3, 1) := by decide +kernel
theorem dX0_decideDirect_21 : decode cX0_decideDirect 21 = .ok (.invokevirtual 75, 3) := by decide +kernel
theorem dX0_decideDirect_24 : decode cX0_decideDirect 24 = .ok (.iinc 3 1, 3) := by decide +kernel
theorem dX0_decideDirect_27 : decode cX0_decideDirect 27 = .ok (.goto (-25), 3) := by decide +kernel
theorem dX0_decideDirect_30 : decode cX0_decideDirect 30 = .ok (.return_, 1) := by decide +kernel
theorem dX0_decideCascade_0 : decode cX0_decideCascade 0 = .ok (.aload_n 0, 1) := by decide +kernel
theorem dX0_decideCascade_1 : decode cX0_decideCascade 1 = .ok (.getfield 15, 3) := by decide +kernel
theorem dX0_decideCascade_4 : decode cX0_decideCascade 4 = .ok (.iconst 1, 1) := by decide +kernel
theorem dX0_decideCascade_5 : decode cX0_decideCascade 5 = .ok (.iadd, 1) := by decide +kernel
theorem dX0_decideCascade_6 : decode cX0_decideCascade 6 = .ok (.aload_n 1, 1) := by decide +kernel
theorem dX0_decideCascade_7 : decode cX0_decideCascade 7 = .ok (.getfield 18, 3) := by decide +kernel
theorem dX0_decideCascade_10 : decode cX0_decideCascade 10 = .ok (.if_icmp .ge 12, 3) := by decide +kernel
theorem dX0_decideCascade_13 : decode cX0_decideCascade 13 = .ok (.aload_n 0, 1) := by decide +kernel
theorem dX0_decideCascade_14 : decode cX0_decideCascade 14 = .ok (.getfield 15, 3) := by decide +kernel
theorem dX0_decideCascade_17 : decode cX0_decideCascade 17 = .ok (.iconst 1, 1) := by decide +kernel
theorem dX0_decideCascade_18 : decode cX0_decideCascade 18 = .ok (.iadd, 1) := by decide +kernel
theorem dX0_decideCascade_19 : decode cX0_decideCascade 19 = .ok (.goto 4, 3) := by decide +kernel
theorem dX0_decideCascade_22 : decode cX0_decideCascade 22 = .ok (.iconst 0, 1) := by decide +kernel
theorem dX0_decideCascade_23 : decode cX0_decideCascade 23 = .ok (.istore_n 3, 1) := by decide +kernel
theorem dX0_decideCascade_24 : decode cX0_decideCascade 24 = .ok (.iload_n 2, 1) := by decide +kernel
theorem dX0_decideCascade_25 : decode cX0_decideCascade 25 = .ok (.aload_n 1, 1) := by decide +kernel
theorem dX0_decideCascade_26 : decode cX0_decideCascade 26 = .ok (.iload_n 3, 1) := by decide +kernel
theorem dX0_decideCascade_27 : decode cX0_decideCascade 27 = .ok (.invokevirtual 78, 3) := by decide +kernel
theorem dX0_decideCascade_30 : decode cX0_decideCascade 30 = .ok (.invokestatic 29, 3) := by decide +kernel
theorem dX0_decideCascade_33 : decode cX0_decideCascade 33 = .ok (.ifCond .eq 8, 3) := by decide +kernel
theorem dX0_decideCascade_36 : decode cX0_decideCascade 36 = .ok (.aload_n 0, 1) := by decide +kernel
theorem dX0_decideCascade_37 : decode cX0_decideCascade 37 = .ok (.iload_n 3, 1) := by decide +kernel
theorem dX0_decideCascade_38 : decode cX0_decideCascade 38 = .ok (.putfield 15, 3) := by decide +kernel
theorem dX0_decideCascade_41 : decode cX0_decideCascade 41 = .ok (.aload_n 1, 1) := by decide +kernel
theorem dX0_decideCascade_42 : decode cX0_decideCascade 42 = .ok (.aload_n 0, 1) := by decide +kernel
theorem dX0_decideCascade_43 : decode cX0_decideCascade 43 = .ok (.getfield 15, 3) := by decide +kernel
theorem dX0_decideCascade_46 : decode cX0_decideCascade 46 = .ok (.invokevirtual 78, 3) := by decide +kernel
theorem dX0_decideCascade_49 : decode cX0_decideCascade 49 = .ok (.istore 4, 2) := by decide +kernel
theorem dX0_decideCascade_51 : decode cX0_decideCascade 51 = .ok (.iconst 0, 1) := by decide +kernel
theorem dX0_decideCascade_52 : decode cX0_decideCascade 52 = .ok (.istore 5, 2) := by decide +kernel
theorem dX0_decideCascade_54 : decode cX0_decideCascade 54 = .ok (.iload 5, 2) := by decide +kernel
theorem dX0_decideCascade_56 : decode cX0_decideCascade 56 = .ok (.aload_n 1, 1) := by decide +kernel
theorem dX0_decideCascade_57 : decode cX0_decideCascade 57 = .ok (.getfield 72, 3) := by decide +kernel
theorem dX0_decideCascade_60 : decode cX0_decideCascade 60 = .ok (.if_icmp .ge 46, 3) := by decide +kernel
theorem dX0_decideCascade_63 : decode cX0_decideCascade 63 = .ok (.aload_n 1, 1) := by decide +kernel
theorem dX0_decideCascade_64 : decode cX0_decideCascade 64 = .ok (.getfield 81, 3) := by decide +kernel
theorem dX0_decideCascade_67 : decode cX0_decideCascade 67 = .ok (.iload 5, 2) := by decide +kernel
theorem dX0_decideCascade_69 : decode cX0_decideCascade 69 = .ok (.iaload, 1) := by decide +kernel
theorem dX0_decideCascade_70 : decode cX0_decideCascade 70 = .ok (.aload_n 0, 1) := by decide +kernel
theorem dX0_decideCascade_71 : decode cX0_decideCascade 71 = .ok (.getfield 15, 3) := by decide +kernel
theorem dX0_decideCascade_74 : decode cX0_decideCascade 74 = .ok (.if_icmp .ne 26, 3) := by decide +kernel
theorem dX0_decideCascade_77 : decode cX0_decideCascade 77 = .ok (.iload 5, 2) := by decide +kernel
theorem dX0_decideCascade_79 : decode cX0_decideCascade 79 = .ok (.iload 4, 2) := by decide +kernel
theorem dX0_decideCascade_81 : decode cX0_decideCascade 81 = .ok (.if_icmp .eq 12, 3) := by decide +kernel
theorem dX0_decideCascade_84 : decode cX0_decideCascade 84 = .ok (.iload_n 2, 1) := by decide +kernel
theorem dX0_decideCascade_85 : decode cX0_decideCascade 85 = .ok (.iload 5, 2) := by decide +kernel
theorem dX0_decideCascade_87 : decode cX0_decideCascade 87 = .ok (.invokestatic 29, 3) := by decide +kernel
theorem dX0_decideCascade_90 : decode cX0_decideCascade 90 = .ok (.ifCond .eq 10, 3) := by decide +kernel
theorem dX0_decideCascade_93 : decode cX0_decideCascade 93 = .ok (.aload_n 0, 1) := by decide +kernel
theorem dX0_decideCascade_94 : decode cX0_decideCascade 94 = .ok (.aload_n 1, 1) := by decide +kernel
theorem dX0_decideCascade_95 : decode cX0_decideCascade 95 = .ok (.iload 5, 2) := by decide +kernel
theorem dX0_decideCascade_97 : decode cX0_decideCascade 97 = .ok (.invokevirtual 75, 3) := by decide +kernel
theorem dX0_decideCascade_100 : decode cX0_decideCascade 100 = .ok (.iinc 5 1, 3) := by decide +kernel
theorem dX0_decideCascade_103 : decode cX0_decideCascade 103 = .ok (.goto (-49), 3) := by decide +kernel
theorem dX0_decideCascade_106 : decode cX0_decideCascade 106 = .ok (.return_, 1) := by decide +kernel
theorem dX0_decideStepper_0 : decode cX0_decideStepper 0 = .ok (.aload_n 0, 1) := by decide +kernel
theorem dX0_decideStepper_1 : decode cX0_decideStepper 1 = .ok (.getfield 15, 3) := by decide +kernel
theorem dX0_decideStepper_4 : decode cX0_decideStepper 4 = .ok (.ifCond .ge 19, 3) := by decide +kernel
theorem dX0_decideStepper_7 : decode cX0_decideStepper 7 = .ok (.aload_n 0, 1) := by decide +kernel
theorem dX0_decideStepper_8 : decode cX0_decideStepper 8 = .ok (.iload_n 3, 1) := by decide +kernel
theorem dX0_decideStepper_9 : decode cX0_decideStepper 9 = .ok (.ifCond .eq 7, 3) := by decide +kernel
theorem dX0_decideStepper_12 : decode cX0_decideStepper 12 = .ok (.iconst 0, 1) := by decide +kernel
theorem dX0_decideStepper_13 : decode cX0_decideStepper 13 = .ok (.goto 4, 3) := by decide +kernel
theorem dX0_decideStepper_16 : decode cX0_decideStepper 16 = .ok (.iconst (-1), 1) := by decide +kernel
theorem dX0_decideStepper_17 : decode cX0_decideStepper 17 = .ok (.putfield 15, 3) := by decide +kernel
theorem dX0_decideStepper_20 : decode cX0_decideStepper 20 = .ok (.goto 41, 3) := by decide +kernel
theorem dX0_decideStepper_23 : decode cX0_decideStepper 23 = .ok (.iload_n 2, 1) := by decide +kernel
theorem dX0_decideStepper_24 : decode cX0_decideStepper 24 = .ok (.aload_n 0, 1) := by decide +kernel
theorem dX0_decideStepper_25 : decode cX0_decideStepper 25 = .ok (.getfield 15, 3) := by decide +kernel
theorem dX0_decideStepper_28 : decode cX0_decideStepper 28 = .ok (.invokestatic 29, 3) := by decide +kernel
theorem dX0_decideStepper_31 : decode cX0_decideStepper 31 = .ok (.ifCond .eq 30, 3) := by decide +kernel
theorem dX0_decideStepper_34 : decode cX0_decideStepper 34 = .ok (.aload_n 0, 1) := by decide +kernel
theorem dX0_decideStepper_35 : decode cX0_decideStepper 35 = .ok (.aload_n 0, 1) := by decide +kernel
theorem dX0_decideStepper_36 : decode cX0_decideStepper 36 = .ok (.getfield 15, 3) := by decide +kernel
theorem dX0_decideStepper_39 : decode cX0_decideStepper 39 = .ok (.iconst 1, 1) := by decide +kernel
theorem dX0_decideStepper_40 : decode cX0_decideStepper 40 = .ok (.iadd, 1) := by decide +kernel
theorem dX0_decideStepper_41 : decode cX0_decideStepper 41 = .ok (.aload_n 1, 1) := by decide +kernel
theorem dX0_decideStepper_42 : decode cX0_decideStepper 42 = .ok (.getfield 72, 3) := by decide +kernel
theorem dX0_decideStepper_45 : decode cX0_decideStepper 45 = .ok (.if_icmp .ge 12, 3) := by decide +kernel
theorem dX0_decideStepper_48 : decode cX0_decideStepper 48 = .ok (.aload_n 0, 1) := by decide +kernel
theorem dX0_decideStepper_49 : decode cX0_decideStepper 49 = .ok (.getfield 15, 3) := by decide +kernel
theorem dX0_decideStepper_52 : decode cX0_decideStepper 52 = .ok (.iconst 1, 1) := by decide +kernel
theorem dX0_decideStepper_53 : decode cX0_decideStepper 53 = .ok (.iadd, 1) := by decide +kernel
theorem dX0_decideStepper_54 : decode cX0_decideStepper 54 = .ok (.goto 4, 3) := by decide +kernel
theorem dX0_decideStepper_57 : decode cX0_decideStepper 57 = .ok (.iconst (-1), 1) := by decide +kernel
theorem dX0_decideStepper_58 : decode cX0_decideStepper 58 = .ok (.putfield 15, 3) := by decide +kernel
theorem dX0_decideStepper_61 : decode cX0_decideStepper 61 = .ok (.aload_n 0, 1) := by decide +kernel
theorem dX0_decideStepper_62 : decode cX0_decideStepper 62 = .ok (.getfield 15, 3) := by decide +kernel
theorem dX0_decideStepper_65 : decode cX0_decideStepper 65 = .ok (.ifCond .lt 23, 3) := by decide +kernel
theorem dX0_decideStepper_68 : decode cX0_decideStepper 68 = .ok (.aload_n 0, 1) := by decide +kernel
theorem dX0_decideStepper_69 : decode cX0_decideStepper 69 = .ok (.getfield 15, 3) := by decide +kernel
theorem dX0_decideStepper_72 : decode cX0_decideStepper 72 = .ok (.aload_n 1, 1) := by decide +kernel
theorem dX0_decideStepper_73 : decode cX0_decideStepper 73 = .ok (.getfield 72, 3) := by decide +kernel
theorem dX0_decideStepper_76 : decode cX0_decideStepper 76 = .ok (.if_icmp .ge 12, 3) := by decide +kernel
theorem dX0_decideStepper_79 : decode cX0_decideStepper 79 = .ok (.aload_n 0, 1) := by decide +kernel
theorem dX0_decideStepper_80 : decode cX0_decideStepper 80 = .ok (.aload_n 1, 1) := by decide +kernel
theorem dX0_decideStepper_81 : decode cX0_decideStepper 81 = .ok (.aload_n 0, 1) := by decide +kernel
theorem dX0_decideStepper_82 : decode cX0_decideStepper 82 = .ok (.getfield 15, 3) := by decide +kernel
theorem dX0_decideStepper_85 : decode cX0_decideStepper 85 = .ok (.invokevirtual 75, 3) := by decide +kernel
theorem dX0_decideStepper_88 : decode cX0_decideStepper 88 = .ok (.return_, 1) := by decide +kernel
theorem dX1_init_0 : decode cX1_init 0 = .ok (.aload_n 0, 1) := by decide +kernel
theorem dX1_init_1 : decode cX1_init 1 = .ok (.invokespecial 3, 3) := by decide +kernel
theorem dX1_init_4 : decode cX1_init 4 = .ok (.aload_n 0, 1) := by decide +kernel
theorem dX1_init_5 : decode cX1_init 5 = .ok (.bipush 40, 2) := by decide +kernel
theorem dX1_init_7 : decode cX1_init 7 = .ok (.newarray .int, 2) := by decide +kernel
theorem dX1_init_9 : decode cX1_init 9 = .ok (.putfield 9, 3) := by decide +kernel
theorem dX1_init_12 : decode cX1_init 12 = .ok (.aload_n 0, 1) := by decide +kernel
theorem dX1_init_13 : decode cX1_init 13 = .ok (.bipush 40, 2) := by decide +kernel
theorem dX1_init_15 : decode cX1_init 15 = .ok (.newarray .int, 2) := by decide +kernel
theorem dX1_init_17 : decode cX1_init 17 = .ok (.putfield 15, 3) := by decide +kernel
theorem dX1_init_20 : decode cX1_init 20 = .ok (.return_, 1) := by decide +kernel
theorem dX1_reset_0 : decode cX1_reset 0 = .ok (.aload_n 0, 1) := by decide +kernel
theorem dX1_reset_1 : decode cX1_reset 1 = .ok (.iconst 0, 1) := by decide +kernel
theorem dX1_reset_2 : decode cX1_reset 2 = .ok (.putfield 18, 3) := by decide +kernel
theorem dX1_reset_5 : decode cX1_reset 5 = .ok (.aload_n 0, 1) := by decide +kernel
theorem dX1_reset_6 : decode cX1_reset 6 = .ok (.iconst 0, 1) := by decide +kernel
theorem dX1_reset_7 : decode cX1_reset 7 = .ok (.putfield 22, 3) := by decide +kernel
theorem dX1_reset_10 : decode cX1_reset 10 = .ok (.aload_n 0, 1) := by decide +kernel
theorem dX1_reset_11 : decode cX1_reset 11 = .ok (.iconst 0, 1) := by decide +kernel
theorem dX1_reset_12 : decode cX1_reset 12 = .ok (.putfield 25, 3) := by decide +kernel
theorem dX1_reset_15 : decode cX1_reset 15 = .ok (.return_, 1) := by decide +kernel
theorem dX1_note_0 : decode cX1_note 0 = .ok (.aload_n 0, 1) := by decide +kernel
theorem dX1_note_1 : decode cX1_note 1 = .ok (.aload_n 0, 1) := by decide +kernel
theorem dX1_note_2 : decode cX1_note 2 = .ok (.getfield 25, 3) := by decide +kernel
theorem dX1_note_5 : decode cX1_note 5 = .ok (.iconst 1, 1) := by decide +kernel
theorem dX1_note_6 : decode cX1_note 6 = .ok (.iadd, 1) := by decide +kernel
theorem dX1_note_7 : decode cX1_note 7 = .ok (.bipush 40, 2) := by decide +kernel
theorem dX1_note_9 : decode cX1_note 9 = .ok (.if_icmp .ge 12, 3) := by decide +kernel
theorem dX1_note_12 : decode cX1_note 12 = .ok (.aload_n 0, 1) := by decide +kernel
theorem dX1_note_13 : decode cX1_note 13 = .ok (.getfield 25, 3) := by decide +kernel
theorem dX1_note_16 : decode cX1_note 16 = .ok (.iconst 1, 1) := by decide +kernel
theorem dX1_note_17 : decode cX1_note 17 = .ok (.iadd, 1) := by decide +kernel
theorem dX1_note_18 : decode cX1_note 18 = .ok (.goto 4, 3) := by decide +kernel
theorem dX1_note_21 : decode cX1_note 21 = .ok (.iconst 0, 1) := by decide +kernel
theorem dX1_note_22 : decode cX1_note 22 = .ok (.putfield 25, 3) := by decide +kernel
theorem dX1_note_25 : decode cX1_note 25 = .ok (.aload_n 0, 1) := by decide +kernel
theorem dX1_note_26 : decode cX1_note 26 = .ok (.getfield 9, 3) := by decide +kernel
theorem dX1_note_29 : decode cX1_note 29 = .ok (.aload_n 0, 1) := by decide +kernel
theorem dX1_note_30 : decode cX1_note 30 = .ok (.getfield 25, 3) := by decide +kernel
theorem dX1_note_33 : decode cX1_note 33 = .ok (.iload_n 1, 1) := by decide +kernel
theorem dX1_note_34 : decode cX1_note 34 = .ok (.iastore, 1) := by decide +kernel
theorem dX1_note_35 : decode cX1_note 35 = .ok (.aload_n 0, 1) := by decide +kernel
theorem dX1_note_36 : decode cX1_note 36 = .ok (.getfield 15, 3) := by decide +kernel
theorem dX1_note_39 : decode cX1_note 39 = .ok (.aload_n 0, 1) := by decide +kernel
theorem dX1_note_40 : decode cX1_note 40 = .ok (.getfield 25, 3) := by decide +kernel
theorem dX1_note_43 : decode cX1_note 43 = .ok (.iload_n 2, 1) := by decide +kernel
theorem dX1_note_44 : decode cX1_note 44 = .ok (.iastore, 1) := by decide +kernel
theorem dX1_note_45 : decode cX1_note 45 = .ok (.aload_n 0, 1) := by decide +kernel
theorem dX1_note_46 : decode cX1_note 46 = .ok (.aload_n 0, 1) := by decide +kernel
theorem dX1_note_47 : decode cX1_note 47 = .ok (.getfield 22, 3) := by decide +kernel
theorem dX1_note_50 : decode cX1_note 50 = .ok (.iconst 1, 1) := by decide +kernel
theorem dX1_note_51 : decode cX1_note 51 = .ok (.iadd, 1) := by decide +kernel
theorem dX1_note_52 : decode cX1_note 52 = .ok (.bipush 40, 2) := by decide +kernel
theorem dX1_note_54 : decode cX1_note 54 = .ok (.invokestatic 28, 3) := by decide +kernel
theorem dX1_note_57 : decode cX1_note 57 = .ok (.putfield 22, 3) := by decide +kernel
theorem dX1_note_60 : decode cX1_note 60 = .ok (.aload_n 0, 1) := by decide +kernel
theorem dX1_note_61 : decode cX1_note 61 = .ok (.dup, 1) := by decide +kernel
theorem dX1_note_62 : decode cX1_note 62 = .ok (.getfield 18, 3) := by decide +kernel
theorem dX1_note_65 : decode cX1_note 65 = .ok (.iconst 1, 1) := by decide +kernel
theorem dX1_note_66 : decode cX1_note 66 = .ok (.iadd, 1) := by decide +kernel
theorem dX1_note_67 : decode cX1_note 67 = .ok (.putfield 18, 3) := by decide +kernel
theorem dX1_note_70 : decode cX1_note 70 = .ok (.return_, 1) := by decide +kernel
theorem dX1_slotOf_0 : decode cX1_slotOf 0 = .ok (.iload_n 1, 1) := by decide +kernel
theorem dX1_slotOf_1 : decode cX1_slotOf 1 = .ok (.ifCond .lt 11, 3) := by decide +kernel
theorem dX1_slotOf_4 : decode cX1_slotOf 4 = .ok (.iload_n 1, 1) := by decide +kernel
theorem dX1_slotOf_5 : decode cX1_slotOf 5 = .ok (.aload_n 0, 1) := by decide +kernel
theorem dX1_slotOf_6 : decode cX1_slotOf 6 = .ok (.getfield 22, 3) := by decide +kernel
theorem dX1_slotOf_9 : decode cX1_slotOf 9 = .ok (.if_icmp .lt 5, 3) := by decide +kernel
theorem dX1_slotOf_12 : decode cX1_slotOf 12 = .ok (.iconst (-1), 1) := by decide +kernel
theorem dX1_slotOf_13 : decode cX1_slotOf 13 = .ok (.ireturn, 1) := by decide +kernel
theorem dX1_slotOf_14 : decode cX1_slotOf 14 = .ok (.aload_n 0, 1) := by decide +kernel
theorem dX1_slotOf_15 : decode cX1_slotOf 15 = .ok (.getfield 25, 3) := by decide +kernel
theorem dX1_slotOf_18 : decode cX1_slotOf 18 = .ok (.iload_n 1, 1) := by decide +kernel
theorem dX1_slotOf_19 : decode cX1_slotOf 19 = .ok (.if_icmp .lt 12, 3) := by decide +kernel
theorem dX1_slotOf_22 : decode cX1_slotOf 22 = .ok (.aload_n 0, 1) := by decide +kernel
theorem dX1_slotOf_23 : decode cX1_slotOf 23 = .ok (.getfield 25, 3) := by decide +kernel
theorem dX1_slotOf_26 : decode cX1_slotOf 26 = .ok (.iload_n 1, 1) := by decide +kernel
theorem dX1_slotOf_27 : decode cX1_slotOf 27 = .ok (.isub, 1) := by decide +kernel
theorem dX1_slotOf_28 : decode cX1_slotOf 28 = .ok (.goto 12, 3) := by decide +kernel
theorem dX1_slotOf_31 : decode cX1_slotOf 31 = .ok (.aload_n 0, 1) := by decide +kernel
theorem dX1_slotOf_32 : decode cX1_slotOf 32 = .ok (.getfield 25, 3) := by decide +kernel
theorem dX1_slotOf_35 : decode cX1_slotOf 35 = .ok (.iload_n 1, 1) := by decide +kernel
theorem dX1_slotOf_36 : decode cX1_slotOf 36 = .ok (.isub, 1) := by decide +kernel
theorem dX1_slotOf_37 : decode cX1_slotOf 37 = .ok (.bipush 40, 2) := by decide +kernel
theorem dX1_slotOf_39 : decode cX1_slotOf 39 = .ok (.iadd, 1) := by decide +kernel
theorem dX1_slotOf_40 : decode cX1_slotOf 40 = .ok (.ireturn, 1) := by decide +kernel
theorem dX2_init_0 : decode cX2_init 0 = .ok (.aload_n 0, 1) := by decide +kernel
theorem dX2_init_1 : decode cX2_init 1 = .ok (.invokespecial 3, 3) := by decide +kernel
theorem dX2_init_4 : decode cX2_init 4 = .ok (.aload_n 0, 1) := by decide +kernel
theorem dX2_init_5 : decode cX2_init 5 = .ok (.bipush 80, 2) := by decide +kernel
theorem dX2_init_7 : decode cX2_init 7 = .ok (.newarray .int, 2) := by decide +kernel
theorem dX2_init_9 : decode cX2_init 9 = .ok (.putfield 9, 3) := by decide +kernel
theorem dX2_init_12 : decode cX2_init 12 = .ok (.return_, 1) := by decide +kernel
theorem dX2_append_0 : decode cX2_append 0 = .ok (.aload_n 0, 1) := by decide +kernel
theorem dX2_append_1 : decode cX2_append 1 = .ok (.getfield 15, 3) := by decide +kernel
theorem dX2_append_4 : decode cX2_append 4 = .ok (.bipush 80, 2) := by decide +kernel
theorem dX2_append_6 : decode cX2_append 6 = .ok (.if_icmp .ge 23, 3) := by decide +kernel
theorem dX2_append_9 : decode cX2_append 9 = .ok (.aload_n 0, 1) := by decide +kernel
theorem dX2_append_10 : decode cX2_append 10 = .ok (.getfield 9, 3) := by decide +kernel
theorem dX2_append_13 : decode cX2_append 13 = .ok (.aload_n 0, 1) := by decide +kernel
theorem dX2_append_14 : decode cX2_append 14 = .ok (.getfield 15, 3) := by decide +kernel
theorem dX2_append_17 : decode cX2_append 17 = .ok (.iload_n 1, 1) := by decide +kernel
theorem dX2_append_18 : decode cX2_append 18 = .ok (.iastore, 1) := by decide +kernel
theorem dX2_append_19 : decode cX2_append 19 = .ok (.aload_n 0, 1) := by decide +kernel
theorem dX2_append_20 : decode cX2_append 20 = .ok (.dup, 1) := by decide +kernel
theorem dX2_append_21 : decode cX2_append 21 = .ok (.getfield 15, 3) := by decide +kernel
theorem dX2_append_24 : decode cX2_append 24 = .ok (.iconst 1, 1) := by decide +kernel
theorem dX2_append_25 : decode cX2_append 25 = .ok (.iadd, 1) := by decide +kernel
theorem dX2_append_26 : decode cX2_append 26 = .ok (.putfield 15, 3) := by decide +kernel
theorem dX2_append_29 : decode cX2_append 29 = .ok (.return_, 1) := by decide +kernel
theorem dX2_readInto_0 : decode cX2_readInto 0 = .ok (.aload_n 1, 1) := by decide +kernel
theorem dX2_readInto_1 : decode cX2_readInto 1 = .ok (.invokevirtual 19, 3) := by decide +kernel
theorem dX2_readInto_4 : decode cX2_readInto 4 = .ok (.aload_n 0, 1) := by decide +kernel
theorem dX2_readInto_5 : decode cX2_readInto 5 = .ok (.iconst 0, 1) := by decide +kernel
theorem dX2_readInto_6 : decode cX2_readInto 6 = .ok (.putfield 24, 3) := by decide +kernel
theorem dX2_readInto_9 : decode cX2_readInto 9 = .ok (.aload_n 0, 1) := by decide +kernel
theorem dX2_readInto_10 : decode cX2_readInto 10 = .ok (.iconst 0, 1) := by decide +kernel
theorem dX2_readInto_11 : decode cX2_readInto 11 = .ok (.putfield 27, 3) := by decide +kernel
theorem dX2_readInto_14 : decode cX2_readInto 14 = .ok (.aload_n 0, 1) := by decide +kernel
theorem dX2_readInto_15 : decode cX2_readInto 15 = .ok (.iconst 0, 1) := by decide +kernel
theorem dX2_readInto_16 : decode cX2_readInto 16 = .ok (.putfield 30, 3) := by decide +kernel
theorem dX2_readInto_19 : decode cX2_readInto 19 = .ok (.aload_n 0, 1) := by decide +kernel
theorem dX2_readInto_20 : decode cX2_readInto 20 = .ok (.iconst 0, 1) := by decide +kernel
theorem dX2_readInto_21 : decode cX2_readInto 21 = .ok (.putfield 33, 3) := by decide +kernel
theorem dX2_readInto_24 : decode cX2_readInto 24 = .ok (.iconst 0, 1) := by decide +kernel
theorem dX2_readInto_25 : decode cX2_readInto 25 = .ok (.istore_n 2, 1) := by decide +kernel
theorem dX2_readInto_26 : decode cX2_readInto 26 = .ok (.iload_n 2, 1) := by decide +kernel
theorem dX2_readInto_27 : decode cX2_readInto 27 = .ok (.bipush 16, 2) := by decide +kernel
theorem dX2_readInto_29 : decode cX2_readInto 29 = .ok (.if_icmp .ge 51, 3) := by decide +kernel
theorem dX2_readInto_32 : decode cX2_readInto 32 = .ok (.aload_n 0, 1) := by decide +kernel
theorem dX2_readInto_33 : decode cX2_readInto 33 = .ok (.getfield 30, 3) := by decide +kernel
theorem dX2_readInto_36 : decode cX2_readInto 36 = .ok (.aload_n 0, 1) := by decide +kernel
theorem dX2_readInto_37 : decode cX2_readInto 37 = .ok (.getfield 15, 3) := by decide +kernel
theorem dX2_readInto_40 : decode cX2_readInto 40 = .ok (.if_icmp .ge 40, 3) := by decide +kernel
theorem dX2_readInto_43 : decode cX2_readInto 43 = .ok (.aload_n 0, 1) := by decide +kernel
theorem dX2_readInto_44 : decode cX2_readInto 44 = .ok (.getfield 24, 3) := by decide +kernel
theorem dX2_readInto_47 : decode cX2_readInto 47 = .ok (.iconst 1, 1) := by decide +kernel
theorem dX2_readInto_48 : decode cX2_readInto 48 = .ok (.if_icmp .eq 32, 3) := by decide +kernel
theorem dX2_readInto_51 : decode cX2_readInto 51 = .ok (.aload_n 1, 1) := by decide +kernel
theorem dX2_readInto_52 : decode cX2_readInto 52 = .ok (.getfield 36, 3) := by decide +kernel
theorem dX2_readInto_55 : decode cX2_readInto 55 = .ok (.iload_n 2, 1) := by decide +kernel
theorem dX2_readInto_56 : decode cX2_readInto 56 = .ok (.aload_n 0, 1) := by decide +kernel
theorem dX2_readInto_57 : decode cX2_readInto 57 = .ok (.getfield 33, 3) := by decide +kernel
theorem dX2_readInto_60 : decode cX2_readInto 60 = .ok (.iastore, 1) := by decide +kernel
theorem dX2_readInto_61 : decode cX2_readInto 61 = .ok (.aload_n 0, 1) := by decide +kernel
theorem dX2_readInto_62 : decode cX2_readInto 62 = .ok (.aload_n 1, 1) := by decide +kernel
theorem dX2_readInto_63 : decode cX2_readInto 63 = .ok (.iload_n 2, 1) := by decide +kernel
theorem dX2_readInto_64 : decode cX2_readInto 64 = .ok (.invokevirtual 39, 3) := by decide +kernel
theorem dX2_readInto_67 : decode cX2_readInto 67 = .ok (.aload_n 1, 1) := by decide +kernel
theorem dX2_readInto_68 : decode cX2_readInto 68 = .ok (.iload_n 2, 1) := by decide +kernel
theorem dX2_readInto_69 : decode cX2_readInto 69 = .ok (.iconst 1, 1) := by decide +kernel
theorem dX2_readInto_70 : decode cX2_readInto 70 = .ok (.iadd, 1) := by decide +kernel
theorem dX2_readInto_71 : decode cX2_readInto 71 = .ok (.putfield 43, 3) := by decide +kernel
theorem dX2_readInto_74 : decode cX2_readInto 74 = .ok (.iinc 2 1, 3) := by decide +kernel
theorem dX2_readInto_77 : decode cX2_readInto 77 = .ok (.goto (-51), 3) := by decide +kernel
theorem dX2_readInto_80 : decode cX2_readInto 80 = .ok (.aload_n 0, 1) := by decide +kernel
theorem dX2_readInto_81 : decode cX2_readInto 81 = .ok (.getfield 24, 3) := by decide +kernel
theorem dX2_readInto_84 : decode cX2_readInto 84 = .ok (.iconst 1, 1) := by decide +kernel
theorem dX2_readInto_85 : decode cX2_readInto 85 = .ok (.if_icmp .eq 29, 3) := by decide +kernel
theorem dX2_readInto_88 : decode cX2_readInto 88 = .ok (.aload_n 0, 1) := by decide +kernel
theorem dX2_readInto_89 : decode cX2_readInto 89 = .ok (.getfield 30, 3) := by decide +kernel
theorem dX2_readInto_92 : decode cX2_readInto 92 = .ok (.aload_n 0, 1) := by decide +kernel
theorem dX2_readInto_93 : decode cX2_readInto 93 = .ok (.getfield 15, 3) := by decide +kernel
theorem dX2_readInto_96 : decode cX2_readInto 96 = .ok (.if_icmp .lt 10, 3) := by decide +kernel
theorem dX2_readInto_99 : decode cX2_readInto 99 = .ok (.aload_n 0, 1) := by decide +kernel
theorem dX2_readInto_100 : decode cX2_readInto 100 = .ok (.getfield 15, 3) := by decide +kernel
theorem dX2_readInto_103 : decode cX2_readInto 103 = .ok (.ifCond .ne 11, 3) := by decide +kernel
theorem dX2_readInto_106 : decode cX2_readInto 106 = .ok (.aload_n 0, 1) := by decide +kernel
theorem dX2_readInto_107 : decode cX2_readInto 107 = .ok (.aload_n 0, 1) := by decide +kernel
theorem dX2_readInto_108 : decode cX2_readInto 108 = .ok (.getfield 30, 3) := by decide +kernel
theorem dX2_readInto_111 : decode cX2_readInto 111 = .ok (.invokevirtual 46, 3) := by decide +kernel
theorem dX2_readInto_114 : decode cX2_readInto 114 = .ok (.aload_n 0, 1) := by decide +kernel
theorem dX2_readInto_115 : decode cX2_readInto 115 = .ok (.getfield 24, 3) := by decide +kernel
theorem dX2_readInto_118 : decode cX2_readInto 118 = .ok (.ifCond .ne 30, 3) := by decide +kernel
theorem dX2_readInto_121 : decode cX2_readInto 121 = .ok (.aload_n 0, 1) := by decide +kernel
theorem dX2_readInto_122 : decode cX2_readInto 122 = .ok (.getfield 33, 3) := by decide +kernel
theorem dX2_readInto_125 : decode cX2_readInto 125 = .ok (.ifCond .ne 10, 3) := by decide +kernel
theorem dX2_readInto_128 : decode cX2_readInto 128 = .ok (.aload_n 1, 1) := by decide +kernel
theorem dX2_readInto_129 : decode cX2_readInto 129 = .ok (.invokevirtual 50, 3) := by decide +kernel
theorem dX2_readInto_132 : decode cX2_readInto 132 = .ok (.ifCond .ne 16, 3) := by decide +kernel
theorem dX2_readInto_135 : decode cX2_readInto 135 = .ok (.aload_n 0, 1) := by decide +kernel
theorem dX2_readInto_136 : decode cX2_readInto 136 = .ok (.iconst 3, 1) := by decide +kernel
theorem dX2_readInto_137 : decode cX2_readInto 137 = .ok (.putfield 24, 3) := by decide +kernel
theorem dX2_readInto_140 : decode cX2_readInto 140 = .ok (.aload_n 0, 1) := by decide +kernel
theorem dX2_readInto_141 : decode cX2_readInto 141 = .ok (.aload_n 0, 1) := by decide +kernel
theorem dX2_readInto_142 : decode cX2_readInto 142 = .ok (.getfield 15, 3) := by decide +kernel
theorem dX2_readInto_145 : decode cX2_readInto 145 = .ok (.putfield 27, 3) := by decide +kernel
theorem dX2_readInto_148 : decode cX2_readInto 148 = .ok (.return_, 1) := by decide +kernel
theorem dX2_signAt_0 : decode cX2_signAt 0 = .ok (.iload_n 1, 1) := by decide +kernel
theorem dX2_signAt_1 : decode cX2_signAt 1 = .ok (.ifCond .lt 20, 3) := by decide +kernel
theorem dX2_signAt_4 : decode cX2_signAt 4 = .ok (.iload_n 1, 1) := by decide +kernel
theorem dX2_signAt_5 : decode cX2_signAt 5 = .ok (.aload_n 0, 1) := by decide +kernel
theorem dX2_signAt_6 : decode cX2_signAt 6 = .ok (.getfield 15, 3) := by decide +kernel
theorem dX2_signAt_9 : decode cX2_signAt 9 = .ok (.if_icmp .ge 12, 3) := by decide +kernel
theorem dX2_signAt_12 : decode cX2_signAt 12 = .ok (.aload_n 0, 1) := by decide +kernel
theorem dX2_signAt_13 : decode cX2_signAt 13 = .ok (.getfield 9, 3) := by decide +kernel
theorem dX2_signAt_16 : decode cX2_signAt 16 = .ok (.iload_n 1, 1) := by decide +kernel
theorem dX2_signAt_17 : decode cX2_signAt 17 = .ok (.iaload, 1) := by decide +kernel
theorem dX2_signAt_18 : decode cX2_signAt 18 = .ok (.goto 4, 3) := by decide +kernel
theorem dX2_signAt_21 : decode cX2_signAt 21 = .ok (.iconst (-1), 1) := by decide +kernel
theorem dX2_signAt_22 : decode cX2_signAt 22 = .ok (.ireturn, 1) := by decide +kernel
theorem dX2_refuseSign_0 : decode cX2_refuseSign 0 = .ok (.aload_n 0, 1) := by decide +kernel
theorem dX2_refuseSign_1 : decode cX2_refuseSign 1 = .ok (.iconst 1, 1) := by decide +kernel
theorem dX2_refuseSign_2 : decode cX2_refuseSign 2 = .ok (.putfield 24, 3) := by decide +kernel
theorem dX2_refuseSign_5 : decode cX2_refuseSign 5 = .ok (.aload_n 0, 1) := by decide +kernel
theorem dX2_refuseSign_6 : decode cX2_refuseSign 6 = .ok (.iload_n 1, 1) := by decide +kernel
theorem dX2_refuseSign_7 : decode cX2_refuseSign 7 = .ok (.putfield 27, 3) := by decide +kernel
theorem dX2_refuseSign_10 : decode cX2_refuseSign 10 = .ok (.return_, 1) := by decide +kernel
theorem dX2_readStep_0 : decode cX2_readStep 0 = .ok (.aload_n 0, 1) := by decide +kernel
theorem dX2_readStep_1 : decode cX2_readStep 1 = .ok (.aload_n 0, 1) := by decide +kernel
theorem dX2_readStep_2 : decode cX2_readStep 2 = .ok (.getfield 30, 3) := by decide +kernel
theorem dX2_readStep_5 : decode cX2_readStep 5 = .ok (.invokevirtual 54, 3) := by decide +kernel
theorem dX2_readStep_8 : decode cX2_readStep 8 = .ok (.istore_n 3, 1) := by decide +kernel
theorem dX2_readStep_9 : decode cX2_readStep 9 = .ok (.iload_n 3, 1) := by decide +kernel
theorem dX2_readStep_10 : decode cX2_readStep 10 = .ok (.bipush 40, 2) := by decide +kernel
theorem dX2_readStep_12 : decode cX2_readStep 12 = .ok (.if_icmp .ne 12, 3) := by decide +kernel
theorem dX2_readStep_15 : decode cX2_readStep 15 = .ok (.aload_n 0, 1) := by decide +kernel
theorem dX2_readStep_16 : decode cX2_readStep 16 = .ok (.aload_n 1, 1) := by decide +kernel
theorem dX2_readStep_17 : decode cX2_readStep 17 = .ok (.iload_n 2, 1) := by decide +kernel
theorem dX2_readStep_18 : decode cX2_readStep 18 = .ok (.invokevirtual 58, 3) := by decide +kernel
theorem dX2_readStep_21 : decode cX2_readStep 21 = .ok (.goto 24, 3) := by decide +kernel
theorem dX2_readStep_24 : decode cX2_readStep 24 = .ok (.iload_n 3, 1) := by decide +kernel
theorem dX2_readStep_25 : decode cX2_readStep 25 = .ok (.bipush 84, 2) := by decide +kernel
theorem dX2_readStep_27 : decode cX2_readStep 27 = .ok (.if_icmp .ne 12, 3) := by decide +kernel
theorem dX2_readStep_30 : decode cX2_readStep 30 = .ok (.aload_n 0, 1) := by decide +kernel
theorem dX2_readStep_31 : decode cX2_readStep 31 = .ok (.aload_n 1, 1) := by decide +kernel
theorem dX2_readStep_32 : decode cX2_readStep 32 = .ok (.iload_n 2, 1) := by decide +kernel
theorem dX2_readStep_33 : decode cX2_readStep 33 = .ok (.invokevirtual 61, 3) := by decide +kernel
theorem dX2_readStep_36 : decode cX2_readStep 36 = .ok (.goto 9, 3) := by decide +kernel
theorem dX2_readStep_39 : decode cX2_readStep 39 = .ok (.aload_n 0, 1) := by decide +kernel
theorem dX2_readStep_40 : decode cX2_readStep 40 = .ok (.aload_n 1, 1) := by decide +kernel
theorem dX2_readStep_41 : decode cX2_readStep 41 = .ok (.iload_n 2, 1) := by decide +kernel
theorem dX2_readStep_42 : decode cX2_readStep 42 = .ok (.invokevirtual 64, 3) := by decide +kernel
theorem dX2_readStep_45 : decode cX2_readStep 45 = .ok (.return_, 1) := by decide +kernel
theorem dX2_readParallel_0 : decode cX2_readParallel 0 = .ok (.aload_n 0, 1) := by decide +kernel
theorem dX2_readParallel_1 : decode cX2_readParallel 1 = .ok (.dup, 1) := by decide +kernel
theorem dX2_readParallel_2 : decode cX2_readParallel 2 = .ok (.getfield 30, 3) := by decide +kernel
theorem dX2_readParallel_5 : decode cX2_readParallel 5 = .ok (.iconst 1, 1) := by decide +kernel
theorem dX2_readParallel_6 : decode cX2_readParallel 6 = .ok (.iadd, 1) := by decide +kernel
theorem dX2_readParallel_7 : decode cX2_readParallel 7 = .ok (.putfield 30, 3) := by decide +kernel
theorem dX2_readParallel_10 : decode cX2_readParallel 10 = .ok (.iconst 0, 1) := by decide +kernel
theorem dX2_readParallel_11 : decode cX2_readParallel 11 = .ok (.istore_n 3, 1) := by decide +kernel
theorem dX2_readParallel_12 : decode cX2_readParallel 12 = .ok (.iload_n 3, 1) := by decide +kernel
theorem dX2_readParallel_13 : decode cX2_readParallel 13 = .ok (.bipush 80, 2) := by decide +kernel
theorem dX2_readParallel_15 : decode cX2_readParallel 15 = .ok (.if_icmp .ge 52, 3) := by decide +kernel
theorem dX2_readParallel_18 : decode cX2_readParallel 18 = .ok (.aload_n 0, 1) := by decide +kernel
theorem dX2_readParallel_19 : decode cX2_readParallel 19 = .ok (.getfield 24, 3) := by decide +kernel
theorem dX2_readParallel_22 : decode cX2_readParallel 22 = .ok (.iconst 1, 1) := by decide +kernel
theorem dX2_readParallel_23 : decode cX2_readParallel 23 = .ok (.if_icmp .eq 44, 3) := by decide +kernel
theorem dX2_readParallel_26 : decode cX2_readParallel 26 = .ok (.iload_n 3, 1) := by decide +kernel
theorem dX2_readParallel_27 : decode cX2_readParallel 27 = .ok (.iconst 2, 1) := by decide +kernel
theorem dX2_readParallel_28 : decode cX2_readParallel 28 = .ok (.if_icmp .lt 27, 3) := by decide +kernel
theorem dX2_readParallel_31 : decode cX2_readParallel 31 = .ok (.aload_n 0, 1) := by decide +kernel
theorem dX2_readParallel_32 : decode cX2_readParallel 32 = .ok (.aload_n 0, 1) := by decide +kernel
theorem dX2_readParallel_33 : decode cX2_readParallel 33 = .ok (.getfield 30, 3) := by decide +kernel
theorem dX2_readParallel_36 : decode cX2_readParallel 36 = .ok (.invokevirtual 54, 3) := by decide +kernel
theorem dX2_readParallel_39 : decode cX2_readParallel 39 = .ok (.bipush 41, 2) := by decide +kernel
theorem dX2_readParallel_41 : decode cX2_readParallel 41 = .ok (.if_icmp .ne 14, 3) := by decide +kernel
theorem dX2_readParallel_44 : decode cX2_readParallel 44 = .ok (.aload_n 0, 1) := by decide +kernel
theorem dX2_readParallel_45 : decode cX2_readParallel 45 = .ok (.dup, 1) := by decide +kernel
theorem dX2_readParallel_46 : decode cX2_readParallel 46 = .ok (.getfield 30, 3) := by decide +kernel
theorem dX2_readParallel_49 : decode cX2_readParallel 49 = .ok (.iconst 1, 1) := by decide +kernel
theorem dX2_readParallel_50 : decode cX2_readParallel 50 = .ok (.iadd, 1) := by decide +kernel
theorem dX2_readParallel_51 : decode cX2_readParallel 51 = .ok (.putfield 30, 3) := by decide +kernel
theorem dX2_readParallel_54 : decode cX2_readParallel 54 = .ok (.return_, 1) := by decide +kernel
theorem dX2_readParallel_55 : decode cX2_readParallel 55 = .ok (.aload_n 0, 1) := by decide +kernel
theorem dX2_readParallel_56 : decode cX2_readParallel 56 = .ok (.aload_n 1, 1) := by decide +kernel
theorem dX2_readParallel_57 : decode cX2_readParallel 57 = .ok (.iload_n 2, 1) := by decide +kernel
theorem dX2_readParallel_58 : decode cX2_readParallel 58 = .ok (.invokevirtual 64, 3) := by decide +kernel
theorem dX2_readParallel_61 : decode cX2_readParallel 61 = .ok (.iinc 3 1, 3) := by decide +kernel
theorem dX2_readParallel_64 : decode cX2_readParallel 64 = .ok (.goto (-52), 3) := by decide +kernel
theorem dX2_readParallel_67 : decode cX2_readParallel 67 = .ok (.return_, 1) := by decide +kernel
theorem dX2_readMove_0 : decode cX2_readMove 0 = .ok (.aload_n 0, 1) := by decide +kernel
theorem dX2_readMove_1 : decode cX2_readMove 1 = .ok (.aload_n 0, 1) := by decide +kernel
theorem dX2_readMove_2 : decode cX2_readMove 2 = .ok (.getfield 30, 3) := by decide +kernel
theorem dX2_readMove_5 : decode cX2_readMove 5 = .ok (.invokevirtual 54, 3) := by decide +kernel
theorem dX2_readMove_8 : decode cX2_readMove 8 = .ok (.bipush 65, 2) := by decide +kernel
theorem dX2_readMove_10 : decode cX2_readMove 10 = .ok (.isub, 1) := by decide +kernel
theorem dX2_readMove_11 : decode cX2_readMove 11 = .ok (.istore_n 3, 1) := by decide +kernel
theorem dX2_readMove_12 : decode cX2_readMove 12 = .ok (.aload_n 0, 1) := by decide +kernel
theorem dX2_readMove_13 : decode cX2_readMove 13 = .ok (.aload_n 0, 1) := by decide +kernel
theorem dX2_readMove_14 : decode cX2_readMove 14 = .ok (.getfield 30, 3) := by decide +kernel
theorem dX2_readMove_17 : decode cX2_readMove 17 = .ok (.iconst 1, 1) := by decide +kernel
theorem dX2_readMove_18 : decode cX2_readMove 18 = .ok (.iadd, 1) := by decide +kernel
theorem dX2_readMove_19 : decode cX2_readMove 19 = .ok (.invokevirtual 54, 3) := by decide +kernel
theorem dX2_readMove_22 : decode cX2_readMove 22 = .ok (.istore 4, 2) := by decide +kernel
theorem dX2_readMove_24 : decode cX2_readMove 24 = .ok (.iload_n 3, 1) := by decide +kernel
theorem dX2_readMove_25 : decode cX2_readMove 25 = .ok (.ifCond .lt 9, 3) := by decide +kernel
theorem dX2_readMove_28 : decode cX2_readMove 28 = .ok (.iload_n 3, 1) := by decide +kernel
theorem dX2_readMove_29 : decode cX2_readMove 29 = .ok (.bipush 6, 2) := by decide +kernel
theorem dX2_readMove_31 : decode cX2_readMove 31 = .ok (.if_icmp .lt 14, 3) := by decide +kernel
theorem dX2_readMove_34 : decode cX2_readMove 34 = .ok (.aload_n 0, 1) := by decide +kernel
theorem dX2_readMove_35 : decode cX2_readMove 35 = .ok (.aload_n 0, 1) := by decide +kernel
theorem dX2_readMove_36 : decode cX2_readMove 36 = .ok (.getfield 30, 3) := by decide +kernel
theorem dX2_readMove_39 : decode cX2_readMove 39 = .ok (.invokevirtual 46, 3) := by decide +kernel
theorem dX2_readMove_42 : decode cX2_readMove 42 = .ok (.goto 59, 3) := by decide +kernel
theorem dX2_readMove_45 : decode cX2_readMove 45 = .ok (.iload 4, 2) := by decide +kernel
theorem dX2_readMove_47 : decode cX2_readMove 47 = .ok (.bipush 43, 2) := by decide +kernel
theorem dX2_readMove_49 : decode cX2_readMove 49 = .ok (.if_icmp .eq 23, 3) := by decide +kernel
theorem dX2_readMove_52 : decode cX2_readMove 52 = .ok (.iload 4, 2) := by decide +kernel
theorem dX2_readMove_54 : decode cX2_readMove 54 = .ok (.bipush 45, 2) := by decide +kernel
theorem dX2_readMove_56 : decode cX2_readMove 56 = .ok (.if_icmp .eq 16, 3) := by decide +kernel
theorem dX2_readMove_59 : decode cX2_readMove 59 = .ok (.aload_n 0, 1) := by decide +kernel
theorem dX2_readMove_60 : decode cX2_readMove 60 = .ok (.aload_n 0, 1) := by decide +kernel
theorem dX2_readMove_61 : decode cX2_readMove 61 = .ok (.getfield 30, 3) := by decide +kernel
theorem dX2_readMove_64 : decode cX2_readMove 64 = .ok (.iconst 1, 1) := by decide +kernel
theorem dX2_readMove_65 : decode cX2_readMove 65 = .ok (.iadd, 1) := by decide +kernel
theorem dX2_readMove_66 : decode cX2_readMove 66 = .ok (.invokevirtual 46, 3) := by decide +kernel
theorem dX2_readMove_69 : decode cX2_readMove 69 = .ok (.goto 32, 3) := by decide +kernel
theorem dX2_readMove_72 : decode cX2_readMove 72 = .ok (.aload_n 0, 1) := by decide +kernel
theorem dX2_readMove_73 : decode cX2_readMove 73 = .ok (.aload_n 1, 1) := by decide +kernel
theorem dX2_readMove_74 : decode cX2_readMove 74 = .ok (.iload_n 2, 1) := by decide +kernel
theorem dX2_readMove_75 : decode cX2_readMove 75 = .ok (.iload_n 3, 1) := by decide +kernel
theorem dX2_readMove_76 : decode cX2_readMove 76 = .ok (.iload 4, 2) := by decide +kernel
theorem dX2_readMove_78 : decode cX2_readMove 78 = .ok (.bipush 43, 2) := by decide +kernel
theorem dX2_readMove_80 : decode cX2_readMove 80 = .ok (.if_icmp .ne 7, 3) := by decide +kernel
theorem dX2_readMove_83 : decode cX2_readMove 83 = .ok (.iconst 1, 1) := by decide +kernel
theorem dX2_readMove_84 : decode cX2_readMove 84 = .ok (.goto 4, 3) := by decide +kernel
theorem dX2_readMove_87 : decode cX2_readMove 87 = .ok (.iconst 0, 1) := by decide +kernel
theorem dX2_readMove_88 : decode cX2_readMove 88 = .ok (.invokevirtual 67, 3) := by decide +kernel
theorem dX2_readMove_91 : decode cX2_readMove 91 = .ok (.aload_n 0, 1) := by decide +kernel
theorem dX2_readMove_92 : decode cX2_readMove 92 = .ok (.dup, 1) := by decide +kernel
theorem dX2_readMove_93 : decode cX2_readMove 93 = .ok (.getfield 30, 3) := by decide +kernel
theorem dX2_readMove_96 : decode cX2_readMove 96 = .ok (.iconst 2, 1) := by decide +kernel
theorem dX2_readMove_97 : decode cX2_readMove 97 = .ok (.iadd, 1) := by decide +kernel
theorem dX2_readMove_98 : decode cX2_readMove 98 = .ok (.putfield 30, 3) := by decide +kernel
theorem dX2_readMove_101 : decode cX2_readMove 101 = .ok (.return_, 1) := by decide +kernel
theorem dX2_takeMove_0 : decode cX2_takeMove 0 = .ok (.aload_n 1, 1) := by decide +kernel
theorem dX2_takeMove_1 : decode cX2_takeMove 1 = .ok (.iload_n 2, 1) := by decide +kernel
theorem dX2_takeMove_2 : decode cX2_takeMove 2 = .ok (.invokevirtual 71, 3) := by decide +kernel
theorem dX2_takeMove_5 : decode cX2_takeMove 5 = .ok (.iload_n 3, 1) := by decide +kernel
theorem dX2_takeMove_6 : decode cX2_takeMove 6 = .ok (.invokestatic 74, 3) := by decide +kernel
theorem dX2_takeMove_9 : decode cX2_takeMove 9 = .ok (.istore 5, 2) := by decide +kernel
theorem dX2_takeMove_11 : decode cX2_takeMove 11 = .ok (.aload_n 0, 1) := by decide +kernel
theorem dX2_takeMove_12 : decode cX2_takeMove 12 = .ok (.getfield 24, 3) := by decide +kernel
theorem dX2_takeMove_15 : decode cX2_takeMove 15 = .ok (.ifCond .ne 34, 3) := by decide +kernel
theorem dX2_takeMove_18 : decode cX2_takeMove 18 = .ok (.iload 5, 2) := by decide +kernel
theorem dX2_takeMove_20 : decode cX2_takeMove 20 = .ok (.ifCond .ne 16, 3) := by decide +kernel
theorem dX2_takeMove_23 : decode cX2_takeMove 23 = .ok (.aload_n 0, 1) := by decide +kernel
theorem dX2_takeMove_24 : decode cX2_takeMove 24 = .ok (.getfield 33, 3) := by decide +kernel
theorem dX2_takeMove_27 : decode cX2_takeMove 27 = .ok (.iload_n 3, 1) := by decide +kernel
theorem dX2_takeMove_28 : decode cX2_takeMove 28 = .ok (.invokestatic 74, 3) := by decide +kernel
theorem dX2_takeMove_31 : decode cX2_takeMove 31 = .ok (.iload 4, 2) := by decide +kernel
theorem dX2_takeMove_33 : decode cX2_takeMove 33 = .ok (.if_icmp .ne 16, 3) := by decide +kernel
theorem dX2_takeMove_36 : decode cX2_takeMove 36 = .ok (.aload_n 0, 1) := by decide +kernel
theorem dX2_takeMove_37 : decode cX2_takeMove 37 = .ok (.iconst 2, 1) := by decide +kernel
theorem dX2_takeMove_38 : decode cX2_takeMove 38 = .ok (.putfield 24, 3) := by decide +kernel
theorem dX2_takeMove_41 : decode cX2_takeMove 41 = .ok (.aload_n 0, 1) := by decide +kernel
theorem dX2_takeMove_42 : decode cX2_takeMove 42 = .ok (.aload_n 0, 1) := by decide +kernel
theorem dX2_takeMove_43 : decode cX2_takeMove 43 = .ok (.getfield 30, 3) := by decide +kernel
theorem dX2_takeMove_46 : decode cX2_takeMove 46 = .ok (.putfield 27, 3) := by decide +kernel
theorem dX2_takeMove_49 : decode cX2_takeMove 49 = .ok (.iload 4, 2) := by decide +kernel
theorem dX2_takeMove_51 : decode cX2_takeMove 51 = .ok (.ifCond .eq 30, 3) := by decide +kernel
theorem dX2_takeMove_54 : decode cX2_takeMove 54 = .ok (.aload_n 1, 1) := by decide +kernel
theorem dX2_takeMove_55 : decode cX2_takeMove 55 = .ok (.getfield 78, 3) := by decide +kernel
theorem dX2_takeMove_58 : decode cX2_takeMove 58 = .ok (.iload_n 2, 1) := by decide +kernel
theorem dX2_takeMove_59 : decode cX2_takeMove 59 = .ok (.dup2, 1) := by decide +kernel
theorem dX2_takeMove_60 : decode cX2_takeMove 60 = .ok (.iaload, 1) := by decide +kernel
theorem dX2_takeMove_61 : decode cX2_takeMove 61 = .ok (.iconst 1, 1) := by decide +kernel
theorem dX2_takeMove_62 : decode cX2_takeMove 62 = .ok (.iload_n 3, 1) := by decide +kernel
theorem dX2_takeMove_63 : decode cX2_takeMove 63 = .ok (.ishl, 1) := by decide +kernel
theorem dX2_takeMove_64 : decode cX2_takeMove 64 = .ok (.ior, 1) := by decide +kernel
theorem dX2_takeMove_65 : decode cX2_takeMove 65 = .ok (.iastore, 1) := by decide +kernel
theorem dX2_takeMove_66 : decode cX2_takeMove 66 = .ok (.aload_n 0, 1) := by decide +kernel
theorem dX2_takeMove_67 : decode cX2_takeMove 67 = .ok (.dup, 1) := by decide +kernel
theorem dX2_takeMove_68 : decode cX2_takeMove 68 = .ok (.getfield 33, 3) := by decide +kernel
theorem dX2_takeMove_71 : decode cX2_takeMove 71 = .ok (.iconst 1, 1) := by decide +kernel
theorem dX2_takeMove_72 : decode cX2_takeMove 72 = .ok (.iload_n 3, 1) := by decide +kernel
theorem dX2_takeMove_73 : decode cX2_takeMove 73 = .ok (.ishl, 1) := by decide +kernel
theorem dX2_takeMove_74 : decode cX2_takeMove 74 = .ok (.ior, 1) := by decide +kernel
theorem dX2_takeMove_75 : decode cX2_takeMove 75 = .ok (.putfield 33, 3) := by decide +kernel
theorem dX2_takeMove_78 : decode cX2_takeMove 78 = .ok (.goto 29, 3) := by decide +kernel
theorem dX2_takeMove_81 : decode cX2_takeMove 81 = .ok (.aload_n 1, 1) := by decide +kernel
theorem dX2_takeMove_82 : decode cX2_takeMove 82 = .ok (.getfield 81, 3) := by decide +kernel
theorem dX2_takeMove_85 : decode cX2_takeMove 85 = .ok (.iload_n 2, 1) := by decide +kernel
theorem dX2_takeMove_86 : decode cX2_takeMove 86 = .ok (.dup2, 1) := by decide +kernel
theorem dX2_takeMove_87 : decode cX2_takeMove 87 = .ok (.iaload, 1) := by decide +kernel
theorem dX2_takeMove_88 : decode cX2_takeMove 88 = .ok (.iconst 1, 1) := by decide +kernel
theorem dX2_takeMove_89 : decode cX2_takeMove 89 = .ok (.iload_n 3, 1) := by decide +kernel
theorem dX2_takeMove_90 : decode cX2_takeMove 90 = .ok (.ishl, 1) := by decide +kernel
theorem dX2_takeMove_91 : decode cX2_takeMove 91 = .ok (.ior, 1) := by decide +kernel
theorem dX2_takeMove_92 : decode cX2_takeMove 92 = .ok (.iastore, 1) := by decide +kernel
theorem dX2_takeMove_93 : decode cX2_takeMove 93 = .ok (.aload_n 0, 1) := by decide +kernel
theorem dX2_takeMove_94 : decode cX2_takeMove 94 = .ok (.dup, 1) := by decide +kernel
theorem dX2_takeMove_95 : decode cX2_takeMove 95 = .ok (.getfield 33, 3) := by decide +kernel
theorem dX2_takeMove_98 : decode cX2_takeMove 98 = .ok (.iconst 1, 1) := by decide +kernel
theorem dX2_takeMove_99 : decode cX2_takeMove 99 = .ok (.iload_n 3, 1) := by decide +kernel
theorem dX2_takeMove_100 : decode cX2_takeMove 100 = .ok (.ishl, 1) := by decide +kernel
theorem dX2_takeMove_101 : decode cX2_takeMove 101 = .ok (.iconst (-1), 1) := by decide +kernel
theorem dX2_takeMove_102 : decode cX2_takeMove 102 = .ok (.ixor, 1) := by decide +kernel
theorem dX2_takeMove_103 : decode cX2_takeMove 103 = .ok (.iand, 1) := by decide +kernel
theorem dX2_takeMove_104 : decode cX2_takeMove 104 = .ok (.putfield 33, 3) := by decide +kernel
theorem dX2_takeMove_107 : decode cX2_takeMove 107 = .ok (.return_, 1) := by decide +kernel
theorem dX2_readPause_0 : decode cX2_readPause 0 = .ok (.aload_n 0, 1) := by decide +kernel
theorem dX2_readPause_1 : decode cX2_readPause 1 = .ok (.aload_n 0, 1) := by decide +kernel
theorem dX2_readPause_2 : decode cX2_readPause 2 = .ok (.getfield 30, 3) := by decide +kernel
theorem dX2_readPause_5 : decode cX2_readPause 5 = .ok (.iconst 1, 1) := by decide +kernel
theorem dX2_readPause_6 : decode cX2_readPause 6 = .ok (.iadd, 1) := by decide +kernel
theorem dX2_readPause_7 : decode cX2_readPause 7 = .ok (.invokevirtual 84, 3) := by decide +kernel
theorem dX2_readPause_10 : decode cX2_readPause 10 = .ok (.istore_n 3, 1) := by decide +kernel
theorem dX2_readPause_11 : decode cX2_readPause 11 = .ok (.aload_n 0, 1) := by decide +kernel
theorem dX2_readPause_12 : decode cX2_readPause 12 = .ok (.aload_n 0, 1) := by decide +kernel
theorem dX2_readPause_13 : decode cX2_readPause 13 = .ok (.getfield 30, 3) := by decide +kernel
theorem dX2_readPause_16 : decode cX2_readPause 16 = .ok (.iconst 2, 1) := by decide +kernel
theorem dX2_readPause_17 : decode cX2_readPause 17 = .ok (.iadd, 1) := by decide +kernel
theorem dX2_readPause_18 : decode cX2_readPause 18 = .ok (.invokevirtual 84, 3) := by decide +kernel
theorem dX2_readPause_21 : decode cX2_readPause 21 = .ok (.istore 4, 2) := by decide +kernel
theorem dX2_readPause_23 : decode cX2_readPause 23 = .ok (.iload_n 3, 1) := by decide +kernel
theorem dX2_readPause_24 : decode cX2_readPause 24 = .ok (.ifCond .ge 14, 3) := by decide +kernel
theorem dX2_readPause_27 : decode cX2_readPause 27 = .ok (.aload_n 0, 1) := by decide +kernel
theorem dX2_readPause_28 : decode cX2_readPause 28 = .ok (.aload_n 0, 1) := by decide +kernel
theorem dX2_readPause_29 : decode cX2_readPause 29 = .ok (.getfield 30, 3) := by decide +kernel
theorem dX2_readPause_32 : decode cX2_readPause 32 = .ok (.iconst 1, 1) := by decide +kernel
theorem dX2_readPause_33 : decode cX2_readPause 33 = .ok (.iadd, 1) := by decide +kernel
theorem dX2_readPause_34 : decode cX2_readPause 34 = .ok (.invokevirtual 46, 3) := by decide +kernel
theorem dX2_readPause_37 : decode cX2_readPause 37 = .ok (.return_, 1) := by decide +kernel
theorem dX2_readPause_38 : decode cX2_readPause 38 = .ok (.iload 4, 2) := by decide +kernel
theorem dX2_readPause_40 : decode cX2_readPause 40 = .ok (.ifCond .lt 11, 3) := by decide +kernel
theorem dX2_readPause_43 : decode cX2_readPause 43 = .ok (.bipush 10, 2) := by decide +kernel
theorem dX2_readPause_45 : decode cX2_readPause 45 = .ok (.iload_n 3, 1) := by decide +kernel
theorem dX2_readPause_46 : decode cX2_readPause 46 = .ok (.imul, 1) := by decide +kernel
theorem dX2_readPause_47 : decode cX2_readPause 47 = .ok (.iload 4, 2) := by decide +kernel
theorem dX2_readPause_49 : decode cX2_readPause 49 = .ok (.iadd, 1) := by decide +kernel
theorem dX2_readPause_50 : decode cX2_readPause 50 = .ok (.istore_n 3, 1) := by decide +kernel
theorem dX2_readPause_51 : decode cX2_readPause 51 = .ok (.iload_n 3, 1) := by decide +kernel
theorem dX2_readPause_52 : decode cX2_readPause 52 = .ok (.iconst 1, 1) := by decide +kernel
theorem dX2_readPause_53 : decode cX2_readPause 53 = .ok (.if_icmp .lt 9, 3) := by decide +kernel
theorem dX2_readPause_56 : decode cX2_readPause 56 = .ok (.iload_n 3, 1) := by decide +kernel
theorem dX2_readPause_57 : decode cX2_readPause 57 = .ok (.bipush 60, 2) := by decide +kernel
theorem dX2_readPause_59 : decode cX2_readPause 59 = .ok (.if_icmp .le 14, 3) := by decide +kernel
theorem dX2_readPause_62 : decode cX2_readPause 62 = .ok (.aload_n 0, 1) := by decide +kernel
theorem dX2_readPause_63 : decode cX2_readPause 63 = .ok (.aload_n 0, 1) := by decide +kernel
theorem dX2_readPause_64 : decode cX2_readPause 64 = .ok (.getfield 30, 3) := by decide +kernel
theorem dX2_readPause_67 : decode cX2_readPause 67 = .ok (.iconst 1, 1) := by decide +kernel
theorem dX2_readPause_68 : decode cX2_readPause 68 = .ok (.iadd, 1) := by decide +kernel
theorem dX2_readPause_69 : decode cX2_readPause 69 = .ok (.invokevirtual 46, 3) := by decide +kernel
theorem dX2_readPause_72 : decode cX2_readPause 72 = .ok (.return_, 1) := by decide +kernel
theorem dX2_readPause_73 : decode cX2_readPause 73 = .ok (.aload_n 1, 1) := by decide +kernel
theorem dX2_readPause_74 : decode cX2_readPause 74 = .ok (.getfield 87, 3) := by decide +kernel
theorem dX2_readPause_77 : decode cX2_readPause 77 = .ok (.iload_n 2, 1) := by decide +kernel
theorem dX2_readPause_78 : decode cX2_readPause 78 = .ok (.iload_n 3, 1) := by decide +kernel
theorem dX2_readPause_79 : decode cX2_readPause 79 = .ok (.iastore, 1) := by decide +kernel
theorem dX2_readPause_80 : decode cX2_readPause 80 = .ok (.aload_n 0, 1) := by decide +kernel
theorem dX2_readPause_81 : decode cX2_readPause 81 = .ok (.dup, 1) := by decide +kernel
theorem dX2_readPause_82 : decode cX2_readPause 82 = .ok (.getfield 30, 3) := by decide +kernel
theorem dX2_readPause_85 : decode cX2_readPause 85 = .ok (.iload 4, 2) := by decide +kernel
theorem dX2_readPause_87 : decode cX2_readPause 87 = .ok (.ifCond .lt 7, 3) := by decide +kernel
theorem dX2_readPause_90 : decode cX2_readPause 90 = .ok (.iconst 3, 1) := by decide +kernel
theorem dX2_readPause_91 : decode cX2_readPause 91 = .ok (.goto 4, 3) := by decide +kernel
theorem dX2_readPause_94 : decode cX2_readPause 94 = .ok (.iconst 2, 1) := by decide +kernel
theorem dX2_readPause_95 : decode cX2_readPause 95 = .ok (.iadd, 1) := by decide +kernel
theorem dX2_readPause_96 : decode cX2_readPause 96 = .ok (.putfield 30, 3) := by decide +kernel
theorem dX2_readPause_99 : decode cX2_readPause 99 = .ok (.return_, 1) := by decide +kernel
theorem dX2_digitAt_0 : decode cX2_digitAt 0 = .ok (.aload_n 0, 1) := by decide +kernel
theorem dX2_digitAt_1 : decode cX2_digitAt 1 = .ok (.iload_n 1, 1) := by decide +kernel
theorem dX2_digitAt_2 : decode cX2_digitAt 2 = .ok (.invokevirtual 54, 3) := by decide +kernel
theorem dX2_digitAt_5 : decode cX2_digitAt 5 = .ok (.istore_n 2, 1) := by decide +kernel
theorem dX2_digitAt_6 : decode cX2_digitAt 6 = .ok (.iload_n 2, 1) := by decide +kernel
theorem dX2_digitAt_7 : decode cX2_digitAt 7 = .ok (.bipush 48, 2) := by decide +kernel
theorem dX2_digitAt_9 : decode cX2_digitAt 9 = .ok (.if_icmp .lt 16, 3) := by decide +kernel
theorem dX2_digitAt_12 : decode cX2_digitAt 12 = .ok (.iload_n 2, 1) := by decide +kernel
theorem dX2_digitAt_13 : decode cX2_digitAt 13 = .ok (.bipush 57, 2) := by decide +kernel
theorem dX2_digitAt_15 : decode cX2_digitAt 15 = .ok (.if_icmp .gt 10, 3) := by decide +kernel
theorem dX2_digitAt_18 : decode cX2_digitAt 18 = .ok (.iload_n 2, 1) := by decide +kernel
theorem dX2_digitAt_19 : decode cX2_digitAt 19 = .ok (.bipush 48, 2) := by decide +kernel
theorem dX2_digitAt_21 : decode cX2_digitAt 21 = .ok (.isub, 1) := by decide +kernel
theorem dX2_digitAt_22 : decode cX2_digitAt 22 = .ok (.goto 4, 3) := by decide +kernel
theorem dX2_digitAt_25 : decode cX2_digitAt 25 = .ok (.iconst (-1), 1) := by decide +kernel
theorem dX2_digitAt_26 : decode cX2_digitAt 26 = .ok (.ireturn, 1) := by decide +kernel
theorem dX3_init_0 : decode cX3_init 0 = .ok (.aload_n 0, 1) := by decide +kernel
theorem dX3_init_1 : decode cX3_init 1 = .ok (.invokespecial 3, 3) := by decide +kernel
theorem dX3_init_4 : decode cX3_init 4 = .ok (.aload_n 0, 1) := by decide +kernel
theorem dX3_init_5 : decode cX3_init 5 = .ok (.new 9, 3) := by decide +kernel
theorem dX3_init_8 : decode cX3_init 8 = .ok (.dup, 1) := by decide +kernel
theorem dX3_init_9 : decode cX3_init 9 = .ok (.invokespecial 11, 3) := by decide +kernel
theorem dX3_init_12 : decode cX3_init 12 = .ok (.putfield 12, 3) := by decide +kernel
theorem dX3_init_15 : decode cX3_init 15 = .ok (.aload_n 0, 1) := by decide +kernel
theorem dX3_init_16 : decode cX3_init 16 = .ok (.new 18, 3) := by decide +kernel
theorem dX3_init_19 : decode cX3_init 19 = .ok (.dup, 1) := by decide +kernel
theorem dX3_init_20 : decode cX3_init 20 = .ok (.invokespecial 20, 3) := by decide +kernel
theorem dX3_init_23 : decode cX3_init 23 = .ok (.putfield 21, 3) := by decide +kernel
theorem dX3_init_26 : decode cX3_init 26 = .ok (.aload_n 0, 1) := by decide +kernel
theorem dX3_init_27 : decode cX3_init 27 = .ok (.new 25, 3) := by decide +kernel
theorem dX3_init_30 : decode cX3_init 30 = .ok (.dup, 1) := by decide +kernel
theorem dX3_init_31 : decode cX3_init 31 = .ok (.invokespecial 27, 3) := by decide +kernel
theorem dX3_init_34 : decode cX3_init 34 = .ok (.putfield 28, 3) := by decide +kernel
theorem dX3_init_37 : decode cX3_init 37 = .ok (.aload_n 0, 1) := by decide +kernel
theorem dX3_init_38 : decode cX3_init 38 = .ok (.bipush 6, 2) := by decide +kernel
theorem dX3_init_40 : decode cX3_init 40 = .ok (.newarray .int, 2) := by decide +kernel
theorem dX3_init_42 : decode cX3_init 42 = .ok (.putfield 32, 3) := by decide +kernel
theorem dX3_init_45 : decode cX3_init 45 = .ok (.aload_n 0, 1) := by decide +kernel
theorem dX3_init_46 : decode cX3_init 46 = .ok (.bipush 6, 2) := by decide +kernel
theorem dX3_init_48 : decode cX3_init 48 = .ok (.newarray .int, 2) := by decide +kernel
theorem dX3_init_50 : decode cX3_init 50 = .ok (.putfield 36, 3) := by decide +kernel
theorem dX3_init_53 : decode cX3_init 53 = .ok (.aload_n 0, 1) := by decide +kernel
theorem dX3_init_54 : decode cX3_init 54 = .ok (.bipush 16, 2) := by decide +kernel
theorem dX3_init_56 : decode cX3_init 56 = .ok (.newarray .int, 2) := by decide +kernel
theorem dX3_init_58 : decode cX3_init 58 = .ok (.putfield 39, 3) := by decide +kernel
theorem dX3_init_61 : decode cX3_init 61 = .ok (.aload_n 0, 1) := by decide +kernel
theorem dX3_init_62 : decode cX3_init 62 = .ok (.iconst 5, 1) := by decide +kernel
theorem dX3_init_63 : decode cX3_init 63 = .ok (.newarray .int, 2) := by decide +kernel
theorem dX3_init_65 : decode cX3_init 65 = .ok (.putfield 42, 3) := by decide +kernel
theorem dX3_init_68 : decode cX3_init 68 = .ok (.aload_n 0, 1) := by decide +kernel
theorem dX3_init_69 : decode cX3_init 69 = .ok (.iconst 1, 1) := by decide +kernel
theorem dX3_init_70 : decode cX3_init 70 = .ok (.putfield 45, 3) := by decide +kernel
theorem dX3_init_73 : decode cX3_init 73 = .ok (.aload_n 0, 1) := by decide +kernel
theorem dX3_init_74 : decode cX3_init 74 = .ok (.aload_n 1, 1) := by decide +kernel
theorem dX3_init_75 : decode cX3_init 75 = .ok (.putfield 49, 3) := by decide +kernel
theorem dX3_init_78 : decode cX3_init 78 = .ok (.aload_n 0, 1) := by decide +kernel
theorem dX3_init_79 : decode cX3_init 79 = .ok (.getfield 32, 3) := by decide +kernel
theorem dX3_init_82 : decode cX3_init 82 = .ok (.iconst 3, 1) := by decide +kernel
theorem dX3_init_83 : decode cX3_init 83 = .ok (.invokestatic 53, 3) := by decide +kernel
theorem dX3_init_86 : decode cX3_init 86 = .ok (.return_, 1) := by decide +kernel
theorem dX3_bringToRest_0 : decode cX3_bringToRest 0 = .ok (.aload_n 0, 1) := by decide +kernel
theorem dX3_bringToRest_1 : decode cX3_bringToRest 1 = .ok (.getfield 36, 3) := by decide +kernel
theorem dX3_bringToRest_4 : decode cX3_bringToRest 4 = .ok (.iconst 0, 1) := by decide +kernel
theorem dX3_bringToRest_5 : decode cX3_bringToRest 5 = .ok (.invokestatic 53, 3) := by decide +kernel
theorem dX3_bringToRest_8 : decode cX3_bringToRest 8 = .ok (.aload_n 0, 1) := by decide +kernel
theorem dX3_bringToRest_9 : decode cX3_bringToRest 9 = .ok (.getfield 39, 3) := by decide +kernel
theorem dX3_bringToRest_12 : decode cX3_bringToRest 12 = .ok (.iconst 0, 1) := by decide +kernel
theorem dX3_bringToRest_13 : decode cX3_bringToRest 13 = .ok (.invokestatic 53, 3) := by decide +kernel
theorem dX3_bringToRest_16 : decode cX3_bringToRest 16 = .ok (.aload_n 0, 1) := by decide +kernel
theorem dX3_bringToRest_17 : decode cX3_bringToRest 17 = .ok (.iconst 0, 1) := by decide +kernel
theorem dX3_bringToRest_18 : decode cX3_bringToRest 18 = .ok (.putfield 59, 3) := by decide +kernel
theorem dX3_bringToRest_21 : decode cX3_bringToRest 21 = .ok (.aload_n 0, 1) := by decide +kernel
theorem dX3_bringToRest_22 : decode cX3_bringToRest 22 = .ok (.iconst 0, 1) := by decide +kernel
theorem dX3_bringToRest_23 : decode cX3_bringToRest 23 = .ok (.putfield 63, 3) := by decide +kernel
theorem dX3_bringToRest_26 : decode cX3_bringToRest 26 = .ok (.aload_n 0, 1) := by decide +kernel
theorem dX3_bringToRest_27 : decode cX3_bringToRest 27 = .ok (.iconst 0, 1) := by decide +kernel
theorem dX3_bringToRest_28 : decode cX3_bringToRest 28 = .ok (.putfield 66, 3) := by decide +kernel
theorem dX3_bringToRest_31 : decode cX3_bringToRest 31 = .ok (.aload_n 0, 1) := by decide +kernel
theorem dX3_bringToRest_32 : decode cX3_bringToRest 32 = .ok (.iconst 0, 1) := by decide +kernel
theorem dX3_bringToRest_33 : decode cX3_bringToRest 33 = .ok (.putfield 69, 3) := by decide +kernel
theorem dX3_bringToRest_36 : decode cX3_bringToRest 36 = .ok (.aload_n 0, 1) := by decide +kernel
theorem dX3_bringToRest_37 : decode cX3_bringToRest 37 = .ok (.getfield 12, 3) := by decide +kernel
theorem dX3_bringToRest_40 : decode cX3_bringToRest 40 = .ok (.aload_n 0, 1) := by decide +kernel
theorem dX3_bringToRest_41 : decode cX3_bringToRest 41 = .ok (.getfield 49, 3) := by decide +kernel
theorem dX3_bringToRest_44 : decode cX3_bringToRest 44 = .ok (.invokevirtual 72, 3) := by decide +kernel
theorem dX3_bringToRest_47 : decode cX3_bringToRest 47 = .ok (.aload_n 0, 1) := by decide +kernel
theorem dX3_bringToRest_48 : decode cX3_bringToRest 48 = .ok (.getfield 21, 3) := by decide +kernel
theorem dX3_bringToRest_51 : decode cX3_bringToRest 51 = .ok (.invokevirtual 76, 3) := by decide +kernel
theorem dX3_bringToRest_54 : decode cX3_bringToRest 54 = .ok (.aload_n 0, 1) := by decide +kernel
theorem dX3_bringToRest_55 : decode cX3_bringToRest 55 = .ok (.getfield 28, 3) := by decide +kernel
theorem dX3_bringToRest_58 : decode cX3_bringToRest 58 = .ok (.aload_n 0, 1) := by decide +kernel
theorem dX3_bringToRest_59 : decode cX3_bringToRest 59 = .ok (.getfield 49, 3) := by decide +kernel
theorem dX3_bringToRest_62 : decode cX3_bringToRest 62 = .ok (.invokevirtual 78, 3) := by decide +kernel
theorem dX3_bringToRest_65 : decode cX3_bringToRest 65 = .ok (.return_, 1) := by decide +kernel
theorem dX3_becomeCopyOf_0 : decode cX3_becomeCopyOf 0 = .ok (.aload_n 0, 1) := by decide +kernel
theorem dX3_becomeCopyOf_1 : decode cX3_becomeCopyOf 1 = .ok (.aload_n 1, 1) := by decide +kernel
theorem dX3_becomeCopyOf_2 : decode cX3_becomeCopyOf 2 = .ok (.getfield 49, 3) := by decide +kernel
theorem dX3_becomeCopyOf_5 : decode cX3_becomeCopyOf 5 = .ok (.putfield 49, 3) := by decide +kernel
theorem dX3_becomeCopyOf_8 : decode cX3_becomeCopyOf 8 = .ok (.aload_n 1, 1) := by decide +kernel
theorem dX3_becomeCopyOf_9 : decode cX3_becomeCopyOf 9 = .ok (.getfield 32, 3) := by decide +kernel
theorem dX3_becomeCopyOf_12 : decode cX3_becomeCopyOf 12 = .ok (.iconst 0, 1) := by decide +kernel
theorem dX3_becomeCopyOf_13 : decode cX3_becomeCopyOf 13 = .ok (.aload_n 0, 1) := by decide +kernel
theorem dX3_becomeCopyOf_14 : decode cX3_becomeCopyOf 14 = .ok (.getfield 32, 3) := by decide +kernel
theorem dX3_becomeCopyOf_17 : decode cX3_becomeCopyOf 17 = .ok (.iconst 0, 1) := by decide +kernel
theorem dX3_becomeCopyOf_18 : decode cX3_becomeCopyOf 18 = .ok (.bipush 6, 2) := by decide +kernel
theorem dX3_becomeCopyOf_20 : decode cX3_becomeCopyOf 20 = .ok (.invokestatic 79, 3) := by decide +kernel
theorem dX3_becomeCopyOf_23 : decode cX3_becomeCopyOf 23 = .ok (.aload_n 0, 1) := by decide +kernel
theorem dX3_becomeCopyOf_24 : decode cX3_becomeCopyOf 24 = .ok (.getfield 42, 3) := by decide +kernel
theorem dX3_becomeCopyOf_27 : decode cX3_becomeCopyOf 27 = .ok (.iconst 0, 1) := by decide +kernel
theorem dX3_becomeCopyOf_28 : decode cX3_becomeCopyOf 28 = .ok (.invokestatic 53, 3) := by decide +kernel
theorem dX3_becomeCopyOf_31 : decode cX3_becomeCopyOf 31 = .ok (.aload_n 0, 1) := by decide +kernel
theorem dX3_becomeCopyOf_32 : decode cX3_becomeCopyOf 32 = .ok (.getfield 12, 3) := by decide +kernel
theorem dX3_becomeCopyOf_35 : decode cX3_becomeCopyOf 35 = .ok (.iload_n 2, 1) := by decide +kernel
theorem dX3_becomeCopyOf_36 : decode cX3_becomeCopyOf 36 = .ok (.putfield 85, 3) := by decide +kernel
theorem dX3_becomeCopyOf_39 : decode cX3_becomeCopyOf 39 = .ok (.aload_n 0, 1) := by decide +kernel
theorem dX3_becomeCopyOf_40 : decode cX3_becomeCopyOf 40 = .ok (.invokevirtual 88, 3) := by decide +kernel
theorem dX3_becomeCopyOf_43 : decode cX3_becomeCopyOf 43 = .ok (.return_, 1) := by decide +kernel
theorem dX3_putFault_0 : decode cX3_putFault 0 = .ok (.iload_n 3, 1) := by decide +kernel
theorem dX3_putFault_1 : decode cX3_putFault 1 = .ok (.ifCond .eq 18, 3) := by decide +kernel
theorem dX3_putFault_4 : decode cX3_putFault 4 = .ok (.aload_n 0, 1) := by decide +kernel
theorem dX3_putFault_5 : decode cX3_putFault 5 = .ok (.getfield 42, 3) := by decide +kernel
theorem dX3_putFault_8 : decode cX3_putFault 8 = .ok (.iload_n 2, 1) := by decide +kernel
theorem dX3_putFault_9 : decode cX3_putFault 9 = .ok (.dup2, 1) := by decide +kernel
theorem dX3_putFault_10 : decode cX3_putFault 10 = .ok (.iaload, 1) := by decide +kernel
theorem dX3_putFault_11 : decode cX3_putFault 11 = .ok (.iconst 1, 1) := by decide +kernel
theorem dX3_putFault_12 : decode cX3_putFault 12 = .ok (.iload_n 1, 1) := by decide +kernel
theorem dX3_putFault_13 : decode cX3_putFault 13 = .ok (.ishl, 1) := by decide +kernel
theorem dX3_putFault_14 : decode cX3_putFault 14 = .ok (.ior, 1) := by decide +kernel
theorem dX3_putFault_15 : decode cX3_putFault 15 = .ok (.iastore, 1) := by decide +kernel
theorem dX3_putFault_16 : decode cX3_putFault 16 = .ok (.goto 17, 3) := by decide +kernel
theorem dX3_putFault_19 : decode cX3_putFault 19 = .ok (.aload_n 0, 1) := by decide +kernel
theorem dX3_putFault_20 : decode cX3_putFault 20 = .ok (.getfield 42, 3) := by decide +kernel
theorem dX3_putFault_23 : decode cX3_putFault 23 = .ok (.iload_n 2, 1) := by decide +kernel
theorem dX3_putFault_24 : decode cX3_putFault 24 = .ok (.dup2, 1) := by decide +kernel
theorem dX3_putFault_25 : decode cX3_putFault 25 = .ok (.iaload, 1) := by decide +kernel
theorem dX3_putFault_26 : decode cX3_putFault 26 = .ok (.iconst 1, 1) := by decide +kernel
theorem dX3_putFault_27 : decode cX3_putFault 27 = .ok (.iload_n 1, 1) := by decide +kernel
theorem dX3_putFault_28 : decode cX3_putFault 28 = .ok (.ishl, 1) := by decide +kernel
theorem dX3_putFault_29 : decode cX3_putFault 29 = .ok (.iconst (-1), 1) := by decide +kernel
theorem dX3_putFault_30 : decode cX3_putFault 30 = .ok (.ixor, 1) := by decide +kernel
theorem dX3_putFault_31 : decode cX3_putFault 31 = .ok (.iand, 1) := by decide +kernel
theorem dX3_putFault_32 : decode cX3_putFault 32 = .ok (.iastore, 1) := by decide +kernel
theorem dX3_putFault_33 : decode cX3_putFault 33 = .ok (.return_, 1) := by decide +kernel
theorem dX3_run_0 : decode cX3_run 0 = .ok (.iconst 1, 1) := by decide +kernel
theorem dX3_run_1 : decode cX3_run 1 = .ok (.istore_n 2, 1) := by decide +kernel
theorem dX3_run_2 : decode cX3_run 2 = .ok (.iload_n 2, 1) := by decide +kernel
theorem dX3_run_3 : decode cX3_run 3 = .ok (.iload_n 1, 1) := by decide +kernel
theorem dX3_run_4 : decode cX3_run 4 = .ok (.if_icmp .gt 33, 3) := by decide +kernel
theorem dX3_run_7 : decode cX3_run 7 = .ok (.aload_n 0, 1) := by decide +kernel
theorem dX3_run_8 : decode cX3_run 8 = .ok (.invokevirtual 91, 3) := by decide +kernel
theorem dX3_run_11 : decode cX3_run 11 = .ok (.aload_n 0, 1) := by decide +kernel
theorem dX3_run_12 : decode cX3_run 12 = .ok (.getfield 69, 3) := by decide +kernel
theorem dX3_run_15 : decode cX3_run 15 = .ok (.ifCond .eq 16, 3) := by decide +kernel
theorem dX3_run_18 : decode cX3_run 18 = .ok (.aload_n 0, 1) := by decide +kernel
theorem dX3_run_19 : decode cX3_run 19 = .ok (.dup, 1) := by decide +kernel
theorem dX3_run_20 : decode cX3_run 20 = .ok (.getfield 63, 3) := by decide +kernel
theorem dX3_run_23 : decode cX3_run 23 = .ok (.iload_n 1, 1) := by decide +kernel
theorem dX3_run_24 : decode cX3_run 24 = .ok (.iload_n 2, 1) := by decide +kernel
theorem dX3_run_25 : decode cX3_run 25 = .ok (.isub, 1) := by decide +kernel
theorem dX3_run_26 : decode cX3_run 26 = .ok (.iadd, 1) := by decide +kernel
theorem dX3_run_27 : decode cX3_run 27 = .ok (.putfield 63, 3) := by decide +kernel
theorem dX3_run_30 : decode cX3_run 30 = .ok (.return_, 1) := by decide +kernel
theorem dX3_run_31 : decode cX3_run 31 = .ok (.iinc 2 1, 3) := by decide +kernel
theorem dX3_run_34 : decode cX3_run 34 = .ok (.goto (-32), 3) := by decide +kernel
theorem dX3_run_37 : decode cX3_run 37 = .ok (.return_, 1) := by decide +kernel
theorem dX3_makeTick_0 : decode cX3_makeTick 0 = .ok (.aload_n 0, 1) := by decide +kernel
theorem dX3_makeTick_1 : decode cX3_makeTick 1 = .ok (.getfield 12, 3) := by decide +kernel
theorem dX3_makeTick_4 : decode cX3_makeTick 4 = .ok (.aload_n 0, 1) := by decide +kernel
theorem dX3_makeTick_5 : decode cX3_makeTick 5 = .ok (.getfield 49, 3) := by decide +kernel
theorem dX3_makeTick_8 : decode cX3_makeTick 8 = .ok (.aload_n 0, 1) := by decide +kernel
theorem dX3_makeTick_9 : decode cX3_makeTick 9 = .ok (.invokevirtual 94, 3) := by decide +kernel
theorem dX3_makeTick_12 : decode cX3_makeTick 12 = .ok (.aload_n 0, 1) := by decide +kernel
theorem dX3_makeTick_13 : decode cX3_makeTick 13 = .ok (.getfield 45, 3) := by decide +kernel
theorem dX3_makeTick_16 : decode cX3_makeTick 16 = .ok (.invokevirtual 98, 3) := by decide +kernel
theorem dX3_makeTick_19 : decode cX3_makeTick 19 = .ok (.aload_n 0, 1) := by decide +kernel
theorem dX3_makeTick_20 : decode cX3_makeTick 20 = .ok (.invokevirtual 102, 3) := by decide +kernel
theorem dX3_makeTick_23 : decode cX3_makeTick 23 = .ok (.istore_n 1, 1) := by decide +kernel
theorem dX3_makeTick_24 : decode cX3_makeTick 24 = .ok (.aload_n 0, 1) := by decide +kernel
theorem dX3_makeTick_25 : decode cX3_makeTick 25 = .ok (.invokevirtual 106, 3) := by decide +kernel
theorem dX3_makeTick_28 : decode cX3_makeTick 28 = .ok (.istore_n 2, 1) := by decide +kernel
theorem dX3_makeTick_29 : decode cX3_makeTick 29 = .ok (.aload_n 0, 1) := by decide +kernel
theorem dX3_makeTick_30 : decode cX3_makeTick 30 = .ok (.invokevirtual 109, 3) := by decide +kernel
theorem dX3_makeTick_33 : decode cX3_makeTick 33 = .ok (.istore_n 3, 1) := by decide +kernel
theorem dX3_makeTick_34 : decode cX3_makeTick 34 = .ok (.aload_n 0, 1) := by decide +kernel
theorem dX3_makeTick_35 : decode cX3_makeTick 35 = .ok (.dup, 1) := by decide +kernel
theorem dX3_makeTick_36 : decode cX3_makeTick 36 = .ok (.getfield 63, 3) := by decide +kernel
theorem dX3_makeTick_39 : decode cX3_makeTick 39 = .ok (.iconst 1, 1) := by decide +kernel
theorem dX3_makeTick_40 : decode cX3_makeTick 40 = .ok (.iadd, 1) := by decide +kernel
theorem dX3_makeTick_41 : decode cX3_makeTick 41 = .ok (.putfield 63, 3) := by decide +kernel
theorem dX3_makeTick_44 : decode cX3_makeTick 44 = .ok (.iload_n 1, 1) := by decide +kernel
theorem dX3_makeTick_45 : decode cX3_makeTick 45 = .ok (.ifCond .ne 7, 3) := by decide +kernel
theorem dX3_makeTick_48 : decode cX3_makeTick 48 = .ok (.iload_n 2, 1) := by decide +kernel
theorem dX3_makeTick_49 : decode cX3_makeTick 49 = .ok (.ifCond .eq 11, 3) := by decide +kernel
theorem dX3_makeTick_52 : decode cX3_makeTick 52 = .ok (.aload_n 0, 1) := by decide +kernel
theorem dX3_makeTick_53 : decode cX3_makeTick 53 = .ok (.aload_n 0, 1) := by decide +kernel
theorem dX3_makeTick_54 : decode cX3_makeTick 54 = .ok (.getfield 63, 3) := by decide +kernel
theorem dX3_makeTick_57 : decode cX3_makeTick 57 = .ok (.putfield 66, 3) := by decide +kernel
theorem dX3_makeTick_60 : decode cX3_makeTick 60 = .ok (.aload_n 0, 1) := by decide +kernel
theorem dX3_makeTick_61 : decode cX3_makeTick 61 = .ok (.iload_n 1, 1) := by decide +kernel
theorem dX3_makeTick_62 : decode cX3_makeTick 62 = .ok (.ifCond .ne 25, 3) := by decide +kernel
theorem dX3_makeTick_65 : decode cX3_makeTick 65 = .ok (.iload_n 2, 1) := by decide +kernel
theorem dX3_makeTick_66 : decode cX3_makeTick 66 = .ok (.ifCond .ne 21, 3) := by decide +kernel
theorem dX3_makeTick_69 : decode cX3_makeTick 69 = .ok (.iload_n 3, 1) := by decide +kernel
theorem dX3_makeTick_70 : decode cX3_makeTick 70 = .ok (.ifCond .ne 17, 3) := by decide +kernel
theorem dX3_makeTick_73 : decode cX3_makeTick 73 = .ok (.aload_n 0, 1) := by decide +kernel
theorem dX3_makeTick_74 : decode cX3_makeTick 74 = .ok (.getfield 12, 3) := by decide +kernel
theorem dX3_makeTick_77 : decode cX3_makeTick 77 = .ok (.getfield 112, 3) := by decide +kernel
theorem dX3_makeTick_80 : decode cX3_makeTick 80 = .ok (.ifCond .ne 7, 3) := by decide +kernel
theorem dX3_makeTick_83 : decode cX3_makeTick 83 = .ok (.iconst 1, 1) := by decide +kernel
theorem dX3_makeTick_84 : decode cX3_makeTick 84 = .ok (.goto 4, 3) := by decide +kernel
theorem dX3_makeTick_87 : decode cX3_makeTick 87 = .ok (.iconst 0, 1) := by decide +kernel
theorem dX3_makeTick_88 : decode cX3_makeTick 88 = .ok (.putfield 69, 3) := by decide +kernel
theorem dX3_makeTick_91 : decode cX3_makeTick 91 = .ok (.return_, 1) := by decide +kernel
theorem dX3_sensedRetracted_0 : decode cX3_sensedRetracted 0 = .ok (.iconst 0, 1) := by decide +kernel
theorem dX3_sensedRetracted_1 : decode cX3_sensedRetracted 1 = .ok (.istore_n 1, 1) := by decide +kernel
theorem dX3_sensedRetracted_2 : decode cX3_sensedRetracted 2 = .ok (.iconst 0, 1) := by decide +kernel
theorem dX3_sensedRetracted_3 : decode cX3_sensedRetracted 3 = .ok (.istore_n 2, 1) := by decide +kernel
theorem dX3_sensedRetracted_4 : decode cX3_sensedRetracted 4 = .ok (.iload_n 2, 1) := by decide +kernel
theorem dX3_sensedRetracted_5 : decode cX3_sensedRetracted 5 = .ok (.bipush 6, 2) := by decide +kernel
theorem dX3_sensedRetracted_7 : decode cX3_sensedRetracted 7 = .ok (.if_icmp .ge 24, 3) := by decide +kernel
theorem dX3_sensedRetracted_10 : decode cX3_sensedRetracted 10 = .ok (.aload_n 0, 1) := by decide +kernel
theorem dX3_sensedRetracted_11 : decode cX3_sensedRetracted 11 = .ok (.getfield 36, 3) := by decide +kernel
theorem dX3_sensedRetracted_14 : decode cX3_sensedRetracted 14 = .ok (.iload_n 2, 1) := by decide +kernel
theorem dX3_sensedRetracted_15 : decode cX3_sensedRetracted 15 = .ok (.iaload, 1) := by decide +kernel
theorem dX3_sensedRetracted_16 : decode cX3_sensedRetracted 16 = .ok (.ifCond .ne 9, 3) := by decide +kernel
theorem dX3_sensedRetracted_19 : decode cX3_sensedRetracted 19 = .ok (.iload_n 1, 1) := by decide +kernel
theorem dX3_sensedRetracted_20 : decode cX3_sensedRetracted 20 = .ok (.iconst 1, 1) := by decide +kernel
theorem dX3_sensedRetracted_21 : decode cX3_sensedRetracted 21 = .ok (.iload_n 2, 1) := by decide +kernel
theorem dX3_sensedRetracted_22 : decode cX3_sensedRetracted 22 = .ok (.ishl, 1) := by decide +kernel
theorem dX3_sensedRetracted_23 : decode cX3_sensedRetracted 23 = .ok (.ior, 1) := by decide +kernel
theorem dX3_sensedRetracted_24 : decode cX3_sensedRetracted 24 = .ok (.istore_n 1, 1) := by decide +kernel
theorem dX3_sensedRetracted_25 : decode cX3_sensedRetracted 25 = .ok (.iinc 2 1, 3) := by decide +kernel
theorem dX3_sensedRetracted_28 : decode cX3_sensedRetracted 28 = .ok (.goto (-24), 3) := by decide +kernel
theorem dX3_sensedRetracted_31 : decode cX3_sensedRetracted 31 = .ok (.iload_n 1, 1) := by decide +kernel
theorem dX3_sensedRetracted_32 : decode cX3_sensedRetracted 32 = .ok (.aload_n 0, 1) := by decide +kernel
theorem dX3_sensedRetracted_33 : decode cX3_sensedRetracted 33 = .ok (.getfield 42, 3) := by decide +kernel
theorem dX3_sensedRetracted_36 : decode cX3_sensedRetracted 36 = .ok (.iconst 2, 1) := by decide +kernel
theorem dX3_sensedRetracted_37 : decode cX3_sensedRetracted 37 = .ok (.iaload, 1) := by decide +kernel
theorem dX3_sensedRetracted_38 : decode cX3_sensedRetracted 38 = .ok (.ior, 1) := by decide +kernel
theorem dX3_sensedRetracted_39 : decode cX3_sensedRetracted 39 = .ok (.aload_n 0, 1) := by decide +kernel
theorem dX3_sensedRetracted_40 : decode cX3_sensedRetracted 40 = .ok (.getfield 42, 3) := by decide +kernel
theorem dX3_sensedRetracted_43 : decode cX3_sensedRetracted 43 = .ok (.iconst 1, 1) := by decide +kernel
theorem dX3_sensedRetracted_44 : decode cX3_sensedRetracted 44 = .ok (.iaload, 1) := by decide +kernel
theorem dX3_sensedRetracted_45 : decode cX3_sensedRetracted 45 = .ok (.iconst (-1), 1) := by decide +kernel
theorem dX3_sensedRetracted_46 : decode cX3_sensedRetracted 46 = .ok (.ixor, 1) := by decide +kernel
theorem dX3_sensedRetracted_47 : decode cX3_sensedRetracted 47 = .ok (.iand, 1) := by decide +kernel
theorem dX3_sensedRetracted_48 : decode cX3_sensedRetracted 48 = .ok (.ireturn, 1) := by decide +kernel
theorem dX3_sensedExtended_0 : decode cX3_sensedExtended 0 = .ok (.iconst 0, 1) := by decide +kernel
theorem dX3_sensedExtended_1 : decode cX3_sensedExtended 1 = .ok (.istore_n 1, 1) := by decide +kernel
theorem dX3_sensedExtended_2 : decode cX3_sensedExtended 2 = .ok (.iconst 0, 1) := by decide +kernel
theorem dX3_sensedExtended_3 : decode cX3_sensedExtended 3 = .ok (.istore_n 2, 1) := by decide +kernel
theorem dX3_sensedExtended_4 : decode cX3_sensedExtended 4 = .ok (.iload_n 2, 1) := by decide +kernel
theorem dX3_sensedExtended_5 : decode cX3_sensedExtended 5 = .ok (.bipush 6, 2) := by decide +kernel
theorem dX3_sensedExtended_7 : decode cX3_sensedExtended 7 = .ok (.if_icmp .ge 30, 3) := by decide +kernel
theorem dX3_sensedExtended_10 : decode cX3_sensedExtended 10 = .ok (.aload_n 0, 1) := by decide +kernel
theorem dX3_sensedExtended_11 : decode cX3_sensedExtended 11 = .ok (.getfield 36, 3) := by decide +kernel
theorem dX3_sensedExtended_14 : decode cX3_sensedExtended 14 = .ok (.iload_n 2, 1) := by decide +kernel
theorem dX3_sensedExtended_15 : decode cX3_sensedExtended 15 = .ok (.iaload, 1) := by decide +kernel
theorem dX3_sensedExtended_16 : decode cX3_sensedExtended 16 = .ok (.aload_n 0, 1) := by decide +kernel
theorem dX3_sensedExtended_17 : decode cX3_sensedExtended 17 = .ok (.getfield 32, 3) := by decide +kernel
theorem dX3_sensedExtended_20 : decode cX3_sensedExtended 20 = .ok (.iload_n 2, 1) := by decide +kernel
theorem dX3_sensedExtended_21 : decode cX3_sensedExtended 21 = .ok (.iaload, 1) := by decide +kernel
theorem dX3_sensedExtended_22 : decode cX3_sensedExtended 22 = .ok (.if_icmp .ne 9, 3) := by decide +kernel
theorem dX3_sensedExtended_25 : decode cX3_sensedExtended 25 = .ok (.iload_n 1, 1) := by decide +kernel
theorem dX3_sensedExtended_26 : decode cX3_sensedExtended 26 = .ok (.iconst 1, 1) := by decide +kernel
theorem dX3_sensedExtended_27 : decode cX3_sensedExtended 27 = .ok (.iload_n 2, 1) := by decide +kernel
theorem dX3_sensedExtended_28 : decode cX3_sensedExtended 28 = .ok (.ishl, 1) := by decide +kernel
theorem dX3_sensedExtended_29 : decode cX3_sensedExtended 29 = .ok (.ior, 1) := by decide +kernel
theorem dX3_sensedExtended_30 : decode cX3_sensedExtended 30 = .ok (.istore_n 1, 1) := by decide +kernel
theorem dX3_sensedExtended_31 : decode cX3_sensedExtended 31 = .ok (.iinc 2 1, 3) := by decide +kernel
theorem dX3_sensedExtended_34 : decode cX3_sensedExtended 34 = .ok (.goto (-30), 3) := by decide +kernel
theorem dX3_sensedExtended_37 : decode cX3_sensedExtended 37 = .ok (.iload_n 1, 1) := by decide +kernel
theorem dX3_sensedExtended_38 : decode cX3_sensedExtended 38 = .ok (.aload_n 0, 1) := by decide +kernel
theorem dX3_sensedExtended_39 : decode cX3_sensedExtended 39 = .ok (.getfield 42, 3) := by decide +kernel
theorem dX3_sensedExtended_42 : decode cX3_sensedExtended 42 = .ok (.iconst 4, 1) := by decide +kernel
theorem dX3_sensedExtended_43 : decode cX3_sensedExtended 43 = .ok (.iaload, 1) := by decide +kernel
theorem dX3_sensedExtended_44 : decode cX3_sensedExtended 44 = .ok (.ior, 1) := by decide +kernel
theorem dX3_sensedExtended_45 : decode cX3_sensedExtended 45 = .ok (.aload_n 0, 1) := by decide +kernel
theorem dX3_sensedExtended_46 : decode cX3_sensedExtended 46 = .ok (.getfield 42, 3) := by decide +kernel
theorem dX3_sensedExtended_49 : decode cX3_sensedExtended 49 = .ok (.iconst 3, 1) := by decide +kernel
theorem dX3_sensedExtended_50 : decode cX3_sensedExtended 50 = .ok (.iaload, 1) := by decide +kernel
theorem dX3_sensedExtended_51 : decode cX3_sensedExtended 51 = .ok (.iconst (-1), 1) := by decide +kernel
theorem dX3_sensedExtended_52 : decode cX3_sensedExtended 52 = .ok (.ixor, 1) := by decide +kernel
theorem dX3_sensedExtended_53 : decode cX3_sensedExtended 53 = .ok (.iand, 1) := by decide +kernel
theorem dX3_sensedExtended_54 : decode cX3_sensedExtended 54 = .ok (.ireturn, 1) := by decide +kernel
theorem dX3_completeSteps_0 : decode cX3_completeSteps 0 = .ok (.aload_n 0, 1) := by decide +kernel
theorem dX3_completeSteps_1 : decode cX3_completeSteps 1 = .ok (.invokevirtual 115, 3) := by decide +kernel
theorem dX3_completeSteps_4 : decode cX3_completeSteps 4 = .ok (.iconst (-1), 1) := by decide +kernel
theorem dX3_completeSteps_5 : decode cX3_completeSteps 5 = .ok (.ixor, 1) := by decide +kernel
theorem dX3_completeSteps_6 : decode cX3_completeSteps 6 = .ok (.istore_n 1, 1) := by decide +kernel
theorem dX3_completeSteps_7 : decode cX3_completeSteps 7 = .ok (.aload_n 0, 1) := by decide +kernel
theorem dX3_completeSteps_8 : decode cX3_completeSteps 8 = .ok (.invokevirtual 118, 3) := by decide +kernel
theorem dX3_completeSteps_11 : decode cX3_completeSteps 11 = .ok (.iconst (-1), 1) := by decide +kernel
theorem dX3_completeSteps_12 : decode cX3_completeSteps 12 = .ok (.ixor, 1) := by decide +kernel
theorem dX3_completeSteps_13 : decode cX3_completeSteps 13 = .ok (.istore_n 2, 1) := by decide +kernel
theorem dX3_completeSteps_14 : decode cX3_completeSteps 14 = .ok (.iconst 0, 1) := by decide +kernel
theorem dX3_completeSteps_15 : decode cX3_completeSteps 15 = .ok (.istore_n 3, 1) := by decide +kernel
theorem dX3_completeSteps_16 : decode cX3_completeSteps 16 = .ok (.iconst 0, 1) := by decide +kernel
theorem dX3_completeSteps_17 : decode cX3_completeSteps 17 = .ok (.istore 4, 2) := by decide +kernel
theorem dX3_completeSteps_19 : decode cX3_completeSteps 19 = .ok (.iload 4, 2) := by decide +kernel
theorem dX3_completeSteps_21 : decode cX3_completeSteps 21 = .ok (.aload_n 0, 1) := by decide +kernel
theorem dX3_completeSteps_22 : decode cX3_completeSteps 22 = .ok (.getfield 49, 3) := by decide +kernel
theorem dX3_completeSteps_25 : decode cX3_completeSteps 25 = .ok (.getfield 121, 3) := by decide +kernel
theorem dX3_completeSteps_28 : decode cX3_completeSteps 28 = .ok (.if_icmp .ge 66, 3) := by decide +kernel
theorem dX3_completeSteps_31 : decode cX3_completeSteps 31 = .ok (.aload_n 0, 1) := by decide +kernel
theorem dX3_completeSteps_32 : decode cX3_completeSteps 32 = .ok (.getfield 49, 3) := by decide +kernel
theorem dX3_completeSteps_35 : decode cX3_completeSteps 35 = .ok (.getfield 126, 3) := by decide +kernel
theorem dX3_completeSteps_38 : decode cX3_completeSteps 38 = .ok (.iload 4, 2) := by decide +kernel
theorem dX3_completeSteps_40 : decode cX3_completeSteps 40 = .ok (.iaload, 1) := by decide +kernel
theorem dX3_completeSteps_41 : decode cX3_completeSteps 41 = .ok (.iload_n 2, 1) := by decide +kernel
theorem dX3_completeSteps_42 : decode cX3_completeSteps 42 = .ok (.iand, 1) := by decide +kernel
theorem dX3_completeSteps_43 : decode cX3_completeSteps 43 = .ok (.ifCond .ne 45, 3) := by decide +kernel
theorem dX3_completeSteps_46 : decode cX3_completeSteps 46 = .ok (.aload_n 0, 1) := by decide +kernel
theorem dX3_completeSteps_47 : decode cX3_completeSteps 47 = .ok (.getfield 49, 3) := by decide +kernel
theorem dX3_completeSteps_50 : decode cX3_completeSteps 50 = .ok (.getfield 129, 3) := by decide +kernel
theorem dX3_completeSteps_53 : decode cX3_completeSteps 53 = .ok (.iload 4, 2) := by decide +kernel
theorem dX3_completeSteps_55 : decode cX3_completeSteps 55 = .ok (.iaload, 1) := by decide +kernel
theorem dX3_completeSteps_56 : decode cX3_completeSteps 56 = .ok (.iload_n 1, 1) := by decide +kernel
theorem dX3_completeSteps_57 : decode cX3_completeSteps 57 = .ok (.iand, 1) := by decide +kernel
theorem dX3_completeSteps_58 : decode cX3_completeSteps 58 = .ok (.ifCond .ne 30, 3) := by decide +kernel
theorem dX3_completeSteps_61 : decode cX3_completeSteps 61 = .ok (.aload_n 0, 1) := by decide +kernel
theorem dX3_completeSteps_62 : decode cX3_completeSteps 62 = .ok (.getfield 39, 3) := by decide +kernel
theorem dX3_completeSteps_65 : decode cX3_completeSteps 65 = .ok (.iload 4, 2) := by decide +kernel
theorem dX3_completeSteps_67 : decode cX3_completeSteps 67 = .ok (.iaload, 1) := by decide +kernel
theorem dX3_completeSteps_68 : decode cX3_completeSteps 68 = .ok (.aload_n 0, 1) := by decide +kernel
theorem dX3_completeSteps_69 : decode cX3_completeSteps 69 = .ok (.getfield 49, 3) := by decide +kernel
theorem dX3_completeSteps_72 : decode cX3_completeSteps 72 = .ok (.getfield 132, 3) := by decide +kernel
theorem dX3_completeSteps_75 : decode cX3_completeSteps 75 = .ok (.iload 4, 2) := by decide +kernel
theorem dX3_completeSteps_77 : decode cX3_completeSteps 77 = .ok (.iaload, 1) := by decide +kernel
theorem dX3_completeSteps_78 : decode cX3_completeSteps 78 = .ok (.if_icmp .lt 10, 3) := by decide +kernel
theorem dX3_completeSteps_81 : decode cX3_completeSteps 81 = .ok (.iload_n 3, 1) := by decide +kernel
theorem dX3_completeSteps_82 : decode cX3_completeSteps 82 = .ok (.iconst 1, 1) := by decide +kernel
theorem dX3_completeSteps_83 : decode cX3_completeSteps 83 = .ok (.iload 4, 2) := by decide +kernel
theorem dX3_completeSteps_85 : decode cX3_completeSteps 85 = .ok (.ishl, 1) := by decide +kernel
theorem dX3_completeSteps_86 : decode cX3_completeSteps 86 = .ok (.ior, 1) := by decide +kernel
theorem dX3_completeSteps_87 : decode cX3_completeSteps 87 = .ok (.istore_n 3, 1) := by decide +kernel
theorem dX3_completeSteps_88 : decode cX3_completeSteps 88 = .ok (.iinc 4 1, 3) := by decide +kernel
theorem dX3_completeSteps_91 : decode cX3_completeSteps 91 = .ok (.goto (-72), 3) := by decide +kernel
theorem dX3_completeSteps_94 : decode cX3_completeSteps 94 = .ok (.iload_n 3, 1) := by decide +kernel
theorem dX3_completeSteps_95 : decode cX3_completeSteps 95 = .ok (.ireturn, 1) := by decide +kernel
theorem dX3_shiftValves_0 : decode cX3_shiftValves 0 = .ok (.aload_n 0, 1) := by decide +kernel
theorem dX3_shiftValves_1 : decode cX3_shiftValves 1 = .ok (.getfield 12, 3) := by decide +kernel
theorem dX3_shiftValves_4 : decode cX3_shiftValves 4 = .ok (.getfield 135, 3) := by decide +kernel
theorem dX3_shiftValves_7 : decode cX3_shiftValves 7 = .ok (.aload_n 0, 1) := by decide +kernel
theorem dX3_shiftValves_8 : decode cX3_shiftValves 8 = .ok (.getfield 12, 3) := by decide +kernel
theorem dX3_shiftValves_11 : decode cX3_shiftValves 11 = .ok (.getfield 138, 3) := by decide +kernel
theorem dX3_shiftValves_14 : decode cX3_shiftValves 14 = .ok (.iconst (-1), 1) := by decide +kernel
theorem dX3_shiftValves_15 : decode cX3_shiftValves 15 = .ok (.ixor, 1) := by decide +kernel
theorem dX3_shiftValves_16 : decode cX3_shiftValves 16 = .ok (.iand, 1) := by decide +kernel
theorem dX3_shiftValves_17 : decode cX3_shiftValves 17 = .ok (.aload_n 0, 1) := by decide +kernel
theorem dX3_shiftValves_18 : decode cX3_shiftValves 18 = .ok (.getfield 59, 3) := by decide +kernel
theorem dX3_shiftValves_21 : decode cX3_shiftValves 21 = .ok (.iconst (-1), 1) := by decide +kernel
theorem dX3_shiftValves_22 : decode cX3_shiftValves 22 = .ok (.ixor, 1) := by decide +kernel
theorem dX3_shiftValves_23 : decode cX3_shiftValves 23 = .ok (.iand, 1) := by decide +kernel
theorem dX3_shiftValves_24 : decode cX3_shiftValves 24 = .ok (.istore_n 1, 1) := by decide +kernel
theorem dX3_shiftValves_25 : decode cX3_shiftValves 25 = .ok (.aload_n 0, 1) := by decide +kernel
theorem dX3_shiftValves_26 : decode cX3_shiftValves 26 = .ok (.getfield 12, 3) := by decide +kernel
theorem dX3_shiftValves_29 : decode cX3_shiftValves 29 = .ok (.getfield 138, 3) := by decide +kernel
theorem dX3_shiftValves_32 : decode cX3_shiftValves 32 = .ok (.aload_n 0, 1) := by decide +kernel
theorem dX3_shiftValves_33 : decode cX3_shiftValves 33 = .ok (.getfield 12, 3) := by decide +kernel
theorem dX3_shiftValves_36 : decode cX3_shiftValves 36 = .ok (.getfield 135, 3) := by decide +kernel
theorem dX3_shiftValves_39 : decode cX3_shiftValves 39 = .ok (.iconst (-1), 1) := by decide +kernel
theorem dX3_shiftValves_40 : decode cX3_shiftValves 40 = .ok (.ixor, 1) := by decide +kernel
theorem dX3_shiftValves_41 : decode cX3_shiftValves 41 = .ok (.iand, 1) := by decide +kernel
theorem dX3_shiftValves_42 : decode cX3_shiftValves 42 = .ok (.aload_n 0, 1) := by decide +kernel
theorem dX3_shiftValves_43 : decode cX3_shiftValves 43 = .ok (.getfield 59, 3) := by decide +kernel
theorem dX3_shiftValves_46 : decode cX3_shiftValves 46 = .ok (.iand, 1) := by decide +kernel
theorem dX3_shiftValves_47 : decode cX3_shiftValves 47 = .ok (.istore_n 2, 1) := by decide +kernel
theorem dX3_shiftValves_48 : decode cX3_shiftValves 48 = .ok (.iload_n 1, 1) := by decide +kernel
theorem dX3_shiftValves_49 : decode cX3_shiftValves 49 = .ok (.iload_n 2, 1) := by decide +kernel
theorem dX3_shiftValves_50 : decode cX3_shiftValves 50 = .ok (.ior, 1) := by decide +kernel
theorem dX3_shiftValves_51 : decode cX3_shiftValves 51 = .ok (.istore_n 3, 1) := by decide +kernel
theorem dX3_shiftValves_52 : decode cX3_shiftValves 52 = .ok (.iconst 0, 1) := by decide +kernel
theorem dX3_shiftValves_53 : decode cX3_shiftValves 53 = .ok (.istore 4, 2) := by decide +kernel
theorem dX3_shiftValves_55 : decode cX3_shiftValves 55 = .ok (.iload 4, 2) := by decide +kernel
theorem dX3_shiftValves_57 : decode cX3_shiftValves 57 = .ok (.bipush 6, 2) := by decide +kernel
theorem dX3_shiftValves_59 : decode cX3_shiftValves 59 = .ok (.if_icmp .ge 71, 3) := by decide +kernel
theorem dX3_shiftValves_62 : decode cX3_shiftValves 62 = .ok (.iload_n 3, 1) := by decide +kernel
theorem dX3_shiftValves_63 : decode cX3_shiftValves 63 = .ok (.ifCond .eq 67, 3) := by decide +kernel
theorem dX3_shiftValves_66 : decode cX3_shiftValves 66 = .ok (.iload_n 3, 1) := by decide +kernel
theorem dX3_shiftValves_67 : decode cX3_shiftValves 67 = .ok (.iload 4, 2) := by decide +kernel
theorem dX3_shiftValves_69 : decode cX3_shiftValves 69 = .ok (.invokestatic 141, 3) := by decide +kernel
theorem dX3_shiftValves_72 : decode cX3_shiftValves 72 = .ok (.ifCond .eq 52, 3) := by decide +kernel
theorem dX3_shiftValves_75 : decode cX3_shiftValves 75 = .ok (.iload_n 1, 1) := by decide +kernel
theorem dX3_shiftValves_76 : decode cX3_shiftValves 76 = .ok (.iload 4, 2) := by decide +kernel
theorem dX3_shiftValves_78 : decode cX3_shiftValves 78 = .ok (.invokestatic 141, 3) := by decide +kernel
theorem dX3_shiftValves_81 : decode cX3_shiftValves 81 = .ok (.istore 5, 2) := by decide +kernel
theorem dX3_shiftValves_83 : decode cX3_shiftValves 83 = .ok (.aload_n 0, 1) := by decide +kernel
theorem dX3_shiftValves_84 : decode cX3_shiftValves 84 = .ok (.getfield 21, 3) := by decide +kernel
theorem dX3_shiftValves_87 : decode cX3_shiftValves 87 = .ok (.aload_n 0, 1) := by decide +kernel
theorem dX3_shiftValves_88 : decode cX3_shiftValves 88 = .ok (.getfield 63, 3) := by decide +kernel
theorem dX3_shiftValves_91 : decode cX3_shiftValves 91 = .ok (.iconst 2, 1) := by decide +kernel
theorem dX3_shiftValves_92 : decode cX3_shiftValves 92 = .ok (.iload 4, 2) := by decide +kernel
theorem dX3_shiftValves_94 : decode cX3_shiftValves 94 = .ok (.imul, 1) := by decide +kernel
theorem dX3_shiftValves_95 : decode cX3_shiftValves 95 = .ok (.iload 5, 2) := by decide +kernel
theorem dX3_shiftValves_97 : decode cX3_shiftValves 97 = .ok (.ifCond .eq 7, 3) := by decide +kernel
theorem dX3_shiftValves_100 : decode cX3_shiftValves 100 = .ok (.iconst 1, 1) := by decide +kernel
theorem dX3_shiftValves_101 : decode cX3_shiftValves 101 = .ok (.goto 4, 3) := by decide +kernel
theorem dX3_shiftValves_104 : decode cX3_shiftValves 104 = .ok (.iconst 0, 1) := by decide +kernel
theorem dX3_shiftValves_105 : decode cX3_shiftValves 105 = .ok (.iadd, 1) := by decide +kernel
theorem dX3_shiftValves_106 : decode cX3_shiftValves 106 = .ok (.invokevirtual 145, 3) := by decide +kernel
theorem dX3_shiftValves_109 : decode cX3_shiftValves 109 = .ok (.aload_n 0, 1) := by decide +kernel
theorem dX3_shiftValves_110 : decode cX3_shiftValves 110 = .ok (.getfield 28, 3) := by decide +kernel
theorem dX3_shiftValves_113 : decode cX3_shiftValves 113 = .ok (.aload_n 0, 1) := by decide +kernel
theorem dX3_shiftValves_114 : decode cX3_shiftValves 114 = .ok (.getfield 49, 3) := by decide +kernel
theorem dX3_shiftValves_117 : decode cX3_shiftValves 117 = .ok (.iload 4, 2) := by decide +kernel
theorem dX3_shiftValves_119 : decode cX3_shiftValves 119 = .ok (.iload 5, 2) := by decide +kernel
theorem dX3_shiftValves_121 : decode cX3_shiftValves 121 = .ok (.invokevirtual 149, 3) := by decide +kernel
theorem dX3_shiftValves_124 : decode cX3_shiftValves 124 = .ok (.iinc 4 1, 3) := by decide +kernel
theorem dX3_shiftValves_127 : decode cX3_shiftValves 127 = .ok (.goto (-72), 3) := by decide +kernel
theorem dX3_shiftValves_130 : decode cX3_shiftValves 130 = .ok (.aload_n 0, 1) := by decide +kernel
theorem dX3_shiftValves_131 : decode cX3_shiftValves 131 = .ok (.aload_n 0, 1) := by decide +kernel
theorem dX3_shiftValves_132 : decode cX3_shiftValves 132 = .ok (.getfield 59, 3) := by decide +kernel
theorem dX3_shiftValves_135 : decode cX3_shiftValves 135 = .ok (.iload_n 1, 1) := by decide +kernel
theorem dX3_shiftValves_136 : decode cX3_shiftValves 136 = .ok (.ior, 1) := by decide +kernel
theorem dX3_shiftValves_137 : decode cX3_shiftValves 137 = .ok (.iload_n 2, 1) := by decide +kernel
theorem dX3_shiftValves_138 : decode cX3_shiftValves 138 = .ok (.iconst (-1), 1) := by decide +kernel
theorem dX3_shiftValves_139 : decode cX3_shiftValves 139 = .ok (.ixor, 1) := by decide +kernel
theorem dX3_shiftValves_140 : decode cX3_shiftValves 140 = .ok (.iand, 1) := by decide +kernel
theorem dX3_shiftValves_141 : decode cX3_shiftValves 141 = .ok (.putfield 59, 3) := by decide +kernel
theorem dX3_shiftValves_144 : decode cX3_shiftValves 144 = .ok (.iload_n 3, 1) := by decide +kernel
theorem dX3_shiftValves_145 : decode cX3_shiftValves 145 = .ok (.ifCond .eq 7, 3) := by decide +kernel
theorem dX3_shiftValves_148 : decode cX3_shiftValves 148 = .ok (.iconst 1, 1) := by decide +kernel
theorem dX3_shiftValves_149 : decode cX3_shiftValves 149 = .ok (.goto 4, 3) := by decide +kernel
theorem dX3_shiftValves_152 : decode cX3_shiftValves 152 = .ok (.iconst 0, 1) := by decide +kernel
theorem dX3_shiftValves_153 : decode cX3_shiftValves 153 = .ok (.ireturn, 1) := by decide +kernel
theorem dX3_movePistons_0 : decode cX3_movePistons 0 = .ok (.iconst 0, 1) := by decide +kernel
theorem dX3_movePistons_1 : decode cX3_movePistons 1 = .ok (.istore_n 1, 1) := by decide +kernel
theorem dX3_movePistons_2 : decode cX3_movePistons 2 = .ok (.iconst 0, 1) := by decide +kernel
theorem dX3_movePistons_3 : decode cX3_movePistons 3 = .ok (.istore_n 2, 1) := by decide +kernel
theorem dX3_movePistons_4 : decode cX3_movePistons 4 = .ok (.iload_n 2, 1) := by decide +kernel
theorem dX3_movePistons_5 : decode cX3_movePistons 5 = .ok (.bipush 6, 2) := by decide +kernel
theorem dX3_movePistons_7 : decode cX3_movePistons 7 = .ok (.if_icmp .ge 80, 3) := by decide +kernel
theorem dX3_movePistons_10 : decode cX3_movePistons 10 = .ok (.aload_n 0, 1) := by decide +kernel
theorem dX3_movePistons_11 : decode cX3_movePistons 11 = .ok (.getfield 59, 3) := by decide +kernel
theorem dX3_movePistons_14 : decode cX3_movePistons 14 = .ok (.iload_n 2, 1) := by decide +kernel
theorem dX3_movePistons_15 : decode cX3_movePistons 15 = .ok (.invokestatic 141, 3) := by decide +kernel
theorem dX3_movePistons_18 : decode cX3_movePistons 18 = .ok (.ifCond .eq 12, 3) := by decide +kernel
theorem dX3_movePistons_21 : decode cX3_movePistons 21 = .ok (.aload_n 0, 1) := by decide +kernel
theorem dX3_movePistons_22 : decode cX3_movePistons 22 = .ok (.getfield 32, 3) := by decide +kernel
theorem dX3_movePistons_25 : decode cX3_movePistons 25 = .ok (.iload_n 2, 1) := by decide +kernel
theorem dX3_movePistons_26 : decode cX3_movePistons 26 = .ok (.iaload, 1) := by decide +kernel
theorem dX3_movePistons_27 : decode cX3_movePistons 27 = .ok (.goto 4, 3) := by decide +kernel
theorem dX3_movePistons_30 : decode cX3_movePistons 30 = .ok (.iconst 0, 1) := by decide +kernel
theorem dX3_movePistons_31 : decode cX3_movePistons 31 = .ok (.istore_n 3, 1) := by decide +kernel
theorem dX3_movePistons_32 : decode cX3_movePistons 32 = .ok (.aload_n 0, 1) := by decide +kernel
theorem dX3_movePistons_33 : decode cX3_movePistons 33 = .ok (.getfield 36, 3) := by decide +kernel
theorem dX3_movePistons_36 : decode cX3_movePistons 36 = .ok (.iload_n 2, 1) := by decide +kernel
theorem dX3_movePistons_37 : decode cX3_movePistons 37 = .ok (.iaload, 1) := by decide +kernel
theorem dX3_movePistons_38 : decode cX3_movePistons 38 = .ok (.iload_n 3, 1) := by decide +kernel
theorem dX3_movePistons_39 : decode cX3_movePistons 39 = .ok (.if_icmp .eq 42, 3) := by decide +kernel
theorem dX3_movePistons_42 : decode cX3_movePistons 42 = .ok (.aload_n 0, 1) := by decide +kernel
theorem dX3_movePistons_43 : decode cX3_movePistons 43 = .ok (.getfield 42, 3) := by decide +kernel
theorem dX3_movePistons_46 : decode cX3_movePistons 46 = .ok (.iconst 0, 1) := by decide +kernel
theorem dX3_movePistons_47 : decode cX3_movePistons 47 = .ok (.iaload, 1) := by decide +kernel
theorem dX3_movePistons_48 : decode cX3_movePistons 48 = .ok (.iload_n 2, 1) := by decide +kernel
theorem dX3_movePistons_49 : decode cX3_movePistons 49 = .ok (.invokestatic 141, 3) := by decide +kernel
theorem dX3_movePistons_52 : decode cX3_movePistons 52 = .ok (.ifCond .ne 29, 3) := by decide +kernel
theorem dX3_movePistons_55 : decode cX3_movePistons 55 = .ok (.aload_n 0, 1) := by decide +kernel
theorem dX3_movePistons_56 : decode cX3_movePistons 56 = .ok (.getfield 36, 3) := by decide +kernel
theorem dX3_movePistons_59 : decode cX3_movePistons 59 = .ok (.iload_n 2, 1) := by decide +kernel
theorem dX3_movePistons_60 : decode cX3_movePistons 60 = .ok (.dup2, 1) := by decide +kernel
theorem dX3_movePistons_61 : decode cX3_movePistons 61 = .ok (.iaload, 1) := by decide +kernel
theorem dX3_movePistons_62 : decode cX3_movePistons 62 = .ok (.aload_n 0, 1) := by decide +kernel
theorem dX3_movePistons_63 : decode cX3_movePistons 63 = .ok (.getfield 36, 3) := by decide +kernel
theorem dX3_movePistons_66 : decode cX3_movePistons 66 = .ok (.iload_n 2, 1) := by decide +kernel
theorem dX3_movePistons_67 : decode cX3_movePistons 67 = .ok (.iaload, 1) := by decide +kernel
theorem dX3_movePistons_68 : decode cX3_movePistons 68 = .ok (.iload_n 3, 1) := by decide +kernel
theorem dX3_movePistons_69 : decode cX3_movePistons 69 = .ok (.if_icmp .ge 7, 3) := by decide +kernel
theorem dX3_movePistons_72 : decode cX3_movePistons 72 = .ok (.iconst 1, 1) := by decide +kernel
theorem dX3_movePistons_73 : decode cX3_movePistons 73 = .ok (.goto 4, 3) := by decide +kernel
theorem dX3_movePistons_76 : decode cX3_movePistons 76 = .ok (.iconst (-1), 1) := by decide +kernel
theorem dX3_movePistons_77 : decode cX3_movePistons 77 = .ok (.iadd, 1) := by decide +kernel
theorem dX3_movePistons_78 : decode cX3_movePistons 78 = .ok (.iastore, 1) := by decide +kernel
theorem dX3_movePistons_79 : decode cX3_movePistons 79 = .ok (.iconst 1, 1) := by decide +kernel
theorem dX3_movePistons_80 : decode cX3_movePistons 80 = .ok (.istore_n 1, 1) := by decide +kernel
theorem dX3_movePistons_81 : decode cX3_movePistons 81 = .ok (.iinc 2 1, 3) := by decide +kernel
theorem dX3_movePistons_84 : decode cX3_movePistons 84 = .ok (.goto (-80), 3) := by decide +kernel
theorem dX3_movePistons_87 : decode cX3_movePistons 87 = .ok (.iload_n 1, 1) := by decide +kernel
