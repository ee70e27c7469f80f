theorem dL_cheapest_12 : decode cL_cheapest 12 = .ok (.iconst 1, 1) := by decide +kernel
theorem dL_cheapest_13 : decode cL_cheapest 13 = .ok (.ireturn, 1) := by decide +kernel
theorem dL_cheapest_14 : decode cL_cheapest 14 = .ok (.iconst 0, 1) := by decide +kernel
theorem dL_cheapest_15 : decode cL_cheapest 15 = .ok (.ireturn, 1) := by decide +kernel
theorem dL_effect_0 : decode cL_effect 0 = .ok (.aload 4, 2) := by decide +kernel
theorem dL_effect_2 : decode cL_effect 2 = .ok (.iconst 0, 1) := by decide +kernel
theorem dL_effect_3 : decode cL_effect 3 = .ok (.aload_n 0, 1) := by decide +kernel
theorem dL_effect_4 : decode cL_effect 4 = .ok (.iload_n 1, 1) := by decide +kernel
theorem dL_effect_5 : decode cL_effect 5 = .ok (.iload_n 2, 1) := by decide +kernel
theorem dL_effect_6 : decode cL_effect 6 = .ok (.iload_n 3, 1) := by decide +kernel
theorem dL_effect_7 : decode cL_effect 7 = .ok (.invokevirtual 93, 3) := by decide +kernel
theorem dL_effect_10 : decode cL_effect 10 = .ok (.i2l, 1) := by decide +kernel
theorem dL_effect_11 : decode cL_effect 11 = .ok (.lastore, 1) := by decide +kernel
theorem dL_effect_12 : decode cL_effect 12 = .ok (.goto 15, 3) := by decide +kernel
theorem dL_effect_15 : decode cL_effect 15 = .ok (.astore 5, 2) := by decide +kernel
theorem dL_effect_17 : decode cL_effect 17 = .ok (.iconst 1, 1) := by decide +kernel
theorem dL_effect_18 : decode cL_effect 18 = .ok (.ireturn, 1) := by decide +kernel
theorem dL_effect_19 : decode cL_effect 19 = .ok (.astore 5, 2) := by decide +kernel
theorem dL_effect_21 : decode cL_effect 21 = .ok (.iconst 2, 1) := by decide +kernel
theorem dL_effect_22 : decode cL_effect 22 = .ok (.ireturn, 1) := by decide +kernel
theorem dL_effect_23 : decode cL_effect 23 = .ok (.astore 5, 2) := by decide +kernel
theorem dL_effect_25 : decode cL_effect 25 = .ok (.iconst 3, 1) := by decide +kernel
theorem dL_effect_26 : decode cL_effect 26 = .ok (.ireturn, 1) := by decide +kernel
theorem dL_effect_27 : decode cL_effect 27 = .ok (.iconst 0, 1) := by decide +kernel
theorem dL_effect_28 : decode cL_effect 28 = .ok (.ireturn, 1) := by decide +kernel
theorem dL_suspect_0 : decode cL_suspect 0 = .ok (.aload_n 2, 1) := by decide +kernel
theorem dL_suspect_1 : decode cL_suspect 1 = .ok (.iconst 0, 1) := by decide +kernel
theorem dL_suspect_2 : decode cL_suspect 2 = .ok (.aload_n 0, 1) := by decide +kernel
theorem dL_suspect_3 : decode cL_suspect 3 = .ok (.iload_n 1, 1) := by decide +kernel
theorem dL_suspect_4 : decode cL_suspect 4 = .ok (.invokevirtual 97, 3) := by decide +kernel
theorem dL_suspect_7 : decode cL_suspect 7 = .ok (.i2l, 1) := by decide +kernel
theorem dL_suspect_8 : decode cL_suspect 8 = .ok (.lastore, 1) := by decide +kernel
theorem dL_suspect_9 : decode cL_suspect 9 = .ok (.goto 9, 3) := by decide +kernel
theorem dL_suspect_12 : decode cL_suspect 12 = .ok (.astore_n 3, 1) := by decide +kernel
theorem dL_suspect_13 : decode cL_suspect 13 = .ok (.iconst 1, 1) := by decide +kernel
theorem dL_suspect_14 : decode cL_suspect 14 = .ok (.ireturn, 1) := by decide +kernel
theorem dL_suspect_15 : decode cL_suspect 15 = .ok (.astore_n 3, 1) := by decide +kernel
theorem dL_suspect_16 : decode cL_suspect 16 = .ok (.iconst 2, 1) := by decide +kernel
theorem dL_suspect_17 : decode cL_suspect 17 = .ok (.ireturn, 1) := by decide +kernel
theorem dL_suspect_18 : decode cL_suspect 18 = .ok (.iconst 0, 1) := by decide +kernel
theorem dL_suspect_19 : decode cL_suspect 19 = .ok (.ireturn, 1) := by decide +kernel
