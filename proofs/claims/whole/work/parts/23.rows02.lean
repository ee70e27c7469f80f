theorem dX7_effect_45 : decode cX7_effect 45 = .ok (.getfield 137, 3) := by decide +kernel
theorem dX7_effect_48 : decode cX7_effect 48 = .ok (.getfield 141, 3) := by decide +kernel
theorem dX7_effect_51 : decode cX7_effect 51 = .ok (.invokevirtual 236, 3) := by decide +kernel
theorem dX7_effect_54 : decode cX7_effect 54 = .ok (.aload_n 0, 1) := by decide +kernel
theorem dX7_effect_55 : decode cX7_effect 55 = .ok (.getfield 28, 3) := by decide +kernel
theorem dX7_effect_58 : decode cX7_effect 58 = .ok (.iload_n 1, 1) := by decide +kernel
theorem dX7_effect_59 : decode cX7_effect 59 = .ok (.iload_n 2, 1) := by decide +kernel
theorem dX7_effect_60 : decode cX7_effect 60 = .ok (.iconst 1, 1) := by decide +kernel
theorem dX7_effect_61 : decode cX7_effect 61 = .ok (.invokevirtual 161, 3) := by decide +kernel
theorem dX7_effect_64 : decode cX7_effect 64 = .ok (.aload_n 0, 1) := by decide +kernel
theorem dX7_effect_65 : decode cX7_effect 65 = .ok (.getfield 28, 3) := by decide +kernel
theorem dX7_effect_68 : decode cX7_effect 68 = .ok (.iload_n 3, 1) := by decide +kernel
theorem dX7_effect_69 : decode cX7_effect 69 = .ok (.invokevirtual 177, 3) := by decide +kernel
theorem dX7_effect_72 : decode cX7_effect 72 = .ok (.aload_n 0, 1) := by decide +kernel
theorem dX7_effect_73 : decode cX7_effect 73 = .ok (.getfield 28, 3) := by decide +kernel
theorem dX7_effect_76 : decode cX7_effect 76 = .ok (.getfield 216, 3) := by decide +kernel
theorem dX7_effect_79 : decode cX7_effect 79 = .ok (.getfield 220, 3) := by decide +kernel
theorem dX7_effect_82 : decode cX7_effect 82 = .ok (.ireturn, 1) := by decide +kernel
theorem dX7_suspect_0 : decode cX7_suspect 0 = .ok (.iload_n 1, 1) := by decide +kernel
theorem dX7_suspect_1 : decode cX7_suspect 1 = .ok (.ifCond .ge 13, 3) := by decide +kernel
theorem dX7_suspect_4 : decode cX7_suspect 4 = .ok (.new 120, 3) := by decide +kernel
theorem dX7_suspect_7 : decode cX7_suspect 7 = .ok (.dup, 1) := by decide +kernel
theorem dX7_suspect_8 : decode cX7_suspect 8 = .ok (.ldc 240, 2) := by decide +kernel
theorem dX7_suspect_10 : decode cX7_suspect 10 = .ok (.invokespecial 124, 3) := by decide +kernel
theorem dX7_suspect_13 : decode cX7_suspect 13 = .ok (.athrow, 1) := by decide +kernel
theorem dX7_suspect_14 : decode cX7_suspect 14 = .ok (.aload_n 0, 1) := by decide +kernel
theorem dX7_suspect_15 : decode cX7_suspect 15 = .ok (.invokevirtual 110, 3) := by decide +kernel
theorem dX7_suspect_18 : decode cX7_suspect 18 = .ok (.iconst 0, 1) := by decide +kernel
theorem dX7_suspect_19 : decode cX7_suspect 19 = .ok (.istore_n 2, 1) := by decide +kernel
theorem dX7_suspect_20 : decode cX7_suspect 20 = .ok (.iconst 0, 1) := by decide +kernel
theorem dX7_suspect_21 : decode cX7_suspect 21 = .ok (.istore_n 3, 1) := by decide +kernel
theorem dX7_suspect_22 : decode cX7_suspect 22 = .ok (.iload_n 3, 1) := by decide +kernel
theorem dX7_suspect_23 : decode cX7_suspect 23 = .ok (.bipush 6, 2) := by decide +kernel
theorem dX7_suspect_25 : decode cX7_suspect 25 = .ok (.if_icmp .ge 50, 3) := by decide +kernel
theorem dX7_suspect_28 : decode cX7_suspect 28 = .ok (.iconst 0, 1) := by decide +kernel
theorem dX7_suspect_29 : decode cX7_suspect 29 = .ok (.istore 4, 2) := by decide +kernel
theorem dX7_suspect_31 : decode cX7_suspect 31 = .ok (.iload 4, 2) := by decide +kernel
theorem dX7_suspect_33 : decode cX7_suspect 33 = .ok (.iconst 5, 1) := by decide +kernel
theorem dX7_suspect_34 : decode cX7_suspect 34 = .ok (.if_icmp .ge 35, 3) := by decide +kernel
theorem dX7_suspect_37 : decode cX7_suspect 37 = .ok (.aload_n 0, 1) := by decide +kernel
theorem dX7_suspect_38 : decode cX7_suspect 38 = .ok (.iload_n 3, 1) := by decide +kernel
theorem dX7_suspect_39 : decode cX7_suspect 39 = .ok (.iload 4, 2) := by decide +kernel
theorem dX7_suspect_41 : decode cX7_suspect 41 = .ok (.invokevirtual 242, 3) := by decide +kernel
theorem dX7_suspect_44 : decode cX7_suspect 44 = .ok (.ifCond .eq 19, 3) := by decide +kernel
theorem dX7_suspect_47 : decode cX7_suspect 47 = .ok (.iload_n 2, 1) := by decide +kernel
theorem dX7_suspect_48 : decode cX7_suspect 48 = .ok (.iload_n 1, 1) := by decide +kernel
theorem dX7_suspect_49 : decode cX7_suspect 49 = .ok (.if_icmp .ne 11, 3) := by decide +kernel
theorem dX7_suspect_52 : decode cX7_suspect 52 = .ok (.bipush 10, 2) := by decide +kernel
theorem dX7_suspect_54 : decode cX7_suspect 54 = .ok (.iload_n 3, 1) := by decide +kernel
theorem dX7_suspect_55 : decode cX7_suspect 55 = .ok (.imul, 1) := by decide +kernel
theorem dX7_suspect_56 : decode cX7_suspect 56 = .ok (.iload 4, 2) := by decide +kernel
theorem dX7_suspect_58 : decode cX7_suspect 58 = .ok (.iadd, 1) := by decide +kernel
theorem dX7_suspect_59 : decode cX7_suspect 59 = .ok (.ireturn, 1) := by decide +kernel
theorem dX7_suspect_60 : decode cX7_suspect 60 = .ok (.iinc 2 1, 3) := by decide +kernel
theorem dX7_suspect_63 : decode cX7_suspect 63 = .ok (.iinc 4 1, 3) := by decide +kernel
theorem dX7_suspect_66 : decode cX7_suspect 66 = .ok (.goto (-35), 3) := by decide +kernel
theorem dX7_suspect_69 : decode cX7_suspect 69 = .ok (.iinc 3 1, 3) := by decide +kernel
theorem dX7_suspect_72 : decode cX7_suspect 72 = .ok (.goto (-50), 3) := by decide +kernel
theorem dX7_suspect_75 : decode cX7_suspect 75 = .ok (.iconst (-1), 1) := by decide +kernel
theorem dX7_suspect_76 : decode cX7_suspect 76 = .ok (.ireturn, 1) := by decide +kernel
theorem dX7_fingerprint_0 : decode cX7_fingerprint 0 = .ok (.ldc2_w 245, 3) := by decide +kernel
theorem dX7_fingerprint_3 : decode cX7_fingerprint 3 = .ok (.lstore_n 1, 1) := by decide +kernel
theorem dX7_fingerprint_4 : decode cX7_fingerprint 4 = .ok (.ldc2_w 247, 3) := by decide +kernel
theorem dX7_fingerprint_7 : decode cX7_fingerprint 7 = .ok (.lload_n 1, 1) := by decide +kernel
theorem dX7_fingerprint_8 : decode cX7_fingerprint 8 = .ok (.lmul, 1) := by decide +kernel
theorem dX7_fingerprint_9 : decode cX7_fingerprint 9 = .ok (.aload_n 0, 1) := by decide +kernel
theorem dX7_fingerprint_10 : decode cX7_fingerprint 10 = .ok (.getfield 24, 3) := by decide +kernel
theorem dX7_fingerprint_13 : decode cX7_fingerprint 13 = .ok (.getfield 165, 3) := by decide +kernel
theorem dX7_fingerprint_16 : decode cX7_fingerprint 16 = .ok (.i2l, 1) := by decide +kernel
theorem dX7_fingerprint_17 : decode cX7_fingerprint 17 = .ok (.ladd, 1) := by decide +kernel
theorem dX7_fingerprint_18 : decode cX7_fingerprint 18 = .ok (.lstore_n 1, 1) := by decide +kernel
theorem dX7_fingerprint_19 : decode cX7_fingerprint 19 = .ok (.ldc2_w 247, 3) := by decide +kernel
theorem dX7_fingerprint_22 : decode cX7_fingerprint 22 = .ok (.lload_n 1, 1) := by decide +kernel
theorem dX7_fingerprint_23 : decode cX7_fingerprint 23 = .ok (.lmul, 1) := by decide +kernel
theorem dX7_fingerprint_24 : decode cX7_fingerprint 24 = .ok (.aload_n 0, 1) := by decide +kernel
theorem dX7_fingerprint_25 : decode cX7_fingerprint 25 = .ok (.getfield 24, 3) := by decide +kernel
theorem dX7_fingerprint_28 : decode cX7_fingerprint 28 = .ok (.getfield 137, 3) := by decide +kernel
theorem dX7_fingerprint_31 : decode cX7_fingerprint 31 = .ok (.getfield 198, 3) := by decide +kernel
theorem dX7_fingerprint_34 : decode cX7_fingerprint 34 = .ok (.i2l, 1) := by decide +kernel
theorem dX7_fingerprint_35 : decode cX7_fingerprint 35 = .ok (.ladd, 1) := by decide +kernel
theorem dX7_fingerprint_36 : decode cX7_fingerprint 36 = .ok (.lstore_n 1, 1) := by decide +kernel
theorem dX7_fingerprint_37 : decode cX7_fingerprint 37 = .ok (.ldc2_w 247, 3) := by decide +kernel
theorem dX7_fingerprint_40 : decode cX7_fingerprint 40 = .ok (.lload_n 1, 1) := by decide +kernel
theorem dX7_fingerprint_41 : decode cX7_fingerprint 41 = .ok (.lmul, 1) := by decide +kernel
theorem dX7_fingerprint_42 : decode cX7_fingerprint 42 = .ok (.aload_n 0, 1) := by decide +kernel
theorem dX7_fingerprint_43 : decode cX7_fingerprint 43 = .ok (.getfield 24, 3) := by decide +kernel
theorem dX7_fingerprint_46 : decode cX7_fingerprint 46 = .ok (.getfield 170, 3) := by decide +kernel
theorem dX7_fingerprint_49 : decode cX7_fingerprint 49 = .ok (.getfield 174, 3) := by decide +kernel
theorem dX7_fingerprint_52 : decode cX7_fingerprint 52 = .ok (.i2l, 1) := by decide +kernel
theorem dX7_fingerprint_53 : decode cX7_fingerprint 53 = .ok (.ladd, 1) := by decide +kernel
theorem dX7_fingerprint_54 : decode cX7_fingerprint 54 = .ok (.lstore_n 1, 1) := by decide +kernel
theorem dX7_fingerprint_55 : decode cX7_fingerprint 55 = .ok (.ldc2_w 247, 3) := by decide +kernel
theorem dX7_fingerprint_58 : decode cX7_fingerprint 58 = .ok (.lload_n 1, 1) := by decide +kernel
theorem dX7_fingerprint_59 : decode cX7_fingerprint 59 = .ok (.lmul, 1) := by decide +kernel
theorem dX7_fingerprint_60 : decode cX7_fingerprint 60 = .ok (.aload_n 0, 1) := by decide +kernel
theorem dX7_fingerprint_61 : decode cX7_fingerprint 61 = .ok (.getfield 24, 3) := by decide +kernel
theorem dX7_fingerprint_64 : decode cX7_fingerprint 64 = .ok (.getfield 216, 3) := by decide +kernel
theorem dX7_fingerprint_67 : decode cX7_fingerprint 67 = .ok (.getfield 220, 3) := by decide +kernel
theorem dX7_fingerprint_70 : decode cX7_fingerprint 70 = .ok (.i2l, 1) := by decide +kernel
theorem dX7_fingerprint_71 : decode cX7_fingerprint 71 = .ok (.ladd, 1) := by decide +kernel
theorem dX7_fingerprint_72 : decode cX7_fingerprint 72 = .ok (.lstore_n 1, 1) := by decide +kernel
theorem dX7_fingerprint_73 : decode cX7_fingerprint 73 = .ok (.ldc2_w 247, 3) := by decide +kernel
theorem dX7_fingerprint_76 : decode cX7_fingerprint 76 = .ok (.lload_n 1, 1) := by decide +kernel
theorem dX7_fingerprint_77 : decode cX7_fingerprint 77 = .ok (.lmul, 1) := by decide +kernel
theorem dX7_fingerprint_78 : decode cX7_fingerprint 78 = .ok (.aload_n 0, 1) := by decide +kernel
theorem dX7_fingerprint_79 : decode cX7_fingerprint 79 = .ok (.getfield 24, 3) := by decide +kernel
theorem dX7_fingerprint_82 : decode cX7_fingerprint 82 = .ok (.getfield 216, 3) := by decide +kernel
theorem dX7_fingerprint_85 : decode cX7_fingerprint 85 = .ok (.getfield 225, 3) := by decide +kernel
theorem dX7_fingerprint_88 : decode cX7_fingerprint 88 = .ok (.i2l, 1) := by decide +kernel
theorem dX7_fingerprint_89 : decode cX7_fingerprint 89 = .ok (.ladd, 1) := by decide +kernel
theorem dX7_fingerprint_90 : decode cX7_fingerprint 90 = .ok (.lstore_n 1, 1) := by decide +kernel
theorem dX7_fingerprint_91 : decode cX7_fingerprint 91 = .ok (.ldc2_w 247, 3) := by decide +kernel
theorem dX7_fingerprint_94 : decode cX7_fingerprint 94 = .ok (.lload_n 1, 1) := by decide +kernel
theorem dX7_fingerprint_95 : decode cX7_fingerprint 95 = .ok (.lmul, 1) := by decide +kernel
theorem dX7_fingerprint_96 : decode cX7_fingerprint 96 = .ok (.aload_n 0, 1) := by decide +kernel
theorem dX7_fingerprint_97 : decode cX7_fingerprint 97 = .ok (.invokevirtual 249, 3) := by decide +kernel
theorem dX7_fingerprint_100 : decode cX7_fingerprint 100 = .ok (.i2l, 1) := by decide +kernel
theorem dX7_fingerprint_101 : decode cX7_fingerprint 101 = .ok (.ladd, 1) := by decide +kernel
theorem dX7_fingerprint_102 : decode cX7_fingerprint 102 = .ok (.lstore_n 1, 1) := by decide +kernel
theorem dX7_fingerprint_103 : decode cX7_fingerprint 103 = .ok (.iconst 0, 1) := by decide +kernel
theorem dX7_fingerprint_104 : decode cX7_fingerprint 104 = .ok (.istore_n 3, 1) := by decide +kernel
theorem dX7_fingerprint_105 : decode cX7_fingerprint 105 = .ok (.iload_n 3, 1) := by decide +kernel
theorem dX7_fingerprint_106 : decode cX7_fingerprint 106 = .ok (.bipush 6, 2) := by decide +kernel
theorem dX7_fingerprint_108 : decode cX7_fingerprint 108 = .ok (.if_icmp .ge 72, 3) := by decide +kernel
theorem dX7_fingerprint_111 : decode cX7_fingerprint 111 = .ok (.ldc2_w 247, 3) := by decide +kernel
theorem dX7_fingerprint_114 : decode cX7_fingerprint 114 = .ok (.lload_n 1, 1) := by decide +kernel
theorem dX7_fingerprint_115 : decode cX7_fingerprint 115 = .ok (.lmul, 1) := by decide +kernel
theorem dX7_fingerprint_116 : decode cX7_fingerprint 116 = .ok (.aload_n 0, 1) := by decide +kernel
theorem dX7_fingerprint_117 : decode cX7_fingerprint 117 = .ok (.getfield 24, 3) := by decide +kernel
theorem dX7_fingerprint_120 : decode cX7_fingerprint 120 = .ok (.getfield 180, 3) := by decide +kernel
theorem dX7_fingerprint_123 : decode cX7_fingerprint 123 = .ok (.iload_n 3, 1) := by decide +kernel
theorem dX7_fingerprint_124 : decode cX7_fingerprint 124 = .ok (.iaload, 1) := by decide +kernel
theorem dX7_fingerprint_125 : decode cX7_fingerprint 125 = .ok (.i2l, 1) := by decide +kernel
theorem dX7_fingerprint_126 : decode cX7_fingerprint 126 = .ok (.ladd, 1) := by decide +kernel
theorem dX7_fingerprint_127 : decode cX7_fingerprint 127 = .ok (.lstore_n 1, 1) := by decide +kernel
theorem dX7_fingerprint_128 : decode cX7_fingerprint 128 = .ok (.ldc2_w 247, 3) := by decide +kernel
theorem dX7_fingerprint_131 : decode cX7_fingerprint 131 = .ok (.lload_n 1, 1) := by decide +kernel
theorem dX7_fingerprint_132 : decode cX7_fingerprint 132 = .ok (.lmul, 1) := by decide +kernel
theorem dX7_fingerprint_133 : decode cX7_fingerprint 133 = .ok (.aload_n 0, 1) := by decide +kernel
theorem dX7_fingerprint_134 : decode cX7_fingerprint 134 = .ok (.getfield 24, 3) := by decide +kernel
theorem dX7_fingerprint_137 : decode cX7_fingerprint 137 = .ok (.getfield 183, 3) := by decide +kernel
theorem dX7_fingerprint_140 : decode cX7_fingerprint 140 = .ok (.iload_n 3, 1) := by decide +kernel
theorem dX7_fingerprint_141 : decode cX7_fingerprint 141 = .ok (.invokestatic 100, 3) := by decide +kernel
theorem dX7_fingerprint_144 : decode cX7_fingerprint 144 = .ok (.ifCond .eq 7, 3) := by decide +kernel
theorem dX7_fingerprint_147 : decode cX7_fingerprint 147 = .ok (.iconst 1, 1) := by decide +kernel
theorem dX7_fingerprint_148 : decode cX7_fingerprint 148 = .ok (.goto 4, 3) := by decide +kernel
theorem dX7_fingerprint_151 : decode cX7_fingerprint 151 = .ok (.iconst 0, 1) := by decide +kernel
theorem dX7_fingerprint_152 : decode cX7_fingerprint 152 = .ok (.i2l, 1) := by decide +kernel
theorem dX7_fingerprint_153 : decode cX7_fingerprint 153 = .ok (.ladd, 1) := by decide +kernel
theorem dX7_fingerprint_154 : decode cX7_fingerprint 154 = .ok (.lstore_n 1, 1) := by decide +kernel
theorem dX7_fingerprint_155 : decode cX7_fingerprint 155 = .ok (.ldc2_w 247, 3) := by decide +kernel
theorem dX7_fingerprint_158 : decode cX7_fingerprint 158 = .ok (.lload_n 1, 1) := by decide +kernel
theorem dX7_fingerprint_159 : decode cX7_fingerprint 159 = .ok (.lmul, 1) := by decide +kernel
theorem dX7_fingerprint_160 : decode cX7_fingerprint 160 = .ok (.aload_n 0, 1) := by decide +kernel
theorem dX7_fingerprint_161 : decode cX7_fingerprint 161 = .ok (.getfield 24, 3) := by decide +kernel
theorem dX7_fingerprint_164 : decode cX7_fingerprint 164 = .ok (.getfield 137, 3) := by decide +kernel
theorem dX7_fingerprint_167 : decode cX7_fingerprint 167 = .ok (.iload_n 3, 1) := by decide +kernel
theorem dX7_fingerprint_168 : decode cX7_fingerprint 168 = .ok (.invokevirtual 201, 3) := by decide +kernel
theorem dX7_fingerprint_171 : decode cX7_fingerprint 171 = .ok (.i2l, 1) := by decide +kernel
theorem dX7_fingerprint_172 : decode cX7_fingerprint 172 = .ok (.ladd, 1) := by decide +kernel
theorem dX7_fingerprint_173 : decode cX7_fingerprint 173 = .ok (.lstore_n 1, 1) := by decide +kernel
theorem dX7_fingerprint_174 : decode cX7_fingerprint 174 = .ok (.iinc 3 1, 3) := by decide +kernel
theorem dX7_fingerprint_177 : decode cX7_fingerprint 177 = .ok (.goto (-72), 3) := by decide +kernel
theorem dX7_fingerprint_180 : decode cX7_fingerprint 180 = .ok (.iconst 0, 1) := by decide +kernel
theorem dX7_fingerprint_181 : decode cX7_fingerprint 181 = .ok (.istore_n 3, 1) := by decide +kernel
theorem dX7_fingerprint_182 : decode cX7_fingerprint 182 = .ok (.iload_n 3, 1) := by decide +kernel
theorem dX7_fingerprint_183 : decode cX7_fingerprint 183 = .ok (.aload_n 0, 1) := by decide +kernel
theorem dX7_fingerprint_184 : decode cX7_fingerprint 184 = .ok (.getfield 24, 3) := by decide +kernel
theorem dX7_fingerprint_187 : decode cX7_fingerprint 187 = .ok (.getfield 77, 3) := by decide +kernel
theorem dX7_fingerprint_190 : decode cX7_fingerprint 190 = .ok (.getfield 83, 3) := by decide +kernel
theorem dX7_fingerprint_193 : decode cX7_fingerprint 193 = .ok (.if_icmp .ge 26, 3) := by decide +kernel
theorem dX7_fingerprint_196 : decode cX7_fingerprint 196 = .ok (.ldc2_w 247, 3) := by decide +kernel
theorem dX7_fingerprint_199 : decode cX7_fingerprint 199 = .ok (.lload_n 1, 1) := by decide +kernel
theorem dX7_fingerprint_200 : decode cX7_fingerprint 200 = .ok (.lmul, 1) := by decide +kernel
theorem dX7_fingerprint_201 : decode cX7_fingerprint 201 = .ok (.aload_n 0, 1) := by decide +kernel
theorem dX7_fingerprint_202 : decode cX7_fingerprint 202 = .ok (.getfield 24, 3) := by decide +kernel
theorem dX7_fingerprint_205 : decode cX7_fingerprint 205 = .ok (.getfield 195, 3) := by decide +kernel
theorem dX7_fingerprint_208 : decode cX7_fingerprint 208 = .ok (.iload_n 3, 1) := by decide +kernel
theorem dX7_fingerprint_209 : decode cX7_fingerprint 209 = .ok (.iaload, 1) := by decide +kernel
theorem dX7_fingerprint_210 : decode cX7_fingerprint 210 = .ok (.i2l, 1) := by decide +kernel
theorem dX7_fingerprint_211 : decode cX7_fingerprint 211 = .ok (.ladd, 1) := by decide +kernel
theorem dX7_fingerprint_212 : decode cX7_fingerprint 212 = .ok (.lstore_n 1, 1) := by decide +kernel
theorem dX7_fingerprint_213 : decode cX7_fingerprint 213 = .ok (.iinc 3 1, 3) := by decide +kernel
theorem dX7_fingerprint_216 : decode cX7_fingerprint 216 = .ok (.goto (-34), 3) := by decide +kernel
theorem dX7_fingerprint_219 : decode cX7_fingerprint 219 = .ok (.lload_n 1, 1) := by decide +kernel
theorem dX7_fingerprint_220 : decode cX7_fingerprint 220 = .ok (.lreturn, 1) := by decide +kernel
theorem dX7_holds_0 : decode cX7_holds 0 = .ok (.iload_n 0, 1) := by decide +kernel
theorem dX7_holds_1 : decode cX7_holds 1 = .ok (.iload_n 1, 1) := by decide +kernel
theorem dX7_holds_2 : decode cX7_holds 2 = .ok (.ishr, 1) := by decide +kernel
theorem dX7_holds_3 : decode cX7_holds 3 = .ok (.iconst 1, 1) := by decide +kernel
theorem dX7_holds_4 : decode cX7_holds 4 = .ok (.iand, 1) := by decide +kernel
theorem dX7_holds_5 : decode cX7_holds 5 = .ok (.iconst 1, 1) := by decide +kernel
theorem dX7_holds_6 : decode cX7_holds 6 = .ok (.if_icmp .ne 7, 3) := by decide +kernel
theorem dX7_holds_9 : decode cX7_holds 9 = .ok (.iconst 1, 1) := by decide +kernel
theorem dX7_holds_10 : decode cX7_holds 10 = .ok (.goto 4, 3) := by decide +kernel
theorem dX7_holds_13 : decode cX7_holds 13 = .ok (.iconst 0, 1) := by decide +kernel
theorem dX7_holds_14 : decode cX7_holds 14 = .ok (.ireturn, 1) := by decide +kernel
theorem dX7_checkCylinder_0 : decode cX7_checkCylinder 0 = .ok (.iload_n 0, 1) := by decide +kernel
theorem dX7_checkCylinder_1 : decode cX7_checkCylinder 1 = .ok (.ifCond .lt 9, 3) := by decide +kernel
theorem dX7_checkCylinder_4 : decode cX7_checkCylinder 4 = .ok (.iload_n 0, 1) := by decide +kernel
theorem dX7_checkCylinder_5 : decode cX7_checkCylinder 5 = .ok (.bipush 6, 2) := by decide +kernel
theorem dX7_checkCylinder_7 : decode cX7_checkCylinder 7 = .ok (.if_icmp .lt 13, 3) := by decide +kernel
theorem dX7_checkCylinder_10 : decode cX7_checkCylinder 10 = .ok (.new 120, 3) := by decide +kernel
theorem dX7_checkCylinder_13 : decode cX7_checkCylinder 13 = .ok (.dup, 1) := by decide +kernel
theorem dX7_checkCylinder_14 : decode cX7_checkCylinder 14 = .ok (.ldc 252, 2) := by decide +kernel
theorem dX7_checkCylinder_16 : decode cX7_checkCylinder 16 = .ok (.invokespecial 124, 3) := by decide +kernel
theorem dX7_checkCylinder_19 : decode cX7_checkCylinder 19 = .ok (.athrow, 1) := by decide +kernel
theorem dX7_checkCylinder_20 : decode cX7_checkCylinder 20 = .ok (.return_, 1) := by decide +kernel
theorem dX7_checkFaultKind_0 : decode cX7_checkFaultKind 0 = .ok (.iload_n 0, 1) := by decide +kernel
theorem dX7_checkFaultKind_1 : decode cX7_checkFaultKind 1 = .ok (.ifCond .lt 8, 3) := by decide +kernel
theorem dX7_checkFaultKind_4 : decode cX7_checkFaultKind 4 = .ok (.iload_n 0, 1) := by decide +kernel
theorem dX7_checkFaultKind_5 : decode cX7_checkFaultKind 5 = .ok (.iconst 5, 1) := by decide +kernel
theorem dX7_checkFaultKind_6 : decode cX7_checkFaultKind 6 = .ok (.if_icmp .lt 13, 3) := by decide +kernel
theorem dX7_checkFaultKind_9 : decode cX7_checkFaultKind 9 = .ok (.new 46, 3) := by decide +kernel
theorem dX7_checkFaultKind_12 : decode cX7_checkFaultKind 12 = .ok (.dup, 1) := by decide +kernel
theorem dX7_checkFaultKind_13 : decode cX7_checkFaultKind 13 = .ok (.ldc 254, 2) := by decide +kernel
theorem dX7_checkFaultKind_15 : decode cX7_checkFaultKind 15 = .ok (.invokespecial 50, 3) := by decide +kernel
theorem dX7_checkFaultKind_18 : decode cX7_checkFaultKind 18 = .ok (.athrow, 1) := by decide +kernel
theorem dX7_checkFaultKind_19 : decode cX7_checkFaultKind 19 = .ok (.return_, 1) := by decide +kernel
theorem dX7_checkMethod_0 : decode cX7_checkMethod 0 = .ok (.iload_n 0, 1) := by decide +kernel
theorem dX7_checkMethod_1 : decode cX7_checkMethod 1 = .ok (.ifCond .lt 8, 3) := by decide +kernel
theorem dX7_checkMethod_4 : decode cX7_checkMethod 4 = .ok (.iload_n 0, 1) := by decide +kernel
theorem dX7_checkMethod_5 : decode cX7_checkMethod 5 = .ok (.iconst 3, 1) := by decide +kernel
theorem dX7_checkMethod_6 : decode cX7_checkMethod 6 = .ok (.if_icmp .lt 14, 3) := by decide +kernel
theorem dX7_checkMethod_9 : decode cX7_checkMethod 9 = .ok (.new 46, 3) := by decide +kernel
theorem dX7_checkMethod_12 : decode cX7_checkMethod 12 = .ok (.dup, 1) := by decide +kernel
theorem dX7_checkMethod_13 : decode cX7_checkMethod 13 = .ok (.ldc_w 256, 3) := by decide +kernel
theorem dX7_checkMethod_16 : decode cX7_checkMethod 16 = .ok (.invokespecial 50, 3) := by decide +kernel
theorem dX7_checkMethod_19 : decode cX7_checkMethod 19 = .ok (.athrow, 1) := by decide +kernel
theorem dX7_checkMethod_20 : decode cX7_checkMethod 20 = .ok (.return_, 1) := by decide +kernel
theorem dX7_checkEvent_0 : decode cX7_checkEvent 0 = .ok (.iload_n 0, 1) := by decide +kernel
theorem dX7_checkEvent_1 : decode cX7_checkEvent 1 = .ok (.ifCond .ge 14, 3) := by decide +kernel
theorem dX7_checkEvent_4 : decode cX7_checkEvent 4 = .ok (.new 120, 3) := by decide +kernel
theorem dX7_checkEvent_7 : decode cX7_checkEvent 7 = .ok (.dup, 1) := by decide +kernel
theorem dX7_checkEvent_8 : decode cX7_checkEvent 8 = .ok (.ldc_w 258, 3) := by decide +kernel
theorem dX7_checkEvent_11 : decode cX7_checkEvent 11 = .ok (.invokespecial 124, 3) := by decide +kernel
theorem dX7_checkEvent_14 : decode cX7_checkEvent 14 = .ok (.athrow, 1) := by decide +kernel
theorem dX7_checkEvent_15 : decode cX7_checkEvent 15 = .ok (.return_, 1) := by decide +kernel
theorem dX7_checkStep_0 : decode cX7_checkStep 0 = .ok (.iload_n 1, 1) := by decide +kernel
theorem dX7_checkStep_1 : decode cX7_checkStep 1 = .ok (.ifCond .lt 17, 3) := by decide +kernel
theorem dX7_checkStep_4 : decode cX7_checkStep 4 = .ok (.iload_n 1, 1) := by decide +kernel
theorem dX7_checkStep_5 : decode cX7_checkStep 5 = .ok (.aload_n 0, 1) := by decide +kernel
theorem dX7_checkStep_6 : decode cX7_checkStep 6 = .ok (.getfield 24, 3) := by decide +kernel
theorem dX7_checkStep_9 : decode cX7_checkStep 9 = .ok (.getfield 77, 3) := by decide +kernel
theorem dX7_checkStep_12 : decode cX7_checkStep 12 = .ok (.getfield 83, 3) := by decide +kernel
theorem dX7_checkStep_15 : decode cX7_checkStep 15 = .ok (.if_icmp .lt 14, 3) := by decide +kernel
theorem dX7_checkStep_18 : decode cX7_checkStep 18 = .ok (.new 120, 3) := by decide +kernel
theorem dX7_checkStep_21 : decode cX7_checkStep 21 = .ok (.dup, 1) := by decide +kernel
theorem dX7_checkStep_22 : decode cX7_checkStep 22 = .ok (.ldc_w 260, 3) := by decide +kernel
theorem dX7_checkStep_25 : decode cX7_checkStep 25 = .ok (.invokespecial 124, 3) := by decide +kernel
theorem dX7_checkStep_28 : decode cX7_checkStep 28 = .ok (.athrow, 1) := by decide +kernel
theorem dX7_checkStep_29 : decode cX7_checkStep 29 = .ok (.return_, 1) := by decide +kernel
theorem dX7_checkSequence_0 : decode cX7_checkSequence 0 = .ok (.aload_n 0, 1) := by decide +kernel
theorem dX7_checkSequence_1 : decode cX7_checkSequence 1 = .ok (.getfield 24, 3) := by decide +kernel
theorem dX7_checkSequence_4 : decode cX7_checkSequence 4 = .ok (.getfield 77, 3) := by decide +kernel
theorem dX7_checkSequence_7 : decode cX7_checkSequence 7 = .ok (.getfield 83, 3) := by decide +kernel
theorem dX7_checkSequence_10 : decode cX7_checkSequence 10 = .ok (.ifCond .ne 14, 3) := by decide +kernel
theorem dX7_checkSequence_13 : decode cX7_checkSequence 13 = .ok (.new 56, 3) := by decide +kernel
theorem dX7_checkSequence_16 : decode cX7_checkSequence 16 = .ok (.dup, 1) := by decide +kernel
theorem dX7_checkSequence_17 : decode cX7_checkSequence 17 = .ok (.ldc_w 262, 3) := by decide +kernel
theorem dX7_checkSequence_20 : decode cX7_checkSequence 20 = .ok (.invokespecial 60, 3) := by decide +kernel
theorem dX7_checkSequence_23 : decode cX7_checkSequence 23 = .ok (.athrow, 1) := by decide +kernel
theorem dX7_checkSequence_24 : decode cX7_checkSequence 24 = .ok (.return_, 1) := by decide +kernel
theorem dX7_countValves_0 : decode cX7_countValves 0 = .ok (.aload_n 0, 1) := by decide +kernel
theorem dX7_countValves_1 : decode cX7_countValves 1 = .ok (.getfield 24, 3) := by decide +kernel
theorem dX7_countValves_4 : decode cX7_countValves 4 = .ok (.getfield 77, 3) := by decide +kernel
theorem dX7_countValves_7 : decode cX7_countValves 7 = .ok (.invokevirtual 264, 3) := by decide +kernel
theorem dX7_countValves_10 : decode cX7_countValves 10 = .ok (.invokestatic 267, 3) := by decide +kernel
theorem dX7_countValves_13 : decode cX7_countValves 13 = .ok (.istore_n 2, 1) := by decide +kernel
theorem dX7_countValves_14 : decode cX7_countValves 14 = .ok (.iload_n 1, 1) := by decide +kernel
theorem dX7_countValves_15 : decode cX7_countValves 15 = .ok (.ifCond .ne 5, 3) := by decide +kernel
theorem dX7_countValves_18 : decode cX7_countValves 18 = .ok (.iload_n 2, 1) := by decide +kernel
theorem dX7_countValves_19 : decode cX7_countValves 19 = .ok (.ireturn, 1) := by decide +kernel
theorem dX7_countValves_20 : decode cX7_countValves 20 = .ok (.iload_n 2, 1) := by decide +kernel
theorem dX7_countValves_21 : decode cX7_countValves 21 = .ok (.iload_n 1, 1) := by decide +kernel
theorem dX7_countValves_22 : decode cX7_countValves 22 = .ok (.iconst 1, 1) := by decide +kernel
theorem dX7_countValves_23 : decode cX7_countValves 23 = .ok (.if_icmp .ne 18, 3) := by decide +kernel
theorem dX7_countValves_26 : decode cX7_countValves 26 = .ok (.aload_n 0, 1) := by decide +kernel
theorem dX7_countValves_27 : decode cX7_countValves 27 = .ok (.getfield 24, 3) := by decide +kernel
theorem dX7_countValves_30 : decode cX7_countValves 30 = .ok (.getfield 77, 3) := by decide +kernel
theorem dX7_countValves_33 : decode cX7_countValves 33 = .ok (.getfield 117, 3) := by decide +kernel
theorem dX7_countValves_36 : decode cX7_countValves 36 = .ok (.iconst 1, 1) := by decide +kernel
theorem dX7_countValves_37 : decode cX7_countValves 37 = .ok (.isub, 1) := by decide +kernel
theorem dX7_countValves_38 : decode cX7_countValves 38 = .ok (.goto 13, 3) := by decide +kernel
theorem dX7_countValves_41 : decode cX7_countValves 41 = .ok (.aload_n 0, 1) := by decide +kernel
theorem dX7_countValves_42 : decode cX7_countValves 42 = .ok (.getfield 24, 3) := by decide +kernel
theorem dX7_countValves_45 : decode cX7_countValves 45 = .ok (.getfield 77, 3) := by decide +kernel
theorem dX7_countValves_48 : decode cX7_countValves 48 = .ok (.getfield 83, 3) := by decide +kernel
theorem dX7_countValves_51 : decode cX7_countValves 51 = .ok (.iadd, 1) := by decide +kernel
theorem dX7_countValves_52 : decode cX7_countValves 52 = .ok (.ireturn, 1) := by decide +kernel
theorem dX7_measureCycle_0 : decode cX7_measureCycle 0 = .ok (.aload_n 0, 1) := by decide +kernel
theorem dX7_measureCycle_1 : decode cX7_measureCycle 1 = .ok (.getfield 28, 3) := by decide +kernel
theorem dX7_measureCycle_4 : decode cX7_measureCycle 4 = .ok (.aload_n 0, 1) := by decide +kernel
theorem dX7_measureCycle_5 : decode cX7_measureCycle 5 = .ok (.getfield 24, 3) := by decide +kernel
theorem dX7_measureCycle_8 : decode cX7_measureCycle 8 = .ok (.iload_n 1, 1) := by decide +kernel
theorem dX7_measureCycle_9 : decode cX7_measureCycle 9 = .ok (.invokevirtual 236, 3) := by decide +kernel
theorem dX7_measureCycle_12 : decode cX7_measureCycle 12 = .ok (.iconst (-1), 1) := by decide +kernel
theorem dX7_measureCycle_13 : decode cX7_measureCycle 13 = .ok (.istore_n 2, 1) := by decide +kernel
theorem dX7_measureCycle_14 : decode cX7_measureCycle 14 = .ok (.iconst 0, 1) := by decide +kernel
theorem dX7_measureCycle_15 : decode cX7_measureCycle 15 = .ok (.istore_n 3, 1) := by decide +kernel
theorem dX7_measureCycle_16 : decode cX7_measureCycle 16 = .ok (.iload_n 3, 1) := by decide +kernel
theorem dX7_measureCycle_17 : decode cX7_measureCycle 17 = .ok (.sipush 4000, 3) := by decide +kernel
theorem dX7_measureCycle_20 : decode cX7_measureCycle 20 = .ok (.if_icmp .ge 91, 3) := by decide +kernel
theorem dX7_measureCycle_23 : decode cX7_measureCycle 23 = .ok (.aload_n 0, 1) := by decide +kernel
theorem dX7_measureCycle_24 : decode cX7_measureCycle 24 = .ok (.getfield 28, 3) := by decide +kernel
theorem dX7_measureCycle_27 : decode cX7_measureCycle 27 = .ok (.invokevirtual 272, 3) := by decide +kernel
theorem dX7_measureCycle_30 : decode cX7_measureCycle 30 = .ok (.aload_n 0, 1) := by decide +kernel
theorem dX7_measureCycle_31 : decode cX7_measureCycle 31 = .ok (.getfield 28, 3) := by decide +kernel
theorem dX7_measureCycle_34 : decode cX7_measureCycle 34 = .ok (.getfield 216, 3) := by decide +kernel
theorem dX7_measureCycle_37 : decode cX7_measureCycle 37 = .ok (.getfield 225, 3) := by decide +kernel
theorem dX7_measureCycle_40 : decode cX7_measureCycle 40 = .ok (.iconst 2, 1) := by decide +kernel
theorem dX7_measureCycle_41 : decode cX7_measureCycle 41 = .ok (.if_icmp .lt 13, 3) := by decide +kernel
theorem dX7_measureCycle_44 : decode cX7_measureCycle 44 = .ok (.aload_n 0, 1) := by decide +kernel
theorem dX7_measureCycle_45 : decode cX7_measureCycle 45 = .ok (.getfield 28, 3) := by decide +kernel
theorem dX7_measureCycle_48 : decode cX7_measureCycle 48 = .ok (.getfield 165, 3) := by decide +kernel
theorem dX7_measureCycle_51 : decode cX7_measureCycle 51 = .ok (.iload_n 2, 1) := by decide +kernel
theorem dX7_measureCycle_52 : decode cX7_measureCycle 52 = .ok (.isub, 1) := by decide +kernel
theorem dX7_measureCycle_53 : decode cX7_measureCycle 53 = .ok (.ireturn, 1) := by decide +kernel
theorem dX7_measureCycle_54 : decode cX7_measureCycle 54 = .ok (.aload_n 0, 1) := by decide +kernel
theorem dX7_measureCycle_55 : decode cX7_measureCycle 55 = .ok (.getfield 28, 3) := by decide +kernel
theorem dX7_measureCycle_58 : decode cX7_measureCycle 58 = .ok (.getfield 216, 3) := by decide +kernel
theorem dX7_measureCycle_61 : decode cX7_measureCycle 61 = .ok (.getfield 225, 3) := by decide +kernel
theorem dX7_measureCycle_64 : decode cX7_measureCycle 64 = .ok (.iconst 1, 1) := by decide +kernel
theorem dX7_measureCycle_65 : decode cX7_measureCycle 65 = .ok (.if_icmp .ne 15, 3) := by decide +kernel
theorem dX7_measureCycle_68 : decode cX7_measureCycle 68 = .ok (.iload_n 2, 1) := by decide +kernel
theorem dX7_measureCycle_69 : decode cX7_measureCycle 69 = .ok (.ifCond .ge 11, 3) := by decide +kernel
theorem dX7_measureCycle_72 : decode cX7_measureCycle 72 = .ok (.aload_n 0, 1) := by decide +kernel
theorem dX7_measureCycle_73 : decode cX7_measureCycle 73 = .ok (.getfield 28, 3) := by decide +kernel
theorem dX7_measureCycle_76 : decode cX7_measureCycle 76 = .ok (.getfield 165, 3) := by decide +kernel
theorem dX7_measureCycle_79 : decode cX7_measureCycle 79 = .ok (.istore_n 2, 1) := by decide +kernel
theorem dX7_measureCycle_80 : decode cX7_measureCycle 80 = .ok (.aload_n 0, 1) := by decide +kernel
theorem dX7_measureCycle_81 : decode cX7_measureCycle 81 = .ok (.getfield 28, 3) := by decide +kernel
theorem dX7_measureCycle_84 : decode cX7_measureCycle 84 = .ok (.getfield 275, 3) := by decide +kernel
theorem dX7_measureCycle_87 : decode cX7_measureCycle 87 = .ok (.ifCond .ne 16, 3) := by decide +kernel
theorem dX7_measureCycle_90 : decode cX7_measureCycle 90 = .ok (.aload_n 0, 1) := by decide +kernel
theorem dX7_measureCycle_91 : decode cX7_measureCycle 91 = .ok (.getfield 28, 3) := by decide +kernel
theorem dX7_measureCycle_94 : decode cX7_measureCycle 94 = .ok (.getfield 216, 3) := by decide +kernel
theorem dX7_measureCycle_97 : decode cX7_measureCycle 97 = .ok (.getfield 278, 3) := by decide +kernel
theorem dX7_measureCycle_100 : decode cX7_measureCycle 100 = .ok (.ifCond .eq 5, 3) := by decide +kernel
theorem dX7_measureCycle_103 : decode cX7_measureCycle 103 = .ok (.iconst (-1), 1) := by decide +kernel
theorem dX7_measureCycle_104 : decode cX7_measureCycle 104 = .ok (.ireturn, 1) := by decide +kernel
theorem dX7_measureCycle_105 : decode cX7_measureCycle 105 = .ok (.iinc 3 1, 3) := by decide +kernel
theorem dX7_measureCycle_108 : decode cX7_measureCycle 108 = .ok (.goto (-92), 3) := by decide +kernel
theorem dX7_measureCycle_111 : decode cX7_measureCycle 111 = .ok (.iconst (-1), 1) := by decide +kernel
theorem dX7_measureCycle_112 : decode cX7_measureCycle 112 = .ok (.ireturn, 1) := by decide +kernel
theorem dX7_explains_0 : decode cX7_explains 0 = .ok (.aload_n 0, 1) := by decide +kernel
theorem dX7_explains_1 : decode cX7_explains 1 = .ok (.getfield 28, 3) := by decide +kernel
theorem dX7_explains_4 : decode cX7_explains 4 = .ok (.aload_n 0, 1) := by decide +kernel
theorem dX7_explains_5 : decode cX7_explains 5 = .ok (.getfield 24, 3) := by decide +kernel
theorem dX7_explains_8 : decode cX7_explains 8 = .ok (.aload_n 0, 1) := by decide +kernel
theorem dX7_explains_9 : decode cX7_explains 9 = .ok (.getfield 24, 3) := by decide +kernel
theorem dX7_explains_12 : decode cX7_explains 12 = .ok (.getfield 137, 3) := by decide +kernel
theorem dX7_explains_15 : decode cX7_explains 15 = .ok (.getfield 141, 3) := by decide +kernel
theorem dX7_explains_18 : decode cX7_explains 18 = .ok (.invokevirtual 236, 3) := by decide +kernel
theorem dX7_explains_21 : decode cX7_explains 21 = .ok (.aload_n 0, 1) := by decide +kernel
theorem dX7_explains_22 : decode cX7_explains 22 = .ok (.getfield 28, 3) := by decide +kernel
theorem dX7_explains_25 : decode cX7_explains 25 = .ok (.iload_n 1, 1) := by decide +kernel
theorem dX7_explains_26 : decode cX7_explains 26 = .ok (.iload_n 2, 1) := by decide +kernel
theorem dX7_explains_27 : decode cX7_explains 27 = .ok (.iconst 1, 1) := by decide +kernel
theorem dX7_explains_28 : decode cX7_explains 28 = .ok (.invokevirtual 161, 3) := by decide +kernel
theorem dX7_explains_31 : decode cX7_explains 31 = .ok (.aload_n 0, 1) := by decide +kernel
theorem dX7_explains_32 : decode cX7_explains 32 = .ok (.aload_n 0, 1) := by decide +kernel
theorem dX7_explains_33 : decode cX7_explains 33 = .ok (.getfield 24, 3) := by decide +kernel
theorem dX7_explains_36 : decode cX7_explains 36 = .ok (.getfield 165, 3) := by decide +kernel
theorem dX7_explains_39 : decode cX7_explains 39 = .ok (.sipush 5000, 3) := by decide +kernel
theorem dX7_explains_42 : decode cX7_explains 42 = .ok (.invokestatic 281, 3) := by decide +kernel
theorem dX7_explains_45 : decode cX7_explains 45 = .ok (.invokevirtual 286, 3) := by decide +kernel
theorem dX7_explains_48 : decode cX7_explains 48 = .ok (.aload_n 0, 1) := by decide +kernel
theorem dX7_explains_49 : decode cX7_explains 49 = .ok (.getfield 28, 3) := by decide +kernel
theorem dX7_explains_52 : decode cX7_explains 52 = .ok (.getfield 183, 3) := by decide +kernel
theorem dX7_explains_55 : decode cX7_explains 55 = .ok (.aload_n 0, 1) := by decide +kernel
theorem dX7_explains_56 : decode cX7_explains 56 = .ok (.getfield 24, 3) := by decide +kernel
theorem dX7_explains_59 : decode cX7_explains 59 = .ok (.getfield 183, 3) := by decide +kernel
theorem dX7_explains_62 : decode cX7_explains 62 = .ok (.if_icmp .ne 7, 3) := by decide +kernel
theorem dX7_explains_65 : decode cX7_explains 65 = .ok (.iconst 1, 1) := by decide +kernel
theorem dX7_explains_66 : decode cX7_explains 66 = .ok (.goto 4, 3) := by decide +kernel
theorem dX7_explains_69 : decode cX7_explains 69 = .ok (.iconst 0, 1) := by decide +kernel
theorem dX7_explains_70 : decode cX7_explains 70 = .ok (.istore_n 3, 1) := by decide +kernel
theorem dX7_explains_71 : decode cX7_explains 71 = .ok (.iconst 0, 1) := by decide +kernel
theorem dX7_explains_72 : decode cX7_explains 72 = .ok (.istore 4, 2) := by decide +kernel
theorem dX7_explains_74 : decode cX7_explains 74 = .ok (.iload 4, 2) := by decide +kernel
theorem dX7_explains_76 : decode cX7_explains 76 = .ok (.bipush 6, 2) := by decide +kernel
theorem dX7_explains_78 : decode cX7_explains 78 = .ok (.if_icmp .ge 42, 3) := by decide +kernel
theorem dX7_explains_81 : decode cX7_explains 81 = .ok (.iload_n 3, 1) := by decide +kernel
theorem dX7_explains_82 : decode cX7_explains 82 = .ok (.ifCond .eq 30, 3) := by decide +kernel
theorem dX7_explains_85 : decode cX7_explains 85 = .ok (.aload_n 0, 1) := by decide +kernel
theorem dX7_explains_86 : decode cX7_explains 86 = .ok (.getfield 28, 3) := by decide +kernel
theorem dX7_explains_89 : decode cX7_explains 89 = .ok (.getfield 180, 3) := by decide +kernel
theorem dX7_explains_92 : decode cX7_explains 92 = .ok (.iload 4, 2) := by decide +kernel
theorem dX7_explains_94 : decode cX7_explains 94 = .ok (.iaload, 1) := by decide +kernel
theorem dX7_explains_95 : decode cX7_explains 95 = .ok (.aload_n 0, 1) := by decide +kernel
theorem dX7_explains_96 : decode cX7_explains 96 = .ok (.getfield 24, 3) := by decide +kernel
theorem dX7_explains_99 : decode cX7_explains 99 = .ok (.getfield 180, 3) := by decide +kernel
theorem dX7_explains_102 : decode cX7_explains 102 = .ok (.iload 4, 2) := by decide +kernel
theorem dX7_explains_104 : decode cX7_explains 104 = .ok (.iaload, 1) := by decide +kernel
theorem dX7_explains_105 : decode cX7_explains 105 = .ok (.if_icmp .ne 7, 3) := by decide +kernel
theorem dX7_explains_108 : decode cX7_explains 108 = .ok (.iconst 1, 1) := by decide +kernel
theorem dX7_explains_109 : decode cX7_explains 109 = .ok (.goto 4, 3) := by decide +kernel
theorem dX7_explains_112 : decode cX7_explains 112 = .ok (.iconst 0, 1) := by decide +kernel
theorem dX7_explains_113 : decode cX7_explains 113 = .ok (.istore_n 3, 1) := by decide +kernel
theorem dX7_explains_114 : decode cX7_explains 114 = .ok (.iinc 4 1, 3) := by decide +kernel
theorem dX7_explains_117 : decode cX7_explains 117 = .ok (.goto (-43), 3) := by decide +kernel
theorem dX7_explains_120 : decode cX7_explains 120 = .ok (.iload_n 3, 1) := by decide +kernel
theorem dX7_explains_121 : decode cX7_explains 121 = .ok (.ireturn, 1) := by decide +kernel
theorem dX7_runTrialFar_0 : decode cX7_runTrialFar 0 = .ok (.iload_n 1, 1) := by decide +kernel
theorem dX7_runTrialFar_1 : decode cX7_runTrialFar 1 = .ok (.istore_n 2, 1) := by decide +kernel
theorem dX7_runTrialFar_2 : decode cX7_runTrialFar 2 = .ok (.iconst 0, 1) := by decide +kernel
theorem dX7_runTrialFar_3 : decode cX7_runTrialFar 3 = .ok (.istore_n 3, 1) := by decide +kernel
theorem dX7_runTrialFar_4 : decode cX7_runTrialFar 4 = .ok (.iconst 1, 1) := by decide +kernel
theorem dX7_runTrialFar_5 : decode cX7_runTrialFar 5 = .ok (.istore 4, 2) := by decide +kernel
theorem dX7_runTrialFar_7 : decode cX7_runTrialFar 7 = .ok (.iconst 0, 1) := by decide +kernel
theorem dX7_runTrialFar_8 : decode cX7_runTrialFar 8 = .ok (.istore 5, 2) := by decide +kernel
theorem dX7_runTrialFar_10 : decode cX7_runTrialFar 10 = .ok (.aload_n 0, 1) := by decide +kernel
theorem dX7_runTrialFar_11 : decode cX7_runTrialFar 11 = .ok (.getfield 34, 3) := by decide +kernel
theorem dX7_runTrialFar_14 : decode cX7_runTrialFar 14 = .ok (.aload_n 0, 1) := by decide +kernel
theorem dX7_runTrialFar_15 : decode cX7_runTrialFar 15 = .ok (.getfield 28, 3) := by decide +kernel
theorem dX7_runTrialFar_18 : decode cX7_runTrialFar 18 = .ok (.invokevirtual 289, 3) := by decide +kernel
theorem dX7_runTrialFar_21 : decode cX7_runTrialFar 21 = .ok (.iconst 0, 1) := by decide +kernel
theorem dX7_runTrialFar_22 : decode cX7_runTrialFar 22 = .ok (.istore 6, 2) := by decide +kernel
theorem dX7_runTrialFar_24 : decode cX7_runTrialFar 24 = .ok (.iload 6, 2) := by decide +kernel
theorem dX7_runTrialFar_26 : decode cX7_runTrialFar 26 = .ok (.iload_n 1, 1) := by decide +kernel
theorem dX7_runTrialFar_27 : decode cX7_runTrialFar 27 = .ok (.if_icmp .ge 87, 3) := by decide +kernel
theorem dX7_runTrialFar_30 : decode cX7_runTrialFar 30 = .ok (.iload_n 2, 1) := by decide +kernel
theorem dX7_runTrialFar_31 : decode cX7_runTrialFar 31 = .ok (.ifCond .le 83, 3) := by decide +kernel
theorem dX7_runTrialFar_34 : decode cX7_runTrialFar 34 = .ok (.aload_n 0, 1) := by decide +kernel
theorem dX7_runTrialFar_35 : decode cX7_runTrialFar 35 = .ok (.getfield 28, 3) := by decide +kernel
theorem dX7_runTrialFar_38 : decode cX7_runTrialFar 38 = .ok (.invokevirtual 272, 3) := by decide +kernel
theorem dX7_runTrialFar_41 : decode cX7_runTrialFar 41 = .ok (.iinc 2 (-1), 3) := by decide +kernel
theorem dX7_runTrialFar_44 : decode cX7_runTrialFar 44 = .ok (.iinc 3 1, 3) := by decide +kernel
theorem dX7_runTrialFar_47 : decode cX7_runTrialFar 47 = .ok (.iload 5, 2) := by decide +kernel
theorem dX7_runTrialFar_49 : decode cX7_runTrialFar 49 = .ok (.ifCond .eq 6, 3) := by decide +kernel
theorem dX7_runTrialFar_52 : decode cX7_runTrialFar 52 = .ok (.goto 56, 3) := by decide +kernel
theorem dX7_runTrialFar_55 : decode cX7_runTrialFar 55 = .ok (.iload_n 3, 1) := by decide +kernel
theorem dX7_runTrialFar_56 : decode cX7_runTrialFar 56 = .ok (.ifCond .le 27, 3) := by decide +kernel
theorem dX7_runTrialFar_59 : decode cX7_runTrialFar 59 = .ok (.aload_n 0, 1) := by decide +kernel
theorem dX7_runTrialFar_60 : decode cX7_runTrialFar 60 = .ok (.getfield 34, 3) := by decide +kernel
theorem dX7_runTrialFar_63 : decode cX7_runTrialFar 63 = .ok (.aload_n 0, 1) := by decide +kernel
theorem dX7_runTrialFar_64 : decode cX7_runTrialFar 64 = .ok (.getfield 28, 3) := by decide +kernel
theorem dX7_runTrialFar_67 : decode cX7_runTrialFar 67 = .ok (.invokevirtual 293, 3) := by decide +kernel
theorem dX7_runTrialFar_70 : decode cX7_runTrialFar 70 = .ok (.ifCond .eq 13, 3) := by decide +kernel
theorem dX7_runTrialFar_73 : decode cX7_runTrialFar 73 = .ok (.iload_n 2, 1) := by decide +kernel
theorem dX7_runTrialFar_74 : decode cX7_runTrialFar 74 = .ok (.iload_n 3, 1) := by decide +kernel
theorem dX7_runTrialFar_75 : decode cX7_runTrialFar 75 = .ok (.irem, 1) := by decide +kernel
theorem dX7_runTrialFar_76 : decode cX7_runTrialFar 76 = .ok (.istore_n 2, 1) := by decide +kernel
theorem dX7_runTrialFar_77 : decode cX7_runTrialFar 77 = .ok (.iconst 1, 1) := by decide +kernel
theorem dX7_runTrialFar_78 : decode cX7_runTrialFar 78 = .ok (.istore 5, 2) := by decide +kernel
theorem dX7_runTrialFar_80 : decode cX7_runTrialFar 80 = .ok (.goto 28, 3) := by decide +kernel
theorem dX7_runTrialFar_83 : decode cX7_runTrialFar 83 = .ok (.iload_n 3, 1) := by decide +kernel
theorem dX7_runTrialFar_84 : decode cX7_runTrialFar 84 = .ok (.iload 4, 2) := by decide +kernel
theorem dX7_runTrialFar_86 : decode cX7_runTrialFar 86 = .ok (.if_icmp .lt 22, 3) := by decide +kernel
theorem dX7_runTrialFar_89 : decode cX7_runTrialFar 89 = .ok (.aload_n 0, 1) := by decide +kernel
theorem dX7_runTrialFar_90 : decode cX7_runTrialFar 90 = .ok (.getfield 34, 3) := by decide +kernel
theorem dX7_runTrialFar_93 : decode cX7_runTrialFar 93 = .ok (.aload_n 0, 1) := by decide +kernel
theorem dX7_runTrialFar_94 : decode cX7_runTrialFar 94 = .ok (.getfield 28, 3) := by decide +kernel
theorem dX7_runTrialFar_97 : decode cX7_runTrialFar 97 = .ok (.invokevirtual 289, 3) := by decide +kernel
theorem dX7_runTrialFar_100 : decode cX7_runTrialFar 100 = .ok (.iconst 0, 1) := by decide +kernel
theorem dX7_runTrialFar_101 : decode cX7_runTrialFar 101 = .ok (.istore_n 3, 1) := by decide +kernel
theorem dX7_runTrialFar_102 : decode cX7_runTrialFar 102 = .ok (.iconst 2, 1) := by decide +kernel
theorem dX7_runTrialFar_103 : decode cX7_runTrialFar 103 = .ok (.iload 4, 2) := by decide +kernel
theorem dX7_runTrialFar_105 : decode cX7_runTrialFar 105 = .ok (.imul, 1) := by decide +kernel
theorem dX7_runTrialFar_106 : decode cX7_runTrialFar 106 = .ok (.istore 4, 2) := by decide +kernel
theorem dX7_runTrialFar_108 : decode cX7_runTrialFar 108 = .ok (.iinc 6 1, 3) := by decide +kernel
theorem dX7_runTrialFar_111 : decode cX7_runTrialFar 111 = .ok (.goto (-87), 3) := by decide +kernel
theorem dX7_runTrialFar_114 : decode cX7_runTrialFar 114 = .ok (.return_, 1) := by decide +kernel
theorem dX8_init_0 : decode cX8_init 0 = .ok (.aload_n 0, 1) := by decide +kernel
theorem dX8_init_1 : decode cX8_init 1 = .ok (.invokespecial 1, 3) := by decide +kernel
theorem dX8_init_4 : decode cX8_init 4 = .ok (.aload_n 0, 1) := by decide +kernel
theorem dX8_init_5 : decode cX8_init 5 = .ok (.sipush 140, 3) := by decide +kernel
theorem dX8_init_8 : decode cX8_init 8 = .ok (.newarray .int, 2) := by decide +kernel
theorem dX8_init_10 : decode cX8_init 10 = .ok (.putfield 7, 3) := by decide +kernel
theorem dX8_init_13 : decode cX8_init 13 = .ok (.aload_n 0, 1) := by decide +kernel
theorem dX8_init_14 : decode cX8_init 14 = .ok (.sipush 140, 3) := by decide +kernel
theorem dX8_init_17 : decode cX8_init 17 = .ok (.newarray .int, 2) := by decide +kernel
theorem dX8_init_19 : decode cX8_init 19 = .ok (.putfield 13, 3) := by decide +kernel
theorem dX8_init_22 : decode cX8_init 22 = .ok (.aload_n 0, 1) := by decide +kernel
theorem dX8_init_23 : decode cX8_init 23 = .ok (.bipush 6, 2) := by decide +kernel
theorem dX8_init_25 : decode cX8_init 25 = .ok (.newarray .int, 2) := by decide +kernel
theorem dX8_init_27 : decode cX8_init 27 = .ok (.putfield 16, 3) := by decide +kernel
theorem dX8_init_30 : decode cX8_init 30 = .ok (.aload_n 0, 1) := by decide +kernel
theorem dX8_init_31 : decode cX8_init 31 = .ok (.bipush 16, 2) := by decide +kernel
theorem dX8_init_33 : decode cX8_init 33 = .ok (.newarray .int, 2) := by decide +kernel
theorem dX8_init_35 : decode cX8_init 35 = .ok (.putfield 19, 3) := by decide +kernel
theorem dX8_init_38 : decode cX8_init 38 = .ok (.aload_n 0, 1) := by decide +kernel
theorem dX8_init_39 : decode cX8_init 39 = .ok (.bipush 16, 2) := by decide +kernel
theorem dX8_init_41 : decode cX8_init 41 = .ok (.newarray .int, 2) := by decide +kernel
theorem dX8_init_43 : decode cX8_init 43 = .ok (.putfield 22, 3) := by decide +kernel
theorem dX8_init_46 : decode cX8_init 46 = .ok (.aload_n 0, 1) := by decide +kernel
theorem dX8_init_47 : decode cX8_init 47 = .ok (.bipush 16, 2) := by decide +kernel
theorem dX8_init_49 : decode cX8_init 49 = .ok (.newarray .int, 2) := by decide +kernel
theorem dX8_init_51 : decode cX8_init 51 = .ok (.putfield 25, 3) := by decide +kernel
theorem dX8_init_54 : decode cX8_init 54 = .ok (.aload_n 0, 1) := by decide +kernel
theorem dX8_init_55 : decode cX8_init 55 = .ok (.bipush 16, 2) := by decide +kernel
theorem dX8_init_57 : decode cX8_init 57 = .ok (.newarray .int, 2) := by decide +kernel
theorem dX8_init_59 : decode cX8_init 59 = .ok (.putfield 28, 3) := by decide +kernel
theorem dX8_init_62 : decode cX8_init 62 = .ok (.aload_n 0, 1) := by decide +kernel
theorem dX8_init_63 : decode cX8_init 63 = .ok (.bipush 80, 2) := by decide +kernel
theorem dX8_init_65 : decode cX8_init 65 = .ok (.newarray .int, 2) := by decide +kernel
theorem dX8_init_67 : decode cX8_init 67 = .ok (.putfield 31, 3) := by decide +kernel
theorem dX8_init_70 : decode cX8_init 70 = .ok (.aload_n 0, 1) := by decide +kernel
theorem dX8_init_71 : decode cX8_init 71 = .ok (.bipush 17, 2) := by decide +kernel
theorem dX8_init_73 : decode cX8_init 73 = .ok (.newarray .int, 2) := by decide +kernel
theorem dX8_init_75 : decode cX8_init 75 = .ok (.putfield 34, 3) := by decide +kernel
theorem dX8_init_78 : decode cX8_init 78 = .ok (.aload_n 0, 1) := by decide +kernel
theorem dX8_init_79 : decode cX8_init 79 = .ok (.bipush 17, 2) := by decide +kernel
theorem dX8_init_81 : decode cX8_init 81 = .ok (.newarray .int, 2) := by decide +kernel
theorem dX8_init_83 : decode cX8_init 83 = .ok (.putfield 37, 3) := by decide +kernel
theorem dX8_init_86 : decode cX8_init 86 = .ok (.aload_n 0, 1) := by decide +kernel
theorem dX8_init_87 : decode cX8_init 87 = .ok (.bipush 17, 2) := by decide +kernel
theorem dX8_init_89 : decode cX8_init 89 = .ok (.newarray .int, 2) := by decide +kernel
theorem dX8_init_91 : decode cX8_init 91 = .ok (.putfield 40, 3) := by decide +kernel
theorem dX8_init_94 : decode cX8_init 94 = .ok (.iconst 0, 1) := by decide +kernel
theorem dX8_init_95 : decode cX8_init 95 = .ok (.istore_n 1, 1) := by decide +kernel
theorem dX8_init_96 : decode cX8_init 96 = .ok (.iload_n 1, 1) := by decide +kernel
theorem dX8_init_97 : decode cX8_init 97 = .ok (.bipush 6, 2) := by decide +kernel
theorem dX8_init_99 : decode cX8_init 99 = .ok (.if_icmp .ge 16, 3) := by decide +kernel
theorem dX8_init_102 : decode cX8_init 102 = .ok (.aload_n 0, 1) := by decide +kernel
theorem dX8_init_103 : decode cX8_init 103 = .ok (.getfield 16, 3) := by decide +kernel
theorem dX8_init_106 : decode cX8_init 106 = .ok (.iload_n 1, 1) := by decide +kernel
theorem dX8_init_107 : decode cX8_init 107 = .ok (.iconst 3, 1) := by decide +kernel
theorem dX8_init_108 : decode cX8_init 108 = .ok (.iastore, 1) := by decide +kernel
theorem dX8_init_109 : decode cX8_init 109 = .ok (.iinc 1 1, 3) := by decide +kernel
theorem dX8_init_112 : decode cX8_init 112 = .ok (.goto (-16), 3) := by decide +kernel
theorem dX8_init_115 : decode cX8_init 115 = .ok (.aload_n 0, 1) := by decide +kernel
theorem dX8_init_116 : decode cX8_init 116 = .ok (.getfield 7, 3) := by decide +kernel
theorem dX8_init_119 : decode cX8_init 119 = .ok (.iconst 1, 1) := by decide +kernel
theorem dX8_init_120 : decode cX8_init 120 = .ok (.iconst 1, 1) := by decide +kernel
theorem dX8_init_121 : decode cX8_init 121 = .ok (.iastore, 1) := by decide +kernel
theorem dX8_init_122 : decode cX8_init 122 = .ok (.aload_n 0, 1) := by decide +kernel
theorem dX8_init_123 : decode cX8_init 123 = .ok (.getfield 7, 3) := by decide +kernel
theorem dX8_init_126 : decode cX8_init 126 = .ok (.iconst 2, 1) := by decide +kernel
theorem dX8_init_127 : decode cX8_init 127 = .ok (.iconst 1, 1) := by decide +kernel
theorem dX8_init_128 : decode cX8_init 128 = .ok (.iastore, 1) := by decide +kernel
theorem dX8_init_129 : decode cX8_init 129 = .ok (.aload_n 0, 1) := by decide +kernel
theorem dX8_init_130 : decode cX8_init 130 = .ok (.aload_n 0, 1) := by decide +kernel
theorem dX8_init_131 : decode cX8_init 131 = .ok (.getfield 7, 3) := by decide +kernel
theorem dX8_init_134 : decode cX8_init 134 = .ok (.invokevirtual 43, 3) := by decide +kernel
theorem dX8_init_137 : decode cX8_init 137 = .ok (.return_, 1) := by decide +kernel
theorem dX8_thrown_0 : decode cX8_thrown 0 = .ok (.aload_n 0, 1) := by decide +kernel
theorem dX8_thrown_1 : decode cX8_thrown 1 = .ok (.getfield 47, 3) := by decide +kernel
theorem dX8_thrown_4 : decode cX8_thrown 4 = .ok (.ireturn, 1) := by decide +kernel
theorem dX8_in_0 : decode cX8_in 0 = .ok (.iload_n 0, 1) := by decide +kernel
theorem dX8_in_1 : decode cX8_in 1 = .ok (.iload_n 1, 1) := by decide +kernel
theorem dX8_in_2 : decode cX8_in 2 = .ok (.if_icmp .lt 12, 3) := by decide +kernel
theorem dX8_in_5 : decode cX8_in 5 = .ok (.iload_n 0, 1) := by decide +kernel
theorem dX8_in_6 : decode cX8_in 6 = .ok (.iload_n 2, 1) := by decide +kernel
theorem dX8_in_7 : decode cX8_in 7 = .ok (.if_icmp .gt 7, 3) := by decide +kernel
theorem dX8_in_10 : decode cX8_in 10 = .ok (.iconst 1, 1) := by decide +kernel
theorem dX8_in_11 : decode cX8_in 11 = .ok (.goto 4, 3) := by decide +kernel
theorem dX8_in_14 : decode cX8_in 14 = .ok (.iconst 0, 1) := by decide +kernel
theorem dX8_in_15 : decode cX8_in 15 = .ok (.ireturn, 1) := by decide +kernel
theorem dX8_fails_0 : decode cX8_fails 0 = .ok (.aload_n 0, 1) := by decide +kernel
theorem dX8_fails_1 : decode cX8_fails 1 = .ok (.iload_n 1, 1) := by decide +kernel
theorem dX8_fails_2 : decode cX8_fails 2 = .ok (.putfield 47, 3) := by decide +kernel
theorem dX8_fails_5 : decode cX8_fails 5 = .ok (.iconst 0, 1) := by decide +kernel
theorem dX8_fails_6 : decode cX8_fails 6 = .ok (.ireturn, 1) := by decide +kernel
theorem dX8_type_0 : decode cX8_type 0 = .ok (.aload_n 0, 1) := by decide +kernel
theorem dX8_type_1 : decode cX8_type 1 = .ok (.iconst 0, 1) := by decide +kernel
theorem dX8_type_2 : decode cX8_type 2 = .ok (.putfield 47, 3) := by decide +kernel
theorem dX8_type_5 : decode cX8_type 5 = .ok (.iload_n 1, 1) := by decide +kernel
theorem dX8_type_6 : decode cX8_type 6 = .ok (.bipush 32, 2) := by decide +kernel
theorem dX8_type_8 : decode cX8_type 8 = .ok (.bipush 126, 2) := by decide +kernel
theorem dX8_type_10 : decode cX8_type 10 = .ok (.invokestatic 51, 3) := by decide +kernel
theorem dX8_type_13 : decode cX8_type 13 = .ok (.ifCond .ne 9, 3) := by decide +kernel
theorem dX8_type_16 : decode cX8_type 16 = .ok (.aload_n 0, 1) := by decide +kernel
theorem dX8_type_17 : decode cX8_type 17 = .ok (.iconst 1, 1) := by decide +kernel
theorem dX8_type_18 : decode cX8_type 18 = .ok (.invokevirtual 55, 3) := by decide +kernel
theorem dX8_type_21 : decode cX8_type 21 = .ok (.ireturn, 1) := by decide +kernel
theorem dX8_type_22 : decode cX8_type 22 = .ok (.aload_n 0, 1) := by decide +kernel
theorem dX8_type_23 : decode cX8_type 23 = .ok (.getfield 59, 3) := by decide +kernel
theorem dX8_type_26 : decode cX8_type 26 = .ok (.bipush 80, 2) := by decide +kernel
theorem dX8_type_28 : decode cX8_type 28 = .ok (.if_icmp .ne 9, 3) := by decide +kernel
theorem dX8_type_31 : decode cX8_type 31 = .ok (.aload_n 0, 1) := by decide +kernel
theorem dX8_type_32 : decode cX8_type 32 = .ok (.iconst 2, 1) := by decide +kernel
theorem dX8_type_33 : decode cX8_type 33 = .ok (.invokevirtual 55, 3) := by decide +kernel
theorem dX8_type_36 : decode cX8_type 36 = .ok (.ireturn, 1) := by decide +kernel
theorem dX8_type_37 : decode cX8_type 37 = .ok (.aload_n 0, 1) := by decide +kernel
theorem dX8_type_38 : decode cX8_type 38 = .ok (.getfield 31, 3) := by decide +kernel
theorem dX8_type_41 : decode cX8_type 41 = .ok (.aload_n 0, 1) := by decide +kernel
theorem dX8_type_42 : decode cX8_type 42 = .ok (.getfield 59, 3) := by decide +kernel
theorem dX8_type_45 : decode cX8_type 45 = .ok (.iload_n 1, 1) := by decide +kernel
theorem dX8_type_46 : decode cX8_type 46 = .ok (.iastore, 1) := by decide +kernel
theorem dX8_type_47 : decode cX8_type 47 = .ok (.aload_n 0, 1) := by decide +kernel
theorem dX8_type_48 : decode cX8_type 48 = .ok (.dup, 1) := by decide +kernel
theorem dX8_type_49 : decode cX8_type 49 = .ok (.getfield 59, 3) := by decide +kernel
theorem dX8_type_52 : decode cX8_type 52 = .ok (.iconst 1, 1) := by decide +kernel
theorem dX8_type_53 : decode cX8_type 53 = .ok (.iadd, 1) := by decide +kernel
theorem dX8_type_54 : decode cX8_type 54 = .ok (.putfield 59, 3) := by decide +kernel
theorem dX8_type_57 : decode cX8_type 57 = .ok (.aload_n 0, 1) := by decide +kernel
theorem dX8_type_58 : decode cX8_type 58 = .ok (.getfield 59, 3) := by decide +kernel
theorem dX8_type_61 : decode cX8_type 61 = .ok (.ireturn, 1) := by decide +kernel
theorem dX8_clearText_0 : decode cX8_clearText 0 = .ok (.aload_n 0, 1) := by decide +kernel
theorem dX8_clearText_1 : decode cX8_clearText 1 = .ok (.iconst 0, 1) := by decide +kernel
theorem dX8_clearText_2 : decode cX8_clearText 2 = .ok (.putfield 47, 3) := by decide +kernel
theorem dX8_clearText_5 : decode cX8_clearText 5 = .ok (.aload_n 0, 1) := by decide +kernel
theorem dX8_clearText_6 : decode cX8_clearText 6 = .ok (.getfield 59, 3) := by decide +kernel
theorem dX8_clearText_9 : decode cX8_clearText 9 = .ok (.istore_n 1, 1) := by decide +kernel
theorem dX8_clearText_10 : decode cX8_clearText 10 = .ok (.aload_n 0, 1) := by decide +kernel
theorem dX8_clearText_11 : decode cX8_clearText 11 = .ok (.iconst 0, 1) := by decide +kernel
theorem dX8_clearText_12 : decode cX8_clearText 12 = .ok (.putfield 59, 3) := by decide +kernel
theorem dX8_clearText_15 : decode cX8_clearText 15 = .ok (.iload_n 1, 1) := by decide +kernel
theorem dX8_clearText_16 : decode cX8_clearText 16 = .ok (.ireturn, 1) := by decide +kernel
theorem dX8_letter_0 : decode cX8_letter 0 = .ok (.iload_n 1, 1) := by decide +kernel
theorem dX8_letter_1 : decode cX8_letter 1 = .ok (.aload_n 0, 1) := by decide +kernel
theorem dX8_letter_2 : decode cX8_letter 2 = .ok (.getfield 59, 3) := by decide +kernel
theorem dX8_letter_5 : decode cX8_letter 5 = .ok (.if_icmp .ge 12, 3) := by decide +kernel
theorem dX8_letter_8 : decode cX8_letter 8 = .ok (.aload_n 0, 1) := by decide +kernel
theorem dX8_letter_9 : decode cX8_letter 9 = .ok (.getfield 31, 3) := by decide +kernel
theorem dX8_letter_12 : decode cX8_letter 12 = .ok (.iload_n 1, 1) := by decide +kernel
theorem dX8_letter_13 : decode cX8_letter 13 = .ok (.iaload, 1) := by decide +kernel
theorem dX8_letter_14 : decode cX8_letter 14 = .ok (.goto 4, 3) := by decide +kernel
theorem dX8_letter_17 : decode cX8_letter 17 = .ok (.iconst (-1), 1) := by decide +kernel
theorem dX8_letter_18 : decode cX8_letter 18 = .ok (.ireturn, 1) := by decide +kernel
theorem dX8_isDigit_0 : decode cX8_isDigit 0 = .ok (.aload_n 0, 1) := by decide +kernel
theorem dX8_isDigit_1 : decode cX8_isDigit 1 = .ok (.iload_n 1, 1) := by decide +kernel
theorem dX8_isDigit_2 : decode cX8_isDigit 2 = .ok (.invokevirtual 62, 3) := by decide +kernel
theorem dX8_isDigit_5 : decode cX8_isDigit 5 = .ok (.bipush 48, 2) := by decide +kernel
theorem dX8_isDigit_7 : decode cX8_isDigit 7 = .ok (.bipush 57, 2) := by decide +kernel
theorem dX8_isDigit_9 : decode cX8_isDigit 9 = .ok (.invokestatic 51, 3) := by decide +kernel
theorem dX8_isDigit_12 : decode cX8_isDigit 12 = .ok (.ireturn, 1) := by decide +kernel
theorem dX8_isMove_0 : decode cX8_isMove 0 = .ok (.aload_n 0, 1) := by decide +kernel
theorem dX8_isMove_1 : decode cX8_isMove 1 = .ok (.iload_n 1, 1) := by decide +kernel
theorem dX8_isMove_2 : decode cX8_isMove 2 = .ok (.invokevirtual 62, 3) := by decide +kernel
theorem dX8_isMove_5 : decode cX8_isMove 5 = .ok (.bipush 65, 2) := by decide +kernel
theorem dX8_isMove_7 : decode cX8_isMove 7 = .ok (.bipush 70, 2) := by decide +kernel
theorem dX8_isMove_9 : decode cX8_isMove 9 = .ok (.invokestatic 51, 3) := by decide +kernel
theorem dX8_isMove_12 : decode cX8_isMove 12 = .ok (.ifCond .eq 31, 3) := by decide +kernel
theorem dX8_isMove_15 : decode cX8_isMove 15 = .ok (.aload_n 0, 1) := by decide +kernel
theorem dX8_isMove_16 : decode cX8_isMove 16 = .ok (.iload_n 1, 1) := by decide +kernel
theorem dX8_isMove_17 : decode cX8_isMove 17 = .ok (.iconst 1, 1) := by decide +kernel
theorem dX8_isMove_18 : decode cX8_isMove 18 = .ok (.iadd, 1) := by decide +kernel
theorem dX8_isMove_19 : decode cX8_isMove 19 = .ok (.invokevirtual 62, 3) := by decide +kernel
theorem dX8_isMove_22 : decode cX8_isMove 22 = .ok (.bipush 43, 2) := by decide +kernel
theorem dX8_isMove_24 : decode cX8_isMove 24 = .ok (.if_icmp .eq 15, 3) := by decide +kernel
theorem dX8_isMove_27 : decode cX8_isMove 27 = .ok (.aload_n 0, 1) := by decide +kernel
theorem dX8_isMove_28 : decode cX8_isMove 28 = .ok (.iload_n 1, 1) := by decide +kernel
theorem dX8_isMove_29 : decode cX8_isMove 29 = .ok (.iconst 1, 1) := by decide +kernel
theorem dX8_isMove_30 : decode cX8_isMove 30 = .ok (.iadd, 1) := by decide +kernel
theorem dX8_isMove_31 : decode cX8_isMove 31 = .ok (.invokevirtual 62, 3) := by decide +kernel
theorem dX8_isMove_34 : decode cX8_isMove 34 = .ok (.bipush 45, 2) := by decide +kernel
theorem dX8_isMove_36 : decode cX8_isMove 36 = .ok (.if_icmp .ne 7, 3) := by decide +kernel
theorem dX8_isMove_39 : decode cX8_isMove 39 = .ok (.iconst 1, 1) := by decide +kernel
theorem dX8_isMove_40 : decode cX8_isMove 40 = .ok (.goto 4, 3) := by decide +kernel
theorem dX8_isMove_43 : decode cX8_isMove 43 = .ok (.iconst 0, 1) := by decide +kernel
theorem dX8_isMove_44 : decode cX8_isMove 44 = .ok (.ireturn, 1) := by decide +kernel
theorem dX8_failsAt_0 : decode cX8_failsAt 0 = .ok (.aload_n 0, 1) := by decide +kernel
theorem dX8_failsAt_1 : decode cX8_failsAt 1 = .ok (.iload_n 1, 1) := by decide +kernel
theorem dX8_failsAt_2 : decode cX8_failsAt 2 = .ok (.invokevirtual 62, 3) := by decide +kernel
theorem dX8_failsAt_5 : decode cX8_failsAt 5 = .ok (.bipush 65, 2) := by decide +kernel
theorem dX8_failsAt_7 : decode cX8_failsAt 7 = .ok (.bipush 70, 2) := by decide +kernel
theorem dX8_failsAt_9 : decode cX8_failsAt 9 = .ok (.invokestatic 51, 3) := by decide +kernel
theorem dX8_failsAt_12 : decode cX8_failsAt 12 = .ok (.ifCond .eq 9, 3) := by decide +kernel
theorem dX8_failsAt_15 : decode cX8_failsAt 15 = .ok (.iload_n 1, 1) := by decide +kernel
theorem dX8_failsAt_16 : decode cX8_failsAt 16 = .ok (.iconst 1, 1) := by decide +kernel
theorem dX8_failsAt_17 : decode cX8_failsAt 17 = .ok (.iadd, 1) := by decide +kernel
theorem dX8_failsAt_18 : decode cX8_failsAt 18 = .ok (.goto 4, 3) := by decide +kernel
theorem dX8_failsAt_21 : decode cX8_failsAt 21 = .ok (.iload_n 1, 1) := by decide +kernel
theorem dX8_failsAt_22 : decode cX8_failsAt 22 = .ok (.ireturn, 1) := by decide +kernel
theorem dX8_notes_0 : decode cX8_notes 0 = .ok (.iconst 1, 1) := by decide +kernel
theorem dX8_notes_1 : decode cX8_notes 1 = .ok (.aload_n 0, 1) := by decide +kernel
theorem dX8_notes_2 : decode cX8_notes 2 = .ok (.iload_n 1, 1) := by decide +kernel
theorem dX8_notes_3 : decode cX8_notes 3 = .ok (.invokevirtual 62, 3) := by decide +kernel
theorem dX8_notes_6 : decode cX8_notes 6 = .ok (.bipush 65, 2) := by decide +kernel
theorem dX8_notes_8 : decode cX8_notes 8 = .ok (.isub, 1) := by decide +kernel
theorem dX8_notes_9 : decode cX8_notes 9 = .ok (.ishl, 1) := by decide +kernel
theorem dX8_notes_10 : decode cX8_notes 10 = .ok (.istore_n 3, 1) := by decide +kernel
theorem dX8_notes_11 : decode cX8_notes 11 = .ok (.aload_n 0, 1) := by decide +kernel
theorem dX8_notes_12 : decode cX8_notes 12 = .ok (.iload_n 1, 1) := by decide +kernel
theorem dX8_notes_13 : decode cX8_notes 13 = .ok (.iconst 1, 1) := by decide +kernel
theorem dX8_notes_14 : decode cX8_notes 14 = .ok (.iadd, 1) := by decide +kernel
theorem dX8_notes_15 : decode cX8_notes 15 = .ok (.invokevirtual 62, 3) := by decide +kernel
theorem dX8_notes_18 : decode cX8_notes 18 = .ok (.bipush 43, 2) := by decide +kernel
theorem dX8_notes_20 : decode cX8_notes 20 = .ok (.if_icmp .ne 7, 3) := by decide +kernel
theorem dX8_notes_23 : decode cX8_notes 23 = .ok (.iconst 1, 1) := by decide +kernel
theorem dX8_notes_24 : decode cX8_notes 24 = .ok (.goto 4, 3) := by decide +kernel
theorem dX8_notes_27 : decode cX8_notes 27 = .ok (.iconst 0, 1) := by decide +kernel
theorem dX8_notes_28 : decode cX8_notes 28 = .ok (.istore 4, 2) := by decide +kernel
theorem dX8_notes_30 : decode cX8_notes 30 = .ok (.aload_n 0, 1) := by decide +kernel
theorem dX8_notes_31 : decode cX8_notes 31 = .ok (.getfield 34, 3) := by decide +kernel
theorem dX8_notes_34 : decode cX8_notes 34 = .ok (.aload_n 0, 1) := by decide +kernel
theorem dX8_notes_35 : decode cX8_notes 35 = .ok (.getfield 65, 3) := by decide +kernel
theorem dX8_notes_38 : decode cX8_notes 38 = .ok (.iaload, 1) := by decide +kernel
theorem dX8_notes_39 : decode cX8_notes 39 = .ok (.aload_n 0, 1) := by decide +kernel
theorem dX8_notes_40 : decode cX8_notes 40 = .ok (.getfield 37, 3) := by decide +kernel
theorem dX8_notes_43 : decode cX8_notes 43 = .ok (.aload_n 0, 1) := by decide +kernel
theorem dX8_notes_44 : decode cX8_notes 44 = .ok (.getfield 65, 3) := by decide +kernel
theorem dX8_notes_47 : decode cX8_notes 47 = .ok (.iaload, 1) := by decide +kernel
theorem dX8_notes_48 : decode cX8_notes 48 = .ok (.ior, 1) := by decide +kernel
theorem dX8_notes_49 : decode cX8_notes 49 = .ok (.iload_n 3, 1) := by decide +kernel
theorem dX8_notes_50 : decode cX8_notes 50 = .ok (.iand, 1) := by decide +kernel
theorem dX8_notes_51 : decode cX8_notes 51 = .ok (.ifCond .eq 7, 3) := by decide +kernel
theorem dX8_notes_54 : decode cX8_notes 54 = .ok (.iconst 1, 1) := by decide +kernel
theorem dX8_notes_55 : decode cX8_notes 55 = .ok (.goto 4, 3) := by decide +kernel
theorem dX8_notes_58 : decode cX8_notes 58 = .ok (.iconst 0, 1) := by decide +kernel
theorem dX8_notes_59 : decode cX8_notes 59 = .ok (.istore 5, 2) := by decide +kernel
theorem dX8_notes_61 : decode cX8_notes 61 = .ok (.iload_n 2, 1) := by decide +kernel
theorem dX8_notes_62 : decode cX8_notes 62 = .ok (.iload_n 3, 1) := by decide +kernel
theorem dX8_notes_63 : decode cX8_notes 63 = .ok (.iand, 1) := by decide +kernel
theorem dX8_notes_64 : decode cX8_notes 64 = .ok (.ifCond .eq 7, 3) := by decide +kernel
theorem dX8_notes_67 : decode cX8_notes 67 = .ok (.iconst 1, 1) := by decide +kernel
theorem dX8_notes_68 : decode cX8_notes 68 = .ok (.goto 4, 3) := by decide +kernel
theorem dX8_notes_71 : decode cX8_notes 71 = .ok (.iconst 0, 1) := by decide +kernel
theorem dX8_notes_72 : decode cX8_notes 72 = .ok (.istore 6, 2) := by decide +kernel
theorem dX8_notes_74 : decode cX8_notes 74 = .ok (.iload 5, 2) := by decide +kernel
theorem dX8_notes_76 : decode cX8_notes 76 = .ok (.ifCond .ne 10, 3) := by decide +kernel
theorem dX8_notes_79 : decode cX8_notes 79 = .ok (.iload 6, 2) := by decide +kernel
theorem dX8_notes_81 : decode cX8_notes 81 = .ok (.iload 4, 2) := by decide +kernel
theorem dX8_notes_83 : decode cX8_notes 83 = .ok (.if_icmp .ne 15, 3) := by decide +kernel
theorem dX8_notes_86 : decode cX8_notes 86 = .ok (.aload_n 0, 1) := by decide +kernel
theorem dX8_notes_87 : decode cX8_notes 87 = .ok (.getfield 68, 3) := by decide +kernel
theorem dX8_notes_90 : decode cX8_notes 90 = .ok (.ifCond .ge 8, 3) := by decide +kernel
theorem dX8_notes_93 : decode cX8_notes 93 = .ok (.aload_n 0, 1) := by decide +kernel
theorem dX8_notes_94 : decode cX8_notes 94 = .ok (.iload_n 1, 1) := by decide +kernel
theorem dX8_notes_95 : decode cX8_notes 95 = .ok (.putfield 68, 3) := by decide +kernel
theorem dX8_notes_98 : decode cX8_notes 98 = .ok (.aload_n 0, 1) := by decide +kernel
theorem dX8_notes_99 : decode cX8_notes 99 = .ok (.getfield 34, 3) := by decide +kernel
theorem dX8_notes_102 : decode cX8_notes 102 = .ok (.aload_n 0, 1) := by decide +kernel
theorem dX8_notes_103 : decode cX8_notes 103 = .ok (.getfield 65, 3) := by decide +kernel
theorem dX8_notes_106 : decode cX8_notes 106 = .ok (.dup2, 1) := by decide +kernel
theorem dX8_notes_107 : decode cX8_notes 107 = .ok (.iaload, 1) := by decide +kernel
theorem dX8_notes_108 : decode cX8_notes 108 = .ok (.iload 4, 2) := by decide +kernel
theorem dX8_notes_110 : decode cX8_notes 110 = .ok (.ifCond .eq 7, 3) := by decide +kernel
theorem dX8_notes_113 : decode cX8_notes 113 = .ok (.iload_n 3, 1) := by decide +kernel
theorem dX8_notes_114 : decode cX8_notes 114 = .ok (.goto 4, 3) := by decide +kernel
theorem dX8_notes_117 : decode cX8_notes 117 = .ok (.iconst 0, 1) := by decide +kernel
theorem dX8_notes_118 : decode cX8_notes 118 = .ok (.ior, 1) := by decide +kernel
theorem dX8_notes_119 : decode cX8_notes 119 = .ok (.iastore, 1) := by decide +kernel
theorem dX8_notes_120 : decode cX8_notes 120 = .ok (.aload_n 0, 1) := by decide +kernel
theorem dX8_notes_121 : decode cX8_notes 121 = .ok (.getfield 37, 3) := by decide +kernel
theorem dX8_notes_124 : decode cX8_notes 124 = .ok (.aload_n 0, 1) := by decide +kernel
theorem dX8_notes_125 : decode cX8_notes 125 = .ok (.getfield 65, 3) := by decide +kernel
theorem dX8_notes_128 : decode cX8_notes 128 = .ok (.dup2, 1) := by decide +kernel
theorem dX8_notes_129 : decode cX8_notes 129 = .ok (.iaload, 1) := by decide +kernel
theorem dX8_notes_130 : decode cX8_notes 130 = .ok (.iload 4, 2) := by decide +kernel
theorem dX8_notes_132 : decode cX8_notes 132 = .ok (.ifCond .eq 7, 3) := by decide +kernel
theorem dX8_notes_135 : decode cX8_notes 135 = .ok (.iconst 0, 1) := by decide +kernel
theorem dX8_notes_136 : decode cX8_notes 136 = .ok (.goto 4, 3) := by decide +kernel
theorem dX8_notes_139 : decode cX8_notes 139 = .ok (.iload_n 3, 1) := by decide +kernel
theorem dX8_notes_140 : decode cX8_notes 140 = .ok (.ior, 1) := by decide +kernel
theorem dX8_notes_141 : decode cX8_notes 141 = .ok (.iastore, 1) := by decide +kernel
theorem dX8_notes_142 : decode cX8_notes 142 = .ok (.aload_n 0, 1) := by decide +kernel
theorem dX8_notes_143 : decode cX8_notes 143 = .ok (.iload 4, 2) := by decide +kernel
theorem dX8_notes_145 : decode cX8_notes 145 = .ok (.ifCond .eq 12, 3) := by decide +kernel
theorem dX8_notes_148 : decode cX8_notes 148 = .ok (.aload_n 0, 1) := by decide +kernel
theorem dX8_notes_149 : decode cX8_notes 149 = .ok (.getfield 71, 3) := by decide +kernel
theorem dX8_notes_152 : decode cX8_notes 152 = .ok (.iload_n 3, 1) := by decide +kernel
theorem dX8_notes_153 : decode cX8_notes 153 = .ok (.ior, 1) := by decide +kernel
theorem dX8_notes_154 : decode cX8_notes 154 = .ok (.goto 11, 3) := by decide +kernel
theorem dX8_notes_157 : decode cX8_notes 157 = .ok (.aload_n 0, 1) := by decide +kernel
theorem dX8_notes_158 : decode cX8_notes 158 = .ok (.getfield 71, 3) := by decide +kernel
theorem dX8_notes_161 : decode cX8_notes 161 = .ok (.iload_n 3, 1) := by decide +kernel
theorem dX8_notes_162 : decode cX8_notes 162 = .ok (.iconst (-1), 1) := by decide +kernel
theorem dX8_notes_163 : decode cX8_notes 163 = .ok (.ixor, 1) := by decide +kernel
theorem dX8_notes_164 : decode cX8_notes 164 = .ok (.iand, 1) := by decide +kernel
theorem dX8_notes_165 : decode cX8_notes 165 = .ok (.putfield 71, 3) := by decide +kernel
theorem dX8_notes_168 : decode cX8_notes 168 = .ok (.return_, 1) := by decide +kernel
theorem dX8_readsStep_0 : decode cX8_readsStep 0 = .ok (.aload_n 0, 1) := by decide +kernel
theorem dX8_readsStep_1 : decode cX8_readsStep 1 = .ok (.getfield 71, 3) := by decide +kernel
theorem dX8_readsStep_4 : decode cX8_readsStep 4 = .ok (.istore_n 2, 1) := by decide +kernel
theorem dX8_readsStep_5 : decode cX8_readsStep 5 = .ok (.aload_n 0, 1) := by decide +kernel
theorem dX8_readsStep_6 : decode cX8_readsStep 6 = .ok (.getfield 34, 3) := by decide +kernel
theorem dX8_readsStep_9 : decode cX8_readsStep 9 = .ok (.aload_n 0, 1) := by decide +kernel
theorem dX8_readsStep_10 : decode cX8_readsStep 10 = .ok (.getfield 65, 3) := by decide +kernel
theorem dX8_readsStep_13 : decode cX8_readsStep 13 = .ok (.iconst 0, 1) := by decide +kernel
theorem dX8_readsStep_14 : decode cX8_readsStep 14 = .ok (.iastore, 1) := by decide +kernel
theorem dX8_readsStep_15 : decode cX8_readsStep 15 = .ok (.aload_n 0, 1) := by decide +kernel
theorem dX8_readsStep_16 : decode cX8_readsStep 16 = .ok (.getfield 37, 3) := by decide +kernel
theorem dX8_readsStep_19 : decode cX8_readsStep 19 = .ok (.aload_n 0, 1) := by decide +kernel
theorem dX8_readsStep_20 : decode cX8_readsStep 20 = .ok (.getfield 65, 3) := by decide +kernel
theorem dX8_readsStep_23 : decode cX8_readsStep 23 = .ok (.iconst 0, 1) := by decide +kernel
theorem dX8_readsStep_24 : decode cX8_readsStep 24 = .ok (.iastore, 1) := by decide +kernel
theorem dX8_readsStep_25 : decode cX8_readsStep 25 = .ok (.aload_n 0, 1) := by decide +kernel
theorem dX8_readsStep_26 : decode cX8_readsStep 26 = .ok (.getfield 40, 3) := by decide +kernel
theorem dX8_readsStep_29 : decode cX8_readsStep 29 = .ok (.aload_n 0, 1) := by decide +kernel
theorem dX8_readsStep_30 : decode cX8_readsStep 30 = .ok (.getfield 65, 3) := by decide +kernel
theorem dX8_readsStep_33 : decode cX8_readsStep 33 = .ok (.iconst 0, 1) := by decide +kernel
theorem dX8_readsStep_34 : decode cX8_readsStep 34 = .ok (.iastore, 1) := by decide +kernel
theorem dX8_readsStep_35 : decode cX8_readsStep 35 = .ok (.aload_n 0, 1) := by decide +kernel
theorem dX8_readsStep_36 : decode cX8_readsStep 36 = .ok (.iload_n 1, 1) := by decide +kernel
theorem dX8_readsStep_37 : decode cX8_readsStep 37 = .ok (.invokevirtual 62, 3) := by decide +kernel
theorem dX8_readsStep_40 : decode cX8_readsStep 40 = .ok (.bipush 84, 2) := by decide +kernel
theorem dX8_readsStep_42 : decode cX8_readsStep 42 = .ok (.if_icmp .ne 11, 3) := by decide +kernel
theorem dX8_readsStep_45 : decode cX8_readsStep 45 = .ok (.aload_n 0, 1) := by decide +kernel
theorem dX8_readsStep_46 : decode cX8_readsStep 46 = .ok (.iload_n 1, 1) := by decide +kernel
theorem dX8_readsStep_47 : decode cX8_readsStep 47 = .ok (.iconst 1, 1) := by decide +kernel
theorem dX8_readsStep_48 : decode cX8_readsStep 48 = .ok (.iadd, 1) := by decide +kernel
theorem dX8_readsStep_49 : decode cX8_readsStep 49 = .ok (.invokevirtual 74, 3) := by decide +kernel
theorem dX8_readsStep_52 : decode cX8_readsStep 52 = .ok (.ireturn, 1) := by decide +kernel
theorem dX8_readsStep_53 : decode cX8_readsStep 53 = .ok (.aload_n 0, 1) := by decide +kernel
theorem dX8_readsStep_54 : decode cX8_readsStep 54 = .ok (.iload_n 1, 1) := by decide +kernel
theorem dX8_readsStep_55 : decode cX8_readsStep 55 = .ok (.invokevirtual 62, 3) := by decide +kernel
theorem dX8_readsStep_58 : decode cX8_readsStep 58 = .ok (.bipush 40, 2) := by decide +kernel
theorem dX8_readsStep_60 : decode cX8_readsStep 60 = .ok (.if_icmp .eq 29, 3) := by decide +kernel
theorem dX8_readsStep_63 : decode cX8_readsStep 63 = .ok (.aload_n 0, 1) := by decide +kernel
theorem dX8_readsStep_64 : decode cX8_readsStep 64 = .ok (.iload_n 1, 1) := by decide +kernel
theorem dX8_readsStep_65 : decode cX8_readsStep 65 = .ok (.invokevirtual 77, 3) := by decide +kernel
theorem dX8_readsStep_68 : decode cX8_readsStep 68 = .ok (.ifCond .ne 11, 3) := by decide +kernel
theorem dX8_readsStep_71 : decode cX8_readsStep 71 = .ok (.iconst (-1), 1) := by decide +kernel
theorem dX8_readsStep_72 : decode cX8_readsStep 72 = .ok (.aload_n 0, 1) := by decide +kernel
theorem dX8_readsStep_73 : decode cX8_readsStep 73 = .ok (.iload_n 1, 1) := by decide +kernel
theorem dX8_readsStep_74 : decode cX8_readsStep 74 = .ok (.invokevirtual 81, 3) := by decide +kernel
theorem dX8_readsStep_77 : decode cX8_readsStep 77 = .ok (.isub, 1) := by decide +kernel
theorem dX8_readsStep_78 : decode cX8_readsStep 78 = .ok (.ireturn, 1) := by decide +kernel
theorem dX8_readsStep_79 : decode cX8_readsStep 79 = .ok (.aload_n 0, 1) := by decide +kernel
theorem dX8_readsStep_80 : decode cX8_readsStep 80 = .ok (.iload_n 1, 1) := by decide +kernel
theorem dX8_readsStep_81 : decode cX8_readsStep 81 = .ok (.iload_n 2, 1) := by decide +kernel
theorem dX8_readsStep_82 : decode cX8_readsStep 82 = .ok (.invokevirtual 84, 3) := by decide +kernel
theorem dX8_readsStep_85 : decode cX8_readsStep 85 = .ok (.iload_n 1, 1) := by decide +kernel
theorem dX8_readsStep_86 : decode cX8_readsStep 86 = .ok (.iconst 2, 1) := by decide +kernel
theorem dX8_readsStep_87 : decode cX8_readsStep 87 = .ok (.iadd, 1) := by decide +kernel
theorem dX8_readsStep_88 : decode cX8_readsStep 88 = .ok (.ireturn, 1) := by decide +kernel
theorem dX8_readsStep_89 : decode cX8_readsStep 89 = .ok (.iload_n 1, 1) := by decide +kernel
theorem dX8_readsStep_90 : decode cX8_readsStep 90 = .ok (.iconst 1, 1) := by decide +kernel
theorem dX8_readsStep_91 : decode cX8_readsStep 91 = .ok (.iadd, 1) := by decide +kernel
theorem dX8_readsStep_92 : decode cX8_readsStep 92 = .ok (.istore_n 3, 1) := by decide +kernel
theorem dX8_readsStep_93 : decode cX8_readsStep 93 = .ok (.iconst 0, 1) := by decide +kernel
theorem dX8_readsStep_94 : decode cX8_readsStep 94 = .ok (.istore 4, 2) := by decide +kernel
theorem dX8_readsStep_96 : decode cX8_readsStep 96 = .ok (.aload_n 0, 1) := by decide +kernel
theorem dX8_readsStep_97 : decode cX8_readsStep 97 = .ok (.iload_n 3, 1) := by decide +kernel
theorem dX8_readsStep_98 : decode cX8_readsStep 98 = .ok (.invokevirtual 77, 3) := by decide +kernel
theorem dX8_readsStep_101 : decode cX8_readsStep 101 = .ok (.ifCond .eq 18, 3) := by decide +kernel
theorem dX8_readsStep_104 : decode cX8_readsStep 104 = .ok (.aload_n 0, 1) := by decide +kernel
theorem dX8_readsStep_105 : decode cX8_readsStep 105 = .ok (.iload_n 3, 1) := by decide +kernel
theorem dX8_readsStep_106 : decode cX8_readsStep 106 = .ok (.iload_n 2, 1) := by decide +kernel
theorem dX8_readsStep_107 : decode cX8_readsStep 107 = .ok (.invokevirtual 84, 3) := by decide +kernel
theorem dX8_readsStep_110 : decode cX8_readsStep 110 = .ok (.iinc 4 1, 3) := by decide +kernel
theorem dX8_readsStep_113 : decode cX8_readsStep 113 = .ok (.iinc 3 2, 3) := by decide +kernel
theorem dX8_readsStep_116 : decode cX8_readsStep 116 = .ok (.goto (-20), 3) := by decide +kernel
theorem dX8_readsStep_119 : decode cX8_readsStep 119 = .ok (.iload 4, 2) := by decide +kernel
theorem dX8_readsStep_121 : decode cX8_readsStep 121 = .ok (.iconst 2, 1) := by decide +kernel
theorem dX8_readsStep_122 : decode cX8_readsStep 122 = .ok (.if_icmp .lt 19, 3) := by decide +kernel
theorem dX8_readsStep_125 : decode cX8_readsStep 125 = .ok (.aload_n 0, 1) := by decide +kernel
theorem dX8_readsStep_126 : decode cX8_readsStep 126 = .ok (.iload_n 3, 1) := by decide +kernel
theorem dX8_readsStep_127 : decode cX8_readsStep 127 = .ok (.invokevirtual 62, 3) := by decide +kernel
theorem dX8_readsStep_130 : decode cX8_readsStep 130 = .ok (.bipush 41, 2) := by decide +kernel
theorem dX8_readsStep_132 : decode cX8_readsStep 132 = .ok (.if_icmp .ne 9, 3) := by decide +kernel
theorem dX8_readsStep_135 : decode cX8_readsStep 135 = .ok (.iload_n 3, 1) := by decide +kernel
theorem dX8_readsStep_136 : decode cX8_readsStep 136 = .ok (.iconst 1, 1) := by decide +kernel
theorem dX8_readsStep_137 : decode cX8_readsStep 137 = .ok (.iadd, 1) := by decide +kernel
theorem dX8_readsStep_138 : decode cX8_readsStep 138 = .ok (.goto 10, 3) := by decide +kernel
theorem dX8_readsStep_141 : decode cX8_readsStep 141 = .ok (.iconst (-1), 1) := by decide +kernel
theorem dX8_readsStep_142 : decode cX8_readsStep 142 = .ok (.aload_n 0, 1) := by decide +kernel
theorem dX8_readsStep_143 : decode cX8_readsStep 143 = .ok (.iload_n 3, 1) := by decide +kernel
theorem dX8_readsStep_144 : decode cX8_readsStep 144 = .ok (.invokevirtual 81, 3) := by decide +kernel
theorem dX8_readsStep_147 : decode cX8_readsStep 147 = .ok (.isub, 1) := by decide +kernel
theorem dX8_readsStep_148 : decode cX8_readsStep 148 = .ok (.ireturn, 1) := by decide +kernel
theorem dX8_readsPause_0 : decode cX8_readsPause 0 = .ok (.aload_n 0, 1) := by decide +kernel
theorem dX8_readsPause_1 : decode cX8_readsPause 1 = .ok (.iload_n 1, 1) := by decide +kernel
theorem dX8_readsPause_2 : decode cX8_readsPause 2 = .ok (.invokevirtual 88, 3) := by decide +kernel
theorem dX8_readsPause_5 : decode cX8_readsPause 5 = .ok (.ifCond .ne 7, 3) := by decide +kernel
theorem dX8_readsPause_8 : decode cX8_readsPause 8 = .ok (.iconst (-1), 1) := by decide +kernel
theorem dX8_readsPause_9 : decode cX8_readsPause 9 = .ok (.iload_n 1, 1) := by decide +kernel
theorem dX8_readsPause_10 : decode cX8_readsPause 10 = .ok (.isub, 1) := by decide +kernel
theorem dX8_readsPause_11 : decode cX8_readsPause 11 = .ok (.ireturn, 1) := by decide +kernel
theorem dX8_readsPause_12 : decode cX8_readsPause 12 = .ok (.aload_n 0, 1) := by decide +kernel
theorem dX8_readsPause_13 : decode cX8_readsPause 13 = .ok (.iload_n 1, 1) := by decide +kernel
theorem dX8_readsPause_14 : decode cX8_readsPause 14 = .ok (.invokevirtual 62, 3) := by decide +kernel
theorem dX8_readsPause_17 : decode cX8_readsPause 17 = .ok (.bipush 48, 2) := by decide +kernel
theorem dX8_readsPause_19 : decode cX8_readsPause 19 = .ok (.isub, 1) := by decide +kernel
theorem dX8_readsPause_20 : decode cX8_readsPause 20 = .ok (.istore_n 2, 1) := by decide +kernel
theorem dX8_readsPause_21 : decode cX8_readsPause 21 = .ok (.iload_n 1, 1) := by decide +kernel
theorem dX8_readsPause_22 : decode cX8_readsPause 22 = .ok (.iconst 1, 1) := by decide +kernel
theorem dX8_readsPause_23 : decode cX8_readsPause 23 = .ok (.iadd, 1) := by decide +kernel
theorem dX8_readsPause_24 : decode cX8_readsPause 24 = .ok (.istore_n 3, 1) := by decide +kernel
theorem dX8_readsPause_25 : decode cX8_readsPause 25 = .ok (.aload_n 0, 1) := by decide +kernel
theorem dX8_readsPause_26 : decode cX8_readsPause 26 = .ok (.iload_n 3, 1) := by decide +kernel
theorem dX8_readsPause_27 : decode cX8_readsPause 27 = .ok (.invokevirtual 88, 3) := by decide +kernel
theorem dX8_readsPause_30 : decode cX8_readsPause 30 = .ok (.ifCond .eq 20, 3) := by decide +kernel
theorem dX8_readsPause_33 : decode cX8_readsPause 33 = .ok (.bipush 10, 2) := by decide +kernel
theorem dX8_readsPause_35 : decode cX8_readsPause 35 = .ok (.iload_n 2, 1) := by decide +kernel
theorem dX8_readsPause_36 : decode cX8_readsPause 36 = .ok (.imul, 1) := by decide +kernel
theorem dX8_readsPause_37 : decode cX8_readsPause 37 = .ok (.aload_n 0, 1) := by decide +kernel
theorem dX8_readsPause_38 : decode cX8_readsPause 38 = .ok (.iload_n 3, 1) := by decide +kernel
theorem dX8_readsPause_39 : decode cX8_readsPause 39 = .ok (.invokevirtual 62, 3) := by decide +kernel
theorem dX8_readsPause_42 : decode cX8_readsPause 42 = .ok (.iadd, 1) := by decide +kernel
theorem dX8_readsPause_43 : decode cX8_readsPause 43 = .ok (.bipush 48, 2) := by decide +kernel
theorem dX8_readsPause_45 : decode cX8_readsPause 45 = .ok (.isub, 1) := by decide +kernel
theorem dX8_readsPause_46 : decode cX8_readsPause 46 = .ok (.istore_n 2, 1) := by decide +kernel
theorem dX8_readsPause_47 : decode cX8_readsPause 47 = .ok (.iinc 3 1, 3) := by decide +kernel
theorem dX8_readsPause_50 : decode cX8_readsPause 50 = .ok (.aload_n 0, 1) := by decide +kernel
theorem dX8_readsPause_51 : decode cX8_readsPause 51 = .ok (.getfield 40, 3) := by decide +kernel
theorem dX8_readsPause_54 : decode cX8_readsPause 54 = .ok (.aload_n 0, 1) := by decide +kernel
theorem dX8_readsPause_55 : decode cX8_readsPause 55 = .ok (.getfield 65, 3) := by decide +kernel
theorem dX8_readsPause_58 : decode cX8_readsPause 58 = .ok (.iload_n 2, 1) := by decide +kernel
theorem dX8_readsPause_59 : decode cX8_readsPause 59 = .ok (.iastore, 1) := by decide +kernel
theorem dX8_readsPause_60 : decode cX8_readsPause 60 = .ok (.iload_n 2, 1) := by decide +kernel
theorem dX8_readsPause_61 : decode cX8_readsPause 61 = .ok (.iconst 1, 1) := by decide +kernel
theorem dX8_readsPause_62 : decode cX8_readsPause 62 = .ok (.bipush 60, 2) := by decide +kernel
theorem dX8_readsPause_64 : decode cX8_readsPause 64 = .ok (.invokestatic 51, 3) := by decide +kernel
theorem dX8_readsPause_67 : decode cX8_readsPause 67 = .ok (.ifCond .eq 7, 3) := by decide +kernel
theorem dX8_readsPause_70 : decode cX8_readsPause 70 = .ok (.iload_n 3, 1) := by decide +kernel
theorem dX8_readsPause_71 : decode cX8_readsPause 71 = .ok (.goto 6, 3) := by decide +kernel
theorem dX8_readsPause_74 : decode cX8_readsPause 74 = .ok (.iconst (-1), 1) := by decide +kernel
theorem dX8_readsPause_75 : decode cX8_readsPause 75 = .ok (.iload_n 1, 1) := by decide +kernel
theorem dX8_readsPause_76 : decode cX8_readsPause 76 = .ok (.isub, 1) := by decide +kernel
theorem dX8_readsPause_77 : decode cX8_readsPause 77 = .ok (.ireturn, 1) := by decide +kernel
theorem dX8_reads_0 : decode cX8_reads 0 = .ok (.aload_n 0, 1) := by decide +kernel
theorem dX8_reads_1 : decode cX8_reads 1 = .ok (.iconst 0, 1) := by decide +kernel
theorem dX8_reads_2 : decode cX8_reads 2 = .ok (.putfield 65, 3) := by decide +kernel
theorem dX8_reads_5 : decode cX8_reads 5 = .ok (.aload_n 0, 1) := by decide +kernel
theorem dX8_reads_6 : decode cX8_reads 6 = .ok (.iconst 0, 1) := by decide +kernel
theorem dX8_reads_7 : decode cX8_reads 7 = .ok (.putfield 71, 3) := by decide +kernel
theorem dX8_reads_10 : decode cX8_reads 10 = .ok (.aload_n 0, 1) := by decide +kernel
theorem dX8_reads_11 : decode cX8_reads 11 = .ok (.iconst (-1), 1) := by decide +kernel
theorem dX8_reads_12 : decode cX8_reads 12 = .ok (.putfield 68, 3) := by decide +kernel
theorem dX8_reads_15 : decode cX8_reads 15 = .ok (.iconst 0, 1) := by decide +kernel
theorem dX8_reads_16 : decode cX8_reads 16 = .ok (.istore_n 1, 1) := by decide +kernel
theorem dX8_reads_17 : decode cX8_reads 17 = .ok (.iconst 0, 1) := by decide +kernel
theorem dX8_reads_18 : decode cX8_reads 18 = .ok (.istore_n 2, 1) := by decide +kernel
theorem dX8_reads_19 : decode cX8_reads 19 = .ok (.iload_n 1, 1) := by decide +kernel
theorem dX8_reads_20 : decode cX8_reads 20 = .ok (.aload_n 0, 1) := by decide +kernel
theorem dX8_reads_21 : decode cX8_reads 21 = .ok (.getfield 59, 3) := by decide +kernel
theorem dX8_reads_24 : decode cX8_reads 24 = .ok (.if_icmp .lt 10, 3) := by decide +kernel
theorem dX8_reads_27 : decode cX8_reads 27 = .ok (.aload_n 0, 1) := by decide +kernel
theorem dX8_reads_28 : decode cX8_reads 28 = .ok (.getfield 65, 3) := by decide +kernel
theorem dX8_reads_31 : decode cX8_reads 31 = .ok (.ifCond .ne 79, 3) := by decide +kernel
theorem dX8_reads_34 : decode cX8_reads 34 = .ok (.aload_n 0, 1) := by decide +kernel
theorem dX8_reads_35 : decode cX8_reads 35 = .ok (.getfield 65, 3) := by decide +kernel
theorem dX8_reads_38 : decode cX8_reads 38 = .ok (.bipush 16, 2) := by decide +kernel
theorem dX8_reads_40 : decode cX8_reads 40 = .ok (.if_icmp .ne 9, 3) := by decide +kernel
theorem dX8_reads_43 : decode cX8_reads 43 = .ok (.iconst (-1), 1) := by decide +kernel
theorem dX8_reads_44 : decode cX8_reads 44 = .ok (.iload_n 1, 1) := by decide +kernel
theorem dX8_reads_45 : decode cX8_reads 45 = .ok (.isub, 1) := by decide +kernel
theorem dX8_reads_46 : decode cX8_reads 46 = .ok (.goto 8, 3) := by decide +kernel
theorem dX8_reads_49 : decode cX8_reads 49 = .ok (.aload_n 0, 1) := by decide +kernel
theorem dX8_reads_50 : decode cX8_reads 50 = .ok (.iload_n 1, 1) := by decide +kernel
theorem dX8_reads_51 : decode cX8_reads 51 = .ok (.invokevirtual 91, 3) := by decide +kernel
theorem dX8_reads_54 : decode cX8_reads 54 = .ok (.istore_n 3, 1) := by decide +kernel
theorem dX8_reads_55 : decode cX8_reads 55 = .ok (.iload_n 3, 1) := by decide +kernel
theorem dX8_reads_56 : decode cX8_reads 56 = .ok (.ifCond .ge 17, 3) := by decide +kernel
theorem dX8_reads_59 : decode cX8_reads 59 = .ok (.aload_n 0, 1) := by decide +kernel
theorem dX8_reads_60 : decode cX8_reads 60 = .ok (.iconst 1, 1) := by decide +kernel
theorem dX8_reads_61 : decode cX8_reads 61 = .ok (.putfield 94, 3) := by decide +kernel
theorem dX8_reads_64 : decode cX8_reads 64 = .ok (.aload_n 0, 1) := by decide +kernel
theorem dX8_reads_65 : decode cX8_reads 65 = .ok (.iconst (-1), 1) := by decide +kernel
theorem dX8_reads_66 : decode cX8_reads 66 = .ok (.iload_n 3, 1) := by decide +kernel
theorem dX8_reads_67 : decode cX8_reads 67 = .ok (.isub, 1) := by decide +kernel
theorem dX8_reads_68 : decode cX8_reads 68 = .ok (.putfield 97, 3) := by decide +kernel
theorem dX8_reads_71 : decode cX8_reads 71 = .ok (.iconst 0, 1) := by decide +kernel
theorem dX8_reads_72 : decode cX8_reads 72 = .ok (.ireturn, 1) := by decide +kernel
theorem dX8_reads_73 : decode cX8_reads 73 = .ok (.iload_n 2, 1) := by decide +kernel
theorem dX8_reads_74 : decode cX8_reads 74 = .ok (.ifCond .ne 15, 3) := by decide +kernel
theorem dX8_reads_77 : decode cX8_reads 77 = .ok (.aload_n 0, 1) := by decide +kernel
theorem dX8_reads_78 : decode cX8_reads 78 = .ok (.getfield 40, 3) := by decide +kernel
theorem dX8_reads_81 : decode cX8_reads 81 = .ok (.aload_n 0, 1) := by decide +kernel
theorem dX8_reads_82 : decode cX8_reads 82 = .ok (.getfield 65, 3) := by decide +kernel
theorem dX8_reads_85 : decode cX8_reads 85 = .ok (.iaload, 1) := by decide +kernel
theorem dX8_reads_86 : decode cX8_reads 86 = .ok (.ifCond .ne 7, 3) := by decide +kernel
theorem dX8_reads_89 : decode cX8_reads 89 = .ok (.iconst 1, 1) := by decide +kernel
theorem dX8_reads_90 : decode cX8_reads 90 = .ok (.goto 4, 3) := by decide +kernel
theorem dX8_reads_93 : decode cX8_reads 93 = .ok (.iconst 0, 1) := by decide +kernel
theorem dX8_reads_94 : decode cX8_reads 94 = .ok (.istore_n 2, 1) := by decide +kernel
theorem dX8_reads_95 : decode cX8_reads 95 = .ok (.iload_n 3, 1) := by decide +kernel
theorem dX8_reads_96 : decode cX8_reads 96 = .ok (.istore_n 1, 1) := by decide +kernel
theorem dX8_reads_97 : decode cX8_reads 97 = .ok (.aload_n 0, 1) := by decide +kernel
theorem dX8_reads_98 : decode cX8_reads 98 = .ok (.dup, 1) := by decide +kernel
theorem dX8_reads_99 : decode cX8_reads 99 = .ok (.getfield 65, 3) := by decide +kernel
theorem dX8_reads_102 : decode cX8_reads 102 = .ok (.iconst 1, 1) := by decide +kernel
theorem dX8_reads_103 : decode cX8_reads 103 = .ok (.iadd, 1) := by decide +kernel
theorem dX8_reads_104 : decode cX8_reads 104 = .ok (.putfield 65, 3) := by decide +kernel
theorem dX8_reads_107 : decode cX8_reads 107 = .ok (.goto (-88), 3) := by decide +kernel
theorem dX8_reads_110 : decode cX8_reads 110 = .ok (.aload_n 0, 1) := by decide +kernel
theorem dX8_reads_111 : decode cX8_reads 111 = .ok (.aload_n 0, 1) := by decide +kernel
theorem dX8_reads_112 : decode cX8_reads 112 = .ok (.getfield 68, 3) := by decide +kernel
theorem dX8_reads_115 : decode cX8_reads 115 = .ok (.ifCond .lt 7, 3) := by decide +kernel
theorem dX8_reads_118 : decode cX8_reads 118 = .ok (.iconst 2, 1) := by decide +kernel
theorem dX8_reads_119 : decode cX8_reads 119 = .ok (.goto 19, 3) := by decide +kernel
theorem dX8_reads_122 : decode cX8_reads 122 = .ok (.aload_n 0, 1) := by decide +kernel
theorem dX8_reads_123 : decode cX8_reads 123 = .ok (.getfield 71, 3) := by decide +kernel
theorem dX8_reads_126 : decode cX8_reads 126 = .ok (.ifCond .ne 7, 3) := by decide +kernel
theorem dX8_reads_129 : decode cX8_reads 129 = .ok (.iload_n 2, 1) := by decide +kernel
theorem dX8_reads_130 : decode cX8_reads 130 = .ok (.ifCond .ne 7, 3) := by decide +kernel
theorem dX8_reads_133 : decode cX8_reads 133 = .ok (.iconst 3, 1) := by decide +kernel
theorem dX8_reads_134 : decode cX8_reads 134 = .ok (.goto 4, 3) := by decide +kernel
theorem dX8_reads_137 : decode cX8_reads 137 = .ok (.iconst 0, 1) := by decide +kernel
theorem dX8_reads_138 : decode cX8_reads 138 = .ok (.putfield 94, 3) := by decide +kernel
theorem dX8_reads_141 : decode cX8_reads 141 = .ok (.aload_n 0, 1) := by decide +kernel
theorem dX8_reads_142 : decode cX8_reads 142 = .ok (.aload_n 0, 1) := by decide +kernel
theorem dX8_reads_143 : decode cX8_reads 143 = .ok (.getfield 68, 3) := by decide +kernel
theorem dX8_reads_146 : decode cX8_reads 146 = .ok (.ifCond .lt 10, 3) := by decide +kernel
theorem dX8_reads_149 : decode cX8_reads 149 = .ok (.aload_n 0, 1) := by decide +kernel
theorem dX8_reads_150 : decode cX8_reads 150 = .ok (.getfield 68, 3) := by decide +kernel
theorem dX8_reads_153 : decode cX8_reads 153 = .ok (.goto 7, 3) := by decide +kernel
theorem dX8_reads_156 : decode cX8_reads 156 = .ok (.aload_n 0, 1) := by decide +kernel
theorem dX8_reads_157 : decode cX8_reads 157 = .ok (.getfield 59, 3) := by decide +kernel
theorem dX8_reads_160 : decode cX8_reads 160 = .ok (.putfield 97, 3) := by decide +kernel
theorem dX8_reads_163 : decode cX8_reads 163 = .ok (.aload_n 0, 1) := by decide +kernel
theorem dX8_reads_164 : decode cX8_reads 164 = .ok (.getfield 94, 3) := by decide +kernel
theorem dX8_reads_167 : decode cX8_reads 167 = .ok (.ifCond .ne 7, 3) := by decide +kernel
theorem dX8_reads_170 : decode cX8_reads 170 = .ok (.iconst 1, 1) := by decide +kernel
theorem dX8_reads_171 : decode cX8_reads 171 = .ok (.goto 4, 3) := by decide +kernel
theorem dX8_reads_174 : decode cX8_reads 174 = .ok (.iconst 0, 1) := by decide +kernel
theorem dX8_reads_175 : decode cX8_reads 175 = .ok (.ireturn, 1) := by decide +kernel
theorem dX8_readSequence_0 : decode cX8_readSequence 0 = .ok (.aload_n 0, 1) := by decide +kernel
theorem dX8_readSequence_1 : decode cX8_readSequence 1 = .ok (.iconst 0, 1) := by decide +kernel
theorem dX8_readSequence_2 : decode cX8_readSequence 2 = .ok (.putfield 47, 3) := by decide +kernel
theorem dX8_readSequence_5 : decode cX8_readSequence 5 = .ok (.aload_n 0, 1) := by decide +kernel
theorem dX8_readSequence_6 : decode cX8_readSequence 6 = .ok (.invokevirtual 100, 3) := by decide +kernel
theorem dX8_readSequence_9 : decode cX8_readSequence 9 = .ok (.ifCond .ne 10, 3) := by decide +kernel
theorem dX8_readSequence_12 : decode cX8_readSequence 12 = .ok (.iconst (-1), 1) := by decide +kernel
theorem dX8_readSequence_13 : decode cX8_readSequence 13 = .ok (.aload_n 0, 1) := by decide +kernel
theorem dX8_readSequence_14 : decode cX8_readSequence 14 = .ok (.getfield 97, 3) := by decide +kernel
theorem dX8_readSequence_17 : decode cX8_readSequence 17 = .ok (.isub, 1) := by decide +kernel
theorem dX8_readSequence_18 : decode cX8_readSequence 18 = .ok (.ireturn, 1) := by decide +kernel
theorem dX8_readSequence_19 : decode cX8_readSequence 19 = .ok (.aload_n 0, 1) := by decide +kernel
theorem dX8_readSequence_20 : decode cX8_readSequence 20 = .ok (.aload_n 0, 1) := by decide +kernel
theorem dX8_readSequence_21 : decode cX8_readSequence 21 = .ok (.getfield 65, 3) := by decide +kernel
theorem dX8_readSequence_24 : decode cX8_readSequence 24 = .ok (.putfield 104, 3) := by decide +kernel
theorem dX8_readSequence_27 : decode cX8_readSequence 27 = .ok (.iconst 0, 1) := by decide +kernel
theorem dX8_readSequence_28 : decode cX8_readSequence 28 = .ok (.istore_n 1, 1) := by decide +kernel
theorem dX8_readSequence_29 : decode cX8_readSequence 29 = .ok (.iload_n 1, 1) := by decide +kernel
theorem dX8_readSequence_30 : decode cX8_readSequence 30 = .ok (.aload_n 0, 1) := by decide +kernel
theorem dX8_readSequence_31 : decode cX8_readSequence 31 = .ok (.getfield 104, 3) := by decide +kernel
theorem dX8_readSequence_34 : decode cX8_readSequence 34 = .ok (.if_icmp .ge 45, 3) := by decide +kernel
theorem dX8_readSequence_37 : decode cX8_readSequence 37 = .ok (.aload_n 0, 1) := by decide +kernel
theorem dX8_readSequence_38 : decode cX8_readSequence 38 = .ok (.getfield 19, 3) := by decide +kernel
theorem dX8_readSequence_41 : decode cX8_readSequence 41 = .ok (.iload_n 1, 1) := by decide +kernel
theorem dX8_readSequence_42 : decode cX8_readSequence 42 = .ok (.aload_n 0, 1) := by decide +kernel
theorem dX8_readSequence_43 : decode cX8_readSequence 43 = .ok (.getfield 34, 3) := by decide +kernel
theorem dX8_readSequence_46 : decode cX8_readSequence 46 = .ok (.iload_n 1, 1) := by decide +kernel
theorem dX8_readSequence_47 : decode cX8_readSequence 47 = .ok (.iaload, 1) := by decide +kernel
theorem dX8_readSequence_48 : decode cX8_readSequence 48 = .ok (.iastore, 1) := by decide +kernel
theorem dX8_readSequence_49 : decode cX8_readSequence 49 = .ok (.aload_n 0, 1) := by decide +kernel
theorem dX8_readSequence_50 : decode cX8_readSequence 50 = .ok (.getfield 22, 3) := by decide +kernel
theorem dX8_readSequence_53 : decode cX8_readSequence 53 = .ok (.iload_n 1, 1) := by decide +kernel
theorem dX8_readSequence_54 : decode cX8_readSequence 54 = .ok (.aload_n 0, 1) := by decide +kernel
theorem dX8_readSequence_55 : decode cX8_readSequence 55 = .ok (.getfield 37, 3) := by decide +kernel
theorem dX8_readSequence_58 : decode cX8_readSequence 58 = .ok (.iload_n 1, 1) := by decide +kernel
theorem dX8_readSequence_59 : decode cX8_readSequence 59 = .ok (.iaload, 1) := by decide +kernel
theorem dX8_readSequence_60 : decode cX8_readSequence 60 = .ok (.iastore, 1) := by decide +kernel
theorem dX8_readSequence_61 : decode cX8_readSequence 61 = .ok (.aload_n 0, 1) := by decide +kernel
theorem dX8_readSequence_62 : decode cX8_readSequence 62 = .ok (.getfield 25, 3) := by decide +kernel
theorem dX8_readSequence_65 : decode cX8_readSequence 65 = .ok (.iload_n 1, 1) := by decide +kernel
theorem dX8_readSequence_66 : decode cX8_readSequence 66 = .ok (.aload_n 0, 1) := by decide +kernel
theorem dX8_readSequence_67 : decode cX8_readSequence 67 = .ok (.getfield 40, 3) := by decide +kernel
theorem dX8_readSequence_70 : decode cX8_readSequence 70 = .ok (.iload_n 1, 1) := by decide +kernel
theorem dX8_readSequence_71 : decode cX8_readSequence 71 = .ok (.iaload, 1) := by decide +kernel
theorem dX8_readSequence_72 : decode cX8_readSequence 72 = .ok (.iastore, 1) := by decide +kernel
theorem dX8_readSequence_73 : decode cX8_readSequence 73 = .ok (.iinc 1 1, 3) := by decide +kernel
theorem dX8_readSequence_76 : decode cX8_readSequence 76 = .ok (.goto (-47), 3) := by decide +kernel
theorem dX8_readSequence_79 : decode cX8_readSequence 79 = .ok (.aload_n 0, 1) := by decide +kernel
theorem dX8_readSequence_80 : decode cX8_readSequence 80 = .ok (.invokevirtual 107, 3) := by decide +kernel
theorem dX8_readSequence_83 : decode cX8_readSequence 83 = .ok (.aload_n 0, 1) := by decide +kernel
theorem dX8_readSequence_84 : decode cX8_readSequence 84 = .ok (.iconst 0, 1) := by decide +kernel
theorem dX8_readSequence_85 : decode cX8_readSequence 85 = .ok (.putfield 59, 3) := by decide +kernel
theorem dX8_readSequence_88 : decode cX8_readSequence 88 = .ok (.aload_n 0, 1) := by decide +kernel
theorem dX8_readSequence_89 : decode cX8_readSequence 89 = .ok (.aload_n 0, 1) := by decide +kernel
theorem dX8_readSequence_90 : decode cX8_readSequence 90 = .ok (.getfield 7, 3) := by decide +kernel
theorem dX8_readSequence_93 : decode cX8_readSequence 93 = .ok (.invokevirtual 43, 3) := by decide +kernel
theorem dX8_readSequence_96 : decode cX8_readSequence 96 = .ok (.aload_n 0, 1) := by decide +kernel
theorem dX8_readSequence_97 : decode cX8_readSequence 97 = .ok (.getfield 104, 3) := by decide +kernel
theorem dX8_readSequence_100 : decode cX8_readSequence 100 = .ok (.ireturn, 1) := by decide +kernel
theorem dX8_errorKind_0 : decode cX8_errorKind 0 = .ok (.aload_n 0, 1) := by decide +kernel
theorem dX8_errorKind_1 : decode cX8_errorKind 1 = .ok (.iconst 0, 1) := by decide +kernel
theorem dX8_errorKind_2 : decode cX8_errorKind 2 = .ok (.putfield 47, 3) := by decide +kernel
theorem dX8_errorKind_5 : decode cX8_errorKind 5 = .ok (.aload_n 0, 1) := by decide +kernel
theorem dX8_errorKind_6 : decode cX8_errorKind 6 = .ok (.getfield 94, 3) := by decide +kernel
theorem dX8_errorKind_9 : decode cX8_errorKind 9 = .ok (.ireturn, 1) := by decide +kernel
theorem dX8_isStep_0 : decode cX8_isStep 0 = .ok (.iload_n 1, 1) := by decide +kernel
theorem dX8_isStep_1 : decode cX8_isStep 1 = .ok (.iconst 0, 1) := by decide +kernel
theorem dX8_isStep_2 : decode cX8_isStep 2 = .ok (.aload_n 0, 1) := by decide +kernel
theorem dX8_isStep_3 : decode cX8_isStep 3 = .ok (.getfield 104, 3) := by decide +kernel
theorem dX8_isStep_6 : decode cX8_isStep 6 = .ok (.iconst 1, 1) := by decide +kernel
theorem dX8_isStep_7 : decode cX8_isStep 7 = .ok (.isub, 1) := by decide +kernel
theorem dX8_isStep_8 : decode cX8_isStep 8 = .ok (.invokestatic 51, 3) := by decide +kernel
theorem dX8_isStep_11 : decode cX8_isStep 11 = .ok (.ireturn, 1) := by decide +kernel
theorem dX8_steps_0 : decode cX8_steps 0 = .ok (.aload_n 0, 1) := by decide +kernel
theorem dX8_steps_1 : decode cX8_steps 1 = .ok (.iconst 0, 1) := by decide +kernel
theorem dX8_steps_2 : decode cX8_steps 2 = .ok (.putfield 47, 3) := by decide +kernel
theorem dX8_steps_5 : decode cX8_steps 5 = .ok (.aload_n 0, 1) := by decide +kernel
theorem dX8_steps_6 : decode cX8_steps 6 = .ok (.getfield 104, 3) := by decide +kernel
theorem dX8_steps_9 : decode cX8_steps 9 = .ok (.ireturn, 1) := by decide +kernel
theorem dX8_moves_0 : decode cX8_moves 0 = .ok (.aload_n 0, 1) := by decide +kernel
theorem dX8_moves_1 : decode cX8_moves 1 = .ok (.iconst 0, 1) := by decide +kernel
theorem dX8_moves_2 : decode cX8_moves 2 = .ok (.putfield 47, 3) := by decide +kernel
theorem dX8_moves_5 : decode cX8_moves 5 = .ok (.aload_n 0, 1) := by decide +kernel
theorem dX8_moves_6 : decode cX8_moves 6 = .ok (.iload_n 1, 1) := by decide +kernel
theorem dX8_moves_7 : decode cX8_moves 7 = .ok (.invokevirtual 110, 3) := by decide +kernel
theorem dX8_moves_10 : decode cX8_moves 10 = .ok (.ifCond .eq 19, 3) := by decide +kernel
theorem dX8_moves_13 : decode cX8_moves 13 = .ok (.aload_n 0, 1) := by decide +kernel
theorem dX8_moves_14 : decode cX8_moves 14 = .ok (.getfield 19, 3) := by decide +kernel
theorem dX8_moves_17 : decode cX8_moves 17 = .ok (.iload_n 1, 1) := by decide +kernel
theorem dX8_moves_18 : decode cX8_moves 18 = .ok (.iaload, 1) := by decide +kernel
theorem dX8_moves_19 : decode cX8_moves 19 = .ok (.aload_n 0, 1) := by decide +kernel
theorem dX8_moves_20 : decode cX8_moves 20 = .ok (.getfield 22, 3) := by decide +kernel
theorem dX8_moves_23 : decode cX8_moves 23 = .ok (.iload_n 1, 1) := by decide +kernel
theorem dX8_moves_24 : decode cX8_moves 24 = .ok (.iaload, 1) := by decide +kernel
theorem dX8_moves_25 : decode cX8_moves 25 = .ok (.ior, 1) := by decide +kernel
theorem dX8_moves_26 : decode cX8_moves 26 = .ok (.goto 8, 3) := by decide +kernel
theorem dX8_moves_29 : decode cX8_moves 29 = .ok (.aload_n 0, 1) := by decide +kernel
theorem dX8_moves_30 : decode cX8_moves 30 = .ok (.iconst 1, 1) := by decide +kernel
theorem dX8_moves_31 : decode cX8_moves 31 = .ok (.invokevirtual 55, 3) := by decide +kernel
theorem dX8_moves_34 : decode cX8_moves 34 = .ok (.ireturn, 1) := by decide +kernel
theorem dX8_directionOf_0 : decode cX8_directionOf 0 = .ok (.aload_n 0, 1) := by decide +kernel
theorem dX8_directionOf_1 : decode cX8_directionOf 1 = .ok (.getfield 19, 3) := by decide +kernel
theorem dX8_directionOf_4 : decode cX8_directionOf 4 = .ok (.iload_n 1, 1) := by decide +kernel
theorem dX8_directionOf_5 : decode cX8_directionOf 5 = .ok (.iaload, 1) := by decide +kernel
theorem dX8_directionOf_6 : decode cX8_directionOf 6 = .ok (.iload_n 2, 1) := by decide +kernel
theorem dX8_directionOf_7 : decode cX8_directionOf 7 = .ok (.ishr, 1) := by decide +kernel
theorem dX8_directionOf_8 : decode cX8_directionOf 8 = .ok (.iconst 1, 1) := by decide +kernel
theorem dX8_directionOf_9 : decode cX8_directionOf 9 = .ok (.iand, 1) := by decide +kernel
theorem dX8_directionOf_10 : decode cX8_directionOf 10 = .ok (.aload_n 0, 1) := by decide +kernel
theorem dX8_directionOf_11 : decode cX8_directionOf 11 = .ok (.getfield 22, 3) := by decide +kernel
theorem dX8_directionOf_14 : decode cX8_directionOf 14 = .ok (.iload_n 1, 1) := by decide +kernel
theorem dX8_directionOf_15 : decode cX8_directionOf 15 = .ok (.iaload, 1) := by decide +kernel
theorem dX8_directionOf_16 : decode cX8_directionOf 16 = .ok (.iload_n 2, 1) := by decide +kernel
theorem dX8_directionOf_17 : decode cX8_directionOf 17 = .ok (.ishr, 1) := by decide +kernel
theorem dX8_directionOf_18 : decode cX8_directionOf 18 = .ok (.iconst 1, 1) := by decide +kernel
theorem dX8_directionOf_19 : decode cX8_directionOf 19 = .ok (.iand, 1) := by decide +kernel
theorem dX8_directionOf_20 : decode cX8_directionOf 20 = .ok (.isub, 1) := by decide +kernel
theorem dX8_directionOf_21 : decode cX8_directionOf 21 = .ok (.ireturn, 1) := by decide +kernel
theorem dX8_direction_0 : decode cX8_direction 0 = .ok (.aload_n 0, 1) := by decide +kernel
theorem dX8_direction_1 : decode cX8_direction 1 = .ok (.iconst 0, 1) := by decide +kernel
theorem dX8_direction_2 : decode cX8_direction 2 = .ok (.putfield 47, 3) := by decide +kernel
theorem dX8_direction_5 : decode cX8_direction 5 = .ok (.aload_n 0, 1) := by decide +kernel
theorem dX8_direction_6 : decode cX8_direction 6 = .ok (.iload_n 1, 1) := by decide +kernel
theorem dX8_direction_7 : decode cX8_direction 7 = .ok (.invokevirtual 110, 3) := by decide +kernel
theorem dX8_direction_10 : decode cX8_direction 10 = .ok (.ifCond .eq 21, 3) := by decide +kernel
theorem dX8_direction_13 : decode cX8_direction 13 = .ok (.iload_n 2, 1) := by decide +kernel
theorem dX8_direction_14 : decode cX8_direction 14 = .ok (.iconst 0, 1) := by decide +kernel
theorem dX8_direction_15 : decode cX8_direction 15 = .ok (.iconst 5, 1) := by decide +kernel
theorem dX8_direction_16 : decode cX8_direction 16 = .ok (.invokestatic 51, 3) := by decide +kernel
theorem dX8_direction_19 : decode cX8_direction 19 = .ok (.ifCond .eq 12, 3) := by decide +kernel
theorem dX8_direction_22 : decode cX8_direction 22 = .ok (.aload_n 0, 1) := by decide +kernel
theorem dX8_direction_23 : decode cX8_direction 23 = .ok (.iload_n 1, 1) := by decide +kernel
theorem dX8_direction_24 : decode cX8_direction 24 = .ok (.iload_n 2, 1) := by decide +kernel
theorem dX8_direction_25 : decode cX8_direction 25 = .ok (.invokevirtual 113, 3) := by decide +kernel
theorem dX8_direction_28 : decode cX8_direction 28 = .ok (.goto 8, 3) := by decide +kernel
theorem dX8_direction_31 : decode cX8_direction 31 = .ok (.aload_n 0, 1) := by decide +kernel
theorem dX8_direction_32 : decode cX8_direction 32 = .ok (.iconst 1, 1) := by decide +kernel
theorem dX8_direction_33 : decode cX8_direction 33 = .ok (.invokevirtual 55, 3) := by decide +kernel
theorem dX8_direction_36 : decode cX8_direction 36 = .ok (.ireturn, 1) := by decide +kernel
theorem dX8_pause_0 : decode cX8_pause 0 = .ok (.aload_n 0, 1) := by decide +kernel
theorem dX8_pause_1 : decode cX8_pause 1 = .ok (.iconst 0, 1) := by decide +kernel
theorem dX8_pause_2 : decode cX8_pause 2 = .ok (.putfield 47, 3) := by decide +kernel
theorem dX8_pause_5 : decode cX8_pause 5 = .ok (.aload_n 0, 1) := by decide +kernel
theorem dX8_pause_6 : decode cX8_pause 6 = .ok (.iload_n 1, 1) := by decide +kernel
theorem dX8_pause_7 : decode cX8_pause 7 = .ok (.invokevirtual 110, 3) := by decide +kernel
theorem dX8_pause_10 : decode cX8_pause 10 = .ok (.ifCond .eq 12, 3) := by decide +kernel
theorem dX8_pause_13 : decode cX8_pause 13 = .ok (.aload_n 0, 1) := by decide +kernel
theorem dX8_pause_14 : decode cX8_pause 14 = .ok (.getfield 25, 3) := by decide +kernel
theorem dX8_pause_17 : decode cX8_pause 17 = .ok (.iload_n 1, 1) := by decide +kernel
theorem dX8_pause_18 : decode cX8_pause 18 = .ok (.iaload, 1) := by decide +kernel
theorem dX8_pause_19 : decode cX8_pause 19 = .ok (.goto 8, 3) := by decide +kernel
theorem dX8_pause_22 : decode cX8_pause 22 = .ok (.aload_n 0, 1) := by decide +kernel
theorem dX8_pause_23 : decode cX8_pause 23 = .ok (.iconst 1, 1) := by decide +kernel
theorem dX8_pause_24 : decode cX8_pause 24 = .ok (.invokevirtual 55, 3) := by decide +kernel
theorem dX8_pause_27 : decode cX8_pause 27 = .ok (.ireturn, 1) := by decide +kernel
theorem dX8_before_0 : decode cX8_before 0 = .ok (.iload_n 1, 1) := by decide +kernel
theorem dX8_before_1 : decode cX8_before 1 = .ok (.ifCond .ne 12, 3) := by decide +kernel
theorem dX8_before_4 : decode cX8_before 4 = .ok (.aload_n 0, 1) := by decide +kernel
theorem dX8_before_5 : decode cX8_before 5 = .ok (.getfield 104, 3) := by decide +kernel
theorem dX8_before_8 : decode cX8_before 8 = .ok (.iconst 1, 1) := by decide +kernel
theorem dX8_before_9 : decode cX8_before 9 = .ok (.isub, 1) := by decide +kernel
theorem dX8_before_10 : decode cX8_before 10 = .ok (.goto 6, 3) := by decide +kernel
theorem dX8_before_13 : decode cX8_before 13 = .ok (.iload_n 1, 1) := by decide +kernel
theorem dX8_before_14 : decode cX8_before 14 = .ok (.iconst 1, 1) := by decide +kernel
theorem dX8_before_15 : decode cX8_before 15 = .ok (.isub, 1) := by decide +kernel
theorem dX8_before_16 : decode cX8_before 16 = .ok (.ireturn, 1) := by decide +kernel
theorem dX8_outBehind_0 : decode cX8_outBehind 0 = .ok (.iconst 0, 1) := by decide +kernel
theorem dX8_outBehind_1 : decode cX8_outBehind 1 = .ok (.istore_n 2, 1) := by decide +kernel
theorem dX8_outBehind_2 : decode cX8_outBehind 2 = .ok (.iconst 0, 1) := by decide +kernel
theorem dX8_outBehind_3 : decode cX8_outBehind 3 = .ok (.istore_n 3, 1) := by decide +kernel
theorem dX8_outBehind_4 : decode cX8_outBehind 4 = .ok (.iload_n 3, 1) := by decide +kernel
theorem dX8_outBehind_5 : decode cX8_outBehind 5 = .ok (.iload_n 1, 1) := by decide +kernel
theorem dX8_outBehind_6 : decode cX8_outBehind 6 = .ok (.if_icmp .ge 27, 3) := by decide +kernel
theorem dX8_outBehind_9 : decode cX8_outBehind 9 = .ok (.iload_n 2, 1) := by decide +kernel
theorem dX8_outBehind_10 : decode cX8_outBehind 10 = .ok (.aload_n 0, 1) := by decide +kernel
theorem dX8_outBehind_11 : decode cX8_outBehind 11 = .ok (.getfield 19, 3) := by decide +kernel
theorem dX8_outBehind_14 : decode cX8_outBehind 14 = .ok (.iload_n 3, 1) := by decide +kernel
theorem dX8_outBehind_15 : decode cX8_outBehind 15 = .ok (.iaload, 1) := by decide +kernel
theorem dX8_outBehind_16 : decode cX8_outBehind 16 = .ok (.ior, 1) := by decide +kernel
theorem dX8_outBehind_17 : decode cX8_outBehind 17 = .ok (.aload_n 0, 1) := by decide +kernel
theorem dX8_outBehind_18 : decode cX8_outBehind 18 = .ok (.getfield 22, 3) := by decide +kernel
theorem dX8_outBehind_21 : decode cX8_outBehind 21 = .ok (.iload_n 3, 1) := by decide +kernel
theorem dX8_outBehind_22 : decode cX8_outBehind 22 = .ok (.iaload, 1) := by decide +kernel
theorem dX8_outBehind_23 : decode cX8_outBehind 23 = .ok (.iconst (-1), 1) := by decide +kernel
theorem dX8_outBehind_24 : decode cX8_outBehind 24 = .ok (.ixor, 1) := by decide +kernel
theorem dX8_outBehind_25 : decode cX8_outBehind 25 = .ok (.iand, 1) := by decide +kernel
theorem dX8_outBehind_26 : decode cX8_outBehind 26 = .ok (.istore_n 2, 1) := by decide +kernel
theorem dX8_outBehind_27 : decode cX8_outBehind 27 = .ok (.iinc 3 1, 3) := by decide +kernel
theorem dX8_outBehind_30 : decode cX8_outBehind 30 = .ok (.goto (-26), 3) := by decide +kernel
theorem dX8_outBehind_33 : decode cX8_outBehind 33 = .ok (.iload_n 2, 1) := by decide +kernel
theorem dX8_outBehind_34 : decode cX8_outBehind 34 = .ok (.ireturn, 1) := by decide +kernel
theorem dX8_clashOf_0 : decode cX8_clashOf 0 = .ok (.aload_n 0, 1) := by decide +kernel
theorem dX8_clashOf_1 : decode cX8_clashOf 1 = .ok (.iload_n 1, 1) := by decide +kernel
theorem dX8_clashOf_2 : decode cX8_clashOf 2 = .ok (.invokevirtual 117, 3) := by decide +kernel
theorem dX8_clashOf_5 : decode cX8_clashOf 5 = .ok (.istore_n 3, 1) := by decide +kernel
theorem dX8_clashOf_6 : decode cX8_clashOf 6 = .ok (.iconst 0, 1) := by decide +kernel
theorem dX8_clashOf_7 : decode cX8_clashOf 7 = .ok (.istore 4, 2) := by decide +kernel
theorem dX8_clashOf_9 : decode cX8_clashOf 9 = .ok (.iload 4, 2) := by decide +kernel
theorem dX8_clashOf_11 : decode cX8_clashOf 11 = .ok (.aload_n 0, 1) := by decide +kernel
theorem dX8_clashOf_12 : decode cX8_clashOf 12 = .ok (.getfield 104, 3) := by decide +kernel
theorem dX8_clashOf_15 : decode cX8_clashOf 15 = .ok (.if_icmp .ge 94, 3) := by decide +kernel
theorem dX8_clashOf_18 : decode cX8_clashOf 18 = .ok (.aload_n 0, 1) := by decide +kernel
theorem dX8_clashOf_19 : decode cX8_clashOf 19 = .ok (.iload 4, 2) := by decide +kernel
theorem dX8_clashOf_21 : decode cX8_clashOf 21 = .ok (.invokevirtual 120, 3) := by decide +kernel
theorem dX8_clashOf_24 : decode cX8_clashOf 24 = .ok (.istore 5, 2) := by decide +kernel
theorem dX8_clashOf_26 : decode cX8_clashOf 26 = .ok (.aload_n 0, 1) := by decide +kernel
theorem dX8_clashOf_27 : decode cX8_clashOf 27 = .ok (.getfield 25, 3) := by decide +kernel
theorem dX8_clashOf_30 : decode cX8_clashOf 30 = .ok (.iload 5, 2) := by decide +kernel
