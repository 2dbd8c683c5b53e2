theorem dX12_alike_31 : decode cX12_alike 31 = .ok (.ifCond .ne 6, 3) := by decide +kernel
theorem dX12_alike_34 : decode cX12_alike 34 = .ok (.bipush (-3), 2) := by decide +kernel
theorem dX12_alike_36 : decode cX12_alike 36 = .ok (.ireturn, 1) := by decide +kernel
theorem dX12_alike_37 : decode cX12_alike 37 = .ok (.aload_n 0, 1) := by decide +kernel
theorem dX12_alike_38 : decode cX12_alike 38 = .ok (.iload_n 3, 1) := by decide +kernel
theorem dX12_alike_39 : decode cX12_alike 39 = .ok (.invokevirtual 368, 3) := by decide +kernel
theorem dX12_alike_42 : decode cX12_alike 42 = .ok (.iconst 1, 1) := by decide +kernel
theorem dX12_alike_43 : decode cX12_alike 43 = .ok (.istore 6, 2) := by decide +kernel
theorem dX12_alike_45 : decode cX12_alike 45 = .ok (.iload 6, 2) := by decide +kernel
theorem dX12_alike_47 : decode cX12_alike 47 = .ok (.ifCond .eq 25, 3) := by decide +kernel
theorem dX12_alike_50 : decode cX12_alike 50 = .ok (.aload_n 0, 1) := by decide +kernel
theorem dX12_alike_51 : decode cX12_alike 51 = .ok (.aload_n 0, 1) := by decide +kernel
theorem dX12_alike_52 : decode cX12_alike 52 = .ok (.iload_n 1, 1) := by decide +kernel
theorem dX12_alike_53 : decode cX12_alike 53 = .ok (.iload_n 2, 1) := by decide +kernel
theorem dX12_alike_54 : decode cX12_alike 54 = .ok (.invokevirtual 383, 3) := by decide +kernel
theorem dX12_alike_57 : decode cX12_alike 57 = .ok (.invokevirtual 374, 3) := by decide +kernel
theorem dX12_alike_60 : decode cX12_alike 60 = .ok (.aload_n 0, 1) := by decide +kernel
theorem dX12_alike_61 : decode cX12_alike 61 = .ok (.iload_n 3, 1) := by decide +kernel
theorem dX12_alike_62 : decode cX12_alike 62 = .ok (.iload 4, 2) := by decide +kernel
theorem dX12_alike_64 : decode cX12_alike 64 = .ok (.invokevirtual 377, 3) := by decide +kernel
theorem dX12_alike_67 : decode cX12_alike 67 = .ok (.istore 6, 2) := by decide +kernel
theorem dX12_alike_69 : decode cX12_alike 69 = .ok (.goto (-24), 3) := by decide +kernel
theorem dX12_alike_72 : decode cX12_alike 72 = .ok (.aload_n 0, 1) := by decide +kernel
theorem dX12_alike_73 : decode cX12_alike 73 = .ok (.iload 5, 2) := by decide +kernel
theorem dX12_alike_75 : decode cX12_alike 75 = .ok (.invokevirtual 380, 3) := by decide +kernel
theorem dX12_alike_78 : decode cX12_alike 78 = .ok (.ireturn, 1) := by decide +kernel
theorem dX12_fit_0 : decode cX12_fit 0 = .ok (.iload_n 1, 1) := by decide +kernel
theorem dX12_fit_1 : decode cX12_fit 1 = .ok (.invokestatic 334, 3) := by decide +kernel
theorem dX12_fit_4 : decode cX12_fit 4 = .ok (.ifCond .eq 34, 3) := by decide +kernel
theorem dX12_fit_7 : decode cX12_fit 7 = .ok (.aload_n 0, 1) := by decide +kernel
theorem dX12_fit_8 : decode cX12_fit 8 = .ok (.iload_n 2, 1) := by decide +kernel
theorem dX12_fit_9 : decode cX12_fit 9 = .ok (.iload_n 3, 1) := by decide +kernel
theorem dX12_fit_10 : decode cX12_fit 10 = .ok (.invokevirtual 365, 3) := by decide +kernel
theorem dX12_fit_13 : decode cX12_fit 13 = .ok (.ifCond .eq 25, 3) := by decide +kernel
theorem dX12_fit_16 : decode cX12_fit 16 = .ok (.iload 4, 2) := by decide +kernel
theorem dX12_fit_18 : decode cX12_fit 18 = .ok (.iconst 0, 1) := by decide +kernel
theorem dX12_fit_19 : decode cX12_fit 19 = .ok (.sipush 1008, 3) := by decide +kernel
theorem dX12_fit_22 : decode cX12_fit 22 = .ok (.invokestatic 137, 3) := by decide +kernel
theorem dX12_fit_25 : decode cX12_fit 25 = .ok (.ifCond .eq 13, 3) := by decide +kernel
theorem dX12_fit_28 : decode cX12_fit 28 = .ok (.iload 5, 2) := by decide +kernel
theorem dX12_fit_30 : decode cX12_fit 30 = .ok (.iconst (-1), 1) := by decide +kernel
theorem dX12_fit_31 : decode cX12_fit 31 = .ok (.iconst 5, 1) := by decide +kernel
theorem dX12_fit_32 : decode cX12_fit 32 = .ok (.invokestatic 137, 3) := by decide +kernel
theorem dX12_fit_35 : decode cX12_fit 35 = .ok (.ifCond .ne 6, 3) := by decide +kernel
theorem dX12_fit_38 : decode cX12_fit 38 = .ok (.bipush (-3), 2) := by decide +kernel
theorem dX12_fit_40 : decode cX12_fit 40 = .ok (.ireturn, 1) := by decide +kernel
theorem dX12_fit_41 : decode cX12_fit 41 = .ok (.aload_n 0, 1) := by decide +kernel
theorem dX12_fit_42 : decode cX12_fit 42 = .ok (.iload_n 2, 1) := by decide +kernel
theorem dX12_fit_43 : decode cX12_fit 43 = .ok (.invokevirtual 368, 3) := by decide +kernel
theorem dX12_fit_46 : decode cX12_fit 46 = .ok (.iconst 1, 1) := by decide +kernel
theorem dX12_fit_47 : decode cX12_fit 47 = .ok (.istore 6, 2) := by decide +kernel
theorem dX12_fit_49 : decode cX12_fit 49 = .ok (.iload 6, 2) := by decide +kernel
theorem dX12_fit_51 : decode cX12_fit 51 = .ok (.ifCond .eq 37, 3) := by decide +kernel
theorem dX12_fit_54 : decode cX12_fit 54 = .ok (.aload_n 0, 1) := by decide +kernel
theorem dX12_fit_55 : decode cX12_fit 55 = .ok (.iload_n 1, 1) := by decide +kernel
theorem dX12_fit_56 : decode cX12_fit 56 = .ok (.invokevirtual 371, 3) := by decide +kernel
theorem dX12_fit_59 : decode cX12_fit 59 = .ok (.aload_n 0, 1) := by decide +kernel
theorem dX12_fit_60 : decode cX12_fit 60 = .ok (.aload_n 0, 1) := by decide +kernel
theorem dX12_fit_61 : decode cX12_fit 61 = .ok (.getfield 298, 3) := by decide +kernel
theorem dX12_fit_64 : decode cX12_fit 64 = .ok (.iload 4, 2) := by decide +kernel
theorem dX12_fit_66 : decode cX12_fit 66 = .ok (.if_icmp .ne 7, 3) := by decide +kernel
theorem dX12_fit_69 : decode cX12_fit 69 = .ok (.iconst 1, 1) := by decide +kernel
theorem dX12_fit_70 : decode cX12_fit 70 = .ok (.goto 4, 3) := by decide +kernel
theorem dX12_fit_73 : decode cX12_fit 73 = .ok (.iconst 0, 1) := by decide +kernel
theorem dX12_fit_74 : decode cX12_fit 74 = .ok (.invokevirtual 374, 3) := by decide +kernel
theorem dX12_fit_77 : decode cX12_fit 77 = .ok (.aload_n 0, 1) := by decide +kernel
theorem dX12_fit_78 : decode cX12_fit 78 = .ok (.iload_n 2, 1) := by decide +kernel
theorem dX12_fit_79 : decode cX12_fit 79 = .ok (.iload_n 3, 1) := by decide +kernel
theorem dX12_fit_80 : decode cX12_fit 80 = .ok (.invokevirtual 377, 3) := by decide +kernel
theorem dX12_fit_83 : decode cX12_fit 83 = .ok (.istore 6, 2) := by decide +kernel
theorem dX12_fit_85 : decode cX12_fit 85 = .ok (.goto (-36), 3) := by decide +kernel
theorem dX12_fit_88 : decode cX12_fit 88 = .ok (.aload_n 0, 1) := by decide +kernel
theorem dX12_fit_89 : decode cX12_fit 89 = .ok (.iload 5, 2) := by decide +kernel
theorem dX12_fit_91 : decode cX12_fit 91 = .ok (.invokevirtual 380, 3) := by decide +kernel
theorem dX12_fit_94 : decode cX12_fit 94 = .ok (.ireturn, 1) := by decide +kernel
theorem dX12_standingNow_0 : decode cX12_standingNow 0 = .ok (.aload_n 0, 1) := by decide +kernel
theorem dX12_standingNow_1 : decode cX12_standingNow 1 = .ok (.getfield 286, 3) := by decide +kernel
theorem dX12_standingNow_4 : decode cX12_standingNow 4 = .ok (.i2l, 1) := by decide +kernel
theorem dX12_standingNow_5 : decode cX12_standingNow 5 = .ok (.lstore_n 1, 1) := by decide +kernel
theorem dX12_standingNow_6 : decode cX12_standingNow 6 = .ok (.iconst 0, 1) := by decide +kernel
theorem dX12_standingNow_7 : decode cX12_standingNow 7 = .ok (.istore_n 3, 1) := by decide +kernel
theorem dX12_standingNow_8 : decode cX12_standingNow 8 = .ok (.iload_n 3, 1) := by decide +kernel
theorem dX12_standingNow_9 : decode cX12_standingNow 9 = .ok (.bipush 6, 2) := by decide +kernel
theorem dX12_standingNow_11 : decode cX12_standingNow 11 = .ok (.if_icmp .ge 23, 3) := by decide +kernel
theorem dX12_standingNow_14 : decode cX12_standingNow 14 = .ok (.ldc2_w 386, 3) := by decide +kernel
theorem dX12_standingNow_17 : decode cX12_standingNow 17 = .ok (.lload_n 1, 1) := by decide +kernel
theorem dX12_standingNow_18 : decode cX12_standingNow 18 = .ok (.lmul, 1) := by decide +kernel
theorem dX12_standingNow_19 : decode cX12_standingNow 19 = .ok (.aload_n 0, 1) := by decide +kernel
theorem dX12_standingNow_20 : decode cX12_standingNow 20 = .ok (.getfield 71, 3) := by decide +kernel
theorem dX12_standingNow_23 : decode cX12_standingNow 23 = .ok (.iload_n 3, 1) := by decide +kernel
theorem dX12_standingNow_24 : decode cX12_standingNow 24 = .ok (.iaload, 1) := by decide +kernel
theorem dX12_standingNow_25 : decode cX12_standingNow 25 = .ok (.i2l, 1) := by decide +kernel
theorem dX12_standingNow_26 : decode cX12_standingNow 26 = .ok (.ladd, 1) := by decide +kernel
theorem dX12_standingNow_27 : decode cX12_standingNow 27 = .ok (.lstore_n 1, 1) := by decide +kernel
theorem dX12_standingNow_28 : decode cX12_standingNow 28 = .ok (.iinc 3 1, 3) := by decide +kernel
theorem dX12_standingNow_31 : decode cX12_standingNow 31 = .ok (.goto (-23), 3) := by decide +kernel
theorem dX12_standingNow_34 : decode cX12_standingNow 34 = .ok (.lload_n 1, 1) := by decide +kernel
theorem dX12_standingNow_35 : decode cX12_standingNow 35 = .ok (.lreturn, 1) := by decide +kernel
theorem dX12_round_0 : decode cX12_round 0 = .ok (.iload_n 1, 1) := by decide +kernel
theorem dX12_round_1 : decode cX12_round 1 = .ok (.invokestatic 334, 3) := by decide +kernel
theorem dX12_round_4 : decode cX12_round 4 = .ok (.ifCond .eq 12, 3) := by decide +kernel
theorem dX12_round_7 : decode cX12_round 7 = .ok (.iload_n 2, 1) := by decide +kernel
theorem dX12_round_8 : decode cX12_round 8 = .ok (.iconst 0, 1) := by decide +kernel
theorem dX12_round_9 : decode cX12_round 9 = .ok (.iconst 2, 1) := by decide +kernel
theorem dX12_round_10 : decode cX12_round 10 = .ok (.invokestatic 137, 3) := by decide +kernel
theorem dX12_round_13 : decode cX12_round 13 = .ok (.ifCond .ne 5, 3) := by decide +kernel
theorem dX12_round_16 : decode cX12_round 16 = .ok (.iconst (-1), 1) := by decide +kernel
theorem dX12_round_17 : decode cX12_round 17 = .ok (.ireturn, 1) := by decide +kernel
theorem dX12_round_18 : decode cX12_round 18 = .ok (.aload_n 0, 1) := by decide +kernel
theorem dX12_round_19 : decode cX12_round 19 = .ok (.aload_n 0, 1) := by decide +kernel
theorem dX12_round_20 : decode cX12_round 20 = .ok (.getfield 16, 3) := by decide +kernel
theorem dX12_round_23 : decode cX12_round 23 = .ok (.invokevirtual 340, 3) := by decide +kernel
theorem dX12_round_26 : decode cX12_round 26 = .ok (.aload_n 0, 1) := by decide +kernel
theorem dX12_round_27 : decode cX12_round 27 = .ok (.iload_n 1, 1) := by decide +kernel
theorem dX12_round_28 : decode cX12_round 28 = .ok (.invokevirtual 323, 3) := by decide +kernel
theorem dX12_round_31 : decode cX12_round 31 = .ok (.aload_n 0, 1) := by decide +kernel
theorem dX12_round_32 : decode cX12_round 32 = .ok (.iload_n 1, 1) := by decide +kernel
theorem dX12_round_33 : decode cX12_round 33 = .ok (.invokevirtual 326, 3) := by decide +kernel
theorem dX12_round_36 : decode cX12_round 36 = .ok (.ifCond .eq 35, 3) := by decide +kernel
theorem dX12_round_39 : decode cX12_round 39 = .ok (.aload_n 0, 1) := by decide +kernel
theorem dX12_round_40 : decode cX12_round 40 = .ok (.getfield 289, 3) := by decide +kernel
theorem dX12_round_43 : decode cX12_round 43 = .ok (.sipush 20000, 3) := by decide +kernel
theorem dX12_round_46 : decode cX12_round 46 = .ok (.if_icmp .ge 25, 3) := by decide +kernel
theorem dX12_round_49 : decode cX12_round 49 = .ok (.aload_n 0, 1) := by decide +kernel
theorem dX12_round_50 : decode cX12_round 50 = .ok (.getfield 83, 3) := by decide +kernel
theorem dX12_round_53 : decode cX12_round 53 = .ok (.aload_n 0, 1) := by decide +kernel
theorem dX12_round_54 : decode cX12_round 54 = .ok (.getfield 289, 3) := by decide +kernel
theorem dX12_round_57 : decode cX12_round 57 = .ok (.aload_n 0, 1) := by decide +kernel
theorem dX12_round_58 : decode cX12_round 58 = .ok (.invokevirtual 388, 3) := by decide +kernel
theorem dX12_round_61 : decode cX12_round 61 = .ok (.lastore, 1) := by decide +kernel
theorem dX12_round_62 : decode cX12_round 62 = .ok (.aload_n 0, 1) := by decide +kernel
theorem dX12_round_63 : decode cX12_round 63 = .ok (.iload_n 1, 1) := by decide +kernel
theorem dX12_round_64 : decode cX12_round 64 = .ok (.iconst 1, 1) := by decide +kernel
theorem dX12_round_65 : decode cX12_round 65 = .ok (.invokevirtual 329, 3) := by decide +kernel
theorem dX12_round_68 : decode cX12_round 68 = .ok (.goto (-37), 3) := by decide +kernel
theorem dX12_round_71 : decode cX12_round 71 = .ok (.aload_n 0, 1) := by decide +kernel
theorem dX12_round_72 : decode cX12_round 72 = .ok (.iload_n 1, 1) := by decide +kernel
theorem dX12_round_73 : decode cX12_round 73 = .ok (.invokevirtual 326, 3) := by decide +kernel
theorem dX12_round_76 : decode cX12_round 76 = .ok (.ifCond .ne 14, 3) := by decide +kernel
theorem dX12_round_79 : decode cX12_round 79 = .ok (.iload_n 2, 1) := by decide +kernel
theorem dX12_round_80 : decode cX12_round 80 = .ok (.ifCond .ne 7, 3) := by decide +kernel
theorem dX12_round_83 : decode cX12_round 83 = .ok (.iconst 0, 1) := by decide +kernel
theorem dX12_round_84 : decode cX12_round 84 = .ok (.goto 5, 3) := by decide +kernel
theorem dX12_round_87 : decode cX12_round 87 = .ok (.bipush (-2), 2) := by decide +kernel
theorem dX12_round_89 : decode cX12_round 89 = .ok (.ireturn, 1) := by decide +kernel
theorem dX12_round_90 : decode cX12_round 90 = .ok (.aload_n 0, 1) := by decide +kernel
theorem dX12_round_91 : decode cX12_round 91 = .ok (.getfield 83, 3) := by decide +kernel
theorem dX12_round_94 : decode cX12_round 94 = .ok (.sipush 20000, 3) := by decide +kernel
theorem dX12_round_97 : decode cX12_round 97 = .ok (.aload_n 0, 1) := by decide +kernel
theorem dX12_round_98 : decode cX12_round 98 = .ok (.invokevirtual 388, 3) := by decide +kernel
theorem dX12_round_101 : decode cX12_round 101 = .ok (.lastore, 1) := by decide +kernel
theorem dX12_round_102 : decode cX12_round 102 = .ok (.sipush 19999, 3) := by decide +kernel
theorem dX12_round_105 : decode cX12_round 105 = .ok (.istore_n 3, 1) := by decide +kernel
theorem dX12_round_106 : decode cX12_round 106 = .ok (.iload_n 3, 1) := by decide +kernel
theorem dX12_round_107 : decode cX12_round 107 = .ok (.ifCond .lt 28, 3) := by decide +kernel
theorem dX12_round_110 : decode cX12_round 110 = .ok (.aload_n 0, 1) := by decide +kernel
theorem dX12_round_111 : decode cX12_round 111 = .ok (.getfield 83, 3) := by decide +kernel
theorem dX12_round_114 : decode cX12_round 114 = .ok (.iload_n 3, 1) := by decide +kernel
theorem dX12_round_115 : decode cX12_round 115 = .ok (.laload, 1) := by decide +kernel
theorem dX12_round_116 : decode cX12_round 116 = .ok (.aload_n 0, 1) := by decide +kernel
theorem dX12_round_117 : decode cX12_round 117 = .ok (.getfield 83, 3) := by decide +kernel
theorem dX12_round_120 : decode cX12_round 120 = .ok (.sipush 20000, 3) := by decide +kernel
theorem dX12_round_123 : decode cX12_round 123 = .ok (.laload, 1) := by decide +kernel
theorem dX12_round_124 : decode cX12_round 124 = .ok (.lcmp, 1) := by decide +kernel
theorem dX12_round_125 : decode cX12_round 125 = .ok (.ifCond .eq 10, 3) := by decide +kernel
theorem dX12_round_128 : decode cX12_round 128 = .ok (.iload_n 3, 1) := by decide +kernel
theorem dX12_round_129 : decode cX12_round 129 = .ok (.iconst 1, 1) := by decide +kernel
theorem dX12_round_130 : decode cX12_round 130 = .ok (.isub, 1) := by decide +kernel
theorem dX12_round_131 : decode cX12_round 131 = .ok (.istore_n 3, 1) := by decide +kernel
theorem dX12_round_132 : decode cX12_round 132 = .ok (.goto (-26), 3) := by decide +kernel
theorem dX12_round_135 : decode cX12_round 135 = .ok (.iload_n 3, 1) := by decide +kernel
theorem dX12_round_136 : decode cX12_round 136 = .ok (.ifCond .ge 14, 3) := by decide +kernel
theorem dX12_round_139 : decode cX12_round 139 = .ok (.iload_n 2, 1) := by decide +kernel
theorem dX12_round_140 : decode cX12_round 140 = .ok (.ifCond .ne 7, 3) := by decide +kernel
theorem dX12_round_143 : decode cX12_round 143 = .ok (.iconst 2, 1) := by decide +kernel
theorem dX12_round_144 : decode cX12_round 144 = .ok (.goto 5, 3) := by decide +kernel
theorem dX12_round_147 : decode cX12_round 147 = .ok (.bipush (-2), 2) := by decide +kernel
theorem dX12_round_149 : decode cX12_round 149 = .ok (.ireturn, 1) := by decide +kernel
theorem dX12_round_150 : decode cX12_round 150 = .ok (.sipush 20000, 3) := by decide +kernel
theorem dX12_round_153 : decode cX12_round 153 = .ok (.iload_n 3, 1) := by decide +kernel
theorem dX12_round_154 : decode cX12_round 154 = .ok (.isub, 1) := by decide +kernel
theorem dX12_round_155 : decode cX12_round 155 = .ok (.istore 4, 2) := by decide +kernel
theorem dX12_round_157 : decode cX12_round 157 = .ok (.iconst 0, 1) := by decide +kernel
theorem dX12_round_158 : decode cX12_round 158 = .ok (.istore 5, 2) := by decide +kernel
theorem dX12_round_160 : decode cX12_round 160 = .ok (.aload_n 0, 1) := by decide +kernel
theorem dX12_round_161 : decode cX12_round 161 = .ok (.getfield 83, 3) := by decide +kernel
theorem dX12_round_164 : decode cX12_round 164 = .ok (.iload 5, 2) := by decide +kernel
theorem dX12_round_166 : decode cX12_round 166 = .ok (.laload, 1) := by decide +kernel
theorem dX12_round_167 : decode cX12_round 167 = .ok (.aload_n 0, 1) := by decide +kernel
theorem dX12_round_168 : decode cX12_round 168 = .ok (.getfield 83, 3) := by decide +kernel
theorem dX12_round_171 : decode cX12_round 171 = .ok (.iload 5, 2) := by decide +kernel
theorem dX12_round_173 : decode cX12_round 173 = .ok (.iload 4, 2) := by decide +kernel
theorem dX12_round_175 : decode cX12_round 175 = .ok (.iadd, 1) := by decide +kernel
theorem dX12_round_176 : decode cX12_round 176 = .ok (.laload, 1) := by decide +kernel
theorem dX12_round_177 : decode cX12_round 177 = .ok (.lcmp, 1) := by decide +kernel
theorem dX12_round_178 : decode cX12_round 178 = .ok (.ifCond .eq 12, 3) := by decide +kernel
theorem dX12_round_181 : decode cX12_round 181 = .ok (.iload 5, 2) := by decide +kernel
theorem dX12_round_183 : decode cX12_round 183 = .ok (.iconst 1, 1) := by decide +kernel
theorem dX12_round_184 : decode cX12_round 184 = .ok (.iadd, 1) := by decide +kernel
theorem dX12_round_185 : decode cX12_round 185 = .ok (.istore 5, 2) := by decide +kernel
theorem dX12_round_187 : decode cX12_round 187 = .ok (.goto (-27), 3) := by decide +kernel
theorem dX12_round_190 : decode cX12_round 190 = .ok (.iload_n 2, 1) := by decide +kernel
theorem dX12_round_191 : decode cX12_round 191 = .ok (.ifCond .ne 7, 3) := by decide +kernel
theorem dX12_round_194 : decode cX12_round 194 = .ok (.iconst 1, 1) := by decide +kernel
theorem dX12_round_195 : decode cX12_round 195 = .ok (.goto 15, 3) := by decide +kernel
theorem dX12_round_198 : decode cX12_round 198 = .ok (.iload_n 2, 1) := by decide +kernel
theorem dX12_round_199 : decode cX12_round 199 = .ok (.iconst 1, 1) := by decide +kernel
theorem dX12_round_200 : decode cX12_round 200 = .ok (.if_icmp .ne 8, 3) := by decide +kernel
theorem dX12_round_203 : decode cX12_round 203 = .ok (.iload 5, 2) := by decide +kernel
theorem dX12_round_205 : decode cX12_round 205 = .ok (.goto 5, 3) := by decide +kernel
theorem dX12_round_208 : decode cX12_round 208 = .ok (.iload 4, 2) := by decide +kernel
theorem dX12_round_210 : decode cX12_round 210 = .ok (.ireturn, 1) := by decide +kernel
theorem dX12_standingOf_0 : decode cX12_standingOf 0 = .ok (.iconst 0, 1) := by decide +kernel
theorem dX12_standingOf_1 : decode cX12_standingOf 1 = .ok (.istore_n 1, 1) := by decide +kernel
theorem dX12_standingOf_2 : decode cX12_standingOf 2 = .ok (.iconst 0, 1) := by decide +kernel
theorem dX12_standingOf_3 : decode cX12_standingOf 3 = .ok (.istore_n 2, 1) := by decide +kernel
theorem dX12_standingOf_4 : decode cX12_standingOf 4 = .ok (.iload_n 2, 1) := by decide +kernel
theorem dX12_standingOf_5 : decode cX12_standingOf 5 = .ok (.bipush 6, 2) := by decide +kernel
theorem dX12_standingOf_7 : decode cX12_standingOf 7 = .ok (.if_icmp .ge 27, 3) := by decide +kernel
theorem dX12_standingOf_10 : decode cX12_standingOf 10 = .ok (.iload_n 1, 1) := by decide +kernel
theorem dX12_standingOf_11 : decode cX12_standingOf 11 = .ok (.aload_n 0, 1) := by decide +kernel
theorem dX12_standingOf_12 : decode cX12_standingOf 12 = .ok (.getfield 13, 3) := by decide +kernel
theorem dX12_standingOf_15 : decode cX12_standingOf 15 = .ok (.iload_n 2, 1) := by decide +kernel
theorem dX12_standingOf_16 : decode cX12_standingOf 16 = .ok (.iaload, 1) := by decide +kernel
theorem dX12_standingOf_17 : decode cX12_standingOf 17 = .ok (.iconst 1, 1) := by decide +kernel
theorem dX12_standingOf_18 : decode cX12_standingOf 18 = .ok (.iadd, 1) := by decide +kernel
theorem dX12_standingOf_19 : decode cX12_standingOf 19 = .ok (.imul, 1) := by decide +kernel
theorem dX12_standingOf_20 : decode cX12_standingOf 20 = .ok (.aload_n 0, 1) := by decide +kernel
theorem dX12_standingOf_21 : decode cX12_standingOf 21 = .ok (.getfield 71, 3) := by decide +kernel
theorem dX12_standingOf_24 : decode cX12_standingOf 24 = .ok (.iload_n 2, 1) := by decide +kernel
theorem dX12_standingOf_25 : decode cX12_standingOf 25 = .ok (.iaload, 1) := by decide +kernel
theorem dX12_standingOf_26 : decode cX12_standingOf 26 = .ok (.iadd, 1) := by decide +kernel
theorem dX12_standingOf_27 : decode cX12_standingOf 27 = .ok (.istore_n 1, 1) := by decide +kernel
theorem dX12_standingOf_28 : decode cX12_standingOf 28 = .ok (.iinc 2 1, 3) := by decide +kernel
theorem dX12_standingOf_31 : decode cX12_standingOf 31 = .ok (.goto (-27), 3) := by decide +kernel
theorem dX12_standingOf_34 : decode cX12_standingOf 34 = .ok (.iload_n 1, 1) := by decide +kernel
theorem dX12_standingOf_35 : decode cX12_standingOf 35 = .ok (.ireturn, 1) := by decide +kernel
theorem dX12_standsAt_0 : decode cX12_standsAt 0 = .ok (.iload_n 1, 1) := by decide +kernel
theorem dX12_standsAt_1 : decode cX12_standsAt 1 = .ok (.istore_n 2, 1) := by decide +kernel
theorem dX12_standsAt_2 : decode cX12_standsAt 2 = .ok (.iconst 5, 1) := by decide +kernel
theorem dX12_standsAt_3 : decode cX12_standsAt 3 = .ok (.istore_n 3, 1) := by decide +kernel
theorem dX12_standsAt_4 : decode cX12_standsAt 4 = .ok (.iload_n 3, 1) := by decide +kernel
theorem dX12_standsAt_5 : decode cX12_standsAt 5 = .ok (.ifCond .lt 36, 3) := by decide +kernel
theorem dX12_standsAt_8 : decode cX12_standsAt 8 = .ok (.aload_n 0, 1) := by decide +kernel
theorem dX12_standsAt_9 : decode cX12_standsAt 9 = .ok (.getfield 71, 3) := by decide +kernel
theorem dX12_standsAt_12 : decode cX12_standsAt 12 = .ok (.iload_n 3, 1) := by decide +kernel
theorem dX12_standsAt_13 : decode cX12_standsAt 13 = .ok (.iload_n 2, 1) := by decide +kernel
theorem dX12_standsAt_14 : decode cX12_standsAt 14 = .ok (.aload_n 0, 1) := by decide +kernel
theorem dX12_standsAt_15 : decode cX12_standsAt 15 = .ok (.getfield 13, 3) := by decide +kernel
theorem dX12_standsAt_18 : decode cX12_standsAt 18 = .ok (.iload_n 3, 1) := by decide +kernel
theorem dX12_standsAt_19 : decode cX12_standsAt 19 = .ok (.iaload, 1) := by decide +kernel
theorem dX12_standsAt_20 : decode cX12_standsAt 20 = .ok (.iconst 1, 1) := by decide +kernel
theorem dX12_standsAt_21 : decode cX12_standsAt 21 = .ok (.iadd, 1) := by decide +kernel
theorem dX12_standsAt_22 : decode cX12_standsAt 22 = .ok (.irem, 1) := by decide +kernel
theorem dX12_standsAt_23 : decode cX12_standsAt 23 = .ok (.iastore, 1) := by decide +kernel
theorem dX12_standsAt_24 : decode cX12_standsAt 24 = .ok (.iload_n 2, 1) := by decide +kernel
theorem dX12_standsAt_25 : decode cX12_standsAt 25 = .ok (.aload_n 0, 1) := by decide +kernel
theorem dX12_standsAt_26 : decode cX12_standsAt 26 = .ok (.getfield 13, 3) := by decide +kernel
theorem dX12_standsAt_29 : decode cX12_standsAt 29 = .ok (.iload_n 3, 1) := by decide +kernel
theorem dX12_standsAt_30 : decode cX12_standsAt 30 = .ok (.iaload, 1) := by decide +kernel
theorem dX12_standsAt_31 : decode cX12_standsAt 31 = .ok (.iconst 1, 1) := by decide +kernel
theorem dX12_standsAt_32 : decode cX12_standsAt 32 = .ok (.iadd, 1) := by decide +kernel
theorem dX12_standsAt_33 : decode cX12_standsAt 33 = .ok (.idiv, 1) := by decide +kernel
theorem dX12_standsAt_34 : decode cX12_standsAt 34 = .ok (.istore_n 2, 1) := by decide +kernel
theorem dX12_standsAt_35 : decode cX12_standsAt 35 = .ok (.iinc 3 (-1), 3) := by decide +kernel
theorem dX12_standsAt_38 : decode cX12_standsAt 38 = .ok (.goto (-34), 3) := by decide +kernel
theorem dX12_standsAt_41 : decode cX12_standsAt 41 = .ok (.return_, 1) := by decide +kernel
theorem dX12_acts_0 : decode cX12_acts 0 = .ok (.iload_n 1, 1) := by decide +kernel
theorem dX12_acts_1 : decode cX12_acts 1 = .ok (.bipush 6, 2) := by decide +kernel
theorem dX12_acts_3 : decode cX12_acts 3 = .ok (.if_icmp .ge 13, 3) := by decide +kernel
theorem dX12_acts_6 : decode cX12_acts 6 = .ok (.aload_n 0, 1) := by decide +kernel
theorem dX12_acts_7 : decode cX12_acts 7 = .ok (.iconst 0, 1) := by decide +kernel
theorem dX12_acts_8 : decode cX12_acts 8 = .ok (.iload_n 1, 1) := by decide +kernel
theorem dX12_acts_9 : decode cX12_acts 9 = .ok (.iconst 0, 1) := by decide +kernel
theorem dX12_acts_10 : decode cX12_acts 10 = .ok (.invokevirtual 317, 3) := by decide +kernel
theorem dX12_acts_13 : decode cX12_acts 13 = .ok (.goto 69, 3) := by decide +kernel
theorem dX12_acts_16 : decode cX12_acts 16 = .ok (.iload_n 1, 1) := by decide +kernel
theorem dX12_acts_17 : decode cX12_acts 17 = .ok (.bipush 12, 2) := by decide +kernel
theorem dX12_acts_19 : decode cX12_acts 19 = .ok (.if_icmp .ge 16, 3) := by decide +kernel
theorem dX12_acts_22 : decode cX12_acts 22 = .ok (.aload_n 0, 1) := by decide +kernel
theorem dX12_acts_23 : decode cX12_acts 23 = .ok (.iconst 1, 1) := by decide +kernel
theorem dX12_acts_24 : decode cX12_acts 24 = .ok (.iload_n 1, 1) := by decide +kernel
theorem dX12_acts_25 : decode cX12_acts 25 = .ok (.bipush 6, 2) := by decide +kernel
theorem dX12_acts_27 : decode cX12_acts 27 = .ok (.isub, 1) := by decide +kernel
theorem dX12_acts_28 : decode cX12_acts 28 = .ok (.iconst 0, 1) := by decide +kernel
theorem dX12_acts_29 : decode cX12_acts 29 = .ok (.invokevirtual 317, 3) := by decide +kernel
theorem dX12_acts_32 : decode cX12_acts 32 = .ok (.goto 50, 3) := by decide +kernel
theorem dX12_acts_35 : decode cX12_acts 35 = .ok (.iload_n 1, 1) := by decide +kernel
theorem dX12_acts_36 : decode cX12_acts 36 = .ok (.bipush 48, 2) := by decide +kernel
theorem dX12_acts_38 : decode cX12_acts 38 = .ok (.if_icmp .ge 25, 3) := by decide +kernel
theorem dX12_acts_41 : decode cX12_acts 41 = .ok (.aload_n 0, 1) := by decide +kernel
theorem dX12_acts_42 : decode cX12_acts 42 = .ok (.iconst 2, 1) := by decide +kernel
theorem dX12_acts_43 : decode cX12_acts 43 = .ok (.iload_n 1, 1) := by decide +kernel
theorem dX12_acts_44 : decode cX12_acts 44 = .ok (.bipush 12, 2) := by decide +kernel
theorem dX12_acts_46 : decode cX12_acts 46 = .ok (.isub, 1) := by decide +kernel
theorem dX12_acts_47 : decode cX12_acts 47 = .ok (.bipush 6, 2) := by decide +kernel
theorem dX12_acts_49 : decode cX12_acts 49 = .ok (.idiv, 1) := by decide +kernel
theorem dX12_acts_50 : decode cX12_acts 50 = .ok (.iload_n 1, 1) := by decide +kernel
theorem dX12_acts_51 : decode cX12_acts 51 = .ok (.bipush 12, 2) := by decide +kernel
theorem dX12_acts_53 : decode cX12_acts 53 = .ok (.isub, 1) := by decide +kernel
theorem dX12_acts_54 : decode cX12_acts 54 = .ok (.bipush 6, 2) := by decide +kernel
theorem dX12_acts_56 : decode cX12_acts 56 = .ok (.irem, 1) := by decide +kernel
theorem dX12_acts_57 : decode cX12_acts 57 = .ok (.invokevirtual 317, 3) := by decide +kernel
theorem dX12_acts_60 : decode cX12_acts 60 = .ok (.goto 22, 3) := by decide +kernel
theorem dX12_acts_63 : decode cX12_acts 63 = .ok (.aload_n 0, 1) := by decide +kernel
theorem dX12_acts_64 : decode cX12_acts 64 = .ok (.iconst 3, 1) := by decide +kernel
theorem dX12_acts_65 : decode cX12_acts 65 = .ok (.iload_n 1, 1) := by decide +kernel
theorem dX12_acts_66 : decode cX12_acts 66 = .ok (.bipush 48, 2) := by decide +kernel
theorem dX12_acts_68 : decode cX12_acts 68 = .ok (.isub, 1) := by decide +kernel
theorem dX12_acts_69 : decode cX12_acts 69 = .ok (.bipush 6, 2) := by decide +kernel
theorem dX12_acts_71 : decode cX12_acts 71 = .ok (.idiv, 1) := by decide +kernel
theorem dX12_acts_72 : decode cX12_acts 72 = .ok (.iload_n 1, 1) := by decide +kernel
theorem dX12_acts_73 : decode cX12_acts 73 = .ok (.bipush 48, 2) := by decide +kernel
theorem dX12_acts_75 : decode cX12_acts 75 = .ok (.isub, 1) := by decide +kernel
theorem dX12_acts_76 : decode cX12_acts 76 = .ok (.bipush 6, 2) := by decide +kernel
theorem dX12_acts_78 : decode cX12_acts 78 = .ok (.irem, 1) := by decide +kernel
theorem dX12_acts_79 : decode cX12_acts 79 = .ok (.invokevirtual 317, 3) := by decide +kernel
theorem dX12_acts_82 : decode cX12_acts 82 = .ok (.aload_n 0, 1) := by decide +kernel
theorem dX12_acts_83 : decode cX12_acts 83 = .ok (.invokevirtual 320, 3) := by decide +kernel
theorem dX12_acts_86 : decode cX12_acts 86 = .ok (.return_, 1) := by decide +kernel
theorem dX12_goesThrough_0 : decode cX12_goesThrough 0 = .ok (.iconst 0, 1) := by decide +kernel
theorem dX12_goesThrough_1 : decode cX12_goesThrough 1 = .ok (.istore_n 3, 1) := by decide +kernel
theorem dX12_goesThrough_2 : decode cX12_goesThrough 2 = .ok (.iload_n 3, 1) := by decide +kernel
theorem dX12_goesThrough_3 : decode cX12_goesThrough 3 = .ok (.sipush 20000, 3) := by decide +kernel
theorem dX12_goesThrough_6 : decode cX12_goesThrough 6 = .ok (.if_icmp .ge 16, 3) := by decide +kernel
theorem dX12_goesThrough_9 : decode cX12_goesThrough 9 = .ok (.aload_n 0, 1) := by decide +kernel
theorem dX12_goesThrough_10 : decode cX12_goesThrough 10 = .ok (.getfield 105, 3) := by decide +kernel
theorem dX12_goesThrough_13 : decode cX12_goesThrough 13 = .ok (.iload_n 3, 1) := by decide +kernel
theorem dX12_goesThrough_14 : decode cX12_goesThrough 14 = .ok (.iconst 0, 1) := by decide +kernel
theorem dX12_goesThrough_15 : decode cX12_goesThrough 15 = .ok (.iastore, 1) := by decide +kernel
theorem dX12_goesThrough_16 : decode cX12_goesThrough 16 = .ok (.iinc 3 1, 3) := by decide +kernel
theorem dX12_goesThrough_19 : decode cX12_goesThrough 19 = .ok (.goto (-17), 3) := by decide +kernel
theorem dX12_goesThrough_22 : decode cX12_goesThrough 22 = .ok (.aload_n 0, 1) := by decide +kernel
theorem dX12_goesThrough_23 : decode cX12_goesThrough 23 = .ok (.getfield 90, 3) := by decide +kernel
theorem dX12_goesThrough_26 : decode cX12_goesThrough 26 = .ok (.iconst 0, 1) := by decide +kernel
theorem dX12_goesThrough_27 : decode cX12_goesThrough 27 = .ok (.iload_n 1, 1) := by decide +kernel
theorem dX12_goesThrough_28 : decode cX12_goesThrough 28 = .ok (.iastore, 1) := by decide +kernel
theorem dX12_goesThrough_29 : decode cX12_goesThrough 29 = .ok (.aload_n 0, 1) := by decide +kernel
theorem dX12_goesThrough_30 : decode cX12_goesThrough 30 = .ok (.getfield 105, 3) := by decide +kernel
theorem dX12_goesThrough_33 : decode cX12_goesThrough 33 = .ok (.iload_n 1, 1) := by decide +kernel
theorem dX12_goesThrough_34 : decode cX12_goesThrough 34 = .ok (.iconst 1, 1) := by decide +kernel
theorem dX12_goesThrough_35 : decode cX12_goesThrough 35 = .ok (.iastore, 1) := by decide +kernel
theorem dX12_goesThrough_36 : decode cX12_goesThrough 36 = .ok (.aload_n 0, 1) := by decide +kernel
theorem dX12_goesThrough_37 : decode cX12_goesThrough 37 = .ok (.getfield 99, 3) := by decide +kernel
theorem dX12_goesThrough_40 : decode cX12_goesThrough 40 = .ok (.iconst 0, 1) := by decide +kernel
theorem dX12_goesThrough_41 : decode cX12_goesThrough 41 = .ok (.iconst 0, 1) := by decide +kernel
theorem dX12_goesThrough_42 : decode cX12_goesThrough 42 = .ok (.iastore, 1) := by decide +kernel
theorem dX12_goesThrough_43 : decode cX12_goesThrough 43 = .ok (.iload_n 1, 1) := by decide +kernel
theorem dX12_goesThrough_44 : decode cX12_goesThrough 44 = .ok (.iload_n 2, 1) := by decide +kernel
theorem dX12_goesThrough_45 : decode cX12_goesThrough 45 = .ok (.if_icmp .ne 5, 3) := by decide +kernel
theorem dX12_goesThrough_48 : decode cX12_goesThrough 48 = .ok (.iconst 0, 1) := by decide +kernel
theorem dX12_goesThrough_49 : decode cX12_goesThrough 49 = .ok (.ireturn, 1) := by decide +kernel
theorem dX12_goesThrough_50 : decode cX12_goesThrough 50 = .ok (.iconst 1, 1) := by decide +kernel
theorem dX12_goesThrough_51 : decode cX12_goesThrough 51 = .ok (.istore_n 3, 1) := by decide +kernel
theorem dX12_goesThrough_52 : decode cX12_goesThrough 52 = .ok (.iconst 0, 1) := by decide +kernel
theorem dX12_goesThrough_53 : decode cX12_goesThrough 53 = .ok (.istore 4, 2) := by decide +kernel
theorem dX12_goesThrough_55 : decode cX12_goesThrough 55 = .ok (.iload 4, 2) := by decide +kernel
theorem dX12_goesThrough_57 : decode cX12_goesThrough 57 = .ok (.iload_n 3, 1) := by decide +kernel
theorem dX12_goesThrough_58 : decode cX12_goesThrough 58 = .ok (.if_icmp .ge 135, 3) := by decide +kernel
theorem dX12_goesThrough_61 : decode cX12_goesThrough 61 = .ok (.aload_n 0, 1) := by decide +kernel
theorem dX12_goesThrough_62 : decode cX12_goesThrough 62 = .ok (.getfield 99, 3) := by decide +kernel
theorem dX12_goesThrough_65 : decode cX12_goesThrough 65 = .ok (.iload 4, 2) := by decide +kernel
theorem dX12_goesThrough_67 : decode cX12_goesThrough 67 = .ok (.iaload, 1) := by decide +kernel
theorem dX12_goesThrough_68 : decode cX12_goesThrough 68 = .ok (.bipush 100, 2) := by decide +kernel
theorem dX12_goesThrough_70 : decode cX12_goesThrough 70 = .ok (.if_icmp .ge 123, 3) := by decide +kernel
theorem dX12_goesThrough_73 : decode cX12_goesThrough 73 = .ok (.iconst 0, 1) := by decide +kernel
theorem dX12_goesThrough_74 : decode cX12_goesThrough 74 = .ok (.istore 5, 2) := by decide +kernel
theorem dX12_goesThrough_76 : decode cX12_goesThrough 76 = .ok (.iload 5, 2) := by decide +kernel
theorem dX12_goesThrough_78 : decode cX12_goesThrough 78 = .ok (.bipush 84, 2) := by decide +kernel
theorem dX12_goesThrough_80 : decode cX12_goesThrough 80 = .ok (.if_icmp .ge 107, 3) := by decide +kernel
theorem dX12_goesThrough_83 : decode cX12_goesThrough 83 = .ok (.aload_n 0, 1) := by decide +kernel
theorem dX12_goesThrough_84 : decode cX12_goesThrough 84 = .ok (.aload_n 0, 1) := by decide +kernel
theorem dX12_goesThrough_85 : decode cX12_goesThrough 85 = .ok (.getfield 90, 3) := by decide +kernel
theorem dX12_goesThrough_88 : decode cX12_goesThrough 88 = .ok (.iload 4, 2) := by decide +kernel
theorem dX12_goesThrough_90 : decode cX12_goesThrough 90 = .ok (.iaload, 1) := by decide +kernel
theorem dX12_goesThrough_91 : decode cX12_goesThrough 91 = .ok (.invokevirtual 392, 3) := by decide +kernel
theorem dX12_goesThrough_94 : decode cX12_goesThrough 94 = .ok (.aload_n 0, 1) := by decide +kernel
theorem dX12_goesThrough_95 : decode cX12_goesThrough 95 = .ok (.iload 5, 2) := by decide +kernel
theorem dX12_goesThrough_97 : decode cX12_goesThrough 97 = .ok (.invokevirtual 395, 3) := by decide +kernel
theorem dX12_goesThrough_100 : decode cX12_goesThrough 100 = .ok (.aload_n 0, 1) := by decide +kernel
theorem dX12_goesThrough_101 : decode cX12_goesThrough 101 = .ok (.invokevirtual 398, 3) := by decide +kernel
theorem dX12_goesThrough_104 : decode cX12_goesThrough 104 = .ok (.istore 6, 2) := by decide +kernel
theorem dX12_goesThrough_106 : decode cX12_goesThrough 106 = .ok (.aload_n 0, 1) := by decide +kernel
theorem dX12_goesThrough_107 : decode cX12_goesThrough 107 = .ok (.getfield 105, 3) := by decide +kernel
theorem dX12_goesThrough_110 : decode cX12_goesThrough 110 = .ok (.iload 6, 2) := by decide +kernel
theorem dX12_goesThrough_112 : decode cX12_goesThrough 112 = .ok (.iaload, 1) := by decide +kernel
theorem dX12_goesThrough_113 : decode cX12_goesThrough 113 = .ok (.iconst 1, 1) := by decide +kernel
theorem dX12_goesThrough_114 : decode cX12_goesThrough 114 = .ok (.if_icmp .ne 6, 3) := by decide +kernel
theorem dX12_goesThrough_117 : decode cX12_goesThrough 117 = .ok (.goto 64, 3) := by decide +kernel
theorem dX12_goesThrough_120 : decode cX12_goesThrough 120 = .ok (.aload_n 0, 1) := by decide +kernel
theorem dX12_goesThrough_121 : decode cX12_goesThrough 121 = .ok (.getfield 105, 3) := by decide +kernel
theorem dX12_goesThrough_124 : decode cX12_goesThrough 124 = .ok (.iload 6, 2) := by decide +kernel
theorem dX12_goesThrough_126 : decode cX12_goesThrough 126 = .ok (.iconst 1, 1) := by decide +kernel
theorem dX12_goesThrough_127 : decode cX12_goesThrough 127 = .ok (.iastore, 1) := by decide +kernel
theorem dX12_goesThrough_128 : decode cX12_goesThrough 128 = .ok (.aload_n 0, 1) := by decide +kernel
theorem dX12_goesThrough_129 : decode cX12_goesThrough 129 = .ok (.getfield 90, 3) := by decide +kernel
theorem dX12_goesThrough_132 : decode cX12_goesThrough 132 = .ok (.iload_n 3, 1) := by decide +kernel
theorem dX12_goesThrough_133 : decode cX12_goesThrough 133 = .ok (.iload 6, 2) := by decide +kernel
theorem dX12_goesThrough_135 : decode cX12_goesThrough 135 = .ok (.iastore, 1) := by decide +kernel
theorem dX12_goesThrough_136 : decode cX12_goesThrough 136 = .ok (.aload_n 0, 1) := by decide +kernel
theorem dX12_goesThrough_137 : decode cX12_goesThrough 137 = .ok (.getfield 93, 3) := by decide +kernel
theorem dX12_goesThrough_140 : decode cX12_goesThrough 140 = .ok (.iload_n 3, 1) := by decide +kernel
theorem dX12_goesThrough_141 : decode cX12_goesThrough 141 = .ok (.iload 4, 2) := by decide +kernel
theorem dX12_goesThrough_143 : decode cX12_goesThrough 143 = .ok (.iastore, 1) := by decide +kernel
theorem dX12_goesThrough_144 : decode cX12_goesThrough 144 = .ok (.aload_n 0, 1) := by decide +kernel
theorem dX12_goesThrough_145 : decode cX12_goesThrough 145 = .ok (.getfield 96, 3) := by decide +kernel
theorem dX12_goesThrough_148 : decode cX12_goesThrough 148 = .ok (.iload_n 3, 1) := by decide +kernel
theorem dX12_goesThrough_149 : decode cX12_goesThrough 149 = .ok (.iload 5, 2) := by decide +kernel
theorem dX12_goesThrough_151 : decode cX12_goesThrough 151 = .ok (.iastore, 1) := by decide +kernel
theorem dX12_goesThrough_152 : decode cX12_goesThrough 152 = .ok (.aload_n 0, 1) := by decide +kernel
theorem dX12_goesThrough_153 : decode cX12_goesThrough 153 = .ok (.getfield 99, 3) := by decide +kernel
theorem dX12_goesThrough_156 : decode cX12_goesThrough 156 = .ok (.iload_n 3, 1) := by decide +kernel
theorem dX12_goesThrough_157 : decode cX12_goesThrough 157 = .ok (.aload_n 0, 1) := by decide +kernel
theorem dX12_goesThrough_158 : decode cX12_goesThrough 158 = .ok (.getfield 99, 3) := by decide +kernel
theorem dX12_goesThrough_161 : decode cX12_goesThrough 161 = .ok (.iload 4, 2) := by decide +kernel
theorem dX12_goesThrough_163 : decode cX12_goesThrough 163 = .ok (.iaload, 1) := by decide +kernel
theorem dX12_goesThrough_164 : decode cX12_goesThrough 164 = .ok (.iconst 1, 1) := by decide +kernel
theorem dX12_goesThrough_165 : decode cX12_goesThrough 165 = .ok (.iadd, 1) := by decide +kernel
theorem dX12_goesThrough_166 : decode cX12_goesThrough 166 = .ok (.iastore, 1) := by decide +kernel
theorem dX12_goesThrough_167 : decode cX12_goesThrough 167 = .ok (.iload_n 3, 1) := by decide +kernel
theorem dX12_goesThrough_168 : decode cX12_goesThrough 168 = .ok (.iconst 1, 1) := by decide +kernel
theorem dX12_goesThrough_169 : decode cX12_goesThrough 169 = .ok (.iadd, 1) := by decide +kernel
theorem dX12_goesThrough_170 : decode cX12_goesThrough 170 = .ok (.istore_n 3, 1) := by decide +kernel
theorem dX12_goesThrough_171 : decode cX12_goesThrough 171 = .ok (.iload 6, 2) := by decide +kernel
theorem dX12_goesThrough_173 : decode cX12_goesThrough 173 = .ok (.iload_n 2, 1) := by decide +kernel
theorem dX12_goesThrough_174 : decode cX12_goesThrough 174 = .ok (.if_icmp .ne 7, 3) := by decide +kernel
theorem dX12_goesThrough_177 : decode cX12_goesThrough 177 = .ok (.iload_n 3, 1) := by decide +kernel
theorem dX12_goesThrough_178 : decode cX12_goesThrough 178 = .ok (.iconst 1, 1) := by decide +kernel
theorem dX12_goesThrough_179 : decode cX12_goesThrough 179 = .ok (.isub, 1) := by decide +kernel
theorem dX12_goesThrough_180 : decode cX12_goesThrough 180 = .ok (.ireturn, 1) := by decide +kernel
theorem dX12_goesThrough_181 : decode cX12_goesThrough 181 = .ok (.iinc 5 1, 3) := by decide +kernel
theorem dX12_goesThrough_184 : decode cX12_goesThrough 184 = .ok (.goto (-108), 3) := by decide +kernel
theorem dX12_goesThrough_187 : decode cX12_goesThrough 187 = .ok (.iinc 4 1, 3) := by decide +kernel
theorem dX12_goesThrough_190 : decode cX12_goesThrough 190 = .ok (.goto (-135), 3) := by decide +kernel
theorem dX12_goesThrough_193 : decode cX12_goesThrough 193 = .ok (.iconst (-1), 1) := by decide +kernel
theorem dX12_goesThrough_194 : decode cX12_goesThrough 194 = .ok (.ireturn, 1) := by decide +kernel
theorem dX12_canGoThrough_0 : decode cX12_canGoThrough 0 = .ok (.iconst 1, 1) := by decide +kernel
theorem dX12_canGoThrough_1 : decode cX12_canGoThrough 1 = .ok (.istore_n 1, 1) := by decide +kernel
theorem dX12_canGoThrough_2 : decode cX12_canGoThrough 2 = .ok (.iconst 0, 1) := by decide +kernel
theorem dX12_canGoThrough_3 : decode cX12_canGoThrough 3 = .ok (.istore_n 2, 1) := by decide +kernel
theorem dX12_canGoThrough_4 : decode cX12_canGoThrough 4 = .ok (.iload_n 2, 1) := by decide +kernel
theorem dX12_canGoThrough_5 : decode cX12_canGoThrough 5 = .ok (.bipush 6, 2) := by decide +kernel
theorem dX12_canGoThrough_7 : decode cX12_canGoThrough 7 = .ok (.if_icmp .ge 29, 3) := by decide +kernel
theorem dX12_canGoThrough_10 : decode cX12_canGoThrough 10 = .ok (.iload_n 1, 1) := by decide +kernel
theorem dX12_canGoThrough_11 : decode cX12_canGoThrough 11 = .ok (.aload_n 0, 1) := by decide +kernel
theorem dX12_canGoThrough_12 : decode cX12_canGoThrough 12 = .ok (.getfield 13, 3) := by decide +kernel
theorem dX12_canGoThrough_15 : decode cX12_canGoThrough 15 = .ok (.iload_n 2, 1) := by decide +kernel
theorem dX12_canGoThrough_16 : decode cX12_canGoThrough 16 = .ok (.iaload, 1) := by decide +kernel
theorem dX12_canGoThrough_17 : decode cX12_canGoThrough 17 = .ok (.iconst 1, 1) := by decide +kernel
theorem dX12_canGoThrough_18 : decode cX12_canGoThrough 18 = .ok (.iadd, 1) := by decide +kernel
theorem dX12_canGoThrough_19 : decode cX12_canGoThrough 19 = .ok (.imul, 1) := by decide +kernel
theorem dX12_canGoThrough_20 : decode cX12_canGoThrough 20 = .ok (.istore_n 1, 1) := by decide +kernel
theorem dX12_canGoThrough_21 : decode cX12_canGoThrough 21 = .ok (.iload_n 1, 1) := by decide +kernel
theorem dX12_canGoThrough_22 : decode cX12_canGoThrough 22 = .ok (.sipush 20000, 3) := by decide +kernel
theorem dX12_canGoThrough_25 : decode cX12_canGoThrough 25 = .ok (.if_icmp .le 5, 3) := by decide +kernel
theorem dX12_canGoThrough_28 : decode cX12_canGoThrough 28 = .ok (.iconst 0, 1) := by decide +kernel
theorem dX12_canGoThrough_29 : decode cX12_canGoThrough 29 = .ok (.ireturn, 1) := by decide +kernel
theorem dX12_canGoThrough_30 : decode cX12_canGoThrough 30 = .ok (.iinc 2 1, 3) := by decide +kernel
theorem dX12_canGoThrough_33 : decode cX12_canGoThrough 33 = .ok (.goto (-29), 3) := by decide +kernel
theorem dX12_canGoThrough_36 : decode cX12_canGoThrough 36 = .ok (.iconst 0, 1) := by decide +kernel
theorem dX12_canGoThrough_37 : decode cX12_canGoThrough 37 = .ok (.istore_n 2, 1) := by decide +kernel
theorem dX12_canGoThrough_38 : decode cX12_canGoThrough 38 = .ok (.iload_n 2, 1) := by decide +kernel
theorem dX12_canGoThrough_39 : decode cX12_canGoThrough 39 = .ok (.bipush 6, 2) := by decide +kernel
theorem dX12_canGoThrough_41 : decode cX12_canGoThrough 41 = .ok (.if_icmp .ge 30, 3) := by decide +kernel
theorem dX12_canGoThrough_44 : decode cX12_canGoThrough 44 = .ok (.aload_n 0, 1) := by decide +kernel
theorem dX12_canGoThrough_45 : decode cX12_canGoThrough 45 = .ok (.getfield 87, 3) := by decide +kernel
theorem dX12_canGoThrough_48 : decode cX12_canGoThrough 48 = .ok (.iload_n 2, 1) := by decide +kernel
theorem dX12_canGoThrough_49 : decode cX12_canGoThrough 49 = .ok (.iaload, 1) := by decide +kernel
theorem dX12_canGoThrough_50 : decode cX12_canGoThrough 50 = .ok (.iconst 0, 1) := by decide +kernel
theorem dX12_canGoThrough_51 : decode cX12_canGoThrough 51 = .ok (.aload_n 0, 1) := by decide +kernel
theorem dX12_canGoThrough_52 : decode cX12_canGoThrough 52 = .ok (.getfield 13, 3) := by decide +kernel
theorem dX12_canGoThrough_55 : decode cX12_canGoThrough 55 = .ok (.iload_n 2, 1) := by decide +kernel
theorem dX12_canGoThrough_56 : decode cX12_canGoThrough 56 = .ok (.iaload, 1) := by decide +kernel
theorem dX12_canGoThrough_57 : decode cX12_canGoThrough 57 = .ok (.invokestatic 137, 3) := by decide +kernel
theorem dX12_canGoThrough_60 : decode cX12_canGoThrough 60 = .ok (.ifCond .ne 5, 3) := by decide +kernel
theorem dX12_canGoThrough_63 : decode cX12_canGoThrough 63 = .ok (.iconst 0, 1) := by decide +kernel
theorem dX12_canGoThrough_64 : decode cX12_canGoThrough 64 = .ok (.ireturn, 1) := by decide +kernel
theorem dX12_canGoThrough_65 : decode cX12_canGoThrough 65 = .ok (.iinc 2 1, 3) := by decide +kernel
theorem dX12_canGoThrough_68 : decode cX12_canGoThrough 68 = .ok (.goto (-30), 3) := by decide +kernel
theorem dX12_canGoThrough_71 : decode cX12_canGoThrough 71 = .ok (.iconst 1, 1) := by decide +kernel
theorem dX12_canGoThrough_72 : decode cX12_canGoThrough 72 = .ok (.ireturn, 1) := by decide +kernel
theorem dX12_shortest_0 : decode cX12_shortest 0 = .ok (.iload_n 1, 1) := by decide +kernel
theorem dX12_shortest_1 : decode cX12_shortest 1 = .ok (.iconst (-1), 1) := by decide +kernel
theorem dX12_shortest_2 : decode cX12_shortest 2 = .ok (.bipush 99, 2) := by decide +kernel
theorem dX12_shortest_4 : decode cX12_shortest 4 = .ok (.invokestatic 137, 3) := by decide +kernel
theorem dX12_shortest_7 : decode cX12_shortest 7 = .ok (.ifCond .eq 12, 3) := by decide +kernel
theorem dX12_shortest_10 : decode cX12_shortest 10 = .ok (.aload_n 0, 1) := by decide +kernel
theorem dX12_shortest_11 : decode cX12_shortest 11 = .ok (.getfield 141, 3) := by decide +kernel
theorem dX12_shortest_14 : decode cX12_shortest 14 = .ok (.bipush 6, 2) := by decide +kernel
theorem dX12_shortest_16 : decode cX12_shortest 16 = .ok (.if_icmp .ge 6, 3) := by decide +kernel
theorem dX12_shortest_19 : decode cX12_shortest 19 = .ok (.bipush (-4), 2) := by decide +kernel
theorem dX12_shortest_21 : decode cX12_shortest 21 = .ok (.ireturn, 1) := by decide +kernel
theorem dX12_shortest_22 : decode cX12_shortest 22 = .ok (.aload_n 0, 1) := by decide +kernel
theorem dX12_shortest_23 : decode cX12_shortest 23 = .ok (.iconst 0, 1) := by decide +kernel
theorem dX12_shortest_24 : decode cX12_shortest 24 = .ok (.putfield 141, 3) := by decide +kernel
theorem dX12_shortest_27 : decode cX12_shortest 27 = .ok (.iconst 0, 1) := by decide +kernel
theorem dX12_shortest_28 : decode cX12_shortest 28 = .ok (.istore_n 2, 1) := by decide +kernel
theorem dX12_shortest_29 : decode cX12_shortest 29 = .ok (.iload_n 2, 1) := by decide +kernel
theorem dX12_shortest_30 : decode cX12_shortest 30 = .ok (.bipush 6, 2) := by decide +kernel
theorem dX12_shortest_32 : decode cX12_shortest 32 = .ok (.if_icmp .ge 21, 3) := by decide +kernel
theorem dX12_shortest_35 : decode cX12_shortest 35 = .ok (.aload_n 0, 1) := by decide +kernel
theorem dX12_shortest_36 : decode cX12_shortest 36 = .ok (.getfield 87, 3) := by decide +kernel
theorem dX12_shortest_39 : decode cX12_shortest 39 = .ok (.iload_n 2, 1) := by decide +kernel
theorem dX12_shortest_40 : decode cX12_shortest 40 = .ok (.aload_n 0, 1) := by decide +kernel
theorem dX12_shortest_41 : decode cX12_shortest 41 = .ok (.getfield 19, 3) := by decide +kernel
theorem dX12_shortest_44 : decode cX12_shortest 44 = .ok (.iload_n 2, 1) := by decide +kernel
theorem dX12_shortest_45 : decode cX12_shortest 45 = .ok (.baload, 1) := by decide +kernel
theorem dX12_shortest_46 : decode cX12_shortest 46 = .ok (.iastore, 1) := by decide +kernel
theorem dX12_shortest_47 : decode cX12_shortest 47 = .ok (.iinc 2 1, 3) := by decide +kernel
theorem dX12_shortest_50 : decode cX12_shortest 50 = .ok (.goto (-21), 3) := by decide +kernel
theorem dX12_shortest_53 : decode cX12_shortest 53 = .ok (.aload_n 0, 1) := by decide +kernel
theorem dX12_shortest_54 : decode cX12_shortest 54 = .ok (.invokevirtual 401, 3) := by decide +kernel
theorem dX12_shortest_57 : decode cX12_shortest 57 = .ok (.ifCond .ne 6, 3) := by decide +kernel
theorem dX12_shortest_60 : decode cX12_shortest 60 = .ok (.bipush (-3), 2) := by decide +kernel
theorem dX12_shortest_62 : decode cX12_shortest 62 = .ok (.ireturn, 1) := by decide +kernel
theorem dX12_shortest_63 : decode cX12_shortest 63 = .ok (.iconst 0, 1) := by decide +kernel
theorem dX12_shortest_64 : decode cX12_shortest 64 = .ok (.istore_n 2, 1) := by decide +kernel
theorem dX12_shortest_65 : decode cX12_shortest 65 = .ok (.iload_n 2, 1) := by decide +kernel
theorem dX12_shortest_66 : decode cX12_shortest 66 = .ok (.bipush 6, 2) := by decide +kernel
theorem dX12_shortest_68 : decode cX12_shortest 68 = .ok (.if_icmp .ge 21, 3) := by decide +kernel
theorem dX12_shortest_71 : decode cX12_shortest 71 = .ok (.aload_n 0, 1) := by decide +kernel
theorem dX12_shortest_72 : decode cX12_shortest 72 = .ok (.getfield 71, 3) := by decide +kernel
theorem dX12_shortest_75 : decode cX12_shortest 75 = .ok (.iload_n 2, 1) := by decide +kernel
theorem dX12_shortest_76 : decode cX12_shortest 76 = .ok (.aload_n 0, 1) := by decide +kernel
theorem dX12_shortest_77 : decode cX12_shortest 77 = .ok (.getfield 87, 3) := by decide +kernel
theorem dX12_shortest_80 : decode cX12_shortest 80 = .ok (.iload_n 2, 1) := by decide +kernel
theorem dX12_shortest_81 : decode cX12_shortest 81 = .ok (.iaload, 1) := by decide +kernel
theorem dX12_shortest_82 : decode cX12_shortest 82 = .ok (.iastore, 1) := by decide +kernel
theorem dX12_shortest_83 : decode cX12_shortest 83 = .ok (.iinc 2 1, 3) := by decide +kernel
theorem dX12_shortest_86 : decode cX12_shortest 86 = .ok (.goto (-21), 3) := by decide +kernel
theorem dX12_shortest_89 : decode cX12_shortest 89 = .ok (.aload_n 0, 1) := by decide +kernel
theorem dX12_shortest_90 : decode cX12_shortest 90 = .ok (.invokevirtual 398, 3) := by decide +kernel
theorem dX12_shortest_93 : decode cX12_shortest 93 = .ok (.istore_n 2, 1) := by decide +kernel
theorem dX12_shortest_94 : decode cX12_shortest 94 = .ok (.iconst 0, 1) := by decide +kernel
theorem dX12_shortest_95 : decode cX12_shortest 95 = .ok (.istore_n 3, 1) := by decide +kernel
theorem dX12_shortest_96 : decode cX12_shortest 96 = .ok (.iload_n 3, 1) := by decide +kernel
theorem dX12_shortest_97 : decode cX12_shortest 97 = .ok (.bipush 6, 2) := by decide +kernel
theorem dX12_shortest_99 : decode cX12_shortest 99 = .ok (.if_icmp .ge 21, 3) := by decide +kernel
theorem dX12_shortest_102 : decode cX12_shortest 102 = .ok (.aload_n 0, 1) := by decide +kernel
theorem dX12_shortest_103 : decode cX12_shortest 103 = .ok (.getfield 71, 3) := by decide +kernel
theorem dX12_shortest_106 : decode cX12_shortest 106 = .ok (.iload_n 3, 1) := by decide +kernel
theorem dX12_shortest_107 : decode cX12_shortest 107 = .ok (.aload_n 0, 1) := by decide +kernel
theorem dX12_shortest_108 : decode cX12_shortest 108 = .ok (.getfield 16, 3) := by decide +kernel
theorem dX12_shortest_111 : decode cX12_shortest 111 = .ok (.iload_n 3, 1) := by decide +kernel
theorem dX12_shortest_112 : decode cX12_shortest 112 = .ok (.iaload, 1) := by decide +kernel
theorem dX12_shortest_113 : decode cX12_shortest 113 = .ok (.iastore, 1) := by decide +kernel
theorem dX12_shortest_114 : decode cX12_shortest 114 = .ok (.iinc 3 1, 3) := by decide +kernel
theorem dX12_shortest_117 : decode cX12_shortest 117 = .ok (.goto (-21), 3) := by decide +kernel
theorem dX12_shortest_120 : decode cX12_shortest 120 = .ok (.aload_n 0, 1) := by decide +kernel
theorem dX12_shortest_121 : decode cX12_shortest 121 = .ok (.aload_n 0, 1) := by decide +kernel
theorem dX12_shortest_122 : decode cX12_shortest 122 = .ok (.invokevirtual 398, 3) := by decide +kernel
theorem dX12_shortest_125 : decode cX12_shortest 125 = .ok (.iload_n 2, 1) := by decide +kernel
theorem dX12_shortest_126 : decode cX12_shortest 126 = .ok (.invokevirtual 404, 3) := by decide +kernel
theorem dX12_shortest_129 : decode cX12_shortest 129 = .ok (.istore_n 3, 1) := by decide +kernel
theorem dX12_shortest_130 : decode cX12_shortest 130 = .ok (.iload_n 3, 1) := by decide +kernel
theorem dX12_shortest_131 : decode cX12_shortest 131 = .ok (.iconst (-1), 1) := by decide +kernel
theorem dX12_shortest_132 : decode cX12_shortest 132 = .ok (.if_icmp .ne 6, 3) := by decide +kernel
theorem dX12_shortest_135 : decode cX12_shortest 135 = .ok (.bipush (-2), 2) := by decide +kernel
theorem dX12_shortest_137 : decode cX12_shortest 137 = .ok (.ireturn, 1) := by decide +kernel
theorem dX12_shortest_138 : decode cX12_shortest 138 = .ok (.aload_n 0, 1) := by decide +kernel
theorem dX12_shortest_139 : decode cX12_shortest 139 = .ok (.getfield 99, 3) := by decide +kernel
theorem dX12_shortest_142 : decode cX12_shortest 142 = .ok (.iload_n 3, 1) := by decide +kernel
theorem dX12_shortest_143 : decode cX12_shortest 143 = .ok (.iaload, 1) := by decide +kernel
theorem dX12_shortest_144 : decode cX12_shortest 144 = .ok (.istore 4, 2) := by decide +kernel
theorem dX12_shortest_146 : decode cX12_shortest 146 = .ok (.iload_n 1, 1) := by decide +kernel
theorem dX12_shortest_147 : decode cX12_shortest 147 = .ok (.iconst (-1), 1) := by decide +kernel
theorem dX12_shortest_148 : decode cX12_shortest 148 = .ok (.if_icmp .ne 6, 3) := by decide +kernel
theorem dX12_shortest_151 : decode cX12_shortest 151 = .ok (.iload 4, 2) := by decide +kernel
theorem dX12_shortest_153 : decode cX12_shortest 153 = .ok (.ireturn, 1) := by decide +kernel
theorem dX12_shortest_154 : decode cX12_shortest 154 = .ok (.iload_n 1, 1) := by decide +kernel
theorem dX12_shortest_155 : decode cX12_shortest 155 = .ok (.iload 4, 2) := by decide +kernel
theorem dX12_shortest_157 : decode cX12_shortest 157 = .ok (.if_icmp .lt 6, 3) := by decide +kernel
theorem dX12_shortest_160 : decode cX12_shortest 160 = .ok (.bipush (-4), 2) := by decide +kernel
theorem dX12_shortest_162 : decode cX12_shortest 162 = .ok (.ireturn, 1) := by decide +kernel
theorem dX12_shortest_163 : decode cX12_shortest 163 = .ok (.iload 4, 2) := by decide +kernel
theorem dX12_shortest_165 : decode cX12_shortest 165 = .ok (.iconst 1, 1) := by decide +kernel
theorem dX12_shortest_166 : decode cX12_shortest 166 = .ok (.isub, 1) := by decide +kernel
theorem dX12_shortest_167 : decode cX12_shortest 167 = .ok (.istore 5, 2) := by decide +kernel
theorem dX12_shortest_169 : decode cX12_shortest 169 = .ok (.iload 5, 2) := by decide +kernel
theorem dX12_shortest_171 : decode cX12_shortest 171 = .ok (.ifCond .lt 29, 3) := by decide +kernel
theorem dX12_shortest_174 : decode cX12_shortest 174 = .ok (.aload_n 0, 1) := by decide +kernel
theorem dX12_shortest_175 : decode cX12_shortest 175 = .ok (.getfield 102, 3) := by decide +kernel
theorem dX12_shortest_178 : decode cX12_shortest 178 = .ok (.iload 5, 2) := by decide +kernel
theorem dX12_shortest_180 : decode cX12_shortest 180 = .ok (.aload_n 0, 1) := by decide +kernel
theorem dX12_shortest_181 : decode cX12_shortest 181 = .ok (.getfield 96, 3) := by decide +kernel
theorem dX12_shortest_184 : decode cX12_shortest 184 = .ok (.iload_n 3, 1) := by decide +kernel
theorem dX12_shortest_185 : decode cX12_shortest 185 = .ok (.iaload, 1) := by decide +kernel
theorem dX12_shortest_186 : decode cX12_shortest 186 = .ok (.iastore, 1) := by decide +kernel
theorem dX12_shortest_187 : decode cX12_shortest 187 = .ok (.aload_n 0, 1) := by decide +kernel
theorem dX12_shortest_188 : decode cX12_shortest 188 = .ok (.getfield 93, 3) := by decide +kernel
theorem dX12_shortest_191 : decode cX12_shortest 191 = .ok (.iload_n 3, 1) := by decide +kernel
theorem dX12_shortest_192 : decode cX12_shortest 192 = .ok (.iaload, 1) := by decide +kernel
theorem dX12_shortest_193 : decode cX12_shortest 193 = .ok (.istore_n 3, 1) := by decide +kernel
theorem dX12_shortest_194 : decode cX12_shortest 194 = .ok (.iinc 5 (-1), 3) := by decide +kernel
theorem dX12_shortest_197 : decode cX12_shortest 197 = .ok (.goto (-28), 3) := by decide +kernel
theorem dX12_shortest_200 : decode cX12_shortest 200 = .ok (.aload_n 0, 1) := by decide +kernel
theorem dX12_shortest_201 : decode cX12_shortest 201 = .ok (.getfield 102, 3) := by decide +kernel
theorem dX12_shortest_204 : decode cX12_shortest 204 = .ok (.iload_n 1, 1) := by decide +kernel
theorem dX12_shortest_205 : decode cX12_shortest 205 = .ok (.iaload, 1) := by decide +kernel
theorem dX12_shortest_206 : decode cX12_shortest 206 = .ok (.ireturn, 1) := by decide +kernel
theorem dX12_isActAt_0 : decode cX12_isActAt 0 = .ok (.aload_n 0, 1) := by decide +kernel
theorem dX12_isActAt_1 : decode cX12_isActAt 1 = .ok (.getfield 286, 3) := by decide +kernel
theorem dX12_isActAt_4 : decode cX12_isActAt 4 = .ok (.aload_n 0, 1) := by decide +kernel
theorem dX12_isActAt_5 : decode cX12_isActAt 5 = .ok (.getfield 56, 3) := by decide +kernel
theorem dX12_isActAt_8 : decode cX12_isActAt 8 = .ok (.iload_n 1, 1) := by decide +kernel
theorem dX12_isActAt_9 : decode cX12_isActAt 9 = .ok (.iaload, 1) := by decide +kernel
theorem dX12_isActAt_10 : decode cX12_isActAt 10 = .ok (.if_icmp .ge 26, 3) := by decide +kernel
theorem dX12_isActAt_13 : decode cX12_isActAt 13 = .ok (.aload_n 0, 1) := by decide +kernel
theorem dX12_isActAt_14 : decode cX12_isActAt 14 = .ok (.getfield 47, 3) := by decide +kernel
theorem dX12_isActAt_17 : decode cX12_isActAt 17 = .ok (.sipush 160, 3) := by decide +kernel
theorem dX12_isActAt_20 : decode cX12_isActAt 20 = .ok (.iload_n 1, 1) := by decide +kernel
theorem dX12_isActAt_21 : decode cX12_isActAt 21 = .ok (.imul, 1) := by decide +kernel
theorem dX12_isActAt_22 : decode cX12_isActAt 22 = .ok (.aload_n 0, 1) := by decide +kernel
theorem dX12_isActAt_23 : decode cX12_isActAt 23 = .ok (.getfield 286, 3) := by decide +kernel
theorem dX12_isActAt_26 : decode cX12_isActAt 26 = .ok (.iadd, 1) := by decide +kernel
theorem dX12_isActAt_27 : decode cX12_isActAt 27 = .ok (.iaload, 1) := by decide +kernel
theorem dX12_isActAt_28 : decode cX12_isActAt 28 = .ok (.iconst 4, 1) := by decide +kernel
theorem dX12_isActAt_29 : decode cX12_isActAt 29 = .ok (.if_icmp .ge 7, 3) := by decide +kernel
theorem dX12_isActAt_32 : decode cX12_isActAt 32 = .ok (.iconst 1, 1) := by decide +kernel
theorem dX12_isActAt_33 : decode cX12_isActAt 33 = .ok (.goto 4, 3) := by decide +kernel
theorem dX12_isActAt_36 : decode cX12_isActAt 36 = .ok (.iconst 0, 1) := by decide +kernel
theorem dX12_isActAt_37 : decode cX12_isActAt 37 = .ok (.ireturn, 1) := by decide +kernel
theorem dX12_isNotFelt_0 : decode cX12_isNotFelt 0 = .ok (.aload_n 0, 1) := by decide +kernel
theorem dX12_isNotFelt_1 : decode cX12_isNotFelt 1 = .ok (.aload_n 0, 1) := by decide +kernel
theorem dX12_isNotFelt_2 : decode cX12_isNotFelt 2 = .ok (.getfield 16, 3) := by decide +kernel
theorem dX12_isNotFelt_5 : decode cX12_isNotFelt 5 = .ok (.invokevirtual 340, 3) := by decide +kernel
theorem dX12_isNotFelt_8 : decode cX12_isNotFelt 8 = .ok (.aload_n 0, 1) := by decide +kernel
theorem dX12_isNotFelt_9 : decode cX12_isNotFelt 9 = .ok (.iload_n 1, 1) := by decide +kernel
theorem dX12_isNotFelt_10 : decode cX12_isNotFelt 10 = .ok (.invokevirtual 323, 3) := by decide +kernel
theorem dX12_isNotFelt_13 : decode cX12_isNotFelt 13 = .ok (.aload_n 0, 1) := by decide +kernel
theorem dX12_isNotFelt_14 : decode cX12_isNotFelt 14 = .ok (.getfield 289, 3) := by decide +kernel
theorem dX12_isNotFelt_17 : decode cX12_isNotFelt 17 = .ok (.iload_n 3, 1) := by decide +kernel
theorem dX12_isNotFelt_18 : decode cX12_isNotFelt 18 = .ok (.iconst 1, 1) := by decide +kernel
theorem dX12_isNotFelt_19 : decode cX12_isNotFelt 19 = .ok (.isub, 1) := by decide +kernel
theorem dX12_isNotFelt_20 : decode cX12_isNotFelt 20 = .ok (.if_icmp .ge 12, 3) := by decide +kernel
theorem dX12_isNotFelt_23 : decode cX12_isNotFelt 23 = .ok (.aload_n 0, 1) := by decide +kernel
theorem dX12_isNotFelt_24 : decode cX12_isNotFelt 24 = .ok (.iload_n 1, 1) := by decide +kernel
theorem dX12_isNotFelt_25 : decode cX12_isNotFelt 25 = .ok (.iconst 1, 1) := by decide +kernel
theorem dX12_isNotFelt_26 : decode cX12_isNotFelt 26 = .ok (.invokevirtual 329, 3) := by decide +kernel
theorem dX12_isNotFelt_29 : decode cX12_isNotFelt 29 = .ok (.goto (-16), 3) := by decide +kernel
theorem dX12_isNotFelt_32 : decode cX12_isNotFelt 32 = .ok (.aload_n 0, 1) := by decide +kernel
theorem dX12_isNotFelt_33 : decode cX12_isNotFelt 33 = .ok (.iload_n 1, 1) := by decide +kernel
theorem dX12_isNotFelt_34 : decode cX12_isNotFelt 34 = .ok (.invokevirtual 407, 3) := by decide +kernel
theorem dX12_isNotFelt_37 : decode cX12_isNotFelt 37 = .ok (.ifCond .ne 5, 3) := by decide +kernel
theorem dX12_isNotFelt_40 : decode cX12_isNotFelt 40 = .ok (.iconst 0, 1) := by decide +kernel
theorem dX12_isNotFelt_41 : decode cX12_isNotFelt 41 = .ok (.ireturn, 1) := by decide +kernel
theorem dX12_isNotFelt_42 : decode cX12_isNotFelt 42 = .ok (.aload_n 0, 1) := by decide +kernel
theorem dX12_isNotFelt_43 : decode cX12_isNotFelt 43 = .ok (.iload_n 1, 1) := by decide +kernel
theorem dX12_isNotFelt_44 : decode cX12_isNotFelt 44 = .ok (.iload 4, 2) := by decide +kernel
theorem dX12_isNotFelt_46 : decode cX12_isNotFelt 46 = .ok (.invokevirtual 329, 3) := by decide +kernel
theorem dX12_isNotFelt_49 : decode cX12_isNotFelt 49 = .ok (.aload_n 0, 1) := by decide +kernel
theorem dX12_isNotFelt_50 : decode cX12_isNotFelt 50 = .ok (.iload_n 1, 1) := by decide +kernel
theorem dX12_isNotFelt_51 : decode cX12_isNotFelt 51 = .ok (.iload_n 2, 1) := by decide +kernel
theorem dX12_isNotFelt_52 : decode cX12_isNotFelt 52 = .ok (.invokevirtual 344, 3) := by decide +kernel
theorem dX12_isNotFelt_55 : decode cX12_isNotFelt 55 = .ok (.aload_n 0, 1) := by decide +kernel
theorem dX12_isNotFelt_56 : decode cX12_isNotFelt 56 = .ok (.invokevirtual 347, 3) := by decide +kernel
theorem dX12_isNotFelt_59 : decode cX12_isNotFelt 59 = .ok (.ireturn, 1) := by decide +kernel
theorem dX12_slips_0 : decode cX12_slips 0 = .ok (.iload_n 1, 1) := by decide +kernel
theorem dX12_slips_1 : decode cX12_slips 1 = .ok (.invokestatic 334, 3) := by decide +kernel
theorem dX12_slips_4 : decode cX12_slips 4 = .ok (.ifCond .eq 23, 3) := by decide +kernel
theorem dX12_slips_7 : decode cX12_slips 7 = .ok (.iload_n 2, 1) := by decide +kernel
theorem dX12_slips_8 : decode cX12_slips 8 = .ok (.iconst 1, 1) := by decide +kernel
theorem dX12_slips_9 : decode cX12_slips 9 = .ok (.sipush 2000, 3) := by decide +kernel
theorem dX12_slips_12 : decode cX12_slips 12 = .ok (.invokestatic 137, 3) := by decide +kernel
theorem dX12_slips_15 : decode cX12_slips 15 = .ok (.ifCond .eq 12, 3) := by decide +kernel
theorem dX12_slips_18 : decode cX12_slips 18 = .ok (.iload_n 3, 1) := by decide +kernel
theorem dX12_slips_19 : decode cX12_slips 19 = .ok (.iconst 0, 1) := by decide +kernel
theorem dX12_slips_20 : decode cX12_slips 20 = .ok (.iconst 3, 1) := by decide +kernel
theorem dX12_slips_21 : decode cX12_slips 21 = .ok (.invokestatic 137, 3) := by decide +kernel
theorem dX12_slips_24 : decode cX12_slips 24 = .ok (.ifCond .ne 5, 3) := by decide +kernel
theorem dX12_slips_27 : decode cX12_slips 27 = .ok (.iconst (-1), 1) := by decide +kernel
theorem dX12_slips_28 : decode cX12_slips 28 = .ok (.ireturn, 1) := by decide +kernel
theorem dX12_slips_29 : decode cX12_slips 29 = .ok (.aload_n 0, 1) := by decide +kernel
theorem dX12_slips_30 : decode cX12_slips 30 = .ok (.aload_n 0, 1) := by decide +kernel
theorem dX12_slips_31 : decode cX12_slips 31 = .ok (.getfield 16, 3) := by decide +kernel
theorem dX12_slips_34 : decode cX12_slips 34 = .ok (.invokevirtual 340, 3) := by decide +kernel
theorem dX12_slips_37 : decode cX12_slips 37 = .ok (.aload_n 0, 1) := by decide +kernel
theorem dX12_slips_38 : decode cX12_slips 38 = .ok (.iload_n 1, 1) := by decide +kernel
theorem dX12_slips_39 : decode cX12_slips 39 = .ok (.iload_n 2, 1) := by decide +kernel
theorem dX12_slips_40 : decode cX12_slips 40 = .ok (.invokevirtual 344, 3) := by decide +kernel
theorem dX12_slips_43 : decode cX12_slips 43 = .ok (.aload_n 0, 1) := by decide +kernel
theorem dX12_slips_44 : decode cX12_slips 44 = .ok (.getfield 289, 3) := by decide +kernel
theorem dX12_slips_47 : decode cX12_slips 47 = .ok (.istore 4, 2) := by decide +kernel
theorem dX12_slips_49 : decode cX12_slips 49 = .ok (.iconst 0, 1) := by decide +kernel
theorem dX12_slips_50 : decode cX12_slips 50 = .ok (.istore 5, 2) := by decide +kernel
theorem dX12_slips_52 : decode cX12_slips 52 = .ok (.bipush (-2), 2) := by decide +kernel
theorem dX12_slips_54 : decode cX12_slips 54 = .ok (.istore 6, 2) := by decide +kernel
theorem dX12_slips_56 : decode cX12_slips 56 = .ok (.iconst 1, 1) := by decide +kernel
theorem dX12_slips_57 : decode cX12_slips 57 = .ok (.istore 7, 2) := by decide +kernel
theorem dX12_slips_59 : decode cX12_slips 59 = .ok (.iload 7, 2) := by decide +kernel
theorem dX12_slips_61 : decode cX12_slips 61 = .ok (.iload 4, 2) := by decide +kernel
theorem dX12_slips_63 : decode cX12_slips 63 = .ok (.if_icmp .gt 56, 3) := by decide +kernel
theorem dX12_slips_66 : decode cX12_slips 66 = .ok (.aload_n 0, 1) := by decide +kernel
theorem dX12_slips_67 : decode cX12_slips 67 = .ok (.iload_n 1, 1) := by decide +kernel
theorem dX12_slips_68 : decode cX12_slips 68 = .ok (.iload_n 2, 1) := by decide +kernel
theorem dX12_slips_69 : decode cX12_slips 69 = .ok (.iload 7, 2) := by decide +kernel
theorem dX12_slips_71 : decode cX12_slips 71 = .ok (.iload_n 3, 1) := by decide +kernel
theorem dX12_slips_72 : decode cX12_slips 72 = .ok (.iconst 2, 1) := by decide +kernel
theorem dX12_slips_73 : decode cX12_slips 73 = .ok (.irem, 1) := by decide +kernel
theorem dX12_slips_74 : decode cX12_slips 74 = .ok (.ifCond .ne 7, 3) := by decide +kernel
theorem dX12_slips_77 : decode cX12_slips 77 = .ok (.iconst 0, 1) := by decide +kernel
theorem dX12_slips_78 : decode cX12_slips 78 = .ok (.goto 4, 3) := by decide +kernel
theorem dX12_slips_81 : decode cX12_slips 81 = .ok (.iconst 2, 1) := by decide +kernel
theorem dX12_slips_82 : decode cX12_slips 82 = .ok (.invokevirtual 410, 3) := by decide +kernel
theorem dX12_slips_85 : decode cX12_slips 85 = .ok (.ifCond .ne 6, 3) := by decide +kernel
theorem dX12_slips_88 : decode cX12_slips 88 = .ok (.goto 25, 3) := by decide +kernel
theorem dX12_slips_91 : decode cX12_slips 91 = .ok (.iload 5, 2) := by decide +kernel
theorem dX12_slips_93 : decode cX12_slips 93 = .ok (.iconst 1, 1) := by decide +kernel
theorem dX12_slips_94 : decode cX12_slips 94 = .ok (.iadd, 1) := by decide +kernel
theorem dX12_slips_95 : decode cX12_slips 95 = .ok (.istore 5, 2) := by decide +kernel
theorem dX12_slips_97 : decode cX12_slips 97 = .ok (.iload 6, 2) := by decide +kernel
theorem dX12_slips_99 : decode cX12_slips 99 = .ok (.bipush (-2), 2) := by decide +kernel
theorem dX12_slips_101 : decode cX12_slips 101 = .ok (.if_icmp .ne 8, 3) := by decide +kernel
theorem dX12_slips_104 : decode cX12_slips 104 = .ok (.iload 7, 2) := by decide +kernel
theorem dX12_slips_106 : decode cX12_slips 106 = .ok (.goto 5, 3) := by decide +kernel
theorem dX12_slips_109 : decode cX12_slips 109 = .ok (.iload 6, 2) := by decide +kernel
theorem dX12_slips_111 : decode cX12_slips 111 = .ok (.istore 6, 2) := by decide +kernel
theorem dX12_slips_113 : decode cX12_slips 113 = .ok (.iinc 7 1, 3) := by decide +kernel
theorem dX12_slips_116 : decode cX12_slips 116 = .ok (.goto (-57), 3) := by decide +kernel
theorem dX12_slips_119 : decode cX12_slips 119 = .ok (.iload_n 3, 1) := by decide +kernel
theorem dX12_slips_120 : decode cX12_slips 120 = .ok (.iconst 2, 1) := by decide +kernel
theorem dX12_slips_121 : decode cX12_slips 121 = .ok (.if_icmp .ge 8, 3) := by decide +kernel
theorem dX12_slips_124 : decode cX12_slips 124 = .ok (.iload 5, 2) := by decide +kernel
theorem dX12_slips_126 : decode cX12_slips 126 = .ok (.goto 5, 3) := by decide +kernel
theorem dX12_slips_129 : decode cX12_slips 129 = .ok (.iload 6, 2) := by decide +kernel
theorem dX12_slips_131 : decode cX12_slips 131 = .ok (.ireturn, 1) := by decide +kernel
theorem dX12_takesNow_0 : decode cX12_takesNow 0 = .ok (.iconst 0, 1) := by decide +kernel
theorem dX12_takesNow_1 : decode cX12_takesNow 1 = .ok (.istore_n 2, 1) := by decide +kernel
theorem dX12_takesNow_2 : decode cX12_takesNow 2 = .ok (.iload_n 2, 1) := by decide +kernel
theorem dX12_takesNow_3 : decode cX12_takesNow 3 = .ok (.bipush 6, 2) := by decide +kernel
theorem dX12_takesNow_5 : decode cX12_takesNow 5 = .ok (.if_icmp .ge 35, 3) := by decide +kernel
theorem dX12_takesNow_8 : decode cX12_takesNow 8 = .ok (.aload_n 0, 1) := by decide +kernel
theorem dX12_takesNow_9 : decode cX12_takesNow 9 = .ok (.getfield 74, 3) := by decide +kernel
theorem dX12_takesNow_12 : decode cX12_takesNow 12 = .ok (.iload_n 2, 1) := by decide +kernel
theorem dX12_takesNow_13 : decode cX12_takesNow 13 = .ok (.aload_n 0, 1) := by decide +kernel
theorem dX12_takesNow_14 : decode cX12_takesNow 14 = .ok (.getfield 117, 3) := by decide +kernel
theorem dX12_takesNow_17 : decode cX12_takesNow 17 = .ok (.bipush 6, 2) := by decide +kernel
theorem dX12_takesNow_19 : decode cX12_takesNow 19 = .ok (.iload_n 1, 1) := by decide +kernel
theorem dX12_takesNow_20 : decode cX12_takesNow 20 = .ok (.imul, 1) := by decide +kernel
theorem dX12_takesNow_21 : decode cX12_takesNow 21 = .ok (.iload_n 2, 1) := by decide +kernel
theorem dX12_takesNow_22 : decode cX12_takesNow 22 = .ok (.iadd, 1) := by decide +kernel
theorem dX12_takesNow_23 : decode cX12_takesNow 23 = .ok (.iaload, 1) := by decide +kernel
theorem dX12_takesNow_24 : decode cX12_takesNow 24 = .ok (.aload_n 0, 1) := by decide +kernel
theorem dX12_takesNow_25 : decode cX12_takesNow 25 = .ok (.getfield 13, 3) := by decide +kernel
theorem dX12_takesNow_28 : decode cX12_takesNow 28 = .ok (.iload_n 2, 1) := by decide +kernel
theorem dX12_takesNow_29 : decode cX12_takesNow 29 = .ok (.iaload, 1) := by decide +kernel
theorem dX12_takesNow_30 : decode cX12_takesNow 30 = .ok (.invokestatic 304, 3) := by decide +kernel
theorem dX12_takesNow_33 : decode cX12_takesNow 33 = .ok (.iastore, 1) := by decide +kernel
theorem dX12_takesNow_34 : decode cX12_takesNow 34 = .ok (.iinc 2 1, 3) := by decide +kernel
theorem dX12_takesNow_37 : decode cX12_takesNow 37 = .ok (.goto (-35), 3) := by decide +kernel
theorem dX12_takesNow_40 : decode cX12_takesNow 40 = .ok (.aload_n 0, 1) := by decide +kernel
theorem dX12_takesNow_41 : decode cX12_takesNow 41 = .ok (.aload_n 0, 1) := by decide +kernel
theorem dX12_takesNow_42 : decode cX12_takesNow 42 = .ok (.getfield 74, 3) := by decide +kernel
theorem dX12_takesNow_45 : decode cX12_takesNow 45 = .ok (.invokevirtual 340, 3) := by decide +kernel
theorem dX12_takesNow_48 : decode cX12_takesNow 48 = .ok (.aload_n 0, 1) := by decide +kernel
theorem dX12_takesNow_49 : decode cX12_takesNow 49 = .ok (.aload_n 0, 1) := by decide +kernel
theorem dX12_takesNow_50 : decode cX12_takesNow 50 = .ok (.getfield 108, 3) := by decide +kernel
theorem dX12_takesNow_53 : decode cX12_takesNow 53 = .ok (.iload_n 1, 1) := by decide +kernel
theorem dX12_takesNow_54 : decode cX12_takesNow 54 = .ok (.iaload, 1) := by decide +kernel
theorem dX12_takesNow_55 : decode cX12_takesNow 55 = .ok (.sipush 1000, 3) := by decide +kernel
theorem dX12_takesNow_58 : decode cX12_takesNow 58 = .ok (.invokevirtual 344, 3) := by decide +kernel
theorem dX12_takesNow_61 : decode cX12_takesNow 61 = .ok (.aload_n 0, 1) := by decide +kernel
theorem dX12_takesNow_62 : decode cX12_takesNow 62 = .ok (.getfield 289, 3) := by decide +kernel
theorem dX12_takesNow_65 : decode cX12_takesNow 65 = .ok (.ireturn, 1) := by decide +kernel
theorem dX12_sum_0 : decode cX12_sum 0 = .ok (.iload_n 1, 1) := by decide +kernel
theorem dX12_sum_1 : decode cX12_sum 1 = .ok (.iconst 0, 1) := by decide +kernel
theorem dX12_sum_2 : decode cX12_sum 2 = .ok (.bipush 7, 2) := by decide +kernel
theorem dX12_sum_4 : decode cX12_sum 4 = .ok (.invokestatic 137, 3) := by decide +kernel
theorem dX12_sum_7 : decode cX12_sum 7 = .ok (.ifCond .eq 41, 3) := by decide +kernel
theorem dX12_sum_10 : decode cX12_sum 10 = .ok (.iload_n 2, 1) := by decide +kernel
theorem dX12_sum_11 : decode cX12_sum 11 = .ok (.invokestatic 334, 3) := by decide +kernel
theorem dX12_sum_14 : decode cX12_sum 14 = .ok (.ifCond .eq 34, 3) := by decide +kernel
theorem dX12_sum_17 : decode cX12_sum 17 = .ok (.iload_n 3, 1) := by decide +kernel
theorem dX12_sum_18 : decode cX12_sum 18 = .ok (.iconst 0, 1) := by decide +kernel
theorem dX12_sum_19 : decode cX12_sum 19 = .ok (.sipush 9999, 3) := by decide +kernel
theorem dX12_sum_22 : decode cX12_sum 22 = .ok (.invokestatic 137, 3) := by decide +kernel
theorem dX12_sum_25 : decode cX12_sum 25 = .ok (.ifCond .eq 23, 3) := by decide +kernel
theorem dX12_sum_28 : decode cX12_sum 28 = .ok (.iload 4, 2) := by decide +kernel
theorem dX12_sum_30 : decode cX12_sum 30 = .ok (.iconst 0, 1) := by decide +kernel
theorem dX12_sum_31 : decode cX12_sum 31 = .ok (.bipush 99, 2) := by decide +kernel
theorem dX12_sum_33 : decode cX12_sum 33 = .ok (.invokestatic 137, 3) := by decide +kernel
theorem dX12_sum_36 : decode cX12_sum 36 = .ok (.ifCond .eq 12, 3) := by decide +kernel
theorem dX12_sum_39 : decode cX12_sum 39 = .ok (.aload_n 0, 1) := by decide +kernel
theorem dX12_sum_40 : decode cX12_sum 40 = .ok (.getfield 141, 3) := by decide +kernel
theorem dX12_sum_43 : decode cX12_sum 43 = .ok (.bipush 6, 2) := by decide +kernel
theorem dX12_sum_45 : decode cX12_sum 45 = .ok (.if_icmp .ge 5, 3) := by decide +kernel
theorem dX12_sum_48 : decode cX12_sum 48 = .ok (.iconst (-1), 1) := by decide +kernel
theorem dX12_sum_49 : decode cX12_sum 49 = .ok (.ireturn, 1) := by decide +kernel
theorem dX12_sum_50 : decode cX12_sum 50 = .ok (.aload_n 0, 1) := by decide +kernel
theorem dX12_sum_51 : decode cX12_sum 51 = .ok (.iconst 0, 1) := by decide +kernel
theorem dX12_sum_52 : decode cX12_sum 52 = .ok (.putfield 141, 3) := by decide +kernel
theorem dX12_sum_55 : decode cX12_sum 55 = .ok (.iconst 0, 1) := by decide +kernel
theorem dX12_sum_56 : decode cX12_sum 56 = .ok (.istore 5, 2) := by decide +kernel
theorem dX12_sum_58 : decode cX12_sum 58 = .ok (.iload 5, 2) := by decide +kernel
theorem dX12_sum_60 : decode cX12_sum 60 = .ok (.bipush 6, 2) := by decide +kernel
theorem dX12_sum_62 : decode cX12_sum 62 = .ok (.if_icmp .ge 28, 3) := by decide +kernel
theorem dX12_sum_65 : decode cX12_sum 65 = .ok (.aload_n 0, 1) := by decide +kernel
theorem dX12_sum_66 : decode cX12_sum 66 = .ok (.getfield 19, 3) := by decide +kernel
theorem dX12_sum_69 : decode cX12_sum 69 = .ok (.iload 5, 2) := by decide +kernel
theorem dX12_sum_71 : decode cX12_sum 71 = .ok (.baload, 1) := by decide +kernel
theorem dX12_sum_72 : decode cX12_sum 72 = .ok (.iconst 0, 1) := by decide +kernel
theorem dX12_sum_73 : decode cX12_sum 73 = .ok (.bipush 99, 2) := by decide +kernel
theorem dX12_sum_75 : decode cX12_sum 75 = .ok (.invokestatic 137, 3) := by decide +kernel
theorem dX12_sum_78 : decode cX12_sum 78 = .ok (.ifCond .ne 6, 3) := by decide +kernel
theorem dX12_sum_81 : decode cX12_sum 81 = .ok (.bipush (-2), 2) := by decide +kernel
theorem dX12_sum_83 : decode cX12_sum 83 = .ok (.ireturn, 1) := by decide +kernel
theorem dX12_sum_84 : decode cX12_sum 84 = .ok (.iinc 5 1, 3) := by decide +kernel
theorem dX12_sum_87 : decode cX12_sum 87 = .ok (.goto (-29), 3) := by decide +kernel
theorem dX12_sum_90 : decode cX12_sum 90 = .ok (.iconst 0, 1) := by decide +kernel
theorem dX12_sum_91 : decode cX12_sum 91 = .ok (.istore 5, 2) := by decide +kernel
theorem dX12_sum_93 : decode cX12_sum 93 = .ok (.iload 5, 2) := by decide +kernel
theorem dX12_sum_95 : decode cX12_sum 95 = .ok (.bipush 6, 2) := by decide +kernel
theorem dX12_sum_97 : decode cX12_sum 97 = .ok (.if_icmp .ge 28, 3) := by decide +kernel
theorem dX12_sum_100 : decode cX12_sum 100 = .ok (.aload_n 0, 1) := by decide +kernel
theorem dX12_sum_101 : decode cX12_sum 101 = .ok (.getfield 117, 3) := by decide +kernel
theorem dX12_sum_104 : decode cX12_sum 104 = .ok (.bipush 6, 2) := by decide +kernel
theorem dX12_sum_106 : decode cX12_sum 106 = .ok (.iload_n 1, 1) := by decide +kernel
theorem dX12_sum_107 : decode cX12_sum 107 = .ok (.imul, 1) := by decide +kernel
theorem dX12_sum_108 : decode cX12_sum 108 = .ok (.iload 5, 2) := by decide +kernel
theorem dX12_sum_110 : decode cX12_sum 110 = .ok (.iadd, 1) := by decide +kernel
theorem dX12_sum_111 : decode cX12_sum 111 = .ok (.aload_n 0, 1) := by decide +kernel
theorem dX12_sum_112 : decode cX12_sum 112 = .ok (.getfield 19, 3) := by decide +kernel
theorem dX12_sum_115 : decode cX12_sum 115 = .ok (.iload 5, 2) := by decide +kernel
theorem dX12_sum_117 : decode cX12_sum 117 = .ok (.baload, 1) := by decide +kernel
theorem dX12_sum_118 : decode cX12_sum 118 = .ok (.iastore, 1) := by decide +kernel
theorem dX12_sum_119 : decode cX12_sum 119 = .ok (.iinc 5 1, 3) := by decide +kernel
theorem dX12_sum_122 : decode cX12_sum 122 = .ok (.goto (-29), 3) := by decide +kernel
theorem dX12_sum_125 : decode cX12_sum 125 = .ok (.aload_n 0, 1) := by decide +kernel
theorem dX12_sum_126 : decode cX12_sum 126 = .ok (.getfield 108, 3) := by decide +kernel
theorem dX12_sum_129 : decode cX12_sum 129 = .ok (.iload_n 1, 1) := by decide +kernel
theorem dX12_sum_130 : decode cX12_sum 130 = .ok (.iload_n 2, 1) := by decide +kernel
theorem dX12_sum_131 : decode cX12_sum 131 = .ok (.iastore, 1) := by decide +kernel
theorem dX12_sum_132 : decode cX12_sum 132 = .ok (.aload_n 0, 1) := by decide +kernel
theorem dX12_sum_133 : decode cX12_sum 133 = .ok (.getfield 111, 3) := by decide +kernel
theorem dX12_sum_136 : decode cX12_sum 136 = .ok (.iload_n 1, 1) := by decide +kernel
theorem dX12_sum_137 : decode cX12_sum 137 = .ok (.iload_n 3, 1) := by decide +kernel
theorem dX12_sum_138 : decode cX12_sum 138 = .ok (.iastore, 1) := by decide +kernel
theorem dX12_sum_139 : decode cX12_sum 139 = .ok (.aload_n 0, 1) := by decide +kernel
theorem dX12_sum_140 : decode cX12_sum 140 = .ok (.getfield 114, 3) := by decide +kernel
theorem dX12_sum_143 : decode cX12_sum 143 = .ok (.iload_n 1, 1) := by decide +kernel
theorem dX12_sum_144 : decode cX12_sum 144 = .ok (.iload 4, 2) := by decide +kernel
theorem dX12_sum_146 : decode cX12_sum 146 = .ok (.iastore, 1) := by decide +kernel
theorem dX12_sum_147 : decode cX12_sum 147 = .ok (.aload_n 0, 1) := by decide +kernel
theorem dX12_sum_148 : decode cX12_sum 148 = .ok (.aload_n 0, 1) := by decide +kernel
theorem dX12_sum_149 : decode cX12_sum 149 = .ok (.getfield 414, 3) := by decide +kernel
theorem dX12_sum_152 : decode cX12_sum 152 = .ok (.iconst 1, 1) := by decide +kernel
theorem dX12_sum_153 : decode cX12_sum 153 = .ok (.iload_n 1, 1) := by decide +kernel
theorem dX12_sum_154 : decode cX12_sum 154 = .ok (.ishl, 1) := by decide +kernel
theorem dX12_sum_155 : decode cX12_sum 155 = .ok (.ior, 1) := by decide +kernel
theorem dX12_sum_156 : decode cX12_sum 156 = .ok (.putfield 414, 3) := by decide +kernel
theorem dX12_sum_159 : decode cX12_sum 159 = .ok (.aload_n 0, 1) := by decide +kernel
theorem dX12_sum_160 : decode cX12_sum 160 = .ok (.iload_n 1, 1) := by decide +kernel
theorem dX12_sum_161 : decode cX12_sum 161 = .ok (.invokevirtual 417, 3) := by decide +kernel
theorem dX12_sum_164 : decode cX12_sum 164 = .ok (.ireturn, 1) := by decide +kernel
theorem dX12_priceBy_0 : decode cX12_priceBy 0 = .ok (.iconst 0, 1) := by decide +kernel
theorem dX12_priceBy_1 : decode cX12_priceBy 1 = .ok (.istore_n 3, 1) := by decide +kernel
theorem dX12_priceBy_2 : decode cX12_priceBy 2 = .ok (.iconst 0, 1) := by decide +kernel
theorem dX12_priceBy_3 : decode cX12_priceBy 3 = .ok (.istore 4, 2) := by decide +kernel
theorem dX12_priceBy_5 : decode cX12_priceBy 5 = .ok (.iload 4, 2) := by decide +kernel
theorem dX12_priceBy_7 : decode cX12_priceBy 7 = .ok (.bipush 8, 2) := by decide +kernel
theorem dX12_priceBy_9 : decode cX12_priceBy 9 = .ok (.if_icmp .ge 30, 3) := by decide +kernel
theorem dX12_priceBy_12 : decode cX12_priceBy 12 = .ok (.iload_n 3, 1) := by decide +kernel
theorem dX12_priceBy_13 : decode cX12_priceBy 13 = .ok (.iload_n 1, 1) := by decide +kernel
theorem dX12_priceBy_14 : decode cX12_priceBy 14 = .ok (.iconst 1, 1) := by decide +kernel
theorem dX12_priceBy_15 : decode cX12_priceBy 15 = .ok (.iload_n 2, 1) := by decide +kernel
theorem dX12_priceBy_16 : decode cX12_priceBy 16 = .ok (.ishl, 1) := by decide +kernel
theorem dX12_priceBy_17 : decode cX12_priceBy 17 = .ok (.ior, 1) := by decide +kernel
theorem dX12_priceBy_18 : decode cX12_priceBy 18 = .ok (.iload 4, 2) := by decide +kernel
theorem dX12_priceBy_20 : decode cX12_priceBy 20 = .ok (.ishr, 1) := by decide +kernel
theorem dX12_priceBy_21 : decode cX12_priceBy 21 = .ok (.iconst 1, 1) := by decide +kernel
theorem dX12_priceBy_22 : decode cX12_priceBy 22 = .ok (.iand, 1) := by decide +kernel
theorem dX12_priceBy_23 : decode cX12_priceBy 23 = .ok (.aload_n 0, 1) := by decide +kernel
theorem dX12_priceBy_24 : decode cX12_priceBy 24 = .ok (.getfield 120, 3) := by decide +kernel
theorem dX12_priceBy_27 : decode cX12_priceBy 27 = .ok (.iload 4, 2) := by decide +kernel
theorem dX12_priceBy_29 : decode cX12_priceBy 29 = .ok (.iaload, 1) := by decide +kernel
theorem dX12_priceBy_30 : decode cX12_priceBy 30 = .ok (.imul, 1) := by decide +kernel
theorem dX12_priceBy_31 : decode cX12_priceBy 31 = .ok (.iadd, 1) := by decide +kernel
theorem dX12_priceBy_32 : decode cX12_priceBy 32 = .ok (.istore_n 3, 1) := by decide +kernel
theorem dX12_priceBy_33 : decode cX12_priceBy 33 = .ok (.iinc 4 1, 3) := by decide +kernel
theorem dX12_priceBy_36 : decode cX12_priceBy 36 = .ok (.goto (-31), 3) := by decide +kernel
theorem dX12_priceBy_39 : decode cX12_priceBy 39 = .ok (.iload_n 3, 1) := by decide +kernel
theorem dX12_priceBy_40 : decode cX12_priceBy 40 = .ok (.aload_n 0, 1) := by decide +kernel
theorem dX12_priceBy_41 : decode cX12_priceBy 41 = .ok (.getfield 111, 3) := by decide +kernel
theorem dX12_priceBy_44 : decode cX12_priceBy 44 = .ok (.iload_n 2, 1) := by decide +kernel
theorem dX12_priceBy_45 : decode cX12_priceBy 45 = .ok (.iaload, 1) := by decide +kernel
theorem dX12_priceBy_46 : decode cX12_priceBy 46 = .ok (.if_icmp .le 14, 3) := by decide +kernel
theorem dX12_priceBy_49 : decode cX12_priceBy 49 = .ok (.iload_n 3, 1) := by decide +kernel
theorem dX12_priceBy_50 : decode cX12_priceBy 50 = .ok (.aload_n 0, 1) := by decide +kernel
theorem dX12_priceBy_51 : decode cX12_priceBy 51 = .ok (.getfield 111, 3) := by decide +kernel
theorem dX12_priceBy_54 : decode cX12_priceBy 54 = .ok (.iload_n 2, 1) := by decide +kernel
theorem dX12_priceBy_55 : decode cX12_priceBy 55 = .ok (.iaload, 1) := by decide +kernel
theorem dX12_priceBy_56 : decode cX12_priceBy 56 = .ok (.isub, 1) := by decide +kernel
theorem dX12_priceBy_57 : decode cX12_priceBy 57 = .ok (.goto 4, 3) := by decide +kernel
theorem dX12_priceBy_60 : decode cX12_priceBy 60 = .ok (.iconst 0, 1) := by decide +kernel
theorem dX12_priceBy_61 : decode cX12_priceBy 61 = .ok (.istore 4, 2) := by decide +kernel
theorem dX12_priceBy_63 : decode cX12_priceBy 63 = .ok (.iload 4, 2) := by decide +kernel
theorem dX12_priceBy_65 : decode cX12_priceBy 65 = .ok (.aload_n 0, 1) := by decide +kernel
theorem dX12_priceBy_66 : decode cX12_priceBy 66 = .ok (.getfield 114, 3) := by decide +kernel
theorem dX12_priceBy_69 : decode cX12_priceBy 69 = .ok (.iload_n 2, 1) := by decide +kernel
theorem dX12_priceBy_70 : decode cX12_priceBy 70 = .ok (.iaload, 1) := by decide +kernel
theorem dX12_priceBy_71 : decode cX12_priceBy 71 = .ok (.imul, 1) := by decide +kernel
theorem dX12_priceBy_72 : decode cX12_priceBy 72 = .ok (.aload_n 0, 1) := by decide +kernel
theorem dX12_priceBy_73 : decode cX12_priceBy 73 = .ok (.getfield 123, 3) := by decide +kernel
theorem dX12_priceBy_76 : decode cX12_priceBy 76 = .ok (.iload_n 1, 1) := by decide +kernel
theorem dX12_priceBy_77 : decode cX12_priceBy 77 = .ok (.iconst 1, 1) := by decide +kernel
theorem dX12_priceBy_78 : decode cX12_priceBy 78 = .ok (.iload_n 2, 1) := by decide +kernel
theorem dX12_priceBy_79 : decode cX12_priceBy 79 = .ok (.ishl, 1) := by decide +kernel
theorem dX12_priceBy_80 : decode cX12_priceBy 80 = .ok (.ior, 1) := by decide +kernel
theorem dX12_priceBy_81 : decode cX12_priceBy 81 = .ok (.iaload, 1) := by decide +kernel
theorem dX12_priceBy_82 : decode cX12_priceBy 82 = .ok (.iadd, 1) := by decide +kernel
theorem dX12_priceBy_83 : decode cX12_priceBy 83 = .ok (.ireturn, 1) := by decide +kernel
theorem dX12_order_0 : decode cX12_order 0 = .ok (.iload_n 1, 1) := by decide +kernel
theorem dX12_order_1 : decode cX12_order 1 = .ok (.iconst 1, 1) := by decide +kernel
theorem dX12_order_2 : decode cX12_order 2 = .ok (.sipush 255, 3) := by decide +kernel
theorem dX12_order_5 : decode cX12_order 5 = .ok (.invokestatic 137, 3) := by decide +kernel
theorem dX12_order_8 : decode cX12_order 8 = .ok (.ifCond .eq 17, 3) := by decide +kernel
theorem dX12_order_11 : decode cX12_order 11 = .ok (.iload_n 2, 1) := by decide +kernel
theorem dX12_order_12 : decode cX12_order 12 = .ok (.iconst (-1), 1) := by decide +kernel
theorem dX12_order_13 : decode cX12_order 13 = .ok (.iload_n 1, 1) := by decide +kernel
theorem dX12_order_14 : decode cX12_order 14 = .ok (.invokestatic 359, 3) := by decide +kernel
theorem dX12_order_17 : decode cX12_order 17 = .ok (.iconst 1, 1) := by decide +kernel
theorem dX12_order_18 : decode cX12_order 18 = .ok (.isub, 1) := by decide +kernel
theorem dX12_order_19 : decode cX12_order 19 = .ok (.invokestatic 137, 3) := by decide +kernel
theorem dX12_order_22 : decode cX12_order 22 = .ok (.ifCond .ne 5, 3) := by decide +kernel
theorem dX12_order_25 : decode cX12_order 25 = .ok (.iconst (-1), 1) := by decide +kernel
theorem dX12_order_26 : decode cX12_order 26 = .ok (.ireturn, 1) := by decide +kernel
theorem dX12_order_27 : decode cX12_order 27 = .ok (.iload_n 1, 1) := by decide +kernel
theorem dX12_order_28 : decode cX12_order 28 = .ok (.aload_n 0, 1) := by decide +kernel
theorem dX12_order_29 : decode cX12_order 29 = .ok (.getfield 414, 3) := by decide +kernel
theorem dX12_order_32 : decode cX12_order 32 = .ok (.iconst (-1), 1) := by decide +kernel
theorem dX12_order_33 : decode cX12_order 33 = .ok (.ixor, 1) := by decide +kernel
theorem dX12_order_34 : decode cX12_order 34 = .ok (.iand, 1) := by decide +kernel
theorem dX12_order_35 : decode cX12_order 35 = .ok (.ifCond .eq 6, 3) := by decide +kernel
theorem dX12_order_38 : decode cX12_order 38 = .ok (.bipush (-2), 2) := by decide +kernel
theorem dX12_order_40 : decode cX12_order 40 = .ok (.ireturn, 1) := by decide +kernel
theorem dX12_order_41 : decode cX12_order 41 = .ok (.iconst 0, 1) := by decide +kernel
theorem dX12_order_42 : decode cX12_order 42 = .ok (.istore_n 3, 1) := by decide +kernel
theorem dX12_order_43 : decode cX12_order 43 = .ok (.iload_n 3, 1) := by decide +kernel
theorem dX12_order_44 : decode cX12_order 44 = .ok (.bipush 8, 2) := by decide +kernel
theorem dX12_order_46 : decode cX12_order 46 = .ok (.if_icmp .ge 33, 3) := by decide +kernel
theorem dX12_order_49 : decode cX12_order 49 = .ok (.aload_n 0, 1) := by decide +kernel
theorem dX12_order_50 : decode cX12_order 50 = .ok (.getfield 120, 3) := by decide +kernel
theorem dX12_order_53 : decode cX12_order 53 = .ok (.iload_n 3, 1) := by decide +kernel
theorem dX12_order_54 : decode cX12_order 54 = .ok (.iload_n 1, 1) := by decide +kernel
theorem dX12_order_55 : decode cX12_order 55 = .ok (.iload_n 3, 1) := by decide +kernel
theorem dX12_order_56 : decode cX12_order 56 = .ok (.ishr, 1) := by decide +kernel
theorem dX12_order_57 : decode cX12_order 57 = .ok (.iconst 1, 1) := by decide +kernel
theorem dX12_order_58 : decode cX12_order 58 = .ok (.iand, 1) := by decide +kernel
theorem dX12_order_59 : decode cX12_order 59 = .ok (.iconst 1, 1) := by decide +kernel
theorem dX12_order_60 : decode cX12_order 60 = .ok (.if_icmp .ne 11, 3) := by decide +kernel
theorem dX12_order_63 : decode cX12_order 63 = .ok (.aload_n 0, 1) := by decide +kernel
theorem dX12_order_64 : decode cX12_order 64 = .ok (.iload_n 3, 1) := by decide +kernel
theorem dX12_order_65 : decode cX12_order 65 = .ok (.invokevirtual 417, 3) := by decide +kernel
theorem dX12_order_68 : decode cX12_order 68 = .ok (.goto 4, 3) := by decide +kernel
theorem dX12_order_71 : decode cX12_order 71 = .ok (.iconst 0, 1) := by decide +kernel
theorem dX12_order_72 : decode cX12_order 72 = .ok (.iastore, 1) := by decide +kernel
theorem dX12_order_73 : decode cX12_order 73 = .ok (.iinc 3 1, 3) := by decide +kernel
theorem dX12_order_76 : decode cX12_order 76 = .ok (.goto (-33), 3) := by decide +kernel
theorem dX12_order_79 : decode cX12_order 79 = .ok (.iload_n 1, 1) := by decide +kernel
theorem dX12_order_80 : decode cX12_order 80 = .ok (.istore_n 3, 1) := by decide +kernel
theorem dX12_order_81 : decode cX12_order 81 = .ok (.iload_n 3, 1) := by decide +kernel
theorem dX12_order_82 : decode cX12_order 82 = .ok (.ifCond .lt 86, 3) := by decide +kernel
theorem dX12_order_85 : decode cX12_order 85 = .ok (.iload_n 3, 1) := by decide +kernel
theorem dX12_order_86 : decode cX12_order 86 = .ok (.iload_n 1, 1) := by decide +kernel
theorem dX12_order_87 : decode cX12_order 87 = .ok (.iconst (-1), 1) := by decide +kernel
theorem dX12_order_88 : decode cX12_order 88 = .ok (.ixor, 1) := by decide +kernel
theorem dX12_order_89 : decode cX12_order 89 = .ok (.iand, 1) := by decide +kernel
theorem dX12_order_90 : decode cX12_order 90 = .ok (.ifCond .eq 6, 3) := by decide +kernel
theorem dX12_order_93 : decode cX12_order 93 = .ok (.goto 69, 3) := by decide +kernel
theorem dX12_order_96 : decode cX12_order 96 = .ok (.iload_n 3, 1) := by decide +kernel
theorem dX12_order_97 : decode cX12_order 97 = .ok (.iload_n 1, 1) := by decide +kernel
theorem dX12_order_98 : decode cX12_order 98 = .ok (.if_icmp .ne 7, 3) := by decide +kernel
theorem dX12_order_101 : decode cX12_order 101 = .ok (.iconst 0, 1) := by decide +kernel
theorem dX12_order_102 : decode cX12_order 102 = .ok (.goto 6, 3) := by decide +kernel
theorem dX12_order_105 : decode cX12_order 105 = .ok (.ldc_w 420, 3) := by decide +kernel
theorem dX12_order_108 : decode cX12_order 108 = .ok (.istore 4, 2) := by decide +kernel
theorem dX12_order_110 : decode cX12_order 110 = .ok (.iconst 0, 1) := by decide +kernel
theorem dX12_order_111 : decode cX12_order 111 = .ok (.istore 5, 2) := by decide +kernel
theorem dX12_order_113 : decode cX12_order 113 = .ok (.iload 5, 2) := by decide +kernel
theorem dX12_order_115 : decode cX12_order 115 = .ok (.bipush 8, 2) := by decide +kernel
theorem dX12_order_117 : decode cX12_order 117 = .ok (.if_icmp .ge 37, 3) := by decide +kernel
theorem dX12_order_120 : decode cX12_order 120 = .ok (.iload_n 1, 1) := by decide +kernel
theorem dX12_order_121 : decode cX12_order 121 = .ok (.iload_n 3, 1) := by decide +kernel
theorem dX12_order_122 : decode cX12_order 122 = .ok (.iconst (-1), 1) := by decide +kernel
theorem dX12_order_123 : decode cX12_order 123 = .ok (.ixor, 1) := by decide +kernel
theorem dX12_order_124 : decode cX12_order 124 = .ok (.iand, 1) := by decide +kernel
theorem dX12_order_125 : decode cX12_order 125 = .ok (.iload 5, 2) := by decide +kernel
theorem dX12_order_127 : decode cX12_order 127 = .ok (.ishr, 1) := by decide +kernel
theorem dX12_order_128 : decode cX12_order 128 = .ok (.iconst 1, 1) := by decide +kernel
theorem dX12_order_129 : decode cX12_order 129 = .ok (.iand, 1) := by decide +kernel
theorem dX12_order_130 : decode cX12_order 130 = .ok (.iconst 1, 1) := by decide +kernel
theorem dX12_order_131 : decode cX12_order 131 = .ok (.if_icmp .ne 17, 3) := by decide +kernel
theorem dX12_order_134 : decode cX12_order 134 = .ok (.iload 4, 2) := by decide +kernel
theorem dX12_order_136 : decode cX12_order 136 = .ok (.aload_n 0, 1) := by decide +kernel
theorem dX12_order_137 : decode cX12_order 137 = .ok (.iload_n 3, 1) := by decide +kernel
theorem dX12_order_138 : decode cX12_order 138 = .ok (.iload 5, 2) := by decide +kernel
theorem dX12_order_140 : decode cX12_order 140 = .ok (.invokevirtual 421, 3) := by decide +kernel
theorem dX12_order_143 : decode cX12_order 143 = .ok (.invokestatic 304, 3) := by decide +kernel
theorem dX12_order_146 : decode cX12_order 146 = .ok (.istore 4, 2) := by decide +kernel
theorem dX12_order_148 : decode cX12_order 148 = .ok (.iinc 5 1, 3) := by decide +kernel
theorem dX12_order_151 : decode cX12_order 151 = .ok (.goto (-38), 3) := by decide +kernel
theorem dX12_order_154 : decode cX12_order 154 = .ok (.aload_n 0, 1) := by decide +kernel
theorem dX12_order_155 : decode cX12_order 155 = .ok (.getfield 123, 3) := by decide +kernel
theorem dX12_order_158 : decode cX12_order 158 = .ok (.iload_n 3, 1) := by decide +kernel
theorem dX12_order_159 : decode cX12_order 159 = .ok (.iload 4, 2) := by decide +kernel
theorem dX12_order_161 : decode cX12_order 161 = .ok (.iastore, 1) := by decide +kernel
theorem dX12_order_162 : decode cX12_order 162 = .ok (.iinc 3 (-1), 3) := by decide +kernel
theorem dX12_order_165 : decode cX12_order 165 = .ok (.goto (-84), 3) := by decide +kernel
theorem dX12_order_168 : decode cX12_order 168 = .ok (.iload_n 2, 1) := by decide +kernel
theorem dX12_order_169 : decode cX12_order 169 = .ok (.iconst (-1), 1) := by decide +kernel
theorem dX12_order_170 : decode cX12_order 170 = .ok (.if_icmp .ne 10, 3) := by decide +kernel
theorem dX12_order_173 : decode cX12_order 173 = .ok (.aload_n 0, 1) := by decide +kernel
theorem dX12_order_174 : decode cX12_order 174 = .ok (.getfield 123, 3) := by decide +kernel
theorem dX12_order_177 : decode cX12_order 177 = .ok (.iconst 0, 1) := by decide +kernel
theorem dX12_order_178 : decode cX12_order 178 = .ok (.iaload, 1) := by decide +kernel
theorem dX12_order_179 : decode cX12_order 179 = .ok (.ireturn, 1) := by decide +kernel
theorem dX12_order_180 : decode cX12_order 180 = .ok (.iconst 0, 1) := by decide +kernel
theorem dX12_order_181 : decode cX12_order 181 = .ok (.istore_n 3, 1) := by decide +kernel
theorem dX12_order_182 : decode cX12_order 182 = .ok (.iconst 0, 1) := by decide +kernel
theorem dX12_order_183 : decode cX12_order 183 = .ok (.istore 4, 2) := by decide +kernel
theorem dX12_order_185 : decode cX12_order 185 = .ok (.iconst 0, 1) := by decide +kernel
theorem dX12_order_186 : decode cX12_order 186 = .ok (.istore 5, 2) := by decide +kernel
theorem dX12_order_188 : decode cX12_order 188 = .ok (.iload_n 1, 1) := by decide +kernel
theorem dX12_order_189 : decode cX12_order 189 = .ok (.iload_n 3, 1) := by decide +kernel
theorem dX12_order_190 : decode cX12_order 190 = .ok (.iconst (-1), 1) := by decide +kernel
theorem dX12_order_191 : decode cX12_order 191 = .ok (.ixor, 1) := by decide +kernel
theorem dX12_order_192 : decode cX12_order 192 = .ok (.iand, 1) := by decide +kernel
theorem dX12_order_193 : decode cX12_order 193 = .ok (.iload 5, 2) := by decide +kernel
theorem dX12_order_195 : decode cX12_order 195 = .ok (.ishr, 1) := by decide +kernel
theorem dX12_order_196 : decode cX12_order 196 = .ok (.iconst 1, 1) := by decide +kernel
theorem dX12_order_197 : decode cX12_order 197 = .ok (.iand, 1) := by decide +kernel
theorem dX12_order_198 : decode cX12_order 198 = .ok (.ifCond .eq 19, 3) := by decide +kernel
theorem dX12_order_201 : decode cX12_order 201 = .ok (.aload_n 0, 1) := by decide +kernel
theorem dX12_order_202 : decode cX12_order 202 = .ok (.iload_n 3, 1) := by decide +kernel
theorem dX12_order_203 : decode cX12_order 203 = .ok (.iload 5, 2) := by decide +kernel
theorem dX12_order_205 : decode cX12_order 205 = .ok (.invokevirtual 421, 3) := by decide +kernel
theorem dX12_order_208 : decode cX12_order 208 = .ok (.aload_n 0, 1) := by decide +kernel
theorem dX12_order_209 : decode cX12_order 209 = .ok (.getfield 123, 3) := by decide +kernel
theorem dX12_order_212 : decode cX12_order 212 = .ok (.iload_n 3, 1) := by decide +kernel
theorem dX12_order_213 : decode cX12_order 213 = .ok (.iaload, 1) := by decide +kernel
theorem dX12_order_214 : decode cX12_order 214 = .ok (.if_icmp .eq 12, 3) := by decide +kernel
theorem dX12_order_217 : decode cX12_order 217 = .ok (.iload 5, 2) := by decide +kernel
theorem dX12_order_219 : decode cX12_order 219 = .ok (.iconst 1, 1) := by decide +kernel
theorem dX12_order_220 : decode cX12_order 220 = .ok (.iadd, 1) := by decide +kernel
theorem dX12_order_221 : decode cX12_order 221 = .ok (.istore 5, 2) := by decide +kernel
theorem dX12_order_223 : decode cX12_order 223 = .ok (.goto (-35), 3) := by decide +kernel
theorem dX12_order_226 : decode cX12_order 226 = .ok (.iload 4, 2) := by decide +kernel
theorem dX12_order_228 : decode cX12_order 228 = .ok (.iload_n 2, 1) := by decide +kernel
theorem dX12_order_229 : decode cX12_order 229 = .ok (.if_icmp .ne 6, 3) := by decide +kernel
theorem dX12_order_232 : decode cX12_order 232 = .ok (.iload 5, 2) := by decide +kernel
theorem dX12_order_234 : decode cX12_order 234 = .ok (.ireturn, 1) := by decide +kernel
theorem dX12_order_235 : decode cX12_order 235 = .ok (.iload_n 3, 1) := by decide +kernel
theorem dX12_order_236 : decode cX12_order 236 = .ok (.iconst 1, 1) := by decide +kernel
theorem dX12_order_237 : decode cX12_order 237 = .ok (.iload 5, 2) := by decide +kernel
theorem dX12_order_239 : decode cX12_order 239 = .ok (.ishl, 1) := by decide +kernel
theorem dX12_order_240 : decode cX12_order 240 = .ok (.ior, 1) := by decide +kernel
theorem dX12_order_241 : decode cX12_order 241 = .ok (.istore_n 3, 1) := by decide +kernel
theorem dX12_order_242 : decode cX12_order 242 = .ok (.iinc 4 1, 3) := by decide +kernel
theorem dX12_order_245 : decode cX12_order 245 = .ok (.goto (-60), 3) := by decide +kernel
theorem dX12_seed_0 : decode cX12_seed 0 = .ok (.iload_n 1, 1) := by decide +kernel
theorem dX12_seed_1 : decode cX12_seed 1 = .ok (.iconst 0, 1) := by decide +kernel
theorem dX12_seed_2 : decode cX12_seed 2 = .ok (.ldc_w 424, 3) := by decide +kernel
theorem dX12_seed_5 : decode cX12_seed 5 = .ok (.invokestatic 137, 3) := by decide +kernel
theorem dX12_seed_8 : decode cX12_seed 8 = .ok (.ifCond .ne 5, 3) := by decide +kernel
theorem dX12_seed_11 : decode cX12_seed 11 = .ok (.iconst 0, 1) := by decide +kernel
theorem dX12_seed_12 : decode cX12_seed 12 = .ok (.ireturn, 1) := by decide +kernel
theorem dX12_seed_13 : decode cX12_seed 13 = .ok (.aload_n 0, 1) := by decide +kernel
theorem dX12_seed_14 : decode cX12_seed 14 = .ok (.iload_n 1, 1) := by decide +kernel
theorem dX12_seed_15 : decode cX12_seed 15 = .ok (.putfield 129, 3) := by decide +kernel
theorem dX12_seed_18 : decode cX12_seed 18 = .ok (.iconst 1, 1) := by decide +kernel
theorem dX12_seed_19 : decode cX12_seed 19 = .ok (.ireturn, 1) := by decide +kernel
theorem dX12_night_0 : decode cX12_night 0 = .ok (.iload_n 1, 1) := by decide +kernel
theorem dX12_night_1 : decode cX12_night 1 = .ok (.iconst 1, 1) := by decide +kernel
theorem dX12_night_2 : decode cX12_night 2 = .ok (.bipush 40, 2) := by decide +kernel
theorem dX12_night_4 : decode cX12_night 4 = .ok (.invokestatic 137, 3) := by decide +kernel
theorem dX12_night_7 : decode cX12_night 7 = .ok (.ifCond .ne 5, 3) := by decide +kernel
theorem dX12_night_10 : decode cX12_night 10 = .ok (.iconst (-1), 1) := by decide +kernel
theorem dX12_night_11 : decode cX12_night 11 = .ok (.ireturn, 1) := by decide +kernel
theorem dX12_night_12 : decode cX12_night 12 = .ok (.iconst 0, 1) := by decide +kernel
theorem dX12_night_13 : decode cX12_night 13 = .ok (.istore_n 2, 1) := by decide +kernel
theorem dX12_night_14 : decode cX12_night 14 = .ok (.iconst 0, 1) := by decide +kernel
theorem dX12_night_15 : decode cX12_night 15 = .ok (.istore_n 3, 1) := by decide +kernel
theorem dX12_night_16 : decode cX12_night 16 = .ok (.iload_n 3, 1) := by decide +kernel
theorem dX12_night_17 : decode cX12_night 17 = .ok (.iload_n 1, 1) := by decide +kernel
theorem dX12_night_18 : decode cX12_night 18 = .ok (.if_icmp .ge 145, 3) := by decide +kernel
theorem dX12_night_21 : decode cX12_night 21 = .ok (.aload_n 0, 1) := by decide +kernel
theorem dX12_night_22 : decode cX12_night 22 = .ok (.sipush 25173, 3) := by decide +kernel
theorem dX12_night_25 : decode cX12_night 25 = .ok (.aload_n 0, 1) := by decide +kernel
theorem dX12_night_26 : decode cX12_night 26 = .ok (.getfield 129, 3) := by decide +kernel
theorem dX12_night_29 : decode cX12_night 29 = .ok (.imul, 1) := by decide +kernel
theorem dX12_night_30 : decode cX12_night 30 = .ok (.sipush 13849, 3) := by decide +kernel
theorem dX12_night_33 : decode cX12_night 33 = .ok (.iadd, 1) := by decide +kernel
theorem dX12_night_34 : decode cX12_night 34 = .ok (.ldc_w 425, 3) := by decide +kernel
theorem dX12_night_37 : decode cX12_night 37 = .ok (.irem, 1) := by decide +kernel
theorem dX12_night_38 : decode cX12_night 38 = .ok (.putfield 129, 3) := by decide +kernel
theorem dX12_night_41 : decode cX12_night 41 = .ok (.aload_n 0, 1) := by decide +kernel
theorem dX12_night_42 : decode cX12_night 42 = .ok (.getfield 129, 3) := by decide +kernel
theorem dX12_night_45 : decode cX12_night 45 = .ok (.bipush 6, 2) := by decide +kernel
theorem dX12_night_47 : decode cX12_night 47 = .ok (.irem, 1) := by decide +kernel
theorem dX12_night_48 : decode cX12_night 48 = .ok (.istore 4, 2) := by decide +kernel
theorem dX12_night_50 : decode cX12_night 50 = .ok (.aload_n 0, 1) := by decide +kernel
theorem dX12_night_51 : decode cX12_night 51 = .ok (.getfield 129, 3) := by decide +kernel
theorem dX12_night_54 : decode cX12_night 54 = .ok (.bipush 6, 2) := by decide +kernel
theorem dX12_night_56 : decode cX12_night 56 = .ok (.idiv, 1) := by decide +kernel
theorem dX12_night_57 : decode cX12_night 57 = .ok (.iconst 2, 1) := by decide +kernel
theorem dX12_night_58 : decode cX12_night 58 = .ok (.irem, 1) := by decide +kernel
theorem dX12_night_59 : decode cX12_night 59 = .ok (.ifCond .ne 7, 3) := by decide +kernel
theorem dX12_night_62 : decode cX12_night 62 = .ok (.iconst 1, 1) := by decide +kernel
theorem dX12_night_63 : decode cX12_night 63 = .ok (.goto 4, 3) := by decide +kernel
theorem dX12_night_66 : decode cX12_night 66 = .ok (.iconst 0, 1) := by decide +kernel
theorem dX12_night_67 : decode cX12_night 67 = .ok (.istore 5, 2) := by decide +kernel
theorem dX12_night_69 : decode cX12_night 69 = .ok (.iload 5, 2) := by decide +kernel
theorem dX12_night_71 : decode cX12_night 71 = .ok (.ifCond .eq 39, 3) := by decide +kernel
theorem dX12_night_74 : decode cX12_night 74 = .ok (.aload_n 0, 1) := by decide +kernel
theorem dX12_night_75 : decode cX12_night 75 = .ok (.getfield 16, 3) := by decide +kernel
theorem dX12_night_78 : decode cX12_night 78 = .ok (.iload 4, 2) := by decide +kernel
theorem dX12_night_80 : decode cX12_night 80 = .ok (.iaload, 1) := by decide +kernel
theorem dX12_night_81 : decode cX12_night 81 = .ok (.aload_n 0, 1) := by decide +kernel
theorem dX12_night_82 : decode cX12_night 82 = .ok (.getfield 13, 3) := by decide +kernel
theorem dX12_night_85 : decode cX12_night 85 = .ok (.iload 4, 2) := by decide +kernel
theorem dX12_night_87 : decode cX12_night 87 = .ok (.iaload, 1) := by decide +kernel
theorem dX12_night_88 : decode cX12_night 88 = .ok (.if_icmp .ge 22, 3) := by decide +kernel
theorem dX12_night_91 : decode cX12_night 91 = .ok (.aload_n 0, 1) := by decide +kernel
theorem dX12_night_92 : decode cX12_night 92 = .ok (.getfield 16, 3) := by decide +kernel
theorem dX12_night_95 : decode cX12_night 95 = .ok (.iload 4, 2) := by decide +kernel
theorem dX12_night_97 : decode cX12_night 97 = .ok (.aload_n 0, 1) := by decide +kernel
theorem dX12_night_98 : decode cX12_night 98 = .ok (.getfield 16, 3) := by decide +kernel
theorem dX12_night_101 : decode cX12_night 101 = .ok (.iload 4, 2) := by decide +kernel
theorem dX12_night_103 : decode cX12_night 103 = .ok (.iaload, 1) := by decide +kernel
theorem dX12_night_104 : decode cX12_night 104 = .ok (.iconst 1, 1) := by decide +kernel
theorem dX12_night_105 : decode cX12_night 105 = .ok (.iadd, 1) := by decide +kernel
theorem dX12_night_106 : decode cX12_night 106 = .ok (.iastore, 1) := by decide +kernel
theorem dX12_night_107 : decode cX12_night 107 = .ok (.goto 50, 3) := by decide +kernel
theorem dX12_night_110 : decode cX12_night 110 = .ok (.iload 5, 2) := by decide +kernel
theorem dX12_night_112 : decode cX12_night 112 = .ok (.ifCond .ne 16, 3) := by decide +kernel
theorem dX12_night_115 : decode cX12_night 115 = .ok (.aload_n 0, 1) := by decide +kernel
theorem dX12_night_116 : decode cX12_night 116 = .ok (.getfield 16, 3) := by decide +kernel
theorem dX12_night_119 : decode cX12_night 119 = .ok (.iload 4, 2) := by decide +kernel
theorem dX12_night_121 : decode cX12_night 121 = .ok (.iaload, 1) := by decide +kernel
theorem dX12_night_122 : decode cX12_night 122 = .ok (.ifCond .ne 6, 3) := by decide +kernel
theorem dX12_night_125 : decode cX12_night 125 = .ok (.goto 32, 3) := by decide +kernel
theorem dX12_night_128 : decode cX12_night 128 = .ok (.aload_n 0, 1) := by decide +kernel
theorem dX12_night_129 : decode cX12_night 129 = .ok (.getfield 16, 3) := by decide +kernel
theorem dX12_night_132 : decode cX12_night 132 = .ok (.iload 4, 2) := by decide +kernel
theorem dX12_night_134 : decode cX12_night 134 = .ok (.aload_n 0, 1) := by decide +kernel
theorem dX12_night_135 : decode cX12_night 135 = .ok (.getfield 16, 3) := by decide +kernel
theorem dX12_night_138 : decode cX12_night 138 = .ok (.iload 4, 2) := by decide +kernel
theorem dX12_night_140 : decode cX12_night 140 = .ok (.iaload, 1) := by decide +kernel
theorem dX12_night_141 : decode cX12_night 141 = .ok (.iload 5, 2) := by decide +kernel
theorem dX12_night_143 : decode cX12_night 143 = .ok (.ifCond .eq 7, 3) := by decide +kernel
theorem dX12_night_146 : decode cX12_night 146 = .ok (.iconst 0, 1) := by decide +kernel
theorem dX12_night_147 : decode cX12_night 147 = .ok (.goto 4, 3) := by decide +kernel
theorem dX12_night_150 : decode cX12_night 150 = .ok (.iconst 1, 1) := by decide +kernel
theorem dX12_night_151 : decode cX12_night 151 = .ok (.isub, 1) := by decide +kernel
theorem dX12_night_152 : decode cX12_night 152 = .ok (.iastore, 1) := by decide +kernel
theorem dX12_night_153 : decode cX12_night 153 = .ok (.iload_n 2, 1) := by decide +kernel
theorem dX12_night_154 : decode cX12_night 154 = .ok (.iconst 1, 1) := by decide +kernel
theorem dX12_night_155 : decode cX12_night 155 = .ok (.iadd, 1) := by decide +kernel
theorem dX12_night_156 : decode cX12_night 156 = .ok (.istore_n 2, 1) := by decide +kernel
theorem dX12_night_157 : decode cX12_night 157 = .ok (.iinc 3 1, 3) := by decide +kernel
theorem dX12_night_160 : decode cX12_night 160 = .ok (.goto (-144), 3) := by decide +kernel
theorem dX12_night_163 : decode cX12_night 163 = .ok (.aload_n 0, 1) := by decide +kernel
theorem dX12_night_164 : decode cX12_night 164 = .ok (.aload_n 0, 1) := by decide +kernel
theorem dX12_night_165 : decode cX12_night 165 = .ok (.getfield 353, 3) := by decide +kernel
theorem dX12_night_168 : decode cX12_night 168 = .ok (.iload_n 2, 1) := by decide +kernel
theorem dX12_night_169 : decode cX12_night 169 = .ok (.iadd, 1) := by decide +kernel
theorem dX12_night_170 : decode cX12_night 170 = .ok (.putfield 353, 3) := by decide +kernel
theorem dX12_night_173 : decode cX12_night 173 = .ok (.iload_n 2, 1) := by decide +kernel
theorem dX12_night_174 : decode cX12_night 174 = .ok (.ireturn, 1) := by decide +kernel
theorem dX12_together_0 : decode cX12_together 0 = .ok (.iconst 0, 1) := by decide +kernel
theorem dX12_together_1 : decode cX12_together 1 = .ok (.istore_n 1, 1) := by decide +kernel
theorem dX12_together_2 : decode cX12_together 2 = .ok (.iconst 0, 1) := by decide +kernel
theorem dX12_together_3 : decode cX12_together 3 = .ok (.istore_n 2, 1) := by decide +kernel
theorem dX12_together_4 : decode cX12_together 4 = .ok (.iload_n 2, 1) := by decide +kernel
theorem dX12_together_5 : decode cX12_together 5 = .ok (.bipush 6, 2) := by decide +kernel
theorem dX12_together_7 : decode cX12_together 7 = .ok (.if_icmp .ge 18, 3) := by decide +kernel
theorem dX12_together_10 : decode cX12_together 10 = .ok (.iload_n 1, 1) := by decide +kernel
theorem dX12_together_11 : decode cX12_together 11 = .ok (.aload_n 0, 1) := by decide +kernel
theorem dX12_together_12 : decode cX12_together 12 = .ok (.getfield 16, 3) := by decide +kernel
theorem dX12_together_15 : decode cX12_together 15 = .ok (.iload_n 2, 1) := by decide +kernel
theorem dX12_together_16 : decode cX12_together 16 = .ok (.iaload, 1) := by decide +kernel
theorem dX12_together_17 : decode cX12_together 17 = .ok (.iadd, 1) := by decide +kernel
theorem dX12_together_18 : decode cX12_together 18 = .ok (.istore_n 1, 1) := by decide +kernel
theorem dX12_together_19 : decode cX12_together 19 = .ok (.iinc 2 1, 3) := by decide +kernel
theorem dX12_together_22 : decode cX12_together 22 = .ok (.goto (-18), 3) := by decide +kernel
theorem dX12_together_25 : decode cX12_together 25 = .ok (.iload_n 1, 1) := by decide +kernel
theorem dX12_together_26 : decode cX12_together 26 = .ok (.ireturn, 1) := by decide +kernel
theorem dX12_keep_0 : decode cX12_keep 0 = .ok (.aload_n 0, 1) := by decide +kernel
theorem dX12_keep_1 : decode cX12_keep 1 = .ok (.iconst 1, 1) := by decide +kernel
theorem dX12_keep_2 : decode cX12_keep 2 = .ok (.putfield 426, 3) := by decide +kernel
theorem dX12_keep_5 : decode cX12_keep 5 = .ok (.aload_n 0, 1) := by decide +kernel
theorem dX12_keep_6 : decode cX12_keep 6 = .ok (.aload_n 0, 1) := by decide +kernel
theorem dX12_keep_7 : decode cX12_keep 7 = .ok (.getfield 129, 3) := by decide +kernel
theorem dX12_keep_10 : decode cX12_keep 10 = .ok (.putfield 430, 3) := by decide +kernel
theorem dX12_keep_13 : decode cX12_keep 13 = .ok (.aload_n 0, 1) := by decide +kernel
theorem dX12_keep_14 : decode cX12_keep 14 = .ok (.aload_n 0, 1) := by decide +kernel
theorem dX12_keep_15 : decode cX12_keep 15 = .ok (.getfield 353, 3) := by decide +kernel
theorem dX12_keep_18 : decode cX12_keep 18 = .ok (.putfield 433, 3) := by decide +kernel
theorem dX12_keep_21 : decode cX12_keep 21 = .ok (.aload_n 0, 1) := by decide +kernel
theorem dX12_keep_22 : decode cX12_keep 22 = .ok (.aload_n 0, 1) := by decide +kernel
theorem dX12_keep_23 : decode cX12_keep 23 = .ok (.getfield 356, 3) := by decide +kernel
theorem dX12_keep_26 : decode cX12_keep 26 = .ok (.putfield 436, 3) := by decide +kernel
theorem dX12_keep_29 : decode cX12_keep 29 = .ok (.aload_n 0, 1) := by decide +kernel
theorem dX12_keep_30 : decode cX12_keep 30 = .ok (.aload_n 0, 1) := by decide +kernel
theorem dX12_keep_31 : decode cX12_keep 31 = .ok (.getfield 350, 3) := by decide +kernel
theorem dX12_keep_34 : decode cX12_keep 34 = .ok (.putfield 439, 3) := by decide +kernel
theorem dX12_keep_37 : decode cX12_keep 37 = .ok (.iconst 0, 1) := by decide +kernel
theorem dX12_keep_38 : decode cX12_keep 38 = .ok (.istore_n 1, 1) := by decide +kernel
theorem dX12_keep_39 : decode cX12_keep 39 = .ok (.iload_n 1, 1) := by decide +kernel
theorem dX12_keep_40 : decode cX12_keep 40 = .ok (.bipush 6, 2) := by decide +kernel
theorem dX12_keep_42 : decode cX12_keep 42 = .ok (.if_icmp .ge 21, 3) := by decide +kernel
theorem dX12_keep_45 : decode cX12_keep 45 = .ok (.aload_n 0, 1) := by decide +kernel
theorem dX12_keep_46 : decode cX12_keep 46 = .ok (.getfield 126, 3) := by decide +kernel
theorem dX12_keep_49 : decode cX12_keep 49 = .ok (.iload_n 1, 1) := by decide +kernel
theorem dX12_keep_50 : decode cX12_keep 50 = .ok (.aload_n 0, 1) := by decide +kernel
theorem dX12_keep_51 : decode cX12_keep 51 = .ok (.getfield 16, 3) := by decide +kernel
theorem dX12_keep_54 : decode cX12_keep 54 = .ok (.iload_n 1, 1) := by decide +kernel
theorem dX12_keep_55 : decode cX12_keep 55 = .ok (.iaload, 1) := by decide +kernel
theorem dX12_keep_56 : decode cX12_keep 56 = .ok (.iastore, 1) := by decide +kernel
theorem dX12_keep_57 : decode cX12_keep 57 = .ok (.iinc 1 1, 3) := by decide +kernel
theorem dX12_keep_60 : decode cX12_keep 60 = .ok (.goto (-21), 3) := by decide +kernel
theorem dX12_keep_63 : decode cX12_keep 63 = .ok (.aload_n 0, 1) := by decide +kernel
theorem dX12_keep_64 : decode cX12_keep 64 = .ok (.invokevirtual 442, 3) := by decide +kernel
theorem dX12_keep_67 : decode cX12_keep 67 = .ok (.ireturn, 1) := by decide +kernel
theorem dX12_undo_0 : decode cX12_undo 0 = .ok (.aload_n 0, 1) := by decide +kernel
theorem dX12_undo_1 : decode cX12_undo 1 = .ok (.getfield 426, 3) := by decide +kernel
theorem dX12_undo_4 : decode cX12_undo 4 = .ok (.ifCond .ne 5, 3) := by decide +kernel
theorem dX12_undo_7 : decode cX12_undo 7 = .ok (.iconst 0, 1) := by decide +kernel
theorem dX12_undo_8 : decode cX12_undo 8 = .ok (.ireturn, 1) := by decide +kernel
theorem dX12_undo_9 : decode cX12_undo 9 = .ok (.iconst 0, 1) := by decide +kernel
theorem dX12_undo_10 : decode cX12_undo 10 = .ok (.istore_n 1, 1) := by decide +kernel
theorem dX12_undo_11 : decode cX12_undo 11 = .ok (.iload_n 1, 1) := by decide +kernel
theorem dX12_undo_12 : decode cX12_undo 12 = .ok (.bipush 6, 2) := by decide +kernel
theorem dX12_undo_14 : decode cX12_undo 14 = .ok (.if_icmp .ge 26, 3) := by decide +kernel
theorem dX12_undo_17 : decode cX12_undo 17 = .ok (.aload_n 0, 1) := by decide +kernel
theorem dX12_undo_18 : decode cX12_undo 18 = .ok (.getfield 126, 3) := by decide +kernel
theorem dX12_undo_21 : decode cX12_undo 21 = .ok (.iload_n 1, 1) := by decide +kernel
theorem dX12_undo_22 : decode cX12_undo 22 = .ok (.iaload, 1) := by decide +kernel
theorem dX12_undo_23 : decode cX12_undo 23 = .ok (.aload_n 0, 1) := by decide +kernel
theorem dX12_undo_24 : decode cX12_undo 24 = .ok (.getfield 13, 3) := by decide +kernel
theorem dX12_undo_27 : decode cX12_undo 27 = .ok (.iload_n 1, 1) := by decide +kernel
theorem dX12_undo_28 : decode cX12_undo 28 = .ok (.iaload, 1) := by decide +kernel
theorem dX12_undo_29 : decode cX12_undo 29 = .ok (.if_icmp .le 5, 3) := by decide +kernel
theorem dX12_undo_32 : decode cX12_undo 32 = .ok (.iconst 0, 1) := by decide +kernel
theorem dX12_undo_33 : decode cX12_undo 33 = .ok (.ireturn, 1) := by decide +kernel
theorem dX12_undo_34 : decode cX12_undo 34 = .ok (.iinc 1 1, 3) := by decide +kernel
theorem dX12_undo_37 : decode cX12_undo 37 = .ok (.goto (-26), 3) := by decide +kernel
theorem dX12_undo_40 : decode cX12_undo 40 = .ok (.aload_n 0, 1) := by decide +kernel
theorem dX12_undo_41 : decode cX12_undo 41 = .ok (.aload_n 0, 1) := by decide +kernel
theorem dX12_undo_42 : decode cX12_undo 42 = .ok (.getfield 430, 3) := by decide +kernel
theorem dX12_undo_45 : decode cX12_undo 45 = .ok (.putfield 129, 3) := by decide +kernel
theorem dX12_undo_48 : decode cX12_undo 48 = .ok (.aload_n 0, 1) := by decide +kernel
theorem dX12_undo_49 : decode cX12_undo 49 = .ok (.aload_n 0, 1) := by decide +kernel
theorem dX12_undo_50 : decode cX12_undo 50 = .ok (.getfield 433, 3) := by decide +kernel
theorem dX12_undo_53 : decode cX12_undo 53 = .ok (.putfield 353, 3) := by decide +kernel
theorem dX12_undo_56 : decode cX12_undo 56 = .ok (.aload_n 0, 1) := by decide +kernel
theorem dX12_undo_57 : decode cX12_undo 57 = .ok (.aload_n 0, 1) := by decide +kernel
theorem dX12_undo_58 : decode cX12_undo 58 = .ok (.getfield 436, 3) := by decide +kernel
theorem dX12_undo_61 : decode cX12_undo 61 = .ok (.putfield 356, 3) := by decide +kernel
theorem dX12_undo_64 : decode cX12_undo 64 = .ok (.aload_n 0, 1) := by decide +kernel
theorem dX12_undo_65 : decode cX12_undo 65 = .ok (.aload_n 0, 1) := by decide +kernel
theorem dX12_undo_66 : decode cX12_undo 66 = .ok (.getfield 439, 3) := by decide +kernel
theorem dX12_undo_69 : decode cX12_undo 69 = .ok (.putfield 350, 3) := by decide +kernel
theorem dX12_undo_72 : decode cX12_undo 72 = .ok (.iconst 0, 1) := by decide +kernel
theorem dX12_undo_73 : decode cX12_undo 73 = .ok (.istore_n 1, 1) := by decide +kernel
theorem dX12_undo_74 : decode cX12_undo 74 = .ok (.iload_n 1, 1) := by decide +kernel
theorem dX12_undo_75 : decode cX12_undo 75 = .ok (.bipush 6, 2) := by decide +kernel
theorem dX12_undo_77 : decode cX12_undo 77 = .ok (.if_icmp .ge 21, 3) := by decide +kernel
theorem dX12_undo_80 : decode cX12_undo 80 = .ok (.aload_n 0, 1) := by decide +kernel
theorem dX12_undo_81 : decode cX12_undo 81 = .ok (.getfield 16, 3) := by decide +kernel
theorem dX12_undo_84 : decode cX12_undo 84 = .ok (.iload_n 1, 1) := by decide +kernel
theorem dX12_undo_85 : decode cX12_undo 85 = .ok (.aload_n 0, 1) := by decide +kernel
theorem dX12_undo_86 : decode cX12_undo 86 = .ok (.getfield 126, 3) := by decide +kernel
theorem dX12_undo_89 : decode cX12_undo 89 = .ok (.iload_n 1, 1) := by decide +kernel
theorem dX12_undo_90 : decode cX12_undo 90 = .ok (.iaload, 1) := by decide +kernel
theorem dX12_undo_91 : decode cX12_undo 91 = .ok (.iastore, 1) := by decide +kernel
theorem dX12_undo_92 : decode cX12_undo 92 = .ok (.iinc 1 1, 3) := by decide +kernel
theorem dX12_undo_95 : decode cX12_undo 95 = .ok (.goto (-21), 3) := by decide +kernel
theorem dX12_undo_98 : decode cX12_undo 98 = .ok (.iconst 1, 1) := by decide +kernel
theorem dX12_undo_99 : decode cX12_undo 99 = .ok (.ireturn, 1) := by decide +kernel
theorem dX12_tapeNumber_0 : decode cX12_tapeNumber 0 = .ok (.iconst 0, 1) := by decide +kernel
theorem dX12_tapeNumber_1 : decode cX12_tapeNumber 1 = .ok (.istore_n 2, 1) := by decide +kernel
theorem dX12_tapeNumber_2 : decode cX12_tapeNumber 2 = .ok (.iconst 4, 1) := by decide +kernel
theorem dX12_tapeNumber_3 : decode cX12_tapeNumber 3 = .ok (.iload_n 1, 1) := by decide +kernel
theorem dX12_tapeNumber_4 : decode cX12_tapeNumber 4 = .ok (.imul, 1) := by decide +kernel
theorem dX12_tapeNumber_5 : decode cX12_tapeNumber 5 = .ok (.istore_n 3, 1) := by decide +kernel
theorem dX12_tapeNumber_6 : decode cX12_tapeNumber 6 = .ok (.iload_n 3, 1) := by decide +kernel
theorem dX12_tapeNumber_7 : decode cX12_tapeNumber 7 = .ok (.iconst 4, 1) := by decide +kernel
theorem dX12_tapeNumber_8 : decode cX12_tapeNumber 8 = .ok (.iload_n 1, 1) := by decide +kernel
theorem dX12_tapeNumber_9 : decode cX12_tapeNumber 9 = .ok (.imul, 1) := by decide +kernel
theorem dX12_tapeNumber_10 : decode cX12_tapeNumber 10 = .ok (.iconst 4, 1) := by decide +kernel
theorem dX12_tapeNumber_11 : decode cX12_tapeNumber 11 = .ok (.iadd, 1) := by decide +kernel
theorem dX12_tapeNumber_12 : decode cX12_tapeNumber 12 = .ok (.if_icmp .ge 25, 3) := by decide +kernel
theorem dX12_tapeNumber_15 : decode cX12_tapeNumber 15 = .ok (.iload_n 2, 1) := by decide +kernel
theorem dX12_tapeNumber_16 : decode cX12_tapeNumber 16 = .ok (.bipush 8, 2) := by decide +kernel
theorem dX12_tapeNumber_18 : decode cX12_tapeNumber 18 = .ok (.ishl, 1) := by decide +kernel
theorem dX12_tapeNumber_19 : decode cX12_tapeNumber 19 = .ok (.aload_n 0, 1) := by decide +kernel
theorem dX12_tapeNumber_20 : decode cX12_tapeNumber 20 = .ok (.getfield 19, 3) := by decide +kernel
theorem dX12_tapeNumber_23 : decode cX12_tapeNumber 23 = .ok (.iload_n 3, 1) := by decide +kernel
theorem dX12_tapeNumber_24 : decode cX12_tapeNumber 24 = .ok (.baload, 1) := by decide +kernel
theorem dX12_tapeNumber_25 : decode cX12_tapeNumber 25 = .ok (.sipush 255, 3) := by decide +kernel
theorem dX12_tapeNumber_28 : decode cX12_tapeNumber 28 = .ok (.iand, 1) := by decide +kernel
theorem dX12_tapeNumber_29 : decode cX12_tapeNumber 29 = .ok (.ior, 1) := by decide +kernel
theorem dX12_tapeNumber_30 : decode cX12_tapeNumber 30 = .ok (.istore_n 2, 1) := by decide +kernel
theorem dX12_tapeNumber_31 : decode cX12_tapeNumber 31 = .ok (.iinc 3 1, 3) := by decide +kernel
theorem dX12_tapeNumber_34 : decode cX12_tapeNumber 34 = .ok (.goto (-28), 3) := by decide +kernel
theorem dX12_tapeNumber_37 : decode cX12_tapeNumber 37 = .ok (.iload_n 2, 1) := by decide +kernel
theorem dX12_tapeNumber_38 : decode cX12_tapeNumber 38 = .ok (.ireturn, 1) := by decide +kernel
theorem dX12_check_0 : decode cX12_check 0 = .ok (.iload_n 1, 1) := by decide +kernel
theorem dX12_check_1 : decode cX12_check 1 = .ok (.iconst 0, 1) := by decide +kernel
theorem dX12_check_2 : decode cX12_check 2 = .ok (.bipush 6, 2) := by decide +kernel
theorem dX12_check_4 : decode cX12_check 4 = .ok (.invokestatic 137, 3) := by decide +kernel
theorem dX12_check_7 : decode cX12_check 7 = .ok (.ifCond .eq 13, 3) := by decide +kernel
theorem dX12_check_10 : decode cX12_check 10 = .ok (.iload_n 1, 1) := by decide +kernel
theorem dX12_check_11 : decode cX12_check 11 = .ok (.aload_n 0, 1) := by decide +kernel
theorem dX12_check_12 : decode cX12_check 12 = .ok (.getfield 141, 3) := by decide +kernel
theorem dX12_check_15 : decode cX12_check 15 = .ok (.iconst 4, 1) := by decide +kernel
theorem dX12_check_16 : decode cX12_check 16 = .ok (.idiv, 1) := by decide +kernel
theorem dX12_check_17 : decode cX12_check 17 = .ok (.if_icmp .le 6, 3) := by decide +kernel
theorem dX12_check_20 : decode cX12_check 20 = .ok (.bipush (-2), 2) := by decide +kernel
theorem dX12_check_22 : decode cX12_check 22 = .ok (.ireturn, 1) := by decide +kernel
theorem dX12_check_23 : decode cX12_check 23 = .ok (.aload_n 0, 1) := by decide +kernel
theorem dX12_check_24 : decode cX12_check 24 = .ok (.iconst 0, 1) := by decide +kernel
theorem dX12_check_25 : decode cX12_check 25 = .ok (.putfield 141, 3) := by decide +kernel
theorem dX12_check_28 : decode cX12_check 28 = .ok (.iconst 0, 1) := by decide +kernel
theorem dX12_check_29 : decode cX12_check 29 = .ok (.istore_n 2, 1) := by decide +kernel
theorem dX12_check_30 : decode cX12_check 30 = .ok (.iload_n 2, 1) := by decide +kernel
theorem dX12_check_31 : decode cX12_check 31 = .ok (.iload_n 1, 1) := by decide +kernel
theorem dX12_check_32 : decode cX12_check 32 = .ok (.if_icmp .ge 25, 3) := by decide +kernel
theorem dX12_check_35 : decode cX12_check 35 = .ok (.aload_n 0, 1) := by decide +kernel
theorem dX12_check_36 : decode cX12_check 36 = .ok (.iload_n 2, 1) := by decide +kernel
theorem dX12_check_37 : decode cX12_check 37 = .ok (.invokevirtual 445, 3) := by decide +kernel
theorem dX12_check_40 : decode cX12_check 40 = .ok (.aload_n 0, 1) := by decide +kernel
theorem dX12_check_41 : decode cX12_check 41 = .ok (.getfield 16, 3) := by decide +kernel
theorem dX12_check_44 : decode cX12_check 44 = .ok (.iload_n 2, 1) := by decide +kernel
theorem dX12_check_45 : decode cX12_check 45 = .ok (.iaload, 1) := by decide +kernel
theorem dX12_check_46 : decode cX12_check 46 = .ok (.if_icmp .eq 5, 3) := by decide +kernel
theorem dX12_check_49 : decode cX12_check 49 = .ok (.iload_n 2, 1) := by decide +kernel
theorem dX12_check_50 : decode cX12_check 50 = .ok (.ireturn, 1) := by decide +kernel
theorem dX12_check_51 : decode cX12_check 51 = .ok (.iinc 2 1, 3) := by decide +kernel
theorem dX12_check_54 : decode cX12_check 54 = .ok (.goto (-24), 3) := by decide +kernel
theorem dX12_check_57 : decode cX12_check 57 = .ok (.iconst (-1), 1) := by decide +kernel
theorem dX12_check_58 : decode cX12_check 58 = .ok (.ireturn, 1) := by decide +kernel
theorem dX12_count_0 : decode cX12_count 0 = .ok (.iload_n 1, 1) := by decide +kernel
theorem dX12_count_1 : decode cX12_count 1 = .ok (.tableswitch 78 0 6 #[43, 48, 53, 58, 63, 68, 73], 43) := by decide +kernel
theorem dX12_count_44 : decode cX12_count 44 = .ok (.aload_n 0, 1) := by decide +kernel
theorem dX12_count_45 : decode cX12_count 45 = .ok (.getfield 353, 3) := by decide +kernel
theorem dX12_count_48 : decode cX12_count 48 = .ok (.ireturn, 1) := by decide +kernel
theorem dX12_count_49 : decode cX12_count 49 = .ok (.aload_n 0, 1) := by decide +kernel
theorem dX12_count_50 : decode cX12_count 50 = .ok (.getfield 356, 3) := by decide +kernel
theorem dX12_count_53 : decode cX12_count 53 = .ok (.ireturn, 1) := by decide +kernel
theorem dX12_count_54 : decode cX12_count 54 = .ok (.aload_n 0, 1) := by decide +kernel
theorem dX12_count_55 : decode cX12_count 55 = .ok (.getfield 350, 3) := by decide +kernel
theorem dX12_count_58 : decode cX12_count 58 = .ok (.ireturn, 1) := by decide +kernel
theorem dX12_count_59 : decode cX12_count 59 = .ok (.aload_n 0, 1) := by decide +kernel
theorem dX12_count_60 : decode cX12_count 60 = .ok (.getfield 141, 3) := by decide +kernel
theorem dX12_count_63 : decode cX12_count 63 = .ok (.ireturn, 1) := by decide +kernel
theorem dX12_count_64 : decode cX12_count 64 = .ok (.aload_n 0, 1) := by decide +kernel
theorem dX12_count_65 : decode cX12_count 65 = .ok (.getfield 129, 3) := by decide +kernel
theorem dX12_count_68 : decode cX12_count 68 = .ok (.ireturn, 1) := by decide +kernel
theorem dX12_count_69 : decode cX12_count 69 = .ok (.aload_n 0, 1) := by decide +kernel
theorem dX12_count_70 : decode cX12_count 70 = .ok (.getfield 414, 3) := by decide +kernel
theorem dX12_count_73 : decode cX12_count 73 = .ok (.ireturn, 1) := by decide +kernel
theorem dX12_count_74 : decode cX12_count 74 = .ok (.aload_n 0, 1) := by decide +kernel
theorem dX12_count_75 : decode cX12_count 75 = .ok (.invokevirtual 442, 3) := by decide +kernel
theorem dX12_count_78 : decode cX12_count 78 = .ok (.ireturn, 1) := by decide +kernel
theorem dX12_count_79 : decode cX12_count 79 = .ok (.iload_n 1, 1) := by decide +kernel
theorem dX12_count_80 : decode cX12_count 80 = .ok (.bipush 10, 2) := by decide +kernel
theorem dX12_count_82 : decode cX12_count 82 = .ok (.bipush 15, 2) := by decide +kernel
theorem dX12_count_84 : decode cX12_count 84 = .ok (.invokestatic 137, 3) := by decide +kernel
theorem dX12_count_87 : decode cX12_count 87 = .ok (.ifCond .eq 13, 3) := by decide +kernel
theorem dX12_count_90 : decode cX12_count 90 = .ok (.aload_n 0, 1) := by decide +kernel
theorem dX12_count_91 : decode cX12_count 91 = .ok (.getfield 16, 3) := by decide +kernel
theorem dX12_count_94 : decode cX12_count 94 = .ok (.iload_n 1, 1) := by decide +kernel
theorem dX12_count_95 : decode cX12_count 95 = .ok (.bipush 10, 2) := by decide +kernel
theorem dX12_count_97 : decode cX12_count 97 = .ok (.isub, 1) := by decide +kernel
theorem dX12_count_98 : decode cX12_count 98 = .ok (.iaload, 1) := by decide +kernel
theorem dX12_count_99 : decode cX12_count 99 = .ok (.ireturn, 1) := by decide +kernel
theorem dX12_count_100 : decode cX12_count 100 = .ok (.iload_n 1, 1) := by decide +kernel
theorem dX12_count_101 : decode cX12_count 101 = .ok (.bipush 20, 2) := by decide +kernel
theorem dX12_count_103 : decode cX12_count 103 = .ok (.bipush 25, 2) := by decide +kernel
theorem dX12_count_105 : decode cX12_count 105 = .ok (.invokestatic 137, 3) := by decide +kernel
theorem dX12_count_108 : decode cX12_count 108 = .ok (.ifCond .eq 13, 3) := by decide +kernel
theorem dX12_count_111 : decode cX12_count 111 = .ok (.aload_n 0, 1) := by decide +kernel
theorem dX12_count_112 : decode cX12_count 112 = .ok (.getfield 13, 3) := by decide +kernel
theorem dX12_count_115 : decode cX12_count 115 = .ok (.iload_n 1, 1) := by decide +kernel
theorem dX12_count_116 : decode cX12_count 116 = .ok (.bipush 20, 2) := by decide +kernel
theorem dX12_count_118 : decode cX12_count 118 = .ok (.isub, 1) := by decide +kernel
theorem dX12_count_119 : decode cX12_count 119 = .ok (.iaload, 1) := by decide +kernel
theorem dX12_count_120 : decode cX12_count 120 = .ok (.ireturn, 1) := by decide +kernel
theorem dX12_count_121 : decode cX12_count 121 = .ok (.iload_n 1, 1) := by decide +kernel
theorem dX12_count_122 : decode cX12_count 122 = .ok (.bipush 30, 2) := by decide +kernel
theorem dX12_count_124 : decode cX12_count 124 = .ok (.bipush 35, 2) := by decide +kernel
theorem dX12_count_126 : decode cX12_count 126 = .ok (.invokestatic 137, 3) := by decide +kernel
theorem dX12_count_129 : decode cX12_count 129 = .ok (.ifCond .eq 13, 3) := by decide +kernel
theorem dX12_count_132 : decode cX12_count 132 = .ok (.aload_n 0, 1) := by decide +kernel
theorem dX12_count_133 : decode cX12_count 133 = .ok (.getfield 7, 3) := by decide +kernel
theorem dX12_count_136 : decode cX12_count 136 = .ok (.iload_n 1, 1) := by decide +kernel
theorem dX12_count_137 : decode cX12_count 137 = .ok (.bipush 30, 2) := by decide +kernel
theorem dX12_count_139 : decode cX12_count 139 = .ok (.isub, 1) := by decide +kernel
theorem dX12_count_140 : decode cX12_count 140 = .ok (.iaload, 1) := by decide +kernel
theorem dX12_count_141 : decode cX12_count 141 = .ok (.ireturn, 1) := by decide +kernel
theorem dX12_count_142 : decode cX12_count 142 = .ok (.iload_n 1, 1) := by decide +kernel
theorem dX12_count_143 : decode cX12_count 143 = .ok (.bipush 40, 2) := by decide +kernel
theorem dX12_count_145 : decode cX12_count 145 = .ok (.bipush 42, 2) := by decide +kernel
theorem dX12_count_147 : decode cX12_count 147 = .ok (.invokestatic 137, 3) := by decide +kernel
theorem dX12_count_150 : decode cX12_count 150 = .ok (.ifCond .eq 15, 3) := by decide +kernel
theorem dX12_count_153 : decode cX12_count 153 = .ok (.aload_n 0, 1) := by decide +kernel
theorem dX12_count_154 : decode cX12_count 154 = .ok (.getfield 59, 3) := by decide +kernel
theorem dX12_count_157 : decode cX12_count 157 = .ok (.iload_n 1, 1) := by decide +kernel
theorem dX12_count_158 : decode cX12_count 158 = .ok (.bipush 40, 2) := by decide +kernel
theorem dX12_count_160 : decode cX12_count 160 = .ok (.isub, 1) := by decide +kernel
theorem dX12_count_161 : decode cX12_count 161 = .ok (.iaload, 1) := by decide +kernel
theorem dX12_count_162 : decode cX12_count 162 = .ok (.goto 4, 3) := by decide +kernel
theorem dX12_count_165 : decode cX12_count 165 = .ok (.iconst (-1), 1) := by decide +kernel
theorem dX12_count_166 : decode cX12_count 166 = .ok (.ireturn, 1) := by decide +kernel
theorem dJ6_bitCount_0f7a4_0 : decode cJ6_bitCount_0f7a4 0 = .ok (.iload_n 0, 1) := by decide +kernel
theorem dJ6_bitCount_0f7a4_1 : decode cJ6_bitCount_0f7a4 1 = .ok (.iload_n 0, 1) := by decide +kernel
theorem dJ6_bitCount_0f7a4_2 : decode cJ6_bitCount_0f7a4 2 = .ok (.iconst 1, 1) := by decide +kernel
theorem dJ6_bitCount_0f7a4_3 : decode cJ6_bitCount_0f7a4 3 = .ok (.iushr, 1) := by decide +kernel
theorem dJ6_bitCount_0f7a4_4 : decode cJ6_bitCount_0f7a4 4 = .ok (.ldc_w 265, 3) := by decide +kernel
theorem dJ6_bitCount_0f7a4_7 : decode cJ6_bitCount_0f7a4 7 = .ok (.iand, 1) := by decide +kernel
theorem dJ6_bitCount_0f7a4_8 : decode cJ6_bitCount_0f7a4 8 = .ok (.isub, 1) := by decide +kernel
theorem dJ6_bitCount_0f7a4_9 : decode cJ6_bitCount_0f7a4 9 = .ok (.istore_n 0, 1) := by decide +kernel
theorem dJ6_bitCount_0f7a4_10 : decode cJ6_bitCount_0f7a4 10 = .ok (.iload_n 0, 1) := by decide +kernel
theorem dJ6_bitCount_0f7a4_11 : decode cJ6_bitCount_0f7a4 11 = .ok (.ldc_w 266, 3) := by decide +kernel
theorem dJ6_bitCount_0f7a4_14 : decode cJ6_bitCount_0f7a4 14 = .ok (.iand, 1) := by decide +kernel
theorem dJ6_bitCount_0f7a4_15 : decode cJ6_bitCount_0f7a4 15 = .ok (.iload_n 0, 1) := by decide +kernel
theorem dJ6_bitCount_0f7a4_16 : decode cJ6_bitCount_0f7a4 16 = .ok (.iconst 2, 1) := by decide +kernel
theorem dJ6_bitCount_0f7a4_17 : decode cJ6_bitCount_0f7a4 17 = .ok (.iushr, 1) := by decide +kernel
theorem dJ6_bitCount_0f7a4_18 : decode cJ6_bitCount_0f7a4 18 = .ok (.ldc_w 266, 3) := by decide +kernel
theorem dJ6_bitCount_0f7a4_21 : decode cJ6_bitCount_0f7a4 21 = .ok (.iand, 1) := by decide +kernel
theorem dJ6_bitCount_0f7a4_22 : decode cJ6_bitCount_0f7a4 22 = .ok (.iadd, 1) := by decide +kernel
theorem dJ6_bitCount_0f7a4_23 : decode cJ6_bitCount_0f7a4 23 = .ok (.istore_n 0, 1) := by decide +kernel
theorem dJ6_bitCount_0f7a4_24 : decode cJ6_bitCount_0f7a4 24 = .ok (.iload_n 0, 1) := by decide +kernel
theorem dJ6_bitCount_0f7a4_25 : decode cJ6_bitCount_0f7a4 25 = .ok (.iload_n 0, 1) := by decide +kernel
theorem dJ6_bitCount_0f7a4_26 : decode cJ6_bitCount_0f7a4 26 = .ok (.iconst 4, 1) := by decide +kernel
theorem dJ6_bitCount_0f7a4_27 : decode cJ6_bitCount_0f7a4 27 = .ok (.iushr, 1) := by decide +kernel
theorem dJ6_bitCount_0f7a4_28 : decode cJ6_bitCount_0f7a4 28 = .ok (.iadd, 1) := by decide +kernel
theorem dJ6_bitCount_0f7a4_29 : decode cJ6_bitCount_0f7a4 29 = .ok (.ldc_w 267, 3) := by decide +kernel
theorem dJ6_bitCount_0f7a4_32 : decode cJ6_bitCount_0f7a4 32 = .ok (.iand, 1) := by decide +kernel
theorem dJ6_bitCount_0f7a4_33 : decode cJ6_bitCount_0f7a4 33 = .ok (.istore_n 0, 1) := by decide +kernel
theorem dJ6_bitCount_0f7a4_34 : decode cJ6_bitCount_0f7a4 34 = .ok (.iload_n 0, 1) := by decide +kernel
theorem dJ6_bitCount_0f7a4_35 : decode cJ6_bitCount_0f7a4 35 = .ok (.iload_n 0, 1) := by decide +kernel
theorem dJ6_bitCount_0f7a4_36 : decode cJ6_bitCount_0f7a4 36 = .ok (.bipush 8, 2) := by decide +kernel
theorem dJ6_bitCount_0f7a4_38 : decode cJ6_bitCount_0f7a4 38 = .ok (.iushr, 1) := by decide +kernel
theorem dJ6_bitCount_0f7a4_39 : decode cJ6_bitCount_0f7a4 39 = .ok (.iadd, 1) := by decide +kernel
theorem dJ6_bitCount_0f7a4_40 : decode cJ6_bitCount_0f7a4 40 = .ok (.istore_n 0, 1) := by decide +kernel
theorem dJ6_bitCount_0f7a4_41 : decode cJ6_bitCount_0f7a4 41 = .ok (.iload_n 0, 1) := by decide +kernel
theorem dJ6_bitCount_0f7a4_42 : decode cJ6_bitCount_0f7a4 42 = .ok (.iload_n 0, 1) := by decide +kernel
theorem dJ6_bitCount_0f7a4_43 : decode cJ6_bitCount_0f7a4 43 = .ok (.bipush 16, 2) := by decide +kernel
theorem dJ6_bitCount_0f7a4_45 : decode cJ6_bitCount_0f7a4 45 = .ok (.iushr, 1) := by decide +kernel
theorem dJ6_bitCount_0f7a4_46 : decode cJ6_bitCount_0f7a4 46 = .ok (.iadd, 1) := by decide +kernel
theorem dJ6_bitCount_0f7a4_47 : decode cJ6_bitCount_0f7a4 47 = .ok (.istore_n 0, 1) := by decide +kernel
theorem dJ6_bitCount_0f7a4_48 : decode cJ6_bitCount_0f7a4 48 = .ok (.iload_n 0, 1) := by decide +kernel
theorem dJ6_bitCount_0f7a4_49 : decode cJ6_bitCount_0f7a4 49 = .ok (.bipush 63, 2) := by decide +kernel
theorem dJ6_bitCount_0f7a4_51 : decode cJ6_bitCount_0f7a4 51 = .ok (.iand, 1) := by decide +kernel
theorem dJ6_bitCount_0f7a4_52 : decode cJ6_bitCount_0f7a4 52 = .ok (.ireturn, 1) := by decide +kernel
theorem dJ9_floorMod_7cf53_0 : decode cJ9_floorMod_7cf53 0 = .ok (.iload_n 0, 1) := by decide +kernel
theorem dJ9_floorMod_7cf53_1 : decode cJ9_floorMod_7cf53 1 = .ok (.iload_n 1, 1) := by decide +kernel
theorem dJ9_floorMod_7cf53_2 : decode cJ9_floorMod_7cf53 2 = .ok (.irem, 1) := by decide +kernel
theorem dJ9_floorMod_7cf53_3 : decode cJ9_floorMod_7cf53 3 = .ok (.istore_n 2, 1) := by decide +kernel
theorem dJ9_floorMod_7cf53_4 : decode cJ9_floorMod_7cf53 4 = .ok (.iload_n 0, 1) := by decide +kernel
theorem dJ9_floorMod_7cf53_5 : decode cJ9_floorMod_7cf53 5 = .ok (.iload_n 1, 1) := by decide +kernel
theorem dJ9_floorMod_7cf53_6 : decode cJ9_floorMod_7cf53 6 = .ok (.ixor, 1) := by decide +kernel
theorem dJ9_floorMod_7cf53_7 : decode cJ9_floorMod_7cf53 7 = .ok (.ifCond .ge 11, 3) := by decide +kernel
theorem dJ9_floorMod_7cf53_10 : decode cJ9_floorMod_7cf53 10 = .ok (.iload_n 2, 1) := by decide +kernel
theorem dJ9_floorMod_7cf53_11 : decode cJ9_floorMod_7cf53 11 = .ok (.ifCond .eq 7, 3) := by decide +kernel
theorem dJ9_floorMod_7cf53_14 : decode cJ9_floorMod_7cf53 14 = .ok (.iload_n 2, 1) := by decide +kernel
theorem dJ9_floorMod_7cf53_15 : decode cJ9_floorMod_7cf53 15 = .ok (.iload_n 1, 1) := by decide +kernel
theorem dJ9_floorMod_7cf53_16 : decode cJ9_floorMod_7cf53 16 = .ok (.iadd, 1) := by decide +kernel
theorem dJ9_floorMod_7cf53_17 : decode cJ9_floorMod_7cf53 17 = .ok (.ireturn, 1) := by decide +kernel
theorem dJ9_floorMod_7cf53_18 : decode cJ9_floorMod_7cf53 18 = .ok (.iload_n 2, 1) := by decide +kernel
theorem dJ9_floorMod_7cf53_19 : decode cJ9_floorMod_7cf53 19 = .ok (.ireturn, 1) := by decide +kernel
theorem dJ9_max_7cf53_0 : decode cJ9_max_7cf53 0 = .ok (.iload_n 0, 1) := by decide +kernel
theorem dJ9_max_7cf53_1 : decode cJ9_max_7cf53 1 = .ok (.iload_n 1, 1) := by decide +kernel
theorem dJ9_max_7cf53_2 : decode cJ9_max_7cf53 2 = .ok (.if_icmp .lt 7, 3) := by decide +kernel
theorem dJ9_max_7cf53_5 : decode cJ9_max_7cf53 5 = .ok (.iload_n 0, 1) := by decide +kernel
theorem dJ9_max_7cf53_6 : decode cJ9_max_7cf53 6 = .ok (.goto 4, 3) := by decide +kernel
theorem dJ9_max_7cf53_9 : decode cJ9_max_7cf53 9 = .ok (.iload_n 1, 1) := by decide +kernel
theorem dJ9_max_7cf53_10 : decode cJ9_max_7cf53 10 = .ok (.ireturn, 1) := by decide +kernel
theorem dJ9_min_7cf53_0 : decode cJ9_min_7cf53 0 = .ok (.iload_n 0, 1) := by decide +kernel
theorem dJ9_min_7cf53_1 : decode cJ9_min_7cf53 1 = .ok (.iload_n 1, 1) := by decide +kernel
theorem dJ9_min_7cf53_2 : decode cJ9_min_7cf53 2 = .ok (.if_icmp .gt 7, 3) := by decide +kernel
theorem dJ9_min_7cf53_5 : decode cJ9_min_7cf53 5 = .ok (.iload_n 0, 1) := by decide +kernel
theorem dJ9_min_7cf53_6 : decode cJ9_min_7cf53 6 = .ok (.goto 4, 3) := by decide +kernel
theorem dJ9_min_7cf53_9 : decode cJ9_min_7cf53 9 = .ok (.iload_n 1, 1) := by decide +kernel
theorem dJ9_min_7cf53_10 : decode cJ9_min_7cf53 10 = .ok (.ireturn, 1) := by decide +kernel
theorem dJ7_rangeCheck_23922_0 : decode cJ7_rangeCheck_23922 0 = .ok (.iload_n 1, 1) := by decide +kernel
theorem dJ7_rangeCheck_23922_1 : decode cJ7_rangeCheck_23922 1 = .ok (.iload_n 2, 1) := by decide +kernel
theorem dJ7_rangeCheck_23922_2 : decode cJ7_rangeCheck_23922 2 = .ok (.if_icmp .le 44, 3) := by decide +kernel
theorem dJ7_rangeCheck_23922_5 : decode cJ7_rangeCheck_23922 5 = .ok (.new 43, 3) := by decide +kernel
theorem dJ7_rangeCheck_23922_8 : decode cJ7_rangeCheck_23922 8 = .ok (.dup, 1) := by decide +kernel
theorem dJ7_rangeCheck_23922_9 : decode cJ7_rangeCheck_23922 9 = .ok (.new 45, 3) := by decide +kernel
theorem dJ7_rangeCheck_23922_12 : decode cJ7_rangeCheck_23922 12 = .ok (.dup, 1) := by decide +kernel
theorem dJ7_rangeCheck_23922_13 : decode cJ7_rangeCheck_23922 13 = .ok (.invokespecial 47, 3) := by decide +kernel
theorem dJ7_rangeCheck_23922_16 : decode cJ7_rangeCheck_23922 16 = .ok (.ldc 48, 2) := by decide +kernel
theorem dJ7_rangeCheck_23922_18 : decode cJ7_rangeCheck_23922 18 = .ok (.invokevirtual 50, 3) := by decide +kernel
theorem dJ7_rangeCheck_23922_21 : decode cJ7_rangeCheck_23922 21 = .ok (.iload_n 1, 1) := by decide +kernel
theorem dJ7_rangeCheck_23922_22 : decode cJ7_rangeCheck_23922 22 = .ok (.invokevirtual 54, 3) := by decide +kernel
theorem dJ7_rangeCheck_23922_25 : decode cJ7_rangeCheck_23922 25 = .ok (.ldc 57, 2) := by decide +kernel
theorem dJ7_rangeCheck_23922_27 : decode cJ7_rangeCheck_23922 27 = .ok (.invokevirtual 50, 3) := by decide +kernel
theorem dJ7_rangeCheck_23922_30 : decode cJ7_rangeCheck_23922 30 = .ok (.iload_n 2, 1) := by decide +kernel
theorem dJ7_rangeCheck_23922_31 : decode cJ7_rangeCheck_23922 31 = .ok (.invokevirtual 54, 3) := by decide +kernel
theorem dJ7_rangeCheck_23922_34 : decode cJ7_rangeCheck_23922 34 = .ok (.ldc 59, 2) := by decide +kernel
theorem dJ7_rangeCheck_23922_36 : decode cJ7_rangeCheck_23922 36 = .ok (.invokevirtual 50, 3) := by decide +kernel
theorem dJ7_rangeCheck_23922_39 : decode cJ7_rangeCheck_23922 39 = .ok (.invokevirtual 61, 3) := by decide +kernel
theorem dJ7_rangeCheck_23922_42 : decode cJ7_rangeCheck_23922 42 = .ok (.invokespecial 65, 3) := by decide +kernel
theorem dJ7_rangeCheck_23922_45 : decode cJ7_rangeCheck_23922 45 = .ok (.athrow, 1) := by decide +kernel
theorem dJ7_rangeCheck_23922_46 : decode cJ7_rangeCheck_23922 46 = .ok (.iload_n 1, 1) := by decide +kernel
theorem dJ7_rangeCheck_23922_47 : decode cJ7_rangeCheck_23922 47 = .ok (.ifCond .ge 12, 3) := by decide +kernel
theorem dJ7_rangeCheck_23922_50 : decode cJ7_rangeCheck_23922 50 = .ok (.new 68, 3) := by decide +kernel
theorem dJ7_rangeCheck_23922_53 : decode cJ7_rangeCheck_23922 53 = .ok (.dup, 1) := by decide +kernel
theorem dJ7_rangeCheck_23922_54 : decode cJ7_rangeCheck_23922 54 = .ok (.iload_n 1, 1) := by decide +kernel
theorem dJ7_rangeCheck_23922_55 : decode cJ7_rangeCheck_23922 55 = .ok (.invokespecial 70, 3) := by decide +kernel
theorem dJ7_rangeCheck_23922_58 : decode cJ7_rangeCheck_23922 58 = .ok (.athrow, 1) := by decide +kernel
theorem dJ7_rangeCheck_23922_59 : decode cJ7_rangeCheck_23922 59 = .ok (.iload_n 2, 1) := by decide +kernel
theorem dJ7_rangeCheck_23922_60 : decode cJ7_rangeCheck_23922 60 = .ok (.iload_n 0, 1) := by decide +kernel
theorem dJ7_rangeCheck_23922_61 : decode cJ7_rangeCheck_23922 61 = .ok (.if_icmp .le 12, 3) := by decide +kernel
theorem dJ7_rangeCheck_23922_64 : decode cJ7_rangeCheck_23922 64 = .ok (.new 68, 3) := by decide +kernel
theorem dJ7_rangeCheck_23922_67 : decode cJ7_rangeCheck_23922 67 = .ok (.dup, 1) := by decide +kernel
theorem dJ7_rangeCheck_23922_68 : decode cJ7_rangeCheck_23922 68 = .ok (.iload_n 2, 1) := by decide +kernel
theorem dJ7_rangeCheck_23922_69 : decode cJ7_rangeCheck_23922 69 = .ok (.invokespecial 70, 3) := by decide +kernel
theorem dJ7_rangeCheck_23922_72 : decode cJ7_rangeCheck_23922 72 = .ok (.athrow, 1) := by decide +kernel
theorem dJ7_rangeCheck_23922_73 : decode cJ7_rangeCheck_23922 73 = .ok (.return_, 1) := by decide +kernel
theorem dJ7_fill_53178_0 : decode cJ7_fill_53178 0 = .ok (.iconst 0, 1) := by decide +kernel
theorem dJ7_fill_53178_1 : decode cJ7_fill_53178 1 = .ok (.istore_n 2, 1) := by decide +kernel
theorem dJ7_fill_53178_2 : decode cJ7_fill_53178 2 = .ok (.aload_n 0, 1) := by decide +kernel
theorem dJ7_fill_53178_3 : decode cJ7_fill_53178 3 = .ok (.arraylength, 1) := by decide +kernel
theorem dJ7_fill_53178_4 : decode cJ7_fill_53178 4 = .ok (.istore_n 3, 1) := by decide +kernel
theorem dJ7_fill_53178_5 : decode cJ7_fill_53178 5 = .ok (.iload_n 2, 1) := by decide +kernel
theorem dJ7_fill_53178_6 : decode cJ7_fill_53178 6 = .ok (.iload_n 3, 1) := by decide +kernel
theorem dJ7_fill_53178_7 : decode cJ7_fill_53178 7 = .ok (.if_icmp .ge 13, 3) := by decide +kernel
theorem dJ7_fill_53178_10 : decode cJ7_fill_53178 10 = .ok (.aload_n 0, 1) := by decide +kernel
theorem dJ7_fill_53178_11 : decode cJ7_fill_53178 11 = .ok (.iload_n 2, 1) := by decide +kernel
theorem dJ7_fill_53178_12 : decode cJ7_fill_53178 12 = .ok (.iload_n 1, 1) := by decide +kernel
theorem dJ7_fill_53178_13 : decode cJ7_fill_53178 13 = .ok (.iastore, 1) := by decide +kernel
theorem dJ7_fill_53178_14 : decode cJ7_fill_53178 14 = .ok (.iinc 2 1, 3) := by decide +kernel
theorem dJ7_fill_53178_17 : decode cJ7_fill_53178 17 = .ok (.goto (-12), 3) := by decide +kernel
theorem dJ7_fill_53178_20 : decode cJ7_fill_53178 20 = .ok (.return_, 1) := by decide +kernel
theorem dJ7_fill_fda19_0 : decode cJ7_fill_fda19 0 = .ok (.aload_n 0, 1) := by decide +kernel
theorem dJ7_fill_fda19_1 : decode cJ7_fill_fda19 1 = .ok (.arraylength, 1) := by decide +kernel
theorem dJ7_fill_fda19_2 : decode cJ7_fill_fda19 2 = .ok (.iload_n 1, 1) := by decide +kernel
theorem dJ7_fill_fda19_3 : decode cJ7_fill_fda19 3 = .ok (.iload_n 2, 1) := by decide +kernel
theorem dJ7_fill_fda19_4 : decode cJ7_fill_fda19 4 = .ok (.invokestatic 13, 3) := by decide +kernel
theorem dJ7_fill_fda19_7 : decode cJ7_fill_fda19 7 = .ok (.iload_n 1, 1) := by decide +kernel
theorem dJ7_fill_fda19_8 : decode cJ7_fill_fda19 8 = .ok (.istore 4, 2) := by decide +kernel
theorem dJ7_fill_fda19_10 : decode cJ7_fill_fda19 10 = .ok (.iload 4, 2) := by decide +kernel
theorem dJ7_fill_fda19_12 : decode cJ7_fill_fda19 12 = .ok (.iload_n 2, 1) := by decide +kernel
theorem dJ7_fill_fda19_13 : decode cJ7_fill_fda19 13 = .ok (.if_icmp .ge 14, 3) := by decide +kernel
theorem dJ7_fill_fda19_16 : decode cJ7_fill_fda19 16 = .ok (.aload_n 0, 1) := by decide +kernel
theorem dJ7_fill_fda19_17 : decode cJ7_fill_fda19 17 = .ok (.iload 4, 2) := by decide +kernel
theorem dJ7_fill_fda19_19 : decode cJ7_fill_fda19 19 = .ok (.iload_n 3, 1) := by decide +kernel
theorem dJ7_fill_fda19_20 : decode cJ7_fill_fda19 20 = .ok (.iastore, 1) := by decide +kernel
theorem dJ7_fill_fda19_21 : decode cJ7_fill_fda19 21 = .ok (.iinc 4 1, 3) := by decide +kernel
theorem dJ7_fill_fda19_24 : decode cJ7_fill_fda19 24 = .ok (.goto (-14), 3) := by decide +kernel
theorem dJ7_fill_fda19_27 : decode cJ7_fill_fda19 27 = .ok (.return_, 1) := by decide +kernel
theorem dL_law_0 : decode cL_law 0 = .ok (.new 7, 3) := by decide +kernel
theorem dL_law_3 : decode cL_law 3 = .ok (.dup, 1) := by decide +kernel
theorem dL_law_4 : decode cL_law 4 = .ok (.invokespecial 9, 3) := by decide +kernel
theorem dL_law_7 : decode cL_law 7 = .ok (.astore_n 1, 1) := by decide +kernel
theorem dL_law_8 : decode cL_law 8 = .ok (.new 10, 3) := by decide +kernel
theorem dL_law_11 : decode cL_law 11 = .ok (.dup, 1) := by decide +kernel
theorem dL_law_12 : decode cL_law 12 = .ok (.invokespecial 12, 3) := by decide +kernel
theorem dL_law_15 : decode cL_law 15 = .ok (.astore_n 2, 1) := by decide +kernel
theorem dL_law_16 : decode cL_law 16 = .ok (.iconst 0, 1) := by decide +kernel
theorem dL_law_17 : decode cL_law 17 = .ok (.istore_n 3, 1) := by decide +kernel
theorem dL_law_18 : decode cL_law 18 = .ok (.iload_n 3, 1) := by decide +kernel
theorem dL_law_19 : decode cL_law 19 = .ok (.aload_n 0, 1) := by decide +kernel
theorem dL_law_20 : decode cL_law 20 = .ok (.arraylength, 1) := by decide +kernel
theorem dL_law_21 : decode cL_law 21 = .ok (.bipush 6, 2) := by decide +kernel
theorem dL_law_23 : decode cL_law 23 = .ok (.isub, 1) := by decide +kernel
theorem dL_law_24 : decode cL_law 24 = .ok (.if_icmp .gt 840, 3) := by decide +kernel
theorem dL_law_27 : decode cL_law 27 = .ok (.aload_n 0, 1) := by decide +kernel
theorem dL_law_28 : decode cL_law 28 = .ok (.iload_n 3, 1) := by decide +kernel
theorem dL_law_29 : decode cL_law 29 = .ok (.iaload, 1) := by decide +kernel
theorem dL_law_30 : decode cL_law 30 = .ok (.bipush 31, 2) := by decide +kernel
theorem dL_law_32 : decode cL_law 32 = .ok (.iand, 1) := by decide +kernel
theorem dL_law_33 : decode cL_law 33 = .ok (.tableswitch 825 0 19 #[95, 148, 211, 244, 267, 310, 343, 396, 459, 522, 555, 578, 621, 674, 707, 730, 753, 766, 779, 802], 95) := by decide +kernel
theorem dL_law_128 : decode cL_law 128 = .ok (.aload_n 1, 1) := by decide +kernel
theorem dL_law_129 : decode cL_law 129 = .ok (.aload_n 0, 1) := by decide +kernel
theorem dL_law_130 : decode cL_law 130 = .ok (.iload_n 3, 1) := by decide +kernel
theorem dL_law_131 : decode cL_law 131 = .ok (.iconst 1, 1) := by decide +kernel
theorem dL_law_132 : decode cL_law 132 = .ok (.iadd, 1) := by decide +kernel
theorem dL_law_133 : decode cL_law 133 = .ok (.iaload, 1) := by decide +kernel
theorem dL_law_134 : decode cL_law 134 = .ok (.aload_n 0, 1) := by decide +kernel
theorem dL_law_135 : decode cL_law 135 = .ok (.iload_n 3, 1) := by decide +kernel
theorem dL_law_136 : decode cL_law 136 = .ok (.iconst 2, 1) := by decide +kernel
theorem dL_law_137 : decode cL_law 137 = .ok (.iadd, 1) := by decide +kernel
theorem dL_law_138 : decode cL_law 138 = .ok (.iaload, 1) := by decide +kernel
theorem dL_law_139 : decode cL_law 139 = .ok (.aload_n 0, 1) := by decide +kernel
theorem dL_law_140 : decode cL_law 140 = .ok (.iload_n 3, 1) := by decide +kernel
theorem dL_law_141 : decode cL_law 141 = .ok (.iconst 3, 1) := by decide +kernel
theorem dL_law_142 : decode cL_law 142 = .ok (.iadd, 1) := by decide +kernel
theorem dL_law_143 : decode cL_law 143 = .ok (.iaload, 1) := by decide +kernel
theorem dL_law_144 : decode cL_law 144 = .ok (.aload_n 0, 1) := by decide +kernel
theorem dL_law_145 : decode cL_law 145 = .ok (.iload_n 3, 1) := by decide +kernel
theorem dL_law_146 : decode cL_law 146 = .ok (.iconst 4, 1) := by decide +kernel
theorem dL_law_147 : decode cL_law 147 = .ok (.iadd, 1) := by decide +kernel
theorem dL_law_148 : decode cL_law 148 = .ok (.iaload, 1) := by decide +kernel
theorem dL_law_149 : decode cL_law 149 = .ok (.invokevirtual 13, 3) := by decide +kernel
theorem dL_law_152 : decode cL_law 152 = .ok (.aload_n 2, 1) := by decide +kernel
theorem dL_law_153 : decode cL_law 153 = .ok (.aload_n 0, 1) := by decide +kernel
theorem dL_law_154 : decode cL_law 154 = .ok (.iload_n 3, 1) := by decide +kernel
theorem dL_law_155 : decode cL_law 155 = .ok (.iconst 1, 1) := by decide +kernel
theorem dL_law_156 : decode cL_law 156 = .ok (.iadd, 1) := by decide +kernel
theorem dL_law_157 : decode cL_law 157 = .ok (.iaload, 1) := by decide +kernel
theorem dL_law_158 : decode cL_law 158 = .ok (.aload_n 0, 1) := by decide +kernel
theorem dL_law_159 : decode cL_law 159 = .ok (.iload_n 3, 1) := by decide +kernel
theorem dL_law_160 : decode cL_law 160 = .ok (.iconst 2, 1) := by decide +kernel
theorem dL_law_161 : decode cL_law 161 = .ok (.iadd, 1) := by decide +kernel
theorem dL_law_162 : decode cL_law 162 = .ok (.iaload, 1) := by decide +kernel
theorem dL_law_163 : decode cL_law 163 = .ok (.aload_n 0, 1) := by decide +kernel
theorem dL_law_164 : decode cL_law 164 = .ok (.iload_n 3, 1) := by decide +kernel
theorem dL_law_165 : decode cL_law 165 = .ok (.iconst 3, 1) := by decide +kernel
theorem dL_law_166 : decode cL_law 166 = .ok (.iadd, 1) := by decide +kernel
theorem dL_law_167 : decode cL_law 167 = .ok (.iaload, 1) := by decide +kernel
theorem dL_law_168 : decode cL_law 168 = .ok (.aload_n 0, 1) := by decide +kernel
theorem dL_law_169 : decode cL_law 169 = .ok (.iload_n 3, 1) := by decide +kernel
theorem dL_law_170 : decode cL_law 170 = .ok (.iconst 4, 1) := by decide +kernel
theorem dL_law_171 : decode cL_law 171 = .ok (.iadd, 1) := by decide +kernel
theorem dL_law_172 : decode cL_law 172 = .ok (.iaload, 1) := by decide +kernel
theorem dL_law_173 : decode cL_law 173 = .ok (.invokevirtual 17, 3) := by decide +kernel
theorem dL_law_176 : decode cL_law 176 = .ok (.if_icmp .eq 682, 3) := by decide +kernel
theorem dL_law_179 : decode cL_law 179 = .ok (.iconst 0, 1) := by decide +kernel
theorem dL_law_180 : decode cL_law 180 = .ok (.ireturn, 1) := by decide +kernel
theorem dL_law_181 : decode cL_law 181 = .ok (.aload_n 1, 1) := by decide +kernel
theorem dL_law_182 : decode cL_law 182 = .ok (.aload_n 0, 1) := by decide +kernel
theorem dL_law_183 : decode cL_law 183 = .ok (.iload_n 3, 1) := by decide +kernel
theorem dL_law_184 : decode cL_law 184 = .ok (.iconst 1, 1) := by decide +kernel
theorem dL_law_185 : decode cL_law 185 = .ok (.iadd, 1) := by decide +kernel
theorem dL_law_186 : decode cL_law 186 = .ok (.iaload, 1) := by decide +kernel
theorem dL_law_187 : decode cL_law 187 = .ok (.aload_n 0, 1) := by decide +kernel
theorem dL_law_188 : decode cL_law 188 = .ok (.iload_n 3, 1) := by decide +kernel
theorem dL_law_189 : decode cL_law 189 = .ok (.iconst 2, 1) := by decide +kernel
theorem dL_law_190 : decode cL_law 190 = .ok (.iadd, 1) := by decide +kernel
theorem dL_law_191 : decode cL_law 191 = .ok (.iaload, 1) := by decide +kernel
theorem dL_law_192 : decode cL_law 192 = .ok (.aload_n 0, 1) := by decide +kernel
theorem dL_law_193 : decode cL_law 193 = .ok (.iload_n 3, 1) := by decide +kernel
theorem dL_law_194 : decode cL_law 194 = .ok (.iconst 3, 1) := by decide +kernel
theorem dL_law_195 : decode cL_law 195 = .ok (.iadd, 1) := by decide +kernel
theorem dL_law_196 : decode cL_law 196 = .ok (.iaload, 1) := by decide +kernel
theorem dL_law_197 : decode cL_law 197 = .ok (.aload_n 0, 1) := by decide +kernel
theorem dL_law_198 : decode cL_law 198 = .ok (.iload_n 3, 1) := by decide +kernel
theorem dL_law_199 : decode cL_law 199 = .ok (.iconst 4, 1) := by decide +kernel
theorem dL_law_200 : decode cL_law 200 = .ok (.iadd, 1) := by decide +kernel
theorem dL_law_201 : decode cL_law 201 = .ok (.iaload, 1) := by decide +kernel
theorem dL_law_202 : decode cL_law 202 = .ok (.aload_n 0, 1) := by decide +kernel
theorem dL_law_203 : decode cL_law 203 = .ok (.iload_n 3, 1) := by decide +kernel
theorem dL_law_204 : decode cL_law 204 = .ok (.iconst 5, 1) := by decide +kernel
theorem dL_law_205 : decode cL_law 205 = .ok (.iadd, 1) := by decide +kernel
theorem dL_law_206 : decode cL_law 206 = .ok (.iaload, 1) := by decide +kernel
theorem dL_law_207 : decode cL_law 207 = .ok (.invokevirtual 18, 3) := by decide +kernel
theorem dL_law_210 : decode cL_law 210 = .ok (.aload_n 2, 1) := by decide +kernel
theorem dL_law_211 : decode cL_law 211 = .ok (.aload_n 0, 1) := by decide +kernel
theorem dL_law_212 : decode cL_law 212 = .ok (.iload_n 3, 1) := by decide +kernel
theorem dL_law_213 : decode cL_law 213 = .ok (.iconst 1, 1) := by decide +kernel
theorem dL_law_214 : decode cL_law 214 = .ok (.iadd, 1) := by decide +kernel
theorem dL_law_215 : decode cL_law 215 = .ok (.iaload, 1) := by decide +kernel
theorem dL_law_216 : decode cL_law 216 = .ok (.aload_n 0, 1) := by decide +kernel
theorem dL_law_217 : decode cL_law 217 = .ok (.iload_n 3, 1) := by decide +kernel
theorem dL_law_218 : decode cL_law 218 = .ok (.iconst 2, 1) := by decide +kernel
theorem dL_law_219 : decode cL_law 219 = .ok (.iadd, 1) := by decide +kernel
theorem dL_law_220 : decode cL_law 220 = .ok (.iaload, 1) := by decide +kernel
theorem dL_law_221 : decode cL_law 221 = .ok (.aload_n 0, 1) := by decide +kernel
theorem dL_law_222 : decode cL_law 222 = .ok (.iload_n 3, 1) := by decide +kernel
theorem dL_law_223 : decode cL_law 223 = .ok (.iconst 3, 1) := by decide +kernel
theorem dL_law_224 : decode cL_law 224 = .ok (.iadd, 1) := by decide +kernel
theorem dL_law_225 : decode cL_law 225 = .ok (.iaload, 1) := by decide +kernel
theorem dL_law_226 : decode cL_law 226 = .ok (.aload_n 0, 1) := by decide +kernel
theorem dL_law_227 : decode cL_law 227 = .ok (.iload_n 3, 1) := by decide +kernel
theorem dL_law_228 : decode cL_law 228 = .ok (.iconst 4, 1) := by decide +kernel
theorem dL_law_229 : decode cL_law 229 = .ok (.iadd, 1) := by decide +kernel
theorem dL_law_230 : decode cL_law 230 = .ok (.iaload, 1) := by decide +kernel
theorem dL_law_231 : decode cL_law 231 = .ok (.aload_n 0, 1) := by decide +kernel
theorem dL_law_232 : decode cL_law 232 = .ok (.iload_n 3, 1) := by decide +kernel
theorem dL_law_233 : decode cL_law 233 = .ok (.iconst 5, 1) := by decide +kernel
theorem dL_law_234 : decode cL_law 234 = .ok (.iadd, 1) := by decide +kernel
theorem dL_law_235 : decode cL_law 235 = .ok (.iaload, 1) := by decide +kernel
theorem dL_law_236 : decode cL_law 236 = .ok (.invokevirtual 22, 3) := by decide +kernel
theorem dL_law_239 : decode cL_law 239 = .ok (.if_icmp .eq 619, 3) := by decide +kernel
theorem dL_law_242 : decode cL_law 242 = .ok (.iconst 0, 1) := by decide +kernel
theorem dL_law_243 : decode cL_law 243 = .ok (.ireturn, 1) := by decide +kernel
theorem dL_law_244 : decode cL_law 244 = .ok (.aload_n 1, 1) := by decide +kernel
theorem dL_law_245 : decode cL_law 245 = .ok (.aload_n 0, 1) := by decide +kernel
theorem dL_law_246 : decode cL_law 246 = .ok (.iload_n 3, 1) := by decide +kernel
theorem dL_law_247 : decode cL_law 247 = .ok (.iconst 1, 1) := by decide +kernel
theorem dL_law_248 : decode cL_law 248 = .ok (.iadd, 1) := by decide +kernel
theorem dL_law_249 : decode cL_law 249 = .ok (.iaload, 1) := by decide +kernel
theorem dL_law_250 : decode cL_law 250 = .ok (.aload_n 0, 1) := by decide +kernel
theorem dL_law_251 : decode cL_law 251 = .ok (.iload_n 3, 1) := by decide +kernel
theorem dL_law_252 : decode cL_law 252 = .ok (.iconst 2, 1) := by decide +kernel
theorem dL_law_253 : decode cL_law 253 = .ok (.iadd, 1) := by decide +kernel
theorem dL_law_254 : decode cL_law 254 = .ok (.iaload, 1) := by decide +kernel
theorem dL_law_255 : decode cL_law 255 = .ok (.invokevirtual 23, 3) := by decide +kernel
theorem dL_law_258 : decode cL_law 258 = .ok (.aload_n 2, 1) := by decide +kernel
theorem dL_law_259 : decode cL_law 259 = .ok (.aload_n 0, 1) := by decide +kernel
theorem dL_law_260 : decode cL_law 260 = .ok (.iload_n 3, 1) := by decide +kernel
theorem dL_law_261 : decode cL_law 261 = .ok (.iconst 1, 1) := by decide +kernel
theorem dL_law_262 : decode cL_law 262 = .ok (.iadd, 1) := by decide +kernel
theorem dL_law_263 : decode cL_law 263 = .ok (.iaload, 1) := by decide +kernel
theorem dL_law_264 : decode cL_law 264 = .ok (.aload_n 0, 1) := by decide +kernel
theorem dL_law_265 : decode cL_law 265 = .ok (.iload_n 3, 1) := by decide +kernel
theorem dL_law_266 : decode cL_law 266 = .ok (.iconst 2, 1) := by decide +kernel
theorem dL_law_267 : decode cL_law 267 = .ok (.iadd, 1) := by decide +kernel
theorem dL_law_268 : decode cL_law 268 = .ok (.iaload, 1) := by decide +kernel
theorem dL_law_269 : decode cL_law 269 = .ok (.invokevirtual 27, 3) := by decide +kernel
theorem dL_law_272 : decode cL_law 272 = .ok (.if_icmp .eq 586, 3) := by decide +kernel
theorem dL_law_275 : decode cL_law 275 = .ok (.iconst 0, 1) := by decide +kernel
theorem dL_law_276 : decode cL_law 276 = .ok (.ireturn, 1) := by decide +kernel
theorem dL_law_277 : decode cL_law 277 = .ok (.aload_n 1, 1) := by decide +kernel
theorem dL_law_278 : decode cL_law 278 = .ok (.aload_n 0, 1) := by decide +kernel
theorem dL_law_279 : decode cL_law 279 = .ok (.iload_n 3, 1) := by decide +kernel
theorem dL_law_280 : decode cL_law 280 = .ok (.iconst 1, 1) := by decide +kernel
theorem dL_law_281 : decode cL_law 281 = .ok (.iadd, 1) := by decide +kernel
theorem dL_law_282 : decode cL_law 282 = .ok (.iaload, 1) := by decide +kernel
theorem dL_law_283 : decode cL_law 283 = .ok (.invokevirtual 28, 3) := by decide +kernel
theorem dL_law_286 : decode cL_law 286 = .ok (.aload_n 2, 1) := by decide +kernel
theorem dL_law_287 : decode cL_law 287 = .ok (.aload_n 0, 1) := by decide +kernel
theorem dL_law_288 : decode cL_law 288 = .ok (.iload_n 3, 1) := by decide +kernel
theorem dL_law_289 : decode cL_law 289 = .ok (.iconst 1, 1) := by decide +kernel
theorem dL_law_290 : decode cL_law 290 = .ok (.iadd, 1) := by decide +kernel
theorem dL_law_291 : decode cL_law 291 = .ok (.iaload, 1) := by decide +kernel
theorem dL_law_292 : decode cL_law 292 = .ok (.invokevirtual 32, 3) := by decide +kernel
theorem dL_law_295 : decode cL_law 295 = .ok (.if_icmp .eq 563, 3) := by decide +kernel
theorem dL_law_298 : decode cL_law 298 = .ok (.iconst 0, 1) := by decide +kernel
theorem dL_law_299 : decode cL_law 299 = .ok (.ireturn, 1) := by decide +kernel
theorem dL_law_300 : decode cL_law 300 = .ok (.aload_n 1, 1) := by decide +kernel
theorem dL_law_301 : decode cL_law 301 = .ok (.aload_n 0, 1) := by decide +kernel
theorem dL_law_302 : decode cL_law 302 = .ok (.iload_n 3, 1) := by decide +kernel
theorem dL_law_303 : decode cL_law 303 = .ok (.iconst 1, 1) := by decide +kernel
theorem dL_law_304 : decode cL_law 304 = .ok (.iadd, 1) := by decide +kernel
theorem dL_law_305 : decode cL_law 305 = .ok (.iaload, 1) := by decide +kernel
theorem dL_law_306 : decode cL_law 306 = .ok (.aload_n 0, 1) := by decide +kernel
theorem dL_law_307 : decode cL_law 307 = .ok (.iload_n 3, 1) := by decide +kernel
theorem dL_law_308 : decode cL_law 308 = .ok (.iconst 2, 1) := by decide +kernel
theorem dL_law_309 : decode cL_law 309 = .ok (.iadd, 1) := by decide +kernel
theorem dL_law_310 : decode cL_law 310 = .ok (.iaload, 1) := by decide +kernel
theorem dL_law_311 : decode cL_law 311 = .ok (.aload_n 0, 1) := by decide +kernel
theorem dL_law_312 : decode cL_law 312 = .ok (.iload_n 3, 1) := by decide +kernel
theorem dL_law_313 : decode cL_law 313 = .ok (.iconst 3, 1) := by decide +kernel
theorem dL_law_314 : decode cL_law 314 = .ok (.iadd, 1) := by decide +kernel
theorem dL_law_315 : decode cL_law 315 = .ok (.iaload, 1) := by decide +kernel
theorem dL_law_316 : decode cL_law 316 = .ok (.invokevirtual 33, 3) := by decide +kernel
theorem dL_law_319 : decode cL_law 319 = .ok (.aload_n 2, 1) := by decide +kernel
theorem dL_law_320 : decode cL_law 320 = .ok (.aload_n 0, 1) := by decide +kernel
theorem dL_law_321 : decode cL_law 321 = .ok (.iload_n 3, 1) := by decide +kernel
theorem dL_law_322 : decode cL_law 322 = .ok (.iconst 1, 1) := by decide +kernel
theorem dL_law_323 : decode cL_law 323 = .ok (.iadd, 1) := by decide +kernel
theorem dL_law_324 : decode cL_law 324 = .ok (.iaload, 1) := by decide +kernel
theorem dL_law_325 : decode cL_law 325 = .ok (.aload_n 0, 1) := by decide +kernel
theorem dL_law_326 : decode cL_law 326 = .ok (.iload_n 3, 1) := by decide +kernel
theorem dL_law_327 : decode cL_law 327 = .ok (.iconst 2, 1) := by decide +kernel
theorem dL_law_328 : decode cL_law 328 = .ok (.iadd, 1) := by decide +kernel
theorem dL_law_329 : decode cL_law 329 = .ok (.iaload, 1) := by decide +kernel
theorem dL_law_330 : decode cL_law 330 = .ok (.aload_n 0, 1) := by decide +kernel
theorem dL_law_331 : decode cL_law 331 = .ok (.iload_n 3, 1) := by decide +kernel
theorem dL_law_332 : decode cL_law 332 = .ok (.iconst 3, 1) := by decide +kernel
theorem dL_law_333 : decode cL_law 333 = .ok (.iadd, 1) := by decide +kernel
theorem dL_law_334 : decode cL_law 334 = .ok (.iaload, 1) := by decide +kernel
theorem dL_law_335 : decode cL_law 335 = .ok (.invokevirtual 37, 3) := by decide +kernel
theorem dL_law_338 : decode cL_law 338 = .ok (.if_icmp .eq 520, 3) := by decide +kernel
theorem dL_law_341 : decode cL_law 341 = .ok (.iconst 0, 1) := by decide +kernel
theorem dL_law_342 : decode cL_law 342 = .ok (.ireturn, 1) := by decide +kernel
theorem dL_law_343 : decode cL_law 343 = .ok (.aload_n 1, 1) := by decide +kernel
theorem dL_law_344 : decode cL_law 344 = .ok (.aload_n 0, 1) := by decide +kernel
theorem dL_law_345 : decode cL_law 345 = .ok (.iload_n 3, 1) := by decide +kernel
theorem dL_law_346 : decode cL_law 346 = .ok (.iconst 1, 1) := by decide +kernel
theorem dL_law_347 : decode cL_law 347 = .ok (.iadd, 1) := by decide +kernel
theorem dL_law_348 : decode cL_law 348 = .ok (.iaload, 1) := by decide +kernel
theorem dL_law_349 : decode cL_law 349 = .ok (.aload_n 0, 1) := by decide +kernel
theorem dL_law_350 : decode cL_law 350 = .ok (.iload_n 3, 1) := by decide +kernel
theorem dL_law_351 : decode cL_law 351 = .ok (.iconst 2, 1) := by decide +kernel
theorem dL_law_352 : decode cL_law 352 = .ok (.iadd, 1) := by decide +kernel
theorem dL_law_353 : decode cL_law 353 = .ok (.iaload, 1) := by decide +kernel
theorem dL_law_354 : decode cL_law 354 = .ok (.invokevirtual 38, 3) := by decide +kernel
theorem dL_law_357 : decode cL_law 357 = .ok (.aload_n 2, 1) := by decide +kernel
theorem dL_law_358 : decode cL_law 358 = .ok (.aload_n 0, 1) := by decide +kernel
theorem dL_law_359 : decode cL_law 359 = .ok (.iload_n 3, 1) := by decide +kernel
theorem dL_law_360 : decode cL_law 360 = .ok (.iconst 1, 1) := by decide +kernel
theorem dL_law_361 : decode cL_law 361 = .ok (.iadd, 1) := by decide +kernel
theorem dL_law_362 : decode cL_law 362 = .ok (.iaload, 1) := by decide +kernel
theorem dL_law_363 : decode cL_law 363 = .ok (.aload_n 0, 1) := by decide +kernel
theorem dL_law_364 : decode cL_law 364 = .ok (.iload_n 3, 1) := by decide +kernel
theorem dL_law_365 : decode cL_law 365 = .ok (.iconst 2, 1) := by decide +kernel
theorem dL_law_366 : decode cL_law 366 = .ok (.iadd, 1) := by decide +kernel
theorem dL_law_367 : decode cL_law 367 = .ok (.iaload, 1) := by decide +kernel
theorem dL_law_368 : decode cL_law 368 = .ok (.invokevirtual 41, 3) := by decide +kernel
theorem dL_law_371 : decode cL_law 371 = .ok (.if_icmp .eq 487, 3) := by decide +kernel
theorem dL_law_374 : decode cL_law 374 = .ok (.iconst 0, 1) := by decide +kernel
theorem dL_law_375 : decode cL_law 375 = .ok (.ireturn, 1) := by decide +kernel
theorem dL_law_376 : decode cL_law 376 = .ok (.aload_n 1, 1) := by decide +kernel
theorem dL_law_377 : decode cL_law 377 = .ok (.aload_n 0, 1) := by decide +kernel
theorem dL_law_378 : decode cL_law 378 = .ok (.iload_n 3, 1) := by decide +kernel
theorem dL_law_379 : decode cL_law 379 = .ok (.iconst 1, 1) := by decide +kernel
theorem dL_law_380 : decode cL_law 380 = .ok (.iadd, 1) := by decide +kernel
theorem dL_law_381 : decode cL_law 381 = .ok (.iaload, 1) := by decide +kernel
theorem dL_law_382 : decode cL_law 382 = .ok (.aload_n 0, 1) := by decide +kernel
theorem dL_law_383 : decode cL_law 383 = .ok (.iload_n 3, 1) := by decide +kernel
theorem dL_law_384 : decode cL_law 384 = .ok (.iconst 2, 1) := by decide +kernel
theorem dL_law_385 : decode cL_law 385 = .ok (.iadd, 1) := by decide +kernel
theorem dL_law_386 : decode cL_law 386 = .ok (.iaload, 1) := by decide +kernel
theorem dL_law_387 : decode cL_law 387 = .ok (.aload_n 0, 1) := by decide +kernel
theorem dL_law_388 : decode cL_law 388 = .ok (.iload_n 3, 1) := by decide +kernel
theorem dL_law_389 : decode cL_law 389 = .ok (.iconst 3, 1) := by decide +kernel
theorem dL_law_390 : decode cL_law 390 = .ok (.iadd, 1) := by decide +kernel
theorem dL_law_391 : decode cL_law 391 = .ok (.iaload, 1) := by decide +kernel
theorem dL_law_392 : decode cL_law 392 = .ok (.aload_n 0, 1) := by decide +kernel
theorem dL_law_393 : decode cL_law 393 = .ok (.iload_n 3, 1) := by decide +kernel
theorem dL_law_394 : decode cL_law 394 = .ok (.iconst 4, 1) := by decide +kernel
theorem dL_law_395 : decode cL_law 395 = .ok (.iadd, 1) := by decide +kernel
theorem dL_law_396 : decode cL_law 396 = .ok (.iaload, 1) := by decide +kernel
theorem dL_law_397 : decode cL_law 397 = .ok (.invokevirtual 42, 3) := by decide +kernel
theorem dL_law_400 : decode cL_law 400 = .ok (.aload_n 2, 1) := by decide +kernel
theorem dL_law_401 : decode cL_law 401 = .ok (.aload_n 0, 1) := by decide +kernel
theorem dL_law_402 : decode cL_law 402 = .ok (.iload_n 3, 1) := by decide +kernel
theorem dL_law_403 : decode cL_law 403 = .ok (.iconst 1, 1) := by decide +kernel
theorem dL_law_404 : decode cL_law 404 = .ok (.iadd, 1) := by decide +kernel
theorem dL_law_405 : decode cL_law 405 = .ok (.iaload, 1) := by decide +kernel
theorem dL_law_406 : decode cL_law 406 = .ok (.aload_n 0, 1) := by decide +kernel
theorem dL_law_407 : decode cL_law 407 = .ok (.iload_n 3, 1) := by decide +kernel
theorem dL_law_408 : decode cL_law 408 = .ok (.iconst 2, 1) := by decide +kernel
theorem dL_law_409 : decode cL_law 409 = .ok (.iadd, 1) := by decide +kernel
theorem dL_law_410 : decode cL_law 410 = .ok (.iaload, 1) := by decide +kernel
theorem dL_law_411 : decode cL_law 411 = .ok (.aload_n 0, 1) := by decide +kernel
theorem dL_law_412 : decode cL_law 412 = .ok (.iload_n 3, 1) := by decide +kernel
theorem dL_law_413 : decode cL_law 413 = .ok (.iconst 3, 1) := by decide +kernel
theorem dL_law_414 : decode cL_law 414 = .ok (.iadd, 1) := by decide +kernel
theorem dL_law_415 : decode cL_law 415 = .ok (.iaload, 1) := by decide +kernel
theorem dL_law_416 : decode cL_law 416 = .ok (.aload_n 0, 1) := by decide +kernel
theorem dL_law_417 : decode cL_law 417 = .ok (.iload_n 3, 1) := by decide +kernel
theorem dL_law_418 : decode cL_law 418 = .ok (.iconst 4, 1) := by decide +kernel
theorem dL_law_419 : decode cL_law 419 = .ok (.iadd, 1) := by decide +kernel
theorem dL_law_420 : decode cL_law 420 = .ok (.iaload, 1) := by decide +kernel
theorem dL_law_421 : decode cL_law 421 = .ok (.invokevirtual 46, 3) := by decide +kernel
theorem dL_law_424 : decode cL_law 424 = .ok (.if_icmp .eq 434, 3) := by decide +kernel
theorem dL_law_427 : decode cL_law 427 = .ok (.iconst 0, 1) := by decide +kernel
theorem dL_law_428 : decode cL_law 428 = .ok (.ireturn, 1) := by decide +kernel
theorem dL_law_429 : decode cL_law 429 = .ok (.aload_n 1, 1) := by decide +kernel
theorem dL_law_430 : decode cL_law 430 = .ok (.aload_n 0, 1) := by decide +kernel
theorem dL_law_431 : decode cL_law 431 = .ok (.iload_n 3, 1) := by decide +kernel
theorem dL_law_432 : decode cL_law 432 = .ok (.iconst 1, 1) := by decide +kernel
theorem dL_law_433 : decode cL_law 433 = .ok (.iadd, 1) := by decide +kernel
theorem dL_law_434 : decode cL_law 434 = .ok (.iaload, 1) := by decide +kernel
theorem dL_law_435 : decode cL_law 435 = .ok (.aload_n 0, 1) := by decide +kernel
theorem dL_law_436 : decode cL_law 436 = .ok (.iload_n 3, 1) := by decide +kernel
theorem dL_law_437 : decode cL_law 437 = .ok (.iconst 2, 1) := by decide +kernel
theorem dL_law_438 : decode cL_law 438 = .ok (.iadd, 1) := by decide +kernel
theorem dL_law_439 : decode cL_law 439 = .ok (.iaload, 1) := by decide +kernel
theorem dL_law_440 : decode cL_law 440 = .ok (.aload_n 0, 1) := by decide +kernel
theorem dL_law_441 : decode cL_law 441 = .ok (.iload_n 3, 1) := by decide +kernel
theorem dL_law_442 : decode cL_law 442 = .ok (.iconst 3, 1) := by decide +kernel
theorem dL_law_443 : decode cL_law 443 = .ok (.iadd, 1) := by decide +kernel
theorem dL_law_444 : decode cL_law 444 = .ok (.iaload, 1) := by decide +kernel
theorem dL_law_445 : decode cL_law 445 = .ok (.aload_n 0, 1) := by decide +kernel
theorem dL_law_446 : decode cL_law 446 = .ok (.iload_n 3, 1) := by decide +kernel
theorem dL_law_447 : decode cL_law 447 = .ok (.iconst 4, 1) := by decide +kernel
theorem dL_law_448 : decode cL_law 448 = .ok (.iadd, 1) := by decide +kernel
theorem dL_law_449 : decode cL_law 449 = .ok (.iaload, 1) := by decide +kernel
theorem dL_law_450 : decode cL_law 450 = .ok (.aload_n 0, 1) := by decide +kernel
theorem dL_law_451 : decode cL_law 451 = .ok (.iload_n 3, 1) := by decide +kernel
theorem dL_law_452 : decode cL_law 452 = .ok (.iconst 5, 1) := by decide +kernel
theorem dL_law_453 : decode cL_law 453 = .ok (.iadd, 1) := by decide +kernel
theorem dL_law_454 : decode cL_law 454 = .ok (.iaload, 1) := by decide +kernel
theorem dL_law_455 : decode cL_law 455 = .ok (.invokevirtual 47, 3) := by decide +kernel
theorem dL_law_458 : decode cL_law 458 = .ok (.aload_n 2, 1) := by decide +kernel
theorem dL_law_459 : decode cL_law 459 = .ok (.aload_n 0, 1) := by decide +kernel
theorem dL_law_460 : decode cL_law 460 = .ok (.iload_n 3, 1) := by decide +kernel
theorem dL_law_461 : decode cL_law 461 = .ok (.iconst 1, 1) := by decide +kernel
theorem dL_law_462 : decode cL_law 462 = .ok (.iadd, 1) := by decide +kernel
theorem dL_law_463 : decode cL_law 463 = .ok (.iaload, 1) := by decide +kernel
theorem dL_law_464 : decode cL_law 464 = .ok (.aload_n 0, 1) := by decide +kernel
theorem dL_law_465 : decode cL_law 465 = .ok (.iload_n 3, 1) := by decide +kernel
theorem dL_law_466 : decode cL_law 466 = .ok (.iconst 2, 1) := by decide +kernel
theorem dL_law_467 : decode cL_law 467 = .ok (.iadd, 1) := by decide +kernel
theorem dL_law_468 : decode cL_law 468 = .ok (.iaload, 1) := by decide +kernel
theorem dL_law_469 : decode cL_law 469 = .ok (.aload_n 0, 1) := by decide +kernel
theorem dL_law_470 : decode cL_law 470 = .ok (.iload_n 3, 1) := by decide +kernel
theorem dL_law_471 : decode cL_law 471 = .ok (.iconst 3, 1) := by decide +kernel
theorem dL_law_472 : decode cL_law 472 = .ok (.iadd, 1) := by decide +kernel
theorem dL_law_473 : decode cL_law 473 = .ok (.iaload, 1) := by decide +kernel
theorem dL_law_474 : decode cL_law 474 = .ok (.aload_n 0, 1) := by decide +kernel
theorem dL_law_475 : decode cL_law 475 = .ok (.iload_n 3, 1) := by decide +kernel
theorem dL_law_476 : decode cL_law 476 = .ok (.iconst 4, 1) := by decide +kernel
theorem dL_law_477 : decode cL_law 477 = .ok (.iadd, 1) := by decide +kernel
theorem dL_law_478 : decode cL_law 478 = .ok (.iaload, 1) := by decide +kernel
theorem dL_law_479 : decode cL_law 479 = .ok (.aload_n 0, 1) := by decide +kernel
theorem dL_law_480 : decode cL_law 480 = .ok (.iload_n 3, 1) := by decide +kernel
theorem dL_law_481 : decode cL_law 481 = .ok (.iconst 5, 1) := by decide +kernel
theorem dL_law_482 : decode cL_law 482 = .ok (.iadd, 1) := by decide +kernel
theorem dL_law_483 : decode cL_law 483 = .ok (.iaload, 1) := by decide +kernel
theorem dL_law_484 : decode cL_law 484 = .ok (.invokevirtual 50, 3) := by decide +kernel
theorem dL_law_487 : decode cL_law 487 = .ok (.if_icmp .eq 371, 3) := by decide +kernel
theorem dL_law_490 : decode cL_law 490 = .ok (.iconst 0, 1) := by decide +kernel
theorem dL_law_491 : decode cL_law 491 = .ok (.ireturn, 1) := by decide +kernel
theorem dL_law_492 : decode cL_law 492 = .ok (.aload_n 1, 1) := by decide +kernel
theorem dL_law_493 : decode cL_law 493 = .ok (.aload_n 0, 1) := by decide +kernel
theorem dL_law_494 : decode cL_law 494 = .ok (.iload_n 3, 1) := by decide +kernel
theorem dL_law_495 : decode cL_law 495 = .ok (.iconst 1, 1) := by decide +kernel
theorem dL_law_496 : decode cL_law 496 = .ok (.iadd, 1) := by decide +kernel
theorem dL_law_497 : decode cL_law 497 = .ok (.iaload, 1) := by decide +kernel
theorem dL_law_498 : decode cL_law 498 = .ok (.aload_n 0, 1) := by decide +kernel
theorem dL_law_499 : decode cL_law 499 = .ok (.iload_n 3, 1) := by decide +kernel
theorem dL_law_500 : decode cL_law 500 = .ok (.iconst 2, 1) := by decide +kernel
theorem dL_law_501 : decode cL_law 501 = .ok (.iadd, 1) := by decide +kernel
theorem dL_law_502 : decode cL_law 502 = .ok (.iaload, 1) := by decide +kernel
theorem dL_law_503 : decode cL_law 503 = .ok (.aload_n 0, 1) := by decide +kernel
theorem dL_law_504 : decode cL_law 504 = .ok (.iload_n 3, 1) := by decide +kernel
theorem dL_law_505 : decode cL_law 505 = .ok (.iconst 3, 1) := by decide +kernel
theorem dL_law_506 : decode cL_law 506 = .ok (.iadd, 1) := by decide +kernel
theorem dL_law_507 : decode cL_law 507 = .ok (.iaload, 1) := by decide +kernel
theorem dL_law_508 : decode cL_law 508 = .ok (.aload_n 0, 1) := by decide +kernel
theorem dL_law_509 : decode cL_law 509 = .ok (.iload_n 3, 1) := by decide +kernel
theorem dL_law_510 : decode cL_law 510 = .ok (.iconst 4, 1) := by decide +kernel
theorem dL_law_511 : decode cL_law 511 = .ok (.iadd, 1) := by decide +kernel
theorem dL_law_512 : decode cL_law 512 = .ok (.iaload, 1) := by decide +kernel
theorem dL_law_513 : decode cL_law 513 = .ok (.aload_n 0, 1) := by decide +kernel
theorem dL_law_514 : decode cL_law 514 = .ok (.iload_n 3, 1) := by decide +kernel
theorem dL_law_515 : decode cL_law 515 = .ok (.iconst 5, 1) := by decide +kernel
theorem dL_law_516 : decode cL_law 516 = .ok (.iadd, 1) := by decide +kernel
theorem dL_law_517 : decode cL_law 517 = .ok (.iaload, 1) := by decide +kernel
theorem dL_law_518 : decode cL_law 518 = .ok (.invokevirtual 51, 3) := by decide +kernel
theorem dL_law_521 : decode cL_law 521 = .ok (.aload_n 2, 1) := by decide +kernel
theorem dL_law_522 : decode cL_law 522 = .ok (.aload_n 0, 1) := by decide +kernel
theorem dL_law_523 : decode cL_law 523 = .ok (.iload_n 3, 1) := by decide +kernel
theorem dL_law_524 : decode cL_law 524 = .ok (.iconst 1, 1) := by decide +kernel
theorem dL_law_525 : decode cL_law 525 = .ok (.iadd, 1) := by decide +kernel
theorem dL_law_526 : decode cL_law 526 = .ok (.iaload, 1) := by decide +kernel
theorem dL_law_527 : decode cL_law 527 = .ok (.aload_n 0, 1) := by decide +kernel
theorem dL_law_528 : decode cL_law 528 = .ok (.iload_n 3, 1) := by decide +kernel
theorem dL_law_529 : decode cL_law 529 = .ok (.iconst 2, 1) := by decide +kernel
theorem dL_law_530 : decode cL_law 530 = .ok (.iadd, 1) := by decide +kernel
theorem dL_law_531 : decode cL_law 531 = .ok (.iaload, 1) := by decide +kernel
theorem dL_law_532 : decode cL_law 532 = .ok (.aload_n 0, 1) := by decide +kernel
theorem dL_law_533 : decode cL_law 533 = .ok (.iload_n 3, 1) := by decide +kernel
theorem dL_law_534 : decode cL_law 534 = .ok (.iconst 3, 1) := by decide +kernel
theorem dL_law_535 : decode cL_law 535 = .ok (.iadd, 1) := by decide +kernel
theorem dL_law_536 : decode cL_law 536 = .ok (.iaload, 1) := by decide +kernel
theorem dL_law_537 : decode cL_law 537 = .ok (.aload_n 0, 1) := by decide +kernel
theorem dL_law_538 : decode cL_law 538 = .ok (.iload_n 3, 1) := by decide +kernel
theorem dL_law_539 : decode cL_law 539 = .ok (.iconst 4, 1) := by decide +kernel
theorem dL_law_540 : decode cL_law 540 = .ok (.iadd, 1) := by decide +kernel
theorem dL_law_541 : decode cL_law 541 = .ok (.iaload, 1) := by decide +kernel
theorem dL_law_542 : decode cL_law 542 = .ok (.aload_n 0, 1) := by decide +kernel
theorem dL_law_543 : decode cL_law 543 = .ok (.iload_n 3, 1) := by decide +kernel
theorem dL_law_544 : decode cL_law 544 = .ok (.iconst 5, 1) := by decide +kernel
theorem dL_law_545 : decode cL_law 545 = .ok (.iadd, 1) := by decide +kernel
theorem dL_law_546 : decode cL_law 546 = .ok (.iaload, 1) := by decide +kernel
theorem dL_law_547 : decode cL_law 547 = .ok (.invokevirtual 54, 3) := by decide +kernel
theorem dL_law_550 : decode cL_law 550 = .ok (.if_icmp .eq 308, 3) := by decide +kernel
theorem dL_law_553 : decode cL_law 553 = .ok (.iconst 0, 1) := by decide +kernel
theorem dL_law_554 : decode cL_law 554 = .ok (.ireturn, 1) := by decide +kernel
theorem dL_law_555 : decode cL_law 555 = .ok (.aload_n 1, 1) := by decide +kernel
theorem dL_law_556 : decode cL_law 556 = .ok (.aload_n 0, 1) := by decide +kernel
theorem dL_law_557 : decode cL_law 557 = .ok (.iload_n 3, 1) := by decide +kernel
theorem dL_law_558 : decode cL_law 558 = .ok (.iconst 1, 1) := by decide +kernel
theorem dL_law_559 : decode cL_law 559 = .ok (.iadd, 1) := by decide +kernel
theorem dL_law_560 : decode cL_law 560 = .ok (.iaload, 1) := by decide +kernel
theorem dL_law_561 : decode cL_law 561 = .ok (.aload_n 0, 1) := by decide +kernel
theorem dL_law_562 : decode cL_law 562 = .ok (.iload_n 3, 1) := by decide +kernel
theorem dL_law_563 : decode cL_law 563 = .ok (.iconst 2, 1) := by decide +kernel
theorem dL_law_564 : decode cL_law 564 = .ok (.iadd, 1) := by decide +kernel
theorem dL_law_565 : decode cL_law 565 = .ok (.iaload, 1) := by decide +kernel
theorem dL_law_566 : decode cL_law 566 = .ok (.invokevirtual 55, 3) := by decide +kernel
theorem dL_law_569 : decode cL_law 569 = .ok (.aload_n 2, 1) := by decide +kernel
theorem dL_law_570 : decode cL_law 570 = .ok (.aload_n 0, 1) := by decide +kernel
theorem dL_law_571 : decode cL_law 571 = .ok (.iload_n 3, 1) := by decide +kernel
theorem dL_law_572 : decode cL_law 572 = .ok (.iconst 1, 1) := by decide +kernel
theorem dL_law_573 : decode cL_law 573 = .ok (.iadd, 1) := by decide +kernel
theorem dL_law_574 : decode cL_law 574 = .ok (.iaload, 1) := by decide +kernel
theorem dL_law_575 : decode cL_law 575 = .ok (.aload_n 0, 1) := by decide +kernel
theorem dL_law_576 : decode cL_law 576 = .ok (.iload_n 3, 1) := by decide +kernel
theorem dL_law_577 : decode cL_law 577 = .ok (.iconst 2, 1) := by decide +kernel
theorem dL_law_578 : decode cL_law 578 = .ok (.iadd, 1) := by decide +kernel
theorem dL_law_579 : decode cL_law 579 = .ok (.iaload, 1) := by decide +kernel
theorem dL_law_580 : decode cL_law 580 = .ok (.invokevirtual 58, 3) := by decide +kernel
theorem dL_law_583 : decode cL_law 583 = .ok (.if_icmp .eq 275, 3) := by decide +kernel
theorem dL_law_586 : decode cL_law 586 = .ok (.iconst 0, 1) := by decide +kernel
theorem dL_law_587 : decode cL_law 587 = .ok (.ireturn, 1) := by decide +kernel
theorem dL_law_588 : decode cL_law 588 = .ok (.aload_n 1, 1) := by decide +kernel
theorem dL_law_589 : decode cL_law 589 = .ok (.aload_n 0, 1) := by decide +kernel
theorem dL_law_590 : decode cL_law 590 = .ok (.iload_n 3, 1) := by decide +kernel
theorem dL_law_591 : decode cL_law 591 = .ok (.iconst 1, 1) := by decide +kernel
theorem dL_law_592 : decode cL_law 592 = .ok (.iadd, 1) := by decide +kernel
theorem dL_law_593 : decode cL_law 593 = .ok (.iaload, 1) := by decide +kernel
theorem dL_law_594 : decode cL_law 594 = .ok (.invokevirtual 59, 3) := by decide +kernel
theorem dL_law_597 : decode cL_law 597 = .ok (.aload_n 2, 1) := by decide +kernel
theorem dL_law_598 : decode cL_law 598 = .ok (.aload_n 0, 1) := by decide +kernel
theorem dL_law_599 : decode cL_law 599 = .ok (.iload_n 3, 1) := by decide +kernel
theorem dL_law_600 : decode cL_law 600 = .ok (.iconst 1, 1) := by decide +kernel
theorem dL_law_601 : decode cL_law 601 = .ok (.iadd, 1) := by decide +kernel
theorem dL_law_602 : decode cL_law 602 = .ok (.iaload, 1) := by decide +kernel
theorem dL_law_603 : decode cL_law 603 = .ok (.invokevirtual 62, 3) := by decide +kernel
theorem dL_law_606 : decode cL_law 606 = .ok (.if_icmp .eq 252, 3) := by decide +kernel
theorem dL_law_609 : decode cL_law 609 = .ok (.iconst 0, 1) := by decide +kernel
theorem dL_law_610 : decode cL_law 610 = .ok (.ireturn, 1) := by decide +kernel
theorem dL_law_611 : decode cL_law 611 = .ok (.aload_n 1, 1) := by decide +kernel
theorem dL_law_612 : decode cL_law 612 = .ok (.aload_n 0, 1) := by decide +kernel
theorem dL_law_613 : decode cL_law 613 = .ok (.iload_n 3, 1) := by decide +kernel
theorem dL_law_614 : decode cL_law 614 = .ok (.iconst 1, 1) := by decide +kernel
theorem dL_law_615 : decode cL_law 615 = .ok (.iadd, 1) := by decide +kernel
theorem dL_law_616 : decode cL_law 616 = .ok (.iaload, 1) := by decide +kernel
theorem dL_law_617 : decode cL_law 617 = .ok (.aload_n 0, 1) := by decide +kernel
theorem dL_law_618 : decode cL_law 618 = .ok (.iload_n 3, 1) := by decide +kernel
theorem dL_law_619 : decode cL_law 619 = .ok (.iconst 2, 1) := by decide +kernel
theorem dL_law_620 : decode cL_law 620 = .ok (.iadd, 1) := by decide +kernel
theorem dL_law_621 : decode cL_law 621 = .ok (.iaload, 1) := by decide +kernel
theorem dL_law_622 : decode cL_law 622 = .ok (.aload_n 0, 1) := by decide +kernel
theorem dL_law_623 : decode cL_law 623 = .ok (.iload_n 3, 1) := by decide +kernel
theorem dL_law_624 : decode cL_law 624 = .ok (.iconst 3, 1) := by decide +kernel
theorem dL_law_625 : decode cL_law 625 = .ok (.iadd, 1) := by decide +kernel
theorem dL_law_626 : decode cL_law 626 = .ok (.iaload, 1) := by decide +kernel
theorem dL_law_627 : decode cL_law 627 = .ok (.invokevirtual 63, 3) := by decide +kernel
theorem dL_law_630 : decode cL_law 630 = .ok (.aload_n 2, 1) := by decide +kernel
theorem dL_law_631 : decode cL_law 631 = .ok (.aload_n 0, 1) := by decide +kernel
theorem dL_law_632 : decode cL_law 632 = .ok (.iload_n 3, 1) := by decide +kernel
theorem dL_law_633 : decode cL_law 633 = .ok (.iconst 1, 1) := by decide +kernel
theorem dL_law_634 : decode cL_law 634 = .ok (.iadd, 1) := by decide +kernel
theorem dL_law_635 : decode cL_law 635 = .ok (.iaload, 1) := by decide +kernel
theorem dL_law_636 : decode cL_law 636 = .ok (.aload_n 0, 1) := by decide +kernel
theorem dL_law_637 : decode cL_law 637 = .ok (.iload_n 3, 1) := by decide +kernel
theorem dL_law_638 : decode cL_law 638 = .ok (.iconst 2, 1) := by decide +kernel
theorem dL_law_639 : decode cL_law 639 = .ok (.iadd, 1) := by decide +kernel
theorem dL_law_640 : decode cL_law 640 = .ok (.iaload, 1) := by decide +kernel
theorem dL_law_641 : decode cL_law 641 = .ok (.aload_n 0, 1) := by decide +kernel
theorem dL_law_642 : decode cL_law 642 = .ok (.iload_n 3, 1) := by decide +kernel
theorem dL_law_643 : decode cL_law 643 = .ok (.iconst 3, 1) := by decide +kernel
theorem dL_law_644 : decode cL_law 644 = .ok (.iadd, 1) := by decide +kernel
theorem dL_law_645 : decode cL_law 645 = .ok (.iaload, 1) := by decide +kernel
theorem dL_law_646 : decode cL_law 646 = .ok (.invokevirtual 66, 3) := by decide +kernel
theorem dL_law_649 : decode cL_law 649 = .ok (.if_icmp .eq 209, 3) := by decide +kernel
theorem dL_law_652 : decode cL_law 652 = .ok (.iconst 0, 1) := by decide +kernel
theorem dL_law_653 : decode cL_law 653 = .ok (.ireturn, 1) := by decide +kernel
theorem dL_law_654 : decode cL_law 654 = .ok (.aload_n 1, 1) := by decide +kernel
theorem dL_law_655 : decode cL_law 655 = .ok (.aload_n 0, 1) := by decide +kernel
theorem dL_law_656 : decode cL_law 656 = .ok (.iload_n 3, 1) := by decide +kernel
theorem dL_law_657 : decode cL_law 657 = .ok (.iconst 1, 1) := by decide +kernel
theorem dL_law_658 : decode cL_law 658 = .ok (.iadd, 1) := by decide +kernel
theorem dL_law_659 : decode cL_law 659 = .ok (.iaload, 1) := by decide +kernel
theorem dL_law_660 : decode cL_law 660 = .ok (.aload_n 0, 1) := by decide +kernel
theorem dL_law_661 : decode cL_law 661 = .ok (.iload_n 3, 1) := by decide +kernel
theorem dL_law_662 : decode cL_law 662 = .ok (.iconst 2, 1) := by decide +kernel
theorem dL_law_663 : decode cL_law 663 = .ok (.iadd, 1) := by decide +kernel
theorem dL_law_664 : decode cL_law 664 = .ok (.iaload, 1) := by decide +kernel
theorem dL_law_665 : decode cL_law 665 = .ok (.aload_n 0, 1) := by decide +kernel
theorem dL_law_666 : decode cL_law 666 = .ok (.iload_n 3, 1) := by decide +kernel
theorem dL_law_667 : decode cL_law 667 = .ok (.iconst 3, 1) := by decide +kernel
theorem dL_law_668 : decode cL_law 668 = .ok (.iadd, 1) := by decide +kernel
theorem dL_law_669 : decode cL_law 669 = .ok (.iaload, 1) := by decide +kernel
theorem dL_law_670 : decode cL_law 670 = .ok (.aload_n 0, 1) := by decide +kernel
theorem dL_law_671 : decode cL_law 671 = .ok (.iload_n 3, 1) := by decide +kernel
theorem dL_law_672 : decode cL_law 672 = .ok (.iconst 4, 1) := by decide +kernel
theorem dL_law_673 : decode cL_law 673 = .ok (.iadd, 1) := by decide +kernel
theorem dL_law_674 : decode cL_law 674 = .ok (.iaload, 1) := by decide +kernel
theorem dL_law_675 : decode cL_law 675 = .ok (.invokevirtual 67, 3) := by decide +kernel
theorem dL_law_678 : decode cL_law 678 = .ok (.aload_n 2, 1) := by decide +kernel
theorem dL_law_679 : decode cL_law 679 = .ok (.aload_n 0, 1) := by decide +kernel
theorem dL_law_680 : decode cL_law 680 = .ok (.iload_n 3, 1) := by decide +kernel
theorem dL_law_681 : decode cL_law 681 = .ok (.iconst 1, 1) := by decide +kernel
theorem dL_law_682 : decode cL_law 682 = .ok (.iadd, 1) := by decide +kernel
theorem dL_law_683 : decode cL_law 683 = .ok (.iaload, 1) := by decide +kernel
theorem dL_law_684 : decode cL_law 684 = .ok (.aload_n 0, 1) := by decide +kernel
theorem dL_law_685 : decode cL_law 685 = .ok (.iload_n 3, 1) := by decide +kernel
theorem dL_law_686 : decode cL_law 686 = .ok (.iconst 2, 1) := by decide +kernel
theorem dL_law_687 : decode cL_law 687 = .ok (.iadd, 1) := by decide +kernel
theorem dL_law_688 : decode cL_law 688 = .ok (.iaload, 1) := by decide +kernel
theorem dL_law_689 : decode cL_law 689 = .ok (.aload_n 0, 1) := by decide +kernel
theorem dL_law_690 : decode cL_law 690 = .ok (.iload_n 3, 1) := by decide +kernel
theorem dL_law_691 : decode cL_law 691 = .ok (.iconst 3, 1) := by decide +kernel
theorem dL_law_692 : decode cL_law 692 = .ok (.iadd, 1) := by decide +kernel
theorem dL_law_693 : decode cL_law 693 = .ok (.iaload, 1) := by decide +kernel
theorem dL_law_694 : decode cL_law 694 = .ok (.aload_n 0, 1) := by decide +kernel
theorem dL_law_695 : decode cL_law 695 = .ok (.iload_n 3, 1) := by decide +kernel
theorem dL_law_696 : decode cL_law 696 = .ok (.iconst 4, 1) := by decide +kernel
theorem dL_law_697 : decode cL_law 697 = .ok (.iadd, 1) := by decide +kernel
theorem dL_law_698 : decode cL_law 698 = .ok (.iaload, 1) := by decide +kernel
theorem dL_law_699 : decode cL_law 699 = .ok (.invokevirtual 70, 3) := by decide +kernel
theorem dL_law_702 : decode cL_law 702 = .ok (.if_icmp .eq 156, 3) := by decide +kernel
theorem dL_law_705 : decode cL_law 705 = .ok (.iconst 0, 1) := by decide +kernel
theorem dL_law_706 : decode cL_law 706 = .ok (.ireturn, 1) := by decide +kernel
theorem dL_law_707 : decode cL_law 707 = .ok (.aload_n 1, 1) := by decide +kernel
theorem dL_law_708 : decode cL_law 708 = .ok (.aload_n 0, 1) := by decide +kernel
theorem dL_law_709 : decode cL_law 709 = .ok (.iload_n 3, 1) := by decide +kernel
theorem dL_law_710 : decode cL_law 710 = .ok (.iconst 1, 1) := by decide +kernel
theorem dL_law_711 : decode cL_law 711 = .ok (.iadd, 1) := by decide +kernel
theorem dL_law_712 : decode cL_law 712 = .ok (.iaload, 1) := by decide +kernel
theorem dL_law_713 : decode cL_law 713 = .ok (.aload_n 0, 1) := by decide +kernel
theorem dL_law_714 : decode cL_law 714 = .ok (.iload_n 3, 1) := by decide +kernel
theorem dL_law_715 : decode cL_law 715 = .ok (.iconst 2, 1) := by decide +kernel
theorem dL_law_716 : decode cL_law 716 = .ok (.iadd, 1) := by decide +kernel
theorem dL_law_717 : decode cL_law 717 = .ok (.iaload, 1) := by decide +kernel
theorem dL_law_718 : decode cL_law 718 = .ok (.invokevirtual 71, 3) := by decide +kernel
theorem dL_law_721 : decode cL_law 721 = .ok (.aload_n 2, 1) := by decide +kernel
theorem dL_law_722 : decode cL_law 722 = .ok (.aload_n 0, 1) := by decide +kernel
theorem dL_law_723 : decode cL_law 723 = .ok (.iload_n 3, 1) := by decide +kernel
theorem dL_law_724 : decode cL_law 724 = .ok (.iconst 1, 1) := by decide +kernel
theorem dL_law_725 : decode cL_law 725 = .ok (.iadd, 1) := by decide +kernel
theorem dL_law_726 : decode cL_law 726 = .ok (.iaload, 1) := by decide +kernel
theorem dL_law_727 : decode cL_law 727 = .ok (.aload_n 0, 1) := by decide +kernel
theorem dL_law_728 : decode cL_law 728 = .ok (.iload_n 3, 1) := by decide +kernel
theorem dL_law_729 : decode cL_law 729 = .ok (.iconst 2, 1) := by decide +kernel
theorem dL_law_730 : decode cL_law 730 = .ok (.iadd, 1) := by decide +kernel
theorem dL_law_731 : decode cL_law 731 = .ok (.iaload, 1) := by decide +kernel
theorem dL_law_732 : decode cL_law 732 = .ok (.invokevirtual 74, 3) := by decide +kernel
theorem dL_law_735 : decode cL_law 735 = .ok (.if_icmp .eq 123, 3) := by decide +kernel
theorem dL_law_738 : decode cL_law 738 = .ok (.iconst 0, 1) := by decide +kernel
theorem dL_law_739 : decode cL_law 739 = .ok (.ireturn, 1) := by decide +kernel
theorem dL_law_740 : decode cL_law 740 = .ok (.aload_n 1, 1) := by decide +kernel
theorem dL_law_741 : decode cL_law 741 = .ok (.aload_n 0, 1) := by decide +kernel
theorem dL_law_742 : decode cL_law 742 = .ok (.iload_n 3, 1) := by decide +kernel
theorem dL_law_743 : decode cL_law 743 = .ok (.iconst 1, 1) := by decide +kernel
theorem dL_law_744 : decode cL_law 744 = .ok (.iadd, 1) := by decide +kernel
theorem dL_law_745 : decode cL_law 745 = .ok (.iaload, 1) := by decide +kernel
theorem dL_law_746 : decode cL_law 746 = .ok (.invokevirtual 75, 3) := by decide +kernel
theorem dL_law_749 : decode cL_law 749 = .ok (.aload_n 2, 1) := by decide +kernel
theorem dL_law_750 : decode cL_law 750 = .ok (.aload_n 0, 1) := by decide +kernel
theorem dL_law_751 : decode cL_law 751 = .ok (.iload_n 3, 1) := by decide +kernel
theorem dL_law_752 : decode cL_law 752 = .ok (.iconst 1, 1) := by decide +kernel
theorem dL_law_753 : decode cL_law 753 = .ok (.iadd, 1) := by decide +kernel
theorem dL_law_754 : decode cL_law 754 = .ok (.iaload, 1) := by decide +kernel
theorem dL_law_755 : decode cL_law 755 = .ok (.invokevirtual 79, 3) := by decide +kernel
theorem dL_law_758 : decode cL_law 758 = .ok (.if_icmp .eq 100, 3) := by decide +kernel
theorem dL_law_761 : decode cL_law 761 = .ok (.iconst 0, 1) := by decide +kernel
theorem dL_law_762 : decode cL_law 762 = .ok (.ireturn, 1) := by decide +kernel
theorem dL_law_763 : decode cL_law 763 = .ok (.aload_n 1, 1) := by decide +kernel
theorem dL_law_764 : decode cL_law 764 = .ok (.aload_n 0, 1) := by decide +kernel
theorem dL_law_765 : decode cL_law 765 = .ok (.iload_n 3, 1) := by decide +kernel
theorem dL_law_766 : decode cL_law 766 = .ok (.iconst 1, 1) := by decide +kernel
theorem dL_law_767 : decode cL_law 767 = .ok (.iadd, 1) := by decide +kernel
theorem dL_law_768 : decode cL_law 768 = .ok (.iaload, 1) := by decide +kernel
theorem dL_law_769 : decode cL_law 769 = .ok (.invokevirtual 80, 3) := by decide +kernel
theorem dL_law_772 : decode cL_law 772 = .ok (.aload_n 2, 1) := by decide +kernel
theorem dL_law_773 : decode cL_law 773 = .ok (.aload_n 0, 1) := by decide +kernel
theorem dL_law_774 : decode cL_law 774 = .ok (.iload_n 3, 1) := by decide +kernel
theorem dL_law_775 : decode cL_law 775 = .ok (.iconst 1, 1) := by decide +kernel
theorem dL_law_776 : decode cL_law 776 = .ok (.iadd, 1) := by decide +kernel
theorem dL_law_777 : decode cL_law 777 = .ok (.iaload, 1) := by decide +kernel
theorem dL_law_778 : decode cL_law 778 = .ok (.invokevirtual 83, 3) := by decide +kernel
theorem dL_law_781 : decode cL_law 781 = .ok (.if_icmp .eq 77, 3) := by decide +kernel
theorem dL_law_784 : decode cL_law 784 = .ok (.iconst 0, 1) := by decide +kernel
theorem dL_law_785 : decode cL_law 785 = .ok (.ireturn, 1) := by decide +kernel
theorem dL_law_786 : decode cL_law 786 = .ok (.aload_n 1, 1) := by decide +kernel
theorem dL_law_787 : decode cL_law 787 = .ok (.invokevirtual 84, 3) := by decide +kernel
theorem dL_law_790 : decode cL_law 790 = .ok (.aload_n 2, 1) := by decide +kernel
theorem dL_law_791 : decode cL_law 791 = .ok (.invokevirtual 88, 3) := by decide +kernel
theorem dL_law_794 : decode cL_law 794 = .ok (.if_icmp .eq 64, 3) := by decide +kernel
theorem dL_law_797 : decode cL_law 797 = .ok (.iconst 0, 1) := by decide +kernel
theorem dL_law_798 : decode cL_law 798 = .ok (.ireturn, 1) := by decide +kernel
theorem dL_law_799 : decode cL_law 799 = .ok (.aload_n 1, 1) := by decide +kernel
theorem dL_law_800 : decode cL_law 800 = .ok (.invokevirtual 89, 3) := by decide +kernel
theorem dL_law_803 : decode cL_law 803 = .ok (.aload_n 2, 1) := by decide +kernel
theorem dL_law_804 : decode cL_law 804 = .ok (.invokevirtual 93, 3) := by decide +kernel
theorem dL_law_807 : decode cL_law 807 = .ok (.if_icmp .eq 51, 3) := by decide +kernel
theorem dL_law_810 : decode cL_law 810 = .ok (.iconst 0, 1) := by decide +kernel
theorem dL_law_811 : decode cL_law 811 = .ok (.ireturn, 1) := by decide +kernel
theorem dL_law_812 : decode cL_law 812 = .ok (.aload_n 1, 1) := by decide +kernel
theorem dL_law_813 : decode cL_law 813 = .ok (.aload_n 0, 1) := by decide +kernel
theorem dL_law_814 : decode cL_law 814 = .ok (.iload_n 3, 1) := by decide +kernel
theorem dL_law_815 : decode cL_law 815 = .ok (.iconst 1, 1) := by decide +kernel
theorem dL_law_816 : decode cL_law 816 = .ok (.iadd, 1) := by decide +kernel
theorem dL_law_817 : decode cL_law 817 = .ok (.iaload, 1) := by decide +kernel
theorem dL_law_818 : decode cL_law 818 = .ok (.invokevirtual 94, 3) := by decide +kernel
theorem dL_law_821 : decode cL_law 821 = .ok (.aload_n 2, 1) := by decide +kernel
theorem dL_law_822 : decode cL_law 822 = .ok (.aload_n 0, 1) := by decide +kernel
theorem dL_law_823 : decode cL_law 823 = .ok (.iload_n 3, 1) := by decide +kernel
theorem dL_law_824 : decode cL_law 824 = .ok (.iconst 1, 1) := by decide +kernel
theorem dL_law_825 : decode cL_law 825 = .ok (.iadd, 1) := by decide +kernel
theorem dL_law_826 : decode cL_law 826 = .ok (.iaload, 1) := by decide +kernel
theorem dL_law_827 : decode cL_law 827 = .ok (.invokevirtual 97, 3) := by decide +kernel
theorem dL_law_830 : decode cL_law 830 = .ok (.if_icmp .eq 28, 3) := by decide +kernel
theorem dL_law_833 : decode cL_law 833 = .ok (.iconst 0, 1) := by decide +kernel
theorem dL_law_834 : decode cL_law 834 = .ok (.ireturn, 1) := by decide +kernel
theorem dL_law_835 : decode cL_law 835 = .ok (.aload_n 1, 1) := by decide +kernel
theorem dL_law_836 : decode cL_law 836 = .ok (.aload_n 0, 1) := by decide +kernel
theorem dL_law_837 : decode cL_law 837 = .ok (.iload_n 3, 1) := by decide +kernel
theorem dL_law_838 : decode cL_law 838 = .ok (.iconst 1, 1) := by decide +kernel
theorem dL_law_839 : decode cL_law 839 = .ok (.iadd, 1) := by decide +kernel
theorem dL_law_840 : decode cL_law 840 = .ok (.iaload, 1) := by decide +kernel
theorem dL_law_841 : decode cL_law 841 = .ok (.invokevirtual 98, 3) := by decide +kernel
theorem dL_law_844 : decode cL_law 844 = .ok (.aload_n 2, 1) := by decide +kernel
theorem dL_law_845 : decode cL_law 845 = .ok (.aload_n 0, 1) := by decide +kernel
theorem dL_law_846 : decode cL_law 846 = .ok (.iload_n 3, 1) := by decide +kernel
theorem dL_law_847 : decode cL_law 847 = .ok (.iconst 1, 1) := by decide +kernel
theorem dL_law_848 : decode cL_law 848 = .ok (.iadd, 1) := by decide +kernel
theorem dL_law_849 : decode cL_law 849 = .ok (.iaload, 1) := by decide +kernel
theorem dL_law_850 : decode cL_law 850 = .ok (.invokevirtual 101, 3) := by decide +kernel
theorem dL_law_853 : decode cL_law 853 = .ok (.if_icmp .eq 5, 3) := by decide +kernel
theorem dL_law_856 : decode cL_law 856 = .ok (.iconst 0, 1) := by decide +kernel
theorem dL_law_857 : decode cL_law 857 = .ok (.ireturn, 1) := by decide +kernel
theorem dL_law_858 : decode cL_law 858 = .ok (.iinc 3 6, 3) := by decide +kernel
theorem dL_law_861 : decode cL_law 861 = .ok (.goto (-843), 3) := by decide +kernel
theorem dL_law_864 : decode cL_law 864 = .ok (.iconst 1, 1) := by decide +kernel
theorem dL_law_865 : decode cL_law 865 = .ok (.ireturn, 1) := by decide +kernel
