theorem dX12_valueOf_269 : decode cX12_valueOf 269 = .ok (.iload_n 1, 1) := by decide +kernel
theorem dX12_valueOf_270 : decode cX12_valueOf 270 = .ok (.iaload, 1) := by decide +kernel
theorem dX12_valueOf_271 : decode cX12_valueOf 271 = .ok (.baload, 1) := by decide +kernel
theorem dX12_valueOf_272 : decode cX12_valueOf 272 = .ok (.ifCond .eq 17, 3) := by decide +kernel
theorem dX12_valueOf_275 : decode cX12_valueOf 275 = .ok (.aload_n 0, 1) := by decide +kernel
theorem dX12_valueOf_276 : decode cX12_valueOf 276 = .ok (.getfield 79, 3) := by decide +kernel
theorem dX12_valueOf_279 : decode cX12_valueOf 279 = .ok (.aload_n 0, 1) := by decide +kernel
theorem dX12_valueOf_280 : decode cX12_valueOf 280 = .ok (.getfield 40, 3) := by decide +kernel
theorem dX12_valueOf_283 : decode cX12_valueOf 283 = .ok (.iload_n 1, 1) := by decide +kernel
theorem dX12_valueOf_284 : decode cX12_valueOf 284 = .ok (.iaload, 1) := by decide +kernel
theorem dX12_valueOf_285 : decode cX12_valueOf 285 = .ok (.baload, 1) := by decide +kernel
theorem dX12_valueOf_286 : decode cX12_valueOf 286 = .ok (.ifCond .eq 7, 3) := by decide +kernel
theorem dX12_valueOf_289 : decode cX12_valueOf 289 = .ok (.iconst 1, 1) := by decide +kernel
theorem dX12_valueOf_290 : decode cX12_valueOf 290 = .ok (.goto 4, 3) := by decide +kernel
theorem dX12_valueOf_293 : decode cX12_valueOf 293 = .ok (.iconst 0, 1) := by decide +kernel
theorem dX12_valueOf_294 : decode cX12_valueOf 294 = .ok (.ireturn, 1) := by decide +kernel
theorem dX12_values_0 : decode cX12_values 0 = .ok (.iconst 0, 1) := by decide +kernel
theorem dX12_values_1 : decode cX12_values 1 = .ok (.istore_n 1, 1) := by decide +kernel
theorem dX12_values_2 : decode cX12_values 2 = .ok (.iload_n 1, 1) := by decide +kernel
theorem dX12_values_3 : decode cX12_values 3 = .ok (.iconst 1, 1) := by decide +kernel
theorem dX12_values_4 : decode cX12_values 4 = .ok (.aload_n 0, 1) := by decide +kernel
theorem dX12_values_5 : decode cX12_values 5 = .ok (.getfield 159, 3) := by decide +kernel
theorem dX12_values_8 : decode cX12_values 8 = .ok (.ishl, 1) := by decide +kernel
theorem dX12_values_9 : decode cX12_values 9 = .ok (.if_icmp .ge 52, 3) := by decide +kernel
theorem dX12_values_12 : decode cX12_values 12 = .ok (.iconst 0, 1) := by decide +kernel
theorem dX12_values_13 : decode cX12_values 13 = .ok (.istore_n 2, 1) := by decide +kernel
theorem dX12_values_14 : decode cX12_values 14 = .ok (.iload_n 2, 1) := by decide +kernel
theorem dX12_values_15 : decode cX12_values 15 = .ok (.aload_n 0, 1) := by decide +kernel
theorem dX12_values_16 : decode cX12_values 16 = .ok (.getfield 91, 3) := by decide +kernel
theorem dX12_values_19 : decode cX12_values 19 = .ok (.if_icmp .ge 21, 3) := by decide +kernel
theorem dX12_values_22 : decode cX12_values 22 = .ok (.aload_n 0, 1) := by decide +kernel
theorem dX12_values_23 : decode cX12_values 23 = .ok (.getfield 79, 3) := by decide +kernel
theorem dX12_values_26 : decode cX12_values 26 = .ok (.iload_n 2, 1) := by decide +kernel
theorem dX12_values_27 : decode cX12_values 27 = .ok (.aload_n 0, 1) := by decide +kernel
theorem dX12_values_28 : decode cX12_values 28 = .ok (.iload_n 2, 1) := by decide +kernel
theorem dX12_values_29 : decode cX12_values 29 = .ok (.iload_n 1, 1) := by decide +kernel
theorem dX12_values_30 : decode cX12_values 30 = .ok (.invokevirtual 231, 3) := by decide +kernel
theorem dX12_values_33 : decode cX12_values 33 = .ok (.bastore, 1) := by decide +kernel
theorem dX12_values_34 : decode cX12_values 34 = .ok (.iinc 2 1, 3) := by decide +kernel
theorem dX12_values_37 : decode cX12_values 37 = .ok (.goto (-23), 3) := by decide +kernel
theorem dX12_values_40 : decode cX12_values 40 = .ok (.aload_n 0, 1) := by decide +kernel
theorem dX12_values_41 : decode cX12_values 41 = .ok (.getfield 70, 3) := by decide +kernel
theorem dX12_values_44 : decode cX12_values 44 = .ok (.iload_n 1, 1) := by decide +kernel
theorem dX12_values_45 : decode cX12_values 45 = .ok (.aload_n 0, 1) := by decide +kernel
theorem dX12_values_46 : decode cX12_values 46 = .ok (.getfield 79, 3) := by decide +kernel
theorem dX12_values_49 : decode cX12_values 49 = .ok (.aload_n 0, 1) := by decide +kernel
theorem dX12_values_50 : decode cX12_values 50 = .ok (.getfield 94, 3) := by decide +kernel
theorem dX12_values_53 : decode cX12_values 53 = .ok (.baload, 1) := by decide +kernel
theorem dX12_values_54 : decode cX12_values 54 = .ok (.bastore, 1) := by decide +kernel
theorem dX12_values_55 : decode cX12_values 55 = .ok (.iinc 1 1, 3) := by decide +kernel
theorem dX12_values_58 : decode cX12_values 58 = .ok (.goto (-56), 3) := by decide +kernel
theorem dX12_values_61 : decode cX12_values 61 = .ok (.return_, 1) := by decide +kernel
theorem dX12_folds_0 : decode cX12_folds 0 = .ok (.iconst 1, 1) := by decide +kernel
theorem dX12_folds_1 : decode cX12_folds 1 = .ok (.aload_n 0, 1) := by decide +kernel
theorem dX12_folds_2 : decode cX12_folds 2 = .ok (.getfield 159, 3) := by decide +kernel
theorem dX12_folds_5 : decode cX12_folds 5 = .ok (.ishl, 1) := by decide +kernel
theorem dX12_folds_6 : decode cX12_folds 6 = .ok (.istore 4, 2) := by decide +kernel
theorem dX12_folds_8 : decode cX12_folds 8 = .ok (.iconst 0, 1) := by decide +kernel
theorem dX12_folds_9 : decode cX12_folds 9 = .ok (.istore 5, 2) := by decide +kernel
theorem dX12_folds_11 : decode cX12_folds 11 = .ok (.iload 5, 2) := by decide +kernel
theorem dX12_folds_13 : decode cX12_folds 13 = .ok (.iload 4, 2) := by decide +kernel
theorem dX12_folds_15 : decode cX12_folds 15 = .ok (.if_icmp .ge 26, 3) := by decide +kernel
theorem dX12_folds_18 : decode cX12_folds 18 = .ok (.aload_n 0, 1) := by decide +kernel
theorem dX12_folds_19 : decode cX12_folds 19 = .ok (.getfield 73, 3) := by decide +kernel
theorem dX12_folds_22 : decode cX12_folds 22 = .ok (.iload 4, 2) := by decide +kernel
theorem dX12_folds_24 : decode cX12_folds 24 = .ok (.iload 5, 2) := by decide +kernel
theorem dX12_folds_26 : decode cX12_folds 26 = .ok (.iadd, 1) := by decide +kernel
theorem dX12_folds_27 : decode cX12_folds 27 = .ok (.aload_n 0, 1) := by decide +kernel
theorem dX12_folds_28 : decode cX12_folds 28 = .ok (.getfield 70, 3) := by decide +kernel
theorem dX12_folds_31 : decode cX12_folds 31 = .ok (.iload 5, 2) := by decide +kernel
theorem dX12_folds_33 : decode cX12_folds 33 = .ok (.baload, 1) := by decide +kernel
theorem dX12_folds_34 : decode cX12_folds 34 = .ok (.bastore, 1) := by decide +kernel
theorem dX12_folds_35 : decode cX12_folds 35 = .ok (.iinc 5 1, 3) := by decide +kernel
theorem dX12_folds_38 : decode cX12_folds 38 = .ok (.goto (-27), 3) := by decide +kernel
theorem dX12_folds_41 : decode cX12_folds 41 = .ok (.iload 4, 2) := by decide +kernel
theorem dX12_folds_43 : decode cX12_folds 43 = .ok (.iconst 1, 1) := by decide +kernel
theorem dX12_folds_44 : decode cX12_folds 44 = .ok (.isub, 1) := by decide +kernel
theorem dX12_folds_45 : decode cX12_folds 45 = .ok (.istore 5, 2) := by decide +kernel
theorem dX12_folds_47 : decode cX12_folds 47 = .ok (.iload 5, 2) := by decide +kernel
theorem dX12_folds_49 : decode cX12_folds 49 = .ok (.iconst 1, 1) := by decide +kernel
theorem dX12_folds_50 : decode cX12_folds 50 = .ok (.if_icmp .lt 157, 3) := by decide +kernel
theorem dX12_folds_53 : decode cX12_folds 53 = .ok (.iconst 0, 1) := by decide +kernel
theorem dX12_folds_54 : decode cX12_folds 54 = .ok (.istore 6, 2) := by decide +kernel
theorem dX12_folds_56 : decode cX12_folds 56 = .ok (.iload 5, 2) := by decide +kernel
theorem dX12_folds_58 : decode cX12_folds 58 = .ok (.iload 6, 2) := by decide +kernel
theorem dX12_folds_60 : decode cX12_folds 60 = .ok (.ishr, 1) := by decide +kernel
theorem dX12_folds_61 : decode cX12_folds 61 = .ok (.iconst 1, 1) := by decide +kernel
theorem dX12_folds_62 : decode cX12_folds 62 = .ok (.if_icmp .le 12, 3) := by decide +kernel
theorem dX12_folds_65 : decode cX12_folds 65 = .ok (.iload 6, 2) := by decide +kernel
theorem dX12_folds_67 : decode cX12_folds 67 = .ok (.iconst 1, 1) := by decide +kernel
theorem dX12_folds_68 : decode cX12_folds 68 = .ok (.iadd, 1) := by decide +kernel
theorem dX12_folds_69 : decode cX12_folds 69 = .ok (.istore 6, 2) := by decide +kernel
theorem dX12_folds_71 : decode cX12_folds 71 = .ok (.goto (-15), 3) := by decide +kernel
theorem dX12_folds_74 : decode cX12_folds 74 = .ok (.aload_n 0, 1) := by decide +kernel
theorem dX12_folds_75 : decode cX12_folds 75 = .ok (.getfield 30, 3) := by decide +kernel
theorem dX12_folds_78 : decode cX12_folds 78 = .ok (.aload_n 0, 1) := by decide +kernel
theorem dX12_folds_79 : decode cX12_folds 79 = .ok (.getfield 24, 3) := by decide +kernel
theorem dX12_folds_82 : decode cX12_folds 82 = .ok (.iload 6, 2) := by decide +kernel
theorem dX12_folds_84 : decode cX12_folds 84 = .ok (.iaload, 1) := by decide +kernel
theorem dX12_folds_85 : decode cX12_folds 85 = .ok (.baload, 1) := by decide +kernel
theorem dX12_folds_86 : decode cX12_folds 86 = .ok (.aload_n 0, 1) := by decide +kernel
theorem dX12_folds_87 : decode cX12_folds 87 = .ok (.getfield 24, 3) := by decide +kernel
theorem dX12_folds_90 : decode cX12_folds 90 = .ok (.iload 6, 2) := by decide +kernel
theorem dX12_folds_92 : decode cX12_folds 92 = .ok (.iaload, 1) := by decide +kernel
theorem dX12_folds_93 : decode cX12_folds 93 = .ok (.iload_n 3, 1) := by decide +kernel
theorem dX12_folds_94 : decode cX12_folds 94 = .ok (.if_icmp .ne 7, 3) := by decide +kernel
theorem dX12_folds_97 : decode cX12_folds 97 = .ok (.iconst 1, 1) := by decide +kernel
theorem dX12_folds_98 : decode cX12_folds 98 = .ok (.goto 4, 3) := by decide +kernel
theorem dX12_folds_101 : decode cX12_folds 101 = .ok (.iconst 0, 1) := by decide +kernel
theorem dX12_folds_102 : decode cX12_folds 102 = .ok (.if_icmp .eq 7, 3) := by decide +kernel
theorem dX12_folds_105 : decode cX12_folds 105 = .ok (.iconst 1, 1) := by decide +kernel
theorem dX12_folds_106 : decode cX12_folds 106 = .ok (.goto 4, 3) := by decide +kernel
theorem dX12_folds_109 : decode cX12_folds 109 = .ok (.iconst 0, 1) := by decide +kernel
theorem dX12_folds_110 : decode cX12_folds 110 = .ok (.istore 7, 2) := by decide +kernel
theorem dX12_folds_112 : decode cX12_folds 112 = .ok (.aload_n 0, 1) := by decide +kernel
theorem dX12_folds_113 : decode cX12_folds 113 = .ok (.getfield 73, 3) := by decide +kernel
theorem dX12_folds_116 : decode cX12_folds 116 = .ok (.iconst 2, 1) := by decide +kernel
theorem dX12_folds_117 : decode cX12_folds 117 = .ok (.iload 5, 2) := by decide +kernel
theorem dX12_folds_119 : decode cX12_folds 119 = .ok (.imul, 1) := by decide +kernel
theorem dX12_folds_120 : decode cX12_folds 120 = .ok (.baload, 1) := by decide +kernel
theorem dX12_folds_121 : decode cX12_folds 121 = .ok (.istore 8, 2) := by decide +kernel
theorem dX12_folds_123 : decode cX12_folds 123 = .ok (.aload_n 0, 1) := by decide +kernel
theorem dX12_folds_124 : decode cX12_folds 124 = .ok (.getfield 73, 3) := by decide +kernel
theorem dX12_folds_127 : decode cX12_folds 127 = .ok (.iconst 2, 1) := by decide +kernel
theorem dX12_folds_128 : decode cX12_folds 128 = .ok (.iload 5, 2) := by decide +kernel
theorem dX12_folds_130 : decode cX12_folds 130 = .ok (.imul, 1) := by decide +kernel
theorem dX12_folds_131 : decode cX12_folds 131 = .ok (.iconst 1, 1) := by decide +kernel
theorem dX12_folds_132 : decode cX12_folds 132 = .ok (.iadd, 1) := by decide +kernel
theorem dX12_folds_133 : decode cX12_folds 133 = .ok (.baload, 1) := by decide +kernel
theorem dX12_folds_134 : decode cX12_folds 134 = .ok (.istore 9, 2) := by decide +kernel
theorem dX12_folds_136 : decode cX12_folds 136 = .ok (.aload_n 0, 1) := by decide +kernel
theorem dX12_folds_137 : decode cX12_folds 137 = .ok (.getfield 73, 3) := by decide +kernel
theorem dX12_folds_140 : decode cX12_folds 140 = .ok (.iload 5, 2) := by decide +kernel
theorem dX12_folds_142 : decode cX12_folds 142 = .ok (.iload 6, 2) := by decide +kernel
theorem dX12_folds_144 : decode cX12_folds 144 = .ok (.iload_n 1, 1) := by decide +kernel
theorem dX12_folds_145 : decode cX12_folds 145 = .ok (.if_icmp .ne 17, 3) := by decide +kernel
theorem dX12_folds_148 : decode cX12_folds 148 = .ok (.iload_n 2, 1) := by decide +kernel
theorem dX12_folds_149 : decode cX12_folds 149 = .ok (.ifCond .ne 8, 3) := by decide +kernel
theorem dX12_folds_152 : decode cX12_folds 152 = .ok (.iload 8, 2) := by decide +kernel
theorem dX12_folds_154 : decode cX12_folds 154 = .ok (.goto 46, 3) := by decide +kernel
theorem dX12_folds_157 : decode cX12_folds 157 = .ok (.iload 9, 2) := by decide +kernel
theorem dX12_folds_159 : decode cX12_folds 159 = .ok (.goto 41, 3) := by decide +kernel
theorem dX12_folds_162 : decode cX12_folds 162 = .ok (.iload 7, 2) := by decide +kernel
theorem dX12_folds_164 : decode cX12_folds 164 = .ok (.ifCond .eq 21, 3) := by decide +kernel
theorem dX12_folds_167 : decode cX12_folds 167 = .ok (.iload 8, 2) := by decide +kernel
theorem dX12_folds_169 : decode cX12_folds 169 = .ok (.ifCond .eq 12, 3) := by decide +kernel
theorem dX12_folds_172 : decode cX12_folds 172 = .ok (.iload 9, 2) := by decide +kernel
theorem dX12_folds_174 : decode cX12_folds 174 = .ok (.ifCond .eq 7, 3) := by decide +kernel
theorem dX12_folds_177 : decode cX12_folds 177 = .ok (.iconst 1, 1) := by decide +kernel
theorem dX12_folds_178 : decode cX12_folds 178 = .ok (.goto 22, 3) := by decide +kernel
theorem dX12_folds_181 : decode cX12_folds 181 = .ok (.iconst 0, 1) := by decide +kernel
theorem dX12_folds_182 : decode cX12_folds 182 = .ok (.goto 18, 3) := by decide +kernel
theorem dX12_folds_185 : decode cX12_folds 185 = .ok (.iload 8, 2) := by decide +kernel
theorem dX12_folds_187 : decode cX12_folds 187 = .ok (.ifCond .ne 8, 3) := by decide +kernel
theorem dX12_folds_190 : decode cX12_folds 190 = .ok (.iload 9, 2) := by decide +kernel
theorem dX12_folds_192 : decode cX12_folds 192 = .ok (.ifCond .eq 7, 3) := by decide +kernel
theorem dX12_folds_195 : decode cX12_folds 195 = .ok (.iconst 1, 1) := by decide +kernel
theorem dX12_folds_196 : decode cX12_folds 196 = .ok (.goto 4, 3) := by decide +kernel
theorem dX12_folds_199 : decode cX12_folds 199 = .ok (.iconst 0, 1) := by decide +kernel
theorem dX12_folds_200 : decode cX12_folds 200 = .ok (.bastore, 1) := by decide +kernel
theorem dX12_folds_201 : decode cX12_folds 201 = .ok (.iinc 5 (-1), 3) := by decide +kernel
theorem dX12_folds_204 : decode cX12_folds 204 = .ok (.goto (-157), 3) := by decide +kernel
theorem dX12_folds_207 : decode cX12_folds 207 = .ok (.return_, 1) := by decide +kernel
theorem dX12_keeps_0 : decode cX12_keeps 0 = .ok (.iconst 1, 1) := by decide +kernel
theorem dX12_keeps_1 : decode cX12_keeps 1 = .ok (.istore_n 1, 1) := by decide +kernel
theorem dX12_keeps_2 : decode cX12_keeps 2 = .ok (.iload_n 1, 1) := by decide +kernel
theorem dX12_keeps_3 : decode cX12_keeps 3 = .ok (.iconst 2, 1) := by decide +kernel
theorem dX12_keeps_4 : decode cX12_keeps 4 = .ok (.aload_n 0, 1) := by decide +kernel
theorem dX12_keeps_5 : decode cX12_keeps 5 = .ok (.getfield 159, 3) := by decide +kernel
theorem dX12_keeps_8 : decode cX12_keeps 8 = .ok (.ishl, 1) := by decide +kernel
theorem dX12_keeps_9 : decode cX12_keeps 9 = .ok (.if_icmp .ge 21, 3) := by decide +kernel
theorem dX12_keeps_12 : decode cX12_keeps 12 = .ok (.aload_n 0, 1) := by decide +kernel
theorem dX12_keeps_13 : decode cX12_keeps 13 = .ok (.getfield 76, 3) := by decide +kernel
theorem dX12_keeps_16 : decode cX12_keeps 16 = .ok (.iload_n 1, 1) := by decide +kernel
theorem dX12_keeps_17 : decode cX12_keeps 17 = .ok (.aload_n 0, 1) := by decide +kernel
theorem dX12_keeps_18 : decode cX12_keeps 18 = .ok (.getfield 73, 3) := by decide +kernel
theorem dX12_keeps_21 : decode cX12_keeps 21 = .ok (.iload_n 1, 1) := by decide +kernel
theorem dX12_keeps_22 : decode cX12_keeps 22 = .ok (.baload, 1) := by decide +kernel
theorem dX12_keeps_23 : decode cX12_keeps 23 = .ok (.bastore, 1) := by decide +kernel
theorem dX12_keeps_24 : decode cX12_keeps 24 = .ok (.iinc 1 1, 3) := by decide +kernel
theorem dX12_keeps_27 : decode cX12_keeps 27 = .ok (.goto (-25), 3) := by decide +kernel
theorem dX12_keeps_30 : decode cX12_keeps 30 = .ok (.return_, 1) := by decide +kernel
theorem dX12_hand_0 : decode cX12_hand 0 = .ok (.iconst 1, 1) := by decide +kernel
theorem dX12_hand_1 : decode cX12_hand 1 = .ok (.aload_n 0, 1) := by decide +kernel
theorem dX12_hand_2 : decode cX12_hand 2 = .ok (.getfield 225, 3) := by decide +kernel
theorem dX12_hand_5 : decode cX12_hand 5 = .ok (.ishl, 1) := by decide +kernel
theorem dX12_hand_6 : decode cX12_hand 6 = .ok (.aload_n 0, 1) := by decide +kernel
theorem dX12_hand_7 : decode cX12_hand 7 = .ok (.getfield 228, 3) := by decide +kernel
theorem dX12_hand_10 : decode cX12_hand 10 = .ok (.ior, 1) := by decide +kernel
theorem dX12_hand_11 : decode cX12_hand 11 = .ok (.ireturn, 1) := by decide +kernel
theorem dX12_truth_0 : decode cX12_truth 0 = .ok (.aload_n 0, 1) := by decide +kernel
theorem dX12_truth_1 : decode cX12_truth 1 = .ok (.getfield 76, 3) := by decide +kernel
theorem dX12_truth_4 : decode cX12_truth 4 = .ok (.aload_n 0, 1) := by decide +kernel
theorem dX12_truth_5 : decode cX12_truth 5 = .ok (.invokevirtual 235, 3) := by decide +kernel
theorem dX12_truth_8 : decode cX12_truth 8 = .ok (.baload, 1) := by decide +kernel
theorem dX12_truth_9 : decode cX12_truth 9 = .ok (.ifCond .eq 7, 3) := by decide +kernel
theorem dX12_truth_12 : decode cX12_truth 12 = .ok (.iconst 1, 1) := by decide +kernel
theorem dX12_truth_13 : decode cX12_truth 13 = .ok (.goto 4, 3) := by decide +kernel
theorem dX12_truth_16 : decode cX12_truth 16 = .ok (.iconst 0, 1) := by decide +kernel
theorem dX12_truth_17 : decode cX12_truth 17 = .ok (.ireturn, 1) := by decide +kernel
theorem dX12_turn_0 : decode cX12_turn 0 = .ok (.aload_n 0, 1) := by decide +kernel
theorem dX12_turn_1 : decode cX12_turn 1 = .ok (.getfield 222, 3) := by decide +kernel
theorem dX12_turn_4 : decode cX12_turn 4 = .ok (.aload_n 0, 1) := by decide +kernel
theorem dX12_turn_5 : decode cX12_turn 5 = .ok (.getfield 165, 3) := by decide +kernel
theorem dX12_turn_8 : decode cX12_turn 8 = .ok (.if_icmp .ne 7, 3) := by decide +kernel
theorem dX12_turn_11 : decode cX12_turn 11 = .ok (.iconst (-1), 1) := by decide +kernel
theorem dX12_turn_12 : decode cX12_turn 12 = .ok (.goto 20, 3) := by decide +kernel
theorem dX12_turn_15 : decode cX12_turn 15 = .ok (.aload_n 0, 1) := by decide +kernel
theorem dX12_turn_16 : decode cX12_turn 16 = .ok (.getfield 30, 3) := by decide +kernel
theorem dX12_turn_19 : decode cX12_turn 19 = .ok (.aload_n 0, 1) := by decide +kernel
theorem dX12_turn_20 : decode cX12_turn 20 = .ok (.getfield 222, 3) := by decide +kernel
theorem dX12_turn_23 : decode cX12_turn 23 = .ok (.baload, 1) := by decide +kernel
theorem dX12_turn_24 : decode cX12_turn 24 = .ok (.ifCond .eq 7, 3) := by decide +kernel
theorem dX12_turn_27 : decode cX12_turn 27 = .ok (.iconst 1, 1) := by decide +kernel
theorem dX12_turn_28 : decode cX12_turn 28 = .ok (.goto 4, 3) := by decide +kernel
theorem dX12_turn_31 : decode cX12_turn 31 = .ok (.iconst 0, 1) := by decide +kernel
theorem dX12_turn_32 : decode cX12_turn 32 = .ok (.ireturn, 1) := by decide +kernel
theorem dX12_isMove_0 : decode cX12_isMove 0 = .ok (.aload_n 0, 1) := by decide +kernel
theorem dX12_isMove_1 : decode cX12_isMove 1 = .ok (.getfield 222, 3) := by decide +kernel
theorem dX12_isMove_4 : decode cX12_isMove 4 = .ok (.aload_n 0, 1) := by decide +kernel
theorem dX12_isMove_5 : decode cX12_isMove 5 = .ok (.getfield 165, 3) := by decide +kernel
theorem dX12_isMove_8 : decode cX12_isMove 8 = .ok (.if_icmp .ge 26, 3) := by decide +kernel
theorem dX12_isMove_11 : decode cX12_isMove 11 = .ok (.iload_n 1, 1) := by decide +kernel
theorem dX12_isMove_12 : decode cX12_isMove 12 = .ok (.ifCond .lt 22, 3) := by decide +kernel
theorem dX12_isMove_15 : decode cX12_isMove 15 = .ok (.iload_n 1, 1) := by decide +kernel
theorem dX12_isMove_16 : decode cX12_isMove 16 = .ok (.iconst 1, 1) := by decide +kernel
theorem dX12_isMove_17 : decode cX12_isMove 17 = .ok (.aload_n 0, 1) := by decide +kernel
theorem dX12_isMove_18 : decode cX12_isMove 18 = .ok (.getfield 27, 3) := by decide +kernel
theorem dX12_isMove_21 : decode cX12_isMove 21 = .ok (.aload_n 0, 1) := by decide +kernel
theorem dX12_isMove_22 : decode cX12_isMove 22 = .ok (.getfield 222, 3) := by decide +kernel
theorem dX12_isMove_25 : decode cX12_isMove 25 = .ok (.iaload, 1) := by decide +kernel
theorem dX12_isMove_26 : decode cX12_isMove 26 = .ok (.ishl, 1) := by decide +kernel
theorem dX12_isMove_27 : decode cX12_isMove 27 = .ok (.if_icmp .ge 7, 3) := by decide +kernel
theorem dX12_isMove_30 : decode cX12_isMove 30 = .ok (.iconst 1, 1) := by decide +kernel
theorem dX12_isMove_31 : decode cX12_isMove 31 = .ok (.goto 4, 3) := by decide +kernel
theorem dX12_isMove_34 : decode cX12_isMove 34 = .ok (.iconst 0, 1) := by decide +kernel
theorem dX12_isMove_35 : decode cX12_isMove 35 = .ok (.ireturn, 1) := by decide +kernel
theorem dX12_isWon_0 : decode cX12_isWon 0 = .ok (.aload_n 0, 1) := by decide +kernel
theorem dX12_isWon_1 : decode cX12_isWon 1 = .ok (.getfield 76, 3) := by decide +kernel
theorem dX12_isWon_4 : decode cX12_isWon 4 = .ok (.aload_n 0, 1) := by decide +kernel
theorem dX12_isWon_5 : decode cX12_isWon 5 = .ok (.invokevirtual 235, 3) := by decide +kernel
theorem dX12_isWon_8 : decode cX12_isWon 8 = .ok (.aload_n 0, 1) := by decide +kernel
theorem dX12_isWon_9 : decode cX12_isWon 9 = .ok (.getfield 27, 3) := by decide +kernel
theorem dX12_isWon_12 : decode cX12_isWon 12 = .ok (.aload_n 0, 1) := by decide +kernel
theorem dX12_isWon_13 : decode cX12_isWon 13 = .ok (.getfield 222, 3) := by decide +kernel
theorem dX12_isWon_16 : decode cX12_isWon 16 = .ok (.iaload, 1) := by decide +kernel
theorem dX12_isWon_17 : decode cX12_isWon 17 = .ok (.ishl, 1) := by decide +kernel
theorem dX12_isWon_18 : decode cX12_isWon 18 = .ok (.iload_n 1, 1) := by decide +kernel
theorem dX12_isWon_19 : decode cX12_isWon 19 = .ok (.ior, 1) := by decide +kernel
theorem dX12_isWon_20 : decode cX12_isWon 20 = .ok (.baload, 1) := by decide +kernel
theorem dX12_isWon_21 : decode cX12_isWon 21 = .ok (.aload_n 0, 1) := by decide +kernel
theorem dX12_isWon_22 : decode cX12_isWon 22 = .ok (.getfield 30, 3) := by decide +kernel
theorem dX12_isWon_25 : decode cX12_isWon 25 = .ok (.aload_n 0, 1) := by decide +kernel
theorem dX12_isWon_26 : decode cX12_isWon 26 = .ok (.getfield 222, 3) := by decide +kernel
theorem dX12_isWon_29 : decode cX12_isWon 29 = .ok (.baload, 1) := by decide +kernel
theorem dX12_isWon_30 : decode cX12_isWon 30 = .ok (.if_icmp .eq 7, 3) := by decide +kernel
theorem dX12_isWon_33 : decode cX12_isWon 33 = .ok (.iconst 1, 1) := by decide +kernel
theorem dX12_isWon_34 : decode cX12_isWon 34 = .ok (.goto 4, 3) := by decide +kernel
theorem dX12_isWon_37 : decode cX12_isWon 37 = .ok (.iconst 0, 1) := by decide +kernel
theorem dX12_isWon_38 : decode cX12_isWon 38 = .ok (.ireturn, 1) := by decide +kernel
theorem dX12_move_0 : decode cX12_move 0 = .ok (.iconst 0, 1) := by decide +kernel
theorem dX12_move_1 : decode cX12_move 1 = .ok (.istore_n 1, 1) := by decide +kernel
theorem dX12_move_2 : decode cX12_move 2 = .ok (.aload_n 0, 1) := by decide +kernel
theorem dX12_move_3 : decode cX12_move 3 = .ok (.iload_n 1, 1) := by decide +kernel
theorem dX12_move_4 : decode cX12_move 4 = .ok (.invokevirtual 239, 3) := by decide +kernel
theorem dX12_move_7 : decode cX12_move 7 = .ok (.ifCond .eq 19, 3) := by decide +kernel
theorem dX12_move_10 : decode cX12_move 10 = .ok (.aload_n 0, 1) := by decide +kernel
theorem dX12_move_11 : decode cX12_move 11 = .ok (.iload_n 1, 1) := by decide +kernel
theorem dX12_move_12 : decode cX12_move 12 = .ok (.invokevirtual 242, 3) := by decide +kernel
theorem dX12_move_15 : decode cX12_move 15 = .ok (.ifCond .eq 5, 3) := by decide +kernel
theorem dX12_move_18 : decode cX12_move 18 = .ok (.iload_n 1, 1) := by decide +kernel
theorem dX12_move_19 : decode cX12_move 19 = .ok (.ireturn, 1) := by decide +kernel
theorem dX12_move_20 : decode cX12_move 20 = .ok (.iinc 1 1, 3) := by decide +kernel
theorem dX12_move_23 : decode cX12_move 23 = .ok (.goto (-21), 3) := by decide +kernel
theorem dX12_move_26 : decode cX12_move 26 = .ok (.iconst (-1), 1) := by decide +kernel
theorem dX12_move_27 : decode cX12_move 27 = .ok (.ireturn, 1) := by decide +kernel
theorem dX12_wins_0 : decode cX12_wins 0 = .ok (.aload_n 0, 1) := by decide +kernel
theorem dX12_wins_1 : decode cX12_wins 1 = .ok (.iload_n 1, 1) := by decide +kernel
theorem dX12_wins_2 : decode cX12_wins 2 = .ok (.invokevirtual 239, 3) := by decide +kernel
theorem dX12_wins_5 : decode cX12_wins 5 = .ok (.ifCond .ne 5, 3) := by decide +kernel
theorem dX12_wins_8 : decode cX12_wins 8 = .ok (.iconst (-1), 1) := by decide +kernel
theorem dX12_wins_9 : decode cX12_wins 9 = .ok (.ireturn, 1) := by decide +kernel
theorem dX12_wins_10 : decode cX12_wins 10 = .ok (.aload_n 0, 1) := by decide +kernel
theorem dX12_wins_11 : decode cX12_wins 11 = .ok (.iload_n 1, 1) := by decide +kernel
theorem dX12_wins_12 : decode cX12_wins 12 = .ok (.invokevirtual 242, 3) := by decide +kernel
theorem dX12_wins_15 : decode cX12_wins 15 = .ok (.ifCond .eq 7, 3) := by decide +kernel
theorem dX12_wins_18 : decode cX12_wins 18 = .ok (.iconst 1, 1) := by decide +kernel
theorem dX12_wins_19 : decode cX12_wins 19 = .ok (.goto 4, 3) := by decide +kernel
theorem dX12_wins_22 : decode cX12_wins 22 = .ok (.iconst 0, 1) := by decide +kernel
theorem dX12_wins_23 : decode cX12_wins 23 = .ok (.ireturn, 1) := by decide +kernel
theorem dX12_moves_0 : decode cX12_moves 0 = .ok (.aload_n 0, 1) := by decide +kernel
theorem dX12_moves_1 : decode cX12_moves 1 = .ok (.getfield 222, 3) := by decide +kernel
theorem dX12_moves_4 : decode cX12_moves 4 = .ok (.aload_n 0, 1) := by decide +kernel
theorem dX12_moves_5 : decode cX12_moves 5 = .ok (.getfield 165, 3) := by decide +kernel
theorem dX12_moves_8 : decode cX12_moves 8 = .ok (.if_icmp .ne 5, 3) := by decide +kernel
theorem dX12_moves_11 : decode cX12_moves 11 = .ok (.iconst (-1), 1) := by decide +kernel
theorem dX12_moves_12 : decode cX12_moves 12 = .ok (.ireturn, 1) := by decide +kernel
theorem dX12_moves_13 : decode cX12_moves 13 = .ok (.iconst 0, 1) := by decide +kernel
theorem dX12_moves_14 : decode cX12_moves 14 = .ok (.istore_n 1, 1) := by decide +kernel
theorem dX12_moves_15 : decode cX12_moves 15 = .ok (.iconst 0, 1) := by decide +kernel
theorem dX12_moves_16 : decode cX12_moves 16 = .ok (.istore_n 2, 1) := by decide +kernel
theorem dX12_moves_17 : decode cX12_moves 17 = .ok (.aload_n 0, 1) := by decide +kernel
theorem dX12_moves_18 : decode cX12_moves 18 = .ok (.iload_n 2, 1) := by decide +kernel
theorem dX12_moves_19 : decode cX12_moves 19 = .ok (.invokevirtual 239, 3) := by decide +kernel
theorem dX12_moves_22 : decode cX12_moves 22 = .ok (.ifCond .eq 25, 3) := by decide +kernel
theorem dX12_moves_25 : decode cX12_moves 25 = .ok (.iload_n 1, 1) := by decide +kernel
theorem dX12_moves_26 : decode cX12_moves 26 = .ok (.aload_n 0, 1) := by decide +kernel
theorem dX12_moves_27 : decode cX12_moves 27 = .ok (.iload_n 2, 1) := by decide +kernel
theorem dX12_moves_28 : decode cX12_moves 28 = .ok (.invokevirtual 242, 3) := by decide +kernel
theorem dX12_moves_31 : decode cX12_moves 31 = .ok (.ifCond .eq 7, 3) := by decide +kernel
theorem dX12_moves_34 : decode cX12_moves 34 = .ok (.iconst 1, 1) := by decide +kernel
theorem dX12_moves_35 : decode cX12_moves 35 = .ok (.goto 4, 3) := by decide +kernel
theorem dX12_moves_38 : decode cX12_moves 38 = .ok (.iconst 0, 1) := by decide +kernel
theorem dX12_moves_39 : decode cX12_moves 39 = .ok (.iadd, 1) := by decide +kernel
theorem dX12_moves_40 : decode cX12_moves 40 = .ok (.istore_n 1, 1) := by decide +kernel
theorem dX12_moves_41 : decode cX12_moves 41 = .ok (.iinc 2 1, 3) := by decide +kernel
theorem dX12_moves_44 : decode cX12_moves 44 = .ok (.goto (-27), 3) := by decide +kernel
theorem dX12_moves_47 : decode cX12_moves 47 = .ok (.iload_n 1, 1) := by decide +kernel
theorem dX12_moves_48 : decode cX12_moves 48 = .ok (.ireturn, 1) := by decide +kernel
theorem dX12_play_0 : decode cX12_play 0 = .ok (.aload_n 0, 1) := by decide +kernel
theorem dX12_play_1 : decode cX12_play 1 = .ok (.iload_n 1, 1) := by decide +kernel
theorem dX12_play_2 : decode cX12_play 2 = .ok (.invokevirtual 239, 3) := by decide +kernel
theorem dX12_play_5 : decode cX12_play 5 = .ok (.ifCond .ne 5, 3) := by decide +kernel
theorem dX12_play_8 : decode cX12_play 8 = .ok (.iconst 0, 1) := by decide +kernel
theorem dX12_play_9 : decode cX12_play 9 = .ok (.ireturn, 1) := by decide +kernel
theorem dX12_play_10 : decode cX12_play 10 = .ok (.aload_n 0, 1) := by decide +kernel
theorem dX12_play_11 : decode cX12_play 11 = .ok (.getfield 82, 3) := by decide +kernel
theorem dX12_play_14 : decode cX12_play 14 = .ok (.aload_n 0, 1) := by decide +kernel
theorem dX12_play_15 : decode cX12_play 15 = .ok (.getfield 222, 3) := by decide +kernel
theorem dX12_play_18 : decode cX12_play 18 = .ok (.iload_n 1, 1) := by decide +kernel
theorem dX12_play_19 : decode cX12_play 19 = .ok (.iastore, 1) := by decide +kernel
theorem dX12_play_20 : decode cX12_play 20 = .ok (.aload_n 0, 1) := by decide +kernel
theorem dX12_play_21 : decode cX12_play 21 = .ok (.aload_n 0, 1) := by decide +kernel
theorem dX12_play_22 : decode cX12_play 22 = .ok (.getfield 228, 3) := by decide +kernel
theorem dX12_play_25 : decode cX12_play 25 = .ok (.aload_n 0, 1) := by decide +kernel
theorem dX12_play_26 : decode cX12_play 26 = .ok (.getfield 27, 3) := by decide +kernel
theorem dX12_play_29 : decode cX12_play 29 = .ok (.aload_n 0, 1) := by decide +kernel
theorem dX12_play_30 : decode cX12_play 30 = .ok (.getfield 222, 3) := by decide +kernel
theorem dX12_play_33 : decode cX12_play 33 = .ok (.iaload, 1) := by decide +kernel
theorem dX12_play_34 : decode cX12_play 34 = .ok (.ishl, 1) := by decide +kernel
theorem dX12_play_35 : decode cX12_play 35 = .ok (.iload_n 1, 1) := by decide +kernel
theorem dX12_play_36 : decode cX12_play 36 = .ok (.ior, 1) := by decide +kernel
theorem dX12_play_37 : decode cX12_play 37 = .ok (.putfield 228, 3) := by decide +kernel
theorem dX12_play_40 : decode cX12_play 40 = .ok (.aload_n 0, 1) := by decide +kernel
theorem dX12_play_41 : decode cX12_play 41 = .ok (.aload_n 0, 1) := by decide +kernel
theorem dX12_play_42 : decode cX12_play 42 = .ok (.getfield 225, 3) := by decide +kernel
theorem dX12_play_45 : decode cX12_play 45 = .ok (.aload_n 0, 1) := by decide +kernel
theorem dX12_play_46 : decode cX12_play 46 = .ok (.getfield 27, 3) := by decide +kernel
theorem dX12_play_49 : decode cX12_play 49 = .ok (.aload_n 0, 1) := by decide +kernel
theorem dX12_play_50 : decode cX12_play 50 = .ok (.getfield 222, 3) := by decide +kernel
theorem dX12_play_53 : decode cX12_play 53 = .ok (.iaload, 1) := by decide +kernel
theorem dX12_play_54 : decode cX12_play 54 = .ok (.iadd, 1) := by decide +kernel
theorem dX12_play_55 : decode cX12_play 55 = .ok (.putfield 225, 3) := by decide +kernel
theorem dX12_play_58 : decode cX12_play 58 = .ok (.aload_n 0, 1) := by decide +kernel
theorem dX12_play_59 : decode cX12_play 59 = .ok (.aload_n 0, 1) := by decide +kernel
theorem dX12_play_60 : decode cX12_play 60 = .ok (.getfield 222, 3) := by decide +kernel
theorem dX12_play_63 : decode cX12_play 63 = .ok (.iconst 1, 1) := by decide +kernel
theorem dX12_play_64 : decode cX12_play 64 = .ok (.iadd, 1) := by decide +kernel
theorem dX12_play_65 : decode cX12_play 65 = .ok (.putfield 222, 3) := by decide +kernel
theorem dX12_play_68 : decode cX12_play 68 = .ok (.iconst 1, 1) := by decide +kernel
theorem dX12_play_69 : decode cX12_play 69 = .ok (.ireturn, 1) := by decide +kernel
theorem dX12_undo_0 : decode cX12_undo 0 = .ok (.aload_n 0, 1) := by decide +kernel
theorem dX12_undo_1 : decode cX12_undo 1 = .ok (.getfield 222, 3) := by decide +kernel
theorem dX12_undo_4 : decode cX12_undo 4 = .ok (.ifCond .ne 5, 3) := by decide +kernel
theorem dX12_undo_7 : decode cX12_undo 7 = .ok (.iconst (-1), 1) := by decide +kernel
theorem dX12_undo_8 : decode cX12_undo 8 = .ok (.ireturn, 1) := by decide +kernel
theorem dX12_undo_9 : decode cX12_undo 9 = .ok (.aload_n 0, 1) := by decide +kernel
theorem dX12_undo_10 : decode cX12_undo 10 = .ok (.aload_n 0, 1) := by decide +kernel
theorem dX12_undo_11 : decode cX12_undo 11 = .ok (.getfield 222, 3) := by decide +kernel
theorem dX12_undo_14 : decode cX12_undo 14 = .ok (.iconst 1, 1) := by decide +kernel
theorem dX12_undo_15 : decode cX12_undo 15 = .ok (.isub, 1) := by decide +kernel
theorem dX12_undo_16 : decode cX12_undo 16 = .ok (.putfield 222, 3) := by decide +kernel
theorem dX12_undo_19 : decode cX12_undo 19 = .ok (.aload_n 0, 1) := by decide +kernel
theorem dX12_undo_20 : decode cX12_undo 20 = .ok (.aload_n 0, 1) := by decide +kernel
theorem dX12_undo_21 : decode cX12_undo 21 = .ok (.getfield 228, 3) := by decide +kernel
theorem dX12_undo_24 : decode cX12_undo 24 = .ok (.aload_n 0, 1) := by decide +kernel
theorem dX12_undo_25 : decode cX12_undo 25 = .ok (.getfield 27, 3) := by decide +kernel
theorem dX12_undo_28 : decode cX12_undo 28 = .ok (.aload_n 0, 1) := by decide +kernel
theorem dX12_undo_29 : decode cX12_undo 29 = .ok (.getfield 222, 3) := by decide +kernel
theorem dX12_undo_32 : decode cX12_undo 32 = .ok (.iaload, 1) := by decide +kernel
theorem dX12_undo_33 : decode cX12_undo 33 = .ok (.ishr, 1) := by decide +kernel
theorem dX12_undo_34 : decode cX12_undo 34 = .ok (.putfield 228, 3) := by decide +kernel
theorem dX12_undo_37 : decode cX12_undo 37 = .ok (.aload_n 0, 1) := by decide +kernel
theorem dX12_undo_38 : decode cX12_undo 38 = .ok (.aload_n 0, 1) := by decide +kernel
theorem dX12_undo_39 : decode cX12_undo 39 = .ok (.getfield 225, 3) := by decide +kernel
theorem dX12_undo_42 : decode cX12_undo 42 = .ok (.aload_n 0, 1) := by decide +kernel
theorem dX12_undo_43 : decode cX12_undo 43 = .ok (.getfield 27, 3) := by decide +kernel
theorem dX12_undo_46 : decode cX12_undo 46 = .ok (.aload_n 0, 1) := by decide +kernel
theorem dX12_undo_47 : decode cX12_undo 47 = .ok (.getfield 222, 3) := by decide +kernel
theorem dX12_undo_50 : decode cX12_undo 50 = .ok (.iaload, 1) := by decide +kernel
theorem dX12_undo_51 : decode cX12_undo 51 = .ok (.isub, 1) := by decide +kernel
theorem dX12_undo_52 : decode cX12_undo 52 = .ok (.putfield 225, 3) := by decide +kernel
theorem dX12_undo_55 : decode cX12_undo 55 = .ok (.aload_n 0, 1) := by decide +kernel
theorem dX12_undo_56 : decode cX12_undo 56 = .ok (.getfield 82, 3) := by decide +kernel
theorem dX12_undo_59 : decode cX12_undo 59 = .ok (.aload_n 0, 1) := by decide +kernel
theorem dX12_undo_60 : decode cX12_undo 60 = .ok (.getfield 222, 3) := by decide +kernel
theorem dX12_undo_63 : decode cX12_undo 63 = .ok (.iaload, 1) := by decide +kernel
theorem dX12_undo_64 : decode cX12_undo 64 = .ok (.ireturn, 1) := by decide +kernel
theorem dX12_fixed_0 : decode cX12_fixed 0 = .ok (.iload_n 1, 1) := by decide +kernel
theorem dX12_fixed_1 : decode cX12_fixed 1 = .ok (.ifCond .lt 20, 3) := by decide +kernel
theorem dX12_fixed_4 : decode cX12_fixed 4 = .ok (.iload_n 1, 1) := by decide +kernel
theorem dX12_fixed_5 : decode cX12_fixed 5 = .ok (.aload_n 0, 1) := by decide +kernel
theorem dX12_fixed_6 : decode cX12_fixed 6 = .ok (.getfield 159, 3) := by decide +kernel
theorem dX12_fixed_9 : decode cX12_fixed 9 = .ok (.if_icmp .ge 12, 3) := by decide +kernel
theorem dX12_fixed_12 : decode cX12_fixed 12 = .ok (.iload_n 2, 1) := by decide +kernel
theorem dX12_fixed_13 : decode cX12_fixed 13 = .ok (.ifCond .lt 8, 3) := by decide +kernel
theorem dX12_fixed_16 : decode cX12_fixed 16 = .ok (.iload_n 2, 1) := by decide +kernel
theorem dX12_fixed_17 : decode cX12_fixed 17 = .ok (.iconst 1, 1) := by decide +kernel
theorem dX12_fixed_18 : decode cX12_fixed 18 = .ok (.if_icmp .le 5, 3) := by decide +kernel
theorem dX12_fixed_21 : decode cX12_fixed 21 = .ok (.iconst (-1), 1) := by decide +kernel
theorem dX12_fixed_22 : decode cX12_fixed 22 = .ok (.ireturn, 1) := by decide +kernel
theorem dX12_fixed_23 : decode cX12_fixed 23 = .ok (.iload_n 1, 1) := by decide +kernel
theorem dX12_fixed_24 : decode cX12_fixed 24 = .ok (.aload_n 0, 1) := by decide +kernel
theorem dX12_fixed_25 : decode cX12_fixed 25 = .ok (.getfield 225, 3) := by decide +kernel
theorem dX12_fixed_28 : decode cX12_fixed 28 = .ok (.if_icmp .ge 61, 3) := by decide +kernel
theorem dX12_fixed_31 : decode cX12_fixed 31 = .ok (.iconst 1, 1) := by decide +kernel
theorem dX12_fixed_32 : decode cX12_fixed 32 = .ok (.aload_n 0, 1) := by decide +kernel
theorem dX12_fixed_33 : decode cX12_fixed 33 = .ok (.getfield 225, 3) := by decide +kernel
theorem dX12_fixed_36 : decode cX12_fixed 36 = .ok (.iconst 1, 1) := by decide +kernel
theorem dX12_fixed_37 : decode cX12_fixed 37 = .ok (.isub, 1) := by decide +kernel
theorem dX12_fixed_38 : decode cX12_fixed 38 = .ok (.iload_n 1, 1) := by decide +kernel
theorem dX12_fixed_39 : decode cX12_fixed 39 = .ok (.isub, 1) := by decide +kernel
theorem dX12_fixed_40 : decode cX12_fixed 40 = .ok (.ishl, 1) := by decide +kernel
theorem dX12_fixed_41 : decode cX12_fixed 41 = .ok (.istore_n 3, 1) := by decide +kernel
theorem dX12_fixed_42 : decode cX12_fixed 42 = .ok (.iload_n 2, 1) := by decide +kernel
theorem dX12_fixed_43 : decode cX12_fixed 43 = .ok (.iconst 1, 1) := by decide +kernel
theorem dX12_fixed_44 : decode cX12_fixed 44 = .ok (.if_icmp .ne 12, 3) := by decide +kernel
theorem dX12_fixed_47 : decode cX12_fixed 47 = .ok (.aload_n 0, 1) := by decide +kernel
theorem dX12_fixed_48 : decode cX12_fixed 48 = .ok (.getfield 228, 3) := by decide +kernel
theorem dX12_fixed_51 : decode cX12_fixed 51 = .ok (.iload_n 3, 1) := by decide +kernel
theorem dX12_fixed_52 : decode cX12_fixed 52 = .ok (.ior, 1) := by decide +kernel
theorem dX12_fixed_53 : decode cX12_fixed 53 = .ok (.goto 11, 3) := by decide +kernel
theorem dX12_fixed_56 : decode cX12_fixed 56 = .ok (.aload_n 0, 1) := by decide +kernel
theorem dX12_fixed_57 : decode cX12_fixed 57 = .ok (.getfield 228, 3) := by decide +kernel
theorem dX12_fixed_60 : decode cX12_fixed 60 = .ok (.iload_n 3, 1) := by decide +kernel
theorem dX12_fixed_61 : decode cX12_fixed 61 = .ok (.iconst (-1), 1) := by decide +kernel
theorem dX12_fixed_62 : decode cX12_fixed 62 = .ok (.ixor, 1) := by decide +kernel
theorem dX12_fixed_63 : decode cX12_fixed 63 = .ok (.iand, 1) := by decide +kernel
theorem dX12_fixed_64 : decode cX12_fixed 64 = .ok (.istore 4, 2) := by decide +kernel
theorem dX12_fixed_66 : decode cX12_fixed 66 = .ok (.aload_n 0, 1) := by decide +kernel
theorem dX12_fixed_67 : decode cX12_fixed 67 = .ok (.getfield 76, 3) := by decide +kernel
theorem dX12_fixed_70 : decode cX12_fixed 70 = .ok (.iconst 1, 1) := by decide +kernel
theorem dX12_fixed_71 : decode cX12_fixed 71 = .ok (.aload_n 0, 1) := by decide +kernel
theorem dX12_fixed_72 : decode cX12_fixed 72 = .ok (.getfield 225, 3) := by decide +kernel
theorem dX12_fixed_75 : decode cX12_fixed 75 = .ok (.ishl, 1) := by decide +kernel
theorem dX12_fixed_76 : decode cX12_fixed 76 = .ok (.iload 4, 2) := by decide +kernel
theorem dX12_fixed_78 : decode cX12_fixed 78 = .ok (.ior, 1) := by decide +kernel
theorem dX12_fixed_79 : decode cX12_fixed 79 = .ok (.baload, 1) := by decide +kernel
theorem dX12_fixed_80 : decode cX12_fixed 80 = .ok (.ifCond .eq 7, 3) := by decide +kernel
theorem dX12_fixed_83 : decode cX12_fixed 83 = .ok (.iconst 1, 1) := by decide +kernel
theorem dX12_fixed_84 : decode cX12_fixed 84 = .ok (.goto 4, 3) := by decide +kernel
theorem dX12_fixed_87 : decode cX12_fixed 87 = .ok (.iconst 0, 1) := by decide +kernel
theorem dX12_fixed_88 : decode cX12_fixed 88 = .ok (.ireturn, 1) := by decide +kernel
theorem dX12_fixed_89 : decode cX12_fixed 89 = .ok (.aload_n 0, 1) := by decide +kernel
theorem dX12_fixed_90 : decode cX12_fixed 90 = .ok (.iload_n 1, 1) := by decide +kernel
theorem dX12_fixed_91 : decode cX12_fixed 91 = .ok (.iload_n 2, 1) := by decide +kernel
theorem dX12_fixed_92 : decode cX12_fixed 92 = .ok (.iconst (-1), 1) := by decide +kernel
theorem dX12_fixed_93 : decode cX12_fixed 93 = .ok (.invokevirtual 100, 3) := by decide +kernel
theorem dX12_fixed_96 : decode cX12_fixed 96 = .ok (.aload_n 0, 1) := by decide +kernel
theorem dX12_fixed_97 : decode cX12_fixed 97 = .ok (.getfield 73, 3) := by decide +kernel
theorem dX12_fixed_100 : decode cX12_fixed 100 = .ok (.aload_n 0, 1) := by decide +kernel
theorem dX12_fixed_101 : decode cX12_fixed 101 = .ok (.invokevirtual 235, 3) := by decide +kernel
theorem dX12_fixed_104 : decode cX12_fixed 104 = .ok (.baload, 1) := by decide +kernel
theorem dX12_fixed_105 : decode cX12_fixed 105 = .ok (.ifCond .eq 7, 3) := by decide +kernel
theorem dX12_fixed_108 : decode cX12_fixed 108 = .ok (.iconst 1, 1) := by decide +kernel
theorem dX12_fixed_109 : decode cX12_fixed 109 = .ok (.goto 4, 3) := by decide +kernel
theorem dX12_fixed_112 : decode cX12_fixed 112 = .ok (.iconst 0, 1) := by decide +kernel
theorem dX12_fixed_113 : decode cX12_fixed 113 = .ok (.ireturn, 1) := by decide +kernel
theorem dX12_turned_0 : decode cX12_turned 0 = .ok (.iload_n 1, 1) := by decide +kernel
theorem dX12_turned_1 : decode cX12_turned 1 = .ok (.aload_n 0, 1) := by decide +kernel
theorem dX12_turned_2 : decode cX12_turned 2 = .ok (.getfield 222, 3) := by decide +kernel
theorem dX12_turned_5 : decode cX12_turned 5 = .ok (.if_icmp .lt 11, 3) := by decide +kernel
theorem dX12_turned_8 : decode cX12_turned 8 = .ok (.iload_n 1, 1) := by decide +kernel
theorem dX12_turned_9 : decode cX12_turned 9 = .ok (.aload_n 0, 1) := by decide +kernel
theorem dX12_turned_10 : decode cX12_turned 10 = .ok (.getfield 165, 3) := by decide +kernel
theorem dX12_turned_13 : decode cX12_turned 13 = .ok (.if_icmp .lt 5, 3) := by decide +kernel
theorem dX12_turned_16 : decode cX12_turned 16 = .ok (.iconst (-1), 1) := by decide +kernel
theorem dX12_turned_17 : decode cX12_turned 17 = .ok (.ireturn, 1) := by decide +kernel
theorem dX12_turned_18 : decode cX12_turned 18 = .ok (.aload_n 0, 1) := by decide +kernel
theorem dX12_turned_19 : decode cX12_turned 19 = .ok (.iconst (-1), 1) := by decide +kernel
theorem dX12_turned_20 : decode cX12_turned 20 = .ok (.iconst 0, 1) := by decide +kernel
theorem dX12_turned_21 : decode cX12_turned 21 = .ok (.iload_n 1, 1) := by decide +kernel
theorem dX12_turned_22 : decode cX12_turned 22 = .ok (.invokevirtual 100, 3) := by decide +kernel
theorem dX12_turned_25 : decode cX12_turned 25 = .ok (.aload_n 0, 1) := by decide +kernel
theorem dX12_turned_26 : decode cX12_turned 26 = .ok (.getfield 73, 3) := by decide +kernel
theorem dX12_turned_29 : decode cX12_turned 29 = .ok (.aload_n 0, 1) := by decide +kernel
theorem dX12_turned_30 : decode cX12_turned 30 = .ok (.invokevirtual 235, 3) := by decide +kernel
theorem dX12_turned_33 : decode cX12_turned 33 = .ok (.baload, 1) := by decide +kernel
theorem dX12_turned_34 : decode cX12_turned 34 = .ok (.ifCond .eq 7, 3) := by decide +kernel
theorem dX12_turned_37 : decode cX12_turned 37 = .ok (.iconst 1, 1) := by decide +kernel
theorem dX12_turned_38 : decode cX12_turned 38 = .ok (.goto 4, 3) := by decide +kernel
theorem dX12_turned_41 : decode cX12_turned 41 = .ok (.iconst 0, 1) := by decide +kernel
theorem dX12_turned_42 : decode cX12_turned 42 = .ok (.ireturn, 1) := by decide +kernel
theorem dX12_models_0 : decode cX12_models 0 = .ok (.iconst 0, 1) := by decide +kernel
theorem dX12_models_1 : decode cX12_models 1 = .ok (.istore_n 1, 1) := by decide +kernel
theorem dX12_models_2 : decode cX12_models 2 = .ok (.iconst 1, 1) := by decide +kernel
theorem dX12_models_3 : decode cX12_models 3 = .ok (.aload_n 0, 1) := by decide +kernel
theorem dX12_models_4 : decode cX12_models 4 = .ok (.getfield 159, 3) := by decide +kernel
theorem dX12_models_7 : decode cX12_models 7 = .ok (.aload_n 0, 1) := by decide +kernel
theorem dX12_models_8 : decode cX12_models 8 = .ok (.getfield 225, 3) := by decide +kernel
theorem dX12_models_11 : decode cX12_models 11 = .ok (.isub, 1) := by decide +kernel
theorem dX12_models_12 : decode cX12_models 12 = .ok (.ishl, 1) := by decide +kernel
theorem dX12_models_13 : decode cX12_models 13 = .ok (.istore_n 2, 1) := by decide +kernel
theorem dX12_models_14 : decode cX12_models 14 = .ok (.iconst 0, 1) := by decide +kernel
theorem dX12_models_15 : decode cX12_models 15 = .ok (.istore_n 3, 1) := by decide +kernel
theorem dX12_models_16 : decode cX12_models 16 = .ok (.iload_n 3, 1) := by decide +kernel
theorem dX12_models_17 : decode cX12_models 17 = .ok (.iload_n 2, 1) := by decide +kernel
theorem dX12_models_18 : decode cX12_models 18 = .ok (.if_icmp .ge 33, 3) := by decide +kernel
theorem dX12_models_21 : decode cX12_models 21 = .ok (.iload_n 1, 1) := by decide +kernel
theorem dX12_models_22 : decode cX12_models 22 = .ok (.aload_n 0, 1) := by decide +kernel
theorem dX12_models_23 : decode cX12_models 23 = .ok (.getfield 70, 3) := by decide +kernel
theorem dX12_models_26 : decode cX12_models 26 = .ok (.aload_n 0, 1) := by decide +kernel
theorem dX12_models_27 : decode cX12_models 27 = .ok (.getfield 228, 3) := by decide +kernel
theorem dX12_models_30 : decode cX12_models 30 = .ok (.iload_n 2, 1) := by decide +kernel
theorem dX12_models_31 : decode cX12_models 31 = .ok (.imul, 1) := by decide +kernel
theorem dX12_models_32 : decode cX12_models 32 = .ok (.iload_n 3, 1) := by decide +kernel
theorem dX12_models_33 : decode cX12_models 33 = .ok (.iadd, 1) := by decide +kernel
theorem dX12_models_34 : decode cX12_models 34 = .ok (.baload, 1) := by decide +kernel
theorem dX12_models_35 : decode cX12_models 35 = .ok (.ifCond .eq 7, 3) := by decide +kernel
theorem dX12_models_38 : decode cX12_models 38 = .ok (.iconst 1, 1) := by decide +kernel
theorem dX12_models_39 : decode cX12_models 39 = .ok (.goto 4, 3) := by decide +kernel
theorem dX12_models_42 : decode cX12_models 42 = .ok (.iconst 0, 1) := by decide +kernel
theorem dX12_models_43 : decode cX12_models 43 = .ok (.iadd, 1) := by decide +kernel
theorem dX12_models_44 : decode cX12_models 44 = .ok (.istore_n 1, 1) := by decide +kernel
theorem dX12_models_45 : decode cX12_models 45 = .ok (.iinc 3 1, 3) := by decide +kernel
theorem dX12_models_48 : decode cX12_models 48 = .ok (.goto (-32), 3) := by decide +kernel
theorem dX12_models_51 : decode cX12_models 51 = .ok (.iload_n 1, 1) := by decide +kernel
theorem dX12_models_52 : decode cX12_models 52 = .ok (.ireturn, 1) := by decide +kernel
theorem dX12_says_0 : decode cX12_says 0 = .ok (.aload_n 0, 1) := by decide +kernel
theorem dX12_says_1 : decode cX12_says 1 = .ok (.getfield 85, 3) := by decide +kernel
theorem dX12_says_4 : decode cX12_says 4 = .ok (.aload_n 0, 1) := by decide +kernel
theorem dX12_says_5 : decode cX12_says 5 = .ok (.getfield 245, 3) := by decide +kernel
theorem dX12_says_8 : decode cX12_says 8 = .ok (.iload_n 1, 1) := by decide +kernel
theorem dX12_says_9 : decode cX12_says 9 = .ok (.i2b, 1) := by decide +kernel
theorem dX12_says_10 : decode cX12_says 10 = .ok (.bastore, 1) := by decide +kernel
theorem dX12_says_11 : decode cX12_says 11 = .ok (.aload_n 0, 1) := by decide +kernel
theorem dX12_says_12 : decode cX12_says 12 = .ok (.aload_n 0, 1) := by decide +kernel
theorem dX12_says_13 : decode cX12_says 13 = .ok (.getfield 245, 3) := by decide +kernel
theorem dX12_says_16 : decode cX12_says 16 = .ok (.iconst 1, 1) := by decide +kernel
theorem dX12_says_17 : decode cX12_says 17 = .ok (.iadd, 1) := by decide +kernel
theorem dX12_says_18 : decode cX12_says 18 = .ok (.putfield 245, 3) := by decide +kernel
theorem dX12_says_21 : decode cX12_says 21 = .ok (.return_, 1) := by decide +kernel
theorem dX12_puts_0 : decode cX12_puts 0 = .ok (.aload_n 0, 1) := by decide +kernel
theorem dX12_puts_1 : decode cX12_puts 1 = .ok (.getfield 88, 3) := by decide +kernel
theorem dX12_puts_4 : decode cX12_puts 4 = .ok (.aload_n 0, 1) := by decide +kernel
theorem dX12_puts_5 : decode cX12_puts 5 = .ok (.getfield 248, 3) := by decide +kernel
theorem dX12_puts_8 : decode cX12_puts 8 = .ok (.iload_n 1, 1) := by decide +kernel
theorem dX12_puts_9 : decode cX12_puts 9 = .ok (.iastore, 1) := by decide +kernel
theorem dX12_puts_10 : decode cX12_puts 10 = .ok (.aload_n 0, 1) := by decide +kernel
theorem dX12_puts_11 : decode cX12_puts 11 = .ok (.aload_n 0, 1) := by decide +kernel
theorem dX12_puts_12 : decode cX12_puts 12 = .ok (.getfield 248, 3) := by decide +kernel
theorem dX12_puts_15 : decode cX12_puts 15 = .ok (.iconst 1, 1) := by decide +kernel
theorem dX12_puts_16 : decode cX12_puts 16 = .ok (.iadd, 1) := by decide +kernel
theorem dX12_puts_17 : decode cX12_puts 17 = .ok (.putfield 248, 3) := by decide +kernel
theorem dX12_puts_20 : decode cX12_puts 20 = .ok (.return_, 1) := by decide +kernel
theorem dX12_side_0 : decode cX12_side 0 = .ok (.iload_n 2, 1) := by decide +kernel
theorem dX12_side_1 : decode cX12_side 1 = .ok (.ifCond .eq 10, 3) := by decide +kernel
theorem dX12_side_4 : decode cX12_side 4 = .ok (.aload_n 0, 1) := by decide +kernel
theorem dX12_side_5 : decode cX12_side 5 = .ok (.sipush (-959), 3) := by decide +kernel
theorem dX12_side_8 : decode cX12_side 8 = .ok (.invokevirtual 251, 3) := by decide +kernel
theorem dX12_side_11 : decode cX12_side 11 = .ok (.aload_n 0, 1) := by decide +kernel
theorem dX12_side_12 : decode cX12_side 12 = .ok (.iload_n 1, 1) := by decide +kernel
theorem dX12_side_13 : decode cX12_side 13 = .ok (.invokevirtual 251, 3) := by decide +kernel
theorem dX12_side_16 : decode cX12_side 16 = .ok (.iload_n 2, 1) := by decide +kernel
theorem dX12_side_17 : decode cX12_side 17 = .ok (.ifCond .eq 10, 3) := by decide +kernel
theorem dX12_side_20 : decode cX12_side 20 = .ok (.aload_n 0, 1) := by decide +kernel
theorem dX12_side_21 : decode cX12_side 21 = .ok (.sipush (-960), 3) := by decide +kernel
theorem dX12_side_24 : decode cX12_side 24 = .ok (.invokevirtual 251, 3) := by decide +kernel
theorem dX12_side_27 : decode cX12_side 27 = .ok (.return_, 1) := by decide +kernel
theorem dX12_write_0 : decode cX12_write 0 = .ok (.aload_n 0, 1) := by decide +kernel
theorem dX12_write_1 : decode cX12_write 1 = .ok (.iconst 0, 1) := by decide +kernel
theorem dX12_write_2 : decode cX12_write 2 = .ok (.putfield 245, 3) := by decide +kernel
theorem dX12_write_5 : decode cX12_write 5 = .ok (.aload_n 0, 1) := by decide +kernel
theorem dX12_write_6 : decode cX12_write 6 = .ok (.iconst 0, 1) := by decide +kernel
theorem dX12_write_7 : decode cX12_write 7 = .ok (.putfield 248, 3) := by decide +kernel
theorem dX12_write_10 : decode cX12_write 10 = .ok (.aload_n 0, 1) := by decide +kernel
theorem dX12_write_11 : decode cX12_write 11 = .ok (.aload_n 0, 1) := by decide +kernel
theorem dX12_write_12 : decode cX12_write 12 = .ok (.getfield 94, 3) := by decide +kernel
theorem dX12_write_15 : decode cX12_write 15 = .ok (.invokevirtual 251, 3) := by decide +kernel
theorem dX12_write_18 : decode cX12_write 18 = .ok (.aload_n 0, 1) := by decide +kernel
theorem dX12_write_19 : decode cX12_write 19 = .ok (.getfield 248, 3) := by decide +kernel
theorem dX12_write_22 : decode cX12_write 22 = .ok (.ifCond .le 47, 3) := by decide +kernel
theorem dX12_write_25 : decode cX12_write 25 = .ok (.aload_n 0, 1) := by decide +kernel
theorem dX12_write_26 : decode cX12_write 26 = .ok (.aload_n 0, 1) := by decide +kernel
theorem dX12_write_27 : decode cX12_write 27 = .ok (.getfield 248, 3) := by decide +kernel
theorem dX12_write_30 : decode cX12_write 30 = .ok (.iconst 1, 1) := by decide +kernel
theorem dX12_write_31 : decode cX12_write 31 = .ok (.isub, 1) := by decide +kernel
theorem dX12_write_32 : decode cX12_write 32 = .ok (.putfield 248, 3) := by decide +kernel
theorem dX12_write_35 : decode cX12_write 35 = .ok (.aload_n 0, 1) := by decide +kernel
theorem dX12_write_36 : decode cX12_write 36 = .ok (.getfield 88, 3) := by decide +kernel
theorem dX12_write_39 : decode cX12_write 39 = .ok (.aload_n 0, 1) := by decide +kernel
theorem dX12_write_40 : decode cX12_write 40 = .ok (.getfield 248, 3) := by decide +kernel
theorem dX12_write_43 : decode cX12_write 43 = .ok (.iaload, 1) := by decide +kernel
theorem dX12_write_44 : decode cX12_write 44 = .ok (.istore_n 1, 1) := by decide +kernel
theorem dX12_write_45 : decode cX12_write 45 = .ok (.iload_n 1, 1) := by decide +kernel
theorem dX12_write_46 : decode cX12_write 46 = .ok (.ifCond .ge 15, 3) := by decide +kernel
theorem dX12_write_49 : decode cX12_write 49 = .ok (.aload_n 0, 1) := by decide +kernel
theorem dX12_write_50 : decode cX12_write 50 = .ok (.iload_n 1, 1) := by decide +kernel
theorem dX12_write_51 : decode cX12_write 51 = .ok (.sipush 1000, 3) := by decide +kernel
theorem dX12_write_54 : decode cX12_write 54 = .ok (.iadd, 1) := by decide +kernel
theorem dX12_write_55 : decode cX12_write 55 = .ok (.invokevirtual 254, 3) := by decide +kernel
theorem dX12_write_58 : decode cX12_write 58 = .ok (.goto 8, 3) := by decide +kernel
theorem dX12_write_61 : decode cX12_write 61 = .ok (.aload_n 0, 1) := by decide +kernel
theorem dX12_write_62 : decode cX12_write 62 = .ok (.iload_n 1, 1) := by decide +kernel
theorem dX12_write_63 : decode cX12_write 63 = .ok (.invokevirtual 257, 3) := by decide +kernel
theorem dX12_write_66 : decode cX12_write 66 = .ok (.goto (-48), 3) := by decide +kernel
theorem dX12_write_69 : decode cX12_write 69 = .ok (.aload_n 0, 1) := by decide +kernel
theorem dX12_write_70 : decode cX12_write 70 = .ok (.getfield 245, 3) := by decide +kernel
theorem dX12_write_73 : decode cX12_write 73 = .ok (.ireturn, 1) := by decide +kernel
theorem dX12_one_0 : decode cX12_one 0 = .ok (.aload_n 0, 1) := by decide +kernel
theorem dX12_one_1 : decode cX12_one 1 = .ok (.getfield 34, 3) := by decide +kernel
theorem dX12_one_4 : decode cX12_one 4 = .ok (.iload_n 1, 1) := by decide +kernel
theorem dX12_one_5 : decode cX12_one 5 = .ok (.iaload, 1) := by decide +kernel
theorem dX12_one_6 : decode cX12_one 6 = .ok (.istore_n 2, 1) := by decide +kernel
theorem dX12_one_7 : decode cX12_one 7 = .ok (.iload_n 2, 1) := by decide +kernel
theorem dX12_one_8 : decode cX12_one 8 = .ok (.bipush 48, 2) := by decide +kernel
theorem dX12_one_10 : decode cX12_one 10 = .ok (.if_icmp .eq 9, 3) := by decide +kernel
theorem dX12_one_13 : decode cX12_one 13 = .ok (.iload_n 2, 1) := by decide +kernel
theorem dX12_one_14 : decode cX12_one 14 = .ok (.bipush 49, 2) := by decide +kernel
theorem dX12_one_16 : decode cX12_one 16 = .ok (.if_icmp .ne 11, 3) := by decide +kernel
theorem dX12_one_19 : decode cX12_one 19 = .ok (.aload_n 0, 1) := by decide +kernel
theorem dX12_one_20 : decode cX12_one 20 = .ok (.iload_n 2, 1) := by decide +kernel
theorem dX12_one_21 : decode cX12_one 21 = .ok (.invokevirtual 254, 3) := by decide +kernel
theorem dX12_one_24 : decode cX12_one 24 = .ok (.goto 215, 3) := by decide +kernel
theorem dX12_one_27 : decode cX12_one 27 = .ok (.iload_n 2, 1) := by decide +kernel
theorem dX12_one_28 : decode cX12_one 28 = .ok (.bipush 110, 2) := by decide +kernel
theorem dX12_one_30 : decode cX12_one 30 = .ok (.if_icmp .ne 47, 3) := by decide +kernel
theorem dX12_one_33 : decode cX12_one 33 = .ok (.aload_n 0, 1) := by decide +kernel
theorem dX12_one_34 : decode cX12_one 34 = .ok (.getfield 20, 3) := by decide +kernel
theorem dX12_one_37 : decode cX12_one 37 = .ok (.aload_n 0, 1) := by decide +kernel
theorem dX12_one_38 : decode cX12_one 38 = .ok (.getfield 37, 3) := by decide +kernel
theorem dX12_one_41 : decode cX12_one 41 = .ok (.iload_n 1, 1) := by decide +kernel
theorem dX12_one_42 : decode cX12_one 42 = .ok (.iaload, 1) := by decide +kernel
theorem dX12_one_43 : decode cX12_one 43 = .ok (.iaload, 1) := by decide +kernel
theorem dX12_one_44 : decode cX12_one 44 = .ok (.istore_n 3, 1) := by decide +kernel
theorem dX12_one_45 : decode cX12_one 45 = .ok (.aload_n 0, 1) := by decide +kernel
theorem dX12_one_46 : decode cX12_one 46 = .ok (.iload_n 3, 1) := by decide +kernel
theorem dX12_one_47 : decode cX12_one 47 = .ok (.sipush 255, 3) := by decide +kernel
theorem dX12_one_50 : decode cX12_one 50 = .ok (.iand, 1) := by decide +kernel
theorem dX12_one_51 : decode cX12_one 51 = .ok (.invokevirtual 254, 3) := by decide +kernel
theorem dX12_one_54 : decode cX12_one 54 = .ok (.iload_n 3, 1) := by decide +kernel
theorem dX12_one_55 : decode cX12_one 55 = .ok (.sipush 255, 3) := by decide +kernel
theorem dX12_one_58 : decode cX12_one 58 = .ok (.if_icmp .le 16, 3) := by decide +kernel
theorem dX12_one_61 : decode cX12_one 61 = .ok (.aload_n 0, 1) := by decide +kernel
theorem dX12_one_62 : decode cX12_one 62 = .ok (.bipush 48, 2) := by decide +kernel
theorem dX12_one_64 : decode cX12_one 64 = .ok (.iload_n 3, 1) := by decide +kernel
theorem dX12_one_65 : decode cX12_one 65 = .ok (.bipush 8, 2) := by decide +kernel
theorem dX12_one_67 : decode cX12_one 67 = .ok (.ishr, 1) := by decide +kernel
theorem dX12_one_68 : decode cX12_one 68 = .ok (.iadd, 1) := by decide +kernel
theorem dX12_one_69 : decode cX12_one 69 = .ok (.iconst 1, 1) := by decide +kernel
theorem dX12_one_70 : decode cX12_one 70 = .ok (.isub, 1) := by decide +kernel
theorem dX12_one_71 : decode cX12_one 71 = .ok (.invokevirtual 254, 3) := by decide +kernel
theorem dX12_one_74 : decode cX12_one 74 = .ok (.goto 165, 3) := by decide +kernel
theorem dX12_one_77 : decode cX12_one 77 = .ok (.iload_n 2, 1) := by decide +kernel
theorem dX12_one_78 : decode cX12_one 78 = .ok (.bipush 33, 2) := by decide +kernel
theorem dX12_one_80 : decode cX12_one 80 = .ok (.if_icmp .ne 47, 3) := by decide +kernel
theorem dX12_one_83 : decode cX12_one 83 = .ok (.aload_n 0, 1) := by decide +kernel
theorem dX12_one_84 : decode cX12_one 84 = .ok (.aload_n 0, 1) := by decide +kernel
theorem dX12_one_85 : decode cX12_one 85 = .ok (.getfield 37, 3) := by decide +kernel
theorem dX12_one_88 : decode cX12_one 88 = .ok (.iload_n 1, 1) := by decide +kernel
theorem dX12_one_89 : decode cX12_one 89 = .ok (.iaload, 1) := by decide +kernel
theorem dX12_one_90 : decode cX12_one 90 = .ok (.aload_n 0, 1) := by decide +kernel
theorem dX12_one_91 : decode cX12_one 91 = .ok (.getfield 34, 3) := by decide +kernel
theorem dX12_one_94 : decode cX12_one 94 = .ok (.aload_n 0, 1) := by decide +kernel
theorem dX12_one_95 : decode cX12_one 95 = .ok (.getfield 37, 3) := by decide +kernel
theorem dX12_one_98 : decode cX12_one 98 = .ok (.iload_n 1, 1) := by decide +kernel
theorem dX12_one_99 : decode cX12_one 99 = .ok (.iaload, 1) := by decide +kernel
theorem dX12_one_100 : decode cX12_one 100 = .ok (.iaload, 1) := by decide +kernel
theorem dX12_one_101 : decode cX12_one 101 = .ok (.invokestatic 200, 3) := by decide +kernel
theorem dX12_one_104 : decode cX12_one 104 = .ok (.bipush 6, 2) := by decide +kernel
theorem dX12_one_106 : decode cX12_one 106 = .ok (.if_icmp .ge 7, 3) := by decide +kernel
theorem dX12_one_109 : decode cX12_one 109 = .ok (.iconst 1, 1) := by decide +kernel
theorem dX12_one_110 : decode cX12_one 110 = .ok (.goto 4, 3) := by decide +kernel
theorem dX12_one_113 : decode cX12_one 113 = .ok (.iconst 0, 1) := by decide +kernel
theorem dX12_one_114 : decode cX12_one 114 = .ok (.invokevirtual 260, 3) := by decide +kernel
theorem dX12_one_117 : decode cX12_one 117 = .ok (.aload_n 0, 1) := by decide +kernel
theorem dX12_one_118 : decode cX12_one 118 = .ok (.sipush (-967), 3) := by decide +kernel
theorem dX12_one_121 : decode cX12_one 121 = .ok (.invokevirtual 251, 3) := by decide +kernel
theorem dX12_one_124 : decode cX12_one 124 = .ok (.goto 115, 3) := by decide +kernel
theorem dX12_one_127 : decode cX12_one 127 = .ok (.iload_n 2, 1) := by decide +kernel
theorem dX12_one_128 : decode cX12_one 128 = .ok (.invokestatic 200, 3) := by decide +kernel
theorem dX12_one_131 : decode cX12_one 131 = .ok (.istore_n 3, 1) := by decide +kernel
theorem dX12_one_132 : decode cX12_one 132 = .ok (.aload_n 0, 1) := by decide +kernel
theorem dX12_one_133 : decode cX12_one 133 = .ok (.getfield 34, 3) := by decide +kernel
theorem dX12_one_136 : decode cX12_one 136 = .ok (.aload_n 0, 1) := by decide +kernel
theorem dX12_one_137 : decode cX12_one 137 = .ok (.getfield 37, 3) := by decide +kernel
theorem dX12_one_140 : decode cX12_one 140 = .ok (.iload_n 1, 1) := by decide +kernel
theorem dX12_one_141 : decode cX12_one 141 = .ok (.iaload, 1) := by decide +kernel
theorem dX12_one_142 : decode cX12_one 142 = .ok (.iaload, 1) := by decide +kernel
theorem dX12_one_143 : decode cX12_one 143 = .ok (.invokestatic 200, 3) := by decide +kernel
theorem dX12_one_146 : decode cX12_one 146 = .ok (.istore 4, 2) := by decide +kernel
theorem dX12_one_148 : decode cX12_one 148 = .ok (.aload_n 0, 1) := by decide +kernel
theorem dX12_one_149 : decode cX12_one 149 = .ok (.getfield 34, 3) := by decide +kernel
theorem dX12_one_152 : decode cX12_one 152 = .ok (.aload_n 0, 1) := by decide +kernel
theorem dX12_one_153 : decode cX12_one 153 = .ok (.getfield 40, 3) := by decide +kernel
theorem dX12_one_156 : decode cX12_one 156 = .ok (.iload_n 1, 1) := by decide +kernel
theorem dX12_one_157 : decode cX12_one 157 = .ok (.iaload, 1) := by decide +kernel
theorem dX12_one_158 : decode cX12_one 158 = .ok (.iaload, 1) := by decide +kernel
theorem dX12_one_159 : decode cX12_one 159 = .ok (.invokestatic 200, 3) := by decide +kernel
theorem dX12_one_162 : decode cX12_one 162 = .ok (.istore 5, 2) := by decide +kernel
