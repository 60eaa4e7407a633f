theorem dX12_init_131 : decode cX12_init 131 = .ok (.newarray .int, 2) := by decide +kernel
theorem dX12_init_133 : decode cX12_init 133 = .ok (.putfield 58, 3) := by decide +kernel
theorem dX12_init_136 : decode cX12_init 136 = .ok (.aload_n 0, 1) := by decide +kernel
theorem dX12_init_137 : decode cX12_init 137 = .ok (.sipush 161, 3) := by decide +kernel
theorem dX12_init_140 : decode cX12_init 140 = .ok (.newarray .int, 2) := by decide +kernel
theorem dX12_init_142 : decode cX12_init 142 = .ok (.putfield 61, 3) := by decide +kernel
theorem dX12_init_145 : decode cX12_init 145 = .ok (.aload_n 0, 1) := by decide +kernel
theorem dX12_init_146 : decode cX12_init 146 = .ok (.sipush 161, 3) := by decide +kernel
theorem dX12_init_149 : decode cX12_init 149 = .ok (.newarray .int, 2) := by decide +kernel
theorem dX12_init_151 : decode cX12_init 151 = .ok (.putfield 64, 3) := by decide +kernel
theorem dX12_init_154 : decode cX12_init 154 = .ok (.aload_n 0, 1) := by decide +kernel
theorem dX12_init_155 : decode cX12_init 155 = .ok (.sipush 161, 3) := by decide +kernel
theorem dX12_init_158 : decode cX12_init 158 = .ok (.newarray .int, 2) := by decide +kernel
theorem dX12_init_160 : decode cX12_init 160 = .ok (.putfield 67, 3) := by decide +kernel
theorem dX12_init_163 : decode cX12_init 163 = .ok (.aload_n 0, 1) := by decide +kernel
theorem dX12_init_164 : decode cX12_init 164 = .ok (.sipush 4096, 3) := by decide +kernel
theorem dX12_init_167 : decode cX12_init 167 = .ok (.newarray .boolean, 2) := by decide +kernel
theorem dX12_init_169 : decode cX12_init 169 = .ok (.putfield 70, 3) := by decide +kernel
theorem dX12_init_172 : decode cX12_init 172 = .ok (.aload_n 0, 1) := by decide +kernel
theorem dX12_init_173 : decode cX12_init 173 = .ok (.sipush 8192, 3) := by decide +kernel
theorem dX12_init_176 : decode cX12_init 176 = .ok (.newarray .boolean, 2) := by decide +kernel
theorem dX12_init_178 : decode cX12_init 178 = .ok (.putfield 73, 3) := by decide +kernel
theorem dX12_init_181 : decode cX12_init 181 = .ok (.aload_n 0, 1) := by decide +kernel
theorem dX12_init_182 : decode cX12_init 182 = .ok (.sipush 8192, 3) := by decide +kernel
theorem dX12_init_185 : decode cX12_init 185 = .ok (.newarray .boolean, 2) := by decide +kernel
theorem dX12_init_187 : decode cX12_init 187 = .ok (.putfield 76, 3) := by decide +kernel
theorem dX12_init_190 : decode cX12_init 190 = .ok (.aload_n 0, 1) := by decide +kernel
theorem dX12_init_191 : decode cX12_init 191 = .ok (.sipush 161, 3) := by decide +kernel
theorem dX12_init_194 : decode cX12_init 194 = .ok (.newarray .boolean, 2) := by decide +kernel
theorem dX12_init_196 : decode cX12_init 196 = .ok (.putfield 79, 3) := by decide +kernel
theorem dX12_init_199 : decode cX12_init 199 = .ok (.aload_n 0, 1) := by decide +kernel
theorem dX12_init_200 : decode cX12_init 200 = .ok (.bipush 6, 2) := by decide +kernel
theorem dX12_init_202 : decode cX12_init 202 = .ok (.newarray .int, 2) := by decide +kernel
theorem dX12_init_204 : decode cX12_init 204 = .ok (.putfield 82, 3) := by decide +kernel
theorem dX12_init_207 : decode cX12_init 207 = .ok (.aload_n 0, 1) := by decide +kernel
theorem dX12_init_208 : decode cX12_init 208 = .ok (.sipush 700, 3) := by decide +kernel
theorem dX12_init_211 : decode cX12_init 211 = .ok (.newarray .byte, 2) := by decide +kernel
theorem dX12_init_213 : decode cX12_init 213 = .ok (.putfield 85, 3) := by decide +kernel
theorem dX12_init_216 : decode cX12_init 216 = .ok (.aload_n 0, 1) := by decide +kernel
theorem dX12_init_217 : decode cX12_init 217 = .ok (.sipush 700, 3) := by decide +kernel
theorem dX12_init_220 : decode cX12_init 220 = .ok (.newarray .int, 2) := by decide +kernel
theorem dX12_init_222 : decode cX12_init 222 = .ok (.putfield 88, 3) := by decide +kernel
theorem dX12_init_225 : decode cX12_init 225 = .ok (.aload_n 0, 1) := by decide +kernel
theorem dX12_init_226 : decode cX12_init 226 = .ok (.iconst 1, 1) := by decide +kernel
theorem dX12_init_227 : decode cX12_init 227 = .ok (.putfield 91, 3) := by decide +kernel
theorem dX12_init_230 : decode cX12_init 230 = .ok (.aload_n 0, 1) := by decide +kernel
theorem dX12_init_231 : decode cX12_init 231 = .ok (.getfield 34, 3) := by decide +kernel
theorem dX12_init_234 : decode cX12_init 234 = .ok (.iconst 0, 1) := by decide +kernel
theorem dX12_init_235 : decode cX12_init 235 = .ok (.bipush 49, 2) := by decide +kernel
theorem dX12_init_237 : decode cX12_init 237 = .ok (.iastore, 1) := by decide +kernel
theorem dX12_init_238 : decode cX12_init 238 = .ok (.aload_n 0, 1) := by decide +kernel
theorem dX12_init_239 : decode cX12_init 239 = .ok (.iconst 0, 1) := by decide +kernel
theorem dX12_init_240 : decode cX12_init 240 = .ok (.putfield 94, 3) := by decide +kernel
theorem dX12_init_243 : decode cX12_init 243 = .ok (.aload_n 0, 1) := by decide +kernel
theorem dX12_init_244 : decode cX12_init 244 = .ok (.invokevirtual 97, 3) := by decide +kernel
theorem dX12_init_247 : decode cX12_init 247 = .ok (.aload_n 0, 1) := by decide +kernel
theorem dX12_init_248 : decode cX12_init 248 = .ok (.iconst (-1), 1) := by decide +kernel
theorem dX12_init_249 : decode cX12_init 249 = .ok (.iconst 0, 1) := by decide +kernel
theorem dX12_init_250 : decode cX12_init 250 = .ok (.iconst (-1), 1) := by decide +kernel
theorem dX12_init_251 : decode cX12_init 251 = .ok (.invokevirtual 100, 3) := by decide +kernel
theorem dX12_init_254 : decode cX12_init 254 = .ok (.aload_n 0, 1) := by decide +kernel
theorem dX12_init_255 : decode cX12_init 255 = .ok (.invokevirtual 104, 3) := by decide +kernel
theorem dX12_init_258 : decode cX12_init 258 = .ok (.return_, 1) := by decide +kernel
theorem dX12_types_0 : decode cX12_types 0 = .ok (.iconst 3, 1) := by decide +kernel
theorem dX12_types_1 : decode cX12_types 1 = .ok (.istore_n 2, 1) := by decide +kernel
theorem dX12_types_2 : decode cX12_types 2 = .ok (.iload_n 2, 1) := by decide +kernel
theorem dX12_types_3 : decode cX12_types 3 = .ok (.ifCond .lt 35, 3) := by decide +kernel
theorem dX12_types_6 : decode cX12_types 6 = .ok (.aload_n 0, 1) := by decide +kernel
theorem dX12_types_7 : decode cX12_types 7 = .ok (.getfield 7, 3) := by decide +kernel
theorem dX12_types_10 : decode cX12_types 10 = .ok (.aload_n 0, 1) := by decide +kernel
theorem dX12_types_11 : decode cX12_types 11 = .ok (.getfield 107, 3) := by decide +kernel
theorem dX12_types_14 : decode cX12_types 14 = .ok (.iload_n 1, 1) := by decide +kernel
theorem dX12_types_15 : decode cX12_types 15 = .ok (.bipush 8, 2) := by decide +kernel
theorem dX12_types_17 : decode cX12_types 17 = .ok (.iload_n 2, 1) := by decide +kernel
theorem dX12_types_18 : decode cX12_types 18 = .ok (.imul, 1) := by decide +kernel
theorem dX12_types_19 : decode cX12_types 19 = .ok (.ishr, 1) := by decide +kernel
theorem dX12_types_20 : decode cX12_types 20 = .ok (.i2b, 1) := by decide +kernel
theorem dX12_types_21 : decode cX12_types 21 = .ok (.bastore, 1) := by decide +kernel
theorem dX12_types_22 : decode cX12_types 22 = .ok (.aload_n 0, 1) := by decide +kernel
theorem dX12_types_23 : decode cX12_types 23 = .ok (.aload_n 0, 1) := by decide +kernel
theorem dX12_types_24 : decode cX12_types 24 = .ok (.getfield 107, 3) := by decide +kernel
theorem dX12_types_27 : decode cX12_types 27 = .ok (.iconst 1, 1) := by decide +kernel
theorem dX12_types_28 : decode cX12_types 28 = .ok (.iadd, 1) := by decide +kernel
theorem dX12_types_29 : decode cX12_types 29 = .ok (.putfield 107, 3) := by decide +kernel
theorem dX12_types_32 : decode cX12_types 32 = .ok (.iinc 2 (-1), 3) := by decide +kernel
theorem dX12_types_35 : decode cX12_types 35 = .ok (.goto (-33), 3) := by decide +kernel
theorem dX12_types_38 : decode cX12_types 38 = .ok (.return_, 1) := by decide +kernel
theorem dX12_feed_0 : decode cX12_feed 0 = .ok (.aload_n 0, 1) := by decide +kernel
theorem dX12_feed_1 : decode cX12_feed 1 = .ok (.getfield 107, 3) := by decide +kernel
theorem dX12_feed_4 : decode cX12_feed 4 = .ok (.bipush 20, 2) := by decide +kernel
theorem dX12_feed_6 : decode cX12_feed 6 = .ok (.iadd, 1) := by decide +kernel
theorem dX12_feed_7 : decode cX12_feed 7 = .ok (.sipush 600, 3) := by decide +kernel
theorem dX12_feed_10 : decode cX12_feed 10 = .ok (.if_icmp .le 5, 3) := by decide +kernel
theorem dX12_feed_13 : decode cX12_feed 13 = .ok (.iconst (-1), 1) := by decide +kernel
theorem dX12_feed_14 : decode cX12_feed 14 = .ok (.ireturn, 1) := by decide +kernel
theorem dX12_feed_15 : decode cX12_feed 15 = .ok (.aload_n 0, 1) := by decide +kernel
theorem dX12_feed_16 : decode cX12_feed 16 = .ok (.iload_n 1, 1) := by decide +kernel
theorem dX12_feed_17 : decode cX12_feed 17 = .ok (.invokevirtual 110, 3) := by decide +kernel
theorem dX12_feed_20 : decode cX12_feed 20 = .ok (.aload_n 0, 1) := by decide +kernel
theorem dX12_feed_21 : decode cX12_feed 21 = .ok (.iload_n 2, 1) := by decide +kernel
theorem dX12_feed_22 : decode cX12_feed 22 = .ok (.invokevirtual 110, 3) := by decide +kernel
theorem dX12_feed_25 : decode cX12_feed 25 = .ok (.aload_n 0, 1) := by decide +kernel
theorem dX12_feed_26 : decode cX12_feed 26 = .ok (.iload_n 3, 1) := by decide +kernel
theorem dX12_feed_27 : decode cX12_feed 27 = .ok (.invokevirtual 110, 3) := by decide +kernel
theorem dX12_feed_30 : decode cX12_feed 30 = .ok (.aload_n 0, 1) := by decide +kernel
theorem dX12_feed_31 : decode cX12_feed 31 = .ok (.iload 4, 2) := by decide +kernel
theorem dX12_feed_33 : decode cX12_feed 33 = .ok (.invokevirtual 110, 3) := by decide +kernel
theorem dX12_feed_36 : decode cX12_feed 36 = .ok (.aload_n 0, 1) := by decide +kernel
theorem dX12_feed_37 : decode cX12_feed 37 = .ok (.iload 5, 2) := by decide +kernel
theorem dX12_feed_39 : decode cX12_feed 39 = .ok (.invokevirtual 110, 3) := by decide +kernel
theorem dX12_feed_42 : decode cX12_feed 42 = .ok (.aload_n 0, 1) := by decide +kernel
theorem dX12_feed_43 : decode cX12_feed 43 = .ok (.getfield 107, 3) := by decide +kernel
theorem dX12_feed_46 : decode cX12_feed 46 = .ok (.ireturn, 1) := by decide +kernel
theorem dX12_at_0 : decode cX12_at 0 = .ok (.iload_n 1, 1) := by decide +kernel
theorem dX12_at_1 : decode cX12_at 1 = .ok (.aload_n 0, 1) := by decide +kernel
theorem dX12_at_2 : decode cX12_at 2 = .ok (.getfield 114, 3) := by decide +kernel
theorem dX12_at_5 : decode cX12_at 5 = .ok (.if_icmp .ge 16, 3) := by decide +kernel
theorem dX12_at_8 : decode cX12_at 8 = .ok (.aload_n 0, 1) := by decide +kernel
theorem dX12_at_9 : decode cX12_at 9 = .ok (.getfield 13, 3) := by decide +kernel
theorem dX12_at_12 : decode cX12_at 12 = .ok (.iload_n 1, 1) := by decide +kernel
theorem dX12_at_13 : decode cX12_at 13 = .ok (.baload, 1) := by decide +kernel
theorem dX12_at_14 : decode cX12_at 14 = .ok (.sipush 255, 3) := by decide +kernel
theorem dX12_at_17 : decode cX12_at 17 = .ok (.iand, 1) := by decide +kernel
theorem dX12_at_18 : decode cX12_at 18 = .ok (.goto 4, 3) := by decide +kernel
theorem dX12_at_21 : decode cX12_at 21 = .ok (.iconst 0, 1) := by decide +kernel
theorem dX12_at_22 : decode cX12_at 22 = .ok (.ireturn, 1) := by decide +kernel
theorem dX12_isSmall_0 : decode cX12_isSmall 0 = .ok (.iload_n 0, 1) := by decide +kernel
theorem dX12_isSmall_1 : decode cX12_isSmall 1 = .ok (.bipush 97, 2) := by decide +kernel
theorem dX12_isSmall_3 : decode cX12_isSmall 3 = .ok (.if_icmp .lt 13, 3) := by decide +kernel
theorem dX12_isSmall_6 : decode cX12_isSmall 6 = .ok (.iload_n 0, 1) := by decide +kernel
theorem dX12_isSmall_7 : decode cX12_isSmall 7 = .ok (.bipush 122, 2) := by decide +kernel
theorem dX12_isSmall_9 : decode cX12_isSmall 9 = .ok (.if_icmp .gt 7, 3) := by decide +kernel
theorem dX12_isSmall_12 : decode cX12_isSmall 12 = .ok (.iconst 1, 1) := by decide +kernel
theorem dX12_isSmall_13 : decode cX12_isSmall 13 = .ok (.goto 4, 3) := by decide +kernel
theorem dX12_isSmall_16 : decode cX12_isSmall 16 = .ok (.iconst 0, 1) := by decide +kernel
theorem dX12_isSmall_17 : decode cX12_isSmall 17 = .ok (.ireturn, 1) := by decide +kernel
theorem dX12_isDigit_0 : decode cX12_isDigit 0 = .ok (.iload_n 0, 1) := by decide +kernel
theorem dX12_isDigit_1 : decode cX12_isDigit 1 = .ok (.bipush 48, 2) := by decide +kernel
theorem dX12_isDigit_3 : decode cX12_isDigit 3 = .ok (.if_icmp .lt 13, 3) := by decide +kernel
theorem dX12_isDigit_6 : decode cX12_isDigit 6 = .ok (.iload_n 0, 1) := by decide +kernel
theorem dX12_isDigit_7 : decode cX12_isDigit 7 = .ok (.bipush 57, 2) := by decide +kernel
theorem dX12_isDigit_9 : decode cX12_isDigit 9 = .ok (.if_icmp .gt 7, 3) := by decide +kernel
theorem dX12_isDigit_12 : decode cX12_isDigit 12 = .ok (.iconst 1, 1) := by decide +kernel
theorem dX12_isDigit_13 : decode cX12_isDigit 13 = .ok (.goto 4, 3) := by decide +kernel
theorem dX12_isDigit_16 : decode cX12_isDigit 16 = .ok (.iconst 0, 1) := by decide +kernel
theorem dX12_isDigit_17 : decode cX12_isDigit 17 = .ok (.ireturn, 1) := by decide +kernel
theorem dX12_isWordByte_0 : decode cX12_isWordByte 0 = .ok (.iload_n 0, 1) := by decide +kernel
theorem dX12_isWordByte_1 : decode cX12_isWordByte 1 = .ok (.invokestatic 117, 3) := by decide +kernel
theorem dX12_isWordByte_4 : decode cX12_isWordByte 4 = .ok (.ifCond .ne 22, 3) := by decide +kernel
theorem dX12_isWordByte_7 : decode cX12_isWordByte 7 = .ok (.iload_n 0, 1) := by decide +kernel
theorem dX12_isWordByte_8 : decode cX12_isWordByte 8 = .ok (.invokestatic 121, 3) := by decide +kernel
theorem dX12_isWordByte_11 : decode cX12_isWordByte 11 = .ok (.ifCond .ne 15, 3) := by decide +kernel
theorem dX12_isWordByte_14 : decode cX12_isWordByte 14 = .ok (.iload_n 0, 1) := by decide +kernel
theorem dX12_isWordByte_15 : decode cX12_isWordByte 15 = .ok (.bipush 65, 2) := by decide +kernel
theorem dX12_isWordByte_17 : decode cX12_isWordByte 17 = .ok (.if_icmp .lt 13, 3) := by decide +kernel
theorem dX12_isWordByte_20 : decode cX12_isWordByte 20 = .ok (.iload_n 0, 1) := by decide +kernel
theorem dX12_isWordByte_21 : decode cX12_isWordByte 21 = .ok (.bipush 90, 2) := by decide +kernel
theorem dX12_isWordByte_23 : decode cX12_isWordByte 23 = .ok (.if_icmp .gt 7, 3) := by decide +kernel
theorem dX12_isWordByte_26 : decode cX12_isWordByte 26 = .ok (.iconst 1, 1) := by decide +kernel
theorem dX12_isWordByte_27 : decode cX12_isWordByte 27 = .ok (.goto 4, 3) := by decide +kernel
theorem dX12_isWordByte_30 : decode cX12_isWordByte 30 = .ok (.iconst 0, 1) := by decide +kernel
theorem dX12_isWordByte_31 : decode cX12_isWordByte 31 = .ok (.ireturn, 1) := by decide +kernel
theorem dX12_next_0 : decode cX12_next 0 = .ok (.aload_n 0, 1) := by decide +kernel
theorem dX12_next_1 : decode cX12_next 1 = .ok (.getfield 124, 3) := by decide +kernel
theorem dX12_next_4 : decode cX12_next 4 = .ok (.istore_n 1, 1) := by decide +kernel
theorem dX12_next_5 : decode cX12_next 5 = .ok (.iload_n 1, 1) := by decide +kernel
theorem dX12_next_6 : decode cX12_next 6 = .ok (.aload_n 0, 1) := by decide +kernel
theorem dX12_next_7 : decode cX12_next 7 = .ok (.getfield 114, 3) := by decide +kernel
theorem dX12_next_10 : decode cX12_next 10 = .ok (.if_icmp .ge 30, 3) := by decide +kernel
theorem dX12_next_13 : decode cX12_next 13 = .ok (.aload_n 0, 1) := by decide +kernel
theorem dX12_next_14 : decode cX12_next 14 = .ok (.iload_n 1, 1) := by decide +kernel
theorem dX12_next_15 : decode cX12_next 15 = .ok (.invokevirtual 127, 3) := by decide +kernel
theorem dX12_next_18 : decode cX12_next 18 = .ok (.bipush 32, 2) := by decide +kernel
theorem dX12_next_20 : decode cX12_next 20 = .ok (.if_icmp .eq 13, 3) := by decide +kernel
theorem dX12_next_23 : decode cX12_next 23 = .ok (.aload_n 0, 1) := by decide +kernel
theorem dX12_next_24 : decode cX12_next 24 = .ok (.iload_n 1, 1) := by decide +kernel
theorem dX12_next_25 : decode cX12_next 25 = .ok (.invokevirtual 127, 3) := by decide +kernel
theorem dX12_next_28 : decode cX12_next 28 = .ok (.bipush 10, 2) := by decide +kernel
theorem dX12_next_30 : decode cX12_next 30 = .ok (.if_icmp .ne 10, 3) := by decide +kernel
theorem dX12_next_33 : decode cX12_next 33 = .ok (.iload_n 1, 1) := by decide +kernel
theorem dX12_next_34 : decode cX12_next 34 = .ok (.iconst 1, 1) := by decide +kernel
theorem dX12_next_35 : decode cX12_next 35 = .ok (.iadd, 1) := by decide +kernel
theorem dX12_next_36 : decode cX12_next 36 = .ok (.istore_n 1, 1) := by decide +kernel
theorem dX12_next_37 : decode cX12_next 37 = .ok (.goto (-32), 3) := by decide +kernel
theorem dX12_next_40 : decode cX12_next 40 = .ok (.aload_n 0, 1) := by decide +kernel
theorem dX12_next_41 : decode cX12_next 41 = .ok (.iload_n 1, 1) := by decide +kernel
theorem dX12_next_42 : decode cX12_next 42 = .ok (.putfield 131, 3) := by decide +kernel
theorem dX12_next_45 : decode cX12_next 45 = .ok (.iload_n 1, 1) := by decide +kernel
theorem dX12_next_46 : decode cX12_next 46 = .ok (.istore_n 2, 1) := by decide +kernel
theorem dX12_next_47 : decode cX12_next 47 = .ok (.aload_n 0, 1) := by decide +kernel
theorem dX12_next_48 : decode cX12_next 48 = .ok (.iload_n 2, 1) := by decide +kernel
theorem dX12_next_49 : decode cX12_next 49 = .ok (.invokevirtual 127, 3) := by decide +kernel
theorem dX12_next_52 : decode cX12_next 52 = .ok (.invokestatic 134, 3) := by decide +kernel
theorem dX12_next_55 : decode cX12_next 55 = .ok (.ifCond .eq 10, 3) := by decide +kernel
theorem dX12_next_58 : decode cX12_next 58 = .ok (.iload_n 2, 1) := by decide +kernel
theorem dX12_next_59 : decode cX12_next 59 = .ok (.iconst 1, 1) := by decide +kernel
theorem dX12_next_60 : decode cX12_next 60 = .ok (.iadd, 1) := by decide +kernel
theorem dX12_next_61 : decode cX12_next 61 = .ok (.istore_n 2, 1) := by decide +kernel
theorem dX12_next_62 : decode cX12_next 62 = .ok (.goto (-15), 3) := by decide +kernel
theorem dX12_next_65 : decode cX12_next 65 = .ok (.aload_n 0, 1) := by decide +kernel
theorem dX12_next_66 : decode cX12_next 66 = .ok (.aload_n 0, 1) := by decide +kernel
theorem dX12_next_67 : decode cX12_next 67 = .ok (.getfield 137, 3) := by decide +kernel
theorem dX12_next_70 : decode cX12_next 70 = .ok (.iconst 1, 1) := by decide +kernel
theorem dX12_next_71 : decode cX12_next 71 = .ok (.iadd, 1) := by decide +kernel
theorem dX12_next_72 : decode cX12_next 72 = .ok (.putfield 137, 3) := by decide +kernel
theorem dX12_next_75 : decode cX12_next 75 = .ok (.iload_n 1, 1) := by decide +kernel
theorem dX12_next_76 : decode cX12_next 76 = .ok (.aload_n 0, 1) := by decide +kernel
theorem dX12_next_77 : decode cX12_next 77 = .ok (.getfield 114, 3) := by decide +kernel
theorem dX12_next_80 : decode cX12_next 80 = .ok (.if_icmp .lt 16, 3) := by decide +kernel
theorem dX12_next_83 : decode cX12_next 83 = .ok (.aload_n 0, 1) := by decide +kernel
theorem dX12_next_84 : decode cX12_next 84 = .ok (.iconst 0, 1) := by decide +kernel
theorem dX12_next_85 : decode cX12_next 85 = .ok (.putfield 140, 3) := by decide +kernel
theorem dX12_next_88 : decode cX12_next 88 = .ok (.aload_n 0, 1) := by decide +kernel
theorem dX12_next_89 : decode cX12_next 89 = .ok (.iload_n 1, 1) := by decide +kernel
theorem dX12_next_90 : decode cX12_next 90 = .ok (.putfield 124, 3) := by decide +kernel
theorem dX12_next_93 : decode cX12_next 93 = .ok (.goto 119, 3) := by decide +kernel
theorem dX12_next_96 : decode cX12_next 96 = .ok (.iload_n 2, 1) := by decide +kernel
theorem dX12_next_97 : decode cX12_next 97 = .ok (.iload_n 1, 1) := by decide +kernel
theorem dX12_next_98 : decode cX12_next 98 = .ok (.if_icmp .le 19, 3) := by decide +kernel
theorem dX12_next_101 : decode cX12_next 101 = .ok (.aload_n 0, 1) := by decide +kernel
theorem dX12_next_102 : decode cX12_next 102 = .ok (.iload_n 2, 1) := by decide +kernel
theorem dX12_next_103 : decode cX12_next 103 = .ok (.putfield 124, 3) := by decide +kernel
theorem dX12_next_106 : decode cX12_next 106 = .ok (.aload_n 0, 1) := by decide +kernel
theorem dX12_next_107 : decode cX12_next 107 = .ok (.iload_n 1, 1) := by decide +kernel
theorem dX12_next_108 : decode cX12_next 108 = .ok (.iload_n 2, 1) := by decide +kernel
theorem dX12_next_109 : decode cX12_next 109 = .ok (.iload_n 1, 1) := by decide +kernel
theorem dX12_next_110 : decode cX12_next 110 = .ok (.isub, 1) := by decide +kernel
theorem dX12_next_111 : decode cX12_next 111 = .ok (.invokevirtual 143, 3) := by decide +kernel
theorem dX12_next_114 : decode cX12_next 114 = .ok (.goto 98, 3) := by decide +kernel
theorem dX12_next_117 : decode cX12_next 117 = .ok (.aload_n 0, 1) := by decide +kernel
theorem dX12_next_118 : decode cX12_next 118 = .ok (.iload_n 1, 1) := by decide +kernel
theorem dX12_next_119 : decode cX12_next 119 = .ok (.iconst 1, 1) := by decide +kernel
theorem dX12_next_120 : decode cX12_next 120 = .ok (.iadd, 1) := by decide +kernel
theorem dX12_next_121 : decode cX12_next 121 = .ok (.putfield 124, 3) := by decide +kernel
theorem dX12_next_124 : decode cX12_next 124 = .ok (.aload_n 0, 1) := by decide +kernel
theorem dX12_next_125 : decode cX12_next 125 = .ok (.iload_n 1, 1) := by decide +kernel
theorem dX12_next_126 : decode cX12_next 126 = .ok (.invokevirtual 127, 3) := by decide +kernel
theorem dX12_next_129 : decode cX12_next 129 = .ok (.istore_n 3, 1) := by decide +kernel
theorem dX12_next_130 : decode cX12_next 130 = .ok (.iload_n 3, 1) := by decide +kernel
theorem dX12_next_131 : decode cX12_next 131 = .ok (.bipush 40, 2) := by decide +kernel
theorem dX12_next_133 : decode cX12_next 133 = .ok (.if_icmp .eq 57, 3) := by decide +kernel
theorem dX12_next_136 : decode cX12_next 136 = .ok (.iload_n 3, 1) := by decide +kernel
theorem dX12_next_137 : decode cX12_next 137 = .ok (.bipush 41, 2) := by decide +kernel
theorem dX12_next_139 : decode cX12_next 139 = .ok (.if_icmp .eq 51, 3) := by decide +kernel
theorem dX12_next_142 : decode cX12_next 142 = .ok (.iload_n 3, 1) := by decide +kernel
theorem dX12_next_143 : decode cX12_next 143 = .ok (.bipush 33, 2) := by decide +kernel
theorem dX12_next_145 : decode cX12_next 145 = .ok (.if_icmp .eq 45, 3) := by decide +kernel
theorem dX12_next_148 : decode cX12_next 148 = .ok (.iload_n 3, 1) := by decide +kernel
theorem dX12_next_149 : decode cX12_next 149 = .ok (.bipush 38, 2) := by decide +kernel
theorem dX12_next_151 : decode cX12_next 151 = .ok (.if_icmp .eq 39, 3) := by decide +kernel
theorem dX12_next_154 : decode cX12_next 154 = .ok (.iload_n 3, 1) := by decide +kernel
theorem dX12_next_155 : decode cX12_next 155 = .ok (.bipush 124, 2) := by decide +kernel
theorem dX12_next_157 : decode cX12_next 157 = .ok (.if_icmp .eq 33, 3) := by decide +kernel
theorem dX12_next_160 : decode cX12_next 160 = .ok (.iload_n 3, 1) := by decide +kernel
theorem dX12_next_161 : decode cX12_next 161 = .ok (.bipush 94, 2) := by decide +kernel
theorem dX12_next_163 : decode cX12_next 163 = .ok (.if_icmp .eq 27, 3) := by decide +kernel
theorem dX12_next_166 : decode cX12_next 166 = .ok (.iload_n 3, 1) := by decide +kernel
theorem dX12_next_167 : decode cX12_next 167 = .ok (.bipush 62, 2) := by decide +kernel
theorem dX12_next_169 : decode cX12_next 169 = .ok (.if_icmp .eq 21, 3) := by decide +kernel
theorem dX12_next_172 : decode cX12_next 172 = .ok (.iload_n 3, 1) := by decide +kernel
theorem dX12_next_173 : decode cX12_next 173 = .ok (.bipush 61, 2) := by decide +kernel
theorem dX12_next_175 : decode cX12_next 175 = .ok (.if_icmp .eq 15, 3) := by decide +kernel
theorem dX12_next_178 : decode cX12_next 178 = .ok (.iload_n 3, 1) := by decide +kernel
theorem dX12_next_179 : decode cX12_next 179 = .ok (.bipush 59, 2) := by decide +kernel
theorem dX12_next_181 : decode cX12_next 181 = .ok (.if_icmp .eq 9, 3) := by decide +kernel
theorem dX12_next_184 : decode cX12_next 184 = .ok (.iload_n 3, 1) := by decide +kernel
theorem dX12_next_185 : decode cX12_next 185 = .ok (.bipush 58, 2) := by decide +kernel
theorem dX12_next_187 : decode cX12_next 187 = .ok (.if_icmp .ne 7, 3) := by decide +kernel
theorem dX12_next_190 : decode cX12_next 190 = .ok (.iconst 1, 1) := by decide +kernel
theorem dX12_next_191 : decode cX12_next 191 = .ok (.goto 4, 3) := by decide +kernel
theorem dX12_next_194 : decode cX12_next 194 = .ok (.iconst 0, 1) := by decide +kernel
theorem dX12_next_195 : decode cX12_next 195 = .ok (.istore 4, 2) := by decide +kernel
theorem dX12_next_197 : decode cX12_next 197 = .ok (.aload_n 0, 1) := by decide +kernel
theorem dX12_next_198 : decode cX12_next 198 = .ok (.iload 4, 2) := by decide +kernel
theorem dX12_next_200 : decode cX12_next 200 = .ok (.ifCond .eq 7, 3) := by decide +kernel
theorem dX12_next_203 : decode cX12_next 203 = .ok (.iload_n 3, 1) := by decide +kernel
theorem dX12_next_204 : decode cX12_next 204 = .ok (.goto 5, 3) := by decide +kernel
theorem dX12_next_207 : decode cX12_next 207 = .ok (.bipush 63, 2) := by decide +kernel
theorem dX12_next_209 : decode cX12_next 209 = .ok (.putfield 140, 3) := by decide +kernel
theorem dX12_next_212 : decode cX12_next 212 = .ok (.return_, 1) := by decide +kernel
theorem dX12_word_0 : decode cX12_word 0 = .ok (.aload_n 0, 1) := by decide +kernel
theorem dX12_word_1 : decode cX12_word 1 = .ok (.iload_n 1, 1) := by decide +kernel
theorem dX12_word_2 : decode cX12_word 2 = .ok (.invokevirtual 127, 3) := by decide +kernel
theorem dX12_word_5 : decode cX12_word 5 = .ok (.istore_n 3, 1) := by decide +kernel
theorem dX12_word_6 : decode cX12_word 6 = .ok (.aload_n 0, 1) := by decide +kernel
theorem dX12_word_7 : decode cX12_word 7 = .ok (.iload_n 1, 1) := by decide +kernel
theorem dX12_word_8 : decode cX12_word 8 = .ok (.iconst 1, 1) := by decide +kernel
theorem dX12_word_9 : decode cX12_word 9 = .ok (.iadd, 1) := by decide +kernel
theorem dX12_word_10 : decode cX12_word 10 = .ok (.invokevirtual 127, 3) := by decide +kernel
theorem dX12_word_13 : decode cX12_word 13 = .ok (.istore 4, 2) := by decide +kernel
theorem dX12_word_15 : decode cX12_word 15 = .ok (.aload_n 0, 1) := by decide +kernel
theorem dX12_word_16 : decode cX12_word 16 = .ok (.bipush 63, 2) := by decide +kernel
theorem dX12_word_18 : decode cX12_word 18 = .ok (.putfield 140, 3) := by decide +kernel
theorem dX12_word_21 : decode cX12_word 21 = .ok (.iload_n 2, 1) := by decide +kernel
theorem dX12_word_22 : decode cX12_word 22 = .ok (.iconst 1, 1) := by decide +kernel
theorem dX12_word_23 : decode cX12_word 23 = .ok (.if_icmp .ne 23, 3) := by decide +kernel
theorem dX12_word_26 : decode cX12_word 26 = .ok (.iload_n 3, 1) := by decide +kernel
theorem dX12_word_27 : decode cX12_word 27 = .ok (.bipush 48, 2) := by decide +kernel
theorem dX12_word_29 : decode cX12_word 29 = .ok (.if_icmp .eq 9, 3) := by decide +kernel
theorem dX12_word_32 : decode cX12_word 32 = .ok (.iload_n 3, 1) := by decide +kernel
theorem dX12_word_33 : decode cX12_word 33 = .ok (.bipush 49, 2) := by decide +kernel
theorem dX12_word_35 : decode cX12_word 35 = .ok (.if_icmp .ne 11, 3) := by decide +kernel
theorem dX12_word_38 : decode cX12_word 38 = .ok (.aload_n 0, 1) := by decide +kernel
theorem dX12_word_39 : decode cX12_word 39 = .ok (.iload_n 3, 1) := by decide +kernel
theorem dX12_word_40 : decode cX12_word 40 = .ok (.putfield 140, 3) := by decide +kernel
theorem dX12_word_43 : decode cX12_word 43 = .ok (.goto 150, 3) := by decide +kernel
theorem dX12_word_46 : decode cX12_word 46 = .ok (.iload_n 3, 1) := by decide +kernel
theorem dX12_word_47 : decode cX12_word 47 = .ok (.invokestatic 117, 3) := by decide +kernel
theorem dX12_word_50 : decode cX12_word 50 = .ok (.ifCond .eq 56, 3) := by decide +kernel
theorem dX12_word_53 : decode cX12_word 53 = .ok (.iload_n 2, 1) := by decide +kernel
theorem dX12_word_54 : decode cX12_word 54 = .ok (.iconst 1, 1) := by decide +kernel
theorem dX12_word_55 : decode cX12_word 55 = .ok (.if_icmp .eq 16, 3) := by decide +kernel
theorem dX12_word_58 : decode cX12_word 58 = .ok (.iload_n 2, 1) := by decide +kernel
theorem dX12_word_59 : decode cX12_word 59 = .ok (.iconst 2, 1) := by decide +kernel
theorem dX12_word_60 : decode cX12_word 60 = .ok (.if_icmp .ne 46, 3) := by decide +kernel
theorem dX12_word_63 : decode cX12_word 63 = .ok (.iload 4, 2) := by decide +kernel
theorem dX12_word_65 : decode cX12_word 65 = .ok (.invokestatic 121, 3) := by decide +kernel
theorem dX12_word_68 : decode cX12_word 68 = .ok (.ifCond .eq 38, 3) := by decide +kernel
theorem dX12_word_71 : decode cX12_word 71 = .ok (.aload_n 0, 1) := by decide +kernel
theorem dX12_word_72 : decode cX12_word 72 = .ok (.bipush 110, 2) := by decide +kernel
theorem dX12_word_74 : decode cX12_word 74 = .ok (.putfield 140, 3) := by decide +kernel
theorem dX12_word_77 : decode cX12_word 77 = .ok (.aload_n 0, 1) := by decide +kernel
theorem dX12_word_78 : decode cX12_word 78 = .ok (.iload_n 2, 1) := by decide +kernel
theorem dX12_word_79 : decode cX12_word 79 = .ok (.iconst 1, 1) := by decide +kernel
theorem dX12_word_80 : decode cX12_word 80 = .ok (.if_icmp .ne 7, 3) := by decide +kernel
theorem dX12_word_83 : decode cX12_word 83 = .ok (.iload_n 3, 1) := by decide +kernel
theorem dX12_word_84 : decode cX12_word 84 = .ok (.goto 16, 3) := by decide +kernel
theorem dX12_word_87 : decode cX12_word 87 = .ok (.iload_n 3, 1) := by decide +kernel
theorem dX12_word_88 : decode cX12_word 88 = .ok (.sipush 256, 3) := by decide +kernel
theorem dX12_word_91 : decode cX12_word 91 = .ok (.iload 4, 2) := by decide +kernel
theorem dX12_word_93 : decode cX12_word 93 = .ok (.bipush 48, 2) := by decide +kernel
theorem dX12_word_95 : decode cX12_word 95 = .ok (.isub, 1) := by decide +kernel
theorem dX12_word_96 : decode cX12_word 96 = .ok (.iconst 1, 1) := by decide +kernel
theorem dX12_word_97 : decode cX12_word 97 = .ok (.iadd, 1) := by decide +kernel
theorem dX12_word_98 : decode cX12_word 98 = .ok (.imul, 1) := by decide +kernel
theorem dX12_word_99 : decode cX12_word 99 = .ok (.iadd, 1) := by decide +kernel
theorem dX12_word_100 : decode cX12_word 100 = .ok (.putfield 147, 3) := by decide +kernel
theorem dX12_word_103 : decode cX12_word 103 = .ok (.goto 90, 3) := by decide +kernel
theorem dX12_word_106 : decode cX12_word 106 = .ok (.iload_n 2, 1) := by decide +kernel
theorem dX12_word_107 : decode cX12_word 107 = .ok (.iconst 4, 1) := by decide +kernel
theorem dX12_word_108 : decode cX12_word 108 = .ok (.if_icmp .ne 49, 3) := by decide +kernel
theorem dX12_word_111 : decode cX12_word 111 = .ok (.iload_n 3, 1) := by decide +kernel
theorem dX12_word_112 : decode cX12_word 112 = .ok (.bipush 115, 2) := by decide +kernel
theorem dX12_word_114 : decode cX12_word 114 = .ok (.if_icmp .ne 43, 3) := by decide +kernel
theorem dX12_word_117 : decode cX12_word 117 = .ok (.iload 4, 2) := by decide +kernel
theorem dX12_word_119 : decode cX12_word 119 = .ok (.bipush 111, 2) := by decide +kernel
theorem dX12_word_121 : decode cX12_word 121 = .ok (.if_icmp .ne 36, 3) := by decide +kernel
theorem dX12_word_124 : decode cX12_word 124 = .ok (.aload_n 0, 1) := by decide +kernel
theorem dX12_word_125 : decode cX12_word 125 = .ok (.iload_n 1, 1) := by decide +kernel
theorem dX12_word_126 : decode cX12_word 126 = .ok (.iconst 2, 1) := by decide +kernel
theorem dX12_word_127 : decode cX12_word 127 = .ok (.iadd, 1) := by decide +kernel
theorem dX12_word_128 : decode cX12_word 128 = .ok (.invokevirtual 127, 3) := by decide +kernel
theorem dX12_word_131 : decode cX12_word 131 = .ok (.bipush 109, 2) := by decide +kernel
theorem dX12_word_133 : decode cX12_word 133 = .ok (.if_icmp .ne 24, 3) := by decide +kernel
theorem dX12_word_136 : decode cX12_word 136 = .ok (.aload_n 0, 1) := by decide +kernel
theorem dX12_word_137 : decode cX12_word 137 = .ok (.iload_n 1, 1) := by decide +kernel
theorem dX12_word_138 : decode cX12_word 138 = .ok (.iconst 3, 1) := by decide +kernel
theorem dX12_word_139 : decode cX12_word 139 = .ok (.iadd, 1) := by decide +kernel
theorem dX12_word_140 : decode cX12_word 140 = .ok (.invokevirtual 127, 3) := by decide +kernel
theorem dX12_word_143 : decode cX12_word 143 = .ok (.bipush 101, 2) := by decide +kernel
theorem dX12_word_145 : decode cX12_word 145 = .ok (.if_icmp .ne 12, 3) := by decide +kernel
theorem dX12_word_148 : decode cX12_word 148 = .ok (.aload_n 0, 1) := by decide +kernel
theorem dX12_word_149 : decode cX12_word 149 = .ok (.bipush 115, 2) := by decide +kernel
theorem dX12_word_151 : decode cX12_word 151 = .ok (.putfield 140, 3) := by decide +kernel
theorem dX12_word_154 : decode cX12_word 154 = .ok (.goto 39, 3) := by decide +kernel
theorem dX12_word_157 : decode cX12_word 157 = .ok (.iload_n 2, 1) := by decide +kernel
theorem dX12_word_158 : decode cX12_word 158 = .ok (.iconst 3, 1) := by decide +kernel
theorem dX12_word_159 : decode cX12_word 159 = .ok (.if_icmp .ne 34, 3) := by decide +kernel
theorem dX12_word_162 : decode cX12_word 162 = .ok (.iload_n 3, 1) := by decide +kernel
theorem dX12_word_163 : decode cX12_word 163 = .ok (.bipush 97, 2) := by decide +kernel
theorem dX12_word_165 : decode cX12_word 165 = .ok (.if_icmp .ne 28, 3) := by decide +kernel
theorem dX12_word_168 : decode cX12_word 168 = .ok (.iload 4, 2) := by decide +kernel
theorem dX12_word_170 : decode cX12_word 170 = .ok (.bipush 108, 2) := by decide +kernel
theorem dX12_word_172 : decode cX12_word 172 = .ok (.if_icmp .ne 21, 3) := by decide +kernel
theorem dX12_word_175 : decode cX12_word 175 = .ok (.aload_n 0, 1) := by decide +kernel
theorem dX12_word_176 : decode cX12_word 176 = .ok (.iload_n 1, 1) := by decide +kernel
theorem dX12_word_177 : decode cX12_word 177 = .ok (.iconst 2, 1) := by decide +kernel
theorem dX12_word_178 : decode cX12_word 178 = .ok (.iadd, 1) := by decide +kernel
theorem dX12_word_179 : decode cX12_word 179 = .ok (.invokevirtual 127, 3) := by decide +kernel
theorem dX12_word_182 : decode cX12_word 182 = .ok (.bipush 108, 2) := by decide +kernel
theorem dX12_word_184 : decode cX12_word 184 = .ok (.if_icmp .ne 9, 3) := by decide +kernel
theorem dX12_word_187 : decode cX12_word 187 = .ok (.aload_n 0, 1) := by decide +kernel
theorem dX12_word_188 : decode cX12_word 188 = .ok (.bipush 97, 2) := by decide +kernel
theorem dX12_word_190 : decode cX12_word 190 = .ok (.putfield 140, 3) := by decide +kernel
theorem dX12_word_193 : decode cX12_word 193 = .ok (.return_, 1) := by decide +kernel
theorem dX12_refuses_0 : decode cX12_refuses 0 = .ok (.aload_n 0, 1) := by decide +kernel
theorem dX12_refuses_1 : decode cX12_refuses 1 = .ok (.iload_n 1, 1) := by decide +kernel
theorem dX12_refuses_2 : decode cX12_refuses 2 = .ok (.putfield 150, 3) := by decide +kernel
theorem dX12_refuses_5 : decode cX12_refuses 5 = .ok (.aload_n 0, 1) := by decide +kernel
theorem dX12_refuses_6 : decode cX12_refuses 6 = .ok (.aload_n 0, 1) := by decide +kernel
theorem dX12_refuses_7 : decode cX12_refuses 7 = .ok (.getfield 131, 3) := by decide +kernel
theorem dX12_refuses_10 : decode cX12_refuses 10 = .ok (.putfield 16, 3) := by decide +kernel
theorem dX12_refuses_13 : decode cX12_refuses 13 = .ok (.iconst 0, 1) := by decide +kernel
theorem dX12_refuses_14 : decode cX12_refuses 14 = .ok (.ireturn, 1) := by decide +kernel
theorem dX12_takes_0 : decode cX12_takes 0 = .ok (.aload_n 0, 1) := by decide +kernel
theorem dX12_takes_1 : decode cX12_takes 1 = .ok (.getfield 137, 3) := by decide +kernel
theorem dX12_takes_4 : decode cX12_takes 4 = .ok (.sipush 160, 3) := by decide +kernel
theorem dX12_takes_7 : decode cX12_takes 7 = .ok (.if_icmp .le 9, 3) := by decide +kernel
theorem dX12_takes_10 : decode cX12_takes 10 = .ok (.aload_n 0, 1) := by decide +kernel
theorem dX12_takes_11 : decode cX12_takes 11 = .ok (.iconst 4, 1) := by decide +kernel
theorem dX12_takes_12 : decode cX12_takes 12 = .ok (.invokevirtual 153, 3) := by decide +kernel
theorem dX12_takes_15 : decode cX12_takes 15 = .ok (.ireturn, 1) := by decide +kernel
theorem dX12_takes_16 : decode cX12_takes 16 = .ok (.aload_n 0, 1) := by decide +kernel
theorem dX12_takes_17 : decode cX12_takes 17 = .ok (.invokevirtual 156, 3) := by decide +kernel
theorem dX12_takes_20 : decode cX12_takes 20 = .ok (.iconst 1, 1) := by decide +kernel
theorem dX12_takes_21 : decode cX12_takes 21 = .ok (.ireturn, 1) := by decide +kernel
theorem dX12_lays_0 : decode cX12_lays 0 = .ok (.iload_n 1, 1) := by decide +kernel
theorem dX12_lays_1 : decode cX12_lays 1 = .ok (.ifCond .eq 38, 3) := by decide +kernel
theorem dX12_lays_4 : decode cX12_lays 4 = .ok (.aload_n 0, 1) := by decide +kernel
theorem dX12_lays_5 : decode cX12_lays 5 = .ok (.aload_n 0, 1) := by decide +kernel
theorem dX12_lays_6 : decode cX12_lays 6 = .ok (.getfield 159, 3) := by decide +kernel
theorem dX12_lays_9 : decode cX12_lays 9 = .ok (.putfield 162, 3) := by decide +kernel
theorem dX12_lays_12 : decode cX12_lays 12 = .ok (.aload_n 0, 1) := by decide +kernel
theorem dX12_lays_13 : decode cX12_lays 13 = .ok (.aload_n 0, 1) := by decide +kernel
theorem dX12_lays_14 : decode cX12_lays 14 = .ok (.getfield 165, 3) := by decide +kernel
theorem dX12_lays_17 : decode cX12_lays 17 = .ok (.putfield 168, 3) := by decide +kernel
theorem dX12_lays_20 : decode cX12_lays 20 = .ok (.aload_n 0, 1) := by decide +kernel
theorem dX12_lays_21 : decode cX12_lays 21 = .ok (.aload_n 0, 1) := by decide +kernel
theorem dX12_lays_22 : decode cX12_lays 22 = .ok (.getfield 91, 3) := by decide +kernel
theorem dX12_lays_25 : decode cX12_lays 25 = .ok (.putfield 171, 3) := by decide +kernel
theorem dX12_lays_28 : decode cX12_lays 28 = .ok (.aload_n 0, 1) := by decide +kernel
theorem dX12_lays_29 : decode cX12_lays 29 = .ok (.aload_n 0, 1) := by decide +kernel
theorem dX12_lays_30 : decode cX12_lays 30 = .ok (.getfield 94, 3) := by decide +kernel
theorem dX12_lays_33 : decode cX12_lays 33 = .ok (.putfield 174, 3) := by decide +kernel
theorem dX12_lays_36 : decode cX12_lays 36 = .ok (.goto 35, 3) := by decide +kernel
theorem dX12_lays_39 : decode cX12_lays 39 = .ok (.aload_n 0, 1) := by decide +kernel
theorem dX12_lays_40 : decode cX12_lays 40 = .ok (.aload_n 0, 1) := by decide +kernel
theorem dX12_lays_41 : decode cX12_lays 41 = .ok (.getfield 162, 3) := by decide +kernel
theorem dX12_lays_44 : decode cX12_lays 44 = .ok (.putfield 159, 3) := by decide +kernel
theorem dX12_lays_47 : decode cX12_lays 47 = .ok (.aload_n 0, 1) := by decide +kernel
theorem dX12_lays_48 : decode cX12_lays 48 = .ok (.aload_n 0, 1) := by decide +kernel
theorem dX12_lays_49 : decode cX12_lays 49 = .ok (.getfield 168, 3) := by decide +kernel
theorem dX12_lays_52 : decode cX12_lays 52 = .ok (.putfield 165, 3) := by decide +kernel
theorem dX12_lays_55 : decode cX12_lays 55 = .ok (.aload_n 0, 1) := by decide +kernel
theorem dX12_lays_56 : decode cX12_lays 56 = .ok (.aload_n 0, 1) := by decide +kernel
theorem dX12_lays_57 : decode cX12_lays 57 = .ok (.getfield 171, 3) := by decide +kernel
theorem dX12_lays_60 : decode cX12_lays 60 = .ok (.putfield 91, 3) := by decide +kernel
theorem dX12_lays_63 : decode cX12_lays 63 = .ok (.aload_n 0, 1) := by decide +kernel
theorem dX12_lays_64 : decode cX12_lays 64 = .ok (.aload_n 0, 1) := by decide +kernel
theorem dX12_lays_65 : decode cX12_lays 65 = .ok (.getfield 174, 3) := by decide +kernel
theorem dX12_lays_68 : decode cX12_lays 68 = .ok (.putfield 94, 3) := by decide +kernel
theorem dX12_lays_71 : decode cX12_lays 71 = .ok (.iconst 0, 1) := by decide +kernel
theorem dX12_lays_72 : decode cX12_lays 72 = .ok (.istore_n 2, 1) := by decide +kernel
theorem dX12_lays_73 : decode cX12_lays 73 = .ok (.iload_n 2, 1) := by decide +kernel
theorem dX12_lays_74 : decode cX12_lays 74 = .ok (.bipush 12, 2) := by decide +kernel
theorem dX12_lays_76 : decode cX12_lays 76 = .ok (.if_icmp .ge 71, 3) := by decide +kernel
theorem dX12_lays_79 : decode cX12_lays 79 = .ok (.iload_n 1, 1) := by decide +kernel
theorem dX12_lays_80 : decode cX12_lays 80 = .ok (.ifCond .eq 18, 3) := by decide +kernel
theorem dX12_lays_83 : decode cX12_lays 83 = .ok (.aload_n 0, 1) := by decide +kernel
theorem dX12_lays_84 : decode cX12_lays 84 = .ok (.getfield 43, 3) := by decide +kernel
theorem dX12_lays_87 : decode cX12_lays 87 = .ok (.iload_n 2, 1) := by decide +kernel
theorem dX12_lays_88 : decode cX12_lays 88 = .ok (.aload_n 0, 1) := by decide +kernel
theorem dX12_lays_89 : decode cX12_lays 89 = .ok (.getfield 20, 3) := by decide +kernel
theorem dX12_lays_92 : decode cX12_lays 92 = .ok (.iload_n 2, 1) := by decide +kernel
theorem dX12_lays_93 : decode cX12_lays 93 = .ok (.iaload, 1) := by decide +kernel
theorem dX12_lays_94 : decode cX12_lays 94 = .ok (.iastore, 1) := by decide +kernel
theorem dX12_lays_95 : decode cX12_lays 95 = .ok (.goto 15, 3) := by decide +kernel
theorem dX12_lays_98 : decode cX12_lays 98 = .ok (.aload_n 0, 1) := by decide +kernel
theorem dX12_lays_99 : decode cX12_lays 99 = .ok (.getfield 20, 3) := by decide +kernel
theorem dX12_lays_102 : decode cX12_lays 102 = .ok (.iload_n 2, 1) := by decide +kernel
theorem dX12_lays_103 : decode cX12_lays 103 = .ok (.aload_n 0, 1) := by decide +kernel
theorem dX12_lays_104 : decode cX12_lays 104 = .ok (.getfield 43, 3) := by decide +kernel
theorem dX12_lays_107 : decode cX12_lays 107 = .ok (.iload_n 2, 1) := by decide +kernel
theorem dX12_lays_108 : decode cX12_lays 108 = .ok (.iaload, 1) := by decide +kernel
theorem dX12_lays_109 : decode cX12_lays 109 = .ok (.iastore, 1) := by decide +kernel
theorem dX12_lays_110 : decode cX12_lays 110 = .ok (.iload_n 1, 1) := by decide +kernel
theorem dX12_lays_111 : decode cX12_lays 111 = .ok (.ifCond .eq 18, 3) := by decide +kernel
theorem dX12_lays_114 : decode cX12_lays 114 = .ok (.aload_n 0, 1) := by decide +kernel
theorem dX12_lays_115 : decode cX12_lays 115 = .ok (.getfield 46, 3) := by decide +kernel
theorem dX12_lays_118 : decode cX12_lays 118 = .ok (.iload_n 2, 1) := by decide +kernel
theorem dX12_lays_119 : decode cX12_lays 119 = .ok (.aload_n 0, 1) := by decide +kernel
theorem dX12_lays_120 : decode cX12_lays 120 = .ok (.getfield 24, 3) := by decide +kernel
theorem dX12_lays_123 : decode cX12_lays 123 = .ok (.iload_n 2, 1) := by decide +kernel
theorem dX12_lays_124 : decode cX12_lays 124 = .ok (.iaload, 1) := by decide +kernel
theorem dX12_lays_125 : decode cX12_lays 125 = .ok (.iastore, 1) := by decide +kernel
theorem dX12_lays_126 : decode cX12_lays 126 = .ok (.goto 15, 3) := by decide +kernel
theorem dX12_lays_129 : decode cX12_lays 129 = .ok (.aload_n 0, 1) := by decide +kernel
theorem dX12_lays_130 : decode cX12_lays 130 = .ok (.getfield 24, 3) := by decide +kernel
theorem dX12_lays_133 : decode cX12_lays 133 = .ok (.iload_n 2, 1) := by decide +kernel
theorem dX12_lays_134 : decode cX12_lays 134 = .ok (.aload_n 0, 1) := by decide +kernel
theorem dX12_lays_135 : decode cX12_lays 135 = .ok (.getfield 46, 3) := by decide +kernel
theorem dX12_lays_138 : decode cX12_lays 138 = .ok (.iload_n 2, 1) := by decide +kernel
theorem dX12_lays_139 : decode cX12_lays 139 = .ok (.iaload, 1) := by decide +kernel
theorem dX12_lays_140 : decode cX12_lays 140 = .ok (.iastore, 1) := by decide +kernel
theorem dX12_lays_141 : decode cX12_lays 141 = .ok (.iinc 2 1, 3) := by decide +kernel
theorem dX12_lays_144 : decode cX12_lays 144 = .ok (.goto (-71), 3) := by decide +kernel
theorem dX12_lays_147 : decode cX12_lays 147 = .ok (.iconst 0, 1) := by decide +kernel
theorem dX12_lays_148 : decode cX12_lays 148 = .ok (.istore_n 2, 1) := by decide +kernel
theorem dX12_lays_149 : decode cX12_lays 149 = .ok (.iload_n 2, 1) := by decide +kernel
theorem dX12_lays_150 : decode cX12_lays 150 = .ok (.bipush 6, 2) := by decide +kernel
theorem dX12_lays_152 : decode cX12_lays 152 = .ok (.if_icmp .ge 71, 3) := by decide +kernel
theorem dX12_lays_155 : decode cX12_lays 155 = .ok (.iload_n 1, 1) := by decide +kernel
theorem dX12_lays_156 : decode cX12_lays 156 = .ok (.ifCond .eq 18, 3) := by decide +kernel
theorem dX12_lays_159 : decode cX12_lays 159 = .ok (.aload_n 0, 1) := by decide +kernel
theorem dX12_lays_160 : decode cX12_lays 160 = .ok (.getfield 49, 3) := by decide +kernel
theorem dX12_lays_163 : decode cX12_lays 163 = .ok (.iload_n 2, 1) := by decide +kernel
theorem dX12_lays_164 : decode cX12_lays 164 = .ok (.aload_n 0, 1) := by decide +kernel
theorem dX12_lays_165 : decode cX12_lays 165 = .ok (.getfield 27, 3) := by decide +kernel
theorem dX12_lays_168 : decode cX12_lays 168 = .ok (.iload_n 2, 1) := by decide +kernel
theorem dX12_lays_169 : decode cX12_lays 169 = .ok (.iaload, 1) := by decide +kernel
theorem dX12_lays_170 : decode cX12_lays 170 = .ok (.iastore, 1) := by decide +kernel
theorem dX12_lays_171 : decode cX12_lays 171 = .ok (.goto 15, 3) := by decide +kernel
theorem dX12_lays_174 : decode cX12_lays 174 = .ok (.aload_n 0, 1) := by decide +kernel
theorem dX12_lays_175 : decode cX12_lays 175 = .ok (.getfield 27, 3) := by decide +kernel
theorem dX12_lays_178 : decode cX12_lays 178 = .ok (.iload_n 2, 1) := by decide +kernel
theorem dX12_lays_179 : decode cX12_lays 179 = .ok (.aload_n 0, 1) := by decide +kernel
theorem dX12_lays_180 : decode cX12_lays 180 = .ok (.getfield 49, 3) := by decide +kernel
theorem dX12_lays_183 : decode cX12_lays 183 = .ok (.iload_n 2, 1) := by decide +kernel
theorem dX12_lays_184 : decode cX12_lays 184 = .ok (.iaload, 1) := by decide +kernel
theorem dX12_lays_185 : decode cX12_lays 185 = .ok (.iastore, 1) := by decide +kernel
theorem dX12_lays_186 : decode cX12_lays 186 = .ok (.iload_n 1, 1) := by decide +kernel
theorem dX12_lays_187 : decode cX12_lays 187 = .ok (.ifCond .eq 18, 3) := by decide +kernel
theorem dX12_lays_190 : decode cX12_lays 190 = .ok (.aload_n 0, 1) := by decide +kernel
theorem dX12_lays_191 : decode cX12_lays 191 = .ok (.getfield 52, 3) := by decide +kernel
theorem dX12_lays_194 : decode cX12_lays 194 = .ok (.iload_n 2, 1) := by decide +kernel
theorem dX12_lays_195 : decode cX12_lays 195 = .ok (.aload_n 0, 1) := by decide +kernel
theorem dX12_lays_196 : decode cX12_lays 196 = .ok (.getfield 30, 3) := by decide +kernel
theorem dX12_lays_199 : decode cX12_lays 199 = .ok (.iload_n 2, 1) := by decide +kernel
theorem dX12_lays_200 : decode cX12_lays 200 = .ok (.baload, 1) := by decide +kernel
theorem dX12_lays_201 : decode cX12_lays 201 = .ok (.bastore, 1) := by decide +kernel
theorem dX12_lays_202 : decode cX12_lays 202 = .ok (.goto 15, 3) := by decide +kernel
theorem dX12_lays_205 : decode cX12_lays 205 = .ok (.aload_n 0, 1) := by decide +kernel
theorem dX12_lays_206 : decode cX12_lays 206 = .ok (.getfield 30, 3) := by decide +kernel
theorem dX12_lays_209 : decode cX12_lays 209 = .ok (.iload_n 2, 1) := by decide +kernel
theorem dX12_lays_210 : decode cX12_lays 210 = .ok (.aload_n 0, 1) := by decide +kernel
theorem dX12_lays_211 : decode cX12_lays 211 = .ok (.getfield 52, 3) := by decide +kernel
theorem dX12_lays_214 : decode cX12_lays 214 = .ok (.iload_n 2, 1) := by decide +kernel
theorem dX12_lays_215 : decode cX12_lays 215 = .ok (.baload, 1) := by decide +kernel
theorem dX12_lays_216 : decode cX12_lays 216 = .ok (.bastore, 1) := by decide +kernel
theorem dX12_lays_217 : decode cX12_lays 217 = .ok (.iinc 2 1, 3) := by decide +kernel
theorem dX12_lays_220 : decode cX12_lays 220 = .ok (.goto (-71), 3) := by decide +kernel
theorem dX12_lays_223 : decode cX12_lays 223 = .ok (.iconst 0, 1) := by decide +kernel
theorem dX12_lays_224 : decode cX12_lays 224 = .ok (.istore_n 2, 1) := by decide +kernel
theorem dX12_lays_225 : decode cX12_lays 225 = .ok (.iload_n 2, 1) := by decide +kernel
theorem dX12_lays_226 : decode cX12_lays 226 = .ok (.sipush 161, 3) := by decide +kernel
theorem dX12_lays_229 : decode cX12_lays 229 = .ok (.if_icmp .ge 102, 3) := by decide +kernel
theorem dX12_lays_232 : decode cX12_lays 232 = .ok (.iload_n 1, 1) := by decide +kernel
theorem dX12_lays_233 : decode cX12_lays 233 = .ok (.ifCond .eq 18, 3) := by decide +kernel
theorem dX12_lays_236 : decode cX12_lays 236 = .ok (.aload_n 0, 1) := by decide +kernel
theorem dX12_lays_237 : decode cX12_lays 237 = .ok (.getfield 55, 3) := by decide +kernel
theorem dX12_lays_240 : decode cX12_lays 240 = .ok (.iload_n 2, 1) := by decide +kernel
theorem dX12_lays_241 : decode cX12_lays 241 = .ok (.aload_n 0, 1) := by decide +kernel
theorem dX12_lays_242 : decode cX12_lays 242 = .ok (.getfield 34, 3) := by decide +kernel
theorem dX12_lays_245 : decode cX12_lays 245 = .ok (.iload_n 2, 1) := by decide +kernel
theorem dX12_lays_246 : decode cX12_lays 246 = .ok (.iaload, 1) := by decide +kernel
theorem dX12_lays_247 : decode cX12_lays 247 = .ok (.iastore, 1) := by decide +kernel
theorem dX12_lays_248 : decode cX12_lays 248 = .ok (.goto 15, 3) := by decide +kernel
theorem dX12_lays_251 : decode cX12_lays 251 = .ok (.aload_n 0, 1) := by decide +kernel
theorem dX12_lays_252 : decode cX12_lays 252 = .ok (.getfield 34, 3) := by decide +kernel
theorem dX12_lays_255 : decode cX12_lays 255 = .ok (.iload_n 2, 1) := by decide +kernel
theorem dX12_lays_256 : decode cX12_lays 256 = .ok (.aload_n 0, 1) := by decide +kernel
theorem dX12_lays_257 : decode cX12_lays 257 = .ok (.getfield 55, 3) := by decide +kernel
theorem dX12_lays_260 : decode cX12_lays 260 = .ok (.iload_n 2, 1) := by decide +kernel
theorem dX12_lays_261 : decode cX12_lays 261 = .ok (.iaload, 1) := by decide +kernel
theorem dX12_lays_262 : decode cX12_lays 262 = .ok (.iastore, 1) := by decide +kernel
theorem dX12_lays_263 : decode cX12_lays 263 = .ok (.iload_n 1, 1) := by decide +kernel
theorem dX12_lays_264 : decode cX12_lays 264 = .ok (.ifCond .eq 18, 3) := by decide +kernel
theorem dX12_lays_267 : decode cX12_lays 267 = .ok (.aload_n 0, 1) := by decide +kernel
theorem dX12_lays_268 : decode cX12_lays 268 = .ok (.getfield 58, 3) := by decide +kernel
theorem dX12_lays_271 : decode cX12_lays 271 = .ok (.iload_n 2, 1) := by decide +kernel
theorem dX12_lays_272 : decode cX12_lays 272 = .ok (.aload_n 0, 1) := by decide +kernel
theorem dX12_lays_273 : decode cX12_lays 273 = .ok (.getfield 37, 3) := by decide +kernel
theorem dX12_lays_276 : decode cX12_lays 276 = .ok (.iload_n 2, 1) := by decide +kernel
theorem dX12_lays_277 : decode cX12_lays 277 = .ok (.iaload, 1) := by decide +kernel
theorem dX12_lays_278 : decode cX12_lays 278 = .ok (.iastore, 1) := by decide +kernel
theorem dX12_lays_279 : decode cX12_lays 279 = .ok (.goto 15, 3) := by decide +kernel
theorem dX12_lays_282 : decode cX12_lays 282 = .ok (.aload_n 0, 1) := by decide +kernel
theorem dX12_lays_283 : decode cX12_lays 283 = .ok (.getfield 37, 3) := by decide +kernel
theorem dX12_lays_286 : decode cX12_lays 286 = .ok (.iload_n 2, 1) := by decide +kernel
theorem dX12_lays_287 : decode cX12_lays 287 = .ok (.aload_n 0, 1) := by decide +kernel
theorem dX12_lays_288 : decode cX12_lays 288 = .ok (.getfield 58, 3) := by decide +kernel
theorem dX12_lays_291 : decode cX12_lays 291 = .ok (.iload_n 2, 1) := by decide +kernel
theorem dX12_lays_292 : decode cX12_lays 292 = .ok (.iaload, 1) := by decide +kernel
theorem dX12_lays_293 : decode cX12_lays 293 = .ok (.iastore, 1) := by decide +kernel
theorem dX12_lays_294 : decode cX12_lays 294 = .ok (.iload_n 1, 1) := by decide +kernel
theorem dX12_lays_295 : decode cX12_lays 295 = .ok (.ifCond .eq 18, 3) := by decide +kernel
theorem dX12_lays_298 : decode cX12_lays 298 = .ok (.aload_n 0, 1) := by decide +kernel
theorem dX12_lays_299 : decode cX12_lays 299 = .ok (.getfield 61, 3) := by decide +kernel
theorem dX12_lays_302 : decode cX12_lays 302 = .ok (.iload_n 2, 1) := by decide +kernel
theorem dX12_lays_303 : decode cX12_lays 303 = .ok (.aload_n 0, 1) := by decide +kernel
theorem dX12_lays_304 : decode cX12_lays 304 = .ok (.getfield 40, 3) := by decide +kernel
theorem dX12_lays_307 : decode cX12_lays 307 = .ok (.iload_n 2, 1) := by decide +kernel
theorem dX12_lays_308 : decode cX12_lays 308 = .ok (.iaload, 1) := by decide +kernel
theorem dX12_lays_309 : decode cX12_lays 309 = .ok (.iastore, 1) := by decide +kernel
theorem dX12_lays_310 : decode cX12_lays 310 = .ok (.goto 15, 3) := by decide +kernel
theorem dX12_lays_313 : decode cX12_lays 313 = .ok (.aload_n 0, 1) := by decide +kernel
theorem dX12_lays_314 : decode cX12_lays 314 = .ok (.getfield 40, 3) := by decide +kernel
theorem dX12_lays_317 : decode cX12_lays 317 = .ok (.iload_n 2, 1) := by decide +kernel
theorem dX12_lays_318 : decode cX12_lays 318 = .ok (.aload_n 0, 1) := by decide +kernel
theorem dX12_lays_319 : decode cX12_lays 319 = .ok (.getfield 61, 3) := by decide +kernel
theorem dX12_lays_322 : decode cX12_lays 322 = .ok (.iload_n 2, 1) := by decide +kernel
theorem dX12_lays_323 : decode cX12_lays 323 = .ok (.iaload, 1) := by decide +kernel
theorem dX12_lays_324 : decode cX12_lays 324 = .ok (.iastore, 1) := by decide +kernel
theorem dX12_lays_325 : decode cX12_lays 325 = .ok (.iinc 2 1, 3) := by decide +kernel
theorem dX12_lays_328 : decode cX12_lays 328 = .ok (.goto (-103), 3) := by decide +kernel
theorem dX12_lays_331 : decode cX12_lays 331 = .ok (.return_, 1) := by decide +kernel
theorem dX12_find_0 : decode cX12_find 0 = .ok (.iconst 0, 1) := by decide +kernel
theorem dX12_find_1 : decode cX12_find 1 = .ok (.istore_n 2, 1) := by decide +kernel
theorem dX12_find_2 : decode cX12_find 2 = .ok (.iload_n 2, 1) := by decide +kernel
theorem dX12_find_3 : decode cX12_find 3 = .ok (.aload_n 0, 1) := by decide +kernel
theorem dX12_find_4 : decode cX12_find 4 = .ok (.getfield 159, 3) := by decide +kernel
theorem dX12_find_7 : decode cX12_find 7 = .ok (.if_icmp .ge 21, 3) := by decide +kernel
theorem dX12_find_10 : decode cX12_find 10 = .ok (.aload_n 0, 1) := by decide +kernel
theorem dX12_find_11 : decode cX12_find 11 = .ok (.getfield 20, 3) := by decide +kernel
theorem dX12_find_14 : decode cX12_find 14 = .ok (.iload_n 2, 1) := by decide +kernel
theorem dX12_find_15 : decode cX12_find 15 = .ok (.iaload, 1) := by decide +kernel
theorem dX12_find_16 : decode cX12_find 16 = .ok (.iload_n 1, 1) := by decide +kernel
theorem dX12_find_17 : decode cX12_find 17 = .ok (.if_icmp .ne 5, 3) := by decide +kernel
theorem dX12_find_20 : decode cX12_find 20 = .ok (.iload_n 2, 1) := by decide +kernel
theorem dX12_find_21 : decode cX12_find 21 = .ok (.ireturn, 1) := by decide +kernel
theorem dX12_find_22 : decode cX12_find 22 = .ok (.iinc 2 1, 3) := by decide +kernel
theorem dX12_find_25 : decode cX12_find 25 = .ok (.goto (-23), 3) := by decide +kernel
theorem dX12_find_28 : decode cX12_find 28 = .ok (.iconst (-1), 1) := by decide +kernel
theorem dX12_find_29 : decode cX12_find 29 = .ok (.ireturn, 1) := by decide +kernel
theorem dX12_header_0 : decode cX12_header 0 = .ok (.aload_n 0, 1) := by decide +kernel
theorem dX12_header_1 : decode cX12_header 1 = .ok (.iconst 0, 1) := by decide +kernel
theorem dX12_header_2 : decode cX12_header 2 = .ok (.putfield 159, 3) := by decide +kernel
theorem dX12_header_5 : decode cX12_header 5 = .ok (.aload_n 0, 1) := by decide +kernel
theorem dX12_header_6 : decode cX12_header 6 = .ok (.iconst 0, 1) := by decide +kernel
theorem dX12_header_7 : decode cX12_header 7 = .ok (.putfield 165, 3) := by decide +kernel
theorem dX12_header_10 : decode cX12_header 10 = .ok (.iconst 0, 1) := by decide +kernel
theorem dX12_header_11 : decode cX12_header 11 = .ok (.istore_n 1, 1) := by decide +kernel
theorem dX12_header_12 : decode cX12_header 12 = .ok (.aload_n 0, 1) := by decide +kernel
theorem dX12_header_13 : decode cX12_header 13 = .ok (.getfield 140, 3) := by decide +kernel
theorem dX12_header_16 : decode cX12_header 16 = .ok (.bipush 58, 2) := by decide +kernel
theorem dX12_header_18 : decode cX12_header 18 = .ok (.if_icmp .eq 7, 3) := by decide +kernel
theorem dX12_header_21 : decode cX12_header 21 = .ok (.iconst 1, 1) := by decide +kernel
theorem dX12_header_22 : decode cX12_header 22 = .ok (.goto 4, 3) := by decide +kernel
theorem dX12_header_25 : decode cX12_header 25 = .ok (.iconst 0, 1) := by decide +kernel
theorem dX12_header_26 : decode cX12_header 26 = .ok (.istore_n 2, 1) := by decide +kernel
theorem dX12_header_27 : decode cX12_header 27 = .ok (.iload_n 2, 1) := by decide +kernel
theorem dX12_header_28 : decode cX12_header 28 = .ok (.ifCond .eq 278, 3) := by decide +kernel
theorem dX12_header_31 : decode cX12_header 31 = .ok (.aload_n 0, 1) := by decide +kernel
theorem dX12_header_32 : decode cX12_header 32 = .ok (.getfield 140, 3) := by decide +kernel
theorem dX12_header_35 : decode cX12_header 35 = .ok (.bipush 115, 2) := by decide +kernel
theorem dX12_header_37 : decode cX12_header 37 = .ok (.if_icmp .eq 18, 3) := by decide +kernel
theorem dX12_header_40 : decode cX12_header 40 = .ok (.aload_n 0, 1) := by decide +kernel
theorem dX12_header_41 : decode cX12_header 41 = .ok (.getfield 140, 3) := by decide +kernel
theorem dX12_header_44 : decode cX12_header 44 = .ok (.bipush 97, 2) := by decide +kernel
theorem dX12_header_46 : decode cX12_header 46 = .ok (.if_icmp .eq 9, 3) := by decide +kernel
theorem dX12_header_49 : decode cX12_header 49 = .ok (.aload_n 0, 1) := by decide +kernel
theorem dX12_header_50 : decode cX12_header 50 = .ok (.iconst 1, 1) := by decide +kernel
theorem dX12_header_51 : decode cX12_header 51 = .ok (.invokevirtual 153, 3) := by decide +kernel
theorem dX12_header_54 : decode cX12_header 54 = .ok (.ireturn, 1) := by decide +kernel
theorem dX12_header_55 : decode cX12_header 55 = .ok (.iload_n 1, 1) := by decide +kernel
theorem dX12_header_56 : decode cX12_header 56 = .ok (.bipush 6, 2) := by decide +kernel
theorem dX12_header_58 : decode cX12_header 58 = .ok (.if_icmp .ne 9, 3) := by decide +kernel
theorem dX12_header_61 : decode cX12_header 61 = .ok (.aload_n 0, 1) := by decide +kernel
theorem dX12_header_62 : decode cX12_header 62 = .ok (.iconst 4, 1) := by decide +kernel
theorem dX12_header_63 : decode cX12_header 63 = .ok (.invokevirtual 153, 3) := by decide +kernel
theorem dX12_header_66 : decode cX12_header 66 = .ok (.ireturn, 1) := by decide +kernel
theorem dX12_header_67 : decode cX12_header 67 = .ok (.iload_n 1, 1) := by decide +kernel
theorem dX12_header_68 : decode cX12_header 68 = .ok (.iconst 1, 1) := by decide +kernel
theorem dX12_header_69 : decode cX12_header 69 = .ok (.iadd, 1) := by decide +kernel
theorem dX12_header_70 : decode cX12_header 70 = .ok (.istore_n 1, 1) := by decide +kernel
theorem dX12_header_71 : decode cX12_header 71 = .ok (.aload_n 0, 1) := by decide +kernel
theorem dX12_header_72 : decode cX12_header 72 = .ok (.getfield 140, 3) := by decide +kernel
theorem dX12_header_75 : decode cX12_header 75 = .ok (.bipush 97, 2) := by decide +kernel
theorem dX12_header_77 : decode cX12_header 77 = .ok (.if_icmp .ne 7, 3) := by decide +kernel
theorem dX12_header_80 : decode cX12_header 80 = .ok (.iconst 1, 1) := by decide +kernel
theorem dX12_header_81 : decode cX12_header 81 = .ok (.goto 4, 3) := by decide +kernel
theorem dX12_header_84 : decode cX12_header 84 = .ok (.iconst 0, 1) := by decide +kernel
theorem dX12_header_85 : decode cX12_header 85 = .ok (.istore_n 3, 1) := by decide +kernel
theorem dX12_header_86 : decode cX12_header 86 = .ok (.aload_n 0, 1) := by decide +kernel
theorem dX12_header_87 : decode cX12_header 87 = .ok (.getfield 165, 3) := by decide +kernel
theorem dX12_header_90 : decode cX12_header 90 = .ok (.ifCond .eq 18, 3) := by decide +kernel
theorem dX12_header_93 : decode cX12_header 93 = .ok (.aload_n 0, 1) := by decide +kernel
theorem dX12_header_94 : decode cX12_header 94 = .ok (.getfield 30, 3) := by decide +kernel
theorem dX12_header_97 : decode cX12_header 97 = .ok (.aload_n 0, 1) := by decide +kernel
theorem dX12_header_98 : decode cX12_header 98 = .ok (.getfield 165, 3) := by decide +kernel
theorem dX12_header_101 : decode cX12_header 101 = .ok (.iconst 1, 1) := by decide +kernel
theorem dX12_header_102 : decode cX12_header 102 = .ok (.isub, 1) := by decide +kernel
theorem dX12_header_103 : decode cX12_header 103 = .ok (.baload, 1) := by decide +kernel
theorem dX12_header_104 : decode cX12_header 104 = .ok (.iload_n 3, 1) := by decide +kernel
theorem dX12_header_105 : decode cX12_header 105 = .ok (.if_icmp .eq 33, 3) := by decide +kernel
theorem dX12_header_108 : decode cX12_header 108 = .ok (.aload_n 0, 1) := by decide +kernel
theorem dX12_header_109 : decode cX12_header 109 = .ok (.getfield 30, 3) := by decide +kernel
theorem dX12_header_112 : decode cX12_header 112 = .ok (.aload_n 0, 1) := by decide +kernel
theorem dX12_header_113 : decode cX12_header 113 = .ok (.getfield 165, 3) := by decide +kernel
theorem dX12_header_116 : decode cX12_header 116 = .ok (.iload_n 3, 1) := by decide +kernel
theorem dX12_header_117 : decode cX12_header 117 = .ok (.bastore, 1) := by decide +kernel
theorem dX12_header_118 : decode cX12_header 118 = .ok (.aload_n 0, 1) := by decide +kernel
theorem dX12_header_119 : decode cX12_header 119 = .ok (.getfield 27, 3) := by decide +kernel
theorem dX12_header_122 : decode cX12_header 122 = .ok (.aload_n 0, 1) := by decide +kernel
theorem dX12_header_123 : decode cX12_header 123 = .ok (.getfield 165, 3) := by decide +kernel
theorem dX12_header_126 : decode cX12_header 126 = .ok (.iconst 0, 1) := by decide +kernel
theorem dX12_header_127 : decode cX12_header 127 = .ok (.iastore, 1) := by decide +kernel
theorem dX12_header_128 : decode cX12_header 128 = .ok (.aload_n 0, 1) := by decide +kernel
theorem dX12_header_129 : decode cX12_header 129 = .ok (.aload_n 0, 1) := by decide +kernel
theorem dX12_header_130 : decode cX12_header 130 = .ok (.getfield 165, 3) := by decide +kernel
theorem dX12_header_133 : decode cX12_header 133 = .ok (.iconst 1, 1) := by decide +kernel
theorem dX12_header_134 : decode cX12_header 134 = .ok (.iadd, 1) := by decide +kernel
theorem dX12_header_135 : decode cX12_header 135 = .ok (.putfield 165, 3) := by decide +kernel
theorem dX12_header_138 : decode cX12_header 138 = .ok (.aload_n 0, 1) := by decide +kernel
theorem dX12_header_139 : decode cX12_header 139 = .ok (.invokevirtual 177, 3) := by decide +kernel
theorem dX12_header_142 : decode cX12_header 142 = .ok (.ifCond .ne 5, 3) := by decide +kernel
theorem dX12_header_145 : decode cX12_header 145 = .ok (.iconst 0, 1) := by decide +kernel
theorem dX12_header_146 : decode cX12_header 146 = .ok (.ireturn, 1) := by decide +kernel
theorem dX12_header_147 : decode cX12_header 147 = .ok (.aload_n 0, 1) := by decide +kernel
theorem dX12_header_148 : decode cX12_header 148 = .ok (.getfield 140, 3) := by decide +kernel
