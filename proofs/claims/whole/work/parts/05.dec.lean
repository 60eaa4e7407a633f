theorem dX7_spells_25 : decode cX7_spells 25 = .ok (.getfield 32, 3) := by decide +kernel
theorem dX7_spells_28 : decode cX7_spells 28 = .ok (.iload_n 3, 1) := by decide +kernel
theorem dX7_spells_29 : decode cX7_spells 29 = .ok (.iadd, 1) := by decide +kernel
theorem dX7_spells_30 : decode cX7_spells 30 = .ok (.invokevirtual 22, 3) := by decide +kernel
theorem dX7_spells_33 : decode cX7_spells 33 = .ok (.aload_n 1, 1) := by decide +kernel
theorem dX7_spells_34 : decode cX7_spells 34 = .ok (.iload_n 3, 1) := by decide +kernel
theorem dX7_spells_35 : decode cX7_spells 35 = .ok (.invokevirtual 70, 3) := by decide +kernel
theorem dX7_spells_38 : decode cX7_spells 38 = .ok (.if_icmp .eq 5, 3) := by decide +kernel
theorem dX7_spells_41 : decode cX7_spells 41 = .ok (.iconst 0, 1) := by decide +kernel
theorem dX7_spells_42 : decode cX7_spells 42 = .ok (.ireturn, 1) := by decide +kernel
theorem dX7_spells_43 : decode cX7_spells 43 = .ok (.iinc 3 1, 3) := by decide +kernel
theorem dX7_spells_46 : decode cX7_spells 46 = .ok (.goto (-34), 3) := by decide +kernel
theorem dX7_spells_49 : decode cX7_spells 49 = .ok (.iconst 1, 1) := by decide +kernel
theorem dX7_spells_50 : decode cX7_spells 50 = .ok (.ireturn, 1) := by decide +kernel
theorem dX7_kindOfSign_0 : decode cX7_kindOfSign 0 = .ok (.iload_n 0, 1) := by decide +kernel
theorem dX7_kindOfSign_1 : decode cX7_kindOfSign 1 = .ok (.invokestatic 74, 3) := by decide +kernel
theorem dX7_kindOfSign_4 : decode cX7_kindOfSign 4 = .ok (.ifCond .gt 27, 3) := by decide +kernel
theorem dX7_kindOfSign_7 : decode cX7_kindOfSign 7 = .ok (.iload_n 0, 1) := by decide +kernel
theorem dX7_kindOfSign_8 : decode cX7_kindOfSign 8 = .ok (.bipush 40, 2) := by decide +kernel
theorem dX7_kindOfSign_10 : decode cX7_kindOfSign 10 = .ok (.if_icmp .eq 21, 3) := by decide +kernel
theorem dX7_kindOfSign_13 : decode cX7_kindOfSign 13 = .ok (.iload_n 0, 1) := by decide +kernel
theorem dX7_kindOfSign_14 : decode cX7_kindOfSign 14 = .ok (.bipush 41, 2) := by decide +kernel
theorem dX7_kindOfSign_16 : decode cX7_kindOfSign 16 = .ok (.if_icmp .eq 15, 3) := by decide +kernel
theorem dX7_kindOfSign_19 : decode cX7_kindOfSign 19 = .ok (.iload_n 0, 1) := by decide +kernel
theorem dX7_kindOfSign_20 : decode cX7_kindOfSign 20 = .ok (.bipush 59, 2) := by decide +kernel
theorem dX7_kindOfSign_22 : decode cX7_kindOfSign 22 = .ok (.if_icmp .eq 9, 3) := by decide +kernel
theorem dX7_kindOfSign_25 : decode cX7_kindOfSign 25 = .ok (.iload_n 0, 1) := by decide +kernel
theorem dX7_kindOfSign_26 : decode cX7_kindOfSign 26 = .ok (.bipush 58, 2) := by decide +kernel
theorem dX7_kindOfSign_28 : decode cX7_kindOfSign 28 = .ok (.if_icmp .ne 7, 3) := by decide +kernel
theorem dX7_kindOfSign_31 : decode cX7_kindOfSign 31 = .ok (.iconst 1, 1) := by decide +kernel
theorem dX7_kindOfSign_32 : decode cX7_kindOfSign 32 = .ok (.goto 4, 3) := by decide +kernel
theorem dX7_kindOfSign_35 : decode cX7_kindOfSign 35 = .ok (.iconst 0, 1) := by decide +kernel
theorem dX7_kindOfSign_36 : decode cX7_kindOfSign 36 = .ok (.istore_n 1, 1) := by decide +kernel
theorem dX7_kindOfSign_37 : decode cX7_kindOfSign 37 = .ok (.iload_n 1, 1) := by decide +kernel
theorem dX7_kindOfSign_38 : decode cX7_kindOfSign 38 = .ok (.ifCond .eq 7, 3) := by decide +kernel
theorem dX7_kindOfSign_41 : decode cX7_kindOfSign 41 = .ok (.iload_n 0, 1) := by decide +kernel
theorem dX7_kindOfSign_42 : decode cX7_kindOfSign 42 = .ok (.goto 6, 3) := by decide +kernel
theorem dX7_kindOfSign_45 : decode cX7_kindOfSign 45 = .ok (.sipush 515, 3) := by decide +kernel
theorem dX7_kindOfSign_48 : decode cX7_kindOfSign 48 = .ok (.ireturn, 1) := by decide +kernel
theorem dX7_isBlank_0 : decode cX7_isBlank 0 = .ok (.iload_n 0, 1) := by decide +kernel
theorem dX7_isBlank_1 : decode cX7_isBlank 1 = .ok (.bipush 32, 2) := by decide +kernel
theorem dX7_isBlank_3 : decode cX7_isBlank 3 = .ok (.if_icmp .eq 9, 3) := by decide +kernel
theorem dX7_isBlank_6 : decode cX7_isBlank 6 = .ok (.iload_n 0, 1) := by decide +kernel
theorem dX7_isBlank_7 : decode cX7_isBlank 7 = .ok (.bipush 10, 2) := by decide +kernel
theorem dX7_isBlank_9 : decode cX7_isBlank 9 = .ok (.if_icmp .ne 7, 3) := by decide +kernel
theorem dX7_isBlank_12 : decode cX7_isBlank 12 = .ok (.iconst 1, 1) := by decide +kernel
theorem dX7_isBlank_13 : decode cX7_isBlank 13 = .ok (.goto 4, 3) := by decide +kernel
theorem dX7_isBlank_16 : decode cX7_isBlank 16 = .ok (.iconst 0, 1) := by decide +kernel
theorem dX7_isBlank_17 : decode cX7_isBlank 17 = .ok (.ireturn, 1) := by decide +kernel
theorem dX7_isSmallLetter_0 : decode cX7_isSmallLetter 0 = .ok (.iload_n 0, 1) := by decide +kernel
theorem dX7_isSmallLetter_1 : decode cX7_isSmallLetter 1 = .ok (.bipush 97, 2) := by decide +kernel
theorem dX7_isSmallLetter_3 : decode cX7_isSmallLetter 3 = .ok (.if_icmp .lt 13, 3) := by decide +kernel
theorem dX7_isSmallLetter_6 : decode cX7_isSmallLetter 6 = .ok (.iload_n 0, 1) := by decide +kernel
theorem dX7_isSmallLetter_7 : decode cX7_isSmallLetter 7 = .ok (.bipush 122, 2) := by decide +kernel
theorem dX7_isSmallLetter_9 : decode cX7_isSmallLetter 9 = .ok (.if_icmp .gt 7, 3) := by decide +kernel
theorem dX7_isSmallLetter_12 : decode cX7_isSmallLetter 12 = .ok (.iconst 1, 1) := by decide +kernel
theorem dX7_isSmallLetter_13 : decode cX7_isSmallLetter 13 = .ok (.goto 4, 3) := by decide +kernel
theorem dX7_isSmallLetter_16 : decode cX7_isSmallLetter 16 = .ok (.iconst 0, 1) := by decide +kernel
theorem dX7_isSmallLetter_17 : decode cX7_isSmallLetter 17 = .ok (.ireturn, 1) := by decide +kernel
theorem dX7_isDigit_0 : decode cX7_isDigit 0 = .ok (.iload_n 0, 1) := by decide +kernel
theorem dX7_isDigit_1 : decode cX7_isDigit 1 = .ok (.bipush 48, 2) := by decide +kernel
theorem dX7_isDigit_3 : decode cX7_isDigit 3 = .ok (.if_icmp .lt 13, 3) := by decide +kernel
theorem dX7_isDigit_6 : decode cX7_isDigit 6 = .ok (.iload_n 0, 1) := by decide +kernel
theorem dX7_isDigit_7 : decode cX7_isDigit 7 = .ok (.bipush 57, 2) := by decide +kernel
theorem dX7_isDigit_9 : decode cX7_isDigit 9 = .ok (.if_icmp .gt 7, 3) := by decide +kernel
theorem dX7_isDigit_12 : decode cX7_isDigit 12 = .ok (.iconst 1, 1) := by decide +kernel
theorem dX7_isDigit_13 : decode cX7_isDigit 13 = .ok (.goto 4, 3) := by decide +kernel
theorem dX7_isDigit_16 : decode cX7_isDigit 16 = .ok (.iconst 0, 1) := by decide +kernel
theorem dX7_isDigit_17 : decode cX7_isDigit 17 = .ok (.ireturn, 1) := by decide +kernel
theorem dX7_isLetterOrDigit_0 : decode cX7_isLetterOrDigit 0 = .ok (.iload_n 0, 1) := by decide +kernel
theorem dX7_isLetterOrDigit_1 : decode cX7_isLetterOrDigit 1 = .ok (.invokestatic 47, 3) := by decide +kernel
theorem dX7_isLetterOrDigit_4 : decode cX7_isLetterOrDigit 4 = .ok (.ifCond .ne 22, 3) := by decide +kernel
theorem dX7_isLetterOrDigit_7 : decode cX7_isLetterOrDigit 7 = .ok (.iload_n 0, 1) := by decide +kernel
theorem dX7_isLetterOrDigit_8 : decode cX7_isLetterOrDigit 8 = .ok (.bipush 65, 2) := by decide +kernel
theorem dX7_isLetterOrDigit_10 : decode cX7_isLetterOrDigit 10 = .ok (.if_icmp .lt 9, 3) := by decide +kernel
theorem dX7_isLetterOrDigit_13 : decode cX7_isLetterOrDigit 13 = .ok (.iload_n 0, 1) := by decide +kernel
theorem dX7_isLetterOrDigit_14 : decode cX7_isLetterOrDigit 14 = .ok (.bipush 90, 2) := by decide +kernel
theorem dX7_isLetterOrDigit_16 : decode cX7_isLetterOrDigit 16 = .ok (.if_icmp .le 10, 3) := by decide +kernel
theorem dX7_isLetterOrDigit_19 : decode cX7_isLetterOrDigit 19 = .ok (.iload_n 0, 1) := by decide +kernel
theorem dX7_isLetterOrDigit_20 : decode cX7_isLetterOrDigit 20 = .ok (.invokestatic 50, 3) := by decide +kernel
theorem dX7_isLetterOrDigit_23 : decode cX7_isLetterOrDigit 23 = .ok (.ifCond .eq 7, 3) := by decide +kernel
theorem dX7_isLetterOrDigit_26 : decode cX7_isLetterOrDigit 26 = .ok (.iconst 1, 1) := by decide +kernel
theorem dX7_isLetterOrDigit_27 : decode cX7_isLetterOrDigit 27 = .ok (.goto 4, 3) := by decide +kernel
theorem dX7_isLetterOrDigit_30 : decode cX7_isLetterOrDigit 30 = .ok (.iconst 0, 1) := by decide +kernel
theorem dX7_isLetterOrDigit_31 : decode cX7_isLetterOrDigit 31 = .ok (.ireturn, 1) := by decide +kernel
theorem dX8_init_0 : decode cX8_init 0 = .ok (.aload_n 0, 1) := by decide +kernel
theorem dX8_init_1 : decode cX8_init 1 = .ok (.invokespecial 3, 3) := by decide +kernel
theorem dX8_init_4 : decode cX8_init 4 = .ok (.aload_n 0, 1) := by decide +kernel
theorem dX8_init_5 : decode cX8_init 5 = .ok (.bipush 16, 2) := by decide +kernel
theorem dX8_init_7 : decode cX8_init 7 = .ok (.newarray .long, 2) := by decide +kernel
theorem dX8_init_9 : decode cX8_init 9 = .ok (.putfield 9, 3) := by decide +kernel
theorem dX8_init_12 : decode cX8_init 12 = .ok (.aload_n 0, 1) := by decide +kernel
theorem dX8_init_13 : decode cX8_init 13 = .ok (.bipush 10, 2) := by decide +kernel
theorem dX8_init_15 : decode cX8_init 15 = .ok (.newarray .int, 2) := by decide +kernel
theorem dX8_init_17 : decode cX8_init 17 = .ok (.putfield 15, 3) := by decide +kernel
theorem dX8_init_20 : decode cX8_init 20 = .ok (.return_, 1) := by decide +kernel
theorem dX8_letOwnersChoose_0 : decode cX8_letOwnersChoose 0 = .ok (.aload_n 0, 1) := by decide +kernel
theorem dX8_letOwnersChoose_1 : decode cX8_letOwnersChoose 1 = .ok (.aload_n 1, 1) := by decide +kernel
theorem dX8_letOwnersChoose_2 : decode cX8_letOwnersChoose 2 = .ok (.getfield 19, 3) := by decide +kernel
theorem dX8_letOwnersChoose_5 : decode cX8_letOwnersChoose 5 = .ok (.putfield 25, 3) := by decide +kernel
theorem dX8_letOwnersChoose_8 : decode cX8_letOwnersChoose 8 = .ok (.iconst 0, 1) := by decide +kernel
theorem dX8_letOwnersChoose_9 : decode cX8_letOwnersChoose 9 = .ok (.istore_n 2, 1) := by decide +kernel
theorem dX8_letOwnersChoose_10 : decode cX8_letOwnersChoose 10 = .ok (.iload_n 2, 1) := by decide +kernel
theorem dX8_letOwnersChoose_11 : decode cX8_letOwnersChoose 11 = .ok (.aload_n 0, 1) := by decide +kernel
theorem dX8_letOwnersChoose_12 : decode cX8_letOwnersChoose 12 = .ok (.getfield 25, 3) := by decide +kernel
theorem dX8_letOwnersChoose_15 : decode cX8_letOwnersChoose 15 = .ok (.if_icmp .ge 30, 3) := by decide +kernel
theorem dX8_letOwnersChoose_18 : decode cX8_letOwnersChoose 18 = .ok (.iload_n 2, 1) := by decide +kernel
theorem dX8_letOwnersChoose_19 : decode cX8_letOwnersChoose 19 = .ok (.bipush 10, 2) := by decide +kernel
theorem dX8_letOwnersChoose_21 : decode cX8_letOwnersChoose 21 = .ok (.if_icmp .ge 24, 3) := by decide +kernel
theorem dX8_letOwnersChoose_24 : decode cX8_letOwnersChoose 24 = .ok (.aload_n 0, 1) := by decide +kernel
theorem dX8_letOwnersChoose_25 : decode cX8_letOwnersChoose 25 = .ok (.getfield 15, 3) := by decide +kernel
theorem dX8_letOwnersChoose_28 : decode cX8_letOwnersChoose 28 = .ok (.iload_n 2, 1) := by decide +kernel
theorem dX8_letOwnersChoose_29 : decode cX8_letOwnersChoose 29 = .ok (.aload_n 1, 1) := by decide +kernel
theorem dX8_letOwnersChoose_30 : decode cX8_letOwnersChoose 30 = .ok (.aload_n 1, 1) := by decide +kernel
theorem dX8_letOwnersChoose_31 : decode cX8_letOwnersChoose 31 = .ok (.iload_n 2, 1) := by decide +kernel
theorem dX8_letOwnersChoose_32 : decode cX8_letOwnersChoose 32 = .ok (.invokevirtual 26, 3) := by decide +kernel
theorem dX8_letOwnersChoose_35 : decode cX8_letOwnersChoose 35 = .ok (.invokevirtual 30, 3) := by decide +kernel
theorem dX8_letOwnersChoose_38 : decode cX8_letOwnersChoose 38 = .ok (.iastore, 1) := by decide +kernel
theorem dX8_letOwnersChoose_39 : decode cX8_letOwnersChoose 39 = .ok (.iinc 2 1, 3) := by decide +kernel
theorem dX8_letOwnersChoose_42 : decode cX8_letOwnersChoose 42 = .ok (.goto (-32), 3) := by decide +kernel
theorem dX8_letOwnersChoose_45 : decode cX8_letOwnersChoose 45 = .ok (.return_, 1) := by decide +kernel
theorem dX8_fix_0 : decode cX8_fix 0 = .ok (.iload_n 1, 1) := by decide +kernel
theorem dX8_fix_1 : decode cX8_fix 1 = .ok (.bipush 10, 2) := by decide +kernel
theorem dX8_fix_3 : decode cX8_fix 3 = .ok (.invokestatic 33, 3) := by decide +kernel
theorem dX8_fix_6 : decode cX8_fix 6 = .ok (.ifCond .eq 12, 3) := by decide +kernel
theorem dX8_fix_9 : decode cX8_fix 9 = .ok (.aload_n 0, 1) := by decide +kernel
theorem dX8_fix_10 : decode cX8_fix 10 = .ok (.getfield 15, 3) := by decide +kernel
theorem dX8_fix_13 : decode cX8_fix 13 = .ok (.iload_n 1, 1) := by decide +kernel
theorem dX8_fix_14 : decode cX8_fix 14 = .ok (.iconst 2, 1) := by decide +kernel
theorem dX8_fix_15 : decode cX8_fix 15 = .ok (.iload_n 2, 1) := by decide +kernel
theorem dX8_fix_16 : decode cX8_fix 16 = .ok (.iadd, 1) := by decide +kernel
theorem dX8_fix_17 : decode cX8_fix 17 = .ok (.iastore, 1) := by decide +kernel
theorem dX8_fix_18 : decode cX8_fix 18 = .ok (.return_, 1) := by decide +kernel
theorem dX8_turnBlock_0 : decode cX8_turnBlock 0 = .ok (.iconst 0, 1) := by decide +kernel
theorem dX8_turnBlock_1 : decode cX8_turnBlock 1 = .ok (.istore_n 3, 1) := by decide +kernel
theorem dX8_turnBlock_2 : decode cX8_turnBlock 2 = .ok (.iload_n 3, 1) := by decide +kernel
theorem dX8_turnBlock_3 : decode cX8_turnBlock 3 = .ok (.aload_n 0, 1) := by decide +kernel
theorem dX8_turnBlock_4 : decode cX8_turnBlock 4 = .ok (.getfield 25, 3) := by decide +kernel
theorem dX8_turnBlock_7 : decode cX8_turnBlock 7 = .ok (.if_icmp .ge 44, 3) := by decide +kernel
theorem dX8_turnBlock_10 : decode cX8_turnBlock 10 = .ok (.iload_n 3, 1) := by decide +kernel
theorem dX8_turnBlock_11 : decode cX8_turnBlock 11 = .ok (.bipush 10, 2) := by decide +kernel
theorem dX8_turnBlock_13 : decode cX8_turnBlock 13 = .ok (.if_icmp .ge 38, 3) := by decide +kernel
theorem dX8_turnBlock_16 : decode cX8_turnBlock 16 = .ok (.aload_n 1, 1) := by decide +kernel
theorem dX8_turnBlock_17 : decode cX8_turnBlock 17 = .ok (.iload_n 3, 1) := by decide +kernel
theorem dX8_turnBlock_18 : decode cX8_turnBlock 18 = .ok (.invokevirtual 26, 3) := by decide +kernel
theorem dX8_turnBlock_21 : decode cX8_turnBlock 21 = .ok (.iload_n 2, 1) := by decide +kernel
theorem dX8_turnBlock_22 : decode cX8_turnBlock 22 = .ok (.if_icmp .ne 23, 3) := by decide +kernel
theorem dX8_turnBlock_25 : decode cX8_turnBlock 25 = .ok (.aload_n 0, 1) := by decide +kernel
theorem dX8_turnBlock_26 : decode cX8_turnBlock 26 = .ok (.getfield 15, 3) := by decide +kernel
theorem dX8_turnBlock_29 : decode cX8_turnBlock 29 = .ok (.iload_n 3, 1) := by decide +kernel
theorem dX8_turnBlock_30 : decode cX8_turnBlock 30 = .ok (.aload_n 0, 1) := by decide +kernel
theorem dX8_turnBlock_31 : decode cX8_turnBlock 31 = .ok (.getfield 15, 3) := by decide +kernel
theorem dX8_turnBlock_34 : decode cX8_turnBlock 34 = .ok (.iload_n 3, 1) := by decide +kernel
theorem dX8_turnBlock_35 : decode cX8_turnBlock 35 = .ok (.iaload, 1) := by decide +kernel
theorem dX8_turnBlock_36 : decode cX8_turnBlock 36 = .ok (.ifCond .ne 7, 3) := by decide +kernel
theorem dX8_turnBlock_39 : decode cX8_turnBlock 39 = .ok (.iconst 1, 1) := by decide +kernel
theorem dX8_turnBlock_40 : decode cX8_turnBlock 40 = .ok (.goto 4, 3) := by decide +kernel
theorem dX8_turnBlock_43 : decode cX8_turnBlock 43 = .ok (.iconst 0, 1) := by decide +kernel
theorem dX8_turnBlock_44 : decode cX8_turnBlock 44 = .ok (.iastore, 1) := by decide +kernel
theorem dX8_turnBlock_45 : decode cX8_turnBlock 45 = .ok (.iinc 3 1, 3) := by decide +kernel
theorem dX8_turnBlock_48 : decode cX8_turnBlock 48 = .ok (.goto (-46), 3) := by decide +kernel
theorem dX8_turnBlock_51 : decode cX8_turnBlock 51 = .ok (.return_, 1) := by decide +kernel
theorem dX8_fold_0 : decode cX8_fold 0 = .ok (.aload_n 0, 1) := by decide +kernel
theorem dX8_fold_1 : decode cX8_fold 1 = .ok (.aload_n 1, 1) := by decide +kernel
theorem dX8_fold_2 : decode cX8_fold 2 = .ok (.iload_n 2, 1) := by decide +kernel
theorem dX8_fold_3 : decode cX8_fold 3 = .ok (.iload_n 3, 1) := by decide +kernel
theorem dX8_fold_4 : decode cX8_fold 4 = .ok (.invokevirtual 37, 3) := by decide +kernel
theorem dX8_fold_7 : decode cX8_fold 7 = .ok (.aload_n 0, 1) := by decide +kernel
theorem dX8_fold_8 : decode cX8_fold 8 = .ok (.aload_n 0, 1) := by decide +kernel
theorem dX8_fold_9 : decode cX8_fold 9 = .ok (.getfield 25, 3) := by decide +kernel
theorem dX8_fold_12 : decode cX8_fold 12 = .ok (.iload 4, 2) := by decide +kernel
theorem dX8_fold_14 : decode cX8_fold 14 = .ok (.isub, 1) := by decide +kernel
theorem dX8_fold_15 : decode cX8_fold 15 = .ok (.putfield 41, 3) := by decide +kernel
theorem dX8_fold_18 : decode cX8_fold 18 = .ok (.iconst 0, 1) := by decide +kernel
theorem dX8_fold_19 : decode cX8_fold 19 = .ok (.istore 5, 2) := by decide +kernel
theorem dX8_fold_21 : decode cX8_fold 21 = .ok (.iload 5, 2) := by decide +kernel
theorem dX8_fold_23 : decode cX8_fold 23 = .ok (.aload_n 0, 1) := by decide +kernel
theorem dX8_fold_24 : decode cX8_fold 24 = .ok (.getfield 41, 3) := by decide +kernel
theorem dX8_fold_27 : decode cX8_fold 27 = .ok (.if_icmp .ge 24, 3) := by decide +kernel
theorem dX8_fold_30 : decode cX8_fold 30 = .ok (.aload_n 0, 1) := by decide +kernel
theorem dX8_fold_31 : decode cX8_fold 31 = .ok (.iload 5, 2) := by decide +kernel
theorem dX8_fold_33 : decode cX8_fold 33 = .ok (.aload_n 0, 1) := by decide +kernel
theorem dX8_fold_34 : decode cX8_fold 34 = .ok (.getfield 25, 3) := by decide +kernel
theorem dX8_fold_37 : decode cX8_fold 37 = .ok (.iconst 1, 1) := by decide +kernel
theorem dX8_fold_38 : decode cX8_fold 38 = .ok (.isub, 1) := by decide +kernel
theorem dX8_fold_39 : decode cX8_fold 39 = .ok (.iload 5, 2) := by decide +kernel
theorem dX8_fold_41 : decode cX8_fold 41 = .ok (.isub, 1) := by decide +kernel
theorem dX8_fold_42 : decode cX8_fold 42 = .ok (.invokevirtual 44, 3) := by decide +kernel
theorem dX8_fold_45 : decode cX8_fold 45 = .ok (.iinc 5 1, 3) := by decide +kernel
theorem dX8_fold_48 : decode cX8_fold 48 = .ok (.goto (-27), 3) := by decide +kernel
theorem dX8_fold_51 : decode cX8_fold 51 = .ok (.return_, 1) := by decide +kernel
theorem dX8_outcome_0 : decode cX8_outcome 0 = .ok (.iload_n 1, 1) := by decide +kernel
theorem dX8_outcome_1 : decode cX8_outcome 1 = .ok (.aload_n 0, 1) := by decide +kernel
theorem dX8_outcome_2 : decode cX8_outcome 2 = .ok (.getfield 41, 3) := by decide +kernel
theorem dX8_outcome_5 : decode cX8_outcome 5 = .ok (.ishl, 1) := by decide +kernel
theorem dX8_outcome_6 : decode cX8_outcome 6 = .ok (.istore_n 2, 1) := by decide +kernel
theorem dX8_outcome_7 : decode cX8_outcome 7 = .ok (.iload_n 2, 1) := by decide +kernel
theorem dX8_outcome_8 : decode cX8_outcome 8 = .ok (.bipush 6, 2) := by decide +kernel
theorem dX8_outcome_10 : decode cX8_outcome 10 = .ok (.ishr, 1) := by decide +kernel
theorem dX8_outcome_11 : decode cX8_outcome 11 = .ok (.istore_n 3, 1) := by decide +kernel
theorem dX8_outcome_12 : decode cX8_outcome 12 = .ok (.iload_n 3, 1) := by decide +kernel
theorem dX8_outcome_13 : decode cX8_outcome 13 = .ok (.bipush 16, 2) := by decide +kernel
theorem dX8_outcome_15 : decode cX8_outcome 15 = .ok (.invokestatic 33, 3) := by decide +kernel
theorem dX8_outcome_18 : decode cX8_outcome 18 = .ok (.ifCond .eq 20, 3) := by decide +kernel
theorem dX8_outcome_21 : decode cX8_outcome 21 = .ok (.aload_n 0, 1) := by decide +kernel
theorem dX8_outcome_22 : decode cX8_outcome 22 = .ok (.getfield 9, 3) := by decide +kernel
theorem dX8_outcome_25 : decode cX8_outcome 25 = .ok (.iload_n 3, 1) := by decide +kernel
theorem dX8_outcome_26 : decode cX8_outcome 26 = .ok (.laload, 1) := by decide +kernel
theorem dX8_outcome_27 : decode cX8_outcome 27 = .ok (.iload_n 2, 1) := by decide +kernel
theorem dX8_outcome_28 : decode cX8_outcome 28 = .ok (.bipush 63, 2) := by decide +kernel
theorem dX8_outcome_30 : decode cX8_outcome 30 = .ok (.iand, 1) := by decide +kernel
theorem dX8_outcome_31 : decode cX8_outcome 31 = .ok (.lushr, 1) := by decide +kernel
theorem dX8_outcome_32 : decode cX8_outcome 32 = .ok (.lconst 1, 1) := by decide +kernel
theorem dX8_outcome_33 : decode cX8_outcome 33 = .ok (.land, 1) := by decide +kernel
theorem dX8_outcome_34 : decode cX8_outcome 34 = .ok (.l2i, 1) := by decide +kernel
theorem dX8_outcome_35 : decode cX8_outcome 35 = .ok (.goto 4, 3) := by decide +kernel
theorem dX8_outcome_38 : decode cX8_outcome 38 = .ok (.iconst 0, 1) := by decide +kernel
theorem dX8_outcome_39 : decode cX8_outcome 39 = .ok (.ireturn, 1) := by decide +kernel
theorem dX8_countOnes_0 : decode cX8_countOnes 0 = .ok (.aload_n 0, 1) := by decide +kernel
theorem dX8_countOnes_1 : decode cX8_countOnes 1 = .ok (.aload_n 1, 1) := by decide +kernel
theorem dX8_countOnes_2 : decode cX8_countOnes 2 = .ok (.iload_n 2, 1) := by decide +kernel
theorem dX8_countOnes_3 : decode cX8_countOnes 3 = .ok (.iload_n 3, 1) := by decide +kernel
theorem dX8_countOnes_4 : decode cX8_countOnes 4 = .ok (.invokevirtual 37, 3) := by decide +kernel
theorem dX8_countOnes_7 : decode cX8_countOnes 7 = .ok (.iconst 1, 1) := by decide +kernel
theorem dX8_countOnes_8 : decode cX8_countOnes 8 = .ok (.aload_n 0, 1) := by decide +kernel
theorem dX8_countOnes_9 : decode cX8_countOnes 9 = .ok (.getfield 25, 3) := by decide +kernel
theorem dX8_countOnes_12 : decode cX8_countOnes 12 = .ok (.iload_n 3, 1) := by decide +kernel
theorem dX8_countOnes_13 : decode cX8_countOnes 13 = .ok (.isub, 1) := by decide +kernel
theorem dX8_countOnes_14 : decode cX8_countOnes 14 = .ok (.ishl, 1) := by decide +kernel
theorem dX8_countOnes_15 : decode cX8_countOnes 15 = .ok (.istore 4, 2) := by decide +kernel
theorem dX8_countOnes_17 : decode cX8_countOnes 17 = .ok (.iload 4, 2) := by decide +kernel
theorem dX8_countOnes_19 : decode cX8_countOnes 19 = .ok (.bipush 64, 2) := by decide +kernel
theorem dX8_countOnes_21 : decode cX8_countOnes 21 = .ok (.if_icmp .ge 18, 3) := by decide +kernel
theorem dX8_countOnes_24 : decode cX8_countOnes 24 = .ok (.aload_n 0, 1) := by decide +kernel
theorem dX8_countOnes_25 : decode cX8_countOnes 25 = .ok (.getfield 9, 3) := by decide +kernel
theorem dX8_countOnes_28 : decode cX8_countOnes 28 = .ok (.iconst 0, 1) := by decide +kernel
theorem dX8_countOnes_29 : decode cX8_countOnes 29 = .ok (.dup2, 1) := by decide +kernel
theorem dX8_countOnes_30 : decode cX8_countOnes 30 = .ok (.laload, 1) := by decide +kernel
theorem dX8_countOnes_31 : decode cX8_countOnes 31 = .ok (.lconst 1, 1) := by decide +kernel
theorem dX8_countOnes_32 : decode cX8_countOnes 32 = .ok (.iload 4, 2) := by decide +kernel
theorem dX8_countOnes_34 : decode cX8_countOnes 34 = .ok (.lshl, 1) := by decide +kernel
theorem dX8_countOnes_35 : decode cX8_countOnes 35 = .ok (.lconst 1, 1) := by decide +kernel
theorem dX8_countOnes_36 : decode cX8_countOnes 36 = .ok (.lsub, 1) := by decide +kernel
theorem dX8_countOnes_37 : decode cX8_countOnes 37 = .ok (.land, 1) := by decide +kernel
theorem dX8_countOnes_38 : decode cX8_countOnes 38 = .ok (.lastore, 1) := by decide +kernel
theorem dX8_countOnes_39 : decode cX8_countOnes 39 = .ok (.iconst 0, 1) := by decide +kernel
theorem dX8_countOnes_40 : decode cX8_countOnes 40 = .ok (.istore 5, 2) := by decide +kernel
theorem dX8_countOnes_42 : decode cX8_countOnes 42 = .ok (.iconst 0, 1) := by decide +kernel
theorem dX8_countOnes_43 : decode cX8_countOnes 43 = .ok (.istore 6, 2) := by decide +kernel
theorem dX8_countOnes_45 : decode cX8_countOnes 45 = .ok (.iload 6, 2) := by decide +kernel
theorem dX8_countOnes_47 : decode cX8_countOnes 47 = .ok (.aload_n 0, 1) := by decide +kernel
theorem dX8_countOnes_48 : decode cX8_countOnes 48 = .ok (.getfield 48, 3) := by decide +kernel
theorem dX8_countOnes_51 : decode cX8_countOnes 51 = .ok (.if_icmp .ge 31, 3) := by decide +kernel
theorem dX8_countOnes_54 : decode cX8_countOnes 54 = .ok (.iload 6, 2) := by decide +kernel
theorem dX8_countOnes_56 : decode cX8_countOnes 56 = .ok (.bipush 16, 2) := by decide +kernel
theorem dX8_countOnes_58 : decode cX8_countOnes 58 = .ok (.if_icmp .ge 24, 3) := by decide +kernel
theorem dX8_countOnes_61 : decode cX8_countOnes 61 = .ok (.iload 5, 2) := by decide +kernel
theorem dX8_countOnes_63 : decode cX8_countOnes 63 = .ok (.aload_n 0, 1) := by decide +kernel
theorem dX8_countOnes_64 : decode cX8_countOnes 64 = .ok (.getfield 9, 3) := by decide +kernel
theorem dX8_countOnes_67 : decode cX8_countOnes 67 = .ok (.iload 6, 2) := by decide +kernel
theorem dX8_countOnes_69 : decode cX8_countOnes 69 = .ok (.laload, 1) := by decide +kernel
theorem dX8_countOnes_70 : decode cX8_countOnes 70 = .ok (.invokestatic 51, 3) := by decide +kernel
theorem dX8_countOnes_73 : decode cX8_countOnes 73 = .ok (.iadd, 1) := by decide +kernel
theorem dX8_countOnes_74 : decode cX8_countOnes 74 = .ok (.istore 5, 2) := by decide +kernel
theorem dX8_countOnes_76 : decode cX8_countOnes 76 = .ok (.iinc 6 1, 3) := by decide +kernel
theorem dX8_countOnes_79 : decode cX8_countOnes 79 = .ok (.goto (-34), 3) := by decide +kernel
theorem dX8_countOnes_82 : decode cX8_countOnes 82 = .ok (.iload 5, 2) := by decide +kernel
theorem dX8_countOnes_84 : decode cX8_countOnes 84 = .ok (.ireturn, 1) := by decide +kernel
theorem dX8_load_0 : decode cX8_load 0 = .ok (.aload_n 0, 1) := by decide +kernel
theorem dX8_load_1 : decode cX8_load 1 = .ok (.getfield 25, 3) := by decide +kernel
theorem dX8_load_4 : decode cX8_load 4 = .ok (.iload_n 3, 1) := by decide +kernel
theorem dX8_load_5 : decode cX8_load 5 = .ok (.isub, 1) := by decide +kernel
theorem dX8_load_6 : decode cX8_load 6 = .ok (.istore 4, 2) := by decide +kernel
theorem dX8_load_8 : decode cX8_load 8 = .ok (.iload_n 2, 1) := by decide +kernel
theorem dX8_load_9 : decode cX8_load 9 = .ok (.iload 4, 2) := by decide +kernel
theorem dX8_load_11 : decode cX8_load 11 = .ok (.ishl, 1) := by decide +kernel
theorem dX8_load_12 : decode cX8_load 12 = .ok (.istore 5, 2) := by decide +kernel
theorem dX8_load_14 : decode cX8_load 14 = .ok (.aload_n 0, 1) := by decide +kernel
theorem dX8_load_15 : decode cX8_load 15 = .ok (.iload 4, 2) := by decide +kernel
theorem dX8_load_17 : decode cX8_load 17 = .ok (.invokestatic 57, 3) := by decide +kernel
theorem dX8_load_20 : decode cX8_load 20 = .ok (.putfield 48, 3) := by decide +kernel
theorem dX8_load_23 : decode cX8_load 23 = .ok (.iconst 0, 1) := by decide +kernel
theorem dX8_load_24 : decode cX8_load 24 = .ok (.istore 6, 2) := by decide +kernel
theorem dX8_load_26 : decode cX8_load 26 = .ok (.iload 6, 2) := by decide +kernel
theorem dX8_load_28 : decode cX8_load 28 = .ok (.aload_n 0, 1) := by decide +kernel
theorem dX8_load_29 : decode cX8_load 29 = .ok (.getfield 48, 3) := by decide +kernel
theorem dX8_load_32 : decode cX8_load 32 = .ok (.if_icmp .ge 35, 3) := by decide +kernel
theorem dX8_load_35 : decode cX8_load 35 = .ok (.iload 6, 2) := by decide +kernel
theorem dX8_load_37 : decode cX8_load 37 = .ok (.bipush 16, 2) := by decide +kernel
theorem dX8_load_39 : decode cX8_load 39 = .ok (.if_icmp .ge 28, 3) := by decide +kernel
theorem dX8_load_42 : decode cX8_load 42 = .ok (.aload_n 0, 1) := by decide +kernel
theorem dX8_load_43 : decode cX8_load 43 = .ok (.getfield 9, 3) := by decide +kernel
theorem dX8_load_46 : decode cX8_load 46 = .ok (.iload 6, 2) := by decide +kernel
theorem dX8_load_48 : decode cX8_load 48 = .ok (.aload_n 1, 1) := by decide +kernel
theorem dX8_load_49 : decode cX8_load 49 = .ok (.iload 5, 2) := by decide +kernel
theorem dX8_load_51 : decode cX8_load 51 = .ok (.bipush 6, 2) := by decide +kernel
theorem dX8_load_53 : decode cX8_load 53 = .ok (.ishr, 1) := by decide +kernel
theorem dX8_load_54 : decode cX8_load 54 = .ok (.iload 6, 2) := by decide +kernel
theorem dX8_load_56 : decode cX8_load 56 = .ok (.iadd, 1) := by decide +kernel
theorem dX8_load_57 : decode cX8_load 57 = .ok (.invokevirtual 60, 3) := by decide +kernel
theorem dX8_load_60 : decode cX8_load 60 = .ok (.lastore, 1) := by decide +kernel
theorem dX8_load_61 : decode cX8_load 61 = .ok (.iinc 6 1, 3) := by decide +kernel
theorem dX8_load_64 : decode cX8_load 64 = .ok (.goto (-38), 3) := by decide +kernel
theorem dX8_load_67 : decode cX8_load 67 = .ok (.aload_n 0, 1) := by decide +kernel
theorem dX8_load_68 : decode cX8_load 68 = .ok (.getfield 9, 3) := by decide +kernel
theorem dX8_load_71 : decode cX8_load 71 = .ok (.iconst 0, 1) := by decide +kernel
theorem dX8_load_72 : decode cX8_load 72 = .ok (.dup2, 1) := by decide +kernel
theorem dX8_load_73 : decode cX8_load 73 = .ok (.laload, 1) := by decide +kernel
theorem dX8_load_74 : decode cX8_load 74 = .ok (.iload 5, 2) := by decide +kernel
theorem dX8_load_76 : decode cX8_load 76 = .ok (.bipush 63, 2) := by decide +kernel
theorem dX8_load_78 : decode cX8_load 78 = .ok (.iand, 1) := by decide +kernel
theorem dX8_load_79 : decode cX8_load 79 = .ok (.lushr, 1) := by decide +kernel
theorem dX8_load_80 : decode cX8_load 80 = .ok (.lastore, 1) := by decide +kernel
theorem dX8_load_81 : decode cX8_load 81 = .ok (.return_, 1) := by decide +kernel
theorem dX8_foldBit_0 : decode cX8_foldBit 0 = .ok (.iload_n 2, 1) := by decide +kernel
theorem dX8_foldBit_1 : decode cX8_foldBit 1 = .ok (.bipush 10, 2) := by decide +kernel
theorem dX8_foldBit_3 : decode cX8_foldBit 3 = .ok (.invokestatic 33, 3) := by decide +kernel
theorem dX8_foldBit_6 : decode cX8_foldBit 6 = .ok (.ifCond .eq 12, 3) := by decide +kernel
theorem dX8_foldBit_9 : decode cX8_foldBit 9 = .ok (.aload_n 0, 1) := by decide +kernel
theorem dX8_foldBit_10 : decode cX8_foldBit 10 = .ok (.getfield 15, 3) := by decide +kernel
theorem dX8_foldBit_13 : decode cX8_foldBit 13 = .ok (.iload_n 2, 1) := by decide +kernel
theorem dX8_foldBit_14 : decode cX8_foldBit 14 = .ok (.iaload, 1) := by decide +kernel
theorem dX8_foldBit_15 : decode cX8_foldBit 15 = .ok (.goto 4, 3) := by decide +kernel
theorem dX8_foldBit_18 : decode cX8_foldBit 18 = .ok (.iconst 0, 1) := by decide +kernel
theorem dX8_foldBit_19 : decode cX8_foldBit 19 = .ok (.istore_n 3, 1) := by decide +kernel
theorem dX8_foldBit_20 : decode cX8_foldBit 20 = .ok (.iload_n 1, 1) := by decide +kernel
theorem dX8_foldBit_21 : decode cX8_foldBit 21 = .ok (.bipush 6, 2) := by decide +kernel
theorem dX8_foldBit_23 : decode cX8_foldBit 23 = .ok (.if_icmp .ge 58, 3) := by decide +kernel
theorem dX8_foldBit_26 : decode cX8_foldBit 26 = .ok (.iconst 0, 1) := by decide +kernel
theorem dX8_foldBit_27 : decode cX8_foldBit 27 = .ok (.istore 4, 2) := by decide +kernel
theorem dX8_foldBit_29 : decode cX8_foldBit 29 = .ok (.iload 4, 2) := by decide +kernel
theorem dX8_foldBit_31 : decode cX8_foldBit 31 = .ok (.aload_n 0, 1) := by decide +kernel
theorem dX8_foldBit_32 : decode cX8_foldBit 32 = .ok (.getfield 48, 3) := by decide +kernel
theorem dX8_foldBit_35 : decode cX8_foldBit 35 = .ok (.if_icmp .ge 45, 3) := by decide +kernel
theorem dX8_foldBit_38 : decode cX8_foldBit 38 = .ok (.iload 4, 2) := by decide +kernel
theorem dX8_foldBit_40 : decode cX8_foldBit 40 = .ok (.bipush 16, 2) := by decide +kernel
theorem dX8_foldBit_42 : decode cX8_foldBit 42 = .ok (.if_icmp .ge 38, 3) := by decide +kernel
theorem dX8_foldBit_45 : decode cX8_foldBit 45 = .ok (.aload_n 0, 1) := by decide +kernel
theorem dX8_foldBit_46 : decode cX8_foldBit 46 = .ok (.getfield 9, 3) := by decide +kernel
theorem dX8_foldBit_49 : decode cX8_foldBit 49 = .ok (.iload 4, 2) := by decide +kernel
theorem dX8_foldBit_51 : decode cX8_foldBit 51 = .ok (.iload_n 3, 1) := by decide +kernel
theorem dX8_foldBit_52 : decode cX8_foldBit 52 = .ok (.aload_n 0, 1) := by decide +kernel
theorem dX8_foldBit_53 : decode cX8_foldBit 53 = .ok (.getfield 9, 3) := by decide +kernel
theorem dX8_foldBit_56 : decode cX8_foldBit 56 = .ok (.iload 4, 2) := by decide +kernel
theorem dX8_foldBit_58 : decode cX8_foldBit 58 = .ok (.laload, 1) := by decide +kernel
theorem dX8_foldBit_59 : decode cX8_foldBit 59 = .ok (.aload_n 0, 1) := by decide +kernel
theorem dX8_foldBit_60 : decode cX8_foldBit 60 = .ok (.getfield 9, 3) := by decide +kernel
theorem dX8_foldBit_63 : decode cX8_foldBit 63 = .ok (.iload 4, 2) := by decide +kernel
theorem dX8_foldBit_65 : decode cX8_foldBit 65 = .ok (.laload, 1) := by decide +kernel
theorem dX8_foldBit_66 : decode cX8_foldBit 66 = .ok (.iconst 1, 1) := by decide +kernel
theorem dX8_foldBit_67 : decode cX8_foldBit 67 = .ok (.iload_n 1, 1) := by decide +kernel
theorem dX8_foldBit_68 : decode cX8_foldBit 68 = .ok (.ishl, 1) := by decide +kernel
theorem dX8_foldBit_69 : decode cX8_foldBit 69 = .ok (.lushr, 1) := by decide +kernel
theorem dX8_foldBit_70 : decode cX8_foldBit 70 = .ok (.invokestatic 66, 3) := by decide +kernel
theorem dX8_foldBit_73 : decode cX8_foldBit 73 = .ok (.lastore, 1) := by decide +kernel
theorem dX8_foldBit_74 : decode cX8_foldBit 74 = .ok (.iinc 4 1, 3) := by decide +kernel
theorem dX8_foldBit_77 : decode cX8_foldBit 77 = .ok (.goto (-48), 3) := by decide +kernel
theorem dX8_foldBit_80 : decode cX8_foldBit 80 = .ok (.return_, 1) := by decide +kernel
theorem dX8_foldBit_81 : decode cX8_foldBit 81 = .ok (.iconst 1, 1) := by decide +kernel
theorem dX8_foldBit_82 : decode cX8_foldBit 82 = .ok (.iload_n 1, 1) := by decide +kernel
theorem dX8_foldBit_83 : decode cX8_foldBit 83 = .ok (.bipush 6, 2) := by decide +kernel
theorem dX8_foldBit_85 : decode cX8_foldBit 85 = .ok (.isub, 1) := by decide +kernel
theorem dX8_foldBit_86 : decode cX8_foldBit 86 = .ok (.ishl, 1) := by decide +kernel
theorem dX8_foldBit_87 : decode cX8_foldBit 87 = .ok (.istore 4, 2) := by decide +kernel
theorem dX8_foldBit_89 : decode cX8_foldBit 89 = .ok (.iconst 0, 1) := by decide +kernel
theorem dX8_foldBit_90 : decode cX8_foldBit 90 = .ok (.istore 5, 2) := by decide +kernel
theorem dX8_foldBit_92 : decode cX8_foldBit 92 = .ok (.iload 5, 2) := by decide +kernel
theorem dX8_foldBit_94 : decode cX8_foldBit 94 = .ok (.iload 4, 2) := by decide +kernel
theorem dX8_foldBit_96 : decode cX8_foldBit 96 = .ok (.iadd, 1) := by decide +kernel
theorem dX8_foldBit_97 : decode cX8_foldBit 97 = .ok (.aload_n 0, 1) := by decide +kernel
theorem dX8_foldBit_98 : decode cX8_foldBit 98 = .ok (.getfield 48, 3) := by decide +kernel
theorem dX8_foldBit_101 : decode cX8_foldBit 101 = .ok (.if_icmp .ge 53, 3) := by decide +kernel
theorem dX8_foldBit_104 : decode cX8_foldBit 104 = .ok (.iload 5, 2) := by decide +kernel
theorem dX8_foldBit_106 : decode cX8_foldBit 106 = .ok (.iload 4, 2) := by decide +kernel
theorem dX8_foldBit_108 : decode cX8_foldBit 108 = .ok (.iadd, 1) := by decide +kernel
theorem dX8_foldBit_109 : decode cX8_foldBit 109 = .ok (.bipush 16, 2) := by decide +kernel
theorem dX8_foldBit_111 : decode cX8_foldBit 111 = .ok (.if_icmp .ge 43, 3) := by decide +kernel
theorem dX8_foldBit_114 : decode cX8_foldBit 114 = .ok (.aload_n 0, 1) := by decide +kernel
theorem dX8_foldBit_115 : decode cX8_foldBit 115 = .ok (.getfield 9, 3) := by decide +kernel
theorem dX8_foldBit_118 : decode cX8_foldBit 118 = .ok (.iload 5, 2) := by decide +kernel
theorem dX8_foldBit_120 : decode cX8_foldBit 120 = .ok (.iload_n 3, 1) := by decide +kernel
theorem dX8_foldBit_121 : decode cX8_foldBit 121 = .ok (.aload_n 0, 1) := by decide +kernel
theorem dX8_foldBit_122 : decode cX8_foldBit 122 = .ok (.getfield 9, 3) := by decide +kernel
theorem dX8_foldBit_125 : decode cX8_foldBit 125 = .ok (.iload 5, 2) := by decide +kernel
theorem dX8_foldBit_127 : decode cX8_foldBit 127 = .ok (.laload, 1) := by decide +kernel
theorem dX8_foldBit_128 : decode cX8_foldBit 128 = .ok (.aload_n 0, 1) := by decide +kernel
theorem dX8_foldBit_129 : decode cX8_foldBit 129 = .ok (.getfield 9, 3) := by decide +kernel
theorem dX8_foldBit_132 : decode cX8_foldBit 132 = .ok (.iload 5, 2) := by decide +kernel
theorem dX8_foldBit_134 : decode cX8_foldBit 134 = .ok (.iload 4, 2) := by decide +kernel
theorem dX8_foldBit_136 : decode cX8_foldBit 136 = .ok (.iadd, 1) := by decide +kernel
theorem dX8_foldBit_137 : decode cX8_foldBit 137 = .ok (.laload, 1) := by decide +kernel
theorem dX8_foldBit_138 : decode cX8_foldBit 138 = .ok (.invokestatic 66, 3) := by decide +kernel
theorem dX8_foldBit_141 : decode cX8_foldBit 141 = .ok (.lastore, 1) := by decide +kernel
theorem dX8_foldBit_142 : decode cX8_foldBit 142 = .ok (.iload 5, 2) := by decide +kernel
theorem dX8_foldBit_144 : decode cX8_foldBit 144 = .ok (.iconst 2, 1) := by decide +kernel
theorem dX8_foldBit_145 : decode cX8_foldBit 145 = .ok (.iload 4, 2) := by decide +kernel
theorem dX8_foldBit_147 : decode cX8_foldBit 147 = .ok (.imul, 1) := by decide +kernel
theorem dX8_foldBit_148 : decode cX8_foldBit 148 = .ok (.iadd, 1) := by decide +kernel
theorem dX8_foldBit_149 : decode cX8_foldBit 149 = .ok (.istore 5, 2) := by decide +kernel
theorem dX8_foldBit_151 : decode cX8_foldBit 151 = .ok (.goto (-59), 3) := by decide +kernel
theorem dX8_foldBit_154 : decode cX8_foldBit 154 = .ok (.return_, 1) := by decide +kernel
theorem dX8_choose_0 : decode cX8_choose 0 = .ok (.iload_n 0, 1) := by decide +kernel
theorem dX8_choose_1 : decode cX8_choose 1 = .ok (.tableswitch 37 0 2 #[27, 31, 35], 27) := by decide +kernel
theorem dX8_choose_28 : decode cX8_choose 28 = .ok (.lload_n 1, 1) := by decide +kernel
theorem dX8_choose_29 : decode cX8_choose 29 = .ok (.lload_n 3, 1) := by decide +kernel
theorem dX8_choose_30 : decode cX8_choose 30 = .ok (.lor, 1) := by decide +kernel
theorem dX8_choose_31 : decode cX8_choose 31 = .ok (.lreturn, 1) := by decide +kernel
theorem dX8_choose_32 : decode cX8_choose 32 = .ok (.lload_n 1, 1) := by decide +kernel
theorem dX8_choose_33 : decode cX8_choose 33 = .ok (.lload_n 3, 1) := by decide +kernel
theorem dX8_choose_34 : decode cX8_choose 34 = .ok (.land, 1) := by decide +kernel
theorem dX8_choose_35 : decode cX8_choose 35 = .ok (.lreturn, 1) := by decide +kernel
theorem dX8_choose_36 : decode cX8_choose 36 = .ok (.lload_n 1, 1) := by decide +kernel
theorem dX8_choose_37 : decode cX8_choose 37 = .ok (.lreturn, 1) := by decide +kernel
theorem dX8_choose_38 : decode cX8_choose 38 = .ok (.lload_n 3, 1) := by decide +kernel
theorem dX8_choose_39 : decode cX8_choose 39 = .ok (.lreturn, 1) := by decide +kernel
theorem dX9_init_0 : decode cX9_init 0 = .ok (.aload_n 0, 1) := by decide +kernel
theorem dX9_init_1 : decode cX9_init 1 = .ok (.invokespecial 3, 3) := by decide +kernel
theorem dX9_init_4 : decode cX9_init 4 = .ok (.aload_n 0, 1) := by decide +kernel
theorem dX9_init_5 : decode cX9_init 5 = .ok (.bipush 16, 2) := by decide +kernel
theorem dX9_init_7 : decode cX9_init 7 = .ok (.newarray .long, 2) := by decide +kernel
theorem dX9_init_9 : decode cX9_init 9 = .ok (.putfield 9, 3) := by decide +kernel
theorem dX9_init_12 : decode cX9_init 12 = .ok (.aload_n 0, 1) := by decide +kernel
theorem dX9_init_13 : decode cX9_init 13 = .ok (.sipush 160, 3) := by decide +kernel
theorem dX9_init_16 : decode cX9_init 16 = .ok (.newarray .long, 2) := by decide +kernel
theorem dX9_init_18 : decode cX9_init 18 = .ok (.putfield 15, 3) := by decide +kernel
theorem dX9_init_21 : decode cX9_init 21 = .ok (.return_, 1) := by decide +kernel
theorem dX9_fill_0 : decode cX9_fill 0 = .ok (.iload_n 2, 1) := by decide +kernel
theorem dX9_fill_1 : decode cX9_fill 1 = .ok (.invokestatic 18, 3) := by decide +kernel
theorem dX9_fill_4 : decode cX9_fill 4 = .ok (.istore_n 3, 1) := by decide +kernel
theorem dX9_fill_5 : decode cX9_fill 5 = .ok (.iconst 0, 1) := by decide +kernel
theorem dX9_fill_6 : decode cX9_fill 6 = .ok (.istore 4, 2) := by decide +kernel
theorem dX9_fill_8 : decode cX9_fill 8 = .ok (.iload 4, 2) := by decide +kernel
theorem dX9_fill_10 : decode cX9_fill 10 = .ok (.iload_n 3, 1) := by decide +kernel
theorem dX9_fill_11 : decode cX9_fill 11 = .ok (.if_icmp .ge 31, 3) := by decide +kernel
theorem dX9_fill_14 : decode cX9_fill 14 = .ok (.iload 4, 2) := by decide +kernel
theorem dX9_fill_16 : decode cX9_fill 16 = .ok (.bipush 16, 2) := by decide +kernel
theorem dX9_fill_18 : decode cX9_fill 18 = .ok (.if_icmp .ge 24, 3) := by decide +kernel
theorem dX9_fill_21 : decode cX9_fill 21 = .ok (.aload_n 0, 1) := by decide +kernel
theorem dX9_fill_22 : decode cX9_fill 22 = .ok (.getfield 9, 3) := by decide +kernel
theorem dX9_fill_25 : decode cX9_fill 25 = .ok (.iload 4, 2) := by decide +kernel
theorem dX9_fill_27 : decode cX9_fill 27 = .ok (.aload_n 0, 1) := by decide +kernel
theorem dX9_fill_28 : decode cX9_fill 28 = .ok (.aload_n 1, 1) := by decide +kernel
theorem dX9_fill_29 : decode cX9_fill 29 = .ok (.iload_n 2, 1) := by decide +kernel
theorem dX9_fill_30 : decode cX9_fill 30 = .ok (.iload 4, 2) := by decide +kernel
theorem dX9_fill_32 : decode cX9_fill 32 = .ok (.invokevirtual 22, 3) := by decide +kernel
theorem dX9_fill_35 : decode cX9_fill 35 = .ok (.lastore, 1) := by decide +kernel
theorem dX9_fill_36 : decode cX9_fill 36 = .ok (.iinc 4 1, 3) := by decide +kernel
theorem dX9_fill_39 : decode cX9_fill 39 = .ok (.goto (-31), 3) := by decide +kernel
theorem dX9_fill_42 : decode cX9_fill 42 = .ok (.return_, 1) := by decide +kernel
theorem dX9_wordAt_0 : decode cX9_wordAt 0 = .ok (.iload_n 1, 1) := by decide +kernel
theorem dX9_wordAt_1 : decode cX9_wordAt 1 = .ok (.bipush 16, 2) := by decide +kernel
theorem dX9_wordAt_3 : decode cX9_wordAt 3 = .ok (.invokestatic 26, 3) := by decide +kernel
theorem dX9_wordAt_6 : decode cX9_wordAt 6 = .ok (.ifCond .eq 12, 3) := by decide +kernel
theorem dX9_wordAt_9 : decode cX9_wordAt 9 = .ok (.aload_n 0, 1) := by decide +kernel
theorem dX9_wordAt_10 : decode cX9_wordAt 10 = .ok (.getfield 9, 3) := by decide +kernel
theorem dX9_wordAt_13 : decode cX9_wordAt 13 = .ok (.iload_n 1, 1) := by decide +kernel
theorem dX9_wordAt_14 : decode cX9_wordAt 14 = .ok (.laload, 1) := by decide +kernel
theorem dX9_wordAt_15 : decode cX9_wordAt 15 = .ok (.goto 4, 3) := by decide +kernel
theorem dX9_wordAt_18 : decode cX9_wordAt 18 = .ok (.lconst 0, 1) := by decide +kernel
theorem dX9_wordAt_19 : decode cX9_wordAt 19 = .ok (.lreturn, 1) := by decide +kernel
theorem dX9_reckon_0 : decode cX9_reckon 0 = .ok (.aload_n 0, 1) := by decide +kernel
theorem dX9_reckon_1 : decode cX9_reckon 1 = .ok (.iconst 0, 1) := by decide +kernel
theorem dX9_reckon_2 : decode cX9_reckon 2 = .ok (.putfield 30, 3) := by decide +kernel
theorem dX9_reckon_5 : decode cX9_reckon 5 = .ok (.iconst 0, 1) := by decide +kernel
theorem dX9_reckon_6 : decode cX9_reckon 6 = .ok (.istore 4, 2) := by decide +kernel
theorem dX9_reckon_8 : decode cX9_reckon 8 = .ok (.iload 4, 2) := by decide +kernel
theorem dX9_reckon_10 : decode cX9_reckon 10 = .ok (.aload_n 1, 1) := by decide +kernel
theorem dX9_reckon_11 : decode cX9_reckon 11 = .ok (.getfield 34, 3) := by decide +kernel
theorem dX9_reckon_14 : decode cX9_reckon 14 = .ok (.if_icmp .ge 124, 3) := by decide +kernel
theorem dX9_reckon_17 : decode cX9_reckon 17 = .ok (.aload_n 1, 1) := by decide +kernel
theorem dX9_reckon_18 : decode cX9_reckon 18 = .ok (.iload 4, 2) := by decide +kernel
theorem dX9_reckon_20 : decode cX9_reckon 20 = .ok (.invokevirtual 39, 3) := by decide +kernel
theorem dX9_reckon_23 : decode cX9_reckon 23 = .ok (.istore 5, 2) := by decide +kernel
theorem dX9_reckon_25 : decode cX9_reckon 25 = .ok (.iload 5, 2) := by decide +kernel
theorem dX9_reckon_27 : decode cX9_reckon 27 = .ok (.sipush 256, 3) := by decide +kernel
theorem dX9_reckon_30 : decode cX9_reckon 30 = .ok (.if_icmp .lt 24, 3) := by decide +kernel
theorem dX9_reckon_33 : decode cX9_reckon 33 = .ok (.aload_n 0, 1) := by decide +kernel
theorem dX9_reckon_34 : decode cX9_reckon 34 = .ok (.iload_n 2, 1) := by decide +kernel
theorem dX9_reckon_35 : decode cX9_reckon 35 = .ok (.iconst 1, 1) := by decide +kernel
theorem dX9_reckon_36 : decode cX9_reckon 36 = .ok (.isub, 1) := by decide +kernel
theorem dX9_reckon_37 : decode cX9_reckon 37 = .ok (.iload 5, 2) := by decide +kernel
theorem dX9_reckon_39 : decode cX9_reckon 39 = .ok (.sipush 256, 3) := by decide +kernel
theorem dX9_reckon_42 : decode cX9_reckon 42 = .ok (.isub, 1) := by decide +kernel
theorem dX9_reckon_43 : decode cX9_reckon 43 = .ok (.isub, 1) := by decide +kernel
theorem dX9_reckon_44 : decode cX9_reckon 44 = .ok (.iload_n 3, 1) := by decide +kernel
theorem dX9_reckon_45 : decode cX9_reckon 45 = .ok (.invokestatic 42, 3) := by decide +kernel
theorem dX9_reckon_48 : decode cX9_reckon 48 = .ok (.invokevirtual 46, 3) := by decide +kernel
theorem dX9_reckon_51 : decode cX9_reckon 51 = .ok (.goto 81, 3) := by decide +kernel
theorem dX9_reckon_54 : decode cX9_reckon 54 = .ok (.iload 5, 2) := by decide +kernel
theorem dX9_reckon_56 : decode cX9_reckon 56 = .ok (.bipush 48, 2) := by decide +kernel
theorem dX9_reckon_58 : decode cX9_reckon 58 = .ok (.if_icmp .eq 10, 3) := by decide +kernel
theorem dX9_reckon_61 : decode cX9_reckon 61 = .ok (.iload 5, 2) := by decide +kernel
theorem dX9_reckon_63 : decode cX9_reckon 63 = .ok (.bipush 49, 2) := by decide +kernel
theorem dX9_reckon_65 : decode cX9_reckon 65 = .ok (.if_icmp .ne 24, 3) := by decide +kernel
theorem dX9_reckon_68 : decode cX9_reckon 68 = .ok (.aload_n 0, 1) := by decide +kernel
theorem dX9_reckon_69 : decode cX9_reckon 69 = .ok (.iload 5, 2) := by decide +kernel
theorem dX9_reckon_71 : decode cX9_reckon 71 = .ok (.bipush 49, 2) := by decide +kernel
theorem dX9_reckon_73 : decode cX9_reckon 73 = .ok (.if_icmp .ne 9, 3) := by decide +kernel
theorem dX9_reckon_76 : decode cX9_reckon 76 = .ok (.ldc2_w 50, 3) := by decide +kernel
theorem dX9_reckon_79 : decode cX9_reckon 79 = .ok (.goto 4, 3) := by decide +kernel
theorem dX9_reckon_82 : decode cX9_reckon 82 = .ok (.lconst 0, 1) := by decide +kernel
theorem dX9_reckon_83 : decode cX9_reckon 83 = .ok (.invokevirtual 46, 3) := by decide +kernel
theorem dX9_reckon_86 : decode cX9_reckon 86 = .ok (.goto 46, 3) := by decide +kernel
theorem dX9_reckon_89 : decode cX9_reckon 89 = .ok (.iload 5, 2) := by decide +kernel
theorem dX9_reckon_91 : decode cX9_reckon 91 = .ok (.bipush 33, 2) := by decide +kernel
theorem dX9_reckon_93 : decode cX9_reckon 93 = .ok (.if_icmp .ne 18, 3) := by decide +kernel
theorem dX9_reckon_96 : decode cX9_reckon 96 = .ok (.aload_n 0, 1) := by decide +kernel
theorem dX9_reckon_97 : decode cX9_reckon 97 = .ok (.aload_n 0, 1) := by decide +kernel
theorem dX9_reckon_98 : decode cX9_reckon 98 = .ok (.invokevirtual 52, 3) := by decide +kernel
theorem dX9_reckon_101 : decode cX9_reckon 101 = .ok (.ldc2_w 50, 3) := by decide +kernel
theorem dX9_reckon_104 : decode cX9_reckon 104 = .ok (.lxor, 1) := by decide +kernel
theorem dX9_reckon_105 : decode cX9_reckon 105 = .ok (.invokevirtual 46, 3) := by decide +kernel
theorem dX9_reckon_108 : decode cX9_reckon 108 = .ok (.goto 24, 3) := by decide +kernel
theorem dX9_reckon_111 : decode cX9_reckon 111 = .ok (.aload_n 0, 1) := by decide +kernel
theorem dX9_reckon_112 : decode cX9_reckon 112 = .ok (.invokevirtual 52, 3) := by decide +kernel
theorem dX9_reckon_115 : decode cX9_reckon 115 = .ok (.lstore 6, 2) := by decide +kernel
theorem dX9_reckon_117 : decode cX9_reckon 117 = .ok (.aload_n 0, 1) := by decide +kernel
theorem dX9_reckon_118 : decode cX9_reckon 118 = .ok (.iload 5, 2) := by decide +kernel
theorem dX9_reckon_120 : decode cX9_reckon 120 = .ok (.aload_n 0, 1) := by decide +kernel
theorem dX9_reckon_121 : decode cX9_reckon 121 = .ok (.invokevirtual 52, 3) := by decide +kernel
theorem dX9_reckon_124 : decode cX9_reckon 124 = .ok (.lload 6, 2) := by decide +kernel
theorem dX9_reckon_126 : decode cX9_reckon 126 = .ok (.invokestatic 56, 3) := by decide +kernel
theorem dX9_reckon_129 : decode cX9_reckon 129 = .ok (.invokevirtual 46, 3) := by decide +kernel
theorem dX9_reckon_132 : decode cX9_reckon 132 = .ok (.iinc 4 1, 3) := by decide +kernel
theorem dX9_reckon_135 : decode cX9_reckon 135 = .ok (.goto (-127), 3) := by decide +kernel
theorem dX9_reckon_138 : decode cX9_reckon 138 = .ok (.aload_n 0, 1) := by decide +kernel
theorem dX9_reckon_139 : decode cX9_reckon 139 = .ok (.invokevirtual 52, 3) := by decide +kernel
theorem dX9_reckon_142 : decode cX9_reckon 142 = .ok (.lreturn, 1) := by decide +kernel
theorem dX9_valuesOfName_0 : decode cX9_valuesOfName 0 = .ok (.iload_n 0, 1) := by decide +kernel
theorem dX9_valuesOfName_1 : decode cX9_valuesOfName 1 = .ok (.bipush 6, 2) := by decide +kernel
theorem dX9_valuesOfName_3 : decode cX9_valuesOfName 3 = .ok (.if_icmp .lt 23, 3) := by decide +kernel
theorem dX9_valuesOfName_6 : decode cX9_valuesOfName 6 = .ok (.iload_n 1, 1) := by decide +kernel
theorem dX9_valuesOfName_7 : decode cX9_valuesOfName 7 = .ok (.iload_n 0, 1) := by decide +kernel
theorem dX9_valuesOfName_8 : decode cX9_valuesOfName 8 = .ok (.bipush 6, 2) := by decide +kernel
theorem dX9_valuesOfName_10 : decode cX9_valuesOfName 10 = .ok (.isub, 1) := by decide +kernel
theorem dX9_valuesOfName_11 : decode cX9_valuesOfName 11 = .ok (.ishr, 1) := by decide +kernel
theorem dX9_valuesOfName_12 : decode cX9_valuesOfName 12 = .ok (.iconst 1, 1) := by decide +kernel
theorem dX9_valuesOfName_13 : decode cX9_valuesOfName 13 = .ok (.iand, 1) := by decide +kernel
theorem dX9_valuesOfName_14 : decode cX9_valuesOfName 14 = .ok (.iconst 1, 1) := by decide +kernel
theorem dX9_valuesOfName_15 : decode cX9_valuesOfName 15 = .ok (.if_icmp .ne 9, 3) := by decide +kernel
theorem dX9_valuesOfName_18 : decode cX9_valuesOfName 18 = .ok (.ldc2_w 50, 3) := by decide +kernel
theorem dX9_valuesOfName_21 : decode cX9_valuesOfName 21 = .ok (.goto 4, 3) := by decide +kernel
theorem dX9_valuesOfName_24 : decode cX9_valuesOfName 24 = .ok (.lconst 0, 1) := by decide +kernel
theorem dX9_valuesOfName_25 : decode cX9_valuesOfName 25 = .ok (.lreturn, 1) := by decide +kernel
theorem dX9_valuesOfName_26 : decode cX9_valuesOfName 26 = .ok (.iload_n 0, 1) := by decide +kernel
theorem dX9_valuesOfName_27 : decode cX9_valuesOfName 27 = .ok (.ifCond .lt 11, 3) := by decide +kernel
theorem dX9_valuesOfName_30 : decode cX9_valuesOfName 30 = .ok (.getstatic 60, 3) := by decide +kernel
theorem dX9_valuesOfName_33 : decode cX9_valuesOfName 33 = .ok (.iload_n 0, 1) := by decide +kernel
theorem dX9_valuesOfName_34 : decode cX9_valuesOfName 34 = .ok (.laload, 1) := by decide +kernel
theorem dX9_valuesOfName_35 : decode cX9_valuesOfName 35 = .ok (.goto 4, 3) := by decide +kernel
theorem dX9_valuesOfName_38 : decode cX9_valuesOfName 38 = .ok (.lconst 0, 1) := by decide +kernel
theorem dX9_valuesOfName_39 : decode cX9_valuesOfName 39 = .ok (.lreturn, 1) := by decide +kernel
theorem dX9_combine_0 : decode cX9_combine 0 = .ok (.iload_n 0, 1) := by decide +kernel
theorem dX9_combine_1 : decode cX9_combine 1 = .ok (.lookupswitch 63 #[(38, 43), (62, 55), (94, 51), (124, 47)], 43) := by decide +kernel
theorem dX9_combine_44 : decode cX9_combine 44 = .ok (.lload_n 1, 1) := by decide +kernel
theorem dX9_combine_45 : decode cX9_combine 45 = .ok (.lload_n 3, 1) := by decide +kernel
theorem dX9_combine_46 : decode cX9_combine 46 = .ok (.land, 1) := by decide +kernel
theorem dX9_combine_47 : decode cX9_combine 47 = .ok (.lreturn, 1) := by decide +kernel
theorem dX9_combine_48 : decode cX9_combine 48 = .ok (.lload_n 1, 1) := by decide +kernel
theorem dX9_combine_49 : decode cX9_combine 49 = .ok (.lload_n 3, 1) := by decide +kernel
theorem dX9_combine_50 : decode cX9_combine 50 = .ok (.lor, 1) := by decide +kernel
theorem dX9_combine_51 : decode cX9_combine 51 = .ok (.lreturn, 1) := by decide +kernel
theorem dX9_combine_52 : decode cX9_combine 52 = .ok (.lload_n 1, 1) := by decide +kernel
theorem dX9_combine_53 : decode cX9_combine 53 = .ok (.lload_n 3, 1) := by decide +kernel
theorem dX9_combine_54 : decode cX9_combine 54 = .ok (.lxor, 1) := by decide +kernel
theorem dX9_combine_55 : decode cX9_combine 55 = .ok (.lreturn, 1) := by decide +kernel
theorem dX9_combine_56 : decode cX9_combine 56 = .ok (.lload_n 1, 1) := by decide +kernel
theorem dX9_combine_57 : decode cX9_combine 57 = .ok (.ldc2_w 50, 3) := by decide +kernel
theorem dX9_combine_60 : decode cX9_combine 60 = .ok (.lxor, 1) := by decide +kernel
theorem dX9_combine_61 : decode cX9_combine 61 = .ok (.lload_n 3, 1) := by decide +kernel
theorem dX9_combine_62 : decode cX9_combine 62 = .ok (.lor, 1) := by decide +kernel
theorem dX9_combine_63 : decode cX9_combine 63 = .ok (.lreturn, 1) := by decide +kernel
theorem dX9_combine_64 : decode cX9_combine 64 = .ok (.lload_n 1, 1) := by decide +kernel
theorem dX9_combine_65 : decode cX9_combine 65 = .ok (.lload_n 3, 1) := by decide +kernel
theorem dX9_combine_66 : decode cX9_combine 66 = .ok (.lxor, 1) := by decide +kernel
theorem dX9_combine_67 : decode cX9_combine 67 = .ok (.ldc2_w 50, 3) := by decide +kernel
theorem dX9_combine_70 : decode cX9_combine 70 = .ok (.lxor, 1) := by decide +kernel
theorem dX9_combine_71 : decode cX9_combine 71 = .ok (.lreturn, 1) := by decide +kernel
theorem dX9_push_0 : decode cX9_push 0 = .ok (.aload_n 0, 1) := by decide +kernel
theorem dX9_push_1 : decode cX9_push 1 = .ok (.getfield 30, 3) := by decide +kernel
theorem dX9_push_4 : decode cX9_push 4 = .ok (.sipush 160, 3) := by decide +kernel
theorem dX9_push_7 : decode cX9_push 7 = .ok (.invokestatic 26, 3) := by decide +kernel
theorem dX9_push_10 : decode cX9_push 10 = .ok (.ifCond .eq 23, 3) := by decide +kernel
theorem dX9_push_13 : decode cX9_push 13 = .ok (.aload_n 0, 1) := by decide +kernel
theorem dX9_push_14 : decode cX9_push 14 = .ok (.getfield 15, 3) := by decide +kernel
theorem dX9_push_17 : decode cX9_push 17 = .ok (.aload_n 0, 1) := by decide +kernel
theorem dX9_push_18 : decode cX9_push 18 = .ok (.getfield 30, 3) := by decide +kernel
theorem dX9_push_21 : decode cX9_push 21 = .ok (.lload_n 1, 1) := by decide +kernel
theorem dX9_push_22 : decode cX9_push 22 = .ok (.lastore, 1) := by decide +kernel
theorem dX9_push_23 : decode cX9_push 23 = .ok (.aload_n 0, 1) := by decide +kernel
theorem dX9_push_24 : decode cX9_push 24 = .ok (.dup, 1) := by decide +kernel
theorem dX9_push_25 : decode cX9_push 25 = .ok (.getfield 30, 3) := by decide +kernel
theorem dX9_push_28 : decode cX9_push 28 = .ok (.iconst 1, 1) := by decide +kernel
theorem dX9_push_29 : decode cX9_push 29 = .ok (.iadd, 1) := by decide +kernel
theorem dX9_push_30 : decode cX9_push 30 = .ok (.putfield 30, 3) := by decide +kernel
theorem dX9_push_33 : decode cX9_push 33 = .ok (.return_, 1) := by decide +kernel
theorem dX9_pop_0 : decode cX9_pop 0 = .ok (.aload_n 0, 1) := by decide +kernel
theorem dX9_pop_1 : decode cX9_pop 1 = .ok (.getfield 30, 3) := by decide +kernel
theorem dX9_pop_4 : decode cX9_pop 4 = .ok (.iconst 1, 1) := by decide +kernel
theorem dX9_pop_5 : decode cX9_pop 5 = .ok (.isub, 1) := by decide +kernel
theorem dX9_pop_6 : decode cX9_pop 6 = .ok (.sipush 160, 3) := by decide +kernel
theorem dX9_pop_9 : decode cX9_pop 9 = .ok (.invokestatic 26, 3) := by decide +kernel
theorem dX9_pop_12 : decode cX9_pop 12 = .ok (.ifCond .ne 5, 3) := by decide +kernel
theorem dX9_pop_15 : decode cX9_pop 15 = .ok (.lconst 0, 1) := by decide +kernel
theorem dX9_pop_16 : decode cX9_pop 16 = .ok (.lreturn, 1) := by decide +kernel
theorem dX9_pop_17 : decode cX9_pop 17 = .ok (.aload_n 0, 1) := by decide +kernel
theorem dX9_pop_18 : decode cX9_pop 18 = .ok (.dup, 1) := by decide +kernel
theorem dX9_pop_19 : decode cX9_pop 19 = .ok (.getfield 30, 3) := by decide +kernel
theorem dX9_pop_22 : decode cX9_pop 22 = .ok (.iconst 1, 1) := by decide +kernel
theorem dX9_pop_23 : decode cX9_pop 23 = .ok (.isub, 1) := by decide +kernel
theorem dX9_pop_24 : decode cX9_pop 24 = .ok (.putfield 30, 3) := by decide +kernel
theorem dX9_pop_27 : decode cX9_pop 27 = .ok (.aload_n 0, 1) := by decide +kernel
theorem dX9_pop_28 : decode cX9_pop 28 = .ok (.getfield 15, 3) := by decide +kernel
theorem dX9_pop_31 : decode cX9_pop 31 = .ok (.aload_n 0, 1) := by decide +kernel
theorem dX9_pop_32 : decode cX9_pop 32 = .ok (.getfield 30, 3) := by decide +kernel
theorem dX9_pop_35 : decode cX9_pop 35 = .ok (.laload, 1) := by decide +kernel
theorem dX9_pop_36 : decode cX9_pop 36 = .ok (.lreturn, 1) := by decide +kernel
theorem dX10_init_0 : decode cX10_init 0 = .ok (.aload_n 0, 1) := by decide +kernel
theorem dX10_init_1 : decode cX10_init 1 = .ok (.invokespecial 3, 3) := by decide +kernel
theorem dX10_init_4 : decode cX10_init 4 = .ok (.aload_n 0, 1) := by decide +kernel
theorem dX10_init_5 : decode cX10_init 5 = .ok (.sipush 600, 3) := by decide +kernel
theorem dX10_init_8 : decode cX10_init 8 = .ok (.newarray .int, 2) := by decide +kernel
theorem dX10_init_10 : decode cX10_init 10 = .ok (.putfield 9, 3) := by decide +kernel
theorem dX10_init_13 : decode cX10_init 13 = .ok (.return_, 1) := by decide +kernel
theorem dX10_addBytesOf_0 : decode cX10_addBytesOf 0 = .ok (.bipush 24, 2) := by decide +kernel
theorem dX10_addBytesOf_2 : decode cX10_addBytesOf 2 = .ok (.istore_n 2, 1) := by decide +kernel
theorem dX10_addBytesOf_3 : decode cX10_addBytesOf 3 = .ok (.iload_n 2, 1) := by decide +kernel
theorem dX10_addBytesOf_4 : decode cX10_addBytesOf 4 = .ok (.ifCond .lt 48, 3) := by decide +kernel
theorem dX10_addBytesOf_7 : decode cX10_addBytesOf 7 = .ok (.aload_n 0, 1) := by decide +kernel
theorem dX10_addBytesOf_8 : decode cX10_addBytesOf 8 = .ok (.getfield 15, 3) := by decide +kernel
theorem dX10_addBytesOf_11 : decode cX10_addBytesOf 11 = .ok (.sipush 600, 3) := by decide +kernel
theorem dX10_addBytesOf_14 : decode cX10_addBytesOf 14 = .ok (.invokestatic 19, 3) := by decide +kernel
theorem dX10_addBytesOf_17 : decode cX10_addBytesOf 17 = .ok (.ifCond .eq 29, 3) := by decide +kernel
theorem dX10_addBytesOf_20 : decode cX10_addBytesOf 20 = .ok (.aload_n 0, 1) := by decide +kernel
theorem dX10_addBytesOf_21 : decode cX10_addBytesOf 21 = .ok (.getfield 9, 3) := by decide +kernel
theorem dX10_addBytesOf_24 : decode cX10_addBytesOf 24 = .ok (.aload_n 0, 1) := by decide +kernel
theorem dX10_addBytesOf_25 : decode cX10_addBytesOf 25 = .ok (.getfield 15, 3) := by decide +kernel
theorem dX10_addBytesOf_28 : decode cX10_addBytesOf 28 = .ok (.iload_n 1, 1) := by decide +kernel
theorem dX10_addBytesOf_29 : decode cX10_addBytesOf 29 = .ok (.iload_n 2, 1) := by decide +kernel
theorem dX10_addBytesOf_30 : decode cX10_addBytesOf 30 = .ok (.iushr, 1) := by decide +kernel
theorem dX10_addBytesOf_31 : decode cX10_addBytesOf 31 = .ok (.sipush 255, 3) := by decide +kernel
theorem dX10_addBytesOf_34 : decode cX10_addBytesOf 34 = .ok (.iand, 1) := by decide +kernel
theorem dX10_addBytesOf_35 : decode cX10_addBytesOf 35 = .ok (.iastore, 1) := by decide +kernel
theorem dX10_addBytesOf_36 : decode cX10_addBytesOf 36 = .ok (.aload_n 0, 1) := by decide +kernel
theorem dX10_addBytesOf_37 : decode cX10_addBytesOf 37 = .ok (.dup, 1) := by decide +kernel
theorem dX10_addBytesOf_38 : decode cX10_addBytesOf 38 = .ok (.getfield 15, 3) := by decide +kernel
theorem dX10_addBytesOf_41 : decode cX10_addBytesOf 41 = .ok (.iconst 1, 1) := by decide +kernel
theorem dX10_addBytesOf_42 : decode cX10_addBytesOf 42 = .ok (.iadd, 1) := by decide +kernel
theorem dX10_addBytesOf_43 : decode cX10_addBytesOf 43 = .ok (.putfield 15, 3) := by decide +kernel
theorem dX10_addBytesOf_46 : decode cX10_addBytesOf 46 = .ok (.iinc 2 (-8), 3) := by decide +kernel
theorem dX10_addBytesOf_49 : decode cX10_addBytesOf 49 = .ok (.goto (-46), 3) := by decide +kernel
theorem dX10_addBytesOf_52 : decode cX10_addBytesOf 52 = .ok (.return_, 1) := by decide +kernel
theorem dX10_byteAt_0 : decode cX10_byteAt 0 = .ok (.iload_n 1, 1) := by decide +kernel
theorem dX10_byteAt_1 : decode cX10_byteAt 1 = .ok (.sipush 600, 3) := by decide +kernel
theorem dX10_byteAt_4 : decode cX10_byteAt 4 = .ok (.invokestatic 19, 3) := by decide +kernel
theorem dX10_byteAt_7 : decode cX10_byteAt 7 = .ok (.ifCond .eq 12, 3) := by decide +kernel
theorem dX10_byteAt_10 : decode cX10_byteAt 10 = .ok (.aload_n 0, 1) := by decide +kernel
theorem dX10_byteAt_11 : decode cX10_byteAt 11 = .ok (.getfield 9, 3) := by decide +kernel
theorem dX10_byteAt_14 : decode cX10_byteAt 14 = .ok (.iload_n 1, 1) := by decide +kernel
theorem dX10_byteAt_15 : decode cX10_byteAt 15 = .ok (.iaload, 1) := by decide +kernel
theorem dX10_byteAt_16 : decode cX10_byteAt 16 = .ok (.goto 4, 3) := by decide +kernel
theorem dX10_byteAt_19 : decode cX10_byteAt 19 = .ok (.iconst (-1), 1) := by decide +kernel
theorem dX10_byteAt_20 : decode cX10_byteAt 20 = .ok (.ireturn, 1) := by decide +kernel
theorem dX11_init_0 : decode cX11_init 0 = .ok (.aload_n 0, 1) := by decide +kernel
theorem dX11_init_1 : decode cX11_init 1 = .ok (.invokespecial 1, 3) := by decide +kernel
theorem dX11_init_4 : decode cX11_init 4 = .ok (.aload_n 0, 1) := by decide +kernel
theorem dX11_init_5 : decode cX11_init 5 = .ok (.new 7, 3) := by decide +kernel
theorem dX11_init_8 : decode cX11_init 8 = .ok (.dup, 1) := by decide +kernel
theorem dX11_init_9 : decode cX11_init 9 = .ok (.invokespecial 9, 3) := by decide +kernel
theorem dX11_init_12 : decode cX11_init 12 = .ok (.putfield 10, 3) := by decide +kernel
theorem dX11_init_15 : decode cX11_init 15 = .ok (.aload_n 0, 1) := by decide +kernel
theorem dX11_init_16 : decode cX11_init 16 = .ok (.new 16, 3) := by decide +kernel
theorem dX11_init_19 : decode cX11_init 19 = .ok (.dup, 1) := by decide +kernel
theorem dX11_init_20 : decode cX11_init 20 = .ok (.aload_n 0, 1) := by decide +kernel
theorem dX11_init_21 : decode cX11_init 21 = .ok (.getfield 10, 3) := by decide +kernel
theorem dX11_init_24 : decode cX11_init 24 = .ok (.invokespecial 18, 3) := by decide +kernel
theorem dX11_init_27 : decode cX11_init 27 = .ok (.putfield 21, 3) := by decide +kernel
theorem dX11_init_30 : decode cX11_init 30 = .ok (.aload_n 0, 1) := by decide +kernel
theorem dX11_init_31 : decode cX11_init 31 = .ok (.new 25, 3) := by decide +kernel
theorem dX11_init_34 : decode cX11_init 34 = .ok (.dup, 1) := by decide +kernel
theorem dX11_init_35 : decode cX11_init 35 = .ok (.invokespecial 27, 3) := by decide +kernel
theorem dX11_init_38 : decode cX11_init 38 = .ok (.putfield 28, 3) := by decide +kernel
theorem dX11_init_41 : decode cX11_init 41 = .ok (.aload_n 0, 1) := by decide +kernel
theorem dX11_init_42 : decode cX11_init 42 = .ok (.new 32, 3) := by decide +kernel
theorem dX11_init_45 : decode cX11_init 45 = .ok (.dup, 1) := by decide +kernel
theorem dX11_init_46 : decode cX11_init 46 = .ok (.invokespecial 34, 3) := by decide +kernel
theorem dX11_init_49 : decode cX11_init 49 = .ok (.putfield 35, 3) := by decide +kernel
theorem dX11_init_52 : decode cX11_init 52 = .ok (.aload_n 0, 1) := by decide +kernel
theorem dX11_init_53 : decode cX11_init 53 = .ok (.new 39, 3) := by decide +kernel
theorem dX11_init_56 : decode cX11_init 56 = .ok (.dup, 1) := by decide +kernel
theorem dX11_init_57 : decode cX11_init 57 = .ok (.invokespecial 41, 3) := by decide +kernel
theorem dX11_init_60 : decode cX11_init 60 = .ok (.putfield 42, 3) := by decide +kernel
theorem dX11_init_63 : decode cX11_init 63 = .ok (.aload_n 0, 1) := by decide +kernel
theorem dX11_init_64 : decode cX11_init 64 = .ok (.new 46, 3) := by decide +kernel
theorem dX11_init_67 : decode cX11_init 67 = .ok (.dup, 1) := by decide +kernel
theorem dX11_init_68 : decode cX11_init 68 = .ok (.invokespecial 48, 3) := by decide +kernel
theorem dX11_init_71 : decode cX11_init 71 = .ok (.putfield 49, 3) := by decide +kernel
theorem dX11_init_74 : decode cX11_init 74 = .ok (.aload_n 0, 1) := by decide +kernel
theorem dX11_init_75 : decode cX11_init 75 = .ok (.iconst 0, 1) := by decide +kernel
theorem dX11_init_76 : decode cX11_init 76 = .ok (.putfield 53, 3) := by decide +kernel
