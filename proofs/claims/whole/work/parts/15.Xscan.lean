theorem dX6_isBlank_0 : decode cX6_isBlank 0 = .ok (.iload_n 0, 1) := by decide +kernel
theorem dX6_isBlank_1 : decode cX6_isBlank 1 = .ok (.bipush 9, 2) := by decide +kernel
theorem dX6_isBlank_3 : decode cX6_isBlank 3 = .ok (.if_icmp .eq 21, 3) := by decide +kernel
theorem dX6_isBlank_6 : decode cX6_isBlank 6 = .ok (.iload_n 0, 1) := by decide +kernel
theorem dX6_isBlank_7 : decode cX6_isBlank 7 = .ok (.bipush 10, 2) := by decide +kernel
theorem dX6_isBlank_9 : decode cX6_isBlank 9 = .ok (.if_icmp .eq 15, 3) := by decide +kernel
theorem dX6_isBlank_12 : decode cX6_isBlank 12 = .ok (.iload_n 0, 1) := by decide +kernel
theorem dX6_isBlank_13 : decode cX6_isBlank 13 = .ok (.bipush 13, 2) := by decide +kernel
theorem dX6_isBlank_15 : decode cX6_isBlank 15 = .ok (.if_icmp .eq 9, 3) := by decide +kernel
theorem dX6_isBlank_18 : decode cX6_isBlank 18 = .ok (.iload_n 0, 1) := by decide +kernel
theorem dX6_isBlank_19 : decode cX6_isBlank 19 = .ok (.bipush 32, 2) := by decide +kernel
theorem dX6_isBlank_21 : decode cX6_isBlank 21 = .ok (.if_icmp .ne 7, 3) := by decide +kernel
theorem dX6_isBlank_24 : decode cX6_isBlank 24 = .ok (.iconst 1, 1) := by decide +kernel
theorem dX6_isBlank_25 : decode cX6_isBlank 25 = .ok (.goto 4, 3) := by decide +kernel
theorem dX6_isBlank_28 : decode cX6_isBlank 28 = .ok (.iconst 0, 1) := by decide +kernel
theorem dX6_isBlank_29 : decode cX6_isBlank 29 = .ok (.ireturn, 1) := by decide +kernel
theorem dX6_skipBlanks_0 : decode cX6_skipBlanks 0 = .ok (.aload_n 0, 1) := by decide +kernel
theorem dX6_skipBlanks_1 : decode cX6_skipBlanks 1 = .ok (.getfield 26, 3) := by decide +kernel
theorem dX6_skipBlanks_4 : decode cX6_skipBlanks 4 = .ok (.aload_n 0, 1) := by decide +kernel
theorem dX6_skipBlanks_5 : decode cX6_skipBlanks 5 = .ok (.getfield 22, 3) := by decide +kernel
theorem dX6_skipBlanks_8 : decode cX6_skipBlanks 8 = .ok (.getfield 41, 3) := by decide +kernel
theorem dX6_skipBlanks_11 : decode cX6_skipBlanks 11 = .ok (.if_icmp .ge 33, 3) := by decide +kernel
theorem dX6_skipBlanks_14 : decode cX6_skipBlanks 14 = .ok (.aload_n 0, 1) := by decide +kernel
theorem dX6_skipBlanks_15 : decode cX6_skipBlanks 15 = .ok (.getfield 22, 3) := by decide +kernel
theorem dX6_skipBlanks_18 : decode cX6_skipBlanks 18 = .ok (.aload_n 0, 1) := by decide +kernel
theorem dX6_skipBlanks_19 : decode cX6_skipBlanks 19 = .ok (.getfield 26, 3) := by decide +kernel
theorem dX6_skipBlanks_22 : decode cX6_skipBlanks 22 = .ok (.invokevirtual 46, 3) := by decide +kernel
theorem dX6_skipBlanks_25 : decode cX6_skipBlanks 25 = .ok (.invokestatic 50, 3) := by decide +kernel
theorem dX6_skipBlanks_28 : decode cX6_skipBlanks 28 = .ok (.ifCond .eq 16, 3) := by decide +kernel
theorem dX6_skipBlanks_31 : decode cX6_skipBlanks 31 = .ok (.aload_n 0, 1) := by decide +kernel
theorem dX6_skipBlanks_32 : decode cX6_skipBlanks 32 = .ok (.dup, 1) := by decide +kernel
theorem dX6_skipBlanks_33 : decode cX6_skipBlanks 33 = .ok (.getfield 26, 3) := by decide +kernel
theorem dX6_skipBlanks_36 : decode cX6_skipBlanks 36 = .ok (.iconst 1, 1) := by decide +kernel
theorem dX6_skipBlanks_37 : decode cX6_skipBlanks 37 = .ok (.iadd, 1) := by decide +kernel
theorem dX6_skipBlanks_38 : decode cX6_skipBlanks 38 = .ok (.putfield 26, 3) := by decide +kernel
theorem dX6_skipBlanks_41 : decode cX6_skipBlanks 41 = .ok (.goto (-41), 3) := by decide +kernel
theorem dX6_skipBlanks_44 : decode cX6_skipBlanks 44 = .ok (.return_, 1) := by decide +kernel
theorem dX6_isLetter_0 : decode cX6_isLetter 0 = .ok (.bipush 97, 2) := by decide +kernel
theorem dX6_isLetter_2 : decode cX6_isLetter 2 = .ok (.iload_n 0, 1) := by decide +kernel
theorem dX6_isLetter_3 : decode cX6_isLetter 3 = .ok (.if_icmp .gt 13, 3) := by decide +kernel
theorem dX6_isLetter_6 : decode cX6_isLetter 6 = .ok (.iload_n 0, 1) := by decide +kernel
theorem dX6_isLetter_7 : decode cX6_isLetter 7 = .ok (.bipush 122, 2) := by decide +kernel
theorem dX6_isLetter_9 : decode cX6_isLetter 9 = .ok (.if_icmp .gt 7, 3) := by decide +kernel
theorem dX6_isLetter_12 : decode cX6_isLetter 12 = .ok (.iconst 1, 1) := by decide +kernel
theorem dX6_isLetter_13 : decode cX6_isLetter 13 = .ok (.goto 4, 3) := by decide +kernel
theorem dX6_isLetter_16 : decode cX6_isLetter 16 = .ok (.iconst 0, 1) := by decide +kernel
theorem dX6_isLetter_17 : decode cX6_isLetter 17 = .ok (.ireturn, 1) := by decide +kernel
theorem dX6_withLetter_0 : decode cX6_withLetter 0 = .ok (.lload_n 0, 1) := by decide +kernel
theorem dX6_withLetter_1 : decode cX6_withLetter 1 = .ok (.ldc2_w 93, 3) := by decide +kernel
theorem dX6_withLetter_4 : decode cX6_withLetter 4 = .ok (.lmul, 1) := by decide +kernel
theorem dX6_withLetter_5 : decode cX6_withLetter 5 = .ok (.iload_n 2, 1) := by decide +kernel
theorem dX6_withLetter_6 : decode cX6_withLetter 6 = .ok (.bipush 97, 2) := by decide +kernel
theorem dX6_withLetter_8 : decode cX6_withLetter 8 = .ok (.isub, 1) := by decide +kernel
theorem dX6_withLetter_9 : decode cX6_withLetter 9 = .ok (.iconst 1, 1) := by decide +kernel
theorem dX6_withLetter_10 : decode cX6_withLetter 10 = .ok (.iadd, 1) := by decide +kernel
theorem dX6_withLetter_11 : decode cX6_withLetter 11 = .ok (.i2l, 1) := by decide +kernel
theorem dX6_withLetter_12 : decode cX6_withLetter 12 = .ok (.ladd, 1) := by decide +kernel
theorem dX6_withLetter_13 : decode cX6_withLetter 13 = .ok (.lreturn, 1) := by decide +kernel
theorem dJ0_coder_7d493_0 : decode cJ0_coder_7d493 0 = .ok (.getstatic 38, 3) := by decide +kernel
theorem dJ0_coder_7d493_3 : decode cJ0_coder_7d493 3 = .ok (.ifCond .eq 10, 3) := by decide +kernel
theorem dJ0_coder_7d493_6 : decode cJ0_coder_7d493 6 = .ok (.aload_n 0, 1) := by decide +kernel
theorem dJ0_coder_7d493_7 : decode cJ0_coder_7d493 7 = .ok (.getfield 15, 3) := by decide +kernel
theorem dJ0_coder_7d493_10 : decode cJ0_coder_7d493 10 = .ok (.goto 4, 3) := by decide +kernel
theorem dJ0_coder_7d493_13 : decode cJ0_coder_7d493 13 = .ok (.iconst 1, 1) := by decide +kernel
theorem dJ0_coder_7d493_14 : decode cJ0_coder_7d493 14 = .ok (.ireturn, 1) := by decide +kernel
theorem dJ0_length_8abf5_0 : decode cJ0_length_8abf5 0 = .ok (.aload_n 0, 1) := by decide +kernel
theorem dJ0_length_8abf5_1 : decode cJ0_length_8abf5 1 = .ok (.getfield 9, 3) := by decide +kernel
theorem dJ0_length_8abf5_4 : decode cJ0_length_8abf5 4 = .ok (.arraylength, 1) := by decide +kernel
theorem dJ0_length_8abf5_5 : decode cJ0_length_8abf5 5 = .ok (.aload_n 0, 1) := by decide +kernel
theorem dJ0_length_8abf5_6 : decode cJ0_length_8abf5 6 = .ok (.invokevirtual 335, 3) := by decide +kernel
theorem dJ0_length_8abf5_9 : decode cJ0_length_8abf5 9 = .ok (.ishr, 1) := by decide +kernel
theorem dJ0_length_8abf5_10 : decode cJ0_length_8abf5 10 = .ok (.ireturn, 1) := by decide +kernel
theorem dJ0_isLatin1_aae02_0 : decode cJ0_isLatin1_aae02 0 = .ok (.getstatic 38, 3) := by decide +kernel
theorem dJ0_isLatin1_aae02_3 : decode cJ0_isLatin1_aae02 3 = .ok (.ifCond .eq 14, 3) := by decide +kernel
theorem dJ0_isLatin1_aae02_6 : decode cJ0_isLatin1_aae02 6 = .ok (.aload_n 0, 1) := by decide +kernel
theorem dJ0_isLatin1_aae02_7 : decode cJ0_isLatin1_aae02 7 = .ok (.getfield 15, 3) := by decide +kernel
theorem dJ0_isLatin1_aae02_10 : decode cJ0_isLatin1_aae02 10 = .ok (.ifCond .ne 7, 3) := by decide +kernel
theorem dJ0_isLatin1_aae02_13 : decode cJ0_isLatin1_aae02 13 = .ok (.iconst 1, 1) := by decide +kernel
theorem dJ0_isLatin1_aae02_14 : decode cJ0_isLatin1_aae02 14 = .ok (.goto 4, 3) := by decide +kernel
theorem dJ0_isLatin1_aae02_17 : decode cJ0_isLatin1_aae02 17 = .ok (.iconst 0, 1) := by decide +kernel
theorem dJ0_isLatin1_aae02_18 : decode cJ0_isLatin1_aae02 18 = .ok (.ireturn, 1) := by decide +kernel
theorem dJ3_checkIndex_8e157_0 : decode cJ3_checkIndex_8e157 0 = .ok (.iload_n 0, 1) := by decide +kernel
theorem dJ3_checkIndex_8e157_1 : decode cJ3_checkIndex_8e157 1 = .ok (.ifCond .lt 8, 3) := by decide +kernel
theorem dJ3_checkIndex_8e157_4 : decode cJ3_checkIndex_8e157 4 = .ok (.iload_n 0, 1) := by decide +kernel
theorem dJ3_checkIndex_8e157_5 : decode cJ3_checkIndex_8e157 5 = .ok (.iload_n 1, 1) := by decide +kernel
theorem dJ3_checkIndex_8e157_6 : decode cJ3_checkIndex_8e157 6 = .ok (.if_icmp .lt 10, 3) := by decide +kernel
theorem dJ3_checkIndex_8e157_9 : decode cJ3_checkIndex_8e157 9 = .ok (.aload_n 2, 1) := by decide +kernel
theorem dJ3_checkIndex_8e157_10 : decode cJ3_checkIndex_8e157 10 = .ok (.iload_n 0, 1) := by decide +kernel
theorem dJ3_checkIndex_8e157_11 : decode cJ3_checkIndex_8e157 11 = .ok (.iload_n 1, 1) := by decide +kernel
theorem dJ3_checkIndex_8e157_12 : decode cJ3_checkIndex_8e157 12 = .ok (.invokestatic 95, 3) := by decide +kernel
theorem dJ3_checkIndex_8e157_15 : decode cJ3_checkIndex_8e157 15 = .ok (.athrow, 1) := by decide +kernel
theorem dJ3_checkIndex_8e157_16 : decode cJ3_checkIndex_8e157 16 = .ok (.iload_n 0, 1) := by decide +kernel
theorem dJ3_checkIndex_8e157_17 : decode cJ3_checkIndex_8e157 17 = .ok (.ireturn, 1) := by decide +kernel
theorem dJ0_checkIndex_df160_0 : decode cJ0_checkIndex_df160 0 = .ok (.iload_n 0, 1) := by decide +kernel
theorem dJ0_checkIndex_df160_1 : decode cJ0_checkIndex_df160 1 = .ok (.iload_n 1, 1) := by decide +kernel
theorem dJ0_checkIndex_df160_2 : decode cJ0_checkIndex_df160 2 = .ok (.getstatic 1053, 3) := by decide +kernel
theorem dJ0_checkIndex_df160_5 : decode cJ0_checkIndex_df160 5 = .ok (.invokestatic 1059, 3) := by decide +kernel
theorem dJ0_checkIndex_df160_8 : decode cJ0_checkIndex_df160 8 = .ok (.pop, 1) := by decide +kernel
theorem dJ0_checkIndex_df160_9 : decode cJ0_checkIndex_df160 9 = .ok (.return_, 1) := by decide +kernel
theorem dJ1_charAt_3b067_0 : decode cJ1_charAt_3b067 0 = .ok (.iload_n 1, 1) := by decide +kernel
theorem dJ1_charAt_3b067_1 : decode cJ1_charAt_3b067 1 = .ok (.aload_n 0, 1) := by decide +kernel
theorem dJ1_charAt_3b067_2 : decode cJ1_charAt_3b067 2 = .ok (.arraylength, 1) := by decide +kernel
theorem dJ1_charAt_3b067_3 : decode cJ1_charAt_3b067 3 = .ok (.invokestatic 9, 3) := by decide +kernel
theorem dJ1_charAt_3b067_6 : decode cJ1_charAt_3b067 6 = .ok (.aload_n 0, 1) := by decide +kernel
theorem dJ1_charAt_3b067_7 : decode cJ1_charAt_3b067 7 = .ok (.iload_n 1, 1) := by decide +kernel
theorem dJ1_charAt_3b067_8 : decode cJ1_charAt_3b067 8 = .ok (.baload, 1) := by decide +kernel
theorem dJ1_charAt_3b067_9 : decode cJ1_charAt_3b067 9 = .ok (.sipush 255, 3) := by decide +kernel
theorem dJ1_charAt_3b067_12 : decode cJ1_charAt_3b067 12 = .ok (.iand, 1) := by decide +kernel
theorem dJ1_charAt_3b067_13 : decode cJ1_charAt_3b067 13 = .ok (.i2c, 1) := by decide +kernel
theorem dJ1_charAt_3b067_14 : decode cJ1_charAt_3b067 14 = .ok (.ireturn, 1) := by decide +kernel
theorem dJ0_charAt_5068e_0 : decode cJ0_charAt_5068e 0 = .ok (.aload_n 0, 1) := by decide +kernel
theorem dJ0_charAt_5068e_1 : decode cJ0_charAt_5068e 1 = .ok (.invokevirtual 492, 3) := by decide +kernel
theorem dJ0_charAt_5068e_4 : decode cJ0_charAt_5068e 4 = .ok (.ifCond .eq 12, 3) := by decide +kernel
theorem dJ0_charAt_5068e_7 : decode cJ0_charAt_5068e 7 = .ok (.aload_n 0, 1) := by decide +kernel
theorem dJ0_charAt_5068e_8 : decode cJ0_charAt_5068e 8 = .ok (.getfield 9, 3) := by decide +kernel
theorem dJ0_charAt_5068e_11 : decode cJ0_charAt_5068e 11 = .ok (.iload_n 1, 1) := by decide +kernel
theorem dJ0_charAt_5068e_12 : decode cJ0_charAt_5068e 12 = .ok (.invokestatic 495, 3) := by decide +kernel
theorem dJ0_charAt_5068e_15 : decode cJ0_charAt_5068e 15 = .ok (.ireturn, 1) := by decide +kernel
theorem dJ0_charAt_5068e_16 : decode cJ0_charAt_5068e 16 = .ok (.aload_n 0, 1) := by decide +kernel
theorem dJ0_charAt_5068e_17 : decode cJ0_charAt_5068e 17 = .ok (.getfield 9, 3) := by decide +kernel
theorem dJ0_charAt_5068e_20 : decode cJ0_charAt_5068e 20 = .ok (.iload_n 1, 1) := by decide +kernel
theorem dJ0_charAt_5068e_21 : decode cJ0_charAt_5068e 21 = .ok (.invokestatic 498, 3) := by decide +kernel
theorem dJ0_charAt_5068e_24 : decode cJ0_charAt_5068e 24 = .ok (.ireturn, 1) := by decide +kernel
theorem dX6_kindOf_0 : decode cX6_kindOf 0 = .ok (.iconst 0, 1) := by decide +kernel
theorem dX6_kindOf_1 : decode cX6_kindOf 1 = .ok (.istore_n 2, 1) := by decide +kernel
theorem dX6_kindOf_2 : decode cX6_kindOf 2 = .ok (.lconst 0, 1) := by decide +kernel
theorem dX6_kindOf_3 : decode cX6_kindOf 3 = .ok (.lstore_n 3, 1) := by decide +kernel
theorem dX6_kindOf_4 : decode cX6_kindOf 4 = .ok (.iconst 0, 1) := by decide +kernel
theorem dX6_kindOf_5 : decode cX6_kindOf 5 = .ok (.istore 5, 2) := by decide +kernel
theorem dX6_kindOf_7 : decode cX6_kindOf 7 = .ok (.iload 5, 2) := by decide +kernel
theorem dX6_kindOf_9 : decode cX6_kindOf 9 = .ok (.ldc 85, 2) := by decide +kernel
theorem dX6_kindOf_11 : decode cX6_kindOf 11 = .ok (.invokevirtual 87, 3) := by decide +kernel
theorem dX6_kindOf_14 : decode cX6_kindOf 14 = .ok (.if_icmp .ge 48, 3) := by decide +kernel
theorem dX6_kindOf_17 : decode cX6_kindOf 17 = .ok (.ldc 85, 2) := by decide +kernel
theorem dX6_kindOf_19 : decode cX6_kindOf 19 = .ok (.iload 5, 2) := by decide +kernel
theorem dX6_kindOf_21 : decode cX6_kindOf 21 = .ok (.invokevirtual 89, 3) := by decide +kernel
theorem dX6_kindOf_24 : decode cX6_kindOf 24 = .ok (.istore 6, 2) := by decide +kernel
theorem dX6_kindOf_26 : decode cX6_kindOf 26 = .ok (.iload 6, 2) := by decide +kernel
theorem dX6_kindOf_28 : decode cX6_kindOf 28 = .ok (.bipush 32, 2) := by decide +kernel
theorem dX6_kindOf_30 : decode cX6_kindOf 30 = .ok (.if_icmp .eq 13, 3) := by decide +kernel
theorem dX6_kindOf_33 : decode cX6_kindOf 33 = .ok (.lload_n 3, 1) := by decide +kernel
theorem dX6_kindOf_34 : decode cX6_kindOf 34 = .ok (.iload 6, 2) := by decide +kernel
theorem dX6_kindOf_36 : decode cX6_kindOf 36 = .ok (.invokestatic 73, 3) := by decide +kernel
theorem dX6_kindOf_39 : decode cX6_kindOf 39 = .ok (.lstore_n 3, 1) := by decide +kernel
theorem dX6_kindOf_40 : decode cX6_kindOf 40 = .ok (.goto 16, 3) := by decide +kernel
theorem dX6_kindOf_43 : decode cX6_kindOf 43 = .ok (.lload_n 3, 1) := by decide +kernel
theorem dX6_kindOf_44 : decode cX6_kindOf 44 = .ok (.lload_n 0, 1) := by decide +kernel
theorem dX6_kindOf_45 : decode cX6_kindOf 45 = .ok (.lcmp, 1) := by decide +kernel
theorem dX6_kindOf_46 : decode cX6_kindOf 46 = .ok (.ifCond .ne 5, 3) := by decide +kernel
theorem dX6_kindOf_49 : decode cX6_kindOf 49 = .ok (.iload_n 2, 1) := by decide +kernel
theorem dX6_kindOf_50 : decode cX6_kindOf 50 = .ok (.ireturn, 1) := by decide +kernel
theorem dX6_kindOf_51 : decode cX6_kindOf 51 = .ok (.iinc 2 1, 3) := by decide +kernel
theorem dX6_kindOf_54 : decode cX6_kindOf 54 = .ok (.lconst 0, 1) := by decide +kernel
theorem dX6_kindOf_55 : decode cX6_kindOf 55 = .ok (.lstore_n 3, 1) := by decide +kernel
theorem dX6_kindOf_56 : decode cX6_kindOf 56 = .ok (.iinc 5 1, 3) := by decide +kernel
theorem dX6_kindOf_59 : decode cX6_kindOf 59 = .ok (.goto (-52), 3) := by decide +kernel
theorem dX6_kindOf_62 : decode cX6_kindOf 62 = .ok (.bipush 22, 2) := by decide +kernel
theorem dX6_kindOf_64 : decode cX6_kindOf 64 = .ok (.ireturn, 1) := by decide +kernel
theorem dX6_scanLetters_0 : decode cX6_scanLetters 0 = .ok (.aload_n 0, 1) := by decide +kernel
theorem dX6_scanLetters_1 : decode cX6_scanLetters 1 = .ok (.getfield 26, 3) := by decide +kernel
theorem dX6_scanLetters_4 : decode cX6_scanLetters 4 = .ok (.istore_n 1, 1) := by decide +kernel
theorem dX6_scanLetters_5 : decode cX6_scanLetters 5 = .ok (.aload_n 0, 1) := by decide +kernel
theorem dX6_scanLetters_6 : decode cX6_scanLetters 6 = .ok (.getfield 26, 3) := by decide +kernel
theorem dX6_scanLetters_9 : decode cX6_scanLetters 9 = .ok (.aload_n 0, 1) := by decide +kernel
theorem dX6_scanLetters_10 : decode cX6_scanLetters 10 = .ok (.getfield 22, 3) := by decide +kernel
theorem dX6_scanLetters_13 : decode cX6_scanLetters 13 = .ok (.getfield 41, 3) := by decide +kernel
theorem dX6_scanLetters_16 : decode cX6_scanLetters 16 = .ok (.if_icmp .ge 55, 3) := by decide +kernel
theorem dX6_scanLetters_19 : decode cX6_scanLetters 19 = .ok (.aload_n 0, 1) := by decide +kernel
theorem dX6_scanLetters_20 : decode cX6_scanLetters 20 = .ok (.getfield 22, 3) := by decide +kernel
theorem dX6_scanLetters_23 : decode cX6_scanLetters 23 = .ok (.aload_n 0, 1) := by decide +kernel
theorem dX6_scanLetters_24 : decode cX6_scanLetters 24 = .ok (.getfield 26, 3) := by decide +kernel
theorem dX6_scanLetters_27 : decode cX6_scanLetters 27 = .ok (.invokevirtual 46, 3) := by decide +kernel
theorem dX6_scanLetters_30 : decode cX6_scanLetters 30 = .ok (.invokestatic 54, 3) := by decide +kernel
theorem dX6_scanLetters_33 : decode cX6_scanLetters 33 = .ok (.ifCond .eq 38, 3) := by decide +kernel
theorem dX6_scanLetters_36 : decode cX6_scanLetters 36 = .ok (.aload_n 0, 1) := by decide +kernel
theorem dX6_scanLetters_37 : decode cX6_scanLetters 37 = .ok (.aload_n 0, 1) := by decide +kernel
theorem dX6_scanLetters_38 : decode cX6_scanLetters 38 = .ok (.getfield 37, 3) := by decide +kernel
theorem dX6_scanLetters_41 : decode cX6_scanLetters 41 = .ok (.aload_n 0, 1) := by decide +kernel
theorem dX6_scanLetters_42 : decode cX6_scanLetters 42 = .ok (.getfield 22, 3) := by decide +kernel
theorem dX6_scanLetters_45 : decode cX6_scanLetters 45 = .ok (.aload_n 0, 1) := by decide +kernel
theorem dX6_scanLetters_46 : decode cX6_scanLetters 46 = .ok (.getfield 26, 3) := by decide +kernel
theorem dX6_scanLetters_49 : decode cX6_scanLetters 49 = .ok (.invokevirtual 46, 3) := by decide +kernel
theorem dX6_scanLetters_52 : decode cX6_scanLetters 52 = .ok (.invokestatic 73, 3) := by decide +kernel
theorem dX6_scanLetters_55 : decode cX6_scanLetters 55 = .ok (.putfield 37, 3) := by decide +kernel
theorem dX6_scanLetters_58 : decode cX6_scanLetters 58 = .ok (.aload_n 0, 1) := by decide +kernel
theorem dX6_scanLetters_59 : decode cX6_scanLetters 59 = .ok (.dup, 1) := by decide +kernel
theorem dX6_scanLetters_60 : decode cX6_scanLetters 60 = .ok (.getfield 26, 3) := by decide +kernel
theorem dX6_scanLetters_63 : decode cX6_scanLetters 63 = .ok (.iconst 1, 1) := by decide +kernel
theorem dX6_scanLetters_64 : decode cX6_scanLetters 64 = .ok (.iadd, 1) := by decide +kernel
theorem dX6_scanLetters_65 : decode cX6_scanLetters 65 = .ok (.putfield 26, 3) := by decide +kernel
theorem dX6_scanLetters_68 : decode cX6_scanLetters 68 = .ok (.goto (-63), 3) := by decide +kernel
theorem dX6_scanLetters_71 : decode cX6_scanLetters 71 = .ok (.aload_n 0, 1) := by decide +kernel
theorem dX6_scanLetters_72 : decode cX6_scanLetters 72 = .ok (.getfield 26, 3) := by decide +kernel
theorem dX6_scanLetters_75 : decode cX6_scanLetters 75 = .ok (.iload_n 1, 1) := by decide +kernel
theorem dX6_scanLetters_76 : decode cX6_scanLetters 76 = .ok (.isub, 1) := by decide +kernel
theorem dX6_scanLetters_77 : decode cX6_scanLetters 77 = .ok (.bipush 8, 2) := by decide +kernel
theorem dX6_scanLetters_79 : decode cX6_scanLetters 79 = .ok (.if_icmp .le 8, 3) := by decide +kernel
theorem dX6_scanLetters_82 : decode cX6_scanLetters 82 = .ok (.bipush 25, 2) := by decide +kernel
theorem dX6_scanLetters_84 : decode cX6_scanLetters 84 = .ok (.goto 10, 3) := by decide +kernel
theorem dX6_scanLetters_87 : decode cX6_scanLetters 87 = .ok (.aload_n 0, 1) := by decide +kernel
theorem dX6_scanLetters_88 : decode cX6_scanLetters 88 = .ok (.getfield 37, 3) := by decide +kernel
theorem dX6_scanLetters_91 : decode cX6_scanLetters 91 = .ok (.invokestatic 77, 3) := by decide +kernel
theorem dX6_scanLetters_94 : decode cX6_scanLetters 94 = .ok (.ireturn, 1) := by decide +kernel
theorem dX6_isDigit_0 : decode cX6_isDigit 0 = .ok (.bipush 48, 2) := by decide +kernel
theorem dX6_isDigit_2 : decode cX6_isDigit 2 = .ok (.iload_n 0, 1) := by decide +kernel
theorem dX6_isDigit_3 : decode cX6_isDigit 3 = .ok (.if_icmp .gt 13, 3) := by decide +kernel
theorem dX6_isDigit_6 : decode cX6_isDigit 6 = .ok (.iload_n 0, 1) := by decide +kernel
theorem dX6_isDigit_7 : decode cX6_isDigit 7 = .ok (.bipush 57, 2) := by decide +kernel
theorem dX6_isDigit_9 : decode cX6_isDigit 9 = .ok (.if_icmp .gt 7, 3) := by decide +kernel
theorem dX6_isDigit_12 : decode cX6_isDigit 12 = .ok (.iconst 1, 1) := by decide +kernel
theorem dX6_isDigit_13 : decode cX6_isDigit 13 = .ok (.goto 4, 3) := by decide +kernel
theorem dX6_isDigit_16 : decode cX6_isDigit 16 = .ok (.iconst 0, 1) := by decide +kernel
theorem dX6_isDigit_17 : decode cX6_isDigit 17 = .ok (.ireturn, 1) := by decide +kernel
theorem dX6_scanDigits_0 : decode cX6_scanDigits 0 = .ok (.aload_n 0, 1) := by decide +kernel
theorem dX6_scanDigits_1 : decode cX6_scanDigits 1 = .ok (.getfield 26, 3) := by decide +kernel
theorem dX6_scanDigits_4 : decode cX6_scanDigits 4 = .ok (.istore_n 1, 1) := by decide +kernel
theorem dX6_scanDigits_5 : decode cX6_scanDigits 5 = .ok (.aload_n 0, 1) := by decide +kernel
theorem dX6_scanDigits_6 : decode cX6_scanDigits 6 = .ok (.getfield 26, 3) := by decide +kernel
theorem dX6_scanDigits_9 : decode cX6_scanDigits 9 = .ok (.aload_n 0, 1) := by decide +kernel
theorem dX6_scanDigits_10 : decode cX6_scanDigits 10 = .ok (.getfield 22, 3) := by decide +kernel
theorem dX6_scanDigits_13 : decode cX6_scanDigits 13 = .ok (.getfield 41, 3) := by decide +kernel
theorem dX6_scanDigits_16 : decode cX6_scanDigits 16 = .ok (.if_icmp .ge 62, 3) := by decide +kernel
theorem dX6_scanDigits_19 : decode cX6_scanDigits 19 = .ok (.aload_n 0, 1) := by decide +kernel
theorem dX6_scanDigits_20 : decode cX6_scanDigits 20 = .ok (.getfield 22, 3) := by decide +kernel
theorem dX6_scanDigits_23 : decode cX6_scanDigits 23 = .ok (.aload_n 0, 1) := by decide +kernel
theorem dX6_scanDigits_24 : decode cX6_scanDigits 24 = .ok (.getfield 26, 3) := by decide +kernel
theorem dX6_scanDigits_27 : decode cX6_scanDigits 27 = .ok (.invokevirtual 46, 3) := by decide +kernel
theorem dX6_scanDigits_30 : decode cX6_scanDigits 30 = .ok (.invokestatic 60, 3) := by decide +kernel
theorem dX6_scanDigits_33 : decode cX6_scanDigits 33 = .ok (.ifCond .eq 45, 3) := by decide +kernel
theorem dX6_scanDigits_36 : decode cX6_scanDigits 36 = .ok (.aload_n 0, 1) := by decide +kernel
theorem dX6_scanDigits_37 : decode cX6_scanDigits 37 = .ok (.aload_n 0, 1) := by decide +kernel
theorem dX6_scanDigits_38 : decode cX6_scanDigits 38 = .ok (.getfield 37, 3) := by decide +kernel
theorem dX6_scanDigits_41 : decode cX6_scanDigits 41 = .ok (.ldc2_w 81, 3) := by decide +kernel
theorem dX6_scanDigits_44 : decode cX6_scanDigits 44 = .ok (.lmul, 1) := by decide +kernel
theorem dX6_scanDigits_45 : decode cX6_scanDigits 45 = .ok (.aload_n 0, 1) := by decide +kernel
theorem dX6_scanDigits_46 : decode cX6_scanDigits 46 = .ok (.getfield 22, 3) := by decide +kernel
theorem dX6_scanDigits_49 : decode cX6_scanDigits 49 = .ok (.aload_n 0, 1) := by decide +kernel
theorem dX6_scanDigits_50 : decode cX6_scanDigits 50 = .ok (.getfield 26, 3) := by decide +kernel
theorem dX6_scanDigits_53 : decode cX6_scanDigits 53 = .ok (.invokevirtual 46, 3) := by decide +kernel
theorem dX6_scanDigits_56 : decode cX6_scanDigits 56 = .ok (.i2l, 1) := by decide +kernel
theorem dX6_scanDigits_57 : decode cX6_scanDigits 57 = .ok (.ladd, 1) := by decide +kernel
theorem dX6_scanDigits_58 : decode cX6_scanDigits 58 = .ok (.ldc2_w 83, 3) := by decide +kernel
theorem dX6_scanDigits_61 : decode cX6_scanDigits 61 = .ok (.lsub, 1) := by decide +kernel
theorem dX6_scanDigits_62 : decode cX6_scanDigits 62 = .ok (.putfield 37, 3) := by decide +kernel
theorem dX6_scanDigits_65 : decode cX6_scanDigits 65 = .ok (.aload_n 0, 1) := by decide +kernel
theorem dX6_scanDigits_66 : decode cX6_scanDigits 66 = .ok (.dup, 1) := by decide +kernel
theorem dX6_scanDigits_67 : decode cX6_scanDigits 67 = .ok (.getfield 26, 3) := by decide +kernel
theorem dX6_scanDigits_70 : decode cX6_scanDigits 70 = .ok (.iconst 1, 1) := by decide +kernel
theorem dX6_scanDigits_71 : decode cX6_scanDigits 71 = .ok (.iadd, 1) := by decide +kernel
theorem dX6_scanDigits_72 : decode cX6_scanDigits 72 = .ok (.putfield 26, 3) := by decide +kernel
theorem dX6_scanDigits_75 : decode cX6_scanDigits 75 = .ok (.goto (-70), 3) := by decide +kernel
theorem dX6_scanDigits_78 : decode cX6_scanDigits 78 = .ok (.aload_n 0, 1) := by decide +kernel
theorem dX6_scanDigits_79 : decode cX6_scanDigits 79 = .ok (.getfield 26, 3) := by decide +kernel
theorem dX6_scanDigits_82 : decode cX6_scanDigits 82 = .ok (.iload_n 1, 1) := by decide +kernel
theorem dX6_scanDigits_83 : decode cX6_scanDigits 83 = .ok (.isub, 1) := by decide +kernel
theorem dX6_scanDigits_84 : decode cX6_scanDigits 84 = .ok (.iconst 4, 1) := by decide +kernel
theorem dX6_scanDigits_85 : decode cX6_scanDigits 85 = .ok (.if_icmp .le 8, 3) := by decide +kernel
theorem dX6_scanDigits_88 : decode cX6_scanDigits 88 = .ok (.bipush 25, 2) := by decide +kernel
theorem dX6_scanDigits_90 : decode cX6_scanDigits 90 = .ok (.goto 5, 3) := by decide +kernel
theorem dX6_scanDigits_93 : decode cX6_scanDigits 93 = .ok (.bipush 23, 2) := by decide +kernel
theorem dX6_scanDigits_95 : decode cX6_scanDigits 95 = .ok (.ireturn, 1) := by decide +kernel
theorem dJ1_canEncode_9a6ad_0 : decode cJ1_canEncode_9a6ad 0 = .ok (.iload_n 0, 1) := by decide +kernel
theorem dJ1_canEncode_9a6ad_1 : decode cJ1_canEncode_9a6ad 1 = .ok (.ifCond .lt 14, 3) := by decide +kernel
theorem dJ1_canEncode_9a6ad_4 : decode cJ1_canEncode_9a6ad 4 = .ok (.iload_n 0, 1) := by decide +kernel
theorem dJ1_canEncode_9a6ad_5 : decode cJ1_canEncode_9a6ad 5 = .ok (.sipush 255, 3) := by decide +kernel
theorem dJ1_canEncode_9a6ad_8 : decode cJ1_canEncode_9a6ad 8 = .ok (.if_icmp .gt 7, 3) := by decide +kernel
theorem dJ1_canEncode_9a6ad_11 : decode cJ1_canEncode_9a6ad 11 = .ok (.iconst 1, 1) := by decide +kernel
theorem dJ1_canEncode_9a6ad_12 : decode cJ1_canEncode_9a6ad 12 = .ok (.goto 4, 3) := by decide +kernel
theorem dJ1_canEncode_9a6ad_15 : decode cJ1_canEncode_9a6ad 15 = .ok (.iconst 0, 1) := by decide +kernel
theorem dJ1_canEncode_9a6ad_16 : decode cJ1_canEncode_9a6ad 16 = .ok (.ireturn, 1) := by decide +kernel
theorem dJ1_indexOfChar_4cfef_0 : decode cJ1_indexOfChar_4cfef 0 = .ok (.iload_n 1, 1) := by decide +kernel
theorem dJ1_indexOfChar_4cfef_1 : decode cJ1_indexOfChar_4cfef 1 = .ok (.i2b, 1) := by decide +kernel
theorem dJ1_indexOfChar_4cfef_2 : decode cJ1_indexOfChar_4cfef 2 = .ok (.istore 4, 2) := by decide +kernel
theorem dJ1_indexOfChar_4cfef_4 : decode cJ1_indexOfChar_4cfef 4 = .ok (.iload_n 2, 1) := by decide +kernel
theorem dJ1_indexOfChar_4cfef_5 : decode cJ1_indexOfChar_4cfef 5 = .ok (.istore 5, 2) := by decide +kernel
theorem dJ1_indexOfChar_4cfef_7 : decode cJ1_indexOfChar_4cfef 7 = .ok (.iload 5, 2) := by decide +kernel
theorem dJ1_indexOfChar_4cfef_9 : decode cJ1_indexOfChar_4cfef 9 = .ok (.iload_n 3, 1) := by decide +kernel
theorem dJ1_indexOfChar_4cfef_10 : decode cJ1_indexOfChar_4cfef 10 = .ok (.if_icmp .ge 21, 3) := by decide +kernel
theorem dJ1_indexOfChar_4cfef_13 : decode cJ1_indexOfChar_4cfef 13 = .ok (.aload_n 0, 1) := by decide +kernel
theorem dJ1_indexOfChar_4cfef_14 : decode cJ1_indexOfChar_4cfef 14 = .ok (.iload 5, 2) := by decide +kernel
theorem dJ1_indexOfChar_4cfef_16 : decode cJ1_indexOfChar_4cfef 16 = .ok (.baload, 1) := by decide +kernel
theorem dJ1_indexOfChar_4cfef_17 : decode cJ1_indexOfChar_4cfef 17 = .ok (.iload 4, 2) := by decide +kernel
theorem dJ1_indexOfChar_4cfef_19 : decode cJ1_indexOfChar_4cfef 19 = .ok (.if_icmp .ne 6, 3) := by decide +kernel
theorem dJ1_indexOfChar_4cfef_22 : decode cJ1_indexOfChar_4cfef 22 = .ok (.iload 5, 2) := by decide +kernel
theorem dJ1_indexOfChar_4cfef_24 : decode cJ1_indexOfChar_4cfef 24 = .ok (.ireturn, 1) := by decide +kernel
theorem dJ1_indexOfChar_4cfef_25 : decode cJ1_indexOfChar_4cfef 25 = .ok (.iinc 5 1, 3) := by decide +kernel
theorem dJ1_indexOfChar_4cfef_28 : decode cJ1_indexOfChar_4cfef 28 = .ok (.goto (-21), 3) := by decide +kernel
theorem dJ1_indexOfChar_4cfef_31 : decode cJ1_indexOfChar_4cfef 31 = .ok (.iconst (-1), 1) := by decide +kernel
theorem dJ1_indexOfChar_4cfef_32 : decode cJ1_indexOfChar_4cfef 32 = .ok (.ireturn, 1) := by decide +kernel
theorem dJ1_indexOf_4cfef_0 : decode cJ1_indexOf_4cfef 0 = .ok (.iload_n 1, 1) := by decide +kernel
theorem dJ1_indexOf_4cfef_1 : decode cJ1_indexOf_4cfef 1 = .ok (.invokestatic 88, 3) := by decide +kernel
theorem dJ1_indexOf_4cfef_4 : decode cJ1_indexOf_4cfef 4 = .ok (.ifCond .ne 5, 3) := by decide +kernel
theorem dJ1_indexOf_4cfef_7 : decode cJ1_indexOf_4cfef 7 = .ok (.iconst (-1), 1) := by decide +kernel
theorem dJ1_indexOf_4cfef_8 : decode cJ1_indexOf_4cfef 8 = .ok (.ireturn, 1) := by decide +kernel
theorem dJ1_indexOf_4cfef_9 : decode cJ1_indexOf_4cfef 9 = .ok (.iload_n 2, 1) := by decide +kernel
theorem dJ1_indexOf_4cfef_10 : decode cJ1_indexOf_4cfef 10 = .ok (.iconst 0, 1) := by decide +kernel
theorem dJ1_indexOf_4cfef_11 : decode cJ1_indexOf_4cfef 11 = .ok (.invokestatic 92, 3) := by decide +kernel
theorem dJ1_indexOf_4cfef_14 : decode cJ1_indexOf_4cfef 14 = .ok (.istore_n 2, 1) := by decide +kernel
theorem dJ1_indexOf_4cfef_15 : decode cJ1_indexOf_4cfef 15 = .ok (.iload_n 3, 1) := by decide +kernel
theorem dJ1_indexOf_4cfef_16 : decode cJ1_indexOf_4cfef 16 = .ok (.aload_n 0, 1) := by decide +kernel
theorem dJ1_indexOf_4cfef_17 : decode cJ1_indexOf_4cfef 17 = .ok (.arraylength, 1) := by decide +kernel
theorem dJ1_indexOf_4cfef_18 : decode cJ1_indexOf_4cfef 18 = .ok (.invokestatic 38, 3) := by decide +kernel
theorem dJ1_indexOf_4cfef_21 : decode cJ1_indexOf_4cfef 21 = .ok (.istore_n 3, 1) := by decide +kernel
theorem dJ1_indexOf_4cfef_22 : decode cJ1_indexOf_4cfef 22 = .ok (.iload_n 2, 1) := by decide +kernel
theorem dJ1_indexOf_4cfef_23 : decode cJ1_indexOf_4cfef 23 = .ok (.iload_n 3, 1) := by decide +kernel
theorem dJ1_indexOf_4cfef_24 : decode cJ1_indexOf_4cfef 24 = .ok (.if_icmp .lt 5, 3) := by decide +kernel
theorem dJ1_indexOf_4cfef_27 : decode cJ1_indexOf_4cfef 27 = .ok (.iconst (-1), 1) := by decide +kernel
theorem dJ1_indexOf_4cfef_28 : decode cJ1_indexOf_4cfef 28 = .ok (.ireturn, 1) := by decide +kernel
theorem dJ1_indexOf_4cfef_29 : decode cJ1_indexOf_4cfef 29 = .ok (.aload_n 0, 1) := by decide +kernel
theorem dJ1_indexOf_4cfef_30 : decode cJ1_indexOf_4cfef 30 = .ok (.iload_n 1, 1) := by decide +kernel
theorem dJ1_indexOf_4cfef_31 : decode cJ1_indexOf_4cfef 31 = .ok (.iload_n 2, 1) := by decide +kernel
theorem dJ1_indexOf_4cfef_32 : decode cJ1_indexOf_4cfef 32 = .ok (.iload_n 3, 1) := by decide +kernel
theorem dJ1_indexOf_4cfef_33 : decode cJ1_indexOf_4cfef 33 = .ok (.invokestatic 95, 3) := by decide +kernel
theorem dJ1_indexOf_4cfef_36 : decode cJ1_indexOf_4cfef 36 = .ok (.ireturn, 1) := by decide +kernel
theorem dJ0_indexOf_7cf53_0 : decode cJ0_indexOf_7cf53 0 = .ok (.aload_n 0, 1) := by decide +kernel
theorem dJ0_indexOf_7cf53_1 : decode cJ0_indexOf_7cf53 1 = .ok (.invokevirtual 492, 3) := by decide +kernel
theorem dJ0_indexOf_7cf53_4 : decode cJ0_indexOf_7cf53 4 = .ok (.ifCond .eq 19, 3) := by decide +kernel
theorem dJ0_indexOf_7cf53_7 : decode cJ0_indexOf_7cf53 7 = .ok (.aload_n 0, 1) := by decide +kernel
theorem dJ0_indexOf_7cf53_8 : decode cJ0_indexOf_7cf53 8 = .ok (.getfield 9, 3) := by decide +kernel
theorem dJ0_indexOf_7cf53_11 : decode cJ0_indexOf_7cf53 11 = .ok (.iload_n 1, 1) := by decide +kernel
theorem dJ0_indexOf_7cf53_12 : decode cJ0_indexOf_7cf53 12 = .ok (.iload_n 2, 1) := by decide +kernel
theorem dJ0_indexOf_7cf53_13 : decode cJ0_indexOf_7cf53 13 = .ok (.aload_n 0, 1) := by decide +kernel
theorem dJ0_indexOf_7cf53_14 : decode cJ0_indexOf_7cf53 14 = .ok (.invokevirtual 505, 3) := by decide +kernel
theorem dJ0_indexOf_7cf53_17 : decode cJ0_indexOf_7cf53 17 = .ok (.invokestatic 637, 3) := by decide +kernel
theorem dJ0_indexOf_7cf53_20 : decode cJ0_indexOf_7cf53 20 = .ok (.goto 16, 3) := by decide +kernel
theorem dJ0_indexOf_7cf53_23 : decode cJ0_indexOf_7cf53 23 = .ok (.aload_n 0, 1) := by decide +kernel
theorem dJ0_indexOf_7cf53_24 : decode cJ0_indexOf_7cf53 24 = .ok (.getfield 9, 3) := by decide +kernel
theorem dJ0_indexOf_7cf53_27 : decode cJ0_indexOf_7cf53 27 = .ok (.iload_n 1, 1) := by decide +kernel
theorem dJ0_indexOf_7cf53_28 : decode cJ0_indexOf_7cf53 28 = .ok (.iload_n 2, 1) := by decide +kernel
theorem dJ0_indexOf_7cf53_29 : decode cJ0_indexOf_7cf53 29 = .ok (.aload_n 0, 1) := by decide +kernel
theorem dJ0_indexOf_7cf53_30 : decode cJ0_indexOf_7cf53 30 = .ok (.invokevirtual 505, 3) := by decide +kernel
theorem dJ0_indexOf_7cf53_33 : decode cJ0_indexOf_7cf53 33 = .ok (.invokestatic 640, 3) := by decide +kernel
theorem dJ0_indexOf_7cf53_36 : decode cJ0_indexOf_7cf53 36 = .ok (.ireturn, 1) := by decide +kernel
theorem dJ0_indexOf_0f7a4_0 : decode cJ0_indexOf_0f7a4 0 = .ok (.aload_n 0, 1) := by decide +kernel
theorem dJ0_indexOf_0f7a4_1 : decode cJ0_indexOf_0f7a4 1 = .ok (.iload_n 1, 1) := by decide +kernel
theorem dJ0_indexOf_0f7a4_2 : decode cJ0_indexOf_0f7a4 2 = .ok (.iconst 0, 1) := by decide +kernel
theorem dJ0_indexOf_0f7a4_3 : decode cJ0_indexOf_0f7a4 3 = .ok (.invokevirtual 633, 3) := by decide +kernel
theorem dJ0_indexOf_0f7a4_6 : decode cJ0_indexOf_0f7a4 6 = .ok (.ireturn, 1) := by decide +kernel
theorem dX6_scanToken_0 : decode cX6_scanToken 0 = .ok (.aload_n 0, 1) := by decide +kernel
theorem dX6_scanToken_1 : decode cX6_scanToken 1 = .ok (.lconst 0, 1) := by decide +kernel
theorem dX6_scanToken_2 : decode cX6_scanToken 2 = .ok (.putfield 37, 3) := by decide +kernel
theorem dX6_scanToken_5 : decode cX6_scanToken 5 = .ok (.aload_n 0, 1) := by decide +kernel
theorem dX6_scanToken_6 : decode cX6_scanToken 6 = .ok (.getfield 22, 3) := by decide +kernel
theorem dX6_scanToken_9 : decode cX6_scanToken 9 = .ok (.aload_n 0, 1) := by decide +kernel
theorem dX6_scanToken_10 : decode cX6_scanToken 10 = .ok (.getfield 26, 3) := by decide +kernel
theorem dX6_scanToken_13 : decode cX6_scanToken 13 = .ok (.invokevirtual 46, 3) := by decide +kernel
theorem dX6_scanToken_16 : decode cX6_scanToken 16 = .ok (.istore_n 1, 1) := by decide +kernel
theorem dX6_scanToken_17 : decode cX6_scanToken 17 = .ok (.iload_n 1, 1) := by decide +kernel
theorem dX6_scanToken_18 : decode cX6_scanToken 18 = .ok (.iconst (-1), 1) := by decide +kernel
theorem dX6_scanToken_19 : decode cX6_scanToken 19 = .ok (.if_icmp .ne 6, 3) := by decide +kernel
theorem dX6_scanToken_22 : decode cX6_scanToken 22 = .ok (.bipush 24, 2) := by decide +kernel
theorem dX6_scanToken_24 : decode cX6_scanToken 24 = .ok (.ireturn, 1) := by decide +kernel
theorem dX6_scanToken_25 : decode cX6_scanToken 25 = .ok (.iload_n 1, 1) := by decide +kernel
theorem dX6_scanToken_26 : decode cX6_scanToken 26 = .ok (.invokestatic 54, 3) := by decide +kernel
theorem dX6_scanToken_29 : decode cX6_scanToken 29 = .ok (.ifCond .eq 8, 3) := by decide +kernel
theorem dX6_scanToken_32 : decode cX6_scanToken 32 = .ok (.aload_n 0, 1) := by decide +kernel
theorem dX6_scanToken_33 : decode cX6_scanToken 33 = .ok (.invokevirtual 57, 3) := by decide +kernel
theorem dX6_scanToken_36 : decode cX6_scanToken 36 = .ok (.ireturn, 1) := by decide +kernel
theorem dX6_scanToken_37 : decode cX6_scanToken 37 = .ok (.iload_n 1, 1) := by decide +kernel
theorem dX6_scanToken_38 : decode cX6_scanToken 38 = .ok (.invokestatic 60, 3) := by decide +kernel
theorem dX6_scanToken_41 : decode cX6_scanToken 41 = .ok (.ifCond .eq 8, 3) := by decide +kernel
theorem dX6_scanToken_44 : decode cX6_scanToken 44 = .ok (.aload_n 0, 1) := by decide +kernel
theorem dX6_scanToken_45 : decode cX6_scanToken 45 = .ok (.invokevirtual 63, 3) := by decide +kernel
theorem dX6_scanToken_48 : decode cX6_scanToken 48 = .ok (.ireturn, 1) := by decide +kernel
theorem dX6_scanToken_49 : decode cX6_scanToken 49 = .ok (.aload_n 0, 1) := by decide +kernel
theorem dX6_scanToken_50 : decode cX6_scanToken 50 = .ok (.dup, 1) := by decide +kernel
theorem dX6_scanToken_51 : decode cX6_scanToken 51 = .ok (.getfield 26, 3) := by decide +kernel
theorem dX6_scanToken_54 : decode cX6_scanToken 54 = .ok (.iconst 1, 1) := by decide +kernel
theorem dX6_scanToken_55 : decode cX6_scanToken 55 = .ok (.iadd, 1) := by decide +kernel
theorem dX6_scanToken_56 : decode cX6_scanToken 56 = .ok (.putfield 26, 3) := by decide +kernel
theorem dX6_scanToken_59 : decode cX6_scanToken 59 = .ok (.ldc 66, 2) := by decide +kernel
theorem dX6_scanToken_61 : decode cX6_scanToken 61 = .ok (.iload_n 1, 1) := by decide +kernel
theorem dX6_scanToken_62 : decode cX6_scanToken 62 = .ok (.i2c, 1) := by decide +kernel
theorem dX6_scanToken_63 : decode cX6_scanToken 63 = .ok (.invokevirtual 68, 3) := by decide +kernel
theorem dX6_scanToken_66 : decode cX6_scanToken 66 = .ok (.ifCond .lt 7, 3) := by decide +kernel
theorem dX6_scanToken_69 : decode cX6_scanToken 69 = .ok (.iload_n 1, 1) := by decide +kernel
theorem dX6_scanToken_70 : decode cX6_scanToken 70 = .ok (.goto 5, 3) := by decide +kernel
theorem dX6_scanToken_73 : decode cX6_scanToken 73 = .ok (.bipush 25, 2) := by decide +kernel
theorem dX6_scanToken_75 : decode cX6_scanToken 75 = .ok (.ireturn, 1) := by decide +kernel
theorem dX6_scan_0 : decode cX6_scan 0 = .ok (.aload_n 0, 1) := by decide +kernel
theorem dX6_scan_1 : decode cX6_scan 1 = .ok (.iconst 0, 1) := by decide +kernel
theorem dX6_scan_2 : decode cX6_scan 2 = .ok (.putfield 26, 3) := by decide +kernel
theorem dX6_scan_5 : decode cX6_scan 5 = .ok (.bipush 22, 2) := by decide +kernel
theorem dX6_scan_7 : decode cX6_scan 7 = .ok (.istore_n 1, 1) := by decide +kernel
theorem dX6_scan_8 : decode cX6_scan 8 = .ok (.iconst 0, 1) := by decide +kernel
theorem dX6_scan_9 : decode cX6_scan 9 = .ok (.istore_n 2, 1) := by decide +kernel
theorem dX6_scan_10 : decode cX6_scan 10 = .ok (.iload_n 2, 1) := by decide +kernel
theorem dX6_scan_11 : decode cX6_scan 11 = .ok (.sipush 400, 3) := by decide +kernel
theorem dX6_scan_14 : decode cX6_scan 14 = .ok (.if_icmp .gt 57, 3) := by decide +kernel
theorem dX6_scan_17 : decode cX6_scan 17 = .ok (.iload_n 1, 1) := by decide +kernel
theorem dX6_scan_18 : decode cX6_scan 18 = .ok (.bipush 24, 2) := by decide +kernel
theorem dX6_scan_20 : decode cX6_scan 20 = .ok (.if_icmp .eq 51, 3) := by decide +kernel
theorem dX6_scan_23 : decode cX6_scan 23 = .ok (.iload_n 1, 1) := by decide +kernel
theorem dX6_scan_24 : decode cX6_scan 24 = .ok (.bipush 25, 2) := by decide +kernel
theorem dX6_scan_26 : decode cX6_scan 26 = .ok (.if_icmp .eq 45, 3) := by decide +kernel
theorem dX6_scan_29 : decode cX6_scan 29 = .ok (.aload_n 0, 1) := by decide +kernel
theorem dX6_scan_30 : decode cX6_scan 30 = .ok (.invokevirtual 30, 3) := by decide +kernel
theorem dX6_scan_33 : decode cX6_scan 33 = .ok (.aload_n 0, 1) := by decide +kernel
theorem dX6_scan_34 : decode cX6_scan 34 = .ok (.getfield 15, 3) := by decide +kernel
theorem dX6_scan_37 : decode cX6_scan 37 = .ok (.iload_n 2, 1) := by decide +kernel
theorem dX6_scan_38 : decode cX6_scan 38 = .ok (.aload_n 0, 1) := by decide +kernel
theorem dX6_scan_39 : decode cX6_scan 39 = .ok (.getfield 26, 3) := by decide +kernel
theorem dX6_scan_42 : decode cX6_scan 42 = .ok (.iastore, 1) := by decide +kernel
theorem dX6_scan_43 : decode cX6_scan 43 = .ok (.aload_n 0, 1) := by decide +kernel
theorem dX6_scan_44 : decode cX6_scan 44 = .ok (.invokevirtual 33, 3) := by decide +kernel
theorem dX6_scan_47 : decode cX6_scan 47 = .ok (.istore_n 1, 1) := by decide +kernel
theorem dX6_scan_48 : decode cX6_scan 48 = .ok (.aload_n 0, 1) := by decide +kernel
theorem dX6_scan_49 : decode cX6_scan 49 = .ok (.getfield 11, 3) := by decide +kernel
theorem dX6_scan_52 : decode cX6_scan 52 = .ok (.iload_n 2, 1) := by decide +kernel
theorem dX6_scan_53 : decode cX6_scan 53 = .ok (.iload_n 1, 1) := by decide +kernel
theorem dX6_scan_54 : decode cX6_scan 54 = .ok (.iastore, 1) := by decide +kernel
theorem dX6_scan_55 : decode cX6_scan 55 = .ok (.aload_n 0, 1) := by decide +kernel
theorem dX6_scan_56 : decode cX6_scan 56 = .ok (.getfield 18, 3) := by decide +kernel
theorem dX6_scan_59 : decode cX6_scan 59 = .ok (.iload_n 2, 1) := by decide +kernel
theorem dX6_scan_60 : decode cX6_scan 60 = .ok (.aload_n 0, 1) := by decide +kernel
theorem dX6_scan_61 : decode cX6_scan 61 = .ok (.getfield 37, 3) := by decide +kernel
theorem dX6_scan_64 : decode cX6_scan 64 = .ok (.lastore, 1) := by decide +kernel
theorem dX6_scan_65 : decode cX6_scan 65 = .ok (.iinc 2 1, 3) := by decide +kernel
theorem dX6_scan_68 : decode cX6_scan 68 = .ok (.goto (-58), 3) := by decide +kernel
theorem dX6_scan_71 : decode cX6_scan 71 = .ok (.return_, 1) := by decide +kernel
theorem fw_J0_9 : Cond.fieldLink RJ0 9 "java/lang/String" "value" "[B" ∈ lg_tbl := lg_at 1826 (by decide +kernel) (by decide +kernel)
theorem fw_J0_15 : Cond.fieldLink RJ0 15 "java/lang/String" "coder" "B" ∈ lg_tbl := lg_at 1827 (by decide +kernel) (by decide +kernel)
theorem fw_J0_38 : Cond.fieldLink RJ0 38 "java/lang/String" "COMPACT_STRINGS" "Z" ∈ lg_tbl := lg_at 503 (by decide +kernel) (by decide +kernel)
theorem fw_J0_1053 : Cond.fieldLink RJ0 1053 "jdk/internal/util/Preconditions" "SIOOBE_FORMATTER" "Ljava/util/function/BiFunction;" ∈ lg_tbl := lg_at 519 (by decide +kernel) (by decide +kernel)
theorem fl_X6_11 : fl RX6 11 6 0 := ⟨RX6, TX6, 6, rfl, iw_X6, by decide, lg_at 155 (by decide +kernel) (by decide +kernel), rfl⟩
theorem fl_X6_15 : fl RX6 15 6 1 := ⟨RX6, TX6, 6, rfl, iw_X6, by decide, lg_at 157 (by decide +kernel) (by decide +kernel), rfl⟩
theorem fl_X6_18 : fl RX6 18 6 2 := ⟨RX6, TX6, 6, rfl, iw_X6, by decide, lg_at 159 (by decide +kernel) (by decide +kernel), rfl⟩
theorem fl_X6_22 : fl RX6 22 6 3 := ⟨RX6, TX6, 6, rfl, iw_X6, by decide, lg_at 161 (by decide +kernel) (by decide +kernel), rfl⟩
theorem fl_X6_26 : fl RX6 26 6 4 := ⟨RX6, TX6, 6, rfl, iw_X6, by decide, lg_at 162 (by decide +kernel) (by decide +kernel), rfl⟩
theorem fl_X6_37 : fl RX6 37 6 5 := ⟨RX6, TX6, 6, rfl, iw_X6, by decide, lg_at 163 (by decide +kernel) (by decide +kernel), rfl⟩
theorem fl_X6_41 : fl RX6 41 8 1 := ⟨RX8, TX8, 2, rfl, iw_X8, by decide, lg_at 40 (by decide +kernel) (by decide +kernel), rfl⟩
theorem fp_X6_26 : fp RX6 26 6 4 .int := ⟨RX6, TX6, 6, tyX6, rfl, iw_X6, by decide, lg_at 162 (by decide +kernel) (by decide +kernel), rfl, tyX6_ok, nmX6, rfl, by decide +kernel⟩
theorem fp_X6_37 : fp RX6 37 6 5 .long := ⟨RX6, TX6, 6, tyX6, rfl, iw_X6, by decide, lg_at 163 (by decide +kernel) (by decide +kernel), rfl, tyX6_ok, nmX6, rfl, by decide +kernel⟩
theorem cV_X6_30 : cV RX6 30 yX6_skipBlanks cX6_skipBlanks 1 none 0 := ⟨⟨lg_at 465 (by decide +kernel) (by decide +kernel), lg_at 467 (by decide +kernel) (by decide +kernel), lg_sel 1 (by decide +kernel) (by decide +kernel), lg_at 6 (by decide +kernel) (by decide +kernel), lg_at 468 (by decide +kernel) (by decide +kernel)⟩, by decide +kernel, by decide +kernel, by decide +kernel⟩
theorem cV_X6_33 : cV RX6 33 yX6_scanToken cX6_scanToken 2 (some .int) 0 := ⟨⟨lg_at 476 (by decide +kernel) (by decide +kernel), lg_at 478 (by decide +kernel) (by decide +kernel), lg_sel 2 (by decide +kernel) (by decide +kernel), lg_at 6 (by decide +kernel) (by decide +kernel), lg_at 479 (by decide +kernel) (by decide +kernel)⟩, by decide +kernel, by decide +kernel, by decide +kernel⟩
theorem cV_X6_46 : cV RX6 46 yX8_byteAt cX8_byteAt 2 (some .int) 1 := ⟨⟨lg_at 469 (by decide +kernel) (by decide +kernel), lg_at 470 (by decide +kernel) (by decide +kernel), lg_at 471 (by decide +kernel) (by decide +kernel), lg_at 2 (by decide +kernel) (by decide +kernel), lg_at 472 (by decide +kernel) (by decide +kernel)⟩, by decide +kernel, by decide +kernel, by decide +kernel⟩
theorem cV_X6_57 : cV RX6 57 yX6_scanLetters cX6_scanLetters 2 (some .int) 0 := ⟨⟨lg_at 483 (by decide +kernel) (by decide +kernel), lg_at 485 (by decide +kernel) (by decide +kernel), lg_sel 3 (by decide +kernel) (by decide +kernel), lg_at 6 (by decide +kernel) (by decide +kernel), lg_at 486 (by decide +kernel) (by decide +kernel)⟩, by decide +kernel, by decide +kernel, by decide +kernel⟩
theorem cV_X6_63 : cV RX6 63 yX6_scanDigits cX6_scanDigits 2 (some .int) 0 := ⟨⟨lg_at 546 (by decide +kernel) (by decide +kernel), lg_at 548 (by decide +kernel) (by decide +kernel), lg_sel 4 (by decide +kernel) (by decide +kernel), lg_at 6 (by decide +kernel) (by decide +kernel), lg_at 549 (by decide +kernel) (by decide +kernel)⟩, by decide +kernel, by decide +kernel, by decide +kernel⟩
theorem cV_X6_68 : cV RX6 68 yJ0_indexOf_0f7a4 cJ0_indexOf_0f7a4 2 (some .int) 1 := ⟨⟨lg_at 553 (by decide +kernel) (by decide +kernel), lg_at 554 (by decide +kernel) (by decide +kernel), lg_at 555 (by decide +kernel) (by decide +kernel), lg_at 16 (by decide +kernel) (by decide +kernel), lg_at 556 (by decide +kernel) (by decide +kernel)⟩, by decide +kernel, by decide +kernel, by decide +kernel⟩
theorem cV_X6_87 : cV RX6 87 yJ0_length_8abf5 cJ0_length_8abf5 1 (some .int) 0 := ⟨⟨lg_at 495 (by decide +kernel) (by decide +kernel), lg_at 496 (by decide +kernel) (by decide +kernel), lg_at 497 (by decide +kernel) (by decide +kernel), lg_at 16 (by decide +kernel) (by decide +kernel), lg_at 498 (by decide +kernel) (by decide +kernel)⟩, by decide +kernel, by decide +kernel, by decide +kernel⟩
theorem cV_X6_89 : cV RX6 89 yJ0_charAt_5068e cJ0_charAt_5068e 2 (some .char) 1 := ⟨⟨lg_at 505 (by decide +kernel) (by decide +kernel), lg_at 506 (by decide +kernel) (by decide +kernel), lg_at 507 (by decide +kernel) (by decide +kernel), lg_at 16 (by decide +kernel) (by decide +kernel), lg_at 508 (by decide +kernel) (by decide +kernel)⟩, by decide +kernel, by decide +kernel, by decide +kernel⟩
theorem cV_J0_335 : cV RJ0 335 yJ0_coder_7d493 cJ0_coder_7d493 1 (some .byte) 0 := ⟨⟨lg_at 499 (by decide +kernel) (by decide +kernel), lg_at 500 (by decide +kernel) (by decide +kernel), lg_at 501 (by decide +kernel) (by decide +kernel), lg_at 16 (by decide +kernel) (by decide +kernel), lg_at 502 (by decide +kernel) (by decide +kernel)⟩, by decide +kernel, by decide +kernel, by decide +kernel⟩
theorem cV_J0_492 : cV RJ0 492 yJ0_isLatin1_aae02 cJ0_isLatin1_aae02 1 (some .boolean) 0 := ⟨⟨lg_at 509 (by decide +kernel) (by decide +kernel), lg_at 510 (by decide +kernel) (by decide +kernel), lg_at 511 (by decide +kernel) (by decide +kernel), lg_at 16 (by decide +kernel) (by decide +kernel), lg_at 512 (by decide +kernel) (by decide +kernel)⟩, by decide +kernel, by decide +kernel, by decide +kernel⟩
theorem cV_J0_505 : cV RJ0 505 yJ0_length_8abf5 cJ0_length_8abf5 1 (some .int) 0 := ⟨⟨lg_at 561 (by decide +kernel) (by decide +kernel), lg_at 496 (by decide +kernel) (by decide +kernel), lg_at 497 (by decide +kernel) (by decide +kernel), lg_at 16 (by decide +kernel) (by decide +kernel), lg_at 498 (by decide +kernel) (by decide +kernel)⟩, by decide +kernel, by decide +kernel, by decide +kernel⟩
theorem cV_J0_633 : cV RJ0 633 yJ0_indexOf_7cf53 cJ0_indexOf_7cf53 3 (some .int) 2 := ⟨⟨lg_at 557 (by decide +kernel) (by decide +kernel), lg_at 558 (by decide +kernel) (by decide +kernel), lg_at 559 (by decide +kernel) (by decide +kernel), lg_at 16 (by decide +kernel) (by decide +kernel), lg_at 560 (by decide +kernel) (by decide +kernel)⟩, by decide +kernel, by decide +kernel, by decide +kernel⟩
theorem cS_X6_50 : cS RX6 50 yX6_isBlank cX6_isBlank 1 (some .boolean) 1 := ⟨⟨lg_at 473 (by decide +kernel) (by decide +kernel), lg_at 474 (by decide +kernel) (by decide +kernel), lg_at 6 (by decide +kernel) (by decide +kernel), lg_at 475 (by decide +kernel) (by decide +kernel)⟩, by decide +kernel, by decide +kernel, by decide +kernel⟩
theorem cS_X6_54 : cS RX6 54 yX6_isLetter cX6_isLetter 1 (some .boolean) 1 := ⟨⟨lg_at 480 (by decide +kernel) (by decide +kernel), lg_at 481 (by decide +kernel) (by decide +kernel), lg_at 6 (by decide +kernel) (by decide +kernel), lg_at 482 (by decide +kernel) (by decide +kernel)⟩, by decide +kernel, by decide +kernel, by decide +kernel⟩
theorem cS_X6_60 : cS RX6 60 yX6_isDigit cX6_isDigit 1 (some .boolean) 1 := ⟨⟨lg_at 543 (by decide +kernel) (by decide +kernel), lg_at 544 (by decide +kernel) (by decide +kernel), lg_at 6 (by decide +kernel) (by decide +kernel), lg_at 545 (by decide +kernel) (by decide +kernel)⟩, by decide +kernel, by decide +kernel, by decide +kernel⟩
theorem cS_X6_73 : cS RX6 73 yX6_withLetter cX6_withLetter 3 (some .long) 2 := ⟨⟨lg_at 487 (by decide +kernel) (by decide +kernel), lg_at 488 (by decide +kernel) (by decide +kernel), lg_at 6 (by decide +kernel) (by decide +kernel), lg_at 489 (by decide +kernel) (by decide +kernel)⟩, by decide +kernel, by decide +kernel, by decide +kernel⟩
theorem cS_X6_77 : cS RX6 77 yX6_kindOf cX6_kindOf 7 (some .int) 1 := ⟨⟨lg_at 491 (by decide +kernel) (by decide +kernel), lg_at 492 (by decide +kernel) (by decide +kernel), lg_at 6 (by decide +kernel) (by decide +kernel), lg_at 493 (by decide +kernel) (by decide +kernel)⟩, by decide +kernel, by decide +kernel, by decide +kernel⟩
theorem cS_J0_495 : cS RJ0 495 yJ1_charAt_3b067 cJ1_charAt_3b067 2 (some .char) 2 := ⟨⟨lg_at 513 (by decide +kernel) (by decide +kernel), lg_at 514 (by decide +kernel) (by decide +kernel), lg_at 17 (by decide +kernel) (by decide +kernel), lg_at 515 (by decide +kernel) (by decide +kernel)⟩, by decide +kernel, by decide +kernel, by decide +kernel⟩
theorem cS_J0_637 : cS RJ0 637 yJ1_indexOf_4cfef cJ1_indexOf_4cfef 4 (some .int) 4 := ⟨⟨lg_at 562 (by decide +kernel) (by decide +kernel), lg_at 563 (by decide +kernel) (by decide +kernel), lg_at 17 (by decide +kernel) (by decide +kernel), lg_at 564 (by decide +kernel) (by decide +kernel)⟩, by decide +kernel, by decide +kernel, by decide +kernel⟩
theorem cS_J0_1059 : cS RJ0 1059 yJ3_checkIndex_8e157 cJ3_checkIndex_8e157 3 (some .int) 3 := ⟨⟨lg_at 521 (by decide +kernel) (by decide +kernel), lg_at 522 (by decide +kernel) (by decide +kernel), lg_at 18 (by decide +kernel) (by decide +kernel), lg_at 523 (by decide +kernel) (by decide +kernel)⟩, by decide +kernel, by decide +kernel, by decide +kernel⟩
theorem cS_J1_9 : cS RJ1 9 yJ0_checkIndex_df160 cJ0_checkIndex_df160 2 none 2 := ⟨⟨lg_at 516 (by decide +kernel) (by decide +kernel), lg_at 517 (by decide +kernel) (by decide +kernel), lg_at 16 (by decide +kernel) (by decide +kernel), lg_at 518 (by decide +kernel) (by decide +kernel)⟩, by decide +kernel, by decide +kernel, by decide +kernel⟩
theorem cS_J1_88 : cS RJ1 88 yJ1_canEncode_9a6ad cJ1_canEncode_9a6ad 1 (some .boolean) 1 := ⟨⟨lg_at 565 (by decide +kernel) (by decide +kernel), lg_at 566 (by decide +kernel) (by decide +kernel), lg_at 17 (by decide +kernel) (by decide +kernel), lg_at 567 (by decide +kernel) (by decide +kernel)⟩, by decide +kernel, by decide +kernel, by decide +kernel⟩
theorem cS_J1_95 : cS RJ1 95 yJ1_indexOfChar_4cfef cJ1_indexOfChar_4cfef 6 (some .int) 4 := ⟨⟨lg_at 574 (by decide +kernel) (by decide +kernel), lg_at 575 (by decide +kernel) (by decide +kernel), lg_at 17 (by decide +kernel) (by decide +kernel), lg_at 576 (by decide +kernel) (by decide +kernel)⟩, by decide +kernel, by decide +kernel, by decide +kernel⟩
theorem mmax_J1_92 : mMax RJ1 92 := ⟨lg_at 568 (by decide +kernel) (by decide +kernel), lg_at 569 (by decide +kernel) (by decide +kernel), lg_at 20 (by decide +kernel) (by decide +kernel), lg_at 570 (by decide +kernel) (by decide +kernel)⟩
theorem mmin_J1_38 : mMin RJ1 38 := ⟨lg_at 571 (by decide +kernel) (by decide +kernel), lg_at 572 (by decide +kernel) (by decide +kernel), lg_at 20 (by decide +kernel) (by decide +kernel), lg_at 573 (by decide +kernel) (by decide +kernel)⟩
theorem kl_X6_81 : Cond.constantLong RX6 81 (10) ∈ lg_tbl := lg_at 550 (by decide +kernel) (by decide +kernel)
theorem kl_X6_83 : Cond.constantLong RX6 83 (48) ∈ lg_tbl := lg_at 551 (by decide +kernel) (by decide +kernel)
theorem kl_X6_93 : Cond.constantLong RX6 93 (27) ∈ lg_tbl := lg_at 490 (by decide +kernel) (by decide +kernel)
section
variable {p : Program} {l : Launch} {e : Env} {s : State} {m : MethodId} {args : Array Value} {below : List Frame} {meth : Method} {c : Code} {D : va_G} {ad : Nat → Nat} {κ : KC}
-- X6_isBlank
def FX6_isBlank (x0 : Int32) (σ : HS) : Option (Int32 × HS) :=
  if x0 = (9 : Int32) then some ((1 : Int32), σ) else if x0 = (10 : Int32) then some ((1 : Int32), σ) else if x0 = (13 : Int32) then some ((1 : Int32), σ) else if x0 = (32 : Int32) then some ((1 : Int32), σ) else some ((0 : Int32), σ)
set_option maxHeartbeats 4000000 in
set_option maxRecDepth 100000 in
theorem kX6_isBlank (l : Launch) (D : va_G) (ad : Nat → Nat) (κ : KC) {x0 : Int32} {σ : HS} {R : (Int32 × HS)} (h : FX6_isBlank x0 σ = some R) : MtI l 50 ceX D ad κ yX6_isBlank cX6_isBlank 1 (some .boolean) ({ frames := 0, cells := 0, slots := 0, locals := 0 } : Room) [.int x0] σ R := by
  refine open_ (by decide) (Nat.le_of_ble_eq_true rfl) (la := [(0, .int x0)]) rfl ?_
  intro p e s m below meth c ls C hH hl
  replace C : Cx 50 D ad κ p s m _ meth c cX6_isBlank RX6 1 (some .boolean) := C
  have hx := C.1
  have hb := C.2.1
  have hown := C.2.2.2.1
  have hts := C.2.2.2.2.1
  rw [FX6_isBlank] at h
  refine lv_iload_n hx hb dX6_isBlank_0 rfl (lv_at hl 0 rfl) ?_
  refine lv_bipush (v := 9) hx hb dX6_isBlank_1 (by decide) ?_
  refine lv_icmp_eq (tgt := 24) hx hb dX6_isBlank_3 (by decide) (fun hq_1 => ?_) (fun hq_1 => ?_)
  · rw [if_pos hq_1] at h
    refine lv_iconst (v := 1) hx hb dX6_isBlank_24 (by decide) ?_
    refine lv_goto (tgt := 29) hx hb dX6_isBlank_25 (by decide) ?_
    exact g_retZ C hH rfl h dX6_isBlank_29
  · rw [if_neg hq_1] at h
    refine lv_iload_n hx hb dX6_isBlank_6 rfl (lv_at hl 0 rfl) ?_
    refine lv_bipush (v := 10) hx hb dX6_isBlank_7 (by decide) ?_
    refine lv_icmp_eq (tgt := 24) hx hb dX6_isBlank_9 (by decide) (fun hq_2 => ?_) (fun hq_2 => ?_)
    · rw [if_pos hq_2] at h
      refine lv_iconst (v := 1) hx hb dX6_isBlank_24 (by decide) ?_
      refine lv_goto (tgt := 29) hx hb dX6_isBlank_25 (by decide) ?_
      exact g_retZ C hH rfl h dX6_isBlank_29
    · rw [if_neg hq_2] at h
      refine lv_iload_n hx hb dX6_isBlank_12 rfl (lv_at hl 0 rfl) ?_
      refine lv_bipush (v := 13) hx hb dX6_isBlank_13 (by decide) ?_
      refine lv_icmp_eq (tgt := 24) hx hb dX6_isBlank_15 (by decide) (fun hq_3 => ?_) (fun hq_3 => ?_)
      · rw [if_pos hq_3] at h
        refine lv_iconst (v := 1) hx hb dX6_isBlank_24 (by decide) ?_
        refine lv_goto (tgt := 29) hx hb dX6_isBlank_25 (by decide) ?_
        exact g_retZ C hH rfl h dX6_isBlank_29
      · rw [if_neg hq_3] at h
        refine lv_iload_n hx hb dX6_isBlank_18 rfl (lv_at hl 0 rfl) ?_
        refine lv_bipush (v := 32) hx hb dX6_isBlank_19 (by decide) ?_
        refine lv_icmp_ne (tgt := 28) hx hb dX6_isBlank_21 (by decide) (fun hq_4 => ?_) (fun hq_4 => ?_)
        · rw [if_neg hq_4] at h
          refine lv_iconst (v := 0) hx hb dX6_isBlank_28 (by decide) ?_
          exact g_retZ C hH rfl h dX6_isBlank_29
        · rw [if_pos hq_4] at h
          refine lv_iconst (v := 1) hx hb dX6_isBlank_24 (by decide) ?_
          refine lv_goto (tgt := 29) hx hb dX6_isBlank_25 (by decide) ?_
          exact g_retZ C hH rfl h dX6_isBlank_29
-- X6_skipBlanks
def FX6_skipBlanks_0  : Nat → HS → Option HS
  | 0, _ => none
  | f + 1, σ => if (σ.1 1 1) ≤ (σ.1 13 4) then some σ else bdI (FX8_byteAt (σ.1 13 4) σ) fun r_2 σ_3 => bdI (FX6_isBlank r_2 σ_3) fun r_5 σ_6 => if r_5 = 0 then some σ_6 else hl_ (pI σ_6 13 4 ((σ_6.1 13 4) + (1 : Int32))) fun σ_9 => FX6_skipBlanks_0  f σ_9
def FX6_skipBlanks (σ : HS) : Option HS :=
  FX6_skipBlanks_0 fu σ
set_option maxHeartbeats 4000000 in
set_option maxRecDepth 100000 in
theorem wX6_skipBlanks_0 (C : Cx 50 D ad κ p s m args meth c cX6_skipBlanks RX6 1 none) {R : HS} : ∀ (f : Nat)  (σ : HS) (H : Heap) (locs : List Loc) (ls : Array Slot), FX6_skipBlanks_0  f σ = some R → Hd 50 ceX D ad κ s σ H locs → lv_has ls 1 [(0, .ref (ad 13))] → W p l e ({ frames := 1, cells := 0, slots := 0, locals := 21 } : Room) s m args below meth c H locs 0 0 (MQ below (QV 50 ceX D ad κ R) args s 0 0 (AX 50 ad)) (F0 m 0 ls []) := by
  have hx := C.1
  have hb := C.2.1
  have hown := C.2.2.2.1
  have hts := C.2.2.2.2.1
  intro f
  induction f with
  | zero =>
    intro  σ H locs ls h hH hl
    cases h
  | succ f ih =>
    intro  σ H locs ls h hH hl
    rw [FX6_skipBlanks_0] at h
    refine lv_aload_n hx hb dX6_skipBlanks_0 rfl (lv_at hl 0 rfl) ?_
    refine g_get C hH 13 (Nat.le_of_ble_eq_true rfl) rfl fl_X6_26 (v := .int (σ.1 13 4)) rfl dX6_skipBlanks_1 ?_
    refine lv_aload_n hx hb dX6_skipBlanks_4 rfl (lv_at hl 0 rfl) ?_
    refine g_get C hH 13 (Nat.le_of_ble_eq_true rfl) rfl fl_X6_22 (v := .ref (ad 1)) rfl dX6_skipBlanks_5 ?_
    refine g_get C hH 1 (Nat.le_of_ble_eq_true rfl) rfl fl_X6_41 (v := .int (σ.1 1 1)) rfl dX6_skipBlanks_8 ?_
    refine lv_icmp_ge (tgt := 44) hx hb dX6_skipBlanks_11 (by decide) (fun hq_1 => ?_) (fun hq_1 => ?_)
    · rw [if_pos hq_1] at h
      exact g_retV C hH h dX6_skipBlanks_44
    · rw [if_neg hq_1] at h
      refine lv_aload_n hx hb dX6_skipBlanks_14 rfl (lv_at hl 0 rfl) ?_
      refine g_get C hH 13 (Nat.le_of_ble_eq_true rfl) rfl fl_X6_22 (v := .ref (ad 1)) rfl dX6_skipBlanks_15 ?_
      refine lv_aload_n hx hb dX6_skipBlanks_18 rfl (lv_at hl 0 rfl) ?_
      refine g_get C hH 13 (Nat.le_of_ble_eq_true rfl) rfl fl_X6_26 (v := .int (σ.1 13 4)) rfl dX6_skipBlanks_19 ?_
      obtain ⟨r_2, σ_3, hc_4, h⟩ := bdI_ex h
      refine g_ci (g_runV (rest := []) C hH hl.1 cV_X6_46 1 (Nat.le_of_ble_eq_true rfl) rfl rfl (kX8_byteAt l D ad κ hc_4) ⟨rfl, rfl⟩ ⟨(Nat.le_of_ble_eq_true rfl), (Nat.le_of_ble_eq_true rfl)⟩ rfl rfl (Nat.le_of_ble_eq_true rfl) dX6_skipBlanks_22 z00) hH (fun H locs hH => ?_)
      obtain ⟨r_5, σ_6, hc_7, h⟩ := bdI_ex h
      refine g_ci (g_runS (rest := []) C hH hl.1 cS_X6_50 (kX6_isBlank l D ad κ hc_7) ⟨rfl, rfl⟩ ⟨(Nat.le_of_ble_eq_true rfl), (Nat.le_of_ble_eq_true rfl)⟩ rfl rfl (Nat.le_of_ble_eq_true rfl) dX6_skipBlanks_25 z00) hH (fun H locs hH => ?_)
      refine lv_if_eq (tgt := 44) hx hb dX6_skipBlanks_28 (by decide) (fun hq_8 => ?_) (fun hq_8 => ?_)
      · rw [if_pos hq_8] at h
        exact g_retV C hH h dX6_skipBlanks_44
      · rw [if_neg hq_8] at h
        refine lv_aload_n hx hb dX6_skipBlanks_31 rfl (lv_at hl 0 rfl) ?_
        refine lv_dup hx hb dX6_skipBlanks_32 rfl ?_
        refine g_get C hH 13 (Nat.le_of_ble_eq_true rfl) rfl fl_X6_26 (v := .int (σ_6.1 13 4)) rfl dX6_skipBlanks_33 ?_
        refine lv_iconst (v := 1) hx hb dX6_skipBlanks_36 (by decide) ?_
        refine lv_iadd hx hb dX6_skipBlanks_37 ?_
        obtain ⟨σ_9, eσ_9, h⟩ := hl_ex h
        refine g_putI C hH 13 (Nat.le_of_ble_eq_true rfl) rfl fp_X6_26 rfl rfl (Nat.le_of_ble_eq_true rfl) rfl dX6_skipBlanks_38 (fun H locs hH => ?_)
        rw [← eσ_9] at hH
        refine lv_goto (tgt := 0) hx hb dX6_skipBlanks_41 (by decide) ?_
        exact ih _ _ _ _ h hH (lv_sub hl [0] rfl)
set_option maxHeartbeats 4000000 in
set_option maxRecDepth 100000 in
theorem kX6_skipBlanks (l : Launch) (D : va_G) (ad : Nat → Nat) (κ : KC) {σ : HS} {R : HS} (h : FX6_skipBlanks σ = some R) : MtV l 50 ceX D ad κ yX6_skipBlanks cX6_skipBlanks 1 none ({ frames := 1, cells := 0, slots := 0, locals := 21 } : Room) [.ref (ad 13)] σ R := by
  refine open_ (by decide) (Nat.le_of_ble_eq_true rfl) (la := [(0, .ref (ad 13))]) rfl ?_
  intro p e s m below meth c ls C hH hl
  replace C : Cx 50 D ad κ p s m _ meth c cX6_skipBlanks RX6 1 none := C
  have hx := C.1
  have hb := C.2.1
  have hown := C.2.2.2.1
  have hts := C.2.2.2.2.1
  rw [FX6_skipBlanks] at h
  exact wX6_skipBlanks_0 C _ _ _ _ _ h hH (lv_sub hl [0] rfl)
-- X6_isLetter
def FX6_isLetter (x0 : Int32) (σ : HS) : Option (Int32 × HS) :=
  if x0 < (97 : Int32) then some ((0 : Int32), σ) else if (122 : Int32) < x0 then some ((0 : Int32), σ) else some ((1 : Int32), σ)
set_option maxHeartbeats 4000000 in
set_option maxRecDepth 100000 in
theorem kX6_isLetter (l : Launch) (D : va_G) (ad : Nat → Nat) (κ : KC) {x0 : Int32} {σ : HS} {R : (Int32 × HS)} (h : FX6_isLetter x0 σ = some R) : MtI l 50 ceX D ad κ yX6_isLetter cX6_isLetter 1 (some .boolean) ({ frames := 0, cells := 0, slots := 0, locals := 0 } : Room) [.int x0] σ R := by
  refine open_ (by decide) (Nat.le_of_ble_eq_true rfl) (la := [(0, .int x0)]) rfl ?_
  intro p e s m below meth c ls C hH hl
  replace C : Cx 50 D ad κ p s m _ meth c cX6_isLetter RX6 1 (some .boolean) := C
  have hx := C.1
  have hb := C.2.1
  have hown := C.2.2.2.1
  have hts := C.2.2.2.2.1
  rw [FX6_isLetter] at h
  refine lv_bipush (v := 97) hx hb dX6_isLetter_0 (by decide) ?_
  refine lv_iload_n hx hb dX6_isLetter_2 rfl (lv_at hl 0 rfl) ?_
  refine lv_icmp_gt (tgt := 16) hx hb dX6_isLetter_3 (by decide) (fun hq_1 => ?_) (fun hq_1 => ?_)
  · rw [if_pos hq_1] at h
    refine lv_iconst (v := 0) hx hb dX6_isLetter_16 (by decide) ?_
    exact g_retZ C hH rfl h dX6_isLetter_17
  · rw [if_neg hq_1] at h
    refine lv_iload_n hx hb dX6_isLetter_6 rfl (lv_at hl 0 rfl) ?_
    refine lv_bipush (v := 122) hx hb dX6_isLetter_7 (by decide) ?_
    refine lv_icmp_gt (tgt := 16) hx hb dX6_isLetter_9 (by decide) (fun hq_2 => ?_) (fun hq_2 => ?_)
    · rw [if_pos hq_2] at h
      refine lv_iconst (v := 0) hx hb dX6_isLetter_16 (by decide) ?_
      exact g_retZ C hH rfl h dX6_isLetter_17
    · rw [if_neg hq_2] at h
      refine lv_iconst (v := 1) hx hb dX6_isLetter_12 (by decide) ?_
      refine lv_goto (tgt := 17) hx hb dX6_isLetter_13 (by decide) ?_
      exact g_retZ C hH rfl h dX6_isLetter_17
-- X6_withLetter
def FX6_withLetter (x0 : Int64) (x2 : Int32) (σ : HS) : Option (Int64 × HS) :=
  some (((x0 * (27 : Int64)) + (((x2 - (97 : Int32)) + (1 : Int32)).toInt64)), σ)
set_option maxHeartbeats 4000000 in
set_option maxRecDepth 100000 in
theorem kX6_withLetter (l : Launch) (D : va_G) (ad : Nat → Nat) (κ : KC) {x0 : Int64} {x2 : Int32} {σ : HS} {R : (Int64 × HS)} (h : FX6_withLetter x0 x2 σ = some R) : MtL l 50 ceX D ad κ yX6_withLetter cX6_withLetter 3 (some .long) ({ frames := 0, cells := 0, slots := 0, locals := 0 } : Room) [.long x0, .int x2] σ R := by
  refine open_ (by decide) (Nat.le_of_ble_eq_true rfl) (la := [(0, .long x0), (2, .int x2)]) rfl ?_
  intro p e s m below meth c ls C hH hl
  replace C : Cx 50 D ad κ p s m _ meth c cX6_withLetter RX6 3 (some .long) := C
  have hx := C.1
  have hb := C.2.1
  have hown := C.2.2.2.1
  have hts := C.2.2.2.2.1
  rw [FX6_withLetter] at h
  refine lv_lload_n hx hb dX6_withLetter_0 rfl (lv_at hl 0 rfl) ?_
  refine lv_ldc2 (v := 27) hx hb hown (hts _ kl_X6_93) dX6_withLetter_1 ?_
  refine lv_lmul hx hb dX6_withLetter_4 ?_
  refine lv_iload_n hx hb dX6_withLetter_5 rfl (lv_at hl 1 rfl) ?_
  refine lv_bipush (v := 97) hx hb dX6_withLetter_6 (by decide) ?_
  refine lv_isub hx hb dX6_withLetter_8 ?_
  refine lv_iconst (v := 1) hx hb dX6_withLetter_9 (by decide) ?_
  refine lv_iadd hx hb dX6_withLetter_10 ?_
  refine lv_i2l (v := (((x2 - (97 : Int32)) + (1 : Int32)).toInt64)) hx hb dX6_withLetter_11 rfl ?_
  refine lv_ladd hx hb dX6_withLetter_12 ?_
  exact g_retL C hH h dX6_withLetter_13
-- J0_coder_7d493
def FJ0_coder_7d493 (si : Nat) (σ : HS) : Option (Int32 × HS) :=
  if (1 : Int32) = 0 then gd (isT .byte (1 : Int32)) (some ((1 : Int32), σ)) else gd (isT .byte (0 : Int32)) (some ((0 : Int32), σ))
set_option maxHeartbeats 4000000 in
set_option maxRecDepth 100000 in
theorem kJ0_coder_7d493 (l : Launch) (D : va_G) (ad : Nat → Nat) (κ : KC) {si : Nat} (hsi : si < 2) {σ : HS} {R : (Int32 × HS)} (h : FJ0_coder_7d493 si σ = some R) : MtI l 50 ceX D ad κ yJ0_coder_7d493 cJ0_coder_7d493 1 (some .byte) ({ frames := 0, cells := 0, slots := 0, locals := 0 } : Room) [.ref (ad (100 + si))] σ R := by
  refine open_ (by decide) (Nat.le_of_ble_eq_true rfl) (la := [(0, .ref (ad (100 + si)))]) rfl ?_
  intro p e s m below meth c ls C hH hl
  replace C : Cx 50 D ad κ p s m _ meth c cJ0_coder_7d493 RJ0 1 (some .byte) := C
  have hx := C.1
  have hb := C.2.1
  have hown := C.2.2.2.1
  have hts := C.2.2.2.2.1
  rw [FJ0_coder_7d493] at h
  refine g_comp C hH fw_J0_38 dJ0_coder_7d493_0 ?_
  refine lv_if_eq (tgt := 13) hx hb dJ0_coder_7d493_3 (by decide) (fun hq_1 => ?_) (fun hq_1 => ?_)
  · rw [if_pos hq_1] at h
    refine lv_iconst (v := 1) hx hb dJ0_coder_7d493_13 (by decide) ?_
    obtain ⟨hb_2, h⟩ := gd_ex h
    exact g_retT C hH (isT_b hb_2) h dJ0_coder_7d493_14
  · rw [if_neg hq_1] at h
    refine lv_aload_n hx hb dJ0_coder_7d493_6 rfl (lv_at hl 0 rfl) ?_
    refine g_scod C hH hsi fw_J0_15 dJ0_coder_7d493_7 ?_
    refine lv_goto (tgt := 14) hx hb dJ0_coder_7d493_10 (by decide) ?_
    obtain ⟨hb_3, h⟩ := gd_ex h
    exact g_retT C hH (isT_b hb_3) h dJ0_coder_7d493_14
-- J0_length_8abf5
def FJ0_length_8abf5 (si : Nat) (σ : HS) : Option (Int32 × HS) :=
  bdI (FJ0_coder_7d493 si σ) fun r_1 σ_2 => some (((Int32.ofNat (lenJS.getD si 0)) >>> (r_1 &&& 31)), σ_2)
set_option maxHeartbeats 4000000 in
set_option maxRecDepth 100000 in
theorem kJ0_length_8abf5 (l : Launch) (D : va_G) (ad : Nat → Nat) (κ : KC) {si : Nat} (hsi : si < 2) {σ : HS} {R : (Int32 × HS)} (h : FJ0_length_8abf5 si σ = some R) : MtI l 50 ceX D ad κ yJ0_length_8abf5 cJ0_length_8abf5 1 (some .int) ({ frames := 1, cells := 0, slots := 0, locals := 20 } : Room) [.ref (ad (100 + si))] σ R := by
  refine open_ (by decide) (Nat.le_of_ble_eq_true rfl) (la := [(0, .ref (ad (100 + si)))]) rfl ?_
  intro p e s m below meth c ls C hH hl
  replace C : Cx 50 D ad κ p s m _ meth c cJ0_length_8abf5 RJ0 1 (some .int) := C
  have hx := C.1
  have hb := C.2.1
  have hown := C.2.2.2.1
  have hts := C.2.2.2.2.1
  rw [FJ0_length_8abf5] at h
  refine lv_aload_n hx hb dJ0_length_8abf5_0 rfl (lv_at hl 0 rfl) ?_
  refine g_sval C hH hsi fw_J0_9 dJ0_length_8abf5_1 ?_
  refine g_slen C hH hsi dJ0_length_8abf5_4 ?_
  refine lv_aload_n hx hb dJ0_length_8abf5_5 rfl (lv_at hl 0 rfl) ?_
  obtain ⟨r_1, σ_2, hc_3, h⟩ := bdI_ex h
  refine g_ci (g_runVS (rest := [.int (Int32.ofNat (lenJS.getD si 0))]) C hH hl.1 cV_J0_335 hsi rfl (kJ0_coder_7d493 l D ad κ hsi hc_3) ⟨rfl, rfl⟩ ⟨(Nat.le_of_ble_eq_true rfl), (Nat.le_of_ble_eq_true rfl)⟩ rfl rfl (Nat.le_of_ble_eq_true rfl) dJ0_length_8abf5_6 z00) hH (fun H locs hH => ?_)
  refine lv_ishr hx hb dJ0_length_8abf5_9 ?_
  exact g_ret C hH h dJ0_length_8abf5_10
-- J0_isLatin1_aae02
def FJ0_isLatin1_aae02 (si : Nat) (σ : HS) : Option (Int32 × HS) :=
  if (1 : Int32) = 0 then some ((0 : Int32), σ) else if (0 : Int32) = 0 then some ((1 : Int32), σ) else some ((0 : Int32), σ)
set_option maxHeartbeats 4000000 in
set_option maxRecDepth 100000 in
theorem kJ0_isLatin1_aae02 (l : Launch) (D : va_G) (ad : Nat → Nat) (κ : KC) {si : Nat} (hsi : si < 2) {σ : HS} {R : (Int32 × HS)} (h : FJ0_isLatin1_aae02 si σ = some R) : MtI l 50 ceX D ad κ yJ0_isLatin1_aae02 cJ0_isLatin1_aae02 1 (some .boolean) ({ frames := 0, cells := 0, slots := 0, locals := 0 } : Room) [.ref (ad (100 + si))] σ R := by
  refine open_ (by decide) (Nat.le_of_ble_eq_true rfl) (la := [(0, .ref (ad (100 + si)))]) rfl ?_
  intro p e s m below meth c ls C hH hl
  replace C : Cx 50 D ad κ p s m _ meth c cJ0_isLatin1_aae02 RJ0 1 (some .boolean) := C
  have hx := C.1
  have hb := C.2.1
  have hown := C.2.2.2.1
  have hts := C.2.2.2.2.1
  rw [FJ0_isLatin1_aae02] at h
  refine g_comp C hH fw_J0_38 dJ0_isLatin1_aae02_0 ?_
  refine lv_if_eq (tgt := 17) hx hb dJ0_isLatin1_aae02_3 (by decide) (fun hq_1 => ?_) (fun hq_1 => ?_)
  · rw [if_pos hq_1] at h
    refine lv_iconst (v := 0) hx hb dJ0_isLatin1_aae02_17 (by decide) ?_
    exact g_retZ C hH rfl h dJ0_isLatin1_aae02_18
  · rw [if_neg hq_1] at h
    refine lv_aload_n hx hb dJ0_isLatin1_aae02_6 rfl (lv_at hl 0 rfl) ?_
    refine g_scod C hH hsi fw_J0_15 dJ0_isLatin1_aae02_7 ?_
    refine lv_if_ne (tgt := 17) hx hb dJ0_isLatin1_aae02_10 (by decide) (fun hq_2 => ?_) (fun hq_2 => ?_)
    · rw [if_neg hq_2] at h
      refine lv_iconst (v := 0) hx hb dJ0_isLatin1_aae02_17 (by decide) ?_
      exact g_retZ C hH rfl h dJ0_isLatin1_aae02_18
    · rw [if_pos hq_2] at h
      refine lv_iconst (v := 1) hx hb dJ0_isLatin1_aae02_13 (by decide) ?_
      refine lv_goto (tgt := 18) hx hb dJ0_isLatin1_aae02_14 (by decide) ?_
      exact g_retZ C hH rfl h dJ0_isLatin1_aae02_18
-- J3_checkIndex_8e157
def FJ3_checkIndex_8e157 (x0 : Int32) (x1 : Int32) (σ : HS) : Option (Int32 × HS) :=
  if x0 < 0 then none else if x0 < x1 then some (x0, σ) else none
set_option maxHeartbeats 4000000 in
set_option maxRecDepth 100000 in
theorem kJ3_checkIndex_8e157 (l : Launch) (D : va_G) (ad : Nat → Nat) (κ : KC) {x0 : Int32} {x1 : Int32} {σ : HS} {R : (Int32 × HS)} (h : FJ3_checkIndex_8e157 x0 x1 σ = some R) : MtI l 50 ceX D ad κ yJ3_checkIndex_8e157 cJ3_checkIndex_8e157 3 (some .int) ({ frames := 0, cells := 0, slots := 0, locals := 0 } : Room) [.int x0, .int x1, .ref (ad 300)] σ R := by
  refine open_ (by decide) (Nat.le_of_ble_eq_true rfl) (la := [(0, .int x0), (1, .int x1), (2, .ref (ad 300))]) rfl ?_
  intro p e s m below meth c ls C hH hl
  replace C : Cx 50 D ad κ p s m _ meth c cJ3_checkIndex_8e157 RJ3 3 (some .int) := C
  have hx := C.1
  have hb := C.2.1
  have hown := C.2.2.2.1
  have hts := C.2.2.2.2.1
  rw [FJ3_checkIndex_8e157] at h
  refine lv_iload_n hx hb dJ3_checkIndex_8e157_0 rfl (lv_at hl 0 rfl) ?_
  refine lv_if_lt (tgt := 9) hx hb dJ3_checkIndex_8e157_1 (by decide) (fun hq_1 => ?_) (fun hq_1 => ?_)
  · rw [if_pos hq_1] at h
    cases h
  · rw [if_neg hq_1] at h
    refine lv_iload_n hx hb dJ3_checkIndex_8e157_4 rfl (lv_at hl 0 rfl) ?_
    refine lv_iload_n hx hb dJ3_checkIndex_8e157_5 rfl (lv_at hl 1 rfl) ?_
    refine lv_icmp_lt (tgt := 16) hx hb dJ3_checkIndex_8e157_6 (by decide) (fun hq_2 => ?_) (fun hq_2 => ?_)
    · rw [if_pos hq_2] at h
      refine lv_iload_n hx hb dJ3_checkIndex_8e157_16 rfl (lv_at hl 0 rfl) ?_
      exact g_ret C hH h dJ3_checkIndex_8e157_17
    · rw [if_neg hq_2] at h
      cases h
set_option maxHeartbeats 4000000 in
set_option maxRecDepth 100000 in
theorem kJ3_checkIndex_8e157N (l : Launch) (D : va_G) (ad : Nat → Nat) (κ : KC) {x0 : Int32} {x1 : Int32} {σ : HS} {R : (Int32 × HS)} (h : FJ3_checkIndex_8e157 x0 x1 σ = some R) : MtI l 50 ceX D ad κ yJ3_checkIndex_8e157 cJ3_checkIndex_8e157 3 (some .int) ({ frames := 0, cells := 0, slots := 0, locals := 0 } : Room) [.int x0, .int x1, .null] σ R := by
  refine open_ (by decide) (Nat.le_of_ble_eq_true rfl) (la := [(0, .int x0), (1, .int x1), (2, .null)]) rfl ?_
  intro p e s m below meth c ls C hH hl
  replace C : Cx 50 D ad κ p s m _ meth c cJ3_checkIndex_8e157 RJ3 3 (some .int) := C
  have hx := C.1
  have hb := C.2.1
  have hown := C.2.2.2.1
  have hts := C.2.2.2.2.1
  rw [FJ3_checkIndex_8e157] at h
  refine lv_iload_n hx hb dJ3_checkIndex_8e157_0 rfl (lv_at hl 0 rfl) ?_
  refine lv_if_lt (tgt := 9) hx hb dJ3_checkIndex_8e157_1 (by decide) (fun hq_1 => ?_) (fun hq_1 => ?_)
  · rw [if_pos hq_1] at h
    cases h
  · rw [if_neg hq_1] at h
    refine lv_iload_n hx hb dJ3_checkIndex_8e157_4 rfl (lv_at hl 0 rfl) ?_
    refine lv_iload_n hx hb dJ3_checkIndex_8e157_5 rfl (lv_at hl 1 rfl) ?_
    refine lv_icmp_lt (tgt := 16) hx hb dJ3_checkIndex_8e157_6 (by decide) (fun hq_2 => ?_) (fun hq_2 => ?_)
    · rw [if_pos hq_2] at h
      refine lv_iload_n hx hb dJ3_checkIndex_8e157_16 rfl (lv_at hl 0 rfl) ?_
      exact g_ret C hH h dJ3_checkIndex_8e157_17
    · rw [if_neg hq_2] at h
      cases h
-- J0_checkIndex_df160
def FJ0_checkIndex_df160 (x0 : Int32) (x1 : Int32) (σ : HS) : Option HS :=
  bdI (FJ3_checkIndex_8e157 x0 x1 σ) fun r_1 σ_2 => some σ_2
set_option maxHeartbeats 4000000 in
set_option maxRecDepth 100000 in
theorem kJ0_checkIndex_df160 (l : Launch) (D : va_G) (ad : Nat → Nat) (κ : KC) {x0 : Int32} {x1 : Int32} {σ : HS} {R : HS} (h : FJ0_checkIndex_df160 x0 x1 σ = some R) : MtV l 50 ceX D ad κ yJ0_checkIndex_df160 cJ0_checkIndex_df160 2 none ({ frames := 1, cells := 0, slots := 0, locals := 22 } : Room) [.int x0, .int x1] σ R := by
  refine open_ (by decide) (Nat.le_of_ble_eq_true rfl) (la := [(0, .int x0), (1, .int x1)]) rfl ?_
  intro p e s m below meth c ls C hH hl
  replace C : Cx 50 D ad κ p s m _ meth c cJ0_checkIndex_df160 RJ0 2 none := C
  have hx := C.1
  have hb := C.2.1
  have hown := C.2.2.2.1
  have hts := C.2.2.2.2.1
  rw [FJ0_checkIndex_df160] at h
  refine lv_iload_n hx hb dJ0_checkIndex_df160_0 rfl (lv_at hl 0 rfl) ?_
  refine lv_iload_n hx hb dJ0_checkIndex_df160_1 rfl (lv_at hl 1 rfl) ?_
  refine g_sio C hH fw_J0_1053 dJ0_checkIndex_df160_2 ?_ ?_
  · obtain ⟨r_1, σ_2, hc_3, h⟩ := bdI_ex h
    refine g_ci (g_runS (rest := []) C hH hl.1 cS_J0_1059 (kJ3_checkIndex_8e157 l D ad κ hc_3) ⟨rfl, rfl⟩ ⟨(Nat.le_of_ble_eq_true rfl), (Nat.le_of_ble_eq_true rfl)⟩ rfl rfl (Nat.le_of_ble_eq_true rfl) dJ0_checkIndex_df160_5 z00) hH (fun H locs hH => ?_)
    refine lv_pop hx hb dJ0_checkIndex_df160_8 rfl ?_
    exact g_retV C hH h dJ0_checkIndex_df160_9
  · obtain ⟨r_1, σ_2, hc_3, h⟩ := bdI_ex h
    refine g_ci (g_runS (rest := []) C hH hl.1 cS_J0_1059 (kJ3_checkIndex_8e157N l D ad κ hc_3) ⟨rfl, rfl⟩ ⟨(Nat.le_of_ble_eq_true rfl), (Nat.le_of_ble_eq_true rfl)⟩ rfl rfl (Nat.le_of_ble_eq_true rfl) dJ0_checkIndex_df160_5 z00) hH (fun H locs hH => ?_)
    refine lv_pop hx hb dJ0_checkIndex_df160_8 rfl ?_
    exact g_retV C hH h dJ0_checkIndex_df160_9
-- J1_charAt_3b067
def FJ1_charAt_3b067 (si : Nat) (x1 : Int32) (σ : HS) : Option (Int32 × HS) :=
  bdV (FJ0_checkIndex_df160 x1 (Int32.ofNat (lenJS.getD si 0)) σ) fun σ_1 => gd (ix x1 (lenJS.getD si 0)) (gd (isT .char (((((bytJS.getD si []).getD x1.toNatClampNeg 0) &&& (255 : Int32)).toUInt32 % 65536).toInt32)) (some ((((((bytJS.getD si []).getD x1.toNatClampNeg 0) &&& (255 : Int32)).toUInt32 % 65536).toInt32), σ_1)))
set_option maxHeartbeats 4000000 in
set_option maxRecDepth 100000 in
theorem kJ1_charAt_3b067 (l : Launch) (D : va_G) (ad : Nat → Nat) (κ : KC) {si : Nat} (hsi : si < 2) {x1 : Int32} {σ : HS} {R : (Int32 × HS)} (h : FJ1_charAt_3b067 si x1 σ = some R) : MtI l 50 ceX D ad κ yJ1_charAt_3b067 cJ1_charAt_3b067 2 (some .char) ({ frames := 2, cells := 0, slots := 0, locals := 43 } : Room) [.ref (ad (200 + si)), .int x1] σ R := by
  refine open_ (by decide) (Nat.le_of_ble_eq_true rfl) (la := [(0, .ref (ad (200 + si))), (1, .int x1)]) rfl ?_
  intro p e s m below meth c ls C hH hl
  replace C : Cx 50 D ad κ p s m _ meth c cJ1_charAt_3b067 RJ1 2 (some .char) := C
  have hx := C.1
  have hb := C.2.1
  have hown := C.2.2.2.1
  have hts := C.2.2.2.2.1
  rw [FJ1_charAt_3b067] at h
  refine lv_iload_n hx hb dJ1_charAt_3b067_0 rfl (lv_at hl 1 rfl) ?_
  refine lv_aload_n hx hb dJ1_charAt_3b067_1 rfl (lv_at hl 0 rfl) ?_
  refine g_slen C hH hsi dJ1_charAt_3b067_2 ?_
  obtain ⟨σ_1, hc_2, h⟩ := bdV_ex h
  refine g_cv (g_runS (rest := []) C hH hl.1 cS_J1_9 (kJ0_checkIndex_df160 l D ad κ hc_2) ⟨rfl, rfl⟩ ⟨(Nat.le_of_ble_eq_true rfl), (Nat.le_of_ble_eq_true rfl)⟩ rfl rfl (Nat.le_of_ble_eq_true rfl) dJ1_charAt_3b067_3 z00) hH (fun H locs hH => ?_)
  refine lv_aload_n hx hb dJ1_charAt_3b067_6 rfl (lv_at hl 0 rfl) ?_
  refine lv_iload_n hx hb dJ1_charAt_3b067_7 rfl (lv_at hl 1 rfl) ?_
  obtain ⟨hi_3, h⟩ := gd_ex h
  refine g_sald C hH hsi (ix_in hi_3) dJ1_charAt_3b067_8 ?_
  refine lv_sipush (v := 255) hx hb dJ1_charAt_3b067_9 (by decide) ?_
  refine lv_iand hx hb dJ1_charAt_3b067_12 ?_
  refine lv_i2c (v := (((((bytJS.getD si []).getD x1.toNatClampNeg 0) &&& (255 : Int32)).toUInt32 % 65536).toInt32)) hx hb dJ1_charAt_3b067_13 rfl ?_
  obtain ⟨hb_4, h⟩ := gd_ex h
  exact g_retT C hH (isT_c hb_4) h dJ1_charAt_3b067_14
-- J0_charAt_5068e
def FJ0_charAt_5068e (si : Nat) (x1 : Int32) (σ : HS) : Option (Int32 × HS) :=
  bdI (FJ0_isLatin1_aae02 si σ) fun r_1 σ_2 => if r_1 = 0 then none else bdI (FJ1_charAt_3b067 si x1 σ_2) fun r_5 σ_6 => gd (isT .char r_5) (some (r_5, σ_6))
set_option maxHeartbeats 4000000 in
set_option maxRecDepth 100000 in
theorem kJ0_charAt_5068e (l : Launch) (D : va_G) (ad : Nat → Nat) (κ : KC) {si : Nat} (hsi : si < 2) {x1 : Int32} {σ : HS} {R : (Int32 × HS)} (h : FJ0_charAt_5068e si x1 σ = some R) : MtI l 50 ceX D ad κ yJ0_charAt_5068e cJ0_charAt_5068e 2 (some .char) ({ frames := 3, cells := 0, slots := 0, locals := 64 } : Room) [.ref (ad (100 + si)), .int x1] σ R := by
  refine open_ (by decide) (Nat.le_of_ble_eq_true rfl) (la := [(0, .ref (ad (100 + si))), (1, .int x1)]) rfl ?_
  intro p e s m below meth c ls C hH hl
  replace C : Cx 50 D ad κ p s m _ meth c cJ0_charAt_5068e RJ0 2 (some .char) := C
  have hx := C.1
  have hb := C.2.1
  have hown := C.2.2.2.1
  have hts := C.2.2.2.2.1
  rw [FJ0_charAt_5068e] at h
  refine lv_aload_n hx hb dJ0_charAt_5068e_0 rfl (lv_at hl 0 rfl) ?_
  obtain ⟨r_1, σ_2, hc_3, h⟩ := bdI_ex h
  refine g_ci (g_runVS (rest := []) C hH hl.1 cV_J0_492 hsi rfl (kJ0_isLatin1_aae02 l D ad κ hsi hc_3) ⟨rfl, rfl⟩ ⟨(Nat.le_of_ble_eq_true rfl), (Nat.le_of_ble_eq_true rfl)⟩ rfl rfl (Nat.le_of_ble_eq_true rfl) dJ0_charAt_5068e_1 z00) hH (fun H locs hH => ?_)
  refine lv_if_eq (tgt := 16) hx hb dJ0_charAt_5068e_4 (by decide) (fun hq_4 => ?_) (fun hq_4 => ?_)
  · rw [if_pos hq_4] at h
    cases h
  · rw [if_neg hq_4] at h
    refine lv_aload_n hx hb dJ0_charAt_5068e_7 rfl (lv_at hl 0 rfl) ?_
    refine g_sval C hH hsi fw_J0_9 dJ0_charAt_5068e_8 ?_
    refine lv_iload_n hx hb dJ0_charAt_5068e_11 rfl (lv_at hl 1 rfl) ?_
    obtain ⟨r_5, σ_6, hc_7, h⟩ := bdI_ex h
    refine g_ci (g_runS (rest := []) C hH hl.1 cS_J0_495 (kJ1_charAt_3b067 l D ad κ hsi hc_7) ⟨rfl, rfl⟩ ⟨(Nat.le_of_ble_eq_true rfl), (Nat.le_of_ble_eq_true rfl)⟩ rfl rfl (Nat.le_of_ble_eq_true rfl) dJ0_charAt_5068e_12 z00) hH (fun H locs hH => ?_)
    obtain ⟨hb_8, h⟩ := gd_ex h
    exact g_retT C hH (isT_c hb_8) h dJ0_charAt_5068e_15
-- X6_kindOf
def FX6_kindOf_7  : Nat → Int64 → Int32 → Int64 → Int32 → HS → Option (Int32 × HS)
  | 0, _, _, _, _, _ => none
  | f + 1, x0, x2, x3, x5, σ => bdI (FJ0_length_8abf5 0 σ) fun r_1 σ_2 => if r_1 ≤ x5 then some ((22 : Int32), σ_2) else bdI (FJ0_charAt_5068e 0 x5 σ_2) fun r_5 σ_6 => if r_5 = (32 : Int32) then if (lg_cmp x3 x0) = 0 then some (x2, σ_6) else FX6_kindOf_7  f x0 (x2 + 1) (0 : Int64) (x5 + 1) σ_6 else bdL (FX6_withLetter x3 r_5 σ_6) fun r_10 σ_11 => FX6_kindOf_7  f x0 x2 r_10 (x5 + 1) σ_11
def FX6_kindOf (x0 : Int64) (σ : HS) : Option (Int32 × HS) :=
  FX6_kindOf_7 fu x0 (0 : Int32) (0 : Int64) (0 : Int32) σ
set_option maxHeartbeats 4000000 in
set_option maxRecDepth 100000 in
theorem wX6_kindOf_7 (C : Cx 50 D ad κ p s m args meth c cX6_kindOf RX6 7 (some .int)) {R : (Int32 × HS)} : ∀ (f : Nat) (x0 : Int64) (x2 : Int32) (x3 : Int64) (x5 : Int32) (σ : HS) (H : Heap) (locs : List Loc) (ls : Array Slot), FX6_kindOf_7  f x0 x2 x3 x5 σ = some R → Hd 50 ceX D ad κ s σ H locs → lv_has ls 7 [(0, .long x0), (2, .int x2), (3, .long x3), (5, .int x5)] → W p l e ({ frames := 4, cells := 0, slots := 0, locals := 85 } : Room) s m args below meth c H locs 0 0 (MQ below (QI 50 ceX D ad κ R) args s 0 0 (AX 50 ad)) (F0 m 7 ls []) := by
  have hx := C.1
  have hb := C.2.1
  have hown := C.2.2.2.1
  have hts := C.2.2.2.2.1
  intro f
  induction f with
  | zero =>
    intro x0 x2 x3 x5 σ H locs ls h hH hl
    cases h
  | succ f ih =>
    intro x0 x2 x3 x5 σ H locs ls h hH hl
    rw [FX6_kindOf_7] at h
    refine lv_iload hx hb dX6_kindOf_7 (lv_at hl 3 rfl) ?_
    refine g_ldc0 C dX6_kindOf_9 ?_
    obtain ⟨r_1, σ_2, hc_3, h⟩ := bdI_ex h
    refine g_ci (g_runVS (rest := [.int x5]) C hH hl.1 cV_X6_87 (i := 0) (by decide) rfl (kJ0_length_8abf5 l D ad κ (by decide) hc_3) ⟨rfl, rfl⟩ ⟨(Nat.le_of_ble_eq_true rfl), (Nat.le_of_ble_eq_true rfl)⟩ rfl rfl (Nat.le_of_ble_eq_true rfl) dX6_kindOf_11 z00) hH (fun H locs hH => ?_)
    refine lv_icmp_ge (tgt := 62) hx hb dX6_kindOf_14 (by decide) (fun hq_4 => ?_) (fun hq_4 => ?_)
    · rw [if_pos hq_4] at h
      refine lv_bipush (v := 22) hx hb dX6_kindOf_62 (by decide) ?_
      exact g_ret C hH h dX6_kindOf_64
    · rw [if_neg hq_4] at h
      refine g_ldc0 C dX6_kindOf_17 ?_
      refine lv_iload hx hb dX6_kindOf_19 (lv_at hl 3 rfl) ?_
      obtain ⟨r_5, σ_6, hc_7, h⟩ := bdI_ex h
      refine g_ci (g_runVS (rest := []) C hH hl.1 cV_X6_89 (i := 0) (by decide) rfl (kJ0_charAt_5068e l D ad κ (by decide) hc_7) ⟨rfl, rfl⟩ ⟨(Nat.le_of_ble_eq_true rfl), (Nat.le_of_ble_eq_true rfl)⟩ rfl rfl (Nat.le_of_ble_eq_true rfl) dX6_kindOf_21 z00) hH (fun H locs hH => ?_)
      refine lv_istore (lv' := [(6, .int r_5), (0, .long x0), (2, .int x2), (3, .long x3), (5, .int x5)]) hx hb dX6_kindOf_24 hl (by decide) rfl (fun ls hl => ?_)
      refine lv_iload hx hb dX6_kindOf_26 (lv_at hl 0 rfl) ?_
      refine lv_bipush (v := 32) hx hb dX6_kindOf_28 (by decide) ?_
      refine lv_icmp_eq (tgt := 43) hx hb dX6_kindOf_30 (by decide) (fun hq_8 => ?_) (fun hq_8 => ?_)
      · rw [if_pos hq_8] at h
        refine lv_lload_n hx hb dX6_kindOf_43 rfl (lv_at hl 3 rfl) ?_
        refine lv_lload_n hx hb dX6_kindOf_44 rfl (lv_at hl 1 rfl) ?_
        refine W.lcmp hx hb dX6_kindOf_45 ?_
        refine lv_if_ne (tgt := 51) hx hb dX6_kindOf_46 (by decide) (fun hq_9 => ?_) (fun hq_9 => ?_)
        · rw [if_neg hq_9] at h
          refine lv_iinc (v := (x2 + 1)) (lv' := [(2, .int (x2 + 1)), (6, .int r_5), (0, .long x0), (3, .long x3), (5, .int x5)]) hx hb dX6_kindOf_51 hl (k := 2) rfl rfl (by decide) rfl (fun ls hl => ?_)
          refine lv_lconst (v := 0) hx hb dX6_kindOf_54 rfl ?_
          refine lv_lstore_n (lv' := [(3, .long (0 : Int64)), (2, .int (x2 + 1)), (6, .int r_5), (0, .long x0), (5, .int x5)]) hx hb dX6_kindOf_55 rfl hl (by decide) rfl (fun ls hl => ?_)
          refine lv_iinc (v := (x5 + 1)) (lv' := [(5, .int (x5 + 1)), (3, .long (0 : Int64)), (2, .int (x2 + 1)), (6, .int r_5), (0, .long x0)]) hx hb dX6_kindOf_56 hl (k := 4) rfl rfl (by decide) rfl (fun ls hl => ?_)
          refine lv_goto (tgt := 7) hx hb dX6_kindOf_59 (by decide) ?_
          exact ih _ _ _ _ _ _ _ _ h hH (lv_sub hl [4, 2, 1, 0] rfl)
        · rw [if_pos hq_9] at h
          refine lv_iload_n hx hb dX6_kindOf_49 rfl (lv_at hl 2 rfl) ?_
          exact g_ret C hH h dX6_kindOf_50
      · rw [if_neg hq_8] at h
        refine lv_lload_n hx hb dX6_kindOf_33 rfl (lv_at hl 3 rfl) ?_
        refine lv_iload hx hb dX6_kindOf_34 (lv_at hl 0 rfl) ?_
        obtain ⟨r_10, σ_11, hc_12, h⟩ := bdL_ex h
        refine g_cl (g_runS (rest := []) C hH hl.1 cS_X6_73 (kX6_withLetter l D ad κ hc_12) ⟨rfl, rfl⟩ ⟨(Nat.le_of_ble_eq_true rfl), (Nat.le_of_ble_eq_true rfl)⟩ rfl rfl (Nat.le_of_ble_eq_true rfl) dX6_kindOf_36 z00) hH (fun H locs hH => ?_)
        refine lv_lstore_n (lv' := [(3, .long r_10), (6, .int r_5), (0, .long x0), (2, .int x2), (5, .int x5)]) hx hb dX6_kindOf_39 rfl hl (by decide) rfl (fun ls hl => ?_)
        refine lv_goto (tgt := 56) hx hb dX6_kindOf_40 (by decide) ?_
        refine lv_iinc (v := (x5 + 1)) (lv' := [(5, .int (x5 + 1)), (3, .long r_10), (6, .int r_5), (0, .long x0), (2, .int x2)]) hx hb dX6_kindOf_56 hl (k := 4) rfl rfl (by decide) rfl (fun ls hl => ?_)
        refine lv_goto (tgt := 7) hx hb dX6_kindOf_59 (by decide) ?_
        exact ih _ _ _ _ _ _ _ _ h hH (lv_sub hl [3, 4, 1, 0] rfl)
set_option maxHeartbeats 4000000 in
set_option maxRecDepth 100000 in
theorem kX6_kindOf (l : Launch) (D : va_G) (ad : Nat → Nat) (κ : KC) {x0 : Int64} {σ : HS} {R : (Int32 × HS)} (h : FX6_kindOf x0 σ = some R) : MtI l 50 ceX D ad κ yX6_kindOf cX6_kindOf 7 (some .int) ({ frames := 4, cells := 0, slots := 0, locals := 85 } : Room) [.long x0] σ R := by
  refine open_ (by decide) (Nat.le_of_ble_eq_true rfl) (la := [(0, .long x0)]) rfl ?_
  intro p e s m below meth c ls C hH hl
  replace C : Cx 50 D ad κ p s m _ meth c cX6_kindOf RX6 7 (some .int) := C
  have hx := C.1
  have hb := C.2.1
  have hown := C.2.2.2.1
  have hts := C.2.2.2.2.1
  rw [FX6_kindOf] at h
  refine lv_iconst (v := 0) hx hb dX6_kindOf_0 (by decide) ?_
  refine lv_istore_n (lv' := [(2, .int (0 : Int32)), (0, .long x0)]) hx hb dX6_kindOf_1 rfl hl (by decide) rfl (fun ls hl => ?_)
  refine lv_lconst (v := 0) hx hb dX6_kindOf_2 rfl ?_
  refine lv_lstore_n (lv' := [(3, .long (0 : Int64)), (2, .int (0 : Int32)), (0, .long x0)]) hx hb dX6_kindOf_3 rfl hl (by decide) rfl (fun ls hl => ?_)
  refine lv_iconst (v := 0) hx hb dX6_kindOf_4 (by decide) ?_
  refine lv_istore (lv' := [(5, .int (0 : Int32)), (3, .long (0 : Int64)), (2, .int (0 : Int32)), (0, .long x0)]) hx hb dX6_kindOf_5 hl (by decide) rfl (fun ls hl => ?_)
  exact wX6_kindOf_7 C _ _ _ _ _ _ _ _ _ h hH (lv_sub hl [3, 2, 1, 0] rfl)
-- X6_scanLetters
def FX6_scanLetters_71  (x1 : Int32) (σ : HS) : Option (Int32 × HS) :=
  if ((σ.1 13 4) - x1) ≤ (8 : Int32) then bdI (FX6_kindOf (σ.2 13 5) σ) fun r_2 σ_3 => some (r_2, σ_3) else some ((25 : Int32), σ)
def FX6_scanLetters_5  : Nat → Int32 → HS → Option (Int32 × HS)
  | 0, _, _ => none
  | f + 1, x1, σ => if (σ.1 1 1) ≤ (σ.1 13 4) then FX6_scanLetters_71 x1 σ else bdI (FX8_byteAt (σ.1 13 4) σ) fun r_6 σ_7 => bdI (FX6_isLetter r_6 σ_7) fun r_9 σ_10 => if r_9 = 0 then FX6_scanLetters_71 x1 σ_10 else bdI (FX8_byteAt (σ_10.1 13 4) σ_10) fun r_13 σ_14 => bdL (FX6_withLetter (σ_10.2 13 5) r_13 σ_14) fun r_16 σ_17 => hl_ (pL σ_17 13 5 r_16) fun σ_19 => hl_ (pI σ_19 13 4 ((σ_19.1 13 4) + (1 : Int32))) fun σ_20 => FX6_scanLetters_5  f x1 σ_20
def FX6_scanLetters (σ : HS) : Option (Int32 × HS) :=
  hl_ (σ.1 13 4) fun x1_21 => FX6_scanLetters_5 fu x1_21 σ
set_option maxHeartbeats 4000000 in
set_option maxRecDepth 100000 in
theorem wX6_scanLetters_71 (C : Cx 50 D ad κ p s m args meth c cX6_scanLetters RX6 2 (some .int)) {R : (Int32 × HS)} : ∀ (x1 : Int32) (σ : HS) (H : Heap) (locs : List Loc) (ls : Array Slot), FX6_scanLetters_71  x1 σ = some R → Hd 50 ceX D ad κ s σ H locs → lv_has ls 2 [(0, .ref (ad 13)), (1, .int x1)] → W p l e ({ frames := 5, cells := 0, slots := 0, locals := 111 } : Room) s m args below meth c H locs 0 0 (MQ below (QI 50 ceX D ad κ R) args s 0 0 (AX 50 ad)) (F0 m 71 ls []) := by
  have hx := C.1
  have hb := C.2.1
  have hown := C.2.2.2.1
  have hts := C.2.2.2.2.1
  intro x1 σ H locs ls h hH hl
  rw [FX6_scanLetters_71] at h
  refine lv_aload_n hx hb dX6_scanLetters_71 rfl (lv_at hl 0 rfl) ?_
  refine g_get C hH 13 (Nat.le_of_ble_eq_true rfl) rfl fl_X6_26 (v := .int (σ.1 13 4)) rfl dX6_scanLetters_72 ?_
  refine lv_iload_n hx hb dX6_scanLetters_75 rfl (lv_at hl 1 rfl) ?_
  refine lv_isub hx hb dX6_scanLetters_76 ?_
  refine lv_bipush (v := 8) hx hb dX6_scanLetters_77 (by decide) ?_
  refine lv_icmp_le (tgt := 87) hx hb dX6_scanLetters_79 (by decide) (fun hq_1 => ?_) (fun hq_1 => ?_)
  · rw [if_pos hq_1] at h
    refine lv_aload_n hx hb dX6_scanLetters_87 rfl (lv_at hl 0 rfl) ?_
    refine g_get C hH 13 (Nat.le_of_ble_eq_true rfl) rfl fl_X6_37 (v := .long (σ.2 13 5)) rfl dX6_scanLetters_88 ?_
    obtain ⟨r_2, σ_3, hc_4, h⟩ := bdI_ex h
    refine g_ci (g_runS (rest := []) C hH hl.1 cS_X6_77 (kX6_kindOf l D ad κ hc_4) ⟨rfl, rfl⟩ ⟨(Nat.le_of_ble_eq_true rfl), (Nat.le_of_ble_eq_true rfl)⟩ rfl rfl (Nat.le_of_ble_eq_true rfl) dX6_scanLetters_91 z00) hH (fun H locs hH => ?_)
    exact g_ret C hH h dX6_scanLetters_94
  · rw [if_neg hq_1] at h
    refine lv_bipush (v := 25) hx hb dX6_scanLetters_82 (by decide) ?_
    refine lv_goto (tgt := 94) hx hb dX6_scanLetters_84 (by decide) ?_
    exact g_ret C hH h dX6_scanLetters_94
set_option maxHeartbeats 4000000 in
set_option maxRecDepth 100000 in
theorem wX6_scanLetters_5 (C : Cx 50 D ad κ p s m args meth c cX6_scanLetters RX6 2 (some .int)) {R : (Int32 × HS)} : ∀ (f : Nat) (x1 : Int32) (σ : HS) (H : Heap) (locs : List Loc) (ls : Array Slot), FX6_scanLetters_5  f x1 σ = some R → Hd 50 ceX D ad κ s σ H locs → lv_has ls 2 [(0, .ref (ad 13)), (1, .int x1)] → W p l e ({ frames := 5, cells := 0, slots := 0, locals := 111 } : Room) s m args below meth c H locs 0 0 (MQ below (QI 50 ceX D ad κ R) args s 0 0 (AX 50 ad)) (F0 m 5 ls []) := by
  have hx := C.1
  have hb := C.2.1
  have hown := C.2.2.2.1
  have hts := C.2.2.2.2.1
  intro f
  induction f with
  | zero =>
    intro x1 σ H locs ls h hH hl
    cases h
  | succ f ih =>
    intro x1 σ H locs ls h hH hl
    rw [FX6_scanLetters_5] at h
    refine lv_aload_n hx hb dX6_scanLetters_5 rfl (lv_at hl 0 rfl) ?_
    refine g_get C hH 13 (Nat.le_of_ble_eq_true rfl) rfl fl_X6_26 (v := .int (σ.1 13 4)) rfl dX6_scanLetters_6 ?_
    refine lv_aload_n hx hb dX6_scanLetters_9 rfl (lv_at hl 0 rfl) ?_
    refine g_get C hH 13 (Nat.le_of_ble_eq_true rfl) rfl fl_X6_22 (v := .ref (ad 1)) rfl dX6_scanLetters_10 ?_
    refine g_get C hH 1 (Nat.le_of_ble_eq_true rfl) rfl fl_X6_41 (v := .int (σ.1 1 1)) rfl dX6_scanLetters_13 ?_
    refine lv_icmp_ge (tgt := 71) hx hb dX6_scanLetters_16 (by decide) (fun hq_5 => ?_) (fun hq_5 => ?_)
    · rw [if_pos hq_5] at h
      exact wX6_scanLetters_71 C  _ _ _ _ _ h hH (lv_sub hl [0, 1] rfl)
    · rw [if_neg hq_5] at h
      refine lv_aload_n hx hb dX6_scanLetters_19 rfl (lv_at hl 0 rfl) ?_
      refine g_get C hH 13 (Nat.le_of_ble_eq_true rfl) rfl fl_X6_22 (v := .ref (ad 1)) rfl dX6_scanLetters_20 ?_
      refine lv_aload_n hx hb dX6_scanLetters_23 rfl (lv_at hl 0 rfl) ?_
      refine g_get C hH 13 (Nat.le_of_ble_eq_true rfl) rfl fl_X6_26 (v := .int (σ.1 13 4)) rfl dX6_scanLetters_24 ?_
      obtain ⟨r_6, σ_7, hc_8, h⟩ := bdI_ex h
      refine g_ci (g_runV (rest := []) C hH hl.1 cV_X6_46 1 (Nat.le_of_ble_eq_true rfl) rfl rfl (kX8_byteAt l D ad κ hc_8) ⟨rfl, rfl⟩ ⟨(Nat.le_of_ble_eq_true rfl), (Nat.le_of_ble_eq_true rfl)⟩ rfl rfl (Nat.le_of_ble_eq_true rfl) dX6_scanLetters_27 z00) hH (fun H locs hH => ?_)
      obtain ⟨r_9, σ_10, hc_11, h⟩ := bdI_ex h
      refine g_ci (g_runS (rest := []) C hH hl.1 cS_X6_54 (kX6_isLetter l D ad κ hc_11) ⟨rfl, rfl⟩ ⟨(Nat.le_of_ble_eq_true rfl), (Nat.le_of_ble_eq_true rfl)⟩ rfl rfl (Nat.le_of_ble_eq_true rfl) dX6_scanLetters_30 z00) hH (fun H locs hH => ?_)
      refine lv_if_eq (tgt := 71) hx hb dX6_scanLetters_33 (by decide) (fun hq_12 => ?_) (fun hq_12 => ?_)
      · rw [if_pos hq_12] at h
        exact wX6_scanLetters_71 C  _ _ _ _ _ h hH (lv_sub hl [0, 1] rfl)
      · rw [if_neg hq_12] at h
        refine lv_aload_n hx hb dX6_scanLetters_36 rfl (lv_at hl 0 rfl) ?_
        refine lv_aload_n hx hb dX6_scanLetters_37 rfl (lv_at hl 0 rfl) ?_
        refine g_get C hH 13 (Nat.le_of_ble_eq_true rfl) rfl fl_X6_37 (v := .long (σ_10.2 13 5)) rfl dX6_scanLetters_38 ?_
        refine lv_aload_n hx hb dX6_scanLetters_41 rfl (lv_at hl 0 rfl) ?_
        refine g_get C hH 13 (Nat.le_of_ble_eq_true rfl) rfl fl_X6_22 (v := .ref (ad 1)) rfl dX6_scanLetters_42 ?_
        refine lv_aload_n hx hb dX6_scanLetters_45 rfl (lv_at hl 0 rfl) ?_
        refine g_get C hH 13 (Nat.le_of_ble_eq_true rfl) rfl fl_X6_26 (v := .int (σ_10.1 13 4)) rfl dX6_scanLetters_46 ?_
        obtain ⟨r_13, σ_14, hc_15, h⟩ := bdI_ex h
        refine g_ci (g_runV (rest := [.long (σ_10.2 13 5), .ref (ad 13)]) C hH hl.1 cV_X6_46 1 (Nat.le_of_ble_eq_true rfl) rfl rfl (kX8_byteAt l D ad κ hc_15) ⟨rfl, rfl⟩ ⟨(Nat.le_of_ble_eq_true rfl), (Nat.le_of_ble_eq_true rfl)⟩ rfl rfl (Nat.le_of_ble_eq_true rfl) dX6_scanLetters_49 z00) hH (fun H locs hH => ?_)
        obtain ⟨r_16, σ_17, hc_18, h⟩ := bdL_ex h
        refine g_cl (g_runS (rest := [.ref (ad 13)]) C hH hl.1 cS_X6_73 (kX6_withLetter l D ad κ hc_18) ⟨rfl, rfl⟩ ⟨(Nat.le_of_ble_eq_true rfl), (Nat.le_of_ble_eq_true rfl)⟩ rfl rfl (Nat.le_of_ble_eq_true rfl) dX6_scanLetters_52 z00) hH (fun H locs hH => ?_)
        obtain ⟨σ_19, eσ_19, h⟩ := hl_ex h
        refine g_putL C hH 13 (Nat.le_of_ble_eq_true rfl) rfl fp_X6_37 (Nat.le_of_ble_eq_true rfl) rfl dX6_scanLetters_55 (fun H locs hH => ?_)
        rw [← eσ_19] at hH
        refine lv_aload_n hx hb dX6_scanLetters_58 rfl (lv_at hl 0 rfl) ?_
        refine lv_dup hx hb dX6_scanLetters_59 rfl ?_
        refine g_get C hH 13 (Nat.le_of_ble_eq_true rfl) rfl fl_X6_26 (v := .int (σ_19.1 13 4)) rfl dX6_scanLetters_60 ?_
        refine lv_iconst (v := 1) hx hb dX6_scanLetters_63 (by decide) ?_
        refine lv_iadd hx hb dX6_scanLetters_64 ?_
        obtain ⟨σ_20, eσ_20, h⟩ := hl_ex h
        refine g_putI C hH 13 (Nat.le_of_ble_eq_true rfl) rfl fp_X6_26 rfl rfl (Nat.le_of_ble_eq_true rfl) rfl dX6_scanLetters_65 (fun H locs hH => ?_)
        rw [← eσ_20] at hH
        refine lv_goto (tgt := 5) hx hb dX6_scanLetters_68 (by decide) ?_
        exact ih _ _ _ _ _ h hH (lv_sub hl [0, 1] rfl)
set_option maxHeartbeats 4000000 in
set_option maxRecDepth 100000 in
theorem kX6_scanLetters (l : Launch) (D : va_G) (ad : Nat → Nat) (κ : KC) {σ : HS} {R : (Int32 × HS)} (h : FX6_scanLetters σ = some R) : MtI l 50 ceX D ad κ yX6_scanLetters cX6_scanLetters 2 (some .int) ({ frames := 5, cells := 0, slots := 0, locals := 111 } : Room) [.ref (ad 13)] σ R := by
  refine open_ (by decide) (Nat.le_of_ble_eq_true rfl) (la := [(0, .ref (ad 13))]) rfl ?_
  intro p e s m below meth c ls C hH hl
  replace C : Cx 50 D ad κ p s m _ meth c cX6_scanLetters RX6 2 (some .int) := C
  have hx := C.1
  have hb := C.2.1
  have hown := C.2.2.2.1
  have hts := C.2.2.2.2.1
  rw [FX6_scanLetters] at h
  refine lv_aload_n hx hb dX6_scanLetters_0 rfl (lv_at hl 0 rfl) ?_
  refine g_get C hH 13 (Nat.le_of_ble_eq_true rfl) rfl fl_X6_26 (v := .int (σ.1 13 4)) rfl dX6_scanLetters_1 ?_
  obtain ⟨x1_21, ex1_21, h⟩ := hl_ex h
  refine lv_eqi ex1_21 ?_
  refine lv_istore_n (lv' := [(1, .int x1_21), (0, .ref (ad 13))]) hx hb dX6_scanLetters_4 rfl hl (by decide) rfl (fun ls hl => ?_)
  exact wX6_scanLetters_5 C _ _ _ _ _ _ h hH (lv_sub hl [1, 0] rfl)
-- X6_isDigit
def FX6_isDigit (x0 : Int32) (σ : HS) : Option (Int32 × HS) :=
  if x0 < (48 : Int32) then some ((0 : Int32), σ) else if (57 : Int32) < x0 then some ((0 : Int32), σ) else some ((1 : Int32), σ)
set_option maxHeartbeats 4000000 in
set_option maxRecDepth 100000 in
theorem kX6_isDigit (l : Launch) (D : va_G) (ad : Nat → Nat) (κ : KC) {x0 : Int32} {σ : HS} {R : (Int32 × HS)} (h : FX6_isDigit x0 σ = some R) : MtI l 50 ceX D ad κ yX6_isDigit cX6_isDigit 1 (some .boolean) ({ frames := 0, cells := 0, slots := 0, locals := 0 } : Room) [.int x0] σ R := by
  refine open_ (by decide) (Nat.le_of_ble_eq_true rfl) (la := [(0, .int x0)]) rfl ?_
  intro p e s m below meth c ls C hH hl
  replace C : Cx 50 D ad κ p s m _ meth c cX6_isDigit RX6 1 (some .boolean) := C
  have hx := C.1
  have hb := C.2.1
  have hown := C.2.2.2.1
  have hts := C.2.2.2.2.1
  rw [FX6_isDigit] at h
  refine lv_bipush (v := 48) hx hb dX6_isDigit_0 (by decide) ?_
  refine lv_iload_n hx hb dX6_isDigit_2 rfl (lv_at hl 0 rfl) ?_
  refine lv_icmp_gt (tgt := 16) hx hb dX6_isDigit_3 (by decide) (fun hq_1 => ?_) (fun hq_1 => ?_)
  · rw [if_pos hq_1] at h
    refine lv_iconst (v := 0) hx hb dX6_isDigit_16 (by decide) ?_
    exact g_retZ C hH rfl h dX6_isDigit_17
  · rw [if_neg hq_1] at h
    refine lv_iload_n hx hb dX6_isDigit_6 rfl (lv_at hl 0 rfl) ?_
    refine lv_bipush (v := 57) hx hb dX6_isDigit_7 (by decide) ?_
    refine lv_icmp_gt (tgt := 16) hx hb dX6_isDigit_9 (by decide) (fun hq_2 => ?_) (fun hq_2 => ?_)
    · rw [if_pos hq_2] at h
      refine lv_iconst (v := 0) hx hb dX6_isDigit_16 (by decide) ?_
      exact g_retZ C hH rfl h dX6_isDigit_17
    · rw [if_neg hq_2] at h
      refine lv_iconst (v := 1) hx hb dX6_isDigit_12 (by decide) ?_
      refine lv_goto (tgt := 17) hx hb dX6_isDigit_13 (by decide) ?_
      exact g_retZ C hH rfl h dX6_isDigit_17
-- X6_scanDigits
def FX6_scanDigits_78  (x1 : Int32) (σ : HS) : Option (Int32 × HS) :=
  if ((σ.1 13 4) - x1) ≤ (4 : Int32) then some ((23 : Int32), σ) else some ((25 : Int32), σ)
def FX6_scanDigits_5  : Nat → Int32 → HS → Option (Int32 × HS)
  | 0, _, _ => none
  | f + 1, x1, σ => if (σ.1 1 1) ≤ (σ.1 13 4) then FX6_scanDigits_78 x1 σ else bdI (FX8_byteAt (σ.1 13 4) σ) fun r_3 σ_4 => bdI (FX6_isDigit r_3 σ_4) fun r_6 σ_7 => if r_6 = 0 then FX6_scanDigits_78 x1 σ_7 else bdI (FX8_byteAt (σ_7.1 13 4) σ_7) fun r_10 σ_11 => hl_ (pL σ_11 13 5 ((((σ_7.2 13 5) * (10 : Int64)) + (r_10.toInt64)) - (48 : Int64))) fun σ_13 => hl_ (pI σ_13 13 4 ((σ_13.1 13 4) + (1 : Int32))) fun σ_14 => FX6_scanDigits_5  f x1 σ_14
def FX6_scanDigits (σ : HS) : Option (Int32 × HS) :=
  hl_ (σ.1 13 4) fun x1_15 => FX6_scanDigits_5 fu x1_15 σ
set_option maxHeartbeats 4000000 in
set_option maxRecDepth 100000 in
theorem wX6_scanDigits_78 (C : Cx 50 D ad κ p s m args meth c cX6_scanDigits RX6 2 (some .int)) {R : (Int32 × HS)} : ∀ (x1 : Int32) (σ : HS) (H : Heap) (locs : List Loc) (ls : Array Slot), FX6_scanDigits_78  x1 σ = some R → Hd 50 ceX D ad κ s σ H locs → lv_has ls 2 [(0, .ref (ad 13)), (1, .int x1)] → W p l e ({ frames := 1, cells := 0, slots := 0, locals := 21 } : Room) s m args below meth c H locs 0 0 (MQ below (QI 50 ceX D ad κ R) args s 0 0 (AX 50 ad)) (F0 m 78 ls []) := by
  have hx := C.1
  have hb := C.2.1
  have hown := C.2.2.2.1
  have hts := C.2.2.2.2.1
  intro x1 σ H locs ls h hH hl
  rw [FX6_scanDigits_78] at h
  refine lv_aload_n hx hb dX6_scanDigits_78 rfl (lv_at hl 0 rfl) ?_
  refine g_get C hH 13 (Nat.le_of_ble_eq_true rfl) rfl fl_X6_26 (v := .int (σ.1 13 4)) rfl dX6_scanDigits_79 ?_
  refine lv_iload_n hx hb dX6_scanDigits_82 rfl (lv_at hl 1 rfl) ?_
  refine lv_isub hx hb dX6_scanDigits_83 ?_
  refine lv_iconst (v := 4) hx hb dX6_scanDigits_84 (by decide) ?_
  refine lv_icmp_le (tgt := 93) hx hb dX6_scanDigits_85 (by decide) (fun hq_1 => ?_) (fun hq_1 => ?_)
  · rw [if_pos hq_1] at h
    refine lv_bipush (v := 23) hx hb dX6_scanDigits_93 (by decide) ?_
    exact g_ret C hH h dX6_scanDigits_95
  · rw [if_neg hq_1] at h
    refine lv_bipush (v := 25) hx hb dX6_scanDigits_88 (by decide) ?_
    refine lv_goto (tgt := 95) hx hb dX6_scanDigits_90 (by decide) ?_
    exact g_ret C hH h dX6_scanDigits_95
set_option maxHeartbeats 4000000 in
set_option maxRecDepth 100000 in
theorem wX6_scanDigits_5 (C : Cx 50 D ad κ p s m args meth c cX6_scanDigits RX6 2 (some .int)) {R : (Int32 × HS)} : ∀ (f : Nat) (x1 : Int32) (σ : HS) (H : Heap) (locs : List Loc) (ls : Array Slot), FX6_scanDigits_5  f x1 σ = some R → Hd 50 ceX D ad κ s σ H locs → lv_has ls 2 [(0, .ref (ad 13)), (1, .int x1)] → W p l e ({ frames := 1, cells := 0, slots := 0, locals := 21 } : Room) s m args below meth c H locs 0 0 (MQ below (QI 50 ceX D ad κ R) args s 0 0 (AX 50 ad)) (F0 m 5 ls []) := by
  have hx := C.1
  have hb := C.2.1
  have hown := C.2.2.2.1
  have hts := C.2.2.2.2.1
  intro f
  induction f with
  | zero =>
    intro x1 σ H locs ls h hH hl
    cases h
  | succ f ih =>
    intro x1 σ H locs ls h hH hl
    rw [FX6_scanDigits_5] at h
    refine lv_aload_n hx hb dX6_scanDigits_5 rfl (lv_at hl 0 rfl) ?_
    refine g_get C hH 13 (Nat.le_of_ble_eq_true rfl) rfl fl_X6_26 (v := .int (σ.1 13 4)) rfl dX6_scanDigits_6 ?_
    refine lv_aload_n hx hb dX6_scanDigits_9 rfl (lv_at hl 0 rfl) ?_
    refine g_get C hH 13 (Nat.le_of_ble_eq_true rfl) rfl fl_X6_22 (v := .ref (ad 1)) rfl dX6_scanDigits_10 ?_
    refine g_get C hH 1 (Nat.le_of_ble_eq_true rfl) rfl fl_X6_41 (v := .int (σ.1 1 1)) rfl dX6_scanDigits_13 ?_
    refine lv_icmp_ge (tgt := 78) hx hb dX6_scanDigits_16 (by decide) (fun hq_2 => ?_) (fun hq_2 => ?_)
    · rw [if_pos hq_2] at h
      exact wX6_scanDigits_78 C  _ _ _ _ _ h hH (lv_sub hl [0, 1] rfl)
    · rw [if_neg hq_2] at h
      refine lv_aload_n hx hb dX6_scanDigits_19 rfl (lv_at hl 0 rfl) ?_
      refine g_get C hH 13 (Nat.le_of_ble_eq_true rfl) rfl fl_X6_22 (v := .ref (ad 1)) rfl dX6_scanDigits_20 ?_
      refine lv_aload_n hx hb dX6_scanDigits_23 rfl (lv_at hl 0 rfl) ?_
      refine g_get C hH 13 (Nat.le_of_ble_eq_true rfl) rfl fl_X6_26 (v := .int (σ.1 13 4)) rfl dX6_scanDigits_24 ?_
      obtain ⟨r_3, σ_4, hc_5, h⟩ := bdI_ex h
      refine g_ci (g_runV (rest := []) C hH hl.1 cV_X6_46 1 (Nat.le_of_ble_eq_true rfl) rfl rfl (kX8_byteAt l D ad κ hc_5) ⟨rfl, rfl⟩ ⟨(Nat.le_of_ble_eq_true rfl), (Nat.le_of_ble_eq_true rfl)⟩ rfl rfl (Nat.le_of_ble_eq_true rfl) dX6_scanDigits_27 z00) hH (fun H locs hH => ?_)
      obtain ⟨r_6, σ_7, hc_8, h⟩ := bdI_ex h
      refine g_ci (g_runS (rest := []) C hH hl.1 cS_X6_60 (kX6_isDigit l D ad κ hc_8) ⟨rfl, rfl⟩ ⟨(Nat.le_of_ble_eq_true rfl), (Nat.le_of_ble_eq_true rfl)⟩ rfl rfl (Nat.le_of_ble_eq_true rfl) dX6_scanDigits_30 z00) hH (fun H locs hH => ?_)
      refine lv_if_eq (tgt := 78) hx hb dX6_scanDigits_33 (by decide) (fun hq_9 => ?_) (fun hq_9 => ?_)
      · rw [if_pos hq_9] at h
        exact wX6_scanDigits_78 C  _ _ _ _ _ h hH (lv_sub hl [0, 1] rfl)
      · rw [if_neg hq_9] at h
        refine lv_aload_n hx hb dX6_scanDigits_36 rfl (lv_at hl 0 rfl) ?_
        refine lv_aload_n hx hb dX6_scanDigits_37 rfl (lv_at hl 0 rfl) ?_
        refine g_get C hH 13 (Nat.le_of_ble_eq_true rfl) rfl fl_X6_37 (v := .long (σ_7.2 13 5)) rfl dX6_scanDigits_38 ?_
        refine lv_ldc2 (v := 10) hx hb hown (hts _ kl_X6_81) dX6_scanDigits_41 ?_
        refine lv_lmul hx hb dX6_scanDigits_44 ?_
        refine lv_aload_n hx hb dX6_scanDigits_45 rfl (lv_at hl 0 rfl) ?_
        refine g_get C hH 13 (Nat.le_of_ble_eq_true rfl) rfl fl_X6_22 (v := .ref (ad 1)) rfl dX6_scanDigits_46 ?_
        refine lv_aload_n hx hb dX6_scanDigits_49 rfl (lv_at hl 0 rfl) ?_
        refine g_get C hH 13 (Nat.le_of_ble_eq_true rfl) rfl fl_X6_26 (v := .int (σ_7.1 13 4)) rfl dX6_scanDigits_50 ?_
        obtain ⟨r_10, σ_11, hc_12, h⟩ := bdI_ex h
        refine g_ci (g_runV (rest := [.long ((σ_7.2 13 5) * (10 : Int64)), .ref (ad 13)]) C hH hl.1 cV_X6_46 1 (Nat.le_of_ble_eq_true rfl) rfl rfl (kX8_byteAt l D ad κ hc_12) ⟨rfl, rfl⟩ ⟨(Nat.le_of_ble_eq_true rfl), (Nat.le_of_ble_eq_true rfl)⟩ rfl rfl (Nat.le_of_ble_eq_true rfl) dX6_scanDigits_53 z00) hH (fun H locs hH => ?_)
        refine lv_i2l (v := (r_10.toInt64)) hx hb dX6_scanDigits_56 rfl ?_
        refine lv_ladd hx hb dX6_scanDigits_57 ?_
        refine lv_ldc2 (v := 48) hx hb hown (hts _ kl_X6_83) dX6_scanDigits_58 ?_
        refine lv_lsub hx hb dX6_scanDigits_61 ?_
        obtain ⟨σ_13, eσ_13, h⟩ := hl_ex h
        refine g_putL C hH 13 (Nat.le_of_ble_eq_true rfl) rfl fp_X6_37 (Nat.le_of_ble_eq_true rfl) rfl dX6_scanDigits_62 (fun H locs hH => ?_)
        rw [← eσ_13] at hH
        refine lv_aload_n hx hb dX6_scanDigits_65 rfl (lv_at hl 0 rfl) ?_
        refine lv_dup hx hb dX6_scanDigits_66 rfl ?_
        refine g_get C hH 13 (Nat.le_of_ble_eq_true rfl) rfl fl_X6_26 (v := .int (σ_13.1 13 4)) rfl dX6_scanDigits_67 ?_
        refine lv_iconst (v := 1) hx hb dX6_scanDigits_70 (by decide) ?_
        refine lv_iadd hx hb dX6_scanDigits_71 ?_
        obtain ⟨σ_14, eσ_14, h⟩ := hl_ex h
        refine g_putI C hH 13 (Nat.le_of_ble_eq_true rfl) rfl fp_X6_26 rfl rfl (Nat.le_of_ble_eq_true rfl) rfl dX6_scanDigits_72 (fun H locs hH => ?_)
        rw [← eσ_14] at hH
        refine lv_goto (tgt := 5) hx hb dX6_scanDigits_75 (by decide) ?_
        exact ih _ _ _ _ _ h hH (lv_sub hl [0, 1] rfl)
set_option maxHeartbeats 4000000 in
set_option maxRecDepth 100000 in
theorem kX6_scanDigits (l : Launch) (D : va_G) (ad : Nat → Nat) (κ : KC) {σ : HS} {R : (Int32 × HS)} (h : FX6_scanDigits σ = some R) : MtI l 50 ceX D ad κ yX6_scanDigits cX6_scanDigits 2 (some .int) ({ frames := 1, cells := 0, slots := 0, locals := 21 } : Room) [.ref (ad 13)] σ R := by
  refine open_ (by decide) (Nat.le_of_ble_eq_true rfl) (la := [(0, .ref (ad 13))]) rfl ?_
  intro p e s m below meth c ls C hH hl
  replace C : Cx 50 D ad κ p s m _ meth c cX6_scanDigits RX6 2 (some .int) := C
  have hx := C.1
  have hb := C.2.1
  have hown := C.2.2.2.1
  have hts := C.2.2.2.2.1
  rw [FX6_scanDigits] at h
  refine lv_aload_n hx hb dX6_scanDigits_0 rfl (lv_at hl 0 rfl) ?_
  refine g_get C hH 13 (Nat.le_of_ble_eq_true rfl) rfl fl_X6_26 (v := .int (σ.1 13 4)) rfl dX6_scanDigits_1 ?_
  obtain ⟨x1_15, ex1_15, h⟩ := hl_ex h
  refine lv_eqi ex1_15 ?_
  refine lv_istore_n (lv' := [(1, .int x1_15), (0, .ref (ad 13))]) hx hb dX6_scanDigits_4 rfl hl (by decide) rfl (fun ls hl => ?_)
  exact wX6_scanDigits_5 C _ _ _ _ _ _ h hH (lv_sub hl [1, 0] rfl)
-- J1_canEncode_9a6ad
def FJ1_canEncode_9a6ad (x0 : Int32) (σ : HS) : Option (Int32 × HS) :=
  if x0 < 0 then some ((0 : Int32), σ) else if (255 : Int32) < x0 then some ((0 : Int32), σ) else some ((1 : Int32), σ)
set_option maxHeartbeats 4000000 in
set_option maxRecDepth 100000 in
theorem kJ1_canEncode_9a6ad (l : Launch) (D : va_G) (ad : Nat → Nat) (κ : KC) {x0 : Int32} {σ : HS} {R : (Int32 × HS)} (h : FJ1_canEncode_9a6ad x0 σ = some R) : MtI l 50 ceX D ad κ yJ1_canEncode_9a6ad cJ1_canEncode_9a6ad 1 (some .boolean) ({ frames := 0, cells := 0, slots := 0, locals := 0 } : Room) [.int x0] σ R := by
  refine open_ (by decide) (Nat.le_of_ble_eq_true rfl) (la := [(0, .int x0)]) rfl ?_
  intro p e s m below meth c ls C hH hl
  replace C : Cx 50 D ad κ p s m _ meth c cJ1_canEncode_9a6ad RJ1 1 (some .boolean) := C
  have hx := C.1
  have hb := C.2.1
  have hown := C.2.2.2.1
  have hts := C.2.2.2.2.1
  rw [FJ1_canEncode_9a6ad] at h
  refine lv_iload_n hx hb dJ1_canEncode_9a6ad_0 rfl (lv_at hl 0 rfl) ?_
  refine lv_if_lt (tgt := 15) hx hb dJ1_canEncode_9a6ad_1 (by decide) (fun hq_1 => ?_) (fun hq_1 => ?_)
  · rw [if_pos hq_1] at h
    refine lv_iconst (v := 0) hx hb dJ1_canEncode_9a6ad_15 (by decide) ?_
    exact g_retZ C hH rfl h dJ1_canEncode_9a6ad_16
  · rw [if_neg hq_1] at h
    refine lv_iload_n hx hb dJ1_canEncode_9a6ad_4 rfl (lv_at hl 0 rfl) ?_
    refine lv_sipush (v := 255) hx hb dJ1_canEncode_9a6ad_5 (by decide) ?_
    refine lv_icmp_gt (tgt := 15) hx hb dJ1_canEncode_9a6ad_8 (by decide) (fun hq_2 => ?_) (fun hq_2 => ?_)
    · rw [if_pos hq_2] at h
      refine lv_iconst (v := 0) hx hb dJ1_canEncode_9a6ad_15 (by decide) ?_
      exact g_retZ C hH rfl h dJ1_canEncode_9a6ad_16
    · rw [if_neg hq_2] at h
      refine lv_iconst (v := 1) hx hb dJ1_canEncode_9a6ad_11 (by decide) ?_
      refine lv_goto (tgt := 16) hx hb dJ1_canEncode_9a6ad_12 (by decide) ?_
      exact g_retZ C hH rfl h dJ1_canEncode_9a6ad_16
-- J1_indexOfChar_4cfef
def FJ1_indexOfChar_4cfef_7  (si : Nat) : Nat → Int32 → Int32 → Int32 → Int32 → Int32 → HS → Option (Int32 × HS)
  | 0, _, _, _, _, _, _ => none
  | f + 1, x1, x2, x3, x4, x5, σ => if x3 ≤ x5 then some ((-1 : Int32), σ) else gd (ix x5 (lenJS.getD si 0)) (if ((bytJS.getD si []).getD x5.toNatClampNeg 0) = x4 then some (x5, σ) else FJ1_indexOfChar_4cfef_7 si f x1 x2 x3 x4 (x5 + 1) σ)
def FJ1_indexOfChar_4cfef (si : Nat) (x1 : Int32) (x2 : Int32) (x3 : Int32) (σ : HS) : Option (Int32 × HS) :=
  hl_ (x1.toInt8.toInt32) fun x4_4 => FJ1_indexOfChar_4cfef_7 si fu x1 x2 x3 x4_4 x2 σ
set_option maxHeartbeats 4000000 in
set_option maxRecDepth 100000 in
theorem wJ1_indexOfChar_4cfef_7 (C : Cx 50 D ad κ p s m args meth c cJ1_indexOfChar_4cfef RJ1 6 (some .int)) {si : Nat} (hsi : si < 2) {R : (Int32 × HS)} : ∀ (f : Nat) (x1 : Int32) (x2 : Int32) (x3 : Int32) (x4 : Int32) (x5 : Int32) (σ : HS) (H : Heap) (locs : List Loc) (ls : Array Slot), FJ1_indexOfChar_4cfef_7 si f x1 x2 x3 x4 x5 σ = some R → Hd 50 ceX D ad κ s σ H locs → lv_has ls 6 [(0, .ref (ad (200 + si))), (1, .int x1), (2, .int x2), (3, .int x3), (4, .int x4), (5, .int x5)] → W p l e ({ frames := 0, cells := 0, slots := 0, locals := 0 } : Room) s m args below meth c H locs 0 0 (MQ below (QI 50 ceX D ad κ R) args s 0 0 (AX 50 ad)) (F0 m 7 ls []) := by
  have hx := C.1
  have hb := C.2.1
  have hown := C.2.2.2.1
  have hts := C.2.2.2.2.1
  intro f
  induction f with
  | zero =>
    intro x1 x2 x3 x4 x5 σ H locs ls h hH hl
    cases h
  | succ f ih =>
    intro x1 x2 x3 x4 x5 σ H locs ls h hH hl
    rw [FJ1_indexOfChar_4cfef_7] at h
    refine lv_iload hx hb dJ1_indexOfChar_4cfef_7 (lv_at hl 5 rfl) ?_
    refine lv_iload_n hx hb dJ1_indexOfChar_4cfef_9 rfl (lv_at hl 3 rfl) ?_
    refine lv_icmp_ge (tgt := 31) hx hb dJ1_indexOfChar_4cfef_10 (by decide) (fun hq_1 => ?_) (fun hq_1 => ?_)
    · rw [if_pos hq_1] at h
      refine lv_iconst (v := (-1)) hx hb dJ1_indexOfChar_4cfef_31 (by decide) ?_
      exact g_ret C hH h dJ1_indexOfChar_4cfef_32
    · rw [if_neg hq_1] at h
      refine lv_aload_n hx hb dJ1_indexOfChar_4cfef_13 rfl (lv_at hl 0 rfl) ?_
      refine lv_iload hx hb dJ1_indexOfChar_4cfef_14 (lv_at hl 5 rfl) ?_
      obtain ⟨hi_2, h⟩ := gd_ex h
      refine g_sald C hH hsi (ix_in hi_2) dJ1_indexOfChar_4cfef_16 ?_
      refine lv_iload hx hb dJ1_indexOfChar_4cfef_17 (lv_at hl 4 rfl) ?_
      refine lv_icmp_ne (tgt := 25) hx hb dJ1_indexOfChar_4cfef_19 (by decide) (fun hq_3 => ?_) (fun hq_3 => ?_)
      · rw [if_neg hq_3] at h
        refine lv_iinc (v := (x5 + 1)) (lv' := [(5, .int (x5 + 1)), (0, .ref (ad (200 + si))), (1, .int x1), (2, .int x2), (3, .int x3), (4, .int x4)]) hx hb dJ1_indexOfChar_4cfef_25 hl (k := 5) rfl rfl (by decide) rfl (fun ls hl => ?_)
        refine lv_goto (tgt := 7) hx hb dJ1_indexOfChar_4cfef_28 (by decide) ?_
        exact ih _ _ _ _ _ _ _ _ _ h hH (lv_sub hl [1, 2, 3, 4, 5, 0] rfl)
      · rw [if_pos hq_3] at h
        refine lv_iload hx hb dJ1_indexOfChar_4cfef_22 (lv_at hl 5 rfl) ?_
        exact g_ret C hH h dJ1_indexOfChar_4cfef_24
set_option maxHeartbeats 4000000 in
set_option maxRecDepth 100000 in
theorem kJ1_indexOfChar_4cfef (l : Launch) (D : va_G) (ad : Nat → Nat) (κ : KC) {si : Nat} (hsi : si < 2) {x1 : Int32} {x2 : Int32} {x3 : Int32} {σ : HS} {R : (Int32 × HS)} (h : FJ1_indexOfChar_4cfef si x1 x2 x3 σ = some R) : MtI l 50 ceX D ad κ yJ1_indexOfChar_4cfef cJ1_indexOfChar_4cfef 6 (some .int) ({ frames := 0, cells := 0, slots := 0, locals := 0 } : Room) [.ref (ad (200 + si)), .int x1, .int x2, .int x3] σ R := by
  refine open_ (by decide) (Nat.le_of_ble_eq_true rfl) (la := [(0, .ref (ad (200 + si))), (1, .int x1), (2, .int x2), (3, .int x3)]) rfl ?_
  intro p e s m below meth c ls C hH hl
  replace C : Cx 50 D ad κ p s m _ meth c cJ1_indexOfChar_4cfef RJ1 6 (some .int) := C
  have hx := C.1
  have hb := C.2.1
  have hown := C.2.2.2.1
  have hts := C.2.2.2.2.1
  rw [FJ1_indexOfChar_4cfef] at h
  refine lv_iload_n hx hb dJ1_indexOfChar_4cfef_0 rfl (lv_at hl 1 rfl) ?_
  refine lv_i2b (v := (x1.toInt8.toInt32)) hx hb dJ1_indexOfChar_4cfef_1 rfl ?_
  obtain ⟨x4_4, ex4_4, h⟩ := hl_ex h
  refine lv_eqi ex4_4 ?_
  refine lv_istore (lv' := [(4, .int x4_4), (0, .ref (ad (200 + si))), (1, .int x1), (2, .int x2), (3, .int x3)]) hx hb dJ1_indexOfChar_4cfef_2 hl (by decide) rfl (fun ls hl => ?_)
  refine lv_iload_n hx hb dJ1_indexOfChar_4cfef_4 rfl (lv_at hl 3 rfl) ?_
  refine lv_istore (lv' := [(5, .int x2), (4, .int x4_4), (0, .ref (ad (200 + si))), (1, .int x1), (2, .int x2), (3, .int x3)]) hx hb dJ1_indexOfChar_4cfef_5 hl (by decide) rfl (fun ls hl => ?_)
  exact wJ1_indexOfChar_4cfef_7 C hsi _ _ _ _ _ _ _ _ _ _ h hH (lv_sub hl [2, 3, 4, 5, 1, 0] rfl)
-- J1_indexOf_4cfef
def FJ1_indexOf_4cfef (si : Nat) (x1 : Int32) (x2 : Int32) (x3 : Int32) (σ : HS) : Option (Int32 × HS) :=
  bdI (FJ1_canEncode_9a6ad x1 σ) fun r_1 σ_2 => if r_1 = 0 then some ((-1 : Int32), σ_2) else hl_ (maxI x2 (0 : Int32)) fun x2_5 => hl_ (minI x3 (Int32.ofNat (lenJS.getD si 0))) fun x3_6 => if x2_5 < x3_6 then bdI (FJ1_indexOfChar_4cfef si x1 x2_5 x3_6 σ_2) fun r_8 σ_9 => some (r_8, σ_9) else some ((-1 : Int32), σ_2)
set_option maxHeartbeats 4000000 in
set_option maxRecDepth 100000 in
theorem kJ1_indexOf_4cfef (l : Launch) (D : va_G) (ad : Nat → Nat) (κ : KC) {si : Nat} (hsi : si < 2) {x1 : Int32} {x2 : Int32} {x3 : Int32} {σ : HS} {R : (Int32 × HS)} (h : FJ1_indexOf_4cfef si x1 x2 x3 σ = some R) : MtI l 50 ceX D ad κ yJ1_indexOf_4cfef cJ1_indexOf_4cfef 4 (some .int) ({ frames := 1, cells := 0, slots := 0, locals := 25 } : Room) [.ref (ad (200 + si)), .int x1, .int x2, .int x3] σ R := by
  refine open_ (by decide) (Nat.le_of_ble_eq_true rfl) (la := [(0, .ref (ad (200 + si))), (1, .int x1), (2, .int x2), (3, .int x3)]) rfl ?_
  intro p e s m below meth c ls C hH hl
  replace C : Cx 50 D ad κ p s m _ meth c cJ1_indexOf_4cfef RJ1 4 (some .int) := C
  have hx := C.1
  have hb := C.2.1
  have hown := C.2.2.2.1
  have hts := C.2.2.2.2.1
  rw [FJ1_indexOf_4cfef] at h
  refine lv_iload_n hx hb dJ1_indexOf_4cfef_0 rfl (lv_at hl 1 rfl) ?_
  obtain ⟨r_1, σ_2, hc_3, h⟩ := bdI_ex h
  refine g_ci (g_runS (rest := []) C hH hl.1 cS_J1_88 (kJ1_canEncode_9a6ad l D ad κ hc_3) ⟨rfl, rfl⟩ ⟨(Nat.le_of_ble_eq_true rfl), (Nat.le_of_ble_eq_true rfl)⟩ rfl rfl (Nat.le_of_ble_eq_true rfl) dJ1_indexOf_4cfef_1 z00) hH (fun H locs hH => ?_)
  refine lv_if_ne (tgt := 9) hx hb dJ1_indexOf_4cfef_4 (by decide) (fun hq_4 => ?_) (fun hq_4 => ?_)
  · rw [if_neg hq_4] at h
    refine lv_iload_n hx hb dJ1_indexOf_4cfef_9 rfl (lv_at hl 2 rfl) ?_
    refine lv_iconst (v := 0) hx hb dJ1_indexOf_4cfef_10 (by decide) ?_
    refine g_max C hl.1 mmax_J1_92 (Nat.le_of_ble_eq_true rfl) (Nat.le_of_ble_eq_true rfl) z00 dJ1_indexOf_4cfef_11 ?_
    obtain ⟨x2_5, ex2_5, h⟩ := hl_ex h
    refine lv_eqi ex2_5 ?_
    refine lv_istore_n (lv' := [(2, .int x2_5), (0, .ref (ad (200 + si))), (1, .int x1), (3, .int x3)]) hx hb dJ1_indexOf_4cfef_14 rfl hl (by decide) rfl (fun ls hl => ?_)
    refine lv_iload_n hx hb dJ1_indexOf_4cfef_15 rfl (lv_at hl 3 rfl) ?_
    refine lv_aload_n hx hb dJ1_indexOf_4cfef_16 rfl (lv_at hl 1 rfl) ?_
    refine g_slen C hH hsi dJ1_indexOf_4cfef_17 ?_
    refine g_min C hl.1 mmin_J1_38 (Nat.le_of_ble_eq_true rfl) (Nat.le_of_ble_eq_true rfl) z00 dJ1_indexOf_4cfef_18 ?_
    obtain ⟨x3_6, ex3_6, h⟩ := hl_ex h
    refine lv_eqi ex3_6 ?_
    refine lv_istore_n (lv' := [(3, .int x3_6), (2, .int x2_5), (0, .ref (ad (200 + si))), (1, .int x1)]) hx hb dJ1_indexOf_4cfef_21 rfl hl (by decide) rfl (fun ls hl => ?_)
    refine lv_iload_n hx hb dJ1_indexOf_4cfef_22 rfl (lv_at hl 1 rfl) ?_
    refine lv_iload_n hx hb dJ1_indexOf_4cfef_23 rfl (lv_at hl 0 rfl) ?_
    refine lv_icmp_lt (tgt := 29) hx hb dJ1_indexOf_4cfef_24 (by decide) (fun hq_7 => ?_) (fun hq_7 => ?_)
    · rw [if_pos hq_7] at h
      refine lv_aload_n hx hb dJ1_indexOf_4cfef_29 rfl (lv_at hl 2 rfl) ?_
      refine lv_iload_n hx hb dJ1_indexOf_4cfef_30 rfl (lv_at hl 3 rfl) ?_
      refine lv_iload_n hx hb dJ1_indexOf_4cfef_31 rfl (lv_at hl 1 rfl) ?_
      refine lv_iload_n hx hb dJ1_indexOf_4cfef_32 rfl (lv_at hl 0 rfl) ?_
      obtain ⟨r_8, σ_9, hc_10, h⟩ := bdI_ex h
      refine g_ci (g_runS (rest := []) C hH hl.1 cS_J1_95 (kJ1_indexOfChar_4cfef l D ad κ hsi hc_10) ⟨rfl, rfl⟩ ⟨(Nat.le_of_ble_eq_true rfl), (Nat.le_of_ble_eq_true rfl)⟩ rfl rfl (Nat.le_of_ble_eq_true rfl) dJ1_indexOf_4cfef_33 z00) hH (fun H locs hH => ?_)
      exact g_ret C hH h dJ1_indexOf_4cfef_36
    · rw [if_neg hq_7] at h
      refine lv_iconst (v := (-1)) hx hb dJ1_indexOf_4cfef_27 (by decide) ?_
      exact g_ret C hH h dJ1_indexOf_4cfef_28
  · rw [if_pos hq_4] at h
    refine lv_iconst (v := (-1)) hx hb dJ1_indexOf_4cfef_7 (by decide) ?_
    exact g_ret C hH h dJ1_indexOf_4cfef_8
-- J0_indexOf_7cf53
def FJ0_indexOf_7cf53 (si : Nat) (x1 : Int32) (x2 : Int32) (σ : HS) : Option (Int32 × HS) :=
  bdI (FJ0_isLatin1_aae02 si σ) fun r_1 σ_2 => if r_1 = 0 then bdI (FJ0_length_8abf5 si σ_2) fun r_5 σ_6 => none else bdI (FJ0_length_8abf5 si σ_2) fun r_8 σ_9 => bdI (FJ1_indexOf_4cfef si x1 x2 r_8 σ_9) fun r_11 σ_12 => some (r_11, σ_12)
set_option maxHeartbeats 4000000 in
set_option maxRecDepth 100000 in
theorem kJ0_indexOf_7cf53 (l : Launch) (D : va_G) (ad : Nat → Nat) (κ : KC) {si : Nat} (hsi : si < 2) {x1 : Int32} {x2 : Int32} {σ : HS} {R : (Int32 × HS)} (h : FJ0_indexOf_7cf53 si x1 x2 σ = some R) : MtI l 50 ceX D ad κ yJ0_indexOf_7cf53 cJ0_indexOf_7cf53 3 (some .int) ({ frames := 2, cells := 0, slots := 0, locals := 48 } : Room) [.ref (ad (100 + si)), .int x1, .int x2] σ R := by
  refine open_ (by decide) (Nat.le_of_ble_eq_true rfl) (la := [(0, .ref (ad (100 + si))), (1, .int x1), (2, .int x2)]) rfl ?_
  intro p e s m below meth c ls C hH hl
  replace C : Cx 50 D ad κ p s m _ meth c cJ0_indexOf_7cf53 RJ0 3 (some .int) := C
  have hx := C.1
  have hb := C.2.1
  have hown := C.2.2.2.1
  have hts := C.2.2.2.2.1
  rw [FJ0_indexOf_7cf53] at h
  refine lv_aload_n hx hb dJ0_indexOf_7cf53_0 rfl (lv_at hl 0 rfl) ?_
  obtain ⟨r_1, σ_2, hc_3, h⟩ := bdI_ex h
  refine g_ci (g_runVS (rest := []) C hH hl.1 cV_J0_492 hsi rfl (kJ0_isLatin1_aae02 l D ad κ hsi hc_3) ⟨rfl, rfl⟩ ⟨(Nat.le_of_ble_eq_true rfl), (Nat.le_of_ble_eq_true rfl)⟩ rfl rfl (Nat.le_of_ble_eq_true rfl) dJ0_indexOf_7cf53_1 z00) hH (fun H locs hH => ?_)
  refine lv_if_eq (tgt := 23) hx hb dJ0_indexOf_7cf53_4 (by decide) (fun hq_4 => ?_) (fun hq_4 => ?_)
  · rw [if_pos hq_4] at h
    refine lv_aload_n hx hb dJ0_indexOf_7cf53_23 rfl (lv_at hl 0 rfl) ?_
    refine g_sval C hH hsi fw_J0_9 dJ0_indexOf_7cf53_24 ?_
    refine lv_iload_n hx hb dJ0_indexOf_7cf53_27 rfl (lv_at hl 1 rfl) ?_
    refine lv_iload_n hx hb dJ0_indexOf_7cf53_28 rfl (lv_at hl 2 rfl) ?_
    refine lv_aload_n hx hb dJ0_indexOf_7cf53_29 rfl (lv_at hl 0 rfl) ?_
    obtain ⟨r_5, σ_6, hc_7, h⟩ := bdI_ex h
    refine g_ci (g_runVS (rest := [.int x2, .int x1, .ref (ad (200 + si))]) C hH hl.1 cV_J0_505 hsi rfl (kJ0_length_8abf5 l D ad κ hsi hc_7) ⟨rfl, rfl⟩ ⟨(Nat.le_of_ble_eq_true rfl), (Nat.le_of_ble_eq_true rfl)⟩ rfl rfl (Nat.le_of_ble_eq_true rfl) dJ0_indexOf_7cf53_30 z00) hH (fun H locs hH => ?_)
    cases h
  · rw [if_neg hq_4] at h
    refine lv_aload_n hx hb dJ0_indexOf_7cf53_7 rfl (lv_at hl 0 rfl) ?_
    refine g_sval C hH hsi fw_J0_9 dJ0_indexOf_7cf53_8 ?_
    refine lv_iload_n hx hb dJ0_indexOf_7cf53_11 rfl (lv_at hl 1 rfl) ?_
    refine lv_iload_n hx hb dJ0_indexOf_7cf53_12 rfl (lv_at hl 2 rfl) ?_
    refine lv_aload_n hx hb dJ0_indexOf_7cf53_13 rfl (lv_at hl 0 rfl) ?_
    obtain ⟨r_8, σ_9, hc_10, h⟩ := bdI_ex h
    refine g_ci (g_runVS (rest := [.int x2, .int x1, .ref (ad (200 + si))]) C hH hl.1 cV_J0_505 hsi rfl (kJ0_length_8abf5 l D ad κ hsi hc_10) ⟨rfl, rfl⟩ ⟨(Nat.le_of_ble_eq_true rfl), (Nat.le_of_ble_eq_true rfl)⟩ rfl rfl (Nat.le_of_ble_eq_true rfl) dJ0_indexOf_7cf53_14 z00) hH (fun H locs hH => ?_)
    obtain ⟨r_11, σ_12, hc_13, h⟩ := bdI_ex h
    refine g_ci (g_runS (rest := []) C hH hl.1 cS_J0_637 (kJ1_indexOf_4cfef l D ad κ hsi hc_13) ⟨rfl, rfl⟩ ⟨(Nat.le_of_ble_eq_true rfl), (Nat.le_of_ble_eq_true rfl)⟩ rfl rfl (Nat.le_of_ble_eq_true rfl) dJ0_indexOf_7cf53_17 z00) hH (fun H locs hH => ?_)
    refine lv_goto (tgt := 36) hx hb dJ0_indexOf_7cf53_20 (by decide) ?_
    exact g_ret C hH h dJ0_indexOf_7cf53_36
-- J0_indexOf_0f7a4
def FJ0_indexOf_0f7a4 (si : Nat) (x1 : Int32) (σ : HS) : Option (Int32 × HS) :=
  bdI (FJ0_indexOf_7cf53 si x1 (0 : Int32) σ) fun r_1 σ_2 => some (r_1, σ_2)
set_option maxHeartbeats 4000000 in
set_option maxRecDepth 100000 in
theorem kJ0_indexOf_0f7a4 (l : Launch) (D : va_G) (ad : Nat → Nat) (κ : KC) {si : Nat} (hsi : si < 2) {x1 : Int32} {σ : HS} {R : (Int32 × HS)} (h : FJ0_indexOf_0f7a4 si x1 σ = some R) : MtI l 50 ceX D ad κ yJ0_indexOf_0f7a4 cJ0_indexOf_0f7a4 2 (some .int) ({ frames := 3, cells := 0, slots := 0, locals := 70 } : Room) [.ref (ad (100 + si)), .int x1] σ R := by
  refine open_ (by decide) (Nat.le_of_ble_eq_true rfl) (la := [(0, .ref (ad (100 + si))), (1, .int x1)]) rfl ?_
  intro p e s m below meth c ls C hH hl
  replace C : Cx 50 D ad κ p s m _ meth c cJ0_indexOf_0f7a4 RJ0 2 (some .int) := C
  have hx := C.1
  have hb := C.2.1
  have hown := C.2.2.2.1
  have hts := C.2.2.2.2.1
  rw [FJ0_indexOf_0f7a4] at h
  refine lv_aload_n hx hb dJ0_indexOf_0f7a4_0 rfl (lv_at hl 0 rfl) ?_
  refine lv_iload_n hx hb dJ0_indexOf_0f7a4_1 rfl (lv_at hl 1 rfl) ?_
  refine lv_iconst (v := 0) hx hb dJ0_indexOf_0f7a4_2 (by decide) ?_
  obtain ⟨r_1, σ_2, hc_3, h⟩ := bdI_ex h
  refine g_ci (g_runVS (rest := []) C hH hl.1 cV_J0_633 hsi rfl (kJ0_indexOf_7cf53 l D ad κ hsi hc_3) ⟨rfl, rfl⟩ ⟨(Nat.le_of_ble_eq_true rfl), (Nat.le_of_ble_eq_true rfl)⟩ rfl rfl (Nat.le_of_ble_eq_true rfl) dJ0_indexOf_0f7a4_3 z00) hH (fun H locs hH => ?_)
  exact g_ret C hH h dJ0_indexOf_0f7a4_6
-- X6_scanToken
def FX6_scanToken (σ : HS) : Option (Int32 × HS) :=
  hl_ (pL σ 13 5 (0 : Int64)) fun σ_1 => bdI (FX8_byteAt (σ_1.1 13 4) σ_1) fun r_2 σ_3 => if r_2 = (-1 : Int32) then some ((24 : Int32), σ_3) else bdI (FX6_isLetter r_2 σ_3) fun r_6 σ_7 => if r_6 = 0 then bdI (FX6_isDigit r_2 σ_7) fun r_10 σ_11 => if r_10 = 0 then hl_ (pI σ_11 13 4 ((σ_11.1 13 4) + (1 : Int32))) fun σ_14 => bdI (FJ0_indexOf_0f7a4 1 ((r_2.toUInt32 % 65536).toInt32) σ_14) fun r_15 σ_16 => if r_15 < 0 then some ((25 : Int32), σ_16) else some (r_2, σ_16) else bdI (FX6_scanDigits σ_11) fun r_19 σ_20 => some (r_19, σ_20) else bdI (FX6_scanLetters σ_7) fun r_22 σ_23 => some (r_22, σ_23)
set_option maxHeartbeats 4000000 in
set_option maxRecDepth 100000 in
theorem kX6_scanToken (l : Launch) (D : va_G) (ad : Nat → Nat) (κ : KC) {σ : HS} {R : (Int32 × HS)} (h : FX6_scanToken σ = some R) : MtI l 50 ceX D ad κ yX6_scanToken cX6_scanToken 2 (some .int) ({ frames := 6, cells := 0, slots := 0, locals := 132 } : Room) [.ref (ad 13)] σ R := by
  refine open_ (by decide) (Nat.le_of_ble_eq_true rfl) (la := [(0, .ref (ad 13))]) rfl ?_
  intro p e s m below meth c ls C hH hl
  replace C : Cx 50 D ad κ p s m _ meth c cX6_scanToken RX6 2 (some .int) := C
  have hx := C.1
  have hb := C.2.1
  have hown := C.2.2.2.1
  have hts := C.2.2.2.2.1
  rw [FX6_scanToken] at h
  refine lv_aload_n hx hb dX6_scanToken_0 rfl (lv_at hl 0 rfl) ?_
  refine lv_lconst (v := 0) hx hb dX6_scanToken_1 rfl ?_
  obtain ⟨σ_1, eσ_1, h⟩ := hl_ex h
  refine g_putL C hH 13 (Nat.le_of_ble_eq_true rfl) rfl fp_X6_37 (Nat.le_of_ble_eq_true rfl) rfl dX6_scanToken_2 (fun H locs hH => ?_)
  rw [← eσ_1] at hH
  refine lv_aload_n hx hb dX6_scanToken_5 rfl (lv_at hl 0 rfl) ?_
  refine g_get C hH 13 (Nat.le_of_ble_eq_true rfl) rfl fl_X6_22 (v := .ref (ad 1)) rfl dX6_scanToken_6 ?_
  refine lv_aload_n hx hb dX6_scanToken_9 rfl (lv_at hl 0 rfl) ?_
  refine g_get C hH 13 (Nat.le_of_ble_eq_true rfl) rfl fl_X6_26 (v := .int (σ_1.1 13 4)) rfl dX6_scanToken_10 ?_
  obtain ⟨r_2, σ_3, hc_4, h⟩ := bdI_ex h
  refine g_ci (g_runV (rest := []) C hH hl.1 cV_X6_46 1 (Nat.le_of_ble_eq_true rfl) rfl rfl (kX8_byteAt l D ad κ hc_4) ⟨rfl, rfl⟩ ⟨(Nat.le_of_ble_eq_true rfl), (Nat.le_of_ble_eq_true rfl)⟩ rfl rfl (Nat.le_of_ble_eq_true rfl) dX6_scanToken_13 z00) hH (fun H locs hH => ?_)
  refine lv_istore_n (lv' := [(1, .int r_2), (0, .ref (ad 13))]) hx hb dX6_scanToken_16 rfl hl (by decide) rfl (fun ls hl => ?_)
  refine lv_iload_n hx hb dX6_scanToken_17 rfl (lv_at hl 0 rfl) ?_
  refine lv_iconst (v := (-1)) hx hb dX6_scanToken_18 (by decide) ?_
  refine lv_icmp_ne (tgt := 25) hx hb dX6_scanToken_19 (by decide) (fun hq_5 => ?_) (fun hq_5 => ?_)
  · rw [if_neg hq_5] at h
    refine lv_iload_n hx hb dX6_scanToken_25 rfl (lv_at hl 0 rfl) ?_
    obtain ⟨r_6, σ_7, hc_8, h⟩ := bdI_ex h
    refine g_ci (g_runS (rest := []) C hH hl.1 cS_X6_54 (kX6_isLetter l D ad κ hc_8) ⟨rfl, rfl⟩ ⟨(Nat.le_of_ble_eq_true rfl), (Nat.le_of_ble_eq_true rfl)⟩ rfl rfl (Nat.le_of_ble_eq_true rfl) dX6_scanToken_26 z00) hH (fun H locs hH => ?_)
    refine lv_if_eq (tgt := 37) hx hb dX6_scanToken_29 (by decide) (fun hq_9 => ?_) (fun hq_9 => ?_)
    · rw [if_pos hq_9] at h
      refine lv_iload_n hx hb dX6_scanToken_37 rfl (lv_at hl 0 rfl) ?_
      obtain ⟨r_10, σ_11, hc_12, h⟩ := bdI_ex h
      refine g_ci (g_runS (rest := []) C hH hl.1 cS_X6_60 (kX6_isDigit l D ad κ hc_12) ⟨rfl, rfl⟩ ⟨(Nat.le_of_ble_eq_true rfl), (Nat.le_of_ble_eq_true rfl)⟩ rfl rfl (Nat.le_of_ble_eq_true rfl) dX6_scanToken_38 z00) hH (fun H locs hH => ?_)
      refine lv_if_eq (tgt := 49) hx hb dX6_scanToken_41 (by decide) (fun hq_13 => ?_) (fun hq_13 => ?_)
      · rw [if_pos hq_13] at h
        refine lv_aload_n hx hb dX6_scanToken_49 rfl (lv_at hl 1 rfl) ?_
        refine lv_dup hx hb dX6_scanToken_50 rfl ?_
        refine g_get C hH 13 (Nat.le_of_ble_eq_true rfl) rfl fl_X6_26 (v := .int (σ_11.1 13 4)) rfl dX6_scanToken_51 ?_
        refine lv_iconst (v := 1) hx hb dX6_scanToken_54 (by decide) ?_
        refine lv_iadd hx hb dX6_scanToken_55 ?_
        obtain ⟨σ_14, eσ_14, h⟩ := hl_ex h
        refine g_putI C hH 13 (Nat.le_of_ble_eq_true rfl) rfl fp_X6_26 rfl rfl (Nat.le_of_ble_eq_true rfl) rfl dX6_scanToken_56 (fun H locs hH => ?_)
        rw [← eσ_14] at hH
        refine g_ldc1 C dX6_scanToken_59 ?_
        refine lv_iload_n hx hb dX6_scanToken_61 rfl (lv_at hl 0 rfl) ?_
        refine lv_i2c (v := ((r_2.toUInt32 % 65536).toInt32)) hx hb dX6_scanToken_62 rfl ?_
        obtain ⟨r_15, σ_16, hc_17, h⟩ := bdI_ex h
        refine g_ci (g_runVS (rest := []) C hH hl.1 cV_X6_68 (i := 1) (by decide) rfl (kJ0_indexOf_0f7a4 l D ad κ (by decide) hc_17) ⟨rfl, rfl⟩ ⟨(Nat.le_of_ble_eq_true rfl), (Nat.le_of_ble_eq_true rfl)⟩ rfl rfl (Nat.le_of_ble_eq_true rfl) dX6_scanToken_63 z00) hH (fun H locs hH => ?_)
        refine lv_if_lt (tgt := 73) hx hb dX6_scanToken_66 (by decide) (fun hq_18 => ?_) (fun hq_18 => ?_)
        · rw [if_pos hq_18] at h
          refine lv_bipush (v := 25) hx hb dX6_scanToken_73 (by decide) ?_
          exact g_ret C hH h dX6_scanToken_75
        · rw [if_neg hq_18] at h
          refine lv_iload_n hx hb dX6_scanToken_69 rfl (lv_at hl 0 rfl) ?_
          refine lv_goto (tgt := 75) hx hb dX6_scanToken_70 (by decide) ?_
          exact g_ret C hH h dX6_scanToken_75
      · rw [if_neg hq_13] at h
        refine lv_aload_n hx hb dX6_scanToken_44 rfl (lv_at hl 1 rfl) ?_
        obtain ⟨r_19, σ_20, hc_21, h⟩ := bdI_ex h
        refine g_ci (g_runV (rest := []) C hH hl.1 cV_X6_63 13 (Nat.le_of_ble_eq_true rfl) rfl rfl (kX6_scanDigits l D ad κ hc_21) ⟨rfl, rfl⟩ ⟨(Nat.le_of_ble_eq_true rfl), (Nat.le_of_ble_eq_true rfl)⟩ rfl rfl (Nat.le_of_ble_eq_true rfl) dX6_scanToken_45 z00) hH (fun H locs hH => ?_)
        exact g_ret C hH h dX6_scanToken_48
    · rw [if_neg hq_9] at h
      refine lv_aload_n hx hb dX6_scanToken_32 rfl (lv_at hl 1 rfl) ?_
      obtain ⟨r_22, σ_23, hc_24, h⟩ := bdI_ex h
      refine g_ci (g_runV (rest := []) C hH hl.1 cV_X6_57 13 (Nat.le_of_ble_eq_true rfl) rfl rfl (kX6_scanLetters l D ad κ hc_24) ⟨rfl, rfl⟩ ⟨(Nat.le_of_ble_eq_true rfl), (Nat.le_of_ble_eq_true rfl)⟩ rfl rfl (Nat.le_of_ble_eq_true rfl) dX6_scanToken_33 z00) hH (fun H locs hH => ?_)
      exact g_ret C hH h dX6_scanToken_36
  · rw [if_pos hq_5] at h
    refine lv_bipush (v := 24) hx hb dX6_scanToken_22 (by decide) ?_
    exact g_ret C hH h dX6_scanToken_24
-- X6_scan
def FX6_scan_10  : Nat → Int32 → Int32 → HS → Option HS
  | 0, _, _, _ => none
  | f + 1, x1, x2, σ => if (400 : Int32) < x2 then some σ else if x1 = (24 : Int32) then some σ else if x1 = (25 : Int32) then some σ else bdV (FX6_skipBlanks σ) fun σ_4 => gd (ix x2 401) (hl_ (pI σ_4 20 (x2.toNatClampNeg) (σ_4.1 13 4)) fun σ_7 => bdI (FX6_scanToken σ_7) fun r_8 σ_9 => gd (ix x2 401) (hl_ (pI σ_9 19 (x2.toNatClampNeg) r_8) fun σ_12 => gd (ix x2 401) (hl_ (pL σ_12 21 (x2.toNatClampNeg) (σ_12.2 13 5)) fun σ_14 => FX6_scan_10  f r_8 (x2 + 1) σ_14)))
def FX6_scan (σ : HS) : Option HS :=
  hl_ (pI σ 13 4 (0 : Int32)) fun σ_15 => FX6_scan_10 fu (22 : Int32) (0 : Int32) σ_15
set_option maxHeartbeats 4000000 in
set_option maxRecDepth 100000 in
theorem wX6_scan_10 (C : Cx 50 D ad κ p s m args meth c cX6_scan RX6 3 none) {R : HS} : ∀ (f : Nat) (x1 : Int32) (x2 : Int32) (σ : HS) (H : Heap) (locs : List Loc) (ls : Array Slot), FX6_scan_10  f x1 x2 σ = some R → Hd 50 ceX D ad κ s σ H locs → lv_has ls 3 [(0, .ref (ad 13)), (1, .int x1), (2, .int x2)] → W p l e ({ frames := 7, cells := 0, slots := 0, locals := 153 } : Room) s m args below meth c H locs 0 0 (MQ below (QV 50 ceX D ad κ R) args s 0 0 (AX 50 ad)) (F0 m 10 ls []) := by
  have hx := C.1
  have hb := C.2.1
  have hown := C.2.2.2.1
  have hts := C.2.2.2.2.1
  intro f
  induction f with
  | zero =>
    intro x1 x2 σ H locs ls h hH hl
    cases h
  | succ f ih =>
    intro x1 x2 σ H locs ls h hH hl
    rw [FX6_scan_10] at h
    refine lv_iload_n hx hb dX6_scan_10 rfl (lv_at hl 2 rfl) ?_
    refine lv_sipush (v := 400) hx hb dX6_scan_11 (by decide) ?_
    refine lv_icmp_gt (tgt := 71) hx hb dX6_scan_14 (by decide) (fun hq_1 => ?_) (fun hq_1 => ?_)
    · rw [if_pos hq_1] at h
      exact g_retV C hH h dX6_scan_71
    · rw [if_neg hq_1] at h
      refine lv_iload_n hx hb dX6_scan_17 rfl (lv_at hl 1 rfl) ?_
      refine lv_bipush (v := 24) hx hb dX6_scan_18 (by decide) ?_
      refine lv_icmp_eq (tgt := 71) hx hb dX6_scan_20 (by decide) (fun hq_2 => ?_) (fun hq_2 => ?_)
      · rw [if_pos hq_2] at h
        exact g_retV C hH h dX6_scan_71
      · rw [if_neg hq_2] at h
        refine lv_iload_n hx hb dX6_scan_23 rfl (lv_at hl 1 rfl) ?_
        refine lv_bipush (v := 25) hx hb dX6_scan_24 (by decide) ?_
        refine lv_icmp_eq (tgt := 71) hx hb dX6_scan_26 (by decide) (fun hq_3 => ?_) (fun hq_3 => ?_)
        · rw [if_pos hq_3] at h
          exact g_retV C hH h dX6_scan_71
        · rw [if_neg hq_3] at h
          refine lv_aload_n hx hb dX6_scan_29 rfl (lv_at hl 0 rfl) ?_
          obtain ⟨σ_4, hc_5, h⟩ := bdV_ex h
          refine g_cv (g_runV (rest := []) C hH hl.1 cV_X6_30 13 (Nat.le_of_ble_eq_true rfl) rfl rfl (kX6_skipBlanks l D ad κ hc_5) ⟨rfl, rfl⟩ ⟨(Nat.le_of_ble_eq_true rfl), (Nat.le_of_ble_eq_true rfl)⟩ rfl rfl (Nat.le_of_ble_eq_true rfl) dX6_scan_30 z00) hH (fun H locs hH => ?_)
          refine lv_aload_n hx hb dX6_scan_33 rfl (lv_at hl 0 rfl) ?_
          refine g_get C hH 13 (Nat.le_of_ble_eq_true rfl) rfl fl_X6_15 (v := .ref (ad 20)) rfl dX6_scan_34 ?_
          refine lv_iload_n hx hb dX6_scan_37 rfl (lv_at hl 2 rfl) ?_
          refine lv_aload_n hx hb dX6_scan_38 rfl (lv_at hl 0 rfl) ?_
          refine g_get C hH 13 (Nat.le_of_ble_eq_true rfl) rfl fl_X6_26 (v := .int (σ_4.1 13 4)) rfl dX6_scan_39 ?_
          obtain ⟨hi_6, h⟩ := gd_ex h
          obtain ⟨σ_7, eσ_7, h⟩ := hl_ex h
          refine g_iast C hH 20 (Nat.le_of_ble_eq_true rfl) (fun _ _ => rfl) (k := (x2.toNatClampNeg)) rfl (ix_in hi_6) dX6_scan_42 (fun H locs hH => ?_)
          rw [← eσ_7] at hH
          refine lv_aload_n hx hb dX6_scan_43 rfl (lv_at hl 0 rfl) ?_
          obtain ⟨r_8, σ_9, hc_10, h⟩ := bdI_ex h
          refine g_ci (g_runV (rest := []) C hH hl.1 cV_X6_33 13 (Nat.le_of_ble_eq_true rfl) rfl rfl (kX6_scanToken l D ad κ hc_10) ⟨rfl, rfl⟩ ⟨(Nat.le_of_ble_eq_true rfl), (Nat.le_of_ble_eq_true rfl)⟩ rfl rfl (Nat.le_of_ble_eq_true rfl) dX6_scan_44 z00) hH (fun H locs hH => ?_)
          refine lv_istore_n (lv' := [(1, .int r_8), (0, .ref (ad 13)), (2, .int x2)]) hx hb dX6_scan_47 rfl hl (by decide) rfl (fun ls hl => ?_)
          refine lv_aload_n hx hb dX6_scan_48 rfl (lv_at hl 1 rfl) ?_
          refine g_get C hH 13 (Nat.le_of_ble_eq_true rfl) rfl fl_X6_11 (v := .ref (ad 19)) rfl dX6_scan_49 ?_
          refine lv_iload_n hx hb dX6_scan_52 rfl (lv_at hl 2 rfl) ?_
          refine lv_iload_n hx hb dX6_scan_53 rfl (lv_at hl 0 rfl) ?_
          obtain ⟨hi_11, h⟩ := gd_ex h
          obtain ⟨σ_12, eσ_12, h⟩ := hl_ex h
          refine g_iast C hH 19 (Nat.le_of_ble_eq_true rfl) (fun _ _ => rfl) (k := (x2.toNatClampNeg)) rfl (ix_in hi_11) dX6_scan_54 (fun H locs hH => ?_)
          rw [← eσ_12] at hH
          refine lv_aload_n hx hb dX6_scan_55 rfl (lv_at hl 1 rfl) ?_
          refine g_get C hH 13 (Nat.le_of_ble_eq_true rfl) rfl fl_X6_18 (v := .ref (ad 21)) rfl dX6_scan_56 ?_
          refine lv_iload_n hx hb dX6_scan_59 rfl (lv_at hl 2 rfl) ?_
          refine lv_aload_n hx hb dX6_scan_60 rfl (lv_at hl 1 rfl) ?_
          refine g_get C hH 13 (Nat.le_of_ble_eq_true rfl) rfl fl_X6_37 (v := .long (σ_12.2 13 5)) rfl dX6_scan_61 ?_
          obtain ⟨hi_13, h⟩ := gd_ex h
          obtain ⟨σ_14, eσ_14, h⟩ := hl_ex h
          refine g_last C hH 21 (Nat.le_of_ble_eq_true rfl) (fun _ _ => rfl) (k := (x2.toNatClampNeg)) rfl (ix_in hi_13) dX6_scan_64 (fun H locs hH => ?_)
          rw [← eσ_14] at hH
          refine lv_iinc (v := (x2 + 1)) (lv' := [(2, .int (x2 + 1)), (1, .int r_8), (0, .ref (ad 13))]) hx hb dX6_scan_65 hl (k := 2) rfl rfl (by decide) rfl (fun ls hl => ?_)
          refine lv_goto (tgt := 10) hx hb dX6_scan_68 (by decide) ?_
          exact ih _ _ _ _ _ _ h hH (lv_sub hl [2, 1, 0] rfl)
set_option maxHeartbeats 4000000 in
set_option maxRecDepth 100000 in
theorem kX6_scan (l : Launch) (D : va_G) (ad : Nat → Nat) (κ : KC) {σ : HS} {R : HS} (h : FX6_scan σ = some R) : MtV l 50 ceX D ad κ yX6_scan cX6_scan 3 none ({ frames := 7, cells := 0, slots := 0, locals := 153 } : Room) [.ref (ad 13)] σ R := by
  refine open_ (by decide) (Nat.le_of_ble_eq_true rfl) (la := [(0, .ref (ad 13))]) rfl ?_
  intro p e s m below meth c ls C hH hl
  replace C : Cx 50 D ad κ p s m _ meth c cX6_scan RX6 3 none := C
  have hx := C.1
  have hb := C.2.1
  have hown := C.2.2.2.1
  have hts := C.2.2.2.2.1
  rw [FX6_scan] at h
  refine lv_aload_n hx hb dX6_scan_0 rfl (lv_at hl 0 rfl) ?_
  refine lv_iconst (v := 0) hx hb dX6_scan_1 (by decide) ?_
  obtain ⟨σ_15, eσ_15, h⟩ := hl_ex h
  refine g_putI C hH 13 (Nat.le_of_ble_eq_true rfl) rfl fp_X6_26 rfl rfl (Nat.le_of_ble_eq_true rfl) rfl dX6_scan_2 (fun H locs hH => ?_)
  rw [← eσ_15] at hH
  refine lv_bipush (v := 22) hx hb dX6_scan_5 (by decide) ?_
  refine lv_istore_n (lv' := [(1, .int (22 : Int32)), (0, .ref (ad 13))]) hx hb dX6_scan_7 rfl hl (by decide) rfl (fun ls hl => ?_)
  refine lv_iconst (v := 0) hx hb dX6_scan_8 (by decide) ?_
  refine lv_istore_n (lv' := [(2, .int (0 : Int32)), (1, .int (22 : Int32)), (0, .ref (ad 13))]) hx hb dX6_scan_9 rfl hl (by decide) rfl (fun ls hl => ?_)
  exact wX6_scan_10 C _ _ _ _ _ _ _ h hH (lv_sub hl [2, 1, 0] rfl)
end
