theorem dX12_put_0 : decode cX12_put 0 = .ok (.bipush 24, 2) := by decide +kernel
theorem dX12_put_2 : decode cX12_put 2 = .ok (.istore_n 2, 1) := by decide +kernel
theorem dX12_put_3 : decode cX12_put 3 = .ok (.iload_n 2, 1) := by decide +kernel
theorem dX12_put_4 : decode cX12_put 4 = .ok (.ifCond .lt 32, 3) := by decide +kernel
theorem dX12_put_7 : decode cX12_put 7 = .ok (.aload_n 0, 1) := by decide +kernel
theorem dX12_put_8 : decode cX12_put 8 = .ok (.getfield 13, 3) := by decide +kernel
theorem dX12_put_11 : decode cX12_put 11 = .ok (.aload_n 0, 1) := by decide +kernel
theorem dX12_put_12 : decode cX12_put 12 = .ok (.getfield 166, 3) := by decide +kernel
theorem dX12_put_15 : decode cX12_put 15 = .ok (.iload_n 1, 1) := by decide +kernel
theorem dX12_put_16 : decode cX12_put 16 = .ok (.iload_n 2, 1) := by decide +kernel
theorem dX12_put_17 : decode cX12_put 17 = .ok (.ishr, 1) := by decide +kernel
theorem dX12_put_18 : decode cX12_put 18 = .ok (.i2b, 1) := by decide +kernel
theorem dX12_put_19 : decode cX12_put 19 = .ok (.bastore, 1) := by decide +kernel
theorem dX12_put_20 : decode cX12_put 20 = .ok (.aload_n 0, 1) := by decide +kernel
theorem dX12_put_21 : decode cX12_put 21 = .ok (.dup, 1) := by decide +kernel
theorem dX12_put_22 : decode cX12_put 22 = .ok (.getfield 166, 3) := by decide +kernel
theorem dX12_put_25 : decode cX12_put 25 = .ok (.iconst 1, 1) := by decide +kernel
theorem dX12_put_26 : decode cX12_put 26 = .ok (.iadd, 1) := by decide +kernel
theorem dX12_put_27 : decode cX12_put 27 = .ok (.putfield 166, 3) := by decide +kernel
theorem dX12_put_30 : decode cX12_put 30 = .ok (.iinc 2 (-8), 3) := by decide +kernel
theorem dX12_put_33 : decode cX12_put 33 = .ok (.goto (-30), 3) := by decide +kernel
theorem dX12_put_36 : decode cX12_put 36 = .ok (.return_, 1) := by decide +kernel
theorem dX12_feed_0 : decode cX12_feed 0 = .ok (.aload_n 0, 1) := by decide +kernel
theorem dX12_feed_1 : decode cX12_feed 1 = .ok (.getfield 166, 3) := by decide +kernel
theorem dX12_feed_4 : decode cX12_feed 4 = .ok (.bipush 20, 2) := by decide +kernel
theorem dX12_feed_6 : decode cX12_feed 6 = .ok (.iadd, 1) := by decide +kernel
theorem dX12_feed_7 : decode cX12_feed 7 = .ok (.sipush 2000, 3) := by decide +kernel
theorem dX12_feed_10 : decode cX12_feed 10 = .ok (.if_icmp .le 5, 3) := by decide +kernel
theorem dX12_feed_13 : decode cX12_feed 13 = .ok (.iconst (-1), 1) := by decide +kernel
theorem dX12_feed_14 : decode cX12_feed 14 = .ok (.ireturn, 1) := by decide +kernel
theorem dX12_feed_15 : decode cX12_feed 15 = .ok (.aload_n 0, 1) := by decide +kernel
theorem dX12_feed_16 : decode cX12_feed 16 = .ok (.iload_n 1, 1) := by decide +kernel
theorem dX12_feed_17 : decode cX12_feed 17 = .ok (.invokevirtual 169, 3) := by decide +kernel
theorem dX12_feed_20 : decode cX12_feed 20 = .ok (.aload_n 0, 1) := by decide +kernel
theorem dX12_feed_21 : decode cX12_feed 21 = .ok (.iload_n 2, 1) := by decide +kernel
theorem dX12_feed_22 : decode cX12_feed 22 = .ok (.invokevirtual 169, 3) := by decide +kernel
theorem dX12_feed_25 : decode cX12_feed 25 = .ok (.aload_n 0, 1) := by decide +kernel
theorem dX12_feed_26 : decode cX12_feed 26 = .ok (.iload_n 3, 1) := by decide +kernel
theorem dX12_feed_27 : decode cX12_feed 27 = .ok (.invokevirtual 169, 3) := by decide +kernel
theorem dX12_feed_30 : decode cX12_feed 30 = .ok (.aload_n 0, 1) := by decide +kernel
theorem dX12_feed_31 : decode cX12_feed 31 = .ok (.iload 4, 2) := by decide +kernel
theorem dX12_feed_33 : decode cX12_feed 33 = .ok (.invokevirtual 169, 3) := by decide +kernel
theorem dX12_feed_36 : decode cX12_feed 36 = .ok (.aload_n 0, 1) := by decide +kernel
theorem dX12_feed_37 : decode cX12_feed 37 = .ok (.iload 5, 2) := by decide +kernel
theorem dX12_feed_39 : decode cX12_feed 39 = .ok (.invokevirtual 169, 3) := by decide +kernel
theorem dX12_feed_42 : decode cX12_feed 42 = .ok (.aload_n 0, 1) := by decide +kernel
theorem dX12_feed_43 : decode cX12_feed 43 = .ok (.getfield 166, 3) := by decide +kernel
theorem dX12_feed_46 : decode cX12_feed 46 = .ok (.ireturn, 1) := by decide +kernel
theorem dX12_back_0 : decode cX12_back 0 = .ok (.iload_n 1, 1) := by decide +kernel
theorem dX12_back_1 : decode cX12_back 1 = .ok (.ifCond .lt 11, 3) := by decide +kernel
theorem dX12_back_4 : decode cX12_back 4 = .ok (.iload_n 1, 1) := by decide +kernel
theorem dX12_back_5 : decode cX12_back 5 = .ok (.aload_n 0, 1) := by decide +kernel
theorem dX12_back_6 : decode cX12_back 6 = .ok (.getfield 166, 3) := by decide +kernel
theorem dX12_back_9 : decode cX12_back 9 = .ok (.if_icmp .le 5, 3) := by decide +kernel
theorem dX12_back_12 : decode cX12_back 12 = .ok (.iconst (-1), 1) := by decide +kernel
theorem dX12_back_13 : decode cX12_back 13 = .ok (.ireturn, 1) := by decide +kernel
theorem dX12_back_14 : decode cX12_back 14 = .ok (.aload_n 0, 1) := by decide +kernel
theorem dX12_back_15 : decode cX12_back 15 = .ok (.dup, 1) := by decide +kernel
theorem dX12_back_16 : decode cX12_back 16 = .ok (.getfield 166, 3) := by decide +kernel
theorem dX12_back_19 : decode cX12_back 19 = .ok (.iload_n 1, 1) := by decide +kernel
theorem dX12_back_20 : decode cX12_back 20 = .ok (.isub, 1) := by decide +kernel
theorem dX12_back_21 : decode cX12_back 21 = .ok (.putfield 166, 3) := by decide +kernel
theorem dX12_back_24 : decode cX12_back 24 = .ok (.aload_n 0, 1) := by decide +kernel
theorem dX12_back_25 : decode cX12_back 25 = .ok (.getfield 166, 3) := by decide +kernel
theorem dX12_back_28 : decode cX12_back 28 = .ok (.ireturn, 1) := by decide +kernel
theorem dX12_byteAt_0 : decode cX12_byteAt 0 = .ok (.iload_n 1, 1) := by decide +kernel
theorem dX12_byteAt_1 : decode cX12_byteAt 1 = .ok (.aload_n 0, 1) := by decide +kernel
theorem dX12_byteAt_2 : decode cX12_byteAt 2 = .ok (.getfield 172, 3) := by decide +kernel
theorem dX12_byteAt_5 : decode cX12_byteAt 5 = .ok (.if_icmp .ge 16, 3) := by decide +kernel
theorem dX12_byteAt_8 : decode cX12_byteAt 8 = .ok (.aload_n 0, 1) := by decide +kernel
theorem dX12_byteAt_9 : decode cX12_byteAt 9 = .ok (.getfield 17, 3) := by decide +kernel
theorem dX12_byteAt_12 : decode cX12_byteAt 12 = .ok (.iload_n 1, 1) := by decide +kernel
theorem dX12_byteAt_13 : decode cX12_byteAt 13 = .ok (.baload, 1) := by decide +kernel
theorem dX12_byteAt_14 : decode cX12_byteAt 14 = .ok (.sipush 255, 3) := by decide +kernel
theorem dX12_byteAt_17 : decode cX12_byteAt 17 = .ok (.iand, 1) := by decide +kernel
theorem dX12_byteAt_18 : decode cX12_byteAt 18 = .ok (.goto 4, 3) := by decide +kernel
theorem dX12_byteAt_21 : decode cX12_byteAt 21 = .ok (.iconst 0, 1) := by decide +kernel
theorem dX12_byteAt_22 : decode cX12_byteAt 22 = .ok (.ireturn, 1) := by decide +kernel
theorem dX12_isDigit_0 : decode cX12_isDigit 0 = .ok (.iload_n 0, 1) := by decide +kernel
theorem dX12_isDigit_1 : decode cX12_isDigit 1 = .ok (.bipush 48, 2) := by decide +kernel
theorem dX12_isDigit_3 : decode cX12_isDigit 3 = .ok (.if_icmp .lt 13, 3) := by decide +kernel
theorem dX12_isDigit_6 : decode cX12_isDigit 6 = .ok (.iload_n 0, 1) := by decide +kernel
theorem dX12_isDigit_7 : decode cX12_isDigit 7 = .ok (.bipush 57, 2) := by decide +kernel
theorem dX12_isDigit_9 : decode cX12_isDigit 9 = .ok (.if_icmp .gt 7, 3) := by decide +kernel
theorem dX12_isDigit_12 : decode cX12_isDigit 12 = .ok (.iconst 1, 1) := by decide +kernel
theorem dX12_isDigit_13 : decode cX12_isDigit 13 = .ok (.goto 4, 3) := by decide +kernel
theorem dX12_isDigit_16 : decode cX12_isDigit 16 = .ok (.iconst 0, 1) := by decide +kernel
theorem dX12_isDigit_17 : decode cX12_isDigit 17 = .ok (.ireturn, 1) := by decide +kernel
theorem dX12_isLetter_0 : decode cX12_isLetter 0 = .ok (.iload_n 0, 1) := by decide +kernel
theorem dX12_isLetter_1 : decode cX12_isLetter 1 = .ok (.bipush 97, 2) := by decide +kernel
theorem dX12_isLetter_3 : decode cX12_isLetter 3 = .ok (.if_icmp .lt 13, 3) := by decide +kernel
theorem dX12_isLetter_6 : decode cX12_isLetter 6 = .ok (.iload_n 0, 1) := by decide +kernel
theorem dX12_isLetter_7 : decode cX12_isLetter 7 = .ok (.bipush 122, 2) := by decide +kernel
theorem dX12_isLetter_9 : decode cX12_isLetter 9 = .ok (.if_icmp .gt 7, 3) := by decide +kernel
theorem dX12_isLetter_12 : decode cX12_isLetter 12 = .ok (.iconst 1, 1) := by decide +kernel
theorem dX12_isLetter_13 : decode cX12_isLetter 13 = .ok (.goto 4, 3) := by decide +kernel
theorem dX12_isLetter_16 : decode cX12_isLetter 16 = .ok (.iconst 0, 1) := by decide +kernel
theorem dX12_isLetter_17 : decode cX12_isLetter 17 = .ok (.ireturn, 1) := by decide +kernel
theorem dX12_appends_0 : decode cX12_appends 0 = .ok (.iload_n 2, 1) := by decide +kernel
theorem dX12_appends_1 : decode cX12_appends 1 = .ok (.ifCond .ne 7, 3) := by decide +kernel
theorem dX12_appends_4 : decode cX12_appends 4 = .ok (.lload_n 0, 1) := by decide +kernel
theorem dX12_appends_5 : decode cX12_appends 5 = .ok (.goto 16, 3) := by decide +kernel
theorem dX12_appends_8 : decode cX12_appends 8 = .ok (.ldc2_w 175, 3) := by decide +kernel
theorem dX12_appends_11 : decode cX12_appends 11 = .ok (.lload_n 0, 1) := by decide +kernel
theorem dX12_appends_12 : decode cX12_appends 12 = .ok (.lmul, 1) := by decide +kernel
theorem dX12_appends_13 : decode cX12_appends 13 = .ok (.iload_n 2, 1) := by decide +kernel
theorem dX12_appends_14 : decode cX12_appends 14 = .ok (.bipush 97, 2) := by decide +kernel
theorem dX12_appends_16 : decode cX12_appends 16 = .ok (.isub, 1) := by decide +kernel
theorem dX12_appends_17 : decode cX12_appends 17 = .ok (.iconst 1, 1) := by decide +kernel
theorem dX12_appends_18 : decode cX12_appends 18 = .ok (.iadd, 1) := by decide +kernel
theorem dX12_appends_19 : decode cX12_appends 19 = .ok (.i2l, 1) := by decide +kernel
theorem dX12_appends_20 : decode cX12_appends 20 = .ok (.ladd, 1) := by decide +kernel
theorem dX12_appends_21 : decode cX12_appends 21 = .ok (.lreturn, 1) := by decide +kernel
theorem dX12_word_0 : decode cX12_word 0 = .ok (.lconst 0, 1) := by decide +kernel
theorem dX12_word_1 : decode cX12_word 1 = .ok (.iload_n 0, 1) := by decide +kernel
theorem dX12_word_2 : decode cX12_word 2 = .ok (.invokestatic 177, 3) := by decide +kernel
theorem dX12_word_5 : decode cX12_word 5 = .ok (.iload_n 1, 1) := by decide +kernel
theorem dX12_word_6 : decode cX12_word 6 = .ok (.invokestatic 177, 3) := by decide +kernel
theorem dX12_word_9 : decode cX12_word 9 = .ok (.iload_n 2, 1) := by decide +kernel
theorem dX12_word_10 : decode cX12_word 10 = .ok (.invokestatic 177, 3) := by decide +kernel
theorem dX12_word_13 : decode cX12_word 13 = .ok (.iload_n 3, 1) := by decide +kernel
theorem dX12_word_14 : decode cX12_word 14 = .ok (.invokestatic 177, 3) := by decide +kernel
theorem dX12_word_17 : decode cX12_word 17 = .ok (.iload 4, 2) := by decide +kernel
theorem dX12_word_19 : decode cX12_word 19 = .ok (.invokestatic 177, 3) := by decide +kernel
theorem dX12_word_22 : decode cX12_word 22 = .ok (.iload 5, 2) := by decide +kernel
theorem dX12_word_24 : decode cX12_word 24 = .ok (.invokestatic 177, 3) := by decide +kernel
theorem dX12_word_27 : decode cX12_word 27 = .ok (.iload 6, 2) := by decide +kernel
theorem dX12_word_29 : decode cX12_word 29 = .ok (.invokestatic 177, 3) := by decide +kernel
theorem dX12_word_32 : decode cX12_word 32 = .ok (.lreturn, 1) := by decide +kernel
theorem dX12_token_0 : decode cX12_token 0 = .ok (.aload_n 0, 1) := by decide +kernel
theorem dX12_token_1 : decode cX12_token 1 = .ok (.getfield 20, 3) := by decide +kernel
theorem dX12_token_4 : decode cX12_token 4 = .ok (.aload_n 0, 1) := by decide +kernel
theorem dX12_token_5 : decode cX12_token 5 = .ok (.getfield 181, 3) := by decide +kernel
theorem dX12_token_8 : decode cX12_token 8 = .ok (.iload_n 1, 1) := by decide +kernel
theorem dX12_token_9 : decode cX12_token 9 = .ok (.iastore, 1) := by decide +kernel
theorem dX12_token_10 : decode cX12_token 10 = .ok (.aload_n 0, 1) := by decide +kernel
theorem dX12_token_11 : decode cX12_token 11 = .ok (.getfield 24, 3) := by decide +kernel
theorem dX12_token_14 : decode cX12_token 14 = .ok (.aload_n 0, 1) := by decide +kernel
theorem dX12_token_15 : decode cX12_token 15 = .ok (.getfield 181, 3) := by decide +kernel
theorem dX12_token_18 : decode cX12_token 18 = .ok (.iload_n 2, 1) := by decide +kernel
theorem dX12_token_19 : decode cX12_token 19 = .ok (.iastore, 1) := by decide +kernel
theorem dX12_token_20 : decode cX12_token 20 = .ok (.aload_n 0, 1) := by decide +kernel
theorem dX12_token_21 : decode cX12_token 21 = .ok (.getfield 27, 3) := by decide +kernel
theorem dX12_token_24 : decode cX12_token 24 = .ok (.aload_n 0, 1) := by decide +kernel
theorem dX12_token_25 : decode cX12_token 25 = .ok (.getfield 181, 3) := by decide +kernel
theorem dX12_token_28 : decode cX12_token 28 = .ok (.iload_n 3, 1) := by decide +kernel
theorem dX12_token_29 : decode cX12_token 29 = .ok (.iastore, 1) := by decide +kernel
theorem dX12_token_30 : decode cX12_token 30 = .ok (.aload_n 0, 1) := by decide +kernel
theorem dX12_token_31 : decode cX12_token 31 = .ok (.getfield 30, 3) := by decide +kernel
theorem dX12_token_34 : decode cX12_token 34 = .ok (.aload_n 0, 1) := by decide +kernel
theorem dX12_token_35 : decode cX12_token 35 = .ok (.getfield 181, 3) := by decide +kernel
theorem dX12_token_38 : decode cX12_token 38 = .ok (.lload 4, 2) := by decide +kernel
theorem dX12_token_40 : decode cX12_token 40 = .ok (.lastore, 1) := by decide +kernel
theorem dX12_token_41 : decode cX12_token 41 = .ok (.aload_n 0, 1) := by decide +kernel
theorem dX12_token_42 : decode cX12_token 42 = .ok (.dup, 1) := by decide +kernel
theorem dX12_token_43 : decode cX12_token 43 = .ok (.getfield 181, 3) := by decide +kernel
theorem dX12_token_46 : decode cX12_token 46 = .ok (.iconst 1, 1) := by decide +kernel
theorem dX12_token_47 : decode cX12_token 47 = .ok (.iadd, 1) := by decide +kernel
theorem dX12_token_48 : decode cX12_token 48 = .ok (.putfield 181, 3) := by decide +kernel
theorem dX12_token_51 : decode cX12_token 51 = .ok (.return_, 1) := by decide +kernel
theorem dX12_sign_0 : decode cX12_sign 0 = .ok (.iload_n 2, 1) := by decide +kernel
theorem dX12_sign_1 : decode cX12_sign 1 = .ok (.bipush 59, 2) := by decide +kernel
theorem dX12_sign_3 : decode cX12_sign 3 = .ok (.if_icmp .ne 7, 3) := by decide +kernel
theorem dX12_sign_6 : decode cX12_sign 6 = .ok (.iconst 4, 1) := by decide +kernel
theorem dX12_sign_7 : decode cX12_sign 7 = .ok (.goto 36, 3) := by decide +kernel
theorem dX12_sign_10 : decode cX12_sign 10 = .ok (.iload_n 2, 1) := by decide +kernel
theorem dX12_sign_11 : decode cX12_sign 11 = .ok (.bipush 61, 2) := by decide +kernel
theorem dX12_sign_13 : decode cX12_sign 13 = .ok (.if_icmp .ne 7, 3) := by decide +kernel
theorem dX12_sign_16 : decode cX12_sign 16 = .ok (.iconst 5, 1) := by decide +kernel
theorem dX12_sign_17 : decode cX12_sign 17 = .ok (.goto 26, 3) := by decide +kernel
theorem dX12_sign_20 : decode cX12_sign 20 = .ok (.iload_n 2, 1) := by decide +kernel
theorem dX12_sign_21 : decode cX12_sign 21 = .ok (.bipush 40, 2) := by decide +kernel
theorem dX12_sign_23 : decode cX12_sign 23 = .ok (.if_icmp .ne 8, 3) := by decide +kernel
theorem dX12_sign_26 : decode cX12_sign 26 = .ok (.bipush 6, 2) := by decide +kernel
theorem dX12_sign_28 : decode cX12_sign 28 = .ok (.goto 15, 3) := by decide +kernel
theorem dX12_sign_31 : decode cX12_sign 31 = .ok (.iload_n 2, 1) := by decide +kernel
theorem dX12_sign_32 : decode cX12_sign 32 = .ok (.bipush 41, 2) := by decide +kernel
theorem dX12_sign_34 : decode cX12_sign 34 = .ok (.if_icmp .ne 8, 3) := by decide +kernel
theorem dX12_sign_37 : decode cX12_sign 37 = .ok (.bipush 7, 2) := by decide +kernel
theorem dX12_sign_39 : decode cX12_sign 39 = .ok (.goto 4, 3) := by decide +kernel
theorem dX12_sign_42 : decode cX12_sign 42 = .ok (.iconst 3, 1) := by decide +kernel
theorem dX12_sign_43 : decode cX12_sign 43 = .ok (.istore 4, 2) := by decide +kernel
theorem dX12_sign_45 : decode cX12_sign 45 = .ok (.iload_n 2, 1) := by decide +kernel
theorem dX12_sign_46 : decode cX12_sign 46 = .ok (.bipush 43, 2) := by decide +kernel
theorem dX12_sign_48 : decode cX12_sign 48 = .ok (.if_icmp .ne 7, 3) := by decide +kernel
theorem dX12_sign_51 : decode cX12_sign 51 = .ok (.bipush 8, 2) := by decide +kernel
theorem dX12_sign_53 : decode cX12_sign 53 = .ok (.istore 4, 2) := by decide +kernel
theorem dX12_sign_55 : decode cX12_sign 55 = .ok (.iload_n 2, 1) := by decide +kernel
theorem dX12_sign_56 : decode cX12_sign 56 = .ok (.bipush 45, 2) := by decide +kernel
theorem dX12_sign_58 : decode cX12_sign 58 = .ok (.if_icmp .ne 7, 3) := by decide +kernel
theorem dX12_sign_61 : decode cX12_sign 61 = .ok (.bipush 9, 2) := by decide +kernel
theorem dX12_sign_63 : decode cX12_sign 63 = .ok (.istore 4, 2) := by decide +kernel
theorem dX12_sign_65 : decode cX12_sign 65 = .ok (.iload_n 2, 1) := by decide +kernel
theorem dX12_sign_66 : decode cX12_sign 66 = .ok (.bipush 42, 2) := by decide +kernel
theorem dX12_sign_68 : decode cX12_sign 68 = .ok (.if_icmp .ne 7, 3) := by decide +kernel
theorem dX12_sign_71 : decode cX12_sign 71 = .ok (.bipush 10, 2) := by decide +kernel
theorem dX12_sign_73 : decode cX12_sign 73 = .ok (.istore 4, 2) := by decide +kernel
theorem dX12_sign_75 : decode cX12_sign 75 = .ok (.iload_n 2, 1) := by decide +kernel
theorem dX12_sign_76 : decode cX12_sign 76 = .ok (.bipush 47, 2) := by decide +kernel
theorem dX12_sign_78 : decode cX12_sign 78 = .ok (.if_icmp .ne 7, 3) := by decide +kernel
theorem dX12_sign_81 : decode cX12_sign 81 = .ok (.bipush 15, 2) := by decide +kernel
theorem dX12_sign_83 : decode cX12_sign 83 = .ok (.istore 4, 2) := by decide +kernel
theorem dX12_sign_85 : decode cX12_sign 85 = .ok (.iload_n 2, 1) := by decide +kernel
theorem dX12_sign_86 : decode cX12_sign 86 = .ok (.bipush 60, 2) := by decide +kernel
theorem dX12_sign_88 : decode cX12_sign 88 = .ok (.if_icmp .ne 7, 3) := by decide +kernel
theorem dX12_sign_91 : decode cX12_sign 91 = .ok (.bipush 13, 2) := by decide +kernel
theorem dX12_sign_93 : decode cX12_sign 93 = .ok (.istore 4, 2) := by decide +kernel
theorem dX12_sign_95 : decode cX12_sign 95 = .ok (.aload_n 0, 1) := by decide +kernel
theorem dX12_sign_96 : decode cX12_sign 96 = .ok (.iload 4, 2) := by decide +kernel
theorem dX12_sign_98 : decode cX12_sign 98 = .ok (.iload_n 1, 1) := by decide +kernel
theorem dX12_sign_99 : decode cX12_sign 99 = .ok (.iconst 0, 1) := by decide +kernel
theorem dX12_sign_100 : decode cX12_sign 100 = .ok (.lconst 0, 1) := by decide +kernel
theorem dX12_sign_101 : decode cX12_sign 101 = .ok (.invokevirtual 188, 3) := by decide +kernel
theorem dX12_sign_104 : decode cX12_sign 104 = .ok (.iconst 1, 1) := by decide +kernel
theorem dX12_sign_105 : decode cX12_sign 105 = .ok (.ireturn, 1) := by decide +kernel
theorem dX12_cut_0 : decode cX12_cut 0 = .ok (.aload_n 0, 1) := by decide +kernel
theorem dX12_cut_1 : decode cX12_cut 1 = .ok (.iconst 0, 1) := by decide +kernel
theorem dX12_cut_2 : decode cX12_cut 2 = .ok (.putfield 181, 3) := by decide +kernel
theorem dX12_cut_5 : decode cX12_cut 5 = .ok (.iconst 0, 1) := by decide +kernel
theorem dX12_cut_6 : decode cX12_cut 6 = .ok (.istore_n 1, 1) := by decide +kernel
theorem dX12_cut_7 : decode cX12_cut 7 = .ok (.aload_n 0, 1) := by decide +kernel
theorem dX12_cut_8 : decode cX12_cut 8 = .ok (.getfield 181, 3) := by decide +kernel
theorem dX12_cut_11 : decode cX12_cut 11 = .ok (.sipush 400, 3) := by decide +kernel
theorem dX12_cut_14 : decode cX12_cut 14 = .ok (.if_icmp .gt 280, 3) := by decide +kernel
theorem dX12_cut_17 : decode cX12_cut 17 = .ok (.aload_n 0, 1) := by decide +kernel
theorem dX12_cut_18 : decode cX12_cut 18 = .ok (.iload_n 1, 1) := by decide +kernel
theorem dX12_cut_19 : decode cX12_cut 19 = .ok (.invokevirtual 184, 3) := by decide +kernel
theorem dX12_cut_22 : decode cX12_cut 22 = .ok (.istore_n 2, 1) := by decide +kernel
theorem dX12_cut_23 : decode cX12_cut 23 = .ok (.iload_n 1, 1) := by decide +kernel
theorem dX12_cut_24 : decode cX12_cut 24 = .ok (.aload_n 0, 1) := by decide +kernel
theorem dX12_cut_25 : decode cX12_cut 25 = .ok (.getfield 172, 3) := by decide +kernel
theorem dX12_cut_28 : decode cX12_cut 28 = .ok (.if_icmp .lt 15, 3) := by decide +kernel
theorem dX12_cut_31 : decode cX12_cut 31 = .ok (.aload_n 0, 1) := by decide +kernel
theorem dX12_cut_32 : decode cX12_cut 32 = .ok (.iconst 0, 1) := by decide +kernel
theorem dX12_cut_33 : decode cX12_cut 33 = .ok (.aload_n 0, 1) := by decide +kernel
theorem dX12_cut_34 : decode cX12_cut 34 = .ok (.getfield 172, 3) := by decide +kernel
theorem dX12_cut_37 : decode cX12_cut 37 = .ok (.iconst 0, 1) := by decide +kernel
theorem dX12_cut_38 : decode cX12_cut 38 = .ok (.lconst 0, 1) := by decide +kernel
theorem dX12_cut_39 : decode cX12_cut 39 = .ok (.invokevirtual 188, 3) := by decide +kernel
theorem dX12_cut_42 : decode cX12_cut 42 = .ok (.return_, 1) := by decide +kernel
theorem dX12_cut_43 : decode cX12_cut 43 = .ok (.iload_n 2, 1) := by decide +kernel
theorem dX12_cut_44 : decode cX12_cut 44 = .ok (.bipush 9, 2) := by decide +kernel
theorem dX12_cut_46 : decode cX12_cut 46 = .ok (.if_icmp .eq 21, 3) := by decide +kernel
theorem dX12_cut_49 : decode cX12_cut 49 = .ok (.iload_n 2, 1) := by decide +kernel
theorem dX12_cut_50 : decode cX12_cut 50 = .ok (.bipush 10, 2) := by decide +kernel
theorem dX12_cut_52 : decode cX12_cut 52 = .ok (.if_icmp .eq 15, 3) := by decide +kernel
theorem dX12_cut_55 : decode cX12_cut 55 = .ok (.iload_n 2, 1) := by decide +kernel
theorem dX12_cut_56 : decode cX12_cut 56 = .ok (.bipush 13, 2) := by decide +kernel
theorem dX12_cut_58 : decode cX12_cut 58 = .ok (.if_icmp .eq 9, 3) := by decide +kernel
theorem dX12_cut_61 : decode cX12_cut 61 = .ok (.iload_n 2, 1) := by decide +kernel
theorem dX12_cut_62 : decode cX12_cut 62 = .ok (.bipush 32, 2) := by decide +kernel
theorem dX12_cut_64 : decode cX12_cut 64 = .ok (.if_icmp .ne 9, 3) := by decide +kernel
theorem dX12_cut_67 : decode cX12_cut 67 = .ok (.iinc 1 1, 3) := by decide +kernel
theorem dX12_cut_70 : decode cX12_cut 70 = .ok (.goto 221, 3) := by decide +kernel
theorem dX12_cut_73 : decode cX12_cut 73 = .ok (.iload_n 2, 1) := by decide +kernel
theorem dX12_cut_74 : decode cX12_cut 74 = .ok (.invokestatic 192, 3) := by decide +kernel
theorem dX12_cut_77 : decode cX12_cut 77 = .ok (.ifCond .eq 119, 3) := by decide +kernel
theorem dX12_cut_80 : decode cX12_cut 80 = .ok (.iconst 0, 1) := by decide +kernel
theorem dX12_cut_81 : decode cX12_cut 81 = .ok (.istore_n 3, 1) := by decide +kernel
theorem dX12_cut_82 : decode cX12_cut 82 = .ok (.lconst 0, 1) := by decide +kernel
theorem dX12_cut_83 : decode cX12_cut 83 = .ok (.lstore 4, 2) := by decide +kernel
theorem dX12_cut_85 : decode cX12_cut 85 = .ok (.aload_n 0, 1) := by decide +kernel
theorem dX12_cut_86 : decode cX12_cut 86 = .ok (.iload_n 1, 1) := by decide +kernel
theorem dX12_cut_87 : decode cX12_cut 87 = .ok (.iload_n 3, 1) := by decide +kernel
theorem dX12_cut_88 : decode cX12_cut 88 = .ok (.iadd, 1) := by decide +kernel
theorem dX12_cut_89 : decode cX12_cut 89 = .ok (.invokevirtual 184, 3) := by decide +kernel
theorem dX12_cut_92 : decode cX12_cut 92 = .ok (.invokestatic 192, 3) := by decide +kernel
theorem dX12_cut_95 : decode cX12_cut 95 = .ok (.ifCond .eq 29, 3) := by decide +kernel
theorem dX12_cut_98 : decode cX12_cut 98 = .ok (.iload_n 3, 1) := by decide +kernel
theorem dX12_cut_99 : decode cX12_cut 99 = .ok (.bipush 8, 2) := by decide +kernel
theorem dX12_cut_101 : decode cX12_cut 101 = .ok (.if_icmp .ge 17, 3) := by decide +kernel
theorem dX12_cut_104 : decode cX12_cut 104 = .ok (.lload 4, 2) := by decide +kernel
theorem dX12_cut_106 : decode cX12_cut 106 = .ok (.aload_n 0, 1) := by decide +kernel
theorem dX12_cut_107 : decode cX12_cut 107 = .ok (.iload_n 1, 1) := by decide +kernel
theorem dX12_cut_108 : decode cX12_cut 108 = .ok (.iload_n 3, 1) := by decide +kernel
theorem dX12_cut_109 : decode cX12_cut 109 = .ok (.iadd, 1) := by decide +kernel
theorem dX12_cut_110 : decode cX12_cut 110 = .ok (.invokevirtual 184, 3) := by decide +kernel
theorem dX12_cut_113 : decode cX12_cut 113 = .ok (.invokestatic 177, 3) := by decide +kernel
theorem dX12_cut_116 : decode cX12_cut 116 = .ok (.lstore 4, 2) := by decide +kernel
theorem dX12_cut_118 : decode cX12_cut 118 = .ok (.iinc 3 1, 3) := by decide +kernel
theorem dX12_cut_121 : decode cX12_cut 121 = .ok (.goto (-36), 3) := by decide +kernel
theorem dX12_cut_124 : decode cX12_cut 124 = .ok (.iload_n 3, 1) := by decide +kernel
theorem dX12_cut_125 : decode cX12_cut 125 = .ok (.bipush 8, 2) := by decide +kernel
theorem dX12_cut_127 : decode cX12_cut 127 = .ok (.if_icmp .le 7, 3) := by decide +kernel
theorem dX12_cut_130 : decode cX12_cut 130 = .ok (.iconst 3, 1) := by decide +kernel
theorem dX12_cut_131 : decode cX12_cut 131 = .ok (.goto 4, 3) := by decide +kernel
theorem dX12_cut_134 : decode cX12_cut 134 = .ok (.iconst 1, 1) := by decide +kernel
theorem dX12_cut_135 : decode cX12_cut 135 = .ok (.istore 6, 2) := by decide +kernel
theorem dX12_cut_137 : decode cX12_cut 137 = .ok (.iload_n 3, 1) := by decide +kernel
theorem dX12_cut_138 : decode cX12_cut 138 = .ok (.bipush 8, 2) := by decide +kernel
theorem dX12_cut_140 : decode cX12_cut 140 = .ok (.if_icmp .gt 39, 3) := by decide +kernel
theorem dX12_cut_143 : decode cX12_cut 143 = .ok (.iconst 0, 1) := by decide +kernel
theorem dX12_cut_144 : decode cX12_cut 144 = .ok (.istore 7, 2) := by decide +kernel
theorem dX12_cut_146 : decode cX12_cut 146 = .ok (.iload 7, 2) := by decide +kernel
theorem dX12_cut_148 : decode cX12_cut 148 = .ok (.bipush 22, 2) := by decide +kernel
theorem dX12_cut_150 : decode cX12_cut 150 = .ok (.if_icmp .ge 29, 3) := by decide +kernel
theorem dX12_cut_153 : decode cX12_cut 153 = .ok (.aload_n 0, 1) := by decide +kernel
theorem dX12_cut_154 : decode cX12_cut 154 = .ok (.getfield 34, 3) := by decide +kernel
theorem dX12_cut_157 : decode cX12_cut 157 = .ok (.iload 7, 2) := by decide +kernel
theorem dX12_cut_159 : decode cX12_cut 159 = .ok (.laload, 1) := by decide +kernel
theorem dX12_cut_160 : decode cX12_cut 160 = .ok (.lload 4, 2) := by decide +kernel
theorem dX12_cut_162 : decode cX12_cut 162 = .ok (.lcmp, 1) := by decide +kernel
theorem dX12_cut_163 : decode cX12_cut 163 = .ok (.ifCond .ne 10, 3) := by decide +kernel
theorem dX12_cut_166 : decode cX12_cut 166 = .ok (.bipush 20, 2) := by decide +kernel
theorem dX12_cut_168 : decode cX12_cut 168 = .ok (.iload 7, 2) := by decide +kernel
theorem dX12_cut_170 : decode cX12_cut 170 = .ok (.iadd, 1) := by decide +kernel
theorem dX12_cut_171 : decode cX12_cut 171 = .ok (.istore 6, 2) := by decide +kernel
theorem dX12_cut_173 : decode cX12_cut 173 = .ok (.iinc 7 1, 3) := by decide +kernel
theorem dX12_cut_176 : decode cX12_cut 176 = .ok (.goto (-30), 3) := by decide +kernel
theorem dX12_cut_179 : decode cX12_cut 179 = .ok (.aload_n 0, 1) := by decide +kernel
theorem dX12_cut_180 : decode cX12_cut 180 = .ok (.iload 6, 2) := by decide +kernel
theorem dX12_cut_182 : decode cX12_cut 182 = .ok (.iload_n 1, 1) := by decide +kernel
theorem dX12_cut_183 : decode cX12_cut 183 = .ok (.iconst 0, 1) := by decide +kernel
theorem dX12_cut_184 : decode cX12_cut 184 = .ok (.lload 4, 2) := by decide +kernel
theorem dX12_cut_186 : decode cX12_cut 186 = .ok (.invokevirtual 188, 3) := by decide +kernel
theorem dX12_cut_189 : decode cX12_cut 189 = .ok (.iload_n 1, 1) := by decide +kernel
theorem dX12_cut_190 : decode cX12_cut 190 = .ok (.iload_n 3, 1) := by decide +kernel
theorem dX12_cut_191 : decode cX12_cut 191 = .ok (.iadd, 1) := by decide +kernel
theorem dX12_cut_192 : decode cX12_cut 192 = .ok (.istore_n 1, 1) := by decide +kernel
theorem dX12_cut_193 : decode cX12_cut 193 = .ok (.goto 98, 3) := by decide +kernel
theorem dX12_cut_196 : decode cX12_cut 196 = .ok (.iload_n 2, 1) := by decide +kernel
theorem dX12_cut_197 : decode cX12_cut 197 = .ok (.invokestatic 196, 3) := by decide +kernel
theorem dX12_cut_200 : decode cX12_cut 200 = .ok (.ifCond .eq 75, 3) := by decide +kernel
theorem dX12_cut_203 : decode cX12_cut 203 = .ok (.iconst 0, 1) := by decide +kernel
theorem dX12_cut_204 : decode cX12_cut 204 = .ok (.istore_n 3, 1) := by decide +kernel
theorem dX12_cut_205 : decode cX12_cut 205 = .ok (.iconst 0, 1) := by decide +kernel
theorem dX12_cut_206 : decode cX12_cut 206 = .ok (.istore 4, 2) := by decide +kernel
theorem dX12_cut_208 : decode cX12_cut 208 = .ok (.aload_n 0, 1) := by decide +kernel
theorem dX12_cut_209 : decode cX12_cut 209 = .ok (.iload_n 1, 1) := by decide +kernel
theorem dX12_cut_210 : decode cX12_cut 210 = .ok (.iload_n 3, 1) := by decide +kernel
theorem dX12_cut_211 : decode cX12_cut 211 = .ok (.iadd, 1) := by decide +kernel
theorem dX12_cut_212 : decode cX12_cut 212 = .ok (.invokevirtual 184, 3) := by decide +kernel
theorem dX12_cut_215 : decode cX12_cut 215 = .ok (.invokestatic 196, 3) := by decide +kernel
theorem dX12_cut_218 : decode cX12_cut 218 = .ok (.ifCond .eq 32, 3) := by decide +kernel
theorem dX12_cut_221 : decode cX12_cut 221 = .ok (.iload_n 3, 1) := by decide +kernel
theorem dX12_cut_222 : decode cX12_cut 222 = .ok (.iconst 4, 1) := by decide +kernel
theorem dX12_cut_223 : decode cX12_cut 223 = .ok (.if_icmp .ge 21, 3) := by decide +kernel
theorem dX12_cut_226 : decode cX12_cut 226 = .ok (.bipush 10, 2) := by decide +kernel
theorem dX12_cut_228 : decode cX12_cut 228 = .ok (.iload 4, 2) := by decide +kernel
theorem dX12_cut_230 : decode cX12_cut 230 = .ok (.imul, 1) := by decide +kernel
theorem dX12_cut_231 : decode cX12_cut 231 = .ok (.aload_n 0, 1) := by decide +kernel
theorem dX12_cut_232 : decode cX12_cut 232 = .ok (.iload_n 1, 1) := by decide +kernel
theorem dX12_cut_233 : decode cX12_cut 233 = .ok (.iload_n 3, 1) := by decide +kernel
theorem dX12_cut_234 : decode cX12_cut 234 = .ok (.iadd, 1) := by decide +kernel
theorem dX12_cut_235 : decode cX12_cut 235 = .ok (.invokevirtual 184, 3) := by decide +kernel
theorem dX12_cut_238 : decode cX12_cut 238 = .ok (.iadd, 1) := by decide +kernel
theorem dX12_cut_239 : decode cX12_cut 239 = .ok (.bipush 48, 2) := by decide +kernel
theorem dX12_cut_241 : decode cX12_cut 241 = .ok (.isub, 1) := by decide +kernel
theorem dX12_cut_242 : decode cX12_cut 242 = .ok (.istore 4, 2) := by decide +kernel
theorem dX12_cut_244 : decode cX12_cut 244 = .ok (.iinc 3 1, 3) := by decide +kernel
theorem dX12_cut_247 : decode cX12_cut 247 = .ok (.goto (-39), 3) := by decide +kernel
theorem dX12_cut_250 : decode cX12_cut 250 = .ok (.aload_n 0, 1) := by decide +kernel
theorem dX12_cut_251 : decode cX12_cut 251 = .ok (.iload_n 3, 1) := by decide +kernel
theorem dX12_cut_252 : decode cX12_cut 252 = .ok (.iconst 4, 1) := by decide +kernel
theorem dX12_cut_253 : decode cX12_cut 253 = .ok (.if_icmp .le 7, 3) := by decide +kernel
theorem dX12_cut_256 : decode cX12_cut 256 = .ok (.iconst 3, 1) := by decide +kernel
theorem dX12_cut_257 : decode cX12_cut 257 = .ok (.goto 4, 3) := by decide +kernel
theorem dX12_cut_260 : decode cX12_cut 260 = .ok (.iconst 2, 1) := by decide +kernel
theorem dX12_cut_261 : decode cX12_cut 261 = .ok (.iload_n 1, 1) := by decide +kernel
theorem dX12_cut_262 : decode cX12_cut 262 = .ok (.iload 4, 2) := by decide +kernel
theorem dX12_cut_264 : decode cX12_cut 264 = .ok (.lconst 0, 1) := by decide +kernel
theorem dX12_cut_265 : decode cX12_cut 265 = .ok (.invokevirtual 188, 3) := by decide +kernel
theorem dX12_cut_268 : decode cX12_cut 268 = .ok (.iload_n 1, 1) := by decide +kernel
theorem dX12_cut_269 : decode cX12_cut 269 = .ok (.iload_n 3, 1) := by decide +kernel
theorem dX12_cut_270 : decode cX12_cut 270 = .ok (.iadd, 1) := by decide +kernel
theorem dX12_cut_271 : decode cX12_cut 271 = .ok (.istore_n 1, 1) := by decide +kernel
theorem dX12_cut_272 : decode cX12_cut 272 = .ok (.goto 19, 3) := by decide +kernel
theorem dX12_cut_275 : decode cX12_cut 275 = .ok (.iload_n 1, 1) := by decide +kernel
theorem dX12_cut_276 : decode cX12_cut 276 = .ok (.aload_n 0, 1) := by decide +kernel
theorem dX12_cut_277 : decode cX12_cut 277 = .ok (.iload_n 1, 1) := by decide +kernel
theorem dX12_cut_278 : decode cX12_cut 278 = .ok (.iload_n 2, 1) := by decide +kernel
theorem dX12_cut_279 : decode cX12_cut 279 = .ok (.aload_n 0, 1) := by decide +kernel
theorem dX12_cut_280 : decode cX12_cut 280 = .ok (.iload_n 1, 1) := by decide +kernel
theorem dX12_cut_281 : decode cX12_cut 281 = .ok (.iconst 1, 1) := by decide +kernel
theorem dX12_cut_282 : decode cX12_cut 282 = .ok (.iadd, 1) := by decide +kernel
theorem dX12_cut_283 : decode cX12_cut 283 = .ok (.invokevirtual 184, 3) := by decide +kernel
theorem dX12_cut_286 : decode cX12_cut 286 = .ok (.invokevirtual 199, 3) := by decide +kernel
theorem dX12_cut_289 : decode cX12_cut 289 = .ok (.iadd, 1) := by decide +kernel
theorem dX12_cut_290 : decode cX12_cut 290 = .ok (.istore_n 1, 1) := by decide +kernel
theorem dX12_cut_291 : decode cX12_cut 291 = .ok (.goto (-284), 3) := by decide +kernel
theorem dX12_cut_294 : decode cX12_cut 294 = .ok (.return_, 1) := by decide +kernel
theorem dX12_is_0 : decode cX12_is 0 = .ok (.aload_n 0, 1) := by decide +kernel
theorem dX12_is_1 : decode cX12_is 1 = .ok (.getfield 203, 3) := by decide +kernel
theorem dX12_is_4 : decode cX12_is 4 = .ok (.ifCond .ne 20, 3) := by decide +kernel
theorem dX12_is_7 : decode cX12_is 7 = .ok (.aload_n 0, 1) := by decide +kernel
theorem dX12_is_8 : decode cX12_is 8 = .ok (.getfield 20, 3) := by decide +kernel
theorem dX12_is_11 : decode cX12_is 11 = .ok (.aload_n 0, 1) := by decide +kernel
theorem dX12_is_12 : decode cX12_is 12 = .ok (.getfield 206, 3) := by decide +kernel
theorem dX12_is_15 : decode cX12_is 15 = .ok (.iaload, 1) := by decide +kernel
theorem dX12_is_16 : decode cX12_is 16 = .ok (.iload_n 1, 1) := by decide +kernel
theorem dX12_is_17 : decode cX12_is 17 = .ok (.if_icmp .ne 7, 3) := by decide +kernel
theorem dX12_is_20 : decode cX12_is 20 = .ok (.iconst 1, 1) := by decide +kernel
theorem dX12_is_21 : decode cX12_is 21 = .ok (.goto 4, 3) := by decide +kernel
theorem dX12_is_24 : decode cX12_is 24 = .ok (.iconst 0, 1) := by decide +kernel
theorem dX12_is_25 : decode cX12_is 25 = .ok (.ireturn, 1) := by decide +kernel
theorem dX12_fail_0 : decode cX12_fail 0 = .ok (.aload_n 0, 1) := by decide +kernel
theorem dX12_fail_1 : decode cX12_fail 1 = .ok (.getfield 203, 3) := by decide +kernel
theorem dX12_fail_4 : decode cX12_fail 4 = .ok (.ifCond .le 4, 3) := by decide +kernel
theorem dX12_fail_7 : decode cX12_fail 7 = .ok (.return_, 1) := by decide +kernel
theorem dX12_fail_8 : decode cX12_fail 8 = .ok (.aload_n 0, 1) := by decide +kernel
theorem dX12_fail_9 : decode cX12_fail 9 = .ok (.iload_n 1, 1) := by decide +kernel
theorem dX12_fail_10 : decode cX12_fail 10 = .ok (.putfield 203, 3) := by decide +kernel
theorem dX12_fail_13 : decode cX12_fail 13 = .ok (.aload_n 0, 1) := by decide +kernel
theorem dX12_fail_14 : decode cX12_fail 14 = .ok (.aload_n 0, 1) := by decide +kernel
theorem dX12_fail_15 : decode cX12_fail 15 = .ok (.getfield 24, 3) := by decide +kernel
theorem dX12_fail_18 : decode cX12_fail 18 = .ok (.aload_n 0, 1) := by decide +kernel
theorem dX12_fail_19 : decode cX12_fail 19 = .ok (.getfield 206, 3) := by decide +kernel
theorem dX12_fail_22 : decode cX12_fail 22 = .ok (.iaload, 1) := by decide +kernel
theorem dX12_fail_23 : decode cX12_fail 23 = .ok (.putfield 209, 3) := by decide +kernel
theorem dX12_fail_26 : decode cX12_fail 26 = .ok (.return_, 1) := by decide +kernel
theorem dX12_wrong_0 : decode cX12_wrong 0 = .ok (.aload_n 0, 1) := by decide +kernel
theorem dX12_wrong_1 : decode cX12_wrong 1 = .ok (.getfield 24, 3) := by decide +kernel
theorem dX12_wrong_4 : decode cX12_wrong 4 = .ok (.iload_n 2, 1) := by decide +kernel
theorem dX12_wrong_5 : decode cX12_wrong 5 = .ok (.iaload, 1) := by decide +kernel
theorem dX12_wrong_6 : decode cX12_wrong 6 = .ok (.istore_n 3, 1) := by decide +kernel
theorem dX12_wrong_7 : decode cX12_wrong 7 = .ok (.aload_n 0, 1) := by decide +kernel
theorem dX12_wrong_8 : decode cX12_wrong 8 = .ok (.getfield 203, 3) := by decide +kernel
theorem dX12_wrong_11 : decode cX12_wrong 11 = .ok (.ifCond .gt 34, 3) := by decide +kernel
theorem dX12_wrong_14 : decode cX12_wrong 14 = .ok (.aload_n 0, 1) := by decide +kernel
theorem dX12_wrong_15 : decode cX12_wrong 15 = .ok (.getfield 212, 3) := by decide +kernel
theorem dX12_wrong_18 : decode cX12_wrong 18 = .ok (.ifCond .eq 28, 3) := by decide +kernel
theorem dX12_wrong_21 : decode cX12_wrong 21 = .ok (.iload_n 3, 1) := by decide +kernel
theorem dX12_wrong_22 : decode cX12_wrong 22 = .ok (.aload_n 0, 1) := by decide +kernel
theorem dX12_wrong_23 : decode cX12_wrong 23 = .ok (.getfield 215, 3) := by decide +kernel
theorem dX12_wrong_26 : decode cX12_wrong 26 = .ok (.if_icmp .gt 19, 3) := by decide +kernel
theorem dX12_wrong_29 : decode cX12_wrong 29 = .ok (.iload_n 3, 1) := by decide +kernel
theorem dX12_wrong_30 : decode cX12_wrong 30 = .ok (.aload_n 0, 1) := by decide +kernel
theorem dX12_wrong_31 : decode cX12_wrong 31 = .ok (.getfield 215, 3) := by decide +kernel
theorem dX12_wrong_34 : decode cX12_wrong 34 = .ok (.if_icmp .ne 12, 3) := by decide +kernel
theorem dX12_wrong_37 : decode cX12_wrong 37 = .ok (.iload_n 1, 1) := by decide +kernel
theorem dX12_wrong_38 : decode cX12_wrong 38 = .ok (.aload_n 0, 1) := by decide +kernel
theorem dX12_wrong_39 : decode cX12_wrong 39 = .ok (.getfield 212, 3) := by decide +kernel
theorem dX12_wrong_42 : decode cX12_wrong 42 = .ok (.if_icmp .lt 4, 3) := by decide +kernel
theorem dX12_wrong_45 : decode cX12_wrong 45 = .ok (.return_, 1) := by decide +kernel
theorem dX12_wrong_46 : decode cX12_wrong 46 = .ok (.aload_n 0, 1) := by decide +kernel
theorem dX12_wrong_47 : decode cX12_wrong 47 = .ok (.iload_n 1, 1) := by decide +kernel
theorem dX12_wrong_48 : decode cX12_wrong 48 = .ok (.putfield 212, 3) := by decide +kernel
theorem dX12_wrong_51 : decode cX12_wrong 51 = .ok (.aload_n 0, 1) := by decide +kernel
theorem dX12_wrong_52 : decode cX12_wrong 52 = .ok (.iload_n 3, 1) := by decide +kernel
theorem dX12_wrong_53 : decode cX12_wrong 53 = .ok (.putfield 215, 3) := by decide +kernel
theorem dX12_wrong_56 : decode cX12_wrong 56 = .ok (.return_, 1) := by decide +kernel
theorem dX12_goesOn_0 : decode cX12_goesOn 0 = .ok (.aload_n 0, 1) := by decide +kernel
theorem dX12_goesOn_1 : decode cX12_goesOn 1 = .ok (.getfield 206, 3) := by decide +kernel
theorem dX12_goesOn_4 : decode cX12_goesOn 4 = .ok (.sipush 400, 3) := by decide +kernel
theorem dX12_goesOn_7 : decode cX12_goesOn 7 = .ok (.if_icmp .ne 11, 3) := by decide +kernel
theorem dX12_goesOn_10 : decode cX12_goesOn 10 = .ok (.aload_n 0, 1) := by decide +kernel
theorem dX12_goesOn_11 : decode cX12_goesOn 11 = .ok (.iconst 2, 1) := by decide +kernel
theorem dX12_goesOn_12 : decode cX12_goesOn 12 = .ok (.invokevirtual 218, 3) := by decide +kernel
theorem dX12_goesOn_15 : decode cX12_goesOn 15 = .ok (.goto 13, 3) := by decide +kernel
theorem dX12_goesOn_18 : decode cX12_goesOn 18 = .ok (.aload_n 0, 1) := by decide +kernel
theorem dX12_goesOn_19 : decode cX12_goesOn 19 = .ok (.dup, 1) := by decide +kernel
theorem dX12_goesOn_20 : decode cX12_goesOn 20 = .ok (.getfield 206, 3) := by decide +kernel
theorem dX12_goesOn_23 : decode cX12_goesOn 23 = .ok (.iconst 1, 1) := by decide +kernel
theorem dX12_goesOn_24 : decode cX12_goesOn 24 = .ok (.iadd, 1) := by decide +kernel
theorem dX12_goesOn_25 : decode cX12_goesOn 25 = .ok (.putfield 206, 3) := by decide +kernel
theorem dX12_goesOn_28 : decode cX12_goesOn 28 = .ok (.return_, 1) := by decide +kernel
theorem dX12_must_0 : decode cX12_must 0 = .ok (.aload_n 0, 1) := by decide +kernel
theorem dX12_must_1 : decode cX12_must 1 = .ok (.iload_n 1, 1) := by decide +kernel
theorem dX12_must_2 : decode cX12_must 2 = .ok (.invokevirtual 221, 3) := by decide +kernel
theorem dX12_must_5 : decode cX12_must 5 = .ok (.ifCond .eq 10, 3) := by decide +kernel
theorem dX12_must_8 : decode cX12_must 8 = .ok (.aload_n 0, 1) := by decide +kernel
theorem dX12_must_9 : decode cX12_must 9 = .ok (.invokevirtual 224, 3) := by decide +kernel
theorem dX12_must_12 : decode cX12_must 12 = .ok (.goto 8, 3) := by decide +kernel
theorem dX12_must_15 : decode cX12_must 15 = .ok (.aload_n 0, 1) := by decide +kernel
theorem dX12_must_16 : decode cX12_must 16 = .ok (.iconst 1, 1) := by decide +kernel
theorem dX12_must_17 : decode cX12_must 17 = .ok (.invokevirtual 218, 3) := by decide +kernel
theorem dX12_must_20 : decode cX12_must 20 = .ok (.return_, 1) := by decide +kernel
theorem dX12_plain_0 : decode cX12_plain 0 = .ok (.aload_n 0, 1) := by decide +kernel
theorem dX12_plain_1 : decode cX12_plain 1 = .ok (.getfield 40, 3) := by decide +kernel
theorem dX12_plain_4 : decode cX12_plain 4 = .ok (.iload_n 1, 1) := by decide +kernel
theorem dX12_plain_5 : decode cX12_plain 5 = .ok (.iconst 0, 1) := by decide +kernel
theorem dX12_plain_6 : decode cX12_plain 6 = .ok (.iastore, 1) := by decide +kernel
theorem dX12_plain_7 : decode cX12_plain 7 = .ok (.aload_n 0, 1) := by decide +kernel
theorem dX12_plain_8 : decode cX12_plain 8 = .ok (.getfield 49, 3) := by decide +kernel
theorem dX12_plain_11 : decode cX12_plain 11 = .ok (.iload_n 1, 1) := by decide +kernel
theorem dX12_plain_12 : decode cX12_plain 12 = .ok (.iconst 0, 1) := by decide +kernel
theorem dX12_plain_13 : decode cX12_plain 13 = .ok (.iastore, 1) := by decide +kernel
theorem dX12_plain_14 : decode cX12_plain 14 = .ok (.aload_n 0, 1) := by decide +kernel
theorem dX12_plain_15 : decode cX12_plain 15 = .ok (.getfield 61, 3) := by decide +kernel
theorem dX12_plain_18 : decode cX12_plain 18 = .ok (.iload_n 1, 1) := by decide +kernel
theorem dX12_plain_19 : decode cX12_plain 19 = .ok (.iconst 0, 1) := by decide +kernel
theorem dX12_plain_20 : decode cX12_plain 20 = .ok (.iastore, 1) := by decide +kernel
theorem dX12_plain_21 : decode cX12_plain 21 = .ok (.aload_n 0, 1) := by decide +kernel
theorem dX12_plain_22 : decode cX12_plain 22 = .ok (.getfield 64, 3) := by decide +kernel
theorem dX12_plain_25 : decode cX12_plain 25 = .ok (.iload_n 1, 1) := by decide +kernel
theorem dX12_plain_26 : decode cX12_plain 26 = .ok (.iconst 0, 1) := by decide +kernel
theorem dX12_plain_27 : decode cX12_plain 27 = .ok (.iastore, 1) := by decide +kernel
theorem dX12_plain_28 : decode cX12_plain 28 = .ok (.aload_n 0, 1) := by decide +kernel
theorem dX12_plain_29 : decode cX12_plain 29 = .ok (.getfield 67, 3) := by decide +kernel
theorem dX12_plain_32 : decode cX12_plain 32 = .ok (.iload_n 1, 1) := by decide +kernel
theorem dX12_plain_33 : decode cX12_plain 33 = .ok (.iconst 0, 1) := by decide +kernel
theorem dX12_plain_34 : decode cX12_plain 34 = .ok (.iastore, 1) := by decide +kernel
theorem dX12_plain_35 : decode cX12_plain 35 = .ok (.aload_n 0, 1) := by decide +kernel
theorem dX12_plain_36 : decode cX12_plain 36 = .ok (.getfield 70, 3) := by decide +kernel
theorem dX12_plain_39 : decode cX12_plain 39 = .ok (.iload_n 1, 1) := by decide +kernel
theorem dX12_plain_40 : decode cX12_plain 40 = .ok (.iconst 0, 1) := by decide +kernel
theorem dX12_plain_41 : decode cX12_plain 41 = .ok (.iastore, 1) := by decide +kernel
theorem dX12_plain_42 : decode cX12_plain 42 = .ok (.iconst 0, 1) := by decide +kernel
theorem dX12_plain_43 : decode cX12_plain 43 = .ok (.istore_n 2, 1) := by decide +kernel
theorem dX12_plain_44 : decode cX12_plain 44 = .ok (.iload_n 2, 1) := by decide +kernel
theorem dX12_plain_45 : decode cX12_plain 45 = .ok (.bipush 8, 2) := by decide +kernel
theorem dX12_plain_47 : decode cX12_plain 47 = .ok (.if_icmp .ge 22, 3) := by decide +kernel
theorem dX12_plain_50 : decode cX12_plain 50 = .ok (.aload_n 0, 1) := by decide +kernel
theorem dX12_plain_51 : decode cX12_plain 51 = .ok (.getfield 58, 3) := by decide +kernel
theorem dX12_plain_54 : decode cX12_plain 54 = .ok (.bipush 8, 2) := by decide +kernel
theorem dX12_plain_56 : decode cX12_plain 56 = .ok (.iload_n 1, 1) := by decide +kernel
theorem dX12_plain_57 : decode cX12_plain 57 = .ok (.imul, 1) := by decide +kernel
theorem dX12_plain_58 : decode cX12_plain 58 = .ok (.iload_n 2, 1) := by decide +kernel
theorem dX12_plain_59 : decode cX12_plain 59 = .ok (.iadd, 1) := by decide +kernel
theorem dX12_plain_60 : decode cX12_plain 60 = .ok (.bipush (-2), 2) := by decide +kernel
theorem dX12_plain_62 : decode cX12_plain 62 = .ok (.iastore, 1) := by decide +kernel
theorem dX12_plain_63 : decode cX12_plain 63 = .ok (.iinc 2 1, 3) := by decide +kernel
theorem dX12_plain_66 : decode cX12_plain 66 = .ok (.goto (-22), 3) := by decide +kernel
theorem dX12_plain_69 : decode cX12_plain 69 = .ok (.iconst 0, 1) := by decide +kernel
theorem dX12_plain_70 : decode cX12_plain 70 = .ok (.istore_n 2, 1) := by decide +kernel
theorem dX12_plain_71 : decode cX12_plain 71 = .ok (.iload_n 2, 1) := by decide +kernel
theorem dX12_plain_72 : decode cX12_plain 72 = .ok (.iconst 4, 1) := by decide +kernel
theorem dX12_plain_73 : decode cX12_plain 73 = .ok (.if_icmp .ge 31, 3) := by decide +kernel
theorem dX12_plain_76 : decode cX12_plain 76 = .ok (.aload_n 0, 1) := by decide +kernel
theorem dX12_plain_77 : decode cX12_plain 77 = .ok (.getfield 73, 3) := by decide +kernel
theorem dX12_plain_80 : decode cX12_plain 80 = .ok (.iconst 4, 1) := by decide +kernel
theorem dX12_plain_81 : decode cX12_plain 81 = .ok (.iload_n 1, 1) := by decide +kernel
theorem dX12_plain_82 : decode cX12_plain 82 = .ok (.imul, 1) := by decide +kernel
theorem dX12_plain_83 : decode cX12_plain 83 = .ok (.iload_n 2, 1) := by decide +kernel
theorem dX12_plain_84 : decode cX12_plain 84 = .ok (.iadd, 1) := by decide +kernel
theorem dX12_plain_85 : decode cX12_plain 85 = .ok (.iconst 0, 1) := by decide +kernel
theorem dX12_plain_86 : decode cX12_plain 86 = .ok (.iastore, 1) := by decide +kernel
theorem dX12_plain_87 : decode cX12_plain 87 = .ok (.aload_n 0, 1) := by decide +kernel
theorem dX12_plain_88 : decode cX12_plain 88 = .ok (.getfield 76, 3) := by decide +kernel
theorem dX12_plain_91 : decode cX12_plain 91 = .ok (.iconst 4, 1) := by decide +kernel
theorem dX12_plain_92 : decode cX12_plain 92 = .ok (.iload_n 1, 1) := by decide +kernel
theorem dX12_plain_93 : decode cX12_plain 93 = .ok (.imul, 1) := by decide +kernel
theorem dX12_plain_94 : decode cX12_plain 94 = .ok (.iload_n 2, 1) := by decide +kernel
theorem dX12_plain_95 : decode cX12_plain 95 = .ok (.iadd, 1) := by decide +kernel
theorem dX12_plain_96 : decode cX12_plain 96 = .ok (.iconst 0, 1) := by decide +kernel
theorem dX12_plain_97 : decode cX12_plain 97 = .ok (.iastore, 1) := by decide +kernel
theorem dX12_plain_98 : decode cX12_plain 98 = .ok (.iinc 2 1, 3) := by decide +kernel
theorem dX12_plain_101 : decode cX12_plain 101 = .ok (.goto (-30), 3) := by decide +kernel
theorem dX12_plain_104 : decode cX12_plain 104 = .ok (.return_, 1) := by decide +kernel
theorem fl_X12_13 : fl RX12 13 12 1 := ⟨RX12, TX12, 64, rfl, iw_X12, by decide, lg_at 1195 (by decide +kernel) (by decide +kernel), rfl⟩
theorem fl_X12_17 : fl RX12 17 12 3 := ⟨RX12, TX12, 64, rfl, iw_X12, by decide, lg_at 1197 (by decide +kernel) (by decide +kernel), rfl⟩
theorem fl_X12_20 : fl RX12 20 12 5 := ⟨RX12, TX12, 64, rfl, iw_X12, by decide, lg_at 1199 (by decide +kernel) (by decide +kernel), rfl⟩
theorem fl_X12_24 : fl RX12 24 12 6 := ⟨RX12, TX12, 64, rfl, iw_X12, by decide, lg_at 1200 (by decide +kernel) (by decide +kernel), rfl⟩
theorem fl_X12_27 : fl RX12 27 12 7 := ⟨RX12, TX12, 64, rfl, iw_X12, by decide, lg_at 1201 (by decide +kernel) (by decide +kernel), rfl⟩
theorem fl_X12_30 : fl RX12 30 12 8 := ⟨RX12, TX12, 64, rfl, iw_X12, by decide, lg_at 1202 (by decide +kernel) (by decide +kernel), rfl⟩
theorem fl_X12_34 : fl RX12 34 12 9 := ⟨RX12, TX12, 64, rfl, iw_X12, by decide, lg_at 1203 (by decide +kernel) (by decide +kernel), rfl⟩
theorem fl_X12_40 : fl RX12 40 12 20 := ⟨RX12, TX12, 64, rfl, iw_X12, by decide, lg_at 1214 (by decide +kernel) (by decide +kernel), rfl⟩
theorem fl_X12_49 : fl RX12 49 12 23 := ⟨RX12, TX12, 64, rfl, iw_X12, by decide, lg_at 1217 (by decide +kernel) (by decide +kernel), rfl⟩
theorem fl_X12_58 : fl RX12 58 12 26 := ⟨RX12, TX12, 64, rfl, iw_X12, by decide, lg_at 1220 (by decide +kernel) (by decide +kernel), rfl⟩
theorem fl_X12_61 : fl RX12 61 12 27 := ⟨RX12, TX12, 64, rfl, iw_X12, by decide, lg_at 1221 (by decide +kernel) (by decide +kernel), rfl⟩
theorem fl_X12_64 : fl RX12 64 12 28 := ⟨RX12, TX12, 64, rfl, iw_X12, by decide, lg_at 1222 (by decide +kernel) (by decide +kernel), rfl⟩
theorem fl_X12_67 : fl RX12 67 12 29 := ⟨RX12, TX12, 64, rfl, iw_X12, by decide, lg_at 1223 (by decide +kernel) (by decide +kernel), rfl⟩
theorem fl_X12_70 : fl RX12 70 12 30 := ⟨RX12, TX12, 64, rfl, iw_X12, by decide, lg_at 1224 (by decide +kernel) (by decide +kernel), rfl⟩
theorem fl_X12_73 : fl RX12 73 12 31 := ⟨RX12, TX12, 64, rfl, iw_X12, by decide, lg_at 1225 (by decide +kernel) (by decide +kernel), rfl⟩
theorem fl_X12_76 : fl RX12 76 12 32 := ⟨RX12, TX12, 64, rfl, iw_X12, by decide, lg_at 1226 (by decide +kernel) (by decide +kernel), rfl⟩
theorem fl_X12_166 : fl RX12 166 12 2 := ⟨RX12, TX12, 64, rfl, iw_X12, by decide, lg_at 1196 (by decide +kernel) (by decide +kernel), rfl⟩
theorem fl_X12_172 : fl RX12 172 12 4 := ⟨RX12, TX12, 64, rfl, iw_X12, by decide, lg_at 1198 (by decide +kernel) (by decide +kernel), rfl⟩
theorem fl_X12_181 : fl RX12 181 12 10 := ⟨RX12, TX12, 64, rfl, iw_X12, by decide, lg_at 1204 (by decide +kernel) (by decide +kernel), rfl⟩
theorem fl_X12_203 : fl RX12 203 12 13 := ⟨RX12, TX12, 64, rfl, iw_X12, by decide, lg_at 1207 (by decide +kernel) (by decide +kernel), rfl⟩
theorem fl_X12_206 : fl RX12 206 12 11 := ⟨RX12, TX12, 64, rfl, iw_X12, by decide, lg_at 1205 (by decide +kernel) (by decide +kernel), rfl⟩
theorem fl_X12_212 : fl RX12 212 12 15 := ⟨RX12, TX12, 64, rfl, iw_X12, by decide, lg_at 1209 (by decide +kernel) (by decide +kernel), rfl⟩
theorem fl_X12_215 : fl RX12 215 12 16 := ⟨RX12, TX12, 64, rfl, iw_X12, by decide, lg_at 1210 (by decide +kernel) (by decide +kernel), rfl⟩
theorem fp_X12_166 : fp RX12 166 12 2 .int := ⟨RX12, TX12, 64, tyX12, rfl, iw_X12, by decide, lg_at 1196 (by decide +kernel) (by decide +kernel), rfl, tyX12_ok, nmX12, rfl, by decide +kernel⟩
theorem fp_X12_181 : fp RX12 181 12 10 .int := ⟨RX12, TX12, 64, tyX12, rfl, iw_X12, by decide, lg_at 1204 (by decide +kernel) (by decide +kernel), rfl, tyX12_ok, nmX12, rfl, by decide +kernel⟩
theorem fp_X12_203 : fp RX12 203 12 13 .int := ⟨RX12, TX12, 64, tyX12, rfl, iw_X12, by decide, lg_at 1207 (by decide +kernel) (by decide +kernel), rfl, tyX12_ok, nmX12, rfl, by decide +kernel⟩
theorem fp_X12_206 : fp RX12 206 12 11 .int := ⟨RX12, TX12, 64, tyX12, rfl, iw_X12, by decide, lg_at 1205 (by decide +kernel) (by decide +kernel), rfl, tyX12_ok, nmX12, rfl, by decide +kernel⟩
theorem fp_X12_209 : fp RX12 209 12 14 .int := ⟨RX12, TX12, 64, tyX12, rfl, iw_X12, by decide, lg_at 1208 (by decide +kernel) (by decide +kernel), rfl, tyX12_ok, nmX12, rfl, by decide +kernel⟩
theorem fp_X12_212 : fp RX12 212 12 15 .int := ⟨RX12, TX12, 64, tyX12, rfl, iw_X12, by decide, lg_at 1209 (by decide +kernel) (by decide +kernel), rfl, tyX12_ok, nmX12, rfl, by decide +kernel⟩
theorem fp_X12_215 : fp RX12 215 12 16 .int := ⟨RX12, TX12, 64, tyX12, rfl, iw_X12, by decide, lg_at 1210 (by decide +kernel) (by decide +kernel), rfl, tyX12_ok, nmX12, rfl, by decide +kernel⟩
theorem cV_X12_169 : cV RX12 169 yX12_put cX12_put 3 none 1 := ⟨⟨lg_at 1391 (by decide +kernel) (by decide +kernel), lg_at 1393 (by decide +kernel) (by decide +kernel), lg_sel 51 (by decide +kernel) (by decide +kernel), lg_at 15 (by decide +kernel) (by decide +kernel), lg_at 1394 (by decide +kernel) (by decide +kernel)⟩, by decide +kernel, by decide +kernel, by decide +kernel⟩
theorem cV_X12_184 : cV RX12 184 yX12_byteAt cX12_byteAt 2 (some .int) 1 := ⟨⟨lg_at 1407 (by decide +kernel) (by decide +kernel), lg_at 1409 (by decide +kernel) (by decide +kernel), lg_sel 53 (by decide +kernel) (by decide +kernel), lg_at 15 (by decide +kernel) (by decide +kernel), lg_at 1410 (by decide +kernel) (by decide +kernel)⟩, by decide +kernel, by decide +kernel, by decide +kernel⟩
theorem cV_X12_188 : cV RX12 188 yX12_token cX12_token 6 none 4 := ⟨⟨lg_at 1411 (by decide +kernel) (by decide +kernel), lg_at 1413 (by decide +kernel) (by decide +kernel), lg_sel 54 (by decide +kernel) (by decide +kernel), lg_at 15 (by decide +kernel) (by decide +kernel), lg_at 1414 (by decide +kernel) (by decide +kernel)⟩, by decide +kernel, by decide +kernel, by decide +kernel⟩
theorem cV_X12_199 : cV RX12 199 yX12_sign cX12_sign 5 (some .int) 3 := ⟨⟨lg_at 1421 (by decide +kernel) (by decide +kernel), lg_at 1423 (by decide +kernel) (by decide +kernel), lg_sel 55 (by decide +kernel) (by decide +kernel), lg_at 15 (by decide +kernel) (by decide +kernel), lg_at 1424 (by decide +kernel) (by decide +kernel)⟩, by decide +kernel, by decide +kernel, by decide +kernel⟩
theorem cV_X12_218 : cV RX12 218 yX12_fail cX12_fail 2 none 1 := ⟨⟨lg_at 1437 (by decide +kernel) (by decide +kernel), lg_at 1439 (by decide +kernel) (by decide +kernel), lg_sel 59 (by decide +kernel) (by decide +kernel), lg_at 15 (by decide +kernel) (by decide +kernel), lg_at 1440 (by decide +kernel) (by decide +kernel)⟩, by decide +kernel, by decide +kernel, by decide +kernel⟩
theorem cV_X12_221 : cV RX12 221 yX12_is cX12_is 2 (some .boolean) 1 := ⟨⟨lg_at 1425 (by decide +kernel) (by decide +kernel), lg_at 1427 (by decide +kernel) (by decide +kernel), lg_sel 56 (by decide +kernel) (by decide +kernel), lg_at 15 (by decide +kernel) (by decide +kernel), lg_at 1428 (by decide +kernel) (by decide +kernel)⟩, by decide +kernel, by decide +kernel, by decide +kernel⟩
theorem cV_X12_224 : cV RX12 224 yX12_goesOn cX12_goesOn 1 none 0 := ⟨⟨lg_at 1441 (by decide +kernel) (by decide +kernel), lg_at 1443 (by decide +kernel) (by decide +kernel), lg_sel 60 (by decide +kernel) (by decide +kernel), lg_at 15 (by decide +kernel) (by decide +kernel), lg_at 1444 (by decide +kernel) (by decide +kernel)⟩, by decide +kernel, by decide +kernel, by decide +kernel⟩
theorem cS_X12_177 : cS RX12 177 yX12_appends cX12_appends 3 (some .long) 2 := ⟨⟨lg_at 1179 (by decide +kernel) (by decide +kernel), lg_at 1180 (by decide +kernel) (by decide +kernel), lg_at 15 (by decide +kernel) (by decide +kernel), lg_at 1181 (by decide +kernel) (by decide +kernel)⟩, by decide +kernel, by decide +kernel, by decide +kernel⟩
theorem cS_X12_192 : cS RX12 192 yX12_isLetter cX12_isLetter 1 (some .boolean) 1 := ⟨⟨lg_at 1415 (by decide +kernel) (by decide +kernel), lg_at 1416 (by decide +kernel) (by decide +kernel), lg_at 15 (by decide +kernel) (by decide +kernel), lg_at 1417 (by decide +kernel) (by decide +kernel)⟩, by decide +kernel, by decide +kernel, by decide +kernel⟩
theorem cS_X12_196 : cS RX12 196 yX12_isDigit cX12_isDigit 1 (some .boolean) 1 := ⟨⟨lg_at 1418 (by decide +kernel) (by decide +kernel), lg_at 1419 (by decide +kernel) (by decide +kernel), lg_at 15 (by decide +kernel) (by decide +kernel), lg_at 1420 (by decide +kernel) (by decide +kernel)⟩, by decide +kernel, by decide +kernel, by decide +kernel⟩
theorem kl_X12_175 : Cond.constantLong RX12 175 (27) ∈ lg_tbl := lg_at 1182 (by decide +kernel) (by decide +kernel)
section
variable {p : Program} {l : Launch} {e : Env} {s : State} {m : MethodId} {args : Array Value} {below : List Frame} {meth : Method} {c : Code} {D : va_G} {ad : Nat → Nat} {κ : KC}
-- X12_put
def FX12_put_3  : Nat → Int32 → Int32 → HS → Option HS
  | 0, _, _, _ => none
  | f + 1, x1, x2, σ => if x2 < 0 then some σ else gd (ix (σ.1 0 2) 2000) (hl_ (pI σ 1 ((σ.1 0 2).toNatClampNeg) (vp_nar .byte ((x1 >>> (x2 &&& 31)).toInt8.toInt32))) fun σ_3 => hl_ (pI σ_3 0 2 ((σ_3.1 0 2) + (1 : Int32))) fun σ_4 => FX12_put_3  f x1 (x2 + (-8)) σ_4)
def FX12_put (x1 : Int32) (σ : HS) : Option HS :=
  FX12_put_3 fu x1 (24 : Int32) σ
set_option maxHeartbeats 4000000 in
set_option maxRecDepth 100000 in
theorem wX12_put_3 (C : Cx 45 D ad κ p s m args meth c cX12_put RX12 3 none) {R : HS} : ∀ (f : Nat) (x1 : Int32) (x2 : Int32) (σ : HS) (H : Heap) (locs : List Loc) (ls : Array Slot), FX12_put_3  f x1 x2 σ = some R → Hd 45 ceM D ad κ s σ H locs → lv_has ls 3 [(0, .ref (ad 0)), (1, .int x1), (2, .int x2)] → W p l e ({ frames := 0, cells := 0, slots := 0, locals := 0 } : Room) s m args below meth c H locs 0 0 (MQ below (QV 45 ceM D ad κ R) args s 0 0 (AX 45 ad)) (F0 m 3 ls []) := by
  have hx := C.1
  have hb := C.2.1
  have hown := C.2.2.2.1
  have hts := C.2.2.2.2.1
  intro f
  induction f with
  | zero =>
    intro x1 x2 σ H locs ls h hH hl
    cases h
  | succ f ih =>
    intro x1 x2 σ H locs ls h hH hl
    rw [FX12_put_3] at h
    refine lv_iload_n hx hb dX12_put_3 rfl (lv_at hl 2 rfl) ?_
    refine lv_if_lt (tgt := 36) hx hb dX12_put_4 (by decide) (fun hq_1 => ?_) (fun hq_1 => ?_)
    · rw [if_pos hq_1] at h
      exact g_retV C hH h dX12_put_36
    · rw [if_neg hq_1] at h
      refine lv_aload_n hx hb dX12_put_7 rfl (lv_at hl 0 rfl) ?_
      refine g_get C hH 0 (Nat.le_of_ble_eq_true rfl) rfl fl_X12_13 (v := .ref (ad 1)) rfl dX12_put_8 ?_
      refine lv_aload_n hx hb dX12_put_11 rfl (lv_at hl 0 rfl) ?_
      refine g_get C hH 0 (Nat.le_of_ble_eq_true rfl) rfl fl_X12_166 (v := .int (σ.1 0 2)) rfl dX12_put_12 ?_
      refine lv_iload_n hx hb dX12_put_15 rfl (lv_at hl 1 rfl) ?_
      refine lv_iload_n hx hb dX12_put_16 rfl (lv_at hl 2 rfl) ?_
      refine lv_ishr hx hb dX12_put_17 ?_
      refine lv_i2b (v := ((x1 >>> (x2 &&& 31)).toInt8.toInt32)) hx hb dX12_put_18 rfl ?_
      obtain ⟨hi_2, h⟩ := gd_ex h
      obtain ⟨σ_3, eσ_3, h⟩ := hl_ex h
      refine g_bast C hH 1 (Nat.le_of_ble_eq_true rfl) (fun _ _ => rfl) (k := ((σ.1 0 2).toNatClampNeg)) rfl (ix_in hi_2) dX12_put_19 (fun H locs hH => ?_)
      rw [← eσ_3] at hH
      refine lv_aload_n hx hb dX12_put_20 rfl (lv_at hl 0 rfl) ?_
      refine lv_dup hx hb dX12_put_21 rfl ?_
      refine g_get C hH 0 (Nat.le_of_ble_eq_true rfl) rfl fl_X12_166 (v := .int (σ_3.1 0 2)) rfl dX12_put_22 ?_
      refine lv_iconst (v := 1) hx hb dX12_put_25 (by decide) ?_
      refine lv_iadd hx hb dX12_put_26 ?_
      obtain ⟨σ_4, eσ_4, h⟩ := hl_ex h
      refine g_putI C hH 0 (Nat.le_of_ble_eq_true rfl) rfl fp_X12_166 rfl rfl (Nat.le_of_ble_eq_true rfl) rfl dX12_put_27 (fun H locs hH => ?_)
      rw [← eσ_4] at hH
      refine lv_iinc (v := (x2 + (-8))) (lv' := [(2, .int (x2 + (-8))), (0, .ref (ad 0)), (1, .int x1)]) hx hb dX12_put_30 hl (k := 2) rfl rfl (by decide) rfl (fun ls hl => ?_)
      refine lv_goto (tgt := 3) hx hb dX12_put_33 (by decide) ?_
      exact ih _ _ _ _ _ _ h hH (lv_sub hl [1, 2, 0] rfl)
set_option maxHeartbeats 4000000 in
set_option maxRecDepth 100000 in
theorem kX12_put (l : Launch) (D : va_G) (ad : Nat → Nat) (κ : KC) {x1 : Int32} {σ : HS} {R : HS} (h : FX12_put x1 σ = some R) : MtV l 45 ceM D ad κ yX12_put cX12_put 3 none ({ frames := 0, cells := 0, slots := 0, locals := 0 } : Room) [.ref (ad 0), .int x1] σ R := by
  refine open_ (by decide) (Nat.le_of_ble_eq_true rfl) (la := [(0, .ref (ad 0)), (1, .int x1)]) rfl ?_
  intro p e s m below meth c ls C hH hl
  replace C : Cx 45 D ad κ p s m _ meth c cX12_put RX12 3 none := C
  have hx := C.1
  have hb := C.2.1
  have hown := C.2.2.2.1
  have hts := C.2.2.2.2.1
  rw [FX12_put] at h
  refine lv_bipush (v := 24) hx hb dX12_put_0 (by decide) ?_
  refine lv_istore_n (lv' := [(2, .int (24 : Int32)), (0, .ref (ad 0)), (1, .int x1)]) hx hb dX12_put_2 rfl hl (by decide) rfl (fun ls hl => ?_)
  exact wX12_put_3 C _ _ _ _ _ _ _ h hH (lv_sub hl [1, 2, 0] rfl)
-- X12_feed
def FX12_feed (x1 : Int32) (x2 : Int32) (x3 : Int32) (x4 : Int32) (x5 : Int32) (σ : HS) : Option (Int32 × HS) :=
  if ((σ.1 0 2) + (20 : Int32)) ≤ (2000 : Int32) then bdV (FX12_put x1 σ) fun σ_2 => bdV (FX12_put x2 σ_2) fun σ_4 => bdV (FX12_put x3 σ_4) fun σ_6 => bdV (FX12_put x4 σ_6) fun σ_8 => bdV (FX12_put x5 σ_8) fun σ_10 => some ((σ_10.1 0 2), σ_10) else some ((-1 : Int32), σ)
set_option maxHeartbeats 4000000 in
set_option maxRecDepth 100000 in
theorem kX12_feed (l : Launch) (D : va_G) (ad : Nat → Nat) (κ : KC) {x1 : Int32} {x2 : Int32} {x3 : Int32} {x4 : Int32} {x5 : Int32} {σ : HS} {R : (Int32 × HS)} (h : FX12_feed x1 x2 x3 x4 x5 σ = some R) : MtI l 45 ceM D ad κ yX12_feed cX12_feed 6 (some .int) ({ frames := 1, cells := 0, slots := 0, locals := 22 } : Room) [.ref (ad 0), .int x1, .int x2, .int x3, .int x4, .int x5] σ R := by
  refine open_ (by decide) (Nat.le_of_ble_eq_true rfl) (la := [(0, .ref (ad 0)), (1, .int x1), (2, .int x2), (3, .int x3), (4, .int x4), (5, .int x5)]) rfl ?_
  intro p e s m below meth c ls C hH hl
  replace C : Cx 45 D ad κ p s m _ meth c cX12_feed RX12 6 (some .int) := C
  have hx := C.1
  have hb := C.2.1
  have hown := C.2.2.2.1
  have hts := C.2.2.2.2.1
  rw [FX12_feed] at h
  refine lv_aload_n hx hb dX12_feed_0 rfl (lv_at hl 0 rfl) ?_
  refine g_get C hH 0 (Nat.le_of_ble_eq_true rfl) rfl fl_X12_166 (v := .int (σ.1 0 2)) rfl dX12_feed_1 ?_
  refine lv_bipush (v := 20) hx hb dX12_feed_4 (by decide) ?_
  refine lv_iadd hx hb dX12_feed_6 ?_
  refine lv_sipush (v := 2000) hx hb dX12_feed_7 (by decide) ?_
  refine lv_icmp_le (tgt := 15) hx hb dX12_feed_10 (by decide) (fun hq_1 => ?_) (fun hq_1 => ?_)
  · rw [if_pos hq_1] at h
    refine lv_aload_n hx hb dX12_feed_15 rfl (lv_at hl 0 rfl) ?_
    refine lv_iload_n hx hb dX12_feed_16 rfl (lv_at hl 1 rfl) ?_
    obtain ⟨σ_2, hc_3, h⟩ := bdV_ex h
    refine g_cv (g_runV (rest := []) C hH hl.1 cV_X12_169 0 (Nat.le_of_ble_eq_true rfl) rfl rfl (kX12_put l D ad κ hc_3) ⟨rfl, rfl⟩ ⟨(Nat.le_of_ble_eq_true rfl), (Nat.le_of_ble_eq_true rfl)⟩ rfl rfl (Nat.le_of_ble_eq_true rfl) dX12_feed_17 z00) hH (fun H locs hH => ?_)
    refine lv_aload_n hx hb dX12_feed_20 rfl (lv_at hl 0 rfl) ?_
    refine lv_iload_n hx hb dX12_feed_21 rfl (lv_at hl 2 rfl) ?_
    obtain ⟨σ_4, hc_5, h⟩ := bdV_ex h
    refine g_cv (g_runV (rest := []) C hH hl.1 cV_X12_169 0 (Nat.le_of_ble_eq_true rfl) rfl rfl (kX12_put l D ad κ hc_5) ⟨rfl, rfl⟩ ⟨(Nat.le_of_ble_eq_true rfl), (Nat.le_of_ble_eq_true rfl)⟩ rfl rfl (Nat.le_of_ble_eq_true rfl) dX12_feed_22 z00) hH (fun H locs hH => ?_)
    refine lv_aload_n hx hb dX12_feed_25 rfl (lv_at hl 0 rfl) ?_
    refine lv_iload_n hx hb dX12_feed_26 rfl (lv_at hl 3 rfl) ?_
    obtain ⟨σ_6, hc_7, h⟩ := bdV_ex h
    refine g_cv (g_runV (rest := []) C hH hl.1 cV_X12_169 0 (Nat.le_of_ble_eq_true rfl) rfl rfl (kX12_put l D ad κ hc_7) ⟨rfl, rfl⟩ ⟨(Nat.le_of_ble_eq_true rfl), (Nat.le_of_ble_eq_true rfl)⟩ rfl rfl (Nat.le_of_ble_eq_true rfl) dX12_feed_27 z00) hH (fun H locs hH => ?_)
    refine lv_aload_n hx hb dX12_feed_30 rfl (lv_at hl 0 rfl) ?_
    refine lv_iload hx hb dX12_feed_31 (lv_at hl 4 rfl) ?_
    obtain ⟨σ_8, hc_9, h⟩ := bdV_ex h
    refine g_cv (g_runV (rest := []) C hH hl.1 cV_X12_169 0 (Nat.le_of_ble_eq_true rfl) rfl rfl (kX12_put l D ad κ hc_9) ⟨rfl, rfl⟩ ⟨(Nat.le_of_ble_eq_true rfl), (Nat.le_of_ble_eq_true rfl)⟩ rfl rfl (Nat.le_of_ble_eq_true rfl) dX12_feed_33 z00) hH (fun H locs hH => ?_)
    refine lv_aload_n hx hb dX12_feed_36 rfl (lv_at hl 0 rfl) ?_
    refine lv_iload hx hb dX12_feed_37 (lv_at hl 5 rfl) ?_
    obtain ⟨σ_10, hc_11, h⟩ := bdV_ex h
    refine g_cv (g_runV (rest := []) C hH hl.1 cV_X12_169 0 (Nat.le_of_ble_eq_true rfl) rfl rfl (kX12_put l D ad κ hc_11) ⟨rfl, rfl⟩ ⟨(Nat.le_of_ble_eq_true rfl), (Nat.le_of_ble_eq_true rfl)⟩ rfl rfl (Nat.le_of_ble_eq_true rfl) dX12_feed_39 z00) hH (fun H locs hH => ?_)
    refine lv_aload_n hx hb dX12_feed_42 rfl (lv_at hl 0 rfl) ?_
    refine g_get C hH 0 (Nat.le_of_ble_eq_true rfl) rfl fl_X12_166 (v := .int (σ_10.1 0 2)) rfl dX12_feed_43 ?_
    exact g_ret C hH h dX12_feed_46
  · rw [if_neg hq_1] at h
    refine lv_iconst (v := (-1)) hx hb dX12_feed_13 (by decide) ?_
    exact g_ret C hH h dX12_feed_14
-- X12_back
def FX12_back (x1 : Int32) (σ : HS) : Option (Int32 × HS) :=
  if x1 < 0 then some ((-1 : Int32), σ) else if x1 ≤ (σ.1 0 2) then hl_ (pI σ 0 2 ((σ.1 0 2) - x1)) fun σ_3 => some ((σ_3.1 0 2), σ_3) else some ((-1 : Int32), σ)
set_option maxHeartbeats 4000000 in
set_option maxRecDepth 100000 in
theorem kX12_back (l : Launch) (D : va_G) (ad : Nat → Nat) (κ : KC) {x1 : Int32} {σ : HS} {R : (Int32 × HS)} (h : FX12_back x1 σ = some R) : MtI l 45 ceM D ad κ yX12_back cX12_back 2 (some .int) ({ frames := 0, cells := 0, slots := 0, locals := 0 } : Room) [.ref (ad 0), .int x1] σ R := by
  refine open_ (by decide) (Nat.le_of_ble_eq_true rfl) (la := [(0, .ref (ad 0)), (1, .int x1)]) rfl ?_
  intro p e s m below meth c ls C hH hl
  replace C : Cx 45 D ad κ p s m _ meth c cX12_back RX12 2 (some .int) := C
  have hx := C.1
  have hb := C.2.1
  have hown := C.2.2.2.1
  have hts := C.2.2.2.2.1
  rw [FX12_back] at h
  refine lv_iload_n hx hb dX12_back_0 rfl (lv_at hl 1 rfl) ?_
  refine lv_if_lt (tgt := 12) hx hb dX12_back_1 (by decide) (fun hq_1 => ?_) (fun hq_1 => ?_)
  · rw [if_pos hq_1] at h
    refine lv_iconst (v := (-1)) hx hb dX12_back_12 (by decide) ?_
    exact g_ret C hH h dX12_back_13
  · rw [if_neg hq_1] at h
    refine lv_iload_n hx hb dX12_back_4 rfl (lv_at hl 1 rfl) ?_
    refine lv_aload_n hx hb dX12_back_5 rfl (lv_at hl 0 rfl) ?_
    refine g_get C hH 0 (Nat.le_of_ble_eq_true rfl) rfl fl_X12_166 (v := .int (σ.1 0 2)) rfl dX12_back_6 ?_
    refine lv_icmp_le (tgt := 14) hx hb dX12_back_9 (by decide) (fun hq_2 => ?_) (fun hq_2 => ?_)
    · rw [if_pos hq_2] at h
      refine lv_aload_n hx hb dX12_back_14 rfl (lv_at hl 0 rfl) ?_
      refine lv_dup hx hb dX12_back_15 rfl ?_
      refine g_get C hH 0 (Nat.le_of_ble_eq_true rfl) rfl fl_X12_166 (v := .int (σ.1 0 2)) rfl dX12_back_16 ?_
      refine lv_iload_n hx hb dX12_back_19 rfl (lv_at hl 1 rfl) ?_
      refine lv_isub hx hb dX12_back_20 ?_
      obtain ⟨σ_3, eσ_3, h⟩ := hl_ex h
      refine g_putI C hH 0 (Nat.le_of_ble_eq_true rfl) rfl fp_X12_166 rfl rfl (Nat.le_of_ble_eq_true rfl) rfl dX12_back_21 (fun H locs hH => ?_)
      rw [← eσ_3] at hH
      refine lv_aload_n hx hb dX12_back_24 rfl (lv_at hl 0 rfl) ?_
      refine g_get C hH 0 (Nat.le_of_ble_eq_true rfl) rfl fl_X12_166 (v := .int (σ_3.1 0 2)) rfl dX12_back_25 ?_
      exact g_ret C hH h dX12_back_28
    · rw [if_neg hq_2] at h
      refine lv_iconst (v := (-1)) hx hb dX12_back_12 (by decide) ?_
      exact g_ret C hH h dX12_back_13
-- X12_byteAt
def FX12_byteAt (x1 : Int32) (σ : HS) : Option (Int32 × HS) :=
  if (σ.1 0 4) ≤ x1 then some ((0 : Int32), σ) else gd (ix x1 2000) (some (((σ.1 2 (x1.toNatClampNeg)) &&& (255 : Int32)), σ))
set_option maxHeartbeats 4000000 in
set_option maxRecDepth 100000 in
theorem kX12_byteAt (l : Launch) (D : va_G) (ad : Nat → Nat) (κ : KC) {x1 : Int32} {σ : HS} {R : (Int32 × HS)} (h : FX12_byteAt x1 σ = some R) : MtI l 45 ceM D ad κ yX12_byteAt cX12_byteAt 2 (some .int) ({ frames := 0, cells := 0, slots := 0, locals := 0 } : Room) [.ref (ad 0), .int x1] σ R := by
  refine open_ (by decide) (Nat.le_of_ble_eq_true rfl) (la := [(0, .ref (ad 0)), (1, .int x1)]) rfl ?_
  intro p e s m below meth c ls C hH hl
  replace C : Cx 45 D ad κ p s m _ meth c cX12_byteAt RX12 2 (some .int) := C
  have hx := C.1
  have hb := C.2.1
  have hown := C.2.2.2.1
  have hts := C.2.2.2.2.1
  rw [FX12_byteAt] at h
  refine lv_iload_n hx hb dX12_byteAt_0 rfl (lv_at hl 1 rfl) ?_
  refine lv_aload_n hx hb dX12_byteAt_1 rfl (lv_at hl 0 rfl) ?_
  refine g_get C hH 0 (Nat.le_of_ble_eq_true rfl) rfl fl_X12_172 (v := .int (σ.1 0 4)) rfl dX12_byteAt_2 ?_
  refine lv_icmp_ge (tgt := 21) hx hb dX12_byteAt_5 (by decide) (fun hq_1 => ?_) (fun hq_1 => ?_)
  · rw [if_pos hq_1] at h
    refine lv_iconst (v := 0) hx hb dX12_byteAt_21 (by decide) ?_
    exact g_ret C hH h dX12_byteAt_22
  · rw [if_neg hq_1] at h
    refine lv_aload_n hx hb dX12_byteAt_8 rfl (lv_at hl 0 rfl) ?_
    refine g_get C hH 0 (Nat.le_of_ble_eq_true rfl) rfl fl_X12_17 (v := .ref (ad 2)) rfl dX12_byteAt_9 ?_
    refine lv_iload_n hx hb dX12_byteAt_12 rfl (lv_at hl 1 rfl) ?_
    obtain ⟨hi_2, h⟩ := gd_ex h
    refine g_bald C hH 2 (Nat.le_of_ble_eq_true rfl) rfl (k := (x1.toNatClampNeg)) rfl (ix_in hi_2) dX12_byteAt_13 ?_
    refine lv_sipush (v := 255) hx hb dX12_byteAt_14 (by decide) ?_
    refine lv_iand hx hb dX12_byteAt_17 ?_
    refine lv_goto (tgt := 22) hx hb dX12_byteAt_18 (by decide) ?_
    exact g_ret C hH h dX12_byteAt_22
-- X12_isDigit
def FX12_isDigit (x0 : Int32) (σ : HS) : Option (Int32 × HS) :=
  if x0 < (48 : Int32) then some ((0 : Int32), σ) else if (57 : Int32) < x0 then some ((0 : Int32), σ) else some ((1 : Int32), σ)
set_option maxHeartbeats 4000000 in
set_option maxRecDepth 100000 in
theorem kX12_isDigit (l : Launch) (D : va_G) (ad : Nat → Nat) (κ : KC) {x0 : Int32} {σ : HS} {R : (Int32 × HS)} (h : FX12_isDigit x0 σ = some R) : MtI l 45 ceM D ad κ yX12_isDigit cX12_isDigit 1 (some .boolean) ({ frames := 0, cells := 0, slots := 0, locals := 0 } : Room) [.int x0] σ R := by
  refine open_ (by decide) (Nat.le_of_ble_eq_true rfl) (la := [(0, .int x0)]) rfl ?_
  intro p e s m below meth c ls C hH hl
  replace C : Cx 45 D ad κ p s m _ meth c cX12_isDigit RX12 1 (some .boolean) := C
  have hx := C.1
  have hb := C.2.1
  have hown := C.2.2.2.1
  have hts := C.2.2.2.2.1
  rw [FX12_isDigit] at h
  refine lv_iload_n hx hb dX12_isDigit_0 rfl (lv_at hl 0 rfl) ?_
  refine lv_bipush (v := 48) hx hb dX12_isDigit_1 (by decide) ?_
  refine lv_icmp_lt (tgt := 16) hx hb dX12_isDigit_3 (by decide) (fun hq_1 => ?_) (fun hq_1 => ?_)
  · rw [if_pos hq_1] at h
    refine lv_iconst (v := 0) hx hb dX12_isDigit_16 (by decide) ?_
    exact g_retZ C hH rfl h dX12_isDigit_17
  · rw [if_neg hq_1] at h
    refine lv_iload_n hx hb dX12_isDigit_6 rfl (lv_at hl 0 rfl) ?_
    refine lv_bipush (v := 57) hx hb dX12_isDigit_7 (by decide) ?_
    refine lv_icmp_gt (tgt := 16) hx hb dX12_isDigit_9 (by decide) (fun hq_2 => ?_) (fun hq_2 => ?_)
    · rw [if_pos hq_2] at h
      refine lv_iconst (v := 0) hx hb dX12_isDigit_16 (by decide) ?_
      exact g_retZ C hH rfl h dX12_isDigit_17
    · rw [if_neg hq_2] at h
      refine lv_iconst (v := 1) hx hb dX12_isDigit_12 (by decide) ?_
      refine lv_goto (tgt := 17) hx hb dX12_isDigit_13 (by decide) ?_
      exact g_retZ C hH rfl h dX12_isDigit_17
-- X12_isLetter
def FX12_isLetter (x0 : Int32) (σ : HS) : Option (Int32 × HS) :=
  if x0 < (97 : Int32) then some ((0 : Int32), σ) else if (122 : Int32) < x0 then some ((0 : Int32), σ) else some ((1 : Int32), σ)
set_option maxHeartbeats 4000000 in
set_option maxRecDepth 100000 in
theorem kX12_isLetter (l : Launch) (D : va_G) (ad : Nat → Nat) (κ : KC) {x0 : Int32} {σ : HS} {R : (Int32 × HS)} (h : FX12_isLetter x0 σ = some R) : MtI l 45 ceM D ad κ yX12_isLetter cX12_isLetter 1 (some .boolean) ({ frames := 0, cells := 0, slots := 0, locals := 0 } : Room) [.int x0] σ R := by
  refine open_ (by decide) (Nat.le_of_ble_eq_true rfl) (la := [(0, .int x0)]) rfl ?_
  intro p e s m below meth c ls C hH hl
  replace C : Cx 45 D ad κ p s m _ meth c cX12_isLetter RX12 1 (some .boolean) := C
  have hx := C.1
  have hb := C.2.1
  have hown := C.2.2.2.1
  have hts := C.2.2.2.2.1
  rw [FX12_isLetter] at h
  refine lv_iload_n hx hb dX12_isLetter_0 rfl (lv_at hl 0 rfl) ?_
  refine lv_bipush (v := 97) hx hb dX12_isLetter_1 (by decide) ?_
  refine lv_icmp_lt (tgt := 16) hx hb dX12_isLetter_3 (by decide) (fun hq_1 => ?_) (fun hq_1 => ?_)
  · rw [if_pos hq_1] at h
    refine lv_iconst (v := 0) hx hb dX12_isLetter_16 (by decide) ?_
    exact g_retZ C hH rfl h dX12_isLetter_17
  · rw [if_neg hq_1] at h
    refine lv_iload_n hx hb dX12_isLetter_6 rfl (lv_at hl 0 rfl) ?_
    refine lv_bipush (v := 122) hx hb dX12_isLetter_7 (by decide) ?_
    refine lv_icmp_gt (tgt := 16) hx hb dX12_isLetter_9 (by decide) (fun hq_2 => ?_) (fun hq_2 => ?_)
    · rw [if_pos hq_2] at h
      refine lv_iconst (v := 0) hx hb dX12_isLetter_16 (by decide) ?_
      exact g_retZ C hH rfl h dX12_isLetter_17
    · rw [if_neg hq_2] at h
      refine lv_iconst (v := 1) hx hb dX12_isLetter_12 (by decide) ?_
      refine lv_goto (tgt := 17) hx hb dX12_isLetter_13 (by decide) ?_
      exact g_retZ C hH rfl h dX12_isLetter_17
-- X12_appends
def FX12_appends (x0 : Int64) (x2 : Int32) (σ : HS) : Option (Int64 × HS) :=
  if x2 = 0 then some (x0, σ) else some ((((27 : Int64) * x0) + (((x2 - (97 : Int32)) + (1 : Int32)).toInt64)), σ)
set_option maxHeartbeats 4000000 in
set_option maxRecDepth 100000 in
theorem kX12_appends (l : Launch) (D : va_G) (ad : Nat → Nat) (κ : KC) {x0 : Int64} {x2 : Int32} {σ : HS} {R : (Int64 × HS)} (h : FX12_appends x0 x2 σ = some R) : MtL l 45 ceM D ad κ yX12_appends cX12_appends 3 (some .long) ({ frames := 0, cells := 0, slots := 0, locals := 0 } : Room) [.long x0, .int x2] σ R := by
  refine open_ (by decide) (Nat.le_of_ble_eq_true rfl) (la := [(0, .long x0), (2, .int x2)]) rfl ?_
  intro p e s m below meth c ls C hH hl
  replace C : Cx 45 D ad κ p s m _ meth c cX12_appends RX12 3 (some .long) := C
  have hx := C.1
  have hb := C.2.1
  have hown := C.2.2.2.1
  have hts := C.2.2.2.2.1
  rw [FX12_appends] at h
  refine lv_iload_n hx hb dX12_appends_0 rfl (lv_at hl 1 rfl) ?_
  refine lv_if_ne (tgt := 8) hx hb dX12_appends_1 (by decide) (fun hq_1 => ?_) (fun hq_1 => ?_)
  · rw [if_neg hq_1] at h
    refine lv_ldc2 (v := 27) hx hb hown (hts _ kl_X12_175) dX12_appends_8 ?_
    refine lv_lload_n hx hb dX12_appends_11 rfl (lv_at hl 0 rfl) ?_
    refine lv_lmul hx hb dX12_appends_12 ?_
    refine lv_iload_n hx hb dX12_appends_13 rfl (lv_at hl 1 rfl) ?_
    refine lv_bipush (v := 97) hx hb dX12_appends_14 (by decide) ?_
    refine lv_isub hx hb dX12_appends_16 ?_
    refine lv_iconst (v := 1) hx hb dX12_appends_17 (by decide) ?_
    refine lv_iadd hx hb dX12_appends_18 ?_
    refine lv_i2l (v := (((x2 - (97 : Int32)) + (1 : Int32)).toInt64)) hx hb dX12_appends_19 rfl ?_
    refine lv_ladd hx hb dX12_appends_20 ?_
    exact g_retL C hH h dX12_appends_21
  · rw [if_pos hq_1] at h
    refine lv_lload_n hx hb dX12_appends_4 rfl (lv_at hl 0 rfl) ?_
    refine lv_goto (tgt := 21) hx hb dX12_appends_5 (by decide) ?_
    exact g_retL C hH h dX12_appends_21
-- X12_word
def FX12_word (x0 : Int32) (x1 : Int32) (x2 : Int32) (x3 : Int32) (x4 : Int32) (x5 : Int32) (x6 : Int32) (σ : HS) : Option (Int64 × HS) :=
  bdL (FX12_appends (0 : Int64) x0 σ) fun r_1 σ_2 => bdL (FX12_appends r_1 x1 σ_2) fun r_4 σ_5 => bdL (FX12_appends r_4 x2 σ_5) fun r_7 σ_8 => bdL (FX12_appends r_7 x3 σ_8) fun r_10 σ_11 => bdL (FX12_appends r_10 x4 σ_11) fun r_13 σ_14 => bdL (FX12_appends r_13 x5 σ_14) fun r_16 σ_17 => bdL (FX12_appends r_16 x6 σ_17) fun r_19 σ_20 => some (r_19, σ_20)
set_option maxHeartbeats 4000000 in
set_option maxRecDepth 100000 in
theorem kX12_word (l : Launch) (D : va_G) (ad : Nat → Nat) (κ : KC) {x0 : Int32} {x1 : Int32} {x2 : Int32} {x3 : Int32} {x4 : Int32} {x5 : Int32} {x6 : Int32} {σ : HS} {R : (Int64 × HS)} (h : FX12_word x0 x1 x2 x3 x4 x5 x6 σ = some R) : MtL l 45 ceM D ad κ yX12_word cX12_word 7 (some .long) ({ frames := 1, cells := 0, slots := 0, locals := 22 } : Room) [.int x0, .int x1, .int x2, .int x3, .int x4, .int x5, .int x6] σ R := by
  refine open_ (by decide) (Nat.le_of_ble_eq_true rfl) (la := [(0, .int x0), (1, .int x1), (2, .int x2), (3, .int x3), (4, .int x4), (5, .int x5), (6, .int x6)]) rfl ?_
  intro p e s m below meth c ls C hH hl
  replace C : Cx 45 D ad κ p s m _ meth c cX12_word RX12 7 (some .long) := C
  have hx := C.1
  have hb := C.2.1
  have hown := C.2.2.2.1
  have hts := C.2.2.2.2.1
  rw [FX12_word] at h
  refine lv_lconst (v := 0) hx hb dX12_word_0 rfl ?_
  refine lv_iload_n hx hb dX12_word_1 rfl (lv_at hl 0 rfl) ?_
  obtain ⟨r_1, σ_2, hc_3, h⟩ := bdL_ex h
  refine g_cl (g_runS (rest := []) C hH hl.1 cS_X12_177 (kX12_appends l D ad κ hc_3) ⟨rfl, rfl⟩ ⟨(Nat.le_of_ble_eq_true rfl), (Nat.le_of_ble_eq_true rfl)⟩ rfl rfl (Nat.le_of_ble_eq_true rfl) dX12_word_2 z00) hH (fun H locs hH => ?_)
  refine lv_iload_n hx hb dX12_word_5 rfl (lv_at hl 1 rfl) ?_
  obtain ⟨r_4, σ_5, hc_6, h⟩ := bdL_ex h
  refine g_cl (g_runS (rest := []) C hH hl.1 cS_X12_177 (kX12_appends l D ad κ hc_6) ⟨rfl, rfl⟩ ⟨(Nat.le_of_ble_eq_true rfl), (Nat.le_of_ble_eq_true rfl)⟩ rfl rfl (Nat.le_of_ble_eq_true rfl) dX12_word_6 z00) hH (fun H locs hH => ?_)
  refine lv_iload_n hx hb dX12_word_9 rfl (lv_at hl 2 rfl) ?_
  obtain ⟨r_7, σ_8, hc_9, h⟩ := bdL_ex h
  refine g_cl (g_runS (rest := []) C hH hl.1 cS_X12_177 (kX12_appends l D ad κ hc_9) ⟨rfl, rfl⟩ ⟨(Nat.le_of_ble_eq_true rfl), (Nat.le_of_ble_eq_true rfl)⟩ rfl rfl (Nat.le_of_ble_eq_true rfl) dX12_word_10 z00) hH (fun H locs hH => ?_)
  refine lv_iload_n hx hb dX12_word_13 rfl (lv_at hl 3 rfl) ?_
  obtain ⟨r_10, σ_11, hc_12, h⟩ := bdL_ex h
  refine g_cl (g_runS (rest := []) C hH hl.1 cS_X12_177 (kX12_appends l D ad κ hc_12) ⟨rfl, rfl⟩ ⟨(Nat.le_of_ble_eq_true rfl), (Nat.le_of_ble_eq_true rfl)⟩ rfl rfl (Nat.le_of_ble_eq_true rfl) dX12_word_14 z00) hH (fun H locs hH => ?_)
  refine lv_iload hx hb dX12_word_17 (lv_at hl 4 rfl) ?_
  obtain ⟨r_13, σ_14, hc_15, h⟩ := bdL_ex h
  refine g_cl (g_runS (rest := []) C hH hl.1 cS_X12_177 (kX12_appends l D ad κ hc_15) ⟨rfl, rfl⟩ ⟨(Nat.le_of_ble_eq_true rfl), (Nat.le_of_ble_eq_true rfl)⟩ rfl rfl (Nat.le_of_ble_eq_true rfl) dX12_word_19 z00) hH (fun H locs hH => ?_)
  refine lv_iload hx hb dX12_word_22 (lv_at hl 5 rfl) ?_
  obtain ⟨r_16, σ_17, hc_18, h⟩ := bdL_ex h
  refine g_cl (g_runS (rest := []) C hH hl.1 cS_X12_177 (kX12_appends l D ad κ hc_18) ⟨rfl, rfl⟩ ⟨(Nat.le_of_ble_eq_true rfl), (Nat.le_of_ble_eq_true rfl)⟩ rfl rfl (Nat.le_of_ble_eq_true rfl) dX12_word_24 z00) hH (fun H locs hH => ?_)
  refine lv_iload hx hb dX12_word_27 (lv_at hl 6 rfl) ?_
  obtain ⟨r_19, σ_20, hc_21, h⟩ := bdL_ex h
  refine g_cl (g_runS (rest := []) C hH hl.1 cS_X12_177 (kX12_appends l D ad κ hc_21) ⟨rfl, rfl⟩ ⟨(Nat.le_of_ble_eq_true rfl), (Nat.le_of_ble_eq_true rfl)⟩ rfl rfl (Nat.le_of_ble_eq_true rfl) dX12_word_29 z00) hH (fun H locs hH => ?_)
  exact g_retL C hH h dX12_word_32
-- X12_token
def FX12_token (x1 : Int32) (x2 : Int32) (x3 : Int32) (x4 : Int64) (σ : HS) : Option HS :=
  gd (ix (σ.1 0 10) 403) (hl_ (pI σ 3 ((σ.1 0 10).toNatClampNeg) x1) fun σ_2 => gd (ix (σ_2.1 0 10) 403) (hl_ (pI σ_2 4 ((σ_2.1 0 10).toNatClampNeg) x2) fun σ_4 => gd (ix (σ_4.1 0 10) 403) (hl_ (pI σ_4 5 ((σ_4.1 0 10).toNatClampNeg) x3) fun σ_6 => gd (ix (σ_6.1 0 10) 403) (hl_ (pL σ_6 6 ((σ_6.1 0 10).toNatClampNeg) x4) fun σ_8 => hl_ (pI σ_8 0 10 ((σ_8.1 0 10) + (1 : Int32))) fun σ_9 => some σ_9))))
set_option maxHeartbeats 4000000 in
set_option maxRecDepth 100000 in
theorem kX12_token (l : Launch) (D : va_G) (ad : Nat → Nat) (κ : KC) {x1 : Int32} {x2 : Int32} {x3 : Int32} {x4 : Int64} {σ : HS} {R : HS} (h : FX12_token x1 x2 x3 x4 σ = some R) : MtV l 45 ceM D ad κ yX12_token cX12_token 6 none ({ frames := 0, cells := 0, slots := 0, locals := 0 } : Room) [.ref (ad 0), .int x1, .int x2, .int x3, .long x4] σ R := by
  refine open_ (by decide) (Nat.le_of_ble_eq_true rfl) (la := [(0, .ref (ad 0)), (1, .int x1), (2, .int x2), (3, .int x3), (4, .long x4)]) rfl ?_
  intro p e s m below meth c ls C hH hl
  replace C : Cx 45 D ad κ p s m _ meth c cX12_token RX12 6 none := C
  have hx := C.1
  have hb := C.2.1
  have hown := C.2.2.2.1
  have hts := C.2.2.2.2.1
  rw [FX12_token] at h
  refine lv_aload_n hx hb dX12_token_0 rfl (lv_at hl 0 rfl) ?_
  refine g_get C hH 0 (Nat.le_of_ble_eq_true rfl) rfl fl_X12_20 (v := .ref (ad 3)) rfl dX12_token_1 ?_
  refine lv_aload_n hx hb dX12_token_4 rfl (lv_at hl 0 rfl) ?_
  refine g_get C hH 0 (Nat.le_of_ble_eq_true rfl) rfl fl_X12_181 (v := .int (σ.1 0 10)) rfl dX12_token_5 ?_
  refine lv_iload_n hx hb dX12_token_8 rfl (lv_at hl 1 rfl) ?_
  obtain ⟨hi_1, h⟩ := gd_ex h
  obtain ⟨σ_2, eσ_2, h⟩ := hl_ex h
  refine g_iast C hH 3 (Nat.le_of_ble_eq_true rfl) (fun _ _ => rfl) (k := ((σ.1 0 10).toNatClampNeg)) rfl (ix_in hi_1) dX12_token_9 (fun H locs hH => ?_)
  rw [← eσ_2] at hH
  refine lv_aload_n hx hb dX12_token_10 rfl (lv_at hl 0 rfl) ?_
  refine g_get C hH 0 (Nat.le_of_ble_eq_true rfl) rfl fl_X12_24 (v := .ref (ad 4)) rfl dX12_token_11 ?_
  refine lv_aload_n hx hb dX12_token_14 rfl (lv_at hl 0 rfl) ?_
  refine g_get C hH 0 (Nat.le_of_ble_eq_true rfl) rfl fl_X12_181 (v := .int (σ_2.1 0 10)) rfl dX12_token_15 ?_
  refine lv_iload_n hx hb dX12_token_18 rfl (lv_at hl 2 rfl) ?_
  obtain ⟨hi_3, h⟩ := gd_ex h
  obtain ⟨σ_4, eσ_4, h⟩ := hl_ex h
  refine g_iast C hH 4 (Nat.le_of_ble_eq_true rfl) (fun _ _ => rfl) (k := ((σ_2.1 0 10).toNatClampNeg)) rfl (ix_in hi_3) dX12_token_19 (fun H locs hH => ?_)
  rw [← eσ_4] at hH
  refine lv_aload_n hx hb dX12_token_20 rfl (lv_at hl 0 rfl) ?_
  refine g_get C hH 0 (Nat.le_of_ble_eq_true rfl) rfl fl_X12_27 (v := .ref (ad 5)) rfl dX12_token_21 ?_
  refine lv_aload_n hx hb dX12_token_24 rfl (lv_at hl 0 rfl) ?_
  refine g_get C hH 0 (Nat.le_of_ble_eq_true rfl) rfl fl_X12_181 (v := .int (σ_4.1 0 10)) rfl dX12_token_25 ?_
  refine lv_iload_n hx hb dX12_token_28 rfl (lv_at hl 3 rfl) ?_
  obtain ⟨hi_5, h⟩ := gd_ex h
  obtain ⟨σ_6, eσ_6, h⟩ := hl_ex h
  refine g_iast C hH 5 (Nat.le_of_ble_eq_true rfl) (fun _ _ => rfl) (k := ((σ_4.1 0 10).toNatClampNeg)) rfl (ix_in hi_5) dX12_token_29 (fun H locs hH => ?_)
  rw [← eσ_6] at hH
  refine lv_aload_n hx hb dX12_token_30 rfl (lv_at hl 0 rfl) ?_
  refine g_get C hH 0 (Nat.le_of_ble_eq_true rfl) rfl fl_X12_30 (v := .ref (ad 6)) rfl dX12_token_31 ?_
  refine lv_aload_n hx hb dX12_token_34 rfl (lv_at hl 0 rfl) ?_
  refine g_get C hH 0 (Nat.le_of_ble_eq_true rfl) rfl fl_X12_181 (v := .int (σ_6.1 0 10)) rfl dX12_token_35 ?_
  refine lv_lload hx hb dX12_token_38 (lv_at hl 4 rfl) ?_
  obtain ⟨hi_7, h⟩ := gd_ex h
  obtain ⟨σ_8, eσ_8, h⟩ := hl_ex h
  refine g_last C hH 6 (Nat.le_of_ble_eq_true rfl) (fun _ _ => rfl) (k := ((σ_6.1 0 10).toNatClampNeg)) rfl (ix_in hi_7) dX12_token_40 (fun H locs hH => ?_)
  rw [← eσ_8] at hH
  refine lv_aload_n hx hb dX12_token_41 rfl (lv_at hl 0 rfl) ?_
  refine lv_dup hx hb dX12_token_42 rfl ?_
  refine g_get C hH 0 (Nat.le_of_ble_eq_true rfl) rfl fl_X12_181 (v := .int (σ_8.1 0 10)) rfl dX12_token_43 ?_
  refine lv_iconst (v := 1) hx hb dX12_token_46 (by decide) ?_
  refine lv_iadd hx hb dX12_token_47 ?_
  obtain ⟨σ_9, eσ_9, h⟩ := hl_ex h
  refine g_putI C hH 0 (Nat.le_of_ble_eq_true rfl) rfl fp_X12_181 rfl rfl (Nat.le_of_ble_eq_true rfl) rfl dX12_token_48 (fun H locs hH => ?_)
  rw [← eσ_9] at hH
  exact g_retV C hH h dX12_token_51
-- X12_sign
def FX12_sign_95  (x1 : Int32) (x2 : Int32) (x3 : Int32) (x4 : Int32) (σ : HS) : Option (Int32 × HS) :=
  bdV (FX12_token x4 x1 (0 : Int32) (0 : Int64) σ) fun σ_1 => some ((1 : Int32), σ_1)
def FX12_sign_85  (x1 : Int32) (x2 : Int32) (x3 : Int32) (x4 : Int32) (σ : HS) : Option (Int32 × HS) :=
  if x2 = (60 : Int32) then FX12_sign_95 x1 x2 x3 (13 : Int32) σ else FX12_sign_95 x1 x2 x3 x4 σ
def FX12_sign_75  (x1 : Int32) (x2 : Int32) (x3 : Int32) (x4 : Int32) (σ : HS) : Option (Int32 × HS) :=
  if x2 = (47 : Int32) then FX12_sign_85 x1 x2 x3 (15 : Int32) σ else FX12_sign_85 x1 x2 x3 x4 σ
def FX12_sign_65  (x1 : Int32) (x2 : Int32) (x3 : Int32) (x4 : Int32) (σ : HS) : Option (Int32 × HS) :=
  if x2 = (42 : Int32) then FX12_sign_75 x1 x2 x3 (10 : Int32) σ else FX12_sign_75 x1 x2 x3 x4 σ
def FX12_sign_55  (x1 : Int32) (x2 : Int32) (x3 : Int32) (x4 : Int32) (σ : HS) : Option (Int32 × HS) :=
  if x2 = (45 : Int32) then FX12_sign_65 x1 x2 x3 (9 : Int32) σ else FX12_sign_65 x1 x2 x3 x4 σ
def FX12_sign_43  (x1 : Int32) (x2 : Int32) (x3 : Int32) (y0 : Int32) (σ : HS) : Option (Int32 × HS) :=
  if x2 = (43 : Int32) then FX12_sign_55 x1 x2 x3 (8 : Int32) σ else FX12_sign_55 x1 x2 x3 y0 σ
def FX12_sign (x1 : Int32) (x2 : Int32) (x3 : Int32) (σ : HS) : Option (Int32 × HS) :=
  if x2 = (59 : Int32) then FX12_sign_43 x1 x2 x3 (4 : Int32) σ else if x2 = (61 : Int32) then FX12_sign_43 x1 x2 x3 (5 : Int32) σ else if x2 = (40 : Int32) then FX12_sign_43 x1 x2 x3 (6 : Int32) σ else if x2 = (41 : Int32) then FX12_sign_43 x1 x2 x3 (7 : Int32) σ else FX12_sign_43 x1 x2 x3 (3 : Int32) σ
set_option maxHeartbeats 4000000 in
set_option maxRecDepth 100000 in
theorem wX12_sign_95 (C : Cx 45 D ad κ p s m args meth c cX12_sign RX12 5 (some .int)) {R : (Int32 × HS)} : ∀ (x1 : Int32) (x2 : Int32) (x3 : Int32) (x4 : Int32) (σ : HS) (H : Heap) (locs : List Loc) (ls : Array Slot), FX12_sign_95  x1 x2 x3 x4 σ = some R → Hd 45 ceM D ad κ s σ H locs → lv_has ls 5 [(0, .ref (ad 0)), (1, .int x1), (2, .int x2), (3, .int x3), (4, .int x4)] → W p l e ({ frames := 1, cells := 0, slots := 0, locals := 25 } : Room) s m args below meth c H locs 0 0 (MQ below (QI 45 ceM D ad κ R) args s 0 0 (AX 45 ad)) (F0 m 95 ls []) := by
  have hx := C.1
  have hb := C.2.1
  have hown := C.2.2.2.1
  have hts := C.2.2.2.2.1
  intro x1 x2 x3 x4 σ H locs ls h hH hl
  rw [FX12_sign_95] at h
  refine lv_aload_n hx hb dX12_sign_95 rfl (lv_at hl 0 rfl) ?_
  refine lv_iload hx hb dX12_sign_96 (lv_at hl 4 rfl) ?_
  refine lv_iload_n hx hb dX12_sign_98 rfl (lv_at hl 1 rfl) ?_
  refine lv_iconst (v := 0) hx hb dX12_sign_99 (by decide) ?_
  refine lv_lconst (v := 0) hx hb dX12_sign_100 rfl ?_
  obtain ⟨σ_1, hc_2, h⟩ := bdV_ex h
  refine g_cv (g_runV (rest := []) C hH hl.1 cV_X12_188 0 (Nat.le_of_ble_eq_true rfl) rfl rfl (kX12_token l D ad κ hc_2) ⟨rfl, rfl⟩ ⟨(Nat.le_of_ble_eq_true rfl), (Nat.le_of_ble_eq_true rfl)⟩ rfl rfl (Nat.le_of_ble_eq_true rfl) dX12_sign_101 z00) hH (fun H locs hH => ?_)
  refine lv_iconst (v := 1) hx hb dX12_sign_104 (by decide) ?_
  exact g_ret C hH h dX12_sign_105
set_option maxHeartbeats 4000000 in
set_option maxRecDepth 100000 in
theorem wX12_sign_85 (C : Cx 45 D ad κ p s m args meth c cX12_sign RX12 5 (some .int)) {R : (Int32 × HS)} : ∀ (x1 : Int32) (x2 : Int32) (x3 : Int32) (x4 : Int32) (σ : HS) (H : Heap) (locs : List Loc) (ls : Array Slot), FX12_sign_85  x1 x2 x3 x4 σ = some R → Hd 45 ceM D ad κ s σ H locs → lv_has ls 5 [(0, .ref (ad 0)), (1, .int x1), (2, .int x2), (3, .int x3), (4, .int x4)] → W p l e ({ frames := 1, cells := 0, slots := 0, locals := 25 } : Room) s m args below meth c H locs 0 0 (MQ below (QI 45 ceM D ad κ R) args s 0 0 (AX 45 ad)) (F0 m 85 ls []) := by
  have hx := C.1
  have hb := C.2.1
  have hown := C.2.2.2.1
  have hts := C.2.2.2.2.1
  intro x1 x2 x3 x4 σ H locs ls h hH hl
  rw [FX12_sign_85] at h
  refine lv_iload_n hx hb dX12_sign_85 rfl (lv_at hl 2 rfl) ?_
  refine lv_bipush (v := 60) hx hb dX12_sign_86 (by decide) ?_
  refine lv_icmp_ne (tgt := 95) hx hb dX12_sign_88 (by decide) (fun hq_3 => ?_) (fun hq_3 => ?_)
  · rw [if_neg hq_3] at h
    exact wX12_sign_95 C  _ _ _ _ _ _ _ _ h hH (lv_sub hl [0, 1, 2, 3, 4] rfl)
  · rw [if_pos hq_3] at h
    refine lv_bipush (v := 13) hx hb dX12_sign_91 (by decide) ?_
    refine lv_istore (lv' := [(4, .int (13 : Int32)), (0, .ref (ad 0)), (1, .int x1), (2, .int x2), (3, .int x3)]) hx hb dX12_sign_93 hl (by decide) rfl (fun ls hl => ?_)
    exact wX12_sign_95 C  _ _ _ _ _ _ _ _ h hH (lv_sub hl [1, 2, 3, 4, 0] rfl)
set_option maxHeartbeats 4000000 in
set_option maxRecDepth 100000 in
theorem wX12_sign_75 (C : Cx 45 D ad κ p s m args meth c cX12_sign RX12 5 (some .int)) {R : (Int32 × HS)} : ∀ (x1 : Int32) (x2 : Int32) (x3 : Int32) (x4 : Int32) (σ : HS) (H : Heap) (locs : List Loc) (ls : Array Slot), FX12_sign_75  x1 x2 x3 x4 σ = some R → Hd 45 ceM D ad κ s σ H locs → lv_has ls 5 [(0, .ref (ad 0)), (1, .int x1), (2, .int x2), (3, .int x3), (4, .int x4)] → W p l e ({ frames := 1, cells := 0, slots := 0, locals := 25 } : Room) s m args below meth c H locs 0 0 (MQ below (QI 45 ceM D ad κ R) args s 0 0 (AX 45 ad)) (F0 m 75 ls []) := by
  have hx := C.1
  have hb := C.2.1
  have hown := C.2.2.2.1
  have hts := C.2.2.2.2.1
  intro x1 x2 x3 x4 σ H locs ls h hH hl
  rw [FX12_sign_75] at h
  refine lv_iload_n hx hb dX12_sign_75 rfl (lv_at hl 2 rfl) ?_
  refine lv_bipush (v := 47) hx hb dX12_sign_76 (by decide) ?_
  refine lv_icmp_ne (tgt := 85) hx hb dX12_sign_78 (by decide) (fun hq_4 => ?_) (fun hq_4 => ?_)
  · rw [if_neg hq_4] at h
    exact wX12_sign_85 C  _ _ _ _ _ _ _ _ h hH (lv_sub hl [0, 1, 2, 3, 4] rfl)
  · rw [if_pos hq_4] at h
    refine lv_bipush (v := 15) hx hb dX12_sign_81 (by decide) ?_
    refine lv_istore (lv' := [(4, .int (15 : Int32)), (0, .ref (ad 0)), (1, .int x1), (2, .int x2), (3, .int x3)]) hx hb dX12_sign_83 hl (by decide) rfl (fun ls hl => ?_)
    exact wX12_sign_85 C  _ _ _ _ _ _ _ _ h hH (lv_sub hl [1, 2, 3, 4, 0] rfl)
set_option maxHeartbeats 4000000 in
set_option maxRecDepth 100000 in
theorem wX12_sign_65 (C : Cx 45 D ad κ p s m args meth c cX12_sign RX12 5 (some .int)) {R : (Int32 × HS)} : ∀ (x1 : Int32) (x2 : Int32) (x3 : Int32) (x4 : Int32) (σ : HS) (H : Heap) (locs : List Loc) (ls : Array Slot), FX12_sign_65  x1 x2 x3 x4 σ = some R → Hd 45 ceM D ad κ s σ H locs → lv_has ls 5 [(0, .ref (ad 0)), (1, .int x1), (2, .int x2), (3, .int x3), (4, .int x4)] → W p l e ({ frames := 1, cells := 0, slots := 0, locals := 25 } : Room) s m args below meth c H locs 0 0 (MQ below (QI 45 ceM D ad κ R) args s 0 0 (AX 45 ad)) (F0 m 65 ls []) := by
  have hx := C.1
  have hb := C.2.1
  have hown := C.2.2.2.1
  have hts := C.2.2.2.2.1
  intro x1 x2 x3 x4 σ H locs ls h hH hl
  rw [FX12_sign_65] at h
  refine lv_iload_n hx hb dX12_sign_65 rfl (lv_at hl 2 rfl) ?_
  refine lv_bipush (v := 42) hx hb dX12_sign_66 (by decide) ?_
  refine lv_icmp_ne (tgt := 75) hx hb dX12_sign_68 (by decide) (fun hq_5 => ?_) (fun hq_5 => ?_)
  · rw [if_neg hq_5] at h
    exact wX12_sign_75 C  _ _ _ _ _ _ _ _ h hH (lv_sub hl [0, 1, 2, 3, 4] rfl)
  · rw [if_pos hq_5] at h
    refine lv_bipush (v := 10) hx hb dX12_sign_71 (by decide) ?_
    refine lv_istore (lv' := [(4, .int (10 : Int32)), (0, .ref (ad 0)), (1, .int x1), (2, .int x2), (3, .int x3)]) hx hb dX12_sign_73 hl (by decide) rfl (fun ls hl => ?_)
    exact wX12_sign_75 C  _ _ _ _ _ _ _ _ h hH (lv_sub hl [1, 2, 3, 4, 0] rfl)
set_option maxHeartbeats 4000000 in
set_option maxRecDepth 100000 in
theorem wX12_sign_55 (C : Cx 45 D ad κ p s m args meth c cX12_sign RX12 5 (some .int)) {R : (Int32 × HS)} : ∀ (x1 : Int32) (x2 : Int32) (x3 : Int32) (x4 : Int32) (σ : HS) (H : Heap) (locs : List Loc) (ls : Array Slot), FX12_sign_55  x1 x2 x3 x4 σ = some R → Hd 45 ceM D ad κ s σ H locs → lv_has ls 5 [(0, .ref (ad 0)), (1, .int x1), (2, .int x2), (3, .int x3), (4, .int x4)] → W p l e ({ frames := 1, cells := 0, slots := 0, locals := 25 } : Room) s m args below meth c H locs 0 0 (MQ below (QI 45 ceM D ad κ R) args s 0 0 (AX 45 ad)) (F0 m 55 ls []) := by
  have hx := C.1
  have hb := C.2.1
  have hown := C.2.2.2.1
  have hts := C.2.2.2.2.1
  intro x1 x2 x3 x4 σ H locs ls h hH hl
  rw [FX12_sign_55] at h
  refine lv_iload_n hx hb dX12_sign_55 rfl (lv_at hl 2 rfl) ?_
  refine lv_bipush (v := 45) hx hb dX12_sign_56 (by decide) ?_
  refine lv_icmp_ne (tgt := 65) hx hb dX12_sign_58 (by decide) (fun hq_6 => ?_) (fun hq_6 => ?_)
  · rw [if_neg hq_6] at h
    exact wX12_sign_65 C  _ _ _ _ _ _ _ _ h hH (lv_sub hl [0, 1, 2, 3, 4] rfl)
  · rw [if_pos hq_6] at h
    refine lv_bipush (v := 9) hx hb dX12_sign_61 (by decide) ?_
    refine lv_istore (lv' := [(4, .int (9 : Int32)), (0, .ref (ad 0)), (1, .int x1), (2, .int x2), (3, .int x3)]) hx hb dX12_sign_63 hl (by decide) rfl (fun ls hl => ?_)
    exact wX12_sign_65 C  _ _ _ _ _ _ _ _ h hH (lv_sub hl [1, 2, 3, 4, 0] rfl)
set_option maxHeartbeats 4000000 in
set_option maxRecDepth 100000 in
theorem wX12_sign_43 (C : Cx 45 D ad κ p s m args meth c cX12_sign RX12 5 (some .int)) {R : (Int32 × HS)} : ∀ (x1 : Int32) (x2 : Int32) (x3 : Int32) (y0 : Int32) (σ : HS) (H : Heap) (locs : List Loc) (ls : Array Slot), FX12_sign_43  x1 x2 x3 y0 σ = some R → Hd 45 ceM D ad κ s σ H locs → lv_has ls 5 [(0, .ref (ad 0)), (1, .int x1), (2, .int x2), (3, .int x3)] → W p l e ({ frames := 1, cells := 0, slots := 0, locals := 25 } : Room) s m args below meth c H locs 0 0 (MQ below (QI 45 ceM D ad κ R) args s 0 0 (AX 45 ad)) (F0 m 43 ls [.int y0]) := by
  have hx := C.1
  have hb := C.2.1
  have hown := C.2.2.2.1
  have hts := C.2.2.2.2.1
  intro x1 x2 x3 y0 σ H locs ls h hH hl
  rw [FX12_sign_43] at h
  refine lv_istore (lv' := [(4, .int y0), (0, .ref (ad 0)), (1, .int x1), (2, .int x2), (3, .int x3)]) hx hb dX12_sign_43 hl (by decide) rfl (fun ls hl => ?_)
  refine lv_iload_n hx hb dX12_sign_45 rfl (lv_at hl 3 rfl) ?_
  refine lv_bipush (v := 43) hx hb dX12_sign_46 (by decide) ?_
  refine lv_icmp_ne (tgt := 55) hx hb dX12_sign_48 (by decide) (fun hq_7 => ?_) (fun hq_7 => ?_)
  · rw [if_neg hq_7] at h
    exact wX12_sign_55 C  _ _ _ _ _ _ _ _ h hH (lv_sub hl [1, 2, 3, 4, 0] rfl)
  · rw [if_pos hq_7] at h
    refine lv_bipush (v := 8) hx hb dX12_sign_51 (by decide) ?_
    refine lv_istore (lv' := [(4, .int (8 : Int32)), (0, .ref (ad 0)), (1, .int x1), (2, .int x2), (3, .int x3)]) hx hb dX12_sign_53 hl (by decide) rfl (fun ls hl => ?_)
    exact wX12_sign_55 C  _ _ _ _ _ _ _ _ h hH (lv_sub hl [1, 2, 3, 4, 0] rfl)
set_option maxHeartbeats 4000000 in
set_option maxRecDepth 100000 in
theorem kX12_sign (l : Launch) (D : va_G) (ad : Nat → Nat) (κ : KC) {x1 : Int32} {x2 : Int32} {x3 : Int32} {σ : HS} {R : (Int32 × HS)} (h : FX12_sign x1 x2 x3 σ = some R) : MtI l 45 ceM D ad κ yX12_sign cX12_sign 5 (some .int) ({ frames := 1, cells := 0, slots := 0, locals := 25 } : Room) [.ref (ad 0), .int x1, .int x2, .int x3] σ R := by
  refine open_ (by decide) (Nat.le_of_ble_eq_true rfl) (la := [(0, .ref (ad 0)), (1, .int x1), (2, .int x2), (3, .int x3)]) rfl ?_
  intro p e s m below meth c ls C hH hl
  replace C : Cx 45 D ad κ p s m _ meth c cX12_sign RX12 5 (some .int) := C
  have hx := C.1
  have hb := C.2.1
  have hown := C.2.2.2.1
  have hts := C.2.2.2.2.1
  rw [FX12_sign] at h
  refine lv_iload_n hx hb dX12_sign_0 rfl (lv_at hl 2 rfl) ?_
  refine lv_bipush (v := 59) hx hb dX12_sign_1 (by decide) ?_
  refine lv_icmp_ne (tgt := 10) hx hb dX12_sign_3 (by decide) (fun hq_8 => ?_) (fun hq_8 => ?_)
  · rw [if_neg hq_8] at h
    refine lv_iload_n hx hb dX12_sign_10 rfl (lv_at hl 2 rfl) ?_
    refine lv_bipush (v := 61) hx hb dX12_sign_11 (by decide) ?_
    refine lv_icmp_ne (tgt := 20) hx hb dX12_sign_13 (by decide) (fun hq_9 => ?_) (fun hq_9 => ?_)
    · rw [if_neg hq_9] at h
      refine lv_iload_n hx hb dX12_sign_20 rfl (lv_at hl 2 rfl) ?_
      refine lv_bipush (v := 40) hx hb dX12_sign_21 (by decide) ?_
      refine lv_icmp_ne (tgt := 31) hx hb dX12_sign_23 (by decide) (fun hq_10 => ?_) (fun hq_10 => ?_)
      · rw [if_neg hq_10] at h
        refine lv_iload_n hx hb dX12_sign_31 rfl (lv_at hl 2 rfl) ?_
        refine lv_bipush (v := 41) hx hb dX12_sign_32 (by decide) ?_
        refine lv_icmp_ne (tgt := 42) hx hb dX12_sign_34 (by decide) (fun hq_11 => ?_) (fun hq_11 => ?_)
        · rw [if_neg hq_11] at h
          refine lv_iconst (v := 3) hx hb dX12_sign_42 (by decide) ?_
          exact wX12_sign_43 C  _ _ _ _ _ _ _ _ h hH (lv_sub hl [0, 1, 2, 3] rfl)
        · rw [if_pos hq_11] at h
          refine lv_bipush (v := 7) hx hb dX12_sign_37 (by decide) ?_
          refine lv_goto (tgt := 43) hx hb dX12_sign_39 (by decide) ?_
          exact wX12_sign_43 C  _ _ _ _ _ _ _ _ h hH (lv_sub hl [0, 1, 2, 3] rfl)
      · rw [if_pos hq_10] at h
        refine lv_bipush (v := 6) hx hb dX12_sign_26 (by decide) ?_
        refine lv_goto (tgt := 43) hx hb dX12_sign_28 (by decide) ?_
        exact wX12_sign_43 C  _ _ _ _ _ _ _ _ h hH (lv_sub hl [0, 1, 2, 3] rfl)
    · rw [if_pos hq_9] at h
      refine lv_iconst (v := 5) hx hb dX12_sign_16 (by decide) ?_
      refine lv_goto (tgt := 43) hx hb dX12_sign_17 (by decide) ?_
      exact wX12_sign_43 C  _ _ _ _ _ _ _ _ h hH (lv_sub hl [0, 1, 2, 3] rfl)
  · rw [if_pos hq_8] at h
    refine lv_iconst (v := 4) hx hb dX12_sign_6 (by decide) ?_
    refine lv_goto (tgt := 43) hx hb dX12_sign_7 (by decide) ?_
    exact wX12_sign_43 C  _ _ _ _ _ _ _ _ h hH (lv_sub hl [0, 1, 2, 3] rfl)
-- X12_cut
def FX12_cut_179 (k7 : Int32 → HS → Option HS) (x1 : Int32) (x2 : Int32) (x3 : Int32) (x4 : Int64) (x6 : Int32) (σ : HS) : Option HS :=
  bdV (FX12_token x6 x1 (0 : Int32) x4 σ) fun σ_1 => hl_ (x1 + x3) fun x1_3 => k7 x1_3 σ_1
def FX12_cut_146 (k7 : Int32 → HS → Option HS) : Nat → Int32 → Int32 → Int32 → Int64 → Int32 → Int32 → HS → Option HS
  | 0, _, _, _, _, _, _, _ => none
  | f + 1, x1, x2, x3, x4, x6, x7, σ => if (22 : Int32) ≤ x7 then FX12_cut_179 k7 x1 x2 x3 x4 x6 σ else gd (ix x7 22) (if (lg_cmp (σ.2 7 (x7.toNatClampNeg)) x4) = 0 then hl_ ((20 : Int32) + x7) fun x6_7 => FX12_cut_146 k7 f x1 x2 x3 x4 x6_7 (x7 + 1) σ else FX12_cut_146 k7 f x1 x2 x3 x4 x6 (x7 + 1) σ)
def FX12_cut_135 (k7 : Int32 → HS → Option HS) (x1 : Int32) (x2 : Int32) (x3 : Int32) (x4 : Int64) (y0 : Int32) (σ : HS) : Option HS :=
  if (8 : Int32) < x3 then FX12_cut_179 k7 x1 x2 x3 x4 y0 σ else FX12_cut_146 k7 fu x1 x2 x3 x4 y0 (0 : Int32) σ
def FX12_cut_85 (k7 : Int32 → HS → Option HS) : Nat → Int32 → Int32 → Int32 → Int64 → HS → Option HS
  | 0, _, _, _, _, _ => none
  | f + 1, x1, x2, x3, x4, σ => bdI (FX12_byteAt (x1 + x3) σ) fun r_9 σ_10 => bdI (FX12_isLetter r_9 σ_10) fun r_12 σ_13 => if r_12 = 0 then if x3 ≤ (8 : Int32) then FX12_cut_135 k7 x1 x2 x3 x4 (1 : Int32) σ_13 else FX12_cut_135 k7 x1 x2 x3 x4 (3 : Int32) σ_13 else if (8 : Int32) ≤ x3 then FX12_cut_85 k7 f x1 x2 (x3 + 1) x4 σ_13 else bdI (FX12_byteAt (x1 + x3) σ_13) fun r_18 σ_19 => bdL (FX12_appends x4 r_18 σ_19) fun r_21 σ_22 => FX12_cut_85 k7 f x1 x2 (x3 + 1) r_21 σ_22
def FX12_cut_261 (k7 : Int32 → HS → Option HS) (x1 : Int32) (x2 : Int32) (x3 : Int32) (x4 : Int32) (y1 : Int32) (σ : HS) : Option HS :=
  bdV (FX12_token y1 x1 x4 (0 : Int64) σ) fun σ_24 => hl_ (x1 + x3) fun x1_26 => k7 x1_26 σ_24
def FX12_cut_208 (k7 : Int32 → HS → Option HS) : Nat → Int32 → Int32 → Int32 → Int32 → HS → Option HS
  | 0, _, _, _, _, _ => none
  | f + 1, x1, x2, x3, x4, σ => bdI (FX12_byteAt (x1 + x3) σ) fun r_27 σ_28 => bdI (FX12_isDigit r_27 σ_28) fun r_30 σ_31 => if r_30 = 0 then if x3 ≤ (4 : Int32) then FX12_cut_261 k7 x1 x2 x3 x4 (2 : Int32) σ_31 else FX12_cut_261 k7 x1 x2 x3 x4 (3 : Int32) σ_31 else if (4 : Int32) ≤ x3 then FX12_cut_208 k7 f x1 x2 (x3 + 1) x4 σ_31 else bdI (FX12_byteAt (x1 + x3) σ_31) fun r_36 σ_37 => hl_ ((((10 : Int32) * x4) + r_36) - (48 : Int32)) fun x4_39 => FX12_cut_208 k7 f x1 x2 (x3 + 1) x4_39 σ_37
def FX12_cut_7  : Nat → Int32 → HS → Option HS
  | 0, _, _ => none
  | f + 1, x1, σ => if (400 : Int32) < (σ.1 0 10) then some σ else bdI (FX12_byteAt x1 σ) fun r_41 σ_42 => if x1 < (σ_42.1 0 4) then if r_41 = (9 : Int32) then FX12_cut_7  f (x1 + 1) σ_42 else if r_41 = (10 : Int32) then FX12_cut_7  f (x1 + 1) σ_42 else if r_41 = (13 : Int32) then FX12_cut_7  f (x1 + 1) σ_42 else if r_41 = (32 : Int32) then FX12_cut_7  f (x1 + 1) σ_42 else bdI (FX12_isLetter r_41 σ_42) fun r_49 σ_50 => if r_49 = 0 then bdI (FX12_isDigit r_41 σ_50) fun r_53 σ_54 => if r_53 = 0 then bdI (FX12_byteAt (x1 + (1 : Int32)) σ_54) fun r_57 σ_58 => bdI (FX12_sign x1 r_41 r_57 σ_58) fun r_60 σ_61 => hl_ (x1 + r_60) fun x1_63 => FX12_cut_7  f x1_63 σ_61 else FX12_cut_208 (FX12_cut_7  f) fu x1 r_41 (0 : Int32) (0 : Int32) σ_54 else FX12_cut_85 (FX12_cut_7  f) fu x1 r_41 (0 : Int32) (0 : Int64) σ_50 else bdV (FX12_token (0 : Int32) (σ_42.1 0 4) (0 : Int32) (0 : Int64) σ_42) fun σ_64 => some σ_64
def FX12_cut (σ : HS) : Option HS :=
  hl_ (pI σ 0 10 (0 : Int32)) fun σ_66 => FX12_cut_7 fu (0 : Int32) σ_66
set_option maxHeartbeats 4000000 in
set_option maxRecDepth 100000 in
theorem wX12_cut_179 (C : Cx 45 D ad κ p s m args meth c cX12_cut RX12 8 none) {R : HS} {k7 : Int32 → HS → Option HS} (K7 : ∀ (x1 : Int32) (σ : HS) (H : Heap) (locs : List Loc) (ls : Array Slot), k7 x1 σ = some R → Hd 45 ceM D ad κ s σ H locs → lv_has ls 8 [(0, .ref (ad 0)), (1, .int x1)] → W p l e ({ frames := 2, cells := 0, slots := 0, locals := 49 } : Room) s m args below meth c H locs 0 0 (MQ below (QV 45 ceM D ad κ R) args s 0 0 (AX 45 ad)) (F0 m 7 ls [])) : ∀ (x1 : Int32) (x2 : Int32) (x3 : Int32) (x4 : Int64) (x6 : Int32) (σ : HS) (H : Heap) (locs : List Loc) (ls : Array Slot), FX12_cut_179 k7 x1 x2 x3 x4 x6 σ = some R → Hd 45 ceM D ad κ s σ H locs → lv_has ls 8 [(0, .ref (ad 0)), (1, .int x1), (2, .int x2), (3, .int x3), (4, .long x4), (6, .int x6)] → W p l e ({ frames := 2, cells := 0, slots := 0, locals := 49 } : Room) s m args below meth c H locs 0 0 (MQ below (QV 45 ceM D ad κ R) args s 0 0 (AX 45 ad)) (F0 m 179 ls []) := by
  have hx := C.1
  have hb := C.2.1
  have hown := C.2.2.2.1
  have hts := C.2.2.2.2.1
  intro x1 x2 x3 x4 x6 σ H locs ls h hH hl
  rw [FX12_cut_179] at h
  refine lv_aload_n hx hb dX12_cut_179 rfl (lv_at hl 0 rfl) ?_
  refine lv_iload hx hb dX12_cut_180 (lv_at hl 5 rfl) ?_
  refine lv_iload_n hx hb dX12_cut_182 rfl (lv_at hl 1 rfl) ?_
  refine lv_iconst (v := 0) hx hb dX12_cut_183 (by decide) ?_
  refine lv_lload hx hb dX12_cut_184 (lv_at hl 4 rfl) ?_
  obtain ⟨σ_1, hc_2, h⟩ := bdV_ex h
  refine g_cv (g_runV (rest := []) C hH hl.1 cV_X12_188 0 (Nat.le_of_ble_eq_true rfl) rfl rfl (kX12_token l D ad κ hc_2) ⟨rfl, rfl⟩ ⟨(Nat.le_of_ble_eq_true rfl), (Nat.le_of_ble_eq_true rfl)⟩ rfl rfl (Nat.le_of_ble_eq_true rfl) dX12_cut_186 z00) hH (fun H locs hH => ?_)
  refine lv_iload_n hx hb dX12_cut_189 rfl (lv_at hl 1 rfl) ?_
  refine lv_iload_n hx hb dX12_cut_190 rfl (lv_at hl 3 rfl) ?_
  refine lv_iadd hx hb dX12_cut_191 ?_
  obtain ⟨x1_3, ex1_3, h⟩ := hl_ex h
  refine lv_eqi ex1_3 ?_
  refine lv_istore_n (lv' := [(1, .int x1_3), (0, .ref (ad 0)), (2, .int x2), (3, .int x3), (4, .long x4), (6, .int x6)]) hx hb dX12_cut_192 rfl hl (by decide) rfl (fun ls hl => ?_)
  refine lv_goto (tgt := 291) hx hb dX12_cut_193 (by decide) ?_
  refine lv_goto (tgt := 7) hx hb dX12_cut_291 (by decide) ?_
  exact K7 _ _ _ _ _ h hH (lv_sub hl [1, 0] rfl)
set_option maxHeartbeats 4000000 in
set_option maxRecDepth 100000 in
theorem wX12_cut_146 (C : Cx 45 D ad κ p s m args meth c cX12_cut RX12 8 none) {R : HS} {k7 : Int32 → HS → Option HS} (K7 : ∀ (x1 : Int32) (σ : HS) (H : Heap) (locs : List Loc) (ls : Array Slot), k7 x1 σ = some R → Hd 45 ceM D ad κ s σ H locs → lv_has ls 8 [(0, .ref (ad 0)), (1, .int x1)] → W p l e ({ frames := 2, cells := 0, slots := 0, locals := 49 } : Room) s m args below meth c H locs 0 0 (MQ below (QV 45 ceM D ad κ R) args s 0 0 (AX 45 ad)) (F0 m 7 ls [])) : ∀ (f : Nat) (x1 : Int32) (x2 : Int32) (x3 : Int32) (x4 : Int64) (x6 : Int32) (x7 : Int32) (σ : HS) (H : Heap) (locs : List Loc) (ls : Array Slot), FX12_cut_146 k7 f x1 x2 x3 x4 x6 x7 σ = some R → Hd 45 ceM D ad κ s σ H locs → lv_has ls 8 [(0, .ref (ad 0)), (1, .int x1), (2, .int x2), (3, .int x3), (4, .long x4), (6, .int x6), (7, .int x7)] → W p l e ({ frames := 2, cells := 0, slots := 0, locals := 49 } : Room) s m args below meth c H locs 0 0 (MQ below (QV 45 ceM D ad κ R) args s 0 0 (AX 45 ad)) (F0 m 146 ls []) := by
  have hx := C.1
  have hb := C.2.1
  have hown := C.2.2.2.1
  have hts := C.2.2.2.2.1
  intro f
  induction f with
  | zero =>
    intro x1 x2 x3 x4 x6 x7 σ H locs ls h hH hl
    cases h
  | succ f ih =>
    intro x1 x2 x3 x4 x6 x7 σ H locs ls h hH hl
    rw [FX12_cut_146] at h
    refine lv_iload hx hb dX12_cut_146 (lv_at hl 6 rfl) ?_
    refine lv_bipush (v := 22) hx hb dX12_cut_148 (by decide) ?_
    refine lv_icmp_ge (tgt := 179) hx hb dX12_cut_150 (by decide) (fun hq_4 => ?_) (fun hq_4 => ?_)
    · rw [if_pos hq_4] at h
      exact wX12_cut_179 C K7  _ _ _ _ _ _ _ _ _ h hH (lv_sub hl [0, 1, 2, 3, 4, 5] rfl)
    · rw [if_neg hq_4] at h
      refine lv_aload_n hx hb dX12_cut_153 rfl (lv_at hl 0 rfl) ?_
      refine g_get C hH 0 (Nat.le_of_ble_eq_true rfl) rfl fl_X12_34 (v := .ref (ad 7)) rfl dX12_cut_154 ?_
      refine lv_iload hx hb dX12_cut_157 (lv_at hl 6 rfl) ?_
      obtain ⟨hi_5, h⟩ := gd_ex h
      refine g_lald C hH 7 (Nat.le_of_ble_eq_true rfl) rfl (k := (x7.toNatClampNeg)) rfl (ix_in hi_5) dX12_cut_159 ?_
      refine lv_lload hx hb dX12_cut_160 (lv_at hl 4 rfl) ?_
      refine W.lcmp hx hb dX12_cut_162 ?_
      refine lv_if_ne (tgt := 173) hx hb dX12_cut_163 (by decide) (fun hq_6 => ?_) (fun hq_6 => ?_)
      · rw [if_neg hq_6] at h
        refine lv_iinc (v := (x7 + 1)) (lv' := [(7, .int (x7 + 1)), (0, .ref (ad 0)), (1, .int x1), (2, .int x2), (3, .int x3), (4, .long x4), (6, .int x6)]) hx hb dX12_cut_173 hl (k := 6) rfl rfl (by decide) rfl (fun ls hl => ?_)
        refine lv_goto (tgt := 146) hx hb dX12_cut_176 (by decide) ?_
        exact ih _ _ _ _ _ _ _ _ _ _ h hH (lv_sub hl [1, 2, 3, 4, 5, 6, 0] rfl)
      · rw [if_pos hq_6] at h
        refine lv_bipush (v := 20) hx hb dX12_cut_166 (by decide) ?_
        refine lv_iload hx hb dX12_cut_168 (lv_at hl 6 rfl) ?_
        refine lv_iadd hx hb dX12_cut_170 ?_
        obtain ⟨x6_7, ex6_7, h⟩ := hl_ex h
        refine lv_eqi ex6_7 ?_
        refine lv_istore (lv' := [(6, .int x6_7), (0, .ref (ad 0)), (1, .int x1), (2, .int x2), (3, .int x3), (4, .long x4), (7, .int x7)]) hx hb dX12_cut_171 hl (by decide) rfl (fun ls hl => ?_)
        refine lv_iinc (v := (x7 + 1)) (lv' := [(7, .int (x7 + 1)), (6, .int x6_7), (0, .ref (ad 0)), (1, .int x1), (2, .int x2), (3, .int x3), (4, .long x4)]) hx hb dX12_cut_173 hl (k := 6) rfl rfl (by decide) rfl (fun ls hl => ?_)
        refine lv_goto (tgt := 146) hx hb dX12_cut_176 (by decide) ?_
        exact ih _ _ _ _ _ _ _ _ _ _ h hH (lv_sub hl [2, 3, 4, 5, 6, 1, 0] rfl)
set_option maxHeartbeats 4000000 in
set_option maxRecDepth 100000 in
theorem wX12_cut_135 (C : Cx 45 D ad κ p s m args meth c cX12_cut RX12 8 none) {R : HS} {k7 : Int32 → HS → Option HS} (K7 : ∀ (x1 : Int32) (σ : HS) (H : Heap) (locs : List Loc) (ls : Array Slot), k7 x1 σ = some R → Hd 45 ceM D ad κ s σ H locs → lv_has ls 8 [(0, .ref (ad 0)), (1, .int x1)] → W p l e ({ frames := 2, cells := 0, slots := 0, locals := 49 } : Room) s m args below meth c H locs 0 0 (MQ below (QV 45 ceM D ad κ R) args s 0 0 (AX 45 ad)) (F0 m 7 ls [])) : ∀ (x1 : Int32) (x2 : Int32) (x3 : Int32) (x4 : Int64) (y0 : Int32) (σ : HS) (H : Heap) (locs : List Loc) (ls : Array Slot), FX12_cut_135 k7 x1 x2 x3 x4 y0 σ = some R → Hd 45 ceM D ad κ s σ H locs → lv_has ls 8 [(0, .ref (ad 0)), (1, .int x1), (2, .int x2), (3, .int x3), (4, .long x4)] → W p l e ({ frames := 2, cells := 0, slots := 0, locals := 49 } : Room) s m args below meth c H locs 0 0 (MQ below (QV 45 ceM D ad κ R) args s 0 0 (AX 45 ad)) (F0 m 135 ls [.int y0]) := by
  have hx := C.1
  have hb := C.2.1
  have hown := C.2.2.2.1
  have hts := C.2.2.2.2.1
  intro x1 x2 x3 x4 y0 σ H locs ls h hH hl
  rw [FX12_cut_135] at h
  refine lv_istore (lv' := [(6, .int y0), (0, .ref (ad 0)), (1, .int x1), (2, .int x2), (3, .int x3), (4, .long x4)]) hx hb dX12_cut_135 hl (by decide) rfl (fun ls hl => ?_)
  refine lv_iload_n hx hb dX12_cut_137 rfl (lv_at hl 4 rfl) ?_
  refine lv_bipush (v := 8) hx hb dX12_cut_138 (by decide) ?_
  refine lv_icmp_gt (tgt := 179) hx hb dX12_cut_140 (by decide) (fun hq_8 => ?_) (fun hq_8 => ?_)
  · rw [if_pos hq_8] at h
    exact wX12_cut_179 C K7  _ _ _ _ _ _ _ _ _ h hH (lv_sub hl [1, 2, 3, 4, 5, 0] rfl)
  · rw [if_neg hq_8] at h
    refine lv_iconst (v := 0) hx hb dX12_cut_143 (by decide) ?_
    refine lv_istore (lv' := [(7, .int (0 : Int32)), (6, .int y0), (0, .ref (ad 0)), (1, .int x1), (2, .int x2), (3, .int x3), (4, .long x4)]) hx hb dX12_cut_144 hl (by decide) rfl (fun ls hl => ?_)
    exact wX12_cut_146 C K7 _ _ _ _ _ _ _ _ _ _ _ h hH (lv_sub hl [2, 3, 4, 5, 6, 1, 0] rfl)
set_option maxHeartbeats 4000000 in
set_option maxRecDepth 100000 in
theorem wX12_cut_85 (C : Cx 45 D ad κ p s m args meth c cX12_cut RX12 8 none) {R : HS} {k7 : Int32 → HS → Option HS} (K7 : ∀ (x1 : Int32) (σ : HS) (H : Heap) (locs : List Loc) (ls : Array Slot), k7 x1 σ = some R → Hd 45 ceM D ad κ s σ H locs → lv_has ls 8 [(0, .ref (ad 0)), (1, .int x1)] → W p l e ({ frames := 2, cells := 0, slots := 0, locals := 49 } : Room) s m args below meth c H locs 0 0 (MQ below (QV 45 ceM D ad κ R) args s 0 0 (AX 45 ad)) (F0 m 7 ls [])) : ∀ (f : Nat) (x1 : Int32) (x2 : Int32) (x3 : Int32) (x4 : Int64) (σ : HS) (H : Heap) (locs : List Loc) (ls : Array Slot), FX12_cut_85 k7 f x1 x2 x3 x4 σ = some R → Hd 45 ceM D ad κ s σ H locs → lv_has ls 8 [(0, .ref (ad 0)), (1, .int x1), (2, .int x2), (3, .int x3), (4, .long x4)] → W p l e ({ frames := 2, cells := 0, slots := 0, locals := 49 } : Room) s m args below meth c H locs 0 0 (MQ below (QV 45 ceM D ad κ R) args s 0 0 (AX 45 ad)) (F0 m 85 ls []) := by
  have hx := C.1
  have hb := C.2.1
  have hown := C.2.2.2.1
  have hts := C.2.2.2.2.1
  intro f
  induction f with
  | zero =>
    intro x1 x2 x3 x4 σ H locs ls h hH hl
    cases h
  | succ f ih =>
    intro x1 x2 x3 x4 σ H locs ls h hH hl
    rw [FX12_cut_85] at h
    refine lv_aload_n hx hb dX12_cut_85 rfl (lv_at hl 0 rfl) ?_
    refine lv_iload_n hx hb dX12_cut_86 rfl (lv_at hl 1 rfl) ?_
    refine lv_iload_n hx hb dX12_cut_87 rfl (lv_at hl 3 rfl) ?_
    refine lv_iadd hx hb dX12_cut_88 ?_
    obtain ⟨r_9, σ_10, hc_11, h⟩ := bdI_ex h
    refine g_ci (g_runV (rest := []) C hH hl.1 cV_X12_184 0 (Nat.le_of_ble_eq_true rfl) rfl rfl (kX12_byteAt l D ad κ hc_11) ⟨rfl, rfl⟩ ⟨(Nat.le_of_ble_eq_true rfl), (Nat.le_of_ble_eq_true rfl)⟩ rfl rfl (Nat.le_of_ble_eq_true rfl) dX12_cut_89 z00) hH (fun H locs hH => ?_)
    obtain ⟨r_12, σ_13, hc_14, h⟩ := bdI_ex h
    refine g_ci (g_runS (rest := []) C hH hl.1 cS_X12_192 (kX12_isLetter l D ad κ hc_14) ⟨rfl, rfl⟩ ⟨(Nat.le_of_ble_eq_true rfl), (Nat.le_of_ble_eq_true rfl)⟩ rfl rfl (Nat.le_of_ble_eq_true rfl) dX12_cut_92 z00) hH (fun H locs hH => ?_)
    refine lv_if_eq (tgt := 124) hx hb dX12_cut_95 (by decide) (fun hq_15 => ?_) (fun hq_15 => ?_)
    · rw [if_pos hq_15] at h
      refine lv_iload_n hx hb dX12_cut_124 rfl (lv_at hl 3 rfl) ?_
      refine lv_bipush (v := 8) hx hb dX12_cut_125 (by decide) ?_
      refine lv_icmp_le (tgt := 134) hx hb dX12_cut_127 (by decide) (fun hq_16 => ?_) (fun hq_16 => ?_)
      · rw [if_pos hq_16] at h
        refine lv_iconst (v := 1) hx hb dX12_cut_134 (by decide) ?_
        exact wX12_cut_135 C K7  _ _ _ _ _ _ _ _ _ h hH (lv_sub hl [0, 1, 2, 3, 4] rfl)
      · rw [if_neg hq_16] at h
        refine lv_iconst (v := 3) hx hb dX12_cut_130 (by decide) ?_
        refine lv_goto (tgt := 135) hx hb dX12_cut_131 (by decide) ?_
        exact wX12_cut_135 C K7  _ _ _ _ _ _ _ _ _ h hH (lv_sub hl [0, 1, 2, 3, 4] rfl)
    · rw [if_neg hq_15] at h
      refine lv_iload_n hx hb dX12_cut_98 rfl (lv_at hl 3 rfl) ?_
      refine lv_bipush (v := 8) hx hb dX12_cut_99 (by decide) ?_
      refine lv_icmp_ge (tgt := 118) hx hb dX12_cut_101 (by decide) (fun hq_17 => ?_) (fun hq_17 => ?_)
      · rw [if_pos hq_17] at h
        refine lv_iinc (v := (x3 + 1)) (lv' := [(3, .int (x3 + 1)), (0, .ref (ad 0)), (1, .int x1), (2, .int x2), (4, .long x4)]) hx hb dX12_cut_118 hl (k := 3) rfl rfl (by decide) rfl (fun ls hl => ?_)
        refine lv_goto (tgt := 85) hx hb dX12_cut_121 (by decide) ?_
        exact ih _ _ _ _ _ _ _ _ h hH (lv_sub hl [1, 2, 3, 0, 4] rfl)
      · rw [if_neg hq_17] at h
        refine lv_lload hx hb dX12_cut_104 (lv_at hl 4 rfl) ?_
        refine lv_aload_n hx hb dX12_cut_106 rfl (lv_at hl 0 rfl) ?_
        refine lv_iload_n hx hb dX12_cut_107 rfl (lv_at hl 1 rfl) ?_
        refine lv_iload_n hx hb dX12_cut_108 rfl (lv_at hl 3 rfl) ?_
        refine lv_iadd hx hb dX12_cut_109 ?_
        obtain ⟨r_18, σ_19, hc_20, h⟩ := bdI_ex h
        refine g_ci (g_runV (rest := [.long x4]) C hH hl.1 cV_X12_184 0 (Nat.le_of_ble_eq_true rfl) rfl rfl (kX12_byteAt l D ad κ hc_20) ⟨rfl, rfl⟩ ⟨(Nat.le_of_ble_eq_true rfl), (Nat.le_of_ble_eq_true rfl)⟩ rfl rfl (Nat.le_of_ble_eq_true rfl) dX12_cut_110 z00) hH (fun H locs hH => ?_)
        obtain ⟨r_21, σ_22, hc_23, h⟩ := bdL_ex h
        refine g_cl (g_runS (rest := []) C hH hl.1 cS_X12_177 (kX12_appends l D ad κ hc_23) ⟨rfl, rfl⟩ ⟨(Nat.le_of_ble_eq_true rfl), (Nat.le_of_ble_eq_true rfl)⟩ rfl rfl (Nat.le_of_ble_eq_true rfl) dX12_cut_113 z00) hH (fun H locs hH => ?_)
        refine lv_lstore (lv' := [(4, .long r_21), (0, .ref (ad 0)), (1, .int x1), (2, .int x2), (3, .int x3)]) hx hb dX12_cut_116 hl (by decide) rfl (fun ls hl => ?_)
        refine lv_iinc (v := (x3 + 1)) (lv' := [(3, .int (x3 + 1)), (4, .long r_21), (0, .ref (ad 0)), (1, .int x1), (2, .int x2)]) hx hb dX12_cut_118 hl (k := 4) rfl rfl (by decide) rfl (fun ls hl => ?_)
        refine lv_goto (tgt := 85) hx hb dX12_cut_121 (by decide) ?_
        exact ih _ _ _ _ _ _ _ _ h hH (lv_sub hl [2, 3, 4, 0, 1] rfl)
set_option maxHeartbeats 4000000 in
set_option maxRecDepth 100000 in
theorem wX12_cut_261 (C : Cx 45 D ad κ p s m args meth c cX12_cut RX12 8 none) {R : HS} {k7 : Int32 → HS → Option HS} (K7 : ∀ (x1 : Int32) (σ : HS) (H : Heap) (locs : List Loc) (ls : Array Slot), k7 x1 σ = some R → Hd 45 ceM D ad κ s σ H locs → lv_has ls 8 [(0, .ref (ad 0)), (1, .int x1)] → W p l e ({ frames := 2, cells := 0, slots := 0, locals := 49 } : Room) s m args below meth c H locs 0 0 (MQ below (QV 45 ceM D ad κ R) args s 0 0 (AX 45 ad)) (F0 m 7 ls [])) : ∀ (x1 : Int32) (x2 : Int32) (x3 : Int32) (x4 : Int32) (y1 : Int32) (σ : HS) (H : Heap) (locs : List Loc) (ls : Array Slot), FX12_cut_261 k7 x1 x2 x3 x4 y1 σ = some R → Hd 45 ceM D ad κ s σ H locs → lv_has ls 8 [(0, .ref (ad 0)), (1, .int x1), (2, .int x2), (3, .int x3), (4, .int x4)] → W p l e ({ frames := 2, cells := 0, slots := 0, locals := 49 } : Room) s m args below meth c H locs 0 0 (MQ below (QV 45 ceM D ad κ R) args s 0 0 (AX 45 ad)) (F0 m 261 ls [.int y1, .ref (ad 0)]) := by
  have hx := C.1
  have hb := C.2.1
  have hown := C.2.2.2.1
  have hts := C.2.2.2.2.1
  intro x1 x2 x3 x4 y1 σ H locs ls h hH hl
  rw [FX12_cut_261] at h
  refine lv_iload_n hx hb dX12_cut_261 rfl (lv_at hl 1 rfl) ?_
  refine lv_iload hx hb dX12_cut_262 (lv_at hl 4 rfl) ?_
  refine lv_lconst (v := 0) hx hb dX12_cut_264 rfl ?_
  obtain ⟨σ_24, hc_25, h⟩ := bdV_ex h
  refine g_cv (g_runV (rest := []) C hH hl.1 cV_X12_188 0 (Nat.le_of_ble_eq_true rfl) rfl rfl (kX12_token l D ad κ hc_25) ⟨rfl, rfl⟩ ⟨(Nat.le_of_ble_eq_true rfl), (Nat.le_of_ble_eq_true rfl)⟩ rfl rfl (Nat.le_of_ble_eq_true rfl) dX12_cut_265 z00) hH (fun H locs hH => ?_)
  refine lv_iload_n hx hb dX12_cut_268 rfl (lv_at hl 1 rfl) ?_
  refine lv_iload_n hx hb dX12_cut_269 rfl (lv_at hl 3 rfl) ?_
  refine lv_iadd hx hb dX12_cut_270 ?_
  obtain ⟨x1_26, ex1_26, h⟩ := hl_ex h
  refine lv_eqi ex1_26 ?_
  refine lv_istore_n (lv' := [(1, .int x1_26), (0, .ref (ad 0)), (2, .int x2), (3, .int x3), (4, .int x4)]) hx hb dX12_cut_271 rfl hl (by decide) rfl (fun ls hl => ?_)
  refine lv_goto (tgt := 291) hx hb dX12_cut_272 (by decide) ?_
  refine lv_goto (tgt := 7) hx hb dX12_cut_291 (by decide) ?_
  exact K7 _ _ _ _ _ h hH (lv_sub hl [1, 0] rfl)
set_option maxHeartbeats 4000000 in
set_option maxRecDepth 100000 in
theorem wX12_cut_208 (C : Cx 45 D ad κ p s m args meth c cX12_cut RX12 8 none) {R : HS} {k7 : Int32 → HS → Option HS} (K7 : ∀ (x1 : Int32) (σ : HS) (H : Heap) (locs : List Loc) (ls : Array Slot), k7 x1 σ = some R → Hd 45 ceM D ad κ s σ H locs → lv_has ls 8 [(0, .ref (ad 0)), (1, .int x1)] → W p l e ({ frames := 2, cells := 0, slots := 0, locals := 49 } : Room) s m args below meth c H locs 0 0 (MQ below (QV 45 ceM D ad κ R) args s 0 0 (AX 45 ad)) (F0 m 7 ls [])) : ∀ (f : Nat) (x1 : Int32) (x2 : Int32) (x3 : Int32) (x4 : Int32) (σ : HS) (H : Heap) (locs : List Loc) (ls : Array Slot), FX12_cut_208 k7 f x1 x2 x3 x4 σ = some R → Hd 45 ceM D ad κ s σ H locs → lv_has ls 8 [(0, .ref (ad 0)), (1, .int x1), (2, .int x2), (3, .int x3), (4, .int x4)] → W p l e ({ frames := 2, cells := 0, slots := 0, locals := 49 } : Room) s m args below meth c H locs 0 0 (MQ below (QV 45 ceM D ad κ R) args s 0 0 (AX 45 ad)) (F0 m 208 ls []) := by
  have hx := C.1
  have hb := C.2.1
  have hown := C.2.2.2.1
  have hts := C.2.2.2.2.1
  intro f
  induction f with
  | zero =>
    intro x1 x2 x3 x4 σ H locs ls h hH hl
    cases h
  | succ f ih =>
    intro x1 x2 x3 x4 σ H locs ls h hH hl
    rw [FX12_cut_208] at h
    refine lv_aload_n hx hb dX12_cut_208 rfl (lv_at hl 0 rfl) ?_
    refine lv_iload_n hx hb dX12_cut_209 rfl (lv_at hl 1 rfl) ?_
    refine lv_iload_n hx hb dX12_cut_210 rfl (lv_at hl 3 rfl) ?_
    refine lv_iadd hx hb dX12_cut_211 ?_
    obtain ⟨r_27, σ_28, hc_29, h⟩ := bdI_ex h
    refine g_ci (g_runV (rest := []) C hH hl.1 cV_X12_184 0 (Nat.le_of_ble_eq_true rfl) rfl rfl (kX12_byteAt l D ad κ hc_29) ⟨rfl, rfl⟩ ⟨(Nat.le_of_ble_eq_true rfl), (Nat.le_of_ble_eq_true rfl)⟩ rfl rfl (Nat.le_of_ble_eq_true rfl) dX12_cut_212 z00) hH (fun H locs hH => ?_)
    obtain ⟨r_30, σ_31, hc_32, h⟩ := bdI_ex h
    refine g_ci (g_runS (rest := []) C hH hl.1 cS_X12_196 (kX12_isDigit l D ad κ hc_32) ⟨rfl, rfl⟩ ⟨(Nat.le_of_ble_eq_true rfl), (Nat.le_of_ble_eq_true rfl)⟩ rfl rfl (Nat.le_of_ble_eq_true rfl) dX12_cut_215 z00) hH (fun H locs hH => ?_)
    refine lv_if_eq (tgt := 250) hx hb dX12_cut_218 (by decide) (fun hq_33 => ?_) (fun hq_33 => ?_)
    · rw [if_pos hq_33] at h
      refine lv_aload_n hx hb dX12_cut_250 rfl (lv_at hl 0 rfl) ?_
      refine lv_iload_n hx hb dX12_cut_251 rfl (lv_at hl 3 rfl) ?_
      refine lv_iconst (v := 4) hx hb dX12_cut_252 (by decide) ?_
      refine lv_icmp_le (tgt := 260) hx hb dX12_cut_253 (by decide) (fun hq_34 => ?_) (fun hq_34 => ?_)
      · rw [if_pos hq_34] at h
        refine lv_iconst (v := 2) hx hb dX12_cut_260 (by decide) ?_
        exact wX12_cut_261 C K7  _ _ _ _ _ _ _ _ _ h hH (lv_sub hl [0, 1, 2, 3, 4] rfl)
      · rw [if_neg hq_34] at h
        refine lv_iconst (v := 3) hx hb dX12_cut_256 (by decide) ?_
        refine lv_goto (tgt := 261) hx hb dX12_cut_257 (by decide) ?_
        exact wX12_cut_261 C K7  _ _ _ _ _ _ _ _ _ h hH (lv_sub hl [0, 1, 2, 3, 4] rfl)
    · rw [if_neg hq_33] at h
      refine lv_iload_n hx hb dX12_cut_221 rfl (lv_at hl 3 rfl) ?_
      refine lv_iconst (v := 4) hx hb dX12_cut_222 (by decide) ?_
      refine lv_icmp_ge (tgt := 244) hx hb dX12_cut_223 (by decide) (fun hq_35 => ?_) (fun hq_35 => ?_)
      · rw [if_pos hq_35] at h
        refine lv_iinc (v := (x3 + 1)) (lv' := [(3, .int (x3 + 1)), (0, .ref (ad 0)), (1, .int x1), (2, .int x2), (4, .int x4)]) hx hb dX12_cut_244 hl (k := 3) rfl rfl (by decide) rfl (fun ls hl => ?_)
        refine lv_goto (tgt := 208) hx hb dX12_cut_247 (by decide) ?_
        exact ih _ _ _ _ _ _ _ _ h hH (lv_sub hl [1, 2, 3, 0, 4] rfl)
      · rw [if_neg hq_35] at h
        refine lv_bipush (v := 10) hx hb dX12_cut_226 (by decide) ?_
        refine lv_iload hx hb dX12_cut_228 (lv_at hl 4 rfl) ?_
        refine lv_imul hx hb dX12_cut_230 ?_
        refine lv_aload_n hx hb dX12_cut_231 rfl (lv_at hl 0 rfl) ?_
        refine lv_iload_n hx hb dX12_cut_232 rfl (lv_at hl 1 rfl) ?_
        refine lv_iload_n hx hb dX12_cut_233 rfl (lv_at hl 3 rfl) ?_
        refine lv_iadd hx hb dX12_cut_234 ?_
        obtain ⟨r_36, σ_37, hc_38, h⟩ := bdI_ex h
        refine g_ci (g_runV (rest := [.int ((10 : Int32) * x4)]) C hH hl.1 cV_X12_184 0 (Nat.le_of_ble_eq_true rfl) rfl rfl (kX12_byteAt l D ad κ hc_38) ⟨rfl, rfl⟩ ⟨(Nat.le_of_ble_eq_true rfl), (Nat.le_of_ble_eq_true rfl)⟩ rfl rfl (Nat.le_of_ble_eq_true rfl) dX12_cut_235 z00) hH (fun H locs hH => ?_)
        refine lv_iadd hx hb dX12_cut_238 ?_
        refine lv_bipush (v := 48) hx hb dX12_cut_239 (by decide) ?_
        refine lv_isub hx hb dX12_cut_241 ?_
        obtain ⟨x4_39, ex4_39, h⟩ := hl_ex h
        refine lv_eqi ex4_39 ?_
        refine lv_istore (lv' := [(4, .int x4_39), (0, .ref (ad 0)), (1, .int x1), (2, .int x2), (3, .int x3)]) hx hb dX12_cut_242 hl (by decide) rfl (fun ls hl => ?_)
        refine lv_iinc (v := (x3 + 1)) (lv' := [(3, .int (x3 + 1)), (4, .int x4_39), (0, .ref (ad 0)), (1, .int x1), (2, .int x2)]) hx hb dX12_cut_244 hl (k := 4) rfl rfl (by decide) rfl (fun ls hl => ?_)
        refine lv_goto (tgt := 208) hx hb dX12_cut_247 (by decide) ?_
        exact ih _ _ _ _ _ _ _ _ h hH (lv_sub hl [2, 3, 4, 0, 1] rfl)
set_option maxHeartbeats 4000000 in
set_option maxRecDepth 100000 in
theorem wX12_cut_7 (C : Cx 45 D ad κ p s m args meth c cX12_cut RX12 8 none) {R : HS} : ∀ (f : Nat) (x1 : Int32) (σ : HS) (H : Heap) (locs : List Loc) (ls : Array Slot), FX12_cut_7  f x1 σ = some R → Hd 45 ceM D ad κ s σ H locs → lv_has ls 8 [(0, .ref (ad 0)), (1, .int x1)] → W p l e ({ frames := 2, cells := 0, slots := 0, locals := 49 } : Room) s m args below meth c H locs 0 0 (MQ below (QV 45 ceM D ad κ R) args s 0 0 (AX 45 ad)) (F0 m 7 ls []) := by
  have hx := C.1
  have hb := C.2.1
  have hown := C.2.2.2.1
  have hts := C.2.2.2.2.1
  intro f
  induction f with
  | zero =>
    intro x1 σ H locs ls h hH hl
    cases h
  | succ f ih =>
    intro x1 σ H locs ls h hH hl
    rw [FX12_cut_7] at h
    refine lv_aload_n hx hb dX12_cut_7 rfl (lv_at hl 0 rfl) ?_
    refine g_get C hH 0 (Nat.le_of_ble_eq_true rfl) rfl fl_X12_181 (v := .int (σ.1 0 10)) rfl dX12_cut_8 ?_
    refine lv_sipush (v := 400) hx hb dX12_cut_11 (by decide) ?_
    refine lv_icmp_gt (tgt := 294) hx hb dX12_cut_14 (by decide) (fun hq_40 => ?_) (fun hq_40 => ?_)
    · rw [if_pos hq_40] at h
      exact g_retV C hH h dX12_cut_294
    · rw [if_neg hq_40] at h
      refine lv_aload_n hx hb dX12_cut_17 rfl (lv_at hl 0 rfl) ?_
      refine lv_iload_n hx hb dX12_cut_18 rfl (lv_at hl 1 rfl) ?_
      obtain ⟨r_41, σ_42, hc_43, h⟩ := bdI_ex h
      refine g_ci (g_runV (rest := []) C hH hl.1 cV_X12_184 0 (Nat.le_of_ble_eq_true rfl) rfl rfl (kX12_byteAt l D ad κ hc_43) ⟨rfl, rfl⟩ ⟨(Nat.le_of_ble_eq_true rfl), (Nat.le_of_ble_eq_true rfl)⟩ rfl rfl (Nat.le_of_ble_eq_true rfl) dX12_cut_19 z00) hH (fun H locs hH => ?_)
      refine lv_istore_n (lv' := [(2, .int r_41), (0, .ref (ad 0)), (1, .int x1)]) hx hb dX12_cut_22 rfl hl (by decide) rfl (fun ls hl => ?_)
      refine lv_iload_n hx hb dX12_cut_23 rfl (lv_at hl 2 rfl) ?_
      refine lv_aload_n hx hb dX12_cut_24 rfl (lv_at hl 1 rfl) ?_
      refine g_get C hH 0 (Nat.le_of_ble_eq_true rfl) rfl fl_X12_172 (v := .int (σ_42.1 0 4)) rfl dX12_cut_25 ?_
      refine lv_icmp_lt (tgt := 43) hx hb dX12_cut_28 (by decide) (fun hq_44 => ?_) (fun hq_44 => ?_)
      · rw [if_pos hq_44] at h
        refine lv_iload_n hx hb dX12_cut_43 rfl (lv_at hl 0 rfl) ?_
        refine lv_bipush (v := 9) hx hb dX12_cut_44 (by decide) ?_
        refine lv_icmp_eq (tgt := 67) hx hb dX12_cut_46 (by decide) (fun hq_45 => ?_) (fun hq_45 => ?_)
        · rw [if_pos hq_45] at h
          refine lv_iinc (v := (x1 + 1)) (lv' := [(1, .int (x1 + 1)), (2, .int r_41), (0, .ref (ad 0))]) hx hb dX12_cut_67 hl (k := 2) rfl rfl (by decide) rfl (fun ls hl => ?_)
          refine lv_goto (tgt := 291) hx hb dX12_cut_70 (by decide) ?_
          refine lv_goto (tgt := 7) hx hb dX12_cut_291 (by decide) ?_
          exact ih _ _ _ _ _ h hH (lv_sub hl [2, 0] rfl)
        · rw [if_neg hq_45] at h
          refine lv_iload_n hx hb dX12_cut_49 rfl (lv_at hl 0 rfl) ?_
          refine lv_bipush (v := 10) hx hb dX12_cut_50 (by decide) ?_
          refine lv_icmp_eq (tgt := 67) hx hb dX12_cut_52 (by decide) (fun hq_46 => ?_) (fun hq_46 => ?_)
          · rw [if_pos hq_46] at h
            refine lv_iinc (v := (x1 + 1)) (lv' := [(1, .int (x1 + 1)), (2, .int r_41), (0, .ref (ad 0))]) hx hb dX12_cut_67 hl (k := 2) rfl rfl (by decide) rfl (fun ls hl => ?_)
            refine lv_goto (tgt := 291) hx hb dX12_cut_70 (by decide) ?_
            refine lv_goto (tgt := 7) hx hb dX12_cut_291 (by decide) ?_
            exact ih _ _ _ _ _ h hH (lv_sub hl [2, 0] rfl)
          · rw [if_neg hq_46] at h
            refine lv_iload_n hx hb dX12_cut_55 rfl (lv_at hl 0 rfl) ?_
            refine lv_bipush (v := 13) hx hb dX12_cut_56 (by decide) ?_
            refine lv_icmp_eq (tgt := 67) hx hb dX12_cut_58 (by decide) (fun hq_47 => ?_) (fun hq_47 => ?_)
            · rw [if_pos hq_47] at h
              refine lv_iinc (v := (x1 + 1)) (lv' := [(1, .int (x1 + 1)), (2, .int r_41), (0, .ref (ad 0))]) hx hb dX12_cut_67 hl (k := 2) rfl rfl (by decide) rfl (fun ls hl => ?_)
              refine lv_goto (tgt := 291) hx hb dX12_cut_70 (by decide) ?_
              refine lv_goto (tgt := 7) hx hb dX12_cut_291 (by decide) ?_
              exact ih _ _ _ _ _ h hH (lv_sub hl [2, 0] rfl)
            · rw [if_neg hq_47] at h
              refine lv_iload_n hx hb dX12_cut_61 rfl (lv_at hl 0 rfl) ?_
              refine lv_bipush (v := 32) hx hb dX12_cut_62 (by decide) ?_
              refine lv_icmp_ne (tgt := 73) hx hb dX12_cut_64 (by decide) (fun hq_48 => ?_) (fun hq_48 => ?_)
              · rw [if_neg hq_48] at h
                refine lv_iload_n hx hb dX12_cut_73 rfl (lv_at hl 0 rfl) ?_
                obtain ⟨r_49, σ_50, hc_51, h⟩ := bdI_ex h
                refine g_ci (g_runS (rest := []) C hH hl.1 cS_X12_192 (kX12_isLetter l D ad κ hc_51) ⟨rfl, rfl⟩ ⟨(Nat.le_of_ble_eq_true rfl), (Nat.le_of_ble_eq_true rfl)⟩ rfl rfl (Nat.le_of_ble_eq_true rfl) dX12_cut_74 z00) hH (fun H locs hH => ?_)
                refine lv_if_eq (tgt := 196) hx hb dX12_cut_77 (by decide) (fun hq_52 => ?_) (fun hq_52 => ?_)
                · rw [if_pos hq_52] at h
                  refine lv_iload_n hx hb dX12_cut_196 rfl (lv_at hl 0 rfl) ?_
                  obtain ⟨r_53, σ_54, hc_55, h⟩ := bdI_ex h
                  refine g_ci (g_runS (rest := []) C hH hl.1 cS_X12_196 (kX12_isDigit l D ad κ hc_55) ⟨rfl, rfl⟩ ⟨(Nat.le_of_ble_eq_true rfl), (Nat.le_of_ble_eq_true rfl)⟩ rfl rfl (Nat.le_of_ble_eq_true rfl) dX12_cut_197 z00) hH (fun H locs hH => ?_)
                  refine lv_if_eq (tgt := 275) hx hb dX12_cut_200 (by decide) (fun hq_56 => ?_) (fun hq_56 => ?_)
                  · rw [if_pos hq_56] at h
                    refine lv_iload_n hx hb dX12_cut_275 rfl (lv_at hl 2 rfl) ?_
                    refine lv_aload_n hx hb dX12_cut_276 rfl (lv_at hl 1 rfl) ?_
                    refine lv_iload_n hx hb dX12_cut_277 rfl (lv_at hl 2 rfl) ?_
                    refine lv_iload_n hx hb dX12_cut_278 rfl (lv_at hl 0 rfl) ?_
                    refine lv_aload_n hx hb dX12_cut_279 rfl (lv_at hl 1 rfl) ?_
                    refine lv_iload_n hx hb dX12_cut_280 rfl (lv_at hl 2 rfl) ?_
                    refine lv_iconst (v := 1) hx hb dX12_cut_281 (by decide) ?_
                    refine lv_iadd hx hb dX12_cut_282 ?_
                    obtain ⟨r_57, σ_58, hc_59, h⟩ := bdI_ex h
                    refine g_ci (g_runV (rest := [.int r_41, .int x1, .ref (ad 0), .int x1]) C hH hl.1 cV_X12_184 0 (Nat.le_of_ble_eq_true rfl) rfl rfl (kX12_byteAt l D ad κ hc_59) ⟨rfl, rfl⟩ ⟨(Nat.le_of_ble_eq_true rfl), (Nat.le_of_ble_eq_true rfl)⟩ rfl rfl (Nat.le_of_ble_eq_true rfl) dX12_cut_283 z00) hH (fun H locs hH => ?_)
                    obtain ⟨r_60, σ_61, hc_62, h⟩ := bdI_ex h
                    refine g_ci (g_runV (rest := [.int x1]) C hH hl.1 cV_X12_199 0 (Nat.le_of_ble_eq_true rfl) rfl rfl (kX12_sign l D ad κ hc_62) ⟨rfl, rfl⟩ ⟨(Nat.le_of_ble_eq_true rfl), (Nat.le_of_ble_eq_true rfl)⟩ rfl rfl (Nat.le_of_ble_eq_true rfl) dX12_cut_286 z00) hH (fun H locs hH => ?_)
                    refine lv_iadd hx hb dX12_cut_289 ?_
                    obtain ⟨x1_63, ex1_63, h⟩ := hl_ex h
                    refine lv_eqi ex1_63 ?_
                    refine lv_istore_n (lv' := [(1, .int x1_63), (2, .int r_41), (0, .ref (ad 0))]) hx hb dX12_cut_290 rfl hl (by decide) rfl (fun ls hl => ?_)
                    refine lv_goto (tgt := 7) hx hb dX12_cut_291 (by decide) ?_
                    exact ih _ _ _ _ _ h hH (lv_sub hl [2, 0] rfl)
                  · rw [if_neg hq_56] at h
                    refine lv_iconst (v := 0) hx hb dX12_cut_203 (by decide) ?_
                    refine lv_istore_n (lv' := [(3, .int (0 : Int32)), (2, .int r_41), (0, .ref (ad 0)), (1, .int x1)]) hx hb dX12_cut_204 rfl hl (by decide) rfl (fun ls hl => ?_)
                    refine lv_iconst (v := 0) hx hb dX12_cut_205 (by decide) ?_
                    refine lv_istore (lv' := [(4, .int (0 : Int32)), (3, .int (0 : Int32)), (2, .int r_41), (0, .ref (ad 0)), (1, .int x1)]) hx hb dX12_cut_206 hl (by decide) rfl (fun ls hl => ?_)
                    exact wX12_cut_208 C ih _ _ _ _ _ _ _ _ _ h hH (lv_sub hl [3, 4, 2, 1, 0] rfl)
                · rw [if_neg hq_52] at h
                  refine lv_iconst (v := 0) hx hb dX12_cut_80 (by decide) ?_
                  refine lv_istore_n (lv' := [(3, .int (0 : Int32)), (2, .int r_41), (0, .ref (ad 0)), (1, .int x1)]) hx hb dX12_cut_81 rfl hl (by decide) rfl (fun ls hl => ?_)
                  refine lv_lconst (v := 0) hx hb dX12_cut_82 rfl ?_
                  refine lv_lstore (lv' := [(4, .long (0 : Int64)), (3, .int (0 : Int32)), (2, .int r_41), (0, .ref (ad 0)), (1, .int x1)]) hx hb dX12_cut_83 hl (by decide) rfl (fun ls hl => ?_)
                  exact wX12_cut_85 C ih _ _ _ _ _ _ _ _ _ h hH (lv_sub hl [3, 4, 2, 1, 0] rfl)
              · rw [if_pos hq_48] at h
                refine lv_iinc (v := (x1 + 1)) (lv' := [(1, .int (x1 + 1)), (2, .int r_41), (0, .ref (ad 0))]) hx hb dX12_cut_67 hl (k := 2) rfl rfl (by decide) rfl (fun ls hl => ?_)
                refine lv_goto (tgt := 291) hx hb dX12_cut_70 (by decide) ?_
                refine lv_goto (tgt := 7) hx hb dX12_cut_291 (by decide) ?_
                exact ih _ _ _ _ _ h hH (lv_sub hl [2, 0] rfl)
      · rw [if_neg hq_44] at h
        refine lv_aload_n hx hb dX12_cut_31 rfl (lv_at hl 1 rfl) ?_
        refine lv_iconst (v := 0) hx hb dX12_cut_32 (by decide) ?_
        refine lv_aload_n hx hb dX12_cut_33 rfl (lv_at hl 1 rfl) ?_
        refine g_get C hH 0 (Nat.le_of_ble_eq_true rfl) rfl fl_X12_172 (v := .int (σ_42.1 0 4)) rfl dX12_cut_34 ?_
        refine lv_iconst (v := 0) hx hb dX12_cut_37 (by decide) ?_
        refine lv_lconst (v := 0) hx hb dX12_cut_38 rfl ?_
        obtain ⟨σ_64, hc_65, h⟩ := bdV_ex h
        refine g_cv (g_runV (rest := []) C hH hl.1 cV_X12_188 0 (Nat.le_of_ble_eq_true rfl) rfl rfl (kX12_token l D ad κ hc_65) ⟨rfl, rfl⟩ ⟨(Nat.le_of_ble_eq_true rfl), (Nat.le_of_ble_eq_true rfl)⟩ rfl rfl (Nat.le_of_ble_eq_true rfl) dX12_cut_39 z00) hH (fun H locs hH => ?_)
        exact g_retV C hH h dX12_cut_42
set_option maxHeartbeats 4000000 in
set_option maxRecDepth 100000 in
theorem kX12_cut (l : Launch) (D : va_G) (ad : Nat → Nat) (κ : KC) {σ : HS} {R : HS} (h : FX12_cut σ = some R) : MtV l 45 ceM D ad κ yX12_cut cX12_cut 8 none ({ frames := 2, cells := 0, slots := 0, locals := 49 } : Room) [.ref (ad 0)] σ R := by
  refine open_ (by decide) (Nat.le_of_ble_eq_true rfl) (la := [(0, .ref (ad 0))]) rfl ?_
  intro p e s m below meth c ls C hH hl
  replace C : Cx 45 D ad κ p s m _ meth c cX12_cut RX12 8 none := C
  have hx := C.1
  have hb := C.2.1
  have hown := C.2.2.2.1
  have hts := C.2.2.2.2.1
  rw [FX12_cut] at h
  refine lv_aload_n hx hb dX12_cut_0 rfl (lv_at hl 0 rfl) ?_
  refine lv_iconst (v := 0) hx hb dX12_cut_1 (by decide) ?_
  obtain ⟨σ_66, eσ_66, h⟩ := hl_ex h
  refine g_putI C hH 0 (Nat.le_of_ble_eq_true rfl) rfl fp_X12_181 rfl rfl (Nat.le_of_ble_eq_true rfl) rfl dX12_cut_2 (fun H locs hH => ?_)
  rw [← eσ_66] at hH
  refine lv_iconst (v := 0) hx hb dX12_cut_5 (by decide) ?_
  refine lv_istore_n (lv' := [(1, .int (0 : Int32)), (0, .ref (ad 0))]) hx hb dX12_cut_6 rfl hl (by decide) rfl (fun ls hl => ?_)
  exact wX12_cut_7 C _ _ _ _ _ _ h hH (lv_sub hl [1, 0] rfl)
-- X12_is
def FX12_is (x1 : Int32) (σ : HS) : Option (Int32 × HS) :=
  if (σ.1 0 13) = 0 then gd (ix (σ.1 0 11) 403) (if (σ.1 3 ((σ.1 0 11).toNatClampNeg)) = x1 then some ((1 : Int32), σ) else some ((0 : Int32), σ)) else some ((0 : Int32), σ)
set_option maxHeartbeats 4000000 in
set_option maxRecDepth 100000 in
theorem kX12_is (l : Launch) (D : va_G) (ad : Nat → Nat) (κ : KC) {x1 : Int32} {σ : HS} {R : (Int32 × HS)} (h : FX12_is x1 σ = some R) : MtI l 45 ceM D ad κ yX12_is cX12_is 2 (some .boolean) ({ frames := 0, cells := 0, slots := 0, locals := 0 } : Room) [.ref (ad 0), .int x1] σ R := by
  refine open_ (by decide) (Nat.le_of_ble_eq_true rfl) (la := [(0, .ref (ad 0)), (1, .int x1)]) rfl ?_
  intro p e s m below meth c ls C hH hl
  replace C : Cx 45 D ad κ p s m _ meth c cX12_is RX12 2 (some .boolean) := C
  have hx := C.1
  have hb := C.2.1
  have hown := C.2.2.2.1
  have hts := C.2.2.2.2.1
  rw [FX12_is] at h
  refine lv_aload_n hx hb dX12_is_0 rfl (lv_at hl 0 rfl) ?_
  refine g_get C hH 0 (Nat.le_of_ble_eq_true rfl) rfl fl_X12_203 (v := .int (σ.1 0 13)) rfl dX12_is_1 ?_
  refine lv_if_ne (tgt := 24) hx hb dX12_is_4 (by decide) (fun hq_1 => ?_) (fun hq_1 => ?_)
  · rw [if_neg hq_1] at h
    refine lv_iconst (v := 0) hx hb dX12_is_24 (by decide) ?_
    exact g_retZ C hH rfl h dX12_is_25
  · rw [if_pos hq_1] at h
    refine lv_aload_n hx hb dX12_is_7 rfl (lv_at hl 0 rfl) ?_
    refine g_get C hH 0 (Nat.le_of_ble_eq_true rfl) rfl fl_X12_20 (v := .ref (ad 3)) rfl dX12_is_8 ?_
    refine lv_aload_n hx hb dX12_is_11 rfl (lv_at hl 0 rfl) ?_
    refine g_get C hH 0 (Nat.le_of_ble_eq_true rfl) rfl fl_X12_206 (v := .int (σ.1 0 11)) rfl dX12_is_12 ?_
    obtain ⟨hi_2, h⟩ := gd_ex h
    refine g_iald C hH 3 (Nat.le_of_ble_eq_true rfl) rfl (k := ((σ.1 0 11).toNatClampNeg)) rfl (ix_in hi_2) dX12_is_15 ?_
    refine lv_iload_n hx hb dX12_is_16 rfl (lv_at hl 1 rfl) ?_
    refine lv_icmp_ne (tgt := 24) hx hb dX12_is_17 (by decide) (fun hq_3 => ?_) (fun hq_3 => ?_)
    · rw [if_neg hq_3] at h
      refine lv_iconst (v := 0) hx hb dX12_is_24 (by decide) ?_
      exact g_retZ C hH rfl h dX12_is_25
    · rw [if_pos hq_3] at h
      refine lv_iconst (v := 1) hx hb dX12_is_20 (by decide) ?_
      refine lv_goto (tgt := 25) hx hb dX12_is_21 (by decide) ?_
      exact g_retZ C hH rfl h dX12_is_25
-- X12_fail
def FX12_fail (x1 : Int32) (σ : HS) : Option HS :=
  if (σ.1 0 13) ≤ 0 then hl_ (pI σ 0 13 x1) fun σ_2 => gd (ix (σ_2.1 0 11) 403) (hl_ (pI σ_2 0 14 (σ_2.1 4 ((σ_2.1 0 11).toNatClampNeg))) fun σ_4 => some σ_4) else some σ
set_option maxHeartbeats 4000000 in
set_option maxRecDepth 100000 in
theorem kX12_fail (l : Launch) (D : va_G) (ad : Nat → Nat) (κ : KC) {x1 : Int32} {σ : HS} {R : HS} (h : FX12_fail x1 σ = some R) : MtV l 45 ceM D ad κ yX12_fail cX12_fail 2 none ({ frames := 0, cells := 0, slots := 0, locals := 0 } : Room) [.ref (ad 0), .int x1] σ R := by
  refine open_ (by decide) (Nat.le_of_ble_eq_true rfl) (la := [(0, .ref (ad 0)), (1, .int x1)]) rfl ?_
  intro p e s m below meth c ls C hH hl
  replace C : Cx 45 D ad κ p s m _ meth c cX12_fail RX12 2 none := C
  have hx := C.1
  have hb := C.2.1
  have hown := C.2.2.2.1
  have hts := C.2.2.2.2.1
  rw [FX12_fail] at h
  refine lv_aload_n hx hb dX12_fail_0 rfl (lv_at hl 0 rfl) ?_
  refine g_get C hH 0 (Nat.le_of_ble_eq_true rfl) rfl fl_X12_203 (v := .int (σ.1 0 13)) rfl dX12_fail_1 ?_
  refine lv_if_le (tgt := 8) hx hb dX12_fail_4 (by decide) (fun hq_1 => ?_) (fun hq_1 => ?_)
  · rw [if_pos hq_1] at h
    refine lv_aload_n hx hb dX12_fail_8 rfl (lv_at hl 0 rfl) ?_
    refine lv_iload_n hx hb dX12_fail_9 rfl (lv_at hl 1 rfl) ?_
    obtain ⟨σ_2, eσ_2, h⟩ := hl_ex h
    refine g_putI C hH 0 (Nat.le_of_ble_eq_true rfl) rfl fp_X12_203 rfl rfl (Nat.le_of_ble_eq_true rfl) rfl dX12_fail_10 (fun H locs hH => ?_)
    rw [← eσ_2] at hH
    refine lv_aload_n hx hb dX12_fail_13 rfl (lv_at hl 0 rfl) ?_
    refine lv_aload_n hx hb dX12_fail_14 rfl (lv_at hl 0 rfl) ?_
    refine g_get C hH 0 (Nat.le_of_ble_eq_true rfl) rfl fl_X12_24 (v := .ref (ad 4)) rfl dX12_fail_15 ?_
    refine lv_aload_n hx hb dX12_fail_18 rfl (lv_at hl 0 rfl) ?_
    refine g_get C hH 0 (Nat.le_of_ble_eq_true rfl) rfl fl_X12_206 (v := .int (σ_2.1 0 11)) rfl dX12_fail_19 ?_
    obtain ⟨hi_3, h⟩ := gd_ex h
    refine g_iald C hH 4 (Nat.le_of_ble_eq_true rfl) rfl (k := ((σ_2.1 0 11).toNatClampNeg)) rfl (ix_in hi_3) dX12_fail_22 ?_
    obtain ⟨σ_4, eσ_4, h⟩ := hl_ex h
    refine g_putI C hH 0 (Nat.le_of_ble_eq_true rfl) rfl fp_X12_209 rfl rfl (Nat.le_of_ble_eq_true rfl) rfl dX12_fail_23 (fun H locs hH => ?_)
    rw [← eσ_4] at hH
    exact g_retV C hH h dX12_fail_26
  · rw [if_neg hq_1] at h
    exact g_retV C hH h dX12_fail_7
-- X12_wrong
def FX12_wrong (x1 : Int32) (x2 : Int32) (σ : HS) : Option HS :=
  gd (ix x2 403) (hl_ (σ.1 4 (x2.toNatClampNeg)) fun x3_2 => if 0 < (σ.1 0 13) then some σ else if (σ.1 0 15) = 0 then hl_ (pI σ 0 15 x1) fun σ_5 => hl_ (pI σ_5 0 16 x3_2) fun σ_6 => some σ_6 else if (σ.1 0 16) < x3_2 then some σ else if x3_2 = (σ.1 0 16) then if x1 < (σ.1 0 15) then hl_ (pI σ 0 15 x1) fun σ_12 => hl_ (pI σ_12 0 16 x3_2) fun σ_13 => some σ_13 else some σ else hl_ (pI σ 0 15 x1) fun σ_9 => hl_ (pI σ_9 0 16 x3_2) fun σ_10 => some σ_10)
set_option maxHeartbeats 4000000 in
set_option maxRecDepth 100000 in
theorem kX12_wrong (l : Launch) (D : va_G) (ad : Nat → Nat) (κ : KC) {x1 : Int32} {x2 : Int32} {σ : HS} {R : HS} (h : FX12_wrong x1 x2 σ = some R) : MtV l 45 ceM D ad κ yX12_wrong cX12_wrong 4 none ({ frames := 0, cells := 0, slots := 0, locals := 0 } : Room) [.ref (ad 0), .int x1, .int x2] σ R := by
  refine open_ (by decide) (Nat.le_of_ble_eq_true rfl) (la := [(0, .ref (ad 0)), (1, .int x1), (2, .int x2)]) rfl ?_
  intro p e s m below meth c ls C hH hl
  replace C : Cx 45 D ad κ p s m _ meth c cX12_wrong RX12 4 none := C
  have hx := C.1
  have hb := C.2.1
  have hown := C.2.2.2.1
  have hts := C.2.2.2.2.1
  rw [FX12_wrong] at h
  refine lv_aload_n hx hb dX12_wrong_0 rfl (lv_at hl 0 rfl) ?_
  refine g_get C hH 0 (Nat.le_of_ble_eq_true rfl) rfl fl_X12_24 (v := .ref (ad 4)) rfl dX12_wrong_1 ?_
  refine lv_iload_n hx hb dX12_wrong_4 rfl (lv_at hl 2 rfl) ?_
  obtain ⟨hi_1, h⟩ := gd_ex h
  refine g_iald C hH 4 (Nat.le_of_ble_eq_true rfl) rfl (k := (x2.toNatClampNeg)) rfl (ix_in hi_1) dX12_wrong_5 ?_
  obtain ⟨x3_2, ex3_2, h⟩ := hl_ex h
  refine lv_eqi ex3_2 ?_
  refine lv_istore_n (lv' := [(3, .int x3_2), (0, .ref (ad 0)), (1, .int x1), (2, .int x2)]) hx hb dX12_wrong_6 rfl hl (by decide) rfl (fun ls hl => ?_)
  refine lv_aload_n hx hb dX12_wrong_7 rfl (lv_at hl 1 rfl) ?_
  refine g_get C hH 0 (Nat.le_of_ble_eq_true rfl) rfl fl_X12_203 (v := .int (σ.1 0 13)) rfl dX12_wrong_8 ?_
  refine lv_if_gt (tgt := 45) hx hb dX12_wrong_11 (by decide) (fun hq_3 => ?_) (fun hq_3 => ?_)
  · rw [if_pos hq_3] at h
    exact g_retV C hH h dX12_wrong_45
  · rw [if_neg hq_3] at h
    refine lv_aload_n hx hb dX12_wrong_14 rfl (lv_at hl 1 rfl) ?_
    refine g_get C hH 0 (Nat.le_of_ble_eq_true rfl) rfl fl_X12_212 (v := .int (σ.1 0 15)) rfl dX12_wrong_15 ?_
    refine lv_if_eq (tgt := 46) hx hb dX12_wrong_18 (by decide) (fun hq_4 => ?_) (fun hq_4 => ?_)
    · rw [if_pos hq_4] at h
      refine lv_aload_n hx hb dX12_wrong_46 rfl (lv_at hl 1 rfl) ?_
      refine lv_iload_n hx hb dX12_wrong_47 rfl (lv_at hl 2 rfl) ?_
      obtain ⟨σ_5, eσ_5, h⟩ := hl_ex h
      refine g_putI C hH 0 (Nat.le_of_ble_eq_true rfl) rfl fp_X12_212 rfl rfl (Nat.le_of_ble_eq_true rfl) rfl dX12_wrong_48 (fun H locs hH => ?_)
      rw [← eσ_5] at hH
      refine lv_aload_n hx hb dX12_wrong_51 rfl (lv_at hl 1 rfl) ?_
      refine lv_iload_n hx hb dX12_wrong_52 rfl (lv_at hl 0 rfl) ?_
      obtain ⟨σ_6, eσ_6, h⟩ := hl_ex h
      refine g_putI C hH 0 (Nat.le_of_ble_eq_true rfl) rfl fp_X12_215 rfl rfl (Nat.le_of_ble_eq_true rfl) rfl dX12_wrong_53 (fun H locs hH => ?_)
      rw [← eσ_6] at hH
      exact g_retV C hH h dX12_wrong_56
    · rw [if_neg hq_4] at h
      refine lv_iload_n hx hb dX12_wrong_21 rfl (lv_at hl 0 rfl) ?_
      refine lv_aload_n hx hb dX12_wrong_22 rfl (lv_at hl 1 rfl) ?_
      refine g_get C hH 0 (Nat.le_of_ble_eq_true rfl) rfl fl_X12_215 (v := .int (σ.1 0 16)) rfl dX12_wrong_23 ?_
      refine lv_icmp_gt (tgt := 45) hx hb dX12_wrong_26 (by decide) (fun hq_7 => ?_) (fun hq_7 => ?_)
      · rw [if_pos hq_7] at h
        exact g_retV C hH h dX12_wrong_45
      · rw [if_neg hq_7] at h
        refine lv_iload_n hx hb dX12_wrong_29 rfl (lv_at hl 0 rfl) ?_
        refine lv_aload_n hx hb dX12_wrong_30 rfl (lv_at hl 1 rfl) ?_
        refine g_get C hH 0 (Nat.le_of_ble_eq_true rfl) rfl fl_X12_215 (v := .int (σ.1 0 16)) rfl dX12_wrong_31 ?_
        refine lv_icmp_ne (tgt := 46) hx hb dX12_wrong_34 (by decide) (fun hq_8 => ?_) (fun hq_8 => ?_)
        · rw [if_neg hq_8] at h
          refine lv_aload_n hx hb dX12_wrong_46 rfl (lv_at hl 1 rfl) ?_
          refine lv_iload_n hx hb dX12_wrong_47 rfl (lv_at hl 2 rfl) ?_
          obtain ⟨σ_9, eσ_9, h⟩ := hl_ex h
          refine g_putI C hH 0 (Nat.le_of_ble_eq_true rfl) rfl fp_X12_212 rfl rfl (Nat.le_of_ble_eq_true rfl) rfl dX12_wrong_48 (fun H locs hH => ?_)
          rw [← eσ_9] at hH
          refine lv_aload_n hx hb dX12_wrong_51 rfl (lv_at hl 1 rfl) ?_
          refine lv_iload_n hx hb dX12_wrong_52 rfl (lv_at hl 0 rfl) ?_
          obtain ⟨σ_10, eσ_10, h⟩ := hl_ex h
          refine g_putI C hH 0 (Nat.le_of_ble_eq_true rfl) rfl fp_X12_215 rfl rfl (Nat.le_of_ble_eq_true rfl) rfl dX12_wrong_53 (fun H locs hH => ?_)
          rw [← eσ_10] at hH
          exact g_retV C hH h dX12_wrong_56
        · rw [if_pos hq_8] at h
          refine lv_iload_n hx hb dX12_wrong_37 rfl (lv_at hl 2 rfl) ?_
          refine lv_aload_n hx hb dX12_wrong_38 rfl (lv_at hl 1 rfl) ?_
          refine g_get C hH 0 (Nat.le_of_ble_eq_true rfl) rfl fl_X12_212 (v := .int (σ.1 0 15)) rfl dX12_wrong_39 ?_
          refine lv_icmp_lt (tgt := 46) hx hb dX12_wrong_42 (by decide) (fun hq_11 => ?_) (fun hq_11 => ?_)
          · rw [if_pos hq_11] at h
            refine lv_aload_n hx hb dX12_wrong_46 rfl (lv_at hl 1 rfl) ?_
            refine lv_iload_n hx hb dX12_wrong_47 rfl (lv_at hl 2 rfl) ?_
            obtain ⟨σ_12, eσ_12, h⟩ := hl_ex h
            refine g_putI C hH 0 (Nat.le_of_ble_eq_true rfl) rfl fp_X12_212 rfl rfl (Nat.le_of_ble_eq_true rfl) rfl dX12_wrong_48 (fun H locs hH => ?_)
            rw [← eσ_12] at hH
            refine lv_aload_n hx hb dX12_wrong_51 rfl (lv_at hl 1 rfl) ?_
            refine lv_iload_n hx hb dX12_wrong_52 rfl (lv_at hl 0 rfl) ?_
            obtain ⟨σ_13, eσ_13, h⟩ := hl_ex h
            refine g_putI C hH 0 (Nat.le_of_ble_eq_true rfl) rfl fp_X12_215 rfl rfl (Nat.le_of_ble_eq_true rfl) rfl dX12_wrong_53 (fun H locs hH => ?_)
            rw [← eσ_13] at hH
            exact g_retV C hH h dX12_wrong_56
          · rw [if_neg hq_11] at h
            exact g_retV C hH h dX12_wrong_45
-- X12_goesOn
def FX12_goesOn (σ : HS) : Option HS :=
  if (σ.1 0 11) = (400 : Int32) then bdV (FX12_fail (2 : Int32) σ) fun σ_3 => some σ_3 else hl_ (pI σ 0 11 ((σ.1 0 11) + (1 : Int32))) fun σ_2 => some σ_2
set_option maxHeartbeats 4000000 in
set_option maxRecDepth 100000 in
theorem kX12_goesOn (l : Launch) (D : va_G) (ad : Nat → Nat) (κ : KC) {σ : HS} {R : HS} (h : FX12_goesOn σ = some R) : MtV l 45 ceM D ad κ yX12_goesOn cX12_goesOn 1 none ({ frames := 1, cells := 0, slots := 0, locals := 21 } : Room) [.ref (ad 0)] σ R := by
  refine open_ (by decide) (Nat.le_of_ble_eq_true rfl) (la := [(0, .ref (ad 0))]) rfl ?_
  intro p e s m below meth c ls C hH hl
  replace C : Cx 45 D ad κ p s m _ meth c cX12_goesOn RX12 1 none := C
  have hx := C.1
  have hb := C.2.1
  have hown := C.2.2.2.1
  have hts := C.2.2.2.2.1
  rw [FX12_goesOn] at h
  refine lv_aload_n hx hb dX12_goesOn_0 rfl (lv_at hl 0 rfl) ?_
  refine g_get C hH 0 (Nat.le_of_ble_eq_true rfl) rfl fl_X12_206 (v := .int (σ.1 0 11)) rfl dX12_goesOn_1 ?_
  refine lv_sipush (v := 400) hx hb dX12_goesOn_4 (by decide) ?_
  refine lv_icmp_ne (tgt := 18) hx hb dX12_goesOn_7 (by decide) (fun hq_1 => ?_) (fun hq_1 => ?_)
  · rw [if_neg hq_1] at h
    refine lv_aload_n hx hb dX12_goesOn_18 rfl (lv_at hl 0 rfl) ?_
    refine lv_dup hx hb dX12_goesOn_19 rfl ?_
    refine g_get C hH 0 (Nat.le_of_ble_eq_true rfl) rfl fl_X12_206 (v := .int (σ.1 0 11)) rfl dX12_goesOn_20 ?_
    refine lv_iconst (v := 1) hx hb dX12_goesOn_23 (by decide) ?_
    refine lv_iadd hx hb dX12_goesOn_24 ?_
    obtain ⟨σ_2, eσ_2, h⟩ := hl_ex h
    refine g_putI C hH 0 (Nat.le_of_ble_eq_true rfl) rfl fp_X12_206 rfl rfl (Nat.le_of_ble_eq_true rfl) rfl dX12_goesOn_25 (fun H locs hH => ?_)
    rw [← eσ_2] at hH
    exact g_retV C hH h dX12_goesOn_28
  · rw [if_pos hq_1] at h
    refine lv_aload_n hx hb dX12_goesOn_10 rfl (lv_at hl 0 rfl) ?_
    refine lv_iconst (v := 2) hx hb dX12_goesOn_11 (by decide) ?_
    obtain ⟨σ_3, hc_4, h⟩ := bdV_ex h
    refine g_cv (g_runV (rest := []) C hH hl.1 cV_X12_218 0 (Nat.le_of_ble_eq_true rfl) rfl rfl (kX12_fail l D ad κ hc_4) ⟨rfl, rfl⟩ ⟨(Nat.le_of_ble_eq_true rfl), (Nat.le_of_ble_eq_true rfl)⟩ rfl rfl (Nat.le_of_ble_eq_true rfl) dX12_goesOn_12 z00) hH (fun H locs hH => ?_)
    refine lv_goto (tgt := 28) hx hb dX12_goesOn_15 (by decide) ?_
    exact g_retV C hH h dX12_goesOn_28
-- X12_must
def FX12_must (x1 : Int32) (σ : HS) : Option HS :=
  bdI (FX12_is x1 σ) fun r_1 σ_2 => if r_1 = 0 then bdV (FX12_fail (1 : Int32) σ_2) fun σ_5 => some σ_5 else bdV (FX12_goesOn σ_2) fun σ_7 => some σ_7
set_option maxHeartbeats 4000000 in
set_option maxRecDepth 100000 in
theorem kX12_must (l : Launch) (D : va_G) (ad : Nat → Nat) (κ : KC) {x1 : Int32} {σ : HS} {R : HS} (h : FX12_must x1 σ = some R) : MtV l 45 ceM D ad κ yX12_must cX12_must 2 none ({ frames := 2, cells := 0, slots := 0, locals := 41 } : Room) [.ref (ad 0), .int x1] σ R := by
  refine open_ (by decide) (Nat.le_of_ble_eq_true rfl) (la := [(0, .ref (ad 0)), (1, .int x1)]) rfl ?_
  intro p e s m below meth c ls C hH hl
  replace C : Cx 45 D ad κ p s m _ meth c cX12_must RX12 2 none := C
  have hx := C.1
  have hb := C.2.1
  have hown := C.2.2.2.1
  have hts := C.2.2.2.2.1
  rw [FX12_must] at h
  refine lv_aload_n hx hb dX12_must_0 rfl (lv_at hl 0 rfl) ?_
  refine lv_iload_n hx hb dX12_must_1 rfl (lv_at hl 1 rfl) ?_
  obtain ⟨r_1, σ_2, hc_3, h⟩ := bdI_ex h
  refine g_ci (g_runV (rest := []) C hH hl.1 cV_X12_221 0 (Nat.le_of_ble_eq_true rfl) rfl rfl (kX12_is l D ad κ hc_3) ⟨rfl, rfl⟩ ⟨(Nat.le_of_ble_eq_true rfl), (Nat.le_of_ble_eq_true rfl)⟩ rfl rfl (Nat.le_of_ble_eq_true rfl) dX12_must_2 z00) hH (fun H locs hH => ?_)
  refine lv_if_eq (tgt := 15) hx hb dX12_must_5 (by decide) (fun hq_4 => ?_) (fun hq_4 => ?_)
  · rw [if_pos hq_4] at h
    refine lv_aload_n hx hb dX12_must_15 rfl (lv_at hl 0 rfl) ?_
    refine lv_iconst (v := 1) hx hb dX12_must_16 (by decide) ?_
    obtain ⟨σ_5, hc_6, h⟩ := bdV_ex h
    refine g_cv (g_runV (rest := []) C hH hl.1 cV_X12_218 0 (Nat.le_of_ble_eq_true rfl) rfl rfl (kX12_fail l D ad κ hc_6) ⟨rfl, rfl⟩ ⟨(Nat.le_of_ble_eq_true rfl), (Nat.le_of_ble_eq_true rfl)⟩ rfl rfl (Nat.le_of_ble_eq_true rfl) dX12_must_17 z00) hH (fun H locs hH => ?_)
    exact g_retV C hH h dX12_must_20
  · rw [if_neg hq_4] at h
    refine lv_aload_n hx hb dX12_must_8 rfl (lv_at hl 0 rfl) ?_
    obtain ⟨σ_7, hc_8, h⟩ := bdV_ex h
    refine g_cv (g_runV (rest := []) C hH hl.1 cV_X12_224 0 (Nat.le_of_ble_eq_true rfl) rfl rfl (kX12_goesOn l D ad κ hc_8) ⟨rfl, rfl⟩ ⟨(Nat.le_of_ble_eq_true rfl), (Nat.le_of_ble_eq_true rfl)⟩ rfl rfl (Nat.le_of_ble_eq_true rfl) dX12_must_9 z00) hH (fun H locs hH => ?_)
    refine lv_goto (tgt := 20) hx hb dX12_must_12 (by decide) ?_
    exact g_retV C hH h dX12_must_20
-- X12_plain
def FX12_plain_71  : Nat → Int32 → Int32 → HS → Option HS
  | 0, _, _, _ => none
  | f + 1, x1, x2, σ => if (4 : Int32) ≤ x2 then some σ else gd (ix (((4 : Int32) * x1) + x2) 8) (hl_ (pI σ 19 ((((4 : Int32) * x1) + x2).toNatClampNeg) (0 : Int32)) fun σ_3 => gd (ix (((4 : Int32) * x1) + x2) 8) (hl_ (pI σ_3 20 ((((4 : Int32) * x1) + x2).toNatClampNeg) (0 : Int32)) fun σ_5 => FX12_plain_71  f x1 (x2 + 1) σ_5))
def FX12_plain_44  : Nat → Int32 → Int32 → HS → Option HS
  | 0, _, _, _ => none
  | f + 1, x1, x2, σ => if (8 : Int32) ≤ x2 then FX12_plain_71 fu x1 (0 : Int32) σ else gd (ix (((8 : Int32) * x1) + x2) 16) (hl_ (pI σ 14 ((((8 : Int32) * x1) + x2).toNatClampNeg) (-2 : Int32)) fun σ_8 => FX12_plain_44  f x1 (x2 + 1) σ_8)
def FX12_plain (x1 : Int32) (σ : HS) : Option HS :=
  gd (ix x1 2) (hl_ (pI σ 8 (x1.toNatClampNeg) (0 : Int32)) fun σ_10 => gd (ix x1 2) (hl_ (pI σ_10 11 (x1.toNatClampNeg) (0 : Int32)) fun σ_12 => gd (ix x1 2) (hl_ (pI σ_12 15 (x1.toNatClampNeg) (0 : Int32)) fun σ_14 => gd (ix x1 2) (hl_ (pI σ_14 16 (x1.toNatClampNeg) (0 : Int32)) fun σ_16 => gd (ix x1 2) (hl_ (pI σ_16 17 (x1.toNatClampNeg) (0 : Int32)) fun σ_18 => gd (ix x1 2) (hl_ (pI σ_18 18 (x1.toNatClampNeg) (0 : Int32)) fun σ_20 => FX12_plain_44 fu x1 (0 : Int32) σ_20))))))
set_option maxHeartbeats 4000000 in
set_option maxRecDepth 100000 in
theorem wX12_plain_71 (C : Cx 45 D ad κ p s m args meth c cX12_plain RX12 3 none) {R : HS} : ∀ (f : Nat) (x1 : Int32) (x2 : Int32) (σ : HS) (H : Heap) (locs : List Loc) (ls : Array Slot), FX12_plain_71  f x1 x2 σ = some R → Hd 45 ceM D ad κ s σ H locs → lv_has ls 3 [(0, .ref (ad 0)), (1, .int x1), (2, .int x2)] → W p l e ({ frames := 0, cells := 0, slots := 0, locals := 0 } : Room) s m args below meth c H locs 0 0 (MQ below (QV 45 ceM D ad κ R) args s 0 0 (AX 45 ad)) (F0 m 71 ls []) := by
  have hx := C.1
  have hb := C.2.1
  have hown := C.2.2.2.1
  have hts := C.2.2.2.2.1
  intro f
  induction f with
  | zero =>
    intro x1 x2 σ H locs ls h hH hl
    cases h
  | succ f ih =>
    intro x1 x2 σ H locs ls h hH hl
    rw [FX12_plain_71] at h
    refine lv_iload_n hx hb dX12_plain_71 rfl (lv_at hl 2 rfl) ?_
    refine lv_iconst (v := 4) hx hb dX12_plain_72 (by decide) ?_
    refine lv_icmp_ge (tgt := 104) hx hb dX12_plain_73 (by decide) (fun hq_1 => ?_) (fun hq_1 => ?_)
    · rw [if_pos hq_1] at h
      exact g_retV C hH h dX12_plain_104
    · rw [if_neg hq_1] at h
      refine lv_aload_n hx hb dX12_plain_76 rfl (lv_at hl 0 rfl) ?_
      refine g_get C hH 0 (Nat.le_of_ble_eq_true rfl) rfl fl_X12_73 (v := .ref (ad 19)) rfl dX12_plain_77 ?_
      refine lv_iconst (v := 4) hx hb dX12_plain_80 (by decide) ?_
      refine lv_iload_n hx hb dX12_plain_81 rfl (lv_at hl 1 rfl) ?_
      refine lv_imul hx hb dX12_plain_82 ?_
      refine lv_iload_n hx hb dX12_plain_83 rfl (lv_at hl 2 rfl) ?_
      refine lv_iadd hx hb dX12_plain_84 ?_
      refine lv_iconst (v := 0) hx hb dX12_plain_85 (by decide) ?_
      obtain ⟨hi_2, h⟩ := gd_ex h
      obtain ⟨σ_3, eσ_3, h⟩ := hl_ex h
      refine g_iast C hH 19 (Nat.le_of_ble_eq_true rfl) (fun _ _ => rfl) (k := ((((4 : Int32) * x1) + x2).toNatClampNeg)) rfl (ix_in hi_2) dX12_plain_86 (fun H locs hH => ?_)
      rw [← eσ_3] at hH
      refine lv_aload_n hx hb dX12_plain_87 rfl (lv_at hl 0 rfl) ?_
      refine g_get C hH 0 (Nat.le_of_ble_eq_true rfl) rfl fl_X12_76 (v := .ref (ad 20)) rfl dX12_plain_88 ?_
      refine lv_iconst (v := 4) hx hb dX12_plain_91 (by decide) ?_
      refine lv_iload_n hx hb dX12_plain_92 rfl (lv_at hl 1 rfl) ?_
      refine lv_imul hx hb dX12_plain_93 ?_
      refine lv_iload_n hx hb dX12_plain_94 rfl (lv_at hl 2 rfl) ?_
      refine lv_iadd hx hb dX12_plain_95 ?_
      refine lv_iconst (v := 0) hx hb dX12_plain_96 (by decide) ?_
      obtain ⟨hi_4, h⟩ := gd_ex h
      obtain ⟨σ_5, eσ_5, h⟩ := hl_ex h
      refine g_iast C hH 20 (Nat.le_of_ble_eq_true rfl) (fun _ _ => rfl) (k := ((((4 : Int32) * x1) + x2).toNatClampNeg)) rfl (ix_in hi_4) dX12_plain_97 (fun H locs hH => ?_)
      rw [← eσ_5] at hH
      refine lv_iinc (v := (x2 + 1)) (lv' := [(2, .int (x2 + 1)), (0, .ref (ad 0)), (1, .int x1)]) hx hb dX12_plain_98 hl (k := 2) rfl rfl (by decide) rfl (fun ls hl => ?_)
      refine lv_goto (tgt := 71) hx hb dX12_plain_101 (by decide) ?_
      exact ih _ _ _ _ _ _ h hH (lv_sub hl [1, 2, 0] rfl)
set_option maxHeartbeats 4000000 in
set_option maxRecDepth 100000 in
theorem wX12_plain_44 (C : Cx 45 D ad κ p s m args meth c cX12_plain RX12 3 none) {R : HS} : ∀ (f : Nat) (x1 : Int32) (x2 : Int32) (σ : HS) (H : Heap) (locs : List Loc) (ls : Array Slot), FX12_plain_44  f x1 x2 σ = some R → Hd 45 ceM D ad κ s σ H locs → lv_has ls 3 [(0, .ref (ad 0)), (1, .int x1), (2, .int x2)] → W p l e ({ frames := 0, cells := 0, slots := 0, locals := 0 } : Room) s m args below meth c H locs 0 0 (MQ below (QV 45 ceM D ad κ R) args s 0 0 (AX 45 ad)) (F0 m 44 ls []) := by
  have hx := C.1
  have hb := C.2.1
  have hown := C.2.2.2.1
  have hts := C.2.2.2.2.1
  intro f
  induction f with
  | zero =>
    intro x1 x2 σ H locs ls h hH hl
    cases h
  | succ f ih =>
    intro x1 x2 σ H locs ls h hH hl
    rw [FX12_plain_44] at h
    refine lv_iload_n hx hb dX12_plain_44 rfl (lv_at hl 2 rfl) ?_
    refine lv_bipush (v := 8) hx hb dX12_plain_45 (by decide) ?_
    refine lv_icmp_ge (tgt := 69) hx hb dX12_plain_47 (by decide) (fun hq_6 => ?_) (fun hq_6 => ?_)
    · rw [if_pos hq_6] at h
      refine lv_iconst (v := 0) hx hb dX12_plain_69 (by decide) ?_
      refine lv_istore_n (lv' := [(2, .int (0 : Int32)), (0, .ref (ad 0)), (1, .int x1)]) hx hb dX12_plain_70 rfl hl (by decide) rfl (fun ls hl => ?_)
      exact wX12_plain_71 C _ _ _ _ _ _ _ h hH (lv_sub hl [1, 2, 0] rfl)
    · rw [if_neg hq_6] at h
      refine lv_aload_n hx hb dX12_plain_50 rfl (lv_at hl 0 rfl) ?_
      refine g_get C hH 0 (Nat.le_of_ble_eq_true rfl) rfl fl_X12_58 (v := .ref (ad 14)) rfl dX12_plain_51 ?_
      refine lv_bipush (v := 8) hx hb dX12_plain_54 (by decide) ?_
      refine lv_iload_n hx hb dX12_plain_56 rfl (lv_at hl 1 rfl) ?_
      refine lv_imul hx hb dX12_plain_57 ?_
      refine lv_iload_n hx hb dX12_plain_58 rfl (lv_at hl 2 rfl) ?_
      refine lv_iadd hx hb dX12_plain_59 ?_
      refine lv_bipush (v := (-2)) hx hb dX12_plain_60 (by decide) ?_
      obtain ⟨hi_7, h⟩ := gd_ex h
      obtain ⟨σ_8, eσ_8, h⟩ := hl_ex h
      refine g_iast C hH 14 (Nat.le_of_ble_eq_true rfl) (fun _ _ => rfl) (k := ((((8 : Int32) * x1) + x2).toNatClampNeg)) rfl (ix_in hi_7) dX12_plain_62 (fun H locs hH => ?_)
      rw [← eσ_8] at hH
      refine lv_iinc (v := (x2 + 1)) (lv' := [(2, .int (x2 + 1)), (0, .ref (ad 0)), (1, .int x1)]) hx hb dX12_plain_63 hl (k := 2) rfl rfl (by decide) rfl (fun ls hl => ?_)
      refine lv_goto (tgt := 44) hx hb dX12_plain_66 (by decide) ?_
      exact ih _ _ _ _ _ _ h hH (lv_sub hl [1, 2, 0] rfl)
set_option maxHeartbeats 4000000 in
set_option maxRecDepth 100000 in
theorem kX12_plain (l : Launch) (D : va_G) (ad : Nat → Nat) (κ : KC) {x1 : Int32} {σ : HS} {R : HS} (h : FX12_plain x1 σ = some R) : MtV l 45 ceM D ad κ yX12_plain cX12_plain 3 none ({ frames := 0, cells := 0, slots := 0, locals := 0 } : Room) [.ref (ad 0), .int x1] σ R := by
  refine open_ (by decide) (Nat.le_of_ble_eq_true rfl) (la := [(0, .ref (ad 0)), (1, .int x1)]) rfl ?_
  intro p e s m below meth c ls C hH hl
  replace C : Cx 45 D ad κ p s m _ meth c cX12_plain RX12 3 none := C
  have hx := C.1
  have hb := C.2.1
  have hown := C.2.2.2.1
  have hts := C.2.2.2.2.1
  rw [FX12_plain] at h
  refine lv_aload_n hx hb dX12_plain_0 rfl (lv_at hl 0 rfl) ?_
  refine g_get C hH 0 (Nat.le_of_ble_eq_true rfl) rfl fl_X12_40 (v := .ref (ad 8)) rfl dX12_plain_1 ?_
  refine lv_iload_n hx hb dX12_plain_4 rfl (lv_at hl 1 rfl) ?_
  refine lv_iconst (v := 0) hx hb dX12_plain_5 (by decide) ?_
  obtain ⟨hi_9, h⟩ := gd_ex h
  obtain ⟨σ_10, eσ_10, h⟩ := hl_ex h
  refine g_iast C hH 8 (Nat.le_of_ble_eq_true rfl) (fun _ _ => rfl) (k := (x1.toNatClampNeg)) rfl (ix_in hi_9) dX12_plain_6 (fun H locs hH => ?_)
  rw [← eσ_10] at hH
  refine lv_aload_n hx hb dX12_plain_7 rfl (lv_at hl 0 rfl) ?_
  refine g_get C hH 0 (Nat.le_of_ble_eq_true rfl) rfl fl_X12_49 (v := .ref (ad 11)) rfl dX12_plain_8 ?_
  refine lv_iload_n hx hb dX12_plain_11 rfl (lv_at hl 1 rfl) ?_
  refine lv_iconst (v := 0) hx hb dX12_plain_12 (by decide) ?_
  obtain ⟨hi_11, h⟩ := gd_ex h
  obtain ⟨σ_12, eσ_12, h⟩ := hl_ex h
  refine g_iast C hH 11 (Nat.le_of_ble_eq_true rfl) (fun _ _ => rfl) (k := (x1.toNatClampNeg)) rfl (ix_in hi_11) dX12_plain_13 (fun H locs hH => ?_)
  rw [← eσ_12] at hH
  refine lv_aload_n hx hb dX12_plain_14 rfl (lv_at hl 0 rfl) ?_
  refine g_get C hH 0 (Nat.le_of_ble_eq_true rfl) rfl fl_X12_61 (v := .ref (ad 15)) rfl dX12_plain_15 ?_
  refine lv_iload_n hx hb dX12_plain_18 rfl (lv_at hl 1 rfl) ?_
  refine lv_iconst (v := 0) hx hb dX12_plain_19 (by decide) ?_
  obtain ⟨hi_13, h⟩ := gd_ex h
  obtain ⟨σ_14, eσ_14, h⟩ := hl_ex h
  refine g_iast C hH 15 (Nat.le_of_ble_eq_true rfl) (fun _ _ => rfl) (k := (x1.toNatClampNeg)) rfl (ix_in hi_13) dX12_plain_20 (fun H locs hH => ?_)
  rw [← eσ_14] at hH
  refine lv_aload_n hx hb dX12_plain_21 rfl (lv_at hl 0 rfl) ?_
  refine g_get C hH 0 (Nat.le_of_ble_eq_true rfl) rfl fl_X12_64 (v := .ref (ad 16)) rfl dX12_plain_22 ?_
  refine lv_iload_n hx hb dX12_plain_25 rfl (lv_at hl 1 rfl) ?_
  refine lv_iconst (v := 0) hx hb dX12_plain_26 (by decide) ?_
  obtain ⟨hi_15, h⟩ := gd_ex h
  obtain ⟨σ_16, eσ_16, h⟩ := hl_ex h
  refine g_iast C hH 16 (Nat.le_of_ble_eq_true rfl) (fun _ _ => rfl) (k := (x1.toNatClampNeg)) rfl (ix_in hi_15) dX12_plain_27 (fun H locs hH => ?_)
  rw [← eσ_16] at hH
  refine lv_aload_n hx hb dX12_plain_28 rfl (lv_at hl 0 rfl) ?_
  refine g_get C hH 0 (Nat.le_of_ble_eq_true rfl) rfl fl_X12_67 (v := .ref (ad 17)) rfl dX12_plain_29 ?_
  refine lv_iload_n hx hb dX12_plain_32 rfl (lv_at hl 1 rfl) ?_
  refine lv_iconst (v := 0) hx hb dX12_plain_33 (by decide) ?_
  obtain ⟨hi_17, h⟩ := gd_ex h
  obtain ⟨σ_18, eσ_18, h⟩ := hl_ex h
  refine g_iast C hH 17 (Nat.le_of_ble_eq_true rfl) (fun _ _ => rfl) (k := (x1.toNatClampNeg)) rfl (ix_in hi_17) dX12_plain_34 (fun H locs hH => ?_)
  rw [← eσ_18] at hH
  refine lv_aload_n hx hb dX12_plain_35 rfl (lv_at hl 0 rfl) ?_
  refine g_get C hH 0 (Nat.le_of_ble_eq_true rfl) rfl fl_X12_70 (v := .ref (ad 18)) rfl dX12_plain_36 ?_
  refine lv_iload_n hx hb dX12_plain_39 rfl (lv_at hl 1 rfl) ?_
  refine lv_iconst (v := 0) hx hb dX12_plain_40 (by decide) ?_
  obtain ⟨hi_19, h⟩ := gd_ex h
  obtain ⟨σ_20, eσ_20, h⟩ := hl_ex h
  refine g_iast C hH 18 (Nat.le_of_ble_eq_true rfl) (fun _ _ => rfl) (k := (x1.toNatClampNeg)) rfl (ix_in hi_19) dX12_plain_41 (fun H locs hH => ?_)
  rw [← eσ_20] at hH
  refine lv_iconst (v := 0) hx hb dX12_plain_42 (by decide) ?_
  refine lv_istore_n (lv' := [(2, .int (0 : Int32)), (0, .ref (ad 0)), (1, .int x1)]) hx hb dX12_plain_43 rfl hl (by decide) rfl (fun ls hl => ?_)
  exact wX12_plain_44 C _ _ _ _ _ _ _ h hH (lv_sub hl [1, 2, 0] rfl)
end
