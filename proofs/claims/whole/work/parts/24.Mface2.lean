theorem dX12_cure_0 : decode cX12_cure 0 = .ok (.aload_n 0, 1) := by decide +kernel
theorem dX12_cure_1 : decode cX12_cure 1 = .ok (.invokevirtual 406, 3) := by decide +kernel
theorem dX12_cure_4 : decode cX12_cure 4 = .ok (.iconst 0, 1) := by decide +kernel
theorem dX12_cure_5 : decode cX12_cure 5 = .ok (.istore_n 1, 1) := by decide +kernel
theorem dX12_cure_6 : decode cX12_cure 6 = .ok (.iconst 0, 1) := by decide +kernel
theorem dX12_cure_7 : decode cX12_cure 7 = .ok (.istore_n 2, 1) := by decide +kernel
theorem dX12_cure_8 : decode cX12_cure 8 = .ok (.iload_n 2, 1) := by decide +kernel
theorem dX12_cure_9 : decode cX12_cure 9 = .ok (.aload_n 0, 1) := by decide +kernel
theorem dX12_cure_10 : decode cX12_cure 10 = .ok (.getfield 49, 3) := by decide +kernel
theorem dX12_cure_13 : decode cX12_cure 13 = .ok (.aload_n 0, 1) := by decide +kernel
theorem dX12_cure_14 : decode cX12_cure 14 = .ok (.getfield 233, 3) := by decide +kernel
theorem dX12_cure_17 : decode cX12_cure 17 = .ok (.iaload, 1) := by decide +kernel
theorem dX12_cure_18 : decode cX12_cure 18 = .ok (.if_icmp .ge 36, 3) := by decide +kernel
theorem dX12_cure_21 : decode cX12_cure 21 = .ok (.aload_n 0, 1) := by decide +kernel
theorem dX12_cure_22 : decode cX12_cure 22 = .ok (.iload_n 2, 1) := by decide +kernel
theorem dX12_cure_23 : decode cX12_cure 23 = .ok (.invokevirtual 375, 3) := by decide +kernel
theorem dX12_cure_26 : decode cX12_cure 26 = .ok (.aload_n 0, 1) := by decide +kernel
theorem dX12_cure_27 : decode cX12_cure 27 = .ok (.iload_n 2, 1) := by decide +kernel
theorem dX12_cure_28 : decode cX12_cure 28 = .ok (.invokevirtual 415, 3) := by decide +kernel
theorem dX12_cure_31 : decode cX12_cure 31 = .ok (.aload_n 0, 1) := by decide +kernel
theorem dX12_cure_32 : decode cX12_cure 32 = .ok (.invokevirtual 306, 3) := by decide +kernel
theorem dX12_cure_35 : decode cX12_cure 35 = .ok (.invokestatic 400, 3) := by decide +kernel
theorem dX12_cure_38 : decode cX12_cure 38 = .ok (.idiv, 1) := by decide +kernel
theorem dX12_cure_39 : decode cX12_cure 39 = .ok (.if_icmp .le 9, 3) := by decide +kernel
theorem dX12_cure_42 : decode cX12_cure 42 = .ok (.iload_n 1, 1) := by decide +kernel
theorem dX12_cure_43 : decode cX12_cure 43 = .ok (.iconst 1, 1) := by decide +kernel
theorem dX12_cure_44 : decode cX12_cure 44 = .ok (.iload_n 2, 1) := by decide +kernel
theorem dX12_cure_45 : decode cX12_cure 45 = .ok (.ishl, 1) := by decide +kernel
theorem dX12_cure_46 : decode cX12_cure 46 = .ok (.ior, 1) := by decide +kernel
theorem dX12_cure_47 : decode cX12_cure 47 = .ok (.istore_n 1, 1) := by decide +kernel
theorem dX12_cure_48 : decode cX12_cure 48 = .ok (.iinc 2 1, 3) := by decide +kernel
theorem dX12_cure_51 : decode cX12_cure 51 = .ok (.goto (-43), 3) := by decide +kernel
theorem dX12_cure_54 : decode cX12_cure 54 = .ok (.iload_n 1, 1) := by decide +kernel
theorem dX12_cure_55 : decode cX12_cure 55 = .ok (.ireturn, 1) := by decide +kernel
theorem dX12_richest_0 : decode cX12_richest 0 = .ok (.iload_n 1, 1) := by decide +kernel
theorem dX12_richest_1 : decode cX12_richest 1 = .ok (.iconst 0, 1) := by decide +kernel
theorem dX12_richest_2 : decode cX12_richest 2 = .ok (.iconst 1, 1) := by decide +kernel
theorem dX12_richest_3 : decode cX12_richest 3 = .ok (.invokestatic 310, 3) := by decide +kernel
theorem dX12_richest_6 : decode cX12_richest 6 = .ok (.ifCond .ne 5, 3) := by decide +kernel
theorem dX12_richest_9 : decode cX12_richest 9 = .ok (.iconst (-1), 1) := by decide +kernel
theorem dX12_richest_10 : decode cX12_richest 10 = .ok (.ireturn, 1) := by decide +kernel
theorem dX12_richest_11 : decode cX12_richest 11 = .ok (.aload_n 0, 1) := by decide +kernel
theorem dX12_richest_12 : decode cX12_richest 12 = .ok (.invokevirtual 406, 3) := by decide +kernel
theorem dX12_richest_15 : decode cX12_richest 15 = .ok (.bipush (-2), 2) := by decide +kernel
theorem dX12_richest_17 : decode cX12_richest 17 = .ok (.istore_n 2, 1) := by decide +kernel
theorem dX12_richest_18 : decode cX12_richest 18 = .ok (.iconst 0, 1) := by decide +kernel
theorem dX12_richest_19 : decode cX12_richest 19 = .ok (.istore_n 3, 1) := by decide +kernel
theorem dX12_richest_20 : decode cX12_richest 20 = .ok (.iload_n 3, 1) := by decide +kernel
theorem dX12_richest_21 : decode cX12_richest 21 = .ok (.aload_n 0, 1) := by decide +kernel
theorem dX12_richest_22 : decode cX12_richest 22 = .ok (.getfield 49, 3) := by decide +kernel
theorem dX12_richest_25 : decode cX12_richest 25 = .ok (.aload_n 0, 1) := by decide +kernel
theorem dX12_richest_26 : decode cX12_richest 26 = .ok (.getfield 233, 3) := by decide +kernel
theorem dX12_richest_29 : decode cX12_richest 29 = .ok (.iaload, 1) := by decide +kernel
theorem dX12_richest_30 : decode cX12_richest 30 = .ok (.if_icmp .ge 28, 3) := by decide +kernel
theorem dX12_richest_33 : decode cX12_richest 33 = .ok (.iload_n 2, 1) := by decide +kernel
theorem dX12_richest_34 : decode cX12_richest 34 = .ok (.ifCond .lt 16, 3) := by decide +kernel
theorem dX12_richest_37 : decode cX12_richest 37 = .ok (.aload_n 0, 1) := by decide +kernel
theorem dX12_richest_38 : decode cX12_richest 38 = .ok (.iload_n 3, 1) := by decide +kernel
theorem dX12_richest_39 : decode cX12_richest 39 = .ok (.invokevirtual 415, 3) := by decide +kernel
theorem dX12_richest_42 : decode cX12_richest 42 = .ok (.aload_n 0, 1) := by decide +kernel
theorem dX12_richest_43 : decode cX12_richest 43 = .ok (.iload_n 2, 1) := by decide +kernel
theorem dX12_richest_44 : decode cX12_richest 44 = .ok (.invokevirtual 415, 3) := by decide +kernel
theorem dX12_richest_47 : decode cX12_richest 47 = .ok (.if_icmp .le 5, 3) := by decide +kernel
theorem dX12_richest_50 : decode cX12_richest 50 = .ok (.iload_n 3, 1) := by decide +kernel
theorem dX12_richest_51 : decode cX12_richest 51 = .ok (.istore_n 2, 1) := by decide +kernel
theorem dX12_richest_52 : decode cX12_richest 52 = .ok (.iinc 3 1, 3) := by decide +kernel
theorem dX12_richest_55 : decode cX12_richest 55 = .ok (.goto (-35), 3) := by decide +kernel
theorem dX12_richest_58 : decode cX12_richest 58 = .ok (.iload_n 2, 1) := by decide +kernel
theorem dX12_richest_59 : decode cX12_richest 59 = .ok (.ifCond .lt 7, 3) := by decide +kernel
theorem dX12_richest_62 : decode cX12_richest 62 = .ok (.iload_n 1, 1) := by decide +kernel
theorem dX12_richest_63 : decode cX12_richest 63 = .ok (.ifCond .ne 7, 3) := by decide +kernel
theorem dX12_richest_66 : decode cX12_richest 66 = .ok (.iload_n 2, 1) := by decide +kernel
theorem dX12_richest_67 : decode cX12_richest 67 = .ok (.goto 8, 3) := by decide +kernel
theorem dX12_richest_70 : decode cX12_richest 70 = .ok (.aload_n 0, 1) := by decide +kernel
theorem dX12_richest_71 : decode cX12_richest 71 = .ok (.iload_n 2, 1) := by decide +kernel
theorem dX12_richest_72 : decode cX12_richest 72 = .ok (.invokevirtual 415, 3) := by decide +kernel
theorem dX12_richest_75 : decode cX12_richest 75 = .ok (.ireturn, 1) := by decide +kernel
theorem dX12_likely_0 : decode cX12_likely 0 = .ok (.iload_n 1, 1) := by decide +kernel
theorem dX12_likely_1 : decode cX12_likely 1 = .ok (.iconst 0, 1) := by decide +kernel
theorem dX12_likely_2 : decode cX12_likely 2 = .ok (.iconst 1, 1) := by decide +kernel
theorem dX12_likely_3 : decode cX12_likely 3 = .ok (.invokestatic 310, 3) := by decide +kernel
theorem dX12_likely_6 : decode cX12_likely 6 = .ok (.ifCond .ne 5, 3) := by decide +kernel
theorem dX12_likely_9 : decode cX12_likely 9 = .ok (.iconst (-1), 1) := by decide +kernel
theorem dX12_likely_10 : decode cX12_likely 10 = .ok (.ireturn, 1) := by decide +kernel
theorem dX12_likely_11 : decode cX12_likely 11 = .ok (.aload_n 0, 1) := by decide +kernel
theorem dX12_likely_12 : decode cX12_likely 12 = .ok (.invokevirtual 406, 3) := by decide +kernel
theorem dX12_likely_15 : decode cX12_likely 15 = .ok (.iconst 0, 1) := by decide +kernel
theorem dX12_likely_16 : decode cX12_likely 16 = .ok (.istore_n 2, 1) := by decide +kernel
theorem dX12_likely_17 : decode cX12_likely 17 = .ok (.iconst 1, 1) := by decide +kernel
theorem dX12_likely_18 : decode cX12_likely 18 = .ok (.istore_n 3, 1) := by decide +kernel
theorem dX12_likely_19 : decode cX12_likely 19 = .ok (.iconst 0, 1) := by decide +kernel
theorem dX12_likely_20 : decode cX12_likely 20 = .ok (.istore 4, 2) := by decide +kernel
theorem dX12_likely_22 : decode cX12_likely 22 = .ok (.iload 4, 2) := by decide +kernel
theorem dX12_likely_24 : decode cX12_likely 24 = .ok (.aload_n 0, 1) := by decide +kernel
theorem dX12_likely_25 : decode cX12_likely 25 = .ok (.invokevirtual 306, 3) := by decide +kernel
theorem dX12_likely_28 : decode cX12_likely 28 = .ok (.if_icmp .ge 60, 3) := by decide +kernel
theorem dX12_likely_31 : decode cX12_likely 31 = .ok (.aload_n 0, 1) := by decide +kernel
theorem dX12_likely_32 : decode cX12_likely 32 = .ok (.getfield 119, 3) := by decide +kernel
theorem dX12_likely_35 : decode cX12_likely 35 = .ok (.iload 4, 2) := by decide +kernel
theorem dX12_likely_37 : decode cX12_likely 37 = .ok (.iaload, 1) := by decide +kernel
theorem dX12_likely_38 : decode cX12_likely 38 = .ok (.iconst 2, 1) := by decide +kernel
theorem dX12_likely_39 : decode cX12_likely 39 = .ok (.if_icmp .le 10, 3) := by decide +kernel
theorem dX12_likely_42 : decode cX12_likely 42 = .ok (.iload_n 2, 1) := by decide +kernel
theorem dX12_likely_43 : decode cX12_likely 43 = .ok (.iconst 1, 1) := by decide +kernel
theorem dX12_likely_44 : decode cX12_likely 44 = .ok (.iload 4, 2) := by decide +kernel
theorem dX12_likely_46 : decode cX12_likely 46 = .ok (.ishl, 1) := by decide +kernel
theorem dX12_likely_47 : decode cX12_likely 47 = .ok (.ior, 1) := by decide +kernel
theorem dX12_likely_48 : decode cX12_likely 48 = .ok (.istore_n 2, 1) := by decide +kernel
theorem dX12_likely_49 : decode cX12_likely 49 = .ok (.iload_n 3, 1) := by decide +kernel
theorem dX12_likely_50 : decode cX12_likely 50 = .ok (.aload_n 0, 1) := by decide +kernel
theorem dX12_likely_51 : decode cX12_likely 51 = .ok (.getfield 119, 3) := by decide +kernel
theorem dX12_likely_54 : decode cX12_likely 54 = .ok (.iload 4, 2) := by decide +kernel
theorem dX12_likely_56 : decode cX12_likely 56 = .ok (.iaload, 1) := by decide +kernel
theorem dX12_likely_57 : decode cX12_likely 57 = .ok (.iconst 2, 1) := by decide +kernel
theorem dX12_likely_58 : decode cX12_likely 58 = .ok (.if_icmp .le 13, 3) := by decide +kernel
theorem dX12_likely_61 : decode cX12_likely 61 = .ok (.aload_n 0, 1) := by decide +kernel
theorem dX12_likely_62 : decode cX12_likely 62 = .ok (.getfield 119, 3) := by decide +kernel
theorem dX12_likely_65 : decode cX12_likely 65 = .ok (.iload 4, 2) := by decide +kernel
theorem dX12_likely_67 : decode cX12_likely 67 = .ok (.iaload, 1) := by decide +kernel
theorem dX12_likely_68 : decode cX12_likely 68 = .ok (.goto 12, 3) := by decide +kernel
theorem dX12_likely_71 : decode cX12_likely 71 = .ok (.iconst 4, 1) := by decide +kernel
theorem dX12_likely_72 : decode cX12_likely 72 = .ok (.aload_n 0, 1) := by decide +kernel
theorem dX12_likely_73 : decode cX12_likely 73 = .ok (.getfield 119, 3) := by decide +kernel
theorem dX12_likely_76 : decode cX12_likely 76 = .ok (.iload 4, 2) := by decide +kernel
theorem dX12_likely_78 : decode cX12_likely 78 = .ok (.iaload, 1) := by decide +kernel
theorem dX12_likely_79 : decode cX12_likely 79 = .ok (.isub, 1) := by decide +kernel
theorem dX12_likely_80 : decode cX12_likely 80 = .ok (.imul, 1) := by decide +kernel
theorem dX12_likely_81 : decode cX12_likely 81 = .ok (.istore_n 3, 1) := by decide +kernel
theorem dX12_likely_82 : decode cX12_likely 82 = .ok (.iinc 4 1, 3) := by decide +kernel
theorem dX12_likely_85 : decode cX12_likely 85 = .ok (.goto (-63), 3) := by decide +kernel
theorem dX12_likely_88 : decode cX12_likely 88 = .ok (.iload_n 1, 1) := by decide +kernel
theorem dX12_likely_89 : decode cX12_likely 89 = .ok (.ifCond .ne 7, 3) := by decide +kernel
theorem dX12_likely_92 : decode cX12_likely 92 = .ok (.iload_n 2, 1) := by decide +kernel
theorem dX12_likely_93 : decode cX12_likely 93 = .ok (.goto 4, 3) := by decide +kernel
theorem dX12_likely_96 : decode cX12_likely 96 = .ok (.iload_n 3, 1) := by decide +kernel
theorem dX12_likely_97 : decode cX12_likely 97 = .ok (.ireturn, 1) := by decide +kernel
theorem dX12_isMatter_0 : decode cX12_isMatter 0 = .ok (.iload_n 0, 1) := by decide +kernel
theorem dX12_isMatter_1 : decode cX12_isMatter 1 = .ok (.iconst 0, 1) := by decide +kernel
theorem dX12_isMatter_2 : decode cX12_isMatter 2 = .ok (.iconst 5, 1) := by decide +kernel
theorem dX12_isMatter_3 : decode cX12_isMatter 3 = .ok (.invokestatic 310, 3) := by decide +kernel
theorem dX12_isMatter_6 : decode cX12_isMatter 6 = .ok (.ireturn, 1) := by decide +kernel
theorem dX12_canBe_0 : decode cX12_canBe 0 = .ok (.iconst 0, 1) := by decide +kernel
theorem dX12_canBe_1 : decode cX12_canBe 1 = .ok (.istore_n 2, 1) := by decide +kernel
theorem dX12_canBe_2 : decode cX12_canBe 2 = .ok (.iload_n 2, 1) := by decide +kernel
theorem dX12_canBe_3 : decode cX12_canBe 3 = .ok (.aload_n 0, 1) := by decide +kernel
theorem dX12_canBe_4 : decode cX12_canBe 4 = .ok (.invokevirtual 306, 3) := by decide +kernel
theorem dX12_canBe_7 : decode cX12_canBe 7 = .ok (.if_icmp .ge 34, 3) := by decide +kernel
theorem dX12_canBe_10 : decode cX12_canBe 10 = .ok (.aload_n 0, 1) := by decide +kernel
theorem dX12_canBe_11 : decode cX12_canBe 11 = .ok (.getfield 119, 3) := by decide +kernel
theorem dX12_canBe_14 : decode cX12_canBe 14 = .ok (.iload_n 2, 1) := by decide +kernel
theorem dX12_canBe_15 : decode cX12_canBe 15 = .ok (.iaload, 1) := by decide +kernel
theorem dX12_canBe_16 : decode cX12_canBe 16 = .ok (.iload_n 1, 1) := by decide +kernel
theorem dX12_canBe_17 : decode cX12_canBe 17 = .ok (.iload_n 2, 1) := by decide +kernel
theorem dX12_canBe_18 : decode cX12_canBe 18 = .ok (.ishr, 1) := by decide +kernel
theorem dX12_canBe_19 : decode cX12_canBe 19 = .ok (.iconst 1, 1) := by decide +kernel
theorem dX12_canBe_20 : decode cX12_canBe 20 = .ok (.iand, 1) := by decide +kernel
theorem dX12_canBe_21 : decode cX12_canBe 21 = .ok (.iconst 1, 1) := by decide +kernel
theorem dX12_canBe_22 : decode cX12_canBe 22 = .ok (.if_icmp .ne 7, 3) := by decide +kernel
theorem dX12_canBe_25 : decode cX12_canBe 25 = .ok (.iconst 0, 1) := by decide +kernel
theorem dX12_canBe_26 : decode cX12_canBe 26 = .ok (.goto 4, 3) := by decide +kernel
theorem dX12_canBe_29 : decode cX12_canBe 29 = .ok (.iconst 4, 1) := by decide +kernel
theorem dX12_canBe_30 : decode cX12_canBe 30 = .ok (.if_icmp .ne 5, 3) := by decide +kernel
theorem dX12_canBe_33 : decode cX12_canBe 33 = .ok (.iconst 0, 1) := by decide +kernel
theorem dX12_canBe_34 : decode cX12_canBe 34 = .ok (.ireturn, 1) := by decide +kernel
theorem dX12_canBe_35 : decode cX12_canBe 35 = .ok (.iinc 2 1, 3) := by decide +kernel
theorem dX12_canBe_38 : decode cX12_canBe 38 = .ok (.goto (-36), 3) := by decide +kernel
theorem dX12_canBe_41 : decode cX12_canBe 41 = .ok (.iconst 1, 1) := by decide +kernel
theorem dX12_canBe_42 : decode cX12_canBe 42 = .ok (.ireturn, 1) := by decide +kernel
theorem dX12_partsOn_0 : decode cX12_partsOn 0 = .ok (.iconst 0, 1) := by decide +kernel
theorem dX12_partsOn_1 : decode cX12_partsOn 1 = .ok (.istore_n 3, 1) := by decide +kernel
theorem dX12_partsOn_2 : decode cX12_partsOn 2 = .ok (.iconst 0, 1) := by decide +kernel
theorem dX12_partsOn_3 : decode cX12_partsOn 3 = .ok (.istore 4, 2) := by decide +kernel
theorem dX12_partsOn_5 : decode cX12_partsOn 5 = .ok (.iload 4, 2) := by decide +kernel
theorem dX12_partsOn_7 : decode cX12_partsOn 7 = .ok (.aload_n 0, 1) := by decide +kernel
theorem dX12_partsOn_8 : decode cX12_partsOn 8 = .ok (.invokevirtual 306, 3) := by decide +kernel
theorem dX12_partsOn_11 : decode cX12_partsOn 11 = .ok (.if_icmp .ge 31, 3) := by decide +kernel
theorem dX12_partsOn_14 : decode cX12_partsOn 14 = .ok (.aload_n 0, 1) := by decide +kernel
theorem dX12_partsOn_15 : decode cX12_partsOn 15 = .ok (.getfield 113, 3) := by decide +kernel
theorem dX12_partsOn_18 : decode cX12_partsOn 18 = .ok (.iload 4, 2) := by decide +kernel
theorem dX12_partsOn_20 : decode cX12_partsOn 20 = .ok (.iaload, 1) := by decide +kernel
theorem dX12_partsOn_21 : decode cX12_partsOn 21 = .ok (.iload_n 1, 1) := by decide +kernel
theorem dX12_partsOn_22 : decode cX12_partsOn 22 = .ok (.if_icmp .ne 14, 3) := by decide +kernel
theorem dX12_partsOn_25 : decode cX12_partsOn 25 = .ok (.iload_n 3, 1) := by decide +kernel
theorem dX12_partsOn_26 : decode cX12_partsOn 26 = .ok (.iconst 1, 1) := by decide +kernel
theorem dX12_partsOn_27 : decode cX12_partsOn 27 = .ok (.iload_n 2, 1) := by decide +kernel
theorem dX12_partsOn_28 : decode cX12_partsOn 28 = .ok (.iload 4, 2) := by decide +kernel
theorem dX12_partsOn_30 : decode cX12_partsOn 30 = .ok (.invokestatic 342, 3) := by decide +kernel
theorem dX12_partsOn_33 : decode cX12_partsOn 33 = .ok (.ishl, 1) := by decide +kernel
theorem dX12_partsOn_34 : decode cX12_partsOn 34 = .ok (.ior, 1) := by decide +kernel
theorem dX12_partsOn_35 : decode cX12_partsOn 35 = .ok (.istore_n 3, 1) := by decide +kernel
theorem dX12_partsOn_36 : decode cX12_partsOn 36 = .ok (.iinc 4 1, 3) := by decide +kernel
theorem dX12_partsOn_39 : decode cX12_partsOn 39 = .ok (.goto (-34), 3) := by decide +kernel
theorem dX12_partsOn_42 : decode cX12_partsOn 42 = .ok (.iload_n 3, 1) := by decide +kernel
theorem dX12_partsOn_43 : decode cX12_partsOn 43 = .ok (.ireturn, 1) := by decide +kernel
theorem dX12_fillsHits_0 : decode cX12_fillsHits 0 = .ok (.aload_n 0, 1) := by decide +kernel
theorem dX12_fillsHits_1 : decode cX12_fillsHits 1 = .ok (.invokevirtual 406, 3) := by decide +kernel
theorem dX12_fillsHits_4 : decode cX12_fillsHits 4 = .ok (.iconst 0, 1) := by decide +kernel
theorem dX12_fillsHits_5 : decode cX12_fillsHits 5 = .ok (.istore_n 2, 1) := by decide +kernel
theorem dX12_fillsHits_6 : decode cX12_fillsHits 6 = .ok (.iload_n 2, 1) := by decide +kernel
theorem dX12_fillsHits_7 : decode cX12_fillsHits 7 = .ok (.iconst 1, 1) := by decide +kernel
theorem dX12_fillsHits_8 : decode cX12_fillsHits 8 = .ok (.aload_n 0, 1) := by decide +kernel
theorem dX12_fillsHits_9 : decode cX12_fillsHits 9 = .ok (.invokevirtual 306, 3) := by decide +kernel
theorem dX12_fillsHits_12 : decode cX12_fillsHits 12 = .ok (.ishl, 1) := by decide +kernel
theorem dX12_fillsHits_13 : decode cX12_fillsHits 13 = .ok (.if_icmp .ge 33, 3) := by decide +kernel
theorem dX12_fillsHits_16 : decode cX12_fillsHits 16 = .ok (.aload_n 0, 1) := by decide +kernel
theorem dX12_fillsHits_17 : decode cX12_fillsHits 17 = .ok (.getfield 131, 3) := by decide +kernel
theorem dX12_fillsHits_20 : decode cX12_fillsHits 20 = .ok (.iload_n 2, 1) := by decide +kernel
theorem dX12_fillsHits_21 : decode cX12_fillsHits 21 = .ok (.aload_n 0, 1) := by decide +kernel
theorem dX12_fillsHits_22 : decode cX12_fillsHits 22 = .ok (.iload_n 2, 1) := by decide +kernel
theorem dX12_fillsHits_23 : decode cX12_fillsHits 23 = .ok (.invokevirtual 431, 3) := by decide +kernel
theorem dX12_fillsHits_26 : decode cX12_fillsHits 26 = .ok (.ifCond .eq 12, 3) := by decide +kernel
theorem dX12_fillsHits_29 : decode cX12_fillsHits 29 = .ok (.aload_n 0, 1) := by decide +kernel
theorem dX12_fillsHits_30 : decode cX12_fillsHits 30 = .ok (.iload_n 1, 1) := by decide +kernel
theorem dX12_fillsHits_31 : decode cX12_fillsHits 31 = .ok (.iload_n 2, 1) := by decide +kernel
theorem dX12_fillsHits_32 : decode cX12_fillsHits 32 = .ok (.invokevirtual 434, 3) := by decide +kernel
theorem dX12_fillsHits_35 : decode cX12_fillsHits 35 = .ok (.goto 4, 3) := by decide +kernel
theorem dX12_fillsHits_38 : decode cX12_fillsHits 38 = .ok (.iconst (-1), 1) := by decide +kernel
theorem dX12_fillsHits_39 : decode cX12_fillsHits 39 = .ok (.iastore, 1) := by decide +kernel
theorem dX12_fillsHits_40 : decode cX12_fillsHits 40 = .ok (.iinc 2 1, 3) := by decide +kernel
theorem dX12_fillsHits_43 : decode cX12_fillsHits 43 = .ok (.goto (-37), 3) := by decide +kernel
theorem dX12_fillsHits_46 : decode cX12_fillsHits 46 = .ok (.return_, 1) := by decide +kernel
theorem dX12_isIn_0 : decode cX12_isIn 0 = .ok (.iconst 0, 1) := by decide +kernel
theorem dX12_isIn_1 : decode cX12_isIn 1 = .ok (.istore_n 2, 1) := by decide +kernel
theorem dX12_isIn_2 : decode cX12_isIn 2 = .ok (.iload_n 2, 1) := by decide +kernel
theorem dX12_isIn_3 : decode cX12_isIn 3 = .ok (.iconst 1, 1) := by decide +kernel
theorem dX12_isIn_4 : decode cX12_isIn 4 = .ok (.aload_n 0, 1) := by decide +kernel
theorem dX12_isIn_5 : decode cX12_isIn 5 = .ok (.invokevirtual 306, 3) := by decide +kernel
theorem dX12_isIn_8 : decode cX12_isIn 8 = .ok (.ishl, 1) := by decide +kernel
theorem dX12_isIn_9 : decode cX12_isIn 9 = .ok (.if_icmp .ge 31, 3) := by decide +kernel
theorem dX12_isIn_12 : decode cX12_isIn 12 = .ok (.aload_n 0, 1) := by decide +kernel
theorem dX12_isIn_13 : decode cX12_isIn 13 = .ok (.getfield 131, 3) := by decide +kernel
theorem dX12_isIn_16 : decode cX12_isIn 16 = .ok (.iload_n 2, 1) := by decide +kernel
theorem dX12_isIn_17 : decode cX12_isIn 17 = .ok (.iaload, 1) := by decide +kernel
theorem dX12_isIn_18 : decode cX12_isIn 18 = .ok (.ifCond .lt 16, 3) := by decide +kernel
theorem dX12_isIn_21 : decode cX12_isIn 21 = .ok (.aload_n 0, 1) := by decide +kernel
theorem dX12_isIn_22 : decode cX12_isIn 22 = .ok (.getfield 131, 3) := by decide +kernel
theorem dX12_isIn_25 : decode cX12_isIn 25 = .ok (.iload_n 2, 1) := by decide +kernel
theorem dX12_isIn_26 : decode cX12_isIn 26 = .ok (.iaload, 1) := by decide +kernel
theorem dX12_isIn_27 : decode cX12_isIn 27 = .ok (.iload_n 1, 1) := by decide +kernel
theorem dX12_isIn_28 : decode cX12_isIn 28 = .ok (.iand, 1) := by decide +kernel
theorem dX12_isIn_29 : decode cX12_isIn 29 = .ok (.ifCond .ne 5, 3) := by decide +kernel
theorem dX12_isIn_32 : decode cX12_isIn 32 = .ok (.iconst 0, 1) := by decide +kernel
theorem dX12_isIn_33 : decode cX12_isIn 33 = .ok (.ireturn, 1) := by decide +kernel
theorem dX12_isIn_34 : decode cX12_isIn 34 = .ok (.iinc 2 1, 3) := by decide +kernel
theorem dX12_isIn_37 : decode cX12_isIn 37 = .ok (.goto (-35), 3) := by decide +kernel
theorem dX12_isIn_40 : decode cX12_isIn 40 = .ok (.iconst 1, 1) := by decide +kernel
theorem dX12_isIn_41 : decode cX12_isIn 41 = .ok (.ireturn, 1) := by decide +kernel
theorem dX12_sure_0 : decode cX12_sure 0 = .ok (.aload_n 0, 1) := by decide +kernel
theorem dX12_sure_1 : decode cX12_sure 1 = .ok (.iload_n 1, 1) := by decide +kernel
theorem dX12_sure_2 : decode cX12_sure 2 = .ok (.invokevirtual 372, 3) := by decide +kernel
theorem dX12_sure_5 : decode cX12_sure 5 = .ok (.ifCond .eq 10, 3) := by decide +kernel
theorem dX12_sure_8 : decode cX12_sure 8 = .ok (.iload_n 2, 1) := by decide +kernel
theorem dX12_sure_9 : decode cX12_sure 9 = .ok (.invokestatic 437, 3) := by decide +kernel
theorem dX12_sure_12 : decode cX12_sure 12 = .ok (.ifCond .ne 5, 3) := by decide +kernel
theorem dX12_sure_15 : decode cX12_sure 15 = .ok (.iconst (-1), 1) := by decide +kernel
theorem dX12_sure_16 : decode cX12_sure 16 = .ok (.ireturn, 1) := by decide +kernel
theorem dX12_sure_17 : decode cX12_sure 17 = .ok (.aload_n 0, 1) := by decide +kernel
theorem dX12_sure_18 : decode cX12_sure 18 = .ok (.iload_n 2, 1) := by decide +kernel
theorem dX12_sure_19 : decode cX12_sure 19 = .ok (.invokevirtual 440, 3) := by decide +kernel
theorem dX12_sure_22 : decode cX12_sure 22 = .ok (.aload_n 0, 1) := by decide +kernel
theorem dX12_sure_23 : decode cX12_sure 23 = .ok (.aload_n 0, 1) := by decide +kernel
theorem dX12_sure_24 : decode cX12_sure 24 = .ok (.iload_n 1, 1) := by decide +kernel
theorem dX12_sure_25 : decode cX12_sure 25 = .ok (.invokevirtual 336, 3) := by decide +kernel
theorem dX12_sure_28 : decode cX12_sure 28 = .ok (.invokevirtual 443, 3) := by decide +kernel
theorem dX12_sure_31 : decode cX12_sure 31 = .ok (.ifCond .eq 7, 3) := by decide +kernel
theorem dX12_sure_34 : decode cX12_sure 34 = .ok (.iconst 1, 1) := by decide +kernel
theorem dX12_sure_35 : decode cX12_sure 35 = .ok (.goto 4, 3) := by decide +kernel
theorem dX12_sure_38 : decode cX12_sure 38 = .ok (.iconst 0, 1) := by decide +kernel
theorem dX12_sure_39 : decode cX12_sure 39 = .ok (.ireturn, 1) := by decide +kernel
theorem dX12_cover_0 : decode cX12_cover 0 = .ok (.iload_n 1, 1) := by decide +kernel
theorem dX12_cover_1 : decode cX12_cover 1 = .ok (.invokestatic 437, 3) := by decide +kernel
theorem dX12_cover_4 : decode cX12_cover 4 = .ok (.ifCond .eq 12, 3) := by decide +kernel
theorem dX12_cover_7 : decode cX12_cover 7 = .ok (.iload_n 2, 1) := by decide +kernel
theorem dX12_cover_8 : decode cX12_cover 8 = .ok (.iconst 0, 1) := by decide +kernel
theorem dX12_cover_9 : decode cX12_cover 9 = .ok (.iconst 1, 1) := by decide +kernel
theorem dX12_cover_10 : decode cX12_cover 10 = .ok (.invokestatic 310, 3) := by decide +kernel
theorem dX12_cover_13 : decode cX12_cover 13 = .ok (.ifCond .ne 5, 3) := by decide +kernel
theorem dX12_cover_16 : decode cX12_cover 16 = .ok (.iconst (-1), 1) := by decide +kernel
theorem dX12_cover_17 : decode cX12_cover 17 = .ok (.ireturn, 1) := by decide +kernel
theorem dX12_cover_18 : decode cX12_cover 18 = .ok (.aload_n 0, 1) := by decide +kernel
theorem dX12_cover_19 : decode cX12_cover 19 = .ok (.iload_n 1, 1) := by decide +kernel
theorem dX12_cover_20 : decode cX12_cover 20 = .ok (.invokevirtual 440, 3) := by decide +kernel
theorem dX12_cover_23 : decode cX12_cover 23 = .ok (.bipush (-2), 2) := by decide +kernel
theorem dX12_cover_25 : decode cX12_cover 25 = .ok (.istore_n 3, 1) := by decide +kernel
theorem dX12_cover_26 : decode cX12_cover 26 = .ok (.iconst 0, 1) := by decide +kernel
theorem dX12_cover_27 : decode cX12_cover 27 = .ok (.istore 4, 2) := by decide +kernel
theorem dX12_cover_29 : decode cX12_cover 29 = .ok (.iload 4, 2) := by decide +kernel
theorem dX12_cover_31 : decode cX12_cover 31 = .ok (.sipush 256, 3) := by decide +kernel
theorem dX12_cover_34 : decode cX12_cover 34 = .ok (.if_icmp .ge 37, 3) := by decide +kernel
theorem dX12_cover_37 : decode cX12_cover 37 = .ok (.iload_n 3, 1) := by decide +kernel
theorem dX12_cover_38 : decode cX12_cover 38 = .ok (.ifCond .lt 15, 3) := by decide +kernel
theorem dX12_cover_41 : decode cX12_cover 41 = .ok (.iload 4, 2) := by decide +kernel
theorem dX12_cover_43 : decode cX12_cover 43 = .ok (.invokestatic 339, 3) := by decide +kernel
theorem dX12_cover_46 : decode cX12_cover 46 = .ok (.iload_n 3, 1) := by decide +kernel
theorem dX12_cover_47 : decode cX12_cover 47 = .ok (.invokestatic 339, 3) := by decide +kernel
theorem dX12_cover_50 : decode cX12_cover 50 = .ok (.if_icmp .ge 15, 3) := by decide +kernel
theorem dX12_cover_53 : decode cX12_cover 53 = .ok (.aload_n 0, 1) := by decide +kernel
theorem dX12_cover_54 : decode cX12_cover 54 = .ok (.iload 4, 2) := by decide +kernel
theorem dX12_cover_56 : decode cX12_cover 56 = .ok (.invokevirtual 443, 3) := by decide +kernel
theorem dX12_cover_59 : decode cX12_cover 59 = .ok (.ifCond .eq 6, 3) := by decide +kernel
theorem dX12_cover_62 : decode cX12_cover 62 = .ok (.iload 4, 2) := by decide +kernel
theorem dX12_cover_64 : decode cX12_cover 64 = .ok (.istore_n 3, 1) := by decide +kernel
theorem dX12_cover_65 : decode cX12_cover 65 = .ok (.iinc 4 1, 3) := by decide +kernel
theorem dX12_cover_68 : decode cX12_cover 68 = .ok (.goto (-39), 3) := by decide +kernel
theorem dX12_cover_71 : decode cX12_cover 71 = .ok (.iload_n 3, 1) := by decide +kernel
theorem dX12_cover_72 : decode cX12_cover 72 = .ok (.ifCond .lt 8, 3) := by decide +kernel
theorem dX12_cover_75 : decode cX12_cover 75 = .ok (.iload_n 2, 1) := by decide +kernel
theorem dX12_cover_76 : decode cX12_cover 76 = .ok (.iconst 1, 1) := by decide +kernel
theorem dX12_cover_77 : decode cX12_cover 77 = .ok (.if_icmp .ne 7, 3) := by decide +kernel
theorem dX12_cover_80 : decode cX12_cover 80 = .ok (.iload_n 3, 1) := by decide +kernel
theorem dX12_cover_81 : decode cX12_cover 81 = .ok (.goto 7, 3) := by decide +kernel
theorem dX12_cover_84 : decode cX12_cover 84 = .ok (.iload_n 3, 1) := by decide +kernel
theorem dX12_cover_85 : decode cX12_cover 85 = .ok (.invokestatic 339, 3) := by decide +kernel
theorem dX12_cover_88 : decode cX12_cover 88 = .ok (.ireturn, 1) := by decide +kernel
theorem dX12_gains_0 : decode cX12_gains 0 = .ok (.aload_n 0, 1) := by decide +kernel
theorem dX12_gains_1 : decode cX12_gains 1 = .ok (.iload_n 1, 1) := by decide +kernel
theorem dX12_gains_2 : decode cX12_gains 2 = .ok (.invokevirtual 372, 3) := by decide +kernel
theorem dX12_gains_5 : decode cX12_gains 5 = .ok (.ifCond .eq 10, 3) := by decide +kernel
theorem dX12_gains_8 : decode cX12_gains 8 = .ok (.iload_n 2, 1) := by decide +kernel
theorem dX12_gains_9 : decode cX12_gains 9 = .ok (.invokestatic 394, 3) := by decide +kernel
theorem dX12_gains_12 : decode cX12_gains 12 = .ok (.ifCond .ne 7, 3) := by decide +kernel
theorem dX12_gains_15 : decode cX12_gains 15 = .ok (.ldc_w 421, 3) := by decide +kernel
theorem dX12_gains_18 : decode cX12_gains 18 = .ok (.ireturn, 1) := by decide +kernel
theorem dX12_gains_19 : decode cX12_gains 19 = .ok (.aload_n 0, 1) := by decide +kernel
theorem dX12_gains_20 : decode cX12_gains 20 = .ok (.invokevirtual 369, 3) := by decide +kernel
theorem dX12_gains_23 : decode cX12_gains 23 = .ok (.aload_n 0, 1) := by decide +kernel
theorem dX12_gains_24 : decode cX12_gains 24 = .ok (.iload_n 2, 1) := by decide +kernel
theorem dX12_gains_25 : decode cX12_gains 25 = .ok (.invokevirtual 397, 3) := by decide +kernel
theorem dX12_gains_28 : decode cX12_gains 28 = .ok (.aload_n 0, 1) := by decide +kernel
theorem dX12_gains_29 : decode cX12_gains 29 = .ok (.getfield 113, 3) := by decide +kernel
theorem dX12_gains_32 : decode cX12_gains 32 = .ok (.bipush 23, 2) := by decide +kernel
theorem dX12_gains_34 : decode cX12_gains 34 = .ok (.iload_n 1, 1) := by decide +kernel
theorem dX12_gains_35 : decode cX12_gains 35 = .ok (.iadd, 1) := by decide +kernel
theorem dX12_gains_36 : decode cX12_gains 36 = .ok (.iaload, 1) := by decide +kernel
theorem dX12_gains_37 : decode cX12_gains 37 = .ok (.aload_n 0, 1) := by decide +kernel
theorem dX12_gains_38 : decode cX12_gains 38 = .ok (.getfield 110, 3) := by decide +kernel
theorem dX12_gains_41 : decode cX12_gains 41 = .ok (.bipush 23, 2) := by decide +kernel
theorem dX12_gains_43 : decode cX12_gains 43 = .ok (.iload_n 1, 1) := by decide +kernel
theorem dX12_gains_44 : decode cX12_gains 44 = .ok (.iadd, 1) := by decide +kernel
theorem dX12_gains_45 : decode cX12_gains 45 = .ok (.iaload, 1) := by decide +kernel
theorem dX12_gains_46 : decode cX12_gains 46 = .ok (.isub, 1) := by decide +kernel
theorem dX12_gains_47 : decode cX12_gains 47 = .ok (.aload_n 0, 1) := by decide +kernel
theorem dX12_gains_48 : decode cX12_gains 48 = .ok (.getfield 113, 3) := by decide +kernel
theorem dX12_gains_51 : decode cX12_gains 51 = .ok (.bipush 28, 2) := by decide +kernel
theorem dX12_gains_53 : decode cX12_gains 53 = .ok (.iload_n 1, 1) := by decide +kernel
theorem dX12_gains_54 : decode cX12_gains 54 = .ok (.iadd, 1) := by decide +kernel
theorem dX12_gains_55 : decode cX12_gains 55 = .ok (.iaload, 1) := by decide +kernel
theorem dX12_gains_56 : decode cX12_gains 56 = .ok (.isub, 1) := by decide +kernel
theorem dX12_gains_57 : decode cX12_gains 57 = .ok (.aload_n 0, 1) := by decide +kernel
theorem dX12_gains_58 : decode cX12_gains 58 = .ok (.getfield 110, 3) := by decide +kernel
theorem dX12_gains_61 : decode cX12_gains 61 = .ok (.bipush 28, 2) := by decide +kernel
theorem dX12_gains_63 : decode cX12_gains 63 = .ok (.iload_n 1, 1) := by decide +kernel
theorem dX12_gains_64 : decode cX12_gains 64 = .ok (.iadd, 1) := by decide +kernel
theorem dX12_gains_65 : decode cX12_gains 65 = .ok (.iaload, 1) := by decide +kernel
theorem dX12_gains_66 : decode cX12_gains 66 = .ok (.iadd, 1) := by decide +kernel
theorem dX12_gains_67 : decode cX12_gains 67 = .ok (.ireturn, 1) := by decide +kernel
theorem dX12_partsIn_0 : decode cX12_partsIn 0 = .ok (.iload_n 1, 1) := by decide +kernel
theorem dX12_partsIn_1 : decode cX12_partsIn 1 = .ok (.invokestatic 394, 3) := by decide +kernel
theorem dX12_partsIn_4 : decode cX12_partsIn 4 = .ok (.ifCond .ne 5, 3) := by decide +kernel
theorem dX12_partsIn_7 : decode cX12_partsIn 7 = .ok (.iconst (-1), 1) := by decide +kernel
theorem dX12_partsIn_8 : decode cX12_partsIn 8 = .ok (.ireturn, 1) := by decide +kernel
theorem dX12_partsIn_9 : decode cX12_partsIn 9 = .ok (.aload_n 0, 1) := by decide +kernel
theorem dX12_partsIn_10 : decode cX12_partsIn 10 = .ok (.invokevirtual 369, 3) := by decide +kernel
theorem dX12_partsIn_13 : decode cX12_partsIn 13 = .ok (.aload_n 0, 1) := by decide +kernel
theorem dX12_partsIn_14 : decode cX12_partsIn 14 = .ok (.iload_n 1, 1) := by decide +kernel
theorem dX12_partsIn_15 : decode cX12_partsIn 15 = .ok (.invokevirtual 397, 3) := by decide +kernel
theorem dX12_partsIn_18 : decode cX12_partsIn 18 = .ok (.aload_n 0, 1) := by decide +kernel
theorem dX12_partsIn_19 : decode cX12_partsIn 19 = .ok (.getfield 113, 3) := by decide +kernel
theorem dX12_partsIn_22 : decode cX12_partsIn 22 = .ok (.bipush 22, 2) := by decide +kernel
theorem dX12_partsIn_24 : decode cX12_partsIn 24 = .ok (.iaload, 1) := by decide +kernel
theorem dX12_partsIn_25 : decode cX12_partsIn 25 = .ok (.ireturn, 1) := by decide +kernel
theorem dX12_year_0 : decode cX12_year 0 = .ok (.aload_n 0, 1) := by decide +kernel
theorem dX12_year_1 : decode cX12_year 1 = .ok (.iload_n 1, 1) := by decide +kernel
theorem dX12_year_2 : decode cX12_year 2 = .ok (.invokevirtual 372, 3) := by decide +kernel
theorem dX12_year_5 : decode cX12_year 5 = .ok (.ifCond .eq 20, 3) := by decide +kernel
theorem dX12_year_8 : decode cX12_year 8 = .ok (.iload_n 2, 1) := by decide +kernel
theorem dX12_year_9 : decode cX12_year 9 = .ok (.invokestatic 394, 3) := by decide +kernel
theorem dX12_year_12 : decode cX12_year 12 = .ok (.ifCond .eq 13, 3) := by decide +kernel
theorem dX12_year_15 : decode cX12_year 15 = .ok (.iload_n 3, 1) := by decide +kernel
theorem dX12_year_16 : decode cX12_year 16 = .ok (.iconst 1, 1) := by decide +kernel
theorem dX12_year_17 : decode cX12_year 17 = .ok (.bipush 20, 2) := by decide +kernel
theorem dX12_year_19 : decode cX12_year 19 = .ok (.invokestatic 310, 3) := by decide +kernel
theorem dX12_year_22 : decode cX12_year 22 = .ok (.ifCond .ne 5, 3) := by decide +kernel
theorem dX12_year_25 : decode cX12_year 25 = .ok (.iconst (-1), 1) := by decide +kernel
theorem dX12_year_26 : decode cX12_year 26 = .ok (.ireturn, 1) := by decide +kernel
theorem dX12_year_27 : decode cX12_year 27 = .ok (.iconst 0, 1) := by decide +kernel
theorem dX12_year_28 : decode cX12_year 28 = .ok (.istore 4, 2) := by decide +kernel
theorem dX12_year_30 : decode cX12_year 30 = .ok (.iconst 0, 1) := by decide +kernel
theorem dX12_year_31 : decode cX12_year 31 = .ok (.istore 5, 2) := by decide +kernel
theorem dX12_year_33 : decode cX12_year 33 = .ok (.iload 5, 2) := by decide +kernel
theorem dX12_year_35 : decode cX12_year 35 = .ok (.iload_n 3, 1) := by decide +kernel
theorem dX12_year_36 : decode cX12_year 36 = .ok (.if_icmp .ge 53, 3) := by decide +kernel
theorem dX12_year_39 : decode cX12_year 39 = .ok (.aload_n 0, 1) := by decide +kernel
theorem dX12_year_40 : decode cX12_year 40 = .ok (.invokevirtual 369, 3) := by decide +kernel
theorem dX12_year_43 : decode cX12_year 43 = .ok (.aload_n 0, 1) := by decide +kernel
theorem dX12_year_44 : decode cX12_year 44 = .ok (.dup, 1) := by decide +kernel
theorem dX12_year_45 : decode cX12_year 45 = .ok (.getfield 314, 3) := by decide +kernel
theorem dX12_year_48 : decode cX12_year 48 = .ok (.iload 5, 2) := by decide +kernel
theorem dX12_year_50 : decode cX12_year 50 = .ok (.iadd, 1) := by decide +kernel
theorem dX12_year_51 : decode cX12_year 51 = .ok (.putfield 314, 3) := by decide +kernel
theorem dX12_year_54 : decode cX12_year 54 = .ok (.aload_n 0, 1) := by decide +kernel
theorem dX12_year_55 : decode cX12_year 55 = .ok (.iload_n 2, 1) := by decide +kernel
theorem dX12_year_56 : decode cX12_year 56 = .ok (.invokevirtual 397, 3) := by decide +kernel
theorem dX12_year_59 : decode cX12_year 59 = .ok (.aload_n 0, 1) := by decide +kernel
theorem dX12_year_60 : decode cX12_year 60 = .ok (.getfield 113, 3) := by decide +kernel
theorem dX12_year_63 : decode cX12_year 63 = .ok (.bipush 23, 2) := by decide +kernel
theorem dX12_year_65 : decode cX12_year 65 = .ok (.iload_n 1, 1) := by decide +kernel
theorem dX12_year_66 : decode cX12_year 66 = .ok (.iadd, 1) := by decide +kernel
theorem dX12_year_67 : decode cX12_year 67 = .ok (.iaload, 1) := by decide +kernel
theorem dX12_year_68 : decode cX12_year 68 = .ok (.aload_n 0, 1) := by decide +kernel
theorem dX12_year_69 : decode cX12_year 69 = .ok (.getfield 113, 3) := by decide +kernel
theorem dX12_year_72 : decode cX12_year 72 = .ok (.bipush 28, 2) := by decide +kernel
theorem dX12_year_74 : decode cX12_year 74 = .ok (.iload_n 1, 1) := by decide +kernel
theorem dX12_year_75 : decode cX12_year 75 = .ok (.iadd, 1) := by decide +kernel
theorem dX12_year_76 : decode cX12_year 76 = .ok (.iaload, 1) := by decide +kernel
theorem dX12_year_77 : decode cX12_year 77 = .ok (.if_icmp .le 6, 3) := by decide +kernel
theorem dX12_year_80 : decode cX12_year 80 = .ok (.iinc 4 1, 3) := by decide +kernel
theorem dX12_year_83 : decode cX12_year 83 = .ok (.iinc 5 1, 3) := by decide +kernel
theorem dX12_year_86 : decode cX12_year 86 = .ok (.goto (-53), 3) := by decide +kernel
theorem dX12_year_89 : decode cX12_year 89 = .ok (.iload 4, 2) := by decide +kernel
theorem dX12_year_91 : decode cX12_year 91 = .ok (.ireturn, 1) := by decide +kernel
theorem dX12_tell_0 : decode cX12_tell 0 = .ok (.aload_n 0, 1) := by decide +kernel
theorem dX12_tell_1 : decode cX12_tell 1 = .ok (.getfield 251, 3) := by decide +kernel
theorem dX12_tell_4 : decode cX12_tell 4 = .ok (.bipush 20, 2) := by decide +kernel
theorem dX12_tell_6 : decode cX12_tell 6 = .ok (.if_icmp .eq 18, 3) := by decide +kernel
theorem dX12_tell_9 : decode cX12_tell 9 = .ok (.aload_n 0, 1) := by decide +kernel
theorem dX12_tell_10 : decode cX12_tell 10 = .ok (.iload_n 1, 1) := by decide +kernel
theorem dX12_tell_11 : decode cX12_tell 11 = .ok (.invokevirtual 366, 3) := by decide +kernel
theorem dX12_tell_14 : decode cX12_tell 14 = .ok (.ifCond .eq 10, 3) := by decide +kernel
theorem dX12_tell_17 : decode cX12_tell 17 = .ok (.iload_n 2, 1) := by decide +kernel
theorem dX12_tell_18 : decode cX12_tell 18 = .ok (.invokestatic 378, 3) := by decide +kernel
theorem dX12_tell_21 : decode cX12_tell 21 = .ok (.ifCond .ne 5, 3) := by decide +kernel
theorem dX12_tell_24 : decode cX12_tell 24 = .ok (.iconst (-1), 1) := by decide +kernel
theorem dX12_tell_25 : decode cX12_tell 25 = .ok (.ireturn, 1) := by decide +kernel
theorem dX12_tell_26 : decode cX12_tell 26 = .ok (.aload_n 0, 1) := by decide +kernel
theorem dX12_tell_27 : decode cX12_tell 27 = .ok (.getfield 134, 3) := by decide +kernel
theorem dX12_tell_30 : decode cX12_tell 30 = .ok (.aload_n 0, 1) := by decide +kernel
theorem dX12_tell_31 : decode cX12_tell 31 = .ok (.getfield 251, 3) := by decide +kernel
theorem dX12_tell_34 : decode cX12_tell 34 = .ok (.iload_n 1, 1) := by decide +kernel
theorem dX12_tell_35 : decode cX12_tell 35 = .ok (.iastore, 1) := by decide +kernel
theorem dX12_tell_36 : decode cX12_tell 36 = .ok (.aload_n 0, 1) := by decide +kernel
theorem dX12_tell_37 : decode cX12_tell 37 = .ok (.getfield 137, 3) := by decide +kernel
theorem dX12_tell_40 : decode cX12_tell 40 = .ok (.aload_n 0, 1) := by decide +kernel
theorem dX12_tell_41 : decode cX12_tell 41 = .ok (.getfield 251, 3) := by decide +kernel
theorem dX12_tell_44 : decode cX12_tell 44 = .ok (.iload_n 2, 1) := by decide +kernel
theorem dX12_tell_45 : decode cX12_tell 45 = .ok (.iastore, 1) := by decide +kernel
theorem dX12_tell_46 : decode cX12_tell 46 = .ok (.aload_n 0, 1) := by decide +kernel
theorem dX12_tell_47 : decode cX12_tell 47 = .ok (.getfield 140, 3) := by decide +kernel
theorem dX12_tell_50 : decode cX12_tell 50 = .ok (.aload_n 0, 1) := by decide +kernel
theorem dX12_tell_51 : decode cX12_tell 51 = .ok (.getfield 251, 3) := by decide +kernel
theorem dX12_tell_54 : decode cX12_tell 54 = .ok (.iload_n 3, 1) := by decide +kernel
theorem dX12_tell_55 : decode cX12_tell 55 = .ok (.bastore, 1) := by decide +kernel
theorem dX12_tell_56 : decode cX12_tell 56 = .ok (.aload_n 0, 1) := by decide +kernel
theorem dX12_tell_57 : decode cX12_tell 57 = .ok (.dup, 1) := by decide +kernel
theorem dX12_tell_58 : decode cX12_tell 58 = .ok (.getfield 251, 3) := by decide +kernel
theorem dX12_tell_61 : decode cX12_tell 61 = .ok (.iconst 1, 1) := by decide +kernel
theorem dX12_tell_62 : decode cX12_tell 62 = .ok (.iadd, 1) := by decide +kernel
theorem dX12_tell_63 : decode cX12_tell 63 = .ok (.putfield 251, 3) := by decide +kernel
theorem dX12_tell_66 : decode cX12_tell 66 = .ok (.aload_n 0, 1) := by decide +kernel
theorem dX12_tell_67 : decode cX12_tell 67 = .ok (.getfield 251, 3) := by decide +kernel
theorem dX12_tell_70 : decode cX12_tell 70 = .ok (.iconst 1, 1) := by decide +kernel
theorem dX12_tell_71 : decode cX12_tell 71 = .ok (.isub, 1) := by decide +kernel
theorem dX12_tell_72 : decode cX12_tell 72 = .ok (.ireturn, 1) := by decide +kernel
theorem dX12_forget_0 : decode cX12_forget 0 = .ok (.aload_n 0, 1) := by decide +kernel
theorem dX12_forget_1 : decode cX12_forget 1 = .ok (.getfield 251, 3) := by decide +kernel
theorem dX12_forget_4 : decode cX12_forget 4 = .ok (.istore_n 1, 1) := by decide +kernel
theorem dX12_forget_5 : decode cX12_forget 5 = .ok (.aload_n 0, 1) := by decide +kernel
theorem dX12_forget_6 : decode cX12_forget 6 = .ok (.iconst 0, 1) := by decide +kernel
theorem dX12_forget_7 : decode cX12_forget 7 = .ok (.putfield 251, 3) := by decide +kernel
theorem dX12_forget_10 : decode cX12_forget 10 = .ok (.iload_n 1, 1) := by decide +kernel
theorem dX12_forget_11 : decode cX12_forget 11 = .ok (.ireturn, 1) := by decide +kernel
theorem dX12_isSo_0 : decode cX12_isSo 0 = .ok (.aload_n 0, 1) := by decide +kernel
theorem dX12_isSo_1 : decode cX12_isSo 1 = .ok (.iload_n 1, 1) := by decide +kernel
theorem dX12_isSo_2 : decode cX12_isSo 2 = .ok (.invokevirtual 431, 3) := by decide +kernel
theorem dX12_isSo_5 : decode cX12_isSo 5 = .ok (.ifCond .ne 5, 3) := by decide +kernel
theorem dX12_isSo_8 : decode cX12_isSo 8 = .ok (.iconst 0, 1) := by decide +kernel
theorem dX12_isSo_9 : decode cX12_isSo 9 = .ok (.ireturn, 1) := by decide +kernel
theorem dX12_isSo_10 : decode cX12_isSo 10 = .ok (.iconst 0, 1) := by decide +kernel
theorem dX12_isSo_11 : decode cX12_isSo 11 = .ok (.istore_n 3, 1) := by decide +kernel
theorem dX12_isSo_12 : decode cX12_isSo 12 = .ok (.iload_n 3, 1) := by decide +kernel
theorem dX12_isSo_13 : decode cX12_isSo 13 = .ok (.iload_n 2, 1) := by decide +kernel
theorem dX12_isSo_14 : decode cX12_isSo 14 = .ok (.if_icmp .ge 44, 3) := by decide +kernel
theorem dX12_isSo_17 : decode cX12_isSo 17 = .ok (.iload_n 1, 1) := by decide +kernel
theorem dX12_isSo_18 : decode cX12_isSo 18 = .ok (.aload_n 0, 1) := by decide +kernel
theorem dX12_isSo_19 : decode cX12_isSo 19 = .ok (.getfield 134, 3) := by decide +kernel
theorem dX12_isSo_22 : decode cX12_isSo 22 = .ok (.iload_n 3, 1) := by decide +kernel
theorem dX12_isSo_23 : decode cX12_isSo 23 = .ok (.iaload, 1) := by decide +kernel
theorem dX12_isSo_24 : decode cX12_isSo 24 = .ok (.invokestatic 342, 3) := by decide +kernel
theorem dX12_isSo_27 : decode cX12_isSo 27 = .ok (.aload_n 0, 1) := by decide +kernel
theorem dX12_isSo_28 : decode cX12_isSo 28 = .ok (.getfield 137, 3) := by decide +kernel
theorem dX12_isSo_31 : decode cX12_isSo 31 = .ok (.iload_n 3, 1) := by decide +kernel
theorem dX12_isSo_32 : decode cX12_isSo 32 = .ok (.iaload, 1) := by decide +kernel
theorem dX12_isSo_33 : decode cX12_isSo 33 = .ok (.if_icmp .ne 7, 3) := by decide +kernel
theorem dX12_isSo_36 : decode cX12_isSo 36 = .ok (.iconst 1, 1) := by decide +kernel
theorem dX12_isSo_37 : decode cX12_isSo 37 = .ok (.goto 4, 3) := by decide +kernel
theorem dX12_isSo_40 : decode cX12_isSo 40 = .ok (.iconst 0, 1) := by decide +kernel
theorem dX12_isSo_41 : decode cX12_isSo 41 = .ok (.aload_n 0, 1) := by decide +kernel
theorem dX12_isSo_42 : decode cX12_isSo 42 = .ok (.getfield 140, 3) := by decide +kernel
theorem dX12_isSo_45 : decode cX12_isSo 45 = .ok (.iload_n 3, 1) := by decide +kernel
theorem dX12_isSo_46 : decode cX12_isSo 46 = .ok (.baload, 1) := by decide +kernel
theorem dX12_isSo_47 : decode cX12_isSo 47 = .ok (.if_icmp .eq 5, 3) := by decide +kernel
theorem dX12_isSo_50 : decode cX12_isSo 50 = .ok (.iconst 0, 1) := by decide +kernel
theorem dX12_isSo_51 : decode cX12_isSo 51 = .ok (.ireturn, 1) := by decide +kernel
theorem dX12_isSo_52 : decode cX12_isSo 52 = .ok (.iinc 3 1, 3) := by decide +kernel
theorem dX12_isSo_55 : decode cX12_isSo 55 = .ok (.goto (-43), 3) := by decide +kernel
theorem dX12_isSo_58 : decode cX12_isSo 58 = .ok (.iconst 1, 1) := by decide +kernel
theorem dX12_isSo_59 : decode cX12_isSo 59 = .ok (.ireturn, 1) := by decide +kernel
theorem dX12_when_0 : decode cX12_when 0 = .ok (.iload_n 1, 1) := by decide +kernel
theorem dX12_when_1 : decode cX12_when 1 = .ok (.iconst 0, 1) := by decide +kernel
theorem dX12_when_2 : decode cX12_when 2 = .ok (.aload_n 0, 1) := by decide +kernel
theorem dX12_when_3 : decode cX12_when 3 = .ok (.getfield 251, 3) := by decide +kernel
theorem dX12_when_6 : decode cX12_when 6 = .ok (.invokestatic 310, 3) := by decide +kernel
theorem dX12_when_9 : decode cX12_when 9 = .ok (.ifCond .eq 12, 3) := by decide +kernel
theorem dX12_when_12 : decode cX12_when 12 = .ok (.iload_n 2, 1) := by decide +kernel
theorem dX12_when_13 : decode cX12_when 13 = .ok (.iconst 0, 1) := by decide +kernel
theorem dX12_when_14 : decode cX12_when 14 = .ok (.iconst 3, 1) := by decide +kernel
theorem dX12_when_15 : decode cX12_when 15 = .ok (.invokestatic 310, 3) := by decide +kernel
theorem dX12_when_18 : decode cX12_when 18 = .ok (.ifCond .ne 5, 3) := by decide +kernel
theorem dX12_when_21 : decode cX12_when 21 = .ok (.iconst (-1), 1) := by decide +kernel
theorem dX12_when_22 : decode cX12_when 22 = .ok (.ireturn, 1) := by decide +kernel
theorem dX12_when_23 : decode cX12_when 23 = .ok (.aload_n 0, 1) := by decide +kernel
theorem dX12_when_24 : decode cX12_when 24 = .ok (.invokevirtual 406, 3) := by decide +kernel
theorem dX12_when_27 : decode cX12_when 27 = .ok (.iconst 0, 1) := by decide +kernel
theorem dX12_when_28 : decode cX12_when 28 = .ok (.istore_n 3, 1) := by decide +kernel
theorem dX12_when_29 : decode cX12_when 29 = .ok (.bipush (-2), 2) := by decide +kernel
theorem dX12_when_31 : decode cX12_when 31 = .ok (.istore 4, 2) := by decide +kernel
theorem dX12_when_33 : decode cX12_when 33 = .ok (.iconst 1, 1) := by decide +kernel
theorem dX12_when_34 : decode cX12_when 34 = .ok (.aload_n 0, 1) := by decide +kernel
theorem dX12_when_35 : decode cX12_when 35 = .ok (.invokevirtual 306, 3) := by decide +kernel
theorem dX12_when_38 : decode cX12_when 38 = .ok (.ishl, 1) := by decide +kernel
theorem dX12_when_39 : decode cX12_when 39 = .ok (.iconst 1, 1) := by decide +kernel
theorem dX12_when_40 : decode cX12_when 40 = .ok (.isub, 1) := by decide +kernel
theorem dX12_when_41 : decode cX12_when 41 = .ok (.istore 5, 2) := by decide +kernel
theorem dX12_when_43 : decode cX12_when 43 = .ok (.iconst 0, 1) := by decide +kernel
theorem dX12_when_44 : decode cX12_when 44 = .ok (.istore 6, 2) := by decide +kernel
theorem dX12_when_46 : decode cX12_when 46 = .ok (.iconst 0, 1) := by decide +kernel
theorem dX12_when_47 : decode cX12_when 47 = .ok (.istore 7, 2) := by decide +kernel
theorem dX12_when_49 : decode cX12_when 49 = .ok (.iload 7, 2) := by decide +kernel
theorem dX12_when_51 : decode cX12_when 51 = .ok (.iconst 1, 1) := by decide +kernel
theorem dX12_when_52 : decode cX12_when 52 = .ok (.aload_n 0, 1) := by decide +kernel
theorem dX12_when_53 : decode cX12_when 53 = .ok (.invokevirtual 306, 3) := by decide +kernel
theorem dX12_when_56 : decode cX12_when 56 = .ok (.ishl, 1) := by decide +kernel
theorem dX12_when_57 : decode cX12_when 57 = .ok (.if_icmp .ge 47, 3) := by decide +kernel
theorem dX12_when_60 : decode cX12_when 60 = .ok (.aload_n 0, 1) := by decide +kernel
theorem dX12_when_61 : decode cX12_when 61 = .ok (.iload 7, 2) := by decide +kernel
theorem dX12_when_63 : decode cX12_when 63 = .ok (.iload_n 1, 1) := by decide +kernel
theorem dX12_when_64 : decode cX12_when 64 = .ok (.invokevirtual 446, 3) := by decide +kernel
theorem dX12_when_67 : decode cX12_when 67 = .ok (.ifCond .ne 6, 3) := by decide +kernel
theorem dX12_when_70 : decode cX12_when 70 = .ok (.goto 28, 3) := by decide +kernel
theorem dX12_when_73 : decode cX12_when 73 = .ok (.iload_n 3, 1) := by decide +kernel
theorem dX12_when_74 : decode cX12_when 74 = .ok (.ifCond .ne 7, 3) := by decide +kernel
theorem dX12_when_77 : decode cX12_when 77 = .ok (.iload 7, 2) := by decide +kernel
theorem dX12_when_79 : decode cX12_when 79 = .ok (.istore 4, 2) := by decide +kernel
theorem dX12_when_81 : decode cX12_when 81 = .ok (.iinc 3 1, 3) := by decide +kernel
theorem dX12_when_84 : decode cX12_when 84 = .ok (.iload 5, 2) := by decide +kernel
theorem dX12_when_86 : decode cX12_when 86 = .ok (.iload 7, 2) := by decide +kernel
theorem dX12_when_88 : decode cX12_when 88 = .ok (.iand, 1) := by decide +kernel
theorem dX12_when_89 : decode cX12_when 89 = .ok (.istore 5, 2) := by decide +kernel
theorem dX12_when_91 : decode cX12_when 91 = .ok (.iload 6, 2) := by decide +kernel
theorem dX12_when_93 : decode cX12_when 93 = .ok (.iload 7, 2) := by decide +kernel
theorem dX12_when_95 : decode cX12_when 95 = .ok (.ior, 1) := by decide +kernel
theorem dX12_when_96 : decode cX12_when 96 = .ok (.istore 6, 2) := by decide +kernel
theorem dX12_when_98 : decode cX12_when 98 = .ok (.iinc 7 1, 3) := by decide +kernel
theorem dX12_when_101 : decode cX12_when 101 = .ok (.goto (-52), 3) := by decide +kernel
theorem dX12_when_104 : decode cX12_when 104 = .ok (.iload_n 2, 1) := by decide +kernel
theorem dX12_when_105 : decode cX12_when 105 = .ok (.ifCond .ne 5, 3) := by decide +kernel
theorem dX12_when_108 : decode cX12_when 108 = .ok (.iload_n 3, 1) := by decide +kernel
theorem dX12_when_109 : decode cX12_when 109 = .ok (.ireturn, 1) := by decide +kernel
theorem dX12_when_110 : decode cX12_when 110 = .ok (.iload_n 3, 1) := by decide +kernel
theorem dX12_when_111 : decode cX12_when 111 = .ok (.ifCond .ne 6, 3) := by decide +kernel
theorem dX12_when_114 : decode cX12_when 114 = .ok (.bipush (-2), 2) := by decide +kernel
theorem dX12_when_116 : decode cX12_when 116 = .ok (.ireturn, 1) := by decide +kernel
theorem dX12_when_117 : decode cX12_when 117 = .ok (.iload_n 2, 1) := by decide +kernel
theorem dX12_when_118 : decode cX12_when 118 = .ok (.iconst 1, 1) := by decide +kernel
theorem dX12_when_119 : decode cX12_when 119 = .ok (.if_icmp .ne 8, 3) := by decide +kernel
theorem dX12_when_122 : decode cX12_when 122 = .ok (.iload 4, 2) := by decide +kernel
theorem dX12_when_124 : decode cX12_when 124 = .ok (.goto 26, 3) := by decide +kernel
theorem dX12_when_127 : decode cX12_when 127 = .ok (.iload_n 2, 1) := by decide +kernel
theorem dX12_when_128 : decode cX12_when 128 = .ok (.iconst 2, 1) := by decide +kernel
theorem dX12_when_129 : decode cX12_when 129 = .ok (.if_icmp .ne 8, 3) := by decide +kernel
theorem dX12_when_132 : decode cX12_when 132 = .ok (.iload 5, 2) := by decide +kernel
theorem dX12_when_134 : decode cX12_when 134 = .ok (.goto 16, 3) := by decide +kernel
theorem dX12_when_137 : decode cX12_when 137 = .ok (.iconst 1, 1) := by decide +kernel
theorem dX12_when_138 : decode cX12_when 138 = .ok (.aload_n 0, 1) := by decide +kernel
theorem dX12_when_139 : decode cX12_when 139 = .ok (.invokevirtual 306, 3) := by decide +kernel
theorem dX12_when_142 : decode cX12_when 142 = .ok (.ishl, 1) := by decide +kernel
theorem dX12_when_143 : decode cX12_when 143 = .ok (.iconst 1, 1) := by decide +kernel
theorem dX12_when_144 : decode cX12_when 144 = .ok (.isub, 1) := by decide +kernel
theorem dX12_when_145 : decode cX12_when 145 = .ok (.iload 6, 2) := by decide +kernel
theorem dX12_when_147 : decode cX12_when 147 = .ok (.iconst (-1), 1) := by decide +kernel
theorem dX12_when_148 : decode cX12_when 148 = .ok (.ixor, 1) := by decide +kernel
theorem dX12_when_149 : decode cX12_when 149 = .ok (.iand, 1) := by decide +kernel
theorem dX12_when_150 : decode cX12_when 150 = .ok (.ireturn, 1) := by decide +kernel
theorem dX12_ask_0 : decode cX12_ask 0 = .ok (.iload_n 1, 1) := by decide +kernel
theorem dX12_ask_1 : decode cX12_ask 1 = .ok (.iconst 0, 1) := by decide +kernel
theorem dX12_ask_2 : decode cX12_ask 2 = .ok (.aload_n 0, 1) := by decide +kernel
theorem dX12_ask_3 : decode cX12_ask 3 = .ok (.getfield 251, 3) := by decide +kernel
theorem dX12_ask_6 : decode cX12_ask 6 = .ok (.invokestatic 310, 3) := by decide +kernel
theorem dX12_ask_9 : decode cX12_ask 9 = .ok (.ifCond .ne 5, 3) := by decide +kernel
theorem dX12_ask_12 : decode cX12_ask 12 = .ok (.iconst (-1), 1) := by decide +kernel
theorem dX12_ask_13 : decode cX12_ask 13 = .ok (.ireturn, 1) := by decide +kernel
theorem dX12_ask_14 : decode cX12_ask 14 = .ok (.aload_n 0, 1) := by decide +kernel
theorem dX12_ask_15 : decode cX12_ask 15 = .ok (.invokevirtual 406, 3) := by decide +kernel
theorem dX12_ask_18 : decode cX12_ask 18 = .ok (.iconst 0, 1) := by decide +kernel
theorem dX12_ask_19 : decode cX12_ask 19 = .ok (.istore_n 2, 1) := by decide +kernel
theorem dX12_ask_20 : decode cX12_ask 20 = .ok (.iconst 0, 1) := by decide +kernel
theorem dX12_ask_21 : decode cX12_ask 21 = .ok (.istore_n 3, 1) := by decide +kernel
theorem dX12_ask_22 : decode cX12_ask 22 = .ok (.iload_n 3, 1) := by decide +kernel
theorem dX12_ask_23 : decode cX12_ask 23 = .ok (.bipush 10, 2) := by decide +kernel
theorem dX12_ask_25 : decode cX12_ask 25 = .ok (.if_icmp .ge 16, 3) := by decide +kernel
theorem dX12_ask_28 : decode cX12_ask 28 = .ok (.aload_n 0, 1) := by decide +kernel
theorem dX12_ask_29 : decode cX12_ask 29 = .ok (.getfield 143, 3) := by decide +kernel
theorem dX12_ask_32 : decode cX12_ask 32 = .ok (.iload_n 3, 1) := by decide +kernel
theorem dX12_ask_33 : decode cX12_ask 33 = .ok (.iconst 0, 1) := by decide +kernel
theorem dX12_ask_34 : decode cX12_ask 34 = .ok (.iastore, 1) := by decide +kernel
theorem dX12_ask_35 : decode cX12_ask 35 = .ok (.iinc 3 1, 3) := by decide +kernel
theorem dX12_ask_38 : decode cX12_ask 38 = .ok (.goto (-16), 3) := by decide +kernel
theorem dX12_ask_41 : decode cX12_ask 41 = .ok (.iconst 0, 1) := by decide +kernel
theorem dX12_ask_42 : decode cX12_ask 42 = .ok (.istore_n 3, 1) := by decide +kernel
theorem dX12_ask_43 : decode cX12_ask 43 = .ok (.iload_n 3, 1) := by decide +kernel
theorem dX12_ask_44 : decode cX12_ask 44 = .ok (.iconst 1, 1) := by decide +kernel
theorem dX12_ask_45 : decode cX12_ask 45 = .ok (.aload_n 0, 1) := by decide +kernel
theorem dX12_ask_46 : decode cX12_ask 46 = .ok (.invokevirtual 306, 3) := by decide +kernel
theorem dX12_ask_49 : decode cX12_ask 49 = .ok (.ishl, 1) := by decide +kernel
theorem dX12_ask_50 : decode cX12_ask 50 = .ok (.if_icmp .ge 58, 3) := by decide +kernel
theorem dX12_ask_53 : decode cX12_ask 53 = .ok (.aload_n 0, 1) := by decide +kernel
theorem dX12_ask_54 : decode cX12_ask 54 = .ok (.iload_n 3, 1) := by decide +kernel
theorem dX12_ask_55 : decode cX12_ask 55 = .ok (.iload_n 1, 1) := by decide +kernel
theorem dX12_ask_56 : decode cX12_ask 56 = .ok (.invokevirtual 446, 3) := by decide +kernel
theorem dX12_ask_59 : decode cX12_ask 59 = .ok (.ifCond .ne 6, 3) := by decide +kernel
theorem dX12_ask_62 : decode cX12_ask 62 = .ok (.goto 40, 3) := by decide +kernel
theorem dX12_ask_65 : decode cX12_ask 65 = .ok (.iinc 2 1, 3) := by decide +kernel
theorem dX12_ask_68 : decode cX12_ask 68 = .ok (.iconst 0, 1) := by decide +kernel
theorem dX12_ask_69 : decode cX12_ask 69 = .ok (.istore 4, 2) := by decide +kernel
theorem dX12_ask_71 : decode cX12_ask 71 = .ok (.iload 4, 2) := by decide +kernel
theorem dX12_ask_73 : decode cX12_ask 73 = .ok (.aload_n 0, 1) := by decide +kernel
theorem dX12_ask_74 : decode cX12_ask 74 = .ok (.invokevirtual 306, 3) := by decide +kernel
theorem dX12_ask_77 : decode cX12_ask 77 = .ok (.if_icmp .ge 25, 3) := by decide +kernel
theorem dX12_ask_80 : decode cX12_ask 80 = .ok (.aload_n 0, 1) := by decide +kernel
theorem dX12_ask_81 : decode cX12_ask 81 = .ok (.getfield 143, 3) := by decide +kernel
theorem dX12_ask_84 : decode cX12_ask 84 = .ok (.iload 4, 2) := by decide +kernel
theorem dX12_ask_86 : decode cX12_ask 86 = .ok (.dup2, 1) := by decide +kernel
theorem dX12_ask_87 : decode cX12_ask 87 = .ok (.iaload, 1) := by decide +kernel
theorem dX12_ask_88 : decode cX12_ask 88 = .ok (.iload_n 3, 1) := by decide +kernel
theorem dX12_ask_89 : decode cX12_ask 89 = .ok (.iload 4, 2) := by decide +kernel
theorem dX12_ask_91 : decode cX12_ask 91 = .ok (.ishr, 1) := by decide +kernel
theorem dX12_ask_92 : decode cX12_ask 92 = .ok (.iconst 1, 1) := by decide +kernel
theorem dX12_ask_93 : decode cX12_ask 93 = .ok (.iand, 1) := by decide +kernel
theorem dX12_ask_94 : decode cX12_ask 94 = .ok (.iadd, 1) := by decide +kernel
theorem dX12_ask_95 : decode cX12_ask 95 = .ok (.iastore, 1) := by decide +kernel
theorem dX12_ask_96 : decode cX12_ask 96 = .ok (.iinc 4 1, 3) := by decide +kernel
theorem dX12_ask_99 : decode cX12_ask 99 = .ok (.goto (-28), 3) := by decide +kernel
theorem dX12_ask_102 : decode cX12_ask 102 = .ok (.iinc 3 1, 3) := by decide +kernel
theorem dX12_ask_105 : decode cX12_ask 105 = .ok (.goto (-62), 3) := by decide +kernel
theorem dX12_ask_108 : decode cX12_ask 108 = .ok (.bipush (-2), 2) := by decide +kernel
theorem dX12_ask_110 : decode cX12_ask 110 = .ok (.istore_n 3, 1) := by decide +kernel
theorem dX12_ask_111 : decode cX12_ask 111 = .ok (.iconst 0, 1) := by decide +kernel
theorem dX12_ask_112 : decode cX12_ask 112 = .ok (.istore 4, 2) := by decide +kernel
theorem dX12_ask_114 : decode cX12_ask 114 = .ok (.iconst 0, 1) := by decide +kernel
theorem dX12_ask_115 : decode cX12_ask 115 = .ok (.istore 5, 2) := by decide +kernel
theorem dX12_ask_117 : decode cX12_ask 117 = .ok (.iload 5, 2) := by decide +kernel
theorem dX12_ask_119 : decode cX12_ask 119 = .ok (.aload_n 0, 1) := by decide +kernel
theorem dX12_ask_120 : decode cX12_ask 120 = .ok (.invokevirtual 306, 3) := by decide +kernel
theorem dX12_ask_123 : decode cX12_ask 123 = .ok (.if_icmp .ge 74, 3) := by decide +kernel
theorem dX12_ask_126 : decode cX12_ask 126 = .ok (.iload_n 2, 1) := by decide +kernel
theorem dX12_ask_127 : decode cX12_ask 127 = .ok (.ifCond .le 70, 3) := by decide +kernel
theorem dX12_ask_130 : decode cX12_ask 130 = .ok (.aload_n 0, 1) := by decide +kernel
theorem dX12_ask_131 : decode cX12_ask 131 = .ok (.getfield 143, 3) := by decide +kernel
theorem dX12_ask_134 : decode cX12_ask 134 = .ok (.iload 5, 2) := by decide +kernel
theorem dX12_ask_136 : decode cX12_ask 136 = .ok (.iaload, 1) := by decide +kernel
theorem dX12_ask_137 : decode cX12_ask 137 = .ok (.iload_n 2, 1) := by decide +kernel
theorem dX12_ask_138 : decode cX12_ask 138 = .ok (.aload_n 0, 1) := by decide +kernel
theorem dX12_ask_139 : decode cX12_ask 139 = .ok (.getfield 143, 3) := by decide +kernel
theorem dX12_ask_142 : decode cX12_ask 142 = .ok (.iload 5, 2) := by decide +kernel
theorem dX12_ask_144 : decode cX12_ask 144 = .ok (.iaload, 1) := by decide +kernel
theorem dX12_ask_145 : decode cX12_ask 145 = .ok (.isub, 1) := by decide +kernel
theorem dX12_ask_146 : decode cX12_ask 146 = .ok (.if_icmp .le 13, 3) := by decide +kernel
theorem dX12_ask_149 : decode cX12_ask 149 = .ok (.aload_n 0, 1) := by decide +kernel
theorem dX12_ask_150 : decode cX12_ask 150 = .ok (.getfield 143, 3) := by decide +kernel
theorem dX12_ask_153 : decode cX12_ask 153 = .ok (.iload 5, 2) := by decide +kernel
theorem dX12_ask_155 : decode cX12_ask 155 = .ok (.iaload, 1) := by decide +kernel
theorem dX12_ask_156 : decode cX12_ask 156 = .ok (.goto 12, 3) := by decide +kernel
theorem dX12_ask_159 : decode cX12_ask 159 = .ok (.iload_n 2, 1) := by decide +kernel
theorem dX12_ask_160 : decode cX12_ask 160 = .ok (.aload_n 0, 1) := by decide +kernel
theorem dX12_ask_161 : decode cX12_ask 161 = .ok (.getfield 143, 3) := by decide +kernel
theorem dX12_ask_164 : decode cX12_ask 164 = .ok (.iload 5, 2) := by decide +kernel
theorem dX12_ask_166 : decode cX12_ask 166 = .ok (.iaload, 1) := by decide +kernel
theorem dX12_ask_167 : decode cX12_ask 167 = .ok (.isub, 1) := by decide +kernel
theorem dX12_ask_168 : decode cX12_ask 168 = .ok (.istore 6, 2) := by decide +kernel
theorem dX12_ask_170 : decode cX12_ask 170 = .ok (.iload_n 3, 1) := by decide +kernel
theorem dX12_ask_171 : decode cX12_ask 171 = .ok (.ifCond .lt 13, 3) := by decide +kernel
theorem dX12_ask_174 : decode cX12_ask 174 = .ok (.iload 6, 2) := by decide +kernel
theorem dX12_ask_176 : decode cX12_ask 176 = .ok (.iload 4, 2) := by decide +kernel
theorem dX12_ask_178 : decode cX12_ask 178 = .ok (.if_icmp .lt 6, 3) := by decide +kernel
theorem dX12_ask_181 : decode cX12_ask 181 = .ok (.goto 10, 3) := by decide +kernel
theorem dX12_ask_184 : decode cX12_ask 184 = .ok (.iload 5, 2) := by decide +kernel
theorem dX12_ask_186 : decode cX12_ask 186 = .ok (.istore_n 3, 1) := by decide +kernel
theorem dX12_ask_187 : decode cX12_ask 187 = .ok (.iload 6, 2) := by decide +kernel
theorem dX12_ask_189 : decode cX12_ask 189 = .ok (.istore 4, 2) := by decide +kernel
theorem dX12_ask_191 : decode cX12_ask 191 = .ok (.iinc 5 1, 3) := by decide +kernel
theorem dX12_ask_194 : decode cX12_ask 194 = .ok (.goto (-77), 3) := by decide +kernel
theorem dX12_ask_197 : decode cX12_ask 197 = .ok (.iload_n 3, 1) := by decide +kernel
theorem dX12_ask_198 : decode cX12_ask 198 = .ok (.ireturn, 1) := by decide +kernel
theorem dX12_hold_0 : decode cX12_hold 0 = .ok (.iload_n 1, 1) := by decide +kernel
theorem dX12_hold_1 : decode cX12_hold 1 = .ok (.iconst 0, 1) := by decide +kernel
theorem dX12_hold_2 : decode cX12_hold 2 = .ok (.iconst 2, 1) := by decide +kernel
theorem dX12_hold_3 : decode cX12_hold 3 = .ok (.invokestatic 310, 3) := by decide +kernel
theorem dX12_hold_6 : decode cX12_hold 6 = .ok (.ifCond .ne 5, 3) := by decide +kernel
theorem dX12_hold_9 : decode cX12_hold 9 = .ok (.iconst 0, 1) := by decide +kernel
theorem dX12_hold_10 : decode cX12_hold 10 = .ok (.ireturn, 1) := by decide +kernel
theorem dX12_hold_11 : decode cX12_hold 11 = .ok (.aload_n 0, 1) := by decide +kernel
theorem dX12_hold_12 : decode cX12_hold 12 = .ok (.getfield 146, 3) := by decide +kernel
theorem dX12_hold_15 : decode cX12_hold 15 = .ok (.iload_n 1, 1) := by decide +kernel
theorem dX12_hold_16 : decode cX12_hold 16 = .ok (.iconst 1, 1) := by decide +kernel
theorem dX12_hold_17 : decode cX12_hold 17 = .ok (.bastore, 1) := by decide +kernel
theorem dX12_hold_18 : decode cX12_hold 18 = .ok (.iconst 0, 1) := by decide +kernel
theorem dX12_hold_19 : decode cX12_hold 19 = .ok (.istore_n 2, 1) := by decide +kernel
theorem dX12_hold_20 : decode cX12_hold 20 = .ok (.iload_n 2, 1) := by decide +kernel
theorem dX12_hold_21 : decode cX12_hold 21 = .ok (.bipush 33, 2) := by decide +kernel
theorem dX12_hold_23 : decode cX12_hold 23 = .ok (.if_icmp .ge 26, 3) := by decide +kernel
theorem dX12_hold_26 : decode cX12_hold 26 = .ok (.aload_n 0, 1) := by decide +kernel
theorem dX12_hold_27 : decode cX12_hold 27 = .ok (.getfield 149, 3) := by decide +kernel
theorem dX12_hold_30 : decode cX12_hold 30 = .ok (.bipush 33, 2) := by decide +kernel
theorem dX12_hold_32 : decode cX12_hold 32 = .ok (.iload_n 1, 1) := by decide +kernel
theorem dX12_hold_33 : decode cX12_hold 33 = .ok (.imul, 1) := by decide +kernel
theorem dX12_hold_34 : decode cX12_hold 34 = .ok (.iload_n 2, 1) := by decide +kernel
theorem dX12_hold_35 : decode cX12_hold 35 = .ok (.iadd, 1) := by decide +kernel
theorem dX12_hold_36 : decode cX12_hold 36 = .ok (.aload_n 0, 1) := by decide +kernel
theorem dX12_hold_37 : decode cX12_hold 37 = .ok (.getfield 110, 3) := by decide +kernel
theorem dX12_hold_40 : decode cX12_hold 40 = .ok (.iload_n 2, 1) := by decide +kernel
theorem dX12_hold_41 : decode cX12_hold 41 = .ok (.iaload, 1) := by decide +kernel
theorem dX12_hold_42 : decode cX12_hold 42 = .ok (.iastore, 1) := by decide +kernel
theorem dX12_hold_43 : decode cX12_hold 43 = .ok (.iinc 2 1, 3) := by decide +kernel
theorem dX12_hold_46 : decode cX12_hold 46 = .ok (.goto (-26), 3) := by decide +kernel
theorem dX12_hold_49 : decode cX12_hold 49 = .ok (.iconst 1, 1) := by decide +kernel
theorem dX12_hold_50 : decode cX12_hold 50 = .ok (.ireturn, 1) := by decide +kernel
theorem dX12_restore_0 : decode cX12_restore 0 = .ok (.iload_n 1, 1) := by decide +kernel
theorem dX12_restore_1 : decode cX12_restore 1 = .ok (.iconst 0, 1) := by decide +kernel
theorem dX12_restore_2 : decode cX12_restore 2 = .ok (.iconst 2, 1) := by decide +kernel
theorem dX12_restore_3 : decode cX12_restore 3 = .ok (.invokestatic 310, 3) := by decide +kernel
theorem dX12_restore_6 : decode cX12_restore 6 = .ok (.ifCond .eq 12, 3) := by decide +kernel
theorem dX12_restore_9 : decode cX12_restore 9 = .ok (.aload_n 0, 1) := by decide +kernel
theorem dX12_restore_10 : decode cX12_restore 10 = .ok (.getfield 146, 3) := by decide +kernel
theorem dX12_restore_13 : decode cX12_restore 13 = .ok (.iload_n 1, 1) := by decide +kernel
theorem dX12_restore_14 : decode cX12_restore 14 = .ok (.baload, 1) := by decide +kernel
theorem dX12_restore_15 : decode cX12_restore 15 = .ok (.ifCond .ne 5, 3) := by decide +kernel
theorem dX12_restore_18 : decode cX12_restore 18 = .ok (.iconst 0, 1) := by decide +kernel
theorem dX12_restore_19 : decode cX12_restore 19 = .ok (.ireturn, 1) := by decide +kernel
theorem dX12_restore_20 : decode cX12_restore 20 = .ok (.iconst 0, 1) := by decide +kernel
theorem dX12_restore_21 : decode cX12_restore 21 = .ok (.istore_n 2, 1) := by decide +kernel
theorem dX12_restore_22 : decode cX12_restore 22 = .ok (.iload_n 2, 1) := by decide +kernel
theorem dX12_restore_23 : decode cX12_restore 23 = .ok (.bipush 33, 2) := by decide +kernel
theorem dX12_restore_25 : decode cX12_restore 25 = .ok (.if_icmp .ge 26, 3) := by decide +kernel
theorem dX12_restore_28 : decode cX12_restore 28 = .ok (.aload_n 0, 1) := by decide +kernel
theorem dX12_restore_29 : decode cX12_restore 29 = .ok (.getfield 110, 3) := by decide +kernel
theorem dX12_restore_32 : decode cX12_restore 32 = .ok (.iload_n 2, 1) := by decide +kernel
theorem dX12_restore_33 : decode cX12_restore 33 = .ok (.aload_n 0, 1) := by decide +kernel
theorem dX12_restore_34 : decode cX12_restore 34 = .ok (.getfield 149, 3) := by decide +kernel
theorem dX12_restore_37 : decode cX12_restore 37 = .ok (.bipush 33, 2) := by decide +kernel
theorem dX12_restore_39 : decode cX12_restore 39 = .ok (.iload_n 1, 1) := by decide +kernel
theorem dX12_restore_40 : decode cX12_restore 40 = .ok (.imul, 1) := by decide +kernel
theorem dX12_restore_41 : decode cX12_restore 41 = .ok (.iload_n 2, 1) := by decide +kernel
theorem dX12_restore_42 : decode cX12_restore 42 = .ok (.iadd, 1) := by decide +kernel
theorem dX12_restore_43 : decode cX12_restore 43 = .ok (.iaload, 1) := by decide +kernel
theorem dX12_restore_44 : decode cX12_restore 44 = .ok (.iastore, 1) := by decide +kernel
theorem dX12_restore_45 : decode cX12_restore 45 = .ok (.iinc 2 1, 3) := by decide +kernel
theorem dX12_restore_48 : decode cX12_restore 48 = .ok (.goto (-26), 3) := by decide +kernel
theorem dX12_restore_51 : decode cX12_restore 51 = .ok (.aload_n 0, 1) := by decide +kernel
theorem dX12_restore_52 : decode cX12_restore 52 = .ok (.iconst 0, 1) := by decide +kernel
theorem dX12_restore_53 : decode cX12_restore 53 = .ok (.putfield 248, 3) := by decide +kernel
theorem dX12_restore_56 : decode cX12_restore 56 = .ok (.iconst 1, 1) := by decide +kernel
theorem dX12_restore_57 : decode cX12_restore 57 = .ok (.ireturn, 1) := by decide +kernel
theorem dX12_sumNow_0 : decode cX12_sumNow 0 = .ok (.iconst 0, 1) := by decide +kernel
theorem dX12_sumNow_1 : decode cX12_sumNow 1 = .ok (.istore_n 3, 1) := by decide +kernel
theorem dX12_sumNow_2 : decode cX12_sumNow 2 = .ok (.iload_n 1, 1) := by decide +kernel
theorem dX12_sumNow_3 : decode cX12_sumNow 3 = .ok (.istore 4, 2) := by decide +kernel
theorem dX12_sumNow_5 : decode cX12_sumNow 5 = .ok (.iload 4, 2) := by decide +kernel
theorem dX12_sumNow_7 : decode cX12_sumNow 7 = .ok (.iload_n 1, 1) := by decide +kernel
theorem dX12_sumNow_8 : decode cX12_sumNow 8 = .ok (.iload_n 2, 1) := by decide +kernel
theorem dX12_sumNow_9 : decode cX12_sumNow 9 = .ok (.iadd, 1) := by decide +kernel
theorem dX12_sumNow_10 : decode cX12_sumNow 10 = .ok (.if_icmp .ge 19, 3) := by decide +kernel
theorem dX12_sumNow_13 : decode cX12_sumNow 13 = .ok (.iload_n 3, 1) := by decide +kernel
theorem dX12_sumNow_14 : decode cX12_sumNow 14 = .ok (.aload_n 0, 1) := by decide +kernel
theorem dX12_sumNow_15 : decode cX12_sumNow 15 = .ok (.getfield 110, 3) := by decide +kernel
theorem dX12_sumNow_18 : decode cX12_sumNow 18 = .ok (.iload 4, 2) := by decide +kernel
theorem dX12_sumNow_20 : decode cX12_sumNow 20 = .ok (.iaload, 1) := by decide +kernel
theorem dX12_sumNow_21 : decode cX12_sumNow 21 = .ok (.iadd, 1) := by decide +kernel
theorem dX12_sumNow_22 : decode cX12_sumNow 22 = .ok (.istore_n 3, 1) := by decide +kernel
theorem dX12_sumNow_23 : decode cX12_sumNow 23 = .ok (.iinc 4 1, 3) := by decide +kernel
theorem dX12_sumNow_26 : decode cX12_sumNow 26 = .ok (.goto (-21), 3) := by decide +kernel
theorem dX12_sumNow_29 : decode cX12_sumNow 29 = .ok (.iload_n 3, 1) := by decide +kernel
theorem dX12_sumNow_30 : decode cX12_sumNow 30 = .ok (.ireturn, 1) := by decide +kernel
theorem dX12_count_0 : decode cX12_count 0 = .ok (.aload_n 0, 1) := by decide +kernel
theorem dX12_count_1 : decode cX12_count 1 = .ok (.invokevirtual 406, 3) := by decide +kernel
theorem dX12_count_4 : decode cX12_count 4 = .ok (.iconst 0, 1) := by decide +kernel
theorem dX12_count_5 : decode cX12_count 5 = .ok (.istore_n 2, 1) := by decide +kernel
theorem dX12_count_6 : decode cX12_count 6 = .ok (.iload_n 1, 1) := by decide +kernel
theorem dX12_count_7 : decode cX12_count 7 = .ok (.tableswitch 467 0 20 #[97, 102, 112, 120, 128, 136, 144, 152, 160, 165, 170, 175, 220, 254, 262, 270, 299, 330, 364, 391, 428], 97) := by decide +kernel
theorem dX12_count_104 : decode cX12_count 104 = .ok (.aload_n 0, 1) := by decide +kernel
theorem dX12_count_105 : decode cX12_count 105 = .ok (.invokevirtual 306, 3) := by decide +kernel
theorem dX12_count_108 : decode cX12_count 108 = .ok (.ireturn, 1) := by decide +kernel
theorem dX12_count_109 : decode cX12_count 109 = .ok (.aload_n 0, 1) := by decide +kernel
theorem dX12_count_110 : decode cX12_count 110 = .ok (.getfield 49, 3) := by decide +kernel
theorem dX12_count_113 : decode cX12_count 113 = .ok (.aload_n 0, 1) := by decide +kernel
theorem dX12_count_114 : decode cX12_count 114 = .ok (.getfield 233, 3) := by decide +kernel
theorem dX12_count_117 : decode cX12_count 117 = .ok (.iaload, 1) := by decide +kernel
theorem dX12_count_118 : decode cX12_count 118 = .ok (.ireturn, 1) := by decide +kernel
theorem dX12_count_119 : decode cX12_count 119 = .ok (.aload_n 0, 1) := by decide +kernel
theorem dX12_count_120 : decode cX12_count 120 = .ok (.getfield 113, 3) := by decide +kernel
theorem dX12_count_123 : decode cX12_count 123 = .ok (.bipush 20, 2) := by decide +kernel
theorem dX12_count_125 : decode cX12_count 125 = .ok (.iaload, 1) := by decide +kernel
theorem dX12_count_126 : decode cX12_count 126 = .ok (.ireturn, 1) := by decide +kernel
theorem dX12_count_127 : decode cX12_count 127 = .ok (.aload_n 0, 1) := by decide +kernel
theorem dX12_count_128 : decode cX12_count 128 = .ok (.getfield 113, 3) := by decide +kernel
theorem dX12_count_131 : decode cX12_count 131 = .ok (.bipush 18, 2) := by decide +kernel
theorem dX12_count_133 : decode cX12_count 133 = .ok (.iaload, 1) := by decide +kernel
theorem dX12_count_134 : decode cX12_count 134 = .ok (.ireturn, 1) := by decide +kernel
theorem dX12_count_135 : decode cX12_count 135 = .ok (.aload_n 0, 1) := by decide +kernel
theorem dX12_count_136 : decode cX12_count 136 = .ok (.getfield 113, 3) := by decide +kernel
theorem dX12_count_139 : decode cX12_count 139 = .ok (.bipush 19, 2) := by decide +kernel
theorem dX12_count_141 : decode cX12_count 141 = .ok (.iaload, 1) := by decide +kernel
theorem dX12_count_142 : decode cX12_count 142 = .ok (.ireturn, 1) := by decide +kernel
theorem dX12_count_143 : decode cX12_count 143 = .ok (.aload_n 0, 1) := by decide +kernel
theorem dX12_count_144 : decode cX12_count 144 = .ok (.getfield 113, 3) := by decide +kernel
theorem dX12_count_147 : decode cX12_count 147 = .ok (.bipush 21, 2) := by decide +kernel
theorem dX12_count_149 : decode cX12_count 149 = .ok (.iaload, 1) := by decide +kernel
theorem dX12_count_150 : decode cX12_count 150 = .ok (.ireturn, 1) := by decide +kernel
theorem dX12_count_151 : decode cX12_count 151 = .ok (.aload_n 0, 1) := by decide +kernel
theorem dX12_count_152 : decode cX12_count 152 = .ok (.getfield 113, 3) := by decide +kernel
theorem dX12_count_155 : decode cX12_count 155 = .ok (.bipush 22, 2) := by decide +kernel
theorem dX12_count_157 : decode cX12_count 157 = .ok (.iaload, 1) := by decide +kernel
theorem dX12_count_158 : decode cX12_count 158 = .ok (.ireturn, 1) := by decide +kernel
theorem dX12_count_159 : decode cX12_count 159 = .ok (.aload_n 0, 1) := by decide +kernel
theorem dX12_count_160 : decode cX12_count 160 = .ok (.invokevirtual 306, 3) := by decide +kernel
theorem dX12_count_163 : decode cX12_count 163 = .ok (.invokestatic 400, 3) := by decide +kernel
theorem dX12_count_166 : decode cX12_count 166 = .ok (.ireturn, 1) := by decide +kernel
theorem dX12_count_167 : decode cX12_count 167 = .ok (.aload_n 0, 1) := by decide +kernel
theorem dX12_count_168 : decode cX12_count 168 = .ok (.getfield 166, 3) := by decide +kernel
theorem dX12_count_171 : decode cX12_count 171 = .ok (.ireturn, 1) := by decide +kernel
theorem dX12_count_172 : decode cX12_count 172 = .ok (.aload_n 0, 1) := by decide +kernel
theorem dX12_count_173 : decode cX12_count 173 = .ok (.getfield 248, 3) := by decide +kernel
theorem dX12_count_176 : decode cX12_count 176 = .ok (.ireturn, 1) := by decide +kernel
theorem dX12_count_177 : decode cX12_count 177 = .ok (.aload_n 0, 1) := by decide +kernel
theorem dX12_count_178 : decode cX12_count 178 = .ok (.getfield 251, 3) := by decide +kernel
theorem dX12_count_181 : decode cX12_count 181 = .ok (.ireturn, 1) := by decide +kernel
theorem dX12_count_182 : decode cX12_count 182 = .ok (.aload_n 0, 1) := by decide +kernel
theorem dX12_count_183 : decode cX12_count 183 = .ok (.getfield 146, 3) := by decide +kernel
theorem dX12_count_186 : decode cX12_count 186 = .ok (.iconst 0, 1) := by decide +kernel
theorem dX12_count_187 : decode cX12_count 187 = .ok (.baload, 1) := by decide +kernel
theorem dX12_count_188 : decode cX12_count 188 = .ok (.ifCond .eq 7, 3) := by decide +kernel
theorem dX12_count_191 : decode cX12_count 191 = .ok (.iconst 1, 1) := by decide +kernel
theorem dX12_count_192 : decode cX12_count 192 = .ok (.goto 4, 3) := by decide +kernel
theorem dX12_count_195 : decode cX12_count 195 = .ok (.iconst 0, 1) := by decide +kernel
theorem dX12_count_196 : decode cX12_count 196 = .ok (.aload_n 0, 1) := by decide +kernel
theorem dX12_count_197 : decode cX12_count 197 = .ok (.getfield 146, 3) := by decide +kernel
theorem dX12_count_200 : decode cX12_count 200 = .ok (.iconst 1, 1) := by decide +kernel
theorem dX12_count_201 : decode cX12_count 201 = .ok (.baload, 1) := by decide +kernel
theorem dX12_count_202 : decode cX12_count 202 = .ok (.ifCond .eq 7, 3) := by decide +kernel
theorem dX12_count_205 : decode cX12_count 205 = .ok (.iconst 1, 1) := by decide +kernel
theorem dX12_count_206 : decode cX12_count 206 = .ok (.goto 4, 3) := by decide +kernel
theorem dX12_count_209 : decode cX12_count 209 = .ok (.iconst 0, 1) := by decide +kernel
theorem dX12_count_210 : decode cX12_count 210 = .ok (.iadd, 1) := by decide +kernel
theorem dX12_count_211 : decode cX12_count 211 = .ok (.aload_n 0, 1) := by decide +kernel
theorem dX12_count_212 : decode cX12_count 212 = .ok (.getfield 146, 3) := by decide +kernel
theorem dX12_count_215 : decode cX12_count 215 = .ok (.iconst 2, 1) := by decide +kernel
theorem dX12_count_216 : decode cX12_count 216 = .ok (.baload, 1) := by decide +kernel
theorem dX12_count_217 : decode cX12_count 217 = .ok (.ifCond .eq 7, 3) := by decide +kernel
theorem dX12_count_220 : decode cX12_count 220 = .ok (.iconst 1, 1) := by decide +kernel
theorem dX12_count_221 : decode cX12_count 221 = .ok (.goto 4, 3) := by decide +kernel
theorem dX12_count_224 : decode cX12_count 224 = .ok (.iconst 0, 1) := by decide +kernel
theorem dX12_count_225 : decode cX12_count 225 = .ok (.iadd, 1) := by decide +kernel
theorem dX12_count_226 : decode cX12_count 226 = .ok (.ireturn, 1) := by decide +kernel
theorem dX12_count_227 : decode cX12_count 227 = .ok (.iconst 0, 1) := by decide +kernel
theorem dX12_count_228 : decode cX12_count 228 = .ok (.istore_n 3, 1) := by decide +kernel
theorem dX12_count_229 : decode cX12_count 229 = .ok (.iload_n 3, 1) := by decide +kernel
theorem dX12_count_230 : decode cX12_count 230 = .ok (.bipush 8, 2) := by decide +kernel
theorem dX12_count_232 : decode cX12_count 232 = .ok (.if_icmp .ge 27, 3) := by decide +kernel
theorem dX12_count_235 : decode cX12_count 235 = .ok (.aload_n 0, 1) := by decide +kernel
theorem dX12_count_236 : decode cX12_count 236 = .ok (.getfield 113, 3) := by decide +kernel
theorem dX12_count_239 : decode cX12_count 239 = .ok (.bipush 10, 2) := by decide +kernel
theorem dX12_count_241 : decode cX12_count 241 = .ok (.iload_n 3, 1) := by decide +kernel
theorem dX12_count_242 : decode cX12_count 242 = .ok (.iadd, 1) := by decide +kernel
theorem dX12_count_243 : decode cX12_count 243 = .ok (.iaload, 1) := by decide +kernel
theorem dX12_count_244 : decode cX12_count 244 = .ok (.ifCond .lt 9, 3) := by decide +kernel
theorem dX12_count_247 : decode cX12_count 247 = .ok (.iload_n 2, 1) := by decide +kernel
theorem dX12_count_248 : decode cX12_count 248 = .ok (.iconst 1, 1) := by decide +kernel
theorem dX12_count_249 : decode cX12_count 249 = .ok (.iload_n 3, 1) := by decide +kernel
theorem dX12_count_250 : decode cX12_count 250 = .ok (.ishl, 1) := by decide +kernel
theorem dX12_count_251 : decode cX12_count 251 = .ok (.ior, 1) := by decide +kernel
theorem dX12_count_252 : decode cX12_count 252 = .ok (.istore_n 2, 1) := by decide +kernel
theorem dX12_count_253 : decode cX12_count 253 = .ok (.iinc 3 1, 3) := by decide +kernel
theorem dX12_count_256 : decode cX12_count 256 = .ok (.goto (-27), 3) := by decide +kernel
theorem dX12_count_259 : decode cX12_count 259 = .ok (.iload_n 2, 1) := by decide +kernel
theorem dX12_count_260 : decode cX12_count 260 = .ok (.ireturn, 1) := by decide +kernel
theorem dX12_count_261 : decode cX12_count 261 = .ok (.aload_n 0, 1) := by decide +kernel
theorem dX12_count_262 : decode cX12_count 262 = .ok (.bipush 23, 2) := by decide +kernel
theorem dX12_count_264 : decode cX12_count 264 = .ok (.iconst 5, 1) := by decide +kernel
theorem dX12_count_265 : decode cX12_count 265 = .ok (.invokevirtual 450, 3) := by decide +kernel
theorem dX12_count_268 : decode cX12_count 268 = .ok (.ireturn, 1) := by decide +kernel
theorem dX12_count_269 : decode cX12_count 269 = .ok (.aload_n 0, 1) := by decide +kernel
theorem dX12_count_270 : decode cX12_count 270 = .ok (.bipush 28, 2) := by decide +kernel
theorem dX12_count_272 : decode cX12_count 272 = .ok (.iconst 5, 1) := by decide +kernel
theorem dX12_count_273 : decode cX12_count 273 = .ok (.invokevirtual 450, 3) := by decide +kernel
theorem dX12_count_276 : decode cX12_count 276 = .ok (.ireturn, 1) := by decide +kernel
theorem dX12_count_277 : decode cX12_count 277 = .ok (.iconst 0, 1) := by decide +kernel
theorem dX12_count_278 : decode cX12_count 278 = .ok (.istore_n 3, 1) := by decide +kernel
theorem dX12_count_279 : decode cX12_count 279 = .ok (.iload_n 3, 1) := by decide +kernel
theorem dX12_count_280 : decode cX12_count 280 = .ok (.aload_n 0, 1) := by decide +kernel
theorem dX12_count_281 : decode cX12_count 281 = .ok (.invokevirtual 306, 3) := by decide +kernel
theorem dX12_count_284 : decode cX12_count 284 = .ok (.if_icmp .ge 20, 3) := by decide +kernel
theorem dX12_count_287 : decode cX12_count 287 = .ok (.iload_n 2, 1) := by decide +kernel
theorem dX12_count_288 : decode cX12_count 288 = .ok (.iconst 1, 1) := by decide +kernel
theorem dX12_count_289 : decode cX12_count 289 = .ok (.aload_n 0, 1) := by decide +kernel
theorem dX12_count_290 : decode cX12_count 290 = .ok (.getfield 113, 3) := by decide +kernel
theorem dX12_count_293 : decode cX12_count 293 = .ok (.iload_n 3, 1) := by decide +kernel
theorem dX12_count_294 : decode cX12_count 294 = .ok (.iaload, 1) := by decide +kernel
theorem dX12_count_295 : decode cX12_count 295 = .ok (.ishl, 1) := by decide +kernel
theorem dX12_count_296 : decode cX12_count 296 = .ok (.ior, 1) := by decide +kernel
theorem dX12_count_297 : decode cX12_count 297 = .ok (.istore_n 2, 1) := by decide +kernel
theorem dX12_count_298 : decode cX12_count 298 = .ok (.iinc 3 1, 3) := by decide +kernel
theorem dX12_count_301 : decode cX12_count 301 = .ok (.goto (-22), 3) := by decide +kernel
theorem dX12_count_304 : decode cX12_count 304 = .ok (.iload_n 2, 1) := by decide +kernel
theorem dX12_count_305 : decode cX12_count 305 = .ok (.ireturn, 1) := by decide +kernel
theorem dX12_count_306 : decode cX12_count 306 = .ok (.iconst 0, 1) := by decide +kernel
theorem dX12_count_307 : decode cX12_count 307 = .ok (.istore_n 3, 1) := by decide +kernel
theorem dX12_count_308 : decode cX12_count 308 = .ok (.iload_n 3, 1) := by decide +kernel
theorem dX12_count_309 : decode cX12_count 309 = .ok (.bipush 8, 2) := by decide +kernel
theorem dX12_count_311 : decode cX12_count 311 = .ok (.if_icmp .ge 24, 3) := by decide +kernel
theorem dX12_count_314 : decode cX12_count 314 = .ok (.aload_n 0, 1) := by decide +kernel
theorem dX12_count_315 : decode cX12_count 315 = .ok (.getfield 113, 3) := by decide +kernel
theorem dX12_count_318 : decode cX12_count 318 = .ok (.bipush 10, 2) := by decide +kernel
theorem dX12_count_320 : decode cX12_count 320 = .ok (.iload_n 3, 1) := by decide +kernel
theorem dX12_count_321 : decode cX12_count 321 = .ok (.iadd, 1) := by decide +kernel
theorem dX12_count_322 : decode cX12_count 322 = .ok (.iaload, 1) := by decide +kernel
theorem dX12_count_323 : decode cX12_count 323 = .ok (.ifCond .ge 6, 3) := by decide +kernel
theorem dX12_count_326 : decode cX12_count 326 = .ok (.iinc 2 1, 3) := by decide +kernel
theorem dX12_count_329 : decode cX12_count 329 = .ok (.iinc 3 1, 3) := by decide +kernel
theorem dX12_count_332 : decode cX12_count 332 = .ok (.goto (-24), 3) := by decide +kernel
theorem dX12_count_335 : decode cX12_count 335 = .ok (.iload_n 2, 1) := by decide +kernel
theorem dX12_count_336 : decode cX12_count 336 = .ok (.ireturn, 1) := by decide +kernel
theorem dX12_count_337 : decode cX12_count 337 = .ok (.iconst 0, 1) := by decide +kernel
theorem dX12_count_338 : decode cX12_count 338 = .ok (.istore_n 3, 1) := by decide +kernel
theorem dX12_count_339 : decode cX12_count 339 = .ok (.iload_n 3, 1) := by decide +kernel
theorem dX12_count_340 : decode cX12_count 340 = .ok (.aload_n 0, 1) := by decide +kernel
theorem dX12_count_341 : decode cX12_count 341 = .ok (.invokevirtual 306, 3) := by decide +kernel
theorem dX12_count_344 : decode cX12_count 344 = .ok (.if_icmp .ge 25, 3) := by decide +kernel
theorem dX12_count_347 : decode cX12_count 347 = .ok (.aload_n 0, 1) := by decide +kernel
theorem dX12_count_348 : decode cX12_count 348 = .ok (.getfield 119, 3) := by decide +kernel
theorem dX12_count_351 : decode cX12_count 351 = .ok (.iload_n 3, 1) := by decide +kernel
theorem dX12_count_352 : decode cX12_count 352 = .ok (.iaload, 1) := by decide +kernel
theorem dX12_count_353 : decode cX12_count 353 = .ok (.iconst 4, 1) := by decide +kernel
theorem dX12_count_354 : decode cX12_count 354 = .ok (.if_icmp .ne 9, 3) := by decide +kernel
theorem dX12_count_357 : decode cX12_count 357 = .ok (.iload_n 2, 1) := by decide +kernel
theorem dX12_count_358 : decode cX12_count 358 = .ok (.iconst 1, 1) := by decide +kernel
theorem dX12_count_359 : decode cX12_count 359 = .ok (.iload_n 3, 1) := by decide +kernel
theorem dX12_count_360 : decode cX12_count 360 = .ok (.ishl, 1) := by decide +kernel
theorem dX12_count_361 : decode cX12_count 361 = .ok (.ior, 1) := by decide +kernel
theorem dX12_count_362 : decode cX12_count 362 = .ok (.istore_n 2, 1) := by decide +kernel
theorem dX12_count_363 : decode cX12_count 363 = .ok (.iinc 3 1, 3) := by decide +kernel
theorem dX12_count_366 : decode cX12_count 366 = .ok (.goto (-27), 3) := by decide +kernel
theorem dX12_count_369 : decode cX12_count 369 = .ok (.iload_n 2, 1) := by decide +kernel
theorem dX12_count_370 : decode cX12_count 370 = .ok (.ireturn, 1) := by decide +kernel
theorem dX12_count_371 : decode cX12_count 371 = .ok (.iconst 0, 1) := by decide +kernel
theorem dX12_count_372 : decode cX12_count 372 = .ok (.istore_n 3, 1) := by decide +kernel
theorem dX12_count_373 : decode cX12_count 373 = .ok (.iload_n 3, 1) := by decide +kernel
theorem dX12_count_374 : decode cX12_count 374 = .ok (.aload_n 0, 1) := by decide +kernel
theorem dX12_count_375 : decode cX12_count 375 = .ok (.invokevirtual 306, 3) := by decide +kernel
theorem dX12_count_378 : decode cX12_count 378 = .ok (.if_icmp .ge 18, 3) := by decide +kernel
theorem dX12_count_381 : decode cX12_count 381 = .ok (.iload_n 2, 1) := by decide +kernel
theorem dX12_count_382 : decode cX12_count 382 = .ok (.aload_n 0, 1) := by decide +kernel
theorem dX12_count_383 : decode cX12_count 383 = .ok (.getfield 119, 3) := by decide +kernel
theorem dX12_count_386 : decode cX12_count 386 = .ok (.iload_n 3, 1) := by decide +kernel
theorem dX12_count_387 : decode cX12_count 387 = .ok (.iaload, 1) := by decide +kernel
theorem dX12_count_388 : decode cX12_count 388 = .ok (.iadd, 1) := by decide +kernel
theorem dX12_count_389 : decode cX12_count 389 = .ok (.istore_n 2, 1) := by decide +kernel
theorem dX12_count_390 : decode cX12_count 390 = .ok (.iinc 3 1, 3) := by decide +kernel
theorem dX12_count_393 : decode cX12_count 393 = .ok (.goto (-20), 3) := by decide +kernel
theorem dX12_count_396 : decode cX12_count 396 = .ok (.iload_n 2, 1) := by decide +kernel
theorem dX12_count_397 : decode cX12_count 397 = .ok (.ireturn, 1) := by decide +kernel
theorem dX12_count_398 : decode cX12_count 398 = .ok (.iconst 0, 1) := by decide +kernel
theorem dX12_count_399 : decode cX12_count 399 = .ok (.istore_n 3, 1) := by decide +kernel
theorem dX12_count_400 : decode cX12_count 400 = .ok (.iload_n 3, 1) := by decide +kernel
theorem dX12_count_401 : decode cX12_count 401 = .ok (.aload_n 0, 1) := by decide +kernel
theorem dX12_count_402 : decode cX12_count 402 = .ok (.getfield 49, 3) := by decide +kernel
theorem dX12_count_405 : decode cX12_count 405 = .ok (.aload_n 0, 1) := by decide +kernel
theorem dX12_count_406 : decode cX12_count 406 = .ok (.getfield 233, 3) := by decide +kernel
theorem dX12_count_409 : decode cX12_count 409 = .ok (.iaload, 1) := by decide +kernel
theorem dX12_count_410 : decode cX12_count 410 = .ok (.if_icmp .ge 23, 3) := by decide +kernel
theorem dX12_count_413 : decode cX12_count 413 = .ok (.aload_n 0, 1) := by decide +kernel
theorem dX12_count_414 : decode cX12_count 414 = .ok (.iload_n 3, 1) := by decide +kernel
theorem dX12_count_415 : decode cX12_count 415 = .ok (.invokevirtual 336, 3) := by decide +kernel
theorem dX12_count_418 : decode cX12_count 418 = .ok (.ifCond .ne 9, 3) := by decide +kernel
theorem dX12_count_421 : decode cX12_count 421 = .ok (.iload_n 2, 1) := by decide +kernel
theorem dX12_count_422 : decode cX12_count 422 = .ok (.iconst 1, 1) := by decide +kernel
theorem dX12_count_423 : decode cX12_count 423 = .ok (.iload_n 3, 1) := by decide +kernel
theorem dX12_count_424 : decode cX12_count 424 = .ok (.ishl, 1) := by decide +kernel
theorem dX12_count_425 : decode cX12_count 425 = .ok (.ior, 1) := by decide +kernel
theorem dX12_count_426 : decode cX12_count 426 = .ok (.istore_n 2, 1) := by decide +kernel
theorem dX12_count_427 : decode cX12_count 427 = .ok (.iinc 3 1, 3) := by decide +kernel
theorem dX12_count_430 : decode cX12_count 430 = .ok (.goto (-30), 3) := by decide +kernel
theorem dX12_count_433 : decode cX12_count 433 = .ok (.iload_n 2, 1) := by decide +kernel
theorem dX12_count_434 : decode cX12_count 434 = .ok (.ireturn, 1) := by decide +kernel
theorem dX12_count_435 : decode cX12_count 435 = .ok (.iconst 0, 1) := by decide +kernel
theorem dX12_count_436 : decode cX12_count 436 = .ok (.istore_n 3, 1) := by decide +kernel
theorem dX12_count_437 : decode cX12_count 437 = .ok (.iload_n 3, 1) := by decide +kernel
theorem dX12_count_438 : decode cX12_count 438 = .ok (.aload_n 0, 1) := by decide +kernel
theorem dX12_count_439 : decode cX12_count 439 = .ok (.getfield 49, 3) := by decide +kernel
theorem dX12_count_442 : decode cX12_count 442 = .ok (.aload_n 0, 1) := by decide +kernel
theorem dX12_count_443 : decode cX12_count 443 = .ok (.getfield 233, 3) := by decide +kernel
theorem dX12_count_446 : decode cX12_count 446 = .ok (.iaload, 1) := by decide +kernel
theorem dX12_count_447 : decode cX12_count 447 = .ok (.if_icmp .ge 25, 3) := by decide +kernel
theorem dX12_count_450 : decode cX12_count 450 = .ok (.iload_n 2, 1) := by decide +kernel
theorem dX12_count_451 : decode cX12_count 451 = .ok (.aload_n 0, 1) := by decide +kernel
theorem dX12_count_452 : decode cX12_count 452 = .ok (.getfield 52, 3) := by decide +kernel
theorem dX12_count_455 : decode cX12_count 455 = .ok (.iconst 5, 1) := by decide +kernel
theorem dX12_count_456 : decode cX12_count 456 = .ok (.aload_n 0, 1) := by decide +kernel
theorem dX12_count_457 : decode cX12_count 457 = .ok (.getfield 233, 3) := by decide +kernel
theorem dX12_count_460 : decode cX12_count 460 = .ok (.imul, 1) := by decide +kernel
theorem dX12_count_461 : decode cX12_count 461 = .ok (.iload_n 3, 1) := by decide +kernel
theorem dX12_count_462 : decode cX12_count 462 = .ok (.iadd, 1) := by decide +kernel
theorem dX12_count_463 : decode cX12_count 463 = .ok (.iaload, 1) := by decide +kernel
theorem dX12_count_464 : decode cX12_count 464 = .ok (.iadd, 1) := by decide +kernel
theorem dX12_count_465 : decode cX12_count 465 = .ok (.istore_n 2, 1) := by decide +kernel
theorem dX12_count_466 : decode cX12_count 466 = .ok (.iinc 3 1, 3) := by decide +kernel
theorem dX12_count_469 : decode cX12_count 469 = .ok (.goto (-32), 3) := by decide +kernel
theorem dX12_count_472 : decode cX12_count 472 = .ok (.iload_n 2, 1) := by decide +kernel
theorem dX12_count_473 : decode cX12_count 473 = .ok (.ireturn, 1) := by decide +kernel
theorem dX12_count_474 : decode cX12_count 474 = .ok (.iconst (-1), 1) := by decide +kernel
theorem dX12_count_475 : decode cX12_count 475 = .ok (.ireturn, 1) := by decide +kernel
theorem fl_X12_131 : fl RX12 131 12 56 := ⟨RX12, TX12, 64, rfl, iw_X12, by decide, lg_at 1250 (by decide +kernel) (by decide +kernel), rfl⟩
theorem fl_X12_134 : fl RX12 134 12 58 := ⟨RX12, TX12, 64, rfl, iw_X12, by decide, lg_at 1252 (by decide +kernel) (by decide +kernel), rfl⟩
theorem fl_X12_137 : fl RX12 137 12 59 := ⟨RX12, TX12, 64, rfl, iw_X12, by decide, lg_at 1253 (by decide +kernel) (by decide +kernel), rfl⟩
theorem fl_X12_140 : fl RX12 140 12 60 := ⟨RX12, TX12, 64, rfl, iw_X12, by decide, lg_at 1254 (by decide +kernel) (by decide +kernel), rfl⟩
theorem fl_X12_143 : fl RX12 143 12 61 := ⟨RX12, TX12, 64, rfl, iw_X12, by decide, lg_at 1255 (by decide +kernel) (by decide +kernel), rfl⟩
theorem fl_X12_149 : fl RX12 149 12 63 := ⟨RX12, TX12, 64, rfl, iw_X12, by decide, lg_at 1257 (by decide +kernel) (by decide +kernel), rfl⟩
theorem fl_X12_251 : fl RX12 251 12 57 := ⟨RX12, TX12, 64, rfl, iw_X12, by decide, lg_at 1251 (by decide +kernel) (by decide +kernel), rfl⟩
theorem cV_X12_431 : cV RX12 431 yX12_canBe cX12_canBe 3 (some .boolean) 1 := ⟨⟨lg_at 1762 (by decide +kernel) (by decide +kernel), lg_at 1764 (by decide +kernel) (by decide +kernel), lg_sel 105 (by decide +kernel) (by decide +kernel), lg_at 15 (by decide +kernel) (by decide +kernel), lg_at 1765 (by decide +kernel) (by decide +kernel)⟩, by decide +kernel, by decide +kernel, by decide +kernel⟩
theorem cV_X12_434 : cV RX12 434 yX12_partsOn cX12_partsOn 5 (some .int) 2 := ⟨⟨lg_at 1766 (by decide +kernel) (by decide +kernel), lg_at 1768 (by decide +kernel) (by decide +kernel), lg_sel 106 (by decide +kernel) (by decide +kernel), lg_at 15 (by decide +kernel) (by decide +kernel), lg_at 1769 (by decide +kernel) (by decide +kernel)⟩, by decide +kernel, by decide +kernel, by decide +kernel⟩
theorem cV_X12_440 : cV RX12 440 yX12_fillsHits cX12_fillsHits 3 none 1 := ⟨⟨lg_at 1758 (by decide +kernel) (by decide +kernel), lg_at 1760 (by decide +kernel) (by decide +kernel), lg_sel 104 (by decide +kernel) (by decide +kernel), lg_at 15 (by decide +kernel) (by decide +kernel), lg_at 1761 (by decide +kernel) (by decide +kernel)⟩, by decide +kernel, by decide +kernel, by decide +kernel⟩
theorem cV_X12_443 : cV RX12 443 yX12_isIn cX12_isIn 3 (some .boolean) 1 := ⟨⟨lg_at 1770 (by decide +kernel) (by decide +kernel), lg_at 1772 (by decide +kernel) (by decide +kernel), lg_sel 107 (by decide +kernel) (by decide +kernel), lg_at 15 (by decide +kernel) (by decide +kernel), lg_at 1773 (by decide +kernel) (by decide +kernel)⟩, by decide +kernel, by decide +kernel, by decide +kernel⟩
theorem cV_X12_446 : cV RX12 446 yX12_isSo cX12_isSo 4 (some .boolean) 2 := ⟨⟨lg_at 1802 (by decide +kernel) (by decide +kernel), lg_at 1804 (by decide +kernel) (by decide +kernel), lg_sel 108 (by decide +kernel) (by decide +kernel), lg_at 15 (by decide +kernel) (by decide +kernel), lg_at 1805 (by decide +kernel) (by decide +kernel)⟩, by decide +kernel, by decide +kernel, by decide +kernel⟩
theorem cV_X12_450 : cV RX12 450 yX12_sumNow cX12_sumNow 5 (some .int) 2 := ⟨⟨lg_at 1822 (by decide +kernel) (by decide +kernel), lg_at 1824 (by decide +kernel) (by decide +kernel), lg_sel 109 (by decide +kernel) (by decide +kernel), lg_at 15 (by decide +kernel) (by decide +kernel), lg_at 1825 (by decide +kernel) (by decide +kernel)⟩, by decide +kernel, by decide +kernel, by decide +kernel⟩
theorem cS_X12_437 : cS RX12 437 yX12_isMatter cX12_isMatter 1 (some .boolean) 1 := ⟨⟨lg_at 1755 (by decide +kernel) (by decide +kernel), lg_at 1756 (by decide +kernel) (by decide +kernel), lg_at 15 (by decide +kernel) (by decide +kernel), lg_at 1757 (by decide +kernel) (by decide +kernel)⟩, by decide +kernel, by decide +kernel, by decide +kernel⟩
section
variable {p : Program} {l : Launch} {e : Env} {s : State} {m : MethodId} {args : Array Value} {below : List Frame} {meth : Method} {c : Code} {D : va_G} {ad : Nat → Nat} {κ : KC}
-- X12_cure
def FX12_cure_8  : Nat → Int32 → Int32 → HS → Option (Int32 × HS)
  | 0, _, _, _ => none
  | f + 1, x1, x2, σ => gd (ix (σ.1 0 18) 2) (if (σ.1 11 ((σ.1 0 18).toNatClampNeg)) ≤ x2 then some (x1, σ) else bdI (FX12_curesOf x2 σ) fun r_3 σ_4 => bdI (FX12_haveOf x2 σ_4) fun r_6 σ_7 => bdI (FX12_many σ_7) fun r_9 σ_10 => bdI (FX12_power r_9 σ_10) fun r_12 σ_13 => gd (nz r_12) (if r_3 ≤ (r_6 / r_12) then FX12_cure_8  f x1 (x2 + 1) σ_13 else hl_ (x1 ||| ((1 : Int32) <<< (x2 &&& 31))) fun x1_17 => FX12_cure_8  f x1_17 (x2 + 1) σ_13))
def FX12_cure (σ : HS) : Option (Int32 × HS) :=
  bdV (FX12_copiesFalls σ) fun σ_18 => FX12_cure_8 fu (0 : Int32) (0 : Int32) σ_18
set_option maxHeartbeats 4000000 in
set_option maxRecDepth 100000 in
theorem wX12_cure_8 (C : Cx 45 D ad κ p s m args meth c cX12_cure RX12 3 (some .int)) {R : (Int32 × HS)} : ∀ (f : Nat) (x1 : Int32) (x2 : Int32) (σ : HS) (H : Heap) (locs : List Loc) (ls : Array Slot), FX12_cure_8  f x1 x2 σ = some R → Hd 45 ceM D ad κ s σ H locs → lv_has ls 3 [(0, .ref (ad 0)), (1, .int x1), (2, .int x2)] → W p l e ({ frames := 5, cells := 0, slots := 0, locals := 123 } : Room) s m args below meth c H locs 0 0 (MQ below (QI 45 ceM D ad κ R) args s 0 0 (AX 45 ad)) (F0 m 8 ls []) := by
  have hx := C.1
  have hb := C.2.1
  have hown := C.2.2.2.1
  have hts := C.2.2.2.2.1
  intro f
  induction f with
  | zero =>
    intro x1 x2 σ H locs ls h hH hl
    cases h
  | succ f ih =>
    intro x1 x2 σ H locs ls h hH hl
    rw [FX12_cure_8] at h
    refine lv_iload_n hx hb dX12_cure_8 rfl (lv_at hl 2 rfl) ?_
    refine lv_aload_n hx hb dX12_cure_9 rfl (lv_at hl 0 rfl) ?_
    refine g_get C hH 0 (Nat.le_of_ble_eq_true rfl) rfl fl_X12_49 (v := .ref (ad 11)) rfl dX12_cure_10 ?_
    refine lv_aload_n hx hb dX12_cure_13 rfl (lv_at hl 0 rfl) ?_
    refine g_get C hH 0 (Nat.le_of_ble_eq_true rfl) rfl fl_X12_233 (v := .int (σ.1 0 18)) rfl dX12_cure_14 ?_
    obtain ⟨hi_1, h⟩ := gd_ex h
    refine g_iald C hH 11 (Nat.le_of_ble_eq_true rfl) rfl (k := ((σ.1 0 18).toNatClampNeg)) rfl (ix_in hi_1) dX12_cure_17 ?_
    refine lv_icmp_ge (tgt := 54) hx hb dX12_cure_18 (by decide) (fun hq_2 => ?_) (fun hq_2 => ?_)
    · rw [if_pos hq_2] at h
      refine lv_iload_n hx hb dX12_cure_54 rfl (lv_at hl 1 rfl) ?_
      exact g_ret C hH h dX12_cure_55
    · rw [if_neg hq_2] at h
      refine lv_aload_n hx hb dX12_cure_21 rfl (lv_at hl 0 rfl) ?_
      refine lv_iload_n hx hb dX12_cure_22 rfl (lv_at hl 2 rfl) ?_
      obtain ⟨r_3, σ_4, hc_5, h⟩ := bdI_ex h
      refine g_ci (g_runV (rest := []) C hH hl.1 cV_X12_375 0 (Nat.le_of_ble_eq_true rfl) rfl rfl (kX12_curesOf l D ad κ hc_5) ⟨rfl, rfl⟩ ⟨(Nat.le_of_ble_eq_true rfl), (Nat.le_of_ble_eq_true rfl)⟩ rfl rfl (Nat.le_of_ble_eq_true rfl) dX12_cure_23 z00) hH (fun H locs hH => ?_)
      refine lv_aload_n hx hb dX12_cure_26 rfl (lv_at hl 0 rfl) ?_
      refine lv_iload_n hx hb dX12_cure_27 rfl (lv_at hl 2 rfl) ?_
      obtain ⟨r_6, σ_7, hc_8, h⟩ := bdI_ex h
      refine g_ci (g_runV (rest := [.int r_3]) C hH hl.1 cV_X12_415 0 (Nat.le_of_ble_eq_true rfl) rfl rfl (kX12_haveOf l D ad κ hc_8) ⟨rfl, rfl⟩ ⟨(Nat.le_of_ble_eq_true rfl), (Nat.le_of_ble_eq_true rfl)⟩ rfl rfl (Nat.le_of_ble_eq_true rfl) dX12_cure_28 z00) hH (fun H locs hH => ?_)
      refine lv_aload_n hx hb dX12_cure_31 rfl (lv_at hl 0 rfl) ?_
      obtain ⟨r_9, σ_10, hc_11, h⟩ := bdI_ex h
      refine g_ci (g_runV (rest := [.int r_6, .int r_3]) C hH hl.1 cV_X12_306 0 (Nat.le_of_ble_eq_true rfl) rfl rfl (kX12_many l D ad κ hc_11) ⟨rfl, rfl⟩ ⟨(Nat.le_of_ble_eq_true rfl), (Nat.le_of_ble_eq_true rfl)⟩ rfl rfl (Nat.le_of_ble_eq_true rfl) dX12_cure_32 z00) hH (fun H locs hH => ?_)
      obtain ⟨r_12, σ_13, hc_14, h⟩ := bdI_ex h
      refine g_ci (g_runS (rest := [.int r_6, .int r_3]) C hH hl.1 cS_X12_400 (kX12_power l D ad κ hc_14) ⟨rfl, rfl⟩ ⟨(Nat.le_of_ble_eq_true rfl), (Nat.le_of_ble_eq_true rfl)⟩ rfl rfl (Nat.le_of_ble_eq_true rfl) dX12_cure_35 z00) hH (fun H locs hH => ?_)
      obtain ⟨hz_15, h⟩ := gd_ex h
      refine lv_idiv hx hb dX12_cure_38 (nz_ne hz_15) ?_
      refine lv_icmp_le (tgt := 48) hx hb dX12_cure_39 (by decide) (fun hq_16 => ?_) (fun hq_16 => ?_)
      · rw [if_pos hq_16] at h
        refine lv_iinc (v := (x2 + 1)) (lv' := [(2, .int (x2 + 1)), (0, .ref (ad 0)), (1, .int x1)]) hx hb dX12_cure_48 hl (k := 2) rfl rfl (by decide) rfl (fun ls hl => ?_)
        refine lv_goto (tgt := 8) hx hb dX12_cure_51 (by decide) ?_
        exact ih _ _ _ _ _ _ h hH (lv_sub hl [1, 2, 0] rfl)
      · rw [if_neg hq_16] at h
        refine lv_iload_n hx hb dX12_cure_42 rfl (lv_at hl 1 rfl) ?_
        refine lv_iconst (v := 1) hx hb dX12_cure_43 (by decide) ?_
        refine lv_iload_n hx hb dX12_cure_44 rfl (lv_at hl 2 rfl) ?_
        refine lv_ishl hx hb dX12_cure_45 ?_
        refine lv_ior hx hb dX12_cure_46 ?_
        obtain ⟨x1_17, ex1_17, h⟩ := hl_ex h
        refine lv_eqi ex1_17 ?_
        refine lv_istore_n (lv' := [(1, .int x1_17), (0, .ref (ad 0)), (2, .int x2)]) hx hb dX12_cure_47 rfl hl (by decide) rfl (fun ls hl => ?_)
        refine lv_iinc (v := (x2 + 1)) (lv' := [(2, .int (x2 + 1)), (1, .int x1_17), (0, .ref (ad 0))]) hx hb dX12_cure_48 hl (k := 2) rfl rfl (by decide) rfl (fun ls hl => ?_)
        refine lv_goto (tgt := 8) hx hb dX12_cure_51 (by decide) ?_
        exact ih _ _ _ _ _ _ h hH (lv_sub hl [2, 1, 0] rfl)
set_option maxHeartbeats 4000000 in
set_option maxRecDepth 100000 in
theorem kX12_cure (l : Launch) (D : va_G) (ad : Nat → Nat) (κ : KC) {σ : HS} {R : (Int32 × HS)} (h : FX12_cure σ = some R) : MtI l 45 ceM D ad κ yX12_cure cX12_cure 3 (some .int) ({ frames := 5, cells := 0, slots := 0, locals := 123 } : Room) [.ref (ad 0)] σ R := by
  refine open_ (by decide) (Nat.le_of_ble_eq_true rfl) (la := [(0, .ref (ad 0))]) rfl ?_
  intro p e s m below meth c ls C hH hl
  replace C : Cx 45 D ad κ p s m _ meth c cX12_cure RX12 3 (some .int) := C
  have hx := C.1
  have hb := C.2.1
  have hown := C.2.2.2.1
  have hts := C.2.2.2.2.1
  rw [FX12_cure] at h
  refine lv_aload_n hx hb dX12_cure_0 rfl (lv_at hl 0 rfl) ?_
  obtain ⟨σ_18, hc_19, h⟩ := bdV_ex h
  refine g_cv (g_runV (rest := []) C hH hl.1 cV_X12_406 0 (Nat.le_of_ble_eq_true rfl) rfl rfl (kX12_copiesFalls l D ad κ hc_19) ⟨rfl, rfl⟩ ⟨(Nat.le_of_ble_eq_true rfl), (Nat.le_of_ble_eq_true rfl)⟩ rfl rfl (Nat.le_of_ble_eq_true rfl) dX12_cure_1 z00) hH (fun H locs hH => ?_)
  refine lv_iconst (v := 0) hx hb dX12_cure_4 (by decide) ?_
  refine lv_istore_n (lv' := [(1, .int (0 : Int32)), (0, .ref (ad 0))]) hx hb dX12_cure_5 rfl hl (by decide) rfl (fun ls hl => ?_)
  refine lv_iconst (v := 0) hx hb dX12_cure_6 (by decide) ?_
  refine lv_istore_n (lv' := [(2, .int (0 : Int32)), (1, .int (0 : Int32)), (0, .ref (ad 0))]) hx hb dX12_cure_7 rfl hl (by decide) rfl (fun ls hl => ?_)
  exact wX12_cure_8 C _ _ _ _ _ _ _ h hH (lv_sub hl [2, 1, 0] rfl)
-- X12_richest
def FX12_richest_20  : Nat → Int32 → Int32 → Int32 → HS → Option (Int32 × HS)
  | 0, _, _, _, _ => none
  | f + 1, x1, x2, x3, σ => gd (ix (σ.1 0 18) 2) (if (σ.1 11 ((σ.1 0 18).toNatClampNeg)) ≤ x3 then if x2 < 0 then some (x2, σ) else if x1 = 0 then some (x2, σ) else bdI (FX12_haveOf x2 σ) fun r_5 σ_6 => some (r_5, σ_6) else if x2 < 0 then FX12_richest_20  f x1 x3 (x3 + 1) σ else bdI (FX12_haveOf x3 σ) fun r_9 σ_10 => bdI (FX12_haveOf x2 σ_10) fun r_12 σ_13 => if r_9 ≤ r_12 then FX12_richest_20  f x1 x2 (x3 + 1) σ_13 else FX12_richest_20  f x1 x3 (x3 + 1) σ_13)
def FX12_richest (x1 : Int32) (σ : HS) : Option (Int32 × HS) :=
  bdI (FX12_in x1 (0 : Int32) (1 : Int32) σ) fun r_16 σ_17 => if r_16 = 0 then some ((-1 : Int32), σ_17) else bdV (FX12_copiesFalls σ_17) fun σ_20 => FX12_richest_20 fu x1 (-2 : Int32) (0 : Int32) σ_20
set_option maxHeartbeats 4000000 in
set_option maxRecDepth 100000 in
theorem wX12_richest_20 (C : Cx 45 D ad κ p s m args meth c cX12_richest RX12 4 (some .int)) {R : (Int32 × HS)} : ∀ (f : Nat) (x1 : Int32) (x2 : Int32) (x3 : Int32) (σ : HS) (H : Heap) (locs : List Loc) (ls : Array Slot), FX12_richest_20  f x1 x2 x3 σ = some R → Hd 45 ceM D ad κ s σ H locs → lv_has ls 4 [(0, .ref (ad 0)), (1, .int x1), (2, .int x2), (3, .int x3)] → W p l e ({ frames := 5, cells := 0, slots := 0, locals := 123 } : Room) s m args below meth c H locs 0 0 (MQ below (QI 45 ceM D ad κ R) args s 0 0 (AX 45 ad)) (F0 m 20 ls []) := by
  have hx := C.1
  have hb := C.2.1
  have hown := C.2.2.2.1
  have hts := C.2.2.2.2.1
  intro f
  induction f with
  | zero =>
    intro x1 x2 x3 σ H locs ls h hH hl
    cases h
  | succ f ih =>
    intro x1 x2 x3 σ H locs ls h hH hl
    rw [FX12_richest_20] at h
    refine lv_iload_n hx hb dX12_richest_20 rfl (lv_at hl 3 rfl) ?_
    refine lv_aload_n hx hb dX12_richest_21 rfl (lv_at hl 0 rfl) ?_
    refine g_get C hH 0 (Nat.le_of_ble_eq_true rfl) rfl fl_X12_49 (v := .ref (ad 11)) rfl dX12_richest_22 ?_
    refine lv_aload_n hx hb dX12_richest_25 rfl (lv_at hl 0 rfl) ?_
    refine g_get C hH 0 (Nat.le_of_ble_eq_true rfl) rfl fl_X12_233 (v := .int (σ.1 0 18)) rfl dX12_richest_26 ?_
    obtain ⟨hi_1, h⟩ := gd_ex h
    refine g_iald C hH 11 (Nat.le_of_ble_eq_true rfl) rfl (k := ((σ.1 0 18).toNatClampNeg)) rfl (ix_in hi_1) dX12_richest_29 ?_
    refine lv_icmp_ge (tgt := 58) hx hb dX12_richest_30 (by decide) (fun hq_2 => ?_) (fun hq_2 => ?_)
    · rw [if_pos hq_2] at h
      refine lv_iload_n hx hb dX12_richest_58 rfl (lv_at hl 2 rfl) ?_
      refine lv_if_lt (tgt := 66) hx hb dX12_richest_59 (by decide) (fun hq_3 => ?_) (fun hq_3 => ?_)
      · rw [if_pos hq_3] at h
        refine lv_iload_n hx hb dX12_richest_66 rfl (lv_at hl 2 rfl) ?_
        refine lv_goto (tgt := 75) hx hb dX12_richest_67 (by decide) ?_
        exact g_ret C hH h dX12_richest_75
      · rw [if_neg hq_3] at h
        refine lv_iload_n hx hb dX12_richest_62 rfl (lv_at hl 1 rfl) ?_
        refine lv_if_ne (tgt := 70) hx hb dX12_richest_63 (by decide) (fun hq_4 => ?_) (fun hq_4 => ?_)
        · rw [if_neg hq_4] at h
          refine lv_aload_n hx hb dX12_richest_70 rfl (lv_at hl 0 rfl) ?_
          refine lv_iload_n hx hb dX12_richest_71 rfl (lv_at hl 2 rfl) ?_
          obtain ⟨r_5, σ_6, hc_7, h⟩ := bdI_ex h
          refine g_ci (g_runV (rest := []) C hH hl.1 cV_X12_415 0 (Nat.le_of_ble_eq_true rfl) rfl rfl (kX12_haveOf l D ad κ hc_7) ⟨rfl, rfl⟩ ⟨(Nat.le_of_ble_eq_true rfl), (Nat.le_of_ble_eq_true rfl)⟩ rfl rfl (Nat.le_of_ble_eq_true rfl) dX12_richest_72 z00) hH (fun H locs hH => ?_)
          exact g_ret C hH h dX12_richest_75
        · rw [if_pos hq_4] at h
          refine lv_iload_n hx hb dX12_richest_66 rfl (lv_at hl 2 rfl) ?_
          refine lv_goto (tgt := 75) hx hb dX12_richest_67 (by decide) ?_
          exact g_ret C hH h dX12_richest_75
    · rw [if_neg hq_2] at h
      refine lv_iload_n hx hb dX12_richest_33 rfl (lv_at hl 2 rfl) ?_
      refine lv_if_lt (tgt := 50) hx hb dX12_richest_34 (by decide) (fun hq_8 => ?_) (fun hq_8 => ?_)
      · rw [if_pos hq_8] at h
        refine lv_iload_n hx hb dX12_richest_50 rfl (lv_at hl 3 rfl) ?_
        refine lv_istore_n (lv' := [(2, .int x3), (0, .ref (ad 0)), (1, .int x1), (3, .int x3)]) hx hb dX12_richest_51 rfl hl (by decide) rfl (fun ls hl => ?_)
        refine lv_iinc (v := (x3 + 1)) (lv' := [(3, .int (x3 + 1)), (2, .int x3), (0, .ref (ad 0)), (1, .int x1)]) hx hb dX12_richest_52 hl (k := 3) rfl rfl (by decide) rfl (fun ls hl => ?_)
        refine lv_goto (tgt := 20) hx hb dX12_richest_55 (by decide) ?_
        exact ih _ _ _ _ _ _ _ h hH (lv_sub hl [2, 3, 1, 0] rfl)
      · rw [if_neg hq_8] at h
        refine lv_aload_n hx hb dX12_richest_37 rfl (lv_at hl 0 rfl) ?_
        refine lv_iload_n hx hb dX12_richest_38 rfl (lv_at hl 3 rfl) ?_
        obtain ⟨r_9, σ_10, hc_11, h⟩ := bdI_ex h
        refine g_ci (g_runV (rest := []) C hH hl.1 cV_X12_415 0 (Nat.le_of_ble_eq_true rfl) rfl rfl (kX12_haveOf l D ad κ hc_11) ⟨rfl, rfl⟩ ⟨(Nat.le_of_ble_eq_true rfl), (Nat.le_of_ble_eq_true rfl)⟩ rfl rfl (Nat.le_of_ble_eq_true rfl) dX12_richest_39 z00) hH (fun H locs hH => ?_)
        refine lv_aload_n hx hb dX12_richest_42 rfl (lv_at hl 0 rfl) ?_
        refine lv_iload_n hx hb dX12_richest_43 rfl (lv_at hl 2 rfl) ?_
        obtain ⟨r_12, σ_13, hc_14, h⟩ := bdI_ex h
        refine g_ci (g_runV (rest := [.int r_9]) C hH hl.1 cV_X12_415 0 (Nat.le_of_ble_eq_true rfl) rfl rfl (kX12_haveOf l D ad κ hc_14) ⟨rfl, rfl⟩ ⟨(Nat.le_of_ble_eq_true rfl), (Nat.le_of_ble_eq_true rfl)⟩ rfl rfl (Nat.le_of_ble_eq_true rfl) dX12_richest_44 z00) hH (fun H locs hH => ?_)
        refine lv_icmp_le (tgt := 52) hx hb dX12_richest_47 (by decide) (fun hq_15 => ?_) (fun hq_15 => ?_)
        · rw [if_pos hq_15] at h
          refine lv_iinc (v := (x3 + 1)) (lv' := [(3, .int (x3 + 1)), (0, .ref (ad 0)), (1, .int x1), (2, .int x2)]) hx hb dX12_richest_52 hl (k := 3) rfl rfl (by decide) rfl (fun ls hl => ?_)
          refine lv_goto (tgt := 20) hx hb dX12_richest_55 (by decide) ?_
          exact ih _ _ _ _ _ _ _ h hH (lv_sub hl [1, 2, 3, 0] rfl)
        · rw [if_neg hq_15] at h
          refine lv_iload_n hx hb dX12_richest_50 rfl (lv_at hl 3 rfl) ?_
          refine lv_istore_n (lv' := [(2, .int x3), (0, .ref (ad 0)), (1, .int x1), (3, .int x3)]) hx hb dX12_richest_51 rfl hl (by decide) rfl (fun ls hl => ?_)
          refine lv_iinc (v := (x3 + 1)) (lv' := [(3, .int (x3 + 1)), (2, .int x3), (0, .ref (ad 0)), (1, .int x1)]) hx hb dX12_richest_52 hl (k := 3) rfl rfl (by decide) rfl (fun ls hl => ?_)
          refine lv_goto (tgt := 20) hx hb dX12_richest_55 (by decide) ?_
          exact ih _ _ _ _ _ _ _ h hH (lv_sub hl [2, 3, 1, 0] rfl)
set_option maxHeartbeats 4000000 in
set_option maxRecDepth 100000 in
theorem kX12_richest (l : Launch) (D : va_G) (ad : Nat → Nat) (κ : KC) {x1 : Int32} {σ : HS} {R : (Int32 × HS)} (h : FX12_richest x1 σ = some R) : MtI l 45 ceM D ad κ yX12_richest cX12_richest 4 (some .int) ({ frames := 5, cells := 0, slots := 0, locals := 123 } : Room) [.ref (ad 0), .int x1] σ R := by
  refine open_ (by decide) (Nat.le_of_ble_eq_true rfl) (la := [(0, .ref (ad 0)), (1, .int x1)]) rfl ?_
  intro p e s m below meth c ls C hH hl
  replace C : Cx 45 D ad κ p s m _ meth c cX12_richest RX12 4 (some .int) := C
  have hx := C.1
  have hb := C.2.1
  have hown := C.2.2.2.1
  have hts := C.2.2.2.2.1
  rw [FX12_richest] at h
  refine lv_iload_n hx hb dX12_richest_0 rfl (lv_at hl 1 rfl) ?_
  refine lv_iconst (v := 0) hx hb dX12_richest_1 (by decide) ?_
  refine lv_iconst (v := 1) hx hb dX12_richest_2 (by decide) ?_
  obtain ⟨r_16, σ_17, hc_18, h⟩ := bdI_ex h
  refine g_ci (g_runS (rest := []) C hH hl.1 cS_X12_310 (kX12_in l D ad κ hc_18) ⟨rfl, rfl⟩ ⟨(Nat.le_of_ble_eq_true rfl), (Nat.le_of_ble_eq_true rfl)⟩ rfl rfl (Nat.le_of_ble_eq_true rfl) dX12_richest_3 z00) hH (fun H locs hH => ?_)
  refine lv_if_ne (tgt := 11) hx hb dX12_richest_6 (by decide) (fun hq_19 => ?_) (fun hq_19 => ?_)
  · rw [if_neg hq_19] at h
    refine lv_aload_n hx hb dX12_richest_11 rfl (lv_at hl 0 rfl) ?_
    obtain ⟨σ_20, hc_21, h⟩ := bdV_ex h
    refine g_cv (g_runV (rest := []) C hH hl.1 cV_X12_406 0 (Nat.le_of_ble_eq_true rfl) rfl rfl (kX12_copiesFalls l D ad κ hc_21) ⟨rfl, rfl⟩ ⟨(Nat.le_of_ble_eq_true rfl), (Nat.le_of_ble_eq_true rfl)⟩ rfl rfl (Nat.le_of_ble_eq_true rfl) dX12_richest_12 z00) hH (fun H locs hH => ?_)
    refine lv_bipush (v := (-2)) hx hb dX12_richest_15 (by decide) ?_
    refine lv_istore_n (lv' := [(2, .int (-2 : Int32)), (0, .ref (ad 0)), (1, .int x1)]) hx hb dX12_richest_17 rfl hl (by decide) rfl (fun ls hl => ?_)
    refine lv_iconst (v := 0) hx hb dX12_richest_18 (by decide) ?_
    refine lv_istore_n (lv' := [(3, .int (0 : Int32)), (2, .int (-2 : Int32)), (0, .ref (ad 0)), (1, .int x1)]) hx hb dX12_richest_19 rfl hl (by decide) rfl (fun ls hl => ?_)
    exact wX12_richest_20 C _ _ _ _ _ _ _ _ h hH (lv_sub hl [2, 3, 1, 0] rfl)
  · rw [if_pos hq_19] at h
    refine lv_iconst (v := (-1)) hx hb dX12_richest_9 (by decide) ?_
    exact g_ret C hH h dX12_richest_10
-- X12_likely
def FX12_likely_49 (k22 : Int32 → Int32 → Int32 → Int32 → HS → Option (Int32 × HS)) (x1 : Int32) (x2 : Int32) (x3 : Int32) (x4 : Int32) (σ : HS) : Option (Int32 × HS) :=
  gd (ix x4 10) (if (σ.1 34 (x4.toNatClampNeg)) ≤ (2 : Int32) then gd (ix x4 10) (hl_ (x3 * ((4 : Int32) - (σ.1 34 (x4.toNatClampNeg)))) fun x3_4 => k22 x1 x2 x3_4 (x4 + 1) σ) else gd (ix x4 10) (hl_ (x3 * (σ.1 34 (x4.toNatClampNeg))) fun x3_6 => k22 x1 x2 x3_6 (x4 + 1) σ))
def FX12_likely_22  : Nat → Int32 → Int32 → Int32 → Int32 → HS → Option (Int32 × HS)
  | 0, _, _, _, _, _ => none
  | f + 1, x1, x2, x3, x4, σ => bdI (FX12_many σ) fun r_7 σ_8 => if r_7 ≤ x4 then if x1 = 0 then some (x2, σ_8) else some (x3, σ_8) else gd (ix x4 10) (if (σ_8.1 34 (x4.toNatClampNeg)) ≤ (2 : Int32) then FX12_likely_49 (FX12_likely_22  f) x1 x2 x3 x4 σ_8 else hl_ (x2 ||| ((1 : Int32) <<< (x4 &&& 31))) fun x2_14 => FX12_likely_49 (FX12_likely_22  f) x1 x2_14 x3 x4 σ_8)
def FX12_likely (x1 : Int32) (σ : HS) : Option (Int32 × HS) :=
  bdI (FX12_in x1 (0 : Int32) (1 : Int32) σ) fun r_15 σ_16 => if r_15 = 0 then some ((-1 : Int32), σ_16) else bdV (FX12_copiesFalls σ_16) fun σ_19 => FX12_likely_22 fu x1 (0 : Int32) (1 : Int32) (0 : Int32) σ_19
set_option maxHeartbeats 4000000 in
set_option maxRecDepth 100000 in
theorem wX12_likely_49 (C : Cx 45 D ad κ p s m args meth c cX12_likely RX12 5 (some .int)) {R : (Int32 × HS)} {k22 : Int32 → Int32 → Int32 → Int32 → HS → Option (Int32 × HS)} (K22 : ∀ (x1 : Int32) (x2 : Int32) (x3 : Int32) (x4 : Int32) (σ : HS) (H : Heap) (locs : List Loc) (ls : Array Slot), k22 x1 x2 x3 x4 σ = some R → Hd 45 ceM D ad κ s σ H locs → lv_has ls 5 [(0, .ref (ad 0)), (1, .int x1), (2, .int x2), (3, .int x3), (4, .int x4)] → W p l e ({ frames := 5, cells := 0, slots := 0, locals := 117 } : Room) s m args below meth c H locs 0 0 (MQ below (QI 45 ceM D ad κ R) args s 0 0 (AX 45 ad)) (F0 m 22 ls [])) : ∀ (x1 : Int32) (x2 : Int32) (x3 : Int32) (x4 : Int32) (σ : HS) (H : Heap) (locs : List Loc) (ls : Array Slot), FX12_likely_49 k22 x1 x2 x3 x4 σ = some R → Hd 45 ceM D ad κ s σ H locs → lv_has ls 5 [(0, .ref (ad 0)), (1, .int x1), (2, .int x2), (3, .int x3), (4, .int x4)] → W p l e ({ frames := 5, cells := 0, slots := 0, locals := 117 } : Room) s m args below meth c H locs 0 0 (MQ below (QI 45 ceM D ad κ R) args s 0 0 (AX 45 ad)) (F0 m 49 ls []) := by
  have hx := C.1
  have hb := C.2.1
  have hown := C.2.2.2.1
  have hts := C.2.2.2.2.1
  intro x1 x2 x3 x4 σ H locs ls h hH hl
  rw [FX12_likely_49] at h
  refine lv_iload_n hx hb dX12_likely_49 rfl (lv_at hl 3 rfl) ?_
  refine lv_aload_n hx hb dX12_likely_50 rfl (lv_at hl 0 rfl) ?_
  refine g_get C hH 0 (Nat.le_of_ble_eq_true rfl) rfl fl_X12_119 (v := .ref (ad 34)) rfl dX12_likely_51 ?_
  refine lv_iload hx hb dX12_likely_54 (lv_at hl 4 rfl) ?_
  obtain ⟨hi_1, h⟩ := gd_ex h
  refine g_iald C hH 34 (Nat.le_of_ble_eq_true rfl) rfl (k := (x4.toNatClampNeg)) rfl (ix_in hi_1) dX12_likely_56 ?_
  refine lv_iconst (v := 2) hx hb dX12_likely_57 (by decide) ?_
  refine lv_icmp_le (tgt := 71) hx hb dX12_likely_58 (by decide) (fun hq_2 => ?_) (fun hq_2 => ?_)
  · rw [if_pos hq_2] at h
    refine lv_iconst (v := 4) hx hb dX12_likely_71 (by decide) ?_
    refine lv_aload_n hx hb dX12_likely_72 rfl (lv_at hl 0 rfl) ?_
    refine g_get C hH 0 (Nat.le_of_ble_eq_true rfl) rfl fl_X12_119 (v := .ref (ad 34)) rfl dX12_likely_73 ?_
    refine lv_iload hx hb dX12_likely_76 (lv_at hl 4 rfl) ?_
    obtain ⟨hi_3, h⟩ := gd_ex h
    refine g_iald C hH 34 (Nat.le_of_ble_eq_true rfl) rfl (k := (x4.toNatClampNeg)) rfl (ix_in hi_3) dX12_likely_78 ?_
    refine lv_isub hx hb dX12_likely_79 ?_
    refine lv_imul hx hb dX12_likely_80 ?_
    obtain ⟨x3_4, ex3_4, h⟩ := hl_ex h
    refine lv_eqi ex3_4 ?_
    refine lv_istore_n (lv' := [(3, .int x3_4), (0, .ref (ad 0)), (1, .int x1), (2, .int x2), (4, .int x4)]) hx hb dX12_likely_81 rfl hl (by decide) rfl (fun ls hl => ?_)
    refine lv_iinc (v := (x4 + 1)) (lv' := [(4, .int (x4 + 1)), (3, .int x3_4), (0, .ref (ad 0)), (1, .int x1), (2, .int x2)]) hx hb dX12_likely_82 hl (k := 4) rfl rfl (by decide) rfl (fun ls hl => ?_)
    refine lv_goto (tgt := 22) hx hb dX12_likely_85 (by decide) ?_
    exact K22 _ _ _ _ _ _ _ _ h hH (lv_sub hl [2, 3, 4, 1, 0] rfl)
  · rw [if_neg hq_2] at h
    refine lv_aload_n hx hb dX12_likely_61 rfl (lv_at hl 0 rfl) ?_
    refine g_get C hH 0 (Nat.le_of_ble_eq_true rfl) rfl fl_X12_119 (v := .ref (ad 34)) rfl dX12_likely_62 ?_
    refine lv_iload hx hb dX12_likely_65 (lv_at hl 4 rfl) ?_
    obtain ⟨hi_5, h⟩ := gd_ex h
    refine g_iald C hH 34 (Nat.le_of_ble_eq_true rfl) rfl (k := (x4.toNatClampNeg)) rfl (ix_in hi_5) dX12_likely_67 ?_
    refine lv_goto (tgt := 80) hx hb dX12_likely_68 (by decide) ?_
    refine lv_imul hx hb dX12_likely_80 ?_
    obtain ⟨x3_6, ex3_6, h⟩ := hl_ex h
    refine lv_eqi ex3_6 ?_
    refine lv_istore_n (lv' := [(3, .int x3_6), (0, .ref (ad 0)), (1, .int x1), (2, .int x2), (4, .int x4)]) hx hb dX12_likely_81 rfl hl (by decide) rfl (fun ls hl => ?_)
    refine lv_iinc (v := (x4 + 1)) (lv' := [(4, .int (x4 + 1)), (3, .int x3_6), (0, .ref (ad 0)), (1, .int x1), (2, .int x2)]) hx hb dX12_likely_82 hl (k := 4) rfl rfl (by decide) rfl (fun ls hl => ?_)
    refine lv_goto (tgt := 22) hx hb dX12_likely_85 (by decide) ?_
    exact K22 _ _ _ _ _ _ _ _ h hH (lv_sub hl [2, 3, 4, 1, 0] rfl)
set_option maxHeartbeats 4000000 in
set_option maxRecDepth 100000 in
theorem wX12_likely_22 (C : Cx 45 D ad κ p s m args meth c cX12_likely RX12 5 (some .int)) {R : (Int32 × HS)} : ∀ (f : Nat) (x1 : Int32) (x2 : Int32) (x3 : Int32) (x4 : Int32) (σ : HS) (H : Heap) (locs : List Loc) (ls : Array Slot), FX12_likely_22  f x1 x2 x3 x4 σ = some R → Hd 45 ceM D ad κ s σ H locs → lv_has ls 5 [(0, .ref (ad 0)), (1, .int x1), (2, .int x2), (3, .int x3), (4, .int x4)] → W p l e ({ frames := 5, cells := 0, slots := 0, locals := 117 } : Room) s m args below meth c H locs 0 0 (MQ below (QI 45 ceM D ad κ R) args s 0 0 (AX 45 ad)) (F0 m 22 ls []) := by
  have hx := C.1
  have hb := C.2.1
  have hown := C.2.2.2.1
  have hts := C.2.2.2.2.1
  intro f
  induction f with
  | zero =>
    intro x1 x2 x3 x4 σ H locs ls h hH hl
    cases h
  | succ f ih =>
    intro x1 x2 x3 x4 σ H locs ls h hH hl
    rw [FX12_likely_22] at h
    refine lv_iload hx hb dX12_likely_22 (lv_at hl 4 rfl) ?_
    refine lv_aload_n hx hb dX12_likely_24 rfl (lv_at hl 0 rfl) ?_
    obtain ⟨r_7, σ_8, hc_9, h⟩ := bdI_ex h
    refine g_ci (g_runV (rest := [.int x4]) C hH hl.1 cV_X12_306 0 (Nat.le_of_ble_eq_true rfl) rfl rfl (kX12_many l D ad κ hc_9) ⟨rfl, rfl⟩ ⟨(Nat.le_of_ble_eq_true rfl), (Nat.le_of_ble_eq_true rfl)⟩ rfl rfl (Nat.le_of_ble_eq_true rfl) dX12_likely_25 z00) hH (fun H locs hH => ?_)
    refine lv_icmp_ge (tgt := 88) hx hb dX12_likely_28 (by decide) (fun hq_10 => ?_) (fun hq_10 => ?_)
    · rw [if_pos hq_10] at h
      refine lv_iload_n hx hb dX12_likely_88 rfl (lv_at hl 1 rfl) ?_
      refine lv_if_ne (tgt := 96) hx hb dX12_likely_89 (by decide) (fun hq_11 => ?_) (fun hq_11 => ?_)
      · rw [if_neg hq_11] at h
        refine lv_iload_n hx hb dX12_likely_96 rfl (lv_at hl 3 rfl) ?_
        exact g_ret C hH h dX12_likely_97
      · rw [if_pos hq_11] at h
        refine lv_iload_n hx hb dX12_likely_92 rfl (lv_at hl 2 rfl) ?_
        refine lv_goto (tgt := 97) hx hb dX12_likely_93 (by decide) ?_
        exact g_ret C hH h dX12_likely_97
    · rw [if_neg hq_10] at h
      refine lv_aload_n hx hb dX12_likely_31 rfl (lv_at hl 0 rfl) ?_
      refine g_get C hH 0 (Nat.le_of_ble_eq_true rfl) rfl fl_X12_119 (v := .ref (ad 34)) rfl dX12_likely_32 ?_
      refine lv_iload hx hb dX12_likely_35 (lv_at hl 4 rfl) ?_
      obtain ⟨hi_12, h⟩ := gd_ex h
      refine g_iald C hH 34 (Nat.le_of_ble_eq_true rfl) rfl (k := (x4.toNatClampNeg)) rfl (ix_in hi_12) dX12_likely_37 ?_
      refine lv_iconst (v := 2) hx hb dX12_likely_38 (by decide) ?_
      refine lv_icmp_le (tgt := 49) hx hb dX12_likely_39 (by decide) (fun hq_13 => ?_) (fun hq_13 => ?_)
      · rw [if_pos hq_13] at h
        exact wX12_likely_49 C ih  _ _ _ _ _ _ _ _ h hH (lv_sub hl [0, 1, 2, 3, 4] rfl)
      · rw [if_neg hq_13] at h
        refine lv_iload_n hx hb dX12_likely_42 rfl (lv_at hl 2 rfl) ?_
        refine lv_iconst (v := 1) hx hb dX12_likely_43 (by decide) ?_
        refine lv_iload hx hb dX12_likely_44 (lv_at hl 4 rfl) ?_
        refine lv_ishl hx hb dX12_likely_46 ?_
        refine lv_ior hx hb dX12_likely_47 ?_
        obtain ⟨x2_14, ex2_14, h⟩ := hl_ex h
        refine lv_eqi ex2_14 ?_
        refine lv_istore_n (lv' := [(2, .int x2_14), (0, .ref (ad 0)), (1, .int x1), (3, .int x3), (4, .int x4)]) hx hb dX12_likely_48 rfl hl (by decide) rfl (fun ls hl => ?_)
        exact wX12_likely_49 C ih  _ _ _ _ _ _ _ _ h hH (lv_sub hl [1, 2, 0, 3, 4] rfl)
set_option maxHeartbeats 4000000 in
set_option maxRecDepth 100000 in
theorem kX12_likely (l : Launch) (D : va_G) (ad : Nat → Nat) (κ : KC) {x1 : Int32} {σ : HS} {R : (Int32 × HS)} (h : FX12_likely x1 σ = some R) : MtI l 45 ceM D ad κ yX12_likely cX12_likely 5 (some .int) ({ frames := 5, cells := 0, slots := 0, locals := 117 } : Room) [.ref (ad 0), .int x1] σ R := by
  refine open_ (by decide) (Nat.le_of_ble_eq_true rfl) (la := [(0, .ref (ad 0)), (1, .int x1)]) rfl ?_
  intro p e s m below meth c ls C hH hl
  replace C : Cx 45 D ad κ p s m _ meth c cX12_likely RX12 5 (some .int) := C
  have hx := C.1
  have hb := C.2.1
  have hown := C.2.2.2.1
  have hts := C.2.2.2.2.1
  rw [FX12_likely] at h
  refine lv_iload_n hx hb dX12_likely_0 rfl (lv_at hl 1 rfl) ?_
  refine lv_iconst (v := 0) hx hb dX12_likely_1 (by decide) ?_
  refine lv_iconst (v := 1) hx hb dX12_likely_2 (by decide) ?_
  obtain ⟨r_15, σ_16, hc_17, h⟩ := bdI_ex h
  refine g_ci (g_runS (rest := []) C hH hl.1 cS_X12_310 (kX12_in l D ad κ hc_17) ⟨rfl, rfl⟩ ⟨(Nat.le_of_ble_eq_true rfl), (Nat.le_of_ble_eq_true rfl)⟩ rfl rfl (Nat.le_of_ble_eq_true rfl) dX12_likely_3 z00) hH (fun H locs hH => ?_)
  refine lv_if_ne (tgt := 11) hx hb dX12_likely_6 (by decide) (fun hq_18 => ?_) (fun hq_18 => ?_)
  · rw [if_neg hq_18] at h
    refine lv_aload_n hx hb dX12_likely_11 rfl (lv_at hl 0 rfl) ?_
    obtain ⟨σ_19, hc_20, h⟩ := bdV_ex h
    refine g_cv (g_runV (rest := []) C hH hl.1 cV_X12_406 0 (Nat.le_of_ble_eq_true rfl) rfl rfl (kX12_copiesFalls l D ad κ hc_20) ⟨rfl, rfl⟩ ⟨(Nat.le_of_ble_eq_true rfl), (Nat.le_of_ble_eq_true rfl)⟩ rfl rfl (Nat.le_of_ble_eq_true rfl) dX12_likely_12 z00) hH (fun H locs hH => ?_)
    refine lv_iconst (v := 0) hx hb dX12_likely_15 (by decide) ?_
    refine lv_istore_n (lv' := [(2, .int (0 : Int32)), (0, .ref (ad 0)), (1, .int x1)]) hx hb dX12_likely_16 rfl hl (by decide) rfl (fun ls hl => ?_)
    refine lv_iconst (v := 1) hx hb dX12_likely_17 (by decide) ?_
    refine lv_istore_n (lv' := [(3, .int (1 : Int32)), (2, .int (0 : Int32)), (0, .ref (ad 0)), (1, .int x1)]) hx hb dX12_likely_18 rfl hl (by decide) rfl (fun ls hl => ?_)
    refine lv_iconst (v := 0) hx hb dX12_likely_19 (by decide) ?_
    refine lv_istore (lv' := [(4, .int (0 : Int32)), (3, .int (1 : Int32)), (2, .int (0 : Int32)), (0, .ref (ad 0)), (1, .int x1)]) hx hb dX12_likely_20 hl (by decide) rfl (fun ls hl => ?_)
    exact wX12_likely_22 C _ _ _ _ _ _ _ _ _ h hH (lv_sub hl [3, 4, 2, 1, 0] rfl)
  · rw [if_pos hq_18] at h
    refine lv_iconst (v := (-1)) hx hb dX12_likely_9 (by decide) ?_
    exact g_ret C hH h dX12_likely_10
-- X12_isMatter
def FX12_isMatter (x0 : Int32) (σ : HS) : Option (Int32 × HS) :=
  bdI (FX12_in x0 (0 : Int32) (5 : Int32) σ) fun r_1 σ_2 => gd (isB r_1) (some (r_1, σ_2))
set_option maxHeartbeats 4000000 in
set_option maxRecDepth 100000 in
theorem kX12_isMatter (l : Launch) (D : va_G) (ad : Nat → Nat) (κ : KC) {x0 : Int32} {σ : HS} {R : (Int32 × HS)} (h : FX12_isMatter x0 σ = some R) : MtI l 45 ceM D ad κ yX12_isMatter cX12_isMatter 1 (some .boolean) ({ frames := 1, cells := 0, slots := 0, locals := 22 } : Room) [.int x0] σ R := by
  refine open_ (by decide) (Nat.le_of_ble_eq_true rfl) (la := [(0, .int x0)]) rfl ?_
  intro p e s m below meth c ls C hH hl
  replace C : Cx 45 D ad κ p s m _ meth c cX12_isMatter RX12 1 (some .boolean) := C
  have hx := C.1
  have hb := C.2.1
  have hown := C.2.2.2.1
  have hts := C.2.2.2.2.1
  rw [FX12_isMatter] at h
  refine lv_iload_n hx hb dX12_isMatter_0 rfl (lv_at hl 0 rfl) ?_
  refine lv_iconst (v := 0) hx hb dX12_isMatter_1 (by decide) ?_
  refine lv_iconst (v := 5) hx hb dX12_isMatter_2 (by decide) ?_
  obtain ⟨r_1, σ_2, hc_3, h⟩ := bdI_ex h
  refine g_ci (g_runS (rest := []) C hH hl.1 cS_X12_310 (kX12_in l D ad κ hc_3) ⟨rfl, rfl⟩ ⟨(Nat.le_of_ble_eq_true rfl), (Nat.le_of_ble_eq_true rfl)⟩ rfl rfl (Nat.le_of_ble_eq_true rfl) dX12_isMatter_3 z00) hH (fun H locs hH => ?_)
  obtain ⟨hb_4, h⟩ := gd_ex h
  exact g_retZ C hH hb_4 h dX12_isMatter_6
-- X12_canBe
def FX12_canBe_30 (k2 : Int32 → Int32 → HS → Option (Int32 × HS)) (x1 : Int32) (x2 : Int32) (y0 : Int32) (y1 : Int32) (σ : HS) : Option (Int32 × HS) :=
  if y0 = y1 then some ((0 : Int32), σ) else k2 x1 (x2 + 1) σ
def FX12_canBe_2  : Nat → Int32 → Int32 → HS → Option (Int32 × HS)
  | 0, _, _, _ => none
  | f + 1, x1, x2, σ => bdI (FX12_many σ) fun r_2 σ_3 => if r_2 ≤ x2 then some ((1 : Int32), σ_3) else gd (ix x2 10) (if ((x1 >>> (x2 &&& 31)) &&& (1 : Int32)) = (1 : Int32) then FX12_canBe_30 (FX12_canBe_2  f) x1 x2 (σ_3.1 34 (x2.toNatClampNeg)) (0 : Int32) σ_3 else FX12_canBe_30 (FX12_canBe_2  f) x1 x2 (σ_3.1 34 (x2.toNatClampNeg)) (4 : Int32) σ_3)
def FX12_canBe (x1 : Int32) (σ : HS) : Option (Int32 × HS) :=
  FX12_canBe_2 fu x1 (0 : Int32) σ
set_option maxHeartbeats 4000000 in
set_option maxRecDepth 100000 in
theorem wX12_canBe_30 (C : Cx 45 D ad κ p s m args meth c cX12_canBe RX12 3 (some .boolean)) {R : (Int32 × HS)} {k2 : Int32 → Int32 → HS → Option (Int32 × HS)} (K2 : ∀ (x1 : Int32) (x2 : Int32) (σ : HS) (H : Heap) (locs : List Loc) (ls : Array Slot), k2 x1 x2 σ = some R → Hd 45 ceM D ad κ s σ H locs → lv_has ls 3 [(0, .ref (ad 0)), (1, .int x1), (2, .int x2)] → W p l e ({ frames := 1, cells := 0, slots := 0, locals := 20 } : Room) s m args below meth c H locs 0 0 (MQ below (QI 45 ceM D ad κ R) args s 0 0 (AX 45 ad)) (F0 m 2 ls [])) : ∀ (x1 : Int32) (x2 : Int32) (y0 : Int32) (y1 : Int32) (σ : HS) (H : Heap) (locs : List Loc) (ls : Array Slot), FX12_canBe_30 k2 x1 x2 y0 y1 σ = some R → Hd 45 ceM D ad κ s σ H locs → lv_has ls 3 [(0, .ref (ad 0)), (1, .int x1), (2, .int x2)] → W p l e ({ frames := 1, cells := 0, slots := 0, locals := 20 } : Room) s m args below meth c H locs 0 0 (MQ below (QI 45 ceM D ad κ R) args s 0 0 (AX 45 ad)) (F0 m 30 ls [.int y1, .int y0]) := by
  have hx := C.1
  have hb := C.2.1
  have hown := C.2.2.2.1
  have hts := C.2.2.2.2.1
  intro x1 x2 y0 y1 σ H locs ls h hH hl
  rw [FX12_canBe_30] at h
  refine lv_icmp_ne (tgt := 35) hx hb dX12_canBe_30 (by decide) (fun hq_1 => ?_) (fun hq_1 => ?_)
  · rw [if_neg hq_1] at h
    refine lv_iinc (v := (x2 + 1)) (lv' := [(2, .int (x2 + 1)), (0, .ref (ad 0)), (1, .int x1)]) hx hb dX12_canBe_35 hl (k := 2) rfl rfl (by decide) rfl (fun ls hl => ?_)
    refine lv_goto (tgt := 2) hx hb dX12_canBe_38 (by decide) ?_
    exact K2 _ _ _ _ _ _ h hH (lv_sub hl [1, 2, 0] rfl)
  · rw [if_pos hq_1] at h
    refine lv_iconst (v := 0) hx hb dX12_canBe_33 (by decide) ?_
    exact g_retZ C hH rfl h dX12_canBe_34
set_option maxHeartbeats 4000000 in
set_option maxRecDepth 100000 in
theorem wX12_canBe_2 (C : Cx 45 D ad κ p s m args meth c cX12_canBe RX12 3 (some .boolean)) {R : (Int32 × HS)} : ∀ (f : Nat) (x1 : Int32) (x2 : Int32) (σ : HS) (H : Heap) (locs : List Loc) (ls : Array Slot), FX12_canBe_2  f x1 x2 σ = some R → Hd 45 ceM D ad κ s σ H locs → lv_has ls 3 [(0, .ref (ad 0)), (1, .int x1), (2, .int x2)] → W p l e ({ frames := 1, cells := 0, slots := 0, locals := 20 } : Room) s m args below meth c H locs 0 0 (MQ below (QI 45 ceM D ad κ R) args s 0 0 (AX 45 ad)) (F0 m 2 ls []) := by
  have hx := C.1
  have hb := C.2.1
  have hown := C.2.2.2.1
  have hts := C.2.2.2.2.1
  intro f
  induction f with
  | zero =>
    intro x1 x2 σ H locs ls h hH hl
    cases h
  | succ f ih =>
    intro x1 x2 σ H locs ls h hH hl
    rw [FX12_canBe_2] at h
    refine lv_iload_n hx hb dX12_canBe_2 rfl (lv_at hl 2 rfl) ?_
    refine lv_aload_n hx hb dX12_canBe_3 rfl (lv_at hl 0 rfl) ?_
    obtain ⟨r_2, σ_3, hc_4, h⟩ := bdI_ex h
    refine g_ci (g_runV (rest := [.int x2]) C hH hl.1 cV_X12_306 0 (Nat.le_of_ble_eq_true rfl) rfl rfl (kX12_many l D ad κ hc_4) ⟨rfl, rfl⟩ ⟨(Nat.le_of_ble_eq_true rfl), (Nat.le_of_ble_eq_true rfl)⟩ rfl rfl (Nat.le_of_ble_eq_true rfl) dX12_canBe_4 z00) hH (fun H locs hH => ?_)
    refine lv_icmp_ge (tgt := 41) hx hb dX12_canBe_7 (by decide) (fun hq_5 => ?_) (fun hq_5 => ?_)
    · rw [if_pos hq_5] at h
      refine lv_iconst (v := 1) hx hb dX12_canBe_41 (by decide) ?_
      exact g_retZ C hH rfl h dX12_canBe_42
    · rw [if_neg hq_5] at h
      refine lv_aload_n hx hb dX12_canBe_10 rfl (lv_at hl 0 rfl) ?_
      refine g_get C hH 0 (Nat.le_of_ble_eq_true rfl) rfl fl_X12_119 (v := .ref (ad 34)) rfl dX12_canBe_11 ?_
      refine lv_iload_n hx hb dX12_canBe_14 rfl (lv_at hl 2 rfl) ?_
      obtain ⟨hi_6, h⟩ := gd_ex h
      refine g_iald C hH 34 (Nat.le_of_ble_eq_true rfl) rfl (k := (x2.toNatClampNeg)) rfl (ix_in hi_6) dX12_canBe_15 ?_
      refine lv_iload_n hx hb dX12_canBe_16 rfl (lv_at hl 1 rfl) ?_
      refine lv_iload_n hx hb dX12_canBe_17 rfl (lv_at hl 2 rfl) ?_
      refine lv_ishr hx hb dX12_canBe_18 ?_
      refine lv_iconst (v := 1) hx hb dX12_canBe_19 (by decide) ?_
      refine lv_iand hx hb dX12_canBe_20 ?_
      refine lv_iconst (v := 1) hx hb dX12_canBe_21 (by decide) ?_
      refine lv_icmp_ne (tgt := 29) hx hb dX12_canBe_22 (by decide) (fun hq_7 => ?_) (fun hq_7 => ?_)
      · rw [if_neg hq_7] at h
        refine lv_iconst (v := 4) hx hb dX12_canBe_29 (by decide) ?_
        exact wX12_canBe_30 C ih  _ _ _ _ _ _ _ _ h hH (lv_sub hl [0, 1, 2] rfl)
      · rw [if_pos hq_7] at h
        refine lv_iconst (v := 0) hx hb dX12_canBe_25 (by decide) ?_
        refine lv_goto (tgt := 30) hx hb dX12_canBe_26 (by decide) ?_
        exact wX12_canBe_30 C ih  _ _ _ _ _ _ _ _ h hH (lv_sub hl [0, 1, 2] rfl)
set_option maxHeartbeats 4000000 in
set_option maxRecDepth 100000 in
theorem kX12_canBe (l : Launch) (D : va_G) (ad : Nat → Nat) (κ : KC) {x1 : Int32} {σ : HS} {R : (Int32 × HS)} (h : FX12_canBe x1 σ = some R) : MtI l 45 ceM D ad κ yX12_canBe cX12_canBe 3 (some .boolean) ({ frames := 1, cells := 0, slots := 0, locals := 20 } : Room) [.ref (ad 0), .int x1] σ R := by
  refine open_ (by decide) (Nat.le_of_ble_eq_true rfl) (la := [(0, .ref (ad 0)), (1, .int x1)]) rfl ?_
  intro p e s m below meth c ls C hH hl
  replace C : Cx 45 D ad κ p s m _ meth c cX12_canBe RX12 3 (some .boolean) := C
  have hx := C.1
  have hb := C.2.1
  have hown := C.2.2.2.1
  have hts := C.2.2.2.2.1
  rw [FX12_canBe] at h
  refine lv_iconst (v := 0) hx hb dX12_canBe_0 (by decide) ?_
  refine lv_istore_n (lv' := [(2, .int (0 : Int32)), (0, .ref (ad 0)), (1, .int x1)]) hx hb dX12_canBe_1 rfl hl (by decide) rfl (fun ls hl => ?_)
  exact wX12_canBe_2 C _ _ _ _ _ _ _ h hH (lv_sub hl [1, 2, 0] rfl)
-- X12_partsOn
def FX12_partsOn_5  : Nat → Int32 → Int32 → Int32 → Int32 → HS → Option (Int32 × HS)
  | 0, _, _, _, _, _ => none
  | f + 1, x1, x2, x3, x4, σ => bdI (FX12_many σ) fun r_1 σ_2 => if r_1 ≤ x4 then some (x3, σ_2) else gd (ix x4 33) (if (σ_2.1 32 (x4.toNatClampNeg)) = x1 then bdI (FX12_partBy x2 x4 σ_2) fun r_7 σ_8 => hl_ (x3 ||| ((1 : Int32) <<< (r_7 &&& 31))) fun x3_10 => FX12_partsOn_5  f x1 x2 x3_10 (x4 + 1) σ_8 else FX12_partsOn_5  f x1 x2 x3 (x4 + 1) σ_2)
def FX12_partsOn (x1 : Int32) (x2 : Int32) (σ : HS) : Option (Int32 × HS) :=
  FX12_partsOn_5 fu x1 x2 (0 : Int32) (0 : Int32) σ
set_option maxHeartbeats 4000000 in
set_option maxRecDepth 100000 in
theorem wX12_partsOn_5 (C : Cx 45 D ad κ p s m args meth c cX12_partsOn RX12 5 (some .int)) {R : (Int32 × HS)} : ∀ (f : Nat) (x1 : Int32) (x2 : Int32) (x3 : Int32) (x4 : Int32) (σ : HS) (H : Heap) (locs : List Loc) (ls : Array Slot), FX12_partsOn_5  f x1 x2 x3 x4 σ = some R → Hd 45 ceM D ad κ s σ H locs → lv_has ls 5 [(0, .ref (ad 0)), (1, .int x1), (2, .int x2), (3, .int x3), (4, .int x4)] → W p l e ({ frames := 1, cells := 0, slots := 0, locals := 23 } : Room) s m args below meth c H locs 0 0 (MQ below (QI 45 ceM D ad κ R) args s 0 0 (AX 45 ad)) (F0 m 5 ls []) := by
  have hx := C.1
  have hb := C.2.1
  have hown := C.2.2.2.1
  have hts := C.2.2.2.2.1
  intro f
  induction f with
  | zero =>
    intro x1 x2 x3 x4 σ H locs ls h hH hl
    cases h
  | succ f ih =>
    intro x1 x2 x3 x4 σ H locs ls h hH hl
    rw [FX12_partsOn_5] at h
    refine lv_iload hx hb dX12_partsOn_5 (lv_at hl 4 rfl) ?_
    refine lv_aload_n hx hb dX12_partsOn_7 rfl (lv_at hl 0 rfl) ?_
    obtain ⟨r_1, σ_2, hc_3, h⟩ := bdI_ex h
    refine g_ci (g_runV (rest := [.int x4]) C hH hl.1 cV_X12_306 0 (Nat.le_of_ble_eq_true rfl) rfl rfl (kX12_many l D ad κ hc_3) ⟨rfl, rfl⟩ ⟨(Nat.le_of_ble_eq_true rfl), (Nat.le_of_ble_eq_true rfl)⟩ rfl rfl (Nat.le_of_ble_eq_true rfl) dX12_partsOn_8 z00) hH (fun H locs hH => ?_)
    refine lv_icmp_ge (tgt := 42) hx hb dX12_partsOn_11 (by decide) (fun hq_4 => ?_) (fun hq_4 => ?_)
    · rw [if_pos hq_4] at h
      refine lv_iload_n hx hb dX12_partsOn_42 rfl (lv_at hl 3 rfl) ?_
      exact g_ret C hH h dX12_partsOn_43
    · rw [if_neg hq_4] at h
      refine lv_aload_n hx hb dX12_partsOn_14 rfl (lv_at hl 0 rfl) ?_
      refine g_get C hH 0 (Nat.le_of_ble_eq_true rfl) rfl fl_X12_113 (v := .ref (ad 32)) rfl dX12_partsOn_15 ?_
      refine lv_iload hx hb dX12_partsOn_18 (lv_at hl 4 rfl) ?_
      obtain ⟨hi_5, h⟩ := gd_ex h
      refine g_iald C hH 32 (Nat.le_of_ble_eq_true rfl) rfl (k := (x4.toNatClampNeg)) rfl (ix_in hi_5) dX12_partsOn_20 ?_
      refine lv_iload_n hx hb dX12_partsOn_21 rfl (lv_at hl 1 rfl) ?_
      refine lv_icmp_ne (tgt := 36) hx hb dX12_partsOn_22 (by decide) (fun hq_6 => ?_) (fun hq_6 => ?_)
      · rw [if_neg hq_6] at h
        refine lv_iinc (v := (x4 + 1)) (lv' := [(4, .int (x4 + 1)), (0, .ref (ad 0)), (1, .int x1), (2, .int x2), (3, .int x3)]) hx hb dX12_partsOn_36 hl (k := 4) rfl rfl (by decide) rfl (fun ls hl => ?_)
        refine lv_goto (tgt := 5) hx hb dX12_partsOn_39 (by decide) ?_
        exact ih _ _ _ _ _ _ _ _ h hH (lv_sub hl [1, 2, 3, 4, 0] rfl)
      · rw [if_pos hq_6] at h
        refine lv_iload_n hx hb dX12_partsOn_25 rfl (lv_at hl 3 rfl) ?_
        refine lv_iconst (v := 1) hx hb dX12_partsOn_26 (by decide) ?_
        refine lv_iload_n hx hb dX12_partsOn_27 rfl (lv_at hl 2 rfl) ?_
        refine lv_iload hx hb dX12_partsOn_28 (lv_at hl 4 rfl) ?_
        obtain ⟨r_7, σ_8, hc_9, h⟩ := bdI_ex h
        refine g_ci (g_runS (rest := [.int (1 : Int32), .int x3]) C hH hl.1 cS_X12_342 (kX12_partBy l D ad κ hc_9) ⟨rfl, rfl⟩ ⟨(Nat.le_of_ble_eq_true rfl), (Nat.le_of_ble_eq_true rfl)⟩ rfl rfl (Nat.le_of_ble_eq_true rfl) dX12_partsOn_30 z00) hH (fun H locs hH => ?_)
        refine lv_ishl hx hb dX12_partsOn_33 ?_
        refine lv_ior hx hb dX12_partsOn_34 ?_
        obtain ⟨x3_10, ex3_10, h⟩ := hl_ex h
        refine lv_eqi ex3_10 ?_
        refine lv_istore_n (lv' := [(3, .int x3_10), (0, .ref (ad 0)), (1, .int x1), (2, .int x2), (4, .int x4)]) hx hb dX12_partsOn_35 rfl hl (by decide) rfl (fun ls hl => ?_)
        refine lv_iinc (v := (x4 + 1)) (lv' := [(4, .int (x4 + 1)), (3, .int x3_10), (0, .ref (ad 0)), (1, .int x1), (2, .int x2)]) hx hb dX12_partsOn_36 hl (k := 4) rfl rfl (by decide) rfl (fun ls hl => ?_)
        refine lv_goto (tgt := 5) hx hb dX12_partsOn_39 (by decide) ?_
        exact ih _ _ _ _ _ _ _ _ h hH (lv_sub hl [2, 3, 4, 1, 0] rfl)
set_option maxHeartbeats 4000000 in
set_option maxRecDepth 100000 in
theorem kX12_partsOn (l : Launch) (D : va_G) (ad : Nat → Nat) (κ : KC) {x1 : Int32} {x2 : Int32} {σ : HS} {R : (Int32 × HS)} (h : FX12_partsOn x1 x2 σ = some R) : MtI l 45 ceM D ad κ yX12_partsOn cX12_partsOn 5 (some .int) ({ frames := 1, cells := 0, slots := 0, locals := 23 } : Room) [.ref (ad 0), .int x1, .int x2] σ R := by
  refine open_ (by decide) (Nat.le_of_ble_eq_true rfl) (la := [(0, .ref (ad 0)), (1, .int x1), (2, .int x2)]) rfl ?_
  intro p e s m below meth c ls C hH hl
  replace C : Cx 45 D ad κ p s m _ meth c cX12_partsOn RX12 5 (some .int) := C
  have hx := C.1
  have hb := C.2.1
  have hown := C.2.2.2.1
  have hts := C.2.2.2.2.1
  rw [FX12_partsOn] at h
  refine lv_iconst (v := 0) hx hb dX12_partsOn_0 (by decide) ?_
  refine lv_istore_n (lv' := [(3, .int (0 : Int32)), (0, .ref (ad 0)), (1, .int x1), (2, .int x2)]) hx hb dX12_partsOn_1 rfl hl (by decide) rfl (fun ls hl => ?_)
  refine lv_iconst (v := 0) hx hb dX12_partsOn_2 (by decide) ?_
  refine lv_istore (lv' := [(4, .int (0 : Int32)), (3, .int (0 : Int32)), (0, .ref (ad 0)), (1, .int x1), (2, .int x2)]) hx hb dX12_partsOn_3 hl (by decide) rfl (fun ls hl => ?_)
  exact wX12_partsOn_5 C _ _ _ _ _ _ _ _ _ h hH (lv_sub hl [2, 3, 4, 1, 0] rfl)
-- X12_fillsHits
def FX12_fillsHits_6  : Nat → Int32 → Int32 → HS → Option HS
  | 0, _, _, _ => none
  | f + 1, x1, x2, σ => bdI (FX12_many σ) fun r_1 σ_2 => if ((1 : Int32) <<< (r_1 &&& 31)) ≤ x2 then some σ_2 else bdI (FX12_canBe x2 σ_2) fun r_5 σ_6 => if r_5 = 0 then gd (ix x2 1024) (hl_ (pI σ_6 38 (x2.toNatClampNeg) (-1 : Int32)) fun σ_10 => FX12_fillsHits_6  f x1 (x2 + 1) σ_10) else bdI (FX12_partsOn x1 x2 σ_6) fun r_11 σ_12 => gd (ix x2 1024) (hl_ (pI σ_12 38 (x2.toNatClampNeg) r_11) fun σ_15 => FX12_fillsHits_6  f x1 (x2 + 1) σ_15)
def FX12_fillsHits (x1 : Int32) (σ : HS) : Option HS :=
  bdV (FX12_copiesFalls σ) fun σ_16 => FX12_fillsHits_6 fu x1 (0 : Int32) σ_16
set_option maxHeartbeats 4000000 in
set_option maxRecDepth 100000 in
theorem wX12_fillsHits_6 (C : Cx 45 D ad κ p s m args meth c cX12_fillsHits RX12 3 none) {R : HS} : ∀ (f : Nat) (x1 : Int32) (x2 : Int32) (σ : HS) (H : Heap) (locs : List Loc) (ls : Array Slot), FX12_fillsHits_6  f x1 x2 σ = some R → Hd 45 ceM D ad κ s σ H locs → lv_has ls 3 [(0, .ref (ad 0)), (1, .int x1), (2, .int x2)] → W p l e ({ frames := 5, cells := 0, slots := 0, locals := 117 } : Room) s m args below meth c H locs 0 0 (MQ below (QV 45 ceM D ad κ R) args s 0 0 (AX 45 ad)) (F0 m 6 ls []) := by
  have hx := C.1
  have hb := C.2.1
  have hown := C.2.2.2.1
  have hts := C.2.2.2.2.1
  intro f
  induction f with
  | zero =>
    intro x1 x2 σ H locs ls h hH hl
    cases h
  | succ f ih =>
    intro x1 x2 σ H locs ls h hH hl
    rw [FX12_fillsHits_6] at h
    refine lv_iload_n hx hb dX12_fillsHits_6 rfl (lv_at hl 2 rfl) ?_
    refine lv_iconst (v := 1) hx hb dX12_fillsHits_7 (by decide) ?_
    refine lv_aload_n hx hb dX12_fillsHits_8 rfl (lv_at hl 0 rfl) ?_
    obtain ⟨r_1, σ_2, hc_3, h⟩ := bdI_ex h
    refine g_ci (g_runV (rest := [.int (1 : Int32), .int x2]) C hH hl.1 cV_X12_306 0 (Nat.le_of_ble_eq_true rfl) rfl rfl (kX12_many l D ad κ hc_3) ⟨rfl, rfl⟩ ⟨(Nat.le_of_ble_eq_true rfl), (Nat.le_of_ble_eq_true rfl)⟩ rfl rfl (Nat.le_of_ble_eq_true rfl) dX12_fillsHits_9 z00) hH (fun H locs hH => ?_)
    refine lv_ishl hx hb dX12_fillsHits_12 ?_
    refine lv_icmp_ge (tgt := 46) hx hb dX12_fillsHits_13 (by decide) (fun hq_4 => ?_) (fun hq_4 => ?_)
    · rw [if_pos hq_4] at h
      exact g_retV C hH h dX12_fillsHits_46
    · rw [if_neg hq_4] at h
      refine lv_aload_n hx hb dX12_fillsHits_16 rfl (lv_at hl 0 rfl) ?_
      refine g_get C hH 0 (Nat.le_of_ble_eq_true rfl) rfl fl_X12_131 (v := .ref (ad 38)) rfl dX12_fillsHits_17 ?_
      refine lv_iload_n hx hb dX12_fillsHits_20 rfl (lv_at hl 2 rfl) ?_
      refine lv_aload_n hx hb dX12_fillsHits_21 rfl (lv_at hl 0 rfl) ?_
      refine lv_iload_n hx hb dX12_fillsHits_22 rfl (lv_at hl 2 rfl) ?_
      obtain ⟨r_5, σ_6, hc_7, h⟩ := bdI_ex h
      refine g_ci (g_runV (rest := [.int x2, .ref (ad 38)]) C hH hl.1 cV_X12_431 0 (Nat.le_of_ble_eq_true rfl) rfl rfl (kX12_canBe l D ad κ hc_7) ⟨rfl, rfl⟩ ⟨(Nat.le_of_ble_eq_true rfl), (Nat.le_of_ble_eq_true rfl)⟩ rfl rfl (Nat.le_of_ble_eq_true rfl) dX12_fillsHits_23 z00) hH (fun H locs hH => ?_)
      refine lv_if_eq (tgt := 38) hx hb dX12_fillsHits_26 (by decide) (fun hq_8 => ?_) (fun hq_8 => ?_)
      · rw [if_pos hq_8] at h
        refine lv_iconst (v := (-1)) hx hb dX12_fillsHits_38 (by decide) ?_
        obtain ⟨hi_9, h⟩ := gd_ex h
        obtain ⟨σ_10, eσ_10, h⟩ := hl_ex h
        refine g_iast C hH 38 (Nat.le_of_ble_eq_true rfl) (fun _ _ => rfl) (k := (x2.toNatClampNeg)) rfl (ix_in hi_9) dX12_fillsHits_39 (fun H locs hH => ?_)
        rw [← eσ_10] at hH
        refine lv_iinc (v := (x2 + 1)) (lv' := [(2, .int (x2 + 1)), (0, .ref (ad 0)), (1, .int x1)]) hx hb dX12_fillsHits_40 hl (k := 2) rfl rfl (by decide) rfl (fun ls hl => ?_)
        refine lv_goto (tgt := 6) hx hb dX12_fillsHits_43 (by decide) ?_
        exact ih _ _ _ _ _ _ h hH (lv_sub hl [1, 2, 0] rfl)
      · rw [if_neg hq_8] at h
        refine lv_aload_n hx hb dX12_fillsHits_29 rfl (lv_at hl 0 rfl) ?_
        refine lv_iload_n hx hb dX12_fillsHits_30 rfl (lv_at hl 1 rfl) ?_
        refine lv_iload_n hx hb dX12_fillsHits_31 rfl (lv_at hl 2 rfl) ?_
        obtain ⟨r_11, σ_12, hc_13, h⟩ := bdI_ex h
        refine g_ci (g_runV (rest := [.int x2, .ref (ad 38)]) C hH hl.1 cV_X12_434 0 (Nat.le_of_ble_eq_true rfl) rfl rfl (kX12_partsOn l D ad κ hc_13) ⟨rfl, rfl⟩ ⟨(Nat.le_of_ble_eq_true rfl), (Nat.le_of_ble_eq_true rfl)⟩ rfl rfl (Nat.le_of_ble_eq_true rfl) dX12_fillsHits_32 z00) hH (fun H locs hH => ?_)
        refine lv_goto (tgt := 39) hx hb dX12_fillsHits_35 (by decide) ?_
        obtain ⟨hi_14, h⟩ := gd_ex h
        obtain ⟨σ_15, eσ_15, h⟩ := hl_ex h
        refine g_iast C hH 38 (Nat.le_of_ble_eq_true rfl) (fun _ _ => rfl) (k := (x2.toNatClampNeg)) rfl (ix_in hi_14) dX12_fillsHits_39 (fun H locs hH => ?_)
        rw [← eσ_15] at hH
        refine lv_iinc (v := (x2 + 1)) (lv' := [(2, .int (x2 + 1)), (0, .ref (ad 0)), (1, .int x1)]) hx hb dX12_fillsHits_40 hl (k := 2) rfl rfl (by decide) rfl (fun ls hl => ?_)
        refine lv_goto (tgt := 6) hx hb dX12_fillsHits_43 (by decide) ?_
        exact ih _ _ _ _ _ _ h hH (lv_sub hl [1, 2, 0] rfl)
set_option maxHeartbeats 4000000 in
set_option maxRecDepth 100000 in
theorem kX12_fillsHits (l : Launch) (D : va_G) (ad : Nat → Nat) (κ : KC) {x1 : Int32} {σ : HS} {R : HS} (h : FX12_fillsHits x1 σ = some R) : MtV l 45 ceM D ad κ yX12_fillsHits cX12_fillsHits 3 none ({ frames := 5, cells := 0, slots := 0, locals := 117 } : Room) [.ref (ad 0), .int x1] σ R := by
  refine open_ (by decide) (Nat.le_of_ble_eq_true rfl) (la := [(0, .ref (ad 0)), (1, .int x1)]) rfl ?_
  intro p e s m below meth c ls C hH hl
  replace C : Cx 45 D ad κ p s m _ meth c cX12_fillsHits RX12 3 none := C
  have hx := C.1
  have hb := C.2.1
  have hown := C.2.2.2.1
  have hts := C.2.2.2.2.1
  rw [FX12_fillsHits] at h
  refine lv_aload_n hx hb dX12_fillsHits_0 rfl (lv_at hl 0 rfl) ?_
  obtain ⟨σ_16, hc_17, h⟩ := bdV_ex h
  refine g_cv (g_runV (rest := []) C hH hl.1 cV_X12_406 0 (Nat.le_of_ble_eq_true rfl) rfl rfl (kX12_copiesFalls l D ad κ hc_17) ⟨rfl, rfl⟩ ⟨(Nat.le_of_ble_eq_true rfl), (Nat.le_of_ble_eq_true rfl)⟩ rfl rfl (Nat.le_of_ble_eq_true rfl) dX12_fillsHits_1 z00) hH (fun H locs hH => ?_)
  refine lv_iconst (v := 0) hx hb dX12_fillsHits_4 (by decide) ?_
  refine lv_istore_n (lv' := [(2, .int (0 : Int32)), (0, .ref (ad 0)), (1, .int x1)]) hx hb dX12_fillsHits_5 rfl hl (by decide) rfl (fun ls hl => ?_)
  exact wX12_fillsHits_6 C _ _ _ _ _ _ _ h hH (lv_sub hl [1, 2, 0] rfl)
-- X12_isIn
def FX12_isIn_2  : Nat → Int32 → Int32 → HS → Option (Int32 × HS)
  | 0, _, _, _ => none
  | f + 1, x1, x2, σ => bdI (FX12_many σ) fun r_1 σ_2 => if ((1 : Int32) <<< (r_1 &&& 31)) ≤ x2 then some ((1 : Int32), σ_2) else gd (ix x2 1024) (if (σ_2.1 38 (x2.toNatClampNeg)) < 0 then FX12_isIn_2  f x1 (x2 + 1) σ_2 else gd (ix x2 1024) (if ((σ_2.1 38 (x2.toNatClampNeg)) &&& x1) = 0 then some ((0 : Int32), σ_2) else FX12_isIn_2  f x1 (x2 + 1) σ_2))
def FX12_isIn (x1 : Int32) (σ : HS) : Option (Int32 × HS) :=
  FX12_isIn_2 fu x1 (0 : Int32) σ
set_option maxHeartbeats 4000000 in
set_option maxRecDepth 100000 in
theorem wX12_isIn_2 (C : Cx 45 D ad κ p s m args meth c cX12_isIn RX12 3 (some .boolean)) {R : (Int32 × HS)} : ∀ (f : Nat) (x1 : Int32) (x2 : Int32) (σ : HS) (H : Heap) (locs : List Loc) (ls : Array Slot), FX12_isIn_2  f x1 x2 σ = some R → Hd 45 ceM D ad κ s σ H locs → lv_has ls 3 [(0, .ref (ad 0)), (1, .int x1), (2, .int x2)] → W p l e ({ frames := 1, cells := 0, slots := 0, locals := 20 } : Room) s m args below meth c H locs 0 0 (MQ below (QI 45 ceM D ad κ R) args s 0 0 (AX 45 ad)) (F0 m 2 ls []) := by
  have hx := C.1
  have hb := C.2.1
  have hown := C.2.2.2.1
  have hts := C.2.2.2.2.1
  intro f
  induction f with
  | zero =>
    intro x1 x2 σ H locs ls h hH hl
    cases h
  | succ f ih =>
    intro x1 x2 σ H locs ls h hH hl
    rw [FX12_isIn_2] at h
    refine lv_iload_n hx hb dX12_isIn_2 rfl (lv_at hl 2 rfl) ?_
    refine lv_iconst (v := 1) hx hb dX12_isIn_3 (by decide) ?_
    refine lv_aload_n hx hb dX12_isIn_4 rfl (lv_at hl 0 rfl) ?_
    obtain ⟨r_1, σ_2, hc_3, h⟩ := bdI_ex h
    refine g_ci (g_runV (rest := [.int (1 : Int32), .int x2]) C hH hl.1 cV_X12_306 0 (Nat.le_of_ble_eq_true rfl) rfl rfl (kX12_many l D ad κ hc_3) ⟨rfl, rfl⟩ ⟨(Nat.le_of_ble_eq_true rfl), (Nat.le_of_ble_eq_true rfl)⟩ rfl rfl (Nat.le_of_ble_eq_true rfl) dX12_isIn_5 z00) hH (fun H locs hH => ?_)
    refine lv_ishl hx hb dX12_isIn_8 ?_
    refine lv_icmp_ge (tgt := 40) hx hb dX12_isIn_9 (by decide) (fun hq_4 => ?_) (fun hq_4 => ?_)
    · rw [if_pos hq_4] at h
      refine lv_iconst (v := 1) hx hb dX12_isIn_40 (by decide) ?_
      exact g_retZ C hH rfl h dX12_isIn_41
    · rw [if_neg hq_4] at h
      refine lv_aload_n hx hb dX12_isIn_12 rfl (lv_at hl 0 rfl) ?_
      refine g_get C hH 0 (Nat.le_of_ble_eq_true rfl) rfl fl_X12_131 (v := .ref (ad 38)) rfl dX12_isIn_13 ?_
      refine lv_iload_n hx hb dX12_isIn_16 rfl (lv_at hl 2 rfl) ?_
      obtain ⟨hi_5, h⟩ := gd_ex h
      refine g_iald C hH 38 (Nat.le_of_ble_eq_true rfl) rfl (k := (x2.toNatClampNeg)) rfl (ix_in hi_5) dX12_isIn_17 ?_
      refine lv_if_lt (tgt := 34) hx hb dX12_isIn_18 (by decide) (fun hq_6 => ?_) (fun hq_6 => ?_)
      · rw [if_pos hq_6] at h
        refine lv_iinc (v := (x2 + 1)) (lv' := [(2, .int (x2 + 1)), (0, .ref (ad 0)), (1, .int x1)]) hx hb dX12_isIn_34 hl (k := 2) rfl rfl (by decide) rfl (fun ls hl => ?_)
        refine lv_goto (tgt := 2) hx hb dX12_isIn_37 (by decide) ?_
        exact ih _ _ _ _ _ _ h hH (lv_sub hl [1, 2, 0] rfl)
      · rw [if_neg hq_6] at h
        refine lv_aload_n hx hb dX12_isIn_21 rfl (lv_at hl 0 rfl) ?_
        refine g_get C hH 0 (Nat.le_of_ble_eq_true rfl) rfl fl_X12_131 (v := .ref (ad 38)) rfl dX12_isIn_22 ?_
        refine lv_iload_n hx hb dX12_isIn_25 rfl (lv_at hl 2 rfl) ?_
        obtain ⟨hi_7, h⟩ := gd_ex h
        refine g_iald C hH 38 (Nat.le_of_ble_eq_true rfl) rfl (k := (x2.toNatClampNeg)) rfl (ix_in hi_7) dX12_isIn_26 ?_
        refine lv_iload_n hx hb dX12_isIn_27 rfl (lv_at hl 1 rfl) ?_
        refine lv_iand hx hb dX12_isIn_28 ?_
        refine lv_if_ne (tgt := 34) hx hb dX12_isIn_29 (by decide) (fun hq_8 => ?_) (fun hq_8 => ?_)
        · rw [if_neg hq_8] at h
          refine lv_iinc (v := (x2 + 1)) (lv' := [(2, .int (x2 + 1)), (0, .ref (ad 0)), (1, .int x1)]) hx hb dX12_isIn_34 hl (k := 2) rfl rfl (by decide) rfl (fun ls hl => ?_)
          refine lv_goto (tgt := 2) hx hb dX12_isIn_37 (by decide) ?_
          exact ih _ _ _ _ _ _ h hH (lv_sub hl [1, 2, 0] rfl)
        · rw [if_pos hq_8] at h
          refine lv_iconst (v := 0) hx hb dX12_isIn_32 (by decide) ?_
          exact g_retZ C hH rfl h dX12_isIn_33
set_option maxHeartbeats 4000000 in
set_option maxRecDepth 100000 in
theorem kX12_isIn (l : Launch) (D : va_G) (ad : Nat → Nat) (κ : KC) {x1 : Int32} {σ : HS} {R : (Int32 × HS)} (h : FX12_isIn x1 σ = some R) : MtI l 45 ceM D ad κ yX12_isIn cX12_isIn 3 (some .boolean) ({ frames := 1, cells := 0, slots := 0, locals := 20 } : Room) [.ref (ad 0), .int x1] σ R := by
  refine open_ (by decide) (Nat.le_of_ble_eq_true rfl) (la := [(0, .ref (ad 0)), (1, .int x1)]) rfl ?_
  intro p e s m below meth c ls C hH hl
  replace C : Cx 45 D ad κ p s m _ meth c cX12_isIn RX12 3 (some .boolean) := C
  have hx := C.1
  have hb := C.2.1
  have hown := C.2.2.2.1
  have hts := C.2.2.2.2.1
  rw [FX12_isIn] at h
  refine lv_iconst (v := 0) hx hb dX12_isIn_0 (by decide) ?_
  refine lv_istore_n (lv' := [(2, .int (0 : Int32)), (0, .ref (ad 0)), (1, .int x1)]) hx hb dX12_isIn_1 rfl hl (by decide) rfl (fun ls hl => ?_)
  exact wX12_isIn_2 C _ _ _ _ _ _ _ h hH (lv_sub hl [1, 2, 0] rfl)
-- X12_sure
def FX12_sure (x1 : Int32) (x2 : Int32) (σ : HS) : Option (Int32 × HS) :=
  bdI (FX12_isFamily x1 σ) fun r_1 σ_2 => if r_1 = 0 then some ((-1 : Int32), σ_2) else bdI (FX12_isMatter x2 σ_2) fun r_5 σ_6 => if r_5 = 0 then some ((-1 : Int32), σ_6) else bdV (FX12_fillsHits x2 σ_6) fun σ_9 => bdI (FX12_partBits x1 σ_9) fun r_11 σ_12 => bdI (FX12_isIn r_11 σ_12) fun r_14 σ_15 => if r_14 = 0 then some ((0 : Int32), σ_15) else some ((1 : Int32), σ_15)
set_option maxHeartbeats 4000000 in
set_option maxRecDepth 100000 in
theorem kX12_sure (l : Launch) (D : va_G) (ad : Nat → Nat) (κ : KC) {x1 : Int32} {x2 : Int32} {σ : HS} {R : (Int32 × HS)} (h : FX12_sure x1 x2 σ = some R) : MtI l 45 ceM D ad κ yX12_sure cX12_sure 3 (some .int) ({ frames := 6, cells := 0, slots := 0, locals := 139 } : Room) [.ref (ad 0), .int x1, .int x2] σ R := by
  refine open_ (by decide) (Nat.le_of_ble_eq_true rfl) (la := [(0, .ref (ad 0)), (1, .int x1), (2, .int x2)]) rfl ?_
  intro p e s m below meth c ls C hH hl
  replace C : Cx 45 D ad κ p s m _ meth c cX12_sure RX12 3 (some .int) := C
  have hx := C.1
  have hb := C.2.1
  have hown := C.2.2.2.1
  have hts := C.2.2.2.2.1
  rw [FX12_sure] at h
  refine lv_aload_n hx hb dX12_sure_0 rfl (lv_at hl 0 rfl) ?_
  refine lv_iload_n hx hb dX12_sure_1 rfl (lv_at hl 1 rfl) ?_
  obtain ⟨r_1, σ_2, hc_3, h⟩ := bdI_ex h
  refine g_ci (g_runV (rest := []) C hH hl.1 cV_X12_372 0 (Nat.le_of_ble_eq_true rfl) rfl rfl (kX12_isFamily l D ad κ hc_3) ⟨rfl, rfl⟩ ⟨(Nat.le_of_ble_eq_true rfl), (Nat.le_of_ble_eq_true rfl)⟩ rfl rfl (Nat.le_of_ble_eq_true rfl) dX12_sure_2 z00) hH (fun H locs hH => ?_)
  refine lv_if_eq (tgt := 15) hx hb dX12_sure_5 (by decide) (fun hq_4 => ?_) (fun hq_4 => ?_)
  · rw [if_pos hq_4] at h
    refine lv_iconst (v := (-1)) hx hb dX12_sure_15 (by decide) ?_
    exact g_ret C hH h dX12_sure_16
  · rw [if_neg hq_4] at h
    refine lv_iload_n hx hb dX12_sure_8 rfl (lv_at hl 2 rfl) ?_
    obtain ⟨r_5, σ_6, hc_7, h⟩ := bdI_ex h
    refine g_ci (g_runS (rest := []) C hH hl.1 cS_X12_437 (kX12_isMatter l D ad κ hc_7) ⟨rfl, rfl⟩ ⟨(Nat.le_of_ble_eq_true rfl), (Nat.le_of_ble_eq_true rfl)⟩ rfl rfl (Nat.le_of_ble_eq_true rfl) dX12_sure_9 z00) hH (fun H locs hH => ?_)
    refine lv_if_ne (tgt := 17) hx hb dX12_sure_12 (by decide) (fun hq_8 => ?_) (fun hq_8 => ?_)
    · rw [if_neg hq_8] at h
      refine lv_aload_n hx hb dX12_sure_17 rfl (lv_at hl 0 rfl) ?_
      refine lv_iload_n hx hb dX12_sure_18 rfl (lv_at hl 2 rfl) ?_
      obtain ⟨σ_9, hc_10, h⟩ := bdV_ex h
      refine g_cv (g_runV (rest := []) C hH hl.1 cV_X12_440 0 (Nat.le_of_ble_eq_true rfl) rfl rfl (kX12_fillsHits l D ad κ hc_10) ⟨rfl, rfl⟩ ⟨(Nat.le_of_ble_eq_true rfl), (Nat.le_of_ble_eq_true rfl)⟩ rfl rfl (Nat.le_of_ble_eq_true rfl) dX12_sure_19 z00) hH (fun H locs hH => ?_)
      refine lv_aload_n hx hb dX12_sure_22 rfl (lv_at hl 0 rfl) ?_
      refine lv_aload_n hx hb dX12_sure_23 rfl (lv_at hl 0 rfl) ?_
      refine lv_iload_n hx hb dX12_sure_24 rfl (lv_at hl 1 rfl) ?_
      obtain ⟨r_11, σ_12, hc_13, h⟩ := bdI_ex h
      refine g_ci (g_runV (rest := [.ref (ad 0)]) C hH hl.1 cV_X12_336 0 (Nat.le_of_ble_eq_true rfl) rfl rfl (kX12_partBits l D ad κ hc_13) ⟨rfl, rfl⟩ ⟨(Nat.le_of_ble_eq_true rfl), (Nat.le_of_ble_eq_true rfl)⟩ rfl rfl (Nat.le_of_ble_eq_true rfl) dX12_sure_25 z00) hH (fun H locs hH => ?_)
      obtain ⟨r_14, σ_15, hc_16, h⟩ := bdI_ex h
      refine g_ci (g_runV (rest := []) C hH hl.1 cV_X12_443 0 (Nat.le_of_ble_eq_true rfl) rfl rfl (kX12_isIn l D ad κ hc_16) ⟨rfl, rfl⟩ ⟨(Nat.le_of_ble_eq_true rfl), (Nat.le_of_ble_eq_true rfl)⟩ rfl rfl (Nat.le_of_ble_eq_true rfl) dX12_sure_28 z00) hH (fun H locs hH => ?_)
      refine lv_if_eq (tgt := 38) hx hb dX12_sure_31 (by decide) (fun hq_17 => ?_) (fun hq_17 => ?_)
      · rw [if_pos hq_17] at h
        refine lv_iconst (v := 0) hx hb dX12_sure_38 (by decide) ?_
        exact g_ret C hH h dX12_sure_39
      · rw [if_neg hq_17] at h
        refine lv_iconst (v := 1) hx hb dX12_sure_34 (by decide) ?_
        refine lv_goto (tgt := 39) hx hb dX12_sure_35 (by decide) ?_
        exact g_ret C hH h dX12_sure_39
    · rw [if_pos hq_8] at h
      refine lv_iconst (v := (-1)) hx hb dX12_sure_15 (by decide) ?_
      exact g_ret C hH h dX12_sure_16
-- X12_cover
def FX12_cover_53 (k29 : Int32 → Int32 → Int32 → Int32 → HS → Option (Int32 × HS)) (x1 : Int32) (x2 : Int32) (x3 : Int32) (x4 : Int32) (σ : HS) : Option (Int32 × HS) :=
  bdI (FX12_isIn x4 σ) fun r_1 σ_2 => if r_1 = 0 then k29 x1 x2 x3 (x4 + 1) σ_2 else k29 x1 x2 x4 (x4 + 1) σ_2
def FX12_cover_29  : Nat → Int32 → Int32 → Int32 → Int32 → HS → Option (Int32 × HS)
  | 0, _, _, _, _, _ => none
  | f + 1, x1, x2, x3, x4, σ => if (256 : Int32) ≤ x4 then if x3 < 0 then some (x3, σ) else if x2 = (1 : Int32) then some (x3, σ) else bdI (FX12_bits x3 σ) fun r_8 σ_9 => some (r_8, σ_9) else if x3 < 0 then FX12_cover_53 (FX12_cover_29  f) x1 x2 x3 x4 σ else bdI (FX12_bits x4 σ) fun r_12 σ_13 => bdI (FX12_bits x3 σ_13) fun r_15 σ_16 => if r_15 ≤ r_12 then FX12_cover_29  f x1 x2 x3 (x4 + 1) σ_16 else FX12_cover_53 (FX12_cover_29  f) x1 x2 x3 x4 σ_16
def FX12_cover (x1 : Int32) (x2 : Int32) (σ : HS) : Option (Int32 × HS) :=
  bdI (FX12_isMatter x1 σ) fun r_19 σ_20 => if r_19 = 0 then some ((-1 : Int32), σ_20) else bdI (FX12_in x2 (0 : Int32) (1 : Int32) σ_20) fun r_23 σ_24 => if r_23 = 0 then some ((-1 : Int32), σ_24) else bdV (FX12_fillsHits x1 σ_24) fun σ_27 => FX12_cover_29 fu x1 x2 (-2 : Int32) (0 : Int32) σ_27
set_option maxHeartbeats 4000000 in
set_option maxRecDepth 100000 in
theorem wX12_cover_53 (C : Cx 45 D ad κ p s m args meth c cX12_cover RX12 5 (some .int)) {R : (Int32 × HS)} {k29 : Int32 → Int32 → Int32 → Int32 → HS → Option (Int32 × HS)} (K29 : ∀ (x1 : Int32) (x2 : Int32) (x3 : Int32) (x4 : Int32) (σ : HS) (H : Heap) (locs : List Loc) (ls : Array Slot), k29 x1 x2 x3 x4 σ = some R → Hd 45 ceM D ad κ s σ H locs → lv_has ls 5 [(0, .ref (ad 0)), (1, .int x1), (2, .int x2), (3, .int x3), (4, .int x4)] → W p l e ({ frames := 6, cells := 0, slots := 0, locals := 139 } : Room) s m args below meth c H locs 0 0 (MQ below (QI 45 ceM D ad κ R) args s 0 0 (AX 45 ad)) (F0 m 29 ls [])) : ∀ (x1 : Int32) (x2 : Int32) (x3 : Int32) (x4 : Int32) (σ : HS) (H : Heap) (locs : List Loc) (ls : Array Slot), FX12_cover_53 k29 x1 x2 x3 x4 σ = some R → Hd 45 ceM D ad κ s σ H locs → lv_has ls 5 [(0, .ref (ad 0)), (1, .int x1), (2, .int x2), (3, .int x3), (4, .int x4)] → W p l e ({ frames := 6, cells := 0, slots := 0, locals := 139 } : Room) s m args below meth c H locs 0 0 (MQ below (QI 45 ceM D ad κ R) args s 0 0 (AX 45 ad)) (F0 m 53 ls []) := by
  have hx := C.1
  have hb := C.2.1
  have hown := C.2.2.2.1
  have hts := C.2.2.2.2.1
  intro x1 x2 x3 x4 σ H locs ls h hH hl
  rw [FX12_cover_53] at h
  refine lv_aload_n hx hb dX12_cover_53 rfl (lv_at hl 0 rfl) ?_
  refine lv_iload hx hb dX12_cover_54 (lv_at hl 4 rfl) ?_
  obtain ⟨r_1, σ_2, hc_3, h⟩ := bdI_ex h
  refine g_ci (g_runV (rest := []) C hH hl.1 cV_X12_443 0 (Nat.le_of_ble_eq_true rfl) rfl rfl (kX12_isIn l D ad κ hc_3) ⟨rfl, rfl⟩ ⟨(Nat.le_of_ble_eq_true rfl), (Nat.le_of_ble_eq_true rfl)⟩ rfl rfl (Nat.le_of_ble_eq_true rfl) dX12_cover_56 z00) hH (fun H locs hH => ?_)
  refine lv_if_eq (tgt := 65) hx hb dX12_cover_59 (by decide) (fun hq_4 => ?_) (fun hq_4 => ?_)
  · rw [if_pos hq_4] at h
    refine lv_iinc (v := (x4 + 1)) (lv' := [(4, .int (x4 + 1)), (0, .ref (ad 0)), (1, .int x1), (2, .int x2), (3, .int x3)]) hx hb dX12_cover_65 hl (k := 4) rfl rfl (by decide) rfl (fun ls hl => ?_)
    refine lv_goto (tgt := 29) hx hb dX12_cover_68 (by decide) ?_
    exact K29 _ _ _ _ _ _ _ _ h hH (lv_sub hl [1, 2, 3, 4, 0] rfl)
  · rw [if_neg hq_4] at h
    refine lv_iload hx hb dX12_cover_62 (lv_at hl 4 rfl) ?_
    refine lv_istore_n (lv' := [(3, .int x4), (0, .ref (ad 0)), (1, .int x1), (2, .int x2), (4, .int x4)]) hx hb dX12_cover_64 rfl hl (by decide) rfl (fun ls hl => ?_)
    refine lv_iinc (v := (x4 + 1)) (lv' := [(4, .int (x4 + 1)), (3, .int x4), (0, .ref (ad 0)), (1, .int x1), (2, .int x2)]) hx hb dX12_cover_65 hl (k := 4) rfl rfl (by decide) rfl (fun ls hl => ?_)
    refine lv_goto (tgt := 29) hx hb dX12_cover_68 (by decide) ?_
    exact K29 _ _ _ _ _ _ _ _ h hH (lv_sub hl [2, 3, 4, 1, 0] rfl)
set_option maxHeartbeats 4000000 in
set_option maxRecDepth 100000 in
theorem wX12_cover_29 (C : Cx 45 D ad κ p s m args meth c cX12_cover RX12 5 (some .int)) {R : (Int32 × HS)} : ∀ (f : Nat) (x1 : Int32) (x2 : Int32) (x3 : Int32) (x4 : Int32) (σ : HS) (H : Heap) (locs : List Loc) (ls : Array Slot), FX12_cover_29  f x1 x2 x3 x4 σ = some R → Hd 45 ceM D ad κ s σ H locs → lv_has ls 5 [(0, .ref (ad 0)), (1, .int x1), (2, .int x2), (3, .int x3), (4, .int x4)] → W p l e ({ frames := 6, cells := 0, slots := 0, locals := 139 } : Room) s m args below meth c H locs 0 0 (MQ below (QI 45 ceM D ad κ R) args s 0 0 (AX 45 ad)) (F0 m 29 ls []) := by
  have hx := C.1
  have hb := C.2.1
  have hown := C.2.2.2.1
  have hts := C.2.2.2.2.1
  intro f
  induction f with
  | zero =>
    intro x1 x2 x3 x4 σ H locs ls h hH hl
    cases h
  | succ f ih =>
    intro x1 x2 x3 x4 σ H locs ls h hH hl
    rw [FX12_cover_29] at h
    refine lv_iload hx hb dX12_cover_29 (lv_at hl 4 rfl) ?_
    refine lv_sipush (v := 256) hx hb dX12_cover_31 (by decide) ?_
    refine lv_icmp_ge (tgt := 71) hx hb dX12_cover_34 (by decide) (fun hq_5 => ?_) (fun hq_5 => ?_)
    · rw [if_pos hq_5] at h
      refine lv_iload_n hx hb dX12_cover_71 rfl (lv_at hl 3 rfl) ?_
      refine lv_if_lt (tgt := 80) hx hb dX12_cover_72 (by decide) (fun hq_6 => ?_) (fun hq_6 => ?_)
      · rw [if_pos hq_6] at h
        refine lv_iload_n hx hb dX12_cover_80 rfl (lv_at hl 3 rfl) ?_
        refine lv_goto (tgt := 88) hx hb dX12_cover_81 (by decide) ?_
        exact g_ret C hH h dX12_cover_88
      · rw [if_neg hq_6] at h
        refine lv_iload_n hx hb dX12_cover_75 rfl (lv_at hl 2 rfl) ?_
        refine lv_iconst (v := 1) hx hb dX12_cover_76 (by decide) ?_
        refine lv_icmp_ne (tgt := 84) hx hb dX12_cover_77 (by decide) (fun hq_7 => ?_) (fun hq_7 => ?_)
        · rw [if_neg hq_7] at h
          refine lv_iload_n hx hb dX12_cover_84 rfl (lv_at hl 3 rfl) ?_
          obtain ⟨r_8, σ_9, hc_10, h⟩ := bdI_ex h
          refine g_ci (g_runS (rest := []) C hH hl.1 cS_X12_339 (kX12_bits l D ad κ hc_10) ⟨rfl, rfl⟩ ⟨(Nat.le_of_ble_eq_true rfl), (Nat.le_of_ble_eq_true rfl)⟩ rfl rfl (Nat.le_of_ble_eq_true rfl) dX12_cover_85 z00) hH (fun H locs hH => ?_)
          exact g_ret C hH h dX12_cover_88
        · rw [if_pos hq_7] at h
          refine lv_iload_n hx hb dX12_cover_80 rfl (lv_at hl 3 rfl) ?_
          refine lv_goto (tgt := 88) hx hb dX12_cover_81 (by decide) ?_
          exact g_ret C hH h dX12_cover_88
    · rw [if_neg hq_5] at h
      refine lv_iload_n hx hb dX12_cover_37 rfl (lv_at hl 3 rfl) ?_
      refine lv_if_lt (tgt := 53) hx hb dX12_cover_38 (by decide) (fun hq_11 => ?_) (fun hq_11 => ?_)
      · rw [if_pos hq_11] at h
        exact wX12_cover_53 C ih  _ _ _ _ _ _ _ _ h hH (lv_sub hl [0, 1, 2, 3, 4] rfl)
      · rw [if_neg hq_11] at h
        refine lv_iload hx hb dX12_cover_41 (lv_at hl 4 rfl) ?_
        obtain ⟨r_12, σ_13, hc_14, h⟩ := bdI_ex h
        refine g_ci (g_runS (rest := []) C hH hl.1 cS_X12_339 (kX12_bits l D ad κ hc_14) ⟨rfl, rfl⟩ ⟨(Nat.le_of_ble_eq_true rfl), (Nat.le_of_ble_eq_true rfl)⟩ rfl rfl (Nat.le_of_ble_eq_true rfl) dX12_cover_43 z00) hH (fun H locs hH => ?_)
        refine lv_iload_n hx hb dX12_cover_46 rfl (lv_at hl 3 rfl) ?_
        obtain ⟨r_15, σ_16, hc_17, h⟩ := bdI_ex h
        refine g_ci (g_runS (rest := [.int r_12]) C hH hl.1 cS_X12_339 (kX12_bits l D ad κ hc_17) ⟨rfl, rfl⟩ ⟨(Nat.le_of_ble_eq_true rfl), (Nat.le_of_ble_eq_true rfl)⟩ rfl rfl (Nat.le_of_ble_eq_true rfl) dX12_cover_47 z00) hH (fun H locs hH => ?_)
        refine lv_icmp_ge (tgt := 65) hx hb dX12_cover_50 (by decide) (fun hq_18 => ?_) (fun hq_18 => ?_)
        · rw [if_pos hq_18] at h
          refine lv_iinc (v := (x4 + 1)) (lv' := [(4, .int (x4 + 1)), (0, .ref (ad 0)), (1, .int x1), (2, .int x2), (3, .int x3)]) hx hb dX12_cover_65 hl (k := 4) rfl rfl (by decide) rfl (fun ls hl => ?_)
          refine lv_goto (tgt := 29) hx hb dX12_cover_68 (by decide) ?_
          exact ih _ _ _ _ _ _ _ _ h hH (lv_sub hl [1, 2, 3, 4, 0] rfl)
        · rw [if_neg hq_18] at h
          exact wX12_cover_53 C ih  _ _ _ _ _ _ _ _ h hH (lv_sub hl [0, 1, 2, 3, 4] rfl)
set_option maxHeartbeats 4000000 in
set_option maxRecDepth 100000 in
theorem kX12_cover (l : Launch) (D : va_G) (ad : Nat → Nat) (κ : KC) {x1 : Int32} {x2 : Int32} {σ : HS} {R : (Int32 × HS)} (h : FX12_cover x1 x2 σ = some R) : MtI l 45 ceM D ad κ yX12_cover cX12_cover 5 (some .int) ({ frames := 6, cells := 0, slots := 0, locals := 139 } : Room) [.ref (ad 0), .int x1, .int x2] σ R := by
  refine open_ (by decide) (Nat.le_of_ble_eq_true rfl) (la := [(0, .ref (ad 0)), (1, .int x1), (2, .int x2)]) rfl ?_
  intro p e s m below meth c ls C hH hl
  replace C : Cx 45 D ad κ p s m _ meth c cX12_cover RX12 5 (some .int) := C
  have hx := C.1
  have hb := C.2.1
  have hown := C.2.2.2.1
  have hts := C.2.2.2.2.1
  rw [FX12_cover] at h
  refine lv_iload_n hx hb dX12_cover_0 rfl (lv_at hl 1 rfl) ?_
  obtain ⟨r_19, σ_20, hc_21, h⟩ := bdI_ex h
  refine g_ci (g_runS (rest := []) C hH hl.1 cS_X12_437 (kX12_isMatter l D ad κ hc_21) ⟨rfl, rfl⟩ ⟨(Nat.le_of_ble_eq_true rfl), (Nat.le_of_ble_eq_true rfl)⟩ rfl rfl (Nat.le_of_ble_eq_true rfl) dX12_cover_1 z00) hH (fun H locs hH => ?_)
  refine lv_if_eq (tgt := 16) hx hb dX12_cover_4 (by decide) (fun hq_22 => ?_) (fun hq_22 => ?_)
  · rw [if_pos hq_22] at h
    refine lv_iconst (v := (-1)) hx hb dX12_cover_16 (by decide) ?_
    exact g_ret C hH h dX12_cover_17
  · rw [if_neg hq_22] at h
    refine lv_iload_n hx hb dX12_cover_7 rfl (lv_at hl 2 rfl) ?_
    refine lv_iconst (v := 0) hx hb dX12_cover_8 (by decide) ?_
    refine lv_iconst (v := 1) hx hb dX12_cover_9 (by decide) ?_
    obtain ⟨r_23, σ_24, hc_25, h⟩ := bdI_ex h
    refine g_ci (g_runS (rest := []) C hH hl.1 cS_X12_310 (kX12_in l D ad κ hc_25) ⟨rfl, rfl⟩ ⟨(Nat.le_of_ble_eq_true rfl), (Nat.le_of_ble_eq_true rfl)⟩ rfl rfl (Nat.le_of_ble_eq_true rfl) dX12_cover_10 z00) hH (fun H locs hH => ?_)
    refine lv_if_ne (tgt := 18) hx hb dX12_cover_13 (by decide) (fun hq_26 => ?_) (fun hq_26 => ?_)
    · rw [if_neg hq_26] at h
      refine lv_aload_n hx hb dX12_cover_18 rfl (lv_at hl 0 rfl) ?_
      refine lv_iload_n hx hb dX12_cover_19 rfl (lv_at hl 1 rfl) ?_
      obtain ⟨σ_27, hc_28, h⟩ := bdV_ex h
      refine g_cv (g_runV (rest := []) C hH hl.1 cV_X12_440 0 (Nat.le_of_ble_eq_true rfl) rfl rfl (kX12_fillsHits l D ad κ hc_28) ⟨rfl, rfl⟩ ⟨(Nat.le_of_ble_eq_true rfl), (Nat.le_of_ble_eq_true rfl)⟩ rfl rfl (Nat.le_of_ble_eq_true rfl) dX12_cover_20 z00) hH (fun H locs hH => ?_)
      refine lv_bipush (v := (-2)) hx hb dX12_cover_23 (by decide) ?_
      refine lv_istore_n (lv' := [(3, .int (-2 : Int32)), (0, .ref (ad 0)), (1, .int x1), (2, .int x2)]) hx hb dX12_cover_25 rfl hl (by decide) rfl (fun ls hl => ?_)
      refine lv_iconst (v := 0) hx hb dX12_cover_26 (by decide) ?_
      refine lv_istore (lv' := [(4, .int (0 : Int32)), (3, .int (-2 : Int32)), (0, .ref (ad 0)), (1, .int x1), (2, .int x2)]) hx hb dX12_cover_27 hl (by decide) rfl (fun ls hl => ?_)
      exact wX12_cover_29 C _ _ _ _ _ _ _ _ _ h hH (lv_sub hl [2, 3, 4, 1, 0] rfl)
    · rw [if_pos hq_26] at h
      refine lv_iconst (v := (-1)) hx hb dX12_cover_16 (by decide) ?_
      exact g_ret C hH h dX12_cover_17
-- X12_gains
def FX12_gains (x1 : Int32) (x2 : Int32) (σ : HS) : Option (Int32 × HS) :=
  bdI (FX12_isFamily x1 σ) fun r_1 σ_2 => if r_1 = 0 then some ((-100000000 : Int32), σ_2) else bdI (FX12_isLong x2 σ_2) fun r_5 σ_6 => if r_5 = 0 then some ((-100000000 : Int32), σ_6) else bdV (FX12_copies σ_6) fun σ_9 => bdV (FX12_goes x2 σ_9) fun σ_11 => gd (ix ((23 : Int32) + x1) 33) (gd (ix ((23 : Int32) + x1) 33) (gd (ix ((28 : Int32) + x1) 33) (gd (ix ((28 : Int32) + x1) 33) (some (((((σ_11.1 32 (((23 : Int32) + x1).toNatClampNeg)) - (σ_11.1 31 (((23 : Int32) + x1).toNatClampNeg))) - (σ_11.1 32 (((28 : Int32) + x1).toNatClampNeg))) + (σ_11.1 31 (((28 : Int32) + x1).toNatClampNeg))), σ_11)))))
set_option maxHeartbeats 4000000 in
set_option maxRecDepth 100000 in
theorem kX12_gains (l : Launch) (D : va_G) (ad : Nat → Nat) (κ : KC) {x1 : Int32} {x2 : Int32} {σ : HS} {R : (Int32 × HS)} (h : FX12_gains x1 x2 σ = some R) : MtI l 45 ceM D ad κ yX12_gains cX12_gains 3 (some .int) ({ frames := 6, cells := 0, slots := 0, locals := 142 } : Room) [.ref (ad 0), .int x1, .int x2] σ R := by
  refine open_ (by decide) (Nat.le_of_ble_eq_true rfl) (la := [(0, .ref (ad 0)), (1, .int x1), (2, .int x2)]) rfl ?_
  intro p e s m below meth c ls C hH hl
  replace C : Cx 45 D ad κ p s m _ meth c cX12_gains RX12 3 (some .int) := C
  have hx := C.1
  have hb := C.2.1
  have hown := C.2.2.2.1
  have hts := C.2.2.2.2.1
  rw [FX12_gains] at h
  refine lv_aload_n hx hb dX12_gains_0 rfl (lv_at hl 0 rfl) ?_
  refine lv_iload_n hx hb dX12_gains_1 rfl (lv_at hl 1 rfl) ?_
  obtain ⟨r_1, σ_2, hc_3, h⟩ := bdI_ex h
  refine g_ci (g_runV (rest := []) C hH hl.1 cV_X12_372 0 (Nat.le_of_ble_eq_true rfl) rfl rfl (kX12_isFamily l D ad κ hc_3) ⟨rfl, rfl⟩ ⟨(Nat.le_of_ble_eq_true rfl), (Nat.le_of_ble_eq_true rfl)⟩ rfl rfl (Nat.le_of_ble_eq_true rfl) dX12_gains_2 z00) hH (fun H locs hH => ?_)
  refine lv_if_eq (tgt := 15) hx hb dX12_gains_5 (by decide) (fun hq_4 => ?_) (fun hq_4 => ?_)
  · rw [if_pos hq_4] at h
    refine lv_ldcw (v := (-100000000)) hx hb hown (hts _ kc_X12_421) dX12_gains_15 ?_
    exact g_ret C hH h dX12_gains_18
  · rw [if_neg hq_4] at h
    refine lv_iload_n hx hb dX12_gains_8 rfl (lv_at hl 2 rfl) ?_
    obtain ⟨r_5, σ_6, hc_7, h⟩ := bdI_ex h
    refine g_ci (g_runS (rest := []) C hH hl.1 cS_X12_394 (kX12_isLong l D ad κ hc_7) ⟨rfl, rfl⟩ ⟨(Nat.le_of_ble_eq_true rfl), (Nat.le_of_ble_eq_true rfl)⟩ rfl rfl (Nat.le_of_ble_eq_true rfl) dX12_gains_9 z00) hH (fun H locs hH => ?_)
    refine lv_if_ne (tgt := 19) hx hb dX12_gains_12 (by decide) (fun hq_8 => ?_) (fun hq_8 => ?_)
    · rw [if_neg hq_8] at h
      refine lv_aload_n hx hb dX12_gains_19 rfl (lv_at hl 0 rfl) ?_
      obtain ⟨σ_9, hc_10, h⟩ := bdV_ex h
      refine g_cv (g_runV (rest := []) C hH hl.1 cV_X12_369 0 (Nat.le_of_ble_eq_true rfl) rfl rfl (kX12_copies l D ad κ hc_10) ⟨rfl, rfl⟩ ⟨(Nat.le_of_ble_eq_true rfl), (Nat.le_of_ble_eq_true rfl)⟩ rfl rfl (Nat.le_of_ble_eq_true rfl) dX12_gains_20 z00) hH (fun H locs hH => ?_)
      refine lv_aload_n hx hb dX12_gains_23 rfl (lv_at hl 0 rfl) ?_
      refine lv_iload_n hx hb dX12_gains_24 rfl (lv_at hl 2 rfl) ?_
      obtain ⟨σ_11, hc_12, h⟩ := bdV_ex h
      refine g_cv (g_runV (rest := []) C hH hl.1 cV_X12_397 0 (Nat.le_of_ble_eq_true rfl) rfl rfl (kX12_goes l D ad κ hc_12) ⟨rfl, rfl⟩ ⟨(Nat.le_of_ble_eq_true rfl), (Nat.le_of_ble_eq_true rfl)⟩ rfl rfl (Nat.le_of_ble_eq_true rfl) dX12_gains_25 z00) hH (fun H locs hH => ?_)
      refine lv_aload_n hx hb dX12_gains_28 rfl (lv_at hl 0 rfl) ?_
      refine g_get C hH 0 (Nat.le_of_ble_eq_true rfl) rfl fl_X12_113 (v := .ref (ad 32)) rfl dX12_gains_29 ?_
      refine lv_bipush (v := 23) hx hb dX12_gains_32 (by decide) ?_
      refine lv_iload_n hx hb dX12_gains_34 rfl (lv_at hl 1 rfl) ?_
      refine lv_iadd hx hb dX12_gains_35 ?_
      obtain ⟨hi_13, h⟩ := gd_ex h
      refine g_iald C hH 32 (Nat.le_of_ble_eq_true rfl) rfl (k := (((23 : Int32) + x1).toNatClampNeg)) rfl (ix_in hi_13) dX12_gains_36 ?_
      refine lv_aload_n hx hb dX12_gains_37 rfl (lv_at hl 0 rfl) ?_
      refine g_get C hH 0 (Nat.le_of_ble_eq_true rfl) rfl fl_X12_110 (v := .ref (ad 31)) rfl dX12_gains_38 ?_
      refine lv_bipush (v := 23) hx hb dX12_gains_41 (by decide) ?_
      refine lv_iload_n hx hb dX12_gains_43 rfl (lv_at hl 1 rfl) ?_
      refine lv_iadd hx hb dX12_gains_44 ?_
      obtain ⟨hi_14, h⟩ := gd_ex h
      refine g_iald C hH 31 (Nat.le_of_ble_eq_true rfl) rfl (k := (((23 : Int32) + x1).toNatClampNeg)) rfl (ix_in hi_14) dX12_gains_45 ?_
      refine lv_isub hx hb dX12_gains_46 ?_
      refine lv_aload_n hx hb dX12_gains_47 rfl (lv_at hl 0 rfl) ?_
      refine g_get C hH 0 (Nat.le_of_ble_eq_true rfl) rfl fl_X12_113 (v := .ref (ad 32)) rfl dX12_gains_48 ?_
      refine lv_bipush (v := 28) hx hb dX12_gains_51 (by decide) ?_
      refine lv_iload_n hx hb dX12_gains_53 rfl (lv_at hl 1 rfl) ?_
      refine lv_iadd hx hb dX12_gains_54 ?_
      obtain ⟨hi_15, h⟩ := gd_ex h
      refine g_iald C hH 32 (Nat.le_of_ble_eq_true rfl) rfl (k := (((28 : Int32) + x1).toNatClampNeg)) rfl (ix_in hi_15) dX12_gains_55 ?_
      refine lv_isub hx hb dX12_gains_56 ?_
      refine lv_aload_n hx hb dX12_gains_57 rfl (lv_at hl 0 rfl) ?_
      refine g_get C hH 0 (Nat.le_of_ble_eq_true rfl) rfl fl_X12_110 (v := .ref (ad 31)) rfl dX12_gains_58 ?_
      refine lv_bipush (v := 28) hx hb dX12_gains_61 (by decide) ?_
      refine lv_iload_n hx hb dX12_gains_63 rfl (lv_at hl 1 rfl) ?_
      refine lv_iadd hx hb dX12_gains_64 ?_
      obtain ⟨hi_16, h⟩ := gd_ex h
      refine g_iald C hH 31 (Nat.le_of_ble_eq_true rfl) rfl (k := (((28 : Int32) + x1).toNatClampNeg)) rfl (ix_in hi_16) dX12_gains_65 ?_
      refine lv_iadd hx hb dX12_gains_66 ?_
      exact g_ret C hH h dX12_gains_67
    · rw [if_pos hq_8] at h
      refine lv_ldcw (v := (-100000000)) hx hb hown (hts _ kc_X12_421) dX12_gains_15 ?_
      exact g_ret C hH h dX12_gains_18
-- X12_partsIn
def FX12_partsIn (x1 : Int32) (σ : HS) : Option (Int32 × HS) :=
  bdI (FX12_isLong x1 σ) fun r_1 σ_2 => if r_1 = 0 then some ((-1 : Int32), σ_2) else bdV (FX12_copies σ_2) fun σ_5 => bdV (FX12_goes x1 σ_5) fun σ_7 => some ((σ_7.1 32 22), σ_7)
set_option maxHeartbeats 4000000 in
set_option maxRecDepth 100000 in
theorem kX12_partsIn (l : Launch) (D : va_G) (ad : Nat → Nat) (κ : KC) {x1 : Int32} {σ : HS} {R : (Int32 × HS)} (h : FX12_partsIn x1 σ = some R) : MtI l 45 ceM D ad κ yX12_partsIn cX12_partsIn 2 (some .int) ({ frames := 6, cells := 0, slots := 0, locals := 142 } : Room) [.ref (ad 0), .int x1] σ R := by
  refine open_ (by decide) (Nat.le_of_ble_eq_true rfl) (la := [(0, .ref (ad 0)), (1, .int x1)]) rfl ?_
  intro p e s m below meth c ls C hH hl
  replace C : Cx 45 D ad κ p s m _ meth c cX12_partsIn RX12 2 (some .int) := C
  have hx := C.1
  have hb := C.2.1
  have hown := C.2.2.2.1
  have hts := C.2.2.2.2.1
  rw [FX12_partsIn] at h
  refine lv_iload_n hx hb dX12_partsIn_0 rfl (lv_at hl 1 rfl) ?_
  obtain ⟨r_1, σ_2, hc_3, h⟩ := bdI_ex h
  refine g_ci (g_runS (rest := []) C hH hl.1 cS_X12_394 (kX12_isLong l D ad κ hc_3) ⟨rfl, rfl⟩ ⟨(Nat.le_of_ble_eq_true rfl), (Nat.le_of_ble_eq_true rfl)⟩ rfl rfl (Nat.le_of_ble_eq_true rfl) dX12_partsIn_1 z00) hH (fun H locs hH => ?_)
  refine lv_if_ne (tgt := 9) hx hb dX12_partsIn_4 (by decide) (fun hq_4 => ?_) (fun hq_4 => ?_)
  · rw [if_neg hq_4] at h
    refine lv_aload_n hx hb dX12_partsIn_9 rfl (lv_at hl 0 rfl) ?_
    obtain ⟨σ_5, hc_6, h⟩ := bdV_ex h
    refine g_cv (g_runV (rest := []) C hH hl.1 cV_X12_369 0 (Nat.le_of_ble_eq_true rfl) rfl rfl (kX12_copies l D ad κ hc_6) ⟨rfl, rfl⟩ ⟨(Nat.le_of_ble_eq_true rfl), (Nat.le_of_ble_eq_true rfl)⟩ rfl rfl (Nat.le_of_ble_eq_true rfl) dX12_partsIn_10 z00) hH (fun H locs hH => ?_)
    refine lv_aload_n hx hb dX12_partsIn_13 rfl (lv_at hl 0 rfl) ?_
    refine lv_iload_n hx hb dX12_partsIn_14 rfl (lv_at hl 1 rfl) ?_
    obtain ⟨σ_7, hc_8, h⟩ := bdV_ex h
    refine g_cv (g_runV (rest := []) C hH hl.1 cV_X12_397 0 (Nat.le_of_ble_eq_true rfl) rfl rfl (kX12_goes l D ad κ hc_8) ⟨rfl, rfl⟩ ⟨(Nat.le_of_ble_eq_true rfl), (Nat.le_of_ble_eq_true rfl)⟩ rfl rfl (Nat.le_of_ble_eq_true rfl) dX12_partsIn_15 z00) hH (fun H locs hH => ?_)
    refine lv_aload_n hx hb dX12_partsIn_18 rfl (lv_at hl 0 rfl) ?_
    refine g_get C hH 0 (Nat.le_of_ble_eq_true rfl) rfl fl_X12_113 (v := .ref (ad 32)) rfl dX12_partsIn_19 ?_
    refine lv_bipush (v := 22) hx hb dX12_partsIn_22 (by decide) ?_
    refine g_iald C hH 32 (Nat.le_of_ble_eq_true rfl) rfl (k := 22) (by decide) (ix_in rfl) dX12_partsIn_24 ?_
    exact g_ret C hH h dX12_partsIn_25
  · rw [if_pos hq_4] at h
    refine lv_iconst (v := (-1)) hx hb dX12_partsIn_7 (by decide) ?_
    exact g_ret C hH h dX12_partsIn_8
-- X12_year
def FX12_year_33  : Nat → Int32 → Int32 → Int32 → Int32 → Int32 → HS → Option (Int32 × HS)
  | 0, _, _, _, _, _, _ => none
  | f + 1, x1, x2, x3, x4, x5, σ => if x3 ≤ x5 then some (x4, σ) else bdV (FX12_copies σ) fun σ_2 => hl_ (pI σ_2 0 49 ((σ_2.1 0 49) + x5)) fun σ_4 => bdV (FX12_goes x2 σ_4) fun σ_5 => gd (ix ((23 : Int32) + x1) 33) (gd (ix ((28 : Int32) + x1) 33) (if (σ_5.1 32 (((23 : Int32) + x1).toNatClampNeg)) ≤ (σ_5.1 32 (((28 : Int32) + x1).toNatClampNeg)) then FX12_year_33  f x1 x2 x3 x4 (x5 + 1) σ_5 else FX12_year_33  f x1 x2 x3 (x4 + 1) (x5 + 1) σ_5))
def FX12_year (x1 : Int32) (x2 : Int32) (x3 : Int32) (σ : HS) : Option (Int32 × HS) :=
  bdI (FX12_isFamily x1 σ) fun r_10 σ_11 => if r_10 = 0 then some ((-1 : Int32), σ_11) else bdI (FX12_isLong x2 σ_11) fun r_14 σ_15 => if r_14 = 0 then some ((-1 : Int32), σ_15) else bdI (FX12_in x3 (1 : Int32) (20 : Int32) σ_15) fun r_18 σ_19 => if r_18 = 0 then some ((-1 : Int32), σ_19) else FX12_year_33 fu x1 x2 x3 (0 : Int32) (0 : Int32) σ_19
set_option maxHeartbeats 4000000 in
set_option maxRecDepth 100000 in
theorem wX12_year_33 (C : Cx 45 D ad κ p s m args meth c cX12_year RX12 6 (some .int)) {R : (Int32 × HS)} : ∀ (f : Nat) (x1 : Int32) (x2 : Int32) (x3 : Int32) (x4 : Int32) (x5 : Int32) (σ : HS) (H : Heap) (locs : List Loc) (ls : Array Slot), FX12_year_33  f x1 x2 x3 x4 x5 σ = some R → Hd 45 ceM D ad κ s σ H locs → lv_has ls 6 [(0, .ref (ad 0)), (1, .int x1), (2, .int x2), (3, .int x3), (4, .int x4), (5, .int x5)] → W p l e ({ frames := 6, cells := 0, slots := 0, locals := 142 } : Room) s m args below meth c H locs 0 0 (MQ below (QI 45 ceM D ad κ R) args s 0 0 (AX 45 ad)) (F0 m 33 ls []) := by
  have hx := C.1
  have hb := C.2.1
  have hown := C.2.2.2.1
  have hts := C.2.2.2.2.1
  intro f
  induction f with
  | zero =>
    intro x1 x2 x3 x4 x5 σ H locs ls h hH hl
    cases h
  | succ f ih =>
    intro x1 x2 x3 x4 x5 σ H locs ls h hH hl
    rw [FX12_year_33] at h
    refine lv_iload hx hb dX12_year_33 (lv_at hl 5 rfl) ?_
    refine lv_iload_n hx hb dX12_year_35 rfl (lv_at hl 3 rfl) ?_
    refine lv_icmp_ge (tgt := 89) hx hb dX12_year_36 (by decide) (fun hq_1 => ?_) (fun hq_1 => ?_)
    · rw [if_pos hq_1] at h
      refine lv_iload hx hb dX12_year_89 (lv_at hl 4 rfl) ?_
      exact g_ret C hH h dX12_year_91
    · rw [if_neg hq_1] at h
      refine lv_aload_n hx hb dX12_year_39 rfl (lv_at hl 0 rfl) ?_
      obtain ⟨σ_2, hc_3, h⟩ := bdV_ex h
      refine g_cv (g_runV (rest := []) C hH hl.1 cV_X12_369 0 (Nat.le_of_ble_eq_true rfl) rfl rfl (kX12_copies l D ad κ hc_3) ⟨rfl, rfl⟩ ⟨(Nat.le_of_ble_eq_true rfl), (Nat.le_of_ble_eq_true rfl)⟩ rfl rfl (Nat.le_of_ble_eq_true rfl) dX12_year_40 z00) hH (fun H locs hH => ?_)
      refine lv_aload_n hx hb dX12_year_43 rfl (lv_at hl 0 rfl) ?_
      refine lv_dup hx hb dX12_year_44 rfl ?_
      refine g_get C hH 0 (Nat.le_of_ble_eq_true rfl) rfl fl_X12_314 (v := .int (σ_2.1 0 49)) rfl dX12_year_45 ?_
      refine lv_iload hx hb dX12_year_48 (lv_at hl 5 rfl) ?_
      refine lv_iadd hx hb dX12_year_50 ?_
      obtain ⟨σ_4, eσ_4, h⟩ := hl_ex h
      refine g_putI C hH 0 (Nat.le_of_ble_eq_true rfl) rfl fp_X12_314 rfl rfl (Nat.le_of_ble_eq_true rfl) rfl dX12_year_51 (fun H locs hH => ?_)
      rw [← eσ_4] at hH
      refine lv_aload_n hx hb dX12_year_54 rfl (lv_at hl 0 rfl) ?_
      refine lv_iload_n hx hb dX12_year_55 rfl (lv_at hl 2 rfl) ?_
      obtain ⟨σ_5, hc_6, h⟩ := bdV_ex h
      refine g_cv (g_runV (rest := []) C hH hl.1 cV_X12_397 0 (Nat.le_of_ble_eq_true rfl) rfl rfl (kX12_goes l D ad κ hc_6) ⟨rfl, rfl⟩ ⟨(Nat.le_of_ble_eq_true rfl), (Nat.le_of_ble_eq_true rfl)⟩ rfl rfl (Nat.le_of_ble_eq_true rfl) dX12_year_56 z00) hH (fun H locs hH => ?_)
      refine lv_aload_n hx hb dX12_year_59 rfl (lv_at hl 0 rfl) ?_
      refine g_get C hH 0 (Nat.le_of_ble_eq_true rfl) rfl fl_X12_113 (v := .ref (ad 32)) rfl dX12_year_60 ?_
      refine lv_bipush (v := 23) hx hb dX12_year_63 (by decide) ?_
      refine lv_iload_n hx hb dX12_year_65 rfl (lv_at hl 1 rfl) ?_
      refine lv_iadd hx hb dX12_year_66 ?_
      obtain ⟨hi_7, h⟩ := gd_ex h
      refine g_iald C hH 32 (Nat.le_of_ble_eq_true rfl) rfl (k := (((23 : Int32) + x1).toNatClampNeg)) rfl (ix_in hi_7) dX12_year_67 ?_
      refine lv_aload_n hx hb dX12_year_68 rfl (lv_at hl 0 rfl) ?_
      refine g_get C hH 0 (Nat.le_of_ble_eq_true rfl) rfl fl_X12_113 (v := .ref (ad 32)) rfl dX12_year_69 ?_
      refine lv_bipush (v := 28) hx hb dX12_year_72 (by decide) ?_
      refine lv_iload_n hx hb dX12_year_74 rfl (lv_at hl 1 rfl) ?_
      refine lv_iadd hx hb dX12_year_75 ?_
      obtain ⟨hi_8, h⟩ := gd_ex h
      refine g_iald C hH 32 (Nat.le_of_ble_eq_true rfl) rfl (k := (((28 : Int32) + x1).toNatClampNeg)) rfl (ix_in hi_8) dX12_year_76 ?_
      refine lv_icmp_le (tgt := 83) hx hb dX12_year_77 (by decide) (fun hq_9 => ?_) (fun hq_9 => ?_)
      · rw [if_pos hq_9] at h
        refine lv_iinc (v := (x5 + 1)) (lv' := [(5, .int (x5 + 1)), (0, .ref (ad 0)), (1, .int x1), (2, .int x2), (3, .int x3), (4, .int x4)]) hx hb dX12_year_83 hl (k := 5) rfl rfl (by decide) rfl (fun ls hl => ?_)
        refine lv_goto (tgt := 33) hx hb dX12_year_86 (by decide) ?_
        exact ih _ _ _ _ _ _ _ _ _ h hH (lv_sub hl [1, 2, 3, 4, 5, 0] rfl)
      · rw [if_neg hq_9] at h
        refine lv_iinc (v := (x4 + 1)) (lv' := [(4, .int (x4 + 1)), (0, .ref (ad 0)), (1, .int x1), (2, .int x2), (3, .int x3), (5, .int x5)]) hx hb dX12_year_80 hl (k := 4) rfl rfl (by decide) rfl (fun ls hl => ?_)
        refine lv_iinc (v := (x5 + 1)) (lv' := [(5, .int (x5 + 1)), (4, .int (x4 + 1)), (0, .ref (ad 0)), (1, .int x1), (2, .int x2), (3, .int x3)]) hx hb dX12_year_83 hl (k := 5) rfl rfl (by decide) rfl (fun ls hl => ?_)
        refine lv_goto (tgt := 33) hx hb dX12_year_86 (by decide) ?_
        exact ih _ _ _ _ _ _ _ _ _ h hH (lv_sub hl [2, 3, 4, 5, 1, 0] rfl)
set_option maxHeartbeats 4000000 in
set_option maxRecDepth 100000 in
theorem kX12_year (l : Launch) (D : va_G) (ad : Nat → Nat) (κ : KC) {x1 : Int32} {x2 : Int32} {x3 : Int32} {σ : HS} {R : (Int32 × HS)} (h : FX12_year x1 x2 x3 σ = some R) : MtI l 45 ceM D ad κ yX12_year cX12_year 6 (some .int) ({ frames := 6, cells := 0, slots := 0, locals := 142 } : Room) [.ref (ad 0), .int x1, .int x2, .int x3] σ R := by
  refine open_ (by decide) (Nat.le_of_ble_eq_true rfl) (la := [(0, .ref (ad 0)), (1, .int x1), (2, .int x2), (3, .int x3)]) rfl ?_
  intro p e s m below meth c ls C hH hl
  replace C : Cx 45 D ad κ p s m _ meth c cX12_year RX12 6 (some .int) := C
  have hx := C.1
  have hb := C.2.1
  have hown := C.2.2.2.1
  have hts := C.2.2.2.2.1
  rw [FX12_year] at h
  refine lv_aload_n hx hb dX12_year_0 rfl (lv_at hl 0 rfl) ?_
  refine lv_iload_n hx hb dX12_year_1 rfl (lv_at hl 1 rfl) ?_
  obtain ⟨r_10, σ_11, hc_12, h⟩ := bdI_ex h
  refine g_ci (g_runV (rest := []) C hH hl.1 cV_X12_372 0 (Nat.le_of_ble_eq_true rfl) rfl rfl (kX12_isFamily l D ad κ hc_12) ⟨rfl, rfl⟩ ⟨(Nat.le_of_ble_eq_true rfl), (Nat.le_of_ble_eq_true rfl)⟩ rfl rfl (Nat.le_of_ble_eq_true rfl) dX12_year_2 z00) hH (fun H locs hH => ?_)
  refine lv_if_eq (tgt := 25) hx hb dX12_year_5 (by decide) (fun hq_13 => ?_) (fun hq_13 => ?_)
  · rw [if_pos hq_13] at h
    refine lv_iconst (v := (-1)) hx hb dX12_year_25 (by decide) ?_
    exact g_ret C hH h dX12_year_26
  · rw [if_neg hq_13] at h
    refine lv_iload_n hx hb dX12_year_8 rfl (lv_at hl 2 rfl) ?_
    obtain ⟨r_14, σ_15, hc_16, h⟩ := bdI_ex h
    refine g_ci (g_runS (rest := []) C hH hl.1 cS_X12_394 (kX12_isLong l D ad κ hc_16) ⟨rfl, rfl⟩ ⟨(Nat.le_of_ble_eq_true rfl), (Nat.le_of_ble_eq_true rfl)⟩ rfl rfl (Nat.le_of_ble_eq_true rfl) dX12_year_9 z00) hH (fun H locs hH => ?_)
    refine lv_if_eq (tgt := 25) hx hb dX12_year_12 (by decide) (fun hq_17 => ?_) (fun hq_17 => ?_)
    · rw [if_pos hq_17] at h
      refine lv_iconst (v := (-1)) hx hb dX12_year_25 (by decide) ?_
      exact g_ret C hH h dX12_year_26
    · rw [if_neg hq_17] at h
      refine lv_iload_n hx hb dX12_year_15 rfl (lv_at hl 3 rfl) ?_
      refine lv_iconst (v := 1) hx hb dX12_year_16 (by decide) ?_
      refine lv_bipush (v := 20) hx hb dX12_year_17 (by decide) ?_
      obtain ⟨r_18, σ_19, hc_20, h⟩ := bdI_ex h
      refine g_ci (g_runS (rest := []) C hH hl.1 cS_X12_310 (kX12_in l D ad κ hc_20) ⟨rfl, rfl⟩ ⟨(Nat.le_of_ble_eq_true rfl), (Nat.le_of_ble_eq_true rfl)⟩ rfl rfl (Nat.le_of_ble_eq_true rfl) dX12_year_19 z00) hH (fun H locs hH => ?_)
      refine lv_if_ne (tgt := 27) hx hb dX12_year_22 (by decide) (fun hq_21 => ?_) (fun hq_21 => ?_)
      · rw [if_neg hq_21] at h
        refine lv_iconst (v := 0) hx hb dX12_year_27 (by decide) ?_
        refine lv_istore (lv' := [(4, .int (0 : Int32)), (0, .ref (ad 0)), (1, .int x1), (2, .int x2), (3, .int x3)]) hx hb dX12_year_28 hl (by decide) rfl (fun ls hl => ?_)
        refine lv_iconst (v := 0) hx hb dX12_year_30 (by decide) ?_
        refine lv_istore (lv' := [(5, .int (0 : Int32)), (4, .int (0 : Int32)), (0, .ref (ad 0)), (1, .int x1), (2, .int x2), (3, .int x3)]) hx hb dX12_year_31 hl (by decide) rfl (fun ls hl => ?_)
        exact wX12_year_33 C _ _ _ _ _ _ _ _ _ _ h hH (lv_sub hl [2, 3, 4, 5, 1, 0] rfl)
      · rw [if_pos hq_21] at h
        refine lv_iconst (v := (-1)) hx hb dX12_year_25 (by decide) ?_
        exact g_ret C hH h dX12_year_26
-- X12_tell
def FX12_tell (x1 : Int32) (x2 : Int32) (x3 : Int32) (σ : HS) : Option (Int32 × HS) :=
  if (σ.1 0 57) = (20 : Int32) then some ((-1 : Int32), σ) else bdI (FX12_isMinute x1 σ) fun r_2 σ_3 => if r_2 = 0 then some ((-1 : Int32), σ_3) else bdI (FX12_isPart x2 σ_3) fun r_6 σ_7 => if r_6 = 0 then some ((-1 : Int32), σ_7) else gd (ix (σ_7.1 0 57) 20) (hl_ (pI σ_7 39 ((σ_7.1 0 57).toNatClampNeg) x1) fun σ_11 => gd (ix (σ_11.1 0 57) 20) (hl_ (pI σ_11 40 ((σ_11.1 0 57).toNatClampNeg) x2) fun σ_13 => gd (ix (σ_13.1 0 57) 20) (hl_ (pI σ_13 41 ((σ_13.1 0 57).toNatClampNeg) (vp_nar .boolean x3)) fun σ_15 => hl_ (pI σ_15 0 57 ((σ_15.1 0 57) + (1 : Int32))) fun σ_16 => some (((σ_16.1 0 57) - (1 : Int32)), σ_16))))
set_option maxHeartbeats 4000000 in
set_option maxRecDepth 100000 in
theorem kX12_tell (l : Launch) (D : va_G) (ad : Nat → Nat) (κ : KC) {x1 : Int32} {x2 : Int32} {x3 : Int32} {σ : HS} {R : (Int32 × HS)} (h : FX12_tell x1 x2 x3 σ = some R) : MtI l 45 ceM D ad κ yX12_tell cX12_tell 4 (some .int) ({ frames := 2, cells := 0, slots := 0, locals := 43 } : Room) [.ref (ad 0), .int x1, .int x2, .int x3] σ R := by
  refine open_ (by decide) (Nat.le_of_ble_eq_true rfl) (la := [(0, .ref (ad 0)), (1, .int x1), (2, .int x2), (3, .int x3)]) rfl ?_
  intro p e s m below meth c ls C hH hl
  replace C : Cx 45 D ad κ p s m _ meth c cX12_tell RX12 4 (some .int) := C
  have hx := C.1
  have hb := C.2.1
  have hown := C.2.2.2.1
  have hts := C.2.2.2.2.1
  rw [FX12_tell] at h
  refine lv_aload_n hx hb dX12_tell_0 rfl (lv_at hl 0 rfl) ?_
  refine g_get C hH 0 (Nat.le_of_ble_eq_true rfl) rfl fl_X12_251 (v := .int (σ.1 0 57)) rfl dX12_tell_1 ?_
  refine lv_bipush (v := 20) hx hb dX12_tell_4 (by decide) ?_
  refine lv_icmp_eq (tgt := 24) hx hb dX12_tell_6 (by decide) (fun hq_1 => ?_) (fun hq_1 => ?_)
  · rw [if_pos hq_1] at h
    refine lv_iconst (v := (-1)) hx hb dX12_tell_24 (by decide) ?_
    exact g_ret C hH h dX12_tell_25
  · rw [if_neg hq_1] at h
    refine lv_aload_n hx hb dX12_tell_9 rfl (lv_at hl 0 rfl) ?_
    refine lv_iload_n hx hb dX12_tell_10 rfl (lv_at hl 1 rfl) ?_
    obtain ⟨r_2, σ_3, hc_4, h⟩ := bdI_ex h
    refine g_ci (g_runV (rest := []) C hH hl.1 cV_X12_366 0 (Nat.le_of_ble_eq_true rfl) rfl rfl (kX12_isMinute l D ad κ hc_4) ⟨rfl, rfl⟩ ⟨(Nat.le_of_ble_eq_true rfl), (Nat.le_of_ble_eq_true rfl)⟩ rfl rfl (Nat.le_of_ble_eq_true rfl) dX12_tell_11 z00) hH (fun H locs hH => ?_)
    refine lv_if_eq (tgt := 24) hx hb dX12_tell_14 (by decide) (fun hq_5 => ?_) (fun hq_5 => ?_)
    · rw [if_pos hq_5] at h
      refine lv_iconst (v := (-1)) hx hb dX12_tell_24 (by decide) ?_
      exact g_ret C hH h dX12_tell_25
    · rw [if_neg hq_5] at h
      refine lv_iload_n hx hb dX12_tell_17 rfl (lv_at hl 2 rfl) ?_
      obtain ⟨r_6, σ_7, hc_8, h⟩ := bdI_ex h
      refine g_ci (g_runS (rest := []) C hH hl.1 cS_X12_378 (kX12_isPart l D ad κ hc_8) ⟨rfl, rfl⟩ ⟨(Nat.le_of_ble_eq_true rfl), (Nat.le_of_ble_eq_true rfl)⟩ rfl rfl (Nat.le_of_ble_eq_true rfl) dX12_tell_18 z00) hH (fun H locs hH => ?_)
      refine lv_if_ne (tgt := 26) hx hb dX12_tell_21 (by decide) (fun hq_9 => ?_) (fun hq_9 => ?_)
      · rw [if_neg hq_9] at h
        refine lv_aload_n hx hb dX12_tell_26 rfl (lv_at hl 0 rfl) ?_
        refine g_get C hH 0 (Nat.le_of_ble_eq_true rfl) rfl fl_X12_134 (v := .ref (ad 39)) rfl dX12_tell_27 ?_
        refine lv_aload_n hx hb dX12_tell_30 rfl (lv_at hl 0 rfl) ?_
        refine g_get C hH 0 (Nat.le_of_ble_eq_true rfl) rfl fl_X12_251 (v := .int (σ_7.1 0 57)) rfl dX12_tell_31 ?_
        refine lv_iload_n hx hb dX12_tell_34 rfl (lv_at hl 1 rfl) ?_
        obtain ⟨hi_10, h⟩ := gd_ex h
        obtain ⟨σ_11, eσ_11, h⟩ := hl_ex h
        refine g_iast C hH 39 (Nat.le_of_ble_eq_true rfl) (fun _ _ => rfl) (k := ((σ_7.1 0 57).toNatClampNeg)) rfl (ix_in hi_10) dX12_tell_35 (fun H locs hH => ?_)
        rw [← eσ_11] at hH
        refine lv_aload_n hx hb dX12_tell_36 rfl (lv_at hl 0 rfl) ?_
        refine g_get C hH 0 (Nat.le_of_ble_eq_true rfl) rfl fl_X12_137 (v := .ref (ad 40)) rfl dX12_tell_37 ?_
        refine lv_aload_n hx hb dX12_tell_40 rfl (lv_at hl 0 rfl) ?_
        refine g_get C hH 0 (Nat.le_of_ble_eq_true rfl) rfl fl_X12_251 (v := .int (σ_11.1 0 57)) rfl dX12_tell_41 ?_
        refine lv_iload_n hx hb dX12_tell_44 rfl (lv_at hl 2 rfl) ?_
        obtain ⟨hi_12, h⟩ := gd_ex h
        obtain ⟨σ_13, eσ_13, h⟩ := hl_ex h
        refine g_iast C hH 40 (Nat.le_of_ble_eq_true rfl) (fun _ _ => rfl) (k := ((σ_11.1 0 57).toNatClampNeg)) rfl (ix_in hi_12) dX12_tell_45 (fun H locs hH => ?_)
        rw [← eσ_13] at hH
        refine lv_aload_n hx hb dX12_tell_46 rfl (lv_at hl 0 rfl) ?_
        refine g_get C hH 0 (Nat.le_of_ble_eq_true rfl) rfl fl_X12_140 (v := .ref (ad 41)) rfl dX12_tell_47 ?_
        refine lv_aload_n hx hb dX12_tell_50 rfl (lv_at hl 0 rfl) ?_
        refine g_get C hH 0 (Nat.le_of_ble_eq_true rfl) rfl fl_X12_251 (v := .int (σ_13.1 0 57)) rfl dX12_tell_51 ?_
        refine lv_iload_n hx hb dX12_tell_54 rfl (lv_at hl 3 rfl) ?_
        obtain ⟨hi_14, h⟩ := gd_ex h
        obtain ⟨σ_15, eσ_15, h⟩ := hl_ex h
        refine g_zast C hH 41 (Nat.le_of_ble_eq_true rfl) (fun _ _ => rfl) (k := ((σ_13.1 0 57).toNatClampNeg)) rfl (ix_in hi_14) dX12_tell_55 (fun H locs hH => ?_)
        rw [← eσ_15] at hH
        refine lv_aload_n hx hb dX12_tell_56 rfl (lv_at hl 0 rfl) ?_
        refine lv_dup hx hb dX12_tell_57 rfl ?_
        refine g_get C hH 0 (Nat.le_of_ble_eq_true rfl) rfl fl_X12_251 (v := .int (σ_15.1 0 57)) rfl dX12_tell_58 ?_
        refine lv_iconst (v := 1) hx hb dX12_tell_61 (by decide) ?_
        refine lv_iadd hx hb dX12_tell_62 ?_
        obtain ⟨σ_16, eσ_16, h⟩ := hl_ex h
        refine g_putI C hH 0 (Nat.le_of_ble_eq_true rfl) rfl fp_X12_251 rfl rfl (Nat.le_of_ble_eq_true rfl) rfl dX12_tell_63 (fun H locs hH => ?_)
        rw [← eσ_16] at hH
        refine lv_aload_n hx hb dX12_tell_66 rfl (lv_at hl 0 rfl) ?_
        refine g_get C hH 0 (Nat.le_of_ble_eq_true rfl) rfl fl_X12_251 (v := .int (σ_16.1 0 57)) rfl dX12_tell_67 ?_
        refine lv_iconst (v := 1) hx hb dX12_tell_70 (by decide) ?_
        refine lv_isub hx hb dX12_tell_71 ?_
        exact g_ret C hH h dX12_tell_72
      · rw [if_pos hq_9] at h
        refine lv_iconst (v := (-1)) hx hb dX12_tell_24 (by decide) ?_
        exact g_ret C hH h dX12_tell_25
-- X12_forget
def FX12_forget (σ : HS) : Option (Int32 × HS) :=
  hl_ (σ.1 0 57) fun x1_1 => hl_ (pI σ 0 57 (0 : Int32)) fun σ_2 => some (x1_1, σ_2)
set_option maxHeartbeats 4000000 in
set_option maxRecDepth 100000 in
theorem kX12_forget (l : Launch) (D : va_G) (ad : Nat → Nat) (κ : KC) {σ : HS} {R : (Int32 × HS)} (h : FX12_forget σ = some R) : MtI l 45 ceM D ad κ yX12_forget cX12_forget 2 (some .int) ({ frames := 0, cells := 0, slots := 0, locals := 0 } : Room) [.ref (ad 0)] σ R := by
  refine open_ (by decide) (Nat.le_of_ble_eq_true rfl) (la := [(0, .ref (ad 0))]) rfl ?_
  intro p e s m below meth c ls C hH hl
  replace C : Cx 45 D ad κ p s m _ meth c cX12_forget RX12 2 (some .int) := C
  have hx := C.1
  have hb := C.2.1
  have hown := C.2.2.2.1
  have hts := C.2.2.2.2.1
  rw [FX12_forget] at h
  refine lv_aload_n hx hb dX12_forget_0 rfl (lv_at hl 0 rfl) ?_
  refine g_get C hH 0 (Nat.le_of_ble_eq_true rfl) rfl fl_X12_251 (v := .int (σ.1 0 57)) rfl dX12_forget_1 ?_
  obtain ⟨x1_1, ex1_1, h⟩ := hl_ex h
  refine lv_eqi ex1_1 ?_
  refine lv_istore_n (lv' := [(1, .int x1_1), (0, .ref (ad 0))]) hx hb dX12_forget_4 rfl hl (by decide) rfl (fun ls hl => ?_)
  refine lv_aload_n hx hb dX12_forget_5 rfl (lv_at hl 1 rfl) ?_
  refine lv_iconst (v := 0) hx hb dX12_forget_6 (by decide) ?_
  obtain ⟨σ_2, eσ_2, h⟩ := hl_ex h
  refine g_putI C hH 0 (Nat.le_of_ble_eq_true rfl) rfl fp_X12_251 rfl rfl (Nat.le_of_ble_eq_true rfl) rfl dX12_forget_7 (fun H locs hH => ?_)
  rw [← eσ_2] at hH
  refine lv_iload_n hx hb dX12_forget_10 rfl (lv_at hl 0 rfl) ?_
  exact g_ret C hH h dX12_forget_11
-- X12_isSo
def FX12_isSo_41 (k12 : Int32 → Int32 → Int32 → HS → Option (Int32 × HS)) (x1 : Int32) (x2 : Int32) (x3 : Int32) (y0 : Int32) (σ : HS) : Option (Int32 × HS) :=
  gd (ix x3 20) (if y0 = (σ.1 41 (x3.toNatClampNeg)) then k12 x1 x2 (x3 + 1) σ else some ((0 : Int32), σ))
def FX12_isSo_12  : Nat → Int32 → Int32 → Int32 → HS → Option (Int32 × HS)
  | 0, _, _, _, _ => none
  | f + 1, x1, x2, x3, σ => if x2 ≤ x3 then some ((1 : Int32), σ) else gd (ix x3 20) (bdI (FX12_partBy x1 (σ.1 39 (x3.toNatClampNeg)) σ) fun r_5 σ_6 => gd (ix x3 20) (if r_5 = (σ_6.1 40 (x3.toNatClampNeg)) then FX12_isSo_41 (FX12_isSo_12  f) x1 x2 x3 (1 : Int32) σ_6 else FX12_isSo_41 (FX12_isSo_12  f) x1 x2 x3 (0 : Int32) σ_6))
def FX12_isSo (x1 : Int32) (x2 : Int32) (σ : HS) : Option (Int32 × HS) :=
  bdI (FX12_canBe x1 σ) fun r_10 σ_11 => if r_10 = 0 then some ((0 : Int32), σ_11) else FX12_isSo_12 fu x1 x2 (0 : Int32) σ_11
set_option maxHeartbeats 4000000 in
set_option maxRecDepth 100000 in
theorem wX12_isSo_41 (C : Cx 45 D ad κ p s m args meth c cX12_isSo RX12 4 (some .boolean)) {R : (Int32 × HS)} {k12 : Int32 → Int32 → Int32 → HS → Option (Int32 × HS)} (K12 : ∀ (x1 : Int32) (x2 : Int32) (x3 : Int32) (σ : HS) (H : Heap) (locs : List Loc) (ls : Array Slot), k12 x1 x2 x3 σ = some R → Hd 45 ceM D ad κ s σ H locs → lv_has ls 4 [(0, .ref (ad 0)), (1, .int x1), (2, .int x2), (3, .int x3)] → W p l e ({ frames := 2, cells := 0, slots := 0, locals := 42 } : Room) s m args below meth c H locs 0 0 (MQ below (QI 45 ceM D ad κ R) args s 0 0 (AX 45 ad)) (F0 m 12 ls [])) : ∀ (x1 : Int32) (x2 : Int32) (x3 : Int32) (y0 : Int32) (σ : HS) (H : Heap) (locs : List Loc) (ls : Array Slot), FX12_isSo_41 k12 x1 x2 x3 y0 σ = some R → Hd 45 ceM D ad κ s σ H locs → lv_has ls 4 [(0, .ref (ad 0)), (1, .int x1), (2, .int x2), (3, .int x3)] → W p l e ({ frames := 2, cells := 0, slots := 0, locals := 42 } : Room) s m args below meth c H locs 0 0 (MQ below (QI 45 ceM D ad κ R) args s 0 0 (AX 45 ad)) (F0 m 41 ls [.int y0]) := by
  have hx := C.1
  have hb := C.2.1
  have hown := C.2.2.2.1
  have hts := C.2.2.2.2.1
  intro x1 x2 x3 y0 σ H locs ls h hH hl
  rw [FX12_isSo_41] at h
  refine lv_aload_n hx hb dX12_isSo_41 rfl (lv_at hl 0 rfl) ?_
  refine g_get C hH 0 (Nat.le_of_ble_eq_true rfl) rfl fl_X12_140 (v := .ref (ad 41)) rfl dX12_isSo_42 ?_
  refine lv_iload_n hx hb dX12_isSo_45 rfl (lv_at hl 3 rfl) ?_
  obtain ⟨hi_1, h⟩ := gd_ex h
  refine g_zald C hH 41 (Nat.le_of_ble_eq_true rfl) rfl (k := (x3.toNatClampNeg)) rfl (ix_in hi_1) dX12_isSo_46 ?_
  refine lv_icmp_eq (tgt := 52) hx hb dX12_isSo_47 (by decide) (fun hq_2 => ?_) (fun hq_2 => ?_)
  · rw [if_pos hq_2] at h
    refine lv_iinc (v := (x3 + 1)) (lv' := [(3, .int (x3 + 1)), (0, .ref (ad 0)), (1, .int x1), (2, .int x2)]) hx hb dX12_isSo_52 hl (k := 3) rfl rfl (by decide) rfl (fun ls hl => ?_)
    refine lv_goto (tgt := 12) hx hb dX12_isSo_55 (by decide) ?_
    exact K12 _ _ _ _ _ _ _ h hH (lv_sub hl [1, 2, 3, 0] rfl)
  · rw [if_neg hq_2] at h
    refine lv_iconst (v := 0) hx hb dX12_isSo_50 (by decide) ?_
    exact g_retZ C hH rfl h dX12_isSo_51
set_option maxHeartbeats 4000000 in
set_option maxRecDepth 100000 in
theorem wX12_isSo_12 (C : Cx 45 D ad κ p s m args meth c cX12_isSo RX12 4 (some .boolean)) {R : (Int32 × HS)} : ∀ (f : Nat) (x1 : Int32) (x2 : Int32) (x3 : Int32) (σ : HS) (H : Heap) (locs : List Loc) (ls : Array Slot), FX12_isSo_12  f x1 x2 x3 σ = some R → Hd 45 ceM D ad κ s σ H locs → lv_has ls 4 [(0, .ref (ad 0)), (1, .int x1), (2, .int x2), (3, .int x3)] → W p l e ({ frames := 2, cells := 0, slots := 0, locals := 42 } : Room) s m args below meth c H locs 0 0 (MQ below (QI 45 ceM D ad κ R) args s 0 0 (AX 45 ad)) (F0 m 12 ls []) := by
  have hx := C.1
  have hb := C.2.1
  have hown := C.2.2.2.1
  have hts := C.2.2.2.2.1
  intro f
  induction f with
  | zero =>
    intro x1 x2 x3 σ H locs ls h hH hl
    cases h
  | succ f ih =>
    intro x1 x2 x3 σ H locs ls h hH hl
    rw [FX12_isSo_12] at h
    refine lv_iload_n hx hb dX12_isSo_12 rfl (lv_at hl 3 rfl) ?_
    refine lv_iload_n hx hb dX12_isSo_13 rfl (lv_at hl 2 rfl) ?_
    refine lv_icmp_ge (tgt := 58) hx hb dX12_isSo_14 (by decide) (fun hq_3 => ?_) (fun hq_3 => ?_)
    · rw [if_pos hq_3] at h
      refine lv_iconst (v := 1) hx hb dX12_isSo_58 (by decide) ?_
      exact g_retZ C hH rfl h dX12_isSo_59
    · rw [if_neg hq_3] at h
      refine lv_iload_n hx hb dX12_isSo_17 rfl (lv_at hl 1 rfl) ?_
      refine lv_aload_n hx hb dX12_isSo_18 rfl (lv_at hl 0 rfl) ?_
      refine g_get C hH 0 (Nat.le_of_ble_eq_true rfl) rfl fl_X12_134 (v := .ref (ad 39)) rfl dX12_isSo_19 ?_
      refine lv_iload_n hx hb dX12_isSo_22 rfl (lv_at hl 3 rfl) ?_
      obtain ⟨hi_4, h⟩ := gd_ex h
      refine g_iald C hH 39 (Nat.le_of_ble_eq_true rfl) rfl (k := (x3.toNatClampNeg)) rfl (ix_in hi_4) dX12_isSo_23 ?_
      obtain ⟨r_5, σ_6, hc_7, h⟩ := bdI_ex h
      refine g_ci (g_runS (rest := []) C hH hl.1 cS_X12_342 (kX12_partBy l D ad κ hc_7) ⟨rfl, rfl⟩ ⟨(Nat.le_of_ble_eq_true rfl), (Nat.le_of_ble_eq_true rfl)⟩ rfl rfl (Nat.le_of_ble_eq_true rfl) dX12_isSo_24 z00) hH (fun H locs hH => ?_)
      refine lv_aload_n hx hb dX12_isSo_27 rfl (lv_at hl 0 rfl) ?_
      refine g_get C hH 0 (Nat.le_of_ble_eq_true rfl) rfl fl_X12_137 (v := .ref (ad 40)) rfl dX12_isSo_28 ?_
      refine lv_iload_n hx hb dX12_isSo_31 rfl (lv_at hl 3 rfl) ?_
      obtain ⟨hi_8, h⟩ := gd_ex h
      refine g_iald C hH 40 (Nat.le_of_ble_eq_true rfl) rfl (k := (x3.toNatClampNeg)) rfl (ix_in hi_8) dX12_isSo_32 ?_
      refine lv_icmp_ne (tgt := 40) hx hb dX12_isSo_33 (by decide) (fun hq_9 => ?_) (fun hq_9 => ?_)
      · rw [if_neg hq_9] at h
        refine lv_iconst (v := 0) hx hb dX12_isSo_40 (by decide) ?_
        exact wX12_isSo_41 C ih  _ _ _ _ _ _ _ _ h hH (lv_sub hl [0, 1, 2, 3] rfl)
      · rw [if_pos hq_9] at h
        refine lv_iconst (v := 1) hx hb dX12_isSo_36 (by decide) ?_
        refine lv_goto (tgt := 41) hx hb dX12_isSo_37 (by decide) ?_
        exact wX12_isSo_41 C ih  _ _ _ _ _ _ _ _ h hH (lv_sub hl [0, 1, 2, 3] rfl)
set_option maxHeartbeats 4000000 in
set_option maxRecDepth 100000 in
theorem kX12_isSo (l : Launch) (D : va_G) (ad : Nat → Nat) (κ : KC) {x1 : Int32} {x2 : Int32} {σ : HS} {R : (Int32 × HS)} (h : FX12_isSo x1 x2 σ = some R) : MtI l 45 ceM D ad κ yX12_isSo cX12_isSo 4 (some .boolean) ({ frames := 2, cells := 0, slots := 0, locals := 42 } : Room) [.ref (ad 0), .int x1, .int x2] σ R := by
  refine open_ (by decide) (Nat.le_of_ble_eq_true rfl) (la := [(0, .ref (ad 0)), (1, .int x1), (2, .int x2)]) rfl ?_
  intro p e s m below meth c ls C hH hl
  replace C : Cx 45 D ad κ p s m _ meth c cX12_isSo RX12 4 (some .boolean) := C
  have hx := C.1
  have hb := C.2.1
  have hown := C.2.2.2.1
  have hts := C.2.2.2.2.1
  rw [FX12_isSo] at h
  refine lv_aload_n hx hb dX12_isSo_0 rfl (lv_at hl 0 rfl) ?_
  refine lv_iload_n hx hb dX12_isSo_1 rfl (lv_at hl 1 rfl) ?_
  obtain ⟨r_10, σ_11, hc_12, h⟩ := bdI_ex h
  refine g_ci (g_runV (rest := []) C hH hl.1 cV_X12_431 0 (Nat.le_of_ble_eq_true rfl) rfl rfl (kX12_canBe l D ad κ hc_12) ⟨rfl, rfl⟩ ⟨(Nat.le_of_ble_eq_true rfl), (Nat.le_of_ble_eq_true rfl)⟩ rfl rfl (Nat.le_of_ble_eq_true rfl) dX12_isSo_2 z00) hH (fun H locs hH => ?_)
  refine lv_if_ne (tgt := 10) hx hb dX12_isSo_5 (by decide) (fun hq_13 => ?_) (fun hq_13 => ?_)
  · rw [if_neg hq_13] at h
    refine lv_iconst (v := 0) hx hb dX12_isSo_10 (by decide) ?_
    refine lv_istore_n (lv' := [(3, .int (0 : Int32)), (0, .ref (ad 0)), (1, .int x1), (2, .int x2)]) hx hb dX12_isSo_11 rfl hl (by decide) rfl (fun ls hl => ?_)
    exact wX12_isSo_12 C _ _ _ _ _ _ _ _ h hH (lv_sub hl [1, 2, 3, 0] rfl)
  · rw [if_pos hq_13] at h
    refine lv_iconst (v := 0) hx hb dX12_isSo_8 (by decide) ?_
    exact g_retZ C hH rfl h dX12_isSo_9
-- X12_when
def FX12_when_81 (k49 : Int32 → Int32 → Int32 → Int32 → Int32 → Int32 → Int32 → HS → Option (Int32 × HS)) (x1 : Int32) (x2 : Int32) (x3 : Int32) (x4 : Int32) (x5 : Int32) (x6 : Int32) (x7 : Int32) (σ : HS) : Option (Int32 × HS) :=
  hl_ (x5 &&& x7) fun x5_1 => hl_ (x6 ||| x7) fun x6_2 => k49 x1 x2 (x3 + 1) x4 x5_1 x6_2 (x7 + 1) σ
def FX12_when_49  : Nat → Int32 → Int32 → Int32 → Int32 → Int32 → Int32 → Int32 → HS → Option (Int32 × HS)
  | 0, _, _, _, _, _, _, _, _ => none
  | f + 1, x1, x2, x3, x4, x5, x6, x7, σ => bdI (FX12_many σ) fun r_3 σ_4 => if ((1 : Int32) <<< (r_3 &&& 31)) ≤ x7 then if x2 = 0 then some (x3, σ_4) else if x3 = 0 then some ((-2 : Int32), σ_4) else if x2 = (1 : Int32) then some (x4, σ_4) else if x2 = (2 : Int32) then some (x5, σ_4) else bdI (FX12_many σ_4) fun r_11 σ_12 => some (((((1 : Int32) <<< (r_11 &&& 31)) - (1 : Int32)) &&& (x6 ^^^ (-1 : Int32))), σ_12) else bdI (FX12_isSo x7 x1 σ_4) fun r_14 σ_15 => if r_14 = 0 then FX12_when_49  f x1 x2 x3 x4 x5 x6 (x7 + 1) σ_15 else if x3 = 0 then FX12_when_81 (FX12_when_49  f) x1 x2 x3 x7 x5 x6 x7 σ_15 else FX12_when_81 (FX12_when_49  f) x1 x2 x3 x4 x5 x6 x7 σ_15
def FX12_when (x1 : Int32) (x2 : Int32) (σ : HS) : Option (Int32 × HS) :=
  bdI (FX12_in x1 (0 : Int32) (σ.1 0 57) σ) fun r_19 σ_20 => if r_19 = 0 then some ((-1 : Int32), σ_20) else bdI (FX12_in x2 (0 : Int32) (3 : Int32) σ_20) fun r_23 σ_24 => if r_23 = 0 then some ((-1 : Int32), σ_24) else bdV (FX12_copiesFalls σ_24) fun σ_27 => bdI (FX12_many σ_27) fun r_29 σ_30 => hl_ (((1 : Int32) <<< (r_29 &&& 31)) - (1 : Int32)) fun x5_32 => FX12_when_49 fu x1 x2 (0 : Int32) (-2 : Int32) x5_32 (0 : Int32) (0 : Int32) σ_30
set_option maxHeartbeats 4000000 in
set_option maxRecDepth 100000 in
theorem wX12_when_81 (C : Cx 45 D ad κ p s m args meth c cX12_when RX12 8 (some .int)) {R : (Int32 × HS)} {k49 : Int32 → Int32 → Int32 → Int32 → Int32 → Int32 → Int32 → HS → Option (Int32 × HS)} (K49 : ∀ (x1 : Int32) (x2 : Int32) (x3 : Int32) (x4 : Int32) (x5 : Int32) (x6 : Int32) (x7 : Int32) (σ : HS) (H : Heap) (locs : List Loc) (ls : Array Slot), k49 x1 x2 x3 x4 x5 x6 x7 σ = some R → Hd 45 ceM D ad κ s σ H locs → lv_has ls 8 [(0, .ref (ad 0)), (1, .int x1), (2, .int x2), (3, .int x3), (4, .int x4), (5, .int x5), (6, .int x6), (7, .int x7)] → W p l e ({ frames := 5, cells := 0, slots := 0, locals := 117 } : Room) s m args below meth c H locs 0 0 (MQ below (QI 45 ceM D ad κ R) args s 0 0 (AX 45 ad)) (F0 m 49 ls [])) : ∀ (x1 : Int32) (x2 : Int32) (x3 : Int32) (x4 : Int32) (x5 : Int32) (x6 : Int32) (x7 : Int32) (σ : HS) (H : Heap) (locs : List Loc) (ls : Array Slot), FX12_when_81 k49 x1 x2 x3 x4 x5 x6 x7 σ = some R → Hd 45 ceM D ad κ s σ H locs → lv_has ls 8 [(0, .ref (ad 0)), (1, .int x1), (2, .int x2), (3, .int x3), (4, .int x4), (5, .int x5), (6, .int x6), (7, .int x7)] → W p l e ({ frames := 5, cells := 0, slots := 0, locals := 117 } : Room) s m args below meth c H locs 0 0 (MQ below (QI 45 ceM D ad κ R) args s 0 0 (AX 45 ad)) (F0 m 81 ls []) := by
  have hx := C.1
  have hb := C.2.1
  have hown := C.2.2.2.1
  have hts := C.2.2.2.2.1
  intro x1 x2 x3 x4 x5 x6 x7 σ H locs ls h hH hl
  rw [FX12_when_81] at h
  refine lv_iinc (v := (x3 + 1)) (lv' := [(3, .int (x3 + 1)), (0, .ref (ad 0)), (1, .int x1), (2, .int x2), (4, .int x4), (5, .int x5), (6, .int x6), (7, .int x7)]) hx hb dX12_when_81 hl (k := 3) rfl rfl (by decide) rfl (fun ls hl => ?_)
  refine lv_iload hx hb dX12_when_84 (lv_at hl 5 rfl) ?_
  refine lv_iload hx hb dX12_when_86 (lv_at hl 7 rfl) ?_
  refine lv_iand hx hb dX12_when_88 ?_
  obtain ⟨x5_1, ex5_1, h⟩ := hl_ex h
  refine lv_eqi ex5_1 ?_
  refine lv_istore (lv' := [(5, .int x5_1), (3, .int (x3 + 1)), (0, .ref (ad 0)), (1, .int x1), (2, .int x2), (4, .int x4), (6, .int x6), (7, .int x7)]) hx hb dX12_when_89 hl (by decide) rfl (fun ls hl => ?_)
  refine lv_iload hx hb dX12_when_91 (lv_at hl 6 rfl) ?_
  refine lv_iload hx hb dX12_when_93 (lv_at hl 7 rfl) ?_
  refine lv_ior hx hb dX12_when_95 ?_
  obtain ⟨x6_2, ex6_2, h⟩ := hl_ex h
  refine lv_eqi ex6_2 ?_
  refine lv_istore (lv' := [(6, .int x6_2), (5, .int x5_1), (3, .int (x3 + 1)), (0, .ref (ad 0)), (1, .int x1), (2, .int x2), (4, .int x4), (7, .int x7)]) hx hb dX12_when_96 hl (by decide) rfl (fun ls hl => ?_)
  refine lv_iinc (v := (x7 + 1)) (lv' := [(7, .int (x7 + 1)), (6, .int x6_2), (5, .int x5_1), (3, .int (x3 + 1)), (0, .ref (ad 0)), (1, .int x1), (2, .int x2), (4, .int x4)]) hx hb dX12_when_98 hl (k := 7) rfl rfl (by decide) rfl (fun ls hl => ?_)
  refine lv_goto (tgt := 49) hx hb dX12_when_101 (by decide) ?_
  exact K49 _ _ _ _ _ _ _ _ _ _ _ h hH (lv_sub hl [4, 5, 6, 3, 7, 2, 1, 0] rfl)
set_option maxHeartbeats 4000000 in
set_option maxRecDepth 100000 in
theorem wX12_when_49 (C : Cx 45 D ad κ p s m args meth c cX12_when RX12 8 (some .int)) {R : (Int32 × HS)} : ∀ (f : Nat) (x1 : Int32) (x2 : Int32) (x3 : Int32) (x4 : Int32) (x5 : Int32) (x6 : Int32) (x7 : Int32) (σ : HS) (H : Heap) (locs : List Loc) (ls : Array Slot), FX12_when_49  f x1 x2 x3 x4 x5 x6 x7 σ = some R → Hd 45 ceM D ad κ s σ H locs → lv_has ls 8 [(0, .ref (ad 0)), (1, .int x1), (2, .int x2), (3, .int x3), (4, .int x4), (5, .int x5), (6, .int x6), (7, .int x7)] → W p l e ({ frames := 5, cells := 0, slots := 0, locals := 117 } : Room) s m args below meth c H locs 0 0 (MQ below (QI 45 ceM D ad κ R) args s 0 0 (AX 45 ad)) (F0 m 49 ls []) := by
  have hx := C.1
  have hb := C.2.1
  have hown := C.2.2.2.1
  have hts := C.2.2.2.2.1
  intro f
  induction f with
  | zero =>
    intro x1 x2 x3 x4 x5 x6 x7 σ H locs ls h hH hl
    cases h
  | succ f ih =>
    intro x1 x2 x3 x4 x5 x6 x7 σ H locs ls h hH hl
    rw [FX12_when_49] at h
    refine lv_iload hx hb dX12_when_49 (lv_at hl 7 rfl) ?_
    refine lv_iconst (v := 1) hx hb dX12_when_51 (by decide) ?_
    refine lv_aload_n hx hb dX12_when_52 rfl (lv_at hl 0 rfl) ?_
    obtain ⟨r_3, σ_4, hc_5, h⟩ := bdI_ex h
    refine g_ci (g_runV (rest := [.int (1 : Int32), .int x7]) C hH hl.1 cV_X12_306 0 (Nat.le_of_ble_eq_true rfl) rfl rfl (kX12_many l D ad κ hc_5) ⟨rfl, rfl⟩ ⟨(Nat.le_of_ble_eq_true rfl), (Nat.le_of_ble_eq_true rfl)⟩ rfl rfl (Nat.le_of_ble_eq_true rfl) dX12_when_53 z00) hH (fun H locs hH => ?_)
    refine lv_ishl hx hb dX12_when_56 ?_
    refine lv_icmp_ge (tgt := 104) hx hb dX12_when_57 (by decide) (fun hq_6 => ?_) (fun hq_6 => ?_)
    · rw [if_pos hq_6] at h
      refine lv_iload_n hx hb dX12_when_104 rfl (lv_at hl 2 rfl) ?_
      refine lv_if_ne (tgt := 110) hx hb dX12_when_105 (by decide) (fun hq_7 => ?_) (fun hq_7 => ?_)
      · rw [if_neg hq_7] at h
        refine lv_iload_n hx hb dX12_when_110 rfl (lv_at hl 3 rfl) ?_
        refine lv_if_ne (tgt := 117) hx hb dX12_when_111 (by decide) (fun hq_8 => ?_) (fun hq_8 => ?_)
        · rw [if_neg hq_8] at h
          refine lv_iload_n hx hb dX12_when_117 rfl (lv_at hl 2 rfl) ?_
          refine lv_iconst (v := 1) hx hb dX12_when_118 (by decide) ?_
          refine lv_icmp_ne (tgt := 127) hx hb dX12_when_119 (by decide) (fun hq_9 => ?_) (fun hq_9 => ?_)
          · rw [if_neg hq_9] at h
            refine lv_iload_n hx hb dX12_when_127 rfl (lv_at hl 2 rfl) ?_
            refine lv_iconst (v := 2) hx hb dX12_when_128 (by decide) ?_
            refine lv_icmp_ne (tgt := 137) hx hb dX12_when_129 (by decide) (fun hq_10 => ?_) (fun hq_10 => ?_)
            · rw [if_neg hq_10] at h
              refine lv_iconst (v := 1) hx hb dX12_when_137 (by decide) ?_
              refine lv_aload_n hx hb dX12_when_138 rfl (lv_at hl 0 rfl) ?_
              obtain ⟨r_11, σ_12, hc_13, h⟩ := bdI_ex h
              refine g_ci (g_runV (rest := [.int (1 : Int32)]) C hH hl.1 cV_X12_306 0 (Nat.le_of_ble_eq_true rfl) rfl rfl (kX12_many l D ad κ hc_13) ⟨rfl, rfl⟩ ⟨(Nat.le_of_ble_eq_true rfl), (Nat.le_of_ble_eq_true rfl)⟩ rfl rfl (Nat.le_of_ble_eq_true rfl) dX12_when_139 z00) hH (fun H locs hH => ?_)
              refine lv_ishl hx hb dX12_when_142 ?_
              refine lv_iconst (v := 1) hx hb dX12_when_143 (by decide) ?_
              refine lv_isub hx hb dX12_when_144 ?_
              refine lv_iload hx hb dX12_when_145 (lv_at hl 6 rfl) ?_
              refine lv_iconst (v := (-1)) hx hb dX12_when_147 (by decide) ?_
              refine lv_ixor hx hb dX12_when_148 ?_
              refine lv_iand hx hb dX12_when_149 ?_
              exact g_ret C hH h dX12_when_150
            · rw [if_pos hq_10] at h
              refine lv_iload hx hb dX12_when_132 (lv_at hl 5 rfl) ?_
              refine lv_goto (tgt := 150) hx hb dX12_when_134 (by decide) ?_
              exact g_ret C hH h dX12_when_150
          · rw [if_pos hq_9] at h
            refine lv_iload hx hb dX12_when_122 (lv_at hl 4 rfl) ?_
            refine lv_goto (tgt := 150) hx hb dX12_when_124 (by decide) ?_
            exact g_ret C hH h dX12_when_150
        · rw [if_pos hq_8] at h
          refine lv_bipush (v := (-2)) hx hb dX12_when_114 (by decide) ?_
          exact g_ret C hH h dX12_when_116
      · rw [if_pos hq_7] at h
        refine lv_iload_n hx hb dX12_when_108 rfl (lv_at hl 3 rfl) ?_
        exact g_ret C hH h dX12_when_109
    · rw [if_neg hq_6] at h
      refine lv_aload_n hx hb dX12_when_60 rfl (lv_at hl 0 rfl) ?_
      refine lv_iload hx hb dX12_when_61 (lv_at hl 7 rfl) ?_
      refine lv_iload_n hx hb dX12_when_63 rfl (lv_at hl 1 rfl) ?_
      obtain ⟨r_14, σ_15, hc_16, h⟩ := bdI_ex h
      refine g_ci (g_runV (rest := []) C hH hl.1 cV_X12_446 0 (Nat.le_of_ble_eq_true rfl) rfl rfl (kX12_isSo l D ad κ hc_16) ⟨rfl, rfl⟩ ⟨(Nat.le_of_ble_eq_true rfl), (Nat.le_of_ble_eq_true rfl)⟩ rfl rfl (Nat.le_of_ble_eq_true rfl) dX12_when_64 z00) hH (fun H locs hH => ?_)
      refine lv_if_ne (tgt := 73) hx hb dX12_when_67 (by decide) (fun hq_17 => ?_) (fun hq_17 => ?_)
      · rw [if_neg hq_17] at h
        refine lv_iload_n hx hb dX12_when_73 rfl (lv_at hl 3 rfl) ?_
        refine lv_if_ne (tgt := 81) hx hb dX12_when_74 (by decide) (fun hq_18 => ?_) (fun hq_18 => ?_)
        · rw [if_neg hq_18] at h
          exact wX12_when_81 C ih  _ _ _ _ _ _ _ _ _ _ _ h hH (lv_sub hl [0, 1, 2, 3, 4, 5, 6, 7] rfl)
        · rw [if_pos hq_18] at h
          refine lv_iload hx hb dX12_when_77 (lv_at hl 7 rfl) ?_
          refine lv_istore (lv' := [(4, .int x7), (0, .ref (ad 0)), (1, .int x1), (2, .int x2), (3, .int x3), (5, .int x5), (6, .int x6), (7, .int x7)]) hx hb dX12_when_79 hl (by decide) rfl (fun ls hl => ?_)
          exact wX12_when_81 C ih  _ _ _ _ _ _ _ _ _ _ _ h hH (lv_sub hl [1, 2, 3, 4, 0, 5, 6, 7] rfl)
      · rw [if_pos hq_17] at h
        refine lv_goto (tgt := 98) hx hb dX12_when_70 (by decide) ?_
        refine lv_iinc (v := (x7 + 1)) (lv' := [(7, .int (x7 + 1)), (0, .ref (ad 0)), (1, .int x1), (2, .int x2), (3, .int x3), (4, .int x4), (5, .int x5), (6, .int x6)]) hx hb dX12_when_98 hl (k := 7) rfl rfl (by decide) rfl (fun ls hl => ?_)
        refine lv_goto (tgt := 49) hx hb dX12_when_101 (by decide) ?_
        exact ih _ _ _ _ _ _ _ _ _ _ _ h hH (lv_sub hl [1, 2, 3, 4, 5, 6, 7, 0] rfl)
set_option maxHeartbeats 4000000 in
set_option maxRecDepth 100000 in
theorem kX12_when (l : Launch) (D : va_G) (ad : Nat → Nat) (κ : KC) {x1 : Int32} {x2 : Int32} {σ : HS} {R : (Int32 × HS)} (h : FX12_when x1 x2 σ = some R) : MtI l 45 ceM D ad κ yX12_when cX12_when 8 (some .int) ({ frames := 5, cells := 0, slots := 0, locals := 117 } : Room) [.ref (ad 0), .int x1, .int x2] σ R := by
  refine open_ (by decide) (Nat.le_of_ble_eq_true rfl) (la := [(0, .ref (ad 0)), (1, .int x1), (2, .int x2)]) rfl ?_
  intro p e s m below meth c ls C hH hl
  replace C : Cx 45 D ad κ p s m _ meth c cX12_when RX12 8 (some .int) := C
  have hx := C.1
  have hb := C.2.1
  have hown := C.2.2.2.1
  have hts := C.2.2.2.2.1
  rw [FX12_when] at h
  refine lv_iload_n hx hb dX12_when_0 rfl (lv_at hl 1 rfl) ?_
  refine lv_iconst (v := 0) hx hb dX12_when_1 (by decide) ?_
  refine lv_aload_n hx hb dX12_when_2 rfl (lv_at hl 0 rfl) ?_
  refine g_get C hH 0 (Nat.le_of_ble_eq_true rfl) rfl fl_X12_251 (v := .int (σ.1 0 57)) rfl dX12_when_3 ?_
  obtain ⟨r_19, σ_20, hc_21, h⟩ := bdI_ex h
  refine g_ci (g_runS (rest := []) C hH hl.1 cS_X12_310 (kX12_in l D ad κ hc_21) ⟨rfl, rfl⟩ ⟨(Nat.le_of_ble_eq_true rfl), (Nat.le_of_ble_eq_true rfl)⟩ rfl rfl (Nat.le_of_ble_eq_true rfl) dX12_when_6 z00) hH (fun H locs hH => ?_)
  refine lv_if_eq (tgt := 21) hx hb dX12_when_9 (by decide) (fun hq_22 => ?_) (fun hq_22 => ?_)
  · rw [if_pos hq_22] at h
    refine lv_iconst (v := (-1)) hx hb dX12_when_21 (by decide) ?_
    exact g_ret C hH h dX12_when_22
  · rw [if_neg hq_22] at h
    refine lv_iload_n hx hb dX12_when_12 rfl (lv_at hl 2 rfl) ?_
    refine lv_iconst (v := 0) hx hb dX12_when_13 (by decide) ?_
    refine lv_iconst (v := 3) hx hb dX12_when_14 (by decide) ?_
    obtain ⟨r_23, σ_24, hc_25, h⟩ := bdI_ex h
    refine g_ci (g_runS (rest := []) C hH hl.1 cS_X12_310 (kX12_in l D ad κ hc_25) ⟨rfl, rfl⟩ ⟨(Nat.le_of_ble_eq_true rfl), (Nat.le_of_ble_eq_true rfl)⟩ rfl rfl (Nat.le_of_ble_eq_true rfl) dX12_when_15 z00) hH (fun H locs hH => ?_)
    refine lv_if_ne (tgt := 23) hx hb dX12_when_18 (by decide) (fun hq_26 => ?_) (fun hq_26 => ?_)
    · rw [if_neg hq_26] at h
      refine lv_aload_n hx hb dX12_when_23 rfl (lv_at hl 0 rfl) ?_
      obtain ⟨σ_27, hc_28, h⟩ := bdV_ex h
      refine g_cv (g_runV (rest := []) C hH hl.1 cV_X12_406 0 (Nat.le_of_ble_eq_true rfl) rfl rfl (kX12_copiesFalls l D ad κ hc_28) ⟨rfl, rfl⟩ ⟨(Nat.le_of_ble_eq_true rfl), (Nat.le_of_ble_eq_true rfl)⟩ rfl rfl (Nat.le_of_ble_eq_true rfl) dX12_when_24 z00) hH (fun H locs hH => ?_)
      refine lv_iconst (v := 0) hx hb dX12_when_27 (by decide) ?_
      refine lv_istore_n (lv' := [(3, .int (0 : Int32)), (0, .ref (ad 0)), (1, .int x1), (2, .int x2)]) hx hb dX12_when_28 rfl hl (by decide) rfl (fun ls hl => ?_)
      refine lv_bipush (v := (-2)) hx hb dX12_when_29 (by decide) ?_
      refine lv_istore (lv' := [(4, .int (-2 : Int32)), (3, .int (0 : Int32)), (0, .ref (ad 0)), (1, .int x1), (2, .int x2)]) hx hb dX12_when_31 hl (by decide) rfl (fun ls hl => ?_)
      refine lv_iconst (v := 1) hx hb dX12_when_33 (by decide) ?_
      refine lv_aload_n hx hb dX12_when_34 rfl (lv_at hl 2 rfl) ?_
      obtain ⟨r_29, σ_30, hc_31, h⟩ := bdI_ex h
      refine g_ci (g_runV (rest := [.int (1 : Int32)]) C hH hl.1 cV_X12_306 0 (Nat.le_of_ble_eq_true rfl) rfl rfl (kX12_many l D ad κ hc_31) ⟨rfl, rfl⟩ ⟨(Nat.le_of_ble_eq_true rfl), (Nat.le_of_ble_eq_true rfl)⟩ rfl rfl (Nat.le_of_ble_eq_true rfl) dX12_when_35 z00) hH (fun H locs hH => ?_)
      refine lv_ishl hx hb dX12_when_38 ?_
      refine lv_iconst (v := 1) hx hb dX12_when_39 (by decide) ?_
      refine lv_isub hx hb dX12_when_40 ?_
      obtain ⟨x5_32, ex5_32, h⟩ := hl_ex h
      refine lv_eqi ex5_32 ?_
      refine lv_istore (lv' := [(5, .int x5_32), (4, .int (-2 : Int32)), (3, .int (0 : Int32)), (0, .ref (ad 0)), (1, .int x1), (2, .int x2)]) hx hb dX12_when_41 hl (by decide) rfl (fun ls hl => ?_)
      refine lv_iconst (v := 0) hx hb dX12_when_43 (by decide) ?_
      refine lv_istore (lv' := [(6, .int (0 : Int32)), (5, .int x5_32), (4, .int (-2 : Int32)), (3, .int (0 : Int32)), (0, .ref (ad 0)), (1, .int x1), (2, .int x2)]) hx hb dX12_when_44 hl (by decide) rfl (fun ls hl => ?_)
      refine lv_iconst (v := 0) hx hb dX12_when_46 (by decide) ?_
      refine lv_istore (lv' := [(7, .int (0 : Int32)), (6, .int (0 : Int32)), (5, .int x5_32), (4, .int (-2 : Int32)), (3, .int (0 : Int32)), (0, .ref (ad 0)), (1, .int x1), (2, .int x2)]) hx hb dX12_when_47 hl (by decide) rfl (fun ls hl => ?_)
      exact wX12_when_49 C _ _ _ _ _ _ _ _ _ _ _ _ h hH (lv_sub hl [5, 6, 7, 4, 3, 2, 1, 0] rfl)
    · rw [if_pos hq_26] at h
      refine lv_iconst (v := (-1)) hx hb dX12_when_21 (by decide) ?_
      exact g_ret C hH h dX12_when_22
-- X12_ask
def FX12_ask_71 (k43 : Int32 → Int32 → Int32 → HS → Option (Int32 × HS)) : Nat → Int32 → Int32 → Int32 → Int32 → HS → Option (Int32 × HS)
  | 0, _, _, _, _, _ => none
  | f + 1, x1, x2, x3, x4, σ => bdI (FX12_many σ) fun r_1 σ_2 => if r_1 ≤ x4 then k43 x1 x2 (x3 + 1) σ_2 else gd (ix x4 10) (gd (ix x4 10) (hl_ (pI σ_2 42 (x4.toNatClampNeg) ((σ_2.1 42 (x4.toNatClampNeg)) + ((x3 >>> (x4 &&& 31)) &&& (1 : Int32)))) fun σ_7 => FX12_ask_71 k43 f x1 x2 x3 (x4 + 1) σ_7))
def FX12_ask_168 (k117 : Int32 → Int32 → Int32 → Int32 → Int32 → HS → Option (Int32 × HS)) (x1 : Int32) (x2 : Int32) (x3 : Int32) (x4 : Int32) (x5 : Int32) (y0 : Int32) (σ : HS) : Option (Int32 × HS) :=
  if x3 < 0 then k117 x1 x2 x5 y0 (x5 + 1) σ else if y0 < x4 then k117 x1 x2 x5 y0 (x5 + 1) σ else k117 x1 x2 x3 x4 (x5 + 1) σ
def FX12_ask_117  : Nat → Int32 → Int32 → Int32 → Int32 → Int32 → HS → Option (Int32 × HS)
  | 0, _, _, _, _, _, _ => none
  | f + 1, x1, x2, x3, x4, x5, σ => bdI (FX12_many σ) fun r_10 σ_11 => if r_10 ≤ x5 then some (x3, σ_11) else if x2 ≤ 0 then some (x3, σ_11) else gd (ix x5 10) (gd (ix x5 10) (if (σ_11.1 42 (x5.toNatClampNeg)) ≤ (x2 - (σ_11.1 42 (x5.toNatClampNeg))) then gd (ix x5 10) (FX12_ask_168 (FX12_ask_117  f) x1 x2 x3 x4 x5 (x2 - (σ_11.1 42 (x5.toNatClampNeg))) σ_11) else gd (ix x5 10) (FX12_ask_168 (FX12_ask_117  f) x1 x2 x3 x4 x5 (σ_11.1 42 (x5.toNatClampNeg)) σ_11)))
def FX12_ask_43  : Nat → Int32 → Int32 → Int32 → HS → Option (Int32 × HS)
  | 0, _, _, _, _ => none
  | f + 1, x1, x2, x3, σ => bdI (FX12_many σ) fun r_20 σ_21 => if ((1 : Int32) <<< (r_20 &&& 31)) ≤ x3 then FX12_ask_117 fu x1 x2 (-2 : Int32) (0 : Int32) (0 : Int32) σ_21 else bdI (FX12_isSo x3 x1 σ_21) fun r_24 σ_25 => if r_24 = 0 then FX12_ask_43  f x1 x2 (x3 + 1) σ_25 else FX12_ask_71 (FX12_ask_43  f) fu x1 (x2 + 1) x3 (0 : Int32) σ_25
def FX12_ask_22  : Nat → Int32 → Int32 → Int32 → HS → Option (Int32 × HS)
  | 0, _, _, _, _ => none
  | f + 1, x1, x2, x3, σ => if (10 : Int32) ≤ x3 then FX12_ask_43 fu x1 x2 (0 : Int32) σ else gd (ix x3 10) (hl_ (pI σ 42 (x3.toNatClampNeg) (0 : Int32)) fun σ_30 => FX12_ask_22  f x1 x2 (x3 + 1) σ_30)
def FX12_ask (x1 : Int32) (σ : HS) : Option (Int32 × HS) :=
  bdI (FX12_in x1 (0 : Int32) (σ.1 0 57) σ) fun r_31 σ_32 => if r_31 = 0 then some ((-1 : Int32), σ_32) else bdV (FX12_copiesFalls σ_32) fun σ_35 => FX12_ask_22 fu x1 (0 : Int32) (0 : Int32) σ_35
set_option maxHeartbeats 4000000 in
set_option maxRecDepth 100000 in
theorem wX12_ask_71 (C : Cx 45 D ad κ p s m args meth c cX12_ask RX12 7 (some .int)) {R : (Int32 × HS)} {k43 : Int32 → Int32 → Int32 → HS → Option (Int32 × HS)} (K43 : ∀ (x1 : Int32) (x2 : Int32) (x3 : Int32) (σ : HS) (H : Heap) (locs : List Loc) (ls : Array Slot), k43 x1 x2 x3 σ = some R → Hd 45 ceM D ad κ s σ H locs → lv_has ls 7 [(0, .ref (ad 0)), (1, .int x1), (2, .int x2), (3, .int x3)] → W p l e ({ frames := 5, cells := 0, slots := 0, locals := 117 } : Room) s m args below meth c H locs 0 0 (MQ below (QI 45 ceM D ad κ R) args s 0 0 (AX 45 ad)) (F0 m 43 ls [])) : ∀ (f : Nat) (x1 : Int32) (x2 : Int32) (x3 : Int32) (x4 : Int32) (σ : HS) (H : Heap) (locs : List Loc) (ls : Array Slot), FX12_ask_71 k43 f x1 x2 x3 x4 σ = some R → Hd 45 ceM D ad κ s σ H locs → lv_has ls 7 [(0, .ref (ad 0)), (1, .int x1), (2, .int x2), (3, .int x3), (4, .int x4)] → W p l e ({ frames := 5, cells := 0, slots := 0, locals := 117 } : Room) s m args below meth c H locs 0 0 (MQ below (QI 45 ceM D ad κ R) args s 0 0 (AX 45 ad)) (F0 m 71 ls []) := by
  have hx := C.1
  have hb := C.2.1
  have hown := C.2.2.2.1
  have hts := C.2.2.2.2.1
  intro f
  induction f with
  | zero =>
    intro x1 x2 x3 x4 σ H locs ls h hH hl
    cases h
  | succ f ih =>
    intro x1 x2 x3 x4 σ H locs ls h hH hl
    rw [FX12_ask_71] at h
    refine lv_iload hx hb dX12_ask_71 (lv_at hl 4 rfl) ?_
    refine lv_aload_n hx hb dX12_ask_73 rfl (lv_at hl 0 rfl) ?_
    obtain ⟨r_1, σ_2, hc_3, h⟩ := bdI_ex h
    refine g_ci (g_runV (rest := [.int x4]) C hH hl.1 cV_X12_306 0 (Nat.le_of_ble_eq_true rfl) rfl rfl (kX12_many l D ad κ hc_3) ⟨rfl, rfl⟩ ⟨(Nat.le_of_ble_eq_true rfl), (Nat.le_of_ble_eq_true rfl)⟩ rfl rfl (Nat.le_of_ble_eq_true rfl) dX12_ask_74 z00) hH (fun H locs hH => ?_)
    refine lv_icmp_ge (tgt := 102) hx hb dX12_ask_77 (by decide) (fun hq_4 => ?_) (fun hq_4 => ?_)
    · rw [if_pos hq_4] at h
      refine lv_iinc (v := (x3 + 1)) (lv' := [(3, .int (x3 + 1)), (0, .ref (ad 0)), (1, .int x1), (2, .int x2), (4, .int x4)]) hx hb dX12_ask_102 hl (k := 3) rfl rfl (by decide) rfl (fun ls hl => ?_)
      refine lv_goto (tgt := 43) hx hb dX12_ask_105 (by decide) ?_
      exact K43 _ _ _ _ _ _ _ h hH (lv_sub hl [1, 2, 3, 0] rfl)
    · rw [if_neg hq_4] at h
      refine lv_aload_n hx hb dX12_ask_80 rfl (lv_at hl 0 rfl) ?_
      refine g_get C hH 0 (Nat.le_of_ble_eq_true rfl) rfl fl_X12_143 (v := .ref (ad 42)) rfl dX12_ask_81 ?_
      refine lv_iload hx hb dX12_ask_84 (lv_at hl 4 rfl) ?_
      refine lv_dup2_11 hx hb dX12_ask_86 rfl rfl ?_
      obtain ⟨hi_5, h⟩ := gd_ex h
      refine g_iald C hH 42 (Nat.le_of_ble_eq_true rfl) rfl (k := (x4.toNatClampNeg)) rfl (ix_in hi_5) dX12_ask_87 ?_
      refine lv_iload_n hx hb dX12_ask_88 rfl (lv_at hl 3 rfl) ?_
      refine lv_iload hx hb dX12_ask_89 (lv_at hl 4 rfl) ?_
      refine lv_ishr hx hb dX12_ask_91 ?_
      refine lv_iconst (v := 1) hx hb dX12_ask_92 (by decide) ?_
      refine lv_iand hx hb dX12_ask_93 ?_
      refine lv_iadd hx hb dX12_ask_94 ?_
      obtain ⟨hi_6, h⟩ := gd_ex h
      obtain ⟨σ_7, eσ_7, h⟩ := hl_ex h
      refine g_iast C hH 42 (Nat.le_of_ble_eq_true rfl) (fun _ _ => rfl) (k := (x4.toNatClampNeg)) rfl (ix_in hi_6) dX12_ask_95 (fun H locs hH => ?_)
      rw [← eσ_7] at hH
      refine lv_iinc (v := (x4 + 1)) (lv' := [(4, .int (x4 + 1)), (0, .ref (ad 0)), (1, .int x1), (2, .int x2), (3, .int x3)]) hx hb dX12_ask_96 hl (k := 4) rfl rfl (by decide) rfl (fun ls hl => ?_)
      refine lv_goto (tgt := 71) hx hb dX12_ask_99 (by decide) ?_
      exact ih _ _ _ _ _ _ _ _ h hH (lv_sub hl [1, 2, 3, 4, 0] rfl)
set_option maxHeartbeats 4000000 in
set_option maxRecDepth 100000 in
theorem wX12_ask_168 (C : Cx 45 D ad κ p s m args meth c cX12_ask RX12 7 (some .int)) {R : (Int32 × HS)} {k117 : Int32 → Int32 → Int32 → Int32 → Int32 → HS → Option (Int32 × HS)} (K117 : ∀ (x1 : Int32) (x2 : Int32) (x3 : Int32) (x4 : Int32) (x5 : Int32) (σ : HS) (H : Heap) (locs : List Loc) (ls : Array Slot), k117 x1 x2 x3 x4 x5 σ = some R → Hd 45 ceM D ad κ s σ H locs → lv_has ls 7 [(0, .ref (ad 0)), (1, .int x1), (2, .int x2), (3, .int x3), (4, .int x4), (5, .int x5)] → W p l e ({ frames := 5, cells := 0, slots := 0, locals := 117 } : Room) s m args below meth c H locs 0 0 (MQ below (QI 45 ceM D ad κ R) args s 0 0 (AX 45 ad)) (F0 m 117 ls [])) : ∀ (x1 : Int32) (x2 : Int32) (x3 : Int32) (x4 : Int32) (x5 : Int32) (y0 : Int32) (σ : HS) (H : Heap) (locs : List Loc) (ls : Array Slot), FX12_ask_168 k117 x1 x2 x3 x4 x5 y0 σ = some R → Hd 45 ceM D ad κ s σ H locs → lv_has ls 7 [(0, .ref (ad 0)), (1, .int x1), (2, .int x2), (3, .int x3), (4, .int x4), (5, .int x5)] → W p l e ({ frames := 5, cells := 0, slots := 0, locals := 117 } : Room) s m args below meth c H locs 0 0 (MQ below (QI 45 ceM D ad κ R) args s 0 0 (AX 45 ad)) (F0 m 168 ls [.int y0]) := by
  have hx := C.1
  have hb := C.2.1
  have hown := C.2.2.2.1
  have hts := C.2.2.2.2.1
  intro x1 x2 x3 x4 x5 y0 σ H locs ls h hH hl
  rw [FX12_ask_168] at h
  refine lv_istore (lv' := [(6, .int y0), (0, .ref (ad 0)), (1, .int x1), (2, .int x2), (3, .int x3), (4, .int x4), (5, .int x5)]) hx hb dX12_ask_168 hl (by decide) rfl (fun ls hl => ?_)
  refine lv_iload_n hx hb dX12_ask_170 rfl (lv_at hl 4 rfl) ?_
  refine lv_if_lt (tgt := 184) hx hb dX12_ask_171 (by decide) (fun hq_8 => ?_) (fun hq_8 => ?_)
  · rw [if_pos hq_8] at h
    refine lv_iload hx hb dX12_ask_184 (lv_at hl 6 rfl) ?_
    refine lv_istore_n (lv' := [(3, .int x5), (6, .int y0), (0, .ref (ad 0)), (1, .int x1), (2, .int x2), (4, .int x4), (5, .int x5)]) hx hb dX12_ask_186 rfl hl (by decide) rfl (fun ls hl => ?_)
    refine lv_iload hx hb dX12_ask_187 (lv_at hl 1 rfl) ?_
    refine lv_istore (lv' := [(4, .int y0), (3, .int x5), (6, .int y0), (0, .ref (ad 0)), (1, .int x1), (2, .int x2), (5, .int x5)]) hx hb dX12_ask_189 hl (by decide) rfl (fun ls hl => ?_)
    refine lv_iinc (v := (x5 + 1)) (lv' := [(5, .int (x5 + 1)), (4, .int y0), (3, .int x5), (6, .int y0), (0, .ref (ad 0)), (1, .int x1), (2, .int x2)]) hx hb dX12_ask_191 hl (k := 6) rfl rfl (by decide) rfl (fun ls hl => ?_)
    refine lv_goto (tgt := 117) hx hb dX12_ask_194 (by decide) ?_
    exact K117 _ _ _ _ _ _ _ _ _ h hH (lv_sub hl [4, 5, 6, 2, 1, 0] rfl)
  · rw [if_neg hq_8] at h
    refine lv_iload hx hb dX12_ask_174 (lv_at hl 0 rfl) ?_
    refine lv_iload hx hb dX12_ask_176 (lv_at hl 5 rfl) ?_
    refine lv_icmp_lt (tgt := 184) hx hb dX12_ask_178 (by decide) (fun hq_9 => ?_) (fun hq_9 => ?_)
    · rw [if_pos hq_9] at h
      refine lv_iload hx hb dX12_ask_184 (lv_at hl 6 rfl) ?_
      refine lv_istore_n (lv' := [(3, .int x5), (6, .int y0), (0, .ref (ad 0)), (1, .int x1), (2, .int x2), (4, .int x4), (5, .int x5)]) hx hb dX12_ask_186 rfl hl (by decide) rfl (fun ls hl => ?_)
      refine lv_iload hx hb dX12_ask_187 (lv_at hl 1 rfl) ?_
      refine lv_istore (lv' := [(4, .int y0), (3, .int x5), (6, .int y0), (0, .ref (ad 0)), (1, .int x1), (2, .int x2), (5, .int x5)]) hx hb dX12_ask_189 hl (by decide) rfl (fun ls hl => ?_)
      refine lv_iinc (v := (x5 + 1)) (lv' := [(5, .int (x5 + 1)), (4, .int y0), (3, .int x5), (6, .int y0), (0, .ref (ad 0)), (1, .int x1), (2, .int x2)]) hx hb dX12_ask_191 hl (k := 6) rfl rfl (by decide) rfl (fun ls hl => ?_)
      refine lv_goto (tgt := 117) hx hb dX12_ask_194 (by decide) ?_
      exact K117 _ _ _ _ _ _ _ _ _ h hH (lv_sub hl [4, 5, 6, 2, 1, 0] rfl)
    · rw [if_neg hq_9] at h
      refine lv_goto (tgt := 191) hx hb dX12_ask_181 (by decide) ?_
      refine lv_iinc (v := (x5 + 1)) (lv' := [(5, .int (x5 + 1)), (6, .int y0), (0, .ref (ad 0)), (1, .int x1), (2, .int x2), (3, .int x3), (4, .int x4)]) hx hb dX12_ask_191 hl (k := 6) rfl rfl (by decide) rfl (fun ls hl => ?_)
      refine lv_goto (tgt := 117) hx hb dX12_ask_194 (by decide) ?_
      exact K117 _ _ _ _ _ _ _ _ _ h hH (lv_sub hl [2, 3, 4, 5, 6, 0] rfl)
set_option maxHeartbeats 4000000 in
set_option maxRecDepth 100000 in
theorem wX12_ask_117 (C : Cx 45 D ad κ p s m args meth c cX12_ask RX12 7 (some .int)) {R : (Int32 × HS)} : ∀ (f : Nat) (x1 : Int32) (x2 : Int32) (x3 : Int32) (x4 : Int32) (x5 : Int32) (σ : HS) (H : Heap) (locs : List Loc) (ls : Array Slot), FX12_ask_117  f x1 x2 x3 x4 x5 σ = some R → Hd 45 ceM D ad κ s σ H locs → lv_has ls 7 [(0, .ref (ad 0)), (1, .int x1), (2, .int x2), (3, .int x3), (4, .int x4), (5, .int x5)] → W p l e ({ frames := 5, cells := 0, slots := 0, locals := 117 } : Room) s m args below meth c H locs 0 0 (MQ below (QI 45 ceM D ad κ R) args s 0 0 (AX 45 ad)) (F0 m 117 ls []) := by
  have hx := C.1
  have hb := C.2.1
  have hown := C.2.2.2.1
  have hts := C.2.2.2.2.1
  intro f
  induction f with
  | zero =>
    intro x1 x2 x3 x4 x5 σ H locs ls h hH hl
    cases h
  | succ f ih =>
    intro x1 x2 x3 x4 x5 σ H locs ls h hH hl
    rw [FX12_ask_117] at h
    refine lv_iload hx hb dX12_ask_117 (lv_at hl 5 rfl) ?_
    refine lv_aload_n hx hb dX12_ask_119 rfl (lv_at hl 0 rfl) ?_
    obtain ⟨r_10, σ_11, hc_12, h⟩ := bdI_ex h
    refine g_ci (g_runV (rest := [.int x5]) C hH hl.1 cV_X12_306 0 (Nat.le_of_ble_eq_true rfl) rfl rfl (kX12_many l D ad κ hc_12) ⟨rfl, rfl⟩ ⟨(Nat.le_of_ble_eq_true rfl), (Nat.le_of_ble_eq_true rfl)⟩ rfl rfl (Nat.le_of_ble_eq_true rfl) dX12_ask_120 z00) hH (fun H locs hH => ?_)
    refine lv_icmp_ge (tgt := 197) hx hb dX12_ask_123 (by decide) (fun hq_13 => ?_) (fun hq_13 => ?_)
    · rw [if_pos hq_13] at h
      refine lv_iload_n hx hb dX12_ask_197 rfl (lv_at hl 3 rfl) ?_
      exact g_ret C hH h dX12_ask_198
    · rw [if_neg hq_13] at h
      refine lv_iload_n hx hb dX12_ask_126 rfl (lv_at hl 2 rfl) ?_
      refine lv_if_le (tgt := 197) hx hb dX12_ask_127 (by decide) (fun hq_14 => ?_) (fun hq_14 => ?_)
      · rw [if_pos hq_14] at h
        refine lv_iload_n hx hb dX12_ask_197 rfl (lv_at hl 3 rfl) ?_
        exact g_ret C hH h dX12_ask_198
      · rw [if_neg hq_14] at h
        refine lv_aload_n hx hb dX12_ask_130 rfl (lv_at hl 0 rfl) ?_
        refine g_get C hH 0 (Nat.le_of_ble_eq_true rfl) rfl fl_X12_143 (v := .ref (ad 42)) rfl dX12_ask_131 ?_
        refine lv_iload hx hb dX12_ask_134 (lv_at hl 5 rfl) ?_
        obtain ⟨hi_15, h⟩ := gd_ex h
        refine g_iald C hH 42 (Nat.le_of_ble_eq_true rfl) rfl (k := (x5.toNatClampNeg)) rfl (ix_in hi_15) dX12_ask_136 ?_
        refine lv_iload_n hx hb dX12_ask_137 rfl (lv_at hl 2 rfl) ?_
        refine lv_aload_n hx hb dX12_ask_138 rfl (lv_at hl 0 rfl) ?_
        refine g_get C hH 0 (Nat.le_of_ble_eq_true rfl) rfl fl_X12_143 (v := .ref (ad 42)) rfl dX12_ask_139 ?_
        refine lv_iload hx hb dX12_ask_142 (lv_at hl 5 rfl) ?_
        obtain ⟨hi_16, h⟩ := gd_ex h
        refine g_iald C hH 42 (Nat.le_of_ble_eq_true rfl) rfl (k := (x5.toNatClampNeg)) rfl (ix_in hi_16) dX12_ask_144 ?_
        refine lv_isub hx hb dX12_ask_145 ?_
        refine lv_icmp_le (tgt := 159) hx hb dX12_ask_146 (by decide) (fun hq_17 => ?_) (fun hq_17 => ?_)
        · rw [if_pos hq_17] at h
          refine lv_iload_n hx hb dX12_ask_159 rfl (lv_at hl 2 rfl) ?_
          refine lv_aload_n hx hb dX12_ask_160 rfl (lv_at hl 0 rfl) ?_
          refine g_get C hH 0 (Nat.le_of_ble_eq_true rfl) rfl fl_X12_143 (v := .ref (ad 42)) rfl dX12_ask_161 ?_
          refine lv_iload hx hb dX12_ask_164 (lv_at hl 5 rfl) ?_
          obtain ⟨hi_18, h⟩ := gd_ex h
          refine g_iald C hH 42 (Nat.le_of_ble_eq_true rfl) rfl (k := (x5.toNatClampNeg)) rfl (ix_in hi_18) dX12_ask_166 ?_
          refine lv_isub hx hb dX12_ask_167 ?_
          exact wX12_ask_168 C ih  _ _ _ _ _ _ _ _ _ _ h hH (lv_sub hl [0, 1, 2, 3, 4, 5] rfl)
        · rw [if_neg hq_17] at h
          refine lv_aload_n hx hb dX12_ask_149 rfl (lv_at hl 0 rfl) ?_
          refine g_get C hH 0 (Nat.le_of_ble_eq_true rfl) rfl fl_X12_143 (v := .ref (ad 42)) rfl dX12_ask_150 ?_
          refine lv_iload hx hb dX12_ask_153 (lv_at hl 5 rfl) ?_
          obtain ⟨hi_19, h⟩ := gd_ex h
          refine g_iald C hH 42 (Nat.le_of_ble_eq_true rfl) rfl (k := (x5.toNatClampNeg)) rfl (ix_in hi_19) dX12_ask_155 ?_
          refine lv_goto (tgt := 168) hx hb dX12_ask_156 (by decide) ?_
          exact wX12_ask_168 C ih  _ _ _ _ _ _ _ _ _ _ h hH (lv_sub hl [0, 1, 2, 3, 4, 5] rfl)
set_option maxHeartbeats 4000000 in
set_option maxRecDepth 100000 in
theorem wX12_ask_43 (C : Cx 45 D ad κ p s m args meth c cX12_ask RX12 7 (some .int)) {R : (Int32 × HS)} : ∀ (f : Nat) (x1 : Int32) (x2 : Int32) (x3 : Int32) (σ : HS) (H : Heap) (locs : List Loc) (ls : Array Slot), FX12_ask_43  f x1 x2 x3 σ = some R → Hd 45 ceM D ad κ s σ H locs → lv_has ls 7 [(0, .ref (ad 0)), (1, .int x1), (2, .int x2), (3, .int x3)] → W p l e ({ frames := 5, cells := 0, slots := 0, locals := 117 } : Room) s m args below meth c H locs 0 0 (MQ below (QI 45 ceM D ad κ R) args s 0 0 (AX 45 ad)) (F0 m 43 ls []) := by
  have hx := C.1
  have hb := C.2.1
  have hown := C.2.2.2.1
  have hts := C.2.2.2.2.1
  intro f
  induction f with
  | zero =>
    intro x1 x2 x3 σ H locs ls h hH hl
    cases h
  | succ f ih =>
    intro x1 x2 x3 σ H locs ls h hH hl
    rw [FX12_ask_43] at h
    refine lv_iload_n hx hb dX12_ask_43 rfl (lv_at hl 3 rfl) ?_
    refine lv_iconst (v := 1) hx hb dX12_ask_44 (by decide) ?_
    refine lv_aload_n hx hb dX12_ask_45 rfl (lv_at hl 0 rfl) ?_
    obtain ⟨r_20, σ_21, hc_22, h⟩ := bdI_ex h
    refine g_ci (g_runV (rest := [.int (1 : Int32), .int x3]) C hH hl.1 cV_X12_306 0 (Nat.le_of_ble_eq_true rfl) rfl rfl (kX12_many l D ad κ hc_22) ⟨rfl, rfl⟩ ⟨(Nat.le_of_ble_eq_true rfl), (Nat.le_of_ble_eq_true rfl)⟩ rfl rfl (Nat.le_of_ble_eq_true rfl) dX12_ask_46 z00) hH (fun H locs hH => ?_)
    refine lv_ishl hx hb dX12_ask_49 ?_
    refine lv_icmp_ge (tgt := 108) hx hb dX12_ask_50 (by decide) (fun hq_23 => ?_) (fun hq_23 => ?_)
    · rw [if_pos hq_23] at h
      refine lv_bipush (v := (-2)) hx hb dX12_ask_108 (by decide) ?_
      refine lv_istore_n (lv' := [(3, .int (-2 : Int32)), (0, .ref (ad 0)), (1, .int x1), (2, .int x2)]) hx hb dX12_ask_110 rfl hl (by decide) rfl (fun ls hl => ?_)
      refine lv_iconst (v := 0) hx hb dX12_ask_111 (by decide) ?_
      refine lv_istore (lv' := [(4, .int (0 : Int32)), (3, .int (-2 : Int32)), (0, .ref (ad 0)), (1, .int x1), (2, .int x2)]) hx hb dX12_ask_112 hl (by decide) rfl (fun ls hl => ?_)
      refine lv_iconst (v := 0) hx hb dX12_ask_114 (by decide) ?_
      refine lv_istore (lv' := [(5, .int (0 : Int32)), (4, .int (0 : Int32)), (3, .int (-2 : Int32)), (0, .ref (ad 0)), (1, .int x1), (2, .int x2)]) hx hb dX12_ask_115 hl (by decide) rfl (fun ls hl => ?_)
      exact wX12_ask_117 C _ _ _ _ _ _ _ _ _ _ h hH (lv_sub hl [3, 4, 5, 2, 1, 0] rfl)
    · rw [if_neg hq_23] at h
      refine lv_aload_n hx hb dX12_ask_53 rfl (lv_at hl 0 rfl) ?_
      refine lv_iload_n hx hb dX12_ask_54 rfl (lv_at hl 3 rfl) ?_
      refine lv_iload_n hx hb dX12_ask_55 rfl (lv_at hl 1 rfl) ?_
      obtain ⟨r_24, σ_25, hc_26, h⟩ := bdI_ex h
      refine g_ci (g_runV (rest := []) C hH hl.1 cV_X12_446 0 (Nat.le_of_ble_eq_true rfl) rfl rfl (kX12_isSo l D ad κ hc_26) ⟨rfl, rfl⟩ ⟨(Nat.le_of_ble_eq_true rfl), (Nat.le_of_ble_eq_true rfl)⟩ rfl rfl (Nat.le_of_ble_eq_true rfl) dX12_ask_56 z00) hH (fun H locs hH => ?_)
      refine lv_if_ne (tgt := 65) hx hb dX12_ask_59 (by decide) (fun hq_27 => ?_) (fun hq_27 => ?_)
      · rw [if_neg hq_27] at h
        refine lv_iinc (v := (x2 + 1)) (lv' := [(2, .int (x2 + 1)), (0, .ref (ad 0)), (1, .int x1), (3, .int x3)]) hx hb dX12_ask_65 hl (k := 2) rfl rfl (by decide) rfl (fun ls hl => ?_)
        refine lv_iconst (v := 0) hx hb dX12_ask_68 (by decide) ?_
        refine lv_istore (lv' := [(4, .int (0 : Int32)), (2, .int (x2 + 1)), (0, .ref (ad 0)), (1, .int x1), (3, .int x3)]) hx hb dX12_ask_69 hl (by decide) rfl (fun ls hl => ?_)
        exact wX12_ask_71 C ih _ _ _ _ _ _ _ _ _ h hH (lv_sub hl [2, 3, 1, 4, 0] rfl)
      · rw [if_pos hq_27] at h
        refine lv_goto (tgt := 102) hx hb dX12_ask_62 (by decide) ?_
        refine lv_iinc (v := (x3 + 1)) (lv' := [(3, .int (x3 + 1)), (0, .ref (ad 0)), (1, .int x1), (2, .int x2)]) hx hb dX12_ask_102 hl (k := 3) rfl rfl (by decide) rfl (fun ls hl => ?_)
        refine lv_goto (tgt := 43) hx hb dX12_ask_105 (by decide) ?_
        exact ih _ _ _ _ _ _ _ h hH (lv_sub hl [1, 2, 3, 0] rfl)
set_option maxHeartbeats 4000000 in
set_option maxRecDepth 100000 in
theorem wX12_ask_22 (C : Cx 45 D ad κ p s m args meth c cX12_ask RX12 7 (some .int)) {R : (Int32 × HS)} : ∀ (f : Nat) (x1 : Int32) (x2 : Int32) (x3 : Int32) (σ : HS) (H : Heap) (locs : List Loc) (ls : Array Slot), FX12_ask_22  f x1 x2 x3 σ = some R → Hd 45 ceM D ad κ s σ H locs → lv_has ls 7 [(0, .ref (ad 0)), (1, .int x1), (2, .int x2), (3, .int x3)] → W p l e ({ frames := 5, cells := 0, slots := 0, locals := 117 } : Room) s m args below meth c H locs 0 0 (MQ below (QI 45 ceM D ad κ R) args s 0 0 (AX 45 ad)) (F0 m 22 ls []) := by
  have hx := C.1
  have hb := C.2.1
  have hown := C.2.2.2.1
  have hts := C.2.2.2.2.1
  intro f
  induction f with
  | zero =>
    intro x1 x2 x3 σ H locs ls h hH hl
    cases h
  | succ f ih =>
    intro x1 x2 x3 σ H locs ls h hH hl
    rw [FX12_ask_22] at h
    refine lv_iload_n hx hb dX12_ask_22 rfl (lv_at hl 3 rfl) ?_
    refine lv_bipush (v := 10) hx hb dX12_ask_23 (by decide) ?_
    refine lv_icmp_ge (tgt := 41) hx hb dX12_ask_25 (by decide) (fun hq_28 => ?_) (fun hq_28 => ?_)
    · rw [if_pos hq_28] at h
      refine lv_iconst (v := 0) hx hb dX12_ask_41 (by decide) ?_
      refine lv_istore_n (lv' := [(3, .int (0 : Int32)), (0, .ref (ad 0)), (1, .int x1), (2, .int x2)]) hx hb dX12_ask_42 rfl hl (by decide) rfl (fun ls hl => ?_)
      exact wX12_ask_43 C _ _ _ _ _ _ _ _ h hH (lv_sub hl [1, 2, 3, 0] rfl)
    · rw [if_neg hq_28] at h
      refine lv_aload_n hx hb dX12_ask_28 rfl (lv_at hl 0 rfl) ?_
      refine g_get C hH 0 (Nat.le_of_ble_eq_true rfl) rfl fl_X12_143 (v := .ref (ad 42)) rfl dX12_ask_29 ?_
      refine lv_iload_n hx hb dX12_ask_32 rfl (lv_at hl 3 rfl) ?_
      refine lv_iconst (v := 0) hx hb dX12_ask_33 (by decide) ?_
      obtain ⟨hi_29, h⟩ := gd_ex h
      obtain ⟨σ_30, eσ_30, h⟩ := hl_ex h
      refine g_iast C hH 42 (Nat.le_of_ble_eq_true rfl) (fun _ _ => rfl) (k := (x3.toNatClampNeg)) rfl (ix_in hi_29) dX12_ask_34 (fun H locs hH => ?_)
      rw [← eσ_30] at hH
      refine lv_iinc (v := (x3 + 1)) (lv' := [(3, .int (x3 + 1)), (0, .ref (ad 0)), (1, .int x1), (2, .int x2)]) hx hb dX12_ask_35 hl (k := 3) rfl rfl (by decide) rfl (fun ls hl => ?_)
      refine lv_goto (tgt := 22) hx hb dX12_ask_38 (by decide) ?_
      exact ih _ _ _ _ _ _ _ h hH (lv_sub hl [1, 2, 3, 0] rfl)
set_option maxHeartbeats 4000000 in
set_option maxRecDepth 100000 in
theorem kX12_ask (l : Launch) (D : va_G) (ad : Nat → Nat) (κ : KC) {x1 : Int32} {σ : HS} {R : (Int32 × HS)} (h : FX12_ask x1 σ = some R) : MtI l 45 ceM D ad κ yX12_ask cX12_ask 7 (some .int) ({ frames := 5, cells := 0, slots := 0, locals := 117 } : Room) [.ref (ad 0), .int x1] σ R := by
  refine open_ (by decide) (Nat.le_of_ble_eq_true rfl) (la := [(0, .ref (ad 0)), (1, .int x1)]) rfl ?_
  intro p e s m below meth c ls C hH hl
  replace C : Cx 45 D ad κ p s m _ meth c cX12_ask RX12 7 (some .int) := C
  have hx := C.1
  have hb := C.2.1
  have hown := C.2.2.2.1
  have hts := C.2.2.2.2.1
  rw [FX12_ask] at h
  refine lv_iload_n hx hb dX12_ask_0 rfl (lv_at hl 1 rfl) ?_
  refine lv_iconst (v := 0) hx hb dX12_ask_1 (by decide) ?_
  refine lv_aload_n hx hb dX12_ask_2 rfl (lv_at hl 0 rfl) ?_
  refine g_get C hH 0 (Nat.le_of_ble_eq_true rfl) rfl fl_X12_251 (v := .int (σ.1 0 57)) rfl dX12_ask_3 ?_
  obtain ⟨r_31, σ_32, hc_33, h⟩ := bdI_ex h
  refine g_ci (g_runS (rest := []) C hH hl.1 cS_X12_310 (kX12_in l D ad κ hc_33) ⟨rfl, rfl⟩ ⟨(Nat.le_of_ble_eq_true rfl), (Nat.le_of_ble_eq_true rfl)⟩ rfl rfl (Nat.le_of_ble_eq_true rfl) dX12_ask_6 z00) hH (fun H locs hH => ?_)
  refine lv_if_ne (tgt := 14) hx hb dX12_ask_9 (by decide) (fun hq_34 => ?_) (fun hq_34 => ?_)
  · rw [if_neg hq_34] at h
    refine lv_aload_n hx hb dX12_ask_14 rfl (lv_at hl 0 rfl) ?_
    obtain ⟨σ_35, hc_36, h⟩ := bdV_ex h
    refine g_cv (g_runV (rest := []) C hH hl.1 cV_X12_406 0 (Nat.le_of_ble_eq_true rfl) rfl rfl (kX12_copiesFalls l D ad κ hc_36) ⟨rfl, rfl⟩ ⟨(Nat.le_of_ble_eq_true rfl), (Nat.le_of_ble_eq_true rfl)⟩ rfl rfl (Nat.le_of_ble_eq_true rfl) dX12_ask_15 z00) hH (fun H locs hH => ?_)
    refine lv_iconst (v := 0) hx hb dX12_ask_18 (by decide) ?_
    refine lv_istore_n (lv' := [(2, .int (0 : Int32)), (0, .ref (ad 0)), (1, .int x1)]) hx hb dX12_ask_19 rfl hl (by decide) rfl (fun ls hl => ?_)
    refine lv_iconst (v := 0) hx hb dX12_ask_20 (by decide) ?_
    refine lv_istore_n (lv' := [(3, .int (0 : Int32)), (2, .int (0 : Int32)), (0, .ref (ad 0)), (1, .int x1)]) hx hb dX12_ask_21 rfl hl (by decide) rfl (fun ls hl => ?_)
    exact wX12_ask_22 C _ _ _ _ _ _ _ _ h hH (lv_sub hl [2, 3, 1, 0] rfl)
  · rw [if_pos hq_34] at h
    refine lv_iconst (v := (-1)) hx hb dX12_ask_12 (by decide) ?_
    exact g_ret C hH h dX12_ask_13
-- X12_hold
def FX12_hold_20  : Nat → Int32 → Int32 → HS → Option (Int32 × HS)
  | 0, _, _, _ => none
  | f + 1, x1, x2, σ => if (33 : Int32) ≤ x2 then some ((1 : Int32), σ) else gd (ix x2 33) (gd (ix (((33 : Int32) * x1) + x2) 99) (hl_ (pI σ 44 ((((33 : Int32) * x1) + x2).toNatClampNeg) (σ.1 31 (x2.toNatClampNeg))) fun σ_4 => FX12_hold_20  f x1 (x2 + 1) σ_4))
def FX12_hold (x1 : Int32) (σ : HS) : Option (Int32 × HS) :=
  bdI (FX12_in x1 (0 : Int32) (2 : Int32) σ) fun r_5 σ_6 => if r_5 = 0 then some ((0 : Int32), σ_6) else gd (ix x1 3) (hl_ (pI σ_6 43 (x1.toNatClampNeg) (vp_nar .boolean (1 : Int32))) fun σ_10 => FX12_hold_20 fu x1 (0 : Int32) σ_10)
set_option maxHeartbeats 4000000 in
set_option maxRecDepth 100000 in
theorem wX12_hold_20 (C : Cx 45 D ad κ p s m args meth c cX12_hold RX12 3 (some .boolean)) {R : (Int32 × HS)} : ∀ (f : Nat) (x1 : Int32) (x2 : Int32) (σ : HS) (H : Heap) (locs : List Loc) (ls : Array Slot), FX12_hold_20  f x1 x2 σ = some R → Hd 45 ceM D ad κ s σ H locs → lv_has ls 3 [(0, .ref (ad 0)), (1, .int x1), (2, .int x2)] → W p l e ({ frames := 1, cells := 0, slots := 0, locals := 22 } : Room) s m args below meth c H locs 0 0 (MQ below (QI 45 ceM D ad κ R) args s 0 0 (AX 45 ad)) (F0 m 20 ls []) := by
  have hx := C.1
  have hb := C.2.1
  have hown := C.2.2.2.1
  have hts := C.2.2.2.2.1
  intro f
  induction f with
  | zero =>
    intro x1 x2 σ H locs ls h hH hl
    cases h
  | succ f ih =>
    intro x1 x2 σ H locs ls h hH hl
    rw [FX12_hold_20] at h
    refine lv_iload_n hx hb dX12_hold_20 rfl (lv_at hl 2 rfl) ?_
    refine lv_bipush (v := 33) hx hb dX12_hold_21 (by decide) ?_
    refine lv_icmp_ge (tgt := 49) hx hb dX12_hold_23 (by decide) (fun hq_1 => ?_) (fun hq_1 => ?_)
    · rw [if_pos hq_1] at h
      refine lv_iconst (v := 1) hx hb dX12_hold_49 (by decide) ?_
      exact g_retZ C hH rfl h dX12_hold_50
    · rw [if_neg hq_1] at h
      refine lv_aload_n hx hb dX12_hold_26 rfl (lv_at hl 0 rfl) ?_
      refine g_get C hH 0 (Nat.le_of_ble_eq_true rfl) rfl fl_X12_149 (v := .ref (ad 44)) rfl dX12_hold_27 ?_
      refine lv_bipush (v := 33) hx hb dX12_hold_30 (by decide) ?_
      refine lv_iload_n hx hb dX12_hold_32 rfl (lv_at hl 1 rfl) ?_
      refine lv_imul hx hb dX12_hold_33 ?_
      refine lv_iload_n hx hb dX12_hold_34 rfl (lv_at hl 2 rfl) ?_
      refine lv_iadd hx hb dX12_hold_35 ?_
      refine lv_aload_n hx hb dX12_hold_36 rfl (lv_at hl 0 rfl) ?_
      refine g_get C hH 0 (Nat.le_of_ble_eq_true rfl) rfl fl_X12_110 (v := .ref (ad 31)) rfl dX12_hold_37 ?_
      refine lv_iload_n hx hb dX12_hold_40 rfl (lv_at hl 2 rfl) ?_
      obtain ⟨hi_2, h⟩ := gd_ex h
      refine g_iald C hH 31 (Nat.le_of_ble_eq_true rfl) rfl (k := (x2.toNatClampNeg)) rfl (ix_in hi_2) dX12_hold_41 ?_
      obtain ⟨hi_3, h⟩ := gd_ex h
      obtain ⟨σ_4, eσ_4, h⟩ := hl_ex h
      refine g_iast C hH 44 (Nat.le_of_ble_eq_true rfl) (fun _ _ => rfl) (k := ((((33 : Int32) * x1) + x2).toNatClampNeg)) rfl (ix_in hi_3) dX12_hold_42 (fun H locs hH => ?_)
      rw [← eσ_4] at hH
      refine lv_iinc (v := (x2 + 1)) (lv' := [(2, .int (x2 + 1)), (0, .ref (ad 0)), (1, .int x1)]) hx hb dX12_hold_43 hl (k := 2) rfl rfl (by decide) rfl (fun ls hl => ?_)
      refine lv_goto (tgt := 20) hx hb dX12_hold_46 (by decide) ?_
      exact ih _ _ _ _ _ _ h hH (lv_sub hl [1, 2, 0] rfl)
set_option maxHeartbeats 4000000 in
set_option maxRecDepth 100000 in
theorem kX12_hold (l : Launch) (D : va_G) (ad : Nat → Nat) (κ : KC) {x1 : Int32} {σ : HS} {R : (Int32 × HS)} (h : FX12_hold x1 σ = some R) : MtI l 45 ceM D ad κ yX12_hold cX12_hold 3 (some .boolean) ({ frames := 1, cells := 0, slots := 0, locals := 22 } : Room) [.ref (ad 0), .int x1] σ R := by
  refine open_ (by decide) (Nat.le_of_ble_eq_true rfl) (la := [(0, .ref (ad 0)), (1, .int x1)]) rfl ?_
  intro p e s m below meth c ls C hH hl
  replace C : Cx 45 D ad κ p s m _ meth c cX12_hold RX12 3 (some .boolean) := C
  have hx := C.1
  have hb := C.2.1
  have hown := C.2.2.2.1
  have hts := C.2.2.2.2.1
  rw [FX12_hold] at h
  refine lv_iload_n hx hb dX12_hold_0 rfl (lv_at hl 1 rfl) ?_
  refine lv_iconst (v := 0) hx hb dX12_hold_1 (by decide) ?_
  refine lv_iconst (v := 2) hx hb dX12_hold_2 (by decide) ?_
  obtain ⟨r_5, σ_6, hc_7, h⟩ := bdI_ex h
  refine g_ci (g_runS (rest := []) C hH hl.1 cS_X12_310 (kX12_in l D ad κ hc_7) ⟨rfl, rfl⟩ ⟨(Nat.le_of_ble_eq_true rfl), (Nat.le_of_ble_eq_true rfl)⟩ rfl rfl (Nat.le_of_ble_eq_true rfl) dX12_hold_3 z00) hH (fun H locs hH => ?_)
  refine lv_if_ne (tgt := 11) hx hb dX12_hold_6 (by decide) (fun hq_8 => ?_) (fun hq_8 => ?_)
  · rw [if_neg hq_8] at h
    refine lv_aload_n hx hb dX12_hold_11 rfl (lv_at hl 0 rfl) ?_
    refine g_get C hH 0 (Nat.le_of_ble_eq_true rfl) rfl fl_X12_146 (v := .ref (ad 43)) rfl dX12_hold_12 ?_
    refine lv_iload_n hx hb dX12_hold_15 rfl (lv_at hl 1 rfl) ?_
    refine lv_iconst (v := 1) hx hb dX12_hold_16 (by decide) ?_
    obtain ⟨hi_9, h⟩ := gd_ex h
    obtain ⟨σ_10, eσ_10, h⟩ := hl_ex h
    refine g_zast C hH 43 (Nat.le_of_ble_eq_true rfl) (fun _ _ => rfl) (k := (x1.toNatClampNeg)) rfl (ix_in hi_9) dX12_hold_17 (fun H locs hH => ?_)
    rw [← eσ_10] at hH
    refine lv_iconst (v := 0) hx hb dX12_hold_18 (by decide) ?_
    refine lv_istore_n (lv' := [(2, .int (0 : Int32)), (0, .ref (ad 0)), (1, .int x1)]) hx hb dX12_hold_19 rfl hl (by decide) rfl (fun ls hl => ?_)
    exact wX12_hold_20 C _ _ _ _ _ _ _ h hH (lv_sub hl [1, 2, 0] rfl)
  · rw [if_pos hq_8] at h
    refine lv_iconst (v := 0) hx hb dX12_hold_9 (by decide) ?_
    exact g_retZ C hH rfl h dX12_hold_10
-- X12_restore
def FX12_restore_22  : Nat → Int32 → Int32 → HS → Option (Int32 × HS)
  | 0, _, _, _ => none
  | f + 1, x1, x2, σ => if (33 : Int32) ≤ x2 then hl_ (pI σ 0 50 (0 : Int32)) fun σ_2 => some ((1 : Int32), σ_2) else gd (ix (((33 : Int32) * x1) + x2) 99) (gd (ix x2 33) (hl_ (pI σ 31 (x2.toNatClampNeg) (σ.1 44 ((((33 : Int32) * x1) + x2).toNatClampNeg))) fun σ_5 => FX12_restore_22  f x1 (x2 + 1) σ_5))
def FX12_restore (x1 : Int32) (σ : HS) : Option (Int32 × HS) :=
  bdI (FX12_in x1 (0 : Int32) (2 : Int32) σ) fun r_6 σ_7 => if r_6 = 0 then some ((0 : Int32), σ_7) else gd (ix x1 3) (if (σ_7.1 43 (x1.toNatClampNeg)) = 0 then some ((0 : Int32), σ_7) else FX12_restore_22 fu x1 (0 : Int32) σ_7)
set_option maxHeartbeats 4000000 in
set_option maxRecDepth 100000 in
theorem wX12_restore_22 (C : Cx 45 D ad κ p s m args meth c cX12_restore RX12 3 (some .boolean)) {R : (Int32 × HS)} : ∀ (f : Nat) (x1 : Int32) (x2 : Int32) (σ : HS) (H : Heap) (locs : List Loc) (ls : Array Slot), FX12_restore_22  f x1 x2 σ = some R → Hd 45 ceM D ad κ s σ H locs → lv_has ls 3 [(0, .ref (ad 0)), (1, .int x1), (2, .int x2)] → W p l e ({ frames := 1, cells := 0, slots := 0, locals := 22 } : Room) s m args below meth c H locs 0 0 (MQ below (QI 45 ceM D ad κ R) args s 0 0 (AX 45 ad)) (F0 m 22 ls []) := by
  have hx := C.1
  have hb := C.2.1
  have hown := C.2.2.2.1
  have hts := C.2.2.2.2.1
  intro f
  induction f with
  | zero =>
    intro x1 x2 σ H locs ls h hH hl
    cases h
  | succ f ih =>
    intro x1 x2 σ H locs ls h hH hl
    rw [FX12_restore_22] at h
    refine lv_iload_n hx hb dX12_restore_22 rfl (lv_at hl 2 rfl) ?_
    refine lv_bipush (v := 33) hx hb dX12_restore_23 (by decide) ?_
    refine lv_icmp_ge (tgt := 51) hx hb dX12_restore_25 (by decide) (fun hq_1 => ?_) (fun hq_1 => ?_)
    · rw [if_pos hq_1] at h
      refine lv_aload_n hx hb dX12_restore_51 rfl (lv_at hl 0 rfl) ?_
      refine lv_iconst (v := 0) hx hb dX12_restore_52 (by decide) ?_
      obtain ⟨σ_2, eσ_2, h⟩ := hl_ex h
      refine g_putI C hH 0 (Nat.le_of_ble_eq_true rfl) rfl fp_X12_248 rfl rfl (Nat.le_of_ble_eq_true rfl) rfl dX12_restore_53 (fun H locs hH => ?_)
      rw [← eσ_2] at hH
      refine lv_iconst (v := 1) hx hb dX12_restore_56 (by decide) ?_
      exact g_retZ C hH rfl h dX12_restore_57
    · rw [if_neg hq_1] at h
      refine lv_aload_n hx hb dX12_restore_28 rfl (lv_at hl 0 rfl) ?_
      refine g_get C hH 0 (Nat.le_of_ble_eq_true rfl) rfl fl_X12_110 (v := .ref (ad 31)) rfl dX12_restore_29 ?_
      refine lv_iload_n hx hb dX12_restore_32 rfl (lv_at hl 2 rfl) ?_
      refine lv_aload_n hx hb dX12_restore_33 rfl (lv_at hl 0 rfl) ?_
      refine g_get C hH 0 (Nat.le_of_ble_eq_true rfl) rfl fl_X12_149 (v := .ref (ad 44)) rfl dX12_restore_34 ?_
      refine lv_bipush (v := 33) hx hb dX12_restore_37 (by decide) ?_
      refine lv_iload_n hx hb dX12_restore_39 rfl (lv_at hl 1 rfl) ?_
      refine lv_imul hx hb dX12_restore_40 ?_
      refine lv_iload_n hx hb dX12_restore_41 rfl (lv_at hl 2 rfl) ?_
      refine lv_iadd hx hb dX12_restore_42 ?_
      obtain ⟨hi_3, h⟩ := gd_ex h
      refine g_iald C hH 44 (Nat.le_of_ble_eq_true rfl) rfl (k := ((((33 : Int32) * x1) + x2).toNatClampNeg)) rfl (ix_in hi_3) dX12_restore_43 ?_
      obtain ⟨hi_4, h⟩ := gd_ex h
      obtain ⟨σ_5, eσ_5, h⟩ := hl_ex h
      refine g_iast C hH 31 (Nat.le_of_ble_eq_true rfl) (fun _ _ => rfl) (k := (x2.toNatClampNeg)) rfl (ix_in hi_4) dX12_restore_44 (fun H locs hH => ?_)
      rw [← eσ_5] at hH
      refine lv_iinc (v := (x2 + 1)) (lv' := [(2, .int (x2 + 1)), (0, .ref (ad 0)), (1, .int x1)]) hx hb dX12_restore_45 hl (k := 2) rfl rfl (by decide) rfl (fun ls hl => ?_)
      refine lv_goto (tgt := 22) hx hb dX12_restore_48 (by decide) ?_
      exact ih _ _ _ _ _ _ h hH (lv_sub hl [1, 2, 0] rfl)
set_option maxHeartbeats 4000000 in
set_option maxRecDepth 100000 in
theorem kX12_restore (l : Launch) (D : va_G) (ad : Nat → Nat) (κ : KC) {x1 : Int32} {σ : HS} {R : (Int32 × HS)} (h : FX12_restore x1 σ = some R) : MtI l 45 ceM D ad κ yX12_restore cX12_restore 3 (some .boolean) ({ frames := 1, cells := 0, slots := 0, locals := 22 } : Room) [.ref (ad 0), .int x1] σ R := by
  refine open_ (by decide) (Nat.le_of_ble_eq_true rfl) (la := [(0, .ref (ad 0)), (1, .int x1)]) rfl ?_
  intro p e s m below meth c ls C hH hl
  replace C : Cx 45 D ad κ p s m _ meth c cX12_restore RX12 3 (some .boolean) := C
  have hx := C.1
  have hb := C.2.1
  have hown := C.2.2.2.1
  have hts := C.2.2.2.2.1
  rw [FX12_restore] at h
  refine lv_iload_n hx hb dX12_restore_0 rfl (lv_at hl 1 rfl) ?_
  refine lv_iconst (v := 0) hx hb dX12_restore_1 (by decide) ?_
  refine lv_iconst (v := 2) hx hb dX12_restore_2 (by decide) ?_
  obtain ⟨r_6, σ_7, hc_8, h⟩ := bdI_ex h
  refine g_ci (g_runS (rest := []) C hH hl.1 cS_X12_310 (kX12_in l D ad κ hc_8) ⟨rfl, rfl⟩ ⟨(Nat.le_of_ble_eq_true rfl), (Nat.le_of_ble_eq_true rfl)⟩ rfl rfl (Nat.le_of_ble_eq_true rfl) dX12_restore_3 z00) hH (fun H locs hH => ?_)
  refine lv_if_eq (tgt := 18) hx hb dX12_restore_6 (by decide) (fun hq_9 => ?_) (fun hq_9 => ?_)
  · rw [if_pos hq_9] at h
    refine lv_iconst (v := 0) hx hb dX12_restore_18 (by decide) ?_
    exact g_retZ C hH rfl h dX12_restore_19
  · rw [if_neg hq_9] at h
    refine lv_aload_n hx hb dX12_restore_9 rfl (lv_at hl 0 rfl) ?_
    refine g_get C hH 0 (Nat.le_of_ble_eq_true rfl) rfl fl_X12_146 (v := .ref (ad 43)) rfl dX12_restore_10 ?_
    refine lv_iload_n hx hb dX12_restore_13 rfl (lv_at hl 1 rfl) ?_
    obtain ⟨hi_10, h⟩ := gd_ex h
    refine g_zald C hH 43 (Nat.le_of_ble_eq_true rfl) rfl (k := (x1.toNatClampNeg)) rfl (ix_in hi_10) dX12_restore_14 ?_
    refine lv_if_ne (tgt := 20) hx hb dX12_restore_15 (by decide) (fun hq_11 => ?_) (fun hq_11 => ?_)
    · rw [if_neg hq_11] at h
      refine lv_iconst (v := 0) hx hb dX12_restore_20 (by decide) ?_
      refine lv_istore_n (lv' := [(2, .int (0 : Int32)), (0, .ref (ad 0)), (1, .int x1)]) hx hb dX12_restore_21 rfl hl (by decide) rfl (fun ls hl => ?_)
      exact wX12_restore_22 C _ _ _ _ _ _ _ h hH (lv_sub hl [1, 2, 0] rfl)
    · rw [if_pos hq_11] at h
      refine lv_iconst (v := 0) hx hb dX12_restore_18 (by decide) ?_
      exact g_retZ C hH rfl h dX12_restore_19
-- X12_sumNow
def FX12_sumNow_5  : Nat → Int32 → Int32 → Int32 → Int32 → HS → Option (Int32 × HS)
  | 0, _, _, _, _, _ => none
  | f + 1, x1, x2, x3, x4, σ => if (x1 + x2) ≤ x4 then some (x3, σ) else gd (ix x4 33) (hl_ (x3 + (σ.1 31 (x4.toNatClampNeg))) fun x3_3 => FX12_sumNow_5  f x1 x2 x3_3 (x4 + 1) σ)
def FX12_sumNow (x1 : Int32) (x2 : Int32) (σ : HS) : Option (Int32 × HS) :=
  FX12_sumNow_5 fu x1 x2 (0 : Int32) x1 σ
set_option maxHeartbeats 4000000 in
set_option maxRecDepth 100000 in
theorem wX12_sumNow_5 (C : Cx 45 D ad κ p s m args meth c cX12_sumNow RX12 5 (some .int)) {R : (Int32 × HS)} : ∀ (f : Nat) (x1 : Int32) (x2 : Int32) (x3 : Int32) (x4 : Int32) (σ : HS) (H : Heap) (locs : List Loc) (ls : Array Slot), FX12_sumNow_5  f x1 x2 x3 x4 σ = some R → Hd 45 ceM D ad κ s σ H locs → lv_has ls 5 [(0, .ref (ad 0)), (1, .int x1), (2, .int x2), (3, .int x3), (4, .int x4)] → W p l e ({ frames := 0, cells := 0, slots := 0, locals := 0 } : Room) s m args below meth c H locs 0 0 (MQ below (QI 45 ceM D ad κ R) args s 0 0 (AX 45 ad)) (F0 m 5 ls []) := by
  have hx := C.1
  have hb := C.2.1
  have hown := C.2.2.2.1
  have hts := C.2.2.2.2.1
  intro f
  induction f with
  | zero =>
    intro x1 x2 x3 x4 σ H locs ls h hH hl
    cases h
  | succ f ih =>
    intro x1 x2 x3 x4 σ H locs ls h hH hl
    rw [FX12_sumNow_5] at h
    refine lv_iload hx hb dX12_sumNow_5 (lv_at hl 4 rfl) ?_
    refine lv_iload_n hx hb dX12_sumNow_7 rfl (lv_at hl 1 rfl) ?_
    refine lv_iload_n hx hb dX12_sumNow_8 rfl (lv_at hl 2 rfl) ?_
    refine lv_iadd hx hb dX12_sumNow_9 ?_
    refine lv_icmp_ge (tgt := 29) hx hb dX12_sumNow_10 (by decide) (fun hq_1 => ?_) (fun hq_1 => ?_)
    · rw [if_pos hq_1] at h
      refine lv_iload_n hx hb dX12_sumNow_29 rfl (lv_at hl 3 rfl) ?_
      exact g_ret C hH h dX12_sumNow_30
    · rw [if_neg hq_1] at h
      refine lv_iload_n hx hb dX12_sumNow_13 rfl (lv_at hl 3 rfl) ?_
      refine lv_aload_n hx hb dX12_sumNow_14 rfl (lv_at hl 0 rfl) ?_
      refine g_get C hH 0 (Nat.le_of_ble_eq_true rfl) rfl fl_X12_110 (v := .ref (ad 31)) rfl dX12_sumNow_15 ?_
      refine lv_iload hx hb dX12_sumNow_18 (lv_at hl 4 rfl) ?_
      obtain ⟨hi_2, h⟩ := gd_ex h
      refine g_iald C hH 31 (Nat.le_of_ble_eq_true rfl) rfl (k := (x4.toNatClampNeg)) rfl (ix_in hi_2) dX12_sumNow_20 ?_
      refine lv_iadd hx hb dX12_sumNow_21 ?_
      obtain ⟨x3_3, ex3_3, h⟩ := hl_ex h
      refine lv_eqi ex3_3 ?_
      refine lv_istore_n (lv' := [(3, .int x3_3), (0, .ref (ad 0)), (1, .int x1), (2, .int x2), (4, .int x4)]) hx hb dX12_sumNow_22 rfl hl (by decide) rfl (fun ls hl => ?_)
      refine lv_iinc (v := (x4 + 1)) (lv' := [(4, .int (x4 + 1)), (3, .int x3_3), (0, .ref (ad 0)), (1, .int x1), (2, .int x2)]) hx hb dX12_sumNow_23 hl (k := 4) rfl rfl (by decide) rfl (fun ls hl => ?_)
      refine lv_goto (tgt := 5) hx hb dX12_sumNow_26 (by decide) ?_
      exact ih _ _ _ _ _ _ _ _ h hH (lv_sub hl [2, 3, 4, 1, 0] rfl)
set_option maxHeartbeats 4000000 in
set_option maxRecDepth 100000 in
theorem kX12_sumNow (l : Launch) (D : va_G) (ad : Nat → Nat) (κ : KC) {x1 : Int32} {x2 : Int32} {σ : HS} {R : (Int32 × HS)} (h : FX12_sumNow x1 x2 σ = some R) : MtI l 45 ceM D ad κ yX12_sumNow cX12_sumNow 5 (some .int) ({ frames := 0, cells := 0, slots := 0, locals := 0 } : Room) [.ref (ad 0), .int x1, .int x2] σ R := by
  refine open_ (by decide) (Nat.le_of_ble_eq_true rfl) (la := [(0, .ref (ad 0)), (1, .int x1), (2, .int x2)]) rfl ?_
  intro p e s m below meth c ls C hH hl
  replace C : Cx 45 D ad κ p s m _ meth c cX12_sumNow RX12 5 (some .int) := C
  have hx := C.1
  have hb := C.2.1
  have hown := C.2.2.2.1
  have hts := C.2.2.2.2.1
  rw [FX12_sumNow] at h
  refine lv_iconst (v := 0) hx hb dX12_sumNow_0 (by decide) ?_
  refine lv_istore_n (lv' := [(3, .int (0 : Int32)), (0, .ref (ad 0)), (1, .int x1), (2, .int x2)]) hx hb dX12_sumNow_1 rfl hl (by decide) rfl (fun ls hl => ?_)
  refine lv_iload_n hx hb dX12_sumNow_2 rfl (lv_at hl 2 rfl) ?_
  refine lv_istore (lv' := [(4, .int x1), (3, .int (0 : Int32)), (0, .ref (ad 0)), (1, .int x1), (2, .int x2)]) hx hb dX12_sumNow_3 hl (by decide) rfl (fun ls hl => ?_)
  exact wX12_sumNow_5 C _ _ _ _ _ _ _ _ _ h hH (lv_sub hl [2, 3, 4, 1, 0] rfl)
-- X12_count
def FX12_count_210  (x1 : Int32) (x2 : Int32) (y0 : Int32) (y1 : Int32) (σ : HS) : Option (Int32 × HS) :=
  if (σ.1 43 2) = 0 then some (((y0 + y1) + (0 : Int32)), σ) else some (((y0 + y1) + (1 : Int32)), σ)
def FX12_count_196  (x1 : Int32) (x2 : Int32) (y0 : Int32) (σ : HS) : Option (Int32 × HS) :=
  if (σ.1 43 1) = 0 then FX12_count_210 x1 x2 y0 (0 : Int32) σ else FX12_count_210 x1 x2 y0 (1 : Int32) σ
def FX12_count_229  : Nat → Int32 → Int32 → Int32 → HS → Option (Int32 × HS)
  | 0, _, _, _, _ => none
  | f + 1, x1, x2, x3, σ => if (8 : Int32) ≤ x3 then some (x2, σ) else gd (ix ((10 : Int32) + x3) 33) (if (σ.1 32 (((10 : Int32) + x3).toNatClampNeg)) < 0 then FX12_count_229  f x1 x2 (x3 + 1) σ else hl_ (x2 ||| ((1 : Int32) <<< (x3 &&& 31))) fun x2_6 => FX12_count_229  f x1 x2_6 (x3 + 1) σ)
def FX12_count_279  : Nat → Int32 → Int32 → Int32 → HS → Option (Int32 × HS)
  | 0, _, _, _, _ => none
  | f + 1, x1, x2, x3, σ => bdI (FX12_many σ) fun r_7 σ_8 => if r_7 ≤ x3 then some (x2, σ_8) else gd (ix x3 33) (hl_ (x2 ||| ((1 : Int32) <<< ((σ_8.1 32 (x3.toNatClampNeg)) &&& 31))) fun x2_12 => FX12_count_279  f x1 x2_12 (x3 + 1) σ_8)
def FX12_count_308  : Nat → Int32 → Int32 → Int32 → HS → Option (Int32 × HS)
  | 0, _, _, _, _ => none
  | f + 1, x1, x2, x3, σ => if (8 : Int32) ≤ x3 then some (x2, σ) else gd (ix ((10 : Int32) + x3) 33) (if 0 ≤ (σ.1 32 (((10 : Int32) + x3).toNatClampNeg)) then FX12_count_308  f x1 x2 (x3 + 1) σ else FX12_count_308  f x1 (x2 + 1) (x3 + 1) σ)
def FX12_count_339  : Nat → Int32 → Int32 → Int32 → HS → Option (Int32 × HS)
  | 0, _, _, _, _ => none
  | f + 1, x1, x2, x3, σ => bdI (FX12_many σ) fun r_16 σ_17 => if r_16 ≤ x3 then some (x2, σ_17) else gd (ix x3 10) (if (σ_17.1 34 (x3.toNatClampNeg)) = (4 : Int32) then hl_ (x2 ||| ((1 : Int32) <<< (x3 &&& 31))) fun x2_22 => FX12_count_339  f x1 x2_22 (x3 + 1) σ_17 else FX12_count_339  f x1 x2 (x3 + 1) σ_17)
def FX12_count_373  : Nat → Int32 → Int32 → Int32 → HS → Option (Int32 × HS)
  | 0, _, _, _, _ => none
  | f + 1, x1, x2, x3, σ => bdI (FX12_many σ) fun r_23 σ_24 => if r_23 ≤ x3 then some (x2, σ_24) else gd (ix x3 10) (hl_ (x2 + (σ_24.1 34 (x3.toNatClampNeg))) fun x2_28 => FX12_count_373  f x1 x2_28 (x3 + 1) σ_24)
def FX12_count_400  : Nat → Int32 → Int32 → Int32 → HS → Option (Int32 × HS)
  | 0, _, _, _, _ => none
  | f + 1, x1, x2, x3, σ => gd (ix (σ.1 0 18) 2) (if (σ.1 11 ((σ.1 0 18).toNatClampNeg)) ≤ x3 then some (x2, σ) else bdI (FX12_partBits x3 σ) fun r_31 σ_32 => if r_31 = 0 then hl_ (x2 ||| ((1 : Int32) <<< (x3 &&& 31))) fun x2_35 => FX12_count_400  f x1 x2_35 (x3 + 1) σ_32 else FX12_count_400  f x1 x2 (x3 + 1) σ_32)
def FX12_count_437  : Nat → Int32 → Int32 → Int32 → HS → Option (Int32 × HS)
  | 0, _, _, _, _ => none
  | f + 1, x1, x2, x3, σ => gd (ix (σ.1 0 18) 2) (if (σ.1 11 ((σ.1 0 18).toNatClampNeg)) ≤ x3 then some (x2, σ) else gd (ix (((5 : Int32) * (σ.1 0 18)) + x3) 10) (hl_ (x2 + (σ.1 12 ((((5 : Int32) * (σ.1 0 18)) + x3).toNatClampNeg))) fun x2_39 => FX12_count_437  f x1 x2_39 (x3 + 1) σ))
def FX12_count (x1 : Int32) (σ : HS) : Option (Int32 × HS) :=
  bdV (FX12_copiesFalls σ) fun σ_40 => if x1 = 0 then bdI (FX12_many σ_40) fun r_43 σ_44 => some (r_43, σ_44) else if x1 = 1 then gd (ix (σ_40.1 0 18) 2) (some ((σ_40.1 11 ((σ_40.1 0 18).toNatClampNeg)), σ_40)) else if x1 = 2 then some ((σ_40.1 32 20), σ_40) else if x1 = 3 then some ((σ_40.1 32 18), σ_40) else if x1 = 4 then some ((σ_40.1 32 19), σ_40) else if x1 = 5 then some ((σ_40.1 32 21), σ_40) else if x1 = 6 then some ((σ_40.1 32 22), σ_40) else if x1 = 7 then bdI (FX12_many σ_40) fun r_54 σ_55 => bdI (FX12_power r_54 σ_55) fun r_57 σ_58 => some (r_57, σ_58) else if x1 = 8 then some ((σ_40.1 0 2), σ_40) else if x1 = 9 then some ((σ_40.1 0 50), σ_40) else if x1 = 10 then some ((σ_40.1 0 57), σ_40) else if x1 = 11 then if (σ_40.1 43 0) = 0 then FX12_count_196 x1 (0 : Int32) (0 : Int32) σ_40 else FX12_count_196 x1 (0 : Int32) (1 : Int32) σ_40 else if x1 = 12 then FX12_count_229 fu x1 (0 : Int32) (0 : Int32) σ_40 else if x1 = 13 then bdI (FX12_sumNow (23 : Int32) (5 : Int32) σ_40) fun r_67 σ_68 => some (r_67, σ_68) else if x1 = 14 then bdI (FX12_sumNow (28 : Int32) (5 : Int32) σ_40) fun r_71 σ_72 => some (r_71, σ_72) else if x1 = 15 then FX12_count_279 fu x1 (0 : Int32) (0 : Int32) σ_40 else if x1 = 16 then FX12_count_308 fu x1 (0 : Int32) (0 : Int32) σ_40 else if x1 = 17 then FX12_count_339 fu x1 (0 : Int32) (0 : Int32) σ_40 else if x1 = 18 then FX12_count_373 fu x1 (0 : Int32) (0 : Int32) σ_40 else if x1 = 19 then FX12_count_400 fu x1 (0 : Int32) (0 : Int32) σ_40 else if x1 = 20 then FX12_count_437 fu x1 (0 : Int32) (0 : Int32) σ_40 else some ((-1 : Int32), σ_40)
set_option maxHeartbeats 4000000 in
set_option maxRecDepth 100000 in
theorem wX12_count_210 (C : Cx 45 D ad κ p s m args meth c cX12_count RX12 4 (some .int)) {R : (Int32 × HS)} : ∀ (x1 : Int32) (x2 : Int32) (y0 : Int32) (y1 : Int32) (σ : HS) (H : Heap) (locs : List Loc) (ls : Array Slot), FX12_count_210  x1 x2 y0 y1 σ = some R → Hd 45 ceM D ad κ s σ H locs → lv_has ls 4 [(0, .ref (ad 0)), (1, .int x1), (2, .int x2)] → W p l e ({ frames := 5, cells := 0, slots := 0, locals := 117 } : Room) s m args below meth c H locs 0 0 (MQ below (QI 45 ceM D ad κ R) args s 0 0 (AX 45 ad)) (F0 m 210 ls [.int y1, .int y0]) := by
  have hx := C.1
  have hb := C.2.1
  have hown := C.2.2.2.1
  have hts := C.2.2.2.2.1
  intro x1 x2 y0 y1 σ H locs ls h hH hl
  rw [FX12_count_210] at h
  refine lv_iadd hx hb dX12_count_210 ?_
  refine lv_aload_n hx hb dX12_count_211 rfl (lv_at hl 0 rfl) ?_
  refine g_get C hH 0 (Nat.le_of_ble_eq_true rfl) rfl fl_X12_146 (v := .ref (ad 43)) rfl dX12_count_212 ?_
  refine lv_iconst (v := 2) hx hb dX12_count_215 (by decide) ?_
  refine g_zald C hH 43 (Nat.le_of_ble_eq_true rfl) rfl (k := 2) (by decide) (ix_in rfl) dX12_count_216 ?_
  refine lv_if_eq (tgt := 224) hx hb dX12_count_217 (by decide) (fun hq_1 => ?_) (fun hq_1 => ?_)
  · rw [if_pos hq_1] at h
    refine lv_iconst (v := 0) hx hb dX12_count_224 (by decide) ?_
    refine lv_iadd hx hb dX12_count_225 ?_
    exact g_ret C hH h dX12_count_226
  · rw [if_neg hq_1] at h
    refine lv_iconst (v := 1) hx hb dX12_count_220 (by decide) ?_
    refine lv_goto (tgt := 225) hx hb dX12_count_221 (by decide) ?_
    refine lv_iadd hx hb dX12_count_225 ?_
    exact g_ret C hH h dX12_count_226
set_option maxHeartbeats 4000000 in
set_option maxRecDepth 100000 in
theorem wX12_count_196 (C : Cx 45 D ad κ p s m args meth c cX12_count RX12 4 (some .int)) {R : (Int32 × HS)} : ∀ (x1 : Int32) (x2 : Int32) (y0 : Int32) (σ : HS) (H : Heap) (locs : List Loc) (ls : Array Slot), FX12_count_196  x1 x2 y0 σ = some R → Hd 45 ceM D ad κ s σ H locs → lv_has ls 4 [(0, .ref (ad 0)), (1, .int x1), (2, .int x2)] → W p l e ({ frames := 5, cells := 0, slots := 0, locals := 117 } : Room) s m args below meth c H locs 0 0 (MQ below (QI 45 ceM D ad κ R) args s 0 0 (AX 45 ad)) (F0 m 196 ls [.int y0]) := by
  have hx := C.1
  have hb := C.2.1
  have hown := C.2.2.2.1
  have hts := C.2.2.2.2.1
  intro x1 x2 y0 σ H locs ls h hH hl
  rw [FX12_count_196] at h
  refine lv_aload_n hx hb dX12_count_196 rfl (lv_at hl 0 rfl) ?_
  refine g_get C hH 0 (Nat.le_of_ble_eq_true rfl) rfl fl_X12_146 (v := .ref (ad 43)) rfl dX12_count_197 ?_
  refine lv_iconst (v := 1) hx hb dX12_count_200 (by decide) ?_
  refine g_zald C hH 43 (Nat.le_of_ble_eq_true rfl) rfl (k := 1) (by decide) (ix_in rfl) dX12_count_201 ?_
  refine lv_if_eq (tgt := 209) hx hb dX12_count_202 (by decide) (fun hq_2 => ?_) (fun hq_2 => ?_)
  · rw [if_pos hq_2] at h
    refine lv_iconst (v := 0) hx hb dX12_count_209 (by decide) ?_
    exact wX12_count_210 C  _ _ _ _ _ _ _ _ h hH (lv_sub hl [0, 1, 2] rfl)
  · rw [if_neg hq_2] at h
    refine lv_iconst (v := 1) hx hb dX12_count_205 (by decide) ?_
    refine lv_goto (tgt := 210) hx hb dX12_count_206 (by decide) ?_
    exact wX12_count_210 C  _ _ _ _ _ _ _ _ h hH (lv_sub hl [0, 1, 2] rfl)
set_option maxHeartbeats 4000000 in
set_option maxRecDepth 100000 in
theorem wX12_count_229 (C : Cx 45 D ad κ p s m args meth c cX12_count RX12 4 (some .int)) {R : (Int32 × HS)} : ∀ (f : Nat) (x1 : Int32) (x2 : Int32) (x3 : Int32) (σ : HS) (H : Heap) (locs : List Loc) (ls : Array Slot), FX12_count_229  f x1 x2 x3 σ = some R → Hd 45 ceM D ad κ s σ H locs → lv_has ls 4 [(0, .ref (ad 0)), (1, .int x1), (2, .int x2), (3, .int x3)] → W p l e ({ frames := 5, cells := 0, slots := 0, locals := 117 } : Room) s m args below meth c H locs 0 0 (MQ below (QI 45 ceM D ad κ R) args s 0 0 (AX 45 ad)) (F0 m 229 ls []) := by
  have hx := C.1
  have hb := C.2.1
  have hown := C.2.2.2.1
  have hts := C.2.2.2.2.1
  intro f
  induction f with
  | zero =>
    intro x1 x2 x3 σ H locs ls h hH hl
    cases h
  | succ f ih =>
    intro x1 x2 x3 σ H locs ls h hH hl
    rw [FX12_count_229] at h
    refine lv_iload_n hx hb dX12_count_229 rfl (lv_at hl 3 rfl) ?_
    refine lv_bipush (v := 8) hx hb dX12_count_230 (by decide) ?_
    refine lv_icmp_ge (tgt := 259) hx hb dX12_count_232 (by decide) (fun hq_3 => ?_) (fun hq_3 => ?_)
    · rw [if_pos hq_3] at h
      refine lv_iload_n hx hb dX12_count_259 rfl (lv_at hl 2 rfl) ?_
      exact g_ret C hH h dX12_count_260
    · rw [if_neg hq_3] at h
      refine lv_aload_n hx hb dX12_count_235 rfl (lv_at hl 0 rfl) ?_
      refine g_get C hH 0 (Nat.le_of_ble_eq_true rfl) rfl fl_X12_113 (v := .ref (ad 32)) rfl dX12_count_236 ?_
      refine lv_bipush (v := 10) hx hb dX12_count_239 (by decide) ?_
      refine lv_iload_n hx hb dX12_count_241 rfl (lv_at hl 3 rfl) ?_
      refine lv_iadd hx hb dX12_count_242 ?_
      obtain ⟨hi_4, h⟩ := gd_ex h
      refine g_iald C hH 32 (Nat.le_of_ble_eq_true rfl) rfl (k := (((10 : Int32) + x3).toNatClampNeg)) rfl (ix_in hi_4) dX12_count_243 ?_
      refine lv_if_lt (tgt := 253) hx hb dX12_count_244 (by decide) (fun hq_5 => ?_) (fun hq_5 => ?_)
      · rw [if_pos hq_5] at h
        refine lv_iinc (v := (x3 + 1)) (lv' := [(3, .int (x3 + 1)), (0, .ref (ad 0)), (1, .int x1), (2, .int x2)]) hx hb dX12_count_253 hl (k := 3) rfl rfl (by decide) rfl (fun ls hl => ?_)
        refine lv_goto (tgt := 229) hx hb dX12_count_256 (by decide) ?_
        exact ih _ _ _ _ _ _ _ h hH (lv_sub hl [1, 2, 3, 0] rfl)
      · rw [if_neg hq_5] at h
        refine lv_iload_n hx hb dX12_count_247 rfl (lv_at hl 2 rfl) ?_
        refine lv_iconst (v := 1) hx hb dX12_count_248 (by decide) ?_
        refine lv_iload_n hx hb dX12_count_249 rfl (lv_at hl 3 rfl) ?_
        refine lv_ishl hx hb dX12_count_250 ?_
        refine lv_ior hx hb dX12_count_251 ?_
        obtain ⟨x2_6, ex2_6, h⟩ := hl_ex h
        refine lv_eqi ex2_6 ?_
        refine lv_istore_n (lv' := [(2, .int x2_6), (0, .ref (ad 0)), (1, .int x1), (3, .int x3)]) hx hb dX12_count_252 rfl hl (by decide) rfl (fun ls hl => ?_)
        refine lv_iinc (v := (x3 + 1)) (lv' := [(3, .int (x3 + 1)), (2, .int x2_6), (0, .ref (ad 0)), (1, .int x1)]) hx hb dX12_count_253 hl (k := 3) rfl rfl (by decide) rfl (fun ls hl => ?_)
        refine lv_goto (tgt := 229) hx hb dX12_count_256 (by decide) ?_
        exact ih _ _ _ _ _ _ _ h hH (lv_sub hl [2, 3, 1, 0] rfl)
set_option maxHeartbeats 4000000 in
set_option maxRecDepth 100000 in
theorem wX12_count_279 (C : Cx 45 D ad κ p s m args meth c cX12_count RX12 4 (some .int)) {R : (Int32 × HS)} : ∀ (f : Nat) (x1 : Int32) (x2 : Int32) (x3 : Int32) (σ : HS) (H : Heap) (locs : List Loc) (ls : Array Slot), FX12_count_279  f x1 x2 x3 σ = some R → Hd 45 ceM D ad κ s σ H locs → lv_has ls 4 [(0, .ref (ad 0)), (1, .int x1), (2, .int x2), (3, .int x3)] → W p l e ({ frames := 5, cells := 0, slots := 0, locals := 117 } : Room) s m args below meth c H locs 0 0 (MQ below (QI 45 ceM D ad κ R) args s 0 0 (AX 45 ad)) (F0 m 279 ls []) := by
  have hx := C.1
  have hb := C.2.1
  have hown := C.2.2.2.1
  have hts := C.2.2.2.2.1
  intro f
  induction f with
  | zero =>
    intro x1 x2 x3 σ H locs ls h hH hl
    cases h
  | succ f ih =>
    intro x1 x2 x3 σ H locs ls h hH hl
    rw [FX12_count_279] at h
    refine lv_iload_n hx hb dX12_count_279 rfl (lv_at hl 3 rfl) ?_
    refine lv_aload_n hx hb dX12_count_280 rfl (lv_at hl 0 rfl) ?_
    obtain ⟨r_7, σ_8, hc_9, h⟩ := bdI_ex h
    refine g_ci (g_runV (rest := [.int x3]) C hH hl.1 cV_X12_306 0 (Nat.le_of_ble_eq_true rfl) rfl rfl (kX12_many l D ad κ hc_9) ⟨rfl, rfl⟩ ⟨(Nat.le_of_ble_eq_true rfl), (Nat.le_of_ble_eq_true rfl)⟩ rfl rfl (Nat.le_of_ble_eq_true rfl) dX12_count_281 z00) hH (fun H locs hH => ?_)
    refine lv_icmp_ge (tgt := 304) hx hb dX12_count_284 (by decide) (fun hq_10 => ?_) (fun hq_10 => ?_)
    · rw [if_pos hq_10] at h
      refine lv_iload_n hx hb dX12_count_304 rfl (lv_at hl 2 rfl) ?_
      exact g_ret C hH h dX12_count_305
    · rw [if_neg hq_10] at h
      refine lv_iload_n hx hb dX12_count_287 rfl (lv_at hl 2 rfl) ?_
      refine lv_iconst (v := 1) hx hb dX12_count_288 (by decide) ?_
      refine lv_aload_n hx hb dX12_count_289 rfl (lv_at hl 0 rfl) ?_
      refine g_get C hH 0 (Nat.le_of_ble_eq_true rfl) rfl fl_X12_113 (v := .ref (ad 32)) rfl dX12_count_290 ?_
      refine lv_iload_n hx hb dX12_count_293 rfl (lv_at hl 3 rfl) ?_
      obtain ⟨hi_11, h⟩ := gd_ex h
      refine g_iald C hH 32 (Nat.le_of_ble_eq_true rfl) rfl (k := (x3.toNatClampNeg)) rfl (ix_in hi_11) dX12_count_294 ?_
      refine lv_ishl hx hb dX12_count_295 ?_
      refine lv_ior hx hb dX12_count_296 ?_
      obtain ⟨x2_12, ex2_12, h⟩ := hl_ex h
      refine lv_eqi ex2_12 ?_
      refine lv_istore_n (lv' := [(2, .int x2_12), (0, .ref (ad 0)), (1, .int x1), (3, .int x3)]) hx hb dX12_count_297 rfl hl (by decide) rfl (fun ls hl => ?_)
      refine lv_iinc (v := (x3 + 1)) (lv' := [(3, .int (x3 + 1)), (2, .int x2_12), (0, .ref (ad 0)), (1, .int x1)]) hx hb dX12_count_298 hl (k := 3) rfl rfl (by decide) rfl (fun ls hl => ?_)
      refine lv_goto (tgt := 279) hx hb dX12_count_301 (by decide) ?_
      exact ih _ _ _ _ _ _ _ h hH (lv_sub hl [2, 3, 1, 0] rfl)
set_option maxHeartbeats 4000000 in
set_option maxRecDepth 100000 in
theorem wX12_count_308 (C : Cx 45 D ad κ p s m args meth c cX12_count RX12 4 (some .int)) {R : (Int32 × HS)} : ∀ (f : Nat) (x1 : Int32) (x2 : Int32) (x3 : Int32) (σ : HS) (H : Heap) (locs : List Loc) (ls : Array Slot), FX12_count_308  f x1 x2 x3 σ = some R → Hd 45 ceM D ad κ s σ H locs → lv_has ls 4 [(0, .ref (ad 0)), (1, .int x1), (2, .int x2), (3, .int x3)] → W p l e ({ frames := 5, cells := 0, slots := 0, locals := 117 } : Room) s m args below meth c H locs 0 0 (MQ below (QI 45 ceM D ad κ R) args s 0 0 (AX 45 ad)) (F0 m 308 ls []) := by
  have hx := C.1
  have hb := C.2.1
  have hown := C.2.2.2.1
  have hts := C.2.2.2.2.1
  intro f
  induction f with
  | zero =>
    intro x1 x2 x3 σ H locs ls h hH hl
    cases h
  | succ f ih =>
    intro x1 x2 x3 σ H locs ls h hH hl
    rw [FX12_count_308] at h
    refine lv_iload_n hx hb dX12_count_308 rfl (lv_at hl 3 rfl) ?_
    refine lv_bipush (v := 8) hx hb dX12_count_309 (by decide) ?_
    refine lv_icmp_ge (tgt := 335) hx hb dX12_count_311 (by decide) (fun hq_13 => ?_) (fun hq_13 => ?_)
    · rw [if_pos hq_13] at h
      refine lv_iload_n hx hb dX12_count_335 rfl (lv_at hl 2 rfl) ?_
      exact g_ret C hH h dX12_count_336
    · rw [if_neg hq_13] at h
      refine lv_aload_n hx hb dX12_count_314 rfl (lv_at hl 0 rfl) ?_
      refine g_get C hH 0 (Nat.le_of_ble_eq_true rfl) rfl fl_X12_113 (v := .ref (ad 32)) rfl dX12_count_315 ?_
      refine lv_bipush (v := 10) hx hb dX12_count_318 (by decide) ?_
      refine lv_iload_n hx hb dX12_count_320 rfl (lv_at hl 3 rfl) ?_
      refine lv_iadd hx hb dX12_count_321 ?_
      obtain ⟨hi_14, h⟩ := gd_ex h
      refine g_iald C hH 32 (Nat.le_of_ble_eq_true rfl) rfl (k := (((10 : Int32) + x3).toNatClampNeg)) rfl (ix_in hi_14) dX12_count_322 ?_
      refine lv_if_ge (tgt := 329) hx hb dX12_count_323 (by decide) (fun hq_15 => ?_) (fun hq_15 => ?_)
      · rw [if_pos hq_15] at h
        refine lv_iinc (v := (x3 + 1)) (lv' := [(3, .int (x3 + 1)), (0, .ref (ad 0)), (1, .int x1), (2, .int x2)]) hx hb dX12_count_329 hl (k := 3) rfl rfl (by decide) rfl (fun ls hl => ?_)
        refine lv_goto (tgt := 308) hx hb dX12_count_332 (by decide) ?_
        exact ih _ _ _ _ _ _ _ h hH (lv_sub hl [1, 2, 3, 0] rfl)
      · rw [if_neg hq_15] at h
        refine lv_iinc (v := (x2 + 1)) (lv' := [(2, .int (x2 + 1)), (0, .ref (ad 0)), (1, .int x1), (3, .int x3)]) hx hb dX12_count_326 hl (k := 2) rfl rfl (by decide) rfl (fun ls hl => ?_)
        refine lv_iinc (v := (x3 + 1)) (lv' := [(3, .int (x3 + 1)), (2, .int (x2 + 1)), (0, .ref (ad 0)), (1, .int x1)]) hx hb dX12_count_329 hl (k := 3) rfl rfl (by decide) rfl (fun ls hl => ?_)
        refine lv_goto (tgt := 308) hx hb dX12_count_332 (by decide) ?_
        exact ih _ _ _ _ _ _ _ h hH (lv_sub hl [2, 3, 1, 0] rfl)
set_option maxHeartbeats 4000000 in
set_option maxRecDepth 100000 in
theorem wX12_count_339 (C : Cx 45 D ad κ p s m args meth c cX12_count RX12 4 (some .int)) {R : (Int32 × HS)} : ∀ (f : Nat) (x1 : Int32) (x2 : Int32) (x3 : Int32) (σ : HS) (H : Heap) (locs : List Loc) (ls : Array Slot), FX12_count_339  f x1 x2 x3 σ = some R → Hd 45 ceM D ad κ s σ H locs → lv_has ls 4 [(0, .ref (ad 0)), (1, .int x1), (2, .int x2), (3, .int x3)] → W p l e ({ frames := 5, cells := 0, slots := 0, locals := 117 } : Room) s m args below meth c H locs 0 0 (MQ below (QI 45 ceM D ad κ R) args s 0 0 (AX 45 ad)) (F0 m 339 ls []) := by
  have hx := C.1
  have hb := C.2.1
  have hown := C.2.2.2.1
  have hts := C.2.2.2.2.1
  intro f
  induction f with
  | zero =>
    intro x1 x2 x3 σ H locs ls h hH hl
    cases h
  | succ f ih =>
    intro x1 x2 x3 σ H locs ls h hH hl
    rw [FX12_count_339] at h
    refine lv_iload_n hx hb dX12_count_339 rfl (lv_at hl 3 rfl) ?_
    refine lv_aload_n hx hb dX12_count_340 rfl (lv_at hl 0 rfl) ?_
    obtain ⟨r_16, σ_17, hc_18, h⟩ := bdI_ex h
    refine g_ci (g_runV (rest := [.int x3]) C hH hl.1 cV_X12_306 0 (Nat.le_of_ble_eq_true rfl) rfl rfl (kX12_many l D ad κ hc_18) ⟨rfl, rfl⟩ ⟨(Nat.le_of_ble_eq_true rfl), (Nat.le_of_ble_eq_true rfl)⟩ rfl rfl (Nat.le_of_ble_eq_true rfl) dX12_count_341 z00) hH (fun H locs hH => ?_)
    refine lv_icmp_ge (tgt := 369) hx hb dX12_count_344 (by decide) (fun hq_19 => ?_) (fun hq_19 => ?_)
    · rw [if_pos hq_19] at h
      refine lv_iload_n hx hb dX12_count_369 rfl (lv_at hl 2 rfl) ?_
      exact g_ret C hH h dX12_count_370
    · rw [if_neg hq_19] at h
      refine lv_aload_n hx hb dX12_count_347 rfl (lv_at hl 0 rfl) ?_
      refine g_get C hH 0 (Nat.le_of_ble_eq_true rfl) rfl fl_X12_119 (v := .ref (ad 34)) rfl dX12_count_348 ?_
      refine lv_iload_n hx hb dX12_count_351 rfl (lv_at hl 3 rfl) ?_
      obtain ⟨hi_20, h⟩ := gd_ex h
      refine g_iald C hH 34 (Nat.le_of_ble_eq_true rfl) rfl (k := (x3.toNatClampNeg)) rfl (ix_in hi_20) dX12_count_352 ?_
      refine lv_iconst (v := 4) hx hb dX12_count_353 (by decide) ?_
      refine lv_icmp_ne (tgt := 363) hx hb dX12_count_354 (by decide) (fun hq_21 => ?_) (fun hq_21 => ?_)
      · rw [if_neg hq_21] at h
        refine lv_iinc (v := (x3 + 1)) (lv' := [(3, .int (x3 + 1)), (0, .ref (ad 0)), (1, .int x1), (2, .int x2)]) hx hb dX12_count_363 hl (k := 3) rfl rfl (by decide) rfl (fun ls hl => ?_)
        refine lv_goto (tgt := 339) hx hb dX12_count_366 (by decide) ?_
        exact ih _ _ _ _ _ _ _ h hH (lv_sub hl [1, 2, 3, 0] rfl)
      · rw [if_pos hq_21] at h
        refine lv_iload_n hx hb dX12_count_357 rfl (lv_at hl 2 rfl) ?_
        refine lv_iconst (v := 1) hx hb dX12_count_358 (by decide) ?_
        refine lv_iload_n hx hb dX12_count_359 rfl (lv_at hl 3 rfl) ?_
        refine lv_ishl hx hb dX12_count_360 ?_
        refine lv_ior hx hb dX12_count_361 ?_
        obtain ⟨x2_22, ex2_22, h⟩ := hl_ex h
        refine lv_eqi ex2_22 ?_
        refine lv_istore_n (lv' := [(2, .int x2_22), (0, .ref (ad 0)), (1, .int x1), (3, .int x3)]) hx hb dX12_count_362 rfl hl (by decide) rfl (fun ls hl => ?_)
        refine lv_iinc (v := (x3 + 1)) (lv' := [(3, .int (x3 + 1)), (2, .int x2_22), (0, .ref (ad 0)), (1, .int x1)]) hx hb dX12_count_363 hl (k := 3) rfl rfl (by decide) rfl (fun ls hl => ?_)
        refine lv_goto (tgt := 339) hx hb dX12_count_366 (by decide) ?_
        exact ih _ _ _ _ _ _ _ h hH (lv_sub hl [2, 3, 1, 0] rfl)
set_option maxHeartbeats 4000000 in
set_option maxRecDepth 100000 in
theorem wX12_count_373 (C : Cx 45 D ad κ p s m args meth c cX12_count RX12 4 (some .int)) {R : (Int32 × HS)} : ∀ (f : Nat) (x1 : Int32) (x2 : Int32) (x3 : Int32) (σ : HS) (H : Heap) (locs : List Loc) (ls : Array Slot), FX12_count_373  f x1 x2 x3 σ = some R → Hd 45 ceM D ad κ s σ H locs → lv_has ls 4 [(0, .ref (ad 0)), (1, .int x1), (2, .int x2), (3, .int x3)] → W p l e ({ frames := 5, cells := 0, slots := 0, locals := 117 } : Room) s m args below meth c H locs 0 0 (MQ below (QI 45 ceM D ad κ R) args s 0 0 (AX 45 ad)) (F0 m 373 ls []) := by
  have hx := C.1
  have hb := C.2.1
  have hown := C.2.2.2.1
  have hts := C.2.2.2.2.1
  intro f
  induction f with
  | zero =>
    intro x1 x2 x3 σ H locs ls h hH hl
    cases h
  | succ f ih =>
    intro x1 x2 x3 σ H locs ls h hH hl
    rw [FX12_count_373] at h
    refine lv_iload_n hx hb dX12_count_373 rfl (lv_at hl 3 rfl) ?_
    refine lv_aload_n hx hb dX12_count_374 rfl (lv_at hl 0 rfl) ?_
    obtain ⟨r_23, σ_24, hc_25, h⟩ := bdI_ex h
    refine g_ci (g_runV (rest := [.int x3]) C hH hl.1 cV_X12_306 0 (Nat.le_of_ble_eq_true rfl) rfl rfl (kX12_many l D ad κ hc_25) ⟨rfl, rfl⟩ ⟨(Nat.le_of_ble_eq_true rfl), (Nat.le_of_ble_eq_true rfl)⟩ rfl rfl (Nat.le_of_ble_eq_true rfl) dX12_count_375 z00) hH (fun H locs hH => ?_)
    refine lv_icmp_ge (tgt := 396) hx hb dX12_count_378 (by decide) (fun hq_26 => ?_) (fun hq_26 => ?_)
    · rw [if_pos hq_26] at h
      refine lv_iload_n hx hb dX12_count_396 rfl (lv_at hl 2 rfl) ?_
      exact g_ret C hH h dX12_count_397
    · rw [if_neg hq_26] at h
      refine lv_iload_n hx hb dX12_count_381 rfl (lv_at hl 2 rfl) ?_
      refine lv_aload_n hx hb dX12_count_382 rfl (lv_at hl 0 rfl) ?_
      refine g_get C hH 0 (Nat.le_of_ble_eq_true rfl) rfl fl_X12_119 (v := .ref (ad 34)) rfl dX12_count_383 ?_
      refine lv_iload_n hx hb dX12_count_386 rfl (lv_at hl 3 rfl) ?_
      obtain ⟨hi_27, h⟩ := gd_ex h
      refine g_iald C hH 34 (Nat.le_of_ble_eq_true rfl) rfl (k := (x3.toNatClampNeg)) rfl (ix_in hi_27) dX12_count_387 ?_
      refine lv_iadd hx hb dX12_count_388 ?_
      obtain ⟨x2_28, ex2_28, h⟩ := hl_ex h
      refine lv_eqi ex2_28 ?_
      refine lv_istore_n (lv' := [(2, .int x2_28), (0, .ref (ad 0)), (1, .int x1), (3, .int x3)]) hx hb dX12_count_389 rfl hl (by decide) rfl (fun ls hl => ?_)
      refine lv_iinc (v := (x3 + 1)) (lv' := [(3, .int (x3 + 1)), (2, .int x2_28), (0, .ref (ad 0)), (1, .int x1)]) hx hb dX12_count_390 hl (k := 3) rfl rfl (by decide) rfl (fun ls hl => ?_)
      refine lv_goto (tgt := 373) hx hb dX12_count_393 (by decide) ?_
      exact ih _ _ _ _ _ _ _ h hH (lv_sub hl [2, 3, 1, 0] rfl)
set_option maxHeartbeats 4000000 in
set_option maxRecDepth 100000 in
theorem wX12_count_400 (C : Cx 45 D ad κ p s m args meth c cX12_count RX12 4 (some .int)) {R : (Int32 × HS)} : ∀ (f : Nat) (x1 : Int32) (x2 : Int32) (x3 : Int32) (σ : HS) (H : Heap) (locs : List Loc) (ls : Array Slot), FX12_count_400  f x1 x2 x3 σ = some R → Hd 45 ceM D ad κ s σ H locs → lv_has ls 4 [(0, .ref (ad 0)), (1, .int x1), (2, .int x2), (3, .int x3)] → W p l e ({ frames := 5, cells := 0, slots := 0, locals := 117 } : Room) s m args below meth c H locs 0 0 (MQ below (QI 45 ceM D ad κ R) args s 0 0 (AX 45 ad)) (F0 m 400 ls []) := by
  have hx := C.1
  have hb := C.2.1
  have hown := C.2.2.2.1
  have hts := C.2.2.2.2.1
  intro f
  induction f with
  | zero =>
    intro x1 x2 x3 σ H locs ls h hH hl
    cases h
  | succ f ih =>
    intro x1 x2 x3 σ H locs ls h hH hl
    rw [FX12_count_400] at h
    refine lv_iload_n hx hb dX12_count_400 rfl (lv_at hl 3 rfl) ?_
    refine lv_aload_n hx hb dX12_count_401 rfl (lv_at hl 0 rfl) ?_
    refine g_get C hH 0 (Nat.le_of_ble_eq_true rfl) rfl fl_X12_49 (v := .ref (ad 11)) rfl dX12_count_402 ?_
    refine lv_aload_n hx hb dX12_count_405 rfl (lv_at hl 0 rfl) ?_
    refine g_get C hH 0 (Nat.le_of_ble_eq_true rfl) rfl fl_X12_233 (v := .int (σ.1 0 18)) rfl dX12_count_406 ?_
    obtain ⟨hi_29, h⟩ := gd_ex h
    refine g_iald C hH 11 (Nat.le_of_ble_eq_true rfl) rfl (k := ((σ.1 0 18).toNatClampNeg)) rfl (ix_in hi_29) dX12_count_409 ?_
    refine lv_icmp_ge (tgt := 433) hx hb dX12_count_410 (by decide) (fun hq_30 => ?_) (fun hq_30 => ?_)
    · rw [if_pos hq_30] at h
      refine lv_iload_n hx hb dX12_count_433 rfl (lv_at hl 2 rfl) ?_
      exact g_ret C hH h dX12_count_434
    · rw [if_neg hq_30] at h
      refine lv_aload_n hx hb dX12_count_413 rfl (lv_at hl 0 rfl) ?_
      refine lv_iload_n hx hb dX12_count_414 rfl (lv_at hl 3 rfl) ?_
      obtain ⟨r_31, σ_32, hc_33, h⟩ := bdI_ex h
      refine g_ci (g_runV (rest := []) C hH hl.1 cV_X12_336 0 (Nat.le_of_ble_eq_true rfl) rfl rfl (kX12_partBits l D ad κ hc_33) ⟨rfl, rfl⟩ ⟨(Nat.le_of_ble_eq_true rfl), (Nat.le_of_ble_eq_true rfl)⟩ rfl rfl (Nat.le_of_ble_eq_true rfl) dX12_count_415 z00) hH (fun H locs hH => ?_)
      refine lv_if_ne (tgt := 427) hx hb dX12_count_418 (by decide) (fun hq_34 => ?_) (fun hq_34 => ?_)
      · rw [if_neg hq_34] at h
        refine lv_iinc (v := (x3 + 1)) (lv' := [(3, .int (x3 + 1)), (0, .ref (ad 0)), (1, .int x1), (2, .int x2)]) hx hb dX12_count_427 hl (k := 3) rfl rfl (by decide) rfl (fun ls hl => ?_)
        refine lv_goto (tgt := 400) hx hb dX12_count_430 (by decide) ?_
        exact ih _ _ _ _ _ _ _ h hH (lv_sub hl [1, 2, 3, 0] rfl)
      · rw [if_pos hq_34] at h
        refine lv_iload_n hx hb dX12_count_421 rfl (lv_at hl 2 rfl) ?_
        refine lv_iconst (v := 1) hx hb dX12_count_422 (by decide) ?_
        refine lv_iload_n hx hb dX12_count_423 rfl (lv_at hl 3 rfl) ?_
        refine lv_ishl hx hb dX12_count_424 ?_
        refine lv_ior hx hb dX12_count_425 ?_
        obtain ⟨x2_35, ex2_35, h⟩ := hl_ex h
        refine lv_eqi ex2_35 ?_
        refine lv_istore_n (lv' := [(2, .int x2_35), (0, .ref (ad 0)), (1, .int x1), (3, .int x3)]) hx hb dX12_count_426 rfl hl (by decide) rfl (fun ls hl => ?_)
        refine lv_iinc (v := (x3 + 1)) (lv' := [(3, .int (x3 + 1)), (2, .int x2_35), (0, .ref (ad 0)), (1, .int x1)]) hx hb dX12_count_427 hl (k := 3) rfl rfl (by decide) rfl (fun ls hl => ?_)
        refine lv_goto (tgt := 400) hx hb dX12_count_430 (by decide) ?_
        exact ih _ _ _ _ _ _ _ h hH (lv_sub hl [2, 3, 1, 0] rfl)
set_option maxHeartbeats 4000000 in
set_option maxRecDepth 100000 in
theorem wX12_count_437 (C : Cx 45 D ad κ p s m args meth c cX12_count RX12 4 (some .int)) {R : (Int32 × HS)} : ∀ (f : Nat) (x1 : Int32) (x2 : Int32) (x3 : Int32) (σ : HS) (H : Heap) (locs : List Loc) (ls : Array Slot), FX12_count_437  f x1 x2 x3 σ = some R → Hd 45 ceM D ad κ s σ H locs → lv_has ls 4 [(0, .ref (ad 0)), (1, .int x1), (2, .int x2), (3, .int x3)] → W p l e ({ frames := 5, cells := 0, slots := 0, locals := 117 } : Room) s m args below meth c H locs 0 0 (MQ below (QI 45 ceM D ad κ R) args s 0 0 (AX 45 ad)) (F0 m 437 ls []) := by
  have hx := C.1
  have hb := C.2.1
  have hown := C.2.2.2.1
  have hts := C.2.2.2.2.1
  intro f
  induction f with
  | zero =>
    intro x1 x2 x3 σ H locs ls h hH hl
    cases h
  | succ f ih =>
    intro x1 x2 x3 σ H locs ls h hH hl
    rw [FX12_count_437] at h
    refine lv_iload_n hx hb dX12_count_437 rfl (lv_at hl 3 rfl) ?_
    refine lv_aload_n hx hb dX12_count_438 rfl (lv_at hl 0 rfl) ?_
    refine g_get C hH 0 (Nat.le_of_ble_eq_true rfl) rfl fl_X12_49 (v := .ref (ad 11)) rfl dX12_count_439 ?_
    refine lv_aload_n hx hb dX12_count_442 rfl (lv_at hl 0 rfl) ?_
    refine g_get C hH 0 (Nat.le_of_ble_eq_true rfl) rfl fl_X12_233 (v := .int (σ.1 0 18)) rfl dX12_count_443 ?_
    obtain ⟨hi_36, h⟩ := gd_ex h
    refine g_iald C hH 11 (Nat.le_of_ble_eq_true rfl) rfl (k := ((σ.1 0 18).toNatClampNeg)) rfl (ix_in hi_36) dX12_count_446 ?_
    refine lv_icmp_ge (tgt := 472) hx hb dX12_count_447 (by decide) (fun hq_37 => ?_) (fun hq_37 => ?_)
    · rw [if_pos hq_37] at h
      refine lv_iload_n hx hb dX12_count_472 rfl (lv_at hl 2 rfl) ?_
      exact g_ret C hH h dX12_count_473
    · rw [if_neg hq_37] at h
      refine lv_iload_n hx hb dX12_count_450 rfl (lv_at hl 2 rfl) ?_
      refine lv_aload_n hx hb dX12_count_451 rfl (lv_at hl 0 rfl) ?_
      refine g_get C hH 0 (Nat.le_of_ble_eq_true rfl) rfl fl_X12_52 (v := .ref (ad 12)) rfl dX12_count_452 ?_
      refine lv_iconst (v := 5) hx hb dX12_count_455 (by decide) ?_
      refine lv_aload_n hx hb dX12_count_456 rfl (lv_at hl 0 rfl) ?_
      refine g_get C hH 0 (Nat.le_of_ble_eq_true rfl) rfl fl_X12_233 (v := .int (σ.1 0 18)) rfl dX12_count_457 ?_
      refine lv_imul hx hb dX12_count_460 ?_
      refine lv_iload_n hx hb dX12_count_461 rfl (lv_at hl 3 rfl) ?_
      refine lv_iadd hx hb dX12_count_462 ?_
      obtain ⟨hi_38, h⟩ := gd_ex h
      refine g_iald C hH 12 (Nat.le_of_ble_eq_true rfl) rfl (k := ((((5 : Int32) * (σ.1 0 18)) + x3).toNatClampNeg)) rfl (ix_in hi_38) dX12_count_463 ?_
      refine lv_iadd hx hb dX12_count_464 ?_
      obtain ⟨x2_39, ex2_39, h⟩ := hl_ex h
      refine lv_eqi ex2_39 ?_
      refine lv_istore_n (lv' := [(2, .int x2_39), (0, .ref (ad 0)), (1, .int x1), (3, .int x3)]) hx hb dX12_count_465 rfl hl (by decide) rfl (fun ls hl => ?_)
      refine lv_iinc (v := (x3 + 1)) (lv' := [(3, .int (x3 + 1)), (2, .int x2_39), (0, .ref (ad 0)), (1, .int x1)]) hx hb dX12_count_466 hl (k := 3) rfl rfl (by decide) rfl (fun ls hl => ?_)
      refine lv_goto (tgt := 437) hx hb dX12_count_469 (by decide) ?_
      exact ih _ _ _ _ _ _ _ h hH (lv_sub hl [2, 3, 1, 0] rfl)
set_option maxHeartbeats 4000000 in
set_option maxRecDepth 100000 in
theorem kX12_count (l : Launch) (D : va_G) (ad : Nat → Nat) (κ : KC) {x1 : Int32} {σ : HS} {R : (Int32 × HS)} (h : FX12_count x1 σ = some R) : MtI l 45 ceM D ad κ yX12_count cX12_count 4 (some .int) ({ frames := 5, cells := 0, slots := 0, locals := 117 } : Room) [.ref (ad 0), .int x1] σ R := by
  refine open_ (by decide) (Nat.le_of_ble_eq_true rfl) (la := [(0, .ref (ad 0)), (1, .int x1)]) rfl ?_
  intro p e s m below meth c ls C hH hl
  replace C : Cx 45 D ad κ p s m _ meth c cX12_count RX12 4 (some .int) := C
  have hx := C.1
  have hb := C.2.1
  have hown := C.2.2.2.1
  have hts := C.2.2.2.2.1
  rw [FX12_count] at h
  refine lv_aload_n hx hb dX12_count_0 rfl (lv_at hl 0 rfl) ?_
  obtain ⟨σ_40, hc_41, h⟩ := bdV_ex h
  refine g_cv (g_runV (rest := []) C hH hl.1 cV_X12_406 0 (Nat.le_of_ble_eq_true rfl) rfl rfl (kX12_copiesFalls l D ad κ hc_41) ⟨rfl, rfl⟩ ⟨(Nat.le_of_ble_eq_true rfl), (Nat.le_of_ble_eq_true rfl)⟩ rfl rfl (Nat.le_of_ble_eq_true rfl) dX12_count_1 z00) hH (fun H locs hH => ?_)
  refine lv_iconst (v := 0) hx hb dX12_count_4 (by decide) ?_
  refine lv_istore_n (lv' := [(2, .int (0 : Int32)), (0, .ref (ad 0)), (1, .int x1)]) hx hb dX12_count_5 rfl hl (by decide) rfl (fun ls hl => ?_)
  refine lv_iload_n hx hb dX12_count_6 rfl (lv_at hl 2 rfl) ?_
  by_cases hs_42 : x1 = 0
  · rw [if_pos hs_42] at h
    refine lv_tableIn (off := 97) (tgt := 104) hx hb dX12_count_7 (by rw [hs_42]; decide) (by rw [hs_42]; decide) (by rw [hs_42]; rfl) (by decide) ?_
    refine lv_aload_n hx hb dX12_count_104 rfl (lv_at hl 1 rfl) ?_
    obtain ⟨r_43, σ_44, hc_45, h⟩ := bdI_ex h
    refine g_ci (g_runV (rest := []) C hH hl.1 cV_X12_306 0 (Nat.le_of_ble_eq_true rfl) rfl rfl (kX12_many l D ad κ hc_45) ⟨rfl, rfl⟩ ⟨(Nat.le_of_ble_eq_true rfl), (Nat.le_of_ble_eq_true rfl)⟩ rfl rfl (Nat.le_of_ble_eq_true rfl) dX12_count_105 z00) hH (fun H locs hH => ?_)
    exact g_ret C hH h dX12_count_108
  · rw [if_neg hs_42] at h
    by_cases hs_46 : x1 = 1
    · rw [if_pos hs_46] at h
      refine lv_tableIn (off := 102) (tgt := 109) hx hb dX12_count_7 (by rw [hs_46]; decide) (by rw [hs_46]; decide) (by rw [hs_46]; rfl) (by decide) ?_
      refine lv_aload_n hx hb dX12_count_109 rfl (lv_at hl 1 rfl) ?_
      refine g_get C hH 0 (Nat.le_of_ble_eq_true rfl) rfl fl_X12_49 (v := .ref (ad 11)) rfl dX12_count_110 ?_
      refine lv_aload_n hx hb dX12_count_113 rfl (lv_at hl 1 rfl) ?_
      refine g_get C hH 0 (Nat.le_of_ble_eq_true rfl) rfl fl_X12_233 (v := .int (σ_40.1 0 18)) rfl dX12_count_114 ?_
      obtain ⟨hi_47, h⟩ := gd_ex h
      refine g_iald C hH 11 (Nat.le_of_ble_eq_true rfl) rfl (k := ((σ_40.1 0 18).toNatClampNeg)) rfl (ix_in hi_47) dX12_count_117 ?_
      exact g_ret C hH h dX12_count_118
    · rw [if_neg hs_46] at h
      by_cases hs_48 : x1 = 2
      · rw [if_pos hs_48] at h
        refine lv_tableIn (off := 112) (tgt := 119) hx hb dX12_count_7 (by rw [hs_48]; decide) (by rw [hs_48]; decide) (by rw [hs_48]; rfl) (by decide) ?_
        refine lv_aload_n hx hb dX12_count_119 rfl (lv_at hl 1 rfl) ?_
        refine g_get C hH 0 (Nat.le_of_ble_eq_true rfl) rfl fl_X12_113 (v := .ref (ad 32)) rfl dX12_count_120 ?_
        refine lv_bipush (v := 20) hx hb dX12_count_123 (by decide) ?_
        refine g_iald C hH 32 (Nat.le_of_ble_eq_true rfl) rfl (k := 20) (by decide) (ix_in rfl) dX12_count_125 ?_
        exact g_ret C hH h dX12_count_126
      · rw [if_neg hs_48] at h
        by_cases hs_49 : x1 = 3
        · rw [if_pos hs_49] at h
          refine lv_tableIn (off := 120) (tgt := 127) hx hb dX12_count_7 (by rw [hs_49]; decide) (by rw [hs_49]; decide) (by rw [hs_49]; rfl) (by decide) ?_
          refine lv_aload_n hx hb dX12_count_127 rfl (lv_at hl 1 rfl) ?_
          refine g_get C hH 0 (Nat.le_of_ble_eq_true rfl) rfl fl_X12_113 (v := .ref (ad 32)) rfl dX12_count_128 ?_
          refine lv_bipush (v := 18) hx hb dX12_count_131 (by decide) ?_
          refine g_iald C hH 32 (Nat.le_of_ble_eq_true rfl) rfl (k := 18) (by decide) (ix_in rfl) dX12_count_133 ?_
          exact g_ret C hH h dX12_count_134
        · rw [if_neg hs_49] at h
          by_cases hs_50 : x1 = 4
          · rw [if_pos hs_50] at h
            refine lv_tableIn (off := 128) (tgt := 135) hx hb dX12_count_7 (by rw [hs_50]; decide) (by rw [hs_50]; decide) (by rw [hs_50]; rfl) (by decide) ?_
            refine lv_aload_n hx hb dX12_count_135 rfl (lv_at hl 1 rfl) ?_
            refine g_get C hH 0 (Nat.le_of_ble_eq_true rfl) rfl fl_X12_113 (v := .ref (ad 32)) rfl dX12_count_136 ?_
            refine lv_bipush (v := 19) hx hb dX12_count_139 (by decide) ?_
            refine g_iald C hH 32 (Nat.le_of_ble_eq_true rfl) rfl (k := 19) (by decide) (ix_in rfl) dX12_count_141 ?_
            exact g_ret C hH h dX12_count_142
          · rw [if_neg hs_50] at h
            by_cases hs_51 : x1 = 5
            · rw [if_pos hs_51] at h
              refine lv_tableIn (off := 136) (tgt := 143) hx hb dX12_count_7 (by rw [hs_51]; decide) (by rw [hs_51]; decide) (by rw [hs_51]; rfl) (by decide) ?_
              refine lv_aload_n hx hb dX12_count_143 rfl (lv_at hl 1 rfl) ?_
              refine g_get C hH 0 (Nat.le_of_ble_eq_true rfl) rfl fl_X12_113 (v := .ref (ad 32)) rfl dX12_count_144 ?_
              refine lv_bipush (v := 21) hx hb dX12_count_147 (by decide) ?_
              refine g_iald C hH 32 (Nat.le_of_ble_eq_true rfl) rfl (k := 21) (by decide) (ix_in rfl) dX12_count_149 ?_
              exact g_ret C hH h dX12_count_150
            · rw [if_neg hs_51] at h
              by_cases hs_52 : x1 = 6
              · rw [if_pos hs_52] at h
                refine lv_tableIn (off := 144) (tgt := 151) hx hb dX12_count_7 (by rw [hs_52]; decide) (by rw [hs_52]; decide) (by rw [hs_52]; rfl) (by decide) ?_
                refine lv_aload_n hx hb dX12_count_151 rfl (lv_at hl 1 rfl) ?_
                refine g_get C hH 0 (Nat.le_of_ble_eq_true rfl) rfl fl_X12_113 (v := .ref (ad 32)) rfl dX12_count_152 ?_
                refine lv_bipush (v := 22) hx hb dX12_count_155 (by decide) ?_
                refine g_iald C hH 32 (Nat.le_of_ble_eq_true rfl) rfl (k := 22) (by decide) (ix_in rfl) dX12_count_157 ?_
                exact g_ret C hH h dX12_count_158
              · rw [if_neg hs_52] at h
                by_cases hs_53 : x1 = 7
                · rw [if_pos hs_53] at h
                  refine lv_tableIn (off := 152) (tgt := 159) hx hb dX12_count_7 (by rw [hs_53]; decide) (by rw [hs_53]; decide) (by rw [hs_53]; rfl) (by decide) ?_
                  refine lv_aload_n hx hb dX12_count_159 rfl (lv_at hl 1 rfl) ?_
                  obtain ⟨r_54, σ_55, hc_56, h⟩ := bdI_ex h
                  refine g_ci (g_runV (rest := []) C hH hl.1 cV_X12_306 0 (Nat.le_of_ble_eq_true rfl) rfl rfl (kX12_many l D ad κ hc_56) ⟨rfl, rfl⟩ ⟨(Nat.le_of_ble_eq_true rfl), (Nat.le_of_ble_eq_true rfl)⟩ rfl rfl (Nat.le_of_ble_eq_true rfl) dX12_count_160 z00) hH (fun H locs hH => ?_)
                  obtain ⟨r_57, σ_58, hc_59, h⟩ := bdI_ex h
                  refine g_ci (g_runS (rest := []) C hH hl.1 cS_X12_400 (kX12_power l D ad κ hc_59) ⟨rfl, rfl⟩ ⟨(Nat.le_of_ble_eq_true rfl), (Nat.le_of_ble_eq_true rfl)⟩ rfl rfl (Nat.le_of_ble_eq_true rfl) dX12_count_163 z00) hH (fun H locs hH => ?_)
                  exact g_ret C hH h dX12_count_166
                · rw [if_neg hs_53] at h
                  by_cases hs_60 : x1 = 8
                  · rw [if_pos hs_60] at h
                    refine lv_tableIn (off := 160) (tgt := 167) hx hb dX12_count_7 (by rw [hs_60]; decide) (by rw [hs_60]; decide) (by rw [hs_60]; rfl) (by decide) ?_
                    refine lv_aload_n hx hb dX12_count_167 rfl (lv_at hl 1 rfl) ?_
                    refine g_get C hH 0 (Nat.le_of_ble_eq_true rfl) rfl fl_X12_166 (v := .int (σ_40.1 0 2)) rfl dX12_count_168 ?_
                    exact g_ret C hH h dX12_count_171
                  · rw [if_neg hs_60] at h
                    by_cases hs_61 : x1 = 9
                    · rw [if_pos hs_61] at h
                      refine lv_tableIn (off := 165) (tgt := 172) hx hb dX12_count_7 (by rw [hs_61]; decide) (by rw [hs_61]; decide) (by rw [hs_61]; rfl) (by decide) ?_
                      refine lv_aload_n hx hb dX12_count_172 rfl (lv_at hl 1 rfl) ?_
                      refine g_get C hH 0 (Nat.le_of_ble_eq_true rfl) rfl fl_X12_248 (v := .int (σ_40.1 0 50)) rfl dX12_count_173 ?_
                      exact g_ret C hH h dX12_count_176
                    · rw [if_neg hs_61] at h
                      by_cases hs_62 : x1 = 10
                      · rw [if_pos hs_62] at h
                        refine lv_tableIn (off := 170) (tgt := 177) hx hb dX12_count_7 (by rw [hs_62]; decide) (by rw [hs_62]; decide) (by rw [hs_62]; rfl) (by decide) ?_
                        refine lv_aload_n hx hb dX12_count_177 rfl (lv_at hl 1 rfl) ?_
                        refine g_get C hH 0 (Nat.le_of_ble_eq_true rfl) rfl fl_X12_251 (v := .int (σ_40.1 0 57)) rfl dX12_count_178 ?_
                        exact g_ret C hH h dX12_count_181
                      · rw [if_neg hs_62] at h
                        by_cases hs_63 : x1 = 11
                        · rw [if_pos hs_63] at h
                          refine lv_tableIn (off := 175) (tgt := 182) hx hb dX12_count_7 (by rw [hs_63]; decide) (by rw [hs_63]; decide) (by rw [hs_63]; rfl) (by decide) ?_
                          refine lv_aload_n hx hb dX12_count_182 rfl (lv_at hl 1 rfl) ?_
                          refine g_get C hH 0 (Nat.le_of_ble_eq_true rfl) rfl fl_X12_146 (v := .ref (ad 43)) rfl dX12_count_183 ?_
                          refine lv_iconst (v := 0) hx hb dX12_count_186 (by decide) ?_
                          refine g_zald C hH 43 (Nat.le_of_ble_eq_true rfl) rfl (k := 0) (by decide) (ix_in rfl) dX12_count_187 ?_
                          refine lv_if_eq (tgt := 195) hx hb dX12_count_188 (by decide) (fun hq_64 => ?_) (fun hq_64 => ?_)
                          · rw [if_pos hq_64] at h
                            refine lv_iconst (v := 0) hx hb dX12_count_195 (by decide) ?_
                            exact wX12_count_196 C  _ _ _ _ _ _ _ h hH (lv_sub hl [1, 2, 0] rfl)
                          · rw [if_neg hq_64] at h
                            refine lv_iconst (v := 1) hx hb dX12_count_191 (by decide) ?_
                            refine lv_goto (tgt := 196) hx hb dX12_count_192 (by decide) ?_
                            exact wX12_count_196 C  _ _ _ _ _ _ _ h hH (lv_sub hl [1, 2, 0] rfl)
                        · rw [if_neg hs_63] at h
                          by_cases hs_65 : x1 = 12
                          · rw [if_pos hs_65] at h
                            refine lv_tableIn (off := 220) (tgt := 227) hx hb dX12_count_7 (by rw [hs_65]; decide) (by rw [hs_65]; decide) (by rw [hs_65]; rfl) (by decide) ?_
                            refine lv_iconst (v := 0) hx hb dX12_count_227 (by decide) ?_
                            refine lv_istore_n (lv' := [(3, .int (0 : Int32)), (2, .int (0 : Int32)), (0, .ref (ad 0)), (1, .int x1)]) hx hb dX12_count_228 rfl hl (by decide) rfl (fun ls hl => ?_)
                            exact wX12_count_229 C _ _ _ _ _ _ _ _ h hH (lv_sub hl [2, 3, 1, 0] rfl)
                          · rw [if_neg hs_65] at h
                            by_cases hs_66 : x1 = 13
                            · rw [if_pos hs_66] at h
                              refine lv_tableIn (off := 254) (tgt := 261) hx hb dX12_count_7 (by rw [hs_66]; decide) (by rw [hs_66]; decide) (by rw [hs_66]; rfl) (by decide) ?_
                              refine lv_aload_n hx hb dX12_count_261 rfl (lv_at hl 1 rfl) ?_
                              refine lv_bipush (v := 23) hx hb dX12_count_262 (by decide) ?_
                              refine lv_iconst (v := 5) hx hb dX12_count_264 (by decide) ?_
                              obtain ⟨r_67, σ_68, hc_69, h⟩ := bdI_ex h
                              refine g_ci (g_runV (rest := []) C hH hl.1 cV_X12_450 0 (Nat.le_of_ble_eq_true rfl) rfl rfl (kX12_sumNow l D ad κ hc_69) ⟨rfl, rfl⟩ ⟨(Nat.le_of_ble_eq_true rfl), (Nat.le_of_ble_eq_true rfl)⟩ rfl rfl (Nat.le_of_ble_eq_true rfl) dX12_count_265 z00) hH (fun H locs hH => ?_)
                              exact g_ret C hH h dX12_count_268
                            · rw [if_neg hs_66] at h
                              by_cases hs_70 : x1 = 14
                              · rw [if_pos hs_70] at h
                                refine lv_tableIn (off := 262) (tgt := 269) hx hb dX12_count_7 (by rw [hs_70]; decide) (by rw [hs_70]; decide) (by rw [hs_70]; rfl) (by decide) ?_
                                refine lv_aload_n hx hb dX12_count_269 rfl (lv_at hl 1 rfl) ?_
                                refine lv_bipush (v := 28) hx hb dX12_count_270 (by decide) ?_
                                refine lv_iconst (v := 5) hx hb dX12_count_272 (by decide) ?_
                                obtain ⟨r_71, σ_72, hc_73, h⟩ := bdI_ex h
                                refine g_ci (g_runV (rest := []) C hH hl.1 cV_X12_450 0 (Nat.le_of_ble_eq_true rfl) rfl rfl (kX12_sumNow l D ad κ hc_73) ⟨rfl, rfl⟩ ⟨(Nat.le_of_ble_eq_true rfl), (Nat.le_of_ble_eq_true rfl)⟩ rfl rfl (Nat.le_of_ble_eq_true rfl) dX12_count_273 z00) hH (fun H locs hH => ?_)
                                exact g_ret C hH h dX12_count_276
                              · rw [if_neg hs_70] at h
                                by_cases hs_74 : x1 = 15
                                · rw [if_pos hs_74] at h
                                  refine lv_tableIn (off := 270) (tgt := 277) hx hb dX12_count_7 (by rw [hs_74]; decide) (by rw [hs_74]; decide) (by rw [hs_74]; rfl) (by decide) ?_
                                  refine lv_iconst (v := 0) hx hb dX12_count_277 (by decide) ?_
                                  refine lv_istore_n (lv' := [(3, .int (0 : Int32)), (2, .int (0 : Int32)), (0, .ref (ad 0)), (1, .int x1)]) hx hb dX12_count_278 rfl hl (by decide) rfl (fun ls hl => ?_)
                                  exact wX12_count_279 C _ _ _ _ _ _ _ _ h hH (lv_sub hl [2, 3, 1, 0] rfl)
                                · rw [if_neg hs_74] at h
                                  by_cases hs_75 : x1 = 16
                                  · rw [if_pos hs_75] at h
                                    refine lv_tableIn (off := 299) (tgt := 306) hx hb dX12_count_7 (by rw [hs_75]; decide) (by rw [hs_75]; decide) (by rw [hs_75]; rfl) (by decide) ?_
                                    refine lv_iconst (v := 0) hx hb dX12_count_306 (by decide) ?_
                                    refine lv_istore_n (lv' := [(3, .int (0 : Int32)), (2, .int (0 : Int32)), (0, .ref (ad 0)), (1, .int x1)]) hx hb dX12_count_307 rfl hl (by decide) rfl (fun ls hl => ?_)
                                    exact wX12_count_308 C _ _ _ _ _ _ _ _ h hH (lv_sub hl [2, 3, 1, 0] rfl)
                                  · rw [if_neg hs_75] at h
                                    by_cases hs_76 : x1 = 17
                                    · rw [if_pos hs_76] at h
                                      refine lv_tableIn (off := 330) (tgt := 337) hx hb dX12_count_7 (by rw [hs_76]; decide) (by rw [hs_76]; decide) (by rw [hs_76]; rfl) (by decide) ?_
                                      refine lv_iconst (v := 0) hx hb dX12_count_337 (by decide) ?_
                                      refine lv_istore_n (lv' := [(3, .int (0 : Int32)), (2, .int (0 : Int32)), (0, .ref (ad 0)), (1, .int x1)]) hx hb dX12_count_338 rfl hl (by decide) rfl (fun ls hl => ?_)
                                      exact wX12_count_339 C _ _ _ _ _ _ _ _ h hH (lv_sub hl [2, 3, 1, 0] rfl)
                                    · rw [if_neg hs_76] at h
                                      by_cases hs_77 : x1 = 18
                                      · rw [if_pos hs_77] at h
                                        refine lv_tableIn (off := 364) (tgt := 371) hx hb dX12_count_7 (by rw [hs_77]; decide) (by rw [hs_77]; decide) (by rw [hs_77]; rfl) (by decide) ?_
                                        refine lv_iconst (v := 0) hx hb dX12_count_371 (by decide) ?_
                                        refine lv_istore_n (lv' := [(3, .int (0 : Int32)), (2, .int (0 : Int32)), (0, .ref (ad 0)), (1, .int x1)]) hx hb dX12_count_372 rfl hl (by decide) rfl (fun ls hl => ?_)
                                        exact wX12_count_373 C _ _ _ _ _ _ _ _ h hH (lv_sub hl [2, 3, 1, 0] rfl)
                                      · rw [if_neg hs_77] at h
                                        by_cases hs_78 : x1 = 19
                                        · rw [if_pos hs_78] at h
                                          refine lv_tableIn (off := 391) (tgt := 398) hx hb dX12_count_7 (by rw [hs_78]; decide) (by rw [hs_78]; decide) (by rw [hs_78]; rfl) (by decide) ?_
                                          refine lv_iconst (v := 0) hx hb dX12_count_398 (by decide) ?_
                                          refine lv_istore_n (lv' := [(3, .int (0 : Int32)), (2, .int (0 : Int32)), (0, .ref (ad 0)), (1, .int x1)]) hx hb dX12_count_399 rfl hl (by decide) rfl (fun ls hl => ?_)
                                          exact wX12_count_400 C _ _ _ _ _ _ _ _ h hH (lv_sub hl [2, 3, 1, 0] rfl)
                                        · rw [if_neg hs_78] at h
                                          by_cases hs_79 : x1 = 20
                                          · rw [if_pos hs_79] at h
                                            refine lv_tableIn (off := 428) (tgt := 435) hx hb dX12_count_7 (by rw [hs_79]; decide) (by rw [hs_79]; decide) (by rw [hs_79]; rfl) (by decide) ?_
                                            refine lv_iconst (v := 0) hx hb dX12_count_435 (by decide) ?_
                                            refine lv_istore_n (lv' := [(3, .int (0 : Int32)), (2, .int (0 : Int32)), (0, .ref (ad 0)), (1, .int x1)]) hx hb dX12_count_436 rfl hl (by decide) rfl (fun ls hl => ?_)
                                            exact wX12_count_437 C _ _ _ _ _ _ _ _ h hH (lv_sub hl [2, 3, 1, 0] rfl)
                                          · rw [if_neg hs_79] at h
                                            refine lv_tableOut (tgt := 474) hx hb dX12_count_7 (by have a0 := lv_neT hs_42 (show (0 : Int32).toInt = 0 from by decide); have a1 := lv_neT hs_46 (show (1 : Int32).toInt = 1 from by decide); have a2 := lv_neT hs_48 (show (2 : Int32).toInt = 2 from by decide); have a3 := lv_neT hs_49 (show (3 : Int32).toInt = 3 from by decide); have a4 := lv_neT hs_50 (show (4 : Int32).toInt = 4 from by decide); have a5 := lv_neT hs_51 (show (5 : Int32).toInt = 5 from by decide); have a6 := lv_neT hs_52 (show (6 : Int32).toInt = 6 from by decide); have a7 := lv_neT hs_53 (show (7 : Int32).toInt = 7 from by decide); have a8 := lv_neT hs_60 (show (8 : Int32).toInt = 8 from by decide); have a9 := lv_neT hs_61 (show (9 : Int32).toInt = 9 from by decide); have a10 := lv_neT hs_62 (show (10 : Int32).toInt = 10 from by decide); have a11 := lv_neT hs_63 (show (11 : Int32).toInt = 11 from by decide); have a12 := lv_neT hs_65 (show (12 : Int32).toInt = 12 from by decide); have a13 := lv_neT hs_66 (show (13 : Int32).toInt = 13 from by decide); have a14 := lv_neT hs_70 (show (14 : Int32).toInt = 14 from by decide); have a15 := lv_neT hs_74 (show (15 : Int32).toInt = 15 from by decide); have a16 := lv_neT hs_75 (show (16 : Int32).toInt = 16 from by decide); have a17 := lv_neT hs_76 (show (17 : Int32).toInt = 17 from by decide); have a18 := lv_neT hs_77 (show (18 : Int32).toInt = 18 from by decide); have a19 := lv_neT hs_78 (show (19 : Int32).toInt = 19 from by decide); have a20 := lv_neT hs_79 (show (20 : Int32).toInt = 20 from by decide); omega) (by decide) ?_
                                            refine lv_iconst (v := (-1)) hx hb dX12_count_474 (by decide) ?_
                                            exact g_ret C hH h dX12_count_475
end
