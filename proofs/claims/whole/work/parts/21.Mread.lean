theorem dX12_place_0 : decode cX12_place 0 = .ok (.aload_n 0, 1) := by decide +kernel
theorem dX12_place_1 : decode cX12_place 1 = .ok (.getfield 37, 3) := by decide +kernel
theorem dX12_place_4 : decode cX12_place 4 = .ok (.ireturn, 1) := by decide +kernel
theorem dX12_roomFor_0 : decode cX12_roomFor 0 = .ok (.iload_n 1, 1) := by decide +kernel
theorem dX12_roomFor_1 : decode cX12_roomFor 1 = .ok (.iload_n 2, 1) := by decide +kernel
theorem dX12_roomFor_2 : decode cX12_roomFor 2 = .ok (.if_icmp .ne 8, 3) := by decide +kernel
theorem dX12_roomFor_5 : decode cX12_roomFor 5 = .ok (.aload_n 0, 1) := by decide +kernel
theorem dX12_roomFor_6 : decode cX12_roomFor 6 = .ok (.iconst 2, 1) := by decide +kernel
theorem dX12_roomFor_7 : decode cX12_roomFor 7 = .ok (.invokevirtual 218, 3) := by decide +kernel
theorem dX12_roomFor_10 : decode cX12_roomFor 10 = .ok (.aload_n 0, 1) := by decide +kernel
theorem dX12_roomFor_11 : decode cX12_roomFor 11 = .ok (.getfield 203, 3) := by decide +kernel
theorem dX12_roomFor_14 : decode cX12_roomFor 14 = .ok (.ifCond .ne 7, 3) := by decide +kernel
theorem dX12_roomFor_17 : decode cX12_roomFor 17 = .ok (.aload_n 0, 1) := by decide +kernel
theorem dX12_roomFor_18 : decode cX12_roomFor 18 = .ok (.invokevirtual 224, 3) := by decide +kernel
theorem dX12_roomFor_21 : decode cX12_roomFor 21 = .ok (.return_, 1) := by decide +kernel
theorem dX12_bounded_0 : decode cX12_bounded 0 = .ok (.aload_n 0, 1) := by decide +kernel
theorem dX12_bounded_1 : decode cX12_bounded 1 = .ok (.getfield 203, 3) := by decide +kernel
theorem dX12_bounded_4 : decode cX12_bounded 4 = .ok (.ifCond .gt 11, 3) := by decide +kernel
theorem dX12_bounded_7 : decode cX12_bounded 7 = .ok (.aload_n 0, 1) := by decide +kernel
theorem dX12_bounded_8 : decode cX12_bounded 8 = .ok (.iconst 2, 1) := by decide +kernel
theorem dX12_bounded_9 : decode cX12_bounded 9 = .ok (.invokevirtual 221, 3) := by decide +kernel
theorem dX12_bounded_12 : decode cX12_bounded 12 = .ok (.ifCond .ne 10, 3) := by decide +kernel
theorem dX12_bounded_15 : decode cX12_bounded 15 = .ok (.aload_n 0, 1) := by decide +kernel
theorem dX12_bounded_16 : decode cX12_bounded 16 = .ok (.iconst 1, 1) := by decide +kernel
theorem dX12_bounded_17 : decode cX12_bounded 17 = .ok (.invokevirtual 218, 3) := by decide +kernel
theorem dX12_bounded_20 : decode cX12_bounded 20 = .ok (.iload_n 1, 1) := by decide +kernel
theorem dX12_bounded_21 : decode cX12_bounded 21 = .ok (.ireturn, 1) := by decide +kernel
theorem dX12_bounded_22 : decode cX12_bounded 22 = .ok (.aload_n 0, 1) := by decide +kernel
theorem dX12_bounded_23 : decode cX12_bounded 23 = .ok (.getfield 27, 3) := by decide +kernel
theorem dX12_bounded_26 : decode cX12_bounded 26 = .ok (.aload_n 0, 1) := by decide +kernel
theorem dX12_bounded_27 : decode cX12_bounded 27 = .ok (.getfield 206, 3) := by decide +kernel
theorem dX12_bounded_30 : decode cX12_bounded 30 = .ok (.iaload, 1) := by decide +kernel
theorem dX12_bounded_31 : decode cX12_bounded 31 = .ok (.istore_n 3, 1) := by decide +kernel
theorem dX12_bounded_32 : decode cX12_bounded 32 = .ok (.iload_n 3, 1) := by decide +kernel
theorem dX12_bounded_33 : decode cX12_bounded 33 = .ok (.iload_n 1, 1) := by decide +kernel
theorem dX12_bounded_34 : decode cX12_bounded 34 = .ok (.if_icmp .lt 8, 3) := by decide +kernel
theorem dX12_bounded_37 : decode cX12_bounded 37 = .ok (.iload_n 3, 1) := by decide +kernel
theorem dX12_bounded_38 : decode cX12_bounded 38 = .ok (.iload_n 2, 1) := by decide +kernel
theorem dX12_bounded_39 : decode cX12_bounded 39 = .ok (.if_icmp .le 12, 3) := by decide +kernel
theorem dX12_bounded_42 : decode cX12_bounded 42 = .ok (.aload_n 0, 1) := by decide +kernel
theorem dX12_bounded_43 : decode cX12_bounded 43 = .ok (.iconst 5, 1) := by decide +kernel
theorem dX12_bounded_44 : decode cX12_bounded 44 = .ok (.aload_n 0, 1) := by decide +kernel
theorem dX12_bounded_45 : decode cX12_bounded 45 = .ok (.getfield 206, 3) := by decide +kernel
theorem dX12_bounded_48 : decode cX12_bounded 48 = .ok (.invokevirtual 277, 3) := by decide +kernel
theorem dX12_bounded_51 : decode cX12_bounded 51 = .ok (.aload_n 0, 1) := by decide +kernel
theorem dX12_bounded_52 : decode cX12_bounded 52 = .ok (.invokevirtual 224, 3) := by decide +kernel
theorem dX12_bounded_55 : decode cX12_bounded 55 = .ok (.iload_n 3, 1) := by decide +kernel
theorem dX12_bounded_56 : decode cX12_bounded 56 = .ok (.ireturn, 1) := by decide +kernel
theorem dX12_numberOf_0 : decode cX12_numberOf 0 = .ok (.iconst 0, 1) := by decide +kernel
theorem dX12_numberOf_1 : decode cX12_numberOf 1 = .ok (.istore_n 2, 1) := by decide +kernel
theorem dX12_numberOf_2 : decode cX12_numberOf 2 = .ok (.iload_n 2, 1) := by decide +kernel
theorem dX12_numberOf_3 : decode cX12_numberOf 3 = .ok (.aload_n 0, 1) := by decide +kernel
theorem dX12_numberOf_4 : decode cX12_numberOf 4 = .ok (.getfield 49, 3) := by decide +kernel
theorem dX12_numberOf_7 : decode cX12_numberOf 7 = .ok (.aload_n 0, 1) := by decide +kernel
theorem dX12_numberOf_8 : decode cX12_numberOf 8 = .ok (.getfield 236, 3) := by decide +kernel
theorem dX12_numberOf_11 : decode cX12_numberOf 11 = .ok (.iaload, 1) := by decide +kernel
theorem dX12_numberOf_12 : decode cX12_numberOf 12 = .ok (.if_icmp .ge 27, 3) := by decide +kernel
theorem dX12_numberOf_15 : decode cX12_numberOf 15 = .ok (.aload_n 0, 1) := by decide +kernel
theorem dX12_numberOf_16 : decode cX12_numberOf 16 = .ok (.getfield 46, 3) := by decide +kernel
theorem dX12_numberOf_19 : decode cX12_numberOf 19 = .ok (.iload_n 2, 1) := by decide +kernel
theorem dX12_numberOf_20 : decode cX12_numberOf 20 = .ok (.laload, 1) := by decide +kernel
theorem dX12_numberOf_21 : decode cX12_numberOf 21 = .ok (.aload_n 0, 1) := by decide +kernel
theorem dX12_numberOf_22 : decode cX12_numberOf 22 = .ok (.getfield 30, 3) := by decide +kernel
theorem dX12_numberOf_25 : decode cX12_numberOf 25 = .ok (.iload_n 1, 1) := by decide +kernel
theorem dX12_numberOf_26 : decode cX12_numberOf 26 = .ok (.laload, 1) := by decide +kernel
theorem dX12_numberOf_27 : decode cX12_numberOf 27 = .ok (.lcmp, 1) := by decide +kernel
theorem dX12_numberOf_28 : decode cX12_numberOf 28 = .ok (.ifCond .ne 5, 3) := by decide +kernel
theorem dX12_numberOf_31 : decode cX12_numberOf 31 = .ok (.iload_n 2, 1) := by decide +kernel
theorem dX12_numberOf_32 : decode cX12_numberOf 32 = .ok (.ireturn, 1) := by decide +kernel
theorem dX12_numberOf_33 : decode cX12_numberOf 33 = .ok (.iinc 2 1, 3) := by decide +kernel
theorem dX12_numberOf_36 : decode cX12_numberOf 36 = .ok (.goto (-34), 3) := by decide +kernel
theorem dX12_numberOf_39 : decode cX12_numberOf 39 = .ok (.iconst (-1), 1) := by decide +kernel
theorem dX12_numberOf_40 : decode cX12_numberOf 40 = .ok (.ireturn, 1) := by decide +kernel
theorem dX12_tellFamily_0 : decode cX12_tellFamily 0 = .ok (.iconst 5, 1) := by decide +kernel
theorem dX12_tellFamily_1 : decode cX12_tellFamily 1 = .ok (.aload_n 0, 1) := by decide +kernel
theorem dX12_tellFamily_2 : decode cX12_tellFamily 2 = .ok (.getfield 236, 3) := by decide +kernel
theorem dX12_tellFamily_5 : decode cX12_tellFamily 5 = .ok (.imul, 1) := by decide +kernel
theorem dX12_tellFamily_6 : decode cX12_tellFamily 6 = .ok (.aload_n 0, 1) := by decide +kernel
theorem dX12_tellFamily_7 : decode cX12_tellFamily 7 = .ok (.getfield 49, 3) := by decide +kernel
theorem dX12_tellFamily_10 : decode cX12_tellFamily 10 = .ok (.aload_n 0, 1) := by decide +kernel
theorem dX12_tellFamily_11 : decode cX12_tellFamily 11 = .ok (.getfield 236, 3) := by decide +kernel
theorem dX12_tellFamily_14 : decode cX12_tellFamily 14 = .ok (.iaload, 1) := by decide +kernel
theorem dX12_tellFamily_15 : decode cX12_tellFamily 15 = .ok (.iadd, 1) := by decide +kernel
theorem dX12_tellFamily_16 : decode cX12_tellFamily 16 = .ok (.istore_n 1, 1) := by decide +kernel
theorem dX12_tellFamily_17 : decode cX12_tellFamily 17 = .ok (.aload_n 0, 1) := by decide +kernel
theorem dX12_tellFamily_18 : decode cX12_tellFamily 18 = .ok (.getfield 206, 3) := by decide +kernel
theorem dX12_tellFamily_21 : decode cX12_tellFamily 21 = .ok (.istore_n 2, 1) := by decide +kernel
theorem dX12_tellFamily_22 : decode cX12_tellFamily 22 = .ok (.aload_n 0, 1) := by decide +kernel
theorem dX12_tellFamily_23 : decode cX12_tellFamily 23 = .ok (.iconst 1, 1) := by decide +kernel
theorem dX12_tellFamily_24 : decode cX12_tellFamily 24 = .ok (.invokevirtual 258, 3) := by decide +kernel
theorem dX12_tellFamily_27 : decode cX12_tellFamily 27 = .ok (.aload_n 0, 1) := by decide +kernel
theorem dX12_tellFamily_28 : decode cX12_tellFamily 28 = .ok (.getfield 203, 3) := by decide +kernel
theorem dX12_tellFamily_31 : decode cX12_tellFamily 31 = .ok (.ifCond .ne 17, 3) := by decide +kernel
theorem dX12_tellFamily_34 : decode cX12_tellFamily 34 = .ok (.aload_n 0, 1) := by decide +kernel
theorem dX12_tellFamily_35 : decode cX12_tellFamily 35 = .ok (.iload_n 2, 1) := by decide +kernel
theorem dX12_tellFamily_36 : decode cX12_tellFamily 36 = .ok (.invokevirtual 280, 3) := by decide +kernel
theorem dX12_tellFamily_39 : decode cX12_tellFamily 39 = .ok (.ifCond .lt 9, 3) := by decide +kernel
theorem dX12_tellFamily_42 : decode cX12_tellFamily 42 = .ok (.aload_n 0, 1) := by decide +kernel
theorem dX12_tellFamily_43 : decode cX12_tellFamily 43 = .ok (.iconst 3, 1) := by decide +kernel
theorem dX12_tellFamily_44 : decode cX12_tellFamily 44 = .ok (.iload_n 2, 1) := by decide +kernel
theorem dX12_tellFamily_45 : decode cX12_tellFamily 45 = .ok (.invokevirtual 277, 3) := by decide +kernel
theorem dX12_tellFamily_48 : decode cX12_tellFamily 48 = .ok (.aload_n 0, 1) := by decide +kernel
theorem dX12_tellFamily_49 : decode cX12_tellFamily 49 = .ok (.getfield 52, 3) := by decide +kernel
theorem dX12_tellFamily_52 : decode cX12_tellFamily 52 = .ok (.iload_n 1, 1) := by decide +kernel
theorem dX12_tellFamily_53 : decode cX12_tellFamily 53 = .ok (.aload_n 0, 1) := by decide +kernel
theorem dX12_tellFamily_54 : decode cX12_tellFamily 54 = .ok (.iconst 0, 1) := by decide +kernel
theorem dX12_tellFamily_55 : decode cX12_tellFamily 55 = .ok (.bipush 9, 2) := by decide +kernel
theorem dX12_tellFamily_57 : decode cX12_tellFamily 57 = .ok (.invokevirtual 254, 3) := by decide +kernel
theorem dX12_tellFamily_60 : decode cX12_tellFamily 60 = .ok (.iastore, 1) := by decide +kernel
theorem dX12_tellFamily_61 : decode cX12_tellFamily 61 = .ok (.aload_n 0, 1) := by decide +kernel
theorem dX12_tellFamily_62 : decode cX12_tellFamily 62 = .ok (.getfield 55, 3) := by decide +kernel
theorem dX12_tellFamily_65 : decode cX12_tellFamily 65 = .ok (.iload_n 1, 1) := by decide +kernel
theorem dX12_tellFamily_66 : decode cX12_tellFamily 66 = .ok (.aload_n 0, 1) := by decide +kernel
theorem dX12_tellFamily_67 : decode cX12_tellFamily 67 = .ok (.iconst 0, 1) := by decide +kernel
theorem dX12_tellFamily_68 : decode cX12_tellFamily 68 = .ok (.iconst 5, 1) := by decide +kernel
theorem dX12_tellFamily_69 : decode cX12_tellFamily 69 = .ok (.invokevirtual 254, 3) := by decide +kernel
theorem dX12_tellFamily_72 : decode cX12_tellFamily 72 = .ok (.iastore, 1) := by decide +kernel
theorem dX12_tellFamily_73 : decode cX12_tellFamily 73 = .ok (.aload_n 0, 1) := by decide +kernel
theorem dX12_tellFamily_74 : decode cX12_tellFamily 74 = .ok (.iconst 4, 1) := by decide +kernel
theorem dX12_tellFamily_75 : decode cX12_tellFamily 75 = .ok (.invokevirtual 258, 3) := by decide +kernel
theorem dX12_tellFamily_78 : decode cX12_tellFamily 78 = .ok (.aload_n 0, 1) := by decide +kernel
theorem dX12_tellFamily_79 : decode cX12_tellFamily 79 = .ok (.getfield 203, 3) := by decide +kernel
theorem dX12_tellFamily_82 : decode cX12_tellFamily 82 = .ok (.ifCond .le 4, 3) := by decide +kernel
theorem dX12_tellFamily_85 : decode cX12_tellFamily 85 = .ok (.return_, 1) := by decide +kernel
theorem dX12_tellFamily_86 : decode cX12_tellFamily 86 = .ok (.aload_n 0, 1) := by decide +kernel
theorem dX12_tellFamily_87 : decode cX12_tellFamily 87 = .ok (.getfield 46, 3) := by decide +kernel
theorem dX12_tellFamily_90 : decode cX12_tellFamily 90 = .ok (.aload_n 0, 1) := by decide +kernel
theorem dX12_tellFamily_91 : decode cX12_tellFamily 91 = .ok (.getfield 49, 3) := by decide +kernel
theorem dX12_tellFamily_94 : decode cX12_tellFamily 94 = .ok (.aload_n 0, 1) := by decide +kernel
theorem dX12_tellFamily_95 : decode cX12_tellFamily 95 = .ok (.getfield 236, 3) := by decide +kernel
theorem dX12_tellFamily_98 : decode cX12_tellFamily 98 = .ok (.iaload, 1) := by decide +kernel
theorem dX12_tellFamily_99 : decode cX12_tellFamily 99 = .ok (.aload_n 0, 1) := by decide +kernel
theorem dX12_tellFamily_100 : decode cX12_tellFamily 100 = .ok (.getfield 30, 3) := by decide +kernel
theorem dX12_tellFamily_103 : decode cX12_tellFamily 103 = .ok (.iload_n 2, 1) := by decide +kernel
theorem dX12_tellFamily_104 : decode cX12_tellFamily 104 = .ok (.laload, 1) := by decide +kernel
theorem dX12_tellFamily_105 : decode cX12_tellFamily 105 = .ok (.lastore, 1) := by decide +kernel
theorem dX12_tellFamily_106 : decode cX12_tellFamily 106 = .ok (.aload_n 0, 1) := by decide +kernel
theorem dX12_tellFamily_107 : decode cX12_tellFamily 107 = .ok (.getfield 49, 3) := by decide +kernel
theorem dX12_tellFamily_110 : decode cX12_tellFamily 110 = .ok (.aload_n 0, 1) := by decide +kernel
theorem dX12_tellFamily_111 : decode cX12_tellFamily 111 = .ok (.getfield 236, 3) := by decide +kernel
theorem dX12_tellFamily_114 : decode cX12_tellFamily 114 = .ok (.dup2, 1) := by decide +kernel
theorem dX12_tellFamily_115 : decode cX12_tellFamily 115 = .ok (.iaload, 1) := by decide +kernel
theorem dX12_tellFamily_116 : decode cX12_tellFamily 116 = .ok (.iconst 1, 1) := by decide +kernel
theorem dX12_tellFamily_117 : decode cX12_tellFamily 117 = .ok (.iadd, 1) := by decide +kernel
theorem dX12_tellFamily_118 : decode cX12_tellFamily 118 = .ok (.iastore, 1) := by decide +kernel
theorem dX12_tellFamily_119 : decode cX12_tellFamily 119 = .ok (.return_, 1) := by decide +kernel
theorem dX12_tellLease_0 : decode cX12_tellLease 0 = .ok (.aload_n 0, 1) := by decide +kernel
theorem dX12_tellLease_1 : decode cX12_tellLease 1 = .ok (.getfield 206, 3) := by decide +kernel
theorem dX12_tellLease_4 : decode cX12_tellLease 4 = .ok (.istore_n 1, 1) := by decide +kernel
theorem dX12_tellLease_5 : decode cX12_tellLease 5 = .ok (.aload_n 0, 1) := by decide +kernel
theorem dX12_tellLease_6 : decode cX12_tellLease 6 = .ok (.iconst 1, 1) := by decide +kernel
theorem dX12_tellLease_7 : decode cX12_tellLease 7 = .ok (.invokevirtual 258, 3) := by decide +kernel
theorem dX12_tellLease_10 : decode cX12_tellLease 10 = .ok (.aload_n 0, 1) := by decide +kernel
theorem dX12_tellLease_11 : decode cX12_tellLease 11 = .ok (.getfield 203, 3) := by decide +kernel
theorem dX12_tellLease_14 : decode cX12_tellLease 14 = .ok (.ifCond .le 7, 3) := by decide +kernel
theorem dX12_tellLease_17 : decode cX12_tellLease 17 = .ok (.iconst (-1), 1) := by decide +kernel
theorem dX12_tellLease_18 : decode cX12_tellLease 18 = .ok (.goto 8, 3) := by decide +kernel
theorem dX12_tellLease_21 : decode cX12_tellLease 21 = .ok (.aload_n 0, 1) := by decide +kernel
theorem dX12_tellLease_22 : decode cX12_tellLease 22 = .ok (.iload_n 1, 1) := by decide +kernel
theorem dX12_tellLease_23 : decode cX12_tellLease 23 = .ok (.invokevirtual 280, 3) := by decide +kernel
theorem dX12_tellLease_26 : decode cX12_tellLease 26 = .ok (.istore_n 2, 1) := by decide +kernel
theorem dX12_tellLease_27 : decode cX12_tellLease 27 = .ok (.aload_n 0, 1) := by decide +kernel
theorem dX12_tellLease_28 : decode cX12_tellLease 28 = .ok (.getfield 203, 3) := by decide +kernel
theorem dX12_tellLease_31 : decode cX12_tellLease 31 = .ok (.ifCond .ne 13, 3) := by decide +kernel
theorem dX12_tellLease_34 : decode cX12_tellLease 34 = .ok (.iload_n 2, 1) := by decide +kernel
theorem dX12_tellLease_35 : decode cX12_tellLease 35 = .ok (.ifCond .ge 9, 3) := by decide +kernel
theorem dX12_tellLease_38 : decode cX12_tellLease 38 = .ok (.aload_n 0, 1) := by decide +kernel
theorem dX12_tellLease_39 : decode cX12_tellLease 39 = .ok (.iconst 4, 1) := by decide +kernel
theorem dX12_tellLease_40 : decode cX12_tellLease 40 = .ok (.iload_n 1, 1) := by decide +kernel
theorem dX12_tellLease_41 : decode cX12_tellLease 41 = .ok (.invokevirtual 277, 3) := by decide +kernel
theorem dX12_tellLease_44 : decode cX12_tellLease 44 = .ok (.aload_n 0, 1) := by decide +kernel
theorem dX12_tellLease_45 : decode cX12_tellLease 45 = .ok (.getfield 206, 3) := by decide +kernel
theorem dX12_tellLease_48 : decode cX12_tellLease 48 = .ok (.istore_n 1, 1) := by decide +kernel
theorem dX12_tellLease_49 : decode cX12_tellLease 49 = .ok (.aload_n 0, 1) := by decide +kernel
theorem dX12_tellLease_50 : decode cX12_tellLease 50 = .ok (.iconst 0, 1) := by decide +kernel
theorem dX12_tellLease_51 : decode cX12_tellLease 51 = .ok (.bipush 7, 2) := by decide +kernel
theorem dX12_tellLease_53 : decode cX12_tellLease 53 = .ok (.invokevirtual 254, 3) := by decide +kernel
theorem dX12_tellLease_56 : decode cX12_tellLease 56 = .ok (.istore_n 3, 1) := by decide +kernel
theorem dX12_tellLease_57 : decode cX12_tellLease 57 = .ok (.aload_n 0, 1) := by decide +kernel
theorem dX12_tellLease_58 : decode cX12_tellLease 58 = .ok (.getfield 203, 3) := by decide +kernel
theorem dX12_tellLease_61 : decode cX12_tellLease 61 = .ok (.ifCond .ne 13, 3) := by decide +kernel
theorem dX12_tellLease_64 : decode cX12_tellLease 64 = .ok (.iload_n 3, 1) := by decide +kernel
theorem dX12_tellLease_65 : decode cX12_tellLease 65 = .ok (.bipush 8, 2) := by decide +kernel
theorem dX12_tellLease_67 : decode cX12_tellLease 67 = .ok (.if_icmp .ge 7, 3) := by decide +kernel
theorem dX12_tellLease_70 : decode cX12_tellLease 70 = .ok (.iconst 1, 1) := by decide +kernel
theorem dX12_tellLease_71 : decode cX12_tellLease 71 = .ok (.goto 4, 3) := by decide +kernel
theorem dX12_tellLease_74 : decode cX12_tellLease 74 = .ok (.iconst 0, 1) := by decide +kernel
theorem dX12_tellLease_75 : decode cX12_tellLease 75 = .ok (.istore 4, 2) := by decide +kernel
theorem dX12_tellLease_77 : decode cX12_tellLease 77 = .ok (.iload 4, 2) := by decide +kernel
theorem dX12_tellLease_79 : decode cX12_tellLease 79 = .ok (.ifCond .eq 28, 3) := by decide +kernel
theorem dX12_tellLease_82 : decode cX12_tellLease 82 = .ok (.aload_n 0, 1) := by decide +kernel
theorem dX12_tellLease_83 : decode cX12_tellLease 83 = .ok (.getfield 58, 3) := by decide +kernel
theorem dX12_tellLease_86 : decode cX12_tellLease 86 = .ok (.bipush 8, 2) := by decide +kernel
theorem dX12_tellLease_88 : decode cX12_tellLease 88 = .ok (.aload_n 0, 1) := by decide +kernel
theorem dX12_tellLease_89 : decode cX12_tellLease 89 = .ok (.getfield 236, 3) := by decide +kernel
theorem dX12_tellLease_92 : decode cX12_tellLease 92 = .ok (.imul, 1) := by decide +kernel
theorem dX12_tellLease_93 : decode cX12_tellLease 93 = .ok (.iload_n 3, 1) := by decide +kernel
theorem dX12_tellLease_94 : decode cX12_tellLease 94 = .ok (.iadd, 1) := by decide +kernel
theorem dX12_tellLease_95 : decode cX12_tellLease 95 = .ok (.iaload, 1) := by decide +kernel
theorem dX12_tellLease_96 : decode cX12_tellLease 96 = .ok (.bipush (-2), 2) := by decide +kernel
theorem dX12_tellLease_98 : decode cX12_tellLease 98 = .ok (.if_icmp .eq 9, 3) := by decide +kernel
theorem dX12_tellLease_101 : decode cX12_tellLease 101 = .ok (.aload_n 0, 1) := by decide +kernel
theorem dX12_tellLease_102 : decode cX12_tellLease 102 = .ok (.iconst 3, 1) := by decide +kernel
theorem dX12_tellLease_103 : decode cX12_tellLease 103 = .ok (.iload_n 1, 1) := by decide +kernel
theorem dX12_tellLease_104 : decode cX12_tellLease 104 = .ok (.invokevirtual 277, 3) := by decide +kernel
theorem dX12_tellLease_107 : decode cX12_tellLease 107 = .ok (.aload_n 0, 1) := by decide +kernel
theorem dX12_tellLease_108 : decode cX12_tellLease 108 = .ok (.iconst 4, 1) := by decide +kernel
theorem dX12_tellLease_109 : decode cX12_tellLease 109 = .ok (.invokevirtual 258, 3) := by decide +kernel
theorem dX12_tellLease_112 : decode cX12_tellLease 112 = .ok (.aload_n 0, 1) := by decide +kernel
theorem dX12_tellLease_113 : decode cX12_tellLease 113 = .ok (.getfield 203, 3) := by decide +kernel
theorem dX12_tellLease_116 : decode cX12_tellLease 116 = .ok (.ifCond .le 4, 3) := by decide +kernel
theorem dX12_tellLease_119 : decode cX12_tellLease 119 = .ok (.return_, 1) := by decide +kernel
theorem dX12_tellLease_120 : decode cX12_tellLease 120 = .ok (.aload_n 0, 1) := by decide +kernel
theorem dX12_tellLease_121 : decode cX12_tellLease 121 = .ok (.getfield 61, 3) := by decide +kernel
theorem dX12_tellLease_124 : decode cX12_tellLease 124 = .ok (.aload_n 0, 1) := by decide +kernel
theorem dX12_tellLease_125 : decode cX12_tellLease 125 = .ok (.getfield 236, 3) := by decide +kernel
theorem dX12_tellLease_128 : decode cX12_tellLease 128 = .ok (.dup2, 1) := by decide +kernel
theorem dX12_tellLease_129 : decode cX12_tellLease 129 = .ok (.iaload, 1) := by decide +kernel
theorem dX12_tellLease_130 : decode cX12_tellLease 130 = .ok (.iconst 1, 1) := by decide +kernel
theorem dX12_tellLease_131 : decode cX12_tellLease 131 = .ok (.iadd, 1) := by decide +kernel
theorem dX12_tellLease_132 : decode cX12_tellLease 132 = .ok (.iastore, 1) := by decide +kernel
theorem dX12_tellLease_133 : decode cX12_tellLease 133 = .ok (.iload 4, 2) := by decide +kernel
theorem dX12_tellLease_135 : decode cX12_tellLease 135 = .ok (.ifCond .eq 18, 3) := by decide +kernel
theorem dX12_tellLease_138 : decode cX12_tellLease 138 = .ok (.aload_n 0, 1) := by decide +kernel
theorem dX12_tellLease_139 : decode cX12_tellLease 139 = .ok (.getfield 58, 3) := by decide +kernel
theorem dX12_tellLease_142 : decode cX12_tellLease 142 = .ok (.bipush 8, 2) := by decide +kernel
theorem dX12_tellLease_144 : decode cX12_tellLease 144 = .ok (.aload_n 0, 1) := by decide +kernel
theorem dX12_tellLease_145 : decode cX12_tellLease 145 = .ok (.getfield 236, 3) := by decide +kernel
theorem dX12_tellLease_148 : decode cX12_tellLease 148 = .ok (.imul, 1) := by decide +kernel
theorem dX12_tellLease_149 : decode cX12_tellLease 149 = .ok (.iload_n 3, 1) := by decide +kernel
theorem dX12_tellLease_150 : decode cX12_tellLease 150 = .ok (.iadd, 1) := by decide +kernel
theorem dX12_tellLease_151 : decode cX12_tellLease 151 = .ok (.iload_n 2, 1) := by decide +kernel
theorem dX12_tellLease_152 : decode cX12_tellLease 152 = .ok (.iastore, 1) := by decide +kernel
theorem dX12_tellLease_153 : decode cX12_tellLease 153 = .ok (.return_, 1) := by decide +kernel
theorem dX12_toldInt_0 : decode cX12_toldInt 0 = .ok (.aload_n 0, 1) := by decide +kernel
theorem dX12_toldInt_1 : decode cX12_toldInt 1 = .ok (.invokevirtual 224, 3) := by decide +kernel
theorem dX12_toldInt_4 : decode cX12_toldInt 4 = .ok (.aload_n 0, 1) := by decide +kernel
theorem dX12_toldInt_5 : decode cX12_toldInt 5 = .ok (.iconst 0, 1) := by decide +kernel
theorem dX12_toldInt_6 : decode cX12_toldInt 6 = .ok (.iload_n 1, 1) := by decide +kernel
theorem dX12_toldInt_7 : decode cX12_toldInt 7 = .ok (.invokevirtual 254, 3) := by decide +kernel
theorem dX12_toldInt_10 : decode cX12_toldInt 10 = .ok (.istore_n 2, 1) := by decide +kernel
theorem dX12_toldInt_11 : decode cX12_toldInt 11 = .ok (.aload_n 0, 1) := by decide +kernel
theorem dX12_toldInt_12 : decode cX12_toldInt 12 = .ok (.iconst 4, 1) := by decide +kernel
theorem dX12_toldInt_13 : decode cX12_toldInt 13 = .ok (.invokevirtual 258, 3) := by decide +kernel
theorem dX12_toldInt_16 : decode cX12_toldInt 16 = .ok (.iload_n 2, 1) := by decide +kernel
theorem dX12_toldInt_17 : decode cX12_toldInt 17 = .ok (.ireturn, 1) := by decide +kernel
theorem dX12_emit_0 : decode cX12_emit 0 = .ok (.aload_n 0, 1) := by decide +kernel
theorem dX12_emit_1 : decode cX12_emit 1 = .ok (.getfield 95, 3) := by decide +kernel
theorem dX12_emit_4 : decode cX12_emit 4 = .ok (.aload_n 0, 1) := by decide +kernel
theorem dX12_emit_5 : decode cX12_emit 5 = .ok (.getfield 242, 3) := by decide +kernel
theorem dX12_emit_8 : decode cX12_emit 8 = .ok (.iload_n 1, 1) := by decide +kernel
theorem dX12_emit_9 : decode cX12_emit 9 = .ok (.iastore, 1) := by decide +kernel
theorem dX12_emit_10 : decode cX12_emit 10 = .ok (.aload_n 0, 1) := by decide +kernel
theorem dX12_emit_11 : decode cX12_emit 11 = .ok (.getfield 98, 3) := by decide +kernel
theorem dX12_emit_14 : decode cX12_emit 14 = .ok (.aload_n 0, 1) := by decide +kernel
theorem dX12_emit_15 : decode cX12_emit 15 = .ok (.getfield 242, 3) := by decide +kernel
theorem dX12_emit_18 : decode cX12_emit 18 = .ok (.iload_n 2, 1) := by decide +kernel
theorem dX12_emit_19 : decode cX12_emit 19 = .ok (.iastore, 1) := by decide +kernel
theorem dX12_emit_20 : decode cX12_emit 20 = .ok (.aload_n 0, 1) := by decide +kernel
theorem dX12_emit_21 : decode cX12_emit 21 = .ok (.dup, 1) := by decide +kernel
theorem dX12_emit_22 : decode cX12_emit 22 = .ok (.getfield 242, 3) := by decide +kernel
theorem dX12_emit_25 : decode cX12_emit 25 = .ok (.iconst 1, 1) := by decide +kernel
theorem dX12_emit_26 : decode cX12_emit 26 = .ok (.iadd, 1) := by decide +kernel
theorem dX12_emit_27 : decode cX12_emit 27 = .ok (.putfield 242, 3) := by decide +kernel
theorem dX12_emit_30 : decode cX12_emit 30 = .ok (.return_, 1) := by decide +kernel
theorem dX12_unit_0 : decode cX12_unit 0 = .ok (.aload_n 0, 1) := by decide +kernel
theorem dX12_unit_1 : decode cX12_unit 1 = .ok (.iconst 2, 1) := by decide +kernel
theorem dX12_unit_2 : decode cX12_unit 2 = .ok (.invokevirtual 221, 3) := by decide +kernel
theorem dX12_unit_5 : decode cX12_unit 5 = .ok (.ifCond .eq 24, 3) := by decide +kernel
theorem dX12_unit_8 : decode cX12_unit 8 = .ok (.aload_n 0, 1) := by decide +kernel
theorem dX12_unit_9 : decode cX12_unit 9 = .ok (.iconst 0, 1) := by decide +kernel
theorem dX12_unit_10 : decode cX12_unit 10 = .ok (.aload_n 0, 1) := by decide +kernel
theorem dX12_unit_11 : decode cX12_unit 11 = .ok (.getfield 27, 3) := by decide +kernel
theorem dX12_unit_14 : decode cX12_unit 14 = .ok (.aload_n 0, 1) := by decide +kernel
theorem dX12_unit_15 : decode cX12_unit 15 = .ok (.getfield 206, 3) := by decide +kernel
theorem dX12_unit_18 : decode cX12_unit 18 = .ok (.iaload, 1) := by decide +kernel
theorem dX12_unit_19 : decode cX12_unit 19 = .ok (.invokevirtual 292, 3) := by decide +kernel
theorem dX12_unit_22 : decode cX12_unit 22 = .ok (.aload_n 0, 1) := by decide +kernel
theorem dX12_unit_23 : decode cX12_unit 23 = .ok (.invokevirtual 224, 3) := by decide +kernel
theorem dX12_unit_26 : decode cX12_unit 26 = .ok (.goto 67, 3) := by decide +kernel
theorem dX12_unit_29 : decode cX12_unit 29 = .ok (.aload_n 0, 1) := by decide +kernel
theorem dX12_unit_30 : decode cX12_unit 30 = .ok (.getfield 203, 3) := by decide +kernel
theorem dX12_unit_33 : decode cX12_unit 33 = .ok (.ifCond .ne 55, 3) := by decide +kernel
theorem dX12_unit_36 : decode cX12_unit 36 = .ok (.aload_n 0, 1) := by decide +kernel
theorem dX12_unit_37 : decode cX12_unit 37 = .ok (.getfield 20, 3) := by decide +kernel
theorem dX12_unit_40 : decode cX12_unit 40 = .ok (.aload_n 0, 1) := by decide +kernel
theorem dX12_unit_41 : decode cX12_unit 41 = .ok (.getfield 206, 3) := by decide +kernel
theorem dX12_unit_44 : decode cX12_unit 44 = .ok (.iaload, 1) := by decide +kernel
theorem dX12_unit_45 : decode cX12_unit 45 = .ok (.bipush 33, 2) := by decide +kernel
theorem dX12_unit_47 : decode cX12_unit 47 = .ok (.if_icmp .lt 41, 3) := by decide +kernel
theorem dX12_unit_50 : decode cX12_unit 50 = .ok (.aload_n 0, 1) := by decide +kernel
theorem dX12_unit_51 : decode cX12_unit 51 = .ok (.getfield 20, 3) := by decide +kernel
theorem dX12_unit_54 : decode cX12_unit 54 = .ok (.aload_n 0, 1) := by decide +kernel
theorem dX12_unit_55 : decode cX12_unit 55 = .ok (.getfield 206, 3) := by decide +kernel
theorem dX12_unit_58 : decode cX12_unit 58 = .ok (.iaload, 1) := by decide +kernel
theorem dX12_unit_59 : decode cX12_unit 59 = .ok (.bipush 41, 2) := by decide +kernel
theorem dX12_unit_61 : decode cX12_unit 61 = .ok (.if_icmp .gt 27, 3) := by decide +kernel
theorem dX12_unit_64 : decode cX12_unit 64 = .ok (.aload_n 0, 1) := by decide +kernel
theorem dX12_unit_65 : decode cX12_unit 65 = .ok (.iconst 1, 1) := by decide +kernel
theorem dX12_unit_66 : decode cX12_unit 66 = .ok (.aload_n 0, 1) := by decide +kernel
theorem dX12_unit_67 : decode cX12_unit 67 = .ok (.getfield 20, 3) := by decide +kernel
theorem dX12_unit_70 : decode cX12_unit 70 = .ok (.aload_n 0, 1) := by decide +kernel
theorem dX12_unit_71 : decode cX12_unit 71 = .ok (.getfield 206, 3) := by decide +kernel
theorem dX12_unit_74 : decode cX12_unit 74 = .ok (.iaload, 1) := by decide +kernel
theorem dX12_unit_75 : decode cX12_unit 75 = .ok (.bipush 33, 2) := by decide +kernel
theorem dX12_unit_77 : decode cX12_unit 77 = .ok (.isub, 1) := by decide +kernel
theorem dX12_unit_78 : decode cX12_unit 78 = .ok (.invokevirtual 292, 3) := by decide +kernel
theorem dX12_unit_81 : decode cX12_unit 81 = .ok (.aload_n 0, 1) := by decide +kernel
theorem dX12_unit_82 : decode cX12_unit 82 = .ok (.invokevirtual 224, 3) := by decide +kernel
theorem dX12_unit_85 : decode cX12_unit 85 = .ok (.goto 8, 3) := by decide +kernel
theorem dX12_unit_88 : decode cX12_unit 88 = .ok (.aload_n 0, 1) := by decide +kernel
theorem dX12_unit_89 : decode cX12_unit 89 = .ok (.iconst 1, 1) := by decide +kernel
theorem dX12_unit_90 : decode cX12_unit 90 = .ok (.invokevirtual 218, 3) := by decide +kernel
theorem dX12_unit_93 : decode cX12_unit 93 = .ok (.return_, 1) := by decide +kernel
theorem dX12_comesOut_0 : decode cX12_comesOut 0 = .ok (.aload_n 0, 1) := by decide +kernel
theorem dX12_comesOut_1 : decode cX12_comesOut 1 = .ok (.getfield 289, 3) := by decide +kernel
theorem dX12_comesOut_4 : decode cX12_comesOut 4 = .ok (.ifCond .le 87, 3) := by decide +kernel
theorem dX12_comesOut_7 : decode cX12_comesOut 7 = .ok (.aload_n 0, 1) := by decide +kernel
theorem dX12_comesOut_8 : decode cX12_comesOut 8 = .ok (.getfield 101, 3) := by decide +kernel
theorem dX12_comesOut_11 : decode cX12_comesOut 11 = .ok (.aload_n 0, 1) := by decide +kernel
theorem dX12_comesOut_12 : decode cX12_comesOut 12 = .ok (.getfield 289, 3) := by decide +kernel
theorem dX12_comesOut_15 : decode cX12_comesOut 15 = .ok (.iconst 1, 1) := by decide +kernel
theorem dX12_comesOut_16 : decode cX12_comesOut 16 = .ok (.isub, 1) := by decide +kernel
theorem dX12_comesOut_17 : decode cX12_comesOut 17 = .ok (.iaload, 1) := by decide +kernel
theorem dX12_comesOut_18 : decode cX12_comesOut 18 = .ok (.istore_n 2, 1) := by decide +kernel
theorem dX12_comesOut_19 : decode cX12_comesOut 19 = .ok (.iload_n 2, 1) := by decide +kernel
theorem dX12_comesOut_20 : decode cX12_comesOut 20 = .ok (.bipush 6, 2) := by decide +kernel
theorem dX12_comesOut_22 : decode cX12_comesOut 22 = .ok (.if_icmp .eq 19, 3) := by decide +kernel
theorem dX12_comesOut_25 : decode cX12_comesOut 25 = .ok (.iload_n 1, 1) := by decide +kernel
theorem dX12_comesOut_26 : decode cX12_comesOut 26 = .ok (.ifCond .eq 16, 3) := by decide +kernel
theorem dX12_comesOut_29 : decode cX12_comesOut 29 = .ok (.iload_n 2, 1) := by decide +kernel
theorem dX12_comesOut_30 : decode cX12_comesOut 30 = .ok (.bipush 8, 2) := by decide +kernel
theorem dX12_comesOut_32 : decode cX12_comesOut 32 = .ok (.if_icmp .eq 9, 3) := by decide +kernel
theorem dX12_comesOut_35 : decode cX12_comesOut 35 = .ok (.iload_n 2, 1) := by decide +kernel
theorem dX12_comesOut_36 : decode cX12_comesOut 36 = .ok (.bipush 9, 2) := by decide +kernel
theorem dX12_comesOut_38 : decode cX12_comesOut 38 = .ok (.if_icmp .ne 4, 3) := by decide +kernel
theorem dX12_comesOut_41 : decode cX12_comesOut 41 = .ok (.return_, 1) := by decide +kernel
theorem dX12_comesOut_42 : decode cX12_comesOut 42 = .ok (.aload_n 0, 1) := by decide +kernel
theorem dX12_comesOut_43 : decode cX12_comesOut 43 = .ok (.dup, 1) := by decide +kernel
theorem dX12_comesOut_44 : decode cX12_comesOut 44 = .ok (.getfield 289, 3) := by decide +kernel
theorem dX12_comesOut_47 : decode cX12_comesOut 47 = .ok (.iconst 1, 1) := by decide +kernel
theorem dX12_comesOut_48 : decode cX12_comesOut 48 = .ok (.isub, 1) := by decide +kernel
theorem dX12_comesOut_49 : decode cX12_comesOut 49 = .ok (.putfield 289, 3) := by decide +kernel
theorem dX12_comesOut_52 : decode cX12_comesOut 52 = .ok (.aload_n 0, 1) := by decide +kernel
theorem dX12_comesOut_53 : decode cX12_comesOut 53 = .ok (.iload_n 2, 1) := by decide +kernel
theorem dX12_comesOut_54 : decode cX12_comesOut 54 = .ok (.bipush 8, 2) := by decide +kernel
theorem dX12_comesOut_56 : decode cX12_comesOut 56 = .ok (.if_icmp .ne 7, 3) := by decide +kernel
theorem dX12_comesOut_59 : decode cX12_comesOut 59 = .ok (.iconst 2, 1) := by decide +kernel
theorem dX12_comesOut_60 : decode cX12_comesOut 60 = .ok (.goto 24, 3) := by decide +kernel
theorem dX12_comesOut_63 : decode cX12_comesOut 63 = .ok (.iload_n 2, 1) := by decide +kernel
theorem dX12_comesOut_64 : decode cX12_comesOut 64 = .ok (.bipush 9, 2) := by decide +kernel
theorem dX12_comesOut_66 : decode cX12_comesOut 66 = .ok (.if_icmp .ne 7, 3) := by decide +kernel
theorem dX12_comesOut_69 : decode cX12_comesOut 69 = .ok (.iconst 3, 1) := by decide +kernel
theorem dX12_comesOut_70 : decode cX12_comesOut 70 = .ok (.goto 14, 3) := by decide +kernel
theorem dX12_comesOut_73 : decode cX12_comesOut 73 = .ok (.iload_n 2, 1) := by decide +kernel
theorem dX12_comesOut_74 : decode cX12_comesOut 74 = .ok (.bipush 10, 2) := by decide +kernel
theorem dX12_comesOut_76 : decode cX12_comesOut 76 = .ok (.if_icmp .ne 7, 3) := by decide +kernel
theorem dX12_comesOut_79 : decode cX12_comesOut 79 = .ok (.iconst 4, 1) := by decide +kernel
theorem dX12_comesOut_80 : decode cX12_comesOut 80 = .ok (.goto 4, 3) := by decide +kernel
theorem dX12_comesOut_83 : decode cX12_comesOut 83 = .ok (.iconst 5, 1) := by decide +kernel
theorem dX12_comesOut_84 : decode cX12_comesOut 84 = .ok (.iconst 0, 1) := by decide +kernel
theorem dX12_comesOut_85 : decode cX12_comesOut 85 = .ok (.invokevirtual 292, 3) := by decide +kernel
theorem dX12_comesOut_88 : decode cX12_comesOut 88 = .ok (.goto (-88), 3) := by decide +kernel
theorem dX12_comesOut_91 : decode cX12_comesOut 91 = .ok (.return_, 1) := by decide +kernel
theorem dX12_expression_0 : decode cX12_expression 0 = .ok (.aload_n 0, 1) := by decide +kernel
theorem dX12_expression_1 : decode cX12_expression 1 = .ok (.iconst 0, 1) := by decide +kernel
theorem dX12_expression_2 : decode cX12_expression 2 = .ok (.putfield 289, 3) := by decide +kernel
theorem dX12_expression_5 : decode cX12_expression 5 = .ok (.aload_n 0, 1) := by decide +kernel
theorem dX12_expression_6 : decode cX12_expression 6 = .ok (.getfield 230, 3) := by decide +kernel
theorem dX12_expression_9 : decode cX12_expression 9 = .ok (.istore_n 1, 1) := by decide +kernel
theorem dX12_expression_10 : decode cX12_expression 10 = .ok (.iconst 1, 1) := by decide +kernel
theorem dX12_expression_11 : decode cX12_expression 11 = .ok (.istore_n 2, 1) := by decide +kernel
theorem dX12_expression_12 : decode cX12_expression 12 = .ok (.iload_n 2, 1) := by decide +kernel
theorem dX12_expression_13 : decode cX12_expression 13 = .ok (.ifCond .eq 259, 3) := by decide +kernel
theorem dX12_expression_16 : decode cX12_expression 16 = .ok (.aload_n 0, 1) := by decide +kernel
theorem dX12_expression_17 : decode cX12_expression 17 = .ok (.getfield 203, 3) := by decide +kernel
theorem dX12_expression_20 : decode cX12_expression 20 = .ok (.ifCond .ne 252, 3) := by decide +kernel
theorem dX12_expression_23 : decode cX12_expression 23 = .ok (.aload_n 0, 1) := by decide +kernel
theorem dX12_expression_24 : decode cX12_expression 24 = .ok (.bipush 6, 2) := by decide +kernel
theorem dX12_expression_26 : decode cX12_expression 26 = .ok (.invokevirtual 221, 3) := by decide +kernel
theorem dX12_expression_29 : decode cX12_expression 29 = .ok (.ifCond .eq 55, 3) := by decide +kernel
theorem dX12_expression_32 : decode cX12_expression 32 = .ok (.aload_n 0, 1) := by decide +kernel
theorem dX12_expression_33 : decode cX12_expression 33 = .ok (.getfield 230, 3) := by decide +kernel
theorem dX12_expression_36 : decode cX12_expression 36 = .ok (.bipush 6, 2) := by decide +kernel
theorem dX12_expression_38 : decode cX12_expression 38 = .ok (.if_icmp .ne 8, 3) := by decide +kernel
theorem dX12_expression_41 : decode cX12_expression 41 = .ok (.aload_n 0, 1) := by decide +kernel
theorem dX12_expression_42 : decode cX12_expression 42 = .ok (.iconst 2, 1) := by decide +kernel
theorem dX12_expression_43 : decode cX12_expression 43 = .ok (.invokevirtual 218, 3) := by decide +kernel
theorem dX12_expression_46 : decode cX12_expression 46 = .ok (.aload_n 0, 1) := by decide +kernel
theorem dX12_expression_47 : decode cX12_expression 47 = .ok (.dup, 1) := by decide +kernel
theorem dX12_expression_48 : decode cX12_expression 48 = .ok (.getfield 230, 3) := by decide +kernel
theorem dX12_expression_51 : decode cX12_expression 51 = .ok (.iconst 1, 1) := by decide +kernel
theorem dX12_expression_52 : decode cX12_expression 52 = .ok (.iadd, 1) := by decide +kernel
theorem dX12_expression_53 : decode cX12_expression 53 = .ok (.putfield 230, 3) := by decide +kernel
theorem dX12_expression_56 : decode cX12_expression 56 = .ok (.aload_n 0, 1) := by decide +kernel
theorem dX12_expression_57 : decode cX12_expression 57 = .ok (.invokevirtual 224, 3) := by decide +kernel
theorem dX12_expression_60 : decode cX12_expression 60 = .ok (.aload_n 0, 1) := by decide +kernel
theorem dX12_expression_61 : decode cX12_expression 61 = .ok (.getfield 101, 3) := by decide +kernel
theorem dX12_expression_64 : decode cX12_expression 64 = .ok (.aload_n 0, 1) := by decide +kernel
theorem dX12_expression_65 : decode cX12_expression 65 = .ok (.getfield 289, 3) := by decide +kernel
theorem dX12_expression_68 : decode cX12_expression 68 = .ok (.bipush 6, 2) := by decide +kernel
theorem dX12_expression_70 : decode cX12_expression 70 = .ok (.iastore, 1) := by decide +kernel
theorem dX12_expression_71 : decode cX12_expression 71 = .ok (.aload_n 0, 1) := by decide +kernel
theorem dX12_expression_72 : decode cX12_expression 72 = .ok (.dup, 1) := by decide +kernel
theorem dX12_expression_73 : decode cX12_expression 73 = .ok (.getfield 289, 3) := by decide +kernel
theorem dX12_expression_76 : decode cX12_expression 76 = .ok (.iconst 1, 1) := by decide +kernel
theorem dX12_expression_77 : decode cX12_expression 77 = .ok (.iadd, 1) := by decide +kernel
theorem dX12_expression_78 : decode cX12_expression 78 = .ok (.putfield 289, 3) := by decide +kernel
theorem dX12_expression_81 : decode cX12_expression 81 = .ok (.goto (-58), 3) := by decide +kernel
theorem dX12_expression_84 : decode cX12_expression 84 = .ok (.aload_n 0, 1) := by decide +kernel
theorem dX12_expression_85 : decode cX12_expression 85 = .ok (.invokevirtual 295, 3) := by decide +kernel
theorem dX12_expression_88 : decode cX12_expression 88 = .ok (.aload_n 0, 1) := by decide +kernel
theorem dX12_expression_89 : decode cX12_expression 89 = .ok (.getfield 203, 3) := by decide +kernel
theorem dX12_expression_92 : decode cX12_expression 92 = .ok (.ifCond .le 4, 3) := by decide +kernel
theorem dX12_expression_95 : decode cX12_expression 95 = .ok (.return_, 1) := by decide +kernel
theorem dX12_expression_96 : decode cX12_expression 96 = .ok (.aload_n 0, 1) := by decide +kernel
theorem dX12_expression_97 : decode cX12_expression 97 = .ok (.bipush 7, 2) := by decide +kernel
theorem dX12_expression_99 : decode cX12_expression 99 = .ok (.invokevirtual 221, 3) := by decide +kernel
theorem dX12_expression_102 : decode cX12_expression 102 = .ok (.ifCond .eq 43, 3) := by decide +kernel
theorem dX12_expression_105 : decode cX12_expression 105 = .ok (.aload_n 0, 1) := by decide +kernel
theorem dX12_expression_106 : decode cX12_expression 106 = .ok (.getfield 230, 3) := by decide +kernel
theorem dX12_expression_109 : decode cX12_expression 109 = .ok (.iload_n 1, 1) := by decide +kernel
theorem dX12_expression_110 : decode cX12_expression 110 = .ok (.if_icmp .le 35, 3) := by decide +kernel
theorem dX12_expression_113 : decode cX12_expression 113 = .ok (.aload_n 0, 1) := by decide +kernel
theorem dX12_expression_114 : decode cX12_expression 114 = .ok (.iconst 0, 1) := by decide +kernel
theorem dX12_expression_115 : decode cX12_expression 115 = .ok (.invokevirtual 298, 3) := by decide +kernel
theorem dX12_expression_118 : decode cX12_expression 118 = .ok (.aload_n 0, 1) := by decide +kernel
theorem dX12_expression_119 : decode cX12_expression 119 = .ok (.dup, 1) := by decide +kernel
theorem dX12_expression_120 : decode cX12_expression 120 = .ok (.getfield 289, 3) := by decide +kernel
theorem dX12_expression_123 : decode cX12_expression 123 = .ok (.iconst 1, 1) := by decide +kernel
theorem dX12_expression_124 : decode cX12_expression 124 = .ok (.isub, 1) := by decide +kernel
theorem dX12_expression_125 : decode cX12_expression 125 = .ok (.putfield 289, 3) := by decide +kernel
theorem dX12_expression_128 : decode cX12_expression 128 = .ok (.aload_n 0, 1) := by decide +kernel
theorem dX12_expression_129 : decode cX12_expression 129 = .ok (.dup, 1) := by decide +kernel
theorem dX12_expression_130 : decode cX12_expression 130 = .ok (.getfield 230, 3) := by decide +kernel
theorem dX12_expression_133 : decode cX12_expression 133 = .ok (.iconst 1, 1) := by decide +kernel
theorem dX12_expression_134 : decode cX12_expression 134 = .ok (.isub, 1) := by decide +kernel
theorem dX12_expression_135 : decode cX12_expression 135 = .ok (.putfield 230, 3) := by decide +kernel
theorem dX12_expression_138 : decode cX12_expression 138 = .ok (.aload_n 0, 1) := by decide +kernel
theorem dX12_expression_139 : decode cX12_expression 139 = .ok (.invokevirtual 224, 3) := by decide +kernel
theorem dX12_expression_142 : decode cX12_expression 142 = .ok (.goto (-46), 3) := by decide +kernel
theorem dX12_expression_145 : decode cX12_expression 145 = .ok (.aload_n 0, 1) := by decide +kernel
theorem dX12_expression_146 : decode cX12_expression 146 = .ok (.bipush 8, 2) := by decide +kernel
theorem dX12_expression_148 : decode cX12_expression 148 = .ok (.invokevirtual 221, 3) := by decide +kernel
theorem dX12_expression_151 : decode cX12_expression 151 = .ok (.ifCond .ne 30, 3) := by decide +kernel
theorem dX12_expression_154 : decode cX12_expression 154 = .ok (.aload_n 0, 1) := by decide +kernel
theorem dX12_expression_155 : decode cX12_expression 155 = .ok (.bipush 9, 2) := by decide +kernel
theorem dX12_expression_157 : decode cX12_expression 157 = .ok (.invokevirtual 221, 3) := by decide +kernel
theorem dX12_expression_160 : decode cX12_expression 160 = .ok (.ifCond .ne 21, 3) := by decide +kernel
theorem dX12_expression_163 : decode cX12_expression 163 = .ok (.aload_n 0, 1) := by decide +kernel
theorem dX12_expression_164 : decode cX12_expression 164 = .ok (.bipush 10, 2) := by decide +kernel
theorem dX12_expression_166 : decode cX12_expression 166 = .ok (.invokevirtual 221, 3) := by decide +kernel
theorem dX12_expression_169 : decode cX12_expression 169 = .ok (.ifCond .ne 12, 3) := by decide +kernel
theorem dX12_expression_172 : decode cX12_expression 172 = .ok (.aload_n 0, 1) := by decide +kernel
theorem dX12_expression_173 : decode cX12_expression 173 = .ok (.bipush 15, 2) := by decide +kernel
theorem dX12_expression_175 : decode cX12_expression 175 = .ok (.invokevirtual 221, 3) := by decide +kernel
theorem dX12_expression_178 : decode cX12_expression 178 = .ok (.ifCond .eq 7, 3) := by decide +kernel
theorem dX12_expression_181 : decode cX12_expression 181 = .ok (.iconst 1, 1) := by decide +kernel
theorem dX12_expression_182 : decode cX12_expression 182 = .ok (.goto 4, 3) := by decide +kernel
theorem dX12_expression_185 : decode cX12_expression 185 = .ok (.iconst 0, 1) := by decide +kernel
theorem dX12_expression_186 : decode cX12_expression 186 = .ok (.istore_n 2, 1) := by decide +kernel
theorem dX12_expression_187 : decode cX12_expression 187 = .ok (.iload_n 2, 1) := by decide +kernel
theorem dX12_expression_188 : decode cX12_expression 188 = .ok (.ifCond .ne 22, 3) := by decide +kernel
theorem dX12_expression_191 : decode cX12_expression 191 = .ok (.aload_n 0, 1) := by decide +kernel
theorem dX12_expression_192 : decode cX12_expression 192 = .ok (.getfield 230, 3) := by decide +kernel
theorem dX12_expression_195 : decode cX12_expression 195 = .ok (.iload_n 1, 1) := by decide +kernel
theorem dX12_expression_196 : decode cX12_expression 196 = .ok (.if_icmp .le 8, 3) := by decide +kernel
theorem dX12_expression_199 : decode cX12_expression 199 = .ok (.aload_n 0, 1) := by decide +kernel
theorem dX12_expression_200 : decode cX12_expression 200 = .ok (.iconst 1, 1) := by decide +kernel
theorem dX12_expression_201 : decode cX12_expression 201 = .ok (.invokevirtual 218, 3) := by decide +kernel
theorem dX12_expression_204 : decode cX12_expression 204 = .ok (.aload_n 0, 1) := by decide +kernel
theorem dX12_expression_205 : decode cX12_expression 205 = .ok (.iconst 0, 1) := by decide +kernel
theorem dX12_expression_206 : decode cX12_expression 206 = .ok (.invokevirtual 298, 3) := by decide +kernel
theorem dX12_expression_209 : decode cX12_expression 209 = .ok (.return_, 1) := by decide +kernel
theorem dX12_expression_210 : decode cX12_expression 210 = .ok (.aload_n 0, 1) := by decide +kernel
theorem dX12_expression_211 : decode cX12_expression 211 = .ok (.aload_n 0, 1) := by decide +kernel
theorem dX12_expression_212 : decode cX12_expression 212 = .ok (.bipush 10, 2) := by decide +kernel
theorem dX12_expression_214 : decode cX12_expression 214 = .ok (.invokevirtual 221, 3) := by decide +kernel
theorem dX12_expression_217 : decode cX12_expression 217 = .ok (.ifCond .ne 12, 3) := by decide +kernel
theorem dX12_expression_220 : decode cX12_expression 220 = .ok (.aload_n 0, 1) := by decide +kernel
theorem dX12_expression_221 : decode cX12_expression 221 = .ok (.bipush 15, 2) := by decide +kernel
theorem dX12_expression_223 : decode cX12_expression 223 = .ok (.invokevirtual 221, 3) := by decide +kernel
theorem dX12_expression_226 : decode cX12_expression 226 = .ok (.ifCond .eq 7, 3) := by decide +kernel
theorem dX12_expression_229 : decode cX12_expression 229 = .ok (.iconst 1, 1) := by decide +kernel
theorem dX12_expression_230 : decode cX12_expression 230 = .ok (.goto 4, 3) := by decide +kernel
theorem dX12_expression_233 : decode cX12_expression 233 = .ok (.iconst 0, 1) := by decide +kernel
theorem dX12_expression_234 : decode cX12_expression 234 = .ok (.invokevirtual 298, 3) := by decide +kernel
theorem dX12_expression_237 : decode cX12_expression 237 = .ok (.aload_n 0, 1) := by decide +kernel
theorem dX12_expression_238 : decode cX12_expression 238 = .ok (.getfield 101, 3) := by decide +kernel
theorem dX12_expression_241 : decode cX12_expression 241 = .ok (.aload_n 0, 1) := by decide +kernel
theorem dX12_expression_242 : decode cX12_expression 242 = .ok (.getfield 289, 3) := by decide +kernel
theorem dX12_expression_245 : decode cX12_expression 245 = .ok (.aload_n 0, 1) := by decide +kernel
theorem dX12_expression_246 : decode cX12_expression 246 = .ok (.getfield 20, 3) := by decide +kernel
theorem dX12_expression_249 : decode cX12_expression 249 = .ok (.aload_n 0, 1) := by decide +kernel
theorem dX12_expression_250 : decode cX12_expression 250 = .ok (.getfield 206, 3) := by decide +kernel
theorem dX12_expression_253 : decode cX12_expression 253 = .ok (.iaload, 1) := by decide +kernel
theorem dX12_expression_254 : decode cX12_expression 254 = .ok (.iastore, 1) := by decide +kernel
theorem dX12_expression_255 : decode cX12_expression 255 = .ok (.aload_n 0, 1) := by decide +kernel
theorem dX12_expression_256 : decode cX12_expression 256 = .ok (.dup, 1) := by decide +kernel
theorem dX12_expression_257 : decode cX12_expression 257 = .ok (.getfield 289, 3) := by decide +kernel
theorem dX12_expression_260 : decode cX12_expression 260 = .ok (.iconst 1, 1) := by decide +kernel
theorem dX12_expression_261 : decode cX12_expression 261 = .ok (.iadd, 1) := by decide +kernel
theorem dX12_expression_262 : decode cX12_expression 262 = .ok (.putfield 289, 3) := by decide +kernel
theorem dX12_expression_265 : decode cX12_expression 265 = .ok (.aload_n 0, 1) := by decide +kernel
theorem dX12_expression_266 : decode cX12_expression 266 = .ok (.invokevirtual 224, 3) := by decide +kernel
theorem dX12_expression_269 : decode cX12_expression 269 = .ok (.goto (-257), 3) := by decide +kernel
theorem dX12_expression_272 : decode cX12_expression 272 = .ok (.return_, 1) := by decide +kernel
theorem dX12_term_0 : decode cX12_term 0 = .ok (.aload_n 0, 1) := by decide +kernel
theorem dX12_term_1 : decode cX12_term 1 = .ok (.getfield 89, 3) := by decide +kernel
theorem dX12_term_4 : decode cX12_term 4 = .ok (.aload_n 0, 1) := by decide +kernel
theorem dX12_term_5 : decode cX12_term 5 = .ok (.getfield 239, 3) := by decide +kernel
theorem dX12_term_8 : decode cX12_term 8 = .ok (.aload_n 0, 1) := by decide +kernel
theorem dX12_term_9 : decode cX12_term 9 = .ok (.getfield 242, 3) := by decide +kernel
theorem dX12_term_12 : decode cX12_term 12 = .ok (.iastore, 1) := by decide +kernel
theorem dX12_term_13 : decode cX12_term 13 = .ok (.aload_n 0, 1) := by decide +kernel
theorem dX12_term_14 : decode cX12_term 14 = .ok (.getfield 203, 3) := by decide +kernel
theorem dX12_term_17 : decode cX12_term 17 = .ok (.ifCond .ne 7, 3) := by decide +kernel
theorem dX12_term_20 : decode cX12_term 20 = .ok (.aload_n 0, 1) := by decide +kernel
theorem dX12_term_21 : decode cX12_term 21 = .ok (.invokevirtual 283, 3) := by decide +kernel
theorem dX12_term_24 : decode cX12_term 24 = .ok (.aload_n 0, 1) := by decide +kernel
theorem dX12_term_25 : decode cX12_term 25 = .ok (.getfield 92, 3) := by decide +kernel
theorem dX12_term_28 : decode cX12_term 28 = .ok (.aload_n 0, 1) := by decide +kernel
theorem dX12_term_29 : decode cX12_term 29 = .ok (.getfield 239, 3) := by decide +kernel
theorem dX12_term_32 : decode cX12_term 32 = .ok (.aload_n 0, 1) := by decide +kernel
theorem dX12_term_33 : decode cX12_term 33 = .ok (.getfield 242, 3) := by decide +kernel
theorem dX12_term_36 : decode cX12_term 36 = .ok (.iastore, 1) := by decide +kernel
theorem dX12_term_37 : decode cX12_term 37 = .ok (.aload_n 0, 1) := by decide +kernel
theorem dX12_term_38 : decode cX12_term 38 = .ok (.dup, 1) := by decide +kernel
theorem dX12_term_39 : decode cX12_term 39 = .ok (.getfield 239, 3) := by decide +kernel
theorem dX12_term_42 : decode cX12_term 42 = .ok (.iconst 1, 1) := by decide +kernel
theorem dX12_term_43 : decode cX12_term 43 = .ok (.iadd, 1) := by decide +kernel
theorem dX12_term_44 : decode cX12_term 44 = .ok (.putfield 239, 3) := by decide +kernel
theorem dX12_term_47 : decode cX12_term 47 = .ok (.return_, 1) := by decide +kernel
theorem dX12_tellLaw_0 : decode cX12_tellLaw 0 = .ok (.aload_n 0, 1) := by decide +kernel
theorem dX12_tellLaw_1 : decode cX12_tellLaw 1 = .ok (.iconst 5, 1) := by decide +kernel
theorem dX12_tellLaw_2 : decode cX12_tellLaw 2 = .ok (.invokevirtual 258, 3) := by decide +kernel
theorem dX12_tellLaw_5 : decode cX12_tellLaw 5 = .ok (.aload_n 0, 1) := by decide +kernel
theorem dX12_tellLaw_6 : decode cX12_tellLaw 6 = .ok (.getfield 239, 3) := by decide +kernel
theorem dX12_tellLaw_9 : decode cX12_tellLaw 9 = .ok (.istore_n 2, 1) := by decide +kernel
theorem dX12_tellLaw_10 : decode cX12_tellLaw 10 = .ok (.iconst 0, 1) := by decide +kernel
theorem dX12_tellLaw_11 : decode cX12_tellLaw 11 = .ok (.istore_n 3, 1) := by decide +kernel
theorem dX12_tellLaw_12 : decode cX12_tellLaw 12 = .ok (.aload_n 0, 1) := by decide +kernel
theorem dX12_tellLaw_13 : decode cX12_tellLaw 13 = .ok (.getfield 203, 3) := by decide +kernel
theorem dX12_tellLaw_16 : decode cX12_tellLaw 16 = .ok (.ifCond .ne 113, 3) := by decide +kernel
theorem dX12_tellLaw_19 : decode cX12_tellLaw 19 = .ok (.aload_n 0, 1) := by decide +kernel
theorem dX12_tellLaw_20 : decode cX12_tellLaw 20 = .ok (.bipush 30, 2) := by decide +kernel
theorem dX12_tellLaw_22 : decode cX12_tellLaw 22 = .ok (.invokevirtual 221, 3) := by decide +kernel
theorem dX12_tellLaw_25 : decode cX12_tellLaw 25 = .ok (.ifCond .eq 104, 3) := by decide +kernel
theorem dX12_tellLaw_28 : decode cX12_tellLaw 28 = .ok (.iload_n 3, 1) := by decide +kernel
theorem dX12_tellLaw_29 : decode cX12_tellLaw 29 = .ok (.iconst 4, 1) := by decide +kernel
theorem dX12_tellLaw_30 : decode cX12_tellLaw 30 = .ok (.if_icmp .ne 8, 3) := by decide +kernel
theorem dX12_tellLaw_33 : decode cX12_tellLaw 33 = .ok (.aload_n 0, 1) := by decide +kernel
theorem dX12_tellLaw_34 : decode cX12_tellLaw 34 = .ok (.iconst 2, 1) := by decide +kernel
theorem dX12_tellLaw_35 : decode cX12_tellLaw 35 = .ok (.invokevirtual 218, 3) := by decide +kernel
theorem dX12_tellLaw_38 : decode cX12_tellLaw 38 = .ok (.aload_n 0, 1) := by decide +kernel
theorem dX12_tellLaw_39 : decode cX12_tellLaw 39 = .ok (.getfield 203, 3) := by decide +kernel
theorem dX12_tellLaw_42 : decode cX12_tellLaw 42 = .ok (.ifCond .le 4, 3) := by decide +kernel
theorem dX12_tellLaw_45 : decode cX12_tellLaw 45 = .ok (.return_, 1) := by decide +kernel
theorem dX12_tellLaw_46 : decode cX12_tellLaw 46 = .ok (.iinc 3 1, 3) := by decide +kernel
theorem dX12_tellLaw_49 : decode cX12_tellLaw 49 = .ok (.aload_n 0, 1) := by decide +kernel
theorem dX12_tellLaw_50 : decode cX12_tellLaw 50 = .ok (.invokevirtual 224, 3) := by decide +kernel
theorem dX12_tellLaw_53 : decode cX12_tellLaw 53 = .ok (.aload_n 0, 1) := by decide +kernel
theorem dX12_tellLaw_54 : decode cX12_tellLaw 54 = .ok (.getfield 79, 3) := by decide +kernel
theorem dX12_tellLaw_57 : decode cX12_tellLaw 57 = .ok (.aload_n 0, 1) := by decide +kernel
theorem dX12_tellLaw_58 : decode cX12_tellLaw 58 = .ok (.getfield 239, 3) := by decide +kernel
theorem dX12_tellLaw_61 : decode cX12_tellLaw 61 = .ok (.iconst 1, 1) := by decide +kernel
theorem dX12_tellLaw_62 : decode cX12_tellLaw 62 = .ok (.bastore, 1) := by decide +kernel
theorem dX12_tellLaw_63 : decode cX12_tellLaw 63 = .ok (.aload_n 0, 1) := by decide +kernel
theorem dX12_tellLaw_64 : decode cX12_tellLaw 64 = .ok (.getfield 83, 3) := by decide +kernel
theorem dX12_tellLaw_67 : decode cX12_tellLaw 67 = .ok (.aload_n 0, 1) := by decide +kernel
theorem dX12_tellLaw_68 : decode cX12_tellLaw 68 = .ok (.getfield 239, 3) := by decide +kernel
theorem dX12_tellLaw_71 : decode cX12_tellLaw 71 = .ok (.aload_n 0, 1) := by decide +kernel
theorem dX12_tellLaw_72 : decode cX12_tellLaw 72 = .ok (.getfield 242, 3) := by decide +kernel
theorem dX12_tellLaw_75 : decode cX12_tellLaw 75 = .ok (.iastore, 1) := by decide +kernel
theorem dX12_tellLaw_76 : decode cX12_tellLaw 76 = .ok (.aload_n 0, 1) := by decide +kernel
theorem dX12_tellLaw_77 : decode cX12_tellLaw 77 = .ok (.invokevirtual 283, 3) := by decide +kernel
theorem dX12_tellLaw_80 : decode cX12_tellLaw 80 = .ok (.aload_n 0, 1) := by decide +kernel
theorem dX12_tellLaw_81 : decode cX12_tellLaw 81 = .ok (.bipush 13, 2) := by decide +kernel
theorem dX12_tellLaw_83 : decode cX12_tellLaw 83 = .ok (.invokevirtual 258, 3) := by decide +kernel
theorem dX12_tellLaw_86 : decode cX12_tellLaw 86 = .ok (.aload_n 0, 1) := by decide +kernel
theorem dX12_tellLaw_87 : decode cX12_tellLaw 87 = .ok (.getfield 86, 3) := by decide +kernel
theorem dX12_tellLaw_90 : decode cX12_tellLaw 90 = .ok (.aload_n 0, 1) := by decide +kernel
theorem dX12_tellLaw_91 : decode cX12_tellLaw 91 = .ok (.getfield 239, 3) := by decide +kernel
theorem dX12_tellLaw_94 : decode cX12_tellLaw 94 = .ok (.aload_n 0, 1) := by decide +kernel
theorem dX12_tellLaw_95 : decode cX12_tellLaw 95 = .ok (.getfield 242, 3) := by decide +kernel
theorem dX12_tellLaw_98 : decode cX12_tellLaw 98 = .ok (.iastore, 1) := by decide +kernel
theorem dX12_tellLaw_99 : decode cX12_tellLaw 99 = .ok (.aload_n 0, 1) := by decide +kernel
theorem dX12_tellLaw_100 : decode cX12_tellLaw 100 = .ok (.getfield 203, 3) := by decide +kernel
theorem dX12_tellLaw_103 : decode cX12_tellLaw 103 = .ok (.ifCond .ne 7, 3) := by decide +kernel
theorem dX12_tellLaw_106 : decode cX12_tellLaw 106 = .ok (.aload_n 0, 1) := by decide +kernel
theorem dX12_tellLaw_107 : decode cX12_tellLaw 107 = .ok (.invokevirtual 283, 3) := by decide +kernel
theorem dX12_tellLaw_110 : decode cX12_tellLaw 110 = .ok (.aload_n 0, 1) := by decide +kernel
theorem dX12_tellLaw_111 : decode cX12_tellLaw 111 = .ok (.bipush 31, 2) := by decide +kernel
theorem dX12_tellLaw_113 : decode cX12_tellLaw 113 = .ok (.invokevirtual 258, 3) := by decide +kernel
theorem dX12_tellLaw_116 : decode cX12_tellLaw 116 = .ok (.aload_n 0, 1) := by decide +kernel
theorem dX12_tellLaw_117 : decode cX12_tellLaw 117 = .ok (.invokevirtual 286, 3) := by decide +kernel
theorem dX12_tellLaw_120 : decode cX12_tellLaw 120 = .ok (.aload_n 0, 1) := by decide +kernel
theorem dX12_tellLaw_121 : decode cX12_tellLaw 121 = .ok (.bipush 32, 2) := by decide +kernel
theorem dX12_tellLaw_123 : decode cX12_tellLaw 123 = .ok (.invokevirtual 258, 3) := by decide +kernel
theorem dX12_tellLaw_126 : decode cX12_tellLaw 126 = .ok (.goto (-114), 3) := by decide +kernel
theorem dX12_tellLaw_129 : decode cX12_tellLaw 129 = .ok (.aload_n 0, 1) := by decide +kernel
theorem dX12_tellLaw_130 : decode cX12_tellLaw 130 = .ok (.getfield 79, 3) := by decide +kernel
theorem dX12_tellLaw_133 : decode cX12_tellLaw 133 = .ok (.aload_n 0, 1) := by decide +kernel
theorem dX12_tellLaw_134 : decode cX12_tellLaw 134 = .ok (.getfield 239, 3) := by decide +kernel
theorem dX12_tellLaw_137 : decode cX12_tellLaw 137 = .ok (.iconst 0, 1) := by decide +kernel
theorem dX12_tellLaw_138 : decode cX12_tellLaw 138 = .ok (.bastore, 1) := by decide +kernel
theorem dX12_tellLaw_139 : decode cX12_tellLaw 139 = .ok (.aload_n 0, 1) := by decide +kernel
theorem dX12_tellLaw_140 : decode cX12_tellLaw 140 = .ok (.invokevirtual 286, 3) := by decide +kernel
theorem dX12_tellLaw_143 : decode cX12_tellLaw 143 = .ok (.aload_n 0, 1) := by decide +kernel
theorem dX12_tellLaw_144 : decode cX12_tellLaw 144 = .ok (.iconst 4, 1) := by decide +kernel
theorem dX12_tellLaw_145 : decode cX12_tellLaw 145 = .ok (.invokevirtual 258, 3) := by decide +kernel
theorem dX12_tellLaw_148 : decode cX12_tellLaw 148 = .ok (.aload_n 0, 1) := by decide +kernel
theorem dX12_tellLaw_149 : decode cX12_tellLaw 149 = .ok (.getfield 203, 3) := by decide +kernel
theorem dX12_tellLaw_152 : decode cX12_tellLaw 152 = .ok (.ifCond .le 4, 3) := by decide +kernel
theorem dX12_tellLaw_155 : decode cX12_tellLaw 155 = .ok (.return_, 1) := by decide +kernel
theorem dX12_tellLaw_156 : decode cX12_tellLaw 156 = .ok (.aload_n 0, 1) := by decide +kernel
theorem dX12_tellLaw_157 : decode cX12_tellLaw 157 = .ok (.getfield 73, 3) := by decide +kernel
theorem dX12_tellLaw_160 : decode cX12_tellLaw 160 = .ok (.iconst 4, 1) := by decide +kernel
theorem dX12_tellLaw_161 : decode cX12_tellLaw 161 = .ok (.aload_n 0, 1) := by decide +kernel
theorem dX12_tellLaw_162 : decode cX12_tellLaw 162 = .ok (.getfield 236, 3) := by decide +kernel
theorem dX12_tellLaw_165 : decode cX12_tellLaw 165 = .ok (.imul, 1) := by decide +kernel
theorem dX12_tellLaw_166 : decode cX12_tellLaw 166 = .ok (.iload_n 1, 1) := by decide +kernel
theorem dX12_tellLaw_167 : decode cX12_tellLaw 167 = .ok (.iadd, 1) := by decide +kernel
theorem dX12_tellLaw_168 : decode cX12_tellLaw 168 = .ok (.iload_n 2, 1) := by decide +kernel
theorem dX12_tellLaw_169 : decode cX12_tellLaw 169 = .ok (.iastore, 1) := by decide +kernel
theorem dX12_tellLaw_170 : decode cX12_tellLaw 170 = .ok (.aload_n 0, 1) := by decide +kernel
theorem dX12_tellLaw_171 : decode cX12_tellLaw 171 = .ok (.getfield 76, 3) := by decide +kernel
theorem dX12_tellLaw_174 : decode cX12_tellLaw 174 = .ok (.iconst 4, 1) := by decide +kernel
theorem dX12_tellLaw_175 : decode cX12_tellLaw 175 = .ok (.aload_n 0, 1) := by decide +kernel
theorem dX12_tellLaw_176 : decode cX12_tellLaw 176 = .ok (.getfield 236, 3) := by decide +kernel
theorem dX12_tellLaw_179 : decode cX12_tellLaw 179 = .ok (.imul, 1) := by decide +kernel
theorem dX12_tellLaw_180 : decode cX12_tellLaw 180 = .ok (.iload_n 1, 1) := by decide +kernel
theorem dX12_tellLaw_181 : decode cX12_tellLaw 181 = .ok (.iadd, 1) := by decide +kernel
theorem dX12_tellLaw_182 : decode cX12_tellLaw 182 = .ok (.aload_n 0, 1) := by decide +kernel
theorem dX12_tellLaw_183 : decode cX12_tellLaw 183 = .ok (.getfield 239, 3) := by decide +kernel
theorem dX12_tellLaw_186 : decode cX12_tellLaw 186 = .ok (.iastore, 1) := by decide +kernel
theorem dX12_tellLaw_187 : decode cX12_tellLaw 187 = .ok (.return_, 1) := by decide +kernel
theorem dX12_tellOne_0 : decode cX12_tellOne 0 = .ok (.aload_n 0, 1) := by decide +kernel
theorem dX12_tellOne_1 : decode cX12_tellOne 1 = .ok (.getfield 20, 3) := by decide +kernel
theorem dX12_tellOne_4 : decode cX12_tellOne 4 = .ok (.aload_n 0, 1) := by decide +kernel
theorem dX12_tellOne_5 : decode cX12_tellOne 5 = .ok (.getfield 206, 3) := by decide +kernel
theorem dX12_tellOne_8 : decode cX12_tellOne 8 = .ok (.iaload, 1) := by decide +kernel
theorem dX12_tellOne_9 : decode cX12_tellOne 9 = .ok (.tableswitch 239 20 29 #[55, 127, 155, 239, 239, 239, 239, 184, 202, 220], 55) := by decide +kernel
theorem dX12_tellOne_64 : decode cX12_tellOne 64 = .ok (.aload_n 0, 1) := by decide +kernel
theorem dX12_tellOne_65 : decode cX12_tellOne 65 = .ok (.aload_n 0, 1) := by decide +kernel
theorem dX12_tellOne_66 : decode cX12_tellOne 66 = .ok (.getfield 40, 3) := by decide +kernel
theorem dX12_tellOne_69 : decode cX12_tellOne 69 = .ok (.aload_n 0, 1) := by decide +kernel
theorem dX12_tellOne_70 : decode cX12_tellOne 70 = .ok (.getfield 236, 3) := by decide +kernel
theorem dX12_tellOne_73 : decode cX12_tellOne 73 = .ok (.iaload, 1) := by decide +kernel
theorem dX12_tellOne_74 : decode cX12_tellOne 74 = .ok (.bipush 10, 2) := by decide +kernel
theorem dX12_tellOne_76 : decode cX12_tellOne 76 = .ok (.invokevirtual 261, 3) := by decide +kernel
theorem dX12_tellOne_79 : decode cX12_tellOne 79 = .ok (.aload_n 0, 1) := by decide +kernel
theorem dX12_tellOne_80 : decode cX12_tellOne 80 = .ok (.getfield 203, 3) := by decide +kernel
theorem dX12_tellOne_83 : decode cX12_tellOne 83 = .ok (.ifCond .le 4, 3) := by decide +kernel
theorem dX12_tellOne_86 : decode cX12_tellOne 86 = .ok (.return_, 1) := by decide +kernel
theorem dX12_tellOne_87 : decode cX12_tellOne 87 = .ok (.aload_n 0, 1) := by decide +kernel
theorem dX12_tellOne_88 : decode cX12_tellOne 88 = .ok (.getfield 43, 3) := by decide +kernel
theorem dX12_tellOne_91 : decode cX12_tellOne 91 = .ok (.bipush 10, 2) := by decide +kernel
theorem dX12_tellOne_93 : decode cX12_tellOne 93 = .ok (.aload_n 0, 1) := by decide +kernel
theorem dX12_tellOne_94 : decode cX12_tellOne 94 = .ok (.getfield 236, 3) := by decide +kernel
theorem dX12_tellOne_97 : decode cX12_tellOne 97 = .ok (.imul, 1) := by decide +kernel
theorem dX12_tellOne_98 : decode cX12_tellOne 98 = .ok (.aload_n 0, 1) := by decide +kernel
theorem dX12_tellOne_99 : decode cX12_tellOne 99 = .ok (.getfield 40, 3) := by decide +kernel
theorem dX12_tellOne_102 : decode cX12_tellOne 102 = .ok (.aload_n 0, 1) := by decide +kernel
theorem dX12_tellOne_103 : decode cX12_tellOne 103 = .ok (.getfield 236, 3) := by decide +kernel
theorem dX12_tellOne_106 : decode cX12_tellOne 106 = .ok (.iaload, 1) := by decide +kernel
theorem dX12_tellOne_107 : decode cX12_tellOne 107 = .ok (.iadd, 1) := by decide +kernel
theorem dX12_tellOne_108 : decode cX12_tellOne 108 = .ok (.aload_n 0, 1) := by decide +kernel
theorem dX12_tellOne_109 : decode cX12_tellOne 109 = .ok (.iconst 0, 1) := by decide +kernel
theorem dX12_tellOne_110 : decode cX12_tellOne 110 = .ok (.iconst 5, 1) := by decide +kernel
theorem dX12_tellOne_111 : decode cX12_tellOne 111 = .ok (.invokevirtual 254, 3) := by decide +kernel
theorem dX12_tellOne_114 : decode cX12_tellOne 114 = .ok (.iastore, 1) := by decide +kernel
theorem dX12_tellOne_115 : decode cX12_tellOne 115 = .ok (.aload_n 0, 1) := by decide +kernel
theorem dX12_tellOne_116 : decode cX12_tellOne 116 = .ok (.iconst 4, 1) := by decide +kernel
theorem dX12_tellOne_117 : decode cX12_tellOne 117 = .ok (.invokevirtual 258, 3) := by decide +kernel
theorem dX12_tellOne_120 : decode cX12_tellOne 120 = .ok (.aload_n 0, 1) := by decide +kernel
theorem dX12_tellOne_121 : decode cX12_tellOne 121 = .ok (.getfield 40, 3) := by decide +kernel
theorem dX12_tellOne_124 : decode cX12_tellOne 124 = .ok (.aload_n 0, 1) := by decide +kernel
theorem dX12_tellOne_125 : decode cX12_tellOne 125 = .ok (.getfield 236, 3) := by decide +kernel
theorem dX12_tellOne_128 : decode cX12_tellOne 128 = .ok (.dup2, 1) := by decide +kernel
theorem dX12_tellOne_129 : decode cX12_tellOne 129 = .ok (.iaload, 1) := by decide +kernel
theorem dX12_tellOne_130 : decode cX12_tellOne 130 = .ok (.iconst 1, 1) := by decide +kernel
theorem dX12_tellOne_131 : decode cX12_tellOne 131 = .ok (.iadd, 1) := by decide +kernel
theorem dX12_tellOne_132 : decode cX12_tellOne 132 = .ok (.iastore, 1) := by decide +kernel
theorem dX12_tellOne_133 : decode cX12_tellOne 133 = .ok (.goto 168, 3) := by decide +kernel
theorem dX12_tellOne_136 : decode cX12_tellOne 136 = .ok (.aload_n 0, 1) := by decide +kernel
theorem dX12_tellOne_137 : decode cX12_tellOne 137 = .ok (.aload_n 0, 1) := by decide +kernel
theorem dX12_tellOne_138 : decode cX12_tellOne 138 = .ok (.getfield 49, 3) := by decide +kernel
theorem dX12_tellOne_141 : decode cX12_tellOne 141 = .ok (.aload_n 0, 1) := by decide +kernel
theorem dX12_tellOne_142 : decode cX12_tellOne 142 = .ok (.getfield 236, 3) := by decide +kernel
theorem dX12_tellOne_145 : decode cX12_tellOne 145 = .ok (.iaload, 1) := by decide +kernel
theorem dX12_tellOne_146 : decode cX12_tellOne 146 = .ok (.iconst 5, 1) := by decide +kernel
theorem dX12_tellOne_147 : decode cX12_tellOne 147 = .ok (.invokevirtual 261, 3) := by decide +kernel
theorem dX12_tellOne_150 : decode cX12_tellOne 150 = .ok (.aload_n 0, 1) := by decide +kernel
theorem dX12_tellOne_151 : decode cX12_tellOne 151 = .ok (.getfield 203, 3) := by decide +kernel
theorem dX12_tellOne_154 : decode cX12_tellOne 154 = .ok (.ifCond .ne 147, 3) := by decide +kernel
theorem dX12_tellOne_157 : decode cX12_tellOne 157 = .ok (.aload_n 0, 1) := by decide +kernel
theorem dX12_tellOne_158 : decode cX12_tellOne 158 = .ok (.invokevirtual 265, 3) := by decide +kernel
theorem dX12_tellOne_161 : decode cX12_tellOne 161 = .ok (.goto 140, 3) := by decide +kernel
theorem dX12_tellOne_164 : decode cX12_tellOne 164 = .ok (.aload_n 0, 1) := by decide +kernel
theorem dX12_tellOne_165 : decode cX12_tellOne 165 = .ok (.aload_n 0, 1) := by decide +kernel
theorem dX12_tellOne_166 : decode cX12_tellOne 166 = .ok (.getfield 61, 3) := by decide +kernel
theorem dX12_tellOne_169 : decode cX12_tellOne 169 = .ok (.aload_n 0, 1) := by decide +kernel
theorem dX12_tellOne_170 : decode cX12_tellOne 170 = .ok (.getfield 236, 3) := by decide +kernel
theorem dX12_tellOne_173 : decode cX12_tellOne 173 = .ok (.iaload, 1) := by decide +kernel
theorem dX12_tellOne_174 : decode cX12_tellOne 174 = .ok (.bipush 8, 2) := by decide +kernel
theorem dX12_tellOne_176 : decode cX12_tellOne 176 = .ok (.invokevirtual 261, 3) := by decide +kernel
theorem dX12_tellOne_179 : decode cX12_tellOne 179 = .ok (.aload_n 0, 1) := by decide +kernel
theorem dX12_tellOne_180 : decode cX12_tellOne 180 = .ok (.getfield 203, 3) := by decide +kernel
theorem dX12_tellOne_183 : decode cX12_tellOne 183 = .ok (.ifCond .ne 118, 3) := by decide +kernel
theorem dX12_tellOne_186 : decode cX12_tellOne 186 = .ok (.aload_n 0, 1) := by decide +kernel
theorem dX12_tellOne_187 : decode cX12_tellOne 187 = .ok (.invokevirtual 268, 3) := by decide +kernel
theorem dX12_tellOne_190 : decode cX12_tellOne 190 = .ok (.goto 111, 3) := by decide +kernel
theorem dX12_tellOne_193 : decode cX12_tellOne 193 = .ok (.aload_n 0, 1) := by decide +kernel
theorem dX12_tellOne_194 : decode cX12_tellOne 194 = .ok (.getfield 64, 3) := by decide +kernel
theorem dX12_tellOne_197 : decode cX12_tellOne 197 = .ok (.aload_n 0, 1) := by decide +kernel
theorem dX12_tellOne_198 : decode cX12_tellOne 198 = .ok (.getfield 236, 3) := by decide +kernel
theorem dX12_tellOne_201 : decode cX12_tellOne 201 = .ok (.aload_n 0, 1) := by decide +kernel
theorem dX12_tellOne_202 : decode cX12_tellOne 202 = .ok (.bipush 9, 2) := by decide +kernel
theorem dX12_tellOne_204 : decode cX12_tellOne 204 = .ok (.invokevirtual 271, 3) := by decide +kernel
theorem dX12_tellOne_207 : decode cX12_tellOne 207 = .ok (.iastore, 1) := by decide +kernel
theorem dX12_tellOne_208 : decode cX12_tellOne 208 = .ok (.goto 93, 3) := by decide +kernel
theorem dX12_tellOne_211 : decode cX12_tellOne 211 = .ok (.aload_n 0, 1) := by decide +kernel
theorem dX12_tellOne_212 : decode cX12_tellOne 212 = .ok (.getfield 67, 3) := by decide +kernel
theorem dX12_tellOne_215 : decode cX12_tellOne 215 = .ok (.aload_n 0, 1) := by decide +kernel
theorem dX12_tellOne_216 : decode cX12_tellOne 216 = .ok (.getfield 236, 3) := by decide +kernel
theorem dX12_tellOne_219 : decode cX12_tellOne 219 = .ok (.aload_n 0, 1) := by decide +kernel
theorem dX12_tellOne_220 : decode cX12_tellOne 220 = .ok (.bipush 9, 2) := by decide +kernel
theorem dX12_tellOne_222 : decode cX12_tellOne 222 = .ok (.invokevirtual 271, 3) := by decide +kernel
theorem dX12_tellOne_225 : decode cX12_tellOne 225 = .ok (.iastore, 1) := by decide +kernel
theorem dX12_tellOne_226 : decode cX12_tellOne 226 = .ok (.goto 75, 3) := by decide +kernel
theorem dX12_tellOne_229 : decode cX12_tellOne 229 = .ok (.aload_n 0, 1) := by decide +kernel
theorem dX12_tellOne_230 : decode cX12_tellOne 230 = .ok (.getfield 70, 3) := by decide +kernel
theorem dX12_tellOne_233 : decode cX12_tellOne 233 = .ok (.aload_n 0, 1) := by decide +kernel
theorem dX12_tellOne_234 : decode cX12_tellOne 234 = .ok (.getfield 236, 3) := by decide +kernel
theorem dX12_tellOne_237 : decode cX12_tellOne 237 = .ok (.aload_n 0, 1) := by decide +kernel
theorem dX12_tellOne_238 : decode cX12_tellOne 238 = .ok (.sipush 9999, 3) := by decide +kernel
theorem dX12_tellOne_241 : decode cX12_tellOne 241 = .ok (.invokevirtual 271, 3) := by decide +kernel
theorem dX12_tellOne_244 : decode cX12_tellOne 244 = .ok (.iastore, 1) := by decide +kernel
theorem dX12_tellOne_245 : decode cX12_tellOne 245 = .ok (.goto 56, 3) := by decide +kernel
theorem dX12_tellOne_248 : decode cX12_tellOne 248 = .ok (.aload_n 0, 1) := by decide +kernel
theorem dX12_tellOne_249 : decode cX12_tellOne 249 = .ok (.getfield 20, 3) := by decide +kernel
theorem dX12_tellOne_252 : decode cX12_tellOne 252 = .ok (.aload_n 0, 1) := by decide +kernel
theorem dX12_tellOne_253 : decode cX12_tellOne 253 = .ok (.getfield 206, 3) := by decide +kernel
theorem dX12_tellOne_256 : decode cX12_tellOne 256 = .ok (.iaload, 1) := by decide +kernel
theorem dX12_tellOne_257 : decode cX12_tellOne 257 = .ok (.bipush 23, 2) := by decide +kernel
theorem dX12_tellOne_259 : decode cX12_tellOne 259 = .ok (.isub, 1) := by decide +kernel
theorem dX12_tellOne_260 : decode cX12_tellOne 260 = .ok (.istore_n 1, 1) := by decide +kernel
theorem dX12_tellOne_261 : decode cX12_tellOne 261 = .ok (.iload_n 1, 1) := by decide +kernel
theorem dX12_tellOne_262 : decode cX12_tellOne 262 = .ok (.ifCond .lt 17, 3) := by decide +kernel
theorem dX12_tellOne_265 : decode cX12_tellOne 265 = .ok (.aload_n 0, 1) := by decide +kernel
theorem dX12_tellOne_266 : decode cX12_tellOne 266 = .ok (.getfield 20, 3) := by decide +kernel
theorem dX12_tellOne_269 : decode cX12_tellOne 269 = .ok (.aload_n 0, 1) := by decide +kernel
theorem dX12_tellOne_270 : decode cX12_tellOne 270 = .ok (.getfield 206, 3) := by decide +kernel
theorem dX12_tellOne_273 : decode cX12_tellOne 273 = .ok (.iaload, 1) := by decide +kernel
theorem dX12_tellOne_274 : decode cX12_tellOne 274 = .ok (.bipush 26, 2) := by decide +kernel
theorem dX12_tellOne_276 : decode cX12_tellOne 276 = .ok (.if_icmp .le 8, 3) := by decide +kernel
theorem dX12_tellOne_279 : decode cX12_tellOne 279 = .ok (.aload_n 0, 1) := by decide +kernel
theorem dX12_tellOne_280 : decode cX12_tellOne 280 = .ok (.iconst 1, 1) := by decide +kernel
theorem dX12_tellOne_281 : decode cX12_tellOne 281 = .ok (.invokevirtual 218, 3) := by decide +kernel
theorem dX12_tellOne_284 : decode cX12_tellOne 284 = .ok (.aload_n 0, 1) := by decide +kernel
theorem dX12_tellOne_285 : decode cX12_tellOne 285 = .ok (.getfield 203, 3) := by decide +kernel
theorem dX12_tellOne_288 : decode cX12_tellOne 288 = .ok (.ifCond .le 4, 3) := by decide +kernel
theorem dX12_tellOne_291 : decode cX12_tellOne 291 = .ok (.return_, 1) := by decide +kernel
theorem dX12_tellOne_292 : decode cX12_tellOne 292 = .ok (.aload_n 0, 1) := by decide +kernel
theorem dX12_tellOne_293 : decode cX12_tellOne 293 = .ok (.invokevirtual 224, 3) := by decide +kernel
theorem dX12_tellOne_296 : decode cX12_tellOne 296 = .ok (.aload_n 0, 1) := by decide +kernel
theorem dX12_tellOne_297 : decode cX12_tellOne 297 = .ok (.iload_n 1, 1) := by decide +kernel
theorem dX12_tellOne_298 : decode cX12_tellOne 298 = .ok (.invokevirtual 274, 3) := by decide +kernel
theorem dX12_tellOne_301 : decode cX12_tellOne 301 = .ok (.return_, 1) := by decide +kernel
theorem dX12_many_0 : decode cX12_many 0 = .ok (.aload_n 0, 1) := by decide +kernel
theorem dX12_many_1 : decode cX12_many 1 = .ok (.getfield 40, 3) := by decide +kernel
theorem dX12_many_4 : decode cX12_many 4 = .ok (.aload_n 0, 1) := by decide +kernel
theorem dX12_many_5 : decode cX12_many 5 = .ok (.getfield 233, 3) := by decide +kernel
theorem dX12_many_8 : decode cX12_many 8 = .ok (.iaload, 1) := by decide +kernel
theorem dX12_many_9 : decode cX12_many 9 = .ok (.ireturn, 1) := by decide +kernel
theorem dX12_begins_0 : decode cX12_begins 0 = .ok (.iconst 0, 1) := by decide +kernel
theorem dX12_begins_1 : decode cX12_begins 1 = .ok (.istore_n 1, 1) := by decide +kernel
theorem dX12_begins_2 : decode cX12_begins 2 = .ok (.iload_n 1, 1) := by decide +kernel
theorem dX12_begins_3 : decode cX12_begins 3 = .ok (.bipush 33, 2) := by decide +kernel
theorem dX12_begins_5 : decode cX12_begins 5 = .ok (.if_icmp .ge 16, 3) := by decide +kernel
theorem dX12_begins_8 : decode cX12_begins 8 = .ok (.aload_n 0, 1) := by decide +kernel
theorem dX12_begins_9 : decode cX12_begins 9 = .ok (.getfield 113, 3) := by decide +kernel
theorem dX12_begins_12 : decode cX12_begins 12 = .ok (.iload_n 1, 1) := by decide +kernel
theorem dX12_begins_13 : decode cX12_begins 13 = .ok (.iconst 0, 1) := by decide +kernel
theorem dX12_begins_14 : decode cX12_begins 14 = .ok (.iastore, 1) := by decide +kernel
theorem dX12_begins_15 : decode cX12_begins 15 = .ok (.iinc 1 1, 3) := by decide +kernel
theorem dX12_begins_18 : decode cX12_begins 18 = .ok (.goto (-16), 3) := by decide +kernel
theorem dX12_begins_21 : decode cX12_begins 21 = .ok (.iconst 0, 1) := by decide +kernel
theorem dX12_begins_22 : decode cX12_begins 22 = .ok (.istore_n 1, 1) := by decide +kernel
theorem dX12_begins_23 : decode cX12_begins 23 = .ok (.iload_n 1, 1) := by decide +kernel
theorem dX12_begins_24 : decode cX12_begins 24 = .ok (.aload_n 0, 1) := by decide +kernel
theorem dX12_begins_25 : decode cX12_begins 25 = .ok (.invokevirtual 306, 3) := by decide +kernel
theorem dX12_begins_28 : decode cX12_begins 28 = .ok (.if_icmp .ge 29, 3) := by decide +kernel
theorem dX12_begins_31 : decode cX12_begins 31 = .ok (.aload_n 0, 1) := by decide +kernel
theorem dX12_begins_32 : decode cX12_begins 32 = .ok (.getfield 113, 3) := by decide +kernel
theorem dX12_begins_35 : decode cX12_begins 35 = .ok (.iload_n 1, 1) := by decide +kernel
theorem dX12_begins_36 : decode cX12_begins 36 = .ok (.aload_n 0, 1) := by decide +kernel
theorem dX12_begins_37 : decode cX12_begins 37 = .ok (.getfield 43, 3) := by decide +kernel
theorem dX12_begins_40 : decode cX12_begins 40 = .ok (.bipush 10, 2) := by decide +kernel
theorem dX12_begins_42 : decode cX12_begins 42 = .ok (.aload_n 0, 1) := by decide +kernel
theorem dX12_begins_43 : decode cX12_begins 43 = .ok (.getfield 233, 3) := by decide +kernel
theorem dX12_begins_46 : decode cX12_begins 46 = .ok (.imul, 1) := by decide +kernel
theorem dX12_begins_47 : decode cX12_begins 47 = .ok (.iload_n 1, 1) := by decide +kernel
theorem dX12_begins_48 : decode cX12_begins 48 = .ok (.iadd, 1) := by decide +kernel
theorem dX12_begins_49 : decode cX12_begins 49 = .ok (.iaload, 1) := by decide +kernel
theorem dX12_begins_50 : decode cX12_begins 50 = .ok (.iastore, 1) := by decide +kernel
theorem dX12_begins_51 : decode cX12_begins 51 = .ok (.iinc 1 1, 3) := by decide +kernel
theorem dX12_begins_54 : decode cX12_begins 54 = .ok (.goto (-31), 3) := by decide +kernel
theorem dX12_begins_57 : decode cX12_begins 57 = .ok (.iconst 0, 1) := by decide +kernel
theorem dX12_begins_58 : decode cX12_begins 58 = .ok (.istore_n 1, 1) := by decide +kernel
theorem dX12_begins_59 : decode cX12_begins 59 = .ok (.iload_n 1, 1) := by decide +kernel
theorem dX12_begins_60 : decode cX12_begins 60 = .ok (.bipush 8, 2) := by decide +kernel
theorem dX12_begins_62 : decode cX12_begins 62 = .ok (.if_icmp .ge 32, 3) := by decide +kernel
theorem dX12_begins_65 : decode cX12_begins 65 = .ok (.aload_n 0, 1) := by decide +kernel
theorem dX12_begins_66 : decode cX12_begins 66 = .ok (.getfield 113, 3) := by decide +kernel
theorem dX12_begins_69 : decode cX12_begins 69 = .ok (.bipush 10, 2) := by decide +kernel
theorem dX12_begins_71 : decode cX12_begins 71 = .ok (.iload_n 1, 1) := by decide +kernel
theorem dX12_begins_72 : decode cX12_begins 72 = .ok (.iadd, 1) := by decide +kernel
theorem dX12_begins_73 : decode cX12_begins 73 = .ok (.aload_n 0, 1) := by decide +kernel
theorem dX12_begins_74 : decode cX12_begins 74 = .ok (.getfield 58, 3) := by decide +kernel
theorem dX12_begins_77 : decode cX12_begins 77 = .ok (.bipush 8, 2) := by decide +kernel
theorem dX12_begins_79 : decode cX12_begins 79 = .ok (.aload_n 0, 1) := by decide +kernel
theorem dX12_begins_80 : decode cX12_begins 80 = .ok (.getfield 233, 3) := by decide +kernel
theorem dX12_begins_83 : decode cX12_begins 83 = .ok (.imul, 1) := by decide +kernel
theorem dX12_begins_84 : decode cX12_begins 84 = .ok (.iload_n 1, 1) := by decide +kernel
theorem dX12_begins_85 : decode cX12_begins 85 = .ok (.iadd, 1) := by decide +kernel
theorem dX12_begins_86 : decode cX12_begins 86 = .ok (.iaload, 1) := by decide +kernel
theorem dX12_begins_87 : decode cX12_begins 87 = .ok (.iastore, 1) := by decide +kernel
theorem dX12_begins_88 : decode cX12_begins 88 = .ok (.iinc 1 1, 3) := by decide +kernel
theorem dX12_begins_91 : decode cX12_begins 91 = .ok (.goto (-32), 3) := by decide +kernel
theorem dX12_begins_94 : decode cX12_begins 94 = .ok (.aload_n 0, 1) := by decide +kernel
theorem dX12_begins_95 : decode cX12_begins 95 = .ok (.getfield 113, 3) := by decide +kernel
theorem dX12_begins_98 : decode cX12_begins 98 = .ok (.bipush 18, 2) := by decide +kernel
theorem dX12_begins_100 : decode cX12_begins 100 = .ok (.aload_n 0, 1) := by decide +kernel
theorem dX12_begins_101 : decode cX12_begins 101 = .ok (.getfield 64, 3) := by decide +kernel
theorem dX12_begins_104 : decode cX12_begins 104 = .ok (.aload_n 0, 1) := by decide +kernel
theorem dX12_begins_105 : decode cX12_begins 105 = .ok (.getfield 233, 3) := by decide +kernel
theorem dX12_begins_108 : decode cX12_begins 108 = .ok (.iaload, 1) := by decide +kernel
theorem dX12_begins_109 : decode cX12_begins 109 = .ok (.iastore, 1) := by decide +kernel
theorem dX12_begins_110 : decode cX12_begins 110 = .ok (.aload_n 0, 1) := by decide +kernel
theorem dX12_begins_111 : decode cX12_begins 111 = .ok (.getfield 113, 3) := by decide +kernel
theorem dX12_begins_114 : decode cX12_begins 114 = .ok (.bipush 19, 2) := by decide +kernel
theorem dX12_begins_116 : decode cX12_begins 116 = .ok (.aload_n 0, 1) := by decide +kernel
theorem dX12_begins_117 : decode cX12_begins 117 = .ok (.getfield 67, 3) := by decide +kernel
theorem dX12_begins_120 : decode cX12_begins 120 = .ok (.aload_n 0, 1) := by decide +kernel
theorem dX12_begins_121 : decode cX12_begins 121 = .ok (.getfield 233, 3) := by decide +kernel
theorem dX12_begins_124 : decode cX12_begins 124 = .ok (.iaload, 1) := by decide +kernel
theorem dX12_begins_125 : decode cX12_begins 125 = .ok (.iastore, 1) := by decide +kernel
theorem dX12_begins_126 : decode cX12_begins 126 = .ok (.aload_n 0, 1) := by decide +kernel
theorem dX12_begins_127 : decode cX12_begins 127 = .ok (.getfield 113, 3) := by decide +kernel
theorem dX12_begins_130 : decode cX12_begins 130 = .ok (.bipush 22, 2) := by decide +kernel
theorem dX12_begins_132 : decode cX12_begins 132 = .ok (.bipush (-2), 2) := by decide +kernel
theorem dX12_begins_134 : decode cX12_begins 134 = .ok (.iastore, 1) := by decide +kernel
theorem dX12_begins_135 : decode cX12_begins 135 = .ok (.aload_n 0, 1) := by decide +kernel
theorem dX12_begins_136 : decode cX12_begins 136 = .ok (.aload_n 0, 1) := by decide +kernel
theorem dX12_begins_137 : decode cX12_begins 137 = .ok (.getfield 70, 3) := by decide +kernel
theorem dX12_begins_140 : decode cX12_begins 140 = .ok (.aload_n 0, 1) := by decide +kernel
theorem dX12_begins_141 : decode cX12_begins 141 = .ok (.getfield 233, 3) := by decide +kernel
theorem dX12_begins_144 : decode cX12_begins 144 = .ok (.iaload, 1) := by decide +kernel
theorem dX12_begins_145 : decode cX12_begins 145 = .ok (.putfield 314, 3) := by decide +kernel
theorem dX12_begins_148 : decode cX12_begins 148 = .ok (.return_, 1) := by decide +kernel
theorem dX12_keepsRow_0 : decode cX12_keepsRow 0 = .ok (.iconst 0, 1) := by decide +kernel
theorem dX12_keepsRow_1 : decode cX12_keepsRow 1 = .ok (.istore_n 1, 1) := by decide +kernel
theorem dX12_keepsRow_2 : decode cX12_keepsRow 2 = .ok (.iload_n 1, 1) := by decide +kernel
theorem dX12_keepsRow_3 : decode cX12_keepsRow 3 = .ok (.bipush 33, 2) := by decide +kernel
theorem dX12_keepsRow_5 : decode cX12_keepsRow 5 = .ok (.if_icmp .ge 21, 3) := by decide +kernel
theorem dX12_keepsRow_8 : decode cX12_keepsRow 8 = .ok (.aload_n 0, 1) := by decide +kernel
theorem dX12_keepsRow_9 : decode cX12_keepsRow 9 = .ok (.getfield 110, 3) := by decide +kernel
theorem dX12_keepsRow_12 : decode cX12_keepsRow 12 = .ok (.iload_n 1, 1) := by decide +kernel
theorem dX12_keepsRow_13 : decode cX12_keepsRow 13 = .ok (.aload_n 0, 1) := by decide +kernel
theorem dX12_keepsRow_14 : decode cX12_keepsRow 14 = .ok (.getfield 113, 3) := by decide +kernel
theorem dX12_keepsRow_17 : decode cX12_keepsRow 17 = .ok (.iload_n 1, 1) := by decide +kernel
theorem dX12_keepsRow_18 : decode cX12_keepsRow 18 = .ok (.iaload, 1) := by decide +kernel
theorem dX12_keepsRow_19 : decode cX12_keepsRow 19 = .ok (.iastore, 1) := by decide +kernel
theorem dX12_keepsRow_20 : decode cX12_keepsRow 20 = .ok (.iinc 1 1, 3) := by decide +kernel
theorem dX12_keepsRow_23 : decode cX12_keepsRow 23 = .ok (.goto (-21), 3) := by decide +kernel
theorem dX12_keepsRow_26 : decode cX12_keepsRow 26 = .ok (.return_, 1) := by decide +kernel
theorem dX12_read_0 : decode cX12_read 0 = .ok (.aload_n 0, 1) := by decide +kernel
theorem dX12_read_1 : decode cX12_read 1 = .ok (.aload_n 0, 1) := by decide +kernel
theorem dX12_read_2 : decode cX12_read 2 = .ok (.getfield 166, 3) := by decide +kernel
theorem dX12_read_5 : decode cX12_read 5 = .ok (.putfield 172, 3) := by decide +kernel
theorem dX12_read_8 : decode cX12_read 8 = .ok (.iconst 0, 1) := by decide +kernel
theorem dX12_read_9 : decode cX12_read 9 = .ok (.istore_n 1, 1) := by decide +kernel
theorem dX12_read_10 : decode cX12_read 10 = .ok (.iload_n 1, 1) := by decide +kernel
theorem dX12_read_11 : decode cX12_read 11 = .ok (.aload_n 0, 1) := by decide +kernel
theorem dX12_read_12 : decode cX12_read 12 = .ok (.getfield 172, 3) := by decide +kernel
theorem dX12_read_15 : decode cX12_read 15 = .ok (.if_icmp .ge 21, 3) := by decide +kernel
theorem dX12_read_18 : decode cX12_read 18 = .ok (.aload_n 0, 1) := by decide +kernel
theorem dX12_read_19 : decode cX12_read 19 = .ok (.getfield 17, 3) := by decide +kernel
theorem dX12_read_22 : decode cX12_read 22 = .ok (.iload_n 1, 1) := by decide +kernel
theorem dX12_read_23 : decode cX12_read 23 = .ok (.aload_n 0, 1) := by decide +kernel
theorem dX12_read_24 : decode cX12_read 24 = .ok (.getfield 13, 3) := by decide +kernel
theorem dX12_read_27 : decode cX12_read 27 = .ok (.iload_n 1, 1) := by decide +kernel
theorem dX12_read_28 : decode cX12_read 28 = .ok (.baload, 1) := by decide +kernel
theorem dX12_read_29 : decode cX12_read 29 = .ok (.bastore, 1) := by decide +kernel
theorem dX12_read_30 : decode cX12_read 30 = .ok (.iinc 1 1, 3) := by decide +kernel
theorem dX12_read_33 : decode cX12_read 33 = .ok (.goto (-23), 3) := by decide +kernel
theorem dX12_read_36 : decode cX12_read 36 = .ok (.aload_n 0, 1) := by decide +kernel
theorem dX12_read_37 : decode cX12_read 37 = .ok (.iconst 0, 1) := by decide +kernel
theorem dX12_read_38 : decode cX12_read 38 = .ok (.putfield 166, 3) := by decide +kernel
theorem dX12_read_41 : decode cX12_read 41 = .ok (.aload_n 0, 1) := by decide +kernel
theorem dX12_read_42 : decode cX12_read 42 = .ok (.invokevirtual 227, 3) := by decide +kernel
theorem dX12_read_45 : decode cX12_read 45 = .ok (.aload_n 0, 1) := by decide +kernel
theorem dX12_read_46 : decode cX12_read 46 = .ok (.iconst 0, 1) := by decide +kernel
theorem dX12_read_47 : decode cX12_read 47 = .ok (.putfield 206, 3) := by decide +kernel
theorem dX12_read_50 : decode cX12_read 50 = .ok (.aload_n 0, 1) := by decide +kernel
theorem dX12_read_51 : decode cX12_read 51 = .ok (.iconst 0, 1) := by decide +kernel
theorem dX12_read_52 : decode cX12_read 52 = .ok (.putfield 230, 3) := by decide +kernel
theorem dX12_read_55 : decode cX12_read 55 = .ok (.aload_n 0, 1) := by decide +kernel
theorem dX12_read_56 : decode cX12_read 56 = .ok (.iconst 0, 1) := by decide +kernel
theorem dX12_read_57 : decode cX12_read 57 = .ok (.putfield 203, 3) := by decide +kernel
theorem dX12_read_60 : decode cX12_read 60 = .ok (.aload_n 0, 1) := by decide +kernel
theorem dX12_read_61 : decode cX12_read 61 = .ok (.iconst 0, 1) := by decide +kernel
theorem dX12_read_62 : decode cX12_read 62 = .ok (.putfield 212, 3) := by decide +kernel
theorem dX12_read_65 : decode cX12_read 65 = .ok (.aload_n 0, 1) := by decide +kernel
theorem dX12_read_66 : decode cX12_read 66 = .ok (.iconst 1, 1) := by decide +kernel
theorem dX12_read_67 : decode cX12_read 67 = .ok (.aload_n 0, 1) := by decide +kernel
theorem dX12_read_68 : decode cX12_read 68 = .ok (.getfield 233, 3) := by decide +kernel
theorem dX12_read_71 : decode cX12_read 71 = .ok (.isub, 1) := by decide +kernel
theorem dX12_read_72 : decode cX12_read 72 = .ok (.putfield 236, 3) := by decide +kernel
theorem dX12_read_75 : decode cX12_read 75 = .ok (.aload_n 0, 1) := by decide +kernel
theorem dX12_read_76 : decode cX12_read 76 = .ok (.aload_n 0, 1) := by decide +kernel
theorem dX12_read_77 : decode cX12_read 77 = .ok (.getfield 236, 3) := by decide +kernel
theorem dX12_read_80 : decode cX12_read 80 = .ok (.invokevirtual 152, 3) := by decide +kernel
theorem dX12_read_83 : decode cX12_read 83 = .ok (.aload_n 0, 1) := by decide +kernel
theorem dX12_read_84 : decode cX12_read 84 = .ok (.sipush 130, 3) := by decide +kernel
theorem dX12_read_87 : decode cX12_read 87 = .ok (.aload_n 0, 1) := by decide +kernel
theorem dX12_read_88 : decode cX12_read 88 = .ok (.getfield 236, 3) := by decide +kernel
theorem dX12_read_91 : decode cX12_read 91 = .ok (.imul, 1) := by decide +kernel
theorem dX12_read_92 : decode cX12_read 92 = .ok (.putfield 239, 3) := by decide +kernel
theorem dX12_read_95 : decode cX12_read 95 = .ok (.aload_n 0, 1) := by decide +kernel
theorem dX12_read_96 : decode cX12_read 96 = .ok (.sipush 420, 3) := by decide +kernel
theorem dX12_read_99 : decode cX12_read 99 = .ok (.aload_n 0, 1) := by decide +kernel
theorem dX12_read_100 : decode cX12_read 100 = .ok (.getfield 236, 3) := by decide +kernel
theorem dX12_read_103 : decode cX12_read 103 = .ok (.imul, 1) := by decide +kernel
theorem dX12_read_104 : decode cX12_read 104 = .ok (.putfield 242, 3) := by decide +kernel
theorem dX12_read_107 : decode cX12_read 107 = .ok (.aload_n 0, 1) := by decide +kernel
theorem dX12_read_108 : decode cX12_read 108 = .ok (.getfield 203, 3) := by decide +kernel
theorem dX12_read_111 : decode cX12_read 111 = .ok (.ifCond .ne 18, 3) := by decide +kernel
theorem dX12_read_114 : decode cX12_read 114 = .ok (.aload_n 0, 1) := by decide +kernel
theorem dX12_read_115 : decode cX12_read 115 = .ok (.iconst 0, 1) := by decide +kernel
theorem dX12_read_116 : decode cX12_read 116 = .ok (.invokevirtual 221, 3) := by decide +kernel
theorem dX12_read_119 : decode cX12_read 119 = .ok (.ifCond .ne 10, 3) := by decide +kernel
theorem dX12_read_122 : decode cX12_read 122 = .ok (.aload_n 0, 1) := by decide +kernel
theorem dX12_read_123 : decode cX12_read 123 = .ok (.invokevirtual 245, 3) := by decide +kernel
theorem dX12_read_126 : decode cX12_read 126 = .ok (.goto (-19), 3) := by decide +kernel
theorem dX12_read_129 : decode cX12_read 129 = .ok (.aload_n 0, 1) := by decide +kernel
theorem dX12_read_130 : decode cX12_read 130 = .ok (.aload_n 0, 1) := by decide +kernel
theorem dX12_read_131 : decode cX12_read 131 = .ok (.getfield 203, 3) := by decide +kernel
theorem dX12_read_134 : decode cX12_read 134 = .ok (.ifCond .le 10, 3) := by decide +kernel
theorem dX12_read_137 : decode cX12_read 137 = .ok (.aload_n 0, 1) := by decide +kernel
theorem dX12_read_138 : decode cX12_read 138 = .ok (.getfield 209, 3) := by decide +kernel
theorem dX12_read_141 : decode cX12_read 141 = .ok (.goto 18, 3) := by decide +kernel
theorem dX12_read_144 : decode cX12_read 144 = .ok (.aload_n 0, 1) := by decide +kernel
theorem dX12_read_145 : decode cX12_read 145 = .ok (.getfield 212, 3) := by decide +kernel
theorem dX12_read_148 : decode cX12_read 148 = .ok (.ifCond .le 10, 3) := by decide +kernel
theorem dX12_read_151 : decode cX12_read 151 = .ok (.aload_n 0, 1) := by decide +kernel
theorem dX12_read_152 : decode cX12_read 152 = .ok (.getfield 215, 3) := by decide +kernel
theorem dX12_read_155 : decode cX12_read 155 = .ok (.goto 4, 3) := by decide +kernel
theorem dX12_read_158 : decode cX12_read 158 = .ok (.iconst (-1), 1) := by decide +kernel
theorem dX12_read_159 : decode cX12_read 159 = .ok (.putfield 37, 3) := by decide +kernel
theorem dX12_read_162 : decode cX12_read 162 = .ok (.aload_n 0, 1) := by decide +kernel
theorem dX12_read_163 : decode cX12_read 163 = .ok (.getfield 203, 3) := by decide +kernel
theorem dX12_read_166 : decode cX12_read 166 = .ok (.ifCond .le 8, 3) := by decide +kernel
theorem dX12_read_169 : decode cX12_read 169 = .ok (.aload_n 0, 1) := by decide +kernel
theorem dX12_read_170 : decode cX12_read 170 = .ok (.getfield 203, 3) := by decide +kernel
theorem dX12_read_173 : decode cX12_read 173 = .ok (.ireturn, 1) := by decide +kernel
theorem dX12_read_174 : decode cX12_read 174 = .ok (.aload_n 0, 1) := by decide +kernel
theorem dX12_read_175 : decode cX12_read 175 = .ok (.getfield 212, 3) := by decide +kernel
theorem dX12_read_178 : decode cX12_read 178 = .ok (.ifCond .le 8, 3) := by decide +kernel
theorem dX12_read_181 : decode cX12_read 181 = .ok (.aload_n 0, 1) := by decide +kernel
theorem dX12_read_182 : decode cX12_read 182 = .ok (.getfield 212, 3) := by decide +kernel
theorem dX12_read_185 : decode cX12_read 185 = .ok (.ireturn, 1) := by decide +kernel
theorem dX12_read_186 : decode cX12_read 186 = .ok (.aload_n 0, 1) := by decide +kernel
theorem dX12_read_187 : decode cX12_read 187 = .ok (.aload_n 0, 1) := by decide +kernel
theorem dX12_read_188 : decode cX12_read 188 = .ok (.getfield 236, 3) := by decide +kernel
theorem dX12_read_191 : decode cX12_read 191 = .ok (.putfield 233, 3) := by decide +kernel
theorem dX12_read_194 : decode cX12_read 194 = .ok (.aload_n 0, 1) := by decide +kernel
theorem dX12_read_195 : decode cX12_read 195 = .ok (.invokevirtual 160, 3) := by decide +kernel
theorem dX12_read_198 : decode cX12_read 198 = .ok (.aload_n 0, 1) := by decide +kernel
theorem dX12_read_199 : decode cX12_read 199 = .ok (.invokevirtual 163, 3) := by decide +kernel
theorem dX12_read_202 : decode cX12_read 202 = .ok (.aload_n 0, 1) := by decide +kernel
theorem dX12_read_203 : decode cX12_read 203 = .ok (.iconst 0, 1) := by decide +kernel
theorem dX12_read_204 : decode cX12_read 204 = .ok (.putfield 248, 3) := by decide +kernel
theorem dX12_read_207 : decode cX12_read 207 = .ok (.aload_n 0, 1) := by decide +kernel
theorem dX12_read_208 : decode cX12_read 208 = .ok (.iconst 0, 1) := by decide +kernel
theorem dX12_read_209 : decode cX12_read 209 = .ok (.putfield 251, 3) := by decide +kernel
theorem dX12_read_212 : decode cX12_read 212 = .ok (.iconst 0, 1) := by decide +kernel
theorem dX12_read_213 : decode cX12_read 213 = .ok (.istore_n 1, 1) := by decide +kernel
theorem dX12_read_214 : decode cX12_read 214 = .ok (.iload_n 1, 1) := by decide +kernel
theorem dX12_read_215 : decode cX12_read 215 = .ok (.iconst 3, 1) := by decide +kernel
theorem dX12_read_216 : decode cX12_read 216 = .ok (.if_icmp .ge 16, 3) := by decide +kernel
theorem dX12_read_219 : decode cX12_read 219 = .ok (.aload_n 0, 1) := by decide +kernel
theorem dX12_read_220 : decode cX12_read 220 = .ok (.getfield 146, 3) := by decide +kernel
theorem dX12_read_223 : decode cX12_read 223 = .ok (.iload_n 1, 1) := by decide +kernel
theorem dX12_read_224 : decode cX12_read 224 = .ok (.iconst 0, 1) := by decide +kernel
theorem dX12_read_225 : decode cX12_read 225 = .ok (.bastore, 1) := by decide +kernel
theorem dX12_read_226 : decode cX12_read 226 = .ok (.iinc 1 1, 3) := by decide +kernel
theorem dX12_read_229 : decode cX12_read 229 = .ok (.goto (-15), 3) := by decide +kernel
theorem dX12_read_232 : decode cX12_read 232 = .ok (.iconst 0, 1) := by decide +kernel
theorem dX12_read_233 : decode cX12_read 233 = .ok (.ireturn, 1) := by decide +kernel
theorem fl_X12_37 : fl RX12 37 12 17 := ⟨RX12, TX12, 64, rfl, iw_X12, by decide, lg_at 1211 (by decide +kernel) (by decide +kernel), rfl⟩
theorem fl_X12_43 : fl RX12 43 12 21 := ⟨RX12, TX12, 64, rfl, iw_X12, by decide, lg_at 1215 (by decide +kernel) (by decide +kernel), rfl⟩
theorem fl_X12_46 : fl RX12 46 12 22 := ⟨RX12, TX12, 64, rfl, iw_X12, by decide, lg_at 1216 (by decide +kernel) (by decide +kernel), rfl⟩
theorem fl_X12_52 : fl RX12 52 12 24 := ⟨RX12, TX12, 64, rfl, iw_X12, by decide, lg_at 1218 (by decide +kernel) (by decide +kernel), rfl⟩
theorem fl_X12_55 : fl RX12 55 12 25 := ⟨RX12, TX12, 64, rfl, iw_X12, by decide, lg_at 1219 (by decide +kernel) (by decide +kernel), rfl⟩
theorem fl_X12_79 : fl RX12 79 12 34 := ⟨RX12, TX12, 64, rfl, iw_X12, by decide, lg_at 1228 (by decide +kernel) (by decide +kernel), rfl⟩
theorem fl_X12_83 : fl RX12 83 12 35 := ⟨RX12, TX12, 64, rfl, iw_X12, by decide, lg_at 1229 (by decide +kernel) (by decide +kernel), rfl⟩
theorem fl_X12_86 : fl RX12 86 12 36 := ⟨RX12, TX12, 64, rfl, iw_X12, by decide, lg_at 1230 (by decide +kernel) (by decide +kernel), rfl⟩
theorem fl_X12_89 : fl RX12 89 12 37 := ⟨RX12, TX12, 64, rfl, iw_X12, by decide, lg_at 1231 (by decide +kernel) (by decide +kernel), rfl⟩
theorem fl_X12_92 : fl RX12 92 12 38 := ⟨RX12, TX12, 64, rfl, iw_X12, by decide, lg_at 1232 (by decide +kernel) (by decide +kernel), rfl⟩
theorem fl_X12_95 : fl RX12 95 12 40 := ⟨RX12, TX12, 64, rfl, iw_X12, by decide, lg_at 1234 (by decide +kernel) (by decide +kernel), rfl⟩
theorem fl_X12_98 : fl RX12 98 12 41 := ⟨RX12, TX12, 64, rfl, iw_X12, by decide, lg_at 1235 (by decide +kernel) (by decide +kernel), rfl⟩
theorem fl_X12_101 : fl RX12 101 12 42 := ⟨RX12, TX12, 64, rfl, iw_X12, by decide, lg_at 1236 (by decide +kernel) (by decide +kernel), rfl⟩
theorem fl_X12_110 : fl RX12 110 12 47 := ⟨RX12, TX12, 64, rfl, iw_X12, by decide, lg_at 1241 (by decide +kernel) (by decide +kernel), rfl⟩
theorem fl_X12_113 : fl RX12 113 12 48 := ⟨RX12, TX12, 64, rfl, iw_X12, by decide, lg_at 1242 (by decide +kernel) (by decide +kernel), rfl⟩
theorem fl_X12_146 : fl RX12 146 12 62 := ⟨RX12, TX12, 64, rfl, iw_X12, by decide, lg_at 1256 (by decide +kernel) (by decide +kernel), rfl⟩
theorem fl_X12_209 : fl RX12 209 12 14 := ⟨RX12, TX12, 64, rfl, iw_X12, by decide, lg_at 1208 (by decide +kernel) (by decide +kernel), rfl⟩
theorem fl_X12_230 : fl RX12 230 12 12 := ⟨RX12, TX12, 64, rfl, iw_X12, by decide, lg_at 1206 (by decide +kernel) (by decide +kernel), rfl⟩
theorem fl_X12_233 : fl RX12 233 12 18 := ⟨RX12, TX12, 64, rfl, iw_X12, by decide, lg_at 1212 (by decide +kernel) (by decide +kernel), rfl⟩
theorem fl_X12_236 : fl RX12 236 12 19 := ⟨RX12, TX12, 64, rfl, iw_X12, by decide, lg_at 1213 (by decide +kernel) (by decide +kernel), rfl⟩
theorem fl_X12_239 : fl RX12 239 12 33 := ⟨RX12, TX12, 64, rfl, iw_X12, by decide, lg_at 1227 (by decide +kernel) (by decide +kernel), rfl⟩
theorem fl_X12_242 : fl RX12 242 12 39 := ⟨RX12, TX12, 64, rfl, iw_X12, by decide, lg_at 1233 (by decide +kernel) (by decide +kernel), rfl⟩
theorem fl_X12_289 : fl RX12 289 12 43 := ⟨RX12, TX12, 64, rfl, iw_X12, by decide, lg_at 1237 (by decide +kernel) (by decide +kernel), rfl⟩
theorem fp_X12_37 : fp RX12 37 12 17 .int := ⟨RX12, TX12, 64, tyX12, rfl, iw_X12, by decide, lg_at 1211 (by decide +kernel) (by decide +kernel), rfl, tyX12_ok, nmX12, rfl, by decide +kernel⟩
theorem fp_X12_172 : fp RX12 172 12 4 .int := ⟨RX12, TX12, 64, tyX12, rfl, iw_X12, by decide, lg_at 1198 (by decide +kernel) (by decide +kernel), rfl, tyX12_ok, nmX12, rfl, by decide +kernel⟩
theorem fp_X12_230 : fp RX12 230 12 12 .int := ⟨RX12, TX12, 64, tyX12, rfl, iw_X12, by decide, lg_at 1206 (by decide +kernel) (by decide +kernel), rfl, tyX12_ok, nmX12, rfl, by decide +kernel⟩
theorem fp_X12_233 : fp RX12 233 12 18 .int := ⟨RX12, TX12, 64, tyX12, rfl, iw_X12, by decide, lg_at 1212 (by decide +kernel) (by decide +kernel), rfl, tyX12_ok, nmX12, rfl, by decide +kernel⟩
theorem fp_X12_236 : fp RX12 236 12 19 .int := ⟨RX12, TX12, 64, tyX12, rfl, iw_X12, by decide, lg_at 1213 (by decide +kernel) (by decide +kernel), rfl, tyX12_ok, nmX12, rfl, by decide +kernel⟩
theorem fp_X12_239 : fp RX12 239 12 33 .int := ⟨RX12, TX12, 64, tyX12, rfl, iw_X12, by decide, lg_at 1227 (by decide +kernel) (by decide +kernel), rfl, tyX12_ok, nmX12, rfl, by decide +kernel⟩
theorem fp_X12_242 : fp RX12 242 12 39 .int := ⟨RX12, TX12, 64, tyX12, rfl, iw_X12, by decide, lg_at 1233 (by decide +kernel) (by decide +kernel), rfl, tyX12_ok, nmX12, rfl, by decide +kernel⟩
theorem fp_X12_248 : fp RX12 248 12 50 .int := ⟨RX12, TX12, 64, tyX12, rfl, iw_X12, by decide, lg_at 1244 (by decide +kernel) (by decide +kernel), rfl, tyX12_ok, nmX12, rfl, by decide +kernel⟩
theorem fp_X12_251 : fp RX12 251 12 57 .int := ⟨RX12, TX12, 64, tyX12, rfl, iw_X12, by decide, lg_at 1251 (by decide +kernel) (by decide +kernel), rfl, tyX12_ok, nmX12, rfl, by decide +kernel⟩
theorem fp_X12_289 : fp RX12 289 12 43 .int := ⟨RX12, TX12, 64, tyX12, rfl, iw_X12, by decide, lg_at 1237 (by decide +kernel) (by decide +kernel), rfl, tyX12_ok, nmX12, rfl, by decide +kernel⟩
theorem fp_X12_314 : fp RX12 314 12 49 .int := ⟨RX12, TX12, 64, tyX12, rfl, iw_X12, by decide, lg_at 1243 (by decide +kernel) (by decide +kernel), rfl, tyX12_ok, nmX12, rfl, by decide +kernel⟩
theorem cV_X12_152 : cV RX12 152 yX12_plain cX12_plain 3 none 1 := ⟨⟨lg_at 1172 (by decide +kernel) (by decide +kernel), lg_at 1174 (by decide +kernel) (by decide +kernel), lg_sel 47 (by decide +kernel) (by decide +kernel), lg_at 15 (by decide +kernel) (by decide +kernel), lg_at 1175 (by decide +kernel) (by decide +kernel)⟩, by decide +kernel, by decide +kernel, by decide +kernel⟩
theorem cV_X12_160 : cV RX12 160 yX12_begins cX12_begins 2 none 0 := ⟨⟨lg_at 1183 (by decide +kernel) (by decide +kernel), lg_at 1185 (by decide +kernel) (by decide +kernel), lg_sel 48 (by decide +kernel) (by decide +kernel), lg_at 15 (by decide +kernel) (by decide +kernel), lg_at 1186 (by decide +kernel) (by decide +kernel)⟩, by decide +kernel, by decide +kernel, by decide +kernel⟩
theorem cV_X12_163 : cV RX12 163 yX12_keepsRow cX12_keepsRow 2 none 0 := ⟨⟨lg_at 1191 (by decide +kernel) (by decide +kernel), lg_at 1193 (by decide +kernel) (by decide +kernel), lg_sel 50 (by decide +kernel) (by decide +kernel), lg_at 15 (by decide +kernel) (by decide +kernel), lg_at 1194 (by decide +kernel) (by decide +kernel)⟩, by decide +kernel, by decide +kernel, by decide +kernel⟩
theorem cV_X12_227 : cV RX12 227 yX12_cut cX12_cut 8 none 0 := ⟨⟨lg_at 1403 (by decide +kernel) (by decide +kernel), lg_at 1405 (by decide +kernel) (by decide +kernel), lg_sel 52 (by decide +kernel) (by decide +kernel), lg_at 15 (by decide +kernel) (by decide +kernel), lg_at 1406 (by decide +kernel) (by decide +kernel)⟩, by decide +kernel, by decide +kernel, by decide +kernel⟩
theorem cV_X12_245 : cV RX12 245 yX12_tellOne cX12_tellOne 2 none 0 := ⟨⟨lg_at 1429 (by decide +kernel) (by decide +kernel), lg_at 1431 (by decide +kernel) (by decide +kernel), lg_sel 57 (by decide +kernel) (by decide +kernel), lg_at 15 (by decide +kernel) (by decide +kernel), lg_at 1432 (by decide +kernel) (by decide +kernel)⟩, by decide +kernel, by decide +kernel, by decide +kernel⟩
theorem cV_X12_254 : cV RX12 254 yX12_bounded cX12_bounded 4 (some .int) 2 := ⟨⟨lg_at 1445 (by decide +kernel) (by decide +kernel), lg_at 1447 (by decide +kernel) (by decide +kernel), lg_sel 61 (by decide +kernel) (by decide +kernel), lg_at 15 (by decide +kernel) (by decide +kernel), lg_at 1448 (by decide +kernel) (by decide +kernel)⟩, by decide +kernel, by decide +kernel, by decide +kernel⟩
theorem cV_X12_258 : cV RX12 258 yX12_must cX12_must 2 none 1 := ⟨⟨lg_at 1453 (by decide +kernel) (by decide +kernel), lg_at 1455 (by decide +kernel) (by decide +kernel), lg_sel 63 (by decide +kernel) (by decide +kernel), lg_at 15 (by decide +kernel) (by decide +kernel), lg_at 1456 (by decide +kernel) (by decide +kernel)⟩, by decide +kernel, by decide +kernel, by decide +kernel⟩
theorem cV_X12_261 : cV RX12 261 yX12_roomFor cX12_roomFor 3 none 2 := ⟨⟨lg_at 1433 (by decide +kernel) (by decide +kernel), lg_at 1435 (by decide +kernel) (by decide +kernel), lg_sel 58 (by decide +kernel) (by decide +kernel), lg_at 15 (by decide +kernel) (by decide +kernel), lg_at 1436 (by decide +kernel) (by decide +kernel)⟩, by decide +kernel, by decide +kernel, by decide +kernel⟩
theorem cV_X12_265 : cV RX12 265 yX12_tellFamily cX12_tellFamily 3 none 0 := ⟨⟨lg_at 1457 (by decide +kernel) (by decide +kernel), lg_at 1459 (by decide +kernel) (by decide +kernel), lg_sel 64 (by decide +kernel) (by decide +kernel), lg_at 15 (by decide +kernel) (by decide +kernel), lg_at 1460 (by decide +kernel) (by decide +kernel)⟩, by decide +kernel, by decide +kernel, by decide +kernel⟩
theorem cV_X12_268 : cV RX12 268 yX12_tellLease cX12_tellLease 5 none 0 := ⟨⟨lg_at 1465 (by decide +kernel) (by decide +kernel), lg_at 1467 (by decide +kernel) (by decide +kernel), lg_sel 66 (by decide +kernel) (by decide +kernel), lg_at 15 (by decide +kernel) (by decide +kernel), lg_at 1468 (by decide +kernel) (by decide +kernel)⟩, by decide +kernel, by decide +kernel, by decide +kernel⟩
theorem cV_X12_271 : cV RX12 271 yX12_toldInt cX12_toldInt 3 (some .int) 1 := ⟨⟨lg_at 1469 (by decide +kernel) (by decide +kernel), lg_at 1471 (by decide +kernel) (by decide +kernel), lg_sel 67 (by decide +kernel) (by decide +kernel), lg_at 15 (by decide +kernel) (by decide +kernel), lg_at 1472 (by decide +kernel) (by decide +kernel)⟩, by decide +kernel, by decide +kernel, by decide +kernel⟩
theorem cV_X12_274 : cV RX12 274 yX12_tellLaw cX12_tellLaw 4 none 1 := ⟨⟨lg_at 1473 (by decide +kernel) (by decide +kernel), lg_at 1475 (by decide +kernel) (by decide +kernel), lg_sel 68 (by decide +kernel) (by decide +kernel), lg_at 15 (by decide +kernel) (by decide +kernel), lg_at 1476 (by decide +kernel) (by decide +kernel)⟩, by decide +kernel, by decide +kernel, by decide +kernel⟩
theorem cV_X12_277 : cV RX12 277 yX12_wrong cX12_wrong 4 none 2 := ⟨⟨lg_at 1449 (by decide +kernel) (by decide +kernel), lg_at 1451 (by decide +kernel) (by decide +kernel), lg_sel 62 (by decide +kernel) (by decide +kernel), lg_at 15 (by decide +kernel) (by decide +kernel), lg_at 1452 (by decide +kernel) (by decide +kernel)⟩, by decide +kernel, by decide +kernel, by decide +kernel⟩
theorem cV_X12_280 : cV RX12 280 yX12_numberOf cX12_numberOf 3 (some .int) 1 := ⟨⟨lg_at 1461 (by decide +kernel) (by decide +kernel), lg_at 1463 (by decide +kernel) (by decide +kernel), lg_sel 65 (by decide +kernel) (by decide +kernel), lg_at 15 (by decide +kernel) (by decide +kernel), lg_at 1464 (by decide +kernel) (by decide +kernel)⟩, by decide +kernel, by decide +kernel, by decide +kernel⟩
theorem cV_X12_283 : cV RX12 283 yX12_expression cX12_expression 3 none 0 := ⟨⟨lg_at 1477 (by decide +kernel) (by decide +kernel), lg_at 1479 (by decide +kernel) (by decide +kernel), lg_sel 69 (by decide +kernel) (by decide +kernel), lg_at 15 (by decide +kernel) (by decide +kernel), lg_at 1480 (by decide +kernel) (by decide +kernel)⟩, by decide +kernel, by decide +kernel, by decide +kernel⟩
theorem cV_X12_286 : cV RX12 286 yX12_term cX12_term 1 none 0 := ⟨⟨lg_at 1493 (by decide +kernel) (by decide +kernel), lg_at 1495 (by decide +kernel) (by decide +kernel), lg_sel 73 (by decide +kernel) (by decide +kernel), lg_at 15 (by decide +kernel) (by decide +kernel), lg_at 1496 (by decide +kernel) (by decide +kernel)⟩, by decide +kernel, by decide +kernel, by decide +kernel⟩
theorem cV_X12_292 : cV RX12 292 yX12_emit cX12_emit 3 none 2 := ⟨⟨lg_at 1485 (by decide +kernel) (by decide +kernel), lg_at 1487 (by decide +kernel) (by decide +kernel), lg_sel 71 (by decide +kernel) (by decide +kernel), lg_at 15 (by decide +kernel) (by decide +kernel), lg_at 1488 (by decide +kernel) (by decide +kernel)⟩, by decide +kernel, by decide +kernel, by decide +kernel⟩
theorem cV_X12_295 : cV RX12 295 yX12_unit cX12_unit 1 none 0 := ⟨⟨lg_at 1481 (by decide +kernel) (by decide +kernel), lg_at 1483 (by decide +kernel) (by decide +kernel), lg_sel 70 (by decide +kernel) (by decide +kernel), lg_at 15 (by decide +kernel) (by decide +kernel), lg_at 1484 (by decide +kernel) (by decide +kernel)⟩, by decide +kernel, by decide +kernel, by decide +kernel⟩
theorem cV_X12_298 : cV RX12 298 yX12_comesOut cX12_comesOut 3 none 1 := ⟨⟨lg_at 1489 (by decide +kernel) (by decide +kernel), lg_at 1491 (by decide +kernel) (by decide +kernel), lg_sel 72 (by decide +kernel) (by decide +kernel), lg_at 15 (by decide +kernel) (by decide +kernel), lg_at 1492 (by decide +kernel) (by decide +kernel)⟩, by decide +kernel, by decide +kernel, by decide +kernel⟩
theorem cV_X12_306 : cV RX12 306 yX12_many cX12_many 1 (some .int) 0 := ⟨⟨lg_at 1187 (by decide +kernel) (by decide +kernel), lg_at 1189 (by decide +kernel) (by decide +kernel), lg_sel 49 (by decide +kernel) (by decide +kernel), lg_at 15 (by decide +kernel) (by decide +kernel), lg_at 1190 (by decide +kernel) (by decide +kernel)⟩, by decide +kernel, by decide +kernel, by decide +kernel⟩
section
variable {p : Program} {l : Launch} {e : Env} {s : State} {m : MethodId} {args : Array Value} {below : List Frame} {meth : Method} {c : Code} {D : va_G} {ad : Nat → Nat} {κ : KC}
-- X12_place
def FX12_place (σ : HS) : Option (Int32 × HS) :=
  some ((σ.1 0 17), σ)
set_option maxHeartbeats 4000000 in
set_option maxRecDepth 100000 in
theorem kX12_place (l : Launch) (D : va_G) (ad : Nat → Nat) (κ : KC) {σ : HS} {R : (Int32 × HS)} (h : FX12_place σ = some R) : MtI l 45 ceM D ad κ yX12_place cX12_place 1 (some .int) ({ frames := 0, cells := 0, slots := 0, locals := 0 } : Room) [.ref (ad 0)] σ R := by
  refine open_ (by decide) (Nat.le_of_ble_eq_true rfl) (la := [(0, .ref (ad 0))]) rfl ?_
  intro p e s m below meth c ls C hH hl
  replace C : Cx 45 D ad κ p s m _ meth c cX12_place RX12 1 (some .int) := C
  have hx := C.1
  have hb := C.2.1
  have hown := C.2.2.2.1
  have hts := C.2.2.2.2.1
  rw [FX12_place] at h
  refine lv_aload_n hx hb dX12_place_0 rfl (lv_at hl 0 rfl) ?_
  refine g_get C hH 0 (Nat.le_of_ble_eq_true rfl) rfl fl_X12_37 (v := .int (σ.1 0 17)) rfl dX12_place_1 ?_
  exact g_ret C hH h dX12_place_4
-- X12_roomFor
def FX12_roomFor_10  (x1 : Int32) (x2 : Int32) (σ : HS) : Option HS :=
  if (σ.1 0 13) = 0 then bdV (FX12_goesOn σ) fun σ_2 => some σ_2 else some σ
def FX12_roomFor (x1 : Int32) (x2 : Int32) (σ : HS) : Option HS :=
  if x1 = x2 then bdV (FX12_fail (2 : Int32) σ) fun σ_5 => FX12_roomFor_10 x1 x2 σ_5 else FX12_roomFor_10 x1 x2 σ
set_option maxHeartbeats 4000000 in
set_option maxRecDepth 100000 in
theorem wX12_roomFor_10 (C : Cx 45 D ad κ p s m args meth c cX12_roomFor RX12 3 none) {R : HS} : ∀ (x1 : Int32) (x2 : Int32) (σ : HS) (H : Heap) (locs : List Loc) (ls : Array Slot), FX12_roomFor_10  x1 x2 σ = some R → Hd 45 ceM D ad κ s σ H locs → lv_has ls 3 [(0, .ref (ad 0)), (1, .int x1), (2, .int x2)] → W p l e ({ frames := 2, cells := 0, slots := 0, locals := 41 } : Room) s m args below meth c H locs 0 0 (MQ below (QV 45 ceM D ad κ R) args s 0 0 (AX 45 ad)) (F0 m 10 ls []) := by
  have hx := C.1
  have hb := C.2.1
  have hown := C.2.2.2.1
  have hts := C.2.2.2.2.1
  intro x1 x2 σ H locs ls h hH hl
  rw [FX12_roomFor_10] at h
  refine lv_aload_n hx hb dX12_roomFor_10 rfl (lv_at hl 0 rfl) ?_
  refine g_get C hH 0 (Nat.le_of_ble_eq_true rfl) rfl fl_X12_203 (v := .int (σ.1 0 13)) rfl dX12_roomFor_11 ?_
  refine lv_if_ne (tgt := 21) hx hb dX12_roomFor_14 (by decide) (fun hq_1 => ?_) (fun hq_1 => ?_)
  · rw [if_neg hq_1] at h
    exact g_retV C hH h dX12_roomFor_21
  · rw [if_pos hq_1] at h
    refine lv_aload_n hx hb dX12_roomFor_17 rfl (lv_at hl 0 rfl) ?_
    obtain ⟨σ_2, hc_3, h⟩ := bdV_ex h
    refine g_cv (g_runV (rest := []) C hH hl.1 cV_X12_224 0 (Nat.le_of_ble_eq_true rfl) rfl rfl (kX12_goesOn l D ad κ hc_3) ⟨rfl, rfl⟩ ⟨(Nat.le_of_ble_eq_true rfl), (Nat.le_of_ble_eq_true rfl)⟩ rfl rfl (Nat.le_of_ble_eq_true rfl) dX12_roomFor_18 z00) hH (fun H locs hH => ?_)
    exact g_retV C hH h dX12_roomFor_21
set_option maxHeartbeats 4000000 in
set_option maxRecDepth 100000 in
theorem kX12_roomFor (l : Launch) (D : va_G) (ad : Nat → Nat) (κ : KC) {x1 : Int32} {x2 : Int32} {σ : HS} {R : HS} (h : FX12_roomFor x1 x2 σ = some R) : MtV l 45 ceM D ad κ yX12_roomFor cX12_roomFor 3 none ({ frames := 2, cells := 0, slots := 0, locals := 41 } : Room) [.ref (ad 0), .int x1, .int x2] σ R := by
  refine open_ (by decide) (Nat.le_of_ble_eq_true rfl) (la := [(0, .ref (ad 0)), (1, .int x1), (2, .int x2)]) rfl ?_
  intro p e s m below meth c ls C hH hl
  replace C : Cx 45 D ad κ p s m _ meth c cX12_roomFor RX12 3 none := C
  have hx := C.1
  have hb := C.2.1
  have hown := C.2.2.2.1
  have hts := C.2.2.2.2.1
  rw [FX12_roomFor] at h
  refine lv_iload_n hx hb dX12_roomFor_0 rfl (lv_at hl 1 rfl) ?_
  refine lv_iload_n hx hb dX12_roomFor_1 rfl (lv_at hl 2 rfl) ?_
  refine lv_icmp_ne (tgt := 10) hx hb dX12_roomFor_2 (by decide) (fun hq_4 => ?_) (fun hq_4 => ?_)
  · rw [if_neg hq_4] at h
    exact wX12_roomFor_10 C  _ _ _ _ _ _ h hH (lv_sub hl [0, 1, 2] rfl)
  · rw [if_pos hq_4] at h
    refine lv_aload_n hx hb dX12_roomFor_5 rfl (lv_at hl 0 rfl) ?_
    refine lv_iconst (v := 2) hx hb dX12_roomFor_6 (by decide) ?_
    obtain ⟨σ_5, hc_6, h⟩ := bdV_ex h
    refine g_cv (g_runV (rest := []) C hH hl.1 cV_X12_218 0 (Nat.le_of_ble_eq_true rfl) rfl rfl (kX12_fail l D ad κ hc_6) ⟨rfl, rfl⟩ ⟨(Nat.le_of_ble_eq_true rfl), (Nat.le_of_ble_eq_true rfl)⟩ rfl rfl (Nat.le_of_ble_eq_true rfl) dX12_roomFor_7 z00) hH (fun H locs hH => ?_)
    exact wX12_roomFor_10 C  _ _ _ _ _ _ h hH (lv_sub hl [0, 1, 2] rfl)
-- X12_bounded
def FX12_bounded_15  (x1 : Int32) (x2 : Int32) (σ : HS) : Option (Int32 × HS) :=
  bdV (FX12_fail (1 : Int32) σ) fun σ_1 => some (x1, σ_1)
def FX12_bounded_51  (x1 : Int32) (x2 : Int32) (x3 : Int32) (σ : HS) : Option (Int32 × HS) :=
  bdV (FX12_goesOn σ) fun σ_3 => some (x3, σ_3)
def FX12_bounded_42  (x1 : Int32) (x2 : Int32) (x3 : Int32) (σ : HS) : Option (Int32 × HS) :=
  bdV (FX12_wrong (5 : Int32) (σ.1 0 11) σ) fun σ_5 => FX12_bounded_51 x1 x2 x3 σ_5
def FX12_bounded (x1 : Int32) (x2 : Int32) (σ : HS) : Option (Int32 × HS) :=
  if 0 < (σ.1 0 13) then FX12_bounded_15 x1 x2 σ else bdI (FX12_is (2 : Int32) σ) fun r_8 σ_9 => if r_8 = 0 then FX12_bounded_15 x1 x2 σ_9 else gd (ix (σ_9.1 0 11) 403) (hl_ (σ_9.1 5 ((σ_9.1 0 11).toNatClampNeg)) fun x3_13 => if x3_13 < x1 then FX12_bounded_42 x1 x2 x3_13 σ_9 else if x3_13 ≤ x2 then FX12_bounded_51 x1 x2 x3_13 σ_9 else FX12_bounded_42 x1 x2 x3_13 σ_9)
set_option maxHeartbeats 4000000 in
set_option maxRecDepth 100000 in
theorem wX12_bounded_15 (C : Cx 45 D ad κ p s m args meth c cX12_bounded RX12 4 (some .int)) {R : (Int32 × HS)} : ∀ (x1 : Int32) (x2 : Int32) (σ : HS) (H : Heap) (locs : List Loc) (ls : Array Slot), FX12_bounded_15  x1 x2 σ = some R → Hd 45 ceM D ad κ s σ H locs → lv_has ls 4 [(0, .ref (ad 0)), (1, .int x1), (2, .int x2)] → W p l e ({ frames := 2, cells := 0, slots := 0, locals := 41 } : Room) s m args below meth c H locs 0 0 (MQ below (QI 45 ceM D ad κ R) args s 0 0 (AX 45 ad)) (F0 m 15 ls []) := by
  have hx := C.1
  have hb := C.2.1
  have hown := C.2.2.2.1
  have hts := C.2.2.2.2.1
  intro x1 x2 σ H locs ls h hH hl
  rw [FX12_bounded_15] at h
  refine lv_aload_n hx hb dX12_bounded_15 rfl (lv_at hl 0 rfl) ?_
  refine lv_iconst (v := 1) hx hb dX12_bounded_16 (by decide) ?_
  obtain ⟨σ_1, hc_2, h⟩ := bdV_ex h
  refine g_cv (g_runV (rest := []) C hH hl.1 cV_X12_218 0 (Nat.le_of_ble_eq_true rfl) rfl rfl (kX12_fail l D ad κ hc_2) ⟨rfl, rfl⟩ ⟨(Nat.le_of_ble_eq_true rfl), (Nat.le_of_ble_eq_true rfl)⟩ rfl rfl (Nat.le_of_ble_eq_true rfl) dX12_bounded_17 z00) hH (fun H locs hH => ?_)
  refine lv_iload_n hx hb dX12_bounded_20 rfl (lv_at hl 1 rfl) ?_
  exact g_ret C hH h dX12_bounded_21
set_option maxHeartbeats 4000000 in
set_option maxRecDepth 100000 in
theorem wX12_bounded_51 (C : Cx 45 D ad κ p s m args meth c cX12_bounded RX12 4 (some .int)) {R : (Int32 × HS)} : ∀ (x1 : Int32) (x2 : Int32) (x3 : Int32) (σ : HS) (H : Heap) (locs : List Loc) (ls : Array Slot), FX12_bounded_51  x1 x2 x3 σ = some R → Hd 45 ceM D ad κ s σ H locs → lv_has ls 4 [(0, .ref (ad 0)), (1, .int x1), (2, .int x2), (3, .int x3)] → W p l e ({ frames := 2, cells := 0, slots := 0, locals := 41 } : Room) s m args below meth c H locs 0 0 (MQ below (QI 45 ceM D ad κ R) args s 0 0 (AX 45 ad)) (F0 m 51 ls []) := by
  have hx := C.1
  have hb := C.2.1
  have hown := C.2.2.2.1
  have hts := C.2.2.2.2.1
  intro x1 x2 x3 σ H locs ls h hH hl
  rw [FX12_bounded_51] at h
  refine lv_aload_n hx hb dX12_bounded_51 rfl (lv_at hl 0 rfl) ?_
  obtain ⟨σ_3, hc_4, h⟩ := bdV_ex h
  refine g_cv (g_runV (rest := []) C hH hl.1 cV_X12_224 0 (Nat.le_of_ble_eq_true rfl) rfl rfl (kX12_goesOn l D ad κ hc_4) ⟨rfl, rfl⟩ ⟨(Nat.le_of_ble_eq_true rfl), (Nat.le_of_ble_eq_true rfl)⟩ rfl rfl (Nat.le_of_ble_eq_true rfl) dX12_bounded_52 z00) hH (fun H locs hH => ?_)
  refine lv_iload_n hx hb dX12_bounded_55 rfl (lv_at hl 3 rfl) ?_
  exact g_ret C hH h dX12_bounded_56
set_option maxHeartbeats 4000000 in
set_option maxRecDepth 100000 in
theorem wX12_bounded_42 (C : Cx 45 D ad κ p s m args meth c cX12_bounded RX12 4 (some .int)) {R : (Int32 × HS)} : ∀ (x1 : Int32) (x2 : Int32) (x3 : Int32) (σ : HS) (H : Heap) (locs : List Loc) (ls : Array Slot), FX12_bounded_42  x1 x2 x3 σ = some R → Hd 45 ceM D ad κ s σ H locs → lv_has ls 4 [(0, .ref (ad 0)), (1, .int x1), (2, .int x2), (3, .int x3)] → W p l e ({ frames := 2, cells := 0, slots := 0, locals := 41 } : Room) s m args below meth c H locs 0 0 (MQ below (QI 45 ceM D ad κ R) args s 0 0 (AX 45 ad)) (F0 m 42 ls []) := by
  have hx := C.1
  have hb := C.2.1
  have hown := C.2.2.2.1
  have hts := C.2.2.2.2.1
  intro x1 x2 x3 σ H locs ls h hH hl
  rw [FX12_bounded_42] at h
  refine lv_aload_n hx hb dX12_bounded_42 rfl (lv_at hl 0 rfl) ?_
  refine lv_iconst (v := 5) hx hb dX12_bounded_43 (by decide) ?_
  refine lv_aload_n hx hb dX12_bounded_44 rfl (lv_at hl 0 rfl) ?_
  refine g_get C hH 0 (Nat.le_of_ble_eq_true rfl) rfl fl_X12_206 (v := .int (σ.1 0 11)) rfl dX12_bounded_45 ?_
  obtain ⟨σ_5, hc_6, h⟩ := bdV_ex h
  refine g_cv (g_runV (rest := []) C hH hl.1 cV_X12_277 0 (Nat.le_of_ble_eq_true rfl) rfl rfl (kX12_wrong l D ad κ hc_6) ⟨rfl, rfl⟩ ⟨(Nat.le_of_ble_eq_true rfl), (Nat.le_of_ble_eq_true rfl)⟩ rfl rfl (Nat.le_of_ble_eq_true rfl) dX12_bounded_48 z00) hH (fun H locs hH => ?_)
  exact wX12_bounded_51 C  _ _ _ _ _ _ _ h hH (lv_sub hl [0, 1, 2, 3] rfl)
set_option maxHeartbeats 4000000 in
set_option maxRecDepth 100000 in
theorem kX12_bounded (l : Launch) (D : va_G) (ad : Nat → Nat) (κ : KC) {x1 : Int32} {x2 : Int32} {σ : HS} {R : (Int32 × HS)} (h : FX12_bounded x1 x2 σ = some R) : MtI l 45 ceM D ad κ yX12_bounded cX12_bounded 4 (some .int) ({ frames := 2, cells := 0, slots := 0, locals := 41 } : Room) [.ref (ad 0), .int x1, .int x2] σ R := by
  refine open_ (by decide) (Nat.le_of_ble_eq_true rfl) (la := [(0, .ref (ad 0)), (1, .int x1), (2, .int x2)]) rfl ?_
  intro p e s m below meth c ls C hH hl
  replace C : Cx 45 D ad κ p s m _ meth c cX12_bounded RX12 4 (some .int) := C
  have hx := C.1
  have hb := C.2.1
  have hown := C.2.2.2.1
  have hts := C.2.2.2.2.1
  rw [FX12_bounded] at h
  refine lv_aload_n hx hb dX12_bounded_0 rfl (lv_at hl 0 rfl) ?_
  refine g_get C hH 0 (Nat.le_of_ble_eq_true rfl) rfl fl_X12_203 (v := .int (σ.1 0 13)) rfl dX12_bounded_1 ?_
  refine lv_if_gt (tgt := 15) hx hb dX12_bounded_4 (by decide) (fun hq_7 => ?_) (fun hq_7 => ?_)
  · rw [if_pos hq_7] at h
    exact wX12_bounded_15 C  _ _ _ _ _ _ h hH (lv_sub hl [0, 1, 2] rfl)
  · rw [if_neg hq_7] at h
    refine lv_aload_n hx hb dX12_bounded_7 rfl (lv_at hl 0 rfl) ?_
    refine lv_iconst (v := 2) hx hb dX12_bounded_8 (by decide) ?_
    obtain ⟨r_8, σ_9, hc_10, h⟩ := bdI_ex h
    refine g_ci (g_runV (rest := []) C hH hl.1 cV_X12_221 0 (Nat.le_of_ble_eq_true rfl) rfl rfl (kX12_is l D ad κ hc_10) ⟨rfl, rfl⟩ ⟨(Nat.le_of_ble_eq_true rfl), (Nat.le_of_ble_eq_true rfl)⟩ rfl rfl (Nat.le_of_ble_eq_true rfl) dX12_bounded_9 z00) hH (fun H locs hH => ?_)
    refine lv_if_ne (tgt := 22) hx hb dX12_bounded_12 (by decide) (fun hq_11 => ?_) (fun hq_11 => ?_)
    · rw [if_neg hq_11] at h
      refine lv_aload_n hx hb dX12_bounded_22 rfl (lv_at hl 0 rfl) ?_
      refine g_get C hH 0 (Nat.le_of_ble_eq_true rfl) rfl fl_X12_27 (v := .ref (ad 5)) rfl dX12_bounded_23 ?_
      refine lv_aload_n hx hb dX12_bounded_26 rfl (lv_at hl 0 rfl) ?_
      refine g_get C hH 0 (Nat.le_of_ble_eq_true rfl) rfl fl_X12_206 (v := .int (σ_9.1 0 11)) rfl dX12_bounded_27 ?_
      obtain ⟨hi_12, h⟩ := gd_ex h
      refine g_iald C hH 5 (Nat.le_of_ble_eq_true rfl) rfl (k := ((σ_9.1 0 11).toNatClampNeg)) rfl (ix_in hi_12) dX12_bounded_30 ?_
      obtain ⟨x3_13, ex3_13, h⟩ := hl_ex h
      refine lv_eqi ex3_13 ?_
      refine lv_istore_n (lv' := [(3, .int x3_13), (0, .ref (ad 0)), (1, .int x1), (2, .int x2)]) hx hb dX12_bounded_31 rfl hl (by decide) rfl (fun ls hl => ?_)
      refine lv_iload_n hx hb dX12_bounded_32 rfl (lv_at hl 0 rfl) ?_
      refine lv_iload_n hx hb dX12_bounded_33 rfl (lv_at hl 2 rfl) ?_
      refine lv_icmp_lt (tgt := 42) hx hb dX12_bounded_34 (by decide) (fun hq_14 => ?_) (fun hq_14 => ?_)
      · rw [if_pos hq_14] at h
        exact wX12_bounded_42 C  _ _ _ _ _ _ _ h hH (lv_sub hl [1, 2, 3, 0] rfl)
      · rw [if_neg hq_14] at h
        refine lv_iload_n hx hb dX12_bounded_37 rfl (lv_at hl 0 rfl) ?_
        refine lv_iload_n hx hb dX12_bounded_38 rfl (lv_at hl 3 rfl) ?_
        refine lv_icmp_le (tgt := 51) hx hb dX12_bounded_39 (by decide) (fun hq_15 => ?_) (fun hq_15 => ?_)
        · rw [if_pos hq_15] at h
          exact wX12_bounded_51 C  _ _ _ _ _ _ _ h hH (lv_sub hl [1, 2, 3, 0] rfl)
        · rw [if_neg hq_15] at h
          exact wX12_bounded_42 C  _ _ _ _ _ _ _ h hH (lv_sub hl [1, 2, 3, 0] rfl)
    · rw [if_pos hq_11] at h
      exact wX12_bounded_15 C  _ _ _ _ _ _ h hH (lv_sub hl [0, 1, 2] rfl)
-- X12_numberOf
def FX12_numberOf_2  : Nat → Int32 → Int32 → HS → Option (Int32 × HS)
  | 0, _, _, _ => none
  | f + 1, x1, x2, σ => gd (ix (σ.1 0 19) 2) (if (σ.1 11 ((σ.1 0 19).toNatClampNeg)) ≤ x2 then some ((-1 : Int32), σ) else gd (ix x2 5) (gd (ix x1 403) (if (lg_cmp (σ.2 10 (x2.toNatClampNeg)) (σ.2 6 (x1.toNatClampNeg))) = 0 then some (x2, σ) else FX12_numberOf_2  f x1 (x2 + 1) σ)))
def FX12_numberOf (x1 : Int32) (σ : HS) : Option (Int32 × HS) :=
  FX12_numberOf_2 fu x1 (0 : Int32) σ
set_option maxHeartbeats 4000000 in
set_option maxRecDepth 100000 in
theorem wX12_numberOf_2 (C : Cx 45 D ad κ p s m args meth c cX12_numberOf RX12 3 (some .int)) {R : (Int32 × HS)} : ∀ (f : Nat) (x1 : Int32) (x2 : Int32) (σ : HS) (H : Heap) (locs : List Loc) (ls : Array Slot), FX12_numberOf_2  f x1 x2 σ = some R → Hd 45 ceM D ad κ s σ H locs → lv_has ls 3 [(0, .ref (ad 0)), (1, .int x1), (2, .int x2)] → W p l e ({ frames := 0, cells := 0, slots := 0, locals := 0 } : Room) s m args below meth c H locs 0 0 (MQ below (QI 45 ceM D ad κ R) args s 0 0 (AX 45 ad)) (F0 m 2 ls []) := by
  have hx := C.1
  have hb := C.2.1
  have hown := C.2.2.2.1
  have hts := C.2.2.2.2.1
  intro f
  induction f with
  | zero =>
    intro x1 x2 σ H locs ls h hH hl
    cases h
  | succ f ih =>
    intro x1 x2 σ H locs ls h hH hl
    rw [FX12_numberOf_2] at h
    refine lv_iload_n hx hb dX12_numberOf_2 rfl (lv_at hl 2 rfl) ?_
    refine lv_aload_n hx hb dX12_numberOf_3 rfl (lv_at hl 0 rfl) ?_
    refine g_get C hH 0 (Nat.le_of_ble_eq_true rfl) rfl fl_X12_49 (v := .ref (ad 11)) rfl dX12_numberOf_4 ?_
    refine lv_aload_n hx hb dX12_numberOf_7 rfl (lv_at hl 0 rfl) ?_
    refine g_get C hH 0 (Nat.le_of_ble_eq_true rfl) rfl fl_X12_236 (v := .int (σ.1 0 19)) rfl dX12_numberOf_8 ?_
    obtain ⟨hi_1, h⟩ := gd_ex h
    refine g_iald C hH 11 (Nat.le_of_ble_eq_true rfl) rfl (k := ((σ.1 0 19).toNatClampNeg)) rfl (ix_in hi_1) dX12_numberOf_11 ?_
    refine lv_icmp_ge (tgt := 39) hx hb dX12_numberOf_12 (by decide) (fun hq_2 => ?_) (fun hq_2 => ?_)
    · rw [if_pos hq_2] at h
      refine lv_iconst (v := (-1)) hx hb dX12_numberOf_39 (by decide) ?_
      exact g_ret C hH h dX12_numberOf_40
    · rw [if_neg hq_2] at h
      refine lv_aload_n hx hb dX12_numberOf_15 rfl (lv_at hl 0 rfl) ?_
      refine g_get C hH 0 (Nat.le_of_ble_eq_true rfl) rfl fl_X12_46 (v := .ref (ad 10)) rfl dX12_numberOf_16 ?_
      refine lv_iload_n hx hb dX12_numberOf_19 rfl (lv_at hl 2 rfl) ?_
      obtain ⟨hi_3, h⟩ := gd_ex h
      refine g_lald C hH 10 (Nat.le_of_ble_eq_true rfl) rfl (k := (x2.toNatClampNeg)) rfl (ix_in hi_3) dX12_numberOf_20 ?_
      refine lv_aload_n hx hb dX12_numberOf_21 rfl (lv_at hl 0 rfl) ?_
      refine g_get C hH 0 (Nat.le_of_ble_eq_true rfl) rfl fl_X12_30 (v := .ref (ad 6)) rfl dX12_numberOf_22 ?_
      refine lv_iload_n hx hb dX12_numberOf_25 rfl (lv_at hl 1 rfl) ?_
      obtain ⟨hi_4, h⟩ := gd_ex h
      refine g_lald C hH 6 (Nat.le_of_ble_eq_true rfl) rfl (k := (x1.toNatClampNeg)) rfl (ix_in hi_4) dX12_numberOf_26 ?_
      refine W.lcmp hx hb dX12_numberOf_27 ?_
      refine lv_if_ne (tgt := 33) hx hb dX12_numberOf_28 (by decide) (fun hq_5 => ?_) (fun hq_5 => ?_)
      · rw [if_neg hq_5] at h
        refine lv_iinc (v := (x2 + 1)) (lv' := [(2, .int (x2 + 1)), (0, .ref (ad 0)), (1, .int x1)]) hx hb dX12_numberOf_33 hl (k := 2) rfl rfl (by decide) rfl (fun ls hl => ?_)
        refine lv_goto (tgt := 2) hx hb dX12_numberOf_36 (by decide) ?_
        exact ih _ _ _ _ _ _ h hH (lv_sub hl [1, 2, 0] rfl)
      · rw [if_pos hq_5] at h
        refine lv_iload_n hx hb dX12_numberOf_31 rfl (lv_at hl 2 rfl) ?_
        exact g_ret C hH h dX12_numberOf_32
set_option maxHeartbeats 4000000 in
set_option maxRecDepth 100000 in
theorem kX12_numberOf (l : Launch) (D : va_G) (ad : Nat → Nat) (κ : KC) {x1 : Int32} {σ : HS} {R : (Int32 × HS)} (h : FX12_numberOf x1 σ = some R) : MtI l 45 ceM D ad κ yX12_numberOf cX12_numberOf 3 (some .int) ({ frames := 0, cells := 0, slots := 0, locals := 0 } : Room) [.ref (ad 0), .int x1] σ R := by
  refine open_ (by decide) (Nat.le_of_ble_eq_true rfl) (la := [(0, .ref (ad 0)), (1, .int x1)]) rfl ?_
  intro p e s m below meth c ls C hH hl
  replace C : Cx 45 D ad κ p s m _ meth c cX12_numberOf RX12 3 (some .int) := C
  have hx := C.1
  have hb := C.2.1
  have hown := C.2.2.2.1
  have hts := C.2.2.2.2.1
  rw [FX12_numberOf] at h
  refine lv_iconst (v := 0) hx hb dX12_numberOf_0 (by decide) ?_
  refine lv_istore_n (lv' := [(2, .int (0 : Int32)), (0, .ref (ad 0)), (1, .int x1)]) hx hb dX12_numberOf_1 rfl hl (by decide) rfl (fun ls hl => ?_)
  exact wX12_numberOf_2 C _ _ _ _ _ _ _ h hH (lv_sub hl [1, 2, 0] rfl)
-- X12_tellFamily
def FX12_tellFamily_48  (x1 : Int32) (x2 : Int32) (σ : HS) : Option HS :=
  bdI (FX12_bounded (0 : Int32) (9 : Int32) σ) fun r_1 σ_2 => gd (ix x1 10) (hl_ (pI σ_2 12 (x1.toNatClampNeg) r_1) fun σ_5 => bdI (FX12_bounded (0 : Int32) (5 : Int32) σ_5) fun r_6 σ_7 => gd (ix x1 10) (hl_ (pI σ_7 13 (x1.toNatClampNeg) r_6) fun σ_10 => bdV (FX12_must (4 : Int32) σ_10) fun σ_11 => if (σ_11.1 0 13) ≤ 0 then gd (ix (σ_11.1 0 19) 2) (gd (ix x2 403) (gd (ix (σ_11.1 11 ((σ_11.1 0 19).toNatClampNeg)) 5) (hl_ (pL σ_11 10 ((σ_11.1 11 ((σ_11.1 0 19).toNatClampNeg)).toNatClampNeg) (σ_11.2 6 (x2.toNatClampNeg))) fun σ_17 => gd (ix (σ_17.1 0 19) 2) (gd (ix (σ_17.1 0 19) 2) (hl_ (pI σ_17 11 ((σ_17.1 0 19).toNatClampNeg) ((σ_17.1 11 ((σ_17.1 0 19).toNatClampNeg)) + (1 : Int32))) fun σ_20 => some σ_20))))) else some σ_11))
def FX12_tellFamily (σ : HS) : Option HS :=
  gd (ix (σ.1 0 19) 2) (hl_ (((5 : Int32) * (σ.1 0 19)) + (σ.1 11 ((σ.1 0 19).toNatClampNeg))) fun x1_22 => hl_ (σ.1 0 11) fun x2_23 => bdV (FX12_must (1 : Int32) σ) fun σ_24 => if (σ_24.1 0 13) = 0 then bdI (FX12_numberOf x2_23 σ_24) fun r_27 σ_28 => if r_27 < 0 then FX12_tellFamily_48 x1_22 x2_23 σ_28 else bdV (FX12_wrong (3 : Int32) x2_23 σ_28) fun σ_31 => FX12_tellFamily_48 x1_22 x2_23 σ_31 else FX12_tellFamily_48 x1_22 x2_23 σ_24)
set_option maxHeartbeats 4000000 in
set_option maxRecDepth 100000 in
theorem wX12_tellFamily_48 (C : Cx 45 D ad κ p s m args meth c cX12_tellFamily RX12 3 none) {R : HS} : ∀ (x1 : Int32) (x2 : Int32) (σ : HS) (H : Heap) (locs : List Loc) (ls : Array Slot), FX12_tellFamily_48  x1 x2 σ = some R → Hd 45 ceM D ad κ s σ H locs → lv_has ls 3 [(0, .ref (ad 0)), (1, .int x1), (2, .int x2)] → W p l e ({ frames := 3, cells := 0, slots := 0, locals := 64 } : Room) s m args below meth c H locs 0 0 (MQ below (QV 45 ceM D ad κ R) args s 0 0 (AX 45 ad)) (F0 m 48 ls []) := by
  have hx := C.1
  have hb := C.2.1
  have hown := C.2.2.2.1
  have hts := C.2.2.2.2.1
  intro x1 x2 σ H locs ls h hH hl
  rw [FX12_tellFamily_48] at h
  refine lv_aload_n hx hb dX12_tellFamily_48 rfl (lv_at hl 0 rfl) ?_
  refine g_get C hH 0 (Nat.le_of_ble_eq_true rfl) rfl fl_X12_52 (v := .ref (ad 12)) rfl dX12_tellFamily_49 ?_
  refine lv_iload_n hx hb dX12_tellFamily_52 rfl (lv_at hl 1 rfl) ?_
  refine lv_aload_n hx hb dX12_tellFamily_53 rfl (lv_at hl 0 rfl) ?_
  refine lv_iconst (v := 0) hx hb dX12_tellFamily_54 (by decide) ?_
  refine lv_bipush (v := 9) hx hb dX12_tellFamily_55 (by decide) ?_
  obtain ⟨r_1, σ_2, hc_3, h⟩ := bdI_ex h
  refine g_ci (g_runV (rest := [.int x1, .ref (ad 12)]) C hH hl.1 cV_X12_254 0 (Nat.le_of_ble_eq_true rfl) rfl rfl (kX12_bounded l D ad κ hc_3) ⟨rfl, rfl⟩ ⟨(Nat.le_of_ble_eq_true rfl), (Nat.le_of_ble_eq_true rfl)⟩ rfl rfl (Nat.le_of_ble_eq_true rfl) dX12_tellFamily_57 z00) hH (fun H locs hH => ?_)
  obtain ⟨hi_4, h⟩ := gd_ex h
  obtain ⟨σ_5, eσ_5, h⟩ := hl_ex h
  refine g_iast C hH 12 (Nat.le_of_ble_eq_true rfl) (fun _ _ => rfl) (k := (x1.toNatClampNeg)) rfl (ix_in hi_4) dX12_tellFamily_60 (fun H locs hH => ?_)
  rw [← eσ_5] at hH
  refine lv_aload_n hx hb dX12_tellFamily_61 rfl (lv_at hl 0 rfl) ?_
  refine g_get C hH 0 (Nat.le_of_ble_eq_true rfl) rfl fl_X12_55 (v := .ref (ad 13)) rfl dX12_tellFamily_62 ?_
  refine lv_iload_n hx hb dX12_tellFamily_65 rfl (lv_at hl 1 rfl) ?_
  refine lv_aload_n hx hb dX12_tellFamily_66 rfl (lv_at hl 0 rfl) ?_
  refine lv_iconst (v := 0) hx hb dX12_tellFamily_67 (by decide) ?_
  refine lv_iconst (v := 5) hx hb dX12_tellFamily_68 (by decide) ?_
  obtain ⟨r_6, σ_7, hc_8, h⟩ := bdI_ex h
  refine g_ci (g_runV (rest := [.int x1, .ref (ad 13)]) C hH hl.1 cV_X12_254 0 (Nat.le_of_ble_eq_true rfl) rfl rfl (kX12_bounded l D ad κ hc_8) ⟨rfl, rfl⟩ ⟨(Nat.le_of_ble_eq_true rfl), (Nat.le_of_ble_eq_true rfl)⟩ rfl rfl (Nat.le_of_ble_eq_true rfl) dX12_tellFamily_69 z00) hH (fun H locs hH => ?_)
  obtain ⟨hi_9, h⟩ := gd_ex h
  obtain ⟨σ_10, eσ_10, h⟩ := hl_ex h
  refine g_iast C hH 13 (Nat.le_of_ble_eq_true rfl) (fun _ _ => rfl) (k := (x1.toNatClampNeg)) rfl (ix_in hi_9) dX12_tellFamily_72 (fun H locs hH => ?_)
  rw [← eσ_10] at hH
  refine lv_aload_n hx hb dX12_tellFamily_73 rfl (lv_at hl 0 rfl) ?_
  refine lv_iconst (v := 4) hx hb dX12_tellFamily_74 (by decide) ?_
  obtain ⟨σ_11, hc_12, h⟩ := bdV_ex h
  refine g_cv (g_runV (rest := []) C hH hl.1 cV_X12_258 0 (Nat.le_of_ble_eq_true rfl) rfl rfl (kX12_must l D ad κ hc_12) ⟨rfl, rfl⟩ ⟨(Nat.le_of_ble_eq_true rfl), (Nat.le_of_ble_eq_true rfl)⟩ rfl rfl (Nat.le_of_ble_eq_true rfl) dX12_tellFamily_75 z00) hH (fun H locs hH => ?_)
  refine lv_aload_n hx hb dX12_tellFamily_78 rfl (lv_at hl 0 rfl) ?_
  refine g_get C hH 0 (Nat.le_of_ble_eq_true rfl) rfl fl_X12_203 (v := .int (σ_11.1 0 13)) rfl dX12_tellFamily_79 ?_
  refine lv_if_le (tgt := 86) hx hb dX12_tellFamily_82 (by decide) (fun hq_13 => ?_) (fun hq_13 => ?_)
  · rw [if_pos hq_13] at h
    refine lv_aload_n hx hb dX12_tellFamily_86 rfl (lv_at hl 0 rfl) ?_
    refine g_get C hH 0 (Nat.le_of_ble_eq_true rfl) rfl fl_X12_46 (v := .ref (ad 10)) rfl dX12_tellFamily_87 ?_
    refine lv_aload_n hx hb dX12_tellFamily_90 rfl (lv_at hl 0 rfl) ?_
    refine g_get C hH 0 (Nat.le_of_ble_eq_true rfl) rfl fl_X12_49 (v := .ref (ad 11)) rfl dX12_tellFamily_91 ?_
    refine lv_aload_n hx hb dX12_tellFamily_94 rfl (lv_at hl 0 rfl) ?_
    refine g_get C hH 0 (Nat.le_of_ble_eq_true rfl) rfl fl_X12_236 (v := .int (σ_11.1 0 19)) rfl dX12_tellFamily_95 ?_
    obtain ⟨hi_14, h⟩ := gd_ex h
    refine g_iald C hH 11 (Nat.le_of_ble_eq_true rfl) rfl (k := ((σ_11.1 0 19).toNatClampNeg)) rfl (ix_in hi_14) dX12_tellFamily_98 ?_
    refine lv_aload_n hx hb dX12_tellFamily_99 rfl (lv_at hl 0 rfl) ?_
    refine g_get C hH 0 (Nat.le_of_ble_eq_true rfl) rfl fl_X12_30 (v := .ref (ad 6)) rfl dX12_tellFamily_100 ?_
    refine lv_iload_n hx hb dX12_tellFamily_103 rfl (lv_at hl 2 rfl) ?_
    obtain ⟨hi_15, h⟩ := gd_ex h
    refine g_lald C hH 6 (Nat.le_of_ble_eq_true rfl) rfl (k := (x2.toNatClampNeg)) rfl (ix_in hi_15) dX12_tellFamily_104 ?_
    obtain ⟨hi_16, h⟩ := gd_ex h
    obtain ⟨σ_17, eσ_17, h⟩ := hl_ex h
    refine g_last C hH 10 (Nat.le_of_ble_eq_true rfl) (fun _ _ => rfl) (k := ((σ_11.1 11 ((σ_11.1 0 19).toNatClampNeg)).toNatClampNeg)) rfl (ix_in hi_16) dX12_tellFamily_105 (fun H locs hH => ?_)
    rw [← eσ_17] at hH
    refine lv_aload_n hx hb dX12_tellFamily_106 rfl (lv_at hl 0 rfl) ?_
    refine g_get C hH 0 (Nat.le_of_ble_eq_true rfl) rfl fl_X12_49 (v := .ref (ad 11)) rfl dX12_tellFamily_107 ?_
    refine lv_aload_n hx hb dX12_tellFamily_110 rfl (lv_at hl 0 rfl) ?_
    refine g_get C hH 0 (Nat.le_of_ble_eq_true rfl) rfl fl_X12_236 (v := .int (σ_17.1 0 19)) rfl dX12_tellFamily_111 ?_
    refine lv_dup2_11 hx hb dX12_tellFamily_114 rfl rfl ?_
    obtain ⟨hi_18, h⟩ := gd_ex h
    refine g_iald C hH 11 (Nat.le_of_ble_eq_true rfl) rfl (k := ((σ_17.1 0 19).toNatClampNeg)) rfl (ix_in hi_18) dX12_tellFamily_115 ?_
    refine lv_iconst (v := 1) hx hb dX12_tellFamily_116 (by decide) ?_
    refine lv_iadd hx hb dX12_tellFamily_117 ?_
    obtain ⟨hi_19, h⟩ := gd_ex h
    obtain ⟨σ_20, eσ_20, h⟩ := hl_ex h
    refine g_iast C hH 11 (Nat.le_of_ble_eq_true rfl) (fun _ _ => rfl) (k := ((σ_17.1 0 19).toNatClampNeg)) rfl (ix_in hi_19) dX12_tellFamily_118 (fun H locs hH => ?_)
    rw [← eσ_20] at hH
    exact g_retV C hH h dX12_tellFamily_119
  · rw [if_neg hq_13] at h
    exact g_retV C hH h dX12_tellFamily_85
set_option maxHeartbeats 4000000 in
set_option maxRecDepth 100000 in
theorem kX12_tellFamily (l : Launch) (D : va_G) (ad : Nat → Nat) (κ : KC) {σ : HS} {R : HS} (h : FX12_tellFamily σ = some R) : MtV l 45 ceM D ad κ yX12_tellFamily cX12_tellFamily 3 none ({ frames := 3, cells := 0, slots := 0, locals := 64 } : Room) [.ref (ad 0)] σ R := by
  refine open_ (by decide) (Nat.le_of_ble_eq_true rfl) (la := [(0, .ref (ad 0))]) rfl ?_
  intro p e s m below meth c ls C hH hl
  replace C : Cx 45 D ad κ p s m _ meth c cX12_tellFamily RX12 3 none := C
  have hx := C.1
  have hb := C.2.1
  have hown := C.2.2.2.1
  have hts := C.2.2.2.2.1
  rw [FX12_tellFamily] at h
  refine lv_iconst (v := 5) hx hb dX12_tellFamily_0 (by decide) ?_
  refine lv_aload_n hx hb dX12_tellFamily_1 rfl (lv_at hl 0 rfl) ?_
  refine g_get C hH 0 (Nat.le_of_ble_eq_true rfl) rfl fl_X12_236 (v := .int (σ.1 0 19)) rfl dX12_tellFamily_2 ?_
  refine lv_imul hx hb dX12_tellFamily_5 ?_
  refine lv_aload_n hx hb dX12_tellFamily_6 rfl (lv_at hl 0 rfl) ?_
  refine g_get C hH 0 (Nat.le_of_ble_eq_true rfl) rfl fl_X12_49 (v := .ref (ad 11)) rfl dX12_tellFamily_7 ?_
  refine lv_aload_n hx hb dX12_tellFamily_10 rfl (lv_at hl 0 rfl) ?_
  refine g_get C hH 0 (Nat.le_of_ble_eq_true rfl) rfl fl_X12_236 (v := .int (σ.1 0 19)) rfl dX12_tellFamily_11 ?_
  obtain ⟨hi_21, h⟩ := gd_ex h
  refine g_iald C hH 11 (Nat.le_of_ble_eq_true rfl) rfl (k := ((σ.1 0 19).toNatClampNeg)) rfl (ix_in hi_21) dX12_tellFamily_14 ?_
  refine lv_iadd hx hb dX12_tellFamily_15 ?_
  obtain ⟨x1_22, ex1_22, h⟩ := hl_ex h
  refine lv_eqi ex1_22 ?_
  refine lv_istore_n (lv' := [(1, .int x1_22), (0, .ref (ad 0))]) hx hb dX12_tellFamily_16 rfl hl (by decide) rfl (fun ls hl => ?_)
  refine lv_aload_n hx hb dX12_tellFamily_17 rfl (lv_at hl 1 rfl) ?_
  refine g_get C hH 0 (Nat.le_of_ble_eq_true rfl) rfl fl_X12_206 (v := .int (σ.1 0 11)) rfl dX12_tellFamily_18 ?_
  obtain ⟨x2_23, ex2_23, h⟩ := hl_ex h
  refine lv_eqi ex2_23 ?_
  refine lv_istore_n (lv' := [(2, .int x2_23), (1, .int x1_22), (0, .ref (ad 0))]) hx hb dX12_tellFamily_21 rfl hl (by decide) rfl (fun ls hl => ?_)
  refine lv_aload_n hx hb dX12_tellFamily_22 rfl (lv_at hl 2 rfl) ?_
  refine lv_iconst (v := 1) hx hb dX12_tellFamily_23 (by decide) ?_
  obtain ⟨σ_24, hc_25, h⟩ := bdV_ex h
  refine g_cv (g_runV (rest := []) C hH hl.1 cV_X12_258 0 (Nat.le_of_ble_eq_true rfl) rfl rfl (kX12_must l D ad κ hc_25) ⟨rfl, rfl⟩ ⟨(Nat.le_of_ble_eq_true rfl), (Nat.le_of_ble_eq_true rfl)⟩ rfl rfl (Nat.le_of_ble_eq_true rfl) dX12_tellFamily_24 z00) hH (fun H locs hH => ?_)
  refine lv_aload_n hx hb dX12_tellFamily_27 rfl (lv_at hl 2 rfl) ?_
  refine g_get C hH 0 (Nat.le_of_ble_eq_true rfl) rfl fl_X12_203 (v := .int (σ_24.1 0 13)) rfl dX12_tellFamily_28 ?_
  refine lv_if_ne (tgt := 48) hx hb dX12_tellFamily_31 (by decide) (fun hq_26 => ?_) (fun hq_26 => ?_)
  · rw [if_neg hq_26] at h
    exact wX12_tellFamily_48 C  _ _ _ _ _ _ h hH (lv_sub hl [2, 1, 0] rfl)
  · rw [if_pos hq_26] at h
    refine lv_aload_n hx hb dX12_tellFamily_34 rfl (lv_at hl 2 rfl) ?_
    refine lv_iload_n hx hb dX12_tellFamily_35 rfl (lv_at hl 0 rfl) ?_
    obtain ⟨r_27, σ_28, hc_29, h⟩ := bdI_ex h
    refine g_ci (g_runV (rest := []) C hH hl.1 cV_X12_280 0 (Nat.le_of_ble_eq_true rfl) rfl rfl (kX12_numberOf l D ad κ hc_29) ⟨rfl, rfl⟩ ⟨(Nat.le_of_ble_eq_true rfl), (Nat.le_of_ble_eq_true rfl)⟩ rfl rfl (Nat.le_of_ble_eq_true rfl) dX12_tellFamily_36 z00) hH (fun H locs hH => ?_)
    refine lv_if_lt (tgt := 48) hx hb dX12_tellFamily_39 (by decide) (fun hq_30 => ?_) (fun hq_30 => ?_)
    · rw [if_pos hq_30] at h
      exact wX12_tellFamily_48 C  _ _ _ _ _ _ h hH (lv_sub hl [2, 1, 0] rfl)
    · rw [if_neg hq_30] at h
      refine lv_aload_n hx hb dX12_tellFamily_42 rfl (lv_at hl 2 rfl) ?_
      refine lv_iconst (v := 3) hx hb dX12_tellFamily_43 (by decide) ?_
      refine lv_iload_n hx hb dX12_tellFamily_44 rfl (lv_at hl 0 rfl) ?_
      obtain ⟨σ_31, hc_32, h⟩ := bdV_ex h
      refine g_cv (g_runV (rest := []) C hH hl.1 cV_X12_277 0 (Nat.le_of_ble_eq_true rfl) rfl rfl (kX12_wrong l D ad κ hc_32) ⟨rfl, rfl⟩ ⟨(Nat.le_of_ble_eq_true rfl), (Nat.le_of_ble_eq_true rfl)⟩ rfl rfl (Nat.le_of_ble_eq_true rfl) dX12_tellFamily_45 z00) hH (fun H locs hH => ?_)
      exact wX12_tellFamily_48 C  _ _ _ _ _ _ h hH (lv_sub hl [2, 1, 0] rfl)
-- X12_tellLease
def FX12_tellLease_107  (x1 : Int32) (x2 : Int32) (x3 : Int32) (x4 : Int32) (σ : HS) : Option HS :=
  bdV (FX12_must (4 : Int32) σ) fun σ_1 => if (σ_1.1 0 13) ≤ 0 then gd (ix (σ_1.1 0 19) 2) (gd (ix (σ_1.1 0 19) 2) (hl_ (pI σ_1 15 ((σ_1.1 0 19).toNatClampNeg) ((σ_1.1 15 ((σ_1.1 0 19).toNatClampNeg)) + (1 : Int32))) fun σ_6 => if x4 = 0 then some σ_6 else gd (ix (((8 : Int32) * (σ_6.1 0 19)) + x3) 16) (hl_ (pI σ_6 14 ((((8 : Int32) * (σ_6.1 0 19)) + x3).toNatClampNeg) x2) fun σ_9 => some σ_9))) else some σ_1
def FX12_tellLease_75  (x1 : Int32) (x2 : Int32) (x3 : Int32) (y0 : Int32) (σ : HS) : Option HS :=
  if y0 = 0 then FX12_tellLease_107 x1 x2 x3 y0 σ else gd (ix (((8 : Int32) * (σ.1 0 19)) + x3) 16) (if (σ.1 14 ((((8 : Int32) * (σ.1 0 19)) + x3).toNatClampNeg)) = (-2 : Int32) then FX12_tellLease_107 x1 x2 x3 y0 σ else bdV (FX12_wrong (3 : Int32) x1 σ) fun σ_13 => FX12_tellLease_107 x1 x2 x3 y0 σ_13)
def FX12_tellLease_74  (x1 : Int32) (x2 : Int32) (x3 : Int32) (σ : HS) : Option HS :=
  FX12_tellLease_75 x1 x2 x3 (0 : Int32) σ
def FX12_tellLease_44  (x1 : Int32) (x2 : Int32) (σ : HS) : Option HS :=
  hl_ (σ.1 0 11) fun x1_15 => bdI (FX12_bounded (0 : Int32) (7 : Int32) σ) fun r_16 σ_17 => if (σ_17.1 0 13) = 0 then if (8 : Int32) ≤ r_16 then FX12_tellLease_74 x1_15 x2 r_16 σ_17 else FX12_tellLease_75 x1_15 x2 r_16 (1 : Int32) σ_17 else FX12_tellLease_74 x1_15 x2 r_16 σ_17
def FX12_tellLease_26  (x1 : Int32) (y0 : Int32) (σ : HS) : Option HS :=
  if (σ.1 0 13) = 0 then if 0 ≤ y0 then FX12_tellLease_44 x1 y0 σ else bdV (FX12_wrong (4 : Int32) x1 σ) fun σ_23 => FX12_tellLease_44 x1 y0 σ_23 else FX12_tellLease_44 x1 y0 σ
def FX12_tellLease (σ : HS) : Option HS :=
  hl_ (σ.1 0 11) fun x1_25 => bdV (FX12_must (1 : Int32) σ) fun σ_26 => if (σ_26.1 0 13) ≤ 0 then bdI (FX12_numberOf x1_25 σ_26) fun r_29 σ_30 => FX12_tellLease_26 x1_25 r_29 σ_30 else FX12_tellLease_26 x1_25 (-1 : Int32) σ_26
set_option maxHeartbeats 4000000 in
set_option maxRecDepth 100000 in
theorem wX12_tellLease_107 (C : Cx 45 D ad κ p s m args meth c cX12_tellLease RX12 5 none) {R : HS} : ∀ (x1 : Int32) (x2 : Int32) (x3 : Int32) (x4 : Int32) (σ : HS) (H : Heap) (locs : List Loc) (ls : Array Slot), FX12_tellLease_107  x1 x2 x3 x4 σ = some R → Hd 45 ceM D ad κ s σ H locs → lv_has ls 5 [(0, .ref (ad 0)), (1, .int x1), (2, .int x2), (3, .int x3), (4, .int x4)] → W p l e ({ frames := 3, cells := 0, slots := 0, locals := 64 } : Room) s m args below meth c H locs 0 0 (MQ below (QV 45 ceM D ad κ R) args s 0 0 (AX 45 ad)) (F0 m 107 ls []) := by
  have hx := C.1
  have hb := C.2.1
  have hown := C.2.2.2.1
  have hts := C.2.2.2.2.1
  intro x1 x2 x3 x4 σ H locs ls h hH hl
  rw [FX12_tellLease_107] at h
  refine lv_aload_n hx hb dX12_tellLease_107 rfl (lv_at hl 0 rfl) ?_
  refine lv_iconst (v := 4) hx hb dX12_tellLease_108 (by decide) ?_
  obtain ⟨σ_1, hc_2, h⟩ := bdV_ex h
  refine g_cv (g_runV (rest := []) C hH hl.1 cV_X12_258 0 (Nat.le_of_ble_eq_true rfl) rfl rfl (kX12_must l D ad κ hc_2) ⟨rfl, rfl⟩ ⟨(Nat.le_of_ble_eq_true rfl), (Nat.le_of_ble_eq_true rfl)⟩ rfl rfl (Nat.le_of_ble_eq_true rfl) dX12_tellLease_109 z00) hH (fun H locs hH => ?_)
  refine lv_aload_n hx hb dX12_tellLease_112 rfl (lv_at hl 0 rfl) ?_
  refine g_get C hH 0 (Nat.le_of_ble_eq_true rfl) rfl fl_X12_203 (v := .int (σ_1.1 0 13)) rfl dX12_tellLease_113 ?_
  refine lv_if_le (tgt := 120) hx hb dX12_tellLease_116 (by decide) (fun hq_3 => ?_) (fun hq_3 => ?_)
  · rw [if_pos hq_3] at h
    refine lv_aload_n hx hb dX12_tellLease_120 rfl (lv_at hl 0 rfl) ?_
    refine g_get C hH 0 (Nat.le_of_ble_eq_true rfl) rfl fl_X12_61 (v := .ref (ad 15)) rfl dX12_tellLease_121 ?_
    refine lv_aload_n hx hb dX12_tellLease_124 rfl (lv_at hl 0 rfl) ?_
    refine g_get C hH 0 (Nat.le_of_ble_eq_true rfl) rfl fl_X12_236 (v := .int (σ_1.1 0 19)) rfl dX12_tellLease_125 ?_
    refine lv_dup2_11 hx hb dX12_tellLease_128 rfl rfl ?_
    obtain ⟨hi_4, h⟩ := gd_ex h
    refine g_iald C hH 15 (Nat.le_of_ble_eq_true rfl) rfl (k := ((σ_1.1 0 19).toNatClampNeg)) rfl (ix_in hi_4) dX12_tellLease_129 ?_
    refine lv_iconst (v := 1) hx hb dX12_tellLease_130 (by decide) ?_
    refine lv_iadd hx hb dX12_tellLease_131 ?_
    obtain ⟨hi_5, h⟩ := gd_ex h
    obtain ⟨σ_6, eσ_6, h⟩ := hl_ex h
    refine g_iast C hH 15 (Nat.le_of_ble_eq_true rfl) (fun _ _ => rfl) (k := ((σ_1.1 0 19).toNatClampNeg)) rfl (ix_in hi_5) dX12_tellLease_132 (fun H locs hH => ?_)
    rw [← eσ_6] at hH
    refine lv_iload hx hb dX12_tellLease_133 (lv_at hl 4 rfl) ?_
    refine lv_if_eq (tgt := 153) hx hb dX12_tellLease_135 (by decide) (fun hq_7 => ?_) (fun hq_7 => ?_)
    · rw [if_pos hq_7] at h
      exact g_retV C hH h dX12_tellLease_153
    · rw [if_neg hq_7] at h
      refine lv_aload_n hx hb dX12_tellLease_138 rfl (lv_at hl 0 rfl) ?_
      refine g_get C hH 0 (Nat.le_of_ble_eq_true rfl) rfl fl_X12_58 (v := .ref (ad 14)) rfl dX12_tellLease_139 ?_
      refine lv_bipush (v := 8) hx hb dX12_tellLease_142 (by decide) ?_
      refine lv_aload_n hx hb dX12_tellLease_144 rfl (lv_at hl 0 rfl) ?_
      refine g_get C hH 0 (Nat.le_of_ble_eq_true rfl) rfl fl_X12_236 (v := .int (σ_6.1 0 19)) rfl dX12_tellLease_145 ?_
      refine lv_imul hx hb dX12_tellLease_148 ?_
      refine lv_iload_n hx hb dX12_tellLease_149 rfl (lv_at hl 3 rfl) ?_
      refine lv_iadd hx hb dX12_tellLease_150 ?_
      refine lv_iload_n hx hb dX12_tellLease_151 rfl (lv_at hl 2 rfl) ?_
      obtain ⟨hi_8, h⟩ := gd_ex h
      obtain ⟨σ_9, eσ_9, h⟩ := hl_ex h
      refine g_iast C hH 14 (Nat.le_of_ble_eq_true rfl) (fun _ _ => rfl) (k := ((((8 : Int32) * (σ_6.1 0 19)) + x3).toNatClampNeg)) rfl (ix_in hi_8) dX12_tellLease_152 (fun H locs hH => ?_)
      rw [← eσ_9] at hH
      exact g_retV C hH h dX12_tellLease_153
  · rw [if_neg hq_3] at h
    exact g_retV C hH h dX12_tellLease_119
set_option maxHeartbeats 4000000 in
set_option maxRecDepth 100000 in
theorem wX12_tellLease_75 (C : Cx 45 D ad κ p s m args meth c cX12_tellLease RX12 5 none) {R : HS} : ∀ (x1 : Int32) (x2 : Int32) (x3 : Int32) (y0 : Int32) (σ : HS) (H : Heap) (locs : List Loc) (ls : Array Slot), FX12_tellLease_75  x1 x2 x3 y0 σ = some R → Hd 45 ceM D ad κ s σ H locs → lv_has ls 5 [(0, .ref (ad 0)), (1, .int x1), (2, .int x2), (3, .int x3)] → W p l e ({ frames := 3, cells := 0, slots := 0, locals := 64 } : Room) s m args below meth c H locs 0 0 (MQ below (QV 45 ceM D ad κ R) args s 0 0 (AX 45 ad)) (F0 m 75 ls [.int y0]) := by
  have hx := C.1
  have hb := C.2.1
  have hown := C.2.2.2.1
  have hts := C.2.2.2.2.1
  intro x1 x2 x3 y0 σ H locs ls h hH hl
  rw [FX12_tellLease_75] at h
  refine lv_istore (lv' := [(4, .int y0), (0, .ref (ad 0)), (1, .int x1), (2, .int x2), (3, .int x3)]) hx hb dX12_tellLease_75 hl (by decide) rfl (fun ls hl => ?_)
  refine lv_iload hx hb dX12_tellLease_77 (lv_at hl 0 rfl) ?_
  refine lv_if_eq (tgt := 107) hx hb dX12_tellLease_79 (by decide) (fun hq_10 => ?_) (fun hq_10 => ?_)
  · rw [if_pos hq_10] at h
    exact wX12_tellLease_107 C  _ _ _ _ _ _ _ _ h hH (lv_sub hl [1, 2, 3, 4, 0] rfl)
  · rw [if_neg hq_10] at h
    refine lv_aload_n hx hb dX12_tellLease_82 rfl (lv_at hl 1 rfl) ?_
    refine g_get C hH 0 (Nat.le_of_ble_eq_true rfl) rfl fl_X12_58 (v := .ref (ad 14)) rfl dX12_tellLease_83 ?_
    refine lv_bipush (v := 8) hx hb dX12_tellLease_86 (by decide) ?_
    refine lv_aload_n hx hb dX12_tellLease_88 rfl (lv_at hl 1 rfl) ?_
    refine g_get C hH 0 (Nat.le_of_ble_eq_true rfl) rfl fl_X12_236 (v := .int (σ.1 0 19)) rfl dX12_tellLease_89 ?_
    refine lv_imul hx hb dX12_tellLease_92 ?_
    refine lv_iload_n hx hb dX12_tellLease_93 rfl (lv_at hl 4 rfl) ?_
    refine lv_iadd hx hb dX12_tellLease_94 ?_
    obtain ⟨hi_11, h⟩ := gd_ex h
    refine g_iald C hH 14 (Nat.le_of_ble_eq_true rfl) rfl (k := ((((8 : Int32) * (σ.1 0 19)) + x3).toNatClampNeg)) rfl (ix_in hi_11) dX12_tellLease_95 ?_
    refine lv_bipush (v := (-2)) hx hb dX12_tellLease_96 (by decide) ?_
    refine lv_icmp_eq (tgt := 107) hx hb dX12_tellLease_98 (by decide) (fun hq_12 => ?_) (fun hq_12 => ?_)
    · rw [if_pos hq_12] at h
      exact wX12_tellLease_107 C  _ _ _ _ _ _ _ _ h hH (lv_sub hl [1, 2, 3, 4, 0] rfl)
    · rw [if_neg hq_12] at h
      refine lv_aload_n hx hb dX12_tellLease_101 rfl (lv_at hl 1 rfl) ?_
      refine lv_iconst (v := 3) hx hb dX12_tellLease_102 (by decide) ?_
      refine lv_iload_n hx hb dX12_tellLease_103 rfl (lv_at hl 2 rfl) ?_
      obtain ⟨σ_13, hc_14, h⟩ := bdV_ex h
      refine g_cv (g_runV (rest := []) C hH hl.1 cV_X12_277 0 (Nat.le_of_ble_eq_true rfl) rfl rfl (kX12_wrong l D ad κ hc_14) ⟨rfl, rfl⟩ ⟨(Nat.le_of_ble_eq_true rfl), (Nat.le_of_ble_eq_true rfl)⟩ rfl rfl (Nat.le_of_ble_eq_true rfl) dX12_tellLease_104 z00) hH (fun H locs hH => ?_)
      exact wX12_tellLease_107 C  _ _ _ _ _ _ _ _ h hH (lv_sub hl [1, 2, 3, 4, 0] rfl)
set_option maxHeartbeats 4000000 in
set_option maxRecDepth 100000 in
theorem wX12_tellLease_74 (C : Cx 45 D ad κ p s m args meth c cX12_tellLease RX12 5 none) {R : HS} : ∀ (x1 : Int32) (x2 : Int32) (x3 : Int32) (σ : HS) (H : Heap) (locs : List Loc) (ls : Array Slot), FX12_tellLease_74  x1 x2 x3 σ = some R → Hd 45 ceM D ad κ s σ H locs → lv_has ls 5 [(0, .ref (ad 0)), (1, .int x1), (2, .int x2), (3, .int x3)] → W p l e ({ frames := 3, cells := 0, slots := 0, locals := 64 } : Room) s m args below meth c H locs 0 0 (MQ below (QV 45 ceM D ad κ R) args s 0 0 (AX 45 ad)) (F0 m 74 ls []) := by
  have hx := C.1
  have hb := C.2.1
  have hown := C.2.2.2.1
  have hts := C.2.2.2.2.1
  intro x1 x2 x3 σ H locs ls h hH hl
  rw [FX12_tellLease_74] at h
  refine lv_iconst (v := 0) hx hb dX12_tellLease_74 (by decide) ?_
  exact wX12_tellLease_75 C  _ _ _ _ _ _ _ _ h hH (lv_sub hl [0, 1, 2, 3] rfl)
set_option maxHeartbeats 4000000 in
set_option maxRecDepth 100000 in
theorem wX12_tellLease_44 (C : Cx 45 D ad κ p s m args meth c cX12_tellLease RX12 5 none) {R : HS} : ∀ (x1 : Int32) (x2 : Int32) (σ : HS) (H : Heap) (locs : List Loc) (ls : Array Slot), FX12_tellLease_44  x1 x2 σ = some R → Hd 45 ceM D ad κ s σ H locs → lv_has ls 5 [(0, .ref (ad 0)), (1, .int x1), (2, .int x2)] → W p l e ({ frames := 3, cells := 0, slots := 0, locals := 64 } : Room) s m args below meth c H locs 0 0 (MQ below (QV 45 ceM D ad κ R) args s 0 0 (AX 45 ad)) (F0 m 44 ls []) := by
  have hx := C.1
  have hb := C.2.1
  have hown := C.2.2.2.1
  have hts := C.2.2.2.2.1
  intro x1 x2 σ H locs ls h hH hl
  rw [FX12_tellLease_44] at h
  refine lv_aload_n hx hb dX12_tellLease_44 rfl (lv_at hl 0 rfl) ?_
  refine g_get C hH 0 (Nat.le_of_ble_eq_true rfl) rfl fl_X12_206 (v := .int (σ.1 0 11)) rfl dX12_tellLease_45 ?_
  obtain ⟨x1_15, ex1_15, h⟩ := hl_ex h
  refine lv_eqi ex1_15 ?_
  refine lv_istore_n (lv' := [(1, .int x1_15), (0, .ref (ad 0)), (2, .int x2)]) hx hb dX12_tellLease_48 rfl hl (by decide) rfl (fun ls hl => ?_)
  refine lv_aload_n hx hb dX12_tellLease_49 rfl (lv_at hl 1 rfl) ?_
  refine lv_iconst (v := 0) hx hb dX12_tellLease_50 (by decide) ?_
  refine lv_bipush (v := 7) hx hb dX12_tellLease_51 (by decide) ?_
  obtain ⟨r_16, σ_17, hc_18, h⟩ := bdI_ex h
  refine g_ci (g_runV (rest := []) C hH hl.1 cV_X12_254 0 (Nat.le_of_ble_eq_true rfl) rfl rfl (kX12_bounded l D ad κ hc_18) ⟨rfl, rfl⟩ ⟨(Nat.le_of_ble_eq_true rfl), (Nat.le_of_ble_eq_true rfl)⟩ rfl rfl (Nat.le_of_ble_eq_true rfl) dX12_tellLease_53 z00) hH (fun H locs hH => ?_)
  refine lv_istore_n (lv' := [(3, .int r_16), (1, .int x1_15), (0, .ref (ad 0)), (2, .int x2)]) hx hb dX12_tellLease_56 rfl hl (by decide) rfl (fun ls hl => ?_)
  refine lv_aload_n hx hb dX12_tellLease_57 rfl (lv_at hl 2 rfl) ?_
  refine g_get C hH 0 (Nat.le_of_ble_eq_true rfl) rfl fl_X12_203 (v := .int (σ_17.1 0 13)) rfl dX12_tellLease_58 ?_
  refine lv_if_ne (tgt := 74) hx hb dX12_tellLease_61 (by decide) (fun hq_19 => ?_) (fun hq_19 => ?_)
  · rw [if_neg hq_19] at h
    exact wX12_tellLease_74 C  _ _ _ _ _ _ _ h hH (lv_sub hl [2, 1, 3, 0] rfl)
  · rw [if_pos hq_19] at h
    refine lv_iload_n hx hb dX12_tellLease_64 rfl (lv_at hl 0 rfl) ?_
    refine lv_bipush (v := 8) hx hb dX12_tellLease_65 (by decide) ?_
    refine lv_icmp_ge (tgt := 74) hx hb dX12_tellLease_67 (by decide) (fun hq_20 => ?_) (fun hq_20 => ?_)
    · rw [if_pos hq_20] at h
      exact wX12_tellLease_74 C  _ _ _ _ _ _ _ h hH (lv_sub hl [2, 1, 3, 0] rfl)
    · rw [if_neg hq_20] at h
      refine lv_iconst (v := 1) hx hb dX12_tellLease_70 (by decide) ?_
      refine lv_goto (tgt := 75) hx hb dX12_tellLease_71 (by decide) ?_
      exact wX12_tellLease_75 C  _ _ _ _ _ _ _ _ h hH (lv_sub hl [2, 1, 3, 0] rfl)
set_option maxHeartbeats 4000000 in
set_option maxRecDepth 100000 in
theorem wX12_tellLease_26 (C : Cx 45 D ad κ p s m args meth c cX12_tellLease RX12 5 none) {R : HS} : ∀ (x1 : Int32) (y0 : Int32) (σ : HS) (H : Heap) (locs : List Loc) (ls : Array Slot), FX12_tellLease_26  x1 y0 σ = some R → Hd 45 ceM D ad κ s σ H locs → lv_has ls 5 [(0, .ref (ad 0)), (1, .int x1)] → W p l e ({ frames := 3, cells := 0, slots := 0, locals := 64 } : Room) s m args below meth c H locs 0 0 (MQ below (QV 45 ceM D ad κ R) args s 0 0 (AX 45 ad)) (F0 m 26 ls [.int y0]) := by
  have hx := C.1
  have hb := C.2.1
  have hown := C.2.2.2.1
  have hts := C.2.2.2.2.1
  intro x1 y0 σ H locs ls h hH hl
  rw [FX12_tellLease_26] at h
  refine lv_istore_n (lv' := [(2, .int y0), (0, .ref (ad 0)), (1, .int x1)]) hx hb dX12_tellLease_26 rfl hl (by decide) rfl (fun ls hl => ?_)
  refine lv_aload_n hx hb dX12_tellLease_27 rfl (lv_at hl 1 rfl) ?_
  refine g_get C hH 0 (Nat.le_of_ble_eq_true rfl) rfl fl_X12_203 (v := .int (σ.1 0 13)) rfl dX12_tellLease_28 ?_
  refine lv_if_ne (tgt := 44) hx hb dX12_tellLease_31 (by decide) (fun hq_21 => ?_) (fun hq_21 => ?_)
  · rw [if_neg hq_21] at h
    exact wX12_tellLease_44 C  _ _ _ _ _ _ h hH (lv_sub hl [1, 2, 0] rfl)
  · rw [if_pos hq_21] at h
    refine lv_iload_n hx hb dX12_tellLease_34 rfl (lv_at hl 0 rfl) ?_
    refine lv_if_ge (tgt := 44) hx hb dX12_tellLease_35 (by decide) (fun hq_22 => ?_) (fun hq_22 => ?_)
    · rw [if_pos hq_22] at h
      exact wX12_tellLease_44 C  _ _ _ _ _ _ h hH (lv_sub hl [1, 2, 0] rfl)
    · rw [if_neg hq_22] at h
      refine lv_aload_n hx hb dX12_tellLease_38 rfl (lv_at hl 1 rfl) ?_
      refine lv_iconst (v := 4) hx hb dX12_tellLease_39 (by decide) ?_
      refine lv_iload_n hx hb dX12_tellLease_40 rfl (lv_at hl 2 rfl) ?_
      obtain ⟨σ_23, hc_24, h⟩ := bdV_ex h
      refine g_cv (g_runV (rest := []) C hH hl.1 cV_X12_277 0 (Nat.le_of_ble_eq_true rfl) rfl rfl (kX12_wrong l D ad κ hc_24) ⟨rfl, rfl⟩ ⟨(Nat.le_of_ble_eq_true rfl), (Nat.le_of_ble_eq_true rfl)⟩ rfl rfl (Nat.le_of_ble_eq_true rfl) dX12_tellLease_41 z00) hH (fun H locs hH => ?_)
      exact wX12_tellLease_44 C  _ _ _ _ _ _ h hH (lv_sub hl [1, 2, 0] rfl)
set_option maxHeartbeats 4000000 in
set_option maxRecDepth 100000 in
theorem kX12_tellLease (l : Launch) (D : va_G) (ad : Nat → Nat) (κ : KC) {σ : HS} {R : HS} (h : FX12_tellLease σ = some R) : MtV l 45 ceM D ad κ yX12_tellLease cX12_tellLease 5 none ({ frames := 3, cells := 0, slots := 0, locals := 64 } : Room) [.ref (ad 0)] σ R := by
  refine open_ (by decide) (Nat.le_of_ble_eq_true rfl) (la := [(0, .ref (ad 0))]) rfl ?_
  intro p e s m below meth c ls C hH hl
  replace C : Cx 45 D ad κ p s m _ meth c cX12_tellLease RX12 5 none := C
  have hx := C.1
  have hb := C.2.1
  have hown := C.2.2.2.1
  have hts := C.2.2.2.2.1
  rw [FX12_tellLease] at h
  refine lv_aload_n hx hb dX12_tellLease_0 rfl (lv_at hl 0 rfl) ?_
  refine g_get C hH 0 (Nat.le_of_ble_eq_true rfl) rfl fl_X12_206 (v := .int (σ.1 0 11)) rfl dX12_tellLease_1 ?_
  obtain ⟨x1_25, ex1_25, h⟩ := hl_ex h
  refine lv_eqi ex1_25 ?_
  refine lv_istore_n (lv' := [(1, .int x1_25), (0, .ref (ad 0))]) hx hb dX12_tellLease_4 rfl hl (by decide) rfl (fun ls hl => ?_)
  refine lv_aload_n hx hb dX12_tellLease_5 rfl (lv_at hl 1 rfl) ?_
  refine lv_iconst (v := 1) hx hb dX12_tellLease_6 (by decide) ?_
  obtain ⟨σ_26, hc_27, h⟩ := bdV_ex h
  refine g_cv (g_runV (rest := []) C hH hl.1 cV_X12_258 0 (Nat.le_of_ble_eq_true rfl) rfl rfl (kX12_must l D ad κ hc_27) ⟨rfl, rfl⟩ ⟨(Nat.le_of_ble_eq_true rfl), (Nat.le_of_ble_eq_true rfl)⟩ rfl rfl (Nat.le_of_ble_eq_true rfl) dX12_tellLease_7 z00) hH (fun H locs hH => ?_)
  refine lv_aload_n hx hb dX12_tellLease_10 rfl (lv_at hl 1 rfl) ?_
  refine g_get C hH 0 (Nat.le_of_ble_eq_true rfl) rfl fl_X12_203 (v := .int (σ_26.1 0 13)) rfl dX12_tellLease_11 ?_
  refine lv_if_le (tgt := 21) hx hb dX12_tellLease_14 (by decide) (fun hq_28 => ?_) (fun hq_28 => ?_)
  · rw [if_pos hq_28] at h
    refine lv_aload_n hx hb dX12_tellLease_21 rfl (lv_at hl 1 rfl) ?_
    refine lv_iload_n hx hb dX12_tellLease_22 rfl (lv_at hl 0 rfl) ?_
    obtain ⟨r_29, σ_30, hc_31, h⟩ := bdI_ex h
    refine g_ci (g_runV (rest := []) C hH hl.1 cV_X12_280 0 (Nat.le_of_ble_eq_true rfl) rfl rfl (kX12_numberOf l D ad κ hc_31) ⟨rfl, rfl⟩ ⟨(Nat.le_of_ble_eq_true rfl), (Nat.le_of_ble_eq_true rfl)⟩ rfl rfl (Nat.le_of_ble_eq_true rfl) dX12_tellLease_23 z00) hH (fun H locs hH => ?_)
    exact wX12_tellLease_26 C  _ _ _ _ _ _ h hH (lv_sub hl [1, 0] rfl)
  · rw [if_neg hq_28] at h
    refine lv_iconst (v := (-1)) hx hb dX12_tellLease_17 (by decide) ?_
    refine lv_goto (tgt := 26) hx hb dX12_tellLease_18 (by decide) ?_
    exact wX12_tellLease_26 C  _ _ _ _ _ _ h hH (lv_sub hl [1, 0] rfl)
-- X12_toldInt
def FX12_toldInt (x1 : Int32) (σ : HS) : Option (Int32 × HS) :=
  bdV (FX12_goesOn σ) fun σ_1 => bdI (FX12_bounded (0 : Int32) x1 σ_1) fun r_3 σ_4 => bdV (FX12_must (4 : Int32) σ_4) fun σ_6 => some (r_3, σ_6)
set_option maxHeartbeats 4000000 in
set_option maxRecDepth 100000 in
theorem kX12_toldInt (l : Launch) (D : va_G) (ad : Nat → Nat) (κ : KC) {x1 : Int32} {σ : HS} {R : (Int32 × HS)} (h : FX12_toldInt x1 σ = some R) : MtI l 45 ceM D ad κ yX12_toldInt cX12_toldInt 3 (some .int) ({ frames := 3, cells := 0, slots := 0, locals := 64 } : Room) [.ref (ad 0), .int x1] σ R := by
  refine open_ (by decide) (Nat.le_of_ble_eq_true rfl) (la := [(0, .ref (ad 0)), (1, .int x1)]) rfl ?_
  intro p e s m below meth c ls C hH hl
  replace C : Cx 45 D ad κ p s m _ meth c cX12_toldInt RX12 3 (some .int) := C
  have hx := C.1
  have hb := C.2.1
  have hown := C.2.2.2.1
  have hts := C.2.2.2.2.1
  rw [FX12_toldInt] at h
  refine lv_aload_n hx hb dX12_toldInt_0 rfl (lv_at hl 0 rfl) ?_
  obtain ⟨σ_1, hc_2, h⟩ := bdV_ex h
  refine g_cv (g_runV (rest := []) C hH hl.1 cV_X12_224 0 (Nat.le_of_ble_eq_true rfl) rfl rfl (kX12_goesOn l D ad κ hc_2) ⟨rfl, rfl⟩ ⟨(Nat.le_of_ble_eq_true rfl), (Nat.le_of_ble_eq_true rfl)⟩ rfl rfl (Nat.le_of_ble_eq_true rfl) dX12_toldInt_1 z00) hH (fun H locs hH => ?_)
  refine lv_aload_n hx hb dX12_toldInt_4 rfl (lv_at hl 0 rfl) ?_
  refine lv_iconst (v := 0) hx hb dX12_toldInt_5 (by decide) ?_
  refine lv_iload_n hx hb dX12_toldInt_6 rfl (lv_at hl 1 rfl) ?_
  obtain ⟨r_3, σ_4, hc_5, h⟩ := bdI_ex h
  refine g_ci (g_runV (rest := []) C hH hl.1 cV_X12_254 0 (Nat.le_of_ble_eq_true rfl) rfl rfl (kX12_bounded l D ad κ hc_5) ⟨rfl, rfl⟩ ⟨(Nat.le_of_ble_eq_true rfl), (Nat.le_of_ble_eq_true rfl)⟩ rfl rfl (Nat.le_of_ble_eq_true rfl) dX12_toldInt_7 z00) hH (fun H locs hH => ?_)
  refine lv_istore_n (lv' := [(2, .int r_3), (0, .ref (ad 0)), (1, .int x1)]) hx hb dX12_toldInt_10 rfl hl (by decide) rfl (fun ls hl => ?_)
  refine lv_aload_n hx hb dX12_toldInt_11 rfl (lv_at hl 1 rfl) ?_
  refine lv_iconst (v := 4) hx hb dX12_toldInt_12 (by decide) ?_
  obtain ⟨σ_6, hc_7, h⟩ := bdV_ex h
  refine g_cv (g_runV (rest := []) C hH hl.1 cV_X12_258 0 (Nat.le_of_ble_eq_true rfl) rfl rfl (kX12_must l D ad κ hc_7) ⟨rfl, rfl⟩ ⟨(Nat.le_of_ble_eq_true rfl), (Nat.le_of_ble_eq_true rfl)⟩ rfl rfl (Nat.le_of_ble_eq_true rfl) dX12_toldInt_13 z00) hH (fun H locs hH => ?_)
  refine lv_iload_n hx hb dX12_toldInt_16 rfl (lv_at hl 0 rfl) ?_
  exact g_ret C hH h dX12_toldInt_17
-- X12_emit
def FX12_emit (x1 : Int32) (x2 : Int32) (σ : HS) : Option HS :=
  gd (ix (σ.1 0 39) 840) (hl_ (pI σ 26 ((σ.1 0 39).toNatClampNeg) x1) fun σ_2 => gd (ix (σ_2.1 0 39) 840) (hl_ (pI σ_2 27 ((σ_2.1 0 39).toNatClampNeg) x2) fun σ_4 => hl_ (pI σ_4 0 39 ((σ_4.1 0 39) + (1 : Int32))) fun σ_5 => some σ_5))
set_option maxHeartbeats 4000000 in
set_option maxRecDepth 100000 in
theorem kX12_emit (l : Launch) (D : va_G) (ad : Nat → Nat) (κ : KC) {x1 : Int32} {x2 : Int32} {σ : HS} {R : HS} (h : FX12_emit x1 x2 σ = some R) : MtV l 45 ceM D ad κ yX12_emit cX12_emit 3 none ({ frames := 0, cells := 0, slots := 0, locals := 0 } : Room) [.ref (ad 0), .int x1, .int x2] σ R := by
  refine open_ (by decide) (Nat.le_of_ble_eq_true rfl) (la := [(0, .ref (ad 0)), (1, .int x1), (2, .int x2)]) rfl ?_
  intro p e s m below meth c ls C hH hl
  replace C : Cx 45 D ad κ p s m _ meth c cX12_emit RX12 3 none := C
  have hx := C.1
  have hb := C.2.1
  have hown := C.2.2.2.1
  have hts := C.2.2.2.2.1
  rw [FX12_emit] at h
  refine lv_aload_n hx hb dX12_emit_0 rfl (lv_at hl 0 rfl) ?_
  refine g_get C hH 0 (Nat.le_of_ble_eq_true rfl) rfl fl_X12_95 (v := .ref (ad 26)) rfl dX12_emit_1 ?_
  refine lv_aload_n hx hb dX12_emit_4 rfl (lv_at hl 0 rfl) ?_
  refine g_get C hH 0 (Nat.le_of_ble_eq_true rfl) rfl fl_X12_242 (v := .int (σ.1 0 39)) rfl dX12_emit_5 ?_
  refine lv_iload_n hx hb dX12_emit_8 rfl (lv_at hl 1 rfl) ?_
  obtain ⟨hi_1, h⟩ := gd_ex h
  obtain ⟨σ_2, eσ_2, h⟩ := hl_ex h
  refine g_iast C hH 26 (Nat.le_of_ble_eq_true rfl) (fun _ _ => rfl) (k := ((σ.1 0 39).toNatClampNeg)) rfl (ix_in hi_1) dX12_emit_9 (fun H locs hH => ?_)
  rw [← eσ_2] at hH
  refine lv_aload_n hx hb dX12_emit_10 rfl (lv_at hl 0 rfl) ?_
  refine g_get C hH 0 (Nat.le_of_ble_eq_true rfl) rfl fl_X12_98 (v := .ref (ad 27)) rfl dX12_emit_11 ?_
  refine lv_aload_n hx hb dX12_emit_14 rfl (lv_at hl 0 rfl) ?_
  refine g_get C hH 0 (Nat.le_of_ble_eq_true rfl) rfl fl_X12_242 (v := .int (σ_2.1 0 39)) rfl dX12_emit_15 ?_
  refine lv_iload_n hx hb dX12_emit_18 rfl (lv_at hl 2 rfl) ?_
  obtain ⟨hi_3, h⟩ := gd_ex h
  obtain ⟨σ_4, eσ_4, h⟩ := hl_ex h
  refine g_iast C hH 27 (Nat.le_of_ble_eq_true rfl) (fun _ _ => rfl) (k := ((σ_2.1 0 39).toNatClampNeg)) rfl (ix_in hi_3) dX12_emit_19 (fun H locs hH => ?_)
  rw [← eσ_4] at hH
  refine lv_aload_n hx hb dX12_emit_20 rfl (lv_at hl 0 rfl) ?_
  refine lv_dup hx hb dX12_emit_21 rfl ?_
  refine g_get C hH 0 (Nat.le_of_ble_eq_true rfl) rfl fl_X12_242 (v := .int (σ_4.1 0 39)) rfl dX12_emit_22 ?_
  refine lv_iconst (v := 1) hx hb dX12_emit_25 (by decide) ?_
  refine lv_iadd hx hb dX12_emit_26 ?_
  obtain ⟨σ_5, eσ_5, h⟩ := hl_ex h
  refine g_putI C hH 0 (Nat.le_of_ble_eq_true rfl) rfl fp_X12_242 rfl rfl (Nat.le_of_ble_eq_true rfl) rfl dX12_emit_27 (fun H locs hH => ?_)
  rw [← eσ_5] at hH
  exact g_retV C hH h dX12_emit_30
-- X12_unit
def FX12_unit_88   (σ : HS) : Option HS :=
  bdV (FX12_fail (1 : Int32) σ) fun σ_1 => some σ_1
def FX12_unit (σ : HS) : Option HS :=
  bdI (FX12_is (2 : Int32) σ) fun r_3 σ_4 => if r_3 = 0 then if (σ_4.1 0 13) = 0 then gd (ix (σ_4.1 0 11) 403) (if (σ_4.1 3 ((σ_4.1 0 11).toNatClampNeg)) < (33 : Int32) then FX12_unit_88 σ_4 else gd (ix (σ_4.1 0 11) 403) (if (41 : Int32) < (σ_4.1 3 ((σ_4.1 0 11).toNatClampNeg)) then FX12_unit_88 σ_4 else gd (ix (σ_4.1 0 11) 403) (bdV (FX12_emit (1 : Int32) ((σ_4.1 3 ((σ_4.1 0 11).toNatClampNeg)) - (33 : Int32)) σ_4) fun σ_13 => bdV (FX12_goesOn σ_13) fun σ_15 => some σ_15))) else FX12_unit_88 σ_4 else gd (ix (σ_4.1 0 11) 403) (bdV (FX12_emit (0 : Int32) (σ_4.1 5 ((σ_4.1 0 11).toNatClampNeg)) σ_4) fun σ_18 => bdV (FX12_goesOn σ_18) fun σ_20 => some σ_20)
set_option maxHeartbeats 4000000 in
set_option maxRecDepth 100000 in
theorem wX12_unit_88 (C : Cx 45 D ad κ p s m args meth c cX12_unit RX12 1 none) {R : HS} : ∀  (σ : HS) (H : Heap) (locs : List Loc) (ls : Array Slot), FX12_unit_88  σ = some R → Hd 45 ceM D ad κ s σ H locs → lv_has ls 1 [(0, .ref (ad 0))] → W p l e ({ frames := 2, cells := 0, slots := 0, locals := 41 } : Room) s m args below meth c H locs 0 0 (MQ below (QV 45 ceM D ad κ R) args s 0 0 (AX 45 ad)) (F0 m 88 ls []) := by
  have hx := C.1
  have hb := C.2.1
  have hown := C.2.2.2.1
  have hts := C.2.2.2.2.1
  intro  σ H locs ls h hH hl
  rw [FX12_unit_88] at h
  refine lv_aload_n hx hb dX12_unit_88 rfl (lv_at hl 0 rfl) ?_
  refine lv_iconst (v := 1) hx hb dX12_unit_89 (by decide) ?_
  obtain ⟨σ_1, hc_2, h⟩ := bdV_ex h
  refine g_cv (g_runV (rest := []) C hH hl.1 cV_X12_218 0 (Nat.le_of_ble_eq_true rfl) rfl rfl (kX12_fail l D ad κ hc_2) ⟨rfl, rfl⟩ ⟨(Nat.le_of_ble_eq_true rfl), (Nat.le_of_ble_eq_true rfl)⟩ rfl rfl (Nat.le_of_ble_eq_true rfl) dX12_unit_90 z00) hH (fun H locs hH => ?_)
  exact g_retV C hH h dX12_unit_93
set_option maxHeartbeats 4000000 in
set_option maxRecDepth 100000 in
theorem kX12_unit (l : Launch) (D : va_G) (ad : Nat → Nat) (κ : KC) {σ : HS} {R : HS} (h : FX12_unit σ = some R) : MtV l 45 ceM D ad κ yX12_unit cX12_unit 1 none ({ frames := 2, cells := 0, slots := 0, locals := 41 } : Room) [.ref (ad 0)] σ R := by
  refine open_ (by decide) (Nat.le_of_ble_eq_true rfl) (la := [(0, .ref (ad 0))]) rfl ?_
  intro p e s m below meth c ls C hH hl
  replace C : Cx 45 D ad κ p s m _ meth c cX12_unit RX12 1 none := C
  have hx := C.1
  have hb := C.2.1
  have hown := C.2.2.2.1
  have hts := C.2.2.2.2.1
  rw [FX12_unit] at h
  refine lv_aload_n hx hb dX12_unit_0 rfl (lv_at hl 0 rfl) ?_
  refine lv_iconst (v := 2) hx hb dX12_unit_1 (by decide) ?_
  obtain ⟨r_3, σ_4, hc_5, h⟩ := bdI_ex h
  refine g_ci (g_runV (rest := []) C hH hl.1 cV_X12_221 0 (Nat.le_of_ble_eq_true rfl) rfl rfl (kX12_is l D ad κ hc_5) ⟨rfl, rfl⟩ ⟨(Nat.le_of_ble_eq_true rfl), (Nat.le_of_ble_eq_true rfl)⟩ rfl rfl (Nat.le_of_ble_eq_true rfl) dX12_unit_2 z00) hH (fun H locs hH => ?_)
  refine lv_if_eq (tgt := 29) hx hb dX12_unit_5 (by decide) (fun hq_6 => ?_) (fun hq_6 => ?_)
  · rw [if_pos hq_6] at h
    refine lv_aload_n hx hb dX12_unit_29 rfl (lv_at hl 0 rfl) ?_
    refine g_get C hH 0 (Nat.le_of_ble_eq_true rfl) rfl fl_X12_203 (v := .int (σ_4.1 0 13)) rfl dX12_unit_30 ?_
    refine lv_if_ne (tgt := 88) hx hb dX12_unit_33 (by decide) (fun hq_7 => ?_) (fun hq_7 => ?_)
    · rw [if_neg hq_7] at h
      exact wX12_unit_88 C  _ _ _ _ h hH (lv_sub hl [0] rfl)
    · rw [if_pos hq_7] at h
      refine lv_aload_n hx hb dX12_unit_36 rfl (lv_at hl 0 rfl) ?_
      refine g_get C hH 0 (Nat.le_of_ble_eq_true rfl) rfl fl_X12_20 (v := .ref (ad 3)) rfl dX12_unit_37 ?_
      refine lv_aload_n hx hb dX12_unit_40 rfl (lv_at hl 0 rfl) ?_
      refine g_get C hH 0 (Nat.le_of_ble_eq_true rfl) rfl fl_X12_206 (v := .int (σ_4.1 0 11)) rfl dX12_unit_41 ?_
      obtain ⟨hi_8, h⟩ := gd_ex h
      refine g_iald C hH 3 (Nat.le_of_ble_eq_true rfl) rfl (k := ((σ_4.1 0 11).toNatClampNeg)) rfl (ix_in hi_8) dX12_unit_44 ?_
      refine lv_bipush (v := 33) hx hb dX12_unit_45 (by decide) ?_
      refine lv_icmp_lt (tgt := 88) hx hb dX12_unit_47 (by decide) (fun hq_9 => ?_) (fun hq_9 => ?_)
      · rw [if_pos hq_9] at h
        exact wX12_unit_88 C  _ _ _ _ h hH (lv_sub hl [0] rfl)
      · rw [if_neg hq_9] at h
        refine lv_aload_n hx hb dX12_unit_50 rfl (lv_at hl 0 rfl) ?_
        refine g_get C hH 0 (Nat.le_of_ble_eq_true rfl) rfl fl_X12_20 (v := .ref (ad 3)) rfl dX12_unit_51 ?_
        refine lv_aload_n hx hb dX12_unit_54 rfl (lv_at hl 0 rfl) ?_
        refine g_get C hH 0 (Nat.le_of_ble_eq_true rfl) rfl fl_X12_206 (v := .int (σ_4.1 0 11)) rfl dX12_unit_55 ?_
        obtain ⟨hi_10, h⟩ := gd_ex h
        refine g_iald C hH 3 (Nat.le_of_ble_eq_true rfl) rfl (k := ((σ_4.1 0 11).toNatClampNeg)) rfl (ix_in hi_10) dX12_unit_58 ?_
        refine lv_bipush (v := 41) hx hb dX12_unit_59 (by decide) ?_
        refine lv_icmp_gt (tgt := 88) hx hb dX12_unit_61 (by decide) (fun hq_11 => ?_) (fun hq_11 => ?_)
        · rw [if_pos hq_11] at h
          exact wX12_unit_88 C  _ _ _ _ h hH (lv_sub hl [0] rfl)
        · rw [if_neg hq_11] at h
          refine lv_aload_n hx hb dX12_unit_64 rfl (lv_at hl 0 rfl) ?_
          refine lv_iconst (v := 1) hx hb dX12_unit_65 (by decide) ?_
          refine lv_aload_n hx hb dX12_unit_66 rfl (lv_at hl 0 rfl) ?_
          refine g_get C hH 0 (Nat.le_of_ble_eq_true rfl) rfl fl_X12_20 (v := .ref (ad 3)) rfl dX12_unit_67 ?_
          refine lv_aload_n hx hb dX12_unit_70 rfl (lv_at hl 0 rfl) ?_
          refine g_get C hH 0 (Nat.le_of_ble_eq_true rfl) rfl fl_X12_206 (v := .int (σ_4.1 0 11)) rfl dX12_unit_71 ?_
          obtain ⟨hi_12, h⟩ := gd_ex h
          refine g_iald C hH 3 (Nat.le_of_ble_eq_true rfl) rfl (k := ((σ_4.1 0 11).toNatClampNeg)) rfl (ix_in hi_12) dX12_unit_74 ?_
          refine lv_bipush (v := 33) hx hb dX12_unit_75 (by decide) ?_
          refine lv_isub hx hb dX12_unit_77 ?_
          obtain ⟨σ_13, hc_14, h⟩ := bdV_ex h
          refine g_cv (g_runV (rest := []) C hH hl.1 cV_X12_292 0 (Nat.le_of_ble_eq_true rfl) rfl rfl (kX12_emit l D ad κ hc_14) ⟨rfl, rfl⟩ ⟨(Nat.le_of_ble_eq_true rfl), (Nat.le_of_ble_eq_true rfl)⟩ rfl rfl (Nat.le_of_ble_eq_true rfl) dX12_unit_78 z00) hH (fun H locs hH => ?_)
          refine lv_aload_n hx hb dX12_unit_81 rfl (lv_at hl 0 rfl) ?_
          obtain ⟨σ_15, hc_16, h⟩ := bdV_ex h
          refine g_cv (g_runV (rest := []) C hH hl.1 cV_X12_224 0 (Nat.le_of_ble_eq_true rfl) rfl rfl (kX12_goesOn l D ad κ hc_16) ⟨rfl, rfl⟩ ⟨(Nat.le_of_ble_eq_true rfl), (Nat.le_of_ble_eq_true rfl)⟩ rfl rfl (Nat.le_of_ble_eq_true rfl) dX12_unit_82 z00) hH (fun H locs hH => ?_)
          refine lv_goto (tgt := 93) hx hb dX12_unit_85 (by decide) ?_
          exact g_retV C hH h dX12_unit_93
  · rw [if_neg hq_6] at h
    refine lv_aload_n hx hb dX12_unit_8 rfl (lv_at hl 0 rfl) ?_
    refine lv_iconst (v := 0) hx hb dX12_unit_9 (by decide) ?_
    refine lv_aload_n hx hb dX12_unit_10 rfl (lv_at hl 0 rfl) ?_
    refine g_get C hH 0 (Nat.le_of_ble_eq_true rfl) rfl fl_X12_27 (v := .ref (ad 5)) rfl dX12_unit_11 ?_
    refine lv_aload_n hx hb dX12_unit_14 rfl (lv_at hl 0 rfl) ?_
    refine g_get C hH 0 (Nat.le_of_ble_eq_true rfl) rfl fl_X12_206 (v := .int (σ_4.1 0 11)) rfl dX12_unit_15 ?_
    obtain ⟨hi_17, h⟩ := gd_ex h
    refine g_iald C hH 5 (Nat.le_of_ble_eq_true rfl) rfl (k := ((σ_4.1 0 11).toNatClampNeg)) rfl (ix_in hi_17) dX12_unit_18 ?_
    obtain ⟨σ_18, hc_19, h⟩ := bdV_ex h
    refine g_cv (g_runV (rest := []) C hH hl.1 cV_X12_292 0 (Nat.le_of_ble_eq_true rfl) rfl rfl (kX12_emit l D ad κ hc_19) ⟨rfl, rfl⟩ ⟨(Nat.le_of_ble_eq_true rfl), (Nat.le_of_ble_eq_true rfl)⟩ rfl rfl (Nat.le_of_ble_eq_true rfl) dX12_unit_19 z00) hH (fun H locs hH => ?_)
    refine lv_aload_n hx hb dX12_unit_22 rfl (lv_at hl 0 rfl) ?_
    obtain ⟨σ_20, hc_21, h⟩ := bdV_ex h
    refine g_cv (g_runV (rest := []) C hH hl.1 cV_X12_224 0 (Nat.le_of_ble_eq_true rfl) rfl rfl (kX12_goesOn l D ad κ hc_21) ⟨rfl, rfl⟩ ⟨(Nat.le_of_ble_eq_true rfl), (Nat.le_of_ble_eq_true rfl)⟩ rfl rfl (Nat.le_of_ble_eq_true rfl) dX12_unit_23 z00) hH (fun H locs hH => ?_)
    refine lv_goto (tgt := 93) hx hb dX12_unit_26 (by decide) ?_
    exact g_retV C hH h dX12_unit_93
-- X12_comesOut
def FX12_comesOut_84 (k0 : Int32 → HS → Option HS) (x1 : Int32) (x2 : Int32) (y1 : Int32) (σ : HS) : Option HS :=
  bdV (FX12_emit y1 (0 : Int32) σ) fun σ_1 => k0 x1 σ_1
def FX12_comesOut_42 (k0 : Int32 → HS → Option HS) (x1 : Int32) (x2 : Int32) (σ : HS) : Option HS :=
  hl_ (pI σ 0 43 ((σ.1 0 43) - (1 : Int32))) fun σ_3 => if x2 = (8 : Int32) then FX12_comesOut_84 k0 x1 x2 (2 : Int32) σ_3 else if x2 = (9 : Int32) then FX12_comesOut_84 k0 x1 x2 (3 : Int32) σ_3 else if x2 = (10 : Int32) then FX12_comesOut_84 k0 x1 x2 (4 : Int32) σ_3 else FX12_comesOut_84 k0 x1 x2 (5 : Int32) σ_3
def FX12_comesOut_0  : Nat → Int32 → HS → Option HS
  | 0, _, _ => none
  | f + 1, x1, σ => if (σ.1 0 43) ≤ 0 then some σ else gd (ix ((σ.1 0 43) - (1 : Int32)) 64) (hl_ (σ.1 28 (((σ.1 0 43) - (1 : Int32)).toNatClampNeg)) fun x2_9 => if x2_9 = (6 : Int32) then some σ else if x1 = 0 then FX12_comesOut_42 (FX12_comesOut_0  f) x1 x2_9 σ else if x2_9 = (8 : Int32) then some σ else if x2_9 = (9 : Int32) then some σ else FX12_comesOut_42 (FX12_comesOut_0  f) x1 x2_9 σ)
def FX12_comesOut (x1 : Int32) (σ : HS) : Option HS :=
  FX12_comesOut_0 fu x1 σ
set_option maxHeartbeats 4000000 in
set_option maxRecDepth 100000 in
theorem wX12_comesOut_84 (C : Cx 45 D ad κ p s m args meth c cX12_comesOut RX12 3 none) {R : HS} {k0 : Int32 → HS → Option HS} (K0 : ∀ (x1 : Int32) (σ : HS) (H : Heap) (locs : List Loc) (ls : Array Slot), k0 x1 σ = some R → Hd 45 ceM D ad κ s σ H locs → lv_has ls 3 [(0, .ref (ad 0)), (1, .int x1)] → W p l e ({ frames := 1, cells := 0, slots := 0, locals := 22 } : Room) s m args below meth c H locs 0 0 (MQ below (QV 45 ceM D ad κ R) args s 0 0 (AX 45 ad)) (F0 m 0 ls [])) : ∀ (x1 : Int32) (x2 : Int32) (y1 : Int32) (σ : HS) (H : Heap) (locs : List Loc) (ls : Array Slot), FX12_comesOut_84 k0 x1 x2 y1 σ = some R → Hd 45 ceM D ad κ s σ H locs → lv_has ls 3 [(0, .ref (ad 0)), (1, .int x1), (2, .int x2)] → W p l e ({ frames := 1, cells := 0, slots := 0, locals := 22 } : Room) s m args below meth c H locs 0 0 (MQ below (QV 45 ceM D ad κ R) args s 0 0 (AX 45 ad)) (F0 m 84 ls [.int y1, .ref (ad 0)]) := by
  have hx := C.1
  have hb := C.2.1
  have hown := C.2.2.2.1
  have hts := C.2.2.2.2.1
  intro x1 x2 y1 σ H locs ls h hH hl
  rw [FX12_comesOut_84] at h
  refine lv_iconst (v := 0) hx hb dX12_comesOut_84 (by decide) ?_
  obtain ⟨σ_1, hc_2, h⟩ := bdV_ex h
  refine g_cv (g_runV (rest := []) C hH hl.1 cV_X12_292 0 (Nat.le_of_ble_eq_true rfl) rfl rfl (kX12_emit l D ad κ hc_2) ⟨rfl, rfl⟩ ⟨(Nat.le_of_ble_eq_true rfl), (Nat.le_of_ble_eq_true rfl)⟩ rfl rfl (Nat.le_of_ble_eq_true rfl) dX12_comesOut_85 z00) hH (fun H locs hH => ?_)
  refine lv_goto (tgt := 0) hx hb dX12_comesOut_88 (by decide) ?_
  exact K0 _ _ _ _ _ h hH (lv_sub hl [0, 1] rfl)
set_option maxHeartbeats 4000000 in
set_option maxRecDepth 100000 in
theorem wX12_comesOut_42 (C : Cx 45 D ad κ p s m args meth c cX12_comesOut RX12 3 none) {R : HS} {k0 : Int32 → HS → Option HS} (K0 : ∀ (x1 : Int32) (σ : HS) (H : Heap) (locs : List Loc) (ls : Array Slot), k0 x1 σ = some R → Hd 45 ceM D ad κ s σ H locs → lv_has ls 3 [(0, .ref (ad 0)), (1, .int x1)] → W p l e ({ frames := 1, cells := 0, slots := 0, locals := 22 } : Room) s m args below meth c H locs 0 0 (MQ below (QV 45 ceM D ad κ R) args s 0 0 (AX 45 ad)) (F0 m 0 ls [])) : ∀ (x1 : Int32) (x2 : Int32) (σ : HS) (H : Heap) (locs : List Loc) (ls : Array Slot), FX12_comesOut_42 k0 x1 x2 σ = some R → Hd 45 ceM D ad κ s σ H locs → lv_has ls 3 [(0, .ref (ad 0)), (1, .int x1), (2, .int x2)] → W p l e ({ frames := 1, cells := 0, slots := 0, locals := 22 } : Room) s m args below meth c H locs 0 0 (MQ below (QV 45 ceM D ad κ R) args s 0 0 (AX 45 ad)) (F0 m 42 ls []) := by
  have hx := C.1
  have hb := C.2.1
  have hown := C.2.2.2.1
  have hts := C.2.2.2.2.1
  intro x1 x2 σ H locs ls h hH hl
  rw [FX12_comesOut_42] at h
  refine lv_aload_n hx hb dX12_comesOut_42 rfl (lv_at hl 0 rfl) ?_
  refine lv_dup hx hb dX12_comesOut_43 rfl ?_
  refine g_get C hH 0 (Nat.le_of_ble_eq_true rfl) rfl fl_X12_289 (v := .int (σ.1 0 43)) rfl dX12_comesOut_44 ?_
  refine lv_iconst (v := 1) hx hb dX12_comesOut_47 (by decide) ?_
  refine lv_isub hx hb dX12_comesOut_48 ?_
  obtain ⟨σ_3, eσ_3, h⟩ := hl_ex h
  refine g_putI C hH 0 (Nat.le_of_ble_eq_true rfl) rfl fp_X12_289 rfl rfl (Nat.le_of_ble_eq_true rfl) rfl dX12_comesOut_49 (fun H locs hH => ?_)
  rw [← eσ_3] at hH
  refine lv_aload_n hx hb dX12_comesOut_52 rfl (lv_at hl 0 rfl) ?_
  refine lv_iload_n hx hb dX12_comesOut_53 rfl (lv_at hl 2 rfl) ?_
  refine lv_bipush (v := 8) hx hb dX12_comesOut_54 (by decide) ?_
  refine lv_icmp_ne (tgt := 63) hx hb dX12_comesOut_56 (by decide) (fun hq_4 => ?_) (fun hq_4 => ?_)
  · rw [if_neg hq_4] at h
    refine lv_iload_n hx hb dX12_comesOut_63 rfl (lv_at hl 2 rfl) ?_
    refine lv_bipush (v := 9) hx hb dX12_comesOut_64 (by decide) ?_
    refine lv_icmp_ne (tgt := 73) hx hb dX12_comesOut_66 (by decide) (fun hq_5 => ?_) (fun hq_5 => ?_)
    · rw [if_neg hq_5] at h
      refine lv_iload_n hx hb dX12_comesOut_73 rfl (lv_at hl 2 rfl) ?_
      refine lv_bipush (v := 10) hx hb dX12_comesOut_74 (by decide) ?_
      refine lv_icmp_ne (tgt := 83) hx hb dX12_comesOut_76 (by decide) (fun hq_6 => ?_) (fun hq_6 => ?_)
      · rw [if_neg hq_6] at h
        refine lv_iconst (v := 5) hx hb dX12_comesOut_83 (by decide) ?_
        exact wX12_comesOut_84 C K0  _ _ _ _ _ _ _ h hH (lv_sub hl [0, 1, 2] rfl)
      · rw [if_pos hq_6] at h
        refine lv_iconst (v := 4) hx hb dX12_comesOut_79 (by decide) ?_
        refine lv_goto (tgt := 84) hx hb dX12_comesOut_80 (by decide) ?_
        exact wX12_comesOut_84 C K0  _ _ _ _ _ _ _ h hH (lv_sub hl [0, 1, 2] rfl)
    · rw [if_pos hq_5] at h
      refine lv_iconst (v := 3) hx hb dX12_comesOut_69 (by decide) ?_
      refine lv_goto (tgt := 84) hx hb dX12_comesOut_70 (by decide) ?_
      exact wX12_comesOut_84 C K0  _ _ _ _ _ _ _ h hH (lv_sub hl [0, 1, 2] rfl)
  · rw [if_pos hq_4] at h
    refine lv_iconst (v := 2) hx hb dX12_comesOut_59 (by decide) ?_
    refine lv_goto (tgt := 84) hx hb dX12_comesOut_60 (by decide) ?_
    exact wX12_comesOut_84 C K0  _ _ _ _ _ _ _ h hH (lv_sub hl [0, 1, 2] rfl)
set_option maxHeartbeats 4000000 in
set_option maxRecDepth 100000 in
theorem wX12_comesOut_0 (C : Cx 45 D ad κ p s m args meth c cX12_comesOut RX12 3 none) {R : HS} : ∀ (f : Nat) (x1 : Int32) (σ : HS) (H : Heap) (locs : List Loc) (ls : Array Slot), FX12_comesOut_0  f x1 σ = some R → Hd 45 ceM D ad κ s σ H locs → lv_has ls 3 [(0, .ref (ad 0)), (1, .int x1)] → W p l e ({ frames := 1, cells := 0, slots := 0, locals := 22 } : Room) s m args below meth c H locs 0 0 (MQ below (QV 45 ceM D ad κ R) args s 0 0 (AX 45 ad)) (F0 m 0 ls []) := by
  have hx := C.1
  have hb := C.2.1
  have hown := C.2.2.2.1
  have hts := C.2.2.2.2.1
  intro f
  induction f with
  | zero =>
    intro x1 σ H locs ls h hH hl
    cases h
  | succ f ih =>
    intro x1 σ H locs ls h hH hl
    rw [FX12_comesOut_0] at h
    refine lv_aload_n hx hb dX12_comesOut_0 rfl (lv_at hl 0 rfl) ?_
    refine g_get C hH 0 (Nat.le_of_ble_eq_true rfl) rfl fl_X12_289 (v := .int (σ.1 0 43)) rfl dX12_comesOut_1 ?_
    refine lv_if_le (tgt := 91) hx hb dX12_comesOut_4 (by decide) (fun hq_7 => ?_) (fun hq_7 => ?_)
    · rw [if_pos hq_7] at h
      exact g_retV C hH h dX12_comesOut_91
    · rw [if_neg hq_7] at h
      refine lv_aload_n hx hb dX12_comesOut_7 rfl (lv_at hl 0 rfl) ?_
      refine g_get C hH 0 (Nat.le_of_ble_eq_true rfl) rfl fl_X12_101 (v := .ref (ad 28)) rfl dX12_comesOut_8 ?_
      refine lv_aload_n hx hb dX12_comesOut_11 rfl (lv_at hl 0 rfl) ?_
      refine g_get C hH 0 (Nat.le_of_ble_eq_true rfl) rfl fl_X12_289 (v := .int (σ.1 0 43)) rfl dX12_comesOut_12 ?_
      refine lv_iconst (v := 1) hx hb dX12_comesOut_15 (by decide) ?_
      refine lv_isub hx hb dX12_comesOut_16 ?_
      obtain ⟨hi_8, h⟩ := gd_ex h
      refine g_iald C hH 28 (Nat.le_of_ble_eq_true rfl) rfl (k := (((σ.1 0 43) - (1 : Int32)).toNatClampNeg)) rfl (ix_in hi_8) dX12_comesOut_17 ?_
      obtain ⟨x2_9, ex2_9, h⟩ := hl_ex h
      refine lv_eqi ex2_9 ?_
      refine lv_istore_n (lv' := [(2, .int x2_9), (0, .ref (ad 0)), (1, .int x1)]) hx hb dX12_comesOut_18 rfl hl (by decide) rfl (fun ls hl => ?_)
      refine lv_iload_n hx hb dX12_comesOut_19 rfl (lv_at hl 0 rfl) ?_
      refine lv_bipush (v := 6) hx hb dX12_comesOut_20 (by decide) ?_
      refine lv_icmp_eq (tgt := 41) hx hb dX12_comesOut_22 (by decide) (fun hq_10 => ?_) (fun hq_10 => ?_)
      · rw [if_pos hq_10] at h
        exact g_retV C hH h dX12_comesOut_41
      · rw [if_neg hq_10] at h
        refine lv_iload_n hx hb dX12_comesOut_25 rfl (lv_at hl 2 rfl) ?_
        refine lv_if_eq (tgt := 42) hx hb dX12_comesOut_26 (by decide) (fun hq_11 => ?_) (fun hq_11 => ?_)
        · rw [if_pos hq_11] at h
          exact wX12_comesOut_42 C ih  _ _ _ _ _ _ h hH (lv_sub hl [1, 2, 0] rfl)
        · rw [if_neg hq_11] at h
          refine lv_iload_n hx hb dX12_comesOut_29 rfl (lv_at hl 0 rfl) ?_
          refine lv_bipush (v := 8) hx hb dX12_comesOut_30 (by decide) ?_
          refine lv_icmp_eq (tgt := 41) hx hb dX12_comesOut_32 (by decide) (fun hq_12 => ?_) (fun hq_12 => ?_)
          · rw [if_pos hq_12] at h
            exact g_retV C hH h dX12_comesOut_41
          · rw [if_neg hq_12] at h
            refine lv_iload_n hx hb dX12_comesOut_35 rfl (lv_at hl 0 rfl) ?_
            refine lv_bipush (v := 9) hx hb dX12_comesOut_36 (by decide) ?_
            refine lv_icmp_ne (tgt := 42) hx hb dX12_comesOut_38 (by decide) (fun hq_13 => ?_) (fun hq_13 => ?_)
            · rw [if_neg hq_13] at h
              exact wX12_comesOut_42 C ih  _ _ _ _ _ _ h hH (lv_sub hl [1, 2, 0] rfl)
            · rw [if_pos hq_13] at h
              exact g_retV C hH h dX12_comesOut_41
set_option maxHeartbeats 4000000 in
set_option maxRecDepth 100000 in
theorem kX12_comesOut (l : Launch) (D : va_G) (ad : Nat → Nat) (κ : KC) {x1 : Int32} {σ : HS} {R : HS} (h : FX12_comesOut x1 σ = some R) : MtV l 45 ceM D ad κ yX12_comesOut cX12_comesOut 3 none ({ frames := 1, cells := 0, slots := 0, locals := 22 } : Room) [.ref (ad 0), .int x1] σ R := by
  refine open_ (by decide) (Nat.le_of_ble_eq_true rfl) (la := [(0, .ref (ad 0)), (1, .int x1)]) rfl ?_
  intro p e s m below meth c ls C hH hl
  replace C : Cx 45 D ad κ p s m _ meth c cX12_comesOut RX12 3 none := C
  have hx := C.1
  have hb := C.2.1
  have hown := C.2.2.2.1
  have hts := C.2.2.2.2.1
  rw [FX12_comesOut] at h
  exact wX12_comesOut_0 C _ _ _ _ _ _ h hH (lv_sub hl [0, 1] rfl)
-- X12_expression
def FX12_expression_46 (k12 : Int32 → Int32 → HS → Option HS) (k23 : Int32 → Int32 → HS → Option HS) (x1 : Int32) (x2 : Int32) (σ : HS) : Option HS :=
  hl_ (pI σ 0 12 ((σ.1 0 12) + (1 : Int32))) fun σ_1 => bdV (FX12_goesOn σ_1) fun σ_2 => gd (ix (σ_2.1 0 43) 64) (hl_ (pI σ_2 28 ((σ_2.1 0 43).toNatClampNeg) (6 : Int32)) fun σ_5 => hl_ (pI σ_5 0 43 ((σ_5.1 0 43) + (1 : Int32))) fun σ_6 => k23 x1 x2 σ_6)
def FX12_expression_204  (x1 : Int32) (x2 : Int32) (σ : HS) : Option HS :=
  bdV (FX12_comesOut (0 : Int32) σ) fun σ_7 => some σ_7
def FX12_expression_234 (k12 : Int32 → Int32 → HS → Option HS) (x1 : Int32) (x2 : Int32) (y1 : Int32) (σ : HS) : Option HS :=
  bdV (FX12_comesOut y1 σ) fun σ_9 => gd (ix (σ_9.1 0 11) 403) (gd (ix (σ_9.1 0 43) 64) (hl_ (pI σ_9 28 ((σ_9.1 0 43).toNatClampNeg) (σ_9.1 3 ((σ_9.1 0 11).toNatClampNeg))) fun σ_13 => hl_ (pI σ_13 0 43 ((σ_13.1 0 43) + (1 : Int32))) fun σ_14 => bdV (FX12_goesOn σ_14) fun σ_15 => k12 x1 x2 σ_15))
def FX12_expression_229 (k12 : Int32 → Int32 → HS → Option HS) (x1 : Int32) (x2 : Int32) (σ : HS) : Option HS :=
  FX12_expression_234 k12 x1 x2 (1 : Int32) σ
def FX12_expression_186 (k12 : Int32 → Int32 → HS → Option HS) (x1 : Int32) (x2 : Int32) (y0 : Int32) (σ : HS) : Option HS :=
  if y0 = 0 then if (σ.1 0 12) ≤ x1 then FX12_expression_204 x1 y0 σ else bdV (FX12_fail (1 : Int32) σ) fun σ_27 => FX12_expression_204 x1 y0 σ_27 else bdI (FX12_is (10 : Int32) σ) fun r_18 σ_19 => if r_18 = 0 then bdI (FX12_is (15 : Int32) σ_19) fun r_22 σ_23 => if r_22 = 0 then FX12_expression_234 k12 x1 y0 (0 : Int32) σ_23 else FX12_expression_229 k12 x1 y0 σ_23 else FX12_expression_229 k12 x1 y0 σ_19
def FX12_expression_181 (k12 : Int32 → Int32 → HS → Option HS) (x1 : Int32) (x2 : Int32) (σ : HS) : Option HS :=
  FX12_expression_186 k12 x1 x2 (1 : Int32) σ
def FX12_expression_145 (k12 : Int32 → Int32 → HS → Option HS) (x1 : Int32) (x2 : Int32) (σ : HS) : Option HS :=
  bdI (FX12_is (8 : Int32) σ) fun r_29 σ_30 => if r_29 = 0 then bdI (FX12_is (9 : Int32) σ_30) fun r_33 σ_34 => if r_33 = 0 then bdI (FX12_is (10 : Int32) σ_34) fun r_37 σ_38 => if r_37 = 0 then bdI (FX12_is (15 : Int32) σ_38) fun r_41 σ_42 => if r_41 = 0 then FX12_expression_186 k12 x1 x2 (0 : Int32) σ_42 else FX12_expression_181 k12 x1 x2 σ_42 else FX12_expression_181 k12 x1 x2 σ_38 else FX12_expression_181 k12 x1 x2 σ_34 else FX12_expression_181 k12 x1 x2 σ_30
def FX12_expression_96 (k12 : Int32 → Int32 → HS → Option HS) : Nat → Int32 → Int32 → HS → Option HS
  | 0, _, _, _ => none
  | f + 1, x1, x2, σ => bdI (FX12_is (7 : Int32) σ) fun r_45 σ_46 => if r_45 = 0 then FX12_expression_145 k12 x1 x2 σ_46 else if (σ_46.1 0 12) ≤ x1 then FX12_expression_145 k12 x1 x2 σ_46 else bdV (FX12_comesOut (0 : Int32) σ_46) fun σ_50 => hl_ (pI σ_50 0 43 ((σ_50.1 0 43) - (1 : Int32))) fun σ_52 => hl_ (pI σ_52 0 12 ((σ_52.1 0 12) - (1 : Int32))) fun σ_53 => bdV (FX12_goesOn σ_53) fun σ_54 => FX12_expression_96 k12 f x1 x2 σ_54
def FX12_expression_23 (k12 : Int32 → Int32 → HS → Option HS) : Nat → Int32 → Int32 → HS → Option HS
  | 0, _, _, _ => none
  | f + 1, x1, x2, σ => bdI (FX12_is (6 : Int32) σ) fun r_56 σ_57 => if r_56 = 0 then bdV (FX12_unit σ_57) fun σ_60 => if (σ_60.1 0 13) ≤ 0 then FX12_expression_96 k12 fu x1 x2 σ_60 else some σ_60 else if (σ_57.1 0 12) = (6 : Int32) then bdV (FX12_fail (2 : Int32) σ_57) fun σ_64 => FX12_expression_46 k12 (FX12_expression_23 k12 f) x1 x2 σ_64 else FX12_expression_46 k12 (FX12_expression_23 k12 f) x1 x2 σ_57
def FX12_expression_12  : Nat → Int32 → Int32 → HS → Option HS
  | 0, _, _, _ => none
  | f + 1, x1, x2, σ => if x2 = 0 then some σ else if (σ.1 0 13) = 0 then FX12_expression_23 (FX12_expression_12  f) fu x1 x2 σ else some σ
def FX12_expression (σ : HS) : Option HS :=
  hl_ (pI σ 0 43 (0 : Int32)) fun σ_68 => hl_ (σ_68.1 0 12) fun x1_69 => FX12_expression_12 fu x1_69 (1 : Int32) σ_68
set_option maxHeartbeats 4000000 in
set_option maxRecDepth 100000 in
theorem wX12_expression_46 (C : Cx 45 D ad κ p s m args meth c cX12_expression RX12 3 none) {R : HS} {k12 : Int32 → Int32 → HS → Option HS} (K12 : ∀ (x1 : Int32) (x2 : Int32) (σ : HS) (H : Heap) (locs : List Loc) (ls : Array Slot), k12 x1 x2 σ = some R → Hd 45 ceM D ad κ s σ H locs → lv_has ls 3 [(0, .ref (ad 0)), (1, .int x1), (2, .int x2)] → W p l e ({ frames := 3, cells := 0, slots := 0, locals := 61 } : Room) s m args below meth c H locs 0 0 (MQ below (QV 45 ceM D ad κ R) args s 0 0 (AX 45 ad)) (F0 m 12 ls [])) {k23 : Int32 → Int32 → HS → Option HS} (K23 : ∀ (x1 : Int32) (x2 : Int32) (σ : HS) (H : Heap) (locs : List Loc) (ls : Array Slot), k23 x1 x2 σ = some R → Hd 45 ceM D ad κ s σ H locs → lv_has ls 3 [(0, .ref (ad 0)), (1, .int x1), (2, .int x2)] → W p l e ({ frames := 3, cells := 0, slots := 0, locals := 61 } : Room) s m args below meth c H locs 0 0 (MQ below (QV 45 ceM D ad κ R) args s 0 0 (AX 45 ad)) (F0 m 23 ls [])) : ∀ (x1 : Int32) (x2 : Int32) (σ : HS) (H : Heap) (locs : List Loc) (ls : Array Slot), FX12_expression_46 k12 k23 x1 x2 σ = some R → Hd 45 ceM D ad κ s σ H locs → lv_has ls 3 [(0, .ref (ad 0)), (1, .int x1), (2, .int x2)] → W p l e ({ frames := 3, cells := 0, slots := 0, locals := 61 } : Room) s m args below meth c H locs 0 0 (MQ below (QV 45 ceM D ad κ R) args s 0 0 (AX 45 ad)) (F0 m 46 ls []) := by
  have hx := C.1
  have hb := C.2.1
  have hown := C.2.2.2.1
  have hts := C.2.2.2.2.1
  intro x1 x2 σ H locs ls h hH hl
  rw [FX12_expression_46] at h
  refine lv_aload_n hx hb dX12_expression_46 rfl (lv_at hl 0 rfl) ?_
  refine lv_dup hx hb dX12_expression_47 rfl ?_
  refine g_get C hH 0 (Nat.le_of_ble_eq_true rfl) rfl fl_X12_230 (v := .int (σ.1 0 12)) rfl dX12_expression_48 ?_
  refine lv_iconst (v := 1) hx hb dX12_expression_51 (by decide) ?_
  refine lv_iadd hx hb dX12_expression_52 ?_
  obtain ⟨σ_1, eσ_1, h⟩ := hl_ex h
  refine g_putI C hH 0 (Nat.le_of_ble_eq_true rfl) rfl fp_X12_230 rfl rfl (Nat.le_of_ble_eq_true rfl) rfl dX12_expression_53 (fun H locs hH => ?_)
  rw [← eσ_1] at hH
  refine lv_aload_n hx hb dX12_expression_56 rfl (lv_at hl 0 rfl) ?_
  obtain ⟨σ_2, hc_3, h⟩ := bdV_ex h
  refine g_cv (g_runV (rest := []) C hH hl.1 cV_X12_224 0 (Nat.le_of_ble_eq_true rfl) rfl rfl (kX12_goesOn l D ad κ hc_3) ⟨rfl, rfl⟩ ⟨(Nat.le_of_ble_eq_true rfl), (Nat.le_of_ble_eq_true rfl)⟩ rfl rfl (Nat.le_of_ble_eq_true rfl) dX12_expression_57 z00) hH (fun H locs hH => ?_)
  refine lv_aload_n hx hb dX12_expression_60 rfl (lv_at hl 0 rfl) ?_
  refine g_get C hH 0 (Nat.le_of_ble_eq_true rfl) rfl fl_X12_101 (v := .ref (ad 28)) rfl dX12_expression_61 ?_
  refine lv_aload_n hx hb dX12_expression_64 rfl (lv_at hl 0 rfl) ?_
  refine g_get C hH 0 (Nat.le_of_ble_eq_true rfl) rfl fl_X12_289 (v := .int (σ_2.1 0 43)) rfl dX12_expression_65 ?_
  refine lv_bipush (v := 6) hx hb dX12_expression_68 (by decide) ?_
  obtain ⟨hi_4, h⟩ := gd_ex h
  obtain ⟨σ_5, eσ_5, h⟩ := hl_ex h
  refine g_iast C hH 28 (Nat.le_of_ble_eq_true rfl) (fun _ _ => rfl) (k := ((σ_2.1 0 43).toNatClampNeg)) rfl (ix_in hi_4) dX12_expression_70 (fun H locs hH => ?_)
  rw [← eσ_5] at hH
  refine lv_aload_n hx hb dX12_expression_71 rfl (lv_at hl 0 rfl) ?_
  refine lv_dup hx hb dX12_expression_72 rfl ?_
  refine g_get C hH 0 (Nat.le_of_ble_eq_true rfl) rfl fl_X12_289 (v := .int (σ_5.1 0 43)) rfl dX12_expression_73 ?_
  refine lv_iconst (v := 1) hx hb dX12_expression_76 (by decide) ?_
  refine lv_iadd hx hb dX12_expression_77 ?_
  obtain ⟨σ_6, eσ_6, h⟩ := hl_ex h
  refine g_putI C hH 0 (Nat.le_of_ble_eq_true rfl) rfl fp_X12_289 rfl rfl (Nat.le_of_ble_eq_true rfl) rfl dX12_expression_78 (fun H locs hH => ?_)
  rw [← eσ_6] at hH
  refine lv_goto (tgt := 23) hx hb dX12_expression_81 (by decide) ?_
  exact K23 _ _ _ _ _ _ h hH (lv_sub hl [0, 1, 2] rfl)
set_option maxHeartbeats 4000000 in
set_option maxRecDepth 100000 in
theorem wX12_expression_204 (C : Cx 45 D ad κ p s m args meth c cX12_expression RX12 3 none) {R : HS} : ∀ (x1 : Int32) (x2 : Int32) (σ : HS) (H : Heap) (locs : List Loc) (ls : Array Slot), FX12_expression_204  x1 x2 σ = some R → Hd 45 ceM D ad κ s σ H locs → lv_has ls 3 [(0, .ref (ad 0)), (1, .int x1), (2, .int x2)] → W p l e ({ frames := 3, cells := 0, slots := 0, locals := 61 } : Room) s m args below meth c H locs 0 0 (MQ below (QV 45 ceM D ad κ R) args s 0 0 (AX 45 ad)) (F0 m 204 ls []) := by
  have hx := C.1
  have hb := C.2.1
  have hown := C.2.2.2.1
  have hts := C.2.2.2.2.1
  intro x1 x2 σ H locs ls h hH hl
  rw [FX12_expression_204] at h
  refine lv_aload_n hx hb dX12_expression_204 rfl (lv_at hl 0 rfl) ?_
  refine lv_iconst (v := 0) hx hb dX12_expression_205 (by decide) ?_
  obtain ⟨σ_7, hc_8, h⟩ := bdV_ex h
  refine g_cv (g_runV (rest := []) C hH hl.1 cV_X12_298 0 (Nat.le_of_ble_eq_true rfl) rfl rfl (kX12_comesOut l D ad κ hc_8) ⟨rfl, rfl⟩ ⟨(Nat.le_of_ble_eq_true rfl), (Nat.le_of_ble_eq_true rfl)⟩ rfl rfl (Nat.le_of_ble_eq_true rfl) dX12_expression_206 z00) hH (fun H locs hH => ?_)
  exact g_retV C hH h dX12_expression_209
set_option maxHeartbeats 4000000 in
set_option maxRecDepth 100000 in
theorem wX12_expression_234 (C : Cx 45 D ad κ p s m args meth c cX12_expression RX12 3 none) {R : HS} {k12 : Int32 → Int32 → HS → Option HS} (K12 : ∀ (x1 : Int32) (x2 : Int32) (σ : HS) (H : Heap) (locs : List Loc) (ls : Array Slot), k12 x1 x2 σ = some R → Hd 45 ceM D ad κ s σ H locs → lv_has ls 3 [(0, .ref (ad 0)), (1, .int x1), (2, .int x2)] → W p l e ({ frames := 3, cells := 0, slots := 0, locals := 61 } : Room) s m args below meth c H locs 0 0 (MQ below (QV 45 ceM D ad κ R) args s 0 0 (AX 45 ad)) (F0 m 12 ls [])) : ∀ (x1 : Int32) (x2 : Int32) (y1 : Int32) (σ : HS) (H : Heap) (locs : List Loc) (ls : Array Slot), FX12_expression_234 k12 x1 x2 y1 σ = some R → Hd 45 ceM D ad κ s σ H locs → lv_has ls 3 [(0, .ref (ad 0)), (1, .int x1), (2, .int x2)] → W p l e ({ frames := 3, cells := 0, slots := 0, locals := 61 } : Room) s m args below meth c H locs 0 0 (MQ below (QV 45 ceM D ad κ R) args s 0 0 (AX 45 ad)) (F0 m 234 ls [.int y1, .ref (ad 0)]) := by
  have hx := C.1
  have hb := C.2.1
  have hown := C.2.2.2.1
  have hts := C.2.2.2.2.1
  intro x1 x2 y1 σ H locs ls h hH hl
  rw [FX12_expression_234] at h
  obtain ⟨σ_9, hc_10, h⟩ := bdV_ex h
  refine g_cv (g_runV (rest := []) C hH hl.1 cV_X12_298 0 (Nat.le_of_ble_eq_true rfl) rfl rfl (kX12_comesOut l D ad κ hc_10) ⟨rfl, rfl⟩ ⟨(Nat.le_of_ble_eq_true rfl), (Nat.le_of_ble_eq_true rfl)⟩ rfl rfl (Nat.le_of_ble_eq_true rfl) dX12_expression_234 z00) hH (fun H locs hH => ?_)
  refine lv_aload_n hx hb dX12_expression_237 rfl (lv_at hl 0 rfl) ?_
  refine g_get C hH 0 (Nat.le_of_ble_eq_true rfl) rfl fl_X12_101 (v := .ref (ad 28)) rfl dX12_expression_238 ?_
  refine lv_aload_n hx hb dX12_expression_241 rfl (lv_at hl 0 rfl) ?_
  refine g_get C hH 0 (Nat.le_of_ble_eq_true rfl) rfl fl_X12_289 (v := .int (σ_9.1 0 43)) rfl dX12_expression_242 ?_
  refine lv_aload_n hx hb dX12_expression_245 rfl (lv_at hl 0 rfl) ?_
  refine g_get C hH 0 (Nat.le_of_ble_eq_true rfl) rfl fl_X12_20 (v := .ref (ad 3)) rfl dX12_expression_246 ?_
  refine lv_aload_n hx hb dX12_expression_249 rfl (lv_at hl 0 rfl) ?_
  refine g_get C hH 0 (Nat.le_of_ble_eq_true rfl) rfl fl_X12_206 (v := .int (σ_9.1 0 11)) rfl dX12_expression_250 ?_
  obtain ⟨hi_11, h⟩ := gd_ex h
  refine g_iald C hH 3 (Nat.le_of_ble_eq_true rfl) rfl (k := ((σ_9.1 0 11).toNatClampNeg)) rfl (ix_in hi_11) dX12_expression_253 ?_
  obtain ⟨hi_12, h⟩ := gd_ex h
  obtain ⟨σ_13, eσ_13, h⟩ := hl_ex h
  refine g_iast C hH 28 (Nat.le_of_ble_eq_true rfl) (fun _ _ => rfl) (k := ((σ_9.1 0 43).toNatClampNeg)) rfl (ix_in hi_12) dX12_expression_254 (fun H locs hH => ?_)
  rw [← eσ_13] at hH
  refine lv_aload_n hx hb dX12_expression_255 rfl (lv_at hl 0 rfl) ?_
  refine lv_dup hx hb dX12_expression_256 rfl ?_
  refine g_get C hH 0 (Nat.le_of_ble_eq_true rfl) rfl fl_X12_289 (v := .int (σ_13.1 0 43)) rfl dX12_expression_257 ?_
  refine lv_iconst (v := 1) hx hb dX12_expression_260 (by decide) ?_
  refine lv_iadd hx hb dX12_expression_261 ?_
  obtain ⟨σ_14, eσ_14, h⟩ := hl_ex h
  refine g_putI C hH 0 (Nat.le_of_ble_eq_true rfl) rfl fp_X12_289 rfl rfl (Nat.le_of_ble_eq_true rfl) rfl dX12_expression_262 (fun H locs hH => ?_)
  rw [← eσ_14] at hH
  refine lv_aload_n hx hb dX12_expression_265 rfl (lv_at hl 0 rfl) ?_
  obtain ⟨σ_15, hc_16, h⟩ := bdV_ex h
  refine g_cv (g_runV (rest := []) C hH hl.1 cV_X12_224 0 (Nat.le_of_ble_eq_true rfl) rfl rfl (kX12_goesOn l D ad κ hc_16) ⟨rfl, rfl⟩ ⟨(Nat.le_of_ble_eq_true rfl), (Nat.le_of_ble_eq_true rfl)⟩ rfl rfl (Nat.le_of_ble_eq_true rfl) dX12_expression_266 z00) hH (fun H locs hH => ?_)
  refine lv_goto (tgt := 12) hx hb dX12_expression_269 (by decide) ?_
  exact K12 _ _ _ _ _ _ h hH (lv_sub hl [0, 1, 2] rfl)
set_option maxHeartbeats 4000000 in
set_option maxRecDepth 100000 in
theorem wX12_expression_229 (C : Cx 45 D ad κ p s m args meth c cX12_expression RX12 3 none) {R : HS} {k12 : Int32 → Int32 → HS → Option HS} (K12 : ∀ (x1 : Int32) (x2 : Int32) (σ : HS) (H : Heap) (locs : List Loc) (ls : Array Slot), k12 x1 x2 σ = some R → Hd 45 ceM D ad κ s σ H locs → lv_has ls 3 [(0, .ref (ad 0)), (1, .int x1), (2, .int x2)] → W p l e ({ frames := 3, cells := 0, slots := 0, locals := 61 } : Room) s m args below meth c H locs 0 0 (MQ below (QV 45 ceM D ad κ R) args s 0 0 (AX 45 ad)) (F0 m 12 ls [])) : ∀ (x1 : Int32) (x2 : Int32) (σ : HS) (H : Heap) (locs : List Loc) (ls : Array Slot), FX12_expression_229 k12 x1 x2 σ = some R → Hd 45 ceM D ad κ s σ H locs → lv_has ls 3 [(0, .ref (ad 0)), (1, .int x1), (2, .int x2)] → W p l e ({ frames := 3, cells := 0, slots := 0, locals := 61 } : Room) s m args below meth c H locs 0 0 (MQ below (QV 45 ceM D ad κ R) args s 0 0 (AX 45 ad)) (F0 m 229 ls [.ref (ad 0)]) := by
  have hx := C.1
  have hb := C.2.1
  have hown := C.2.2.2.1
  have hts := C.2.2.2.2.1
  intro x1 x2 σ H locs ls h hH hl
  rw [FX12_expression_229] at h
  refine lv_iconst (v := 1) hx hb dX12_expression_229 (by decide) ?_
  refine lv_goto (tgt := 234) hx hb dX12_expression_230 (by decide) ?_
  exact wX12_expression_234 C K12  _ _ _ _ _ _ _ h hH (lv_sub hl [0, 1, 2] rfl)
set_option maxHeartbeats 4000000 in
set_option maxRecDepth 100000 in
theorem wX12_expression_186 (C : Cx 45 D ad κ p s m args meth c cX12_expression RX12 3 none) {R : HS} {k12 : Int32 → Int32 → HS → Option HS} (K12 : ∀ (x1 : Int32) (x2 : Int32) (σ : HS) (H : Heap) (locs : List Loc) (ls : Array Slot), k12 x1 x2 σ = some R → Hd 45 ceM D ad κ s σ H locs → lv_has ls 3 [(0, .ref (ad 0)), (1, .int x1), (2, .int x2)] → W p l e ({ frames := 3, cells := 0, slots := 0, locals := 61 } : Room) s m args below meth c H locs 0 0 (MQ below (QV 45 ceM D ad κ R) args s 0 0 (AX 45 ad)) (F0 m 12 ls [])) : ∀ (x1 : Int32) (x2 : Int32) (y0 : Int32) (σ : HS) (H : Heap) (locs : List Loc) (ls : Array Slot), FX12_expression_186 k12 x1 x2 y0 σ = some R → Hd 45 ceM D ad κ s σ H locs → lv_has ls 3 [(0, .ref (ad 0)), (1, .int x1), (2, .int x2)] → W p l e ({ frames := 3, cells := 0, slots := 0, locals := 61 } : Room) s m args below meth c H locs 0 0 (MQ below (QV 45 ceM D ad κ R) args s 0 0 (AX 45 ad)) (F0 m 186 ls [.int y0]) := by
  have hx := C.1
  have hb := C.2.1
  have hown := C.2.2.2.1
  have hts := C.2.2.2.2.1
  intro x1 x2 y0 σ H locs ls h hH hl
  rw [FX12_expression_186] at h
  refine lv_istore_n (lv' := [(2, .int y0), (0, .ref (ad 0)), (1, .int x1)]) hx hb dX12_expression_186 rfl hl (by decide) rfl (fun ls hl => ?_)
  refine lv_iload_n hx hb dX12_expression_187 rfl (lv_at hl 0 rfl) ?_
  refine lv_if_ne (tgt := 210) hx hb dX12_expression_188 (by decide) (fun hq_17 => ?_) (fun hq_17 => ?_)
  · rw [if_neg hq_17] at h
    refine lv_aload_n hx hb dX12_expression_210 rfl (lv_at hl 1 rfl) ?_
    refine lv_aload_n hx hb dX12_expression_211 rfl (lv_at hl 1 rfl) ?_
    refine lv_bipush (v := 10) hx hb dX12_expression_212 (by decide) ?_
    obtain ⟨r_18, σ_19, hc_20, h⟩ := bdI_ex h
    refine g_ci (g_runV (rest := [.ref (ad 0)]) C hH hl.1 cV_X12_221 0 (Nat.le_of_ble_eq_true rfl) rfl rfl (kX12_is l D ad κ hc_20) ⟨rfl, rfl⟩ ⟨(Nat.le_of_ble_eq_true rfl), (Nat.le_of_ble_eq_true rfl)⟩ rfl rfl (Nat.le_of_ble_eq_true rfl) dX12_expression_214 z00) hH (fun H locs hH => ?_)
    refine lv_if_ne (tgt := 229) hx hb dX12_expression_217 (by decide) (fun hq_21 => ?_) (fun hq_21 => ?_)
    · rw [if_neg hq_21] at h
      exact wX12_expression_229 C K12  _ _ _ _ _ _ h hH (lv_sub hl [1, 2, 0] rfl)
    · rw [if_pos hq_21] at h
      refine lv_aload_n hx hb dX12_expression_220 rfl (lv_at hl 1 rfl) ?_
      refine lv_bipush (v := 15) hx hb dX12_expression_221 (by decide) ?_
      obtain ⟨r_22, σ_23, hc_24, h⟩ := bdI_ex h
      refine g_ci (g_runV (rest := [.ref (ad 0)]) C hH hl.1 cV_X12_221 0 (Nat.le_of_ble_eq_true rfl) rfl rfl (kX12_is l D ad κ hc_24) ⟨rfl, rfl⟩ ⟨(Nat.le_of_ble_eq_true rfl), (Nat.le_of_ble_eq_true rfl)⟩ rfl rfl (Nat.le_of_ble_eq_true rfl) dX12_expression_223 z00) hH (fun H locs hH => ?_)
      refine lv_if_eq (tgt := 233) hx hb dX12_expression_226 (by decide) (fun hq_25 => ?_) (fun hq_25 => ?_)
      · rw [if_pos hq_25] at h
        refine lv_iconst (v := 0) hx hb dX12_expression_233 (by decide) ?_
        exact wX12_expression_234 C K12  _ _ _ _ _ _ _ h hH (lv_sub hl [1, 2, 0] rfl)
      · rw [if_neg hq_25] at h
        exact wX12_expression_229 C K12  _ _ _ _ _ _ h hH (lv_sub hl [1, 2, 0] rfl)
  · rw [if_pos hq_17] at h
    refine lv_aload_n hx hb dX12_expression_191 rfl (lv_at hl 1 rfl) ?_
    refine g_get C hH 0 (Nat.le_of_ble_eq_true rfl) rfl fl_X12_230 (v := .int (σ.1 0 12)) rfl dX12_expression_192 ?_
    refine lv_iload_n hx hb dX12_expression_195 rfl (lv_at hl 2 rfl) ?_
    refine lv_icmp_le (tgt := 204) hx hb dX12_expression_196 (by decide) (fun hq_26 => ?_) (fun hq_26 => ?_)
    · rw [if_pos hq_26] at h
      exact wX12_expression_204 C  _ _ _ _ _ _ h hH (lv_sub hl [1, 2, 0] rfl)
    · rw [if_neg hq_26] at h
      refine lv_aload_n hx hb dX12_expression_199 rfl (lv_at hl 1 rfl) ?_
      refine lv_iconst (v := 1) hx hb dX12_expression_200 (by decide) ?_
      obtain ⟨σ_27, hc_28, h⟩ := bdV_ex h
      refine g_cv (g_runV (rest := []) C hH hl.1 cV_X12_218 0 (Nat.le_of_ble_eq_true rfl) rfl rfl (kX12_fail l D ad κ hc_28) ⟨rfl, rfl⟩ ⟨(Nat.le_of_ble_eq_true rfl), (Nat.le_of_ble_eq_true rfl)⟩ rfl rfl (Nat.le_of_ble_eq_true rfl) dX12_expression_201 z00) hH (fun H locs hH => ?_)
      exact wX12_expression_204 C  _ _ _ _ _ _ h hH (lv_sub hl [1, 2, 0] rfl)
set_option maxHeartbeats 4000000 in
set_option maxRecDepth 100000 in
theorem wX12_expression_181 (C : Cx 45 D ad κ p s m args meth c cX12_expression RX12 3 none) {R : HS} {k12 : Int32 → Int32 → HS → Option HS} (K12 : ∀ (x1 : Int32) (x2 : Int32) (σ : HS) (H : Heap) (locs : List Loc) (ls : Array Slot), k12 x1 x2 σ = some R → Hd 45 ceM D ad κ s σ H locs → lv_has ls 3 [(0, .ref (ad 0)), (1, .int x1), (2, .int x2)] → W p l e ({ frames := 3, cells := 0, slots := 0, locals := 61 } : Room) s m args below meth c H locs 0 0 (MQ below (QV 45 ceM D ad κ R) args s 0 0 (AX 45 ad)) (F0 m 12 ls [])) : ∀ (x1 : Int32) (x2 : Int32) (σ : HS) (H : Heap) (locs : List Loc) (ls : Array Slot), FX12_expression_181 k12 x1 x2 σ = some R → Hd 45 ceM D ad κ s σ H locs → lv_has ls 3 [(0, .ref (ad 0)), (1, .int x1), (2, .int x2)] → W p l e ({ frames := 3, cells := 0, slots := 0, locals := 61 } : Room) s m args below meth c H locs 0 0 (MQ below (QV 45 ceM D ad κ R) args s 0 0 (AX 45 ad)) (F0 m 181 ls []) := by
  have hx := C.1
  have hb := C.2.1
  have hown := C.2.2.2.1
  have hts := C.2.2.2.2.1
  intro x1 x2 σ H locs ls h hH hl
  rw [FX12_expression_181] at h
  refine lv_iconst (v := 1) hx hb dX12_expression_181 (by decide) ?_
  refine lv_goto (tgt := 186) hx hb dX12_expression_182 (by decide) ?_
  exact wX12_expression_186 C K12  _ _ _ _ _ _ _ h hH (lv_sub hl [0, 1, 2] rfl)
set_option maxHeartbeats 4000000 in
set_option maxRecDepth 100000 in
theorem wX12_expression_145 (C : Cx 45 D ad κ p s m args meth c cX12_expression RX12 3 none) {R : HS} {k12 : Int32 → Int32 → HS → Option HS} (K12 : ∀ (x1 : Int32) (x2 : Int32) (σ : HS) (H : Heap) (locs : List Loc) (ls : Array Slot), k12 x1 x2 σ = some R → Hd 45 ceM D ad κ s σ H locs → lv_has ls 3 [(0, .ref (ad 0)), (1, .int x1), (2, .int x2)] → W p l e ({ frames := 3, cells := 0, slots := 0, locals := 61 } : Room) s m args below meth c H locs 0 0 (MQ below (QV 45 ceM D ad κ R) args s 0 0 (AX 45 ad)) (F0 m 12 ls [])) : ∀ (x1 : Int32) (x2 : Int32) (σ : HS) (H : Heap) (locs : List Loc) (ls : Array Slot), FX12_expression_145 k12 x1 x2 σ = some R → Hd 45 ceM D ad κ s σ H locs → lv_has ls 3 [(0, .ref (ad 0)), (1, .int x1), (2, .int x2)] → W p l e ({ frames := 3, cells := 0, slots := 0, locals := 61 } : Room) s m args below meth c H locs 0 0 (MQ below (QV 45 ceM D ad κ R) args s 0 0 (AX 45 ad)) (F0 m 145 ls []) := by
  have hx := C.1
  have hb := C.2.1
  have hown := C.2.2.2.1
  have hts := C.2.2.2.2.1
  intro x1 x2 σ H locs ls h hH hl
  rw [FX12_expression_145] at h
  refine lv_aload_n hx hb dX12_expression_145 rfl (lv_at hl 0 rfl) ?_
  refine lv_bipush (v := 8) hx hb dX12_expression_146 (by decide) ?_
  obtain ⟨r_29, σ_30, hc_31, h⟩ := bdI_ex h
  refine g_ci (g_runV (rest := []) C hH hl.1 cV_X12_221 0 (Nat.le_of_ble_eq_true rfl) rfl rfl (kX12_is l D ad κ hc_31) ⟨rfl, rfl⟩ ⟨(Nat.le_of_ble_eq_true rfl), (Nat.le_of_ble_eq_true rfl)⟩ rfl rfl (Nat.le_of_ble_eq_true rfl) dX12_expression_148 z00) hH (fun H locs hH => ?_)
  refine lv_if_ne (tgt := 181) hx hb dX12_expression_151 (by decide) (fun hq_32 => ?_) (fun hq_32 => ?_)
  · rw [if_neg hq_32] at h
    exact wX12_expression_181 C K12  _ _ _ _ _ _ h hH (lv_sub hl [0, 1, 2] rfl)
  · rw [if_pos hq_32] at h
    refine lv_aload_n hx hb dX12_expression_154 rfl (lv_at hl 0 rfl) ?_
    refine lv_bipush (v := 9) hx hb dX12_expression_155 (by decide) ?_
    obtain ⟨r_33, σ_34, hc_35, h⟩ := bdI_ex h
    refine g_ci (g_runV (rest := []) C hH hl.1 cV_X12_221 0 (Nat.le_of_ble_eq_true rfl) rfl rfl (kX12_is l D ad κ hc_35) ⟨rfl, rfl⟩ ⟨(Nat.le_of_ble_eq_true rfl), (Nat.le_of_ble_eq_true rfl)⟩ rfl rfl (Nat.le_of_ble_eq_true rfl) dX12_expression_157 z00) hH (fun H locs hH => ?_)
    refine lv_if_ne (tgt := 181) hx hb dX12_expression_160 (by decide) (fun hq_36 => ?_) (fun hq_36 => ?_)
    · rw [if_neg hq_36] at h
      exact wX12_expression_181 C K12  _ _ _ _ _ _ h hH (lv_sub hl [0, 1, 2] rfl)
    · rw [if_pos hq_36] at h
      refine lv_aload_n hx hb dX12_expression_163 rfl (lv_at hl 0 rfl) ?_
      refine lv_bipush (v := 10) hx hb dX12_expression_164 (by decide) ?_
      obtain ⟨r_37, σ_38, hc_39, h⟩ := bdI_ex h
      refine g_ci (g_runV (rest := []) C hH hl.1 cV_X12_221 0 (Nat.le_of_ble_eq_true rfl) rfl rfl (kX12_is l D ad κ hc_39) ⟨rfl, rfl⟩ ⟨(Nat.le_of_ble_eq_true rfl), (Nat.le_of_ble_eq_true rfl)⟩ rfl rfl (Nat.le_of_ble_eq_true rfl) dX12_expression_166 z00) hH (fun H locs hH => ?_)
      refine lv_if_ne (tgt := 181) hx hb dX12_expression_169 (by decide) (fun hq_40 => ?_) (fun hq_40 => ?_)
      · rw [if_neg hq_40] at h
        exact wX12_expression_181 C K12  _ _ _ _ _ _ h hH (lv_sub hl [0, 1, 2] rfl)
      · rw [if_pos hq_40] at h
        refine lv_aload_n hx hb dX12_expression_172 rfl (lv_at hl 0 rfl) ?_
        refine lv_bipush (v := 15) hx hb dX12_expression_173 (by decide) ?_
        obtain ⟨r_41, σ_42, hc_43, h⟩ := bdI_ex h
        refine g_ci (g_runV (rest := []) C hH hl.1 cV_X12_221 0 (Nat.le_of_ble_eq_true rfl) rfl rfl (kX12_is l D ad κ hc_43) ⟨rfl, rfl⟩ ⟨(Nat.le_of_ble_eq_true rfl), (Nat.le_of_ble_eq_true rfl)⟩ rfl rfl (Nat.le_of_ble_eq_true rfl) dX12_expression_175 z00) hH (fun H locs hH => ?_)
        refine lv_if_eq (tgt := 185) hx hb dX12_expression_178 (by decide) (fun hq_44 => ?_) (fun hq_44 => ?_)
        · rw [if_pos hq_44] at h
          refine lv_iconst (v := 0) hx hb dX12_expression_185 (by decide) ?_
          exact wX12_expression_186 C K12  _ _ _ _ _ _ _ h hH (lv_sub hl [0, 1, 2] rfl)
        · rw [if_neg hq_44] at h
          exact wX12_expression_181 C K12  _ _ _ _ _ _ h hH (lv_sub hl [0, 1, 2] rfl)
set_option maxHeartbeats 4000000 in
set_option maxRecDepth 100000 in
theorem wX12_expression_96 (C : Cx 45 D ad κ p s m args meth c cX12_expression RX12 3 none) {R : HS} {k12 : Int32 → Int32 → HS → Option HS} (K12 : ∀ (x1 : Int32) (x2 : Int32) (σ : HS) (H : Heap) (locs : List Loc) (ls : Array Slot), k12 x1 x2 σ = some R → Hd 45 ceM D ad κ s σ H locs → lv_has ls 3 [(0, .ref (ad 0)), (1, .int x1), (2, .int x2)] → W p l e ({ frames := 3, cells := 0, slots := 0, locals := 61 } : Room) s m args below meth c H locs 0 0 (MQ below (QV 45 ceM D ad κ R) args s 0 0 (AX 45 ad)) (F0 m 12 ls [])) : ∀ (f : Nat) (x1 : Int32) (x2 : Int32) (σ : HS) (H : Heap) (locs : List Loc) (ls : Array Slot), FX12_expression_96 k12 f x1 x2 σ = some R → Hd 45 ceM D ad κ s σ H locs → lv_has ls 3 [(0, .ref (ad 0)), (1, .int x1), (2, .int x2)] → W p l e ({ frames := 3, cells := 0, slots := 0, locals := 61 } : Room) s m args below meth c H locs 0 0 (MQ below (QV 45 ceM D ad κ R) args s 0 0 (AX 45 ad)) (F0 m 96 ls []) := by
  have hx := C.1
  have hb := C.2.1
  have hown := C.2.2.2.1
  have hts := C.2.2.2.2.1
  intro f
  induction f with
  | zero =>
    intro x1 x2 σ H locs ls h hH hl
    cases h
  | succ f ih =>
    intro x1 x2 σ H locs ls h hH hl
    rw [FX12_expression_96] at h
    refine lv_aload_n hx hb dX12_expression_96 rfl (lv_at hl 0 rfl) ?_
    refine lv_bipush (v := 7) hx hb dX12_expression_97 (by decide) ?_
    obtain ⟨r_45, σ_46, hc_47, h⟩ := bdI_ex h
    refine g_ci (g_runV (rest := []) C hH hl.1 cV_X12_221 0 (Nat.le_of_ble_eq_true rfl) rfl rfl (kX12_is l D ad κ hc_47) ⟨rfl, rfl⟩ ⟨(Nat.le_of_ble_eq_true rfl), (Nat.le_of_ble_eq_true rfl)⟩ rfl rfl (Nat.le_of_ble_eq_true rfl) dX12_expression_99 z00) hH (fun H locs hH => ?_)
    refine lv_if_eq (tgt := 145) hx hb dX12_expression_102 (by decide) (fun hq_48 => ?_) (fun hq_48 => ?_)
    · rw [if_pos hq_48] at h
      exact wX12_expression_145 C K12  _ _ _ _ _ _ h hH (lv_sub hl [0, 1, 2] rfl)
    · rw [if_neg hq_48] at h
      refine lv_aload_n hx hb dX12_expression_105 rfl (lv_at hl 0 rfl) ?_
      refine g_get C hH 0 (Nat.le_of_ble_eq_true rfl) rfl fl_X12_230 (v := .int (σ_46.1 0 12)) rfl dX12_expression_106 ?_
      refine lv_iload_n hx hb dX12_expression_109 rfl (lv_at hl 1 rfl) ?_
      refine lv_icmp_le (tgt := 145) hx hb dX12_expression_110 (by decide) (fun hq_49 => ?_) (fun hq_49 => ?_)
      · rw [if_pos hq_49] at h
        exact wX12_expression_145 C K12  _ _ _ _ _ _ h hH (lv_sub hl [0, 1, 2] rfl)
      · rw [if_neg hq_49] at h
        refine lv_aload_n hx hb dX12_expression_113 rfl (lv_at hl 0 rfl) ?_
        refine lv_iconst (v := 0) hx hb dX12_expression_114 (by decide) ?_
        obtain ⟨σ_50, hc_51, h⟩ := bdV_ex h
        refine g_cv (g_runV (rest := []) C hH hl.1 cV_X12_298 0 (Nat.le_of_ble_eq_true rfl) rfl rfl (kX12_comesOut l D ad κ hc_51) ⟨rfl, rfl⟩ ⟨(Nat.le_of_ble_eq_true rfl), (Nat.le_of_ble_eq_true rfl)⟩ rfl rfl (Nat.le_of_ble_eq_true rfl) dX12_expression_115 z00) hH (fun H locs hH => ?_)
        refine lv_aload_n hx hb dX12_expression_118 rfl (lv_at hl 0 rfl) ?_
        refine lv_dup hx hb dX12_expression_119 rfl ?_
        refine g_get C hH 0 (Nat.le_of_ble_eq_true rfl) rfl fl_X12_289 (v := .int (σ_50.1 0 43)) rfl dX12_expression_120 ?_
        refine lv_iconst (v := 1) hx hb dX12_expression_123 (by decide) ?_
        refine lv_isub hx hb dX12_expression_124 ?_
        obtain ⟨σ_52, eσ_52, h⟩ := hl_ex h
        refine g_putI C hH 0 (Nat.le_of_ble_eq_true rfl) rfl fp_X12_289 rfl rfl (Nat.le_of_ble_eq_true rfl) rfl dX12_expression_125 (fun H locs hH => ?_)
        rw [← eσ_52] at hH
        refine lv_aload_n hx hb dX12_expression_128 rfl (lv_at hl 0 rfl) ?_
        refine lv_dup hx hb dX12_expression_129 rfl ?_
        refine g_get C hH 0 (Nat.le_of_ble_eq_true rfl) rfl fl_X12_230 (v := .int (σ_52.1 0 12)) rfl dX12_expression_130 ?_
        refine lv_iconst (v := 1) hx hb dX12_expression_133 (by decide) ?_
        refine lv_isub hx hb dX12_expression_134 ?_
        obtain ⟨σ_53, eσ_53, h⟩ := hl_ex h
        refine g_putI C hH 0 (Nat.le_of_ble_eq_true rfl) rfl fp_X12_230 rfl rfl (Nat.le_of_ble_eq_true rfl) rfl dX12_expression_135 (fun H locs hH => ?_)
        rw [← eσ_53] at hH
        refine lv_aload_n hx hb dX12_expression_138 rfl (lv_at hl 0 rfl) ?_
        obtain ⟨σ_54, hc_55, h⟩ := bdV_ex h
        refine g_cv (g_runV (rest := []) C hH hl.1 cV_X12_224 0 (Nat.le_of_ble_eq_true rfl) rfl rfl (kX12_goesOn l D ad κ hc_55) ⟨rfl, rfl⟩ ⟨(Nat.le_of_ble_eq_true rfl), (Nat.le_of_ble_eq_true rfl)⟩ rfl rfl (Nat.le_of_ble_eq_true rfl) dX12_expression_139 z00) hH (fun H locs hH => ?_)
        refine lv_goto (tgt := 96) hx hb dX12_expression_142 (by decide) ?_
        exact ih _ _ _ _ _ _ h hH (lv_sub hl [0, 1, 2] rfl)
set_option maxHeartbeats 4000000 in
set_option maxRecDepth 100000 in
theorem wX12_expression_23 (C : Cx 45 D ad κ p s m args meth c cX12_expression RX12 3 none) {R : HS} {k12 : Int32 → Int32 → HS → Option HS} (K12 : ∀ (x1 : Int32) (x2 : Int32) (σ : HS) (H : Heap) (locs : List Loc) (ls : Array Slot), k12 x1 x2 σ = some R → Hd 45 ceM D ad κ s σ H locs → lv_has ls 3 [(0, .ref (ad 0)), (1, .int x1), (2, .int x2)] → W p l e ({ frames := 3, cells := 0, slots := 0, locals := 61 } : Room) s m args below meth c H locs 0 0 (MQ below (QV 45 ceM D ad κ R) args s 0 0 (AX 45 ad)) (F0 m 12 ls [])) : ∀ (f : Nat) (x1 : Int32) (x2 : Int32) (σ : HS) (H : Heap) (locs : List Loc) (ls : Array Slot), FX12_expression_23 k12 f x1 x2 σ = some R → Hd 45 ceM D ad κ s σ H locs → lv_has ls 3 [(0, .ref (ad 0)), (1, .int x1), (2, .int x2)] → W p l e ({ frames := 3, cells := 0, slots := 0, locals := 61 } : Room) s m args below meth c H locs 0 0 (MQ below (QV 45 ceM D ad κ R) args s 0 0 (AX 45 ad)) (F0 m 23 ls []) := by
  have hx := C.1
  have hb := C.2.1
  have hown := C.2.2.2.1
  have hts := C.2.2.2.2.1
  intro f
  induction f with
  | zero =>
    intro x1 x2 σ H locs ls h hH hl
    cases h
  | succ f ih =>
    intro x1 x2 σ H locs ls h hH hl
    rw [FX12_expression_23] at h
    refine lv_aload_n hx hb dX12_expression_23 rfl (lv_at hl 0 rfl) ?_
    refine lv_bipush (v := 6) hx hb dX12_expression_24 (by decide) ?_
    obtain ⟨r_56, σ_57, hc_58, h⟩ := bdI_ex h
    refine g_ci (g_runV (rest := []) C hH hl.1 cV_X12_221 0 (Nat.le_of_ble_eq_true rfl) rfl rfl (kX12_is l D ad κ hc_58) ⟨rfl, rfl⟩ ⟨(Nat.le_of_ble_eq_true rfl), (Nat.le_of_ble_eq_true rfl)⟩ rfl rfl (Nat.le_of_ble_eq_true rfl) dX12_expression_26 z00) hH (fun H locs hH => ?_)
    refine lv_if_eq (tgt := 84) hx hb dX12_expression_29 (by decide) (fun hq_59 => ?_) (fun hq_59 => ?_)
    · rw [if_pos hq_59] at h
      refine lv_aload_n hx hb dX12_expression_84 rfl (lv_at hl 0 rfl) ?_
      obtain ⟨σ_60, hc_61, h⟩ := bdV_ex h
      refine g_cv (g_runV (rest := []) C hH hl.1 cV_X12_295 0 (Nat.le_of_ble_eq_true rfl) rfl rfl (kX12_unit l D ad κ hc_61) ⟨rfl, rfl⟩ ⟨(Nat.le_of_ble_eq_true rfl), (Nat.le_of_ble_eq_true rfl)⟩ rfl rfl (Nat.le_of_ble_eq_true rfl) dX12_expression_85 z00) hH (fun H locs hH => ?_)
      refine lv_aload_n hx hb dX12_expression_88 rfl (lv_at hl 0 rfl) ?_
      refine g_get C hH 0 (Nat.le_of_ble_eq_true rfl) rfl fl_X12_203 (v := .int (σ_60.1 0 13)) rfl dX12_expression_89 ?_
      refine lv_if_le (tgt := 96) hx hb dX12_expression_92 (by decide) (fun hq_62 => ?_) (fun hq_62 => ?_)
      · rw [if_pos hq_62] at h
        exact wX12_expression_96 C K12 _ _ _ _ _ _ _ h hH (lv_sub hl [0, 1, 2] rfl)
      · rw [if_neg hq_62] at h
        exact g_retV C hH h dX12_expression_95
    · rw [if_neg hq_59] at h
      refine lv_aload_n hx hb dX12_expression_32 rfl (lv_at hl 0 rfl) ?_
      refine g_get C hH 0 (Nat.le_of_ble_eq_true rfl) rfl fl_X12_230 (v := .int (σ_57.1 0 12)) rfl dX12_expression_33 ?_
      refine lv_bipush (v := 6) hx hb dX12_expression_36 (by decide) ?_
      refine lv_icmp_ne (tgt := 46) hx hb dX12_expression_38 (by decide) (fun hq_63 => ?_) (fun hq_63 => ?_)
      · rw [if_neg hq_63] at h
        exact wX12_expression_46 C K12 ih  _ _ _ _ _ _ h hH (lv_sub hl [0, 1, 2] rfl)
      · rw [if_pos hq_63] at h
        refine lv_aload_n hx hb dX12_expression_41 rfl (lv_at hl 0 rfl) ?_
        refine lv_iconst (v := 2) hx hb dX12_expression_42 (by decide) ?_
        obtain ⟨σ_64, hc_65, h⟩ := bdV_ex h
        refine g_cv (g_runV (rest := []) C hH hl.1 cV_X12_218 0 (Nat.le_of_ble_eq_true rfl) rfl rfl (kX12_fail l D ad κ hc_65) ⟨rfl, rfl⟩ ⟨(Nat.le_of_ble_eq_true rfl), (Nat.le_of_ble_eq_true rfl)⟩ rfl rfl (Nat.le_of_ble_eq_true rfl) dX12_expression_43 z00) hH (fun H locs hH => ?_)
        exact wX12_expression_46 C K12 ih  _ _ _ _ _ _ h hH (lv_sub hl [0, 1, 2] rfl)
set_option maxHeartbeats 4000000 in
set_option maxRecDepth 100000 in
theorem wX12_expression_12 (C : Cx 45 D ad κ p s m args meth c cX12_expression RX12 3 none) {R : HS} : ∀ (f : Nat) (x1 : Int32) (x2 : Int32) (σ : HS) (H : Heap) (locs : List Loc) (ls : Array Slot), FX12_expression_12  f x1 x2 σ = some R → Hd 45 ceM D ad κ s σ H locs → lv_has ls 3 [(0, .ref (ad 0)), (1, .int x1), (2, .int x2)] → W p l e ({ frames := 3, cells := 0, slots := 0, locals := 61 } : Room) s m args below meth c H locs 0 0 (MQ below (QV 45 ceM D ad κ R) args s 0 0 (AX 45 ad)) (F0 m 12 ls []) := by
  have hx := C.1
  have hb := C.2.1
  have hown := C.2.2.2.1
  have hts := C.2.2.2.2.1
  intro f
  induction f with
  | zero =>
    intro x1 x2 σ H locs ls h hH hl
    cases h
  | succ f ih =>
    intro x1 x2 σ H locs ls h hH hl
    rw [FX12_expression_12] at h
    refine lv_iload_n hx hb dX12_expression_12 rfl (lv_at hl 2 rfl) ?_
    refine lv_if_eq (tgt := 272) hx hb dX12_expression_13 (by decide) (fun hq_66 => ?_) (fun hq_66 => ?_)
    · rw [if_pos hq_66] at h
      exact g_retV C hH h dX12_expression_272
    · rw [if_neg hq_66] at h
      refine lv_aload_n hx hb dX12_expression_16 rfl (lv_at hl 0 rfl) ?_
      refine g_get C hH 0 (Nat.le_of_ble_eq_true rfl) rfl fl_X12_203 (v := .int (σ.1 0 13)) rfl dX12_expression_17 ?_
      refine lv_if_ne (tgt := 272) hx hb dX12_expression_20 (by decide) (fun hq_67 => ?_) (fun hq_67 => ?_)
      · rw [if_neg hq_67] at h
        exact g_retV C hH h dX12_expression_272
      · rw [if_pos hq_67] at h
        exact wX12_expression_23 C ih _ _ _ _ _ _ _ h hH (lv_sub hl [0, 1, 2] rfl)
set_option maxHeartbeats 4000000 in
set_option maxRecDepth 100000 in
theorem kX12_expression (l : Launch) (D : va_G) (ad : Nat → Nat) (κ : KC) {σ : HS} {R : HS} (h : FX12_expression σ = some R) : MtV l 45 ceM D ad κ yX12_expression cX12_expression 3 none ({ frames := 3, cells := 0, slots := 0, locals := 61 } : Room) [.ref (ad 0)] σ R := by
  refine open_ (by decide) (Nat.le_of_ble_eq_true rfl) (la := [(0, .ref (ad 0))]) rfl ?_
  intro p e s m below meth c ls C hH hl
  replace C : Cx 45 D ad κ p s m _ meth c cX12_expression RX12 3 none := C
  have hx := C.1
  have hb := C.2.1
  have hown := C.2.2.2.1
  have hts := C.2.2.2.2.1
  rw [FX12_expression] at h
  refine lv_aload_n hx hb dX12_expression_0 rfl (lv_at hl 0 rfl) ?_
  refine lv_iconst (v := 0) hx hb dX12_expression_1 (by decide) ?_
  obtain ⟨σ_68, eσ_68, h⟩ := hl_ex h
  refine g_putI C hH 0 (Nat.le_of_ble_eq_true rfl) rfl fp_X12_289 rfl rfl (Nat.le_of_ble_eq_true rfl) rfl dX12_expression_2 (fun H locs hH => ?_)
  rw [← eσ_68] at hH
  refine lv_aload_n hx hb dX12_expression_5 rfl (lv_at hl 0 rfl) ?_
  refine g_get C hH 0 (Nat.le_of_ble_eq_true rfl) rfl fl_X12_230 (v := .int (σ_68.1 0 12)) rfl dX12_expression_6 ?_
  obtain ⟨x1_69, ex1_69, h⟩ := hl_ex h
  refine lv_eqi ex1_69 ?_
  refine lv_istore_n (lv' := [(1, .int x1_69), (0, .ref (ad 0))]) hx hb dX12_expression_9 rfl hl (by decide) rfl (fun ls hl => ?_)
  refine lv_iconst (v := 1) hx hb dX12_expression_10 (by decide) ?_
  refine lv_istore_n (lv' := [(2, .int (1 : Int32)), (1, .int x1_69), (0, .ref (ad 0))]) hx hb dX12_expression_11 rfl hl (by decide) rfl (fun ls hl => ?_)
  exact wX12_expression_12 C _ _ _ _ _ _ _ h hH (lv_sub hl [2, 1, 0] rfl)
-- X12_term
def FX12_term_24   (σ : HS) : Option HS :=
  gd (ix (σ.1 0 33) 260) (hl_ (pI σ 25 ((σ.1 0 33).toNatClampNeg) (σ.1 0 39)) fun σ_2 => hl_ (pI σ_2 0 33 ((σ_2.1 0 33) + (1 : Int32))) fun σ_3 => some σ_3)
def FX12_term (σ : HS) : Option HS :=
  gd (ix (σ.1 0 33) 260) (hl_ (pI σ 24 ((σ.1 0 33).toNatClampNeg) (σ.1 0 39)) fun σ_5 => if (σ_5.1 0 13) = 0 then bdV (FX12_expression σ_5) fun σ_7 => FX12_term_24 σ_7 else FX12_term_24 σ_5)
set_option maxHeartbeats 4000000 in
set_option maxRecDepth 100000 in
theorem wX12_term_24 (C : Cx 45 D ad κ p s m args meth c cX12_term RX12 1 none) {R : HS} : ∀  (σ : HS) (H : Heap) (locs : List Loc) (ls : Array Slot), FX12_term_24  σ = some R → Hd 45 ceM D ad κ s σ H locs → lv_has ls 1 [(0, .ref (ad 0))] → W p l e ({ frames := 4, cells := 0, slots := 0, locals := 83 } : Room) s m args below meth c H locs 0 0 (MQ below (QV 45 ceM D ad κ R) args s 0 0 (AX 45 ad)) (F0 m 24 ls []) := by
  have hx := C.1
  have hb := C.2.1
  have hown := C.2.2.2.1
  have hts := C.2.2.2.2.1
  intro  σ H locs ls h hH hl
  rw [FX12_term_24] at h
  refine lv_aload_n hx hb dX12_term_24 rfl (lv_at hl 0 rfl) ?_
  refine g_get C hH 0 (Nat.le_of_ble_eq_true rfl) rfl fl_X12_92 (v := .ref (ad 25)) rfl dX12_term_25 ?_
  refine lv_aload_n hx hb dX12_term_28 rfl (lv_at hl 0 rfl) ?_
  refine g_get C hH 0 (Nat.le_of_ble_eq_true rfl) rfl fl_X12_239 (v := .int (σ.1 0 33)) rfl dX12_term_29 ?_
  refine lv_aload_n hx hb dX12_term_32 rfl (lv_at hl 0 rfl) ?_
  refine g_get C hH 0 (Nat.le_of_ble_eq_true rfl) rfl fl_X12_242 (v := .int (σ.1 0 39)) rfl dX12_term_33 ?_
  obtain ⟨hi_1, h⟩ := gd_ex h
  obtain ⟨σ_2, eσ_2, h⟩ := hl_ex h
  refine g_iast C hH 25 (Nat.le_of_ble_eq_true rfl) (fun _ _ => rfl) (k := ((σ.1 0 33).toNatClampNeg)) rfl (ix_in hi_1) dX12_term_36 (fun H locs hH => ?_)
  rw [← eσ_2] at hH
  refine lv_aload_n hx hb dX12_term_37 rfl (lv_at hl 0 rfl) ?_
  refine lv_dup hx hb dX12_term_38 rfl ?_
  refine g_get C hH 0 (Nat.le_of_ble_eq_true rfl) rfl fl_X12_239 (v := .int (σ_2.1 0 33)) rfl dX12_term_39 ?_
  refine lv_iconst (v := 1) hx hb dX12_term_42 (by decide) ?_
  refine lv_iadd hx hb dX12_term_43 ?_
  obtain ⟨σ_3, eσ_3, h⟩ := hl_ex h
  refine g_putI C hH 0 (Nat.le_of_ble_eq_true rfl) rfl fp_X12_239 rfl rfl (Nat.le_of_ble_eq_true rfl) rfl dX12_term_44 (fun H locs hH => ?_)
  rw [← eσ_3] at hH
  exact g_retV C hH h dX12_term_47
set_option maxHeartbeats 4000000 in
set_option maxRecDepth 100000 in
theorem kX12_term (l : Launch) (D : va_G) (ad : Nat → Nat) (κ : KC) {σ : HS} {R : HS} (h : FX12_term σ = some R) : MtV l 45 ceM D ad κ yX12_term cX12_term 1 none ({ frames := 4, cells := 0, slots := 0, locals := 83 } : Room) [.ref (ad 0)] σ R := by
  refine open_ (by decide) (Nat.le_of_ble_eq_true rfl) (la := [(0, .ref (ad 0))]) rfl ?_
  intro p e s m below meth c ls C hH hl
  replace C : Cx 45 D ad κ p s m _ meth c cX12_term RX12 1 none := C
  have hx := C.1
  have hb := C.2.1
  have hown := C.2.2.2.1
  have hts := C.2.2.2.2.1
  rw [FX12_term] at h
  refine lv_aload_n hx hb dX12_term_0 rfl (lv_at hl 0 rfl) ?_
  refine g_get C hH 0 (Nat.le_of_ble_eq_true rfl) rfl fl_X12_89 (v := .ref (ad 24)) rfl dX12_term_1 ?_
  refine lv_aload_n hx hb dX12_term_4 rfl (lv_at hl 0 rfl) ?_
  refine g_get C hH 0 (Nat.le_of_ble_eq_true rfl) rfl fl_X12_239 (v := .int (σ.1 0 33)) rfl dX12_term_5 ?_
  refine lv_aload_n hx hb dX12_term_8 rfl (lv_at hl 0 rfl) ?_
  refine g_get C hH 0 (Nat.le_of_ble_eq_true rfl) rfl fl_X12_242 (v := .int (σ.1 0 39)) rfl dX12_term_9 ?_
  obtain ⟨hi_4, h⟩ := gd_ex h
  obtain ⟨σ_5, eσ_5, h⟩ := hl_ex h
  refine g_iast C hH 24 (Nat.le_of_ble_eq_true rfl) (fun _ _ => rfl) (k := ((σ.1 0 33).toNatClampNeg)) rfl (ix_in hi_4) dX12_term_12 (fun H locs hH => ?_)
  rw [← eσ_5] at hH
  refine lv_aload_n hx hb dX12_term_13 rfl (lv_at hl 0 rfl) ?_
  refine g_get C hH 0 (Nat.le_of_ble_eq_true rfl) rfl fl_X12_203 (v := .int (σ_5.1 0 13)) rfl dX12_term_14 ?_
  refine lv_if_ne (tgt := 24) hx hb dX12_term_17 (by decide) (fun hq_6 => ?_) (fun hq_6 => ?_)
  · rw [if_neg hq_6] at h
    exact wX12_term_24 C  _ _ _ _ h hH (lv_sub hl [0] rfl)
  · rw [if_pos hq_6] at h
    refine lv_aload_n hx hb dX12_term_20 rfl (lv_at hl 0 rfl) ?_
    obtain ⟨σ_7, hc_8, h⟩ := bdV_ex h
    refine g_cv (g_runV (rest := []) C hH hl.1 cV_X12_283 0 (Nat.le_of_ble_eq_true rfl) rfl rfl (kX12_expression l D ad κ hc_8) ⟨rfl, rfl⟩ ⟨(Nat.le_of_ble_eq_true rfl), (Nat.le_of_ble_eq_true rfl)⟩ rfl rfl (Nat.le_of_ble_eq_true rfl) dX12_term_21 z00) hH (fun H locs hH => ?_)
    exact wX12_term_24 C  _ _ _ _ h hH (lv_sub hl [0] rfl)
-- X12_tellLaw
def FX12_tellLaw_110 (k12 : Int32 → Int32 → Int32 → HS → Option HS) (x1 : Int32) (x2 : Int32) (x3 : Int32) (σ : HS) : Option HS :=
  bdV (FX12_must (31 : Int32) σ) fun σ_1 => bdV (FX12_term σ_1) fun σ_3 => bdV (FX12_must (32 : Int32) σ_3) fun σ_5 => k12 x1 x2 x3 σ_5
def FX12_tellLaw_38 (k12 : Int32 → Int32 → Int32 → HS → Option HS) (x1 : Int32) (x2 : Int32) (x3 : Int32) (σ : HS) : Option HS :=
  if (σ.1 0 13) ≤ 0 then bdV (FX12_goesOn σ) fun σ_8 => gd (ix (σ_8.1 0 33) 260) (hl_ (pI σ_8 21 ((σ_8.1 0 33).toNatClampNeg) (vp_nar .boolean (1 : Int32))) fun σ_11 => gd (ix (σ_11.1 0 33) 260) (hl_ (pI σ_11 22 ((σ_11.1 0 33).toNatClampNeg) (σ_11.1 0 39)) fun σ_13 => bdV (FX12_expression σ_13) fun σ_14 => bdV (FX12_must (13 : Int32) σ_14) fun σ_16 => gd (ix (σ_16.1 0 33) 260) (hl_ (pI σ_16 23 ((σ_16.1 0 33).toNatClampNeg) (σ_16.1 0 39)) fun σ_19 => if (σ_19.1 0 13) = 0 then bdV (FX12_expression σ_19) fun σ_21 => FX12_tellLaw_110 k12 x1 x2 (x3 + 1) σ_21 else FX12_tellLaw_110 k12 x1 x2 (x3 + 1) σ_19))) else some σ
def FX12_tellLaw_129  (x1 : Int32) (x2 : Int32) (x3 : Int32) (σ : HS) : Option HS :=
  gd (ix (σ.1 0 33) 260) (hl_ (pI σ 21 ((σ.1 0 33).toNatClampNeg) (vp_nar .boolean (0 : Int32))) fun σ_24 => bdV (FX12_term σ_24) fun σ_25 => bdV (FX12_must (4 : Int32) σ_25) fun σ_27 => if (σ_27.1 0 13) ≤ 0 then gd (ix (((4 : Int32) * (σ_27.1 0 19)) + x1) 8) (hl_ (pI σ_27 19 ((((4 : Int32) * (σ_27.1 0 19)) + x1).toNatClampNeg) x2) fun σ_31 => gd (ix (((4 : Int32) * (σ_31.1 0 19)) + x1) 8) (hl_ (pI σ_31 20 ((((4 : Int32) * (σ_31.1 0 19)) + x1).toNatClampNeg) (σ_31.1 0 33)) fun σ_33 => some σ_33)) else some σ_27)
def FX12_tellLaw_12  : Nat → Int32 → Int32 → Int32 → HS → Option HS
  | 0, _, _, _, _ => none
  | f + 1, x1, x2, x3, σ => if (σ.1 0 13) = 0 then bdI (FX12_is (30 : Int32) σ) fun r_35 σ_36 => if r_35 = 0 then FX12_tellLaw_129 x1 x2 x3 σ_36 else if x3 = (4 : Int32) then bdV (FX12_fail (2 : Int32) σ_36) fun σ_40 => FX12_tellLaw_38 (FX12_tellLaw_12  f) x1 x2 x3 σ_40 else FX12_tellLaw_38 (FX12_tellLaw_12  f) x1 x2 x3 σ_36 else FX12_tellLaw_129 x1 x2 x3 σ
def FX12_tellLaw (x1 : Int32) (σ : HS) : Option HS :=
  bdV (FX12_must (5 : Int32) σ) fun σ_42 => hl_ (σ_42.1 0 33) fun x2_44 => FX12_tellLaw_12 fu x1 x2_44 (0 : Int32) σ_42
set_option maxHeartbeats 4000000 in
set_option maxRecDepth 100000 in
theorem wX12_tellLaw_110 (C : Cx 45 D ad κ p s m args meth c cX12_tellLaw RX12 4 none) {R : HS} {k12 : Int32 → Int32 → Int32 → HS → Option HS} (K12 : ∀ (x1 : Int32) (x2 : Int32) (x3 : Int32) (σ : HS) (H : Heap) (locs : List Loc) (ls : Array Slot), k12 x1 x2 x3 σ = some R → Hd 45 ceM D ad κ s σ H locs → lv_has ls 4 [(0, .ref (ad 0)), (1, .int x1), (2, .int x2), (3, .int x3)] → W p l e ({ frames := 5, cells := 0, slots := 0, locals := 103 } : Room) s m args below meth c H locs 0 0 (MQ below (QV 45 ceM D ad κ R) args s 0 0 (AX 45 ad)) (F0 m 12 ls [])) : ∀ (x1 : Int32) (x2 : Int32) (x3 : Int32) (σ : HS) (H : Heap) (locs : List Loc) (ls : Array Slot), FX12_tellLaw_110 k12 x1 x2 x3 σ = some R → Hd 45 ceM D ad κ s σ H locs → lv_has ls 4 [(0, .ref (ad 0)), (1, .int x1), (2, .int x2), (3, .int x3)] → W p l e ({ frames := 5, cells := 0, slots := 0, locals := 103 } : Room) s m args below meth c H locs 0 0 (MQ below (QV 45 ceM D ad κ R) args s 0 0 (AX 45 ad)) (F0 m 110 ls []) := by
  have hx := C.1
  have hb := C.2.1
  have hown := C.2.2.2.1
  have hts := C.2.2.2.2.1
  intro x1 x2 x3 σ H locs ls h hH hl
  rw [FX12_tellLaw_110] at h
  refine lv_aload_n hx hb dX12_tellLaw_110 rfl (lv_at hl 0 rfl) ?_
  refine lv_bipush (v := 31) hx hb dX12_tellLaw_111 (by decide) ?_
  obtain ⟨σ_1, hc_2, h⟩ := bdV_ex h
  refine g_cv (g_runV (rest := []) C hH hl.1 cV_X12_258 0 (Nat.le_of_ble_eq_true rfl) rfl rfl (kX12_must l D ad κ hc_2) ⟨rfl, rfl⟩ ⟨(Nat.le_of_ble_eq_true rfl), (Nat.le_of_ble_eq_true rfl)⟩ rfl rfl (Nat.le_of_ble_eq_true rfl) dX12_tellLaw_113 z00) hH (fun H locs hH => ?_)
  refine lv_aload_n hx hb dX12_tellLaw_116 rfl (lv_at hl 0 rfl) ?_
  obtain ⟨σ_3, hc_4, h⟩ := bdV_ex h
  refine g_cv (g_runV (rest := []) C hH hl.1 cV_X12_286 0 (Nat.le_of_ble_eq_true rfl) rfl rfl (kX12_term l D ad κ hc_4) ⟨rfl, rfl⟩ ⟨(Nat.le_of_ble_eq_true rfl), (Nat.le_of_ble_eq_true rfl)⟩ rfl rfl (Nat.le_of_ble_eq_true rfl) dX12_tellLaw_117 z00) hH (fun H locs hH => ?_)
  refine lv_aload_n hx hb dX12_tellLaw_120 rfl (lv_at hl 0 rfl) ?_
  refine lv_bipush (v := 32) hx hb dX12_tellLaw_121 (by decide) ?_
  obtain ⟨σ_5, hc_6, h⟩ := bdV_ex h
  refine g_cv (g_runV (rest := []) C hH hl.1 cV_X12_258 0 (Nat.le_of_ble_eq_true rfl) rfl rfl (kX12_must l D ad κ hc_6) ⟨rfl, rfl⟩ ⟨(Nat.le_of_ble_eq_true rfl), (Nat.le_of_ble_eq_true rfl)⟩ rfl rfl (Nat.le_of_ble_eq_true rfl) dX12_tellLaw_123 z00) hH (fun H locs hH => ?_)
  refine lv_goto (tgt := 12) hx hb dX12_tellLaw_126 (by decide) ?_
  exact K12 _ _ _ _ _ _ _ h hH (lv_sub hl [0, 1, 2, 3] rfl)
set_option maxHeartbeats 4000000 in
set_option maxRecDepth 100000 in
theorem wX12_tellLaw_38 (C : Cx 45 D ad κ p s m args meth c cX12_tellLaw RX12 4 none) {R : HS} {k12 : Int32 → Int32 → Int32 → HS → Option HS} (K12 : ∀ (x1 : Int32) (x2 : Int32) (x3 : Int32) (σ : HS) (H : Heap) (locs : List Loc) (ls : Array Slot), k12 x1 x2 x3 σ = some R → Hd 45 ceM D ad κ s σ H locs → lv_has ls 4 [(0, .ref (ad 0)), (1, .int x1), (2, .int x2), (3, .int x3)] → W p l e ({ frames := 5, cells := 0, slots := 0, locals := 103 } : Room) s m args below meth c H locs 0 0 (MQ below (QV 45 ceM D ad κ R) args s 0 0 (AX 45 ad)) (F0 m 12 ls [])) : ∀ (x1 : Int32) (x2 : Int32) (x3 : Int32) (σ : HS) (H : Heap) (locs : List Loc) (ls : Array Slot), FX12_tellLaw_38 k12 x1 x2 x3 σ = some R → Hd 45 ceM D ad κ s σ H locs → lv_has ls 4 [(0, .ref (ad 0)), (1, .int x1), (2, .int x2), (3, .int x3)] → W p l e ({ frames := 5, cells := 0, slots := 0, locals := 103 } : Room) s m args below meth c H locs 0 0 (MQ below (QV 45 ceM D ad κ R) args s 0 0 (AX 45 ad)) (F0 m 38 ls []) := by
  have hx := C.1
  have hb := C.2.1
  have hown := C.2.2.2.1
  have hts := C.2.2.2.2.1
  intro x1 x2 x3 σ H locs ls h hH hl
  rw [FX12_tellLaw_38] at h
  refine lv_aload_n hx hb dX12_tellLaw_38 rfl (lv_at hl 0 rfl) ?_
  refine g_get C hH 0 (Nat.le_of_ble_eq_true rfl) rfl fl_X12_203 (v := .int (σ.1 0 13)) rfl dX12_tellLaw_39 ?_
  refine lv_if_le (tgt := 46) hx hb dX12_tellLaw_42 (by decide) (fun hq_7 => ?_) (fun hq_7 => ?_)
  · rw [if_pos hq_7] at h
    refine lv_iinc (v := (x3 + 1)) (lv' := [(3, .int (x3 + 1)), (0, .ref (ad 0)), (1, .int x1), (2, .int x2)]) hx hb dX12_tellLaw_46 hl (k := 3) rfl rfl (by decide) rfl (fun ls hl => ?_)
    refine lv_aload_n hx hb dX12_tellLaw_49 rfl (lv_at hl 1 rfl) ?_
    obtain ⟨σ_8, hc_9, h⟩ := bdV_ex h
    refine g_cv (g_runV (rest := []) C hH hl.1 cV_X12_224 0 (Nat.le_of_ble_eq_true rfl) rfl rfl (kX12_goesOn l D ad κ hc_9) ⟨rfl, rfl⟩ ⟨(Nat.le_of_ble_eq_true rfl), (Nat.le_of_ble_eq_true rfl)⟩ rfl rfl (Nat.le_of_ble_eq_true rfl) dX12_tellLaw_50 z00) hH (fun H locs hH => ?_)
    refine lv_aload_n hx hb dX12_tellLaw_53 rfl (lv_at hl 1 rfl) ?_
    refine g_get C hH 0 (Nat.le_of_ble_eq_true rfl) rfl fl_X12_79 (v := .ref (ad 21)) rfl dX12_tellLaw_54 ?_
    refine lv_aload_n hx hb dX12_tellLaw_57 rfl (lv_at hl 1 rfl) ?_
    refine g_get C hH 0 (Nat.le_of_ble_eq_true rfl) rfl fl_X12_239 (v := .int (σ_8.1 0 33)) rfl dX12_tellLaw_58 ?_
    refine lv_iconst (v := 1) hx hb dX12_tellLaw_61 (by decide) ?_
    obtain ⟨hi_10, h⟩ := gd_ex h
    obtain ⟨σ_11, eσ_11, h⟩ := hl_ex h
    refine g_zast C hH 21 (Nat.le_of_ble_eq_true rfl) (fun _ _ => rfl) (k := ((σ_8.1 0 33).toNatClampNeg)) rfl (ix_in hi_10) dX12_tellLaw_62 (fun H locs hH => ?_)
    rw [← eσ_11] at hH
    refine lv_aload_n hx hb dX12_tellLaw_63 rfl (lv_at hl 1 rfl) ?_
    refine g_get C hH 0 (Nat.le_of_ble_eq_true rfl) rfl fl_X12_83 (v := .ref (ad 22)) rfl dX12_tellLaw_64 ?_
    refine lv_aload_n hx hb dX12_tellLaw_67 rfl (lv_at hl 1 rfl) ?_
    refine g_get C hH 0 (Nat.le_of_ble_eq_true rfl) rfl fl_X12_239 (v := .int (σ_11.1 0 33)) rfl dX12_tellLaw_68 ?_
    refine lv_aload_n hx hb dX12_tellLaw_71 rfl (lv_at hl 1 rfl) ?_
    refine g_get C hH 0 (Nat.le_of_ble_eq_true rfl) rfl fl_X12_242 (v := .int (σ_11.1 0 39)) rfl dX12_tellLaw_72 ?_
    obtain ⟨hi_12, h⟩ := gd_ex h
    obtain ⟨σ_13, eσ_13, h⟩ := hl_ex h
    refine g_iast C hH 22 (Nat.le_of_ble_eq_true rfl) (fun _ _ => rfl) (k := ((σ_11.1 0 33).toNatClampNeg)) rfl (ix_in hi_12) dX12_tellLaw_75 (fun H locs hH => ?_)
    rw [← eσ_13] at hH
    refine lv_aload_n hx hb dX12_tellLaw_76 rfl (lv_at hl 1 rfl) ?_
    obtain ⟨σ_14, hc_15, h⟩ := bdV_ex h
    refine g_cv (g_runV (rest := []) C hH hl.1 cV_X12_283 0 (Nat.le_of_ble_eq_true rfl) rfl rfl (kX12_expression l D ad κ hc_15) ⟨rfl, rfl⟩ ⟨(Nat.le_of_ble_eq_true rfl), (Nat.le_of_ble_eq_true rfl)⟩ rfl rfl (Nat.le_of_ble_eq_true rfl) dX12_tellLaw_77 z00) hH (fun H locs hH => ?_)
    refine lv_aload_n hx hb dX12_tellLaw_80 rfl (lv_at hl 1 rfl) ?_
    refine lv_bipush (v := 13) hx hb dX12_tellLaw_81 (by decide) ?_
    obtain ⟨σ_16, hc_17, h⟩ := bdV_ex h
    refine g_cv (g_runV (rest := []) C hH hl.1 cV_X12_258 0 (Nat.le_of_ble_eq_true rfl) rfl rfl (kX12_must l D ad κ hc_17) ⟨rfl, rfl⟩ ⟨(Nat.le_of_ble_eq_true rfl), (Nat.le_of_ble_eq_true rfl)⟩ rfl rfl (Nat.le_of_ble_eq_true rfl) dX12_tellLaw_83 z00) hH (fun H locs hH => ?_)
    refine lv_aload_n hx hb dX12_tellLaw_86 rfl (lv_at hl 1 rfl) ?_
    refine g_get C hH 0 (Nat.le_of_ble_eq_true rfl) rfl fl_X12_86 (v := .ref (ad 23)) rfl dX12_tellLaw_87 ?_
    refine lv_aload_n hx hb dX12_tellLaw_90 rfl (lv_at hl 1 rfl) ?_
    refine g_get C hH 0 (Nat.le_of_ble_eq_true rfl) rfl fl_X12_239 (v := .int (σ_16.1 0 33)) rfl dX12_tellLaw_91 ?_
    refine lv_aload_n hx hb dX12_tellLaw_94 rfl (lv_at hl 1 rfl) ?_
    refine g_get C hH 0 (Nat.le_of_ble_eq_true rfl) rfl fl_X12_242 (v := .int (σ_16.1 0 39)) rfl dX12_tellLaw_95 ?_
    obtain ⟨hi_18, h⟩ := gd_ex h
    obtain ⟨σ_19, eσ_19, h⟩ := hl_ex h
    refine g_iast C hH 23 (Nat.le_of_ble_eq_true rfl) (fun _ _ => rfl) (k := ((σ_16.1 0 33).toNatClampNeg)) rfl (ix_in hi_18) dX12_tellLaw_98 (fun H locs hH => ?_)
    rw [← eσ_19] at hH
    refine lv_aload_n hx hb dX12_tellLaw_99 rfl (lv_at hl 1 rfl) ?_
    refine g_get C hH 0 (Nat.le_of_ble_eq_true rfl) rfl fl_X12_203 (v := .int (σ_19.1 0 13)) rfl dX12_tellLaw_100 ?_
    refine lv_if_ne (tgt := 110) hx hb dX12_tellLaw_103 (by decide) (fun hq_20 => ?_) (fun hq_20 => ?_)
    · rw [if_neg hq_20] at h
      exact wX12_tellLaw_110 C K12  _ _ _ _ _ _ _ h hH (lv_sub hl [1, 2, 3, 0] rfl)
    · rw [if_pos hq_20] at h
      refine lv_aload_n hx hb dX12_tellLaw_106 rfl (lv_at hl 1 rfl) ?_
      obtain ⟨σ_21, hc_22, h⟩ := bdV_ex h
      refine g_cv (g_runV (rest := []) C hH hl.1 cV_X12_283 0 (Nat.le_of_ble_eq_true rfl) rfl rfl (kX12_expression l D ad κ hc_22) ⟨rfl, rfl⟩ ⟨(Nat.le_of_ble_eq_true rfl), (Nat.le_of_ble_eq_true rfl)⟩ rfl rfl (Nat.le_of_ble_eq_true rfl) dX12_tellLaw_107 z00) hH (fun H locs hH => ?_)
      exact wX12_tellLaw_110 C K12  _ _ _ _ _ _ _ h hH (lv_sub hl [1, 2, 3, 0] rfl)
  · rw [if_neg hq_7] at h
    exact g_retV C hH h dX12_tellLaw_45
set_option maxHeartbeats 4000000 in
set_option maxRecDepth 100000 in
theorem wX12_tellLaw_129 (C : Cx 45 D ad κ p s m args meth c cX12_tellLaw RX12 4 none) {R : HS} : ∀ (x1 : Int32) (x2 : Int32) (x3 : Int32) (σ : HS) (H : Heap) (locs : List Loc) (ls : Array Slot), FX12_tellLaw_129  x1 x2 x3 σ = some R → Hd 45 ceM D ad κ s σ H locs → lv_has ls 4 [(0, .ref (ad 0)), (1, .int x1), (2, .int x2), (3, .int x3)] → W p l e ({ frames := 5, cells := 0, slots := 0, locals := 103 } : Room) s m args below meth c H locs 0 0 (MQ below (QV 45 ceM D ad κ R) args s 0 0 (AX 45 ad)) (F0 m 129 ls []) := by
  have hx := C.1
  have hb := C.2.1
  have hown := C.2.2.2.1
  have hts := C.2.2.2.2.1
  intro x1 x2 x3 σ H locs ls h hH hl
  rw [FX12_tellLaw_129] at h
  refine lv_aload_n hx hb dX12_tellLaw_129 rfl (lv_at hl 0 rfl) ?_
  refine g_get C hH 0 (Nat.le_of_ble_eq_true rfl) rfl fl_X12_79 (v := .ref (ad 21)) rfl dX12_tellLaw_130 ?_
  refine lv_aload_n hx hb dX12_tellLaw_133 rfl (lv_at hl 0 rfl) ?_
  refine g_get C hH 0 (Nat.le_of_ble_eq_true rfl) rfl fl_X12_239 (v := .int (σ.1 0 33)) rfl dX12_tellLaw_134 ?_
  refine lv_iconst (v := 0) hx hb dX12_tellLaw_137 (by decide) ?_
  obtain ⟨hi_23, h⟩ := gd_ex h
  obtain ⟨σ_24, eσ_24, h⟩ := hl_ex h
  refine g_zast C hH 21 (Nat.le_of_ble_eq_true rfl) (fun _ _ => rfl) (k := ((σ.1 0 33).toNatClampNeg)) rfl (ix_in hi_23) dX12_tellLaw_138 (fun H locs hH => ?_)
  rw [← eσ_24] at hH
  refine lv_aload_n hx hb dX12_tellLaw_139 rfl (lv_at hl 0 rfl) ?_
  obtain ⟨σ_25, hc_26, h⟩ := bdV_ex h
  refine g_cv (g_runV (rest := []) C hH hl.1 cV_X12_286 0 (Nat.le_of_ble_eq_true rfl) rfl rfl (kX12_term l D ad κ hc_26) ⟨rfl, rfl⟩ ⟨(Nat.le_of_ble_eq_true rfl), (Nat.le_of_ble_eq_true rfl)⟩ rfl rfl (Nat.le_of_ble_eq_true rfl) dX12_tellLaw_140 z00) hH (fun H locs hH => ?_)
  refine lv_aload_n hx hb dX12_tellLaw_143 rfl (lv_at hl 0 rfl) ?_
  refine lv_iconst (v := 4) hx hb dX12_tellLaw_144 (by decide) ?_
  obtain ⟨σ_27, hc_28, h⟩ := bdV_ex h
  refine g_cv (g_runV (rest := []) C hH hl.1 cV_X12_258 0 (Nat.le_of_ble_eq_true rfl) rfl rfl (kX12_must l D ad κ hc_28) ⟨rfl, rfl⟩ ⟨(Nat.le_of_ble_eq_true rfl), (Nat.le_of_ble_eq_true rfl)⟩ rfl rfl (Nat.le_of_ble_eq_true rfl) dX12_tellLaw_145 z00) hH (fun H locs hH => ?_)
  refine lv_aload_n hx hb dX12_tellLaw_148 rfl (lv_at hl 0 rfl) ?_
  refine g_get C hH 0 (Nat.le_of_ble_eq_true rfl) rfl fl_X12_203 (v := .int (σ_27.1 0 13)) rfl dX12_tellLaw_149 ?_
  refine lv_if_le (tgt := 156) hx hb dX12_tellLaw_152 (by decide) (fun hq_29 => ?_) (fun hq_29 => ?_)
  · rw [if_pos hq_29] at h
    refine lv_aload_n hx hb dX12_tellLaw_156 rfl (lv_at hl 0 rfl) ?_
    refine g_get C hH 0 (Nat.le_of_ble_eq_true rfl) rfl fl_X12_73 (v := .ref (ad 19)) rfl dX12_tellLaw_157 ?_
    refine lv_iconst (v := 4) hx hb dX12_tellLaw_160 (by decide) ?_
    refine lv_aload_n hx hb dX12_tellLaw_161 rfl (lv_at hl 0 rfl) ?_
    refine g_get C hH 0 (Nat.le_of_ble_eq_true rfl) rfl fl_X12_236 (v := .int (σ_27.1 0 19)) rfl dX12_tellLaw_162 ?_
    refine lv_imul hx hb dX12_tellLaw_165 ?_
    refine lv_iload_n hx hb dX12_tellLaw_166 rfl (lv_at hl 1 rfl) ?_
    refine lv_iadd hx hb dX12_tellLaw_167 ?_
    refine lv_iload_n hx hb dX12_tellLaw_168 rfl (lv_at hl 2 rfl) ?_
    obtain ⟨hi_30, h⟩ := gd_ex h
    obtain ⟨σ_31, eσ_31, h⟩ := hl_ex h
    refine g_iast C hH 19 (Nat.le_of_ble_eq_true rfl) (fun _ _ => rfl) (k := ((((4 : Int32) * (σ_27.1 0 19)) + x1).toNatClampNeg)) rfl (ix_in hi_30) dX12_tellLaw_169 (fun H locs hH => ?_)
    rw [← eσ_31] at hH
    refine lv_aload_n hx hb dX12_tellLaw_170 rfl (lv_at hl 0 rfl) ?_
    refine g_get C hH 0 (Nat.le_of_ble_eq_true rfl) rfl fl_X12_76 (v := .ref (ad 20)) rfl dX12_tellLaw_171 ?_
    refine lv_iconst (v := 4) hx hb dX12_tellLaw_174 (by decide) ?_
    refine lv_aload_n hx hb dX12_tellLaw_175 rfl (lv_at hl 0 rfl) ?_
    refine g_get C hH 0 (Nat.le_of_ble_eq_true rfl) rfl fl_X12_236 (v := .int (σ_31.1 0 19)) rfl dX12_tellLaw_176 ?_
    refine lv_imul hx hb dX12_tellLaw_179 ?_
    refine lv_iload_n hx hb dX12_tellLaw_180 rfl (lv_at hl 1 rfl) ?_
    refine lv_iadd hx hb dX12_tellLaw_181 ?_
    refine lv_aload_n hx hb dX12_tellLaw_182 rfl (lv_at hl 0 rfl) ?_
    refine g_get C hH 0 (Nat.le_of_ble_eq_true rfl) rfl fl_X12_239 (v := .int (σ_31.1 0 33)) rfl dX12_tellLaw_183 ?_
    obtain ⟨hi_32, h⟩ := gd_ex h
    obtain ⟨σ_33, eσ_33, h⟩ := hl_ex h
    refine g_iast C hH 20 (Nat.le_of_ble_eq_true rfl) (fun _ _ => rfl) (k := ((((4 : Int32) * (σ_31.1 0 19)) + x1).toNatClampNeg)) rfl (ix_in hi_32) dX12_tellLaw_186 (fun H locs hH => ?_)
    rw [← eσ_33] at hH
    exact g_retV C hH h dX12_tellLaw_187
  · rw [if_neg hq_29] at h
    exact g_retV C hH h dX12_tellLaw_155
set_option maxHeartbeats 4000000 in
set_option maxRecDepth 100000 in
theorem wX12_tellLaw_12 (C : Cx 45 D ad κ p s m args meth c cX12_tellLaw RX12 4 none) {R : HS} : ∀ (f : Nat) (x1 : Int32) (x2 : Int32) (x3 : Int32) (σ : HS) (H : Heap) (locs : List Loc) (ls : Array Slot), FX12_tellLaw_12  f x1 x2 x3 σ = some R → Hd 45 ceM D ad κ s σ H locs → lv_has ls 4 [(0, .ref (ad 0)), (1, .int x1), (2, .int x2), (3, .int x3)] → W p l e ({ frames := 5, cells := 0, slots := 0, locals := 103 } : Room) s m args below meth c H locs 0 0 (MQ below (QV 45 ceM D ad κ R) args s 0 0 (AX 45 ad)) (F0 m 12 ls []) := by
  have hx := C.1
  have hb := C.2.1
  have hown := C.2.2.2.1
  have hts := C.2.2.2.2.1
  intro f
  induction f with
  | zero =>
    intro x1 x2 x3 σ H locs ls h hH hl
    cases h
  | succ f ih =>
    intro x1 x2 x3 σ H locs ls h hH hl
    rw [FX12_tellLaw_12] at h
    refine lv_aload_n hx hb dX12_tellLaw_12 rfl (lv_at hl 0 rfl) ?_
    refine g_get C hH 0 (Nat.le_of_ble_eq_true rfl) rfl fl_X12_203 (v := .int (σ.1 0 13)) rfl dX12_tellLaw_13 ?_
    refine lv_if_ne (tgt := 129) hx hb dX12_tellLaw_16 (by decide) (fun hq_34 => ?_) (fun hq_34 => ?_)
    · rw [if_neg hq_34] at h
      exact wX12_tellLaw_129 C  _ _ _ _ _ _ _ h hH (lv_sub hl [0, 1, 2, 3] rfl)
    · rw [if_pos hq_34] at h
      refine lv_aload_n hx hb dX12_tellLaw_19 rfl (lv_at hl 0 rfl) ?_
      refine lv_bipush (v := 30) hx hb dX12_tellLaw_20 (by decide) ?_
      obtain ⟨r_35, σ_36, hc_37, h⟩ := bdI_ex h
      refine g_ci (g_runV (rest := []) C hH hl.1 cV_X12_221 0 (Nat.le_of_ble_eq_true rfl) rfl rfl (kX12_is l D ad κ hc_37) ⟨rfl, rfl⟩ ⟨(Nat.le_of_ble_eq_true rfl), (Nat.le_of_ble_eq_true rfl)⟩ rfl rfl (Nat.le_of_ble_eq_true rfl) dX12_tellLaw_22 z00) hH (fun H locs hH => ?_)
      refine lv_if_eq (tgt := 129) hx hb dX12_tellLaw_25 (by decide) (fun hq_38 => ?_) (fun hq_38 => ?_)
      · rw [if_pos hq_38] at h
        exact wX12_tellLaw_129 C  _ _ _ _ _ _ _ h hH (lv_sub hl [0, 1, 2, 3] rfl)
      · rw [if_neg hq_38] at h
        refine lv_iload_n hx hb dX12_tellLaw_28 rfl (lv_at hl 3 rfl) ?_
        refine lv_iconst (v := 4) hx hb dX12_tellLaw_29 (by decide) ?_
        refine lv_icmp_ne (tgt := 38) hx hb dX12_tellLaw_30 (by decide) (fun hq_39 => ?_) (fun hq_39 => ?_)
        · rw [if_neg hq_39] at h
          exact wX12_tellLaw_38 C ih  _ _ _ _ _ _ _ h hH (lv_sub hl [0, 1, 2, 3] rfl)
        · rw [if_pos hq_39] at h
          refine lv_aload_n hx hb dX12_tellLaw_33 rfl (lv_at hl 0 rfl) ?_
          refine lv_iconst (v := 2) hx hb dX12_tellLaw_34 (by decide) ?_
          obtain ⟨σ_40, hc_41, h⟩ := bdV_ex h
          refine g_cv (g_runV (rest := []) C hH hl.1 cV_X12_218 0 (Nat.le_of_ble_eq_true rfl) rfl rfl (kX12_fail l D ad κ hc_41) ⟨rfl, rfl⟩ ⟨(Nat.le_of_ble_eq_true rfl), (Nat.le_of_ble_eq_true rfl)⟩ rfl rfl (Nat.le_of_ble_eq_true rfl) dX12_tellLaw_35 z00) hH (fun H locs hH => ?_)
          exact wX12_tellLaw_38 C ih  _ _ _ _ _ _ _ h hH (lv_sub hl [0, 1, 2, 3] rfl)
set_option maxHeartbeats 4000000 in
set_option maxRecDepth 100000 in
theorem kX12_tellLaw (l : Launch) (D : va_G) (ad : Nat → Nat) (κ : KC) {x1 : Int32} {σ : HS} {R : HS} (h : FX12_tellLaw x1 σ = some R) : MtV l 45 ceM D ad κ yX12_tellLaw cX12_tellLaw 4 none ({ frames := 5, cells := 0, slots := 0, locals := 103 } : Room) [.ref (ad 0), .int x1] σ R := by
  refine open_ (by decide) (Nat.le_of_ble_eq_true rfl) (la := [(0, .ref (ad 0)), (1, .int x1)]) rfl ?_
  intro p e s m below meth c ls C hH hl
  replace C : Cx 45 D ad κ p s m _ meth c cX12_tellLaw RX12 4 none := C
  have hx := C.1
  have hb := C.2.1
  have hown := C.2.2.2.1
  have hts := C.2.2.2.2.1
  rw [FX12_tellLaw] at h
  refine lv_aload_n hx hb dX12_tellLaw_0 rfl (lv_at hl 0 rfl) ?_
  refine lv_iconst (v := 5) hx hb dX12_tellLaw_1 (by decide) ?_
  obtain ⟨σ_42, hc_43, h⟩ := bdV_ex h
  refine g_cv (g_runV (rest := []) C hH hl.1 cV_X12_258 0 (Nat.le_of_ble_eq_true rfl) rfl rfl (kX12_must l D ad κ hc_43) ⟨rfl, rfl⟩ ⟨(Nat.le_of_ble_eq_true rfl), (Nat.le_of_ble_eq_true rfl)⟩ rfl rfl (Nat.le_of_ble_eq_true rfl) dX12_tellLaw_2 z00) hH (fun H locs hH => ?_)
  refine lv_aload_n hx hb dX12_tellLaw_5 rfl (lv_at hl 0 rfl) ?_
  refine g_get C hH 0 (Nat.le_of_ble_eq_true rfl) rfl fl_X12_239 (v := .int (σ_42.1 0 33)) rfl dX12_tellLaw_6 ?_
  obtain ⟨x2_44, ex2_44, h⟩ := hl_ex h
  refine lv_eqi ex2_44 ?_
  refine lv_istore_n (lv' := [(2, .int x2_44), (0, .ref (ad 0)), (1, .int x1)]) hx hb dX12_tellLaw_9 rfl hl (by decide) rfl (fun ls hl => ?_)
  refine lv_iconst (v := 0) hx hb dX12_tellLaw_10 (by decide) ?_
  refine lv_istore_n (lv' := [(3, .int (0 : Int32)), (2, .int x2_44), (0, .ref (ad 0)), (1, .int x1)]) hx hb dX12_tellLaw_11 rfl hl (by decide) rfl (fun ls hl => ?_)
  exact wX12_tellLaw_12 C _ _ _ _ _ _ _ _ h hH (lv_sub hl [2, 3, 1, 0] rfl)
-- X12_tellOne
def FX12_tellOne_284  (x1 : Int32) (σ : HS) : Option HS :=
  if (σ.1 0 13) ≤ 0 then bdV (FX12_goesOn σ) fun σ_2 => bdV (FX12_tellLaw x1 σ_2) fun σ_4 => some σ_4 else some σ
def FX12_tellOne_279  (x1 : Int32) (σ : HS) : Option HS :=
  bdV (FX12_fail (1 : Int32) σ) fun σ_6 => FX12_tellOne_284 x1 σ_6
def FX12_tellOne (σ : HS) : Option HS :=
  gd (ix (σ.1 0 11) 403) (hl_ (σ.1 3 ((σ.1 0 11).toNatClampNeg)) fun xs_9 => if xs_9 = 20 then gd (ix (σ.1 0 19) 2) (bdV (FX12_roomFor (σ.1 8 ((σ.1 0 19).toNatClampNeg)) (10 : Int32) σ) fun σ_12 => if (σ_12.1 0 13) ≤ 0 then gd (ix (σ_12.1 0 19) 2) (bdI (FX12_bounded (0 : Int32) (5 : Int32) σ_12) fun r_16 σ_17 => gd (ix (((10 : Int32) * (σ_12.1 0 19)) + (σ_12.1 8 ((σ_12.1 0 19).toNatClampNeg))) 20) (hl_ (pI σ_17 9 ((((10 : Int32) * (σ_12.1 0 19)) + (σ_12.1 8 ((σ_12.1 0 19).toNatClampNeg))).toNatClampNeg) r_16) fun σ_20 => bdV (FX12_must (4 : Int32) σ_20) fun σ_21 => gd (ix (σ_21.1 0 19) 2) (gd (ix (σ_21.1 0 19) 2) (hl_ (pI σ_21 8 ((σ_21.1 0 19).toNatClampNeg) ((σ_21.1 8 ((σ_21.1 0 19).toNatClampNeg)) + (1 : Int32))) fun σ_25 => some σ_25)))) else some σ_12) else if xs_9 = 21 then gd (ix (σ.1 0 19) 2) (bdV (FX12_roomFor (σ.1 11 ((σ.1 0 19).toNatClampNeg)) (5 : Int32) σ) fun σ_28 => if (σ_28.1 0 13) = 0 then bdV (FX12_tellFamily σ_28) fun σ_31 => some σ_31 else some σ_28) else if xs_9 = 22 then gd (ix (σ.1 0 19) 2) (bdV (FX12_roomFor (σ.1 15 ((σ.1 0 19).toNatClampNeg)) (8 : Int32) σ) fun σ_35 => if (σ_35.1 0 13) = 0 then bdV (FX12_tellLease σ_35) fun σ_38 => some σ_38 else some σ_35) else if xs_9 = 23 then gd (ix (σ.1 0 11) 403) (hl_ ((σ.1 3 ((σ.1 0 11).toNatClampNeg)) - (23 : Int32)) fun x1_42 => if x1_42 < 0 then FX12_tellOne_279 x1_42 σ else gd (ix (σ.1 0 11) 403) (if (σ.1 3 ((σ.1 0 11).toNatClampNeg)) ≤ (26 : Int32) then FX12_tellOne_284 x1_42 σ else FX12_tellOne_279 x1_42 σ)) else if xs_9 = 24 then gd (ix (σ.1 0 11) 403) (hl_ ((σ.1 3 ((σ.1 0 11).toNatClampNeg)) - (23 : Int32)) fun x1_48 => if x1_48 < 0 then FX12_tellOne_279 x1_48 σ else gd (ix (σ.1 0 11) 403) (if (σ.1 3 ((σ.1 0 11).toNatClampNeg)) ≤ (26 : Int32) then FX12_tellOne_284 x1_48 σ else FX12_tellOne_279 x1_48 σ)) else if xs_9 = 25 then gd (ix (σ.1 0 11) 403) (hl_ ((σ.1 3 ((σ.1 0 11).toNatClampNeg)) - (23 : Int32)) fun x1_54 => if x1_54 < 0 then FX12_tellOne_279 x1_54 σ else gd (ix (σ.1 0 11) 403) (if (σ.1 3 ((σ.1 0 11).toNatClampNeg)) ≤ (26 : Int32) then FX12_tellOne_284 x1_54 σ else FX12_tellOne_279 x1_54 σ)) else if xs_9 = 26 then gd (ix (σ.1 0 11) 403) (hl_ ((σ.1 3 ((σ.1 0 11).toNatClampNeg)) - (23 : Int32)) fun x1_60 => if x1_60 < 0 then FX12_tellOne_279 x1_60 σ else gd (ix (σ.1 0 11) 403) (if (σ.1 3 ((σ.1 0 11).toNatClampNeg)) ≤ (26 : Int32) then FX12_tellOne_284 x1_60 σ else FX12_tellOne_279 x1_60 σ)) else if xs_9 = 27 then bdI (FX12_toldInt (9 : Int32) σ) fun r_65 σ_66 => gd (ix (σ.1 0 19) 2) (hl_ (pI σ_66 16 ((σ.1 0 19).toNatClampNeg) r_65) fun σ_69 => some σ_69) else if xs_9 = 28 then bdI (FX12_toldInt (9 : Int32) σ) fun r_71 σ_72 => gd (ix (σ.1 0 19) 2) (hl_ (pI σ_72 17 ((σ.1 0 19).toNatClampNeg) r_71) fun σ_75 => some σ_75) else if xs_9 = 29 then bdI (FX12_toldInt (9999 : Int32) σ) fun r_77 σ_78 => gd (ix (σ.1 0 19) 2) (hl_ (pI σ_78 18 ((σ.1 0 19).toNatClampNeg) r_77) fun σ_81 => some σ_81) else gd (ix (σ.1 0 11) 403) (hl_ ((σ.1 3 ((σ.1 0 11).toNatClampNeg)) - (23 : Int32)) fun x1_83 => if x1_83 < 0 then FX12_tellOne_279 x1_83 σ else gd (ix (σ.1 0 11) 403) (if (σ.1 3 ((σ.1 0 11).toNatClampNeg)) ≤ (26 : Int32) then FX12_tellOne_284 x1_83 σ else FX12_tellOne_279 x1_83 σ)))
set_option maxHeartbeats 4000000 in
set_option maxRecDepth 100000 in
theorem wX12_tellOne_284 (C : Cx 45 D ad κ p s m args meth c cX12_tellOne RX12 2 none) {R : HS} : ∀ (x1 : Int32) (σ : HS) (H : Heap) (locs : List Loc) (ls : Array Slot), FX12_tellOne_284  x1 σ = some R → Hd 45 ceM D ad κ s σ H locs → lv_has ls 2 [(0, .ref (ad 0)), (1, .int x1)] → W p l e ({ frames := 6, cells := 0, slots := 0, locals := 126 } : Room) s m args below meth c H locs 0 0 (MQ below (QV 45 ceM D ad κ R) args s 0 0 (AX 45 ad)) (F0 m 284 ls []) := by
  have hx := C.1
  have hb := C.2.1
  have hown := C.2.2.2.1
  have hts := C.2.2.2.2.1
  intro x1 σ H locs ls h hH hl
  rw [FX12_tellOne_284] at h
  refine lv_aload_n hx hb dX12_tellOne_284 rfl (lv_at hl 0 rfl) ?_
  refine g_get C hH 0 (Nat.le_of_ble_eq_true rfl) rfl fl_X12_203 (v := .int (σ.1 0 13)) rfl dX12_tellOne_285 ?_
  refine lv_if_le (tgt := 292) hx hb dX12_tellOne_288 (by decide) (fun hq_1 => ?_) (fun hq_1 => ?_)
  · rw [if_pos hq_1] at h
    refine lv_aload_n hx hb dX12_tellOne_292 rfl (lv_at hl 0 rfl) ?_
    obtain ⟨σ_2, hc_3, h⟩ := bdV_ex h
    refine g_cv (g_runV (rest := []) C hH hl.1 cV_X12_224 0 (Nat.le_of_ble_eq_true rfl) rfl rfl (kX12_goesOn l D ad κ hc_3) ⟨rfl, rfl⟩ ⟨(Nat.le_of_ble_eq_true rfl), (Nat.le_of_ble_eq_true rfl)⟩ rfl rfl (Nat.le_of_ble_eq_true rfl) dX12_tellOne_293 z00) hH (fun H locs hH => ?_)
    refine lv_aload_n hx hb dX12_tellOne_296 rfl (lv_at hl 0 rfl) ?_
    refine lv_iload_n hx hb dX12_tellOne_297 rfl (lv_at hl 1 rfl) ?_
    obtain ⟨σ_4, hc_5, h⟩ := bdV_ex h
    refine g_cv (g_runV (rest := []) C hH hl.1 cV_X12_274 0 (Nat.le_of_ble_eq_true rfl) rfl rfl (kX12_tellLaw l D ad κ hc_5) ⟨rfl, rfl⟩ ⟨(Nat.le_of_ble_eq_true rfl), (Nat.le_of_ble_eq_true rfl)⟩ rfl rfl (Nat.le_of_ble_eq_true rfl) dX12_tellOne_298 z00) hH (fun H locs hH => ?_)
    exact g_retV C hH h dX12_tellOne_301
  · rw [if_neg hq_1] at h
    exact g_retV C hH h dX12_tellOne_291
set_option maxHeartbeats 4000000 in
set_option maxRecDepth 100000 in
theorem wX12_tellOne_279 (C : Cx 45 D ad κ p s m args meth c cX12_tellOne RX12 2 none) {R : HS} : ∀ (x1 : Int32) (σ : HS) (H : Heap) (locs : List Loc) (ls : Array Slot), FX12_tellOne_279  x1 σ = some R → Hd 45 ceM D ad κ s σ H locs → lv_has ls 2 [(0, .ref (ad 0)), (1, .int x1)] → W p l e ({ frames := 6, cells := 0, slots := 0, locals := 126 } : Room) s m args below meth c H locs 0 0 (MQ below (QV 45 ceM D ad κ R) args s 0 0 (AX 45 ad)) (F0 m 279 ls []) := by
  have hx := C.1
  have hb := C.2.1
  have hown := C.2.2.2.1
  have hts := C.2.2.2.2.1
  intro x1 σ H locs ls h hH hl
  rw [FX12_tellOne_279] at h
  refine lv_aload_n hx hb dX12_tellOne_279 rfl (lv_at hl 0 rfl) ?_
  refine lv_iconst (v := 1) hx hb dX12_tellOne_280 (by decide) ?_
  obtain ⟨σ_6, hc_7, h⟩ := bdV_ex h
  refine g_cv (g_runV (rest := []) C hH hl.1 cV_X12_218 0 (Nat.le_of_ble_eq_true rfl) rfl rfl (kX12_fail l D ad κ hc_7) ⟨rfl, rfl⟩ ⟨(Nat.le_of_ble_eq_true rfl), (Nat.le_of_ble_eq_true rfl)⟩ rfl rfl (Nat.le_of_ble_eq_true rfl) dX12_tellOne_281 z00) hH (fun H locs hH => ?_)
  exact wX12_tellOne_284 C  _ _ _ _ _ h hH (lv_sub hl [0, 1] rfl)
set_option maxHeartbeats 4000000 in
set_option maxRecDepth 100000 in
theorem kX12_tellOne (l : Launch) (D : va_G) (ad : Nat → Nat) (κ : KC) {σ : HS} {R : HS} (h : FX12_tellOne σ = some R) : MtV l 45 ceM D ad κ yX12_tellOne cX12_tellOne 2 none ({ frames := 6, cells := 0, slots := 0, locals := 126 } : Room) [.ref (ad 0)] σ R := by
  refine open_ (by decide) (Nat.le_of_ble_eq_true rfl) (la := [(0, .ref (ad 0))]) rfl ?_
  intro p e s m below meth c ls C hH hl
  replace C : Cx 45 D ad κ p s m _ meth c cX12_tellOne RX12 2 none := C
  have hx := C.1
  have hb := C.2.1
  have hown := C.2.2.2.1
  have hts := C.2.2.2.2.1
  rw [FX12_tellOne] at h
  refine lv_aload_n hx hb dX12_tellOne_0 rfl (lv_at hl 0 rfl) ?_
  refine g_get C hH 0 (Nat.le_of_ble_eq_true rfl) rfl fl_X12_20 (v := .ref (ad 3)) rfl dX12_tellOne_1 ?_
  refine lv_aload_n hx hb dX12_tellOne_4 rfl (lv_at hl 0 rfl) ?_
  refine g_get C hH 0 (Nat.le_of_ble_eq_true rfl) rfl fl_X12_206 (v := .int (σ.1 0 11)) rfl dX12_tellOne_5 ?_
  obtain ⟨hi_8, h⟩ := gd_ex h
  refine g_iald C hH 3 (Nat.le_of_ble_eq_true rfl) rfl (k := ((σ.1 0 11).toNatClampNeg)) rfl (ix_in hi_8) dX12_tellOne_8 ?_
  obtain ⟨xs_9, exs_9, h⟩ := hl_ex h
  refine lv_eqi exs_9 ?_
  by_cases hs_10 : xs_9 = 20
  · rw [if_pos hs_10] at h
    refine lv_tableIn (off := 55) (tgt := 64) hx hb dX12_tellOne_9 (by rw [hs_10]; decide) (by rw [hs_10]; decide) (by rw [hs_10]; rfl) (by decide) ?_
    refine lv_aload_n hx hb dX12_tellOne_64 rfl (lv_at hl 0 rfl) ?_
    refine lv_aload_n hx hb dX12_tellOne_65 rfl (lv_at hl 0 rfl) ?_
    refine g_get C hH 0 (Nat.le_of_ble_eq_true rfl) rfl fl_X12_40 (v := .ref (ad 8)) rfl dX12_tellOne_66 ?_
    refine lv_aload_n hx hb dX12_tellOne_69 rfl (lv_at hl 0 rfl) ?_
    refine g_get C hH 0 (Nat.le_of_ble_eq_true rfl) rfl fl_X12_236 (v := .int (σ.1 0 19)) rfl dX12_tellOne_70 ?_
    obtain ⟨hi_11, h⟩ := gd_ex h
    refine g_iald C hH 8 (Nat.le_of_ble_eq_true rfl) rfl (k := ((σ.1 0 19).toNatClampNeg)) rfl (ix_in hi_11) dX12_tellOne_73 ?_
    refine lv_bipush (v := 10) hx hb dX12_tellOne_74 (by decide) ?_
    obtain ⟨σ_12, hc_13, h⟩ := bdV_ex h
    refine g_cv (g_runV (rest := []) C hH hl.1 cV_X12_261 0 (Nat.le_of_ble_eq_true rfl) rfl rfl (kX12_roomFor l D ad κ hc_13) ⟨rfl, rfl⟩ ⟨(Nat.le_of_ble_eq_true rfl), (Nat.le_of_ble_eq_true rfl)⟩ rfl rfl (Nat.le_of_ble_eq_true rfl) dX12_tellOne_76 z00) hH (fun H locs hH => ?_)
    refine lv_aload_n hx hb dX12_tellOne_79 rfl (lv_at hl 0 rfl) ?_
    refine g_get C hH 0 (Nat.le_of_ble_eq_true rfl) rfl fl_X12_203 (v := .int (σ_12.1 0 13)) rfl dX12_tellOne_80 ?_
    refine lv_if_le (tgt := 87) hx hb dX12_tellOne_83 (by decide) (fun hq_14 => ?_) (fun hq_14 => ?_)
    · rw [if_pos hq_14] at h
      refine lv_aload_n hx hb dX12_tellOne_87 rfl (lv_at hl 0 rfl) ?_
      refine g_get C hH 0 (Nat.le_of_ble_eq_true rfl) rfl fl_X12_43 (v := .ref (ad 9)) rfl dX12_tellOne_88 ?_
      refine lv_bipush (v := 10) hx hb dX12_tellOne_91 (by decide) ?_
      refine lv_aload_n hx hb dX12_tellOne_93 rfl (lv_at hl 0 rfl) ?_
      refine g_get C hH 0 (Nat.le_of_ble_eq_true rfl) rfl fl_X12_236 (v := .int (σ_12.1 0 19)) rfl dX12_tellOne_94 ?_
      refine lv_imul hx hb dX12_tellOne_97 ?_
      refine lv_aload_n hx hb dX12_tellOne_98 rfl (lv_at hl 0 rfl) ?_
      refine g_get C hH 0 (Nat.le_of_ble_eq_true rfl) rfl fl_X12_40 (v := .ref (ad 8)) rfl dX12_tellOne_99 ?_
      refine lv_aload_n hx hb dX12_tellOne_102 rfl (lv_at hl 0 rfl) ?_
      refine g_get C hH 0 (Nat.le_of_ble_eq_true rfl) rfl fl_X12_236 (v := .int (σ_12.1 0 19)) rfl dX12_tellOne_103 ?_
      obtain ⟨hi_15, h⟩ := gd_ex h
      refine g_iald C hH 8 (Nat.le_of_ble_eq_true rfl) rfl (k := ((σ_12.1 0 19).toNatClampNeg)) rfl (ix_in hi_15) dX12_tellOne_106 ?_
      refine lv_iadd hx hb dX12_tellOne_107 ?_
      refine lv_aload_n hx hb dX12_tellOne_108 rfl (lv_at hl 0 rfl) ?_
      refine lv_iconst (v := 0) hx hb dX12_tellOne_109 (by decide) ?_
      refine lv_iconst (v := 5) hx hb dX12_tellOne_110 (by decide) ?_
      obtain ⟨r_16, σ_17, hc_18, h⟩ := bdI_ex h
      refine g_ci (g_runV (rest := [.int (((10 : Int32) * (σ_12.1 0 19)) + (σ_12.1 8 ((σ_12.1 0 19).toNatClampNeg))), .ref (ad 9)]) C hH hl.1 cV_X12_254 0 (Nat.le_of_ble_eq_true rfl) rfl rfl (kX12_bounded l D ad κ hc_18) ⟨rfl, rfl⟩ ⟨(Nat.le_of_ble_eq_true rfl), (Nat.le_of_ble_eq_true rfl)⟩ rfl rfl (Nat.le_of_ble_eq_true rfl) dX12_tellOne_111 z00) hH (fun H locs hH => ?_)
      obtain ⟨hi_19, h⟩ := gd_ex h
      obtain ⟨σ_20, eσ_20, h⟩ := hl_ex h
      refine g_iast C hH 9 (Nat.le_of_ble_eq_true rfl) (fun _ _ => rfl) (k := ((((10 : Int32) * (σ_12.1 0 19)) + (σ_12.1 8 ((σ_12.1 0 19).toNatClampNeg))).toNatClampNeg)) rfl (ix_in hi_19) dX12_tellOne_114 (fun H locs hH => ?_)
      rw [← eσ_20] at hH
      refine lv_aload_n hx hb dX12_tellOne_115 rfl (lv_at hl 0 rfl) ?_
      refine lv_iconst (v := 4) hx hb dX12_tellOne_116 (by decide) ?_
      obtain ⟨σ_21, hc_22, h⟩ := bdV_ex h
      refine g_cv (g_runV (rest := []) C hH hl.1 cV_X12_258 0 (Nat.le_of_ble_eq_true rfl) rfl rfl (kX12_must l D ad κ hc_22) ⟨rfl, rfl⟩ ⟨(Nat.le_of_ble_eq_true rfl), (Nat.le_of_ble_eq_true rfl)⟩ rfl rfl (Nat.le_of_ble_eq_true rfl) dX12_tellOne_117 z00) hH (fun H locs hH => ?_)
      refine lv_aload_n hx hb dX12_tellOne_120 rfl (lv_at hl 0 rfl) ?_
      refine g_get C hH 0 (Nat.le_of_ble_eq_true rfl) rfl fl_X12_40 (v := .ref (ad 8)) rfl dX12_tellOne_121 ?_
      refine lv_aload_n hx hb dX12_tellOne_124 rfl (lv_at hl 0 rfl) ?_
      refine g_get C hH 0 (Nat.le_of_ble_eq_true rfl) rfl fl_X12_236 (v := .int (σ_21.1 0 19)) rfl dX12_tellOne_125 ?_
      refine lv_dup2_11 hx hb dX12_tellOne_128 rfl rfl ?_
      obtain ⟨hi_23, h⟩ := gd_ex h
      refine g_iald C hH 8 (Nat.le_of_ble_eq_true rfl) rfl (k := ((σ_21.1 0 19).toNatClampNeg)) rfl (ix_in hi_23) dX12_tellOne_129 ?_
      refine lv_iconst (v := 1) hx hb dX12_tellOne_130 (by decide) ?_
      refine lv_iadd hx hb dX12_tellOne_131 ?_
      obtain ⟨hi_24, h⟩ := gd_ex h
      obtain ⟨σ_25, eσ_25, h⟩ := hl_ex h
      refine g_iast C hH 8 (Nat.le_of_ble_eq_true rfl) (fun _ _ => rfl) (k := ((σ_21.1 0 19).toNatClampNeg)) rfl (ix_in hi_24) dX12_tellOne_132 (fun H locs hH => ?_)
      rw [← eσ_25] at hH
      refine lv_goto (tgt := 301) hx hb dX12_tellOne_133 (by decide) ?_
      exact g_retV C hH h dX12_tellOne_301
    · rw [if_neg hq_14] at h
      exact g_retV C hH h dX12_tellOne_86
  · rw [if_neg hs_10] at h
    by_cases hs_26 : xs_9 = 21
    · rw [if_pos hs_26] at h
      refine lv_tableIn (off := 127) (tgt := 136) hx hb dX12_tellOne_9 (by rw [hs_26]; decide) (by rw [hs_26]; decide) (by rw [hs_26]; rfl) (by decide) ?_
      refine lv_aload_n hx hb dX12_tellOne_136 rfl (lv_at hl 0 rfl) ?_
      refine lv_aload_n hx hb dX12_tellOne_137 rfl (lv_at hl 0 rfl) ?_
      refine g_get C hH 0 (Nat.le_of_ble_eq_true rfl) rfl fl_X12_49 (v := .ref (ad 11)) rfl dX12_tellOne_138 ?_
      refine lv_aload_n hx hb dX12_tellOne_141 rfl (lv_at hl 0 rfl) ?_
      refine g_get C hH 0 (Nat.le_of_ble_eq_true rfl) rfl fl_X12_236 (v := .int (σ.1 0 19)) rfl dX12_tellOne_142 ?_
      obtain ⟨hi_27, h⟩ := gd_ex h
      refine g_iald C hH 11 (Nat.le_of_ble_eq_true rfl) rfl (k := ((σ.1 0 19).toNatClampNeg)) rfl (ix_in hi_27) dX12_tellOne_145 ?_
      refine lv_iconst (v := 5) hx hb dX12_tellOne_146 (by decide) ?_
      obtain ⟨σ_28, hc_29, h⟩ := bdV_ex h
      refine g_cv (g_runV (rest := []) C hH hl.1 cV_X12_261 0 (Nat.le_of_ble_eq_true rfl) rfl rfl (kX12_roomFor l D ad κ hc_29) ⟨rfl, rfl⟩ ⟨(Nat.le_of_ble_eq_true rfl), (Nat.le_of_ble_eq_true rfl)⟩ rfl rfl (Nat.le_of_ble_eq_true rfl) dX12_tellOne_147 z00) hH (fun H locs hH => ?_)
      refine lv_aload_n hx hb dX12_tellOne_150 rfl (lv_at hl 0 rfl) ?_
      refine g_get C hH 0 (Nat.le_of_ble_eq_true rfl) rfl fl_X12_203 (v := .int (σ_28.1 0 13)) rfl dX12_tellOne_151 ?_
      refine lv_if_ne (tgt := 301) hx hb dX12_tellOne_154 (by decide) (fun hq_30 => ?_) (fun hq_30 => ?_)
      · rw [if_neg hq_30] at h
        exact g_retV C hH h dX12_tellOne_301
      · rw [if_pos hq_30] at h
        refine lv_aload_n hx hb dX12_tellOne_157 rfl (lv_at hl 0 rfl) ?_
        obtain ⟨σ_31, hc_32, h⟩ := bdV_ex h
        refine g_cv (g_runV (rest := []) C hH hl.1 cV_X12_265 0 (Nat.le_of_ble_eq_true rfl) rfl rfl (kX12_tellFamily l D ad κ hc_32) ⟨rfl, rfl⟩ ⟨(Nat.le_of_ble_eq_true rfl), (Nat.le_of_ble_eq_true rfl)⟩ rfl rfl (Nat.le_of_ble_eq_true rfl) dX12_tellOne_158 z00) hH (fun H locs hH => ?_)
        refine lv_goto (tgt := 301) hx hb dX12_tellOne_161 (by decide) ?_
        exact g_retV C hH h dX12_tellOne_301
    · rw [if_neg hs_26] at h
      by_cases hs_33 : xs_9 = 22
      · rw [if_pos hs_33] at h
        refine lv_tableIn (off := 155) (tgt := 164) hx hb dX12_tellOne_9 (by rw [hs_33]; decide) (by rw [hs_33]; decide) (by rw [hs_33]; rfl) (by decide) ?_
        refine lv_aload_n hx hb dX12_tellOne_164 rfl (lv_at hl 0 rfl) ?_
        refine lv_aload_n hx hb dX12_tellOne_165 rfl (lv_at hl 0 rfl) ?_
        refine g_get C hH 0 (Nat.le_of_ble_eq_true rfl) rfl fl_X12_61 (v := .ref (ad 15)) rfl dX12_tellOne_166 ?_
        refine lv_aload_n hx hb dX12_tellOne_169 rfl (lv_at hl 0 rfl) ?_
        refine g_get C hH 0 (Nat.le_of_ble_eq_true rfl) rfl fl_X12_236 (v := .int (σ.1 0 19)) rfl dX12_tellOne_170 ?_
        obtain ⟨hi_34, h⟩ := gd_ex h
        refine g_iald C hH 15 (Nat.le_of_ble_eq_true rfl) rfl (k := ((σ.1 0 19).toNatClampNeg)) rfl (ix_in hi_34) dX12_tellOne_173 ?_
        refine lv_bipush (v := 8) hx hb dX12_tellOne_174 (by decide) ?_
        obtain ⟨σ_35, hc_36, h⟩ := bdV_ex h
        refine g_cv (g_runV (rest := []) C hH hl.1 cV_X12_261 0 (Nat.le_of_ble_eq_true rfl) rfl rfl (kX12_roomFor l D ad κ hc_36) ⟨rfl, rfl⟩ ⟨(Nat.le_of_ble_eq_true rfl), (Nat.le_of_ble_eq_true rfl)⟩ rfl rfl (Nat.le_of_ble_eq_true rfl) dX12_tellOne_176 z00) hH (fun H locs hH => ?_)
        refine lv_aload_n hx hb dX12_tellOne_179 rfl (lv_at hl 0 rfl) ?_
        refine g_get C hH 0 (Nat.le_of_ble_eq_true rfl) rfl fl_X12_203 (v := .int (σ_35.1 0 13)) rfl dX12_tellOne_180 ?_
        refine lv_if_ne (tgt := 301) hx hb dX12_tellOne_183 (by decide) (fun hq_37 => ?_) (fun hq_37 => ?_)
        · rw [if_neg hq_37] at h
          exact g_retV C hH h dX12_tellOne_301
        · rw [if_pos hq_37] at h
          refine lv_aload_n hx hb dX12_tellOne_186 rfl (lv_at hl 0 rfl) ?_
          obtain ⟨σ_38, hc_39, h⟩ := bdV_ex h
          refine g_cv (g_runV (rest := []) C hH hl.1 cV_X12_268 0 (Nat.le_of_ble_eq_true rfl) rfl rfl (kX12_tellLease l D ad κ hc_39) ⟨rfl, rfl⟩ ⟨(Nat.le_of_ble_eq_true rfl), (Nat.le_of_ble_eq_true rfl)⟩ rfl rfl (Nat.le_of_ble_eq_true rfl) dX12_tellOne_187 z00) hH (fun H locs hH => ?_)
          refine lv_goto (tgt := 301) hx hb dX12_tellOne_190 (by decide) ?_
          exact g_retV C hH h dX12_tellOne_301
      · rw [if_neg hs_33] at h
        by_cases hs_40 : xs_9 = 23
        · rw [if_pos hs_40] at h
          refine lv_tableIn (off := 239) (tgt := 248) hx hb dX12_tellOne_9 (by rw [hs_40]; decide) (by rw [hs_40]; decide) (by rw [hs_40]; rfl) (by decide) ?_
          refine lv_aload_n hx hb dX12_tellOne_248 rfl (lv_at hl 0 rfl) ?_
          refine g_get C hH 0 (Nat.le_of_ble_eq_true rfl) rfl fl_X12_20 (v := .ref (ad 3)) rfl dX12_tellOne_249 ?_
          refine lv_aload_n hx hb dX12_tellOne_252 rfl (lv_at hl 0 rfl) ?_
          refine g_get C hH 0 (Nat.le_of_ble_eq_true rfl) rfl fl_X12_206 (v := .int (σ.1 0 11)) rfl dX12_tellOne_253 ?_
          obtain ⟨hi_41, h⟩ := gd_ex h
          refine g_iald C hH 3 (Nat.le_of_ble_eq_true rfl) rfl (k := ((σ.1 0 11).toNatClampNeg)) rfl (ix_in hi_41) dX12_tellOne_256 ?_
          refine lv_bipush (v := 23) hx hb dX12_tellOne_257 (by decide) ?_
          refine lv_isub hx hb dX12_tellOne_259 ?_
          obtain ⟨x1_42, ex1_42, h⟩ := hl_ex h
          refine lv_eqi ex1_42 ?_
          refine lv_istore_n (lv' := [(1, .int x1_42), (0, .ref (ad 0))]) hx hb dX12_tellOne_260 rfl hl (by decide) rfl (fun ls hl => ?_)
          refine lv_iload_n hx hb dX12_tellOne_261 rfl (lv_at hl 0 rfl) ?_
          refine lv_if_lt (tgt := 279) hx hb dX12_tellOne_262 (by decide) (fun hq_43 => ?_) (fun hq_43 => ?_)
          · rw [if_pos hq_43] at h
            exact wX12_tellOne_279 C  _ _ _ _ _ h hH (lv_sub hl [1, 0] rfl)
          · rw [if_neg hq_43] at h
            refine lv_aload_n hx hb dX12_tellOne_265 rfl (lv_at hl 1 rfl) ?_
            refine g_get C hH 0 (Nat.le_of_ble_eq_true rfl) rfl fl_X12_20 (v := .ref (ad 3)) rfl dX12_tellOne_266 ?_
            refine lv_aload_n hx hb dX12_tellOne_269 rfl (lv_at hl 1 rfl) ?_
            refine g_get C hH 0 (Nat.le_of_ble_eq_true rfl) rfl fl_X12_206 (v := .int (σ.1 0 11)) rfl dX12_tellOne_270 ?_
            obtain ⟨hi_44, h⟩ := gd_ex h
            refine g_iald C hH 3 (Nat.le_of_ble_eq_true rfl) rfl (k := ((σ.1 0 11).toNatClampNeg)) rfl (ix_in hi_44) dX12_tellOne_273 ?_
            refine lv_bipush (v := 26) hx hb dX12_tellOne_274 (by decide) ?_
            refine lv_icmp_le (tgt := 284) hx hb dX12_tellOne_276 (by decide) (fun hq_45 => ?_) (fun hq_45 => ?_)
            · rw [if_pos hq_45] at h
              exact wX12_tellOne_284 C  _ _ _ _ _ h hH (lv_sub hl [1, 0] rfl)
            · rw [if_neg hq_45] at h
              exact wX12_tellOne_279 C  _ _ _ _ _ h hH (lv_sub hl [1, 0] rfl)
        · rw [if_neg hs_40] at h
          by_cases hs_46 : xs_9 = 24
          · rw [if_pos hs_46] at h
            refine lv_tableIn (off := 239) (tgt := 248) hx hb dX12_tellOne_9 (by rw [hs_46]; decide) (by rw [hs_46]; decide) (by rw [hs_46]; rfl) (by decide) ?_
            refine lv_aload_n hx hb dX12_tellOne_248 rfl (lv_at hl 0 rfl) ?_
            refine g_get C hH 0 (Nat.le_of_ble_eq_true rfl) rfl fl_X12_20 (v := .ref (ad 3)) rfl dX12_tellOne_249 ?_
            refine lv_aload_n hx hb dX12_tellOne_252 rfl (lv_at hl 0 rfl) ?_
            refine g_get C hH 0 (Nat.le_of_ble_eq_true rfl) rfl fl_X12_206 (v := .int (σ.1 0 11)) rfl dX12_tellOne_253 ?_
            obtain ⟨hi_47, h⟩ := gd_ex h
            refine g_iald C hH 3 (Nat.le_of_ble_eq_true rfl) rfl (k := ((σ.1 0 11).toNatClampNeg)) rfl (ix_in hi_47) dX12_tellOne_256 ?_
            refine lv_bipush (v := 23) hx hb dX12_tellOne_257 (by decide) ?_
            refine lv_isub hx hb dX12_tellOne_259 ?_
            obtain ⟨x1_48, ex1_48, h⟩ := hl_ex h
            refine lv_eqi ex1_48 ?_
            refine lv_istore_n (lv' := [(1, .int x1_48), (0, .ref (ad 0))]) hx hb dX12_tellOne_260 rfl hl (by decide) rfl (fun ls hl => ?_)
            refine lv_iload_n hx hb dX12_tellOne_261 rfl (lv_at hl 0 rfl) ?_
            refine lv_if_lt (tgt := 279) hx hb dX12_tellOne_262 (by decide) (fun hq_49 => ?_) (fun hq_49 => ?_)
            · rw [if_pos hq_49] at h
              exact wX12_tellOne_279 C  _ _ _ _ _ h hH (lv_sub hl [1, 0] rfl)
            · rw [if_neg hq_49] at h
              refine lv_aload_n hx hb dX12_tellOne_265 rfl (lv_at hl 1 rfl) ?_
              refine g_get C hH 0 (Nat.le_of_ble_eq_true rfl) rfl fl_X12_20 (v := .ref (ad 3)) rfl dX12_tellOne_266 ?_
              refine lv_aload_n hx hb dX12_tellOne_269 rfl (lv_at hl 1 rfl) ?_
              refine g_get C hH 0 (Nat.le_of_ble_eq_true rfl) rfl fl_X12_206 (v := .int (σ.1 0 11)) rfl dX12_tellOne_270 ?_
              obtain ⟨hi_50, h⟩ := gd_ex h
              refine g_iald C hH 3 (Nat.le_of_ble_eq_true rfl) rfl (k := ((σ.1 0 11).toNatClampNeg)) rfl (ix_in hi_50) dX12_tellOne_273 ?_
              refine lv_bipush (v := 26) hx hb dX12_tellOne_274 (by decide) ?_
              refine lv_icmp_le (tgt := 284) hx hb dX12_tellOne_276 (by decide) (fun hq_51 => ?_) (fun hq_51 => ?_)
              · rw [if_pos hq_51] at h
                exact wX12_tellOne_284 C  _ _ _ _ _ h hH (lv_sub hl [1, 0] rfl)
              · rw [if_neg hq_51] at h
                exact wX12_tellOne_279 C  _ _ _ _ _ h hH (lv_sub hl [1, 0] rfl)
          · rw [if_neg hs_46] at h
            by_cases hs_52 : xs_9 = 25
            · rw [if_pos hs_52] at h
              refine lv_tableIn (off := 239) (tgt := 248) hx hb dX12_tellOne_9 (by rw [hs_52]; decide) (by rw [hs_52]; decide) (by rw [hs_52]; rfl) (by decide) ?_
              refine lv_aload_n hx hb dX12_tellOne_248 rfl (lv_at hl 0 rfl) ?_
              refine g_get C hH 0 (Nat.le_of_ble_eq_true rfl) rfl fl_X12_20 (v := .ref (ad 3)) rfl dX12_tellOne_249 ?_
              refine lv_aload_n hx hb dX12_tellOne_252 rfl (lv_at hl 0 rfl) ?_
              refine g_get C hH 0 (Nat.le_of_ble_eq_true rfl) rfl fl_X12_206 (v := .int (σ.1 0 11)) rfl dX12_tellOne_253 ?_
              obtain ⟨hi_53, h⟩ := gd_ex h
              refine g_iald C hH 3 (Nat.le_of_ble_eq_true rfl) rfl (k := ((σ.1 0 11).toNatClampNeg)) rfl (ix_in hi_53) dX12_tellOne_256 ?_
              refine lv_bipush (v := 23) hx hb dX12_tellOne_257 (by decide) ?_
              refine lv_isub hx hb dX12_tellOne_259 ?_
              obtain ⟨x1_54, ex1_54, h⟩ := hl_ex h
              refine lv_eqi ex1_54 ?_
              refine lv_istore_n (lv' := [(1, .int x1_54), (0, .ref (ad 0))]) hx hb dX12_tellOne_260 rfl hl (by decide) rfl (fun ls hl => ?_)
              refine lv_iload_n hx hb dX12_tellOne_261 rfl (lv_at hl 0 rfl) ?_
              refine lv_if_lt (tgt := 279) hx hb dX12_tellOne_262 (by decide) (fun hq_55 => ?_) (fun hq_55 => ?_)
              · rw [if_pos hq_55] at h
                exact wX12_tellOne_279 C  _ _ _ _ _ h hH (lv_sub hl [1, 0] rfl)
              · rw [if_neg hq_55] at h
                refine lv_aload_n hx hb dX12_tellOne_265 rfl (lv_at hl 1 rfl) ?_
                refine g_get C hH 0 (Nat.le_of_ble_eq_true rfl) rfl fl_X12_20 (v := .ref (ad 3)) rfl dX12_tellOne_266 ?_
                refine lv_aload_n hx hb dX12_tellOne_269 rfl (lv_at hl 1 rfl) ?_
                refine g_get C hH 0 (Nat.le_of_ble_eq_true rfl) rfl fl_X12_206 (v := .int (σ.1 0 11)) rfl dX12_tellOne_270 ?_
                obtain ⟨hi_56, h⟩ := gd_ex h
                refine g_iald C hH 3 (Nat.le_of_ble_eq_true rfl) rfl (k := ((σ.1 0 11).toNatClampNeg)) rfl (ix_in hi_56) dX12_tellOne_273 ?_
                refine lv_bipush (v := 26) hx hb dX12_tellOne_274 (by decide) ?_
                refine lv_icmp_le (tgt := 284) hx hb dX12_tellOne_276 (by decide) (fun hq_57 => ?_) (fun hq_57 => ?_)
                · rw [if_pos hq_57] at h
                  exact wX12_tellOne_284 C  _ _ _ _ _ h hH (lv_sub hl [1, 0] rfl)
                · rw [if_neg hq_57] at h
                  exact wX12_tellOne_279 C  _ _ _ _ _ h hH (lv_sub hl [1, 0] rfl)
            · rw [if_neg hs_52] at h
              by_cases hs_58 : xs_9 = 26
              · rw [if_pos hs_58] at h
                refine lv_tableIn (off := 239) (tgt := 248) hx hb dX12_tellOne_9 (by rw [hs_58]; decide) (by rw [hs_58]; decide) (by rw [hs_58]; rfl) (by decide) ?_
                refine lv_aload_n hx hb dX12_tellOne_248 rfl (lv_at hl 0 rfl) ?_
                refine g_get C hH 0 (Nat.le_of_ble_eq_true rfl) rfl fl_X12_20 (v := .ref (ad 3)) rfl dX12_tellOne_249 ?_
                refine lv_aload_n hx hb dX12_tellOne_252 rfl (lv_at hl 0 rfl) ?_
                refine g_get C hH 0 (Nat.le_of_ble_eq_true rfl) rfl fl_X12_206 (v := .int (σ.1 0 11)) rfl dX12_tellOne_253 ?_
                obtain ⟨hi_59, h⟩ := gd_ex h
                refine g_iald C hH 3 (Nat.le_of_ble_eq_true rfl) rfl (k := ((σ.1 0 11).toNatClampNeg)) rfl (ix_in hi_59) dX12_tellOne_256 ?_
                refine lv_bipush (v := 23) hx hb dX12_tellOne_257 (by decide) ?_
                refine lv_isub hx hb dX12_tellOne_259 ?_
                obtain ⟨x1_60, ex1_60, h⟩ := hl_ex h
                refine lv_eqi ex1_60 ?_
                refine lv_istore_n (lv' := [(1, .int x1_60), (0, .ref (ad 0))]) hx hb dX12_tellOne_260 rfl hl (by decide) rfl (fun ls hl => ?_)
                refine lv_iload_n hx hb dX12_tellOne_261 rfl (lv_at hl 0 rfl) ?_
                refine lv_if_lt (tgt := 279) hx hb dX12_tellOne_262 (by decide) (fun hq_61 => ?_) (fun hq_61 => ?_)
                · rw [if_pos hq_61] at h
                  exact wX12_tellOne_279 C  _ _ _ _ _ h hH (lv_sub hl [1, 0] rfl)
                · rw [if_neg hq_61] at h
                  refine lv_aload_n hx hb dX12_tellOne_265 rfl (lv_at hl 1 rfl) ?_
                  refine g_get C hH 0 (Nat.le_of_ble_eq_true rfl) rfl fl_X12_20 (v := .ref (ad 3)) rfl dX12_tellOne_266 ?_
                  refine lv_aload_n hx hb dX12_tellOne_269 rfl (lv_at hl 1 rfl) ?_
                  refine g_get C hH 0 (Nat.le_of_ble_eq_true rfl) rfl fl_X12_206 (v := .int (σ.1 0 11)) rfl dX12_tellOne_270 ?_
                  obtain ⟨hi_62, h⟩ := gd_ex h
                  refine g_iald C hH 3 (Nat.le_of_ble_eq_true rfl) rfl (k := ((σ.1 0 11).toNatClampNeg)) rfl (ix_in hi_62) dX12_tellOne_273 ?_
                  refine lv_bipush (v := 26) hx hb dX12_tellOne_274 (by decide) ?_
                  refine lv_icmp_le (tgt := 284) hx hb dX12_tellOne_276 (by decide) (fun hq_63 => ?_) (fun hq_63 => ?_)
                  · rw [if_pos hq_63] at h
                    exact wX12_tellOne_284 C  _ _ _ _ _ h hH (lv_sub hl [1, 0] rfl)
                  · rw [if_neg hq_63] at h
                    exact wX12_tellOne_279 C  _ _ _ _ _ h hH (lv_sub hl [1, 0] rfl)
              · rw [if_neg hs_58] at h
                by_cases hs_64 : xs_9 = 27
                · rw [if_pos hs_64] at h
                  refine lv_tableIn (off := 184) (tgt := 193) hx hb dX12_tellOne_9 (by rw [hs_64]; decide) (by rw [hs_64]; decide) (by rw [hs_64]; rfl) (by decide) ?_
                  refine lv_aload_n hx hb dX12_tellOne_193 rfl (lv_at hl 0 rfl) ?_
                  refine g_get C hH 0 (Nat.le_of_ble_eq_true rfl) rfl fl_X12_64 (v := .ref (ad 16)) rfl dX12_tellOne_194 ?_
                  refine lv_aload_n hx hb dX12_tellOne_197 rfl (lv_at hl 0 rfl) ?_
                  refine g_get C hH 0 (Nat.le_of_ble_eq_true rfl) rfl fl_X12_236 (v := .int (σ.1 0 19)) rfl dX12_tellOne_198 ?_
                  refine lv_aload_n hx hb dX12_tellOne_201 rfl (lv_at hl 0 rfl) ?_
                  refine lv_bipush (v := 9) hx hb dX12_tellOne_202 (by decide) ?_
                  obtain ⟨r_65, σ_66, hc_67, h⟩ := bdI_ex h
                  refine g_ci (g_runV (rest := [.int (σ.1 0 19), .ref (ad 16)]) C hH hl.1 cV_X12_271 0 (Nat.le_of_ble_eq_true rfl) rfl rfl (kX12_toldInt l D ad κ hc_67) ⟨rfl, rfl⟩ ⟨(Nat.le_of_ble_eq_true rfl), (Nat.le_of_ble_eq_true rfl)⟩ rfl rfl (Nat.le_of_ble_eq_true rfl) dX12_tellOne_204 z00) hH (fun H locs hH => ?_)
                  obtain ⟨hi_68, h⟩ := gd_ex h
                  obtain ⟨σ_69, eσ_69, h⟩ := hl_ex h
                  refine g_iast C hH 16 (Nat.le_of_ble_eq_true rfl) (fun _ _ => rfl) (k := ((σ.1 0 19).toNatClampNeg)) rfl (ix_in hi_68) dX12_tellOne_207 (fun H locs hH => ?_)
                  rw [← eσ_69] at hH
                  refine lv_goto (tgt := 301) hx hb dX12_tellOne_208 (by decide) ?_
                  exact g_retV C hH h dX12_tellOne_301
                · rw [if_neg hs_64] at h
                  by_cases hs_70 : xs_9 = 28
                  · rw [if_pos hs_70] at h
                    refine lv_tableIn (off := 202) (tgt := 211) hx hb dX12_tellOne_9 (by rw [hs_70]; decide) (by rw [hs_70]; decide) (by rw [hs_70]; rfl) (by decide) ?_
                    refine lv_aload_n hx hb dX12_tellOne_211 rfl (lv_at hl 0 rfl) ?_
                    refine g_get C hH 0 (Nat.le_of_ble_eq_true rfl) rfl fl_X12_67 (v := .ref (ad 17)) rfl dX12_tellOne_212 ?_
                    refine lv_aload_n hx hb dX12_tellOne_215 rfl (lv_at hl 0 rfl) ?_
                    refine g_get C hH 0 (Nat.le_of_ble_eq_true rfl) rfl fl_X12_236 (v := .int (σ.1 0 19)) rfl dX12_tellOne_216 ?_
                    refine lv_aload_n hx hb dX12_tellOne_219 rfl (lv_at hl 0 rfl) ?_
                    refine lv_bipush (v := 9) hx hb dX12_tellOne_220 (by decide) ?_
                    obtain ⟨r_71, σ_72, hc_73, h⟩ := bdI_ex h
                    refine g_ci (g_runV (rest := [.int (σ.1 0 19), .ref (ad 17)]) C hH hl.1 cV_X12_271 0 (Nat.le_of_ble_eq_true rfl) rfl rfl (kX12_toldInt l D ad κ hc_73) ⟨rfl, rfl⟩ ⟨(Nat.le_of_ble_eq_true rfl), (Nat.le_of_ble_eq_true rfl)⟩ rfl rfl (Nat.le_of_ble_eq_true rfl) dX12_tellOne_222 z00) hH (fun H locs hH => ?_)
                    obtain ⟨hi_74, h⟩ := gd_ex h
                    obtain ⟨σ_75, eσ_75, h⟩ := hl_ex h
                    refine g_iast C hH 17 (Nat.le_of_ble_eq_true rfl) (fun _ _ => rfl) (k := ((σ.1 0 19).toNatClampNeg)) rfl (ix_in hi_74) dX12_tellOne_225 (fun H locs hH => ?_)
                    rw [← eσ_75] at hH
                    refine lv_goto (tgt := 301) hx hb dX12_tellOne_226 (by decide) ?_
                    exact g_retV C hH h dX12_tellOne_301
                  · rw [if_neg hs_70] at h
                    by_cases hs_76 : xs_9 = 29
                    · rw [if_pos hs_76] at h
                      refine lv_tableIn (off := 220) (tgt := 229) hx hb dX12_tellOne_9 (by rw [hs_76]; decide) (by rw [hs_76]; decide) (by rw [hs_76]; rfl) (by decide) ?_
                      refine lv_aload_n hx hb dX12_tellOne_229 rfl (lv_at hl 0 rfl) ?_
                      refine g_get C hH 0 (Nat.le_of_ble_eq_true rfl) rfl fl_X12_70 (v := .ref (ad 18)) rfl dX12_tellOne_230 ?_
                      refine lv_aload_n hx hb dX12_tellOne_233 rfl (lv_at hl 0 rfl) ?_
                      refine g_get C hH 0 (Nat.le_of_ble_eq_true rfl) rfl fl_X12_236 (v := .int (σ.1 0 19)) rfl dX12_tellOne_234 ?_
                      refine lv_aload_n hx hb dX12_tellOne_237 rfl (lv_at hl 0 rfl) ?_
                      refine lv_sipush (v := 9999) hx hb dX12_tellOne_238 (by decide) ?_
                      obtain ⟨r_77, σ_78, hc_79, h⟩ := bdI_ex h
                      refine g_ci (g_runV (rest := [.int (σ.1 0 19), .ref (ad 18)]) C hH hl.1 cV_X12_271 0 (Nat.le_of_ble_eq_true rfl) rfl rfl (kX12_toldInt l D ad κ hc_79) ⟨rfl, rfl⟩ ⟨(Nat.le_of_ble_eq_true rfl), (Nat.le_of_ble_eq_true rfl)⟩ rfl rfl (Nat.le_of_ble_eq_true rfl) dX12_tellOne_241 z00) hH (fun H locs hH => ?_)
                      obtain ⟨hi_80, h⟩ := gd_ex h
                      obtain ⟨σ_81, eσ_81, h⟩ := hl_ex h
                      refine g_iast C hH 18 (Nat.le_of_ble_eq_true rfl) (fun _ _ => rfl) (k := ((σ.1 0 19).toNatClampNeg)) rfl (ix_in hi_80) dX12_tellOne_244 (fun H locs hH => ?_)
                      rw [← eσ_81] at hH
                      refine lv_goto (tgt := 301) hx hb dX12_tellOne_245 (by decide) ?_
                      exact g_retV C hH h dX12_tellOne_301
                    · rw [if_neg hs_76] at h
                      refine lv_tableOut (tgt := 248) hx hb dX12_tellOne_9 (by have a0 := lv_neT hs_10 (show (20 : Int32).toInt = 20 from by decide); have a1 := lv_neT hs_26 (show (21 : Int32).toInt = 21 from by decide); have a2 := lv_neT hs_33 (show (22 : Int32).toInt = 22 from by decide); have a3 := lv_neT hs_40 (show (23 : Int32).toInt = 23 from by decide); have a4 := lv_neT hs_46 (show (24 : Int32).toInt = 24 from by decide); have a5 := lv_neT hs_52 (show (25 : Int32).toInt = 25 from by decide); have a6 := lv_neT hs_58 (show (26 : Int32).toInt = 26 from by decide); have a7 := lv_neT hs_64 (show (27 : Int32).toInt = 27 from by decide); have a8 := lv_neT hs_70 (show (28 : Int32).toInt = 28 from by decide); have a9 := lv_neT hs_76 (show (29 : Int32).toInt = 29 from by decide); omega) (by decide) ?_
                      refine lv_aload_n hx hb dX12_tellOne_248 rfl (lv_at hl 0 rfl) ?_
                      refine g_get C hH 0 (Nat.le_of_ble_eq_true rfl) rfl fl_X12_20 (v := .ref (ad 3)) rfl dX12_tellOne_249 ?_
                      refine lv_aload_n hx hb dX12_tellOne_252 rfl (lv_at hl 0 rfl) ?_
                      refine g_get C hH 0 (Nat.le_of_ble_eq_true rfl) rfl fl_X12_206 (v := .int (σ.1 0 11)) rfl dX12_tellOne_253 ?_
                      obtain ⟨hi_82, h⟩ := gd_ex h
                      refine g_iald C hH 3 (Nat.le_of_ble_eq_true rfl) rfl (k := ((σ.1 0 11).toNatClampNeg)) rfl (ix_in hi_82) dX12_tellOne_256 ?_
                      refine lv_bipush (v := 23) hx hb dX12_tellOne_257 (by decide) ?_
                      refine lv_isub hx hb dX12_tellOne_259 ?_
                      obtain ⟨x1_83, ex1_83, h⟩ := hl_ex h
                      refine lv_eqi ex1_83 ?_
                      refine lv_istore_n (lv' := [(1, .int x1_83), (0, .ref (ad 0))]) hx hb dX12_tellOne_260 rfl hl (by decide) rfl (fun ls hl => ?_)
                      refine lv_iload_n hx hb dX12_tellOne_261 rfl (lv_at hl 0 rfl) ?_
                      refine lv_if_lt (tgt := 279) hx hb dX12_tellOne_262 (by decide) (fun hq_84 => ?_) (fun hq_84 => ?_)
                      · rw [if_pos hq_84] at h
                        exact wX12_tellOne_279 C  _ _ _ _ _ h hH (lv_sub hl [1, 0] rfl)
                      · rw [if_neg hq_84] at h
                        refine lv_aload_n hx hb dX12_tellOne_265 rfl (lv_at hl 1 rfl) ?_
                        refine g_get C hH 0 (Nat.le_of_ble_eq_true rfl) rfl fl_X12_20 (v := .ref (ad 3)) rfl dX12_tellOne_266 ?_
                        refine lv_aload_n hx hb dX12_tellOne_269 rfl (lv_at hl 1 rfl) ?_
                        refine g_get C hH 0 (Nat.le_of_ble_eq_true rfl) rfl fl_X12_206 (v := .int (σ.1 0 11)) rfl dX12_tellOne_270 ?_
                        obtain ⟨hi_85, h⟩ := gd_ex h
                        refine g_iald C hH 3 (Nat.le_of_ble_eq_true rfl) rfl (k := ((σ.1 0 11).toNatClampNeg)) rfl (ix_in hi_85) dX12_tellOne_273 ?_
                        refine lv_bipush (v := 26) hx hb dX12_tellOne_274 (by decide) ?_
                        refine lv_icmp_le (tgt := 284) hx hb dX12_tellOne_276 (by decide) (fun hq_86 => ?_) (fun hq_86 => ?_)
                        · rw [if_pos hq_86] at h
                          exact wX12_tellOne_284 C  _ _ _ _ _ h hH (lv_sub hl [1, 0] rfl)
                        · rw [if_neg hq_86] at h
                          exact wX12_tellOne_279 C  _ _ _ _ _ h hH (lv_sub hl [1, 0] rfl)
-- X12_many
def FX12_many (σ : HS) : Option (Int32 × HS) :=
  gd (ix (σ.1 0 18) 2) (some ((σ.1 8 ((σ.1 0 18).toNatClampNeg)), σ))
set_option maxHeartbeats 4000000 in
set_option maxRecDepth 100000 in
theorem kX12_many (l : Launch) (D : va_G) (ad : Nat → Nat) (κ : KC) {σ : HS} {R : (Int32 × HS)} (h : FX12_many σ = some R) : MtI l 45 ceM D ad κ yX12_many cX12_many 1 (some .int) ({ frames := 0, cells := 0, slots := 0, locals := 0 } : Room) [.ref (ad 0)] σ R := by
  refine open_ (by decide) (Nat.le_of_ble_eq_true rfl) (la := [(0, .ref (ad 0))]) rfl ?_
  intro p e s m below meth c ls C hH hl
  replace C : Cx 45 D ad κ p s m _ meth c cX12_many RX12 1 (some .int) := C
  have hx := C.1
  have hb := C.2.1
  have hown := C.2.2.2.1
  have hts := C.2.2.2.2.1
  rw [FX12_many] at h
  refine lv_aload_n hx hb dX12_many_0 rfl (lv_at hl 0 rfl) ?_
  refine g_get C hH 0 (Nat.le_of_ble_eq_true rfl) rfl fl_X12_40 (v := .ref (ad 8)) rfl dX12_many_1 ?_
  refine lv_aload_n hx hb dX12_many_4 rfl (lv_at hl 0 rfl) ?_
  refine g_get C hH 0 (Nat.le_of_ble_eq_true rfl) rfl fl_X12_233 (v := .int (σ.1 0 18)) rfl dX12_many_5 ?_
  obtain ⟨hi_1, h⟩ := gd_ex h
  refine g_iald C hH 8 (Nat.le_of_ble_eq_true rfl) rfl (k := ((σ.1 0 18).toNatClampNeg)) rfl (ix_in hi_1) dX12_many_8 ?_
  exact g_ret C hH h dX12_many_9
-- X12_begins
def FX12_begins_59  : Nat → Int32 → HS → Option HS
  | 0, _, _ => none
  | f + 1, x1, σ => if (8 : Int32) ≤ x1 then gd (ix (σ.1 0 18) 2) (hl_ (pI σ 32 18 (σ.1 16 ((σ.1 0 18).toNatClampNeg))) fun σ_3 => gd (ix (σ_3.1 0 18) 2) (hl_ (pI σ_3 32 19 (σ_3.1 17 ((σ_3.1 0 18).toNatClampNeg))) fun σ_5 => hl_ (pI σ_5 32 22 (-2 : Int32)) fun σ_6 => gd (ix (σ_6.1 0 18) 2) (hl_ (pI σ_6 0 49 (σ_6.1 18 ((σ_6.1 0 18).toNatClampNeg))) fun σ_8 => some σ_8))) else gd (ix (((8 : Int32) * (σ.1 0 18)) + x1) 16) (gd (ix ((10 : Int32) + x1) 33) (hl_ (pI σ 32 (((10 : Int32) + x1).toNatClampNeg) (σ.1 14 ((((8 : Int32) * (σ.1 0 18)) + x1).toNatClampNeg))) fun σ_11 => FX12_begins_59  f (x1 + 1) σ_11))
def FX12_begins_23  : Nat → Int32 → HS → Option HS
  | 0, _, _ => none
  | f + 1, x1, σ => bdI (FX12_many σ) fun r_12 σ_13 => if r_12 ≤ x1 then FX12_begins_59 fu (0 : Int32) σ_13 else gd (ix (((10 : Int32) * (σ_13.1 0 18)) + x1) 20) (gd (ix x1 33) (hl_ (pI σ_13 32 (x1.toNatClampNeg) (σ_13.1 9 ((((10 : Int32) * (σ_13.1 0 18)) + x1).toNatClampNeg))) fun σ_18 => FX12_begins_23  f (x1 + 1) σ_18))
def FX12_begins_2  : Nat → Int32 → HS → Option HS
  | 0, _, _ => none
  | f + 1, x1, σ => if (33 : Int32) ≤ x1 then FX12_begins_23 fu (0 : Int32) σ else gd (ix x1 33) (hl_ (pI σ 32 (x1.toNatClampNeg) (0 : Int32)) fun σ_21 => FX12_begins_2  f (x1 + 1) σ_21)
def FX12_begins (σ : HS) : Option HS :=
  FX12_begins_2 fu (0 : Int32) σ
set_option maxHeartbeats 4000000 in
set_option maxRecDepth 100000 in
theorem wX12_begins_59 (C : Cx 45 D ad κ p s m args meth c cX12_begins RX12 2 none) {R : HS} : ∀ (f : Nat) (x1 : Int32) (σ : HS) (H : Heap) (locs : List Loc) (ls : Array Slot), FX12_begins_59  f x1 σ = some R → Hd 45 ceM D ad κ s σ H locs → lv_has ls 2 [(0, .ref (ad 0)), (1, .int x1)] → W p l e ({ frames := 1, cells := 0, slots := 0, locals := 20 } : Room) s m args below meth c H locs 0 0 (MQ below (QV 45 ceM D ad κ R) args s 0 0 (AX 45 ad)) (F0 m 59 ls []) := by
  have hx := C.1
  have hb := C.2.1
  have hown := C.2.2.2.1
  have hts := C.2.2.2.2.1
  intro f
  induction f with
  | zero =>
    intro x1 σ H locs ls h hH hl
    cases h
  | succ f ih =>
    intro x1 σ H locs ls h hH hl
    rw [FX12_begins_59] at h
    refine lv_iload_n hx hb dX12_begins_59 rfl (lv_at hl 1 rfl) ?_
    refine lv_bipush (v := 8) hx hb dX12_begins_60 (by decide) ?_
    refine lv_icmp_ge (tgt := 94) hx hb dX12_begins_62 (by decide) (fun hq_1 => ?_) (fun hq_1 => ?_)
    · rw [if_pos hq_1] at h
      refine lv_aload_n hx hb dX12_begins_94 rfl (lv_at hl 0 rfl) ?_
      refine g_get C hH 0 (Nat.le_of_ble_eq_true rfl) rfl fl_X12_113 (v := .ref (ad 32)) rfl dX12_begins_95 ?_
      refine lv_bipush (v := 18) hx hb dX12_begins_98 (by decide) ?_
      refine lv_aload_n hx hb dX12_begins_100 rfl (lv_at hl 0 rfl) ?_
      refine g_get C hH 0 (Nat.le_of_ble_eq_true rfl) rfl fl_X12_64 (v := .ref (ad 16)) rfl dX12_begins_101 ?_
      refine lv_aload_n hx hb dX12_begins_104 rfl (lv_at hl 0 rfl) ?_
      refine g_get C hH 0 (Nat.le_of_ble_eq_true rfl) rfl fl_X12_233 (v := .int (σ.1 0 18)) rfl dX12_begins_105 ?_
      obtain ⟨hi_2, h⟩ := gd_ex h
      refine g_iald C hH 16 (Nat.le_of_ble_eq_true rfl) rfl (k := ((σ.1 0 18).toNatClampNeg)) rfl (ix_in hi_2) dX12_begins_108 ?_
      obtain ⟨σ_3, eσ_3, h⟩ := hl_ex h
      refine g_iast C hH 32 (Nat.le_of_ble_eq_true rfl) (fun _ _ => rfl) (k := 18) (by decide) (ix_in rfl) dX12_begins_109 (fun H locs hH => ?_)
      rw [← eσ_3] at hH
      refine lv_aload_n hx hb dX12_begins_110 rfl (lv_at hl 0 rfl) ?_
      refine g_get C hH 0 (Nat.le_of_ble_eq_true rfl) rfl fl_X12_113 (v := .ref (ad 32)) rfl dX12_begins_111 ?_
      refine lv_bipush (v := 19) hx hb dX12_begins_114 (by decide) ?_
      refine lv_aload_n hx hb dX12_begins_116 rfl (lv_at hl 0 rfl) ?_
      refine g_get C hH 0 (Nat.le_of_ble_eq_true rfl) rfl fl_X12_67 (v := .ref (ad 17)) rfl dX12_begins_117 ?_
      refine lv_aload_n hx hb dX12_begins_120 rfl (lv_at hl 0 rfl) ?_
      refine g_get C hH 0 (Nat.le_of_ble_eq_true rfl) rfl fl_X12_233 (v := .int (σ_3.1 0 18)) rfl dX12_begins_121 ?_
      obtain ⟨hi_4, h⟩ := gd_ex h
      refine g_iald C hH 17 (Nat.le_of_ble_eq_true rfl) rfl (k := ((σ_3.1 0 18).toNatClampNeg)) rfl (ix_in hi_4) dX12_begins_124 ?_
      obtain ⟨σ_5, eσ_5, h⟩ := hl_ex h
      refine g_iast C hH 32 (Nat.le_of_ble_eq_true rfl) (fun _ _ => rfl) (k := 19) (by decide) (ix_in rfl) dX12_begins_125 (fun H locs hH => ?_)
      rw [← eσ_5] at hH
      refine lv_aload_n hx hb dX12_begins_126 rfl (lv_at hl 0 rfl) ?_
      refine g_get C hH 0 (Nat.le_of_ble_eq_true rfl) rfl fl_X12_113 (v := .ref (ad 32)) rfl dX12_begins_127 ?_
      refine lv_bipush (v := 22) hx hb dX12_begins_130 (by decide) ?_
      refine lv_bipush (v := (-2)) hx hb dX12_begins_132 (by decide) ?_
      obtain ⟨σ_6, eσ_6, h⟩ := hl_ex h
      refine g_iast C hH 32 (Nat.le_of_ble_eq_true rfl) (fun _ _ => rfl) (k := 22) (by decide) (ix_in rfl) dX12_begins_134 (fun H locs hH => ?_)
      rw [← eσ_6] at hH
      refine lv_aload_n hx hb dX12_begins_135 rfl (lv_at hl 0 rfl) ?_
      refine lv_aload_n hx hb dX12_begins_136 rfl (lv_at hl 0 rfl) ?_
      refine g_get C hH 0 (Nat.le_of_ble_eq_true rfl) rfl fl_X12_70 (v := .ref (ad 18)) rfl dX12_begins_137 ?_
      refine lv_aload_n hx hb dX12_begins_140 rfl (lv_at hl 0 rfl) ?_
      refine g_get C hH 0 (Nat.le_of_ble_eq_true rfl) rfl fl_X12_233 (v := .int (σ_6.1 0 18)) rfl dX12_begins_141 ?_
      obtain ⟨hi_7, h⟩ := gd_ex h
      refine g_iald C hH 18 (Nat.le_of_ble_eq_true rfl) rfl (k := ((σ_6.1 0 18).toNatClampNeg)) rfl (ix_in hi_7) dX12_begins_144 ?_
      obtain ⟨σ_8, eσ_8, h⟩ := hl_ex h
      refine g_putI C hH 0 (Nat.le_of_ble_eq_true rfl) rfl fp_X12_314 rfl rfl (Nat.le_of_ble_eq_true rfl) rfl dX12_begins_145 (fun H locs hH => ?_)
      rw [← eσ_8] at hH
      exact g_retV C hH h dX12_begins_148
    · rw [if_neg hq_1] at h
      refine lv_aload_n hx hb dX12_begins_65 rfl (lv_at hl 0 rfl) ?_
      refine g_get C hH 0 (Nat.le_of_ble_eq_true rfl) rfl fl_X12_113 (v := .ref (ad 32)) rfl dX12_begins_66 ?_
      refine lv_bipush (v := 10) hx hb dX12_begins_69 (by decide) ?_
      refine lv_iload_n hx hb dX12_begins_71 rfl (lv_at hl 1 rfl) ?_
      refine lv_iadd hx hb dX12_begins_72 ?_
      refine lv_aload_n hx hb dX12_begins_73 rfl (lv_at hl 0 rfl) ?_
      refine g_get C hH 0 (Nat.le_of_ble_eq_true rfl) rfl fl_X12_58 (v := .ref (ad 14)) rfl dX12_begins_74 ?_
      refine lv_bipush (v := 8) hx hb dX12_begins_77 (by decide) ?_
      refine lv_aload_n hx hb dX12_begins_79 rfl (lv_at hl 0 rfl) ?_
      refine g_get C hH 0 (Nat.le_of_ble_eq_true rfl) rfl fl_X12_233 (v := .int (σ.1 0 18)) rfl dX12_begins_80 ?_
      refine lv_imul hx hb dX12_begins_83 ?_
      refine lv_iload_n hx hb dX12_begins_84 rfl (lv_at hl 1 rfl) ?_
      refine lv_iadd hx hb dX12_begins_85 ?_
      obtain ⟨hi_9, h⟩ := gd_ex h
      refine g_iald C hH 14 (Nat.le_of_ble_eq_true rfl) rfl (k := ((((8 : Int32) * (σ.1 0 18)) + x1).toNatClampNeg)) rfl (ix_in hi_9) dX12_begins_86 ?_
      obtain ⟨hi_10, h⟩ := gd_ex h
      obtain ⟨σ_11, eσ_11, h⟩ := hl_ex h
      refine g_iast C hH 32 (Nat.le_of_ble_eq_true rfl) (fun _ _ => rfl) (k := (((10 : Int32) + x1).toNatClampNeg)) rfl (ix_in hi_10) dX12_begins_87 (fun H locs hH => ?_)
      rw [← eσ_11] at hH
      refine lv_iinc (v := (x1 + 1)) (lv' := [(1, .int (x1 + 1)), (0, .ref (ad 0))]) hx hb dX12_begins_88 hl (k := 1) rfl rfl (by decide) rfl (fun ls hl => ?_)
      refine lv_goto (tgt := 59) hx hb dX12_begins_91 (by decide) ?_
      exact ih _ _ _ _ _ h hH (lv_sub hl [1, 0] rfl)
set_option maxHeartbeats 4000000 in
set_option maxRecDepth 100000 in
theorem wX12_begins_23 (C : Cx 45 D ad κ p s m args meth c cX12_begins RX12 2 none) {R : HS} : ∀ (f : Nat) (x1 : Int32) (σ : HS) (H : Heap) (locs : List Loc) (ls : Array Slot), FX12_begins_23  f x1 σ = some R → Hd 45 ceM D ad κ s σ H locs → lv_has ls 2 [(0, .ref (ad 0)), (1, .int x1)] → W p l e ({ frames := 1, cells := 0, slots := 0, locals := 20 } : Room) s m args below meth c H locs 0 0 (MQ below (QV 45 ceM D ad κ R) args s 0 0 (AX 45 ad)) (F0 m 23 ls []) := by
  have hx := C.1
  have hb := C.2.1
  have hown := C.2.2.2.1
  have hts := C.2.2.2.2.1
  intro f
  induction f with
  | zero =>
    intro x1 σ H locs ls h hH hl
    cases h
  | succ f ih =>
    intro x1 σ H locs ls h hH hl
    rw [FX12_begins_23] at h
    refine lv_iload_n hx hb dX12_begins_23 rfl (lv_at hl 1 rfl) ?_
    refine lv_aload_n hx hb dX12_begins_24 rfl (lv_at hl 0 rfl) ?_
    obtain ⟨r_12, σ_13, hc_14, h⟩ := bdI_ex h
    refine g_ci (g_runV (rest := [.int x1]) C hH hl.1 cV_X12_306 0 (Nat.le_of_ble_eq_true rfl) rfl rfl (kX12_many l D ad κ hc_14) ⟨rfl, rfl⟩ ⟨(Nat.le_of_ble_eq_true rfl), (Nat.le_of_ble_eq_true rfl)⟩ rfl rfl (Nat.le_of_ble_eq_true rfl) dX12_begins_25 z00) hH (fun H locs hH => ?_)
    refine lv_icmp_ge (tgt := 57) hx hb dX12_begins_28 (by decide) (fun hq_15 => ?_) (fun hq_15 => ?_)
    · rw [if_pos hq_15] at h
      refine lv_iconst (v := 0) hx hb dX12_begins_57 (by decide) ?_
      refine lv_istore_n (lv' := [(1, .int (0 : Int32)), (0, .ref (ad 0))]) hx hb dX12_begins_58 rfl hl (by decide) rfl (fun ls hl => ?_)
      exact wX12_begins_59 C _ _ _ _ _ _ h hH (lv_sub hl [1, 0] rfl)
    · rw [if_neg hq_15] at h
      refine lv_aload_n hx hb dX12_begins_31 rfl (lv_at hl 0 rfl) ?_
      refine g_get C hH 0 (Nat.le_of_ble_eq_true rfl) rfl fl_X12_113 (v := .ref (ad 32)) rfl dX12_begins_32 ?_
      refine lv_iload_n hx hb dX12_begins_35 rfl (lv_at hl 1 rfl) ?_
      refine lv_aload_n hx hb dX12_begins_36 rfl (lv_at hl 0 rfl) ?_
      refine g_get C hH 0 (Nat.le_of_ble_eq_true rfl) rfl fl_X12_43 (v := .ref (ad 9)) rfl dX12_begins_37 ?_
      refine lv_bipush (v := 10) hx hb dX12_begins_40 (by decide) ?_
      refine lv_aload_n hx hb dX12_begins_42 rfl (lv_at hl 0 rfl) ?_
      refine g_get C hH 0 (Nat.le_of_ble_eq_true rfl) rfl fl_X12_233 (v := .int (σ_13.1 0 18)) rfl dX12_begins_43 ?_
      refine lv_imul hx hb dX12_begins_46 ?_
      refine lv_iload_n hx hb dX12_begins_47 rfl (lv_at hl 1 rfl) ?_
      refine lv_iadd hx hb dX12_begins_48 ?_
      obtain ⟨hi_16, h⟩ := gd_ex h
      refine g_iald C hH 9 (Nat.le_of_ble_eq_true rfl) rfl (k := ((((10 : Int32) * (σ_13.1 0 18)) + x1).toNatClampNeg)) rfl (ix_in hi_16) dX12_begins_49 ?_
      obtain ⟨hi_17, h⟩ := gd_ex h
      obtain ⟨σ_18, eσ_18, h⟩ := hl_ex h
      refine g_iast C hH 32 (Nat.le_of_ble_eq_true rfl) (fun _ _ => rfl) (k := (x1.toNatClampNeg)) rfl (ix_in hi_17) dX12_begins_50 (fun H locs hH => ?_)
      rw [← eσ_18] at hH
      refine lv_iinc (v := (x1 + 1)) (lv' := [(1, .int (x1 + 1)), (0, .ref (ad 0))]) hx hb dX12_begins_51 hl (k := 1) rfl rfl (by decide) rfl (fun ls hl => ?_)
      refine lv_goto (tgt := 23) hx hb dX12_begins_54 (by decide) ?_
      exact ih _ _ _ _ _ h hH (lv_sub hl [1, 0] rfl)
set_option maxHeartbeats 4000000 in
set_option maxRecDepth 100000 in
theorem wX12_begins_2 (C : Cx 45 D ad κ p s m args meth c cX12_begins RX12 2 none) {R : HS} : ∀ (f : Nat) (x1 : Int32) (σ : HS) (H : Heap) (locs : List Loc) (ls : Array Slot), FX12_begins_2  f x1 σ = some R → Hd 45 ceM D ad κ s σ H locs → lv_has ls 2 [(0, .ref (ad 0)), (1, .int x1)] → W p l e ({ frames := 1, cells := 0, slots := 0, locals := 20 } : Room) s m args below meth c H locs 0 0 (MQ below (QV 45 ceM D ad κ R) args s 0 0 (AX 45 ad)) (F0 m 2 ls []) := by
  have hx := C.1
  have hb := C.2.1
  have hown := C.2.2.2.1
  have hts := C.2.2.2.2.1
  intro f
  induction f with
  | zero =>
    intro x1 σ H locs ls h hH hl
    cases h
  | succ f ih =>
    intro x1 σ H locs ls h hH hl
    rw [FX12_begins_2] at h
    refine lv_iload_n hx hb dX12_begins_2 rfl (lv_at hl 1 rfl) ?_
    refine lv_bipush (v := 33) hx hb dX12_begins_3 (by decide) ?_
    refine lv_icmp_ge (tgt := 21) hx hb dX12_begins_5 (by decide) (fun hq_19 => ?_) (fun hq_19 => ?_)
    · rw [if_pos hq_19] at h
      refine lv_iconst (v := 0) hx hb dX12_begins_21 (by decide) ?_
      refine lv_istore_n (lv' := [(1, .int (0 : Int32)), (0, .ref (ad 0))]) hx hb dX12_begins_22 rfl hl (by decide) rfl (fun ls hl => ?_)
      exact wX12_begins_23 C _ _ _ _ _ _ h hH (lv_sub hl [1, 0] rfl)
    · rw [if_neg hq_19] at h
      refine lv_aload_n hx hb dX12_begins_8 rfl (lv_at hl 0 rfl) ?_
      refine g_get C hH 0 (Nat.le_of_ble_eq_true rfl) rfl fl_X12_113 (v := .ref (ad 32)) rfl dX12_begins_9 ?_
      refine lv_iload_n hx hb dX12_begins_12 rfl (lv_at hl 1 rfl) ?_
      refine lv_iconst (v := 0) hx hb dX12_begins_13 (by decide) ?_
      obtain ⟨hi_20, h⟩ := gd_ex h
      obtain ⟨σ_21, eσ_21, h⟩ := hl_ex h
      refine g_iast C hH 32 (Nat.le_of_ble_eq_true rfl) (fun _ _ => rfl) (k := (x1.toNatClampNeg)) rfl (ix_in hi_20) dX12_begins_14 (fun H locs hH => ?_)
      rw [← eσ_21] at hH
      refine lv_iinc (v := (x1 + 1)) (lv' := [(1, .int (x1 + 1)), (0, .ref (ad 0))]) hx hb dX12_begins_15 hl (k := 1) rfl rfl (by decide) rfl (fun ls hl => ?_)
      refine lv_goto (tgt := 2) hx hb dX12_begins_18 (by decide) ?_
      exact ih _ _ _ _ _ h hH (lv_sub hl [1, 0] rfl)
set_option maxHeartbeats 4000000 in
set_option maxRecDepth 100000 in
theorem kX12_begins (l : Launch) (D : va_G) (ad : Nat → Nat) (κ : KC) {σ : HS} {R : HS} (h : FX12_begins σ = some R) : MtV l 45 ceM D ad κ yX12_begins cX12_begins 2 none ({ frames := 1, cells := 0, slots := 0, locals := 20 } : Room) [.ref (ad 0)] σ R := by
  refine open_ (by decide) (Nat.le_of_ble_eq_true rfl) (la := [(0, .ref (ad 0))]) rfl ?_
  intro p e s m below meth c ls C hH hl
  replace C : Cx 45 D ad κ p s m _ meth c cX12_begins RX12 2 none := C
  have hx := C.1
  have hb := C.2.1
  have hown := C.2.2.2.1
  have hts := C.2.2.2.2.1
  rw [FX12_begins] at h
  refine lv_iconst (v := 0) hx hb dX12_begins_0 (by decide) ?_
  refine lv_istore_n (lv' := [(1, .int (0 : Int32)), (0, .ref (ad 0))]) hx hb dX12_begins_1 rfl hl (by decide) rfl (fun ls hl => ?_)
  exact wX12_begins_2 C _ _ _ _ _ _ h hH (lv_sub hl [1, 0] rfl)
-- X12_keepsRow
def FX12_keepsRow_2  : Nat → Int32 → HS → Option HS
  | 0, _, _ => none
  | f + 1, x1, σ => if (33 : Int32) ≤ x1 then some σ else gd (ix x1 33) (gd (ix x1 33) (hl_ (pI σ 31 (x1.toNatClampNeg) (σ.1 32 (x1.toNatClampNeg))) fun σ_4 => FX12_keepsRow_2  f (x1 + 1) σ_4))
def FX12_keepsRow (σ : HS) : Option HS :=
  FX12_keepsRow_2 fu (0 : Int32) σ
set_option maxHeartbeats 4000000 in
set_option maxRecDepth 100000 in
theorem wX12_keepsRow_2 (C : Cx 45 D ad κ p s m args meth c cX12_keepsRow RX12 2 none) {R : HS} : ∀ (f : Nat) (x1 : Int32) (σ : HS) (H : Heap) (locs : List Loc) (ls : Array Slot), FX12_keepsRow_2  f x1 σ = some R → Hd 45 ceM D ad κ s σ H locs → lv_has ls 2 [(0, .ref (ad 0)), (1, .int x1)] → W p l e ({ frames := 0, cells := 0, slots := 0, locals := 0 } : Room) s m args below meth c H locs 0 0 (MQ below (QV 45 ceM D ad κ R) args s 0 0 (AX 45 ad)) (F0 m 2 ls []) := by
  have hx := C.1
  have hb := C.2.1
  have hown := C.2.2.2.1
  have hts := C.2.2.2.2.1
  intro f
  induction f with
  | zero =>
    intro x1 σ H locs ls h hH hl
    cases h
  | succ f ih =>
    intro x1 σ H locs ls h hH hl
    rw [FX12_keepsRow_2] at h
    refine lv_iload_n hx hb dX12_keepsRow_2 rfl (lv_at hl 1 rfl) ?_
    refine lv_bipush (v := 33) hx hb dX12_keepsRow_3 (by decide) ?_
    refine lv_icmp_ge (tgt := 26) hx hb dX12_keepsRow_5 (by decide) (fun hq_1 => ?_) (fun hq_1 => ?_)
    · rw [if_pos hq_1] at h
      exact g_retV C hH h dX12_keepsRow_26
    · rw [if_neg hq_1] at h
      refine lv_aload_n hx hb dX12_keepsRow_8 rfl (lv_at hl 0 rfl) ?_
      refine g_get C hH 0 (Nat.le_of_ble_eq_true rfl) rfl fl_X12_110 (v := .ref (ad 31)) rfl dX12_keepsRow_9 ?_
      refine lv_iload_n hx hb dX12_keepsRow_12 rfl (lv_at hl 1 rfl) ?_
      refine lv_aload_n hx hb dX12_keepsRow_13 rfl (lv_at hl 0 rfl) ?_
      refine g_get C hH 0 (Nat.le_of_ble_eq_true rfl) rfl fl_X12_113 (v := .ref (ad 32)) rfl dX12_keepsRow_14 ?_
      refine lv_iload_n hx hb dX12_keepsRow_17 rfl (lv_at hl 1 rfl) ?_
      obtain ⟨hi_2, h⟩ := gd_ex h
      refine g_iald C hH 32 (Nat.le_of_ble_eq_true rfl) rfl (k := (x1.toNatClampNeg)) rfl (ix_in hi_2) dX12_keepsRow_18 ?_
      obtain ⟨hi_3, h⟩ := gd_ex h
      obtain ⟨σ_4, eσ_4, h⟩ := hl_ex h
      refine g_iast C hH 31 (Nat.le_of_ble_eq_true rfl) (fun _ _ => rfl) (k := (x1.toNatClampNeg)) rfl (ix_in hi_3) dX12_keepsRow_19 (fun H locs hH => ?_)
      rw [← eσ_4] at hH
      refine lv_iinc (v := (x1 + 1)) (lv' := [(1, .int (x1 + 1)), (0, .ref (ad 0))]) hx hb dX12_keepsRow_20 hl (k := 1) rfl rfl (by decide) rfl (fun ls hl => ?_)
      refine lv_goto (tgt := 2) hx hb dX12_keepsRow_23 (by decide) ?_
      exact ih _ _ _ _ _ h hH (lv_sub hl [1, 0] rfl)
set_option maxHeartbeats 4000000 in
set_option maxRecDepth 100000 in
theorem kX12_keepsRow (l : Launch) (D : va_G) (ad : Nat → Nat) (κ : KC) {σ : HS} {R : HS} (h : FX12_keepsRow σ = some R) : MtV l 45 ceM D ad κ yX12_keepsRow cX12_keepsRow 2 none ({ frames := 0, cells := 0, slots := 0, locals := 0 } : Room) [.ref (ad 0)] σ R := by
  refine open_ (by decide) (Nat.le_of_ble_eq_true rfl) (la := [(0, .ref (ad 0))]) rfl ?_
  intro p e s m below meth c ls C hH hl
  replace C : Cx 45 D ad κ p s m _ meth c cX12_keepsRow RX12 2 none := C
  have hx := C.1
  have hb := C.2.1
  have hown := C.2.2.2.1
  have hts := C.2.2.2.2.1
  rw [FX12_keepsRow] at h
  refine lv_iconst (v := 0) hx hb dX12_keepsRow_0 (by decide) ?_
  refine lv_istore_n (lv' := [(1, .int (0 : Int32)), (0, .ref (ad 0))]) hx hb dX12_keepsRow_1 rfl hl (by decide) rfl (fun ls hl => ?_)
  exact wX12_keepsRow_2 C _ _ _ _ _ _ h hH (lv_sub hl [1, 0] rfl)
-- X12_read
def FX12_read_214  : Nat → Int32 → HS → Option (Int32 × HS)
  | 0, _, _ => none
  | f + 1, x1, σ => if (3 : Int32) ≤ x1 then some ((0 : Int32), σ) else gd (ix x1 3) (hl_ (pI σ 43 (x1.toNatClampNeg) (vp_nar .boolean (0 : Int32))) fun σ_3 => FX12_read_214  f (x1 + 1) σ_3)
def FX12_read_159  (x1 : Int32) (y1 : Int32) (σ : HS) : Option (Int32 × HS) :=
  hl_ (pI σ 0 17 y1) fun σ_4 => if (σ_4.1 0 13) ≤ 0 then if (σ_4.1 0 15) ≤ 0 then hl_ (pI σ_4 0 18 (σ_4.1 0 19)) fun σ_7 => bdV (FX12_begins σ_7) fun σ_8 => bdV (FX12_keepsRow σ_8) fun σ_10 => hl_ (pI σ_10 0 50 (0 : Int32)) fun σ_12 => hl_ (pI σ_12 0 57 (0 : Int32)) fun σ_13 => FX12_read_214 fu (0 : Int32) σ_13 else some ((σ_4.1 0 15), σ_4) else some ((σ_4.1 0 13), σ_4)
def FX12_read_129  (x1 : Int32) (σ : HS) : Option (Int32 × HS) :=
  if (σ.1 0 13) ≤ 0 then if (σ.1 0 15) ≤ 0 then FX12_read_159 x1 (-1 : Int32) σ else FX12_read_159 x1 (σ.1 0 16) σ else FX12_read_159 x1 (σ.1 0 14) σ
def FX12_read_107  : Nat → Int32 → HS → Option (Int32 × HS)
  | 0, _, _ => none
  | f + 1, x1, σ => if (σ.1 0 13) = 0 then bdI (FX12_is (0 : Int32) σ) fun r_17 σ_18 => if r_17 = 0 then bdV (FX12_tellOne σ_18) fun σ_21 => FX12_read_107  f x1 σ_21 else FX12_read_129 x1 σ_18 else FX12_read_129 x1 σ
def FX12_read_10  : Nat → Int32 → HS → Option (Int32 × HS)
  | 0, _, _ => none
  | f + 1, x1, σ => if (σ.1 0 4) ≤ x1 then hl_ (pI σ 0 2 (0 : Int32)) fun σ_24 => bdV (FX12_cut σ_24) fun σ_25 => hl_ (pI σ_25 0 11 (0 : Int32)) fun σ_27 => hl_ (pI σ_27 0 12 (0 : Int32)) fun σ_28 => hl_ (pI σ_28 0 13 (0 : Int32)) fun σ_29 => hl_ (pI σ_29 0 15 (0 : Int32)) fun σ_30 => hl_ (pI σ_30 0 19 ((1 : Int32) - (σ_30.1 0 18))) fun σ_31 => bdV (FX12_plain (σ_31.1 0 19) σ_31) fun σ_32 => hl_ (pI σ_32 0 33 ((130 : Int32) * (σ_32.1 0 19))) fun σ_34 => hl_ (pI σ_34 0 39 ((420 : Int32) * (σ_34.1 0 19))) fun σ_35 => FX12_read_107 fu x1 σ_35 else gd (ix x1 2000) (gd (ix x1 2000) (hl_ (pI σ 2 (x1.toNatClampNeg) (vp_nar .byte (σ.1 1 (x1.toNatClampNeg)))) fun σ_38 => FX12_read_10  f (x1 + 1) σ_38))
def FX12_read (σ : HS) : Option (Int32 × HS) :=
  hl_ (pI σ 0 4 (σ.1 0 2)) fun σ_39 => FX12_read_10 fu (0 : Int32) σ_39
set_option maxHeartbeats 4000000 in
set_option maxRecDepth 100000 in
theorem wX12_read_214 (C : Cx 45 D ad κ p s m args meth c cX12_read RX12 2 (some .int)) {R : (Int32 × HS)} : ∀ (f : Nat) (x1 : Int32) (σ : HS) (H : Heap) (locs : List Loc) (ls : Array Slot), FX12_read_214  f x1 σ = some R → Hd 45 ceM D ad κ s σ H locs → lv_has ls 2 [(0, .ref (ad 0)), (1, .int x1)] → W p l e ({ frames := 7, cells := 0, slots := 0, locals := 147 } : Room) s m args below meth c H locs 0 0 (MQ below (QI 45 ceM D ad κ R) args s 0 0 (AX 45 ad)) (F0 m 214 ls []) := by
  have hx := C.1
  have hb := C.2.1
  have hown := C.2.2.2.1
  have hts := C.2.2.2.2.1
  intro f
  induction f with
  | zero =>
    intro x1 σ H locs ls h hH hl
    cases h
  | succ f ih =>
    intro x1 σ H locs ls h hH hl
    rw [FX12_read_214] at h
    refine lv_iload_n hx hb dX12_read_214 rfl (lv_at hl 1 rfl) ?_
    refine lv_iconst (v := 3) hx hb dX12_read_215 (by decide) ?_
    refine lv_icmp_ge (tgt := 232) hx hb dX12_read_216 (by decide) (fun hq_1 => ?_) (fun hq_1 => ?_)
    · rw [if_pos hq_1] at h
      refine lv_iconst (v := 0) hx hb dX12_read_232 (by decide) ?_
      exact g_ret C hH h dX12_read_233
    · rw [if_neg hq_1] at h
      refine lv_aload_n hx hb dX12_read_219 rfl (lv_at hl 0 rfl) ?_
      refine g_get C hH 0 (Nat.le_of_ble_eq_true rfl) rfl fl_X12_146 (v := .ref (ad 43)) rfl dX12_read_220 ?_
      refine lv_iload_n hx hb dX12_read_223 rfl (lv_at hl 1 rfl) ?_
      refine lv_iconst (v := 0) hx hb dX12_read_224 (by decide) ?_
      obtain ⟨hi_2, h⟩ := gd_ex h
      obtain ⟨σ_3, eσ_3, h⟩ := hl_ex h
      refine g_zast C hH 43 (Nat.le_of_ble_eq_true rfl) (fun _ _ => rfl) (k := (x1.toNatClampNeg)) rfl (ix_in hi_2) dX12_read_225 (fun H locs hH => ?_)
      rw [← eσ_3] at hH
      refine lv_iinc (v := (x1 + 1)) (lv' := [(1, .int (x1 + 1)), (0, .ref (ad 0))]) hx hb dX12_read_226 hl (k := 1) rfl rfl (by decide) rfl (fun ls hl => ?_)
      refine lv_goto (tgt := 214) hx hb dX12_read_229 (by decide) ?_
      exact ih _ _ _ _ _ h hH (lv_sub hl [1, 0] rfl)
set_option maxHeartbeats 4000000 in
set_option maxRecDepth 100000 in
theorem wX12_read_159 (C : Cx 45 D ad κ p s m args meth c cX12_read RX12 2 (some .int)) {R : (Int32 × HS)} : ∀ (x1 : Int32) (y1 : Int32) (σ : HS) (H : Heap) (locs : List Loc) (ls : Array Slot), FX12_read_159  x1 y1 σ = some R → Hd 45 ceM D ad κ s σ H locs → lv_has ls 2 [(0, .ref (ad 0)), (1, .int x1)] → W p l e ({ frames := 7, cells := 0, slots := 0, locals := 147 } : Room) s m args below meth c H locs 0 0 (MQ below (QI 45 ceM D ad κ R) args s 0 0 (AX 45 ad)) (F0 m 159 ls [.int y1, .ref (ad 0)]) := by
  have hx := C.1
  have hb := C.2.1
  have hown := C.2.2.2.1
  have hts := C.2.2.2.2.1
  intro x1 y1 σ H locs ls h hH hl
  rw [FX12_read_159] at h
  obtain ⟨σ_4, eσ_4, h⟩ := hl_ex h
  refine g_putI C hH 0 (Nat.le_of_ble_eq_true rfl) rfl fp_X12_37 rfl rfl (Nat.le_of_ble_eq_true rfl) rfl dX12_read_159 (fun H locs hH => ?_)
  rw [← eσ_4] at hH
  refine lv_aload_n hx hb dX12_read_162 rfl (lv_at hl 0 rfl) ?_
  refine g_get C hH 0 (Nat.le_of_ble_eq_true rfl) rfl fl_X12_203 (v := .int (σ_4.1 0 13)) rfl dX12_read_163 ?_
  refine lv_if_le (tgt := 174) hx hb dX12_read_166 (by decide) (fun hq_5 => ?_) (fun hq_5 => ?_)
  · rw [if_pos hq_5] at h
    refine lv_aload_n hx hb dX12_read_174 rfl (lv_at hl 0 rfl) ?_
    refine g_get C hH 0 (Nat.le_of_ble_eq_true rfl) rfl fl_X12_212 (v := .int (σ_4.1 0 15)) rfl dX12_read_175 ?_
    refine lv_if_le (tgt := 186) hx hb dX12_read_178 (by decide) (fun hq_6 => ?_) (fun hq_6 => ?_)
    · rw [if_pos hq_6] at h
      refine lv_aload_n hx hb dX12_read_186 rfl (lv_at hl 0 rfl) ?_
      refine lv_aload_n hx hb dX12_read_187 rfl (lv_at hl 0 rfl) ?_
      refine g_get C hH 0 (Nat.le_of_ble_eq_true rfl) rfl fl_X12_236 (v := .int (σ_4.1 0 19)) rfl dX12_read_188 ?_
      obtain ⟨σ_7, eσ_7, h⟩ := hl_ex h
      refine g_putI C hH 0 (Nat.le_of_ble_eq_true rfl) rfl fp_X12_233 rfl rfl (Nat.le_of_ble_eq_true rfl) rfl dX12_read_191 (fun H locs hH => ?_)
      rw [← eσ_7] at hH
      refine lv_aload_n hx hb dX12_read_194 rfl (lv_at hl 0 rfl) ?_
      obtain ⟨σ_8, hc_9, h⟩ := bdV_ex h
      refine g_cv (g_runV (rest := []) C hH hl.1 cV_X12_160 0 (Nat.le_of_ble_eq_true rfl) rfl rfl (kX12_begins l D ad κ hc_9) ⟨rfl, rfl⟩ ⟨(Nat.le_of_ble_eq_true rfl), (Nat.le_of_ble_eq_true rfl)⟩ rfl rfl (Nat.le_of_ble_eq_true rfl) dX12_read_195 z00) hH (fun H locs hH => ?_)
      refine lv_aload_n hx hb dX12_read_198 rfl (lv_at hl 0 rfl) ?_
      obtain ⟨σ_10, hc_11, h⟩ := bdV_ex h
      refine g_cv (g_runV (rest := []) C hH hl.1 cV_X12_163 0 (Nat.le_of_ble_eq_true rfl) rfl rfl (kX12_keepsRow l D ad κ hc_11) ⟨rfl, rfl⟩ ⟨(Nat.le_of_ble_eq_true rfl), (Nat.le_of_ble_eq_true rfl)⟩ rfl rfl (Nat.le_of_ble_eq_true rfl) dX12_read_199 z00) hH (fun H locs hH => ?_)
      refine lv_aload_n hx hb dX12_read_202 rfl (lv_at hl 0 rfl) ?_
      refine lv_iconst (v := 0) hx hb dX12_read_203 (by decide) ?_
      obtain ⟨σ_12, eσ_12, h⟩ := hl_ex h
      refine g_putI C hH 0 (Nat.le_of_ble_eq_true rfl) rfl fp_X12_248 rfl rfl (Nat.le_of_ble_eq_true rfl) rfl dX12_read_204 (fun H locs hH => ?_)
      rw [← eσ_12] at hH
      refine lv_aload_n hx hb dX12_read_207 rfl (lv_at hl 0 rfl) ?_
      refine lv_iconst (v := 0) hx hb dX12_read_208 (by decide) ?_
      obtain ⟨σ_13, eσ_13, h⟩ := hl_ex h
      refine g_putI C hH 0 (Nat.le_of_ble_eq_true rfl) rfl fp_X12_251 rfl rfl (Nat.le_of_ble_eq_true rfl) rfl dX12_read_209 (fun H locs hH => ?_)
      rw [← eσ_13] at hH
      refine lv_iconst (v := 0) hx hb dX12_read_212 (by decide) ?_
      refine lv_istore_n (lv' := [(1, .int (0 : Int32)), (0, .ref (ad 0))]) hx hb dX12_read_213 rfl hl (by decide) rfl (fun ls hl => ?_)
      exact wX12_read_214 C _ _ _ _ _ _ h hH (lv_sub hl [1, 0] rfl)
    · rw [if_neg hq_6] at h
      refine lv_aload_n hx hb dX12_read_181 rfl (lv_at hl 0 rfl) ?_
      refine g_get C hH 0 (Nat.le_of_ble_eq_true rfl) rfl fl_X12_212 (v := .int (σ_4.1 0 15)) rfl dX12_read_182 ?_
      exact g_ret C hH h dX12_read_185
  · rw [if_neg hq_5] at h
    refine lv_aload_n hx hb dX12_read_169 rfl (lv_at hl 0 rfl) ?_
    refine g_get C hH 0 (Nat.le_of_ble_eq_true rfl) rfl fl_X12_203 (v := .int (σ_4.1 0 13)) rfl dX12_read_170 ?_
    exact g_ret C hH h dX12_read_173
set_option maxHeartbeats 4000000 in
set_option maxRecDepth 100000 in
theorem wX12_read_129 (C : Cx 45 D ad κ p s m args meth c cX12_read RX12 2 (some .int)) {R : (Int32 × HS)} : ∀ (x1 : Int32) (σ : HS) (H : Heap) (locs : List Loc) (ls : Array Slot), FX12_read_129  x1 σ = some R → Hd 45 ceM D ad κ s σ H locs → lv_has ls 2 [(0, .ref (ad 0)), (1, .int x1)] → W p l e ({ frames := 7, cells := 0, slots := 0, locals := 147 } : Room) s m args below meth c H locs 0 0 (MQ below (QI 45 ceM D ad κ R) args s 0 0 (AX 45 ad)) (F0 m 129 ls []) := by
  have hx := C.1
  have hb := C.2.1
  have hown := C.2.2.2.1
  have hts := C.2.2.2.2.1
  intro x1 σ H locs ls h hH hl
  rw [FX12_read_129] at h
  refine lv_aload_n hx hb dX12_read_129 rfl (lv_at hl 0 rfl) ?_
  refine lv_aload_n hx hb dX12_read_130 rfl (lv_at hl 0 rfl) ?_
  refine g_get C hH 0 (Nat.le_of_ble_eq_true rfl) rfl fl_X12_203 (v := .int (σ.1 0 13)) rfl dX12_read_131 ?_
  refine lv_if_le (tgt := 144) hx hb dX12_read_134 (by decide) (fun hq_14 => ?_) (fun hq_14 => ?_)
  · rw [if_pos hq_14] at h
    refine lv_aload_n hx hb dX12_read_144 rfl (lv_at hl 0 rfl) ?_
    refine g_get C hH 0 (Nat.le_of_ble_eq_true rfl) rfl fl_X12_212 (v := .int (σ.1 0 15)) rfl dX12_read_145 ?_
    refine lv_if_le (tgt := 158) hx hb dX12_read_148 (by decide) (fun hq_15 => ?_) (fun hq_15 => ?_)
    · rw [if_pos hq_15] at h
      refine lv_iconst (v := (-1)) hx hb dX12_read_158 (by decide) ?_
      exact wX12_read_159 C  _ _ _ _ _ _ h hH (lv_sub hl [0, 1] rfl)
    · rw [if_neg hq_15] at h
      refine lv_aload_n hx hb dX12_read_151 rfl (lv_at hl 0 rfl) ?_
      refine g_get C hH 0 (Nat.le_of_ble_eq_true rfl) rfl fl_X12_215 (v := .int (σ.1 0 16)) rfl dX12_read_152 ?_
      refine lv_goto (tgt := 159) hx hb dX12_read_155 (by decide) ?_
      exact wX12_read_159 C  _ _ _ _ _ _ h hH (lv_sub hl [0, 1] rfl)
  · rw [if_neg hq_14] at h
    refine lv_aload_n hx hb dX12_read_137 rfl (lv_at hl 0 rfl) ?_
    refine g_get C hH 0 (Nat.le_of_ble_eq_true rfl) rfl fl_X12_209 (v := .int (σ.1 0 14)) rfl dX12_read_138 ?_
    refine lv_goto (tgt := 159) hx hb dX12_read_141 (by decide) ?_
    exact wX12_read_159 C  _ _ _ _ _ _ h hH (lv_sub hl [0, 1] rfl)
set_option maxHeartbeats 4000000 in
set_option maxRecDepth 100000 in
theorem wX12_read_107 (C : Cx 45 D ad κ p s m args meth c cX12_read RX12 2 (some .int)) {R : (Int32 × HS)} : ∀ (f : Nat) (x1 : Int32) (σ : HS) (H : Heap) (locs : List Loc) (ls : Array Slot), FX12_read_107  f x1 σ = some R → Hd 45 ceM D ad κ s σ H locs → lv_has ls 2 [(0, .ref (ad 0)), (1, .int x1)] → W p l e ({ frames := 7, cells := 0, slots := 0, locals := 147 } : Room) s m args below meth c H locs 0 0 (MQ below (QI 45 ceM D ad κ R) args s 0 0 (AX 45 ad)) (F0 m 107 ls []) := by
  have hx := C.1
  have hb := C.2.1
  have hown := C.2.2.2.1
  have hts := C.2.2.2.2.1
  intro f
  induction f with
  | zero =>
    intro x1 σ H locs ls h hH hl
    cases h
  | succ f ih =>
    intro x1 σ H locs ls h hH hl
    rw [FX12_read_107] at h
    refine lv_aload_n hx hb dX12_read_107 rfl (lv_at hl 0 rfl) ?_
    refine g_get C hH 0 (Nat.le_of_ble_eq_true rfl) rfl fl_X12_203 (v := .int (σ.1 0 13)) rfl dX12_read_108 ?_
    refine lv_if_ne (tgt := 129) hx hb dX12_read_111 (by decide) (fun hq_16 => ?_) (fun hq_16 => ?_)
    · rw [if_neg hq_16] at h
      exact wX12_read_129 C  _ _ _ _ _ h hH (lv_sub hl [0, 1] rfl)
    · rw [if_pos hq_16] at h
      refine lv_aload_n hx hb dX12_read_114 rfl (lv_at hl 0 rfl) ?_
      refine lv_iconst (v := 0) hx hb dX12_read_115 (by decide) ?_
      obtain ⟨r_17, σ_18, hc_19, h⟩ := bdI_ex h
      refine g_ci (g_runV (rest := []) C hH hl.1 cV_X12_221 0 (Nat.le_of_ble_eq_true rfl) rfl rfl (kX12_is l D ad κ hc_19) ⟨rfl, rfl⟩ ⟨(Nat.le_of_ble_eq_true rfl), (Nat.le_of_ble_eq_true rfl)⟩ rfl rfl (Nat.le_of_ble_eq_true rfl) dX12_read_116 z00) hH (fun H locs hH => ?_)
      refine lv_if_ne (tgt := 129) hx hb dX12_read_119 (by decide) (fun hq_20 => ?_) (fun hq_20 => ?_)
      · rw [if_neg hq_20] at h
        exact wX12_read_129 C  _ _ _ _ _ h hH (lv_sub hl [0, 1] rfl)
      · rw [if_pos hq_20] at h
        refine lv_aload_n hx hb dX12_read_122 rfl (lv_at hl 0 rfl) ?_
        obtain ⟨σ_21, hc_22, h⟩ := bdV_ex h
        refine g_cv (g_runV (rest := []) C hH hl.1 cV_X12_245 0 (Nat.le_of_ble_eq_true rfl) rfl rfl (kX12_tellOne l D ad κ hc_22) ⟨rfl, rfl⟩ ⟨(Nat.le_of_ble_eq_true rfl), (Nat.le_of_ble_eq_true rfl)⟩ rfl rfl (Nat.le_of_ble_eq_true rfl) dX12_read_123 z00) hH (fun H locs hH => ?_)
        refine lv_goto (tgt := 107) hx hb dX12_read_126 (by decide) ?_
        exact ih _ _ _ _ _ h hH (lv_sub hl [0, 1] rfl)
set_option maxHeartbeats 4000000 in
set_option maxRecDepth 100000 in
theorem wX12_read_10 (C : Cx 45 D ad κ p s m args meth c cX12_read RX12 2 (some .int)) {R : (Int32 × HS)} : ∀ (f : Nat) (x1 : Int32) (σ : HS) (H : Heap) (locs : List Loc) (ls : Array Slot), FX12_read_10  f x1 σ = some R → Hd 45 ceM D ad κ s σ H locs → lv_has ls 2 [(0, .ref (ad 0)), (1, .int x1)] → W p l e ({ frames := 7, cells := 0, slots := 0, locals := 147 } : Room) s m args below meth c H locs 0 0 (MQ below (QI 45 ceM D ad κ R) args s 0 0 (AX 45 ad)) (F0 m 10 ls []) := by
  have hx := C.1
  have hb := C.2.1
  have hown := C.2.2.2.1
  have hts := C.2.2.2.2.1
  intro f
  induction f with
  | zero =>
    intro x1 σ H locs ls h hH hl
    cases h
  | succ f ih =>
    intro x1 σ H locs ls h hH hl
    rw [FX12_read_10] at h
    refine lv_iload_n hx hb dX12_read_10 rfl (lv_at hl 1 rfl) ?_
    refine lv_aload_n hx hb dX12_read_11 rfl (lv_at hl 0 rfl) ?_
    refine g_get C hH 0 (Nat.le_of_ble_eq_true rfl) rfl fl_X12_172 (v := .int (σ.1 0 4)) rfl dX12_read_12 ?_
    refine lv_icmp_ge (tgt := 36) hx hb dX12_read_15 (by decide) (fun hq_23 => ?_) (fun hq_23 => ?_)
    · rw [if_pos hq_23] at h
      refine lv_aload_n hx hb dX12_read_36 rfl (lv_at hl 0 rfl) ?_
      refine lv_iconst (v := 0) hx hb dX12_read_37 (by decide) ?_
      obtain ⟨σ_24, eσ_24, h⟩ := hl_ex h
      refine g_putI C hH 0 (Nat.le_of_ble_eq_true rfl) rfl fp_X12_166 rfl rfl (Nat.le_of_ble_eq_true rfl) rfl dX12_read_38 (fun H locs hH => ?_)
      rw [← eσ_24] at hH
      refine lv_aload_n hx hb dX12_read_41 rfl (lv_at hl 0 rfl) ?_
      obtain ⟨σ_25, hc_26, h⟩ := bdV_ex h
      refine g_cv (g_runV (rest := []) C hH hl.1 cV_X12_227 0 (Nat.le_of_ble_eq_true rfl) rfl rfl (kX12_cut l D ad κ hc_26) ⟨rfl, rfl⟩ ⟨(Nat.le_of_ble_eq_true rfl), (Nat.le_of_ble_eq_true rfl)⟩ rfl rfl (Nat.le_of_ble_eq_true rfl) dX12_read_42 z00) hH (fun H locs hH => ?_)
      refine lv_aload_n hx hb dX12_read_45 rfl (lv_at hl 0 rfl) ?_
      refine lv_iconst (v := 0) hx hb dX12_read_46 (by decide) ?_
      obtain ⟨σ_27, eσ_27, h⟩ := hl_ex h
      refine g_putI C hH 0 (Nat.le_of_ble_eq_true rfl) rfl fp_X12_206 rfl rfl (Nat.le_of_ble_eq_true rfl) rfl dX12_read_47 (fun H locs hH => ?_)
      rw [← eσ_27] at hH
      refine lv_aload_n hx hb dX12_read_50 rfl (lv_at hl 0 rfl) ?_
      refine lv_iconst (v := 0) hx hb dX12_read_51 (by decide) ?_
      obtain ⟨σ_28, eσ_28, h⟩ := hl_ex h
      refine g_putI C hH 0 (Nat.le_of_ble_eq_true rfl) rfl fp_X12_230 rfl rfl (Nat.le_of_ble_eq_true rfl) rfl dX12_read_52 (fun H locs hH => ?_)
      rw [← eσ_28] at hH
      refine lv_aload_n hx hb dX12_read_55 rfl (lv_at hl 0 rfl) ?_
      refine lv_iconst (v := 0) hx hb dX12_read_56 (by decide) ?_
      obtain ⟨σ_29, eσ_29, h⟩ := hl_ex h
      refine g_putI C hH 0 (Nat.le_of_ble_eq_true rfl) rfl fp_X12_203 rfl rfl (Nat.le_of_ble_eq_true rfl) rfl dX12_read_57 (fun H locs hH => ?_)
      rw [← eσ_29] at hH
      refine lv_aload_n hx hb dX12_read_60 rfl (lv_at hl 0 rfl) ?_
      refine lv_iconst (v := 0) hx hb dX12_read_61 (by decide) ?_
      obtain ⟨σ_30, eσ_30, h⟩ := hl_ex h
      refine g_putI C hH 0 (Nat.le_of_ble_eq_true rfl) rfl fp_X12_212 rfl rfl (Nat.le_of_ble_eq_true rfl) rfl dX12_read_62 (fun H locs hH => ?_)
      rw [← eσ_30] at hH
      refine lv_aload_n hx hb dX12_read_65 rfl (lv_at hl 0 rfl) ?_
      refine lv_iconst (v := 1) hx hb dX12_read_66 (by decide) ?_
      refine lv_aload_n hx hb dX12_read_67 rfl (lv_at hl 0 rfl) ?_
      refine g_get C hH 0 (Nat.le_of_ble_eq_true rfl) rfl fl_X12_233 (v := .int (σ_30.1 0 18)) rfl dX12_read_68 ?_
      refine lv_isub hx hb dX12_read_71 ?_
      obtain ⟨σ_31, eσ_31, h⟩ := hl_ex h
      refine g_putI C hH 0 (Nat.le_of_ble_eq_true rfl) rfl fp_X12_236 rfl rfl (Nat.le_of_ble_eq_true rfl) rfl dX12_read_72 (fun H locs hH => ?_)
      rw [← eσ_31] at hH
      refine lv_aload_n hx hb dX12_read_75 rfl (lv_at hl 0 rfl) ?_
      refine lv_aload_n hx hb dX12_read_76 rfl (lv_at hl 0 rfl) ?_
      refine g_get C hH 0 (Nat.le_of_ble_eq_true rfl) rfl fl_X12_236 (v := .int (σ_31.1 0 19)) rfl dX12_read_77 ?_
      obtain ⟨σ_32, hc_33, h⟩ := bdV_ex h
      refine g_cv (g_runV (rest := []) C hH hl.1 cV_X12_152 0 (Nat.le_of_ble_eq_true rfl) rfl rfl (kX12_plain l D ad κ hc_33) ⟨rfl, rfl⟩ ⟨(Nat.le_of_ble_eq_true rfl), (Nat.le_of_ble_eq_true rfl)⟩ rfl rfl (Nat.le_of_ble_eq_true rfl) dX12_read_80 z00) hH (fun H locs hH => ?_)
      refine lv_aload_n hx hb dX12_read_83 rfl (lv_at hl 0 rfl) ?_
      refine lv_sipush (v := 130) hx hb dX12_read_84 (by decide) ?_
      refine lv_aload_n hx hb dX12_read_87 rfl (lv_at hl 0 rfl) ?_
      refine g_get C hH 0 (Nat.le_of_ble_eq_true rfl) rfl fl_X12_236 (v := .int (σ_32.1 0 19)) rfl dX12_read_88 ?_
      refine lv_imul hx hb dX12_read_91 ?_
      obtain ⟨σ_34, eσ_34, h⟩ := hl_ex h
      refine g_putI C hH 0 (Nat.le_of_ble_eq_true rfl) rfl fp_X12_239 rfl rfl (Nat.le_of_ble_eq_true rfl) rfl dX12_read_92 (fun H locs hH => ?_)
      rw [← eσ_34] at hH
      refine lv_aload_n hx hb dX12_read_95 rfl (lv_at hl 0 rfl) ?_
      refine lv_sipush (v := 420) hx hb dX12_read_96 (by decide) ?_
      refine lv_aload_n hx hb dX12_read_99 rfl (lv_at hl 0 rfl) ?_
      refine g_get C hH 0 (Nat.le_of_ble_eq_true rfl) rfl fl_X12_236 (v := .int (σ_34.1 0 19)) rfl dX12_read_100 ?_
      refine lv_imul hx hb dX12_read_103 ?_
      obtain ⟨σ_35, eσ_35, h⟩ := hl_ex h
      refine g_putI C hH 0 (Nat.le_of_ble_eq_true rfl) rfl fp_X12_242 rfl rfl (Nat.le_of_ble_eq_true rfl) rfl dX12_read_104 (fun H locs hH => ?_)
      rw [← eσ_35] at hH
      exact wX12_read_107 C _ _ _ _ _ _ h hH (lv_sub hl [0, 1] rfl)
    · rw [if_neg hq_23] at h
      refine lv_aload_n hx hb dX12_read_18 rfl (lv_at hl 0 rfl) ?_
      refine g_get C hH 0 (Nat.le_of_ble_eq_true rfl) rfl fl_X12_17 (v := .ref (ad 2)) rfl dX12_read_19 ?_
      refine lv_iload_n hx hb dX12_read_22 rfl (lv_at hl 1 rfl) ?_
      refine lv_aload_n hx hb dX12_read_23 rfl (lv_at hl 0 rfl) ?_
      refine g_get C hH 0 (Nat.le_of_ble_eq_true rfl) rfl fl_X12_13 (v := .ref (ad 1)) rfl dX12_read_24 ?_
      refine lv_iload_n hx hb dX12_read_27 rfl (lv_at hl 1 rfl) ?_
      obtain ⟨hi_36, h⟩ := gd_ex h
      refine g_bald C hH 1 (Nat.le_of_ble_eq_true rfl) rfl (k := (x1.toNatClampNeg)) rfl (ix_in hi_36) dX12_read_28 ?_
      obtain ⟨hi_37, h⟩ := gd_ex h
      obtain ⟨σ_38, eσ_38, h⟩ := hl_ex h
      refine g_bast C hH 2 (Nat.le_of_ble_eq_true rfl) (fun _ _ => rfl) (k := (x1.toNatClampNeg)) rfl (ix_in hi_37) dX12_read_29 (fun H locs hH => ?_)
      rw [← eσ_38] at hH
      refine lv_iinc (v := (x1 + 1)) (lv' := [(1, .int (x1 + 1)), (0, .ref (ad 0))]) hx hb dX12_read_30 hl (k := 1) rfl rfl (by decide) rfl (fun ls hl => ?_)
      refine lv_goto (tgt := 10) hx hb dX12_read_33 (by decide) ?_
      exact ih _ _ _ _ _ h hH (lv_sub hl [1, 0] rfl)
set_option maxHeartbeats 4000000 in
set_option maxRecDepth 100000 in
theorem kX12_read (l : Launch) (D : va_G) (ad : Nat → Nat) (κ : KC) {σ : HS} {R : (Int32 × HS)} (h : FX12_read σ = some R) : MtI l 45 ceM D ad κ yX12_read cX12_read 2 (some .int) ({ frames := 7, cells := 0, slots := 0, locals := 147 } : Room) [.ref (ad 0)] σ R := by
  refine open_ (by decide) (Nat.le_of_ble_eq_true rfl) (la := [(0, .ref (ad 0))]) rfl ?_
  intro p e s m below meth c ls C hH hl
  replace C : Cx 45 D ad κ p s m _ meth c cX12_read RX12 2 (some .int) := C
  have hx := C.1
  have hb := C.2.1
  have hown := C.2.2.2.1
  have hts := C.2.2.2.2.1
  rw [FX12_read] at h
  refine lv_aload_n hx hb dX12_read_0 rfl (lv_at hl 0 rfl) ?_
  refine lv_aload_n hx hb dX12_read_1 rfl (lv_at hl 0 rfl) ?_
  refine g_get C hH 0 (Nat.le_of_ble_eq_true rfl) rfl fl_X12_166 (v := .int (σ.1 0 2)) rfl dX12_read_2 ?_
  obtain ⟨σ_39, eσ_39, h⟩ := hl_ex h
  refine g_putI C hH 0 (Nat.le_of_ble_eq_true rfl) rfl fp_X12_172 rfl rfl (Nat.le_of_ble_eq_true rfl) rfl dX12_read_5 (fun H locs hH => ?_)
  rw [← eσ_39] at hH
  refine lv_iconst (v := 0) hx hb dX12_read_8 (by decide) ?_
  refine lv_istore_n (lv' := [(1, .int (0 : Int32)), (0, .ref (ad 0))]) hx hb dX12_read_9 rfl hl (by decide) rfl (fun ls hl => ?_)
  exact wX12_read_10 C _ _ _ _ _ _ h hH (lv_sub hl [1, 0] rfl)
end
