theorem dX0_partBehind_0 : decode cX0_partBehind 0 = .ok (.iload_n 0, 1) := by decide +kernel
theorem dX0_partBehind_1 : decode cX0_partBehind 1 = .ok (.bipush 7, 2) := by decide +kernel
theorem dX0_partBehind_3 : decode cX0_partBehind 3 = .ok (.if_icmp .ge 9, 3) := by decide +kernel
theorem dX0_partBehind_6 : decode cX0_partBehind 6 = .ok (.iload_n 0, 1) := by decide +kernel
theorem dX0_partBehind_7 : decode cX0_partBehind 7 = .ok (.iconst 1, 1) := by decide +kernel
theorem dX0_partBehind_8 : decode cX0_partBehind 8 = .ok (.iadd, 1) := by decide +kernel
theorem dX0_partBehind_9 : decode cX0_partBehind 9 = .ok (.goto 5, 3) := by decide +kernel
theorem dX0_partBehind_12 : decode cX0_partBehind 12 = .ok (.bipush 7, 2) := by decide +kernel
theorem dX0_partBehind_14 : decode cX0_partBehind 14 = .ok (.ireturn, 1) := by decide +kernel
theorem dX0_weighFalls_0 : decode cX0_weighFalls 0 = .ok (.aload_n 0, 1) := by decide +kernel
theorem dX0_weighFalls_1 : decode cX0_weighFalls 1 = .ok (.getfield 15, 3) := by decide +kernel
theorem dX0_weighFalls_4 : decode cX0_weighFalls 4 = .ok (.iconst 0, 1) := by decide +kernel
theorem dX0_weighFalls_5 : decode cX0_weighFalls 5 = .ok (.invokestatic 56, 3) := by decide +kernel
theorem dX0_weighFalls_8 : decode cX0_weighFalls 8 = .ok (.aload_n 0, 1) := by decide +kernel
theorem dX0_weighFalls_9 : decode cX0_weighFalls 9 = .ok (.getfield 15, 3) := by decide +kernel
theorem dX0_weighFalls_12 : decode cX0_weighFalls 12 = .ok (.iconst 0, 1) := by decide +kernel
theorem dX0_weighFalls_13 : decode cX0_weighFalls 13 = .ok (.aload_n 0, 1) := by decide +kernel
theorem dX0_weighFalls_14 : decode cX0_weighFalls 14 = .ok (.getfield 38, 3) := by decide +kernel
theorem dX0_weighFalls_17 : decode cX0_weighFalls 17 = .ok (.iastore, 1) := by decide +kernel
theorem dX0_weighFalls_18 : decode cX0_weighFalls 18 = .ok (.iconst 0, 1) := by decide +kernel
theorem dX0_weighFalls_19 : decode cX0_weighFalls 19 = .ok (.istore_n 1, 1) := by decide +kernel
theorem dX0_weighFalls_20 : decode cX0_weighFalls 20 = .ok (.iload_n 1, 1) := by decide +kernel
theorem dX0_weighFalls_21 : decode cX0_weighFalls 21 = .ok (.iconst 1, 1) := by decide +kernel
theorem dX0_weighFalls_22 : decode cX0_weighFalls 22 = .ok (.iadd, 1) := by decide +kernel
theorem dX0_weighFalls_23 : decode cX0_weighFalls 23 = .ok (.aload_n 0, 1) := by decide +kernel
theorem dX0_weighFalls_24 : decode cX0_weighFalls 24 = .ok (.getfield 24, 3) := by decide +kernel
theorem dX0_weighFalls_27 : decode cX0_weighFalls 27 = .ok (.getfield 32, 3) := by decide +kernel
theorem dX0_weighFalls_30 : decode cX0_weighFalls 30 = .ok (.if_icmp .ge 95, 3) := by decide +kernel
theorem dX0_weighFalls_33 : decode cX0_weighFalls 33 = .ok (.iload_n 1, 1) := by decide +kernel
theorem dX0_weighFalls_34 : decode cX0_weighFalls 34 = .ok (.bipush 8, 2) := by decide +kernel
theorem dX0_weighFalls_36 : decode cX0_weighFalls 36 = .ok (.imul, 1) := by decide +kernel
theorem dX0_weighFalls_37 : decode cX0_weighFalls 37 = .ok (.istore_n 2, 1) := by decide +kernel
theorem dX0_weighFalls_38 : decode cX0_weighFalls 38 = .ok (.iload_n 2, 1) := by decide +kernel
theorem dX0_weighFalls_39 : decode cX0_weighFalls 39 = .ok (.bipush 8, 2) := by decide +kernel
theorem dX0_weighFalls_41 : decode cX0_weighFalls 41 = .ok (.iadd, 1) := by decide +kernel
theorem dX0_weighFalls_42 : decode cX0_weighFalls 42 = .ok (.istore_n 3, 1) := by decide +kernel
theorem dX0_weighFalls_43 : decode cX0_weighFalls 43 = .ok (.iconst 0, 1) := by decide +kernel
theorem dX0_weighFalls_44 : decode cX0_weighFalls 44 = .ok (.istore 4, 2) := by decide +kernel
theorem dX0_weighFalls_46 : decode cX0_weighFalls 46 = .ok (.iload 4, 2) := by decide +kernel
theorem dX0_weighFalls_48 : decode cX0_weighFalls 48 = .ok (.bipush 8, 2) := by decide +kernel
theorem dX0_weighFalls_50 : decode cX0_weighFalls 50 = .ok (.if_icmp .ge 69, 3) := by decide +kernel
theorem dX0_weighFalls_53 : decode cX0_weighFalls 53 = .ok (.aload_n 0, 1) := by decide +kernel
theorem dX0_weighFalls_54 : decode cX0_weighFalls 54 = .ok (.getfield 15, 3) := by decide +kernel
theorem dX0_weighFalls_57 : decode cX0_weighFalls 57 = .ok (.iload_n 2, 1) := by decide +kernel
theorem dX0_weighFalls_58 : decode cX0_weighFalls 58 = .ok (.iload 4, 2) := by decide +kernel
theorem dX0_weighFalls_60 : decode cX0_weighFalls 60 = .ok (.iadd, 1) := by decide +kernel
theorem dX0_weighFalls_61 : decode cX0_weighFalls 61 = .ok (.iaload, 1) := by decide +kernel
theorem dX0_weighFalls_62 : decode cX0_weighFalls 62 = .ok (.iconst 4, 1) := by decide +kernel
theorem dX0_weighFalls_63 : decode cX0_weighFalls 63 = .ok (.idiv, 1) := by decide +kernel
theorem dX0_weighFalls_64 : decode cX0_weighFalls 64 = .ok (.istore 5, 2) := by decide +kernel
theorem dX0_weighFalls_66 : decode cX0_weighFalls 66 = .ok (.aload_n 0, 1) := by decide +kernel
theorem dX0_weighFalls_67 : decode cX0_weighFalls 67 = .ok (.getfield 15, 3) := by decide +kernel
theorem dX0_weighFalls_70 : decode cX0_weighFalls 70 = .ok (.iload_n 3, 1) := by decide +kernel
theorem dX0_weighFalls_71 : decode cX0_weighFalls 71 = .ok (.iload 4, 2) := by decide +kernel
theorem dX0_weighFalls_73 : decode cX0_weighFalls 73 = .ok (.iadd, 1) := by decide +kernel
theorem dX0_weighFalls_74 : decode cX0_weighFalls 74 = .ok (.dup2, 1) := by decide +kernel
theorem dX0_weighFalls_75 : decode cX0_weighFalls 75 = .ok (.iaload, 1) := by decide +kernel
theorem dX0_weighFalls_76 : decode cX0_weighFalls 76 = .ok (.iload 5, 2) := by decide +kernel
theorem dX0_weighFalls_78 : decode cX0_weighFalls 78 = .ok (.iconst 4, 1) := by decide +kernel
theorem dX0_weighFalls_79 : decode cX0_weighFalls 79 = .ok (.aload_n 0, 1) := by decide +kernel
theorem dX0_weighFalls_80 : decode cX0_weighFalls 80 = .ok (.getfield 9, 3) := by decide +kernel
theorem dX0_weighFalls_83 : decode cX0_weighFalls 83 = .ok (.iload_n 1, 1) := by decide +kernel
theorem dX0_weighFalls_84 : decode cX0_weighFalls 84 = .ok (.iaload, 1) := by decide +kernel
theorem dX0_weighFalls_85 : decode cX0_weighFalls 85 = .ok (.isub, 1) := by decide +kernel
theorem dX0_weighFalls_86 : decode cX0_weighFalls 86 = .ok (.imul, 1) := by decide +kernel
theorem dX0_weighFalls_87 : decode cX0_weighFalls 87 = .ok (.iadd, 1) := by decide +kernel
theorem dX0_weighFalls_88 : decode cX0_weighFalls 88 = .ok (.iastore, 1) := by decide +kernel
theorem dX0_weighFalls_89 : decode cX0_weighFalls 89 = .ok (.aload_n 0, 1) := by decide +kernel
theorem dX0_weighFalls_90 : decode cX0_weighFalls 90 = .ok (.getfield 15, 3) := by decide +kernel
theorem dX0_weighFalls_93 : decode cX0_weighFalls 93 = .ok (.iload_n 3, 1) := by decide +kernel
theorem dX0_weighFalls_94 : decode cX0_weighFalls 94 = .ok (.iload 4, 2) := by decide +kernel
theorem dX0_weighFalls_96 : decode cX0_weighFalls 96 = .ok (.invokestatic 62, 3) := by decide +kernel
theorem dX0_weighFalls_99 : decode cX0_weighFalls 99 = .ok (.iadd, 1) := by decide +kernel
theorem dX0_weighFalls_100 : decode cX0_weighFalls 100 = .ok (.dup2, 1) := by decide +kernel
theorem dX0_weighFalls_101 : decode cX0_weighFalls 101 = .ok (.iaload, 1) := by decide +kernel
theorem dX0_weighFalls_102 : decode cX0_weighFalls 102 = .ok (.iload 5, 2) := by decide +kernel
theorem dX0_weighFalls_104 : decode cX0_weighFalls 104 = .ok (.aload_n 0, 1) := by decide +kernel
theorem dX0_weighFalls_105 : decode cX0_weighFalls 105 = .ok (.getfield 9, 3) := by decide +kernel
theorem dX0_weighFalls_108 : decode cX0_weighFalls 108 = .ok (.iload_n 1, 1) := by decide +kernel
theorem dX0_weighFalls_109 : decode cX0_weighFalls 109 = .ok (.iaload, 1) := by decide +kernel
theorem dX0_weighFalls_110 : decode cX0_weighFalls 110 = .ok (.imul, 1) := by decide +kernel
theorem dX0_weighFalls_111 : decode cX0_weighFalls 111 = .ok (.iadd, 1) := by decide +kernel
theorem dX0_weighFalls_112 : decode cX0_weighFalls 112 = .ok (.iastore, 1) := by decide +kernel
theorem dX0_weighFalls_113 : decode cX0_weighFalls 113 = .ok (.iinc 4 1, 3) := by decide +kernel
theorem dX0_weighFalls_116 : decode cX0_weighFalls 116 = .ok (.goto (-70), 3) := by decide +kernel
theorem dX0_weighFalls_119 : decode cX0_weighFalls 119 = .ok (.iinc 1 1, 3) := by decide +kernel
theorem dX0_weighFalls_122 : decode cX0_weighFalls 122 = .ok (.goto (-102), 3) := by decide +kernel
theorem dX0_weighFalls_125 : decode cX0_weighFalls 125 = .ok (.return_, 1) := by decide +kernel
theorem dX0_weigh_0 : decode cX0_weigh 0 = .ok (.aload_n 0, 1) := by decide +kernel
theorem dX0_weigh_1 : decode cX0_weigh 1 = .ok (.iconst 1, 1) := by decide +kernel
theorem dX0_weigh_2 : decode cX0_weigh 2 = .ok (.iconst 2, 1) := by decide +kernel
theorem dX0_weigh_3 : decode cX0_weigh 3 = .ok (.aload_n 0, 1) := by decide +kernel
theorem dX0_weigh_4 : decode cX0_weigh 4 = .ok (.getfield 24, 3) := by decide +kernel
theorem dX0_weigh_7 : decode cX0_weigh 7 = .ok (.getfield 32, 3) := by decide +kernel
theorem dX0_weigh_10 : decode cX0_weigh 10 = .ok (.imul, 1) := by decide +kernel
theorem dX0_weigh_11 : decode cX0_weigh 11 = .ok (.ishl, 1) := by decide +kernel
theorem dX0_weigh_12 : decode cX0_weigh 12 = .ok (.putfield 38, 3) := by decide +kernel
theorem dX0_weigh_15 : decode cX0_weigh 15 = .ok (.aload_n 0, 1) := by decide +kernel
theorem dX0_weigh_16 : decode cX0_weigh 16 = .ok (.iconst 0, 1) := by decide +kernel
theorem dX0_weigh_17 : decode cX0_weigh 17 = .ok (.putfield 41, 3) := by decide +kernel
theorem dX0_weigh_20 : decode cX0_weigh 20 = .ok (.aload_n 0, 1) := by decide +kernel
theorem dX0_weigh_21 : decode cX0_weigh 21 = .ok (.iconst 0, 1) := by decide +kernel
theorem dX0_weigh_22 : decode cX0_weigh 22 = .ok (.putfield 44, 3) := by decide +kernel
theorem dX0_weigh_25 : decode cX0_weigh 25 = .ok (.iconst 0, 1) := by decide +kernel
theorem dX0_weigh_26 : decode cX0_weigh 26 = .ok (.istore_n 2, 1) := by decide +kernel
theorem dX0_weigh_27 : decode cX0_weigh 27 = .ok (.iload_n 2, 1) := by decide +kernel
theorem dX0_weigh_28 : decode cX0_weigh 28 = .ok (.aload_n 0, 1) := by decide +kernel
theorem dX0_weigh_29 : decode cX0_weigh 29 = .ok (.getfield 24, 3) := by decide +kernel
theorem dX0_weigh_32 : decode cX0_weigh 32 = .ok (.getfield 32, 3) := by decide +kernel
theorem dX0_weigh_35 : decode cX0_weigh 35 = .ok (.if_icmp .ge 70, 3) := by decide +kernel
theorem dX0_weigh_38 : decode cX0_weigh 38 = .ok (.aload_n 0, 1) := by decide +kernel
theorem dX0_weigh_39 : decode cX0_weigh 39 = .ok (.getfield 9, 3) := by decide +kernel
theorem dX0_weigh_42 : decode cX0_weigh 42 = .ok (.iload_n 2, 1) := by decide +kernel
theorem dX0_weigh_43 : decode cX0_weigh 43 = .ok (.aload_n 0, 1) := by decide +kernel
theorem dX0_weigh_44 : decode cX0_weigh 44 = .ok (.getfield 28, 3) := by decide +kernel
theorem dX0_weigh_47 : decode cX0_weigh 47 = .ok (.aload_n 1, 1) := by decide +kernel
theorem dX0_weigh_48 : decode cX0_weigh 48 = .ok (.iload_n 2, 1) := by decide +kernel
theorem dX0_weigh_49 : decode cX0_weigh 49 = .ok (.invokevirtual 47, 3) := by decide +kernel
theorem dX0_weigh_52 : decode cX0_weigh 52 = .ok (.iastore, 1) := by decide +kernel
theorem dX0_weigh_53 : decode cX0_weigh 53 = .ok (.aload_n 0, 1) := by decide +kernel
theorem dX0_weigh_54 : decode cX0_weigh 54 = .ok (.getfield 9, 3) := by decide +kernel
theorem dX0_weigh_57 : decode cX0_weigh 57 = .ok (.iload_n 2, 1) := by decide +kernel
theorem dX0_weigh_58 : decode cX0_weigh 58 = .ok (.iaload, 1) := by decide +kernel
theorem dX0_weigh_59 : decode cX0_weigh 59 = .ok (.iconst 4, 1) := by decide +kernel
theorem dX0_weigh_60 : decode cX0_weigh 60 = .ok (.if_icmp .ne 18, 3) := by decide +kernel
theorem dX0_weigh_63 : decode cX0_weigh 63 = .ok (.aload_n 0, 1) := by decide +kernel
theorem dX0_weigh_64 : decode cX0_weigh 64 = .ok (.dup, 1) := by decide +kernel
theorem dX0_weigh_65 : decode cX0_weigh 65 = .ok (.getfield 41, 3) := by decide +kernel
theorem dX0_weigh_68 : decode cX0_weigh 68 = .ok (.iconst 1, 1) := by decide +kernel
theorem dX0_weigh_69 : decode cX0_weigh 69 = .ok (.iload_n 2, 1) := by decide +kernel
theorem dX0_weigh_70 : decode cX0_weigh 70 = .ok (.ishl, 1) := by decide +kernel
theorem dX0_weigh_71 : decode cX0_weigh 71 = .ok (.ior, 1) := by decide +kernel
theorem dX0_weigh_72 : decode cX0_weigh 72 = .ok (.putfield 41, 3) := by decide +kernel
theorem dX0_weigh_75 : decode cX0_weigh 75 = .ok (.goto 24, 3) := by decide +kernel
theorem dX0_weigh_78 : decode cX0_weigh 78 = .ok (.aload_n 0, 1) := by decide +kernel
theorem dX0_weigh_79 : decode cX0_weigh 79 = .ok (.getfield 9, 3) := by decide +kernel
theorem dX0_weigh_82 : decode cX0_weigh 82 = .ok (.iload_n 2, 1) := by decide +kernel
theorem dX0_weigh_83 : decode cX0_weigh 83 = .ok (.iaload, 1) := by decide +kernel
theorem dX0_weigh_84 : decode cX0_weigh 84 = .ok (.ifCond .le 15, 3) := by decide +kernel
theorem dX0_weigh_87 : decode cX0_weigh 87 = .ok (.aload_n 0, 1) := by decide +kernel
theorem dX0_weigh_88 : decode cX0_weigh 88 = .ok (.dup, 1) := by decide +kernel
theorem dX0_weigh_89 : decode cX0_weigh 89 = .ok (.getfield 44, 3) := by decide +kernel
theorem dX0_weigh_92 : decode cX0_weigh 92 = .ok (.iconst 1, 1) := by decide +kernel
theorem dX0_weigh_93 : decode cX0_weigh 93 = .ok (.iload_n 2, 1) := by decide +kernel
theorem dX0_weigh_94 : decode cX0_weigh 94 = .ok (.ishl, 1) := by decide +kernel
theorem dX0_weigh_95 : decode cX0_weigh 95 = .ok (.ior, 1) := by decide +kernel
theorem dX0_weigh_96 : decode cX0_weigh 96 = .ok (.putfield 44, 3) := by decide +kernel
theorem dX0_weigh_99 : decode cX0_weigh 99 = .ok (.iinc 2 1, 3) := by decide +kernel
theorem dX0_weigh_102 : decode cX0_weigh 102 = .ok (.goto (-75), 3) := by decide +kernel
theorem dX0_weigh_105 : decode cX0_weigh 105 = .ok (.aload_n 0, 1) := by decide +kernel
theorem dX0_weigh_106 : decode cX0_weigh 106 = .ok (.invokevirtual 53, 3) := by decide +kernel
theorem dX0_weigh_109 : decode cX0_weigh 109 = .ok (.return_, 1) := by decide +kernel
theorem dX0_partIn_0 : decode cX0_partIn 0 = .ok (.bipush 7, 2) := by decide +kernel
theorem dX0_partIn_2 : decode cX0_partIn 2 = .ok (.iload_n 0, 1) := by decide +kernel
theorem dX0_partIn_3 : decode cX0_partIn 3 = .ok (.iconst 1, 1) := by decide +kernel
theorem dX0_partIn_4 : decode cX0_partIn 4 = .ok (.iload_n 1, 1) := by decide +kernel
theorem dX0_partIn_5 : decode cX0_partIn 5 = .ok (.ishl, 1) := by decide +kernel
theorem dX0_partIn_6 : decode cX0_partIn 6 = .ok (.iconst 1, 1) := by decide +kernel
theorem dX0_partIn_7 : decode cX0_partIn 7 = .ok (.isub, 1) := by decide +kernel
theorem dX0_partIn_8 : decode cX0_partIn 8 = .ok (.iand, 1) := by decide +kernel
theorem dX0_partIn_9 : decode cX0_partIn 9 = .ok (.invokestatic 66, 3) := by decide +kernel
theorem dX0_partIn_12 : decode cX0_partIn 12 = .ok (.invokestatic 71, 3) := by decide +kernel
theorem dX0_partIn_15 : decode cX0_partIn 15 = .ok (.ireturn, 1) := by decide +kernel
theorem dX0_casesIn_0 : decode cX0_casesIn 0 = .ok (.aload_n 0, 1) := by decide +kernel
theorem dX0_casesIn_1 : decode cX0_casesIn 1 = .ok (.getfield 15, 3) := by decide +kernel
theorem dX0_casesIn_4 : decode cX0_casesIn 4 = .ok (.iload_n 1, 1) := by decide +kernel
theorem dX0_casesIn_5 : decode cX0_casesIn 5 = .ok (.bipush 8, 2) := by decide +kernel
theorem dX0_casesIn_7 : decode cX0_casesIn 7 = .ok (.imul, 1) := by decide +kernel
theorem dX0_casesIn_8 : decode cX0_casesIn 8 = .ok (.iload_n 2, 1) := by decide +kernel
theorem dX0_casesIn_9 : decode cX0_casesIn 9 = .ok (.iadd, 1) := by decide +kernel
theorem dX0_casesIn_10 : decode cX0_casesIn 10 = .ok (.iaload, 1) := by decide +kernel
theorem dX0_casesIn_11 : decode cX0_casesIn 11 = .ok (.ireturn, 1) := by decide +kernel
theorem dX0_casesOfParts_0 : decode cX0_casesOfParts 0 = .ok (.aload_n 0, 1) := by decide +kernel
theorem dX0_casesOfParts_1 : decode cX0_casesOfParts 1 = .ok (.getfield 24, 3) := by decide +kernel
theorem dX0_casesOfParts_4 : decode cX0_casesOfParts 4 = .ok (.getfield 32, 3) := by decide +kernel
theorem dX0_casesOfParts_7 : decode cX0_casesOfParts 7 = .ok (.ifCond .ne 16, 3) := by decide +kernel
theorem dX0_casesOfParts_10 : decode cX0_casesOfParts 10 = .ok (.iload_n 1, 1) := by decide +kernel
theorem dX0_casesOfParts_11 : decode cX0_casesOfParts 11 = .ok (.ifCond .ne 10, 3) := by decide +kernel
theorem dX0_casesOfParts_14 : decode cX0_casesOfParts 14 = .ok (.aload_n 0, 1) := by decide +kernel
theorem dX0_casesOfParts_15 : decode cX0_casesOfParts 15 = .ok (.getfield 38, 3) := by decide +kernel
theorem dX0_casesOfParts_18 : decode cX0_casesOfParts 18 = .ok (.goto 4, 3) := by decide +kernel
theorem dX0_casesOfParts_21 : decode cX0_casesOfParts 21 = .ok (.iconst 0, 1) := by decide +kernel
theorem dX0_casesOfParts_22 : decode cX0_casesOfParts 22 = .ok (.ireturn, 1) := by decide +kernel
theorem dX0_casesOfParts_23 : decode cX0_casesOfParts 23 = .ok (.iload_n 1, 1) := by decide +kernel
theorem dX0_casesOfParts_24 : decode cX0_casesOfParts 24 = .ok (.ifCond .ne 7, 3) := by decide +kernel
theorem dX0_casesOfParts_27 : decode cX0_casesOfParts 27 = .ok (.iconst 0, 1) := by decide +kernel
theorem dX0_casesOfParts_28 : decode cX0_casesOfParts 28 = .ok (.goto 19, 3) := by decide +kernel
theorem dX0_casesOfParts_31 : decode cX0_casesOfParts 31 = .ok (.aload_n 0, 1) := by decide +kernel
theorem dX0_casesOfParts_32 : decode cX0_casesOfParts 32 = .ok (.aload_n 0, 1) := by decide +kernel
theorem dX0_casesOfParts_33 : decode cX0_casesOfParts 33 = .ok (.getfield 24, 3) := by decide +kernel
theorem dX0_casesOfParts_36 : decode cX0_casesOfParts 36 = .ok (.getfield 32, 3) := by decide +kernel
theorem dX0_casesOfParts_39 : decode cX0_casesOfParts 39 = .ok (.iconst 1, 1) := by decide +kernel
theorem dX0_casesOfParts_40 : decode cX0_casesOfParts 40 = .ok (.isub, 1) := by decide +kernel
theorem dX0_casesOfParts_41 : decode cX0_casesOfParts 41 = .ok (.iload_n 1, 1) := by decide +kernel
theorem dX0_casesOfParts_42 : decode cX0_casesOfParts 42 = .ok (.iconst 1, 1) := by decide +kernel
theorem dX0_casesOfParts_43 : decode cX0_casesOfParts 43 = .ok (.isub, 1) := by decide +kernel
theorem dX0_casesOfParts_44 : decode cX0_casesOfParts 44 = .ok (.invokevirtual 77, 3) := by decide +kernel
theorem dX0_casesOfParts_47 : decode cX0_casesOfParts 47 = .ok (.ireturn, 1) := by decide +kernel
theorem dX0_valueOf_0 : decode cX0_valueOf 0 = .ok (.iconst 0, 1) := by decide +kernel
theorem dX0_valueOf_1 : decode cX0_valueOf 1 = .ok (.istore 4, 2) := by decide +kernel
theorem dX0_valueOf_3 : decode cX0_valueOf 3 = .ok (.iconst 0, 1) := by decide +kernel
theorem dX0_valueOf_4 : decode cX0_valueOf 4 = .ok (.istore 5, 2) := by decide +kernel
theorem dX0_valueOf_6 : decode cX0_valueOf 6 = .ok (.iload 5, 2) := by decide +kernel
theorem dX0_valueOf_8 : decode cX0_valueOf 8 = .ok (.bipush 8, 2) := by decide +kernel
theorem dX0_valueOf_10 : decode cX0_valueOf 10 = .ok (.if_icmp .ge 80, 3) := by decide +kernel
theorem dX0_valueOf_13 : decode cX0_valueOf 13 = .ok (.iconst 0, 1) := by decide +kernel
theorem dX0_valueOf_14 : decode cX0_valueOf 14 = .ok (.istore 6, 2) := by decide +kernel
theorem dX0_valueOf_16 : decode cX0_valueOf 16 = .ok (.iload 6, 2) := by decide +kernel
theorem dX0_valueOf_18 : decode cX0_valueOf 18 = .ok (.aload_n 0, 1) := by decide +kernel
theorem dX0_valueOf_19 : decode cX0_valueOf 19 = .ok (.getfield 24, 3) := by decide +kernel
theorem dX0_valueOf_22 : decode cX0_valueOf 22 = .ok (.getfield 32, 3) := by decide +kernel
theorem dX0_valueOf_25 : decode cX0_valueOf 25 = .ok (.if_icmp .ge 59, 3) := by decide +kernel
theorem dX0_valueOf_28 : decode cX0_valueOf 28 = .ok (.iload_n 3, 1) := by decide +kernel
theorem dX0_valueOf_29 : decode cX0_valueOf 29 = .ok (.iload 5, 2) := by decide +kernel
theorem dX0_valueOf_31 : decode cX0_valueOf 31 = .ok (.ishr, 1) := by decide +kernel
theorem dX0_valueOf_32 : decode cX0_valueOf 32 = .ok (.iconst 1, 1) := by decide +kernel
theorem dX0_valueOf_33 : decode cX0_valueOf 33 = .ok (.iand, 1) := by decide +kernel
theorem dX0_valueOf_34 : decode cX0_valueOf 34 = .ok (.ifCond .eq 50, 3) := by decide +kernel
theorem dX0_valueOf_37 : decode cX0_valueOf 37 = .ok (.aload_n 0, 1) := by decide +kernel
theorem dX0_valueOf_38 : decode cX0_valueOf 38 = .ok (.getfield 15, 3) := by decide +kernel
theorem dX0_valueOf_41 : decode cX0_valueOf 41 = .ok (.iload 6, 2) := by decide +kernel
theorem dX0_valueOf_43 : decode cX0_valueOf 43 = .ok (.bipush 8, 2) := by decide +kernel
theorem dX0_valueOf_45 : decode cX0_valueOf 45 = .ok (.imul, 1) := by decide +kernel
theorem dX0_valueOf_46 : decode cX0_valueOf 46 = .ok (.iload 5, 2) := by decide +kernel
theorem dX0_valueOf_48 : decode cX0_valueOf 48 = .ok (.iadd, 1) := by decide +kernel
theorem dX0_valueOf_49 : decode cX0_valueOf 49 = .ok (.iaload, 1) := by decide +kernel
theorem dX0_valueOf_50 : decode cX0_valueOf 50 = .ok (.istore 7, 2) := by decide +kernel
theorem dX0_valueOf_52 : decode cX0_valueOf 52 = .ok (.iload 7, 2) := by decide +kernel
theorem dX0_valueOf_54 : decode cX0_valueOf 54 = .ok (.ifCond .le 24, 3) := by decide +kernel
theorem dX0_valueOf_57 : decode cX0_valueOf 57 = .ok (.iload 4, 2) := by decide +kernel
theorem dX0_valueOf_59 : decode cX0_valueOf 59 = .ok (.iload 7, 2) := by decide +kernel
theorem dX0_valueOf_61 : decode cX0_valueOf 61 = .ok (.aload_n 0, 1) := by decide +kernel
theorem dX0_valueOf_62 : decode cX0_valueOf 62 = .ok (.getfield 28, 3) := by decide +kernel
theorem dX0_valueOf_65 : decode cX0_valueOf 65 = .ok (.aload_n 1, 1) := by decide +kernel
theorem dX0_valueOf_66 : decode cX0_valueOf 66 = .ok (.iload_n 2, 1) := by decide +kernel
theorem dX0_valueOf_67 : decode cX0_valueOf 67 = .ok (.iload 6, 2) := by decide +kernel
theorem dX0_valueOf_69 : decode cX0_valueOf 69 = .ok (.iload 5, 2) := by decide +kernel
theorem dX0_valueOf_71 : decode cX0_valueOf 71 = .ok (.invokevirtual 80, 3) := by decide +kernel
theorem dX0_valueOf_74 : decode cX0_valueOf 74 = .ok (.imul, 1) := by decide +kernel
theorem dX0_valueOf_75 : decode cX0_valueOf 75 = .ok (.iadd, 1) := by decide +kernel
theorem dX0_valueOf_76 : decode cX0_valueOf 76 = .ok (.istore 4, 2) := by decide +kernel
theorem dX0_valueOf_78 : decode cX0_valueOf 78 = .ok (.iinc 6 1, 3) := by decide +kernel
theorem dX0_valueOf_81 : decode cX0_valueOf 81 = .ok (.goto (-65), 3) := by decide +kernel
theorem dX0_valueOf_84 : decode cX0_valueOf 84 = .ok (.iinc 5 1, 3) := by decide +kernel
theorem dX0_valueOf_87 : decode cX0_valueOf 87 = .ok (.goto (-81), 3) := by decide +kernel
theorem dX0_valueOf_90 : decode cX0_valueOf 90 = .ok (.iload 4, 2) := by decide +kernel
theorem dX0_valueOf_92 : decode cX0_valueOf 92 = .ok (.ireturn, 1) := by decide +kernel
theorem dX0_haveOf_0 : decode cX0_haveOf 0 = .ok (.aload_n 0, 1) := by decide +kernel
theorem dX0_haveOf_1 : decode cX0_haveOf 1 = .ok (.aload_n 1, 1) := by decide +kernel
theorem dX0_haveOf_2 : decode cX0_haveOf 2 = .ok (.iload_n 2, 1) := by decide +kernel
theorem dX0_haveOf_3 : decode cX0_haveOf 3 = .ok (.aload_n 1, 1) := by decide +kernel
theorem dX0_haveOf_4 : decode cX0_haveOf 4 = .ok (.iload_n 2, 1) := by decide +kernel
theorem dX0_haveOf_5 : decode cX0_haveOf 5 = .ok (.invokevirtual 84, 3) := by decide +kernel
theorem dX0_haveOf_8 : decode cX0_haveOf 8 = .ok (.invokevirtual 89, 3) := by decide +kernel
theorem dX0_haveOf_11 : decode cX0_haveOf 11 = .ok (.ireturn, 1) := by decide +kernel
theorem dX0_casesTogether_0 : decode cX0_casesTogether 0 = .ok (.aload_n 0, 1) := by decide +kernel
theorem dX0_casesTogether_1 : decode cX0_casesTogether 1 = .ok (.iload_n 1, 1) := by decide +kernel
theorem dX0_casesTogether_2 : decode cX0_casesTogether 2 = .ok (.bipush 7, 2) := by decide +kernel
theorem dX0_casesTogether_4 : decode cX0_casesTogether 4 = .ok (.invokevirtual 77, 3) := by decide +kernel
theorem dX0_casesTogether_7 : decode cX0_casesTogether 7 = .ok (.istore_n 3, 1) := by decide +kernel
theorem dX0_casesTogether_8 : decode cX0_casesTogether 8 = .ok (.aload_n 0, 1) := by decide +kernel
theorem dX0_casesTogether_9 : decode cX0_casesTogether 9 = .ok (.getfield 38, 3) := by decide +kernel
theorem dX0_casesTogether_12 : decode cX0_casesTogether 12 = .ok (.iload_n 3, 1) := by decide +kernel
theorem dX0_casesTogether_13 : decode cX0_casesTogether 13 = .ok (.isub, 1) := by decide +kernel
theorem dX0_casesTogether_14 : decode cX0_casesTogether 14 = .ok (.istore 4, 2) := by decide +kernel
theorem dX0_casesTogether_16 : decode cX0_casesTogether 16 = .ok (.iload_n 1, 1) := by decide +kernel
theorem dX0_casesTogether_17 : decode cX0_casesTogether 17 = .ok (.istore 5, 2) := by decide +kernel
theorem dX0_casesTogether_19 : decode cX0_casesTogether 19 = .ok (.iload 5, 2) := by decide +kernel
theorem dX0_casesTogether_21 : decode cX0_casesTogether 21 = .ok (.iload_n 2, 1) := by decide +kernel
theorem dX0_casesTogether_22 : decode cX0_casesTogether 22 = .ok (.if_icmp .ge 25, 3) := by decide +kernel
theorem dX0_casesTogether_25 : decode cX0_casesTogether 25 = .ok (.iload 4, 2) := by decide +kernel
theorem dX0_casesTogether_27 : decode cX0_casesTogether 27 = .ok (.iconst 4, 1) := by decide +kernel
theorem dX0_casesTogether_28 : decode cX0_casesTogether 28 = .ok (.idiv, 1) := by decide +kernel
theorem dX0_casesTogether_29 : decode cX0_casesTogether 29 = .ok (.iconst 4, 1) := by decide +kernel
theorem dX0_casesTogether_30 : decode cX0_casesTogether 30 = .ok (.aload_n 0, 1) := by decide +kernel
theorem dX0_casesTogether_31 : decode cX0_casesTogether 31 = .ok (.getfield 9, 3) := by decide +kernel
theorem dX0_casesTogether_34 : decode cX0_casesTogether 34 = .ok (.iload 5, 2) := by decide +kernel
theorem dX0_casesTogether_36 : decode cX0_casesTogether 36 = .ok (.iaload, 1) := by decide +kernel
theorem dX0_casesTogether_37 : decode cX0_casesTogether 37 = .ok (.isub, 1) := by decide +kernel
theorem dX0_casesTogether_38 : decode cX0_casesTogether 38 = .ok (.imul, 1) := by decide +kernel
theorem dX0_casesTogether_39 : decode cX0_casesTogether 39 = .ok (.istore 4, 2) := by decide +kernel
theorem dX0_casesTogether_41 : decode cX0_casesTogether 41 = .ok (.iinc 5 1, 3) := by decide +kernel
theorem dX0_casesTogether_44 : decode cX0_casesTogether 44 = .ok (.goto (-25), 3) := by decide +kernel
theorem dX0_casesTogether_47 : decode cX0_casesTogether 47 = .ok (.iload_n 3, 1) := by decide +kernel
theorem dX0_casesTogether_48 : decode cX0_casesTogether 48 = .ok (.iload 4, 2) := by decide +kernel
theorem dX0_casesTogether_50 : decode cX0_casesTogether 50 = .ok (.iadd, 1) := by decide +kernel
theorem dX0_casesTogether_51 : decode cX0_casesTogether 51 = .ok (.ireturn, 1) := by decide +kernel
theorem dX0_carryWays_0 : decode cX0_carryWays 0 = .ok (.iload_n 2, 1) := by decide +kernel
theorem dX0_carryWays_1 : decode cX0_carryWays 1 = .ok (.bipush 11, 2) := by decide +kernel
theorem dX0_carryWays_3 : decode cX0_carryWays 3 = .ok (.imul, 1) := by decide +kernel
theorem dX0_carryWays_4 : decode cX0_carryWays 4 = .ok (.istore 4, 2) := by decide +kernel
theorem dX0_carryWays_6 : decode cX0_carryWays 6 = .ok (.iload_n 2, 1) := by decide +kernel
theorem dX0_carryWays_7 : decode cX0_carryWays 7 = .ok (.invokestatic 62, 3) := by decide +kernel
theorem dX0_carryWays_10 : decode cX0_carryWays 10 = .ok (.bipush 11, 2) := by decide +kernel
theorem dX0_carryWays_12 : decode cX0_carryWays 12 = .ok (.imul, 1) := by decide +kernel
theorem dX0_carryWays_13 : decode cX0_carryWays 13 = .ok (.istore 5, 2) := by decide +kernel
theorem dX0_carryWays_15 : decode cX0_carryWays 15 = .ok (.iconst 0, 1) := by decide +kernel
theorem dX0_carryWays_16 : decode cX0_carryWays 16 = .ok (.istore 6, 2) := by decide +kernel
theorem dX0_carryWays_18 : decode cX0_carryWays 18 = .ok (.iload 6, 2) := by decide +kernel
theorem dX0_carryWays_20 : decode cX0_carryWays 20 = .ok (.iload_n 3, 1) := by decide +kernel
theorem dX0_carryWays_21 : decode cX0_carryWays 21 = .ok (.iadd, 1) := by decide +kernel
theorem dX0_carryWays_22 : decode cX0_carryWays 22 = .ok (.bipush 11, 2) := by decide +kernel
theorem dX0_carryWays_24 : decode cX0_carryWays 24 = .ok (.if_icmp .ge 73, 3) := by decide +kernel
theorem dX0_carryWays_27 : decode cX0_carryWays 27 = .ok (.aload_n 0, 1) := by decide +kernel
theorem dX0_carryWays_28 : decode cX0_carryWays 28 = .ok (.getfield 18, 3) := by decide +kernel
theorem dX0_carryWays_31 : decode cX0_carryWays 31 = .ok (.iload 4, 2) := by decide +kernel
theorem dX0_carryWays_33 : decode cX0_carryWays 33 = .ok (.iload 6, 2) := by decide +kernel
theorem dX0_carryWays_35 : decode cX0_carryWays 35 = .ok (.iadd, 1) := by decide +kernel
theorem dX0_carryWays_36 : decode cX0_carryWays 36 = .ok (.iaload, 1) := by decide +kernel
theorem dX0_carryWays_37 : decode cX0_carryWays 37 = .ok (.iconst 4, 1) := by decide +kernel
theorem dX0_carryWays_38 : decode cX0_carryWays 38 = .ok (.idiv, 1) := by decide +kernel
theorem dX0_carryWays_39 : decode cX0_carryWays 39 = .ok (.istore 7, 2) := by decide +kernel
theorem dX0_carryWays_41 : decode cX0_carryWays 41 = .ok (.aload_n 0, 1) := by decide +kernel
theorem dX0_carryWays_42 : decode cX0_carryWays 42 = .ok (.getfield 21, 3) := by decide +kernel
theorem dX0_carryWays_45 : decode cX0_carryWays 45 = .ok (.iload 4, 2) := by decide +kernel
theorem dX0_carryWays_47 : decode cX0_carryWays 47 = .ok (.iload 6, 2) := by decide +kernel
theorem dX0_carryWays_49 : decode cX0_carryWays 49 = .ok (.iadd, 1) := by decide +kernel
theorem dX0_carryWays_50 : decode cX0_carryWays 50 = .ok (.iload_n 3, 1) := by decide +kernel
theorem dX0_carryWays_51 : decode cX0_carryWays 51 = .ok (.iadd, 1) := by decide +kernel
theorem dX0_carryWays_52 : decode cX0_carryWays 52 = .ok (.dup2, 1) := by decide +kernel
theorem dX0_carryWays_53 : decode cX0_carryWays 53 = .ok (.iaload, 1) := by decide +kernel
theorem dX0_carryWays_54 : decode cX0_carryWays 54 = .ok (.iload 7, 2) := by decide +kernel
theorem dX0_carryWays_56 : decode cX0_carryWays 56 = .ok (.iconst 4, 1) := by decide +kernel
theorem dX0_carryWays_57 : decode cX0_carryWays 57 = .ok (.aload_n 0, 1) := by decide +kernel
theorem dX0_carryWays_58 : decode cX0_carryWays 58 = .ok (.getfield 9, 3) := by decide +kernel
theorem dX0_carryWays_61 : decode cX0_carryWays 61 = .ok (.iload_n 1, 1) := by decide +kernel
theorem dX0_carryWays_62 : decode cX0_carryWays 62 = .ok (.iaload, 1) := by decide +kernel
theorem dX0_carryWays_63 : decode cX0_carryWays 63 = .ok (.isub, 1) := by decide +kernel
theorem dX0_carryWays_64 : decode cX0_carryWays 64 = .ok (.imul, 1) := by decide +kernel
theorem dX0_carryWays_65 : decode cX0_carryWays 65 = .ok (.iadd, 1) := by decide +kernel
theorem dX0_carryWays_66 : decode cX0_carryWays 66 = .ok (.iastore, 1) := by decide +kernel
theorem dX0_carryWays_67 : decode cX0_carryWays 67 = .ok (.aload_n 0, 1) := by decide +kernel
theorem dX0_carryWays_68 : decode cX0_carryWays 68 = .ok (.getfield 21, 3) := by decide +kernel
theorem dX0_carryWays_71 : decode cX0_carryWays 71 = .ok (.iload 5, 2) := by decide +kernel
theorem dX0_carryWays_73 : decode cX0_carryWays 73 = .ok (.iload 6, 2) := by decide +kernel
theorem dX0_carryWays_75 : decode cX0_carryWays 75 = .ok (.iadd, 1) := by decide +kernel
theorem dX0_carryWays_76 : decode cX0_carryWays 76 = .ok (.iload_n 3, 1) := by decide +kernel
theorem dX0_carryWays_77 : decode cX0_carryWays 77 = .ok (.iadd, 1) := by decide +kernel
theorem dX0_carryWays_78 : decode cX0_carryWays 78 = .ok (.dup2, 1) := by decide +kernel
theorem dX0_carryWays_79 : decode cX0_carryWays 79 = .ok (.iaload, 1) := by decide +kernel
theorem dX0_carryWays_80 : decode cX0_carryWays 80 = .ok (.iload 7, 2) := by decide +kernel
theorem dX0_carryWays_82 : decode cX0_carryWays 82 = .ok (.aload_n 0, 1) := by decide +kernel
theorem dX0_carryWays_83 : decode cX0_carryWays 83 = .ok (.getfield 9, 3) := by decide +kernel
theorem dX0_carryWays_86 : decode cX0_carryWays 86 = .ok (.iload_n 1, 1) := by decide +kernel
theorem dX0_carryWays_87 : decode cX0_carryWays 87 = .ok (.iaload, 1) := by decide +kernel
theorem dX0_carryWays_88 : decode cX0_carryWays 88 = .ok (.imul, 1) := by decide +kernel
theorem dX0_carryWays_89 : decode cX0_carryWays 89 = .ok (.iadd, 1) := by decide +kernel
theorem dX0_carryWays_90 : decode cX0_carryWays 90 = .ok (.iastore, 1) := by decide +kernel
theorem dX0_carryWays_91 : decode cX0_carryWays 91 = .ok (.iinc 6 1, 3) := by decide +kernel
theorem dX0_carryWays_94 : decode cX0_carryWays 94 = .ok (.goto (-76), 3) := by decide +kernel
theorem dX0_carryWays_97 : decode cX0_carryWays 97 = .ok (.return_, 1) := by decide +kernel
theorem dX0_casesHolding_0 : decode cX0_casesHolding 0 = .ok (.aload_n 0, 1) := by decide +kernel
theorem dX0_casesHolding_1 : decode cX0_casesHolding 1 = .ok (.getfield 18, 3) := by decide +kernel
theorem dX0_casesHolding_4 : decode cX0_casesHolding 4 = .ok (.iconst 0, 1) := by decide +kernel
theorem dX0_casesHolding_5 : decode cX0_casesHolding 5 = .ok (.invokestatic 56, 3) := by decide +kernel
theorem dX0_casesHolding_8 : decode cX0_casesHolding 8 = .ok (.aload_n 0, 1) := by decide +kernel
theorem dX0_casesHolding_9 : decode cX0_casesHolding 9 = .ok (.getfield 18, 3) := by decide +kernel
theorem dX0_casesHolding_12 : decode cX0_casesHolding 12 = .ok (.iconst 0, 1) := by decide +kernel
theorem dX0_casesHolding_13 : decode cX0_casesHolding 13 = .ok (.aload_n 0, 1) := by decide +kernel
theorem dX0_casesHolding_14 : decode cX0_casesHolding 14 = .ok (.getfield 38, 3) := by decide +kernel
theorem dX0_casesHolding_17 : decode cX0_casesHolding 17 = .ok (.iastore, 1) := by decide +kernel
theorem dX0_casesHolding_18 : decode cX0_casesHolding 18 = .ok (.iconst 0, 1) := by decide +kernel
theorem dX0_casesHolding_19 : decode cX0_casesHolding 19 = .ok (.istore_n 3, 1) := by decide +kernel
theorem dX0_casesHolding_20 : decode cX0_casesHolding 20 = .ok (.iload_n 3, 1) := by decide +kernel
theorem dX0_casesHolding_21 : decode cX0_casesHolding 21 = .ok (.aload_n 0, 1) := by decide +kernel
theorem dX0_casesHolding_22 : decode cX0_casesHolding 22 = .ok (.getfield 24, 3) := by decide +kernel
theorem dX0_casesHolding_25 : decode cX0_casesHolding 25 = .ok (.getfield 32, 3) := by decide +kernel
theorem dX0_casesHolding_28 : decode cX0_casesHolding 28 = .ok (.if_icmp .ge 69, 3) := by decide +kernel
theorem dX0_casesHolding_31 : decode cX0_casesHolding 31 = .ok (.aload_n 0, 1) := by decide +kernel
theorem dX0_casesHolding_32 : decode cX0_casesHolding 32 = .ok (.getfield 21, 3) := by decide +kernel
theorem dX0_casesHolding_35 : decode cX0_casesHolding 35 = .ok (.iconst 0, 1) := by decide +kernel
theorem dX0_casesHolding_36 : decode cX0_casesHolding 36 = .ok (.invokestatic 56, 3) := by decide +kernel
theorem dX0_casesHolding_39 : decode cX0_casesHolding 39 = .ok (.iconst 0, 1) := by decide +kernel
theorem dX0_casesHolding_40 : decode cX0_casesHolding 40 = .ok (.istore 4, 2) := by decide +kernel
theorem dX0_casesHolding_42 : decode cX0_casesHolding 42 = .ok (.iload 4, 2) := by decide +kernel
theorem dX0_casesHolding_44 : decode cX0_casesHolding 44 = .ok (.bipush 8, 2) := by decide +kernel
theorem dX0_casesHolding_46 : decode cX0_casesHolding 46 = .ok (.if_icmp .ge 27, 3) := by decide +kernel
theorem dX0_casesHolding_49 : decode cX0_casesHolding 49 = .ok (.aload_n 0, 1) := by decide +kernel
theorem dX0_casesHolding_50 : decode cX0_casesHolding 50 = .ok (.iload_n 3, 1) := by decide +kernel
theorem dX0_casesHolding_51 : decode cX0_casesHolding 51 = .ok (.iload 4, 2) := by decide +kernel
theorem dX0_casesHolding_53 : decode cX0_casesHolding 53 = .ok (.iload 4, 2) := by decide +kernel
theorem dX0_casesHolding_55 : decode cX0_casesHolding 55 = .ok (.iload_n 1, 1) := by decide +kernel
theorem dX0_casesHolding_56 : decode cX0_casesHolding 56 = .ok (.if_icmp .ne 7, 3) := by decide +kernel
theorem dX0_casesHolding_59 : decode cX0_casesHolding 59 = .ok (.iconst 1, 1) := by decide +kernel
theorem dX0_casesHolding_60 : decode cX0_casesHolding 60 = .ok (.goto 4, 3) := by decide +kernel
theorem dX0_casesHolding_63 : decode cX0_casesHolding 63 = .ok (.iconst 0, 1) := by decide +kernel
theorem dX0_casesHolding_64 : decode cX0_casesHolding 64 = .ok (.invokevirtual 93, 3) := by decide +kernel
theorem dX0_casesHolding_67 : decode cX0_casesHolding 67 = .ok (.iinc 4 1, 3) := by decide +kernel
theorem dX0_casesHolding_70 : decode cX0_casesHolding 70 = .ok (.goto (-28), 3) := by decide +kernel
theorem dX0_casesHolding_73 : decode cX0_casesHolding 73 = .ok (.aload_n 0, 1) := by decide +kernel
theorem dX0_casesHolding_74 : decode cX0_casesHolding 74 = .ok (.getfield 21, 3) := by decide +kernel
theorem dX0_casesHolding_77 : decode cX0_casesHolding 77 = .ok (.iconst 0, 1) := by decide +kernel
theorem dX0_casesHolding_78 : decode cX0_casesHolding 78 = .ok (.aload_n 0, 1) := by decide +kernel
theorem dX0_casesHolding_79 : decode cX0_casesHolding 79 = .ok (.getfield 18, 3) := by decide +kernel
theorem dX0_casesHolding_82 : decode cX0_casesHolding 82 = .ok (.iconst 0, 1) := by decide +kernel
theorem dX0_casesHolding_83 : decode cX0_casesHolding 83 = .ok (.aload_n 0, 1) := by decide +kernel
theorem dX0_casesHolding_84 : decode cX0_casesHolding 84 = .ok (.getfield 18, 3) := by decide +kernel
theorem dX0_casesHolding_87 : decode cX0_casesHolding 87 = .ok (.arraylength, 1) := by decide +kernel
theorem dX0_casesHolding_88 : decode cX0_casesHolding 88 = .ok (.invokestatic 97, 3) := by decide +kernel
theorem dX0_casesHolding_91 : decode cX0_casesHolding 91 = .ok (.iinc 3 1, 3) := by decide +kernel
theorem dX0_casesHolding_94 : decode cX0_casesHolding 94 = .ok (.goto (-74), 3) := by decide +kernel
theorem dX0_casesHolding_97 : decode cX0_casesHolding 97 = .ok (.iconst 0, 1) := by decide +kernel
theorem dX0_casesHolding_98 : decode cX0_casesHolding 98 = .ok (.istore_n 3, 1) := by decide +kernel
theorem dX0_casesHolding_99 : decode cX0_casesHolding 99 = .ok (.iconst 0, 1) := by decide +kernel
theorem dX0_casesHolding_100 : decode cX0_casesHolding 100 = .ok (.istore 4, 2) := by decide +kernel
theorem dX0_casesHolding_102 : decode cX0_casesHolding 102 = .ok (.iload 4, 2) := by decide +kernel
theorem dX0_casesHolding_104 : decode cX0_casesHolding 104 = .ok (.bipush 8, 2) := by decide +kernel
theorem dX0_casesHolding_106 : decode cX0_casesHolding 106 = .ok (.if_icmp .ge 24, 3) := by decide +kernel
theorem dX0_casesHolding_109 : decode cX0_casesHolding 109 = .ok (.iload_n 3, 1) := by decide +kernel
theorem dX0_casesHolding_110 : decode cX0_casesHolding 110 = .ok (.aload_n 0, 1) := by decide +kernel
theorem dX0_casesHolding_111 : decode cX0_casesHolding 111 = .ok (.getfield 18, 3) := by decide +kernel
theorem dX0_casesHolding_114 : decode cX0_casesHolding 114 = .ok (.iload 4, 2) := by decide +kernel
theorem dX0_casesHolding_116 : decode cX0_casesHolding 116 = .ok (.bipush 11, 2) := by decide +kernel
theorem dX0_casesHolding_118 : decode cX0_casesHolding 118 = .ok (.imul, 1) := by decide +kernel
theorem dX0_casesHolding_119 : decode cX0_casesHolding 119 = .ok (.iload_n 2, 1) := by decide +kernel
theorem dX0_casesHolding_120 : decode cX0_casesHolding 120 = .ok (.iadd, 1) := by decide +kernel
theorem dX0_casesHolding_121 : decode cX0_casesHolding 121 = .ok (.iaload, 1) := by decide +kernel
theorem dX0_casesHolding_122 : decode cX0_casesHolding 122 = .ok (.iadd, 1) := by decide +kernel
theorem dX0_casesHolding_123 : decode cX0_casesHolding 123 = .ok (.istore_n 3, 1) := by decide +kernel
theorem dX0_casesHolding_124 : decode cX0_casesHolding 124 = .ok (.iinc 4 1, 3) := by decide +kernel
theorem dX0_casesHolding_127 : decode cX0_casesHolding 127 = .ok (.goto (-25), 3) := by decide +kernel
theorem dX0_casesHolding_130 : decode cX0_casesHolding 130 = .ok (.iload_n 3, 1) := by decide +kernel
theorem dX0_casesHolding_131 : decode cX0_casesHolding 131 = .ok (.ireturn, 1) := by decide +kernel
theorem dX4_stir_0 : decode cX4_stir 0 = .ok (.iload_n 0, 1) := by decide +kernel
theorem dX4_stir_1 : decode cX4_stir 1 = .ok (.iload_n 1, 1) := by decide +kernel
theorem dX4_stir_2 : decode cX4_stir 2 = .ok (.ixor, 1) := by decide +kernel
theorem dX4_stir_3 : decode cX4_stir 3 = .ok (.ldc 73, 2) := by decide +kernel
theorem dX4_stir_5 : decode cX4_stir 5 = .ok (.imul, 1) := by decide +kernel
theorem dX4_stir_6 : decode cX4_stir 6 = .ok (.sipush 12345, 3) := by decide +kernel
theorem dX4_stir_9 : decode cX4_stir 9 = .ok (.iadd, 1) := by decide +kernel
theorem dX4_stir_10 : decode cX4_stir 10 = .ok (.istore_n 2, 1) := by decide +kernel
theorem dX4_stir_11 : decode cX4_stir 11 = .ok (.iload_n 2, 1) := by decide +kernel
theorem dX4_stir_12 : decode cX4_stir 12 = .ok (.iload_n 2, 1) := by decide +kernel
theorem dX4_stir_13 : decode cX4_stir 13 = .ok (.bipush 15, 2) := by decide +kernel
theorem dX4_stir_15 : decode cX4_stir 15 = .ok (.iushr, 1) := by decide +kernel
theorem dX4_stir_16 : decode cX4_stir 16 = .ok (.ixor, 1) := by decide +kernel
theorem dX4_stir_17 : decode cX4_stir 17 = .ok (.ireturn, 1) := by decide +kernel
theorem dX4_lotOfFour_0 : decode cX4_lotOfFour 0 = .ok (.iload_n 0, 1) := by decide +kernel
theorem dX4_lotOfFour_1 : decode cX4_lotOfFour 1 = .ok (.sipush 167, 3) := by decide +kernel
theorem dX4_lotOfFour_4 : decode cX4_lotOfFour 4 = .ok (.invokestatic 70, 3) := by decide +kernel
theorem dX4_lotOfFour_7 : decode cX4_lotOfFour 7 = .ok (.iload_n 1, 1) := by decide +kernel
theorem dX4_lotOfFour_8 : decode cX4_lotOfFour 8 = .ok (.invokestatic 70, 3) := by decide +kernel
theorem dX4_lotOfFour_11 : decode cX4_lotOfFour 11 = .ok (.iconst 1, 1) := by decide +kernel
theorem dX4_lotOfFour_12 : decode cX4_lotOfFour 12 = .ok (.iushr, 1) := by decide +kernel
theorem dX4_lotOfFour_13 : decode cX4_lotOfFour 13 = .ok (.iconst 4, 1) := by decide +kernel
theorem dX4_lotOfFour_14 : decode cX4_lotOfFour 14 = .ok (.irem, 1) := by decide +kernel
theorem dX4_lotOfFour_15 : decode cX4_lotOfFour 15 = .ok (.ireturn, 1) := by decide +kernel
theorem dX4_coughsBehind_0 : decode cX4_coughsBehind 0 = .ok (.bipush 16, 2) := by decide +kernel
theorem dX4_coughsBehind_2 : decode cX4_coughsBehind 2 = .ok (.aload_n 1, 1) := by decide +kernel
theorem dX4_coughsBehind_3 : decode cX4_coughsBehind 3 = .ok (.getfield 17, 3) := by decide +kernel
theorem dX4_coughsBehind_6 : decode cX4_coughsBehind 6 = .ok (.bipush 30, 2) := by decide +kernel
theorem dX4_coughsBehind_8 : decode cX4_coughsBehind 8 = .ok (.iaload, 1) := by decide +kernel
theorem dX4_coughsBehind_9 : decode cX4_coughsBehind 9 = .ok (.imul, 1) := by decide +kernel
theorem dX4_coughsBehind_10 : decode cX4_coughsBehind 10 = .ok (.iload_n 2, 1) := by decide +kernel
theorem dX4_coughsBehind_11 : decode cX4_coughsBehind 11 = .ok (.iadd, 1) := by decide +kernel
theorem dX4_coughsBehind_12 : decode cX4_coughsBehind 12 = .ok (.istore 4, 2) := by decide +kernel
theorem dX4_coughsBehind_14 : decode cX4_coughsBehind 14 = .ok (.iload_n 3, 1) := by decide +kernel
theorem dX4_coughsBehind_15 : decode cX4_coughsBehind 15 = .ok (.iload 4, 2) := by decide +kernel
theorem dX4_coughsBehind_17 : decode cX4_coughsBehind 17 = .ok (.invokestatic 23, 3) := by decide +kernel
theorem dX4_coughsBehind_20 : decode cX4_coughsBehind 20 = .ok (.aload_n 0, 1) := by decide +kernel
theorem dX4_coughsBehind_21 : decode cX4_coughsBehind 21 = .ok (.getfield 13, 3) := by decide +kernel
theorem dX4_coughsBehind_24 : decode cX4_coughsBehind 24 = .ok (.aload_n 1, 1) := by decide +kernel
theorem dX4_coughsBehind_25 : decode cX4_coughsBehind 25 = .ok (.iload_n 2, 1) := by decide +kernel
theorem dX4_coughsBehind_26 : decode cX4_coughsBehind 26 = .ok (.invokevirtual 27, 3) := by decide +kernel
theorem dX4_coughsBehind_29 : decode cX4_coughsBehind 29 = .ok (.if_icmp .ge 7, 3) := by decide +kernel
theorem dX4_coughsBehind_32 : decode cX4_coughsBehind 32 = .ok (.iconst 1, 1) := by decide +kernel
theorem dX4_coughsBehind_33 : decode cX4_coughsBehind 33 = .ok (.goto 4, 3) := by decide +kernel
theorem dX4_coughsBehind_36 : decode cX4_coughsBehind 36 = .ok (.iconst 0, 1) := by decide +kernel
theorem dX4_coughsBehind_37 : decode cX4_coughsBehind 37 = .ok (.ireturn, 1) := by decide +kernel
theorem dX4_payWorth_0 : decode cX4_payWorth 0 = .ok (.aload_n 1, 1) := by decide +kernel
theorem dX4_payWorth_1 : decode cX4_payWorth 1 = .ok (.iload_n 3, 1) := by decide +kernel
theorem dX4_payWorth_2 : decode cX4_payWorth 2 = .ok (.invokevirtual 63, 3) := by decide +kernel
theorem dX4_payWorth_5 : decode cX4_payWorth 5 = .ok (.istore 4, 2) := by decide +kernel
theorem dX4_payWorth_7 : decode cX4_payWorth 7 = .ok (.iload 4, 2) := by decide +kernel
theorem dX4_payWorth_9 : decode cX4_payWorth 9 = .ok (.ifCond .lt 28, 3) := by decide +kernel
theorem dX4_payWorth_12 : decode cX4_payWorth 12 = .ok (.aload_n 1, 1) := by decide +kernel
theorem dX4_payWorth_13 : decode cX4_payWorth 13 = .ok (.getfield 17, 3) := by decide +kernel
theorem dX4_payWorth_16 : decode cX4_payWorth 16 = .ok (.bipush 18, 2) := by decide +kernel
theorem dX4_payWorth_18 : decode cX4_payWorth 18 = .ok (.iload 4, 2) := by decide +kernel
theorem dX4_payWorth_20 : decode cX4_payWorth 20 = .ok (.iadd, 1) := by decide +kernel
theorem dX4_payWorth_21 : decode cX4_payWorth 21 = .ok (.dup2, 1) := by decide +kernel
theorem dX4_payWorth_22 : decode cX4_payWorth 22 = .ok (.iaload, 1) := by decide +kernel
theorem dX4_payWorth_23 : decode cX4_payWorth 23 = .ok (.aload_n 0, 1) := by decide +kernel
theorem dX4_payWorth_24 : decode cX4_payWorth 24 = .ok (.getfield 13, 3) := by decide +kernel
theorem dX4_payWorth_27 : decode cX4_payWorth 27 = .ok (.aload_n 1, 1) := by decide +kernel
theorem dX4_payWorth_28 : decode cX4_payWorth 28 = .ok (.iload 4, 2) := by decide +kernel
theorem dX4_payWorth_30 : decode cX4_payWorth 30 = .ok (.iload_n 2, 1) := by decide +kernel
theorem dX4_payWorth_31 : decode cX4_payWorth 31 = .ok (.iload_n 3, 1) := by decide +kernel
theorem dX4_payWorth_32 : decode cX4_payWorth 32 = .ok (.invokevirtual 66, 3) := by decide +kernel
theorem dX4_payWorth_35 : decode cX4_payWorth 35 = .ok (.iadd, 1) := by decide +kernel
theorem dX4_payWorth_36 : decode cX4_payWorth 36 = .ok (.iastore, 1) := by decide +kernel
theorem dX4_payWorth_37 : decode cX4_payWorth 37 = .ok (.return_, 1) := by decide +kernel
theorem dX4_preachWeek_0 : decode cX4_preachWeek 0 = .ok (.iconst 0, 1) := by decide +kernel
theorem dX4_preachWeek_1 : decode cX4_preachWeek 1 = .ok (.istore_n 3, 1) := by decide +kernel
theorem dX4_preachWeek_2 : decode cX4_preachWeek 2 = .ok (.iconst 0, 1) := by decide +kernel
theorem dX4_preachWeek_3 : decode cX4_preachWeek 3 = .ok (.istore 4, 2) := by decide +kernel
theorem dX4_preachWeek_5 : decode cX4_preachWeek 5 = .ok (.iconst 0, 1) := by decide +kernel
theorem dX4_preachWeek_6 : decode cX4_preachWeek 6 = .ok (.istore 5, 2) := by decide +kernel
theorem dX4_preachWeek_8 : decode cX4_preachWeek 8 = .ok (.iconst 0, 1) := by decide +kernel
theorem dX4_preachWeek_9 : decode cX4_preachWeek 9 = .ok (.istore 6, 2) := by decide +kernel
theorem dX4_preachWeek_11 : decode cX4_preachWeek 11 = .ok (.iload 6, 2) := by decide +kernel
theorem dX4_preachWeek_13 : decode cX4_preachWeek 13 = .ok (.aload_n 0, 1) := by decide +kernel
theorem dX4_preachWeek_14 : decode cX4_preachWeek 14 = .ok (.getfield 7, 3) := by decide +kernel
theorem dX4_preachWeek_17 : decode cX4_preachWeek 17 = .ok (.getfield 37, 3) := by decide +kernel
theorem dX4_preachWeek_20 : decode cX4_preachWeek 20 = .ok (.if_icmp .ge 49, 3) := by decide +kernel
theorem dX4_preachWeek_23 : decode cX4_preachWeek 23 = .ok (.iload 4, 2) := by decide +kernel
theorem dX4_preachWeek_25 : decode cX4_preachWeek 25 = .ok (.iconst 1, 1) := by decide +kernel
theorem dX4_preachWeek_26 : decode cX4_preachWeek 26 = .ok (.iadd, 1) := by decide +kernel
theorem dX4_preachWeek_27 : decode cX4_preachWeek 27 = .ok (.istore 5, 2) := by decide +kernel
theorem dX4_preachWeek_29 : decode cX4_preachWeek 29 = .ok (.aload_n 0, 1) := by decide +kernel
theorem dX4_preachWeek_30 : decode cX4_preachWeek 30 = .ok (.aload_n 1, 1) := by decide +kernel
theorem dX4_preachWeek_31 : decode cX4_preachWeek 31 = .ok (.iload 6, 2) := by decide +kernel
theorem dX4_preachWeek_33 : decode cX4_preachWeek 33 = .ok (.iload 4, 2) := by decide +kernel
theorem dX4_preachWeek_35 : decode cX4_preachWeek 35 = .ok (.invokevirtual 43, 3) := by decide +kernel
theorem dX4_preachWeek_38 : decode cX4_preachWeek 38 = .ok (.aload_n 0, 1) := by decide +kernel
theorem dX4_preachWeek_39 : decode cX4_preachWeek 39 = .ok (.aload_n 1, 1) := by decide +kernel
theorem dX4_preachWeek_40 : decode cX4_preachWeek 40 = .ok (.iload 6, 2) := by decide +kernel
theorem dX4_preachWeek_42 : decode cX4_preachWeek 42 = .ok (.iload_n 2, 1) := by decide +kernel
theorem dX4_preachWeek_43 : decode cX4_preachWeek 43 = .ok (.invokevirtual 47, 3) := by decide +kernel
theorem dX4_preachWeek_46 : decode cX4_preachWeek 46 = .ok (.ifCond .eq 17, 3) := by decide +kernel
theorem dX4_preachWeek_49 : decode cX4_preachWeek 49 = .ok (.iload_n 3, 1) := by decide +kernel
theorem dX4_preachWeek_50 : decode cX4_preachWeek 50 = .ok (.iconst 1, 1) := by decide +kernel
theorem dX4_preachWeek_51 : decode cX4_preachWeek 51 = .ok (.iload 6, 2) := by decide +kernel
theorem dX4_preachWeek_53 : decode cX4_preachWeek 53 = .ok (.ishl, 1) := by decide +kernel
theorem dX4_preachWeek_54 : decode cX4_preachWeek 54 = .ok (.ior, 1) := by decide +kernel
theorem dX4_preachWeek_55 : decode cX4_preachWeek 55 = .ok (.istore_n 3, 1) := by decide +kernel
theorem dX4_preachWeek_56 : decode cX4_preachWeek 56 = .ok (.iload 4, 2) := by decide +kernel
theorem dX4_preachWeek_58 : decode cX4_preachWeek 58 = .ok (.invokestatic 51, 3) := by decide +kernel
theorem dX4_preachWeek_61 : decode cX4_preachWeek 61 = .ok (.istore 4, 2) := by decide +kernel
theorem dX4_preachWeek_63 : decode cX4_preachWeek 63 = .ok (.iinc 6 1, 3) := by decide +kernel
theorem dX4_preachWeek_66 : decode cX4_preachWeek 66 = .ok (.goto (-55), 3) := by decide +kernel
theorem dX4_preachWeek_69 : decode cX4_preachWeek 69 = .ok (.iconst 0, 1) := by decide +kernel
theorem dX4_preachWeek_70 : decode cX4_preachWeek 70 = .ok (.istore 6, 2) := by decide +kernel
theorem dX4_preachWeek_72 : decode cX4_preachWeek 72 = .ok (.iload 6, 2) := by decide +kernel
theorem dX4_preachWeek_74 : decode cX4_preachWeek 74 = .ok (.aload_n 0, 1) := by decide +kernel
theorem dX4_preachWeek_75 : decode cX4_preachWeek 75 = .ok (.getfield 7, 3) := by decide +kernel
theorem dX4_preachWeek_78 : decode cX4_preachWeek 78 = .ok (.getfield 57, 3) := by decide +kernel
theorem dX4_preachWeek_81 : decode cX4_preachWeek 81 = .ok (.if_icmp .ge 32, 3) := by decide +kernel
theorem dX4_preachWeek_84 : decode cX4_preachWeek 84 = .ok (.aload_n 1, 1) := by decide +kernel
theorem dX4_preachWeek_85 : decode cX4_preachWeek 85 = .ok (.getfield 17, 3) := by decide +kernel
theorem dX4_preachWeek_88 : decode cX4_preachWeek 88 = .ok (.bipush 23, 2) := by decide +kernel
theorem dX4_preachWeek_90 : decode cX4_preachWeek 90 = .ok (.iload 6, 2) := by decide +kernel
theorem dX4_preachWeek_92 : decode cX4_preachWeek 92 = .ok (.iadd, 1) := by decide +kernel
theorem dX4_preachWeek_93 : decode cX4_preachWeek 93 = .ok (.dup2, 1) := by decide +kernel
theorem dX4_preachWeek_94 : decode cX4_preachWeek 94 = .ok (.iaload, 1) := by decide +kernel
theorem dX4_preachWeek_95 : decode cX4_preachWeek 95 = .ok (.aload_n 0, 1) := by decide +kernel
theorem dX4_preachWeek_96 : decode cX4_preachWeek 96 = .ok (.getfield 13, 3) := by decide +kernel
theorem dX4_preachWeek_99 : decode cX4_preachWeek 99 = .ok (.aload_n 1, 1) := by decide +kernel
theorem dX4_preachWeek_100 : decode cX4_preachWeek 100 = .ok (.iload 6, 2) := by decide +kernel
theorem dX4_preachWeek_102 : decode cX4_preachWeek 102 = .ok (.invokevirtual 60, 3) := by decide +kernel
theorem dX4_preachWeek_105 : decode cX4_preachWeek 105 = .ok (.iadd, 1) := by decide +kernel
theorem dX4_preachWeek_106 : decode cX4_preachWeek 106 = .ok (.iastore, 1) := by decide +kernel
theorem dX4_preachWeek_107 : decode cX4_preachWeek 107 = .ok (.iinc 6 1, 3) := by decide +kernel
theorem dX4_preachWeek_110 : decode cX4_preachWeek 110 = .ok (.goto (-38), 3) := by decide +kernel
theorem dX4_preachWeek_113 : decode cX4_preachWeek 113 = .ok (.aload_n 1, 1) := by decide +kernel
theorem dX4_preachWeek_114 : decode cX4_preachWeek 114 = .ok (.getfield 17, 3) := by decide +kernel
theorem dX4_preachWeek_117 : decode cX4_preachWeek 117 = .ok (.bipush 31, 2) := by decide +kernel
theorem dX4_preachWeek_119 : decode cX4_preachWeek 119 = .ok (.iload_n 3, 1) := by decide +kernel
theorem dX4_preachWeek_120 : decode cX4_preachWeek 120 = .ok (.iastore, 1) := by decide +kernel
theorem dX4_preachWeek_121 : decode cX4_preachWeek 121 = .ok (.aload_n 1, 1) := by decide +kernel
theorem dX4_preachWeek_122 : decode cX4_preachWeek 122 = .ok (.getfield 17, 3) := by decide +kernel
theorem dX4_preachWeek_125 : decode cX4_preachWeek 125 = .ok (.bipush 32, 2) := by decide +kernel
theorem dX4_preachWeek_127 : decode cX4_preachWeek 127 = .ok (.iload 5, 2) := by decide +kernel
theorem dX4_preachWeek_129 : decode cX4_preachWeek 129 = .ok (.iastore, 1) := by decide +kernel
theorem dX4_preachWeek_130 : decode cX4_preachWeek 130 = .ok (.aload_n 1, 1) := by decide +kernel
theorem dX4_preachWeek_131 : decode cX4_preachWeek 131 = .ok (.getfield 17, 3) := by decide +kernel
theorem dX4_preachWeek_134 : decode cX4_preachWeek 134 = .ok (.bipush 30, 2) := by decide +kernel
theorem dX4_preachWeek_136 : decode cX4_preachWeek 136 = .ok (.dup2, 1) := by decide +kernel
theorem dX4_preachWeek_137 : decode cX4_preachWeek 137 = .ok (.iaload, 1) := by decide +kernel
theorem dX4_preachWeek_138 : decode cX4_preachWeek 138 = .ok (.iconst 1, 1) := by decide +kernel
theorem dX4_preachWeek_139 : decode cX4_preachWeek 139 = .ok (.iadd, 1) := by decide +kernel
theorem dX4_preachWeek_140 : decode cX4_preachWeek 140 = .ok (.iastore, 1) := by decide +kernel
theorem dX4_preachWeek_141 : decode cX4_preachWeek 141 = .ok (.return_, 1) := by decide +kernel
theorem dX4_preachWeeks_0 : decode cX4_preachWeeks 0 = .ok (.iconst 0, 1) := by decide +kernel
theorem dX4_preachWeeks_1 : decode cX4_preachWeeks 1 = .ok (.istore 4, 2) := by decide +kernel
theorem dX4_preachWeeks_3 : decode cX4_preachWeeks 3 = .ok (.iload 4, 2) := by decide +kernel
theorem dX4_preachWeeks_5 : decode cX4_preachWeeks 5 = .ok (.iload_n 2, 1) := by decide +kernel
theorem dX4_preachWeeks_6 : decode cX4_preachWeeks 6 = .ok (.if_icmp .ge 15, 3) := by decide +kernel
theorem dX4_preachWeeks_9 : decode cX4_preachWeeks 9 = .ok (.aload_n 0, 1) := by decide +kernel
theorem dX4_preachWeeks_10 : decode cX4_preachWeeks 10 = .ok (.aload_n 1, 1) := by decide +kernel
theorem dX4_preachWeeks_11 : decode cX4_preachWeeks 11 = .ok (.iload_n 3, 1) := by decide +kernel
theorem dX4_preachWeeks_12 : decode cX4_preachWeeks 12 = .ok (.invokevirtual 33, 3) := by decide +kernel
theorem dX4_preachWeeks_15 : decode cX4_preachWeeks 15 = .ok (.iinc 4 1, 3) := by decide +kernel
theorem dX4_preachWeeks_18 : decode cX4_preachWeeks 18 = .ok (.goto (-15), 3) := by decide +kernel
theorem dX4_preachWeeks_21 : decode cX4_preachWeeks 21 = .ok (.return_, 1) := by decide +kernel
theorem dX1_partsOn_0 : decode cX1_partsOn 0 = .ok (.iconst 0, 1) := by decide +kernel
theorem dX1_partsOn_1 : decode cX1_partsOn 1 = .ok (.istore 4, 2) := by decide +kernel
theorem dX1_partsOn_3 : decode cX1_partsOn 3 = .ok (.iconst 0, 1) := by decide +kernel
theorem dX1_partsOn_4 : decode cX1_partsOn 4 = .ok (.istore 5, 2) := by decide +kernel
theorem dX1_partsOn_6 : decode cX1_partsOn 6 = .ok (.iload 5, 2) := by decide +kernel
theorem dX1_partsOn_8 : decode cX1_partsOn 8 = .ok (.aload_n 0, 1) := by decide +kernel
theorem dX1_partsOn_9 : decode cX1_partsOn 9 = .ok (.getfield 15, 3) := by decide +kernel
theorem dX1_partsOn_12 : decode cX1_partsOn 12 = .ok (.getfield 46, 3) := by decide +kernel
theorem dX1_partsOn_15 : decode cX1_partsOn 15 = .ok (.if_icmp .ge 32, 3) := by decide +kernel
theorem dX1_partsOn_18 : decode cX1_partsOn 18 = .ok (.aload_n 1, 1) := by decide +kernel
theorem dX1_partsOn_19 : decode cX1_partsOn 19 = .ok (.iload 5, 2) := by decide +kernel
theorem dX1_partsOn_21 : decode cX1_partsOn 21 = .ok (.invokevirtual 51, 3) := by decide +kernel
theorem dX1_partsOn_24 : decode cX1_partsOn 24 = .ok (.iload_n 2, 1) := by decide +kernel
theorem dX1_partsOn_25 : decode cX1_partsOn 25 = .ok (.if_icmp .ne 16, 3) := by decide +kernel
theorem dX1_partsOn_28 : decode cX1_partsOn 28 = .ok (.iload 4, 2) := by decide +kernel
theorem dX1_partsOn_30 : decode cX1_partsOn 30 = .ok (.iconst 1, 1) := by decide +kernel
theorem dX1_partsOn_31 : decode cX1_partsOn 31 = .ok (.iload_n 3, 1) := by decide +kernel
theorem dX1_partsOn_32 : decode cX1_partsOn 32 = .ok (.iload 5, 2) := by decide +kernel
theorem dX1_partsOn_34 : decode cX1_partsOn 34 = .ok (.invokestatic 56, 3) := by decide +kernel
theorem dX1_partsOn_37 : decode cX1_partsOn 37 = .ok (.ishl, 1) := by decide +kernel
theorem dX1_partsOn_38 : decode cX1_partsOn 38 = .ok (.ior, 1) := by decide +kernel
theorem dX1_partsOn_39 : decode cX1_partsOn 39 = .ok (.istore 4, 2) := by decide +kernel
theorem dX1_partsOn_41 : decode cX1_partsOn 41 = .ok (.iinc 5 1, 3) := by decide +kernel
theorem dX1_partsOn_44 : decode cX1_partsOn 44 = .ok (.goto (-38), 3) := by decide +kernel
theorem dX1_partsOn_47 : decode cX1_partsOn 47 = .ok (.iload 4, 2) := by decide +kernel
theorem dX1_partsOn_49 : decode cX1_partsOn 49 = .ok (.ireturn, 1) := by decide +kernel
theorem dX1_look_0 : decode cX1_look 0 = .ok (.iconst 0, 1) := by decide +kernel
theorem dX1_look_1 : decode cX1_look 1 = .ok (.istore_n 3, 1) := by decide +kernel
theorem dX1_look_2 : decode cX1_look 2 = .ok (.iload_n 3, 1) := by decide +kernel
theorem dX1_look_3 : decode cX1_look 3 = .ok (.aload_n 0, 1) := by decide +kernel
theorem dX1_look_4 : decode cX1_look 4 = .ok (.getfield 9, 3) := by decide +kernel
theorem dX1_look_7 : decode cX1_look 7 = .ok (.arraylength, 1) := by decide +kernel
theorem dX1_look_8 : decode cX1_look 8 = .ok (.if_icmp .ge 16, 3) := by decide +kernel
theorem dX1_look_11 : decode cX1_look 11 = .ok (.aload_n 0, 1) := by decide +kernel
theorem dX1_look_12 : decode cX1_look 12 = .ok (.getfield 9, 3) := by decide +kernel
theorem dX1_look_15 : decode cX1_look 15 = .ok (.iload_n 3, 1) := by decide +kernel
theorem dX1_look_16 : decode cX1_look 16 = .ok (.iconst 0, 1) := by decide +kernel
theorem dX1_look_17 : decode cX1_look 17 = .ok (.bastore, 1) := by decide +kernel
theorem dX1_look_18 : decode cX1_look 18 = .ok (.iinc 3 1, 3) := by decide +kernel
theorem dX1_look_21 : decode cX1_look 21 = .ok (.goto (-19), 3) := by decide +kernel
theorem dX1_look_24 : decode cX1_look 24 = .ok (.aload_n 0, 1) := by decide +kernel
theorem dX1_look_25 : decode cX1_look 25 = .ok (.getfield 19, 3) := by decide +kernel
theorem dX1_look_28 : decode cX1_look 28 = .ok (.aload_n 1, 1) := by decide +kernel
theorem dX1_look_29 : decode cX1_look 29 = .ok (.invokevirtual 23, 3) := by decide +kernel
theorem dX1_look_32 : decode cX1_look 32 = .ok (.aload_n 0, 1) := by decide +kernel
theorem dX1_look_33 : decode cX1_look 33 = .ok (.getfield 19, 3) := by decide +kernel
theorem dX1_look_36 : decode cX1_look 36 = .ok (.getfield 29, 3) := by decide +kernel
theorem dX1_look_39 : decode cX1_look 39 = .ok (.istore_n 3, 1) := by decide +kernel
theorem dX1_look_40 : decode cX1_look 40 = .ok (.iconst 0, 1) := by decide +kernel
theorem dX1_look_41 : decode cX1_look 41 = .ok (.istore 4, 2) := by decide +kernel
theorem dX1_look_43 : decode cX1_look 43 = .ok (.iconst 0, 1) := by decide +kernel
theorem dX1_look_44 : decode cX1_look 44 = .ok (.istore 5, 2) := by decide +kernel
theorem dX1_look_46 : decode cX1_look 46 = .ok (.iload 5, 2) := by decide +kernel
theorem dX1_look_48 : decode cX1_look 48 = .ok (.iconst 1, 1) := by decide +kernel
theorem dX1_look_49 : decode cX1_look 49 = .ok (.iload_n 3, 1) := by decide +kernel
theorem dX1_look_50 : decode cX1_look 50 = .ok (.invokestatic 33, 3) := by decide +kernel
theorem dX1_look_53 : decode cX1_look 53 = .ok (.ishl, 1) := by decide +kernel
theorem dX1_look_54 : decode cX1_look 54 = .ok (.if_icmp .ge 39, 3) := by decide +kernel
theorem dX1_look_57 : decode cX1_look 57 = .ok (.aload_n 0, 1) := by decide +kernel
theorem dX1_look_58 : decode cX1_look 58 = .ok (.getfield 9, 3) := by decide +kernel
theorem dX1_look_61 : decode cX1_look 61 = .ok (.aload_n 0, 1) := by decide +kernel
theorem dX1_look_62 : decode cX1_look 62 = .ok (.aload_n 1, 1) := by decide +kernel
theorem dX1_look_63 : decode cX1_look 63 = .ok (.iload_n 2, 1) := by decide +kernel
theorem dX1_look_64 : decode cX1_look 64 = .ok (.aload_n 0, 1) := by decide +kernel
theorem dX1_look_65 : decode cX1_look 65 = .ok (.getfield 19, 3) := by decide +kernel
theorem dX1_look_68 : decode cX1_look 68 = .ok (.getfield 39, 3) := by decide +kernel
theorem dX1_look_71 : decode cX1_look 71 = .ok (.iload 4, 2) := by decide +kernel
theorem dX1_look_73 : decode cX1_look 73 = .ok (.ior, 1) := by decide +kernel
theorem dX1_look_74 : decode cX1_look 74 = .ok (.invokevirtual 42, 3) := by decide +kernel
theorem dX1_look_77 : decode cX1_look 77 = .ok (.iconst 1, 1) := by decide +kernel
theorem dX1_look_78 : decode cX1_look 78 = .ok (.bastore, 1) := by decide +kernel
theorem dX1_look_79 : decode cX1_look 79 = .ok (.iload 4, 2) := by decide +kernel
theorem dX1_look_81 : decode cX1_look 81 = .ok (.iload_n 3, 1) := by decide +kernel
theorem dX1_look_82 : decode cX1_look 82 = .ok (.isub, 1) := by decide +kernel
theorem dX1_look_83 : decode cX1_look 83 = .ok (.iload_n 3, 1) := by decide +kernel
theorem dX1_look_84 : decode cX1_look 84 = .ok (.iand, 1) := by decide +kernel
theorem dX1_look_85 : decode cX1_look 85 = .ok (.istore 4, 2) := by decide +kernel
theorem dX1_look_87 : decode cX1_look 87 = .ok (.iinc 5 1, 3) := by decide +kernel
theorem dX1_look_90 : decode cX1_look 90 = .ok (.goto (-44), 3) := by decide +kernel
theorem dX1_look_93 : decode cX1_look 93 = .ok (.return_, 1) := by decide +kernel
theorem dX1_isMetBy_0 : decode cX1_isMetBy 0 = .ok (.iconst 0, 1) := by decide +kernel
theorem dX1_isMetBy_1 : decode cX1_isMetBy 1 = .ok (.istore_n 2, 1) := by decide +kernel
theorem dX1_isMetBy_2 : decode cX1_isMetBy 2 = .ok (.iload_n 2, 1) := by decide +kernel
theorem dX1_isMetBy_3 : decode cX1_isMetBy 3 = .ok (.aload_n 0, 1) := by decide +kernel
theorem dX1_isMetBy_4 : decode cX1_isMetBy 4 = .ok (.getfield 9, 3) := by decide +kernel
theorem dX1_isMetBy_7 : decode cX1_isMetBy 7 = .ok (.arraylength, 1) := by decide +kernel
theorem dX1_isMetBy_8 : decode cX1_isMetBy 8 = .ok (.if_icmp .ge 26, 3) := by decide +kernel
theorem dX1_isMetBy_11 : decode cX1_isMetBy 11 = .ok (.aload_n 0, 1) := by decide +kernel
theorem dX1_isMetBy_12 : decode cX1_isMetBy 12 = .ok (.getfield 9, 3) := by decide +kernel
theorem dX1_isMetBy_15 : decode cX1_isMetBy 15 = .ok (.iload_n 2, 1) := by decide +kernel
theorem dX1_isMetBy_16 : decode cX1_isMetBy 16 = .ok (.baload, 1) := by decide +kernel
theorem dX1_isMetBy_17 : decode cX1_isMetBy 17 = .ok (.ifCond .eq 11, 3) := by decide +kernel
theorem dX1_isMetBy_20 : decode cX1_isMetBy 20 = .ok (.iload_n 2, 1) := by decide +kernel
theorem dX1_isMetBy_21 : decode cX1_isMetBy 21 = .ok (.iload_n 1, 1) := by decide +kernel
theorem dX1_isMetBy_22 : decode cX1_isMetBy 22 = .ok (.iand, 1) := by decide +kernel
theorem dX1_isMetBy_23 : decode cX1_isMetBy 23 = .ok (.ifCond .ne 5, 3) := by decide +kernel
theorem dX1_isMetBy_26 : decode cX1_isMetBy 26 = .ok (.iconst 0, 1) := by decide +kernel
theorem dX1_isMetBy_27 : decode cX1_isMetBy 27 = .ok (.ireturn, 1) := by decide +kernel
theorem dX1_isMetBy_28 : decode cX1_isMetBy 28 = .ok (.iinc 2 1, 3) := by decide +kernel
theorem dX1_isMetBy_31 : decode cX1_isMetBy 31 = .ok (.goto (-29), 3) := by decide +kernel
theorem dX1_isMetBy_34 : decode cX1_isMetBy 34 = .ok (.iconst 1, 1) := by decide +kernel
theorem dX1_isMetBy_35 : decode cX1_isMetBy 35 = .ok (.ireturn, 1) := by decide +kernel
theorem dX1_fewestParts_0 : decode cX1_fewestParts 0 = .ok (.sipush 255, 3) := by decide +kernel
theorem dX1_fewestParts_3 : decode cX1_fewestParts 3 = .ok (.istore_n 1, 1) := by decide +kernel
theorem dX1_fewestParts_4 : decode cX1_fewestParts 4 = .ok (.iconst 0, 1) := by decide +kernel
theorem dX1_fewestParts_5 : decode cX1_fewestParts 5 = .ok (.istore_n 2, 1) := by decide +kernel
theorem dX1_fewestParts_6 : decode cX1_fewestParts 6 = .ok (.iload_n 2, 1) := by decide +kernel
theorem dX1_fewestParts_7 : decode cX1_fewestParts 7 = .ok (.aload_n 0, 1) := by decide +kernel
theorem dX1_fewestParts_8 : decode cX1_fewestParts 8 = .ok (.getfield 9, 3) := by decide +kernel
theorem dX1_fewestParts_11 : decode cX1_fewestParts 11 = .ok (.arraylength, 1) := by decide +kernel
theorem dX1_fewestParts_12 : decode cX1_fewestParts 12 = .ok (.if_icmp .ge 30, 3) := by decide +kernel
theorem dX1_fewestParts_15 : decode cX1_fewestParts 15 = .ok (.iload_n 2, 1) := by decide +kernel
theorem dX1_fewestParts_16 : decode cX1_fewestParts 16 = .ok (.invokestatic 33, 3) := by decide +kernel
theorem dX1_fewestParts_19 : decode cX1_fewestParts 19 = .ok (.iload_n 1, 1) := by decide +kernel
theorem dX1_fewestParts_20 : decode cX1_fewestParts 20 = .ok (.invokestatic 33, 3) := by decide +kernel
theorem dX1_fewestParts_23 : decode cX1_fewestParts 23 = .ok (.if_icmp .ge 13, 3) := by decide +kernel
theorem dX1_fewestParts_26 : decode cX1_fewestParts 26 = .ok (.aload_n 0, 1) := by decide +kernel
theorem dX1_fewestParts_27 : decode cX1_fewestParts 27 = .ok (.iload_n 2, 1) := by decide +kernel
theorem dX1_fewestParts_28 : decode cX1_fewestParts 28 = .ok (.invokevirtual 60, 3) := by decide +kernel
theorem dX1_fewestParts_31 : decode cX1_fewestParts 31 = .ok (.ifCond .eq 5, 3) := by decide +kernel
theorem dX1_fewestParts_34 : decode cX1_fewestParts 34 = .ok (.iload_n 2, 1) := by decide +kernel
theorem dX1_fewestParts_35 : decode cX1_fewestParts 35 = .ok (.istore_n 1, 1) := by decide +kernel
theorem dX1_fewestParts_36 : decode cX1_fewestParts 36 = .ok (.iinc 2 1, 3) := by decide +kernel
theorem dX1_fewestParts_39 : decode cX1_fewestParts 39 = .ok (.goto (-33), 3) := by decide +kernel
theorem dX1_fewestParts_42 : decode cX1_fewestParts 42 = .ok (.iload_n 1, 1) := by decide +kernel
theorem dX1_fewestParts_43 : decode cX1_fewestParts 43 = .ok (.ireturn, 1) := by decide +kernel
theorem fl_X0_9 : fl RX0 9 0 2 := ⟨RX0, TX0, 9, rfl, iw_X0, by decide, lg_at 287 (by decide +kernel) (by decide +kernel), rfl⟩
theorem fl_X0_15 : fl RX0 15 0 3 := ⟨RX0, TX0, 9, rfl, iw_X0, by decide, lg_at 288 (by decide +kernel) (by decide +kernel), rfl⟩
theorem fl_X0_18 : fl RX0 18 0 4 := ⟨RX0, TX0, 9, rfl, iw_X0, by decide, lg_at 289 (by decide +kernel) (by decide +kernel), rfl⟩
theorem fl_X0_21 : fl RX0 21 0 5 := ⟨RX0, TX0, 9, rfl, iw_X0, by decide, lg_at 290 (by decide +kernel) (by decide +kernel), rfl⟩
theorem fl_X0_24 : fl RX0 24 0 0 := ⟨RX0, TX0, 9, rfl, iw_X0, by decide, lg_at 285 (by decide +kernel) (by decide +kernel), rfl⟩
theorem fl_X0_28 : fl RX0 28 0 1 := ⟨RX0, TX0, 9, rfl, iw_X0, by decide, lg_at 286 (by decide +kernel) (by decide +kernel), rfl⟩
theorem fl_X0_32 : fl RX0 32 9 0 := ⟨RX9, TX9, 13, rfl, iw_X9, by decide, lg_at 79 (by decide +kernel) (by decide +kernel), rfl⟩
theorem fl_X0_38 : fl RX0 38 0 6 := ⟨RX0, TX0, 9, rfl, iw_X0, by decide, lg_at 291 (by decide +kernel) (by decide +kernel), rfl⟩
theorem fl_X0_41 : fl RX0 41 0 7 := ⟨RX0, TX0, 9, rfl, iw_X0, by decide, lg_at 292 (by decide +kernel) (by decide +kernel), rfl⟩
theorem fl_X0_44 : fl RX0 44 0 8 := ⟨RX0, TX0, 9, rfl, iw_X0, by decide, lg_at 296 (by decide +kernel) (by decide +kernel), rfl⟩
theorem fl_X1_9 : fl RX1 9 1 2 := ⟨RX1, TX1, 3, rfl, iw_X1, by decide, lg_at 339 (by decide +kernel) (by decide +kernel), rfl⟩
theorem fl_X1_15 : fl RX1 15 1 0 := ⟨RX1, TX1, 3, rfl, iw_X1, by decide, lg_at 337 (by decide +kernel) (by decide +kernel), rfl⟩
theorem fl_X1_19 : fl RX1 19 1 1 := ⟨RX1, TX1, 3, rfl, iw_X1, by decide, lg_at 338 (by decide +kernel) (by decide +kernel), rfl⟩
theorem fl_X1_29 : fl RX1 29 0 8 := ⟨RX0, TX0, 9, rfl, iw_X0, by decide, lg_at 297 (by decide +kernel) (by decide +kernel), rfl⟩
theorem fl_X1_39 : fl RX1 39 0 7 := ⟨RX0, TX0, 9, rfl, iw_X0, by decide, lg_at 293 (by decide +kernel) (by decide +kernel), rfl⟩
theorem fl_X1_46 : fl RX1 46 9 0 := ⟨RX9, TX9, 13, rfl, iw_X9, by decide, lg_at 80 (by decide +kernel) (by decide +kernel), rfl⟩
theorem fl_X4_7 : fl RX4 7 4 0 := ⟨RX4, TX4, 2, rfl, iw_X4, by decide, lg_at 324 (by decide +kernel) (by decide +kernel), rfl⟩
theorem fl_X4_13 : fl RX4 13 4 1 := ⟨RX4, TX4, 2, rfl, iw_X4, by decide, lg_at 325 (by decide +kernel) (by decide +kernel), rfl⟩
theorem fl_X4_17 : fl RX4 17 7 0 := ⟨RX7, TX7, 1, rfl, iw_X7, by decide, lg_at 233 (by decide +kernel) (by decide +kernel), rfl⟩
theorem fl_X4_37 : fl RX4 37 9 0 := ⟨RX9, TX9, 13, rfl, iw_X9, by decide, lg_at 83 (by decide +kernel) (by decide +kernel), rfl⟩
theorem fl_X4_57 : fl RX4 57 9 1 := ⟨RX9, TX9, 13, rfl, iw_X9, by decide, lg_at 86 (by decide +kernel) (by decide +kernel), rfl⟩
theorem fp_X0_38 : fp RX0 38 0 6 .int := ⟨RX0, TX0, 9, tyX0, rfl, iw_X0, by decide, lg_at 291 (by decide +kernel) (by decide +kernel), rfl, tyX0_ok, nmX0, rfl, by decide +kernel⟩
theorem fp_X0_41 : fp RX0 41 0 7 .int := ⟨RX0, TX0, 9, tyX0, rfl, iw_X0, by decide, lg_at 292 (by decide +kernel) (by decide +kernel), rfl, tyX0_ok, nmX0, rfl, by decide +kernel⟩
theorem fp_X0_44 : fp RX0 44 0 8 .int := ⟨RX0, TX0, 9, tyX0, rfl, iw_X0, by decide, lg_at 296 (by decide +kernel) (by decide +kernel), rfl, tyX0_ok, nmX0, rfl, by decide +kernel⟩
theorem cV_X0_47 : cV RX0 47 yX2_quartersOf cX2_quartersOf 3 (some .int) 2 := ⟨⟨lg_at 878 (by decide +kernel) (by decide +kernel), lg_at 727 (by decide +kernel) (by decide +kernel), lg_at 728 (by decide +kernel) (by decide +kernel), lg_at 9 (by decide +kernel) (by decide +kernel), lg_at 729 (by decide +kernel) (by decide +kernel)⟩, by decide +kernel, by decide +kernel, by decide +kernel⟩
theorem cV_X0_53 : cV RX0 53 yX0_weighFalls cX0_weighFalls 6 none 0 := ⟨⟨lg_at 879 (by decide +kernel) (by decide +kernel), lg_at 881 (by decide +kernel) (by decide +kernel), lg_sel 29 (by decide +kernel) (by decide +kernel), lg_at 10 (by decide +kernel) (by decide +kernel), lg_at 882 (by decide +kernel) (by decide +kernel)⟩, by decide +kernel, by decide +kernel, by decide +kernel⟩
theorem cV_X0_77 : cV RX0 77 yX0_casesIn cX0_casesIn 3 (some .int) 2 := ⟨⟨lg_at 889 (by decide +kernel) (by decide +kernel), lg_at 890 (by decide +kernel) (by decide +kernel), lg_at 891 (by decide +kernel) (by decide +kernel), lg_at 10 (by decide +kernel) (by decide +kernel), lg_at 892 (by decide +kernel) (by decide +kernel)⟩, by decide +kernel, by decide +kernel, by decide +kernel⟩
theorem cV_X0_80 : cV RX0 80 yX2_worthTo cX2_worthTo 5 (some .int) 4 := ⟨⟨lg_at 906 (by decide +kernel) (by decide +kernel), lg_at 802 (by decide +kernel) (by decide +kernel), lg_at 803 (by decide +kernel) (by decide +kernel), lg_at 9 (by decide +kernel) (by decide +kernel), lg_at 804 (by decide +kernel) (by decide +kernel)⟩, by decide +kernel, by decide +kernel, by decide +kernel⟩
theorem cV_X0_84 : cV RX0 84 yX7_partsOf cX7_partsOf 4 (some .int) 1 := ⟨⟨lg_at 1040 (by decide +kernel) (by decide +kernel), lg_at 761 (by decide +kernel) (by decide +kernel), lg_at 762 (by decide +kernel) (by decide +kernel), lg_at 7 (by decide +kernel) (by decide +kernel), lg_at 763 (by decide +kernel) (by decide +kernel)⟩, by decide +kernel, by decide +kernel, by decide +kernel⟩
theorem cV_X0_89 : cV RX0 89 yX0_valueOf cX0_valueOf 8 (some .int) 3 := ⟨⟨lg_at 1041 (by decide +kernel) (by decide +kernel), lg_at 903 (by decide +kernel) (by decide +kernel), lg_at 904 (by decide +kernel) (by decide +kernel), lg_at 10 (by decide +kernel) (by decide +kernel), lg_at 905 (by decide +kernel) (by decide +kernel)⟩, by decide +kernel, by decide +kernel, by decide +kernel⟩
theorem cV_X0_93 : cV RX0 93 yX0_carryWays cX0_carryWays 8 none 3 := ⟨⟨lg_at 941 (by decide +kernel) (by decide +kernel), lg_at 943 (by decide +kernel) (by decide +kernel), lg_sel 31 (by decide +kernel) (by decide +kernel), lg_at 10 (by decide +kernel) (by decide +kernel), lg_at 944 (by decide +kernel) (by decide +kernel)⟩, by decide +kernel, by decide +kernel, by decide +kernel⟩
theorem cV_X1_23 : cV RX1 23 yX0_weigh cX0_weigh 3 none 1 := ⟨⟨lg_at 973 (by decide +kernel) (by decide +kernel), lg_at 875 (by decide +kernel) (by decide +kernel), lg_at 876 (by decide +kernel) (by decide +kernel), lg_at 10 (by decide +kernel) (by decide +kernel), lg_at 877 (by decide +kernel) (by decide +kernel)⟩, by decide +kernel, by decide +kernel, by decide +kernel⟩
theorem cV_X1_42 : cV RX1 42 yX1_partsOn cX1_partsOn 6 (some .int) 3 := ⟨⟨lg_at 975 (by decide +kernel) (by decide +kernel), lg_at 977 (by decide +kernel) (by decide +kernel), lg_sel 33 (by decide +kernel) (by decide +kernel), lg_at 12 (by decide +kernel) (by decide +kernel), lg_at 978 (by decide +kernel) (by decide +kernel)⟩, by decide +kernel, by decide +kernel, by decide +kernel⟩
theorem cV_X1_51 : cV RX1 51 yX7_matterOf cX7_matterOf 2 (some .int) 1 := ⟨⟨lg_at 979 (by decide +kernel) (by decide +kernel), lg_at 723 (by decide +kernel) (by decide +kernel), lg_at 724 (by decide +kernel) (by decide +kernel), lg_at 7 (by decide +kernel) (by decide +kernel), lg_at 725 (by decide +kernel) (by decide +kernel)⟩, by decide +kernel, by decide +kernel, by decide +kernel⟩
theorem cV_X1_60 : cV RX1 60 yX1_isMetBy cX1_isMetBy 3 (some .boolean) 1 := ⟨⟨lg_at 1001 (by decide +kernel) (by decide +kernel), lg_at 986 (by decide +kernel) (by decide +kernel), lg_at 987 (by decide +kernel) (by decide +kernel), lg_at 12 (by decide +kernel) (by decide +kernel), lg_at 988 (by decide +kernel) (by decide +kernel)⟩, by decide +kernel, by decide +kernel, by decide +kernel⟩
theorem cV_X4_27 : cV RX4 27 yX2_quartersOf cX2_quartersOf 3 (some .int) 2 := ⟨⟨lg_at 751 (by decide +kernel) (by decide +kernel), lg_at 727 (by decide +kernel) (by decide +kernel), lg_at 728 (by decide +kernel) (by decide +kernel), lg_at 9 (by decide +kernel) (by decide +kernel), lg_at 729 (by decide +kernel) (by decide +kernel)⟩, by decide +kernel, by decide +kernel, by decide +kernel⟩
theorem cV_X4_33 : cV RX4 33 yX4_preachWeek cX4_preachWeek 7 none 2 := ⟨⟨lg_at 847 (by decide +kernel) (by decide +kernel), lg_at 849 (by decide +kernel) (by decide +kernel), lg_sel 27 (by decide +kernel) (by decide +kernel), lg_at 11 (by decide +kernel) (by decide +kernel), lg_at 850 (by decide +kernel) (by decide +kernel)⟩, by decide +kernel, by decide +kernel, by decide +kernel⟩
theorem cV_X4_43 : cV RX4 43 yX4_payWorth cX4_payWorth 5 none 3 := ⟨⟨lg_at 851 (by decide +kernel) (by decide +kernel), lg_at 853 (by decide +kernel) (by decide +kernel), lg_sel 28 (by decide +kernel) (by decide +kernel), lg_at 11 (by decide +kernel) (by decide +kernel), lg_at 854 (by decide +kernel) (by decide +kernel)⟩, by decide +kernel, by decide +kernel, by decide +kernel⟩
theorem cV_X4_47 : cV RX4 47 yX4_coughsBehind cX4_coughsBehind 5 (some .boolean) 3 := ⟨⟨lg_at 857 (by decide +kernel) (by decide +kernel), lg_at 741 (by decide +kernel) (by decide +kernel), lg_at 742 (by decide +kernel) (by decide +kernel), lg_at 11 (by decide +kernel) (by decide +kernel), lg_at 743 (by decide +kernel) (by decide +kernel)⟩, by decide +kernel, by decide +kernel, by decide +kernel⟩
theorem cV_X4_60 : cV RX4 60 yX2_rentOf cX2_rentOf 3 (some .int) 2 := ⟨⟨lg_at 861 (by decide +kernel) (by decide +kernel), lg_at 777 (by decide +kernel) (by decide +kernel), lg_at 778 (by decide +kernel) (by decide +kernel), lg_at 9 (by decide +kernel) (by decide +kernel), lg_at 779 (by decide +kernel) (by decide +kernel)⟩, by decide +kernel, by decide +kernel, by decide +kernel⟩
theorem cV_X4_63 : cV RX4 63 yX7_ownerOf cX7_ownerOf 2 (some .int) 1 := ⟨⟨lg_at 855 (by decide +kernel) (by decide +kernel), lg_at 765 (by decide +kernel) (by decide +kernel), lg_at 766 (by decide +kernel) (by decide +kernel), lg_at 7 (by decide +kernel) (by decide +kernel), lg_at 767 (by decide +kernel) (by decide +kernel)⟩, by decide +kernel, by decide +kernel, by decide +kernel⟩
theorem cV_X4_66 : cV RX4 66 yX2_worthTo cX2_worthTo 5 (some .int) 4 := ⟨⟨lg_at 856 (by decide +kernel) (by decide +kernel), lg_at 802 (by decide +kernel) (by decide +kernel), lg_at 803 (by decide +kernel) (by decide +kernel), lg_at 9 (by decide +kernel) (by decide +kernel), lg_at 804 (by decide +kernel) (by decide +kernel)⟩, by decide +kernel, by decide +kernel, by decide +kernel⟩
theorem cS_X0_56 : cS RX0 56 yJ7_fill_53178 cJ7_fill_53178 4 none 2 := ⟨⟨lg_at 883 (by decide +kernel) (by decide +kernel), lg_at 64 (by decide +kernel) (by decide +kernel), lg_at 5 (by decide +kernel) (by decide +kernel), lg_at 65 (by decide +kernel) (by decide +kernel)⟩, by decide +kernel, by decide +kernel, by decide +kernel⟩
theorem cS_X0_62 : cS RX0 62 yX0_partBehind cX0_partBehind 1 (some .int) 1 := ⟨⟨lg_at 884 (by decide +kernel) (by decide +kernel), lg_at 859 (by decide +kernel) (by decide +kernel), lg_at 10 (by decide +kernel) (by decide +kernel), lg_at 860 (by decide +kernel) (by decide +kernel)⟩, by decide +kernel, by decide +kernel, by decide +kernel⟩
theorem cS_X0_66 : cS RX0 66 yJ6_bitCount_0f7a4 cJ6_bitCount_0f7a4 1 (some .int) 1 := ⟨⟨lg_at 983 (by decide +kernel) (by decide +kernel), lg_at 782 (by decide +kernel) (by decide +kernel), lg_at 22 (by decide +kernel) (by decide +kernel), lg_at 783 (by decide +kernel) (by decide +kernel)⟩, by decide +kernel, by decide +kernel, by decide +kernel⟩
theorem cS_X1_33 : cS RX1 33 yJ6_bitCount_0f7a4 cJ6_bitCount_0f7a4 1 (some .int) 1 := ⟨⟨lg_at 974 (by decide +kernel) (by decide +kernel), lg_at 782 (by decide +kernel) (by decide +kernel), lg_at 22 (by decide +kernel) (by decide +kernel), lg_at 783 (by decide +kernel) (by decide +kernel)⟩, by decide +kernel, by decide +kernel, by decide +kernel⟩
theorem cS_X1_56 : cS RX1 56 yX0_partIn cX0_partIn 2 (some .int) 2 := ⟨⟨lg_at 980 (by decide +kernel) (by decide +kernel), lg_at 981 (by decide +kernel) (by decide +kernel), lg_at 10 (by decide +kernel) (by decide +kernel), lg_at 982 (by decide +kernel) (by decide +kernel)⟩, by decide +kernel, by decide +kernel, by decide +kernel⟩
theorem cS_X4_23 : cS RX4 23 yX4_lotOfFour cX4_lotOfFour 2 (some .int) 2 := ⟨⟨lg_at 744 (by decide +kernel) (by decide +kernel), lg_at 745 (by decide +kernel) (by decide +kernel), lg_at 11 (by decide +kernel) (by decide +kernel), lg_at 746 (by decide +kernel) (by decide +kernel)⟩, by decide +kernel, by decide +kernel, by decide +kernel⟩
theorem cS_X4_51 : cS RX4 51 yX0_partBehind cX0_partBehind 1 (some .int) 1 := ⟨⟨lg_at 858 (by decide +kernel) (by decide +kernel), lg_at 859 (by decide +kernel) (by decide +kernel), lg_at 10 (by decide +kernel) (by decide +kernel), lg_at 860 (by decide +kernel) (by decide +kernel)⟩, by decide +kernel, by decide +kernel, by decide +kernel⟩
theorem cS_X4_70 : cS RX4 70 yX4_stir cX4_stir 3 (some .int) 2 := ⟨⟨lg_at 747 (by decide +kernel) (by decide +kernel), lg_at 748 (by decide +kernel) (by decide +kernel), lg_at 11 (by decide +kernel) (by decide +kernel), lg_at 749 (by decide +kernel) (by decide +kernel)⟩, by decide +kernel, by decide +kernel, by decide +kernel⟩
theorem mmin_X0_71 : mMin RX0 71 := ⟨lg_at 984 (by decide +kernel) (by decide +kernel), lg_at 572 (by decide +kernel) (by decide +kernel), lg_at 20 (by decide +kernel) (by decide +kernel), lg_at 573 (by decide +kernel) (by decide +kernel)⟩
theorem kc_X4_73 : Cond.constant RX4 73 (1103515245) ∈ lg_tbl := lg_at 750 (by decide +kernel) (by decide +kernel)
theorem kcp_X0_97 : Cond.methodLink RX0 97 arraycopyName ∈ lg_tbl := lg_at 945 (by decide +kernel) (by decide +kernel)
section
variable {p : Program} {l : Launch} {e : Env} {s : State} {m : MethodId} {args : Array Value} {below : List Frame} {meth : Method} {c : Code} {D : va_G} {ad : Nat → Nat} {κ : KC}
-- X0_partBehind
def FX0_partBehind (x0 : Int32) (σ : HS) : Option (Int32 × HS) :=
  if (7 : Int32) ≤ x0 then some ((7 : Int32), σ) else some ((x0 + (1 : Int32)), σ)
set_option maxHeartbeats 4000000 in
set_option maxRecDepth 100000 in
theorem kX0_partBehind (l : Launch) (D : va_G) (ad : Nat → Nat) (κ : KC) {x0 : Int32} {σ : HS} {R : (Int32 × HS)} (h : FX0_partBehind x0 σ = some R) : MtI l 50 ceX D ad κ yX0_partBehind cX0_partBehind 1 (some .int) ({ frames := 0, cells := 0, slots := 0, locals := 0 } : Room) [.int x0] σ R := by
  refine open_ (by decide) (Nat.le_of_ble_eq_true rfl) (la := [(0, .int x0)]) rfl ?_
  intro p e s m below meth c ls C hH hl
  replace C : Cx 50 D ad κ p s m _ meth c cX0_partBehind RX0 1 (some .int) := C
  have hx := C.1
  have hb := C.2.1
  have hown := C.2.2.2.1
  have hts := C.2.2.2.2.1
  rw [FX0_partBehind] at h
  refine lv_iload_n hx hb dX0_partBehind_0 rfl (lv_at hl 0 rfl) ?_
  refine lv_bipush (v := 7) hx hb dX0_partBehind_1 (by decide) ?_
  refine lv_icmp_ge (tgt := 12) hx hb dX0_partBehind_3 (by decide) (fun hq_1 => ?_) (fun hq_1 => ?_)
  · rw [if_pos hq_1] at h
    refine lv_bipush (v := 7) hx hb dX0_partBehind_12 (by decide) ?_
    exact g_ret C hH h dX0_partBehind_14
  · rw [if_neg hq_1] at h
    refine lv_iload_n hx hb dX0_partBehind_6 rfl (lv_at hl 0 rfl) ?_
    refine lv_iconst (v := 1) hx hb dX0_partBehind_7 (by decide) ?_
    refine lv_iadd hx hb dX0_partBehind_8 ?_
    refine lv_goto (tgt := 14) hx hb dX0_partBehind_9 (by decide) ?_
    exact g_ret C hH h dX0_partBehind_14
-- X0_weighFalls
def FX0_weighFalls_46 (k20 : Int32 → HS → Option HS) : Nat → Int32 → Int32 → Int32 → Int32 → HS → Option HS
  | 0, _, _, _, _, _ => none
  | f + 1, x1, x2, x3, x4, σ => if (8 : Int32) ≤ x4 then k20 (x1 + 1) σ else gd (ix (x2 + x4) 80) (hl_ ((σ.1 42 ((x2 + x4).toNatClampNeg)) / (4 : Int32)) fun x5_3 => gd (ix (x3 + x4) 80) (gd (ix x1 10) (gd (ix (x3 + x4) 80) (hl_ (pI σ 42 ((x3 + x4).toNatClampNeg) ((σ.1 42 ((x3 + x4).toNatClampNeg)) + (x5_3 * ((4 : Int32) - (σ.1 41 (x1.toNatClampNeg)))))) fun σ_7 => bdI (FX0_partBehind x4 σ_7) fun r_8 σ_9 => gd (ix (x3 + r_8) 80) (gd (ix x1 10) (gd (ix (x3 + r_8) 80) (hl_ (pI σ_9 42 ((x3 + r_8).toNatClampNeg) ((σ_9.1 42 ((x3 + r_8).toNatClampNeg)) + (x5_3 * (σ_9.1 41 (x1.toNatClampNeg))))) fun σ_14 => FX0_weighFalls_46 k20 f x1 x2 x3 (x4 + 1) σ_14)))))))
def FX0_weighFalls_20  : Nat → Int32 → HS → Option HS
  | 0, _, _ => none
  | f + 1, x1, σ => if (σ.1 3 0) ≤ (x1 + (1 : Int32)) then some σ else hl_ (x1 * (8 : Int32)) fun x2_16 => hl_ (x2_16 + (8 : Int32)) fun x3_17 => FX0_weighFalls_46 (FX0_weighFalls_20  f) fu x1 x2_16 x3_17 (0 : Int32) σ
def FX0_weighFalls (σ : HS) : Option HS :=
  bdV (FJ7_fill_53178 42 80 (0 : Int32) σ) fun σ_18 => hl_ (pI σ_18 42 0 (σ_18.1 8 6)) fun σ_20 => FX0_weighFalls_20 fu (0 : Int32) σ_20
set_option maxHeartbeats 4000000 in
set_option maxRecDepth 100000 in
theorem wX0_weighFalls_46 (C : Cx 50 D ad κ p s m args meth c cX0_weighFalls RX0 6 none) {R : HS} {k20 : Int32 → HS → Option HS} (K20 : ∀ (x1 : Int32) (σ : HS) (H : Heap) (locs : List Loc) (ls : Array Slot), k20 x1 σ = some R → Hd 50 ceX D ad κ s σ H locs → lv_has ls 6 [(0, .ref (ad 8)), (1, .int x1)] → W p l e ({ frames := 1, cells := 0, slots := 0, locals := 23 } : Room) s m args below meth c H locs 0 0 (MQ below (QV 50 ceX D ad κ R) args s 0 0 (AX 50 ad)) (F0 m 20 ls [])) : ∀ (f : Nat) (x1 : Int32) (x2 : Int32) (x3 : Int32) (x4 : Int32) (σ : HS) (H : Heap) (locs : List Loc) (ls : Array Slot), FX0_weighFalls_46 k20 f x1 x2 x3 x4 σ = some R → Hd 50 ceX D ad κ s σ H locs → lv_has ls 6 [(0, .ref (ad 8)), (1, .int x1), (2, .int x2), (3, .int x3), (4, .int x4)] → W p l e ({ frames := 1, cells := 0, slots := 0, locals := 23 } : Room) s m args below meth c H locs 0 0 (MQ below (QV 50 ceX D ad κ R) args s 0 0 (AX 50 ad)) (F0 m 46 ls []) := by
  have hx := C.1
  have hb := C.2.1
  have hown := C.2.2.2.1
  have hts := C.2.2.2.2.1
  intro f
  induction f with
  | zero =>
    intro x1 x2 x3 x4 σ H locs ls h hH hl
    cases h
  | succ f ih =>
    intro x1 x2 x3 x4 σ H locs ls h hH hl
    rw [FX0_weighFalls_46] at h
    refine lv_iload hx hb dX0_weighFalls_46 (lv_at hl 4 rfl) ?_
    refine lv_bipush (v := 8) hx hb dX0_weighFalls_48 (by decide) ?_
    refine lv_icmp_ge (tgt := 119) hx hb dX0_weighFalls_50 (by decide) (fun hq_1 => ?_) (fun hq_1 => ?_)
    · rw [if_pos hq_1] at h
      refine lv_iinc (v := (x1 + 1)) (lv' := [(1, .int (x1 + 1)), (0, .ref (ad 8)), (2, .int x2), (3, .int x3), (4, .int x4)]) hx hb dX0_weighFalls_119 hl (k := 1) rfl rfl (by decide) rfl (fun ls hl => ?_)
      refine lv_goto (tgt := 20) hx hb dX0_weighFalls_122 (by decide) ?_
      exact K20 _ _ _ _ _ h hH (lv_sub hl [1, 0] rfl)
    · rw [if_neg hq_1] at h
      refine lv_aload_n hx hb dX0_weighFalls_53 rfl (lv_at hl 0 rfl) ?_
      refine g_get C hH 8 (Nat.le_of_ble_eq_true rfl) rfl fl_X0_15 (v := .ref (ad 42)) rfl dX0_weighFalls_54 ?_
      refine lv_iload_n hx hb dX0_weighFalls_57 rfl (lv_at hl 2 rfl) ?_
      refine lv_iload hx hb dX0_weighFalls_58 (lv_at hl 4 rfl) ?_
      refine lv_iadd hx hb dX0_weighFalls_60 ?_
      obtain ⟨hi_2, h⟩ := gd_ex h
      refine g_iald C hH 42 (Nat.le_of_ble_eq_true rfl) rfl (k := ((x2 + x4).toNatClampNeg)) rfl (ix_in hi_2) dX0_weighFalls_61 ?_
      refine lv_iconst (v := 4) hx hb dX0_weighFalls_62 (by decide) ?_
      refine lv_idiv hx hb dX0_weighFalls_63 (by decide) ?_
      obtain ⟨x5_3, ex5_3, h⟩ := hl_ex h
      refine lv_eqi ex5_3 ?_
      refine lv_istore (lv' := [(5, .int x5_3), (0, .ref (ad 8)), (1, .int x1), (2, .int x2), (3, .int x3), (4, .int x4)]) hx hb dX0_weighFalls_64 hl (by decide) rfl (fun ls hl => ?_)
      refine lv_aload_n hx hb dX0_weighFalls_66 rfl (lv_at hl 1 rfl) ?_
      refine g_get C hH 8 (Nat.le_of_ble_eq_true rfl) rfl fl_X0_15 (v := .ref (ad 42)) rfl dX0_weighFalls_67 ?_
      refine lv_iload_n hx hb dX0_weighFalls_70 rfl (lv_at hl 4 rfl) ?_
      refine lv_iload hx hb dX0_weighFalls_71 (lv_at hl 5 rfl) ?_
      refine lv_iadd hx hb dX0_weighFalls_73 ?_
      refine lv_dup2_11 hx hb dX0_weighFalls_74 rfl rfl ?_
      obtain ⟨hi_4, h⟩ := gd_ex h
      refine g_iald C hH 42 (Nat.le_of_ble_eq_true rfl) rfl (k := ((x3 + x4).toNatClampNeg)) rfl (ix_in hi_4) dX0_weighFalls_75 ?_
      refine lv_iload hx hb dX0_weighFalls_76 (lv_at hl 0 rfl) ?_
      refine lv_iconst (v := 4) hx hb dX0_weighFalls_78 (by decide) ?_
      refine lv_aload_n hx hb dX0_weighFalls_79 rfl (lv_at hl 1 rfl) ?_
      refine g_get C hH 8 (Nat.le_of_ble_eq_true rfl) rfl fl_X0_9 (v := .ref (ad 41)) rfl dX0_weighFalls_80 ?_
      refine lv_iload_n hx hb dX0_weighFalls_83 rfl (lv_at hl 2 rfl) ?_
      obtain ⟨hi_5, h⟩ := gd_ex h
      refine g_iald C hH 41 (Nat.le_of_ble_eq_true rfl) rfl (k := (x1.toNatClampNeg)) rfl (ix_in hi_5) dX0_weighFalls_84 ?_
      refine lv_isub hx hb dX0_weighFalls_85 ?_
      refine lv_imul hx hb dX0_weighFalls_86 ?_
      refine lv_iadd hx hb dX0_weighFalls_87 ?_
      obtain ⟨hi_6, h⟩ := gd_ex h
      obtain ⟨σ_7, eσ_7, h⟩ := hl_ex h
      refine g_iast C hH 42 (Nat.le_of_ble_eq_true rfl) (fun _ _ => rfl) (k := ((x3 + x4).toNatClampNeg)) rfl (ix_in hi_6) dX0_weighFalls_88 (fun H locs hH => ?_)
      rw [← eσ_7] at hH
      refine lv_aload_n hx hb dX0_weighFalls_89 rfl (lv_at hl 1 rfl) ?_
      refine g_get C hH 8 (Nat.le_of_ble_eq_true rfl) rfl fl_X0_15 (v := .ref (ad 42)) rfl dX0_weighFalls_90 ?_
      refine lv_iload_n hx hb dX0_weighFalls_93 rfl (lv_at hl 4 rfl) ?_
      refine lv_iload hx hb dX0_weighFalls_94 (lv_at hl 5 rfl) ?_
      obtain ⟨r_8, σ_9, hc_10, h⟩ := bdI_ex h
      refine g_ci (g_runS (rest := [.int x3, .ref (ad 42)]) C hH hl.1 cS_X0_62 (kX0_partBehind l D ad κ hc_10) ⟨rfl, rfl⟩ ⟨(Nat.le_of_ble_eq_true rfl), (Nat.le_of_ble_eq_true rfl)⟩ rfl rfl (Nat.le_of_ble_eq_true rfl) dX0_weighFalls_96 z00) hH (fun H locs hH => ?_)
      refine lv_iadd hx hb dX0_weighFalls_99 ?_
      refine lv_dup2_11 hx hb dX0_weighFalls_100 rfl rfl ?_
      obtain ⟨hi_11, h⟩ := gd_ex h
      refine g_iald C hH 42 (Nat.le_of_ble_eq_true rfl) rfl (k := ((x3 + r_8).toNatClampNeg)) rfl (ix_in hi_11) dX0_weighFalls_101 ?_
      refine lv_iload hx hb dX0_weighFalls_102 (lv_at hl 0 rfl) ?_
      refine lv_aload_n hx hb dX0_weighFalls_104 rfl (lv_at hl 1 rfl) ?_
      refine g_get C hH 8 (Nat.le_of_ble_eq_true rfl) rfl fl_X0_9 (v := .ref (ad 41)) rfl dX0_weighFalls_105 ?_
      refine lv_iload_n hx hb dX0_weighFalls_108 rfl (lv_at hl 2 rfl) ?_
      obtain ⟨hi_12, h⟩ := gd_ex h
      refine g_iald C hH 41 (Nat.le_of_ble_eq_true rfl) rfl (k := (x1.toNatClampNeg)) rfl (ix_in hi_12) dX0_weighFalls_109 ?_
      refine lv_imul hx hb dX0_weighFalls_110 ?_
      refine lv_iadd hx hb dX0_weighFalls_111 ?_
      obtain ⟨hi_13, h⟩ := gd_ex h
      obtain ⟨σ_14, eσ_14, h⟩ := hl_ex h
      refine g_iast C hH 42 (Nat.le_of_ble_eq_true rfl) (fun _ _ => rfl) (k := ((x3 + r_8).toNatClampNeg)) rfl (ix_in hi_13) dX0_weighFalls_112 (fun H locs hH => ?_)
      rw [← eσ_14] at hH
      refine lv_iinc (v := (x4 + 1)) (lv' := [(4, .int (x4 + 1)), (5, .int x5_3), (0, .ref (ad 8)), (1, .int x1), (2, .int x2), (3, .int x3)]) hx hb dX0_weighFalls_113 hl (k := 5) rfl rfl (by decide) rfl (fun ls hl => ?_)
      refine lv_goto (tgt := 46) hx hb dX0_weighFalls_116 (by decide) ?_
      exact ih _ _ _ _ _ _ _ _ h hH (lv_sub hl [2, 3, 4, 5, 0] rfl)
set_option maxHeartbeats 4000000 in
set_option maxRecDepth 100000 in
theorem wX0_weighFalls_20 (C : Cx 50 D ad κ p s m args meth c cX0_weighFalls RX0 6 none) {R : HS} : ∀ (f : Nat) (x1 : Int32) (σ : HS) (H : Heap) (locs : List Loc) (ls : Array Slot), FX0_weighFalls_20  f x1 σ = some R → Hd 50 ceX D ad κ s σ H locs → lv_has ls 6 [(0, .ref (ad 8)), (1, .int x1)] → W p l e ({ frames := 1, cells := 0, slots := 0, locals := 23 } : Room) s m args below meth c H locs 0 0 (MQ below (QV 50 ceX D ad κ R) args s 0 0 (AX 50 ad)) (F0 m 20 ls []) := by
  have hx := C.1
  have hb := C.2.1
  have hown := C.2.2.2.1
  have hts := C.2.2.2.2.1
  intro f
  induction f with
  | zero =>
    intro x1 σ H locs ls h hH hl
    cases h
  | succ f ih =>
    intro x1 σ H locs ls h hH hl
    rw [FX0_weighFalls_20] at h
    refine lv_iload_n hx hb dX0_weighFalls_20 rfl (lv_at hl 1 rfl) ?_
    refine lv_iconst (v := 1) hx hb dX0_weighFalls_21 (by decide) ?_
    refine lv_iadd hx hb dX0_weighFalls_22 ?_
    refine lv_aload_n hx hb dX0_weighFalls_23 rfl (lv_at hl 0 rfl) ?_
    refine g_get C hH 8 (Nat.le_of_ble_eq_true rfl) rfl fl_X0_24 (v := .ref (ad 3)) rfl dX0_weighFalls_24 ?_
    refine g_get C hH 3 (Nat.le_of_ble_eq_true rfl) rfl fl_X0_32 (v := .int (σ.1 3 0)) rfl dX0_weighFalls_27 ?_
    refine lv_icmp_ge (tgt := 125) hx hb dX0_weighFalls_30 (by decide) (fun hq_15 => ?_) (fun hq_15 => ?_)
    · rw [if_pos hq_15] at h
      exact g_retV C hH h dX0_weighFalls_125
    · rw [if_neg hq_15] at h
      refine lv_iload_n hx hb dX0_weighFalls_33 rfl (lv_at hl 1 rfl) ?_
      refine lv_bipush (v := 8) hx hb dX0_weighFalls_34 (by decide) ?_
      refine lv_imul hx hb dX0_weighFalls_36 ?_
      obtain ⟨x2_16, ex2_16, h⟩ := hl_ex h
      refine lv_eqi ex2_16 ?_
      refine lv_istore_n (lv' := [(2, .int x2_16), (0, .ref (ad 8)), (1, .int x1)]) hx hb dX0_weighFalls_37 rfl hl (by decide) rfl (fun ls hl => ?_)
      refine lv_iload_n hx hb dX0_weighFalls_38 rfl (lv_at hl 0 rfl) ?_
      refine lv_bipush (v := 8) hx hb dX0_weighFalls_39 (by decide) ?_
      refine lv_iadd hx hb dX0_weighFalls_41 ?_
      obtain ⟨x3_17, ex3_17, h⟩ := hl_ex h
      refine lv_eqi ex3_17 ?_
      refine lv_istore_n (lv' := [(3, .int x3_17), (2, .int x2_16), (0, .ref (ad 8)), (1, .int x1)]) hx hb dX0_weighFalls_42 rfl hl (by decide) rfl (fun ls hl => ?_)
      refine lv_iconst (v := 0) hx hb dX0_weighFalls_43 (by decide) ?_
      refine lv_istore (lv' := [(4, .int (0 : Int32)), (3, .int x3_17), (2, .int x2_16), (0, .ref (ad 8)), (1, .int x1)]) hx hb dX0_weighFalls_44 hl (by decide) rfl (fun ls hl => ?_)
      exact wX0_weighFalls_46 C ih _ _ _ _ _ _ _ _ _ h hH (lv_sub hl [3, 4, 2, 1, 0] rfl)
set_option maxHeartbeats 4000000 in
set_option maxRecDepth 100000 in
theorem kX0_weighFalls (l : Launch) (D : va_G) (ad : Nat → Nat) (κ : KC) {σ : HS} {R : HS} (h : FX0_weighFalls σ = some R) : MtV l 50 ceX D ad κ yX0_weighFalls cX0_weighFalls 6 none ({ frames := 1, cells := 0, slots := 0, locals := 23 } : Room) [.ref (ad 8)] σ R := by
  refine open_ (by decide) (Nat.le_of_ble_eq_true rfl) (la := [(0, .ref (ad 8))]) rfl ?_
  intro p e s m below meth c ls C hH hl
  replace C : Cx 50 D ad κ p s m _ meth c cX0_weighFalls RX0 6 none := C
  have hx := C.1
  have hb := C.2.1
  have hown := C.2.2.2.1
  have hts := C.2.2.2.2.1
  rw [FX0_weighFalls] at h
  refine lv_aload_n hx hb dX0_weighFalls_0 rfl (lv_at hl 0 rfl) ?_
  refine g_get C hH 8 (Nat.le_of_ble_eq_true rfl) rfl fl_X0_15 (v := .ref (ad 42)) rfl dX0_weighFalls_1 ?_
  refine lv_iconst (v := 0) hx hb dX0_weighFalls_4 (by decide) ?_
  obtain ⟨σ_18, hc_19, h⟩ := bdV_ex h
  refine g_cv (g_runS (rest := []) C hH hl.1 cS_X0_56 (kJ7_fill_53178 l D ad κ (Nat.le_of_ble_eq_true rfl) (fun _ _ => rfl) hc_19) ⟨rfl, rfl⟩ ⟨(Nat.le_of_ble_eq_true rfl), (Nat.le_of_ble_eq_true rfl)⟩ rfl rfl (Nat.le_of_ble_eq_true rfl) dX0_weighFalls_5 z00) hH (fun H locs hH => ?_)
  refine lv_aload_n hx hb dX0_weighFalls_8 rfl (lv_at hl 0 rfl) ?_
  refine g_get C hH 8 (Nat.le_of_ble_eq_true rfl) rfl fl_X0_15 (v := .ref (ad 42)) rfl dX0_weighFalls_9 ?_
  refine lv_iconst (v := 0) hx hb dX0_weighFalls_12 (by decide) ?_
  refine lv_aload_n hx hb dX0_weighFalls_13 rfl (lv_at hl 0 rfl) ?_
  refine g_get C hH 8 (Nat.le_of_ble_eq_true rfl) rfl fl_X0_38 (v := .int (σ_18.1 8 6)) rfl dX0_weighFalls_14 ?_
  obtain ⟨σ_20, eσ_20, h⟩ := hl_ex h
  refine g_iast C hH 42 (Nat.le_of_ble_eq_true rfl) (fun _ _ => rfl) (k := 0) (by decide) (ix_in rfl) dX0_weighFalls_17 (fun H locs hH => ?_)
  rw [← eσ_20] at hH
  refine lv_iconst (v := 0) hx hb dX0_weighFalls_18 (by decide) ?_
  refine lv_istore_n (lv' := [(1, .int (0 : Int32)), (0, .ref (ad 8))]) hx hb dX0_weighFalls_19 rfl hl (by decide) rfl (fun ls hl => ?_)
  exact wX0_weighFalls_20 C _ _ _ _ _ _ h hH (lv_sub hl [1, 0] rfl)
-- X0_weigh
def FX0_weigh_27  (st : Nat) : Nat → Int32 → HS → Option HS
  | 0, _, _ => none
  | f + 1, x2, σ => if (σ.1 3 0) ≤ x2 then bdV (FX0_weighFalls σ) fun σ_2 => some σ_2 else bdI (FX2_quartersOf st x2 σ) fun r_4 σ_5 => gd (ix x2 10) (hl_ (pI σ_5 41 (x2.toNatClampNeg) r_4) fun σ_8 => gd (ix x2 10) (if (σ_8.1 41 (x2.toNatClampNeg)) = (4 : Int32) then hl_ (pI σ_8 8 7 ((σ_8.1 8 7) ||| ((1 : Int32) <<< (x2 &&& 31)))) fun σ_14 => FX0_weigh_27 st f (x2 + 1) σ_14 else gd (ix x2 10) (if (σ_8.1 41 (x2.toNatClampNeg)) ≤ 0 then FX0_weigh_27 st f (x2 + 1) σ_8 else hl_ (pI σ_8 8 8 ((σ_8.1 8 8) ||| ((1 : Int32) <<< (x2 &&& 31)))) fun σ_13 => FX0_weigh_27 st f (x2 + 1) σ_13)))
def FX0_weigh (st : Nat) (σ : HS) : Option HS :=
  hl_ (pI σ 8 6 ((1 : Int32) <<< (((2 : Int32) * (σ.1 3 0)) &&& 31))) fun σ_15 => hl_ (pI σ_15 8 7 (0 : Int32)) fun σ_16 => hl_ (pI σ_16 8 8 (0 : Int32)) fun σ_17 => FX0_weigh_27 st fu (0 : Int32) σ_17
set_option maxHeartbeats 4000000 in
set_option maxRecDepth 100000 in
theorem wX0_weigh_27 (C : Cx 50 D ad κ p s m args meth c cX0_weigh RX0 3 none) {st : Nat} (hst : isSt st) {R : HS} : ∀ (f : Nat) (x2 : Int32) (σ : HS) (H : Heap) (locs : List Loc) (ls : Array Slot), FX0_weigh_27 st f x2 σ = some R → Hd 50 ceX D ad κ s σ H locs → lv_has ls 3 [(0, .ref (ad 8)), (1, .ref (ad st)), (2, .int x2)] → W p l e ({ frames := 2, cells := 0, slots := 0, locals := 50 } : Room) s m args below meth c H locs 0 0 (MQ below (QV 50 ceX D ad κ R) args s 0 0 (AX 50 ad)) (F0 m 27 ls []) := by
  have hx := C.1
  have hb := C.2.1
  have hown := C.2.2.2.1
  have hts := C.2.2.2.2.1
  intro f
  induction f with
  | zero =>
    intro x2 σ H locs ls h hH hl
    cases h
  | succ f ih =>
    intro x2 σ H locs ls h hH hl
    rw [FX0_weigh_27] at h
    refine lv_iload_n hx hb dX0_weigh_27 rfl (lv_at hl 2 rfl) ?_
    refine lv_aload_n hx hb dX0_weigh_28 rfl (lv_at hl 0 rfl) ?_
    refine g_get C hH 8 (Nat.le_of_ble_eq_true rfl) rfl fl_X0_24 (v := .ref (ad 3)) rfl dX0_weigh_29 ?_
    refine g_get C hH 3 (Nat.le_of_ble_eq_true rfl) rfl fl_X0_32 (v := .int (σ.1 3 0)) rfl dX0_weigh_32 ?_
    refine lv_icmp_ge (tgt := 105) hx hb dX0_weigh_35 (by decide) (fun hq_1 => ?_) (fun hq_1 => ?_)
    · rw [if_pos hq_1] at h
      refine lv_aload_n hx hb dX0_weigh_105 rfl (lv_at hl 0 rfl) ?_
      obtain ⟨σ_2, hc_3, h⟩ := bdV_ex h
      refine g_cv (g_runV (rest := []) C hH hl.1 cV_X0_53 8 (Nat.le_of_ble_eq_true rfl) rfl rfl (kX0_weighFalls l D ad κ hc_3) ⟨rfl, rfl⟩ ⟨(Nat.le_of_ble_eq_true rfl), (Nat.le_of_ble_eq_true rfl)⟩ rfl rfl (Nat.le_of_ble_eq_true rfl) dX0_weigh_106 z00) hH (fun H locs hH => ?_)
      exact g_retV C hH h dX0_weigh_109
    · rw [if_neg hq_1] at h
      refine lv_aload_n hx hb dX0_weigh_38 rfl (lv_at hl 0 rfl) ?_
      refine g_get C hH 8 (Nat.le_of_ble_eq_true rfl) rfl fl_X0_9 (v := .ref (ad 41)) rfl dX0_weigh_39 ?_
      refine lv_iload_n hx hb dX0_weigh_42 rfl (lv_at hl 2 rfl) ?_
      refine lv_aload_n hx hb dX0_weigh_43 rfl (lv_at hl 0 rfl) ?_
      refine g_get C hH 8 (Nat.le_of_ble_eq_true rfl) rfl fl_X0_28 (v := .ref (ad 7)) rfl dX0_weigh_44 ?_
      refine lv_aload_n hx hb dX0_weigh_47 rfl (lv_at hl 1 rfl) ?_
      refine lv_iload_n hx hb dX0_weigh_48 rfl (lv_at hl 2 rfl) ?_
      obtain ⟨r_4, σ_5, hc_6, h⟩ := bdI_ex h
      refine g_ci (g_runV (rest := [.int x2, .ref (ad 41)]) C hH hl.1 cV_X0_47 7 (Nat.le_of_ble_eq_true rfl) rfl rfl (kX2_quartersOf l D ad κ hst hc_6) ⟨rfl, rfl⟩ ⟨(Nat.le_of_ble_eq_true rfl), (Nat.le_of_ble_eq_true rfl)⟩ rfl rfl (Nat.le_of_ble_eq_true rfl) dX0_weigh_49 z00) hH (fun H locs hH => ?_)
      obtain ⟨hi_7, h⟩ := gd_ex h
      obtain ⟨σ_8, eσ_8, h⟩ := hl_ex h
      refine g_iast C hH 41 (Nat.le_of_ble_eq_true rfl) (fun _ _ => rfl) (k := (x2.toNatClampNeg)) rfl (ix_in hi_7) dX0_weigh_52 (fun H locs hH => ?_)
      rw [← eσ_8] at hH
      refine lv_aload_n hx hb dX0_weigh_53 rfl (lv_at hl 0 rfl) ?_
      refine g_get C hH 8 (Nat.le_of_ble_eq_true rfl) rfl fl_X0_9 (v := .ref (ad 41)) rfl dX0_weigh_54 ?_
      refine lv_iload_n hx hb dX0_weigh_57 rfl (lv_at hl 2 rfl) ?_
      obtain ⟨hi_9, h⟩ := gd_ex h
      refine g_iald C hH 41 (Nat.le_of_ble_eq_true rfl) rfl (k := (x2.toNatClampNeg)) rfl (ix_in hi_9) dX0_weigh_58 ?_
      refine lv_iconst (v := 4) hx hb dX0_weigh_59 (by decide) ?_
      refine lv_icmp_ne (tgt := 78) hx hb dX0_weigh_60 (by decide) (fun hq_10 => ?_) (fun hq_10 => ?_)
      · rw [if_neg hq_10] at h
        refine lv_aload_n hx hb dX0_weigh_78 rfl (lv_at hl 0 rfl) ?_
        refine g_get C hH 8 (Nat.le_of_ble_eq_true rfl) rfl fl_X0_9 (v := .ref (ad 41)) rfl dX0_weigh_79 ?_
        refine lv_iload_n hx hb dX0_weigh_82 rfl (lv_at hl 2 rfl) ?_
        obtain ⟨hi_11, h⟩ := gd_ex h
        refine g_iald C hH 41 (Nat.le_of_ble_eq_true rfl) rfl (k := (x2.toNatClampNeg)) rfl (ix_in hi_11) dX0_weigh_83 ?_
        refine lv_if_le (tgt := 99) hx hb dX0_weigh_84 (by decide) (fun hq_12 => ?_) (fun hq_12 => ?_)
        · rw [if_pos hq_12] at h
          refine lv_iinc (v := (x2 + 1)) (lv' := [(2, .int (x2 + 1)), (0, .ref (ad 8)), (1, .ref (ad st))]) hx hb dX0_weigh_99 hl (k := 2) rfl rfl (by decide) rfl (fun ls hl => ?_)
          refine lv_goto (tgt := 27) hx hb dX0_weigh_102 (by decide) ?_
          exact ih _ _ _ _ _ h hH (lv_sub hl [1, 2, 0] rfl)
        · rw [if_neg hq_12] at h
          refine lv_aload_n hx hb dX0_weigh_87 rfl (lv_at hl 0 rfl) ?_
          refine lv_dup hx hb dX0_weigh_88 rfl ?_
          refine g_get C hH 8 (Nat.le_of_ble_eq_true rfl) rfl fl_X0_44 (v := .int (σ_8.1 8 8)) rfl dX0_weigh_89 ?_
          refine lv_iconst (v := 1) hx hb dX0_weigh_92 (by decide) ?_
          refine lv_iload_n hx hb dX0_weigh_93 rfl (lv_at hl 2 rfl) ?_
          refine lv_ishl hx hb dX0_weigh_94 ?_
          refine lv_ior hx hb dX0_weigh_95 ?_
          obtain ⟨σ_13, eσ_13, h⟩ := hl_ex h
          refine g_putI C hH 8 (Nat.le_of_ble_eq_true rfl) rfl fp_X0_44 rfl rfl (Nat.le_of_ble_eq_true rfl) rfl dX0_weigh_96 (fun H locs hH => ?_)
          rw [← eσ_13] at hH
          refine lv_iinc (v := (x2 + 1)) (lv' := [(2, .int (x2 + 1)), (0, .ref (ad 8)), (1, .ref (ad st))]) hx hb dX0_weigh_99 hl (k := 2) rfl rfl (by decide) rfl (fun ls hl => ?_)
          refine lv_goto (tgt := 27) hx hb dX0_weigh_102 (by decide) ?_
          exact ih _ _ _ _ _ h hH (lv_sub hl [1, 2, 0] rfl)
      · rw [if_pos hq_10] at h
        refine lv_aload_n hx hb dX0_weigh_63 rfl (lv_at hl 0 rfl) ?_
        refine lv_dup hx hb dX0_weigh_64 rfl ?_
        refine g_get C hH 8 (Nat.le_of_ble_eq_true rfl) rfl fl_X0_41 (v := .int (σ_8.1 8 7)) rfl dX0_weigh_65 ?_
        refine lv_iconst (v := 1) hx hb dX0_weigh_68 (by decide) ?_
        refine lv_iload_n hx hb dX0_weigh_69 rfl (lv_at hl 2 rfl) ?_
        refine lv_ishl hx hb dX0_weigh_70 ?_
        refine lv_ior hx hb dX0_weigh_71 ?_
        obtain ⟨σ_14, eσ_14, h⟩ := hl_ex h
        refine g_putI C hH 8 (Nat.le_of_ble_eq_true rfl) rfl fp_X0_41 rfl rfl (Nat.le_of_ble_eq_true rfl) rfl dX0_weigh_72 (fun H locs hH => ?_)
        rw [← eσ_14] at hH
        refine lv_goto (tgt := 99) hx hb dX0_weigh_75 (by decide) ?_
        refine lv_iinc (v := (x2 + 1)) (lv' := [(2, .int (x2 + 1)), (0, .ref (ad 8)), (1, .ref (ad st))]) hx hb dX0_weigh_99 hl (k := 2) rfl rfl (by decide) rfl (fun ls hl => ?_)
        refine lv_goto (tgt := 27) hx hb dX0_weigh_102 (by decide) ?_
        exact ih _ _ _ _ _ h hH (lv_sub hl [1, 2, 0] rfl)
set_option maxHeartbeats 4000000 in
set_option maxRecDepth 100000 in
theorem kX0_weigh (l : Launch) (D : va_G) (ad : Nat → Nat) (κ : KC) {st : Nat} (hst : isSt st) {σ : HS} {R : HS} (h : FX0_weigh st σ = some R) : MtV l 50 ceX D ad κ yX0_weigh cX0_weigh 3 none ({ frames := 2, cells := 0, slots := 0, locals := 50 } : Room) [.ref (ad 8), .ref (ad st)] σ R := by
  refine open_ (by decide) (Nat.le_of_ble_eq_true rfl) (la := [(0, .ref (ad 8)), (1, .ref (ad st))]) rfl ?_
  intro p e s m below meth c ls C hH hl
  replace C : Cx 50 D ad κ p s m _ meth c cX0_weigh RX0 3 none := C
  have hx := C.1
  have hb := C.2.1
  have hown := C.2.2.2.1
  have hts := C.2.2.2.2.1
  rw [FX0_weigh] at h
  refine lv_aload_n hx hb dX0_weigh_0 rfl (lv_at hl 0 rfl) ?_
  refine lv_iconst (v := 1) hx hb dX0_weigh_1 (by decide) ?_
  refine lv_iconst (v := 2) hx hb dX0_weigh_2 (by decide) ?_
  refine lv_aload_n hx hb dX0_weigh_3 rfl (lv_at hl 0 rfl) ?_
  refine g_get C hH 8 (Nat.le_of_ble_eq_true rfl) rfl fl_X0_24 (v := .ref (ad 3)) rfl dX0_weigh_4 ?_
  refine g_get C hH 3 (Nat.le_of_ble_eq_true rfl) rfl fl_X0_32 (v := .int (σ.1 3 0)) rfl dX0_weigh_7 ?_
  refine lv_imul hx hb dX0_weigh_10 ?_
  refine lv_ishl hx hb dX0_weigh_11 ?_
  obtain ⟨σ_15, eσ_15, h⟩ := hl_ex h
  refine g_putI C hH 8 (Nat.le_of_ble_eq_true rfl) rfl fp_X0_38 rfl rfl (Nat.le_of_ble_eq_true rfl) rfl dX0_weigh_12 (fun H locs hH => ?_)
  rw [← eσ_15] at hH
  refine lv_aload_n hx hb dX0_weigh_15 rfl (lv_at hl 0 rfl) ?_
  refine lv_iconst (v := 0) hx hb dX0_weigh_16 (by decide) ?_
  obtain ⟨σ_16, eσ_16, h⟩ := hl_ex h
  refine g_putI C hH 8 (Nat.le_of_ble_eq_true rfl) rfl fp_X0_41 rfl rfl (Nat.le_of_ble_eq_true rfl) rfl dX0_weigh_17 (fun H locs hH => ?_)
  rw [← eσ_16] at hH
  refine lv_aload_n hx hb dX0_weigh_20 rfl (lv_at hl 0 rfl) ?_
  refine lv_iconst (v := 0) hx hb dX0_weigh_21 (by decide) ?_
  obtain ⟨σ_17, eσ_17, h⟩ := hl_ex h
  refine g_putI C hH 8 (Nat.le_of_ble_eq_true rfl) rfl fp_X0_44 rfl rfl (Nat.le_of_ble_eq_true rfl) rfl dX0_weigh_22 (fun H locs hH => ?_)
  rw [← eσ_17] at hH
  refine lv_iconst (v := 0) hx hb dX0_weigh_25 (by decide) ?_
  refine lv_istore_n (lv' := [(2, .int (0 : Int32)), (0, .ref (ad 8)), (1, .ref (ad st))]) hx hb dX0_weigh_26 rfl hl (by decide) rfl (fun ls hl => ?_)
  exact wX0_weigh_27 C hst _ _ _ _ _ _ h hH (lv_sub hl [1, 2, 0] rfl)
-- X0_partIn
def FX0_partIn (x0 : Int32) (x1 : Int32) (σ : HS) : Option (Int32 × HS) :=
  bdI (FJ6_bitCount_0f7a4 (x0 &&& (((1 : Int32) <<< (x1 &&& 31)) - (1 : Int32))) σ) fun r_1 σ_2 => some ((minI (7 : Int32) r_1), σ_2)
set_option maxHeartbeats 4000000 in
set_option maxRecDepth 100000 in
theorem kX0_partIn (l : Launch) (D : va_G) (ad : Nat → Nat) (κ : KC) {x0 : Int32} {x1 : Int32} {σ : HS} {R : (Int32 × HS)} (h : FX0_partIn x0 x1 σ = some R) : MtI l 50 ceX D ad κ yX0_partIn cX0_partIn 2 (some .int) ({ frames := 1, cells := 0, slots := 0, locals := 21 } : Room) [.int x0, .int x1] σ R := by
  refine open_ (by decide) (Nat.le_of_ble_eq_true rfl) (la := [(0, .int x0), (1, .int x1)]) rfl ?_
  intro p e s m below meth c ls C hH hl
  replace C : Cx 50 D ad κ p s m _ meth c cX0_partIn RX0 2 (some .int) := C
  have hx := C.1
  have hb := C.2.1
  have hown := C.2.2.2.1
  have hts := C.2.2.2.2.1
  rw [FX0_partIn] at h
  refine lv_bipush (v := 7) hx hb dX0_partIn_0 (by decide) ?_
  refine lv_iload_n hx hb dX0_partIn_2 rfl (lv_at hl 0 rfl) ?_
  refine lv_iconst (v := 1) hx hb dX0_partIn_3 (by decide) ?_
  refine lv_iload_n hx hb dX0_partIn_4 rfl (lv_at hl 1 rfl) ?_
  refine lv_ishl hx hb dX0_partIn_5 ?_
  refine lv_iconst (v := 1) hx hb dX0_partIn_6 (by decide) ?_
  refine lv_isub hx hb dX0_partIn_7 ?_
  refine lv_iand hx hb dX0_partIn_8 ?_
  obtain ⟨r_1, σ_2, hc_3, h⟩ := bdI_ex h
  refine g_ci (g_runS (rest := [.int (7 : Int32)]) C hH hl.1 cS_X0_66 (kJ6_bitCount_0f7a4 l D ad κ hc_3) ⟨rfl, rfl⟩ ⟨(Nat.le_of_ble_eq_true rfl), (Nat.le_of_ble_eq_true rfl)⟩ rfl rfl (Nat.le_of_ble_eq_true rfl) dX0_partIn_9 z00) hH (fun H locs hH => ?_)
  refine g_min C hl.1 mmin_X0_71 (Nat.le_of_ble_eq_true rfl) (Nat.le_of_ble_eq_true rfl) z00 dX0_partIn_12 ?_
  exact g_ret C hH h dX0_partIn_15
-- X0_casesIn
def FX0_casesIn (x1 : Int32) (x2 : Int32) (σ : HS) : Option (Int32 × HS) :=
  gd (ix ((x1 * (8 : Int32)) + x2) 80) (some ((σ.1 42 (((x1 * (8 : Int32)) + x2).toNatClampNeg)), σ))
set_option maxHeartbeats 4000000 in
set_option maxRecDepth 100000 in
theorem kX0_casesIn (l : Launch) (D : va_G) (ad : Nat → Nat) (κ : KC) {x1 : Int32} {x2 : Int32} {σ : HS} {R : (Int32 × HS)} (h : FX0_casesIn x1 x2 σ = some R) : MtI l 50 ceX D ad κ yX0_casesIn cX0_casesIn 3 (some .int) ({ frames := 0, cells := 0, slots := 0, locals := 0 } : Room) [.ref (ad 8), .int x1, .int x2] σ R := by
  refine open_ (by decide) (Nat.le_of_ble_eq_true rfl) (la := [(0, .ref (ad 8)), (1, .int x1), (2, .int x2)]) rfl ?_
  intro p e s m below meth c ls C hH hl
  replace C : Cx 50 D ad κ p s m _ meth c cX0_casesIn RX0 3 (some .int) := C
  have hx := C.1
  have hb := C.2.1
  have hown := C.2.2.2.1
  have hts := C.2.2.2.2.1
  rw [FX0_casesIn] at h
  refine lv_aload_n hx hb dX0_casesIn_0 rfl (lv_at hl 0 rfl) ?_
  refine g_get C hH 8 (Nat.le_of_ble_eq_true rfl) rfl fl_X0_15 (v := .ref (ad 42)) rfl dX0_casesIn_1 ?_
  refine lv_iload_n hx hb dX0_casesIn_4 rfl (lv_at hl 1 rfl) ?_
  refine lv_bipush (v := 8) hx hb dX0_casesIn_5 (by decide) ?_
  refine lv_imul hx hb dX0_casesIn_7 ?_
  refine lv_iload_n hx hb dX0_casesIn_8 rfl (lv_at hl 2 rfl) ?_
  refine lv_iadd hx hb dX0_casesIn_9 ?_
  obtain ⟨hi_1, h⟩ := gd_ex h
  refine g_iald C hH 42 (Nat.le_of_ble_eq_true rfl) rfl (k := (((x1 * (8 : Int32)) + x2).toNatClampNeg)) rfl (ix_in hi_1) dX0_casesIn_10 ?_
  exact g_ret C hH h dX0_casesIn_11
-- X0_casesOfParts
def FX0_casesOfParts (x1 : Int32) (σ : HS) : Option (Int32 × HS) :=
  if (σ.1 3 0) = 0 then if x1 = 0 then some ((σ.1 8 6), σ) else some ((0 : Int32), σ) else if x1 = 0 then some ((0 : Int32), σ) else bdI (FX0_casesIn ((σ.1 3 0) - (1 : Int32)) (x1 - (1 : Int32)) σ) fun r_3 σ_4 => some (r_3, σ_4)
set_option maxHeartbeats 4000000 in
set_option maxRecDepth 100000 in
theorem kX0_casesOfParts (l : Launch) (D : va_G) (ad : Nat → Nat) (κ : KC) {x1 : Int32} {σ : HS} {R : (Int32 × HS)} (h : FX0_casesOfParts x1 σ = some R) : MtI l 50 ceX D ad κ yX0_casesOfParts cX0_casesOfParts 2 (some .int) ({ frames := 1, cells := 0, slots := 0, locals := 22 } : Room) [.ref (ad 8), .int x1] σ R := by
  refine open_ (by decide) (Nat.le_of_ble_eq_true rfl) (la := [(0, .ref (ad 8)), (1, .int x1)]) rfl ?_
  intro p e s m below meth c ls C hH hl
  replace C : Cx 50 D ad κ p s m _ meth c cX0_casesOfParts RX0 2 (some .int) := C
  have hx := C.1
  have hb := C.2.1
  have hown := C.2.2.2.1
  have hts := C.2.2.2.2.1
  rw [FX0_casesOfParts] at h
  refine lv_aload_n hx hb dX0_casesOfParts_0 rfl (lv_at hl 0 rfl) ?_
  refine g_get C hH 8 (Nat.le_of_ble_eq_true rfl) rfl fl_X0_24 (v := .ref (ad 3)) rfl dX0_casesOfParts_1 ?_
  refine g_get C hH 3 (Nat.le_of_ble_eq_true rfl) rfl fl_X0_32 (v := .int (σ.1 3 0)) rfl dX0_casesOfParts_4 ?_
  refine lv_if_ne (tgt := 23) hx hb dX0_casesOfParts_7 (by decide) (fun hq_1 => ?_) (fun hq_1 => ?_)
  · rw [if_neg hq_1] at h
    refine lv_iload_n hx hb dX0_casesOfParts_23 rfl (lv_at hl 1 rfl) ?_
    refine lv_if_ne (tgt := 31) hx hb dX0_casesOfParts_24 (by decide) (fun hq_2 => ?_) (fun hq_2 => ?_)
    · rw [if_neg hq_2] at h
      refine lv_aload_n hx hb dX0_casesOfParts_31 rfl (lv_at hl 0 rfl) ?_
      refine lv_aload_n hx hb dX0_casesOfParts_32 rfl (lv_at hl 0 rfl) ?_
      refine g_get C hH 8 (Nat.le_of_ble_eq_true rfl) rfl fl_X0_24 (v := .ref (ad 3)) rfl dX0_casesOfParts_33 ?_
      refine g_get C hH 3 (Nat.le_of_ble_eq_true rfl) rfl fl_X0_32 (v := .int (σ.1 3 0)) rfl dX0_casesOfParts_36 ?_
      refine lv_iconst (v := 1) hx hb dX0_casesOfParts_39 (by decide) ?_
      refine lv_isub hx hb dX0_casesOfParts_40 ?_
      refine lv_iload_n hx hb dX0_casesOfParts_41 rfl (lv_at hl 1 rfl) ?_
      refine lv_iconst (v := 1) hx hb dX0_casesOfParts_42 (by decide) ?_
      refine lv_isub hx hb dX0_casesOfParts_43 ?_
      obtain ⟨r_3, σ_4, hc_5, h⟩ := bdI_ex h
      refine g_ci (g_runV (rest := []) C hH hl.1 cV_X0_77 8 (Nat.le_of_ble_eq_true rfl) rfl rfl (kX0_casesIn l D ad κ hc_5) ⟨rfl, rfl⟩ ⟨(Nat.le_of_ble_eq_true rfl), (Nat.le_of_ble_eq_true rfl)⟩ rfl rfl (Nat.le_of_ble_eq_true rfl) dX0_casesOfParts_44 z00) hH (fun H locs hH => ?_)
      exact g_ret C hH h dX0_casesOfParts_47
    · rw [if_pos hq_2] at h
      refine lv_iconst (v := 0) hx hb dX0_casesOfParts_27 (by decide) ?_
      refine lv_goto (tgt := 47) hx hb dX0_casesOfParts_28 (by decide) ?_
      exact g_ret C hH h dX0_casesOfParts_47
  · rw [if_pos hq_1] at h
    refine lv_iload_n hx hb dX0_casesOfParts_10 rfl (lv_at hl 1 rfl) ?_
    refine lv_if_ne (tgt := 21) hx hb dX0_casesOfParts_11 (by decide) (fun hq_6 => ?_) (fun hq_6 => ?_)
    · rw [if_neg hq_6] at h
      refine lv_iconst (v := 0) hx hb dX0_casesOfParts_21 (by decide) ?_
      exact g_ret C hH h dX0_casesOfParts_22
    · rw [if_pos hq_6] at h
      refine lv_aload_n hx hb dX0_casesOfParts_14 rfl (lv_at hl 0 rfl) ?_
      refine g_get C hH 8 (Nat.le_of_ble_eq_true rfl) rfl fl_X0_38 (v := .int (σ.1 8 6)) rfl dX0_casesOfParts_15 ?_
      refine lv_goto (tgt := 22) hx hb dX0_casesOfParts_18 (by decide) ?_
      exact g_ret C hH h dX0_casesOfParts_22
-- X0_valueOf
def FX0_valueOf_16 (k6 : Int32 → Int32 → Int32 → Int32 → HS → Option (Int32 × HS)) (st : Nat) : Nat → Int32 → Int32 → Int32 → Int32 → Int32 → HS → Option (Int32 × HS)
  | 0, _, _, _, _, _, _ => none
  | f + 1, x2, x3, x4, x5, x6, σ => if (σ.1 3 0) ≤ x6 then k6 x2 x3 x4 (x5 + 1) σ else if ((x3 >>> (x5 &&& 31)) &&& (1 : Int32)) = 0 then k6 x2 x3 x4 (x5 + 1) σ else gd (ix ((x6 * (8 : Int32)) + x5) 80) (hl_ (σ.1 42 (((x6 * (8 : Int32)) + x5).toNatClampNeg)) fun x7_4 => if x7_4 ≤ 0 then FX0_valueOf_16 k6 st f x2 x3 x4 x5 (x6 + 1) σ else bdI (FX2_worthTo st x2 x6 x5 σ) fun r_6 σ_7 => hl_ (x4 + (x7_4 * r_6)) fun x4_9 => FX0_valueOf_16 k6 st f x2 x3 x4_9 x5 (x6 + 1) σ_7)
def FX0_valueOf_6  (st : Nat) : Nat → Int32 → Int32 → Int32 → Int32 → HS → Option (Int32 × HS)
  | 0, _, _, _, _, _ => none
  | f + 1, x2, x3, x4, x5, σ => if (8 : Int32) ≤ x5 then some (x4, σ) else FX0_valueOf_16 (FX0_valueOf_6 st f) st fu x2 x3 x4 x5 (0 : Int32) σ
def FX0_valueOf (st : Nat) (x2 : Int32) (x3 : Int32) (σ : HS) : Option (Int32 × HS) :=
  FX0_valueOf_6 st fu x2 x3 (0 : Int32) (0 : Int32) σ
set_option maxHeartbeats 4000000 in
set_option maxRecDepth 100000 in
theorem wX0_valueOf_16 (C : Cx 50 D ad κ p s m args meth c cX0_valueOf RX0 8 (some .int)) {st : Nat} (hst : isSt st) {R : (Int32 × HS)} {k6 : Int32 → Int32 → Int32 → Int32 → HS → Option (Int32 × HS)} (K6 : ∀ (x2 : Int32) (x3 : Int32) (x4 : Int32) (x5 : Int32) (σ : HS) (H : Heap) (locs : List Loc) (ls : Array Slot), k6 x2 x3 x4 x5 σ = some R → Hd 50 ceX D ad κ s σ H locs → lv_has ls 8 [(0, .ref (ad 8)), (1, .ref (ad st)), (2, .int x2), (3, .int x3), (4, .int x4), (5, .int x5)] → W p l e ({ frames := 2, cells := 0, slots := 0, locals := 52 } : Room) s m args below meth c H locs 0 0 (MQ below (QI 50 ceX D ad κ R) args s 0 0 (AX 50 ad)) (F0 m 6 ls [])) : ∀ (f : Nat) (x2 : Int32) (x3 : Int32) (x4 : Int32) (x5 : Int32) (x6 : Int32) (σ : HS) (H : Heap) (locs : List Loc) (ls : Array Slot), FX0_valueOf_16 k6 st f x2 x3 x4 x5 x6 σ = some R → Hd 50 ceX D ad κ s σ H locs → lv_has ls 8 [(0, .ref (ad 8)), (1, .ref (ad st)), (2, .int x2), (3, .int x3), (4, .int x4), (5, .int x5), (6, .int x6)] → W p l e ({ frames := 2, cells := 0, slots := 0, locals := 52 } : Room) s m args below meth c H locs 0 0 (MQ below (QI 50 ceX D ad κ R) args s 0 0 (AX 50 ad)) (F0 m 16 ls []) := by
  have hx := C.1
  have hb := C.2.1
  have hown := C.2.2.2.1
  have hts := C.2.2.2.2.1
  intro f
  induction f with
  | zero =>
    intro x2 x3 x4 x5 x6 σ H locs ls h hH hl
    cases h
  | succ f ih =>
    intro x2 x3 x4 x5 x6 σ H locs ls h hH hl
    rw [FX0_valueOf_16] at h
    refine lv_iload hx hb dX0_valueOf_16 (lv_at hl 6 rfl) ?_
    refine lv_aload_n hx hb dX0_valueOf_18 rfl (lv_at hl 0 rfl) ?_
    refine g_get C hH 8 (Nat.le_of_ble_eq_true rfl) rfl fl_X0_24 (v := .ref (ad 3)) rfl dX0_valueOf_19 ?_
    refine g_get C hH 3 (Nat.le_of_ble_eq_true rfl) rfl fl_X0_32 (v := .int (σ.1 3 0)) rfl dX0_valueOf_22 ?_
    refine lv_icmp_ge (tgt := 84) hx hb dX0_valueOf_25 (by decide) (fun hq_1 => ?_) (fun hq_1 => ?_)
    · rw [if_pos hq_1] at h
      refine lv_iinc (v := (x5 + 1)) (lv' := [(5, .int (x5 + 1)), (0, .ref (ad 8)), (1, .ref (ad st)), (2, .int x2), (3, .int x3), (4, .int x4), (6, .int x6)]) hx hb dX0_valueOf_84 hl (k := 5) rfl rfl (by decide) rfl (fun ls hl => ?_)
      refine lv_goto (tgt := 6) hx hb dX0_valueOf_87 (by decide) ?_
      exact K6 _ _ _ _ _ _ _ _ h hH (lv_sub hl [1, 2, 3, 4, 5, 0] rfl)
    · rw [if_neg hq_1] at h
      refine lv_iload_n hx hb dX0_valueOf_28 rfl (lv_at hl 3 rfl) ?_
      refine lv_iload hx hb dX0_valueOf_29 (lv_at hl 5 rfl) ?_
      refine lv_ishr hx hb dX0_valueOf_31 ?_
      refine lv_iconst (v := 1) hx hb dX0_valueOf_32 (by decide) ?_
      refine lv_iand hx hb dX0_valueOf_33 ?_
      refine lv_if_eq (tgt := 84) hx hb dX0_valueOf_34 (by decide) (fun hq_2 => ?_) (fun hq_2 => ?_)
      · rw [if_pos hq_2] at h
        refine lv_iinc (v := (x5 + 1)) (lv' := [(5, .int (x5 + 1)), (0, .ref (ad 8)), (1, .ref (ad st)), (2, .int x2), (3, .int x3), (4, .int x4), (6, .int x6)]) hx hb dX0_valueOf_84 hl (k := 5) rfl rfl (by decide) rfl (fun ls hl => ?_)
        refine lv_goto (tgt := 6) hx hb dX0_valueOf_87 (by decide) ?_
        exact K6 _ _ _ _ _ _ _ _ h hH (lv_sub hl [1, 2, 3, 4, 5, 0] rfl)
      · rw [if_neg hq_2] at h
        refine lv_aload_n hx hb dX0_valueOf_37 rfl (lv_at hl 0 rfl) ?_
        refine g_get C hH 8 (Nat.le_of_ble_eq_true rfl) rfl fl_X0_15 (v := .ref (ad 42)) rfl dX0_valueOf_38 ?_
        refine lv_iload hx hb dX0_valueOf_41 (lv_at hl 6 rfl) ?_
        refine lv_bipush (v := 8) hx hb dX0_valueOf_43 (by decide) ?_
        refine lv_imul hx hb dX0_valueOf_45 ?_
        refine lv_iload hx hb dX0_valueOf_46 (lv_at hl 5 rfl) ?_
        refine lv_iadd hx hb dX0_valueOf_48 ?_
        obtain ⟨hi_3, h⟩ := gd_ex h
        refine g_iald C hH 42 (Nat.le_of_ble_eq_true rfl) rfl (k := (((x6 * (8 : Int32)) + x5).toNatClampNeg)) rfl (ix_in hi_3) dX0_valueOf_49 ?_
        obtain ⟨x7_4, ex7_4, h⟩ := hl_ex h
        refine lv_eqi ex7_4 ?_
        refine lv_istore (lv' := [(7, .int x7_4), (0, .ref (ad 8)), (1, .ref (ad st)), (2, .int x2), (3, .int x3), (4, .int x4), (5, .int x5), (6, .int x6)]) hx hb dX0_valueOf_50 hl (by decide) rfl (fun ls hl => ?_)
        refine lv_iload hx hb dX0_valueOf_52 (lv_at hl 0 rfl) ?_
        refine lv_if_le (tgt := 78) hx hb dX0_valueOf_54 (by decide) (fun hq_5 => ?_) (fun hq_5 => ?_)
        · rw [if_pos hq_5] at h
          refine lv_iinc (v := (x6 + 1)) (lv' := [(6, .int (x6 + 1)), (7, .int x7_4), (0, .ref (ad 8)), (1, .ref (ad st)), (2, .int x2), (3, .int x3), (4, .int x4), (5, .int x5)]) hx hb dX0_valueOf_78 hl (k := 7) rfl rfl (by decide) rfl (fun ls hl => ?_)
          refine lv_goto (tgt := 16) hx hb dX0_valueOf_81 (by decide) ?_
          exact ih _ _ _ _ _ _ _ _ _ h hH (lv_sub hl [2, 3, 4, 5, 6, 7, 0] rfl)
        · rw [if_neg hq_5] at h
          refine lv_iload hx hb dX0_valueOf_57 (lv_at hl 5 rfl) ?_
          refine lv_iload hx hb dX0_valueOf_59 (lv_at hl 0 rfl) ?_
          refine lv_aload_n hx hb dX0_valueOf_61 rfl (lv_at hl 1 rfl) ?_
          refine g_get C hH 8 (Nat.le_of_ble_eq_true rfl) rfl fl_X0_28 (v := .ref (ad 7)) rfl dX0_valueOf_62 ?_
          refine lv_aload_n hx hb dX0_valueOf_65 rfl (lv_at hl 2 rfl) ?_
          refine lv_iload_n hx hb dX0_valueOf_66 rfl (lv_at hl 3 rfl) ?_
          refine lv_iload hx hb dX0_valueOf_67 (lv_at hl 7 rfl) ?_
          refine lv_iload hx hb dX0_valueOf_69 (lv_at hl 6 rfl) ?_
          obtain ⟨r_6, σ_7, hc_8, h⟩ := bdI_ex h
          refine g_ci (g_runV (rest := [.int x7_4, .int x4]) C hH hl.1 cV_X0_80 7 (Nat.le_of_ble_eq_true rfl) rfl rfl (kX2_worthTo l D ad κ hst hc_8) ⟨rfl, rfl⟩ ⟨(Nat.le_of_ble_eq_true rfl), (Nat.le_of_ble_eq_true rfl)⟩ rfl rfl (Nat.le_of_ble_eq_true rfl) dX0_valueOf_71 z00) hH (fun H locs hH => ?_)
          refine lv_imul hx hb dX0_valueOf_74 ?_
          refine lv_iadd hx hb dX0_valueOf_75 ?_
          obtain ⟨x4_9, ex4_9, h⟩ := hl_ex h
          refine lv_eqi ex4_9 ?_
          refine lv_istore (lv' := [(4, .int x4_9), (7, .int x7_4), (0, .ref (ad 8)), (1, .ref (ad st)), (2, .int x2), (3, .int x3), (5, .int x5), (6, .int x6)]) hx hb dX0_valueOf_76 hl (by decide) rfl (fun ls hl => ?_)
          refine lv_iinc (v := (x6 + 1)) (lv' := [(6, .int (x6 + 1)), (4, .int x4_9), (7, .int x7_4), (0, .ref (ad 8)), (1, .ref (ad st)), (2, .int x2), (3, .int x3), (5, .int x5)]) hx hb dX0_valueOf_78 hl (k := 7) rfl rfl (by decide) rfl (fun ls hl => ?_)
          refine lv_goto (tgt := 16) hx hb dX0_valueOf_81 (by decide) ?_
          exact ih _ _ _ _ _ _ _ _ _ h hH (lv_sub hl [3, 4, 5, 6, 1, 7, 0] rfl)
set_option maxHeartbeats 4000000 in
set_option maxRecDepth 100000 in
theorem wX0_valueOf_6 (C : Cx 50 D ad κ p s m args meth c cX0_valueOf RX0 8 (some .int)) {st : Nat} (hst : isSt st) {R : (Int32 × HS)} : ∀ (f : Nat) (x2 : Int32) (x3 : Int32) (x4 : Int32) (x5 : Int32) (σ : HS) (H : Heap) (locs : List Loc) (ls : Array Slot), FX0_valueOf_6 st f x2 x3 x4 x5 σ = some R → Hd 50 ceX D ad κ s σ H locs → lv_has ls 8 [(0, .ref (ad 8)), (1, .ref (ad st)), (2, .int x2), (3, .int x3), (4, .int x4), (5, .int x5)] → W p l e ({ frames := 2, cells := 0, slots := 0, locals := 52 } : Room) s m args below meth c H locs 0 0 (MQ below (QI 50 ceX D ad κ R) args s 0 0 (AX 50 ad)) (F0 m 6 ls []) := by
  have hx := C.1
  have hb := C.2.1
  have hown := C.2.2.2.1
  have hts := C.2.2.2.2.1
  intro f
  induction f with
  | zero =>
    intro x2 x3 x4 x5 σ H locs ls h hH hl
    cases h
  | succ f ih =>
    intro x2 x3 x4 x5 σ H locs ls h hH hl
    rw [FX0_valueOf_6] at h
    refine lv_iload hx hb dX0_valueOf_6 (lv_at hl 5 rfl) ?_
    refine lv_bipush (v := 8) hx hb dX0_valueOf_8 (by decide) ?_
    refine lv_icmp_ge (tgt := 90) hx hb dX0_valueOf_10 (by decide) (fun hq_10 => ?_) (fun hq_10 => ?_)
    · rw [if_pos hq_10] at h
      refine lv_iload hx hb dX0_valueOf_90 (lv_at hl 4 rfl) ?_
      exact g_ret C hH h dX0_valueOf_92
    · rw [if_neg hq_10] at h
      refine lv_iconst (v := 0) hx hb dX0_valueOf_13 (by decide) ?_
      refine lv_istore (lv' := [(6, .int (0 : Int32)), (0, .ref (ad 8)), (1, .ref (ad st)), (2, .int x2), (3, .int x3), (4, .int x4), (5, .int x5)]) hx hb dX0_valueOf_14 hl (by decide) rfl (fun ls hl => ?_)
      exact wX0_valueOf_16 C hst ih _ _ _ _ _ _ _ _ _ _ h hH (lv_sub hl [1, 2, 3, 4, 5, 6, 0] rfl)
set_option maxHeartbeats 4000000 in
set_option maxRecDepth 100000 in
theorem kX0_valueOf (l : Launch) (D : va_G) (ad : Nat → Nat) (κ : KC) {st : Nat} (hst : isSt st) {x2 : Int32} {x3 : Int32} {σ : HS} {R : (Int32 × HS)} (h : FX0_valueOf st x2 x3 σ = some R) : MtI l 50 ceX D ad κ yX0_valueOf cX0_valueOf 8 (some .int) ({ frames := 2, cells := 0, slots := 0, locals := 52 } : Room) [.ref (ad 8), .ref (ad st), .int x2, .int x3] σ R := by
  refine open_ (by decide) (Nat.le_of_ble_eq_true rfl) (la := [(0, .ref (ad 8)), (1, .ref (ad st)), (2, .int x2), (3, .int x3)]) rfl ?_
  intro p e s m below meth c ls C hH hl
  replace C : Cx 50 D ad κ p s m _ meth c cX0_valueOf RX0 8 (some .int) := C
  have hx := C.1
  have hb := C.2.1
  have hown := C.2.2.2.1
  have hts := C.2.2.2.2.1
  rw [FX0_valueOf] at h
  refine lv_iconst (v := 0) hx hb dX0_valueOf_0 (by decide) ?_
  refine lv_istore (lv' := [(4, .int (0 : Int32)), (0, .ref (ad 8)), (1, .ref (ad st)), (2, .int x2), (3, .int x3)]) hx hb dX0_valueOf_1 hl (by decide) rfl (fun ls hl => ?_)
  refine lv_iconst (v := 0) hx hb dX0_valueOf_3 (by decide) ?_
  refine lv_istore (lv' := [(5, .int (0 : Int32)), (4, .int (0 : Int32)), (0, .ref (ad 8)), (1, .ref (ad st)), (2, .int x2), (3, .int x3)]) hx hb dX0_valueOf_4 hl (by decide) rfl (fun ls hl => ?_)
  exact wX0_valueOf_6 C hst _ _ _ _ _ _ _ _ _ h hH (lv_sub hl [2, 3, 4, 5, 1, 0] rfl)
-- X0_haveOf
def FX0_haveOf (st : Nat) (x2 : Int32) (σ : HS) : Option (Int32 × HS) :=
  bdI (FX7_partsOf st x2 σ) fun r_1 σ_2 => bdI (FX0_valueOf st x2 r_1 σ_2) fun r_4 σ_5 => some (r_4, σ_5)
set_option maxHeartbeats 4000000 in
set_option maxRecDepth 100000 in
theorem kX0_haveOf (l : Launch) (D : va_G) (ad : Nat → Nat) (κ : KC) {st : Nat} (hst : isSt st) {x2 : Int32} {σ : HS} {R : (Int32 × HS)} (h : FX0_haveOf st x2 σ = some R) : MtI l 50 ceX D ad κ yX0_haveOf cX0_haveOf 3 (some .int) ({ frames := 3, cells := 0, slots := 0, locals := 79 } : Room) [.ref (ad 8), .ref (ad st), .int x2] σ R := by
  refine open_ (by decide) (Nat.le_of_ble_eq_true rfl) (la := [(0, .ref (ad 8)), (1, .ref (ad st)), (2, .int x2)]) rfl ?_
  intro p e s m below meth c ls C hH hl
  replace C : Cx 50 D ad κ p s m _ meth c cX0_haveOf RX0 3 (some .int) := C
  have hx := C.1
  have hb := C.2.1
  have hown := C.2.2.2.1
  have hts := C.2.2.2.2.1
  rw [FX0_haveOf] at h
  refine lv_aload_n hx hb dX0_haveOf_0 rfl (lv_at hl 0 rfl) ?_
  refine lv_aload_n hx hb dX0_haveOf_1 rfl (lv_at hl 1 rfl) ?_
  refine lv_iload_n hx hb dX0_haveOf_2 rfl (lv_at hl 2 rfl) ?_
  refine lv_aload_n hx hb dX0_haveOf_3 rfl (lv_at hl 1 rfl) ?_
  refine lv_iload_n hx hb dX0_haveOf_4 rfl (lv_at hl 2 rfl) ?_
  obtain ⟨r_1, σ_2, hc_3, h⟩ := bdI_ex h
  refine g_ci (g_runV (rest := [.int x2, .ref (ad st), .ref (ad 8)]) C hH hl.1 cV_X0_84 st (st_lt hst) (st_ce hst) rfl (kX7_partsOf l D ad κ hst hc_3) ⟨rfl, rfl⟩ ⟨(Nat.le_of_ble_eq_true rfl), (Nat.le_of_ble_eq_true rfl)⟩ rfl rfl (Nat.le_of_ble_eq_true rfl) dX0_haveOf_5 z00) hH (fun H locs hH => ?_)
  obtain ⟨r_4, σ_5, hc_6, h⟩ := bdI_ex h
  refine g_ci (g_runV (rest := []) C hH hl.1 cV_X0_89 8 (Nat.le_of_ble_eq_true rfl) rfl rfl (kX0_valueOf l D ad κ hst hc_6) ⟨rfl, rfl⟩ ⟨(Nat.le_of_ble_eq_true rfl), (Nat.le_of_ble_eq_true rfl)⟩ rfl rfl (Nat.le_of_ble_eq_true rfl) dX0_haveOf_8 z00) hH (fun H locs hH => ?_)
  exact g_ret C hH h dX0_haveOf_11
-- X0_casesTogether
def FX0_casesTogether_19  : Nat → Int32 → Int32 → Int32 → Int32 → Int32 → HS → Option (Int32 × HS)
  | 0, _, _, _, _, _, _ => none
  | f + 1, x1, x2, x3, x4, x5, σ => if x2 ≤ x5 then some ((x3 + x4), σ) else gd (ix x5 10) (hl_ ((x4 / (4 : Int32)) * ((4 : Int32) - (σ.1 41 (x5.toNatClampNeg)))) fun x4_3 => FX0_casesTogether_19  f x1 x2 x3 x4_3 (x5 + 1) σ)
def FX0_casesTogether (x1 : Int32) (x2 : Int32) (σ : HS) : Option (Int32 × HS) :=
  bdI (FX0_casesIn x1 (7 : Int32) σ) fun r_4 σ_5 => hl_ ((σ_5.1 8 6) - r_4) fun x4_7 => FX0_casesTogether_19 fu x1 x2 r_4 x4_7 x1 σ_5
set_option maxHeartbeats 4000000 in
set_option maxRecDepth 100000 in
theorem wX0_casesTogether_19 (C : Cx 50 D ad κ p s m args meth c cX0_casesTogether RX0 6 (some .int)) {R : (Int32 × HS)} : ∀ (f : Nat) (x1 : Int32) (x2 : Int32) (x3 : Int32) (x4 : Int32) (x5 : Int32) (σ : HS) (H : Heap) (locs : List Loc) (ls : Array Slot), FX0_casesTogether_19  f x1 x2 x3 x4 x5 σ = some R → Hd 50 ceX D ad κ s σ H locs → lv_has ls 6 [(0, .ref (ad 8)), (1, .int x1), (2, .int x2), (3, .int x3), (4, .int x4), (5, .int x5)] → W p l e ({ frames := 1, cells := 0, slots := 0, locals := 22 } : Room) s m args below meth c H locs 0 0 (MQ below (QI 50 ceX D ad κ R) args s 0 0 (AX 50 ad)) (F0 m 19 ls []) := by
  have hx := C.1
  have hb := C.2.1
  have hown := C.2.2.2.1
  have hts := C.2.2.2.2.1
  intro f
  induction f with
  | zero =>
    intro x1 x2 x3 x4 x5 σ H locs ls h hH hl
    cases h
  | succ f ih =>
    intro x1 x2 x3 x4 x5 σ H locs ls h hH hl
    rw [FX0_casesTogether_19] at h
    refine lv_iload hx hb dX0_casesTogether_19 (lv_at hl 5 rfl) ?_
    refine lv_iload_n hx hb dX0_casesTogether_21 rfl (lv_at hl 2 rfl) ?_
    refine lv_icmp_ge (tgt := 47) hx hb dX0_casesTogether_22 (by decide) (fun hq_1 => ?_) (fun hq_1 => ?_)
    · rw [if_pos hq_1] at h
      refine lv_iload_n hx hb dX0_casesTogether_47 rfl (lv_at hl 3 rfl) ?_
      refine lv_iload hx hb dX0_casesTogether_48 (lv_at hl 4 rfl) ?_
      refine lv_iadd hx hb dX0_casesTogether_50 ?_
      exact g_ret C hH h dX0_casesTogether_51
    · rw [if_neg hq_1] at h
      refine lv_iload hx hb dX0_casesTogether_25 (lv_at hl 4 rfl) ?_
      refine lv_iconst (v := 4) hx hb dX0_casesTogether_27 (by decide) ?_
      refine lv_idiv hx hb dX0_casesTogether_28 (by decide) ?_
      refine lv_iconst (v := 4) hx hb dX0_casesTogether_29 (by decide) ?_
      refine lv_aload_n hx hb dX0_casesTogether_30 rfl (lv_at hl 0 rfl) ?_
      refine g_get C hH 8 (Nat.le_of_ble_eq_true rfl) rfl fl_X0_9 (v := .ref (ad 41)) rfl dX0_casesTogether_31 ?_
      refine lv_iload hx hb dX0_casesTogether_34 (lv_at hl 5 rfl) ?_
      obtain ⟨hi_2, h⟩ := gd_ex h
      refine g_iald C hH 41 (Nat.le_of_ble_eq_true rfl) rfl (k := (x5.toNatClampNeg)) rfl (ix_in hi_2) dX0_casesTogether_36 ?_
      refine lv_isub hx hb dX0_casesTogether_37 ?_
      refine lv_imul hx hb dX0_casesTogether_38 ?_
      obtain ⟨x4_3, ex4_3, h⟩ := hl_ex h
      refine lv_eqi ex4_3 ?_
      refine lv_istore (lv' := [(4, .int x4_3), (0, .ref (ad 8)), (1, .int x1), (2, .int x2), (3, .int x3), (5, .int x5)]) hx hb dX0_casesTogether_39 hl (by decide) rfl (fun ls hl => ?_)
      refine lv_iinc (v := (x5 + 1)) (lv' := [(5, .int (x5 + 1)), (4, .int x4_3), (0, .ref (ad 8)), (1, .int x1), (2, .int x2), (3, .int x3)]) hx hb dX0_casesTogether_41 hl (k := 5) rfl rfl (by decide) rfl (fun ls hl => ?_)
      refine lv_goto (tgt := 19) hx hb dX0_casesTogether_44 (by decide) ?_
      exact ih _ _ _ _ _ _ _ _ _ h hH (lv_sub hl [2, 3, 4, 5, 1, 0] rfl)
set_option maxHeartbeats 4000000 in
set_option maxRecDepth 100000 in
theorem kX0_casesTogether (l : Launch) (D : va_G) (ad : Nat → Nat) (κ : KC) {x1 : Int32} {x2 : Int32} {σ : HS} {R : (Int32 × HS)} (h : FX0_casesTogether x1 x2 σ = some R) : MtI l 50 ceX D ad κ yX0_casesTogether cX0_casesTogether 6 (some .int) ({ frames := 1, cells := 0, slots := 0, locals := 22 } : Room) [.ref (ad 8), .int x1, .int x2] σ R := by
  refine open_ (by decide) (Nat.le_of_ble_eq_true rfl) (la := [(0, .ref (ad 8)), (1, .int x1), (2, .int x2)]) rfl ?_
  intro p e s m below meth c ls C hH hl
  replace C : Cx 50 D ad κ p s m _ meth c cX0_casesTogether RX0 6 (some .int) := C
  have hx := C.1
  have hb := C.2.1
  have hown := C.2.2.2.1
  have hts := C.2.2.2.2.1
  rw [FX0_casesTogether] at h
  refine lv_aload_n hx hb dX0_casesTogether_0 rfl (lv_at hl 0 rfl) ?_
  refine lv_iload_n hx hb dX0_casesTogether_1 rfl (lv_at hl 1 rfl) ?_
  refine lv_bipush (v := 7) hx hb dX0_casesTogether_2 (by decide) ?_
  obtain ⟨r_4, σ_5, hc_6, h⟩ := bdI_ex h
  refine g_ci (g_runV (rest := []) C hH hl.1 cV_X0_77 8 (Nat.le_of_ble_eq_true rfl) rfl rfl (kX0_casesIn l D ad κ hc_6) ⟨rfl, rfl⟩ ⟨(Nat.le_of_ble_eq_true rfl), (Nat.le_of_ble_eq_true rfl)⟩ rfl rfl (Nat.le_of_ble_eq_true rfl) dX0_casesTogether_4 z00) hH (fun H locs hH => ?_)
  refine lv_istore_n (lv' := [(3, .int r_4), (0, .ref (ad 8)), (1, .int x1), (2, .int x2)]) hx hb dX0_casesTogether_7 rfl hl (by decide) rfl (fun ls hl => ?_)
  refine lv_aload_n hx hb dX0_casesTogether_8 rfl (lv_at hl 1 rfl) ?_
  refine g_get C hH 8 (Nat.le_of_ble_eq_true rfl) rfl fl_X0_38 (v := .int (σ_5.1 8 6)) rfl dX0_casesTogether_9 ?_
  refine lv_iload_n hx hb dX0_casesTogether_12 rfl (lv_at hl 0 rfl) ?_
  refine lv_isub hx hb dX0_casesTogether_13 ?_
  obtain ⟨x4_7, ex4_7, h⟩ := hl_ex h
  refine lv_eqi ex4_7 ?_
  refine lv_istore (lv' := [(4, .int x4_7), (3, .int r_4), (0, .ref (ad 8)), (1, .int x1), (2, .int x2)]) hx hb dX0_casesTogether_14 hl (by decide) rfl (fun ls hl => ?_)
  refine lv_iload_n hx hb dX0_casesTogether_16 rfl (lv_at hl 3 rfl) ?_
  refine lv_istore (lv' := [(5, .int x1), (4, .int x4_7), (3, .int r_4), (0, .ref (ad 8)), (1, .int x1), (2, .int x2)]) hx hb dX0_casesTogether_17 hl (by decide) rfl (fun ls hl => ?_)
  exact wX0_casesTogether_19 C _ _ _ _ _ _ _ _ _ _ h hH (lv_sub hl [3, 4, 5, 2, 1, 0] rfl)
-- X0_carryWays
def FX0_carryWays_18  : Nat → Int32 → Int32 → Int32 → Int32 → Int32 → Int32 → HS → Option HS
  | 0, _, _, _, _, _, _, _ => none
  | f + 1, x1, x2, x3, x4, x5, x6, σ => if (11 : Int32) ≤ (x6 + x3) then some σ else gd (ix (x4 + x6) 88) (hl_ ((σ.1 43 ((x4 + x6).toNatClampNeg)) / (4 : Int32)) fun x7_3 => gd (ix ((x4 + x6) + x3) 88) (gd (ix x1 10) (gd (ix ((x4 + x6) + x3) 88) (hl_ (pI σ 44 (((x4 + x6) + x3).toNatClampNeg) ((σ.1 44 (((x4 + x6) + x3).toNatClampNeg)) + (x7_3 * ((4 : Int32) - (σ.1 41 (x1.toNatClampNeg)))))) fun σ_7 => gd (ix ((x5 + x6) + x3) 88) (gd (ix x1 10) (gd (ix ((x5 + x6) + x3) 88) (hl_ (pI σ_7 44 (((x5 + x6) + x3).toNatClampNeg) ((σ_7.1 44 (((x5 + x6) + x3).toNatClampNeg)) + (x7_3 * (σ_7.1 41 (x1.toNatClampNeg))))) fun σ_11 => FX0_carryWays_18  f x1 x2 x3 x4 x5 (x6 + 1) σ_11)))))))
def FX0_carryWays (x1 : Int32) (x2 : Int32) (x3 : Int32) (σ : HS) : Option HS :=
  hl_ (x2 * (11 : Int32)) fun x4_12 => bdI (FX0_partBehind x2 σ) fun r_13 σ_14 => hl_ (r_13 * (11 : Int32)) fun x5_16 => FX0_carryWays_18 fu x1 x2 x3 x4_12 x5_16 (0 : Int32) σ_14
set_option maxHeartbeats 4000000 in
set_option maxRecDepth 100000 in
theorem wX0_carryWays_18 (C : Cx 50 D ad κ p s m args meth c cX0_carryWays RX0 8 none) {R : HS} : ∀ (f : Nat) (x1 : Int32) (x2 : Int32) (x3 : Int32) (x4 : Int32) (x5 : Int32) (x6 : Int32) (σ : HS) (H : Heap) (locs : List Loc) (ls : Array Slot), FX0_carryWays_18  f x1 x2 x3 x4 x5 x6 σ = some R → Hd 50 ceX D ad κ s σ H locs → lv_has ls 8 [(0, .ref (ad 8)), (1, .int x1), (2, .int x2), (3, .int x3), (4, .int x4), (5, .int x5), (6, .int x6)] → W p l e ({ frames := 1, cells := 0, slots := 0, locals := 20 } : Room) s m args below meth c H locs 0 0 (MQ below (QV 50 ceX D ad κ R) args s 0 0 (AX 50 ad)) (F0 m 18 ls []) := by
  have hx := C.1
  have hb := C.2.1
  have hown := C.2.2.2.1
  have hts := C.2.2.2.2.1
  intro f
  induction f with
  | zero =>
    intro x1 x2 x3 x4 x5 x6 σ H locs ls h hH hl
    cases h
  | succ f ih =>
    intro x1 x2 x3 x4 x5 x6 σ H locs ls h hH hl
    rw [FX0_carryWays_18] at h
    refine lv_iload hx hb dX0_carryWays_18 (lv_at hl 6 rfl) ?_
    refine lv_iload_n hx hb dX0_carryWays_20 rfl (lv_at hl 3 rfl) ?_
    refine lv_iadd hx hb dX0_carryWays_21 ?_
    refine lv_bipush (v := 11) hx hb dX0_carryWays_22 (by decide) ?_
    refine lv_icmp_ge (tgt := 97) hx hb dX0_carryWays_24 (by decide) (fun hq_1 => ?_) (fun hq_1 => ?_)
    · rw [if_pos hq_1] at h
      exact g_retV C hH h dX0_carryWays_97
    · rw [if_neg hq_1] at h
      refine lv_aload_n hx hb dX0_carryWays_27 rfl (lv_at hl 0 rfl) ?_
      refine g_get C hH 8 (Nat.le_of_ble_eq_true rfl) rfl fl_X0_18 (v := .ref (ad 43)) rfl dX0_carryWays_28 ?_
      refine lv_iload hx hb dX0_carryWays_31 (lv_at hl 4 rfl) ?_
      refine lv_iload hx hb dX0_carryWays_33 (lv_at hl 6 rfl) ?_
      refine lv_iadd hx hb dX0_carryWays_35 ?_
      obtain ⟨hi_2, h⟩ := gd_ex h
      refine g_iald C hH 43 (Nat.le_of_ble_eq_true rfl) rfl (k := ((x4 + x6).toNatClampNeg)) rfl (ix_in hi_2) dX0_carryWays_36 ?_
      refine lv_iconst (v := 4) hx hb dX0_carryWays_37 (by decide) ?_
      refine lv_idiv hx hb dX0_carryWays_38 (by decide) ?_
      obtain ⟨x7_3, ex7_3, h⟩ := hl_ex h
      refine lv_eqi ex7_3 ?_
      refine lv_istore (lv' := [(7, .int x7_3), (0, .ref (ad 8)), (1, .int x1), (2, .int x2), (3, .int x3), (4, .int x4), (5, .int x5), (6, .int x6)]) hx hb dX0_carryWays_39 hl (by decide) rfl (fun ls hl => ?_)
      refine lv_aload_n hx hb dX0_carryWays_41 rfl (lv_at hl 1 rfl) ?_
      refine g_get C hH 8 (Nat.le_of_ble_eq_true rfl) rfl fl_X0_21 (v := .ref (ad 44)) rfl dX0_carryWays_42 ?_
      refine lv_iload hx hb dX0_carryWays_45 (lv_at hl 5 rfl) ?_
      refine lv_iload hx hb dX0_carryWays_47 (lv_at hl 7 rfl) ?_
      refine lv_iadd hx hb dX0_carryWays_49 ?_
      refine lv_iload_n hx hb dX0_carryWays_50 rfl (lv_at hl 4 rfl) ?_
      refine lv_iadd hx hb dX0_carryWays_51 ?_
      refine lv_dup2_11 hx hb dX0_carryWays_52 rfl rfl ?_
      obtain ⟨hi_4, h⟩ := gd_ex h
      refine g_iald C hH 44 (Nat.le_of_ble_eq_true rfl) rfl (k := (((x4 + x6) + x3).toNatClampNeg)) rfl (ix_in hi_4) dX0_carryWays_53 ?_
      refine lv_iload hx hb dX0_carryWays_54 (lv_at hl 0 rfl) ?_
      refine lv_iconst (v := 4) hx hb dX0_carryWays_56 (by decide) ?_
      refine lv_aload_n hx hb dX0_carryWays_57 rfl (lv_at hl 1 rfl) ?_
      refine g_get C hH 8 (Nat.le_of_ble_eq_true rfl) rfl fl_X0_9 (v := .ref (ad 41)) rfl dX0_carryWays_58 ?_
      refine lv_iload_n hx hb dX0_carryWays_61 rfl (lv_at hl 2 rfl) ?_
      obtain ⟨hi_5, h⟩ := gd_ex h
      refine g_iald C hH 41 (Nat.le_of_ble_eq_true rfl) rfl (k := (x1.toNatClampNeg)) rfl (ix_in hi_5) dX0_carryWays_62 ?_
      refine lv_isub hx hb dX0_carryWays_63 ?_
      refine lv_imul hx hb dX0_carryWays_64 ?_
      refine lv_iadd hx hb dX0_carryWays_65 ?_
      obtain ⟨hi_6, h⟩ := gd_ex h
      obtain ⟨σ_7, eσ_7, h⟩ := hl_ex h
      refine g_iast C hH 44 (Nat.le_of_ble_eq_true rfl) (fun _ _ => rfl) (k := (((x4 + x6) + x3).toNatClampNeg)) rfl (ix_in hi_6) dX0_carryWays_66 (fun H locs hH => ?_)
      rw [← eσ_7] at hH
      refine lv_aload_n hx hb dX0_carryWays_67 rfl (lv_at hl 1 rfl) ?_
      refine g_get C hH 8 (Nat.le_of_ble_eq_true rfl) rfl fl_X0_21 (v := .ref (ad 44)) rfl dX0_carryWays_68 ?_
      refine lv_iload hx hb dX0_carryWays_71 (lv_at hl 6 rfl) ?_
      refine lv_iload hx hb dX0_carryWays_73 (lv_at hl 7 rfl) ?_
      refine lv_iadd hx hb dX0_carryWays_75 ?_
      refine lv_iload_n hx hb dX0_carryWays_76 rfl (lv_at hl 4 rfl) ?_
      refine lv_iadd hx hb dX0_carryWays_77 ?_
      refine lv_dup2_11 hx hb dX0_carryWays_78 rfl rfl ?_
      obtain ⟨hi_8, h⟩ := gd_ex h
      refine g_iald C hH 44 (Nat.le_of_ble_eq_true rfl) rfl (k := (((x5 + x6) + x3).toNatClampNeg)) rfl (ix_in hi_8) dX0_carryWays_79 ?_
      refine lv_iload hx hb dX0_carryWays_80 (lv_at hl 0 rfl) ?_
      refine lv_aload_n hx hb dX0_carryWays_82 rfl (lv_at hl 1 rfl) ?_
      refine g_get C hH 8 (Nat.le_of_ble_eq_true rfl) rfl fl_X0_9 (v := .ref (ad 41)) rfl dX0_carryWays_83 ?_
      refine lv_iload_n hx hb dX0_carryWays_86 rfl (lv_at hl 2 rfl) ?_
      obtain ⟨hi_9, h⟩ := gd_ex h
      refine g_iald C hH 41 (Nat.le_of_ble_eq_true rfl) rfl (k := (x1.toNatClampNeg)) rfl (ix_in hi_9) dX0_carryWays_87 ?_
      refine lv_imul hx hb dX0_carryWays_88 ?_
      refine lv_iadd hx hb dX0_carryWays_89 ?_
      obtain ⟨hi_10, h⟩ := gd_ex h
      obtain ⟨σ_11, eσ_11, h⟩ := hl_ex h
      refine g_iast C hH 44 (Nat.le_of_ble_eq_true rfl) (fun _ _ => rfl) (k := (((x5 + x6) + x3).toNatClampNeg)) rfl (ix_in hi_10) dX0_carryWays_90 (fun H locs hH => ?_)
      rw [← eσ_11] at hH
      refine lv_iinc (v := (x6 + 1)) (lv' := [(6, .int (x6 + 1)), (7, .int x7_3), (0, .ref (ad 8)), (1, .int x1), (2, .int x2), (3, .int x3), (4, .int x4), (5, .int x5)]) hx hb dX0_carryWays_91 hl (k := 7) rfl rfl (by decide) rfl (fun ls hl => ?_)
      refine lv_goto (tgt := 18) hx hb dX0_carryWays_94 (by decide) ?_
      exact ih _ _ _ _ _ _ _ _ _ _ h hH (lv_sub hl [2, 3, 4, 5, 6, 7, 0] rfl)
set_option maxHeartbeats 4000000 in
set_option maxRecDepth 100000 in
theorem kX0_carryWays (l : Launch) (D : va_G) (ad : Nat → Nat) (κ : KC) {x1 : Int32} {x2 : Int32} {x3 : Int32} {σ : HS} {R : HS} (h : FX0_carryWays x1 x2 x3 σ = some R) : MtV l 50 ceX D ad κ yX0_carryWays cX0_carryWays 8 none ({ frames := 1, cells := 0, slots := 0, locals := 20 } : Room) [.ref (ad 8), .int x1, .int x2, .int x3] σ R := by
  refine open_ (by decide) (Nat.le_of_ble_eq_true rfl) (la := [(0, .ref (ad 8)), (1, .int x1), (2, .int x2), (3, .int x3)]) rfl ?_
  intro p e s m below meth c ls C hH hl
  replace C : Cx 50 D ad κ p s m _ meth c cX0_carryWays RX0 8 none := C
  have hx := C.1
  have hb := C.2.1
  have hown := C.2.2.2.1
  have hts := C.2.2.2.2.1
  rw [FX0_carryWays] at h
  refine lv_iload_n hx hb dX0_carryWays_0 rfl (lv_at hl 2 rfl) ?_
  refine lv_bipush (v := 11) hx hb dX0_carryWays_1 (by decide) ?_
  refine lv_imul hx hb dX0_carryWays_3 ?_
  obtain ⟨x4_12, ex4_12, h⟩ := hl_ex h
  refine lv_eqi ex4_12 ?_
  refine lv_istore (lv' := [(4, .int x4_12), (0, .ref (ad 8)), (1, .int x1), (2, .int x2), (3, .int x3)]) hx hb dX0_carryWays_4 hl (by decide) rfl (fun ls hl => ?_)
  refine lv_iload_n hx hb dX0_carryWays_6 rfl (lv_at hl 3 rfl) ?_
  obtain ⟨r_13, σ_14, hc_15, h⟩ := bdI_ex h
  refine g_ci (g_runS (rest := []) C hH hl.1 cS_X0_62 (kX0_partBehind l D ad κ hc_15) ⟨rfl, rfl⟩ ⟨(Nat.le_of_ble_eq_true rfl), (Nat.le_of_ble_eq_true rfl)⟩ rfl rfl (Nat.le_of_ble_eq_true rfl) dX0_carryWays_7 z00) hH (fun H locs hH => ?_)
  refine lv_bipush (v := 11) hx hb dX0_carryWays_10 (by decide) ?_
  refine lv_imul hx hb dX0_carryWays_12 ?_
  obtain ⟨x5_16, ex5_16, h⟩ := hl_ex h
  refine lv_eqi ex5_16 ?_
  refine lv_istore (lv' := [(5, .int x5_16), (4, .int x4_12), (0, .ref (ad 8)), (1, .int x1), (2, .int x2), (3, .int x3)]) hx hb dX0_carryWays_13 hl (by decide) rfl (fun ls hl => ?_)
  refine lv_iconst (v := 0) hx hb dX0_carryWays_15 (by decide) ?_
  refine lv_istore (lv' := [(6, .int (0 : Int32)), (5, .int x5_16), (4, .int x4_12), (0, .ref (ad 8)), (1, .int x1), (2, .int x2), (3, .int x3)]) hx hb dX0_carryWays_16 hl (by decide) rfl (fun ls hl => ?_)
  exact wX0_carryWays_18 C _ _ _ _ _ _ _ _ _ _ _ h hH (lv_sub hl [3, 4, 5, 6, 2, 1, 0] rfl)
-- X0_casesHolding
def FX0_casesHolding_64 (k20 : Int32 → Int32 → Int32 → HS → Option (Int32 × HS)) (k42 : Int32 → Int32 → Int32 → Int32 → HS → Option (Int32 × HS)) (x1 : Int32) (x2 : Int32) (x3 : Int32) (x4 : Int32) (y1 : Int32) (y2 : Int32) (y3 : Int32) (σ : HS) : Option (Int32 × HS) :=
  bdV (FX0_carryWays y1 y2 y3 σ) fun σ_1 => k42 x1 x2 x3 (x4 + 1) σ_1
def FX0_casesHolding_42 (k20 : Int32 → Int32 → Int32 → HS → Option (Int32 × HS)) : Nat → Int32 → Int32 → Int32 → Int32 → HS → Option (Int32 × HS)
  | 0, _, _, _, _, _ => none
  | f + 1, x1, x2, x3, x4, σ => if (8 : Int32) ≤ x4 then hl_ (rI σ 43 (va_cpy (σ.1 44) (σ.1 43) 0 0 88)) fun σ_4 => k20 x1 x2 (x3 + 1) σ_4 else if x4 = x1 then FX0_casesHolding_64 k20 (FX0_casesHolding_42 k20 f) x1 x2 x3 x4 x3 x4 (1 : Int32) σ else FX0_casesHolding_64 k20 (FX0_casesHolding_42 k20 f) x1 x2 x3 x4 x3 x4 (0 : Int32) σ
def FX0_casesHolding_102  : Nat → Int32 → Int32 → Int32 → Int32 → HS → Option (Int32 × HS)
  | 0, _, _, _, _, _ => none
  | f + 1, x1, x2, x3, x4, σ => if (8 : Int32) ≤ x4 then some (x3, σ) else gd (ix ((x4 * (11 : Int32)) + x2) 88) (hl_ (x3 + (σ.1 43 (((x4 * (11 : Int32)) + x2).toNatClampNeg))) fun x3_8 => FX0_casesHolding_102  f x1 x2 x3_8 (x4 + 1) σ)
def FX0_casesHolding_20  : Nat → Int32 → Int32 → Int32 → HS → Option (Int32 × HS)
  | 0, _, _, _, _ => none
  | f + 1, x1, x2, x3, σ => if (σ.1 3 0) ≤ x3 then FX0_casesHolding_102 fu x1 x2 (0 : Int32) (0 : Int32) σ else bdV (FJ7_fill_53178 44 88 (0 : Int32) σ) fun σ_10 => FX0_casesHolding_42 (FX0_casesHolding_20  f) fu x1 x2 x3 (0 : Int32) σ_10
def FX0_casesHolding (x1 : Int32) (x2 : Int32) (σ : HS) : Option (Int32 × HS) :=
  bdV (FJ7_fill_53178 43 88 (0 : Int32) σ) fun σ_12 => hl_ (pI σ_12 43 0 (σ_12.1 8 6)) fun σ_14 => FX0_casesHolding_20 fu x1 x2 (0 : Int32) σ_14
set_option maxHeartbeats 4000000 in
set_option maxRecDepth 100000 in
theorem wX0_casesHolding_64 (C : Cx 50 D ad κ p s m args meth c cX0_casesHolding RX0 5 (some .int)) {R : (Int32 × HS)} {k20 : Int32 → Int32 → Int32 → HS → Option (Int32 × HS)} (K20 : ∀ (x1 : Int32) (x2 : Int32) (x3 : Int32) (σ : HS) (H : Heap) (locs : List Loc) (ls : Array Slot), k20 x1 x2 x3 σ = some R → Hd 50 ceX D ad κ s σ H locs → lv_has ls 5 [(0, .ref (ad 8)), (1, .int x1), (2, .int x2), (3, .int x3)] → W p l e ({ frames := 2, cells := 0, slots := 0, locals := 47 } : Room) s m args below meth c H locs 0 0 (MQ below (QI 50 ceX D ad κ R) args s 0 0 (AX 50 ad)) (F0 m 20 ls [])) {k42 : Int32 → Int32 → Int32 → Int32 → HS → Option (Int32 × HS)} (K42 : ∀ (x1 : Int32) (x2 : Int32) (x3 : Int32) (x4 : Int32) (σ : HS) (H : Heap) (locs : List Loc) (ls : Array Slot), k42 x1 x2 x3 x4 σ = some R → Hd 50 ceX D ad κ s σ H locs → lv_has ls 5 [(0, .ref (ad 8)), (1, .int x1), (2, .int x2), (3, .int x3), (4, .int x4)] → W p l e ({ frames := 2, cells := 0, slots := 0, locals := 47 } : Room) s m args below meth c H locs 0 0 (MQ below (QI 50 ceX D ad κ R) args s 0 0 (AX 50 ad)) (F0 m 42 ls [])) : ∀ (x1 : Int32) (x2 : Int32) (x3 : Int32) (x4 : Int32) (y1 : Int32) (y2 : Int32) (y3 : Int32) (σ : HS) (H : Heap) (locs : List Loc) (ls : Array Slot), FX0_casesHolding_64 k20 k42 x1 x2 x3 x4 y1 y2 y3 σ = some R → Hd 50 ceX D ad κ s σ H locs → lv_has ls 5 [(0, .ref (ad 8)), (1, .int x1), (2, .int x2), (3, .int x3), (4, .int x4)] → W p l e ({ frames := 2, cells := 0, slots := 0, locals := 47 } : Room) s m args below meth c H locs 0 0 (MQ below (QI 50 ceX D ad κ R) args s 0 0 (AX 50 ad)) (F0 m 64 ls [.int y3, .int y2, .int y1, .ref (ad 8)]) := by
  have hx := C.1
  have hb := C.2.1
  have hown := C.2.2.2.1
  have hts := C.2.2.2.2.1
  intro x1 x2 x3 x4 y1 y2 y3 σ H locs ls h hH hl
  rw [FX0_casesHolding_64] at h
  obtain ⟨σ_1, hc_2, h⟩ := bdV_ex h
  refine g_cv (g_runV (rest := []) C hH hl.1 cV_X0_93 8 (Nat.le_of_ble_eq_true rfl) rfl rfl (kX0_carryWays l D ad κ hc_2) ⟨rfl, rfl⟩ ⟨(Nat.le_of_ble_eq_true rfl), (Nat.le_of_ble_eq_true rfl)⟩ rfl rfl (Nat.le_of_ble_eq_true rfl) dX0_casesHolding_64 z00) hH (fun H locs hH => ?_)
  refine lv_iinc (v := (x4 + 1)) (lv' := [(4, .int (x4 + 1)), (0, .ref (ad 8)), (1, .int x1), (2, .int x2), (3, .int x3)]) hx hb dX0_casesHolding_67 hl (k := 4) rfl rfl (by decide) rfl (fun ls hl => ?_)
  refine lv_goto (tgt := 42) hx hb dX0_casesHolding_70 (by decide) ?_
  exact K42 _ _ _ _ _ _ _ _ h hH (lv_sub hl [1, 2, 3, 4, 0] rfl)
set_option maxHeartbeats 4000000 in
set_option maxRecDepth 100000 in
theorem wX0_casesHolding_42 (C : Cx 50 D ad κ p s m args meth c cX0_casesHolding RX0 5 (some .int)) {R : (Int32 × HS)} {k20 : Int32 → Int32 → Int32 → HS → Option (Int32 × HS)} (K20 : ∀ (x1 : Int32) (x2 : Int32) (x3 : Int32) (σ : HS) (H : Heap) (locs : List Loc) (ls : Array Slot), k20 x1 x2 x3 σ = some R → Hd 50 ceX D ad κ s σ H locs → lv_has ls 5 [(0, .ref (ad 8)), (1, .int x1), (2, .int x2), (3, .int x3)] → W p l e ({ frames := 2, cells := 0, slots := 0, locals := 47 } : Room) s m args below meth c H locs 0 0 (MQ below (QI 50 ceX D ad κ R) args s 0 0 (AX 50 ad)) (F0 m 20 ls [])) : ∀ (f : Nat) (x1 : Int32) (x2 : Int32) (x3 : Int32) (x4 : Int32) (σ : HS) (H : Heap) (locs : List Loc) (ls : Array Slot), FX0_casesHolding_42 k20 f x1 x2 x3 x4 σ = some R → Hd 50 ceX D ad κ s σ H locs → lv_has ls 5 [(0, .ref (ad 8)), (1, .int x1), (2, .int x2), (3, .int x3), (4, .int x4)] → W p l e ({ frames := 2, cells := 0, slots := 0, locals := 47 } : Room) s m args below meth c H locs 0 0 (MQ below (QI 50 ceX D ad κ R) args s 0 0 (AX 50 ad)) (F0 m 42 ls []) := by
  have hx := C.1
  have hb := C.2.1
  have hown := C.2.2.2.1
  have hts := C.2.2.2.2.1
  intro f
  induction f with
  | zero =>
    intro x1 x2 x3 x4 σ H locs ls h hH hl
    cases h
  | succ f ih =>
    intro x1 x2 x3 x4 σ H locs ls h hH hl
    rw [FX0_casesHolding_42] at h
    refine lv_iload hx hb dX0_casesHolding_42 (lv_at hl 4 rfl) ?_
    refine lv_bipush (v := 8) hx hb dX0_casesHolding_44 (by decide) ?_
    refine lv_icmp_ge (tgt := 73) hx hb dX0_casesHolding_46 (by decide) (fun hq_3 => ?_) (fun hq_3 => ?_)
    · rw [if_pos hq_3] at h
      refine lv_aload_n hx hb dX0_casesHolding_73 rfl (lv_at hl 0 rfl) ?_
      refine g_get C hH 8 (Nat.le_of_ble_eq_true rfl) rfl fl_X0_21 (v := .ref (ad 44)) rfl dX0_casesHolding_74 ?_
      refine lv_iconst (v := 0) hx hb dX0_casesHolding_77 (by decide) ?_
      refine lv_aload_n hx hb dX0_casesHolding_78 rfl (lv_at hl 0 rfl) ?_
      refine g_get C hH 8 (Nat.le_of_ble_eq_true rfl) rfl fl_X0_18 (v := .ref (ad 43)) rfl dX0_casesHolding_79 ?_
      refine lv_iconst (v := 0) hx hb dX0_casesHolding_82 (by decide) ?_
      refine lv_aload_n hx hb dX0_casesHolding_83 rfl (lv_at hl 0 rfl) ?_
      refine g_get C hH 8 (Nat.le_of_ble_eq_true rfl) rfl fl_X0_18 (v := .ref (ad 43)) rfl dX0_casesHolding_84 ?_
      refine g_alen C hH 43 0 (Nat.le_of_ble_eq_true rfl) rfl rfl (v := (88 : Int32)) rfl dX0_casesHolding_87 ?_
      obtain ⟨σ_4, eσ_4, h⟩ := hl_ex h
      refine g_copy C hH hl.1 44 43 (Nat.le_of_ble_eq_true rfl) (Nat.le_of_ble_eq_true rfl) rfl (fun _ _ => rfl) kcp_X0_97 kcn kcs kci (a := 0) (b := 0) (d := 88) (by decide) (by decide) (by decide) (by decide) (by decide) (by decide) (Nat.le_of_ble_eq_true rfl) (Nat.le_of_ble_eq_true rfl) (Nat.le_of_ble_eq_true rfl) (Nat.le_of_ble_eq_true rfl) dX0_casesHolding_88 (fun H locs hH => ?_)
      rw [← eσ_4] at hH
      refine lv_iinc (v := (x3 + 1)) (lv' := [(3, .int (x3 + 1)), (0, .ref (ad 8)), (1, .int x1), (2, .int x2), (4, .int x4)]) hx hb dX0_casesHolding_91 hl (k := 3) rfl rfl (by decide) rfl (fun ls hl => ?_)
      refine lv_goto (tgt := 20) hx hb dX0_casesHolding_94 (by decide) ?_
      exact K20 _ _ _ _ _ _ _ h hH (lv_sub hl [1, 2, 3, 0] rfl)
    · rw [if_neg hq_3] at h
      refine lv_aload_n hx hb dX0_casesHolding_49 rfl (lv_at hl 0 rfl) ?_
      refine lv_iload_n hx hb dX0_casesHolding_50 rfl (lv_at hl 3 rfl) ?_
      refine lv_iload hx hb dX0_casesHolding_51 (lv_at hl 4 rfl) ?_
      refine lv_iload hx hb dX0_casesHolding_53 (lv_at hl 4 rfl) ?_
      refine lv_iload_n hx hb dX0_casesHolding_55 rfl (lv_at hl 1 rfl) ?_
      refine lv_icmp_ne (tgt := 63) hx hb dX0_casesHolding_56 (by decide) (fun hq_5 => ?_) (fun hq_5 => ?_)
      · rw [if_neg hq_5] at h
        refine lv_iconst (v := 0) hx hb dX0_casesHolding_63 (by decide) ?_
        exact wX0_casesHolding_64 C K20 ih  _ _ _ _ _ _ _ _ _ _ _ h hH (lv_sub hl [0, 1, 2, 3, 4] rfl)
      · rw [if_pos hq_5] at h
        refine lv_iconst (v := 1) hx hb dX0_casesHolding_59 (by decide) ?_
        refine lv_goto (tgt := 64) hx hb dX0_casesHolding_60 (by decide) ?_
        exact wX0_casesHolding_64 C K20 ih  _ _ _ _ _ _ _ _ _ _ _ h hH (lv_sub hl [0, 1, 2, 3, 4] rfl)
set_option maxHeartbeats 4000000 in
set_option maxRecDepth 100000 in
theorem wX0_casesHolding_102 (C : Cx 50 D ad κ p s m args meth c cX0_casesHolding RX0 5 (some .int)) {R : (Int32 × HS)} : ∀ (f : Nat) (x1 : Int32) (x2 : Int32) (x3 : Int32) (x4 : Int32) (σ : HS) (H : Heap) (locs : List Loc) (ls : Array Slot), FX0_casesHolding_102  f x1 x2 x3 x4 σ = some R → Hd 50 ceX D ad κ s σ H locs → lv_has ls 5 [(0, .ref (ad 8)), (1, .int x1), (2, .int x2), (3, .int x3), (4, .int x4)] → W p l e ({ frames := 2, cells := 0, slots := 0, locals := 47 } : Room) s m args below meth c H locs 0 0 (MQ below (QI 50 ceX D ad κ R) args s 0 0 (AX 50 ad)) (F0 m 102 ls []) := by
  have hx := C.1
  have hb := C.2.1
  have hown := C.2.2.2.1
  have hts := C.2.2.2.2.1
  intro f
  induction f with
  | zero =>
    intro x1 x2 x3 x4 σ H locs ls h hH hl
    cases h
  | succ f ih =>
    intro x1 x2 x3 x4 σ H locs ls h hH hl
    rw [FX0_casesHolding_102] at h
    refine lv_iload hx hb dX0_casesHolding_102 (lv_at hl 4 rfl) ?_
    refine lv_bipush (v := 8) hx hb dX0_casesHolding_104 (by decide) ?_
    refine lv_icmp_ge (tgt := 130) hx hb dX0_casesHolding_106 (by decide) (fun hq_6 => ?_) (fun hq_6 => ?_)
    · rw [if_pos hq_6] at h
      refine lv_iload_n hx hb dX0_casesHolding_130 rfl (lv_at hl 3 rfl) ?_
      exact g_ret C hH h dX0_casesHolding_131
    · rw [if_neg hq_6] at h
      refine lv_iload_n hx hb dX0_casesHolding_109 rfl (lv_at hl 3 rfl) ?_
      refine lv_aload_n hx hb dX0_casesHolding_110 rfl (lv_at hl 0 rfl) ?_
      refine g_get C hH 8 (Nat.le_of_ble_eq_true rfl) rfl fl_X0_18 (v := .ref (ad 43)) rfl dX0_casesHolding_111 ?_
      refine lv_iload hx hb dX0_casesHolding_114 (lv_at hl 4 rfl) ?_
      refine lv_bipush (v := 11) hx hb dX0_casesHolding_116 (by decide) ?_
      refine lv_imul hx hb dX0_casesHolding_118 ?_
      refine lv_iload_n hx hb dX0_casesHolding_119 rfl (lv_at hl 2 rfl) ?_
      refine lv_iadd hx hb dX0_casesHolding_120 ?_
      obtain ⟨hi_7, h⟩ := gd_ex h
      refine g_iald C hH 43 (Nat.le_of_ble_eq_true rfl) rfl (k := (((x4 * (11 : Int32)) + x2).toNatClampNeg)) rfl (ix_in hi_7) dX0_casesHolding_121 ?_
      refine lv_iadd hx hb dX0_casesHolding_122 ?_
      obtain ⟨x3_8, ex3_8, h⟩ := hl_ex h
      refine lv_eqi ex3_8 ?_
      refine lv_istore_n (lv' := [(3, .int x3_8), (0, .ref (ad 8)), (1, .int x1), (2, .int x2), (4, .int x4)]) hx hb dX0_casesHolding_123 rfl hl (by decide) rfl (fun ls hl => ?_)
      refine lv_iinc (v := (x4 + 1)) (lv' := [(4, .int (x4 + 1)), (3, .int x3_8), (0, .ref (ad 8)), (1, .int x1), (2, .int x2)]) hx hb dX0_casesHolding_124 hl (k := 4) rfl rfl (by decide) rfl (fun ls hl => ?_)
      refine lv_goto (tgt := 102) hx hb dX0_casesHolding_127 (by decide) ?_
      exact ih _ _ _ _ _ _ _ _ h hH (lv_sub hl [2, 3, 4, 1, 0] rfl)
set_option maxHeartbeats 4000000 in
set_option maxRecDepth 100000 in
theorem wX0_casesHolding_20 (C : Cx 50 D ad κ p s m args meth c cX0_casesHolding RX0 5 (some .int)) {R : (Int32 × HS)} : ∀ (f : Nat) (x1 : Int32) (x2 : Int32) (x3 : Int32) (σ : HS) (H : Heap) (locs : List Loc) (ls : Array Slot), FX0_casesHolding_20  f x1 x2 x3 σ = some R → Hd 50 ceX D ad κ s σ H locs → lv_has ls 5 [(0, .ref (ad 8)), (1, .int x1), (2, .int x2), (3, .int x3)] → W p l e ({ frames := 2, cells := 0, slots := 0, locals := 47 } : Room) s m args below meth c H locs 0 0 (MQ below (QI 50 ceX D ad κ R) args s 0 0 (AX 50 ad)) (F0 m 20 ls []) := by
  have hx := C.1
  have hb := C.2.1
  have hown := C.2.2.2.1
  have hts := C.2.2.2.2.1
  intro f
  induction f with
  | zero =>
    intro x1 x2 x3 σ H locs ls h hH hl
    cases h
  | succ f ih =>
    intro x1 x2 x3 σ H locs ls h hH hl
    rw [FX0_casesHolding_20] at h
    refine lv_iload_n hx hb dX0_casesHolding_20 rfl (lv_at hl 3 rfl) ?_
    refine lv_aload_n hx hb dX0_casesHolding_21 rfl (lv_at hl 0 rfl) ?_
    refine g_get C hH 8 (Nat.le_of_ble_eq_true rfl) rfl fl_X0_24 (v := .ref (ad 3)) rfl dX0_casesHolding_22 ?_
    refine g_get C hH 3 (Nat.le_of_ble_eq_true rfl) rfl fl_X0_32 (v := .int (σ.1 3 0)) rfl dX0_casesHolding_25 ?_
    refine lv_icmp_ge (tgt := 97) hx hb dX0_casesHolding_28 (by decide) (fun hq_9 => ?_) (fun hq_9 => ?_)
    · rw [if_pos hq_9] at h
      refine lv_iconst (v := 0) hx hb dX0_casesHolding_97 (by decide) ?_
      refine lv_istore_n (lv' := [(3, .int (0 : Int32)), (0, .ref (ad 8)), (1, .int x1), (2, .int x2)]) hx hb dX0_casesHolding_98 rfl hl (by decide) rfl (fun ls hl => ?_)
      refine lv_iconst (v := 0) hx hb dX0_casesHolding_99 (by decide) ?_
      refine lv_istore (lv' := [(4, .int (0 : Int32)), (3, .int (0 : Int32)), (0, .ref (ad 8)), (1, .int x1), (2, .int x2)]) hx hb dX0_casesHolding_100 hl (by decide) rfl (fun ls hl => ?_)
      exact wX0_casesHolding_102 C _ _ _ _ _ _ _ _ _ h hH (lv_sub hl [2, 3, 4, 1, 0] rfl)
    · rw [if_neg hq_9] at h
      refine lv_aload_n hx hb dX0_casesHolding_31 rfl (lv_at hl 0 rfl) ?_
      refine g_get C hH 8 (Nat.le_of_ble_eq_true rfl) rfl fl_X0_21 (v := .ref (ad 44)) rfl dX0_casesHolding_32 ?_
      refine lv_iconst (v := 0) hx hb dX0_casesHolding_35 (by decide) ?_
      obtain ⟨σ_10, hc_11, h⟩ := bdV_ex h
      refine g_cv (g_runS (rest := []) C hH hl.1 cS_X0_56 (kJ7_fill_53178 l D ad κ (Nat.le_of_ble_eq_true rfl) (fun _ _ => rfl) hc_11) ⟨rfl, rfl⟩ ⟨(Nat.le_of_ble_eq_true rfl), (Nat.le_of_ble_eq_true rfl)⟩ rfl rfl (Nat.le_of_ble_eq_true rfl) dX0_casesHolding_36 z00) hH (fun H locs hH => ?_)
      refine lv_iconst (v := 0) hx hb dX0_casesHolding_39 (by decide) ?_
      refine lv_istore (lv' := [(4, .int (0 : Int32)), (0, .ref (ad 8)), (1, .int x1), (2, .int x2), (3, .int x3)]) hx hb dX0_casesHolding_40 hl (by decide) rfl (fun ls hl => ?_)
      exact wX0_casesHolding_42 C ih _ _ _ _ _ _ _ _ _ h hH (lv_sub hl [1, 2, 3, 4, 0] rfl)
set_option maxHeartbeats 4000000 in
set_option maxRecDepth 100000 in
theorem kX0_casesHolding (l : Launch) (D : va_G) (ad : Nat → Nat) (κ : KC) {x1 : Int32} {x2 : Int32} {σ : HS} {R : (Int32 × HS)} (h : FX0_casesHolding x1 x2 σ = some R) : MtI l 50 ceX D ad κ yX0_casesHolding cX0_casesHolding 5 (some .int) ({ frames := 2, cells := 0, slots := 0, locals := 47 } : Room) [.ref (ad 8), .int x1, .int x2] σ R := by
  refine open_ (by decide) (Nat.le_of_ble_eq_true rfl) (la := [(0, .ref (ad 8)), (1, .int x1), (2, .int x2)]) rfl ?_
  intro p e s m below meth c ls C hH hl
  replace C : Cx 50 D ad κ p s m _ meth c cX0_casesHolding RX0 5 (some .int) := C
  have hx := C.1
  have hb := C.2.1
  have hown := C.2.2.2.1
  have hts := C.2.2.2.2.1
  rw [FX0_casesHolding] at h
  refine lv_aload_n hx hb dX0_casesHolding_0 rfl (lv_at hl 0 rfl) ?_
  refine g_get C hH 8 (Nat.le_of_ble_eq_true rfl) rfl fl_X0_18 (v := .ref (ad 43)) rfl dX0_casesHolding_1 ?_
  refine lv_iconst (v := 0) hx hb dX0_casesHolding_4 (by decide) ?_
  obtain ⟨σ_12, hc_13, h⟩ := bdV_ex h
  refine g_cv (g_runS (rest := []) C hH hl.1 cS_X0_56 (kJ7_fill_53178 l D ad κ (Nat.le_of_ble_eq_true rfl) (fun _ _ => rfl) hc_13) ⟨rfl, rfl⟩ ⟨(Nat.le_of_ble_eq_true rfl), (Nat.le_of_ble_eq_true rfl)⟩ rfl rfl (Nat.le_of_ble_eq_true rfl) dX0_casesHolding_5 z00) hH (fun H locs hH => ?_)
  refine lv_aload_n hx hb dX0_casesHolding_8 rfl (lv_at hl 0 rfl) ?_
  refine g_get C hH 8 (Nat.le_of_ble_eq_true rfl) rfl fl_X0_18 (v := .ref (ad 43)) rfl dX0_casesHolding_9 ?_
  refine lv_iconst (v := 0) hx hb dX0_casesHolding_12 (by decide) ?_
  refine lv_aload_n hx hb dX0_casesHolding_13 rfl (lv_at hl 0 rfl) ?_
  refine g_get C hH 8 (Nat.le_of_ble_eq_true rfl) rfl fl_X0_38 (v := .int (σ_12.1 8 6)) rfl dX0_casesHolding_14 ?_
  obtain ⟨σ_14, eσ_14, h⟩ := hl_ex h
  refine g_iast C hH 43 (Nat.le_of_ble_eq_true rfl) (fun _ _ => rfl) (k := 0) (by decide) (ix_in rfl) dX0_casesHolding_17 (fun H locs hH => ?_)
  rw [← eσ_14] at hH
  refine lv_iconst (v := 0) hx hb dX0_casesHolding_18 (by decide) ?_
  refine lv_istore_n (lv' := [(3, .int (0 : Int32)), (0, .ref (ad 8)), (1, .int x1), (2, .int x2)]) hx hb dX0_casesHolding_19 rfl hl (by decide) rfl (fun ls hl => ?_)
  exact wX0_casesHolding_20 C _ _ _ _ _ _ _ _ h hH (lv_sub hl [1, 2, 3, 0] rfl)
-- X4_stir
def FX4_stir (x0 : Int32) (x1 : Int32) (σ : HS) : Option (Int32 × HS) :=
  hl_ (((x0 ^^^ x1) * (1103515245 : Int32)) + (12345 : Int32)) fun x2_1 => some ((x2_1 ^^^ (ushr x2_1 (15 : Int32))), σ)
set_option maxHeartbeats 4000000 in
set_option maxRecDepth 100000 in
theorem kX4_stir (l : Launch) (D : va_G) (ad : Nat → Nat) (κ : KC) {x0 : Int32} {x1 : Int32} {σ : HS} {R : (Int32 × HS)} (h : FX4_stir x0 x1 σ = some R) : MtI l 50 ceX D ad κ yX4_stir cX4_stir 3 (some .int) ({ frames := 0, cells := 0, slots := 0, locals := 0 } : Room) [.int x0, .int x1] σ R := by
  refine open_ (by decide) (Nat.le_of_ble_eq_true rfl) (la := [(0, .int x0), (1, .int x1)]) rfl ?_
  intro p e s m below meth c ls C hH hl
  replace C : Cx 50 D ad κ p s m _ meth c cX4_stir RX4 3 (some .int) := C
  have hx := C.1
  have hb := C.2.1
  have hown := C.2.2.2.1
  have hts := C.2.2.2.2.1
  rw [FX4_stir] at h
  refine lv_iload_n hx hb dX4_stir_0 rfl (lv_at hl 0 rfl) ?_
  refine lv_iload_n hx hb dX4_stir_1 rfl (lv_at hl 1 rfl) ?_
  refine lv_ixor hx hb dX4_stir_2 ?_
  refine lv_ldc (v := 1103515245) hx hb hown (hts _ kc_X4_73) dX4_stir_3 ?_
  refine lv_imul hx hb dX4_stir_5 ?_
  refine lv_sipush (v := 12345) hx hb dX4_stir_6 (by decide) ?_
  refine lv_iadd hx hb dX4_stir_9 ?_
  obtain ⟨x2_1, ex2_1, h⟩ := hl_ex h
  refine lv_eqi ex2_1 ?_
  refine lv_istore_n (lv' := [(2, .int x2_1), (0, .int x0), (1, .int x1)]) hx hb dX4_stir_10 rfl hl (by decide) rfl (fun ls hl => ?_)
  refine lv_iload_n hx hb dX4_stir_11 rfl (lv_at hl 0 rfl) ?_
  refine lv_iload_n hx hb dX4_stir_12 rfl (lv_at hl 0 rfl) ?_
  refine lv_bipush (v := 15) hx hb dX4_stir_13 (by decide) ?_
  refine lv_iushr (v := ushr x2_1 (15 : Int32)) hx hb dX4_stir_15 rfl ?_
  refine lv_ixor hx hb dX4_stir_16 ?_
  exact g_ret C hH h dX4_stir_17
-- X4_lotOfFour
def FX4_lotOfFour (x0 : Int32) (x1 : Int32) (σ : HS) : Option (Int32 × HS) :=
  bdI (FX4_stir x0 (167 : Int32) σ) fun r_1 σ_2 => bdI (FX4_stir r_1 x1 σ_2) fun r_4 σ_5 => some (((ushr r_4 (1 : Int32)) - ((ushr r_4 (1 : Int32)) / (4 : Int32)) * (4 : Int32)), σ_5)
set_option maxHeartbeats 4000000 in
set_option maxRecDepth 100000 in
theorem kX4_lotOfFour (l : Launch) (D : va_G) (ad : Nat → Nat) (κ : KC) {x0 : Int32} {x1 : Int32} {σ : HS} {R : (Int32 × HS)} (h : FX4_lotOfFour x0 x1 σ = some R) : MtI l 50 ceX D ad κ yX4_lotOfFour cX4_lotOfFour 2 (some .int) ({ frames := 1, cells := 0, slots := 0, locals := 22 } : Room) [.int x0, .int x1] σ R := by
  refine open_ (by decide) (Nat.le_of_ble_eq_true rfl) (la := [(0, .int x0), (1, .int x1)]) rfl ?_
  intro p e s m below meth c ls C hH hl
  replace C : Cx 50 D ad κ p s m _ meth c cX4_lotOfFour RX4 2 (some .int) := C
  have hx := C.1
  have hb := C.2.1
  have hown := C.2.2.2.1
  have hts := C.2.2.2.2.1
  rw [FX4_lotOfFour] at h
  refine lv_iload_n hx hb dX4_lotOfFour_0 rfl (lv_at hl 0 rfl) ?_
  refine lv_sipush (v := 167) hx hb dX4_lotOfFour_1 (by decide) ?_
  obtain ⟨r_1, σ_2, hc_3, h⟩ := bdI_ex h
  refine g_ci (g_runS (rest := []) C hH hl.1 cS_X4_70 (kX4_stir l D ad κ hc_3) ⟨rfl, rfl⟩ ⟨(Nat.le_of_ble_eq_true rfl), (Nat.le_of_ble_eq_true rfl)⟩ rfl rfl (Nat.le_of_ble_eq_true rfl) dX4_lotOfFour_4 z00) hH (fun H locs hH => ?_)
  refine lv_iload_n hx hb dX4_lotOfFour_7 rfl (lv_at hl 1 rfl) ?_
  obtain ⟨r_4, σ_5, hc_6, h⟩ := bdI_ex h
  refine g_ci (g_runS (rest := []) C hH hl.1 cS_X4_70 (kX4_stir l D ad κ hc_6) ⟨rfl, rfl⟩ ⟨(Nat.le_of_ble_eq_true rfl), (Nat.le_of_ble_eq_true rfl)⟩ rfl rfl (Nat.le_of_ble_eq_true rfl) dX4_lotOfFour_8 z00) hH (fun H locs hH => ?_)
  refine lv_iconst (v := 1) hx hb dX4_lotOfFour_11 (by decide) ?_
  refine lv_iushr (v := ushr r_4 (1 : Int32)) hx hb dX4_lotOfFour_12 rfl ?_
  refine lv_iconst (v := 4) hx hb dX4_lotOfFour_13 (by decide) ?_
  refine lv_irem hx hb dX4_lotOfFour_14 (by decide) ?_
  exact g_ret C hH h dX4_lotOfFour_15
-- X4_coughsBehind
def FX4_coughsBehind (st : Nat) (x2 : Int32) (x3 : Int32) (σ : HS) : Option (Int32 × HS) :=
  hl_ (((16 : Int32) * (σ.1 (st + 10) 30)) + x2) fun x4_1 => bdI (FX4_lotOfFour x3 x4_1 σ) fun r_2 σ_3 => bdI (FX2_quartersOf st x2 σ_3) fun r_5 σ_6 => if r_5 ≤ r_2 then some ((0 : Int32), σ_6) else some ((1 : Int32), σ_6)
set_option maxHeartbeats 4000000 in
set_option maxRecDepth 100000 in
theorem kX4_coughsBehind (l : Launch) (D : va_G) (ad : Nat → Nat) (κ : KC) {st : Nat} (hst : isSt st) {x2 : Int32} {x3 : Int32} {σ : HS} {R : (Int32 × HS)} (h : FX4_coughsBehind st x2 x3 σ = some R) : MtI l 50 ceX D ad κ yX4_coughsBehind cX4_coughsBehind 5 (some .boolean) ({ frames := 2, cells := 0, slots := 0, locals := 50 } : Room) [.ref (ad 9), .ref (ad st), .int x2, .int x3] σ R := by
  refine open_ (by decide) (Nat.le_of_ble_eq_true rfl) (la := [(0, .ref (ad 9)), (1, .ref (ad st)), (2, .int x2), (3, .int x3)]) rfl ?_
  intro p e s m below meth c ls C hH hl
  replace C : Cx 50 D ad κ p s m _ meth c cX4_coughsBehind RX4 5 (some .boolean) := C
  have hx := C.1
  have hb := C.2.1
  have hown := C.2.2.2.1
  have hts := C.2.2.2.2.1
  rw [FX4_coughsBehind] at h
  refine lv_bipush (v := 16) hx hb dX4_coughsBehind_0 (by decide) ?_
  refine lv_aload_n hx hb dX4_coughsBehind_2 rfl (lv_at hl 1 rfl) ?_
  refine g_get C hH st (st_lt hst) (st_ce hst) fl_X4_17 (v := .ref (ad (st + 10))) rfl dX4_coughsBehind_3 ?_
  refine lv_bipush (v := 30) hx hb dX4_coughsBehind_6 (by decide) ?_
  refine g_iald C hH (st + 10) (st_lt2 hst) (st_ce2 hst _ _) (k := 30) (by decide) (ix_in rfl) dX4_coughsBehind_8 ?_
  refine lv_imul hx hb dX4_coughsBehind_9 ?_
  refine lv_iload_n hx hb dX4_coughsBehind_10 rfl (lv_at hl 2 rfl) ?_
  refine lv_iadd hx hb dX4_coughsBehind_11 ?_
  obtain ⟨x4_1, ex4_1, h⟩ := hl_ex h
  refine lv_eqi ex4_1 ?_
  refine lv_istore (lv' := [(4, .int x4_1), (0, .ref (ad 9)), (1, .ref (ad st)), (2, .int x2), (3, .int x3)]) hx hb dX4_coughsBehind_12 hl (by decide) rfl (fun ls hl => ?_)
  refine lv_iload_n hx hb dX4_coughsBehind_14 rfl (lv_at hl 4 rfl) ?_
  refine lv_iload hx hb dX4_coughsBehind_15 (lv_at hl 0 rfl) ?_
  obtain ⟨r_2, σ_3, hc_4, h⟩ := bdI_ex h
  refine g_ci (g_runS (rest := []) C hH hl.1 cS_X4_23 (kX4_lotOfFour l D ad κ hc_4) ⟨rfl, rfl⟩ ⟨(Nat.le_of_ble_eq_true rfl), (Nat.le_of_ble_eq_true rfl)⟩ rfl rfl (Nat.le_of_ble_eq_true rfl) dX4_coughsBehind_17 z00) hH (fun H locs hH => ?_)
  refine lv_aload_n hx hb dX4_coughsBehind_20 rfl (lv_at hl 1 rfl) ?_
  refine g_get C hH 9 (Nat.le_of_ble_eq_true rfl) rfl fl_X4_13 (v := .ref (ad 7)) rfl dX4_coughsBehind_21 ?_
  refine lv_aload_n hx hb dX4_coughsBehind_24 rfl (lv_at hl 2 rfl) ?_
  refine lv_iload_n hx hb dX4_coughsBehind_25 rfl (lv_at hl 3 rfl) ?_
  obtain ⟨r_5, σ_6, hc_7, h⟩ := bdI_ex h
  refine g_ci (g_runV (rest := [.int r_2]) C hH hl.1 cV_X4_27 7 (Nat.le_of_ble_eq_true rfl) rfl rfl (kX2_quartersOf l D ad κ hst hc_7) ⟨rfl, rfl⟩ ⟨(Nat.le_of_ble_eq_true rfl), (Nat.le_of_ble_eq_true rfl)⟩ rfl rfl (Nat.le_of_ble_eq_true rfl) dX4_coughsBehind_26 z00) hH (fun H locs hH => ?_)
  refine lv_icmp_ge (tgt := 36) hx hb dX4_coughsBehind_29 (by decide) (fun hq_8 => ?_) (fun hq_8 => ?_)
  · rw [if_pos hq_8] at h
    refine lv_iconst (v := 0) hx hb dX4_coughsBehind_36 (by decide) ?_
    exact g_retZ C hH rfl h dX4_coughsBehind_37
  · rw [if_neg hq_8] at h
    refine lv_iconst (v := 1) hx hb dX4_coughsBehind_32 (by decide) ?_
    refine lv_goto (tgt := 37) hx hb dX4_coughsBehind_33 (by decide) ?_
    exact g_retZ C hH rfl h dX4_coughsBehind_37
-- X4_payWorth
def FX4_payWorth (st : Nat) (x2 : Int32) (x3 : Int32) (σ : HS) : Option HS :=
  bdI (FX7_ownerOf st x3 σ) fun r_1 σ_2 => if r_1 < 0 then some σ_2 else gd (ix ((18 : Int32) + r_1) 33) (bdI (FX2_worthTo st r_1 x2 x3 σ_2) fun r_6 σ_7 => gd (ix ((18 : Int32) + r_1) 33) (hl_ (pI σ_7 (st + 10) (((18 : Int32) + r_1).toNatClampNeg) ((σ_2.1 (st + 10) (((18 : Int32) + r_1).toNatClampNeg)) + r_6)) fun σ_10 => some σ_10))
set_option maxHeartbeats 4000000 in
set_option maxRecDepth 100000 in
theorem kX4_payWorth (l : Launch) (D : va_G) (ad : Nat → Nat) (κ : KC) {st : Nat} (hst : isSt st) {x2 : Int32} {x3 : Int32} {σ : HS} {R : HS} (h : FX4_payWorth st x2 x3 σ = some R) : MtV l 50 ceX D ad κ yX4_payWorth cX4_payWorth 5 none ({ frames := 2, cells := 0, slots := 0, locals := 52 } : Room) [.ref (ad 9), .ref (ad st), .int x2, .int x3] σ R := by
  refine open_ (by decide) (Nat.le_of_ble_eq_true rfl) (la := [(0, .ref (ad 9)), (1, .ref (ad st)), (2, .int x2), (3, .int x3)]) rfl ?_
  intro p e s m below meth c ls C hH hl
  replace C : Cx 50 D ad κ p s m _ meth c cX4_payWorth RX4 5 none := C
  have hx := C.1
  have hb := C.2.1
  have hown := C.2.2.2.1
  have hts := C.2.2.2.2.1
  rw [FX4_payWorth] at h
  refine lv_aload_n hx hb dX4_payWorth_0 rfl (lv_at hl 1 rfl) ?_
  refine lv_iload_n hx hb dX4_payWorth_1 rfl (lv_at hl 3 rfl) ?_
  obtain ⟨r_1, σ_2, hc_3, h⟩ := bdI_ex h
  refine g_ci (g_runV (rest := []) C hH hl.1 cV_X4_63 st (st_lt hst) (st_ce hst) rfl (kX7_ownerOf l D ad κ hst hc_3) ⟨rfl, rfl⟩ ⟨(Nat.le_of_ble_eq_true rfl), (Nat.le_of_ble_eq_true rfl)⟩ rfl rfl (Nat.le_of_ble_eq_true rfl) dX4_payWorth_2 z00) hH (fun H locs hH => ?_)
  refine lv_istore (lv' := [(4, .int r_1), (0, .ref (ad 9)), (1, .ref (ad st)), (2, .int x2), (3, .int x3)]) hx hb dX4_payWorth_5 hl (by decide) rfl (fun ls hl => ?_)
  refine lv_iload hx hb dX4_payWorth_7 (lv_at hl 0 rfl) ?_
  refine lv_if_lt (tgt := 37) hx hb dX4_payWorth_9 (by decide) (fun hq_4 => ?_) (fun hq_4 => ?_)
  · rw [if_pos hq_4] at h
    exact g_retV C hH h dX4_payWorth_37
  · rw [if_neg hq_4] at h
    refine lv_aload_n hx hb dX4_payWorth_12 rfl (lv_at hl 2 rfl) ?_
    refine g_get C hH st (st_lt hst) (st_ce hst) fl_X4_17 (v := .ref (ad (st + 10))) rfl dX4_payWorth_13 ?_
    refine lv_bipush (v := 18) hx hb dX4_payWorth_16 (by decide) ?_
    refine lv_iload hx hb dX4_payWorth_18 (lv_at hl 0 rfl) ?_
    refine lv_iadd hx hb dX4_payWorth_20 ?_
    refine lv_dup2_11 hx hb dX4_payWorth_21 rfl rfl ?_
    obtain ⟨hi_5, h⟩ := gd_ex h
    refine g_iald C hH (st + 10) (st_lt2 hst) (st_ce2 hst _ _) (k := (((18 : Int32) + r_1).toNatClampNeg)) rfl (ix_in hi_5) dX4_payWorth_22 ?_
    refine lv_aload_n hx hb dX4_payWorth_23 rfl (lv_at hl 1 rfl) ?_
    refine g_get C hH 9 (Nat.le_of_ble_eq_true rfl) rfl fl_X4_13 (v := .ref (ad 7)) rfl dX4_payWorth_24 ?_
    refine lv_aload_n hx hb dX4_payWorth_27 rfl (lv_at hl 2 rfl) ?_
    refine lv_iload hx hb dX4_payWorth_28 (lv_at hl 0 rfl) ?_
    refine lv_iload_n hx hb dX4_payWorth_30 rfl (lv_at hl 3 rfl) ?_
    refine lv_iload_n hx hb dX4_payWorth_31 rfl (lv_at hl 4 rfl) ?_
    obtain ⟨r_6, σ_7, hc_8, h⟩ := bdI_ex h
    refine g_ci (g_runV (rest := [.int (σ_2.1 (st + 10) (((18 : Int32) + r_1).toNatClampNeg)), .int ((18 : Int32) + r_1), .ref (ad (st + 10))]) C hH hl.1 cV_X4_66 7 (Nat.le_of_ble_eq_true rfl) rfl rfl (kX2_worthTo l D ad κ hst hc_8) ⟨rfl, rfl⟩ ⟨(Nat.le_of_ble_eq_true rfl), (Nat.le_of_ble_eq_true rfl)⟩ rfl rfl (Nat.le_of_ble_eq_true rfl) dX4_payWorth_32 z00) hH (fun H locs hH => ?_)
    refine lv_iadd hx hb dX4_payWorth_35 ?_
    obtain ⟨hi_9, h⟩ := gd_ex h
    obtain ⟨σ_10, eσ_10, h⟩ := hl_ex h
    refine g_iast C hH (st + 10) (st_lt2 hst) (fun f q => st_ce2 hst f q) (k := (((18 : Int32) + r_1).toNatClampNeg)) rfl (ix_in hi_9) dX4_payWorth_36 (fun H locs hH => ?_)
    rw [← eσ_10] at hH
    exact g_retV C hH h dX4_payWorth_37
-- X4_preachWeek
def FX4_preachWeek_72  (st : Nat) : Nat → Int32 → Int32 → Int32 → Int32 → Int32 → HS → Option HS
  | 0, _, _, _, _, _, _ => none
  | f + 1, x2, x3, x4, x5, x6, σ => if (σ.1 3 1) ≤ x6 then hl_ (pI σ (st + 10) 31 x3) fun σ_2 => hl_ (pI σ_2 (st + 10) 32 x5) fun σ_3 => hl_ (pI σ_3 (st + 10) 30 ((σ_3.1 (st + 10) 30) + (1 : Int32))) fun σ_4 => some σ_4 else gd (ix ((23 : Int32) + x6) 33) (bdI (FX2_rentOf st x6 σ) fun r_6 σ_7 => gd (ix ((23 : Int32) + x6) 33) (hl_ (pI σ_7 (st + 10) (((23 : Int32) + x6).toNatClampNeg) ((σ.1 (st + 10) (((23 : Int32) + x6).toNatClampNeg)) + r_6)) fun σ_10 => FX4_preachWeek_72 st f x2 x3 x4 x5 (x6 + 1) σ_10))
def FX4_preachWeek_11  (st : Nat) : Nat → Int32 → Int32 → Int32 → Int32 → Int32 → HS → Option HS
  | 0, _, _, _, _, _, _ => none
  | f + 1, x2, x3, x4, x5, x6, σ => if (σ.1 3 0) ≤ x6 then FX4_preachWeek_72 st fu x2 x3 x4 x5 (0 : Int32) σ else hl_ (x4 + (1 : Int32)) fun x5_12 => bdV (FX4_payWorth st x6 x4 σ) fun σ_13 => bdI (FX4_coughsBehind st x6 x2 σ_13) fun r_15 σ_16 => if r_15 = 0 then FX4_preachWeek_11 st f x2 x3 x4 x5_12 (x6 + 1) σ_16 else hl_ (x3 ||| ((1 : Int32) <<< (x6 &&& 31))) fun x3_19 => bdI (FX0_partBehind x4 σ_16) fun r_20 σ_21 => FX4_preachWeek_11 st f x2 x3_19 r_20 x5_12 (x6 + 1) σ_21
def FX4_preachWeek (st : Nat) (x2 : Int32) (σ : HS) : Option HS :=
  FX4_preachWeek_11 st fu x2 (0 : Int32) (0 : Int32) (0 : Int32) (0 : Int32) σ
set_option maxHeartbeats 4000000 in
set_option maxRecDepth 100000 in
theorem wX4_preachWeek_72 (C : Cx 50 D ad κ p s m args meth c cX4_preachWeek RX4 7 none) {st : Nat} (hst : isSt st) {R : HS} : ∀ (f : Nat) (x2 : Int32) (x3 : Int32) (x4 : Int32) (x5 : Int32) (x6 : Int32) (σ : HS) (H : Heap) (locs : List Loc) (ls : Array Slot), FX4_preachWeek_72 st f x2 x3 x4 x5 x6 σ = some R → Hd 50 ceX D ad κ s σ H locs → lv_has ls 7 [(0, .ref (ad 9)), (1, .ref (ad st)), (2, .int x2), (3, .int x3), (4, .int x4), (5, .int x5), (6, .int x6)] → W p l e ({ frames := 3, cells := 0, slots := 0, locals := 76 } : Room) s m args below meth c H locs 0 0 (MQ below (QV 50 ceX D ad κ R) args s 0 0 (AX 50 ad)) (F0 m 72 ls []) := by
  have hx := C.1
  have hb := C.2.1
  have hown := C.2.2.2.1
  have hts := C.2.2.2.2.1
  intro f
  induction f with
  | zero =>
    intro x2 x3 x4 x5 x6 σ H locs ls h hH hl
    cases h
  | succ f ih =>
    intro x2 x3 x4 x5 x6 σ H locs ls h hH hl
    rw [FX4_preachWeek_72] at h
    refine lv_iload hx hb dX4_preachWeek_72 (lv_at hl 6 rfl) ?_
    refine lv_aload_n hx hb dX4_preachWeek_74 rfl (lv_at hl 0 rfl) ?_
    refine g_get C hH 9 (Nat.le_of_ble_eq_true rfl) rfl fl_X4_7 (v := .ref (ad 3)) rfl dX4_preachWeek_75 ?_
    refine g_get C hH 3 (Nat.le_of_ble_eq_true rfl) rfl fl_X4_57 (v := .int (σ.1 3 1)) rfl dX4_preachWeek_78 ?_
    refine lv_icmp_ge (tgt := 113) hx hb dX4_preachWeek_81 (by decide) (fun hq_1 => ?_) (fun hq_1 => ?_)
    · rw [if_pos hq_1] at h
      refine lv_aload_n hx hb dX4_preachWeek_113 rfl (lv_at hl 1 rfl) ?_
      refine g_get C hH st (st_lt hst) (st_ce hst) fl_X4_17 (v := .ref (ad (st + 10))) rfl dX4_preachWeek_114 ?_
      refine lv_bipush (v := 31) hx hb dX4_preachWeek_117 (by decide) ?_
      refine lv_iload_n hx hb dX4_preachWeek_119 rfl (lv_at hl 3 rfl) ?_
      obtain ⟨σ_2, eσ_2, h⟩ := hl_ex h
      refine g_iast C hH (st + 10) (st_lt2 hst) (fun f q => st_ce2 hst f q) (k := 31) (by decide) (ix_in rfl) dX4_preachWeek_120 (fun H locs hH => ?_)
      rw [← eσ_2] at hH
      refine lv_aload_n hx hb dX4_preachWeek_121 rfl (lv_at hl 1 rfl) ?_
      refine g_get C hH st (st_lt hst) (st_ce hst) fl_X4_17 (v := .ref (ad (st + 10))) rfl dX4_preachWeek_122 ?_
      refine lv_bipush (v := 32) hx hb dX4_preachWeek_125 (by decide) ?_
      refine lv_iload hx hb dX4_preachWeek_127 (lv_at hl 5 rfl) ?_
      obtain ⟨σ_3, eσ_3, h⟩ := hl_ex h
      refine g_iast C hH (st + 10) (st_lt2 hst) (fun f q => st_ce2 hst f q) (k := 32) (by decide) (ix_in rfl) dX4_preachWeek_129 (fun H locs hH => ?_)
      rw [← eσ_3] at hH
      refine lv_aload_n hx hb dX4_preachWeek_130 rfl (lv_at hl 1 rfl) ?_
      refine g_get C hH st (st_lt hst) (st_ce hst) fl_X4_17 (v := .ref (ad (st + 10))) rfl dX4_preachWeek_131 ?_
      refine lv_bipush (v := 30) hx hb dX4_preachWeek_134 (by decide) ?_
      refine lv_dup2_11 hx hb dX4_preachWeek_136 rfl rfl ?_
      refine g_iald C hH (st + 10) (st_lt2 hst) (st_ce2 hst _ _) (k := 30) (by decide) (ix_in rfl) dX4_preachWeek_137 ?_
      refine lv_iconst (v := 1) hx hb dX4_preachWeek_138 (by decide) ?_
      refine lv_iadd hx hb dX4_preachWeek_139 ?_
      obtain ⟨σ_4, eσ_4, h⟩ := hl_ex h
      refine g_iast C hH (st + 10) (st_lt2 hst) (fun f q => st_ce2 hst f q) (k := 30) (by decide) (ix_in rfl) dX4_preachWeek_140 (fun H locs hH => ?_)
      rw [← eσ_4] at hH
      exact g_retV C hH h dX4_preachWeek_141
    · rw [if_neg hq_1] at h
      refine lv_aload_n hx hb dX4_preachWeek_84 rfl (lv_at hl 1 rfl) ?_
      refine g_get C hH st (st_lt hst) (st_ce hst) fl_X4_17 (v := .ref (ad (st + 10))) rfl dX4_preachWeek_85 ?_
      refine lv_bipush (v := 23) hx hb dX4_preachWeek_88 (by decide) ?_
      refine lv_iload hx hb dX4_preachWeek_90 (lv_at hl 6 rfl) ?_
      refine lv_iadd hx hb dX4_preachWeek_92 ?_
      refine lv_dup2_11 hx hb dX4_preachWeek_93 rfl rfl ?_
      obtain ⟨hi_5, h⟩ := gd_ex h
      refine g_iald C hH (st + 10) (st_lt2 hst) (st_ce2 hst _ _) (k := (((23 : Int32) + x6).toNatClampNeg)) rfl (ix_in hi_5) dX4_preachWeek_94 ?_
      refine lv_aload_n hx hb dX4_preachWeek_95 rfl (lv_at hl 0 rfl) ?_
      refine g_get C hH 9 (Nat.le_of_ble_eq_true rfl) rfl fl_X4_13 (v := .ref (ad 7)) rfl dX4_preachWeek_96 ?_
      refine lv_aload_n hx hb dX4_preachWeek_99 rfl (lv_at hl 1 rfl) ?_
      refine lv_iload hx hb dX4_preachWeek_100 (lv_at hl 6 rfl) ?_
      obtain ⟨r_6, σ_7, hc_8, h⟩ := bdI_ex h
      refine g_ci (g_runV (rest := [.int (σ.1 (st + 10) (((23 : Int32) + x6).toNatClampNeg)), .int ((23 : Int32) + x6), .ref (ad (st + 10))]) C hH hl.1 cV_X4_60 7 (Nat.le_of_ble_eq_true rfl) rfl rfl (kX2_rentOf l D ad κ hst hc_8) ⟨rfl, rfl⟩ ⟨(Nat.le_of_ble_eq_true rfl), (Nat.le_of_ble_eq_true rfl)⟩ rfl rfl (Nat.le_of_ble_eq_true rfl) dX4_preachWeek_102 z00) hH (fun H locs hH => ?_)
      refine lv_iadd hx hb dX4_preachWeek_105 ?_
      obtain ⟨hi_9, h⟩ := gd_ex h
      obtain ⟨σ_10, eσ_10, h⟩ := hl_ex h
      refine g_iast C hH (st + 10) (st_lt2 hst) (fun f q => st_ce2 hst f q) (k := (((23 : Int32) + x6).toNatClampNeg)) rfl (ix_in hi_9) dX4_preachWeek_106 (fun H locs hH => ?_)
      rw [← eσ_10] at hH
      refine lv_iinc (v := (x6 + 1)) (lv' := [(6, .int (x6 + 1)), (0, .ref (ad 9)), (1, .ref (ad st)), (2, .int x2), (3, .int x3), (4, .int x4), (5, .int x5)]) hx hb dX4_preachWeek_107 hl (k := 6) rfl rfl (by decide) rfl (fun ls hl => ?_)
      refine lv_goto (tgt := 72) hx hb dX4_preachWeek_110 (by decide) ?_
      exact ih _ _ _ _ _ _ _ _ _ h hH (lv_sub hl [1, 2, 3, 4, 5, 6, 0] rfl)
set_option maxHeartbeats 4000000 in
set_option maxRecDepth 100000 in
theorem wX4_preachWeek_11 (C : Cx 50 D ad κ p s m args meth c cX4_preachWeek RX4 7 none) {st : Nat} (hst : isSt st) {R : HS} : ∀ (f : Nat) (x2 : Int32) (x3 : Int32) (x4 : Int32) (x5 : Int32) (x6 : Int32) (σ : HS) (H : Heap) (locs : List Loc) (ls : Array Slot), FX4_preachWeek_11 st f x2 x3 x4 x5 x6 σ = some R → Hd 50 ceX D ad κ s σ H locs → lv_has ls 7 [(0, .ref (ad 9)), (1, .ref (ad st)), (2, .int x2), (3, .int x3), (4, .int x4), (5, .int x5), (6, .int x6)] → W p l e ({ frames := 3, cells := 0, slots := 0, locals := 76 } : Room) s m args below meth c H locs 0 0 (MQ below (QV 50 ceX D ad κ R) args s 0 0 (AX 50 ad)) (F0 m 11 ls []) := by
  have hx := C.1
  have hb := C.2.1
  have hown := C.2.2.2.1
  have hts := C.2.2.2.2.1
  intro f
  induction f with
  | zero =>
    intro x2 x3 x4 x5 x6 σ H locs ls h hH hl
    cases h
  | succ f ih =>
    intro x2 x3 x4 x5 x6 σ H locs ls h hH hl
    rw [FX4_preachWeek_11] at h
    refine lv_iload hx hb dX4_preachWeek_11 (lv_at hl 6 rfl) ?_
    refine lv_aload_n hx hb dX4_preachWeek_13 rfl (lv_at hl 0 rfl) ?_
    refine g_get C hH 9 (Nat.le_of_ble_eq_true rfl) rfl fl_X4_7 (v := .ref (ad 3)) rfl dX4_preachWeek_14 ?_
    refine g_get C hH 3 (Nat.le_of_ble_eq_true rfl) rfl fl_X4_37 (v := .int (σ.1 3 0)) rfl dX4_preachWeek_17 ?_
    refine lv_icmp_ge (tgt := 69) hx hb dX4_preachWeek_20 (by decide) (fun hq_11 => ?_) (fun hq_11 => ?_)
    · rw [if_pos hq_11] at h
      refine lv_iconst (v := 0) hx hb dX4_preachWeek_69 (by decide) ?_
      refine lv_istore (lv' := [(6, .int (0 : Int32)), (0, .ref (ad 9)), (1, .ref (ad st)), (2, .int x2), (3, .int x3), (4, .int x4), (5, .int x5)]) hx hb dX4_preachWeek_70 hl (by decide) rfl (fun ls hl => ?_)
      exact wX4_preachWeek_72 C hst _ _ _ _ _ _ _ _ _ _ h hH (lv_sub hl [1, 2, 3, 4, 5, 6, 0] rfl)
    · rw [if_neg hq_11] at h
      refine lv_iload hx hb dX4_preachWeek_23 (lv_at hl 4 rfl) ?_
      refine lv_iconst (v := 1) hx hb dX4_preachWeek_25 (by decide) ?_
      refine lv_iadd hx hb dX4_preachWeek_26 ?_
      obtain ⟨x5_12, ex5_12, h⟩ := hl_ex h
      refine lv_eqi ex5_12 ?_
      refine lv_istore (lv' := [(5, .int x5_12), (0, .ref (ad 9)), (1, .ref (ad st)), (2, .int x2), (3, .int x3), (4, .int x4), (6, .int x6)]) hx hb dX4_preachWeek_27 hl (by decide) rfl (fun ls hl => ?_)
      refine lv_aload_n hx hb dX4_preachWeek_29 rfl (lv_at hl 1 rfl) ?_
      refine lv_aload_n hx hb dX4_preachWeek_30 rfl (lv_at hl 2 rfl) ?_
      refine lv_iload hx hb dX4_preachWeek_31 (lv_at hl 6 rfl) ?_
      refine lv_iload hx hb dX4_preachWeek_33 (lv_at hl 5 rfl) ?_
      obtain ⟨σ_13, hc_14, h⟩ := bdV_ex h
      refine g_cv (g_runV (rest := []) C hH hl.1 cV_X4_43 9 (Nat.le_of_ble_eq_true rfl) rfl rfl (kX4_payWorth l D ad κ hst hc_14) ⟨rfl, rfl⟩ ⟨(Nat.le_of_ble_eq_true rfl), (Nat.le_of_ble_eq_true rfl)⟩ rfl rfl (Nat.le_of_ble_eq_true rfl) dX4_preachWeek_35 z00) hH (fun H locs hH => ?_)
      refine lv_aload_n hx hb dX4_preachWeek_38 rfl (lv_at hl 1 rfl) ?_
      refine lv_aload_n hx hb dX4_preachWeek_39 rfl (lv_at hl 2 rfl) ?_
      refine lv_iload hx hb dX4_preachWeek_40 (lv_at hl 6 rfl) ?_
      refine lv_iload_n hx hb dX4_preachWeek_42 rfl (lv_at hl 3 rfl) ?_
      obtain ⟨r_15, σ_16, hc_17, h⟩ := bdI_ex h
      refine g_ci (g_runV (rest := []) C hH hl.1 cV_X4_47 9 (Nat.le_of_ble_eq_true rfl) rfl rfl (kX4_coughsBehind l D ad κ hst hc_17) ⟨rfl, rfl⟩ ⟨(Nat.le_of_ble_eq_true rfl), (Nat.le_of_ble_eq_true rfl)⟩ rfl rfl (Nat.le_of_ble_eq_true rfl) dX4_preachWeek_43 z00) hH (fun H locs hH => ?_)
      refine lv_if_eq (tgt := 63) hx hb dX4_preachWeek_46 (by decide) (fun hq_18 => ?_) (fun hq_18 => ?_)
      · rw [if_pos hq_18] at h
        refine lv_iinc (v := (x6 + 1)) (lv' := [(6, .int (x6 + 1)), (5, .int x5_12), (0, .ref (ad 9)), (1, .ref (ad st)), (2, .int x2), (3, .int x3), (4, .int x4)]) hx hb dX4_preachWeek_63 hl (k := 6) rfl rfl (by decide) rfl (fun ls hl => ?_)
        refine lv_goto (tgt := 11) hx hb dX4_preachWeek_66 (by decide) ?_
        exact ih _ _ _ _ _ _ _ _ _ h hH (lv_sub hl [2, 3, 4, 5, 6, 1, 0] rfl)
      · rw [if_neg hq_18] at h
        refine lv_iload_n hx hb dX4_preachWeek_49 rfl (lv_at hl 4 rfl) ?_
        refine lv_iconst (v := 1) hx hb dX4_preachWeek_50 (by decide) ?_
        refine lv_iload hx hb dX4_preachWeek_51 (lv_at hl 6 rfl) ?_
        refine lv_ishl hx hb dX4_preachWeek_53 ?_
        refine lv_ior hx hb dX4_preachWeek_54 ?_
        obtain ⟨x3_19, ex3_19, h⟩ := hl_ex h
        refine lv_eqi ex3_19 ?_
        refine lv_istore_n (lv' := [(3, .int x3_19), (5, .int x5_12), (0, .ref (ad 9)), (1, .ref (ad st)), (2, .int x2), (4, .int x4), (6, .int x6)]) hx hb dX4_preachWeek_55 rfl hl (by decide) rfl (fun ls hl => ?_)
        refine lv_iload hx hb dX4_preachWeek_56 (lv_at hl 5 rfl) ?_
        obtain ⟨r_20, σ_21, hc_22, h⟩ := bdI_ex h
        refine g_ci (g_runS (rest := []) C hH hl.1 cS_X4_51 (kX0_partBehind l D ad κ hc_22) ⟨rfl, rfl⟩ ⟨(Nat.le_of_ble_eq_true rfl), (Nat.le_of_ble_eq_true rfl)⟩ rfl rfl (Nat.le_of_ble_eq_true rfl) dX4_preachWeek_58 z00) hH (fun H locs hH => ?_)
        refine lv_istore (lv' := [(4, .int r_20), (3, .int x3_19), (5, .int x5_12), (0, .ref (ad 9)), (1, .ref (ad st)), (2, .int x2), (6, .int x6)]) hx hb dX4_preachWeek_61 hl (by decide) rfl (fun ls hl => ?_)
        refine lv_iinc (v := (x6 + 1)) (lv' := [(6, .int (x6 + 1)), (4, .int r_20), (3, .int x3_19), (5, .int x5_12), (0, .ref (ad 9)), (1, .ref (ad st)), (2, .int x2)]) hx hb dX4_preachWeek_63 hl (k := 6) rfl rfl (by decide) rfl (fun ls hl => ?_)
        refine lv_goto (tgt := 11) hx hb dX4_preachWeek_66 (by decide) ?_
        exact ih _ _ _ _ _ _ _ _ _ h hH (lv_sub hl [4, 5, 6, 2, 1, 3, 0] rfl)
set_option maxHeartbeats 4000000 in
set_option maxRecDepth 100000 in
theorem kX4_preachWeek (l : Launch) (D : va_G) (ad : Nat → Nat) (κ : KC) {st : Nat} (hst : isSt st) {x2 : Int32} {σ : HS} {R : HS} (h : FX4_preachWeek st x2 σ = some R) : MtV l 50 ceX D ad κ yX4_preachWeek cX4_preachWeek 7 none ({ frames := 3, cells := 0, slots := 0, locals := 76 } : Room) [.ref (ad 9), .ref (ad st), .int x2] σ R := by
  refine open_ (by decide) (Nat.le_of_ble_eq_true rfl) (la := [(0, .ref (ad 9)), (1, .ref (ad st)), (2, .int x2)]) rfl ?_
  intro p e s m below meth c ls C hH hl
  replace C : Cx 50 D ad κ p s m _ meth c cX4_preachWeek RX4 7 none := C
  have hx := C.1
  have hb := C.2.1
  have hown := C.2.2.2.1
  have hts := C.2.2.2.2.1
  rw [FX4_preachWeek] at h
  refine lv_iconst (v := 0) hx hb dX4_preachWeek_0 (by decide) ?_
  refine lv_istore_n (lv' := [(3, .int (0 : Int32)), (0, .ref (ad 9)), (1, .ref (ad st)), (2, .int x2)]) hx hb dX4_preachWeek_1 rfl hl (by decide) rfl (fun ls hl => ?_)
  refine lv_iconst (v := 0) hx hb dX4_preachWeek_2 (by decide) ?_
  refine lv_istore (lv' := [(4, .int (0 : Int32)), (3, .int (0 : Int32)), (0, .ref (ad 9)), (1, .ref (ad st)), (2, .int x2)]) hx hb dX4_preachWeek_3 hl (by decide) rfl (fun ls hl => ?_)
  refine lv_iconst (v := 0) hx hb dX4_preachWeek_5 (by decide) ?_
  refine lv_istore (lv' := [(5, .int (0 : Int32)), (4, .int (0 : Int32)), (3, .int (0 : Int32)), (0, .ref (ad 9)), (1, .ref (ad st)), (2, .int x2)]) hx hb dX4_preachWeek_6 hl (by decide) rfl (fun ls hl => ?_)
  refine lv_iconst (v := 0) hx hb dX4_preachWeek_8 (by decide) ?_
  refine lv_istore (lv' := [(6, .int (0 : Int32)), (5, .int (0 : Int32)), (4, .int (0 : Int32)), (3, .int (0 : Int32)), (0, .ref (ad 9)), (1, .ref (ad st)), (2, .int x2)]) hx hb dX4_preachWeek_9 hl (by decide) rfl (fun ls hl => ?_)
  exact wX4_preachWeek_11 C hst _ _ _ _ _ _ _ _ _ _ h hH (lv_sub hl [4, 5, 6, 3, 2, 1, 0] rfl)
-- X4_preachWeeks
def FX4_preachWeeks_3  (st : Nat) : Nat → Int32 → Int32 → Int32 → HS → Option HS
  | 0, _, _, _, _ => none
  | f + 1, x2, x3, x4, σ => if x2 ≤ x4 then some σ else bdV (FX4_preachWeek st x3 σ) fun σ_2 => FX4_preachWeeks_3 st f x2 x3 (x4 + 1) σ_2
def FX4_preachWeeks (st : Nat) (x2 : Int32) (x3 : Int32) (σ : HS) : Option HS :=
  FX4_preachWeeks_3 st fu x2 x3 (0 : Int32) σ
set_option maxHeartbeats 4000000 in
set_option maxRecDepth 100000 in
theorem wX4_preachWeeks_3 (C : Cx 50 D ad κ p s m args meth c cX4_preachWeeks RX4 5 none) {st : Nat} (hst : isSt st) {R : HS} : ∀ (f : Nat) (x2 : Int32) (x3 : Int32) (x4 : Int32) (σ : HS) (H : Heap) (locs : List Loc) (ls : Array Slot), FX4_preachWeeks_3 st f x2 x3 x4 σ = some R → Hd 50 ceX D ad κ s σ H locs → lv_has ls 5 [(0, .ref (ad 9)), (1, .ref (ad st)), (2, .int x2), (3, .int x3), (4, .int x4)] → W p l e ({ frames := 4, cells := 0, slots := 0, locals := 102 } : Room) s m args below meth c H locs 0 0 (MQ below (QV 50 ceX D ad κ R) args s 0 0 (AX 50 ad)) (F0 m 3 ls []) := by
  have hx := C.1
  have hb := C.2.1
  have hown := C.2.2.2.1
  have hts := C.2.2.2.2.1
  intro f
  induction f with
  | zero =>
    intro x2 x3 x4 σ H locs ls h hH hl
    cases h
  | succ f ih =>
    intro x2 x3 x4 σ H locs ls h hH hl
    rw [FX4_preachWeeks_3] at h
    refine lv_iload hx hb dX4_preachWeeks_3 (lv_at hl 4 rfl) ?_
    refine lv_iload_n hx hb dX4_preachWeeks_5 rfl (lv_at hl 2 rfl) ?_
    refine lv_icmp_ge (tgt := 21) hx hb dX4_preachWeeks_6 (by decide) (fun hq_1 => ?_) (fun hq_1 => ?_)
    · rw [if_pos hq_1] at h
      exact g_retV C hH h dX4_preachWeeks_21
    · rw [if_neg hq_1] at h
      refine lv_aload_n hx hb dX4_preachWeeks_9 rfl (lv_at hl 0 rfl) ?_
      refine lv_aload_n hx hb dX4_preachWeeks_10 rfl (lv_at hl 1 rfl) ?_
      refine lv_iload_n hx hb dX4_preachWeeks_11 rfl (lv_at hl 3 rfl) ?_
      obtain ⟨σ_2, hc_3, h⟩ := bdV_ex h
      refine g_cv (g_runV (rest := []) C hH hl.1 cV_X4_33 9 (Nat.le_of_ble_eq_true rfl) rfl rfl (kX4_preachWeek l D ad κ hst hc_3) ⟨rfl, rfl⟩ ⟨(Nat.le_of_ble_eq_true rfl), (Nat.le_of_ble_eq_true rfl)⟩ rfl rfl (Nat.le_of_ble_eq_true rfl) dX4_preachWeeks_12 z00) hH (fun H locs hH => ?_)
      refine lv_iinc (v := (x4 + 1)) (lv' := [(4, .int (x4 + 1)), (0, .ref (ad 9)), (1, .ref (ad st)), (2, .int x2), (3, .int x3)]) hx hb dX4_preachWeeks_15 hl (k := 4) rfl rfl (by decide) rfl (fun ls hl => ?_)
      refine lv_goto (tgt := 3) hx hb dX4_preachWeeks_18 (by decide) ?_
      exact ih _ _ _ _ _ _ _ h hH (lv_sub hl [1, 2, 3, 4, 0] rfl)
set_option maxHeartbeats 4000000 in
set_option maxRecDepth 100000 in
theorem kX4_preachWeeks (l : Launch) (D : va_G) (ad : Nat → Nat) (κ : KC) {st : Nat} (hst : isSt st) {x2 : Int32} {x3 : Int32} {σ : HS} {R : HS} (h : FX4_preachWeeks st x2 x3 σ = some R) : MtV l 50 ceX D ad κ yX4_preachWeeks cX4_preachWeeks 5 none ({ frames := 4, cells := 0, slots := 0, locals := 102 } : Room) [.ref (ad 9), .ref (ad st), .int x2, .int x3] σ R := by
  refine open_ (by decide) (Nat.le_of_ble_eq_true rfl) (la := [(0, .ref (ad 9)), (1, .ref (ad st)), (2, .int x2), (3, .int x3)]) rfl ?_
  intro p e s m below meth c ls C hH hl
  replace C : Cx 50 D ad κ p s m _ meth c cX4_preachWeeks RX4 5 none := C
  have hx := C.1
  have hb := C.2.1
  have hown := C.2.2.2.1
  have hts := C.2.2.2.2.1
  rw [FX4_preachWeeks] at h
  refine lv_iconst (v := 0) hx hb dX4_preachWeeks_0 (by decide) ?_
  refine lv_istore (lv' := [(4, .int (0 : Int32)), (0, .ref (ad 9)), (1, .ref (ad st)), (2, .int x2), (3, .int x3)]) hx hb dX4_preachWeeks_1 hl (by decide) rfl (fun ls hl => ?_)
  exact wX4_preachWeeks_3 C hst _ _ _ _ _ _ _ _ h hH (lv_sub hl [1, 2, 3, 4, 0] rfl)
-- X1_partsOn
def FX1_partsOn_6  : Nat → Int32 → Int32 → Int32 → Int32 → HS → Option (Int32 × HS)
  | 0, _, _, _, _, _ => none
  | f + 1, x2, x3, x4, x5, σ => if (σ.1 3 0) ≤ x5 then some (x4, σ) else bdI (FX7_matterOf 4 x5 σ) fun r_2 σ_3 => if r_2 = x2 then bdI (FX0_partIn x3 x5 σ_3) fun r_6 σ_7 => hl_ (x4 ||| ((1 : Int32) <<< (r_6 &&& 31))) fun x4_9 => FX1_partsOn_6  f x2 x3 x4_9 (x5 + 1) σ_7 else FX1_partsOn_6  f x2 x3 x4 (x5 + 1) σ_3
def FX1_partsOn (x2 : Int32) (x3 : Int32) (σ : HS) : Option (Int32 × HS) :=
  FX1_partsOn_6 fu x2 x3 (0 : Int32) (0 : Int32) σ
set_option maxHeartbeats 4000000 in
set_option maxRecDepth 100000 in
theorem wX1_partsOn_6 (C : Cx 50 D ad κ p s m args meth c cX1_partsOn RX1 6 (some .int)) {R : (Int32 × HS)} : ∀ (f : Nat) (x2 : Int32) (x3 : Int32) (x4 : Int32) (x5 : Int32) (σ : HS) (H : Heap) (locs : List Loc) (ls : Array Slot), FX1_partsOn_6  f x2 x3 x4 x5 σ = some R → Hd 50 ceX D ad κ s σ H locs → lv_has ls 6 [(0, .ref (ad 10)), (1, .ref (ad 4)), (2, .int x2), (3, .int x3), (4, .int x4), (5, .int x5)] → W p l e ({ frames := 2, cells := 0, slots := 0, locals := 42 } : Room) s m args below meth c H locs 0 0 (MQ below (QI 50 ceX D ad κ R) args s 0 0 (AX 50 ad)) (F0 m 6 ls []) := by
  have hx := C.1
  have hb := C.2.1
  have hown := C.2.2.2.1
  have hts := C.2.2.2.2.1
  intro f
  induction f with
  | zero =>
    intro x2 x3 x4 x5 σ H locs ls h hH hl
    cases h
  | succ f ih =>
    intro x2 x3 x4 x5 σ H locs ls h hH hl
    rw [FX1_partsOn_6] at h
    refine lv_iload hx hb dX1_partsOn_6 (lv_at hl 5 rfl) ?_
    refine lv_aload_n hx hb dX1_partsOn_8 rfl (lv_at hl 0 rfl) ?_
    refine g_get C hH 10 (Nat.le_of_ble_eq_true rfl) rfl fl_X1_15 (v := .ref (ad 3)) rfl dX1_partsOn_9 ?_
    refine g_get C hH 3 (Nat.le_of_ble_eq_true rfl) rfl fl_X1_46 (v := .int (σ.1 3 0)) rfl dX1_partsOn_12 ?_
    refine lv_icmp_ge (tgt := 47) hx hb dX1_partsOn_15 (by decide) (fun hq_1 => ?_) (fun hq_1 => ?_)
    · rw [if_pos hq_1] at h
      refine lv_iload hx hb dX1_partsOn_47 (lv_at hl 4 rfl) ?_
      exact g_ret C hH h dX1_partsOn_49
    · rw [if_neg hq_1] at h
      refine lv_aload_n hx hb dX1_partsOn_18 rfl (lv_at hl 1 rfl) ?_
      refine lv_iload hx hb dX1_partsOn_19 (lv_at hl 5 rfl) ?_
      obtain ⟨r_2, σ_3, hc_4, h⟩ := bdI_ex h
      refine g_ci (g_runV (rest := []) C hH hl.1 cV_X1_51 4 (Nat.le_of_ble_eq_true rfl) rfl rfl (kX7_matterOf l D ad κ st_4 hc_4) ⟨rfl, rfl⟩ ⟨(Nat.le_of_ble_eq_true rfl), (Nat.le_of_ble_eq_true rfl)⟩ rfl rfl (Nat.le_of_ble_eq_true rfl) dX1_partsOn_21 z00) hH (fun H locs hH => ?_)
      refine lv_iload_n hx hb dX1_partsOn_24 rfl (lv_at hl 2 rfl) ?_
      refine lv_icmp_ne (tgt := 41) hx hb dX1_partsOn_25 (by decide) (fun hq_5 => ?_) (fun hq_5 => ?_)
      · rw [if_neg hq_5] at h
        refine lv_iinc (v := (x5 + 1)) (lv' := [(5, .int (x5 + 1)), (0, .ref (ad 10)), (1, .ref (ad 4)), (2, .int x2), (3, .int x3), (4, .int x4)]) hx hb dX1_partsOn_41 hl (k := 5) rfl rfl (by decide) rfl (fun ls hl => ?_)
        refine lv_goto (tgt := 6) hx hb dX1_partsOn_44 (by decide) ?_
        exact ih _ _ _ _ _ _ _ _ h hH (lv_sub hl [1, 2, 3, 4, 5, 0] rfl)
      · rw [if_pos hq_5] at h
        refine lv_iload hx hb dX1_partsOn_28 (lv_at hl 4 rfl) ?_
        refine lv_iconst (v := 1) hx hb dX1_partsOn_30 (by decide) ?_
        refine lv_iload_n hx hb dX1_partsOn_31 rfl (lv_at hl 3 rfl) ?_
        refine lv_iload hx hb dX1_partsOn_32 (lv_at hl 5 rfl) ?_
        obtain ⟨r_6, σ_7, hc_8, h⟩ := bdI_ex h
        refine g_ci (g_runS (rest := [.int (1 : Int32), .int x4]) C hH hl.1 cS_X1_56 (kX0_partIn l D ad κ hc_8) ⟨rfl, rfl⟩ ⟨(Nat.le_of_ble_eq_true rfl), (Nat.le_of_ble_eq_true rfl)⟩ rfl rfl (Nat.le_of_ble_eq_true rfl) dX1_partsOn_34 z00) hH (fun H locs hH => ?_)
        refine lv_ishl hx hb dX1_partsOn_37 ?_
        refine lv_ior hx hb dX1_partsOn_38 ?_
        obtain ⟨x4_9, ex4_9, h⟩ := hl_ex h
        refine lv_eqi ex4_9 ?_
        refine lv_istore (lv' := [(4, .int x4_9), (0, .ref (ad 10)), (1, .ref (ad 4)), (2, .int x2), (3, .int x3), (5, .int x5)]) hx hb dX1_partsOn_39 hl (by decide) rfl (fun ls hl => ?_)
        refine lv_iinc (v := (x5 + 1)) (lv' := [(5, .int (x5 + 1)), (4, .int x4_9), (0, .ref (ad 10)), (1, .ref (ad 4)), (2, .int x2), (3, .int x3)]) hx hb dX1_partsOn_41 hl (k := 5) rfl rfl (by decide) rfl (fun ls hl => ?_)
        refine lv_goto (tgt := 6) hx hb dX1_partsOn_44 (by decide) ?_
        exact ih _ _ _ _ _ _ _ _ h hH (lv_sub hl [2, 3, 4, 5, 1, 0] rfl)
set_option maxHeartbeats 4000000 in
set_option maxRecDepth 100000 in
theorem kX1_partsOn (l : Launch) (D : va_G) (ad : Nat → Nat) (κ : KC) {x2 : Int32} {x3 : Int32} {σ : HS} {R : (Int32 × HS)} (h : FX1_partsOn x2 x3 σ = some R) : MtI l 50 ceX D ad κ yX1_partsOn cX1_partsOn 6 (some .int) ({ frames := 2, cells := 0, slots := 0, locals := 42 } : Room) [.ref (ad 10), .ref (ad 4), .int x2, .int x3] σ R := by
  refine open_ (by decide) (Nat.le_of_ble_eq_true rfl) (la := [(0, .ref (ad 10)), (1, .ref (ad 4)), (2, .int x2), (3, .int x3)]) rfl ?_
  intro p e s m below meth c ls C hH hl
  replace C : Cx 50 D ad κ p s m _ meth c cX1_partsOn RX1 6 (some .int) := C
  have hx := C.1
  have hb := C.2.1
  have hown := C.2.2.2.1
  have hts := C.2.2.2.2.1
  rw [FX1_partsOn] at h
  refine lv_iconst (v := 0) hx hb dX1_partsOn_0 (by decide) ?_
  refine lv_istore (lv' := [(4, .int (0 : Int32)), (0, .ref (ad 10)), (1, .ref (ad 4)), (2, .int x2), (3, .int x3)]) hx hb dX1_partsOn_1 hl (by decide) rfl (fun ls hl => ?_)
  refine lv_iconst (v := 0) hx hb dX1_partsOn_3 (by decide) ?_
  refine lv_istore (lv' := [(5, .int (0 : Int32)), (4, .int (0 : Int32)), (0, .ref (ad 10)), (1, .ref (ad 4)), (2, .int x2), (3, .int x3)]) hx hb dX1_partsOn_4 hl (by decide) rfl (fun ls hl => ?_)
  exact wX1_partsOn_6 C _ _ _ _ _ _ _ _ _ h hH (lv_sub hl [2, 3, 4, 5, 1, 0] rfl)
-- X1_look
def FX1_look_46  : Nat → Int32 → Int32 → Int32 → Int32 → HS → Option HS
  | 0, _, _, _, _, _ => none
  | f + 1, x2, x3, x4, x5, σ => bdI (FJ6_bitCount_0f7a4 x3 σ) fun r_1 σ_2 => if ((1 : Int32) <<< (r_1 &&& 31)) ≤ x5 then some σ_2 else bdI (FX1_partsOn x2 ((σ_2.1 8 7) ||| x4) σ_2) fun r_5 σ_6 => gd (ix r_5 256) (hl_ (pI σ_6 45 (r_5.toNatClampNeg) (vp_nar .boolean (1 : Int32))) fun σ_9 => hl_ ((x4 - x3) &&& x3) fun x4_10 => FX1_look_46  f x2 x3 x4_10 (x5 + 1) σ_9)
def FX1_look_2  : Nat → Int32 → Int32 → HS → Option HS
  | 0, _, _, _ => none
  | f + 1, x2, x3, σ => if (256 : Int32) ≤ x3 then bdV (FX0_weigh 4 σ) fun σ_12 => hl_ (σ_12.1 8 8) fun x3_14 => FX1_look_46 fu x2 x3_14 (0 : Int32) (0 : Int32) σ_12 else gd (ix x3 256) (hl_ (pI σ 45 (x3.toNatClampNeg) (vp_nar .boolean (0 : Int32))) fun σ_16 => FX1_look_2  f x2 (x3 + 1) σ_16)
def FX1_look (x2 : Int32) (σ : HS) : Option HS :=
  FX1_look_2 fu x2 (0 : Int32) σ
set_option maxHeartbeats 4000000 in
set_option maxRecDepth 100000 in
theorem wX1_look_46 (C : Cx 50 D ad κ p s m args meth c cX1_look RX1 6 none) {R : HS} : ∀ (f : Nat) (x2 : Int32) (x3 : Int32) (x4 : Int32) (x5 : Int32) (σ : HS) (H : Heap) (locs : List Loc) (ls : Array Slot), FX1_look_46  f x2 x3 x4 x5 σ = some R → Hd 50 ceX D ad κ s σ H locs → lv_has ls 6 [(0, .ref (ad 10)), (1, .ref (ad 4)), (2, .int x2), (3, .int x3), (4, .int x4), (5, .int x5)] → W p l e ({ frames := 3, cells := 0, slots := 0, locals := 72 } : Room) s m args below meth c H locs 0 0 (MQ below (QV 50 ceX D ad κ R) args s 0 0 (AX 50 ad)) (F0 m 46 ls []) := by
  have hx := C.1
  have hb := C.2.1
  have hown := C.2.2.2.1
  have hts := C.2.2.2.2.1
  intro f
  induction f with
  | zero =>
    intro x2 x3 x4 x5 σ H locs ls h hH hl
    cases h
  | succ f ih =>
    intro x2 x3 x4 x5 σ H locs ls h hH hl
    rw [FX1_look_46] at h
    refine lv_iload hx hb dX1_look_46 (lv_at hl 5 rfl) ?_
    refine lv_iconst (v := 1) hx hb dX1_look_48 (by decide) ?_
    refine lv_iload_n hx hb dX1_look_49 rfl (lv_at hl 3 rfl) ?_
    obtain ⟨r_1, σ_2, hc_3, h⟩ := bdI_ex h
    refine g_ci (g_runS (rest := [.int (1 : Int32), .int x5]) C hH hl.1 cS_X1_33 (kJ6_bitCount_0f7a4 l D ad κ hc_3) ⟨rfl, rfl⟩ ⟨(Nat.le_of_ble_eq_true rfl), (Nat.le_of_ble_eq_true rfl)⟩ rfl rfl (Nat.le_of_ble_eq_true rfl) dX1_look_50 z00) hH (fun H locs hH => ?_)
    refine lv_ishl hx hb dX1_look_53 ?_
    refine lv_icmp_ge (tgt := 93) hx hb dX1_look_54 (by decide) (fun hq_4 => ?_) (fun hq_4 => ?_)
    · rw [if_pos hq_4] at h
      exact g_retV C hH h dX1_look_93
    · rw [if_neg hq_4] at h
      refine lv_aload_n hx hb dX1_look_57 rfl (lv_at hl 0 rfl) ?_
      refine g_get C hH 10 (Nat.le_of_ble_eq_true rfl) rfl fl_X1_9 (v := .ref (ad 45)) rfl dX1_look_58 ?_
      refine lv_aload_n hx hb dX1_look_61 rfl (lv_at hl 0 rfl) ?_
      refine lv_aload_n hx hb dX1_look_62 rfl (lv_at hl 1 rfl) ?_
      refine lv_iload_n hx hb dX1_look_63 rfl (lv_at hl 2 rfl) ?_
      refine lv_aload_n hx hb dX1_look_64 rfl (lv_at hl 0 rfl) ?_
      refine g_get C hH 10 (Nat.le_of_ble_eq_true rfl) rfl fl_X1_19 (v := .ref (ad 8)) rfl dX1_look_65 ?_
      refine g_get C hH 8 (Nat.le_of_ble_eq_true rfl) rfl fl_X1_39 (v := .int (σ_2.1 8 7)) rfl dX1_look_68 ?_
      refine lv_iload hx hb dX1_look_71 (lv_at hl 4 rfl) ?_
      refine lv_ior hx hb dX1_look_73 ?_
      obtain ⟨r_5, σ_6, hc_7, h⟩ := bdI_ex h
      refine g_ci (g_runV (rest := [.ref (ad 45)]) C hH hl.1 cV_X1_42 10 (Nat.le_of_ble_eq_true rfl) rfl rfl (kX1_partsOn l D ad κ hc_7) ⟨rfl, rfl⟩ ⟨(Nat.le_of_ble_eq_true rfl), (Nat.le_of_ble_eq_true rfl)⟩ rfl rfl (Nat.le_of_ble_eq_true rfl) dX1_look_74 z00) hH (fun H locs hH => ?_)
      refine lv_iconst (v := 1) hx hb dX1_look_77 (by decide) ?_
      obtain ⟨hi_8, h⟩ := gd_ex h
      obtain ⟨σ_9, eσ_9, h⟩ := hl_ex h
      refine g_zast C hH 45 (Nat.le_of_ble_eq_true rfl) (fun _ _ => rfl) (k := (r_5.toNatClampNeg)) rfl (ix_in hi_8) dX1_look_78 (fun H locs hH => ?_)
      rw [← eσ_9] at hH
      refine lv_iload hx hb dX1_look_79 (lv_at hl 4 rfl) ?_
      refine lv_iload_n hx hb dX1_look_81 rfl (lv_at hl 3 rfl) ?_
      refine lv_isub hx hb dX1_look_82 ?_
      refine lv_iload_n hx hb dX1_look_83 rfl (lv_at hl 3 rfl) ?_
      refine lv_iand hx hb dX1_look_84 ?_
      obtain ⟨x4_10, ex4_10, h⟩ := hl_ex h
      refine lv_eqi ex4_10 ?_
      refine lv_istore (lv' := [(4, .int x4_10), (0, .ref (ad 10)), (1, .ref (ad 4)), (2, .int x2), (3, .int x3), (5, .int x5)]) hx hb dX1_look_85 hl (by decide) rfl (fun ls hl => ?_)
      refine lv_iinc (v := (x5 + 1)) (lv' := [(5, .int (x5 + 1)), (4, .int x4_10), (0, .ref (ad 10)), (1, .ref (ad 4)), (2, .int x2), (3, .int x3)]) hx hb dX1_look_87 hl (k := 5) rfl rfl (by decide) rfl (fun ls hl => ?_)
      refine lv_goto (tgt := 46) hx hb dX1_look_90 (by decide) ?_
      exact ih _ _ _ _ _ _ _ _ h hH (lv_sub hl [2, 3, 4, 5, 1, 0] rfl)
set_option maxHeartbeats 4000000 in
set_option maxRecDepth 100000 in
theorem wX1_look_2 (C : Cx 50 D ad κ p s m args meth c cX1_look RX1 6 none) {R : HS} : ∀ (f : Nat) (x2 : Int32) (x3 : Int32) (σ : HS) (H : Heap) (locs : List Loc) (ls : Array Slot), FX1_look_2  f x2 x3 σ = some R → Hd 50 ceX D ad κ s σ H locs → lv_has ls 6 [(0, .ref (ad 10)), (1, .ref (ad 4)), (2, .int x2), (3, .int x3)] → W p l e ({ frames := 3, cells := 0, slots := 0, locals := 72 } : Room) s m args below meth c H locs 0 0 (MQ below (QV 50 ceX D ad κ R) args s 0 0 (AX 50 ad)) (F0 m 2 ls []) := by
  have hx := C.1
  have hb := C.2.1
  have hown := C.2.2.2.1
  have hts := C.2.2.2.2.1
  intro f
  induction f with
  | zero =>
    intro x2 x3 σ H locs ls h hH hl
    cases h
  | succ f ih =>
    intro x2 x3 σ H locs ls h hH hl
    rw [FX1_look_2] at h
    refine lv_iload_n hx hb dX1_look_2 rfl (lv_at hl 3 rfl) ?_
    refine lv_aload_n hx hb dX1_look_3 rfl (lv_at hl 0 rfl) ?_
    refine g_get C hH 10 (Nat.le_of_ble_eq_true rfl) rfl fl_X1_9 (v := .ref (ad 45)) rfl dX1_look_4 ?_
    refine g_alen C hH 45 2 (Nat.le_of_ble_eq_true rfl) rfl rfl (v := (256 : Int32)) rfl dX1_look_7 ?_
    refine lv_icmp_ge (tgt := 24) hx hb dX1_look_8 (by decide) (fun hq_11 => ?_) (fun hq_11 => ?_)
    · rw [if_pos hq_11] at h
      refine lv_aload_n hx hb dX1_look_24 rfl (lv_at hl 0 rfl) ?_
      refine g_get C hH 10 (Nat.le_of_ble_eq_true rfl) rfl fl_X1_19 (v := .ref (ad 8)) rfl dX1_look_25 ?_
      refine lv_aload_n hx hb dX1_look_28 rfl (lv_at hl 1 rfl) ?_
      obtain ⟨σ_12, hc_13, h⟩ := bdV_ex h
      refine g_cv (g_runV (rest := []) C hH hl.1 cV_X1_23 8 (Nat.le_of_ble_eq_true rfl) rfl rfl (kX0_weigh l D ad κ st_4 hc_13) ⟨rfl, rfl⟩ ⟨(Nat.le_of_ble_eq_true rfl), (Nat.le_of_ble_eq_true rfl)⟩ rfl rfl (Nat.le_of_ble_eq_true rfl) dX1_look_29 z00) hH (fun H locs hH => ?_)
      refine lv_aload_n hx hb dX1_look_32 rfl (lv_at hl 0 rfl) ?_
      refine g_get C hH 10 (Nat.le_of_ble_eq_true rfl) rfl fl_X1_19 (v := .ref (ad 8)) rfl dX1_look_33 ?_
      refine g_get C hH 8 (Nat.le_of_ble_eq_true rfl) rfl fl_X1_29 (v := .int (σ_12.1 8 8)) rfl dX1_look_36 ?_
      obtain ⟨x3_14, ex3_14, h⟩ := hl_ex h
      refine lv_eqi ex3_14 ?_
      refine lv_istore_n (lv' := [(3, .int x3_14), (0, .ref (ad 10)), (1, .ref (ad 4)), (2, .int x2)]) hx hb dX1_look_39 rfl hl (by decide) rfl (fun ls hl => ?_)
      refine lv_iconst (v := 0) hx hb dX1_look_40 (by decide) ?_
      refine lv_istore (lv' := [(4, .int (0 : Int32)), (3, .int x3_14), (0, .ref (ad 10)), (1, .ref (ad 4)), (2, .int x2)]) hx hb dX1_look_41 hl (by decide) rfl (fun ls hl => ?_)
      refine lv_iconst (v := 0) hx hb dX1_look_43 (by decide) ?_
      refine lv_istore (lv' := [(5, .int (0 : Int32)), (4, .int (0 : Int32)), (3, .int x3_14), (0, .ref (ad 10)), (1, .ref (ad 4)), (2, .int x2)]) hx hb dX1_look_44 hl (by decide) rfl (fun ls hl => ?_)
      exact wX1_look_46 C _ _ _ _ _ _ _ _ _ h hH (lv_sub hl [3, 4, 5, 2, 1, 0] rfl)
    · rw [if_neg hq_11] at h
      refine lv_aload_n hx hb dX1_look_11 rfl (lv_at hl 0 rfl) ?_
      refine g_get C hH 10 (Nat.le_of_ble_eq_true rfl) rfl fl_X1_9 (v := .ref (ad 45)) rfl dX1_look_12 ?_
      refine lv_iload_n hx hb dX1_look_15 rfl (lv_at hl 3 rfl) ?_
      refine lv_iconst (v := 0) hx hb dX1_look_16 (by decide) ?_
      obtain ⟨hi_15, h⟩ := gd_ex h
      obtain ⟨σ_16, eσ_16, h⟩ := hl_ex h
      refine g_zast C hH 45 (Nat.le_of_ble_eq_true rfl) (fun _ _ => rfl) (k := (x3.toNatClampNeg)) rfl (ix_in hi_15) dX1_look_17 (fun H locs hH => ?_)
      rw [← eσ_16] at hH
      refine lv_iinc (v := (x3 + 1)) (lv' := [(3, .int (x3 + 1)), (0, .ref (ad 10)), (1, .ref (ad 4)), (2, .int x2)]) hx hb dX1_look_18 hl (k := 3) rfl rfl (by decide) rfl (fun ls hl => ?_)
      refine lv_goto (tgt := 2) hx hb dX1_look_21 (by decide) ?_
      exact ih _ _ _ _ _ _ h hH (lv_sub hl [1, 2, 3, 0] rfl)
set_option maxHeartbeats 4000000 in
set_option maxRecDepth 100000 in
theorem kX1_look (l : Launch) (D : va_G) (ad : Nat → Nat) (κ : KC) {x2 : Int32} {σ : HS} {R : HS} (h : FX1_look x2 σ = some R) : MtV l 50 ceX D ad κ yX1_look cX1_look 6 none ({ frames := 3, cells := 0, slots := 0, locals := 72 } : Room) [.ref (ad 10), .ref (ad 4), .int x2] σ R := by
  refine open_ (by decide) (Nat.le_of_ble_eq_true rfl) (la := [(0, .ref (ad 10)), (1, .ref (ad 4)), (2, .int x2)]) rfl ?_
  intro p e s m below meth c ls C hH hl
  replace C : Cx 50 D ad κ p s m _ meth c cX1_look RX1 6 none := C
  have hx := C.1
  have hb := C.2.1
  have hown := C.2.2.2.1
  have hts := C.2.2.2.2.1
  rw [FX1_look] at h
  refine lv_iconst (v := 0) hx hb dX1_look_0 (by decide) ?_
  refine lv_istore_n (lv' := [(3, .int (0 : Int32)), (0, .ref (ad 10)), (1, .ref (ad 4)), (2, .int x2)]) hx hb dX1_look_1 rfl hl (by decide) rfl (fun ls hl => ?_)
  exact wX1_look_2 C _ _ _ _ _ _ _ h hH (lv_sub hl [1, 2, 3, 0] rfl)
-- X1_isMetBy
def FX1_isMetBy_2  : Nat → Int32 → Int32 → HS → Option (Int32 × HS)
  | 0, _, _, _ => none
  | f + 1, x1, x2, σ => if (256 : Int32) ≤ x2 then some ((1 : Int32), σ) else gd (ix x2 256) (if (σ.1 45 (x2.toNatClampNeg)) = 0 then FX1_isMetBy_2  f x1 (x2 + 1) σ else if (x2 &&& x1) = 0 then some ((0 : Int32), σ) else FX1_isMetBy_2  f x1 (x2 + 1) σ)
def FX1_isMetBy (x1 : Int32) (σ : HS) : Option (Int32 × HS) :=
  FX1_isMetBy_2 fu x1 (0 : Int32) σ
set_option maxHeartbeats 4000000 in
set_option maxRecDepth 100000 in
theorem wX1_isMetBy_2 (C : Cx 50 D ad κ p s m args meth c cX1_isMetBy RX1 3 (some .boolean)) {R : (Int32 × HS)} : ∀ (f : Nat) (x1 : Int32) (x2 : Int32) (σ : HS) (H : Heap) (locs : List Loc) (ls : Array Slot), FX1_isMetBy_2  f x1 x2 σ = some R → Hd 50 ceX D ad κ s σ H locs → lv_has ls 3 [(0, .ref (ad 10)), (1, .int x1), (2, .int x2)] → W p l e ({ frames := 0, cells := 0, slots := 0, locals := 0 } : Room) s m args below meth c H locs 0 0 (MQ below (QI 50 ceX D ad κ R) args s 0 0 (AX 50 ad)) (F0 m 2 ls []) := by
  have hx := C.1
  have hb := C.2.1
  have hown := C.2.2.2.1
  have hts := C.2.2.2.2.1
  intro f
  induction f with
  | zero =>
    intro x1 x2 σ H locs ls h hH hl
    cases h
  | succ f ih =>
    intro x1 x2 σ H locs ls h hH hl
    rw [FX1_isMetBy_2] at h
    refine lv_iload_n hx hb dX1_isMetBy_2 rfl (lv_at hl 2 rfl) ?_
    refine lv_aload_n hx hb dX1_isMetBy_3 rfl (lv_at hl 0 rfl) ?_
    refine g_get C hH 10 (Nat.le_of_ble_eq_true rfl) rfl fl_X1_9 (v := .ref (ad 45)) rfl dX1_isMetBy_4 ?_
    refine g_alen C hH 45 2 (Nat.le_of_ble_eq_true rfl) rfl rfl (v := (256 : Int32)) rfl dX1_isMetBy_7 ?_
    refine lv_icmp_ge (tgt := 34) hx hb dX1_isMetBy_8 (by decide) (fun hq_1 => ?_) (fun hq_1 => ?_)
    · rw [if_pos hq_1] at h
      refine lv_iconst (v := 1) hx hb dX1_isMetBy_34 (by decide) ?_
      exact g_retZ C hH rfl h dX1_isMetBy_35
    · rw [if_neg hq_1] at h
      refine lv_aload_n hx hb dX1_isMetBy_11 rfl (lv_at hl 0 rfl) ?_
      refine g_get C hH 10 (Nat.le_of_ble_eq_true rfl) rfl fl_X1_9 (v := .ref (ad 45)) rfl dX1_isMetBy_12 ?_
      refine lv_iload_n hx hb dX1_isMetBy_15 rfl (lv_at hl 2 rfl) ?_
      obtain ⟨hi_2, h⟩ := gd_ex h
      refine g_zald C hH 45 (Nat.le_of_ble_eq_true rfl) rfl (k := (x2.toNatClampNeg)) rfl (ix_in hi_2) dX1_isMetBy_16 ?_
      refine lv_if_eq (tgt := 28) hx hb dX1_isMetBy_17 (by decide) (fun hq_3 => ?_) (fun hq_3 => ?_)
      · rw [if_pos hq_3] at h
        refine lv_iinc (v := (x2 + 1)) (lv' := [(2, .int (x2 + 1)), (0, .ref (ad 10)), (1, .int x1)]) hx hb dX1_isMetBy_28 hl (k := 2) rfl rfl (by decide) rfl (fun ls hl => ?_)
        refine lv_goto (tgt := 2) hx hb dX1_isMetBy_31 (by decide) ?_
        exact ih _ _ _ _ _ _ h hH (lv_sub hl [1, 2, 0] rfl)
      · rw [if_neg hq_3] at h
        refine lv_iload_n hx hb dX1_isMetBy_20 rfl (lv_at hl 2 rfl) ?_
        refine lv_iload_n hx hb dX1_isMetBy_21 rfl (lv_at hl 1 rfl) ?_
        refine lv_iand hx hb dX1_isMetBy_22 ?_
        refine lv_if_ne (tgt := 28) hx hb dX1_isMetBy_23 (by decide) (fun hq_4 => ?_) (fun hq_4 => ?_)
        · rw [if_neg hq_4] at h
          refine lv_iinc (v := (x2 + 1)) (lv' := [(2, .int (x2 + 1)), (0, .ref (ad 10)), (1, .int x1)]) hx hb dX1_isMetBy_28 hl (k := 2) rfl rfl (by decide) rfl (fun ls hl => ?_)
          refine lv_goto (tgt := 2) hx hb dX1_isMetBy_31 (by decide) ?_
          exact ih _ _ _ _ _ _ h hH (lv_sub hl [1, 2, 0] rfl)
        · rw [if_pos hq_4] at h
          refine lv_iconst (v := 0) hx hb dX1_isMetBy_26 (by decide) ?_
          exact g_retZ C hH rfl h dX1_isMetBy_27
set_option maxHeartbeats 4000000 in
set_option maxRecDepth 100000 in
theorem kX1_isMetBy (l : Launch) (D : va_G) (ad : Nat → Nat) (κ : KC) {x1 : Int32} {σ : HS} {R : (Int32 × HS)} (h : FX1_isMetBy x1 σ = some R) : MtI l 50 ceX D ad κ yX1_isMetBy cX1_isMetBy 3 (some .boolean) ({ frames := 0, cells := 0, slots := 0, locals := 0 } : Room) [.ref (ad 10), .int x1] σ R := by
  refine open_ (by decide) (Nat.le_of_ble_eq_true rfl) (la := [(0, .ref (ad 10)), (1, .int x1)]) rfl ?_
  intro p e s m below meth c ls C hH hl
  replace C : Cx 50 D ad κ p s m _ meth c cX1_isMetBy RX1 3 (some .boolean) := C
  have hx := C.1
  have hb := C.2.1
  have hown := C.2.2.2.1
  have hts := C.2.2.2.2.1
  rw [FX1_isMetBy] at h
  refine lv_iconst (v := 0) hx hb dX1_isMetBy_0 (by decide) ?_
  refine lv_istore_n (lv' := [(2, .int (0 : Int32)), (0, .ref (ad 10)), (1, .int x1)]) hx hb dX1_isMetBy_1 rfl hl (by decide) rfl (fun ls hl => ?_)
  exact wX1_isMetBy_2 C _ _ _ _ _ _ _ h hH (lv_sub hl [1, 2, 0] rfl)
-- X1_fewestParts
def FX1_fewestParts_6  : Nat → Int32 → Int32 → HS → Option (Int32 × HS)
  | 0, _, _, _ => none
  | f + 1, x1, x2, σ => if (256 : Int32) ≤ x2 then some (x1, σ) else bdI (FJ6_bitCount_0f7a4 x2 σ) fun r_2 σ_3 => bdI (FJ6_bitCount_0f7a4 x1 σ_3) fun r_5 σ_6 => if r_5 ≤ r_2 then FX1_fewestParts_6  f x1 (x2 + 1) σ_6 else bdI (FX1_isMetBy x2 σ_6) fun r_9 σ_10 => if r_9 = 0 then FX1_fewestParts_6  f x1 (x2 + 1) σ_10 else FX1_fewestParts_6  f x2 (x2 + 1) σ_10
def FX1_fewestParts (σ : HS) : Option (Int32 × HS) :=
  FX1_fewestParts_6 fu (255 : Int32) (0 : Int32) σ
set_option maxHeartbeats 4000000 in
set_option maxRecDepth 100000 in
theorem wX1_fewestParts_6 (C : Cx 50 D ad κ p s m args meth c cX1_fewestParts RX1 3 (some .int)) {R : (Int32 × HS)} : ∀ (f : Nat) (x1 : Int32) (x2 : Int32) (σ : HS) (H : Heap) (locs : List Loc) (ls : Array Slot), FX1_fewestParts_6  f x1 x2 σ = some R → Hd 50 ceX D ad κ s σ H locs → lv_has ls 3 [(0, .ref (ad 10)), (1, .int x1), (2, .int x2)] → W p l e ({ frames := 1, cells := 0, slots := 0, locals := 22 } : Room) s m args below meth c H locs 0 0 (MQ below (QI 50 ceX D ad κ R) args s 0 0 (AX 50 ad)) (F0 m 6 ls []) := by
  have hx := C.1
  have hb := C.2.1
  have hown := C.2.2.2.1
  have hts := C.2.2.2.2.1
  intro f
  induction f with
  | zero =>
    intro x1 x2 σ H locs ls h hH hl
    cases h
  | succ f ih =>
    intro x1 x2 σ H locs ls h hH hl
    rw [FX1_fewestParts_6] at h
    refine lv_iload_n hx hb dX1_fewestParts_6 rfl (lv_at hl 2 rfl) ?_
    refine lv_aload_n hx hb dX1_fewestParts_7 rfl (lv_at hl 0 rfl) ?_
    refine g_get C hH 10 (Nat.le_of_ble_eq_true rfl) rfl fl_X1_9 (v := .ref (ad 45)) rfl dX1_fewestParts_8 ?_
    refine g_alen C hH 45 2 (Nat.le_of_ble_eq_true rfl) rfl rfl (v := (256 : Int32)) rfl dX1_fewestParts_11 ?_
    refine lv_icmp_ge (tgt := 42) hx hb dX1_fewestParts_12 (by decide) (fun hq_1 => ?_) (fun hq_1 => ?_)
    · rw [if_pos hq_1] at h
      refine lv_iload_n hx hb dX1_fewestParts_42 rfl (lv_at hl 1 rfl) ?_
      exact g_ret C hH h dX1_fewestParts_43
    · rw [if_neg hq_1] at h
      refine lv_iload_n hx hb dX1_fewestParts_15 rfl (lv_at hl 2 rfl) ?_
      obtain ⟨r_2, σ_3, hc_4, h⟩ := bdI_ex h
      refine g_ci (g_runS (rest := []) C hH hl.1 cS_X1_33 (kJ6_bitCount_0f7a4 l D ad κ hc_4) ⟨rfl, rfl⟩ ⟨(Nat.le_of_ble_eq_true rfl), (Nat.le_of_ble_eq_true rfl)⟩ rfl rfl (Nat.le_of_ble_eq_true rfl) dX1_fewestParts_16 z00) hH (fun H locs hH => ?_)
      refine lv_iload_n hx hb dX1_fewestParts_19 rfl (lv_at hl 1 rfl) ?_
      obtain ⟨r_5, σ_6, hc_7, h⟩ := bdI_ex h
      refine g_ci (g_runS (rest := [.int r_2]) C hH hl.1 cS_X1_33 (kJ6_bitCount_0f7a4 l D ad κ hc_7) ⟨rfl, rfl⟩ ⟨(Nat.le_of_ble_eq_true rfl), (Nat.le_of_ble_eq_true rfl)⟩ rfl rfl (Nat.le_of_ble_eq_true rfl) dX1_fewestParts_20 z00) hH (fun H locs hH => ?_)
      refine lv_icmp_ge (tgt := 36) hx hb dX1_fewestParts_23 (by decide) (fun hq_8 => ?_) (fun hq_8 => ?_)
      · rw [if_pos hq_8] at h
        refine lv_iinc (v := (x2 + 1)) (lv' := [(2, .int (x2 + 1)), (0, .ref (ad 10)), (1, .int x1)]) hx hb dX1_fewestParts_36 hl (k := 2) rfl rfl (by decide) rfl (fun ls hl => ?_)
        refine lv_goto (tgt := 6) hx hb dX1_fewestParts_39 (by decide) ?_
        exact ih _ _ _ _ _ _ h hH (lv_sub hl [1, 2, 0] rfl)
      · rw [if_neg hq_8] at h
        refine lv_aload_n hx hb dX1_fewestParts_26 rfl (lv_at hl 0 rfl) ?_
        refine lv_iload_n hx hb dX1_fewestParts_27 rfl (lv_at hl 2 rfl) ?_
        obtain ⟨r_9, σ_10, hc_11, h⟩ := bdI_ex h
        refine g_ci (g_runV (rest := []) C hH hl.1 cV_X1_60 10 (Nat.le_of_ble_eq_true rfl) rfl rfl (kX1_isMetBy l D ad κ hc_11) ⟨rfl, rfl⟩ ⟨(Nat.le_of_ble_eq_true rfl), (Nat.le_of_ble_eq_true rfl)⟩ rfl rfl (Nat.le_of_ble_eq_true rfl) dX1_fewestParts_28 z00) hH (fun H locs hH => ?_)
        refine lv_if_eq (tgt := 36) hx hb dX1_fewestParts_31 (by decide) (fun hq_12 => ?_) (fun hq_12 => ?_)
        · rw [if_pos hq_12] at h
          refine lv_iinc (v := (x2 + 1)) (lv' := [(2, .int (x2 + 1)), (0, .ref (ad 10)), (1, .int x1)]) hx hb dX1_fewestParts_36 hl (k := 2) rfl rfl (by decide) rfl (fun ls hl => ?_)
          refine lv_goto (tgt := 6) hx hb dX1_fewestParts_39 (by decide) ?_
          exact ih _ _ _ _ _ _ h hH (lv_sub hl [1, 2, 0] rfl)
        · rw [if_neg hq_12] at h
          refine lv_iload_n hx hb dX1_fewestParts_34 rfl (lv_at hl 2 rfl) ?_
          refine lv_istore_n (lv' := [(1, .int x2), (0, .ref (ad 10)), (2, .int x2)]) hx hb dX1_fewestParts_35 rfl hl (by decide) rfl (fun ls hl => ?_)
          refine lv_iinc (v := (x2 + 1)) (lv' := [(2, .int (x2 + 1)), (1, .int x2), (0, .ref (ad 10))]) hx hb dX1_fewestParts_36 hl (k := 2) rfl rfl (by decide) rfl (fun ls hl => ?_)
          refine lv_goto (tgt := 6) hx hb dX1_fewestParts_39 (by decide) ?_
          exact ih _ _ _ _ _ _ h hH (lv_sub hl [2, 1, 0] rfl)
set_option maxHeartbeats 4000000 in
set_option maxRecDepth 100000 in
theorem kX1_fewestParts (l : Launch) (D : va_G) (ad : Nat → Nat) (κ : KC) {σ : HS} {R : (Int32 × HS)} (h : FX1_fewestParts σ = some R) : MtI l 50 ceX D ad κ yX1_fewestParts cX1_fewestParts 3 (some .int) ({ frames := 1, cells := 0, slots := 0, locals := 22 } : Room) [.ref (ad 10)] σ R := by
  refine open_ (by decide) (Nat.le_of_ble_eq_true rfl) (la := [(0, .ref (ad 10))]) rfl ?_
  intro p e s m below meth c ls C hH hl
  replace C : Cx 50 D ad κ p s m _ meth c cX1_fewestParts RX1 3 (some .int) := C
  have hx := C.1
  have hb := C.2.1
  have hown := C.2.2.2.1
  have hts := C.2.2.2.2.1
  rw [FX1_fewestParts] at h
  refine lv_sipush (v := 255) hx hb dX1_fewestParts_0 (by decide) ?_
  refine lv_istore_n (lv' := [(1, .int (255 : Int32)), (0, .ref (ad 10))]) hx hb dX1_fewestParts_3 rfl hl (by decide) rfl (fun ls hl => ?_)
  refine lv_iconst (v := 0) hx hb dX1_fewestParts_4 (by decide) ?_
  refine lv_istore_n (lv' := [(2, .int (0 : Int32)), (1, .int (255 : Int32)), (0, .ref (ad 10))]) hx hb dX1_fewestParts_5 rfl hl (by decide) rfl (fun ls hl => ?_)
  exact wX1_fewestParts_6 C _ _ _ _ _ _ _ h hH (lv_sub hl [2, 1, 0] rfl)
end
