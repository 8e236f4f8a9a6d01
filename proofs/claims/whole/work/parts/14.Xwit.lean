theorem dX10_add_0 : decode cX10_add 0 = .ok (.aload_n 0, 1) := by decide +kernel
theorem dX10_add_1 : decode cX10_add 1 = .ok (.getfield 33, 3) := by decide +kernel
theorem dX10_add_4 : decode cX10_add 4 = .ok (.bipush 20, 2) := by decide +kernel
theorem dX10_add_6 : decode cX10_add 6 = .ok (.if_icmp .lt 5, 3) := by decide +kernel
theorem dX10_add_9 : decode cX10_add 9 = .ok (.iconst (-1), 1) := by decide +kernel
theorem dX10_add_10 : decode cX10_add 10 = .ok (.ireturn, 1) := by decide +kernel
theorem dX10_add_11 : decode cX10_add 11 = .ok (.aload_n 0, 1) := by decide +kernel
theorem dX10_add_12 : decode cX10_add 12 = .ok (.getfield 11, 3) := by decide +kernel
theorem dX10_add_15 : decode cX10_add 15 = .ok (.aload_n 0, 1) := by decide +kernel
theorem dX10_add_16 : decode cX10_add 16 = .ok (.getfield 33, 3) := by decide +kernel
theorem dX10_add_19 : decode cX10_add 19 = .ok (.iload_n 1, 1) := by decide +kernel
theorem dX10_add_20 : decode cX10_add 20 = .ok (.iastore, 1) := by decide +kernel
theorem dX10_add_21 : decode cX10_add 21 = .ok (.aload_n 0, 1) := by decide +kernel
theorem dX10_add_22 : decode cX10_add 22 = .ok (.getfield 15, 3) := by decide +kernel
theorem dX10_add_25 : decode cX10_add 25 = .ok (.aload_n 0, 1) := by decide +kernel
theorem dX10_add_26 : decode cX10_add 26 = .ok (.getfield 33, 3) := by decide +kernel
theorem dX10_add_29 : decode cX10_add 29 = .ok (.iload_n 2, 1) := by decide +kernel
theorem dX10_add_30 : decode cX10_add 30 = .ok (.iastore, 1) := by decide +kernel
theorem dX10_add_31 : decode cX10_add 31 = .ok (.aload_n 0, 1) := by decide +kernel
theorem dX10_add_32 : decode cX10_add 32 = .ok (.getfield 18, 3) := by decide +kernel
theorem dX10_add_35 : decode cX10_add 35 = .ok (.aload_n 0, 1) := by decide +kernel
theorem dX10_add_36 : decode cX10_add 36 = .ok (.getfield 33, 3) := by decide +kernel
theorem dX10_add_39 : decode cX10_add 39 = .ok (.iload_n 3, 1) := by decide +kernel
theorem dX10_add_40 : decode cX10_add 40 = .ok (.bastore, 1) := by decide +kernel
theorem dX10_add_41 : decode cX10_add 41 = .ok (.aload_n 0, 1) := by decide +kernel
theorem dX10_add_42 : decode cX10_add 42 = .ok (.dup, 1) := by decide +kernel
theorem dX10_add_43 : decode cX10_add 43 = .ok (.getfield 33, 3) := by decide +kernel
theorem dX10_add_46 : decode cX10_add 46 = .ok (.iconst 1, 1) := by decide +kernel
theorem dX10_add_47 : decode cX10_add 47 = .ok (.iadd, 1) := by decide +kernel
theorem dX10_add_48 : decode cX10_add 48 = .ok (.putfield 33, 3) := by decide +kernel
theorem dX10_add_51 : decode cX10_add 51 = .ok (.aload_n 0, 1) := by decide +kernel
theorem dX10_add_52 : decode cX10_add 52 = .ok (.getfield 33, 3) := by decide +kernel
theorem dX10_add_55 : decode cX10_add 55 = .ok (.iconst 1, 1) := by decide +kernel
theorem dX10_add_56 : decode cX10_add 56 = .ok (.isub, 1) := by decide +kernel
theorem dX10_add_57 : decode cX10_add 57 = .ok (.ireturn, 1) := by decide +kernel
theorem dX10_agrees_0 : decode cX10_agrees 0 = .ok (.iconst 0, 1) := by decide +kernel
theorem dX10_agrees_1 : decode cX10_agrees 1 = .ok (.istore_n 3, 1) := by decide +kernel
theorem dX10_agrees_2 : decode cX10_agrees 2 = .ok (.iload_n 3, 1) := by decide +kernel
theorem dX10_agrees_3 : decode cX10_agrees 3 = .ok (.iload_n 2, 1) := by decide +kernel
theorem dX10_agrees_4 : decode cX10_agrees 4 = .ok (.if_icmp .ge 52, 3) := by decide +kernel
theorem dX10_agrees_7 : decode cX10_agrees 7 = .ok (.iload_n 3, 1) := by decide +kernel
theorem dX10_agrees_8 : decode cX10_agrees 8 = .ok (.aload_n 0, 1) := by decide +kernel
theorem dX10_agrees_9 : decode cX10_agrees 9 = .ok (.getfield 33, 3) := by decide +kernel
theorem dX10_agrees_12 : decode cX10_agrees 12 = .ok (.if_icmp .ge 44, 3) := by decide +kernel
theorem dX10_agrees_15 : decode cX10_agrees 15 = .ok (.iload_n 1, 1) := by decide +kernel
theorem dX10_agrees_16 : decode cX10_agrees 16 = .ok (.aload_n 0, 1) := by decide +kernel
theorem dX10_agrees_17 : decode cX10_agrees 17 = .ok (.getfield 11, 3) := by decide +kernel
theorem dX10_agrees_20 : decode cX10_agrees 20 = .ok (.iload_n 3, 1) := by decide +kernel
theorem dX10_agrees_21 : decode cX10_agrees 21 = .ok (.iaload, 1) := by decide +kernel
theorem dX10_agrees_22 : decode cX10_agrees 22 = .ok (.invokestatic 82, 3) := by decide +kernel
theorem dX10_agrees_25 : decode cX10_agrees 25 = .ok (.aload_n 0, 1) := by decide +kernel
theorem dX10_agrees_26 : decode cX10_agrees 26 = .ok (.getfield 15, 3) := by decide +kernel
theorem dX10_agrees_29 : decode cX10_agrees 29 = .ok (.iload_n 3, 1) := by decide +kernel
theorem dX10_agrees_30 : decode cX10_agrees 30 = .ok (.iaload, 1) := by decide +kernel
theorem dX10_agrees_31 : decode cX10_agrees 31 = .ok (.if_icmp .ne 7, 3) := by decide +kernel
theorem dX10_agrees_34 : decode cX10_agrees 34 = .ok (.iconst 1, 1) := by decide +kernel
theorem dX10_agrees_35 : decode cX10_agrees 35 = .ok (.goto 4, 3) := by decide +kernel
theorem dX10_agrees_38 : decode cX10_agrees 38 = .ok (.iconst 0, 1) := by decide +kernel
theorem dX10_agrees_39 : decode cX10_agrees 39 = .ok (.aload_n 0, 1) := by decide +kernel
theorem dX10_agrees_40 : decode cX10_agrees 40 = .ok (.getfield 18, 3) := by decide +kernel
theorem dX10_agrees_43 : decode cX10_agrees 43 = .ok (.iload_n 3, 1) := by decide +kernel
theorem dX10_agrees_44 : decode cX10_agrees 44 = .ok (.baload, 1) := by decide +kernel
theorem dX10_agrees_45 : decode cX10_agrees 45 = .ok (.if_icmp .eq 5, 3) := by decide +kernel
theorem dX10_agrees_48 : decode cX10_agrees 48 = .ok (.iconst 0, 1) := by decide +kernel
theorem dX10_agrees_49 : decode cX10_agrees 49 = .ok (.ireturn, 1) := by decide +kernel
theorem dX10_agrees_50 : decode cX10_agrees 50 = .ok (.iinc 3 1, 3) := by decide +kernel
theorem dX10_agrees_53 : decode cX10_agrees 53 = .ok (.goto (-51), 3) := by decide +kernel
theorem dX10_agrees_56 : decode cX10_agrees 56 = .ok (.iconst 1, 1) := by decide +kernel
theorem dX10_agrees_57 : decode cX10_agrees 57 = .ok (.ireturn, 1) := by decide +kernel
theorem dX10_addSet_0 : decode cX10_addSet 0 = .ok (.aload_n 0, 1) := by decide +kernel
theorem dX10_addSet_1 : decode cX10_addSet 1 = .ok (.getfield 49, 3) := by decide +kernel
theorem dX10_addSet_4 : decode cX10_addSet 4 = .ok (.ifCond .ne 8, 3) := by decide +kernel
theorem dX10_addSet_7 : decode cX10_addSet 7 = .ok (.aload_n 0, 1) := by decide +kernel
theorem dX10_addSet_8 : decode cX10_addSet 8 = .ok (.iload_n 1, 1) := by decide +kernel
theorem dX10_addSet_9 : decode cX10_addSet 9 = .ok (.putfield 86, 3) := by decide +kernel
theorem dX10_addSet_12 : decode cX10_addSet 12 = .ok (.aload_n 0, 1) := by decide +kernel
theorem dX10_addSet_13 : decode cX10_addSet 13 = .ok (.dup, 1) := by decide +kernel
theorem dX10_addSet_14 : decode cX10_addSet 14 = .ok (.getfield 49, 3) := by decide +kernel
theorem dX10_addSet_17 : decode cX10_addSet 17 = .ok (.iconst 1, 1) := by decide +kernel
theorem dX10_addSet_18 : decode cX10_addSet 18 = .ok (.iadd, 1) := by decide +kernel
theorem dX10_addSet_19 : decode cX10_addSet 19 = .ok (.putfield 49, 3) := by decide +kernel
theorem dX10_addSet_22 : decode cX10_addSet 22 = .ok (.aload_n 0, 1) := by decide +kernel
theorem dX10_addSet_23 : decode cX10_addSet 23 = .ok (.dup, 1) := by decide +kernel
theorem dX10_addSet_24 : decode cX10_addSet 24 = .ok (.getfield 56, 3) := by decide +kernel
theorem dX10_addSet_27 : decode cX10_addSet 27 = .ok (.iload_n 1, 1) := by decide +kernel
theorem dX10_addSet_28 : decode cX10_addSet 28 = .ok (.iand, 1) := by decide +kernel
theorem dX10_addSet_29 : decode cX10_addSet 29 = .ok (.putfield 56, 3) := by decide +kernel
theorem dX10_addSet_32 : decode cX10_addSet 32 = .ok (.aload_n 0, 1) := by decide +kernel
theorem dX10_addSet_33 : decode cX10_addSet 33 = .ok (.dup, 1) := by decide +kernel
theorem dX10_addSet_34 : decode cX10_addSet 34 = .ok (.getfield 59, 3) := by decide +kernel
theorem dX10_addSet_37 : decode cX10_addSet 37 = .ok (.iload_n 1, 1) := by decide +kernel
theorem dX10_addSet_38 : decode cX10_addSet 38 = .ok (.iconst (-1), 1) := by decide +kernel
theorem dX10_addSet_39 : decode cX10_addSet 39 = .ok (.ixor, 1) := by decide +kernel
theorem dX10_addSet_40 : decode cX10_addSet 40 = .ok (.iand, 1) := by decide +kernel
theorem dX10_addSet_41 : decode cX10_addSet 41 = .ok (.putfield 59, 3) := by decide +kernel
theorem dX10_addSet_44 : decode cX10_addSet 44 = .ok (.iconst 0, 1) := by decide +kernel
theorem dX10_addSet_45 : decode cX10_addSet 45 = .ok (.istore_n 2, 1) := by decide +kernel
theorem dX10_addSet_46 : decode cX10_addSet 46 = .ok (.iload_n 2, 1) := by decide +kernel
theorem dX10_addSet_47 : decode cX10_addSet 47 = .ok (.aload_n 0, 1) := by decide +kernel
theorem dX10_addSet_48 : decode cX10_addSet 48 = .ok (.getfield 25, 3) := by decide +kernel
theorem dX10_addSet_51 : decode cX10_addSet 51 = .ok (.getfield 52, 3) := by decide +kernel
theorem dX10_addSet_54 : decode cX10_addSet 54 = .ok (.if_icmp .ge 23, 3) := by decide +kernel
theorem dX10_addSet_57 : decode cX10_addSet 57 = .ok (.aload_n 0, 1) := by decide +kernel
theorem dX10_addSet_58 : decode cX10_addSet 58 = .ok (.getfield 22, 3) := by decide +kernel
theorem dX10_addSet_61 : decode cX10_addSet 61 = .ok (.iload_n 2, 1) := by decide +kernel
theorem dX10_addSet_62 : decode cX10_addSet 62 = .ok (.dup2, 1) := by decide +kernel
theorem dX10_addSet_63 : decode cX10_addSet 63 = .ok (.iaload, 1) := by decide +kernel
theorem dX10_addSet_64 : decode cX10_addSet 64 = .ok (.iload_n 1, 1) := by decide +kernel
theorem dX10_addSet_65 : decode cX10_addSet 65 = .ok (.iload_n 2, 1) := by decide +kernel
theorem dX10_addSet_66 : decode cX10_addSet 66 = .ok (.ishr, 1) := by decide +kernel
theorem dX10_addSet_67 : decode cX10_addSet 67 = .ok (.iconst 1, 1) := by decide +kernel
theorem dX10_addSet_68 : decode cX10_addSet 68 = .ok (.iand, 1) := by decide +kernel
theorem dX10_addSet_69 : decode cX10_addSet 69 = .ok (.iadd, 1) := by decide +kernel
theorem dX10_addSet_70 : decode cX10_addSet 70 = .ok (.iastore, 1) := by decide +kernel
theorem dX10_addSet_71 : decode cX10_addSet 71 = .ok (.iinc 2 1, 3) := by decide +kernel
theorem dX10_addSet_74 : decode cX10_addSet 74 = .ok (.goto (-28), 3) := by decide +kernel
theorem dX10_addSet_77 : decode cX10_addSet 77 = .ok (.return_, 1) := by decide +kernel
theorem dX10_sift_0 : decode cX10_sift 0 = .ok (.aload_n 0, 1) := by decide +kernel
theorem dX10_sift_1 : decode cX10_sift 1 = .ok (.getfield 29, 3) := by decide +kernel
theorem dX10_sift_4 : decode cX10_sift 4 = .ok (.aload_n 1, 1) := by decide +kernel
theorem dX10_sift_5 : decode cX10_sift 5 = .ok (.invokevirtual 37, 3) := by decide +kernel
theorem dX10_sift_8 : decode cX10_sift 8 = .ok (.aload_n 0, 1) := by decide +kernel
theorem dX10_sift_9 : decode cX10_sift 9 = .ok (.getfield 22, 3) := by decide +kernel
theorem dX10_sift_12 : decode cX10_sift 12 = .ok (.iconst 0, 1) := by decide +kernel
theorem dX10_sift_13 : decode cX10_sift 13 = .ok (.invokestatic 43, 3) := by decide +kernel
theorem dX10_sift_16 : decode cX10_sift 16 = .ok (.aload_n 0, 1) := by decide +kernel
theorem dX10_sift_17 : decode cX10_sift 17 = .ok (.iconst 0, 1) := by decide +kernel
theorem dX10_sift_18 : decode cX10_sift 18 = .ok (.putfield 49, 3) := by decide +kernel
theorem dX10_sift_21 : decode cX10_sift 21 = .ok (.aload_n 0, 1) := by decide +kernel
theorem dX10_sift_22 : decode cX10_sift 22 = .ok (.iconst 1, 1) := by decide +kernel
theorem dX10_sift_23 : decode cX10_sift 23 = .ok (.aload_n 0, 1) := by decide +kernel
theorem dX10_sift_24 : decode cX10_sift 24 = .ok (.getfield 25, 3) := by decide +kernel
theorem dX10_sift_27 : decode cX10_sift 27 = .ok (.getfield 52, 3) := by decide +kernel
theorem dX10_sift_30 : decode cX10_sift 30 = .ok (.ishl, 1) := by decide +kernel
theorem dX10_sift_31 : decode cX10_sift 31 = .ok (.iconst 1, 1) := by decide +kernel
theorem dX10_sift_32 : decode cX10_sift 32 = .ok (.isub, 1) := by decide +kernel
theorem dX10_sift_33 : decode cX10_sift 33 = .ok (.putfield 56, 3) := by decide +kernel
theorem dX10_sift_36 : decode cX10_sift 36 = .ok (.aload_n 0, 1) := by decide +kernel
theorem dX10_sift_37 : decode cX10_sift 37 = .ok (.aload_n 0, 1) := by decide +kernel
theorem dX10_sift_38 : decode cX10_sift 38 = .ok (.getfield 56, 3) := by decide +kernel
theorem dX10_sift_41 : decode cX10_sift 41 = .ok (.putfield 59, 3) := by decide +kernel
theorem dX10_sift_44 : decode cX10_sift 44 = .ok (.aload_n 0, 1) := by decide +kernel
theorem dX10_sift_45 : decode cX10_sift 45 = .ok (.getfield 29, 3) := by decide +kernel
theorem dX10_sift_48 : decode cX10_sift 48 = .ok (.getfield 62, 3) := by decide +kernel
theorem dX10_sift_51 : decode cX10_sift 51 = .ok (.istore_n 3, 1) := by decide +kernel
theorem dX10_sift_52 : decode cX10_sift 52 = .ok (.iconst 0, 1) := by decide +kernel
theorem dX10_sift_53 : decode cX10_sift 53 = .ok (.istore 4, 2) := by decide +kernel
theorem dX10_sift_55 : decode cX10_sift 55 = .ok (.iconst 0, 1) := by decide +kernel
theorem dX10_sift_56 : decode cX10_sift 56 = .ok (.istore 5, 2) := by decide +kernel
theorem dX10_sift_58 : decode cX10_sift 58 = .ok (.iload 5, 2) := by decide +kernel
theorem dX10_sift_60 : decode cX10_sift 60 = .ok (.iconst 1, 1) := by decide +kernel
theorem dX10_sift_61 : decode cX10_sift 61 = .ok (.iload_n 3, 1) := by decide +kernel
theorem dX10_sift_62 : decode cX10_sift 62 = .ok (.invokestatic 65, 3) := by decide +kernel
theorem dX10_sift_65 : decode cX10_sift 65 = .ok (.ishl, 1) := by decide +kernel
theorem dX10_sift_66 : decode cX10_sift 66 = .ok (.if_icmp .ge 45, 3) := by decide +kernel
theorem dX10_sift_69 : decode cX10_sift 69 = .ok (.aload_n 0, 1) := by decide +kernel
theorem dX10_sift_70 : decode cX10_sift 70 = .ok (.getfield 29, 3) := by decide +kernel
theorem dX10_sift_73 : decode cX10_sift 73 = .ok (.getfield 71, 3) := by decide +kernel
theorem dX10_sift_76 : decode cX10_sift 76 = .ok (.iload 4, 2) := by decide +kernel
theorem dX10_sift_78 : decode cX10_sift 78 = .ok (.ior, 1) := by decide +kernel
theorem dX10_sift_79 : decode cX10_sift 79 = .ok (.istore 6, 2) := by decide +kernel
theorem dX10_sift_81 : decode cX10_sift 81 = .ok (.aload_n 0, 1) := by decide +kernel
theorem dX10_sift_82 : decode cX10_sift 82 = .ok (.iload 6, 2) := by decide +kernel
theorem dX10_sift_84 : decode cX10_sift 84 = .ok (.iload_n 2, 1) := by decide +kernel
theorem dX10_sift_85 : decode cX10_sift 85 = .ok (.invokevirtual 74, 3) := by decide +kernel
theorem dX10_sift_88 : decode cX10_sift 88 = .ok (.ifCond .eq 9, 3) := by decide +kernel
theorem dX10_sift_91 : decode cX10_sift 91 = .ok (.aload_n 0, 1) := by decide +kernel
theorem dX10_sift_92 : decode cX10_sift 92 = .ok (.iload 6, 2) := by decide +kernel
theorem dX10_sift_94 : decode cX10_sift 94 = .ok (.invokevirtual 78, 3) := by decide +kernel
theorem dX10_sift_97 : decode cX10_sift 97 = .ok (.iload 4, 2) := by decide +kernel
theorem dX10_sift_99 : decode cX10_sift 99 = .ok (.iload_n 3, 1) := by decide +kernel
theorem dX10_sift_100 : decode cX10_sift 100 = .ok (.isub, 1) := by decide +kernel
theorem dX10_sift_101 : decode cX10_sift 101 = .ok (.iload_n 3, 1) := by decide +kernel
theorem dX10_sift_102 : decode cX10_sift 102 = .ok (.iand, 1) := by decide +kernel
theorem dX10_sift_103 : decode cX10_sift 103 = .ok (.istore 4, 2) := by decide +kernel
theorem dX10_sift_105 : decode cX10_sift 105 = .ok (.iinc 5 1, 3) := by decide +kernel
theorem dX10_sift_108 : decode cX10_sift 108 = .ok (.goto (-50), 3) := by decide +kernel
theorem dX10_sift_111 : decode cX10_sift 111 = .ok (.return_, 1) := by decide +kernel
theorem dX10_bestQuestion_0 : decode cX10_bestQuestion 0 = .ok (.bipush (-2), 2) := by decide +kernel
theorem dX10_bestQuestion_2 : decode cX10_bestQuestion 2 = .ok (.istore_n 1, 1) := by decide +kernel
theorem dX10_bestQuestion_3 : decode cX10_bestQuestion 3 = .ok (.aload_n 0, 1) := by decide +kernel
theorem dX10_bestQuestion_4 : decode cX10_bestQuestion 4 = .ok (.getfield 49, 3) := by decide +kernel
theorem dX10_bestQuestion_7 : decode cX10_bestQuestion 7 = .ok (.iconst 1, 1) := by decide +kernel
theorem dX10_bestQuestion_8 : decode cX10_bestQuestion 8 = .ok (.iadd, 1) := by decide +kernel
theorem dX10_bestQuestion_9 : decode cX10_bestQuestion 9 = .ok (.istore_n 2, 1) := by decide +kernel
theorem dX10_bestQuestion_10 : decode cX10_bestQuestion 10 = .ok (.iconst 0, 1) := by decide +kernel
theorem dX10_bestQuestion_11 : decode cX10_bestQuestion 11 = .ok (.istore_n 3, 1) := by decide +kernel
theorem dX10_bestQuestion_12 : decode cX10_bestQuestion 12 = .ok (.iload_n 3, 1) := by decide +kernel
theorem dX10_bestQuestion_13 : decode cX10_bestQuestion 13 = .ok (.aload_n 0, 1) := by decide +kernel
theorem dX10_bestQuestion_14 : decode cX10_bestQuestion 14 = .ok (.getfield 25, 3) := by decide +kernel
theorem dX10_bestQuestion_17 : decode cX10_bestQuestion 17 = .ok (.getfield 52, 3) := by decide +kernel
theorem dX10_bestQuestion_20 : decode cX10_bestQuestion 20 = .ok (.if_icmp .ge 42, 3) := by decide +kernel
theorem dX10_bestQuestion_23 : decode cX10_bestQuestion 23 = .ok (.aload_n 0, 1) := by decide +kernel
theorem dX10_bestQuestion_24 : decode cX10_bestQuestion 24 = .ok (.getfield 22, 3) := by decide +kernel
theorem dX10_bestQuestion_27 : decode cX10_bestQuestion 27 = .ok (.iload_n 3, 1) := by decide +kernel
theorem dX10_bestQuestion_28 : decode cX10_bestQuestion 28 = .ok (.iaload, 1) := by decide +kernel
theorem dX10_bestQuestion_29 : decode cX10_bestQuestion 29 = .ok (.aload_n 0, 1) := by decide +kernel
theorem dX10_bestQuestion_30 : decode cX10_bestQuestion 30 = .ok (.getfield 49, 3) := by decide +kernel
theorem dX10_bestQuestion_33 : decode cX10_bestQuestion 33 = .ok (.aload_n 0, 1) := by decide +kernel
theorem dX10_bestQuestion_34 : decode cX10_bestQuestion 34 = .ok (.getfield 22, 3) := by decide +kernel
theorem dX10_bestQuestion_37 : decode cX10_bestQuestion 37 = .ok (.iload_n 3, 1) := by decide +kernel
theorem dX10_bestQuestion_38 : decode cX10_bestQuestion 38 = .ok (.iaload, 1) := by decide +kernel
theorem dX10_bestQuestion_39 : decode cX10_bestQuestion 39 = .ok (.isub, 1) := by decide +kernel
theorem dX10_bestQuestion_40 : decode cX10_bestQuestion 40 = .ok (.invokestatic 89, 3) := by decide +kernel
theorem dX10_bestQuestion_43 : decode cX10_bestQuestion 43 = .ok (.istore 4, 2) := by decide +kernel
theorem dX10_bestQuestion_45 : decode cX10_bestQuestion 45 = .ok (.iload 4, 2) := by decide +kernel
theorem dX10_bestQuestion_47 : decode cX10_bestQuestion 47 = .ok (.iload_n 2, 1) := by decide +kernel
theorem dX10_bestQuestion_48 : decode cX10_bestQuestion 48 = .ok (.if_icmp .ge 8, 3) := by decide +kernel
theorem dX10_bestQuestion_51 : decode cX10_bestQuestion 51 = .ok (.iload_n 3, 1) := by decide +kernel
theorem dX10_bestQuestion_52 : decode cX10_bestQuestion 52 = .ok (.istore_n 1, 1) := by decide +kernel
theorem dX10_bestQuestion_53 : decode cX10_bestQuestion 53 = .ok (.iload 4, 2) := by decide +kernel
theorem dX10_bestQuestion_55 : decode cX10_bestQuestion 55 = .ok (.istore_n 2, 1) := by decide +kernel
theorem dX10_bestQuestion_56 : decode cX10_bestQuestion 56 = .ok (.iinc 3 1, 3) := by decide +kernel
theorem dX10_bestQuestion_59 : decode cX10_bestQuestion 59 = .ok (.goto (-47), 3) := by decide +kernel
theorem dX10_bestQuestion_62 : decode cX10_bestQuestion 62 = .ok (.iload_n 1, 1) := by decide +kernel
theorem dX10_bestQuestion_63 : decode cX10_bestQuestion 63 = .ok (.ireturn, 1) := by decide +kernel
theorem dX11_within_0 : decode cX11_within 0 = .ok (.iload_n 1, 1) := by decide +kernel
theorem dX11_within_1 : decode cX11_within 1 = .ok (.iload_n 0, 1) := by decide +kernel
theorem dX11_within_2 : decode cX11_within 2 = .ok (.if_icmp .gt 12, 3) := by decide +kernel
theorem dX11_within_5 : decode cX11_within 5 = .ok (.iload_n 0, 1) := by decide +kernel
theorem dX11_within_6 : decode cX11_within 6 = .ok (.iload_n 2, 1) := by decide +kernel
theorem dX11_within_7 : decode cX11_within 7 = .ok (.if_icmp .gt 7, 3) := by decide +kernel
theorem dX11_within_10 : decode cX11_within 10 = .ok (.iconst 1, 1) := by decide +kernel
theorem dX11_within_11 : decode cX11_within 11 = .ok (.goto 4, 3) := by decide +kernel
theorem dX11_within_14 : decode cX11_within 14 = .ok (.iconst 0, 1) := by decide +kernel
theorem dX11_within_15 : decode cX11_within 15 = .ok (.ireturn, 1) := by decide +kernel
theorem dX3_keep_0 : decode cX3_keep 0 = .ok (.aload_n 1, 1) := by decide +kernel
theorem dX3_keep_1 : decode cX3_keep 1 = .ok (.getfield 22, 3) := by decide +kernel
theorem dX3_keep_4 : decode cX3_keep 4 = .ok (.iconst 0, 1) := by decide +kernel
theorem dX3_keep_5 : decode cX3_keep 5 = .ok (.aload_n 0, 1) := by decide +kernel
theorem dX3_keep_6 : decode cX3_keep 6 = .ok (.getfield 11, 3) := by decide +kernel
theorem dX3_keep_9 : decode cX3_keep 9 = .ok (.aload_n 0, 1) := by decide +kernel
theorem dX3_keep_10 : decode cX3_keep 10 = .ok (.getfield 25, 3) := by decide +kernel
theorem dX3_keep_13 : decode cX3_keep 13 = .ok (.bipush 33, 2) := by decide +kernel
theorem dX3_keep_15 : decode cX3_keep 15 = .ok (.imul, 1) := by decide +kernel
theorem dX3_keep_16 : decode cX3_keep 16 = .ok (.bipush 33, 2) := by decide +kernel
theorem dX3_keep_18 : decode cX3_keep 18 = .ok (.invokestatic 29, 3) := by decide +kernel
theorem dX3_keep_21 : decode cX3_keep 21 = .ok (.aload_n 0, 1) := by decide +kernel
theorem dX3_keep_22 : decode cX3_keep 22 = .ok (.aload_n 0, 1) := by decide +kernel
theorem dX3_keep_23 : decode cX3_keep 23 = .ok (.getfield 25, 3) := by decide +kernel
theorem dX3_keep_26 : decode cX3_keep 26 = .ok (.iconst 1, 1) := by decide +kernel
theorem dX3_keep_27 : decode cX3_keep 27 = .ok (.iadd, 1) := by decide +kernel
theorem dX3_keep_28 : decode cX3_keep 28 = .ok (.bipush 40, 2) := by decide +kernel
theorem dX3_keep_30 : decode cX3_keep 30 = .ok (.if_icmp .ge 12, 3) := by decide +kernel
theorem dX3_keep_33 : decode cX3_keep 33 = .ok (.aload_n 0, 1) := by decide +kernel
theorem dX3_keep_34 : decode cX3_keep 34 = .ok (.getfield 25, 3) := by decide +kernel
theorem dX3_keep_37 : decode cX3_keep 37 = .ok (.iconst 1, 1) := by decide +kernel
theorem dX3_keep_38 : decode cX3_keep 38 = .ok (.iadd, 1) := by decide +kernel
theorem dX3_keep_39 : decode cX3_keep 39 = .ok (.goto 4, 3) := by decide +kernel
theorem dX3_keep_42 : decode cX3_keep 42 = .ok (.iconst 0, 1) := by decide +kernel
theorem dX3_keep_43 : decode cX3_keep 43 = .ok (.putfield 25, 3) := by decide +kernel
theorem dX3_keep_46 : decode cX3_keep 46 = .ok (.aload_n 0, 1) := by decide +kernel
theorem dX3_keep_47 : decode cX3_keep 47 = .ok (.aload_n 0, 1) := by decide +kernel
theorem dX3_keep_48 : decode cX3_keep 48 = .ok (.getfield 35, 3) := by decide +kernel
theorem dX3_keep_51 : decode cX3_keep 51 = .ok (.iconst 1, 1) := by decide +kernel
theorem dX3_keep_52 : decode cX3_keep 52 = .ok (.iadd, 1) := by decide +kernel
theorem dX3_keep_53 : decode cX3_keep 53 = .ok (.bipush 40, 2) := by decide +kernel
theorem dX3_keep_55 : decode cX3_keep 55 = .ok (.invokestatic 38, 3) := by decide +kernel
theorem dX3_keep_58 : decode cX3_keep 58 = .ok (.putfield 35, 3) := by decide +kernel
theorem dX3_keep_61 : decode cX3_keep 61 = .ok (.return_, 1) := by decide +kernel
theorem dX3_takeBack_0 : decode cX3_takeBack 0 = .ok (.aload_n 0, 1) := by decide +kernel
theorem dX3_takeBack_1 : decode cX3_takeBack 1 = .ok (.getfield 35, 3) := by decide +kernel
theorem dX3_takeBack_4 : decode cX3_takeBack 4 = .ok (.ifCond .ne 5, 3) := by decide +kernel
theorem dX3_takeBack_7 : decode cX3_takeBack 7 = .ok (.iconst 0, 1) := by decide +kernel
theorem dX3_takeBack_8 : decode cX3_takeBack 8 = .ok (.ireturn, 1) := by decide +kernel
theorem dX3_takeBack_9 : decode cX3_takeBack 9 = .ok (.aload_n 0, 1) := by decide +kernel
theorem dX3_takeBack_10 : decode cX3_takeBack 10 = .ok (.dup, 1) := by decide +kernel
theorem dX3_takeBack_11 : decode cX3_takeBack 11 = .ok (.getfield 35, 3) := by decide +kernel
theorem dX3_takeBack_14 : decode cX3_takeBack 14 = .ok (.iconst 1, 1) := by decide +kernel
theorem dX3_takeBack_15 : decode cX3_takeBack 15 = .ok (.isub, 1) := by decide +kernel
theorem dX3_takeBack_16 : decode cX3_takeBack 16 = .ok (.putfield 35, 3) := by decide +kernel
theorem dX3_takeBack_19 : decode cX3_takeBack 19 = .ok (.aload_n 0, 1) := by decide +kernel
theorem dX3_takeBack_20 : decode cX3_takeBack 20 = .ok (.aload_n 0, 1) := by decide +kernel
theorem dX3_takeBack_21 : decode cX3_takeBack 21 = .ok (.getfield 25, 3) := by decide +kernel
theorem dX3_takeBack_24 : decode cX3_takeBack 24 = .ok (.ifCond .le 12, 3) := by decide +kernel
theorem dX3_takeBack_27 : decode cX3_takeBack 27 = .ok (.aload_n 0, 1) := by decide +kernel
theorem dX3_takeBack_28 : decode cX3_takeBack 28 = .ok (.getfield 25, 3) := by decide +kernel
theorem dX3_takeBack_31 : decode cX3_takeBack 31 = .ok (.iconst 1, 1) := by decide +kernel
theorem dX3_takeBack_32 : decode cX3_takeBack 32 = .ok (.isub, 1) := by decide +kernel
theorem dX3_takeBack_33 : decode cX3_takeBack 33 = .ok (.goto 5, 3) := by decide +kernel
theorem dX3_takeBack_36 : decode cX3_takeBack 36 = .ok (.bipush 39, 2) := by decide +kernel
theorem dX3_takeBack_38 : decode cX3_takeBack 38 = .ok (.putfield 25, 3) := by decide +kernel
theorem dX3_takeBack_41 : decode cX3_takeBack 41 = .ok (.aload_n 0, 1) := by decide +kernel
theorem dX3_takeBack_42 : decode cX3_takeBack 42 = .ok (.getfield 11, 3) := by decide +kernel
theorem dX3_takeBack_45 : decode cX3_takeBack 45 = .ok (.aload_n 0, 1) := by decide +kernel
theorem dX3_takeBack_46 : decode cX3_takeBack 46 = .ok (.getfield 25, 3) := by decide +kernel
theorem dX3_takeBack_49 : decode cX3_takeBack 49 = .ok (.bipush 33, 2) := by decide +kernel
theorem dX3_takeBack_51 : decode cX3_takeBack 51 = .ok (.imul, 1) := by decide +kernel
theorem dX3_takeBack_52 : decode cX3_takeBack 52 = .ok (.aload_n 1, 1) := by decide +kernel
theorem dX3_takeBack_53 : decode cX3_takeBack 53 = .ok (.getfield 22, 3) := by decide +kernel
theorem dX3_takeBack_56 : decode cX3_takeBack 56 = .ok (.iconst 0, 1) := by decide +kernel
theorem dX3_takeBack_57 : decode cX3_takeBack 57 = .ok (.bipush 33, 2) := by decide +kernel
theorem dX3_takeBack_59 : decode cX3_takeBack 59 = .ok (.invokestatic 29, 3) := by decide +kernel
theorem dX3_takeBack_62 : decode cX3_takeBack 62 = .ok (.iconst 1, 1) := by decide +kernel
theorem dX3_takeBack_63 : decode cX3_takeBack 63 = .ok (.ireturn, 1) := by decide +kernel
theorem dX3_clearThings_0 : decode cX3_clearThings 0 = .ok (.aload_n 0, 1) := by decide +kernel
theorem dX3_clearThings_1 : decode cX3_clearThings 1 = .ok (.iconst 0, 1) := by decide +kernel
theorem dX3_clearThings_2 : decode cX3_clearThings 2 = .ok (.putfield 35, 3) := by decide +kernel
theorem dX3_clearThings_5 : decode cX3_clearThings 5 = .ok (.return_, 1) := by decide +kernel
theorem dX3_clearSlots_0 : decode cX3_clearSlots 0 = .ok (.iconst 0, 1) := by decide +kernel
theorem dX3_clearSlots_1 : decode cX3_clearSlots 1 = .ok (.istore_n 1, 1) := by decide +kernel
theorem dX3_clearSlots_2 : decode cX3_clearSlots 2 = .ok (.iload_n 1, 1) := by decide +kernel
theorem dX3_clearSlots_3 : decode cX3_clearSlots 3 = .ok (.iconst 3, 1) := by decide +kernel
theorem dX3_clearSlots_4 : decode cX3_clearSlots 4 = .ok (.if_icmp .ge 16, 3) := by decide +kernel
theorem dX3_clearSlots_7 : decode cX3_clearSlots 7 = .ok (.aload_n 0, 1) := by decide +kernel
theorem dX3_clearSlots_8 : decode cX3_clearSlots 8 = .ok (.getfield 18, 3) := by decide +kernel
theorem dX3_clearSlots_11 : decode cX3_clearSlots 11 = .ok (.iload_n 1, 1) := by decide +kernel
theorem dX3_clearSlots_12 : decode cX3_clearSlots 12 = .ok (.iconst 0, 1) := by decide +kernel
theorem dX3_clearSlots_13 : decode cX3_clearSlots 13 = .ok (.bastore, 1) := by decide +kernel
theorem dX3_clearSlots_14 : decode cX3_clearSlots 14 = .ok (.iinc 1 1, 3) := by decide +kernel
theorem dX3_clearSlots_17 : decode cX3_clearSlots 17 = .ok (.goto (-15), 3) := by decide +kernel
theorem dX3_clearSlots_20 : decode cX3_clearSlots 20 = .ok (.return_, 1) := by decide +kernel
theorem dX3_putInSlot_0 : decode cX3_putInSlot 0 = .ok (.iload_n 1, 1) := by decide +kernel
theorem dX3_putInSlot_1 : decode cX3_putInSlot 1 = .ok (.iconst 0, 1) := by decide +kernel
theorem dX3_putInSlot_2 : decode cX3_putInSlot 2 = .ok (.iconst 2, 1) := by decide +kernel
theorem dX3_putInSlot_3 : decode cX3_putInSlot 3 = .ok (.invokestatic 44, 3) := by decide +kernel
theorem dX3_putInSlot_6 : decode cX3_putInSlot 6 = .ok (.ifCond .ne 5, 3) := by decide +kernel
theorem dX3_putInSlot_9 : decode cX3_putInSlot 9 = .ok (.iconst 0, 1) := by decide +kernel
theorem dX3_putInSlot_10 : decode cX3_putInSlot 10 = .ok (.ireturn, 1) := by decide +kernel
theorem dX3_putInSlot_11 : decode cX3_putInSlot 11 = .ok (.aload_n 2, 1) := by decide +kernel
theorem dX3_putInSlot_12 : decode cX3_putInSlot 12 = .ok (.getfield 22, 3) := by decide +kernel
theorem dX3_putInSlot_15 : decode cX3_putInSlot 15 = .ok (.iconst 0, 1) := by decide +kernel
theorem dX3_putInSlot_16 : decode cX3_putInSlot 16 = .ok (.aload_n 0, 1) := by decide +kernel
theorem dX3_putInSlot_17 : decode cX3_putInSlot 17 = .ok (.getfield 15, 3) := by decide +kernel
theorem dX3_putInSlot_20 : decode cX3_putInSlot 20 = .ok (.iload_n 1, 1) := by decide +kernel
theorem dX3_putInSlot_21 : decode cX3_putInSlot 21 = .ok (.bipush 33, 2) := by decide +kernel
theorem dX3_putInSlot_23 : decode cX3_putInSlot 23 = .ok (.imul, 1) := by decide +kernel
theorem dX3_putInSlot_24 : decode cX3_putInSlot 24 = .ok (.bipush 33, 2) := by decide +kernel
theorem dX3_putInSlot_26 : decode cX3_putInSlot 26 = .ok (.invokestatic 29, 3) := by decide +kernel
theorem dX3_putInSlot_29 : decode cX3_putInSlot 29 = .ok (.aload_n 0, 1) := by decide +kernel
theorem dX3_putInSlot_30 : decode cX3_putInSlot 30 = .ok (.getfield 18, 3) := by decide +kernel
theorem dX3_putInSlot_33 : decode cX3_putInSlot 33 = .ok (.iload_n 1, 1) := by decide +kernel
theorem dX3_putInSlot_34 : decode cX3_putInSlot 34 = .ok (.iconst 1, 1) := by decide +kernel
theorem dX3_putInSlot_35 : decode cX3_putInSlot 35 = .ok (.bastore, 1) := by decide +kernel
theorem dX3_putInSlot_36 : decode cX3_putInSlot 36 = .ok (.iconst 1, 1) := by decide +kernel
theorem dX3_putInSlot_37 : decode cX3_putInSlot 37 = .ok (.ireturn, 1) := by decide +kernel
theorem dX3_getFromSlot_0 : decode cX3_getFromSlot 0 = .ok (.iload_n 1, 1) := by decide +kernel
theorem dX3_getFromSlot_1 : decode cX3_getFromSlot 1 = .ok (.iconst 0, 1) := by decide +kernel
theorem dX3_getFromSlot_2 : decode cX3_getFromSlot 2 = .ok (.iconst 2, 1) := by decide +kernel
theorem dX3_getFromSlot_3 : decode cX3_getFromSlot 3 = .ok (.invokestatic 44, 3) := by decide +kernel
theorem dX3_getFromSlot_6 : decode cX3_getFromSlot 6 = .ok (.ifCond .eq 12, 3) := by decide +kernel
theorem dX3_getFromSlot_9 : decode cX3_getFromSlot 9 = .ok (.aload_n 0, 1) := by decide +kernel
theorem dX3_getFromSlot_10 : decode cX3_getFromSlot 10 = .ok (.getfield 18, 3) := by decide +kernel
theorem dX3_getFromSlot_13 : decode cX3_getFromSlot 13 = .ok (.iload_n 1, 1) := by decide +kernel
theorem dX3_getFromSlot_14 : decode cX3_getFromSlot 14 = .ok (.baload, 1) := by decide +kernel
theorem dX3_getFromSlot_15 : decode cX3_getFromSlot 15 = .ok (.ifCond .ne 5, 3) := by decide +kernel
theorem dX3_getFromSlot_18 : decode cX3_getFromSlot 18 = .ok (.iconst 0, 1) := by decide +kernel
theorem dX3_getFromSlot_19 : decode cX3_getFromSlot 19 = .ok (.ireturn, 1) := by decide +kernel
theorem dX3_getFromSlot_20 : decode cX3_getFromSlot 20 = .ok (.aload_n 0, 1) := by decide +kernel
theorem dX3_getFromSlot_21 : decode cX3_getFromSlot 21 = .ok (.getfield 15, 3) := by decide +kernel
theorem dX3_getFromSlot_24 : decode cX3_getFromSlot 24 = .ok (.iload_n 1, 1) := by decide +kernel
theorem dX3_getFromSlot_25 : decode cX3_getFromSlot 25 = .ok (.bipush 33, 2) := by decide +kernel
theorem dX3_getFromSlot_27 : decode cX3_getFromSlot 27 = .ok (.imul, 1) := by decide +kernel
theorem dX3_getFromSlot_28 : decode cX3_getFromSlot 28 = .ok (.aload_n 2, 1) := by decide +kernel
theorem dX3_getFromSlot_29 : decode cX3_getFromSlot 29 = .ok (.getfield 22, 3) := by decide +kernel
theorem dX3_getFromSlot_32 : decode cX3_getFromSlot 32 = .ok (.iconst 0, 1) := by decide +kernel
theorem dX3_getFromSlot_33 : decode cX3_getFromSlot 33 = .ok (.bipush 33, 2) := by decide +kernel
theorem dX3_getFromSlot_35 : decode cX3_getFromSlot 35 = .ok (.invokestatic 29, 3) := by decide +kernel
theorem dX3_getFromSlot_38 : decode cX3_getFromSlot 38 = .ok (.iconst 1, 1) := by decide +kernel
theorem dX3_getFromSlot_39 : decode cX3_getFromSlot 39 = .ok (.ireturn, 1) := by decide +kernel
theorem dX3_slotsHeld_0 : decode cX3_slotsHeld 0 = .ok (.iconst 0, 1) := by decide +kernel
theorem dX3_slotsHeld_1 : decode cX3_slotsHeld 1 = .ok (.istore_n 1, 1) := by decide +kernel
theorem dX3_slotsHeld_2 : decode cX3_slotsHeld 2 = .ok (.iconst 0, 1) := by decide +kernel
theorem dX3_slotsHeld_3 : decode cX3_slotsHeld 3 = .ok (.istore_n 2, 1) := by decide +kernel
theorem dX3_slotsHeld_4 : decode cX3_slotsHeld 4 = .ok (.iload_n 2, 1) := by decide +kernel
theorem dX3_slotsHeld_5 : decode cX3_slotsHeld 5 = .ok (.iconst 3, 1) := by decide +kernel
theorem dX3_slotsHeld_6 : decode cX3_slotsHeld 6 = .ok (.if_icmp .ge 26, 3) := by decide +kernel
theorem dX3_slotsHeld_9 : decode cX3_slotsHeld 9 = .ok (.iload_n 1, 1) := by decide +kernel
theorem dX3_slotsHeld_10 : decode cX3_slotsHeld 10 = .ok (.aload_n 0, 1) := by decide +kernel
theorem dX3_slotsHeld_11 : decode cX3_slotsHeld 11 = .ok (.getfield 18, 3) := by decide +kernel
theorem dX3_slotsHeld_14 : decode cX3_slotsHeld 14 = .ok (.iload_n 2, 1) := by decide +kernel
theorem dX3_slotsHeld_15 : decode cX3_slotsHeld 15 = .ok (.baload, 1) := by decide +kernel
theorem dX3_slotsHeld_16 : decode cX3_slotsHeld 16 = .ok (.ifCond .eq 7, 3) := by decide +kernel
theorem dX3_slotsHeld_19 : decode cX3_slotsHeld 19 = .ok (.iconst 1, 1) := by decide +kernel
theorem dX3_slotsHeld_20 : decode cX3_slotsHeld 20 = .ok (.goto 4, 3) := by decide +kernel
theorem dX3_slotsHeld_23 : decode cX3_slotsHeld 23 = .ok (.iconst 0, 1) := by decide +kernel
theorem dX3_slotsHeld_24 : decode cX3_slotsHeld 24 = .ok (.iadd, 1) := by decide +kernel
theorem dX3_slotsHeld_25 : decode cX3_slotsHeld 25 = .ok (.istore_n 1, 1) := by decide +kernel
theorem dX3_slotsHeld_26 : decode cX3_slotsHeld 26 = .ok (.iinc 2 1, 3) := by decide +kernel
theorem dX3_slotsHeld_29 : decode cX3_slotsHeld 29 = .ok (.goto (-25), 3) := by decide +kernel
theorem dX3_slotsHeld_32 : decode cX3_slotsHeld 32 = .ok (.iload_n 1, 1) := by decide +kernel
theorem dX3_slotsHeld_33 : decode cX3_slotsHeld 33 = .ok (.ireturn, 1) := by decide +kernel
theorem fl_X3_11 : fl RX3 11 3 0 := ⟨RX3, TX3, 5, rfl, iw_X3, by decide, lg_at 245 (by decide +kernel) (by decide +kernel), rfl⟩
theorem fl_X3_15 : fl RX3 15 3 1 := ⟨RX3, TX3, 5, rfl, iw_X3, by decide, lg_at 246 (by decide +kernel) (by decide +kernel), rfl⟩
theorem fl_X3_18 : fl RX3 18 3 2 := ⟨RX3, TX3, 5, rfl, iw_X3, by decide, lg_at 247 (by decide +kernel) (by decide +kernel), rfl⟩
theorem fl_X3_22 : fl RX3 22 7 0 := ⟨RX7, TX7, 1, rfl, iw_X7, by decide, lg_at 232 (by decide +kernel) (by decide +kernel), rfl⟩
theorem fl_X3_25 : fl RX3 25 3 3 := ⟨RX3, TX3, 5, rfl, iw_X3, by decide, lg_at 248 (by decide +kernel) (by decide +kernel), rfl⟩
theorem fl_X3_35 : fl RX3 35 3 4 := ⟨RX3, TX3, 5, rfl, iw_X3, by decide, lg_at 249 (by decide +kernel) (by decide +kernel), rfl⟩
theorem fl_X10_11 : fl RX10 11 10 2 := ⟨RX10, TX10, 11, rfl, iw_X10, by decide, lg_at 355 (by decide +kernel) (by decide +kernel), rfl⟩
theorem fl_X10_15 : fl RX10 15 10 3 := ⟨RX10, TX10, 11, rfl, iw_X10, by decide, lg_at 356 (by decide +kernel) (by decide +kernel), rfl⟩
theorem fl_X10_18 : fl RX10 18 10 4 := ⟨RX10, TX10, 11, rfl, iw_X10, by decide, lg_at 357 (by decide +kernel) (by decide +kernel), rfl⟩
theorem fl_X10_22 : fl RX10 22 10 5 := ⟨RX10, TX10, 11, rfl, iw_X10, by decide, lg_at 358 (by decide +kernel) (by decide +kernel), rfl⟩
theorem fl_X10_25 : fl RX10 25 10 0 := ⟨RX10, TX10, 11, rfl, iw_X10, by decide, lg_at 353 (by decide +kernel) (by decide +kernel), rfl⟩
theorem fl_X10_29 : fl RX10 29 10 1 := ⟨RX10, TX10, 11, rfl, iw_X10, by decide, lg_at 354 (by decide +kernel) (by decide +kernel), rfl⟩
theorem fl_X10_33 : fl RX10 33 10 6 := ⟨RX10, TX10, 11, rfl, iw_X10, by decide, lg_at 359 (by decide +kernel) (by decide +kernel), rfl⟩
theorem fl_X10_49 : fl RX10 49 10 7 := ⟨RX10, TX10, 11, rfl, iw_X10, by decide, lg_at 361 (by decide +kernel) (by decide +kernel), rfl⟩
theorem fl_X10_52 : fl RX10 52 9 0 := ⟨RX9, TX9, 13, rfl, iw_X9, by decide, lg_at 81 (by decide +kernel) (by decide +kernel), rfl⟩
theorem fl_X10_56 : fl RX10 56 10 9 := ⟨RX10, TX10, 11, rfl, iw_X10, by decide, lg_at 365 (by decide +kernel) (by decide +kernel), rfl⟩
theorem fl_X10_59 : fl RX10 59 10 10 := ⟨RX10, TX10, 11, rfl, iw_X10, by decide, lg_at 367 (by decide +kernel) (by decide +kernel), rfl⟩
theorem fl_X10_62 : fl RX10 62 0 8 := ⟨RX0, TX0, 9, rfl, iw_X0, by decide, lg_at 298 (by decide +kernel) (by decide +kernel), rfl⟩
theorem fl_X10_71 : fl RX10 71 0 7 := ⟨RX0, TX0, 9, rfl, iw_X0, by decide, lg_at 294 (by decide +kernel) (by decide +kernel), rfl⟩
theorem fp_X3_25 : fp RX3 25 3 3 .int := ⟨RX3, TX3, 5, tyX3, rfl, iw_X3, by decide, lg_at 248 (by decide +kernel) (by decide +kernel), rfl, tyX3_ok, nmX3, rfl, by decide +kernel⟩
theorem fp_X3_35 : fp RX3 35 3 4 .int := ⟨RX3, TX3, 5, tyX3, rfl, iw_X3, by decide, lg_at 249 (by decide +kernel) (by decide +kernel), rfl, tyX3_ok, nmX3, rfl, by decide +kernel⟩
theorem fp_X10_33 : fp RX10 33 10 6 .int := ⟨RX10, TX10, 11, tyX10, rfl, iw_X10, by decide, lg_at 359 (by decide +kernel) (by decide +kernel), rfl, tyX10_ok, nmX10, rfl, by decide +kernel⟩
theorem fp_X10_49 : fp RX10 49 10 7 .int := ⟨RX10, TX10, 11, tyX10, rfl, iw_X10, by decide, lg_at 361 (by decide +kernel) (by decide +kernel), rfl, tyX10_ok, nmX10, rfl, by decide +kernel⟩
theorem fp_X10_56 : fp RX10 56 10 9 .int := ⟨RX10, TX10, 11, tyX10, rfl, iw_X10, by decide, lg_at 365 (by decide +kernel) (by decide +kernel), rfl, tyX10_ok, nmX10, rfl, by decide +kernel⟩
theorem fp_X10_59 : fp RX10 59 10 10 .int := ⟨RX10, TX10, 11, tyX10, rfl, iw_X10, by decide, lg_at 367 (by decide +kernel) (by decide +kernel), rfl, tyX10_ok, nmX10, rfl, by decide +kernel⟩
theorem fp_X10_86 : fp RX10 86 10 8 .int := ⟨RX10, TX10, 11, tyX10, rfl, iw_X10, by decide, lg_at 363 (by decide +kernel) (by decide +kernel), rfl, tyX10_ok, nmX10, rfl, by decide +kernel⟩
theorem cV_X10_37 : cV RX10 37 yX0_weigh cX0_weigh 3 none 1 := ⟨⟨lg_at 1092 (by decide +kernel) (by decide +kernel), lg_at 875 (by decide +kernel) (by decide +kernel), lg_at 876 (by decide +kernel) (by decide +kernel), lg_at 10 (by decide +kernel) (by decide +kernel), lg_at 877 (by decide +kernel) (by decide +kernel)⟩, by decide +kernel, by decide +kernel, by decide +kernel⟩
theorem cV_X10_74 : cV RX10 74 yX10_agrees cX10_agrees 4 (some .boolean) 2 := ⟨⟨lg_at 1095 (by decide +kernel) (by decide +kernel), lg_at 1097 (by decide +kernel) (by decide +kernel), lg_sel 40 (by decide +kernel) (by decide +kernel), lg_at 13 (by decide +kernel) (by decide +kernel), lg_at 1098 (by decide +kernel) (by decide +kernel)⟩, by decide +kernel, by decide +kernel, by decide +kernel⟩
theorem cV_X10_78 : cV RX10 78 yX10_addSet cX10_addSet 3 none 1 := ⟨⟨lg_at 1100 (by decide +kernel) (by decide +kernel), lg_at 1102 (by decide +kernel) (by decide +kernel), lg_sel 41 (by decide +kernel) (by decide +kernel), lg_at 13 (by decide +kernel) (by decide +kernel), lg_at 1103 (by decide +kernel) (by decide +kernel)⟩, by decide +kernel, by decide +kernel, by decide +kernel⟩
theorem cS_X10_43 : cS RX10 43 yJ7_fill_53178 cJ7_fill_53178 4 none 2 := ⟨⟨lg_at 1093 (by decide +kernel) (by decide +kernel), lg_at 64 (by decide +kernel) (by decide +kernel), lg_at 5 (by decide +kernel) (by decide +kernel), lg_at 65 (by decide +kernel) (by decide +kernel)⟩, by decide +kernel, by decide +kernel, by decide +kernel⟩
theorem cS_X10_65 : cS RX10 65 yJ6_bitCount_0f7a4 cJ6_bitCount_0f7a4 1 (some .int) 1 := ⟨⟨lg_at 1094 (by decide +kernel) (by decide +kernel), lg_at 782 (by decide +kernel) (by decide +kernel), lg_at 22 (by decide +kernel) (by decide +kernel), lg_at 783 (by decide +kernel) (by decide +kernel)⟩, by decide +kernel, by decide +kernel, by decide +kernel⟩
theorem cS_X10_82 : cS RX10 82 yX0_partIn cX0_partIn 2 (some .int) 2 := ⟨⟨lg_at 1099 (by decide +kernel) (by decide +kernel), lg_at 981 (by decide +kernel) (by decide +kernel), lg_at 10 (by decide +kernel) (by decide +kernel), lg_at 982 (by decide +kernel) (by decide +kernel)⟩, by decide +kernel, by decide +kernel, by decide +kernel⟩
theorem cN_X3_44 : cN RX3 44 yX11_within RX11 cX11_within 3 (some .boolean) 3 := ⟨⟨List.mem_of_getElem? (i := 1) rfl, lg_at 451 (by decide +kernel) (by decide +kernel), lg_at 1 (by decide +kernel) (by decide +kernel), lg_at 452 (by decide +kernel) (by decide +kernel)⟩, by decide +kernel, by decide +kernel, by decide +kernel⟩
theorem mmax_X10_89 : mMax RX10 89 := ⟨lg_at 1112 (by decide +kernel) (by decide +kernel), lg_at 569 (by decide +kernel) (by decide +kernel), lg_at 20 (by decide +kernel) (by decide +kernel), lg_at 570 (by decide +kernel) (by decide +kernel)⟩
theorem mmin_X3_38 : mMin RX3 38 := ⟨lg_at 814 (by decide +kernel) (by decide +kernel), lg_at 572 (by decide +kernel) (by decide +kernel), lg_at 20 (by decide +kernel) (by decide +kernel), lg_at 573 (by decide +kernel) (by decide +kernel)⟩
theorem kcp_X3_29 : Cond.methodLink RX3 29 arraycopyName ∈ lg_tbl := lg_at 813 (by decide +kernel) (by decide +kernel)
section
variable {p : Program} {l : Launch} {e : Env} {s : State} {m : MethodId} {args : Array Value} {below : List Frame} {meth : Method} {c : Code} {D : va_G} {ad : Nat → Nat} {κ : KC}
-- X10_add
def FX10_add (x1 : Int32) (x2 : Int32) (x3 : Int32) (σ : HS) : Option (Int32 × HS) :=
  if (σ.1 11 6) < (20 : Int32) then gd (ix (σ.1 11 6) 20) (hl_ (pI σ 46 ((σ.1 11 6).toNatClampNeg) x1) fun σ_3 => gd (ix (σ_3.1 11 6) 20) (hl_ (pI σ_3 47 ((σ_3.1 11 6).toNatClampNeg) x2) fun σ_5 => gd (ix (σ_5.1 11 6) 20) (hl_ (pI σ_5 48 ((σ_5.1 11 6).toNatClampNeg) (vp_nar .boolean x3)) fun σ_7 => hl_ (pI σ_7 11 6 ((σ_7.1 11 6) + (1 : Int32))) fun σ_8 => some (((σ_8.1 11 6) - (1 : Int32)), σ_8)))) else some ((-1 : Int32), σ)
set_option maxHeartbeats 4000000 in
set_option maxRecDepth 100000 in
theorem kX10_add (l : Launch) (D : va_G) (ad : Nat → Nat) (κ : KC) {x1 : Int32} {x2 : Int32} {x3 : Int32} {σ : HS} {R : (Int32 × HS)} (h : FX10_add x1 x2 x3 σ = some R) : MtI l 50 ceX D ad κ yX10_add cX10_add 4 (some .int) ({ frames := 0, cells := 0, slots := 0, locals := 0 } : Room) [.ref (ad 11), .int x1, .int x2, .int x3] σ R := by
  refine open_ (by decide) (Nat.le_of_ble_eq_true rfl) (la := [(0, .ref (ad 11)), (1, .int x1), (2, .int x2), (3, .int x3)]) rfl ?_
  intro p e s m below meth c ls C hH hl
  replace C : Cx 50 D ad κ p s m _ meth c cX10_add RX10 4 (some .int) := C
  have hx := C.1
  have hb := C.2.1
  have hown := C.2.2.2.1
  have hts := C.2.2.2.2.1
  rw [FX10_add] at h
  refine lv_aload_n hx hb dX10_add_0 rfl (lv_at hl 0 rfl) ?_
  refine g_get C hH 11 (Nat.le_of_ble_eq_true rfl) rfl fl_X10_33 (v := .int (σ.1 11 6)) rfl dX10_add_1 ?_
  refine lv_bipush (v := 20) hx hb dX10_add_4 (by decide) ?_
  refine lv_icmp_lt (tgt := 11) hx hb dX10_add_6 (by decide) (fun hq_1 => ?_) (fun hq_1 => ?_)
  · rw [if_pos hq_1] at h
    refine lv_aload_n hx hb dX10_add_11 rfl (lv_at hl 0 rfl) ?_
    refine g_get C hH 11 (Nat.le_of_ble_eq_true rfl) rfl fl_X10_11 (v := .ref (ad 46)) rfl dX10_add_12 ?_
    refine lv_aload_n hx hb dX10_add_15 rfl (lv_at hl 0 rfl) ?_
    refine g_get C hH 11 (Nat.le_of_ble_eq_true rfl) rfl fl_X10_33 (v := .int (σ.1 11 6)) rfl dX10_add_16 ?_
    refine lv_iload_n hx hb dX10_add_19 rfl (lv_at hl 1 rfl) ?_
    obtain ⟨hi_2, h⟩ := gd_ex h
    obtain ⟨σ_3, eσ_3, h⟩ := hl_ex h
    refine g_iast C hH 46 (Nat.le_of_ble_eq_true rfl) (fun _ _ => rfl) (k := ((σ.1 11 6).toNatClampNeg)) rfl (ix_in hi_2) dX10_add_20 (fun H locs hH => ?_)
    rw [← eσ_3] at hH
    refine lv_aload_n hx hb dX10_add_21 rfl (lv_at hl 0 rfl) ?_
    refine g_get C hH 11 (Nat.le_of_ble_eq_true rfl) rfl fl_X10_15 (v := .ref (ad 47)) rfl dX10_add_22 ?_
    refine lv_aload_n hx hb dX10_add_25 rfl (lv_at hl 0 rfl) ?_
    refine g_get C hH 11 (Nat.le_of_ble_eq_true rfl) rfl fl_X10_33 (v := .int (σ_3.1 11 6)) rfl dX10_add_26 ?_
    refine lv_iload_n hx hb dX10_add_29 rfl (lv_at hl 2 rfl) ?_
    obtain ⟨hi_4, h⟩ := gd_ex h
    obtain ⟨σ_5, eσ_5, h⟩ := hl_ex h
    refine g_iast C hH 47 (Nat.le_of_ble_eq_true rfl) (fun _ _ => rfl) (k := ((σ_3.1 11 6).toNatClampNeg)) rfl (ix_in hi_4) dX10_add_30 (fun H locs hH => ?_)
    rw [← eσ_5] at hH
    refine lv_aload_n hx hb dX10_add_31 rfl (lv_at hl 0 rfl) ?_
    refine g_get C hH 11 (Nat.le_of_ble_eq_true rfl) rfl fl_X10_18 (v := .ref (ad 48)) rfl dX10_add_32 ?_
    refine lv_aload_n hx hb dX10_add_35 rfl (lv_at hl 0 rfl) ?_
    refine g_get C hH 11 (Nat.le_of_ble_eq_true rfl) rfl fl_X10_33 (v := .int (σ_5.1 11 6)) rfl dX10_add_36 ?_
    refine lv_iload_n hx hb dX10_add_39 rfl (lv_at hl 3 rfl) ?_
    obtain ⟨hi_6, h⟩ := gd_ex h
    obtain ⟨σ_7, eσ_7, h⟩ := hl_ex h
    refine g_zast C hH 48 (Nat.le_of_ble_eq_true rfl) (fun _ _ => rfl) (k := ((σ_5.1 11 6).toNatClampNeg)) rfl (ix_in hi_6) dX10_add_40 (fun H locs hH => ?_)
    rw [← eσ_7] at hH
    refine lv_aload_n hx hb dX10_add_41 rfl (lv_at hl 0 rfl) ?_
    refine lv_dup hx hb dX10_add_42 rfl ?_
    refine g_get C hH 11 (Nat.le_of_ble_eq_true rfl) rfl fl_X10_33 (v := .int (σ_7.1 11 6)) rfl dX10_add_43 ?_
    refine lv_iconst (v := 1) hx hb dX10_add_46 (by decide) ?_
    refine lv_iadd hx hb dX10_add_47 ?_
    obtain ⟨σ_8, eσ_8, h⟩ := hl_ex h
    refine g_putI C hH 11 (Nat.le_of_ble_eq_true rfl) rfl fp_X10_33 rfl rfl (Nat.le_of_ble_eq_true rfl) rfl dX10_add_48 (fun H locs hH => ?_)
    rw [← eσ_8] at hH
    refine lv_aload_n hx hb dX10_add_51 rfl (lv_at hl 0 rfl) ?_
    refine g_get C hH 11 (Nat.le_of_ble_eq_true rfl) rfl fl_X10_33 (v := .int (σ_8.1 11 6)) rfl dX10_add_52 ?_
    refine lv_iconst (v := 1) hx hb dX10_add_55 (by decide) ?_
    refine lv_isub hx hb dX10_add_56 ?_
    exact g_ret C hH h dX10_add_57
  · rw [if_neg hq_1] at h
    refine lv_iconst (v := (-1)) hx hb dX10_add_9 (by decide) ?_
    exact g_ret C hH h dX10_add_10
-- X10_agrees
def FX10_agrees_39 (k2 : Int32 → Int32 → Int32 → HS → Option (Int32 × HS)) (x1 : Int32) (x2 : Int32) (x3 : Int32) (y0 : Int32) (σ : HS) : Option (Int32 × HS) :=
  gd (ix x3 20) (if y0 = (σ.1 48 (x3.toNatClampNeg)) then k2 x1 x2 (x3 + 1) σ else some ((0 : Int32), σ))
def FX10_agrees_2  : Nat → Int32 → Int32 → Int32 → HS → Option (Int32 × HS)
  | 0, _, _, _, _ => none
  | f + 1, x1, x2, x3, σ => if x2 ≤ x3 then some ((1 : Int32), σ) else if (σ.1 11 6) ≤ x3 then some ((1 : Int32), σ) else gd (ix x3 20) (bdI (FX0_partIn x1 (σ.1 46 (x3.toNatClampNeg)) σ) fun r_6 σ_7 => gd (ix x3 20) (if r_6 = (σ_7.1 47 (x3.toNatClampNeg)) then FX10_agrees_39 (FX10_agrees_2  f) x1 x2 x3 (1 : Int32) σ_7 else FX10_agrees_39 (FX10_agrees_2  f) x1 x2 x3 (0 : Int32) σ_7))
def FX10_agrees (x1 : Int32) (x2 : Int32) (σ : HS) : Option (Int32 × HS) :=
  FX10_agrees_2 fu x1 x2 (0 : Int32) σ
set_option maxHeartbeats 4000000 in
set_option maxRecDepth 100000 in
theorem wX10_agrees_39 (C : Cx 50 D ad κ p s m args meth c cX10_agrees RX10 4 (some .boolean)) {R : (Int32 × HS)} {k2 : Int32 → Int32 → Int32 → HS → Option (Int32 × HS)} (K2 : ∀ (x1 : Int32) (x2 : Int32) (x3 : Int32) (σ : HS) (H : Heap) (locs : List Loc) (ls : Array Slot), k2 x1 x2 x3 σ = some R → Hd 50 ceX D ad κ s σ H locs → lv_has ls 4 [(0, .ref (ad 11)), (1, .int x1), (2, .int x2), (3, .int x3)] → W p l e ({ frames := 2, cells := 0, slots := 0, locals := 42 } : Room) s m args below meth c H locs 0 0 (MQ below (QI 50 ceX D ad κ R) args s 0 0 (AX 50 ad)) (F0 m 2 ls [])) : ∀ (x1 : Int32) (x2 : Int32) (x3 : Int32) (y0 : Int32) (σ : HS) (H : Heap) (locs : List Loc) (ls : Array Slot), FX10_agrees_39 k2 x1 x2 x3 y0 σ = some R → Hd 50 ceX D ad κ s σ H locs → lv_has ls 4 [(0, .ref (ad 11)), (1, .int x1), (2, .int x2), (3, .int x3)] → W p l e ({ frames := 2, cells := 0, slots := 0, locals := 42 } : Room) s m args below meth c H locs 0 0 (MQ below (QI 50 ceX D ad κ R) args s 0 0 (AX 50 ad)) (F0 m 39 ls [.int y0]) := by
  have hx := C.1
  have hb := C.2.1
  have hown := C.2.2.2.1
  have hts := C.2.2.2.2.1
  intro x1 x2 x3 y0 σ H locs ls h hH hl
  rw [FX10_agrees_39] at h
  refine lv_aload_n hx hb dX10_agrees_39 rfl (lv_at hl 0 rfl) ?_
  refine g_get C hH 11 (Nat.le_of_ble_eq_true rfl) rfl fl_X10_18 (v := .ref (ad 48)) rfl dX10_agrees_40 ?_
  refine lv_iload_n hx hb dX10_agrees_43 rfl (lv_at hl 3 rfl) ?_
  obtain ⟨hi_1, h⟩ := gd_ex h
  refine g_zald C hH 48 (Nat.le_of_ble_eq_true rfl) rfl (k := (x3.toNatClampNeg)) rfl (ix_in hi_1) dX10_agrees_44 ?_
  refine lv_icmp_eq (tgt := 50) hx hb dX10_agrees_45 (by decide) (fun hq_2 => ?_) (fun hq_2 => ?_)
  · rw [if_pos hq_2] at h
    refine lv_iinc (v := (x3 + 1)) (lv' := [(3, .int (x3 + 1)), (0, .ref (ad 11)), (1, .int x1), (2, .int x2)]) hx hb dX10_agrees_50 hl (k := 3) rfl rfl (by decide) rfl (fun ls hl => ?_)
    refine lv_goto (tgt := 2) hx hb dX10_agrees_53 (by decide) ?_
    exact K2 _ _ _ _ _ _ _ h hH (lv_sub hl [1, 2, 3, 0] rfl)
  · rw [if_neg hq_2] at h
    refine lv_iconst (v := 0) hx hb dX10_agrees_48 (by decide) ?_
    exact g_retZ C hH rfl h dX10_agrees_49
set_option maxHeartbeats 4000000 in
set_option maxRecDepth 100000 in
theorem wX10_agrees_2 (C : Cx 50 D ad κ p s m args meth c cX10_agrees RX10 4 (some .boolean)) {R : (Int32 × HS)} : ∀ (f : Nat) (x1 : Int32) (x2 : Int32) (x3 : Int32) (σ : HS) (H : Heap) (locs : List Loc) (ls : Array Slot), FX10_agrees_2  f x1 x2 x3 σ = some R → Hd 50 ceX D ad κ s σ H locs → lv_has ls 4 [(0, .ref (ad 11)), (1, .int x1), (2, .int x2), (3, .int x3)] → W p l e ({ frames := 2, cells := 0, slots := 0, locals := 42 } : Room) s m args below meth c H locs 0 0 (MQ below (QI 50 ceX D ad κ R) args s 0 0 (AX 50 ad)) (F0 m 2 ls []) := by
  have hx := C.1
  have hb := C.2.1
  have hown := C.2.2.2.1
  have hts := C.2.2.2.2.1
  intro f
  induction f with
  | zero =>
    intro x1 x2 x3 σ H locs ls h hH hl
    cases h
  | succ f ih =>
    intro x1 x2 x3 σ H locs ls h hH hl
    rw [FX10_agrees_2] at h
    refine lv_iload_n hx hb dX10_agrees_2 rfl (lv_at hl 3 rfl) ?_
    refine lv_iload_n hx hb dX10_agrees_3 rfl (lv_at hl 2 rfl) ?_
    refine lv_icmp_ge (tgt := 56) hx hb dX10_agrees_4 (by decide) (fun hq_3 => ?_) (fun hq_3 => ?_)
    · rw [if_pos hq_3] at h
      refine lv_iconst (v := 1) hx hb dX10_agrees_56 (by decide) ?_
      exact g_retZ C hH rfl h dX10_agrees_57
    · rw [if_neg hq_3] at h
      refine lv_iload_n hx hb dX10_agrees_7 rfl (lv_at hl 3 rfl) ?_
      refine lv_aload_n hx hb dX10_agrees_8 rfl (lv_at hl 0 rfl) ?_
      refine g_get C hH 11 (Nat.le_of_ble_eq_true rfl) rfl fl_X10_33 (v := .int (σ.1 11 6)) rfl dX10_agrees_9 ?_
      refine lv_icmp_ge (tgt := 56) hx hb dX10_agrees_12 (by decide) (fun hq_4 => ?_) (fun hq_4 => ?_)
      · rw [if_pos hq_4] at h
        refine lv_iconst (v := 1) hx hb dX10_agrees_56 (by decide) ?_
        exact g_retZ C hH rfl h dX10_agrees_57
      · rw [if_neg hq_4] at h
        refine lv_iload_n hx hb dX10_agrees_15 rfl (lv_at hl 1 rfl) ?_
        refine lv_aload_n hx hb dX10_agrees_16 rfl (lv_at hl 0 rfl) ?_
        refine g_get C hH 11 (Nat.le_of_ble_eq_true rfl) rfl fl_X10_11 (v := .ref (ad 46)) rfl dX10_agrees_17 ?_
        refine lv_iload_n hx hb dX10_agrees_20 rfl (lv_at hl 3 rfl) ?_
        obtain ⟨hi_5, h⟩ := gd_ex h
        refine g_iald C hH 46 (Nat.le_of_ble_eq_true rfl) rfl (k := (x3.toNatClampNeg)) rfl (ix_in hi_5) dX10_agrees_21 ?_
        obtain ⟨r_6, σ_7, hc_8, h⟩ := bdI_ex h
        refine g_ci (g_runS (rest := []) C hH hl.1 cS_X10_82 (kX0_partIn l D ad κ hc_8) ⟨rfl, rfl⟩ ⟨(Nat.le_of_ble_eq_true rfl), (Nat.le_of_ble_eq_true rfl)⟩ rfl rfl (Nat.le_of_ble_eq_true rfl) dX10_agrees_22 z00) hH (fun H locs hH => ?_)
        refine lv_aload_n hx hb dX10_agrees_25 rfl (lv_at hl 0 rfl) ?_
        refine g_get C hH 11 (Nat.le_of_ble_eq_true rfl) rfl fl_X10_15 (v := .ref (ad 47)) rfl dX10_agrees_26 ?_
        refine lv_iload_n hx hb dX10_agrees_29 rfl (lv_at hl 3 rfl) ?_
        obtain ⟨hi_9, h⟩ := gd_ex h
        refine g_iald C hH 47 (Nat.le_of_ble_eq_true rfl) rfl (k := (x3.toNatClampNeg)) rfl (ix_in hi_9) dX10_agrees_30 ?_
        refine lv_icmp_ne (tgt := 38) hx hb dX10_agrees_31 (by decide) (fun hq_10 => ?_) (fun hq_10 => ?_)
        · rw [if_neg hq_10] at h
          refine lv_iconst (v := 0) hx hb dX10_agrees_38 (by decide) ?_
          exact wX10_agrees_39 C ih  _ _ _ _ _ _ _ _ h hH (lv_sub hl [0, 1, 2, 3] rfl)
        · rw [if_pos hq_10] at h
          refine lv_iconst (v := 1) hx hb dX10_agrees_34 (by decide) ?_
          refine lv_goto (tgt := 39) hx hb dX10_agrees_35 (by decide) ?_
          exact wX10_agrees_39 C ih  _ _ _ _ _ _ _ _ h hH (lv_sub hl [0, 1, 2, 3] rfl)
set_option maxHeartbeats 4000000 in
set_option maxRecDepth 100000 in
theorem kX10_agrees (l : Launch) (D : va_G) (ad : Nat → Nat) (κ : KC) {x1 : Int32} {x2 : Int32} {σ : HS} {R : (Int32 × HS)} (h : FX10_agrees x1 x2 σ = some R) : MtI l 50 ceX D ad κ yX10_agrees cX10_agrees 4 (some .boolean) ({ frames := 2, cells := 0, slots := 0, locals := 42 } : Room) [.ref (ad 11), .int x1, .int x2] σ R := by
  refine open_ (by decide) (Nat.le_of_ble_eq_true rfl) (la := [(0, .ref (ad 11)), (1, .int x1), (2, .int x2)]) rfl ?_
  intro p e s m below meth c ls C hH hl
  replace C : Cx 50 D ad κ p s m _ meth c cX10_agrees RX10 4 (some .boolean) := C
  have hx := C.1
  have hb := C.2.1
  have hown := C.2.2.2.1
  have hts := C.2.2.2.2.1
  rw [FX10_agrees] at h
  refine lv_iconst (v := 0) hx hb dX10_agrees_0 (by decide) ?_
  refine lv_istore_n (lv' := [(3, .int (0 : Int32)), (0, .ref (ad 11)), (1, .int x1), (2, .int x2)]) hx hb dX10_agrees_1 rfl hl (by decide) rfl (fun ls hl => ?_)
  exact wX10_agrees_2 C _ _ _ _ _ _ _ _ h hH (lv_sub hl [1, 2, 3, 0] rfl)
-- X10_addSet
def FX10_addSet_46  : Nat → Int32 → Int32 → HS → Option HS
  | 0, _, _, _ => none
  | f + 1, x1, x2, σ => if (σ.1 3 0) ≤ x2 then some σ else gd (ix x2 10) (gd (ix x2 10) (hl_ (pI σ 49 (x2.toNatClampNeg) ((σ.1 49 (x2.toNatClampNeg)) + ((x1 >>> (x2 &&& 31)) &&& (1 : Int32)))) fun σ_4 => FX10_addSet_46  f x1 (x2 + 1) σ_4))
def FX10_addSet_12  (x1 : Int32) (σ : HS) : Option HS :=
  hl_ (pI σ 11 7 ((σ.1 11 7) + (1 : Int32))) fun σ_5 => hl_ (pI σ_5 11 9 ((σ_5.1 11 9) &&& x1)) fun σ_6 => hl_ (pI σ_6 11 10 ((σ_6.1 11 10) &&& (x1 ^^^ (-1 : Int32)))) fun σ_7 => FX10_addSet_46 fu x1 (0 : Int32) σ_7
def FX10_addSet (x1 : Int32) (σ : HS) : Option HS :=
  if (σ.1 11 7) = 0 then hl_ (pI σ 11 8 x1) fun σ_9 => FX10_addSet_12 x1 σ_9 else FX10_addSet_12 x1 σ
set_option maxHeartbeats 4000000 in
set_option maxRecDepth 100000 in
theorem wX10_addSet_46 (C : Cx 50 D ad κ p s m args meth c cX10_addSet RX10 3 none) {R : HS} : ∀ (f : Nat) (x1 : Int32) (x2 : Int32) (σ : HS) (H : Heap) (locs : List Loc) (ls : Array Slot), FX10_addSet_46  f x1 x2 σ = some R → Hd 50 ceX D ad κ s σ H locs → lv_has ls 3 [(0, .ref (ad 11)), (1, .int x1), (2, .int x2)] → W p l e ({ frames := 0, cells := 0, slots := 0, locals := 0 } : Room) s m args below meth c H locs 0 0 (MQ below (QV 50 ceX D ad κ R) args s 0 0 (AX 50 ad)) (F0 m 46 ls []) := by
  have hx := C.1
  have hb := C.2.1
  have hown := C.2.2.2.1
  have hts := C.2.2.2.2.1
  intro f
  induction f with
  | zero =>
    intro x1 x2 σ H locs ls h hH hl
    cases h
  | succ f ih =>
    intro x1 x2 σ H locs ls h hH hl
    rw [FX10_addSet_46] at h
    refine lv_iload_n hx hb dX10_addSet_46 rfl (lv_at hl 2 rfl) ?_
    refine lv_aload_n hx hb dX10_addSet_47 rfl (lv_at hl 0 rfl) ?_
    refine g_get C hH 11 (Nat.le_of_ble_eq_true rfl) rfl fl_X10_25 (v := .ref (ad 3)) rfl dX10_addSet_48 ?_
    refine g_get C hH 3 (Nat.le_of_ble_eq_true rfl) rfl fl_X10_52 (v := .int (σ.1 3 0)) rfl dX10_addSet_51 ?_
    refine lv_icmp_ge (tgt := 77) hx hb dX10_addSet_54 (by decide) (fun hq_1 => ?_) (fun hq_1 => ?_)
    · rw [if_pos hq_1] at h
      exact g_retV C hH h dX10_addSet_77
    · rw [if_neg hq_1] at h
      refine lv_aload_n hx hb dX10_addSet_57 rfl (lv_at hl 0 rfl) ?_
      refine g_get C hH 11 (Nat.le_of_ble_eq_true rfl) rfl fl_X10_22 (v := .ref (ad 49)) rfl dX10_addSet_58 ?_
      refine lv_iload_n hx hb dX10_addSet_61 rfl (lv_at hl 2 rfl) ?_
      refine lv_dup2_11 hx hb dX10_addSet_62 rfl rfl ?_
      obtain ⟨hi_2, h⟩ := gd_ex h
      refine g_iald C hH 49 (Nat.le_of_ble_eq_true rfl) rfl (k := (x2.toNatClampNeg)) rfl (ix_in hi_2) dX10_addSet_63 ?_
      refine lv_iload_n hx hb dX10_addSet_64 rfl (lv_at hl 1 rfl) ?_
      refine lv_iload_n hx hb dX10_addSet_65 rfl (lv_at hl 2 rfl) ?_
      refine lv_ishr hx hb dX10_addSet_66 ?_
      refine lv_iconst (v := 1) hx hb dX10_addSet_67 (by decide) ?_
      refine lv_iand hx hb dX10_addSet_68 ?_
      refine lv_iadd hx hb dX10_addSet_69 ?_
      obtain ⟨hi_3, h⟩ := gd_ex h
      obtain ⟨σ_4, eσ_4, h⟩ := hl_ex h
      refine g_iast C hH 49 (Nat.le_of_ble_eq_true rfl) (fun _ _ => rfl) (k := (x2.toNatClampNeg)) rfl (ix_in hi_3) dX10_addSet_70 (fun H locs hH => ?_)
      rw [← eσ_4] at hH
      refine lv_iinc (v := (x2 + 1)) (lv' := [(2, .int (x2 + 1)), (0, .ref (ad 11)), (1, .int x1)]) hx hb dX10_addSet_71 hl (k := 2) rfl rfl (by decide) rfl (fun ls hl => ?_)
      refine lv_goto (tgt := 46) hx hb dX10_addSet_74 (by decide) ?_
      exact ih _ _ _ _ _ _ h hH (lv_sub hl [1, 2, 0] rfl)
set_option maxHeartbeats 4000000 in
set_option maxRecDepth 100000 in
theorem wX10_addSet_12 (C : Cx 50 D ad κ p s m args meth c cX10_addSet RX10 3 none) {R : HS} : ∀ (x1 : Int32) (σ : HS) (H : Heap) (locs : List Loc) (ls : Array Slot), FX10_addSet_12  x1 σ = some R → Hd 50 ceX D ad κ s σ H locs → lv_has ls 3 [(0, .ref (ad 11)), (1, .int x1)] → W p l e ({ frames := 0, cells := 0, slots := 0, locals := 0 } : Room) s m args below meth c H locs 0 0 (MQ below (QV 50 ceX D ad κ R) args s 0 0 (AX 50 ad)) (F0 m 12 ls []) := by
  have hx := C.1
  have hb := C.2.1
  have hown := C.2.2.2.1
  have hts := C.2.2.2.2.1
  intro x1 σ H locs ls h hH hl
  rw [FX10_addSet_12] at h
  refine lv_aload_n hx hb dX10_addSet_12 rfl (lv_at hl 0 rfl) ?_
  refine lv_dup hx hb dX10_addSet_13 rfl ?_
  refine g_get C hH 11 (Nat.le_of_ble_eq_true rfl) rfl fl_X10_49 (v := .int (σ.1 11 7)) rfl dX10_addSet_14 ?_
  refine lv_iconst (v := 1) hx hb dX10_addSet_17 (by decide) ?_
  refine lv_iadd hx hb dX10_addSet_18 ?_
  obtain ⟨σ_5, eσ_5, h⟩ := hl_ex h
  refine g_putI C hH 11 (Nat.le_of_ble_eq_true rfl) rfl fp_X10_49 rfl rfl (Nat.le_of_ble_eq_true rfl) rfl dX10_addSet_19 (fun H locs hH => ?_)
  rw [← eσ_5] at hH
  refine lv_aload_n hx hb dX10_addSet_22 rfl (lv_at hl 0 rfl) ?_
  refine lv_dup hx hb dX10_addSet_23 rfl ?_
  refine g_get C hH 11 (Nat.le_of_ble_eq_true rfl) rfl fl_X10_56 (v := .int (σ_5.1 11 9)) rfl dX10_addSet_24 ?_
  refine lv_iload_n hx hb dX10_addSet_27 rfl (lv_at hl 1 rfl) ?_
  refine lv_iand hx hb dX10_addSet_28 ?_
  obtain ⟨σ_6, eσ_6, h⟩ := hl_ex h
  refine g_putI C hH 11 (Nat.le_of_ble_eq_true rfl) rfl fp_X10_56 rfl rfl (Nat.le_of_ble_eq_true rfl) rfl dX10_addSet_29 (fun H locs hH => ?_)
  rw [← eσ_6] at hH
  refine lv_aload_n hx hb dX10_addSet_32 rfl (lv_at hl 0 rfl) ?_
  refine lv_dup hx hb dX10_addSet_33 rfl ?_
  refine g_get C hH 11 (Nat.le_of_ble_eq_true rfl) rfl fl_X10_59 (v := .int (σ_6.1 11 10)) rfl dX10_addSet_34 ?_
  refine lv_iload_n hx hb dX10_addSet_37 rfl (lv_at hl 1 rfl) ?_
  refine lv_iconst (v := (-1)) hx hb dX10_addSet_38 (by decide) ?_
  refine lv_ixor hx hb dX10_addSet_39 ?_
  refine lv_iand hx hb dX10_addSet_40 ?_
  obtain ⟨σ_7, eσ_7, h⟩ := hl_ex h
  refine g_putI C hH 11 (Nat.le_of_ble_eq_true rfl) rfl fp_X10_59 rfl rfl (Nat.le_of_ble_eq_true rfl) rfl dX10_addSet_41 (fun H locs hH => ?_)
  rw [← eσ_7] at hH
  refine lv_iconst (v := 0) hx hb dX10_addSet_44 (by decide) ?_
  refine lv_istore_n (lv' := [(2, .int (0 : Int32)), (0, .ref (ad 11)), (1, .int x1)]) hx hb dX10_addSet_45 rfl hl (by decide) rfl (fun ls hl => ?_)
  exact wX10_addSet_46 C _ _ _ _ _ _ _ h hH (lv_sub hl [1, 2, 0] rfl)
set_option maxHeartbeats 4000000 in
set_option maxRecDepth 100000 in
theorem kX10_addSet (l : Launch) (D : va_G) (ad : Nat → Nat) (κ : KC) {x1 : Int32} {σ : HS} {R : HS} (h : FX10_addSet x1 σ = some R) : MtV l 50 ceX D ad κ yX10_addSet cX10_addSet 3 none ({ frames := 0, cells := 0, slots := 0, locals := 0 } : Room) [.ref (ad 11), .int x1] σ R := by
  refine open_ (by decide) (Nat.le_of_ble_eq_true rfl) (la := [(0, .ref (ad 11)), (1, .int x1)]) rfl ?_
  intro p e s m below meth c ls C hH hl
  replace C : Cx 50 D ad κ p s m _ meth c cX10_addSet RX10 3 none := C
  have hx := C.1
  have hb := C.2.1
  have hown := C.2.2.2.1
  have hts := C.2.2.2.2.1
  rw [FX10_addSet] at h
  refine lv_aload_n hx hb dX10_addSet_0 rfl (lv_at hl 0 rfl) ?_
  refine g_get C hH 11 (Nat.le_of_ble_eq_true rfl) rfl fl_X10_49 (v := .int (σ.1 11 7)) rfl dX10_addSet_1 ?_
  refine lv_if_ne (tgt := 12) hx hb dX10_addSet_4 (by decide) (fun hq_8 => ?_) (fun hq_8 => ?_)
  · rw [if_neg hq_8] at h
    exact wX10_addSet_12 C  _ _ _ _ _ h hH (lv_sub hl [0, 1] rfl)
  · rw [if_pos hq_8] at h
    refine lv_aload_n hx hb dX10_addSet_7 rfl (lv_at hl 0 rfl) ?_
    refine lv_iload_n hx hb dX10_addSet_8 rfl (lv_at hl 1 rfl) ?_
    obtain ⟨σ_9, eσ_9, h⟩ := hl_ex h
    refine g_putI C hH 11 (Nat.le_of_ble_eq_true rfl) rfl fp_X10_86 rfl rfl (Nat.le_of_ble_eq_true rfl) rfl dX10_addSet_9 (fun H locs hH => ?_)
    rw [← eσ_9] at hH
    exact wX10_addSet_12 C  _ _ _ _ _ h hH (lv_sub hl [0, 1] rfl)
-- X10_sift
def FX10_sift_97 (k58 : Int32 → Int32 → Int32 → Int32 → HS → Option HS) (x2 : Int32) (x3 : Int32) (x4 : Int32) (x5 : Int32) (x6 : Int32) (σ : HS) : Option HS :=
  hl_ ((x4 - x3) &&& x3) fun x4_1 => k58 x2 x3 x4_1 (x5 + 1) σ
def FX10_sift_58  : Nat → Int32 → Int32 → Int32 → Int32 → HS → Option HS
  | 0, _, _, _, _, _ => none
  | f + 1, x2, x3, x4, x5, σ => bdI (FJ6_bitCount_0f7a4 x3 σ) fun r_2 σ_3 => if ((1 : Int32) <<< (r_2 &&& 31)) ≤ x5 then some σ_3 else hl_ ((σ_3.1 8 7) ||| x4) fun x6_6 => bdI (FX10_agrees x6_6 x2 σ_3) fun r_7 σ_8 => if r_7 = 0 then FX10_sift_97 (FX10_sift_58  f) x2 x3 x4 x5 x6_6 σ_8 else bdV (FX10_addSet x6_6 σ_8) fun σ_11 => FX10_sift_97 (FX10_sift_58  f) x2 x3 x4 x5 x6_6 σ_11
def FX10_sift (x2 : Int32) (σ : HS) : Option HS :=
  bdV (FX0_weigh 4 σ) fun σ_13 => bdV (FJ7_fill_53178 49 10 (0 : Int32) σ_13) fun σ_15 => hl_ (pI σ_15 11 7 (0 : Int32)) fun σ_17 => hl_ (pI σ_17 11 9 (((1 : Int32) <<< ((σ_17.1 3 0) &&& 31)) - (1 : Int32))) fun σ_18 => hl_ (pI σ_18 11 10 (σ_18.1 11 9)) fun σ_19 => hl_ (σ_19.1 8 8) fun x3_20 => FX10_sift_58 fu x2 x3_20 (0 : Int32) (0 : Int32) σ_19
set_option maxHeartbeats 4000000 in
set_option maxRecDepth 100000 in
theorem wX10_sift_97 (C : Cx 50 D ad κ p s m args meth c cX10_sift RX10 7 none) {R : HS} {k58 : Int32 → Int32 → Int32 → Int32 → HS → Option HS} (K58 : ∀ (x2 : Int32) (x3 : Int32) (x4 : Int32) (x5 : Int32) (σ : HS) (H : Heap) (locs : List Loc) (ls : Array Slot), k58 x2 x3 x4 x5 σ = some R → Hd 50 ceX D ad κ s σ H locs → lv_has ls 7 [(0, .ref (ad 11)), (1, .ref (ad 4)), (2, .int x2), (3, .int x3), (4, .int x4), (5, .int x5)] → W p l e ({ frames := 3, cells := 0, slots := 0, locals := 72 } : Room) s m args below meth c H locs 0 0 (MQ below (QV 50 ceX D ad κ R) args s 0 0 (AX 50 ad)) (F0 m 58 ls [])) : ∀ (x2 : Int32) (x3 : Int32) (x4 : Int32) (x5 : Int32) (x6 : Int32) (σ : HS) (H : Heap) (locs : List Loc) (ls : Array Slot), FX10_sift_97 k58 x2 x3 x4 x5 x6 σ = some R → Hd 50 ceX D ad κ s σ H locs → lv_has ls 7 [(0, .ref (ad 11)), (1, .ref (ad 4)), (2, .int x2), (3, .int x3), (4, .int x4), (5, .int x5), (6, .int x6)] → W p l e ({ frames := 3, cells := 0, slots := 0, locals := 72 } : Room) s m args below meth c H locs 0 0 (MQ below (QV 50 ceX D ad κ R) args s 0 0 (AX 50 ad)) (F0 m 97 ls []) := by
  have hx := C.1
  have hb := C.2.1
  have hown := C.2.2.2.1
  have hts := C.2.2.2.2.1
  intro x2 x3 x4 x5 x6 σ H locs ls h hH hl
  rw [FX10_sift_97] at h
  refine lv_iload hx hb dX10_sift_97 (lv_at hl 4 rfl) ?_
  refine lv_iload_n hx hb dX10_sift_99 rfl (lv_at hl 3 rfl) ?_
  refine lv_isub hx hb dX10_sift_100 ?_
  refine lv_iload_n hx hb dX10_sift_101 rfl (lv_at hl 3 rfl) ?_
  refine lv_iand hx hb dX10_sift_102 ?_
  obtain ⟨x4_1, ex4_1, h⟩ := hl_ex h
  refine lv_eqi ex4_1 ?_
  refine lv_istore (lv' := [(4, .int x4_1), (0, .ref (ad 11)), (1, .ref (ad 4)), (2, .int x2), (3, .int x3), (5, .int x5), (6, .int x6)]) hx hb dX10_sift_103 hl (by decide) rfl (fun ls hl => ?_)
  refine lv_iinc (v := (x5 + 1)) (lv' := [(5, .int (x5 + 1)), (4, .int x4_1), (0, .ref (ad 11)), (1, .ref (ad 4)), (2, .int x2), (3, .int x3), (6, .int x6)]) hx hb dX10_sift_105 hl (k := 5) rfl rfl (by decide) rfl (fun ls hl => ?_)
  refine lv_goto (tgt := 58) hx hb dX10_sift_108 (by decide) ?_
  exact K58 _ _ _ _ _ _ _ _ h hH (lv_sub hl [2, 3, 4, 5, 1, 0] rfl)
set_option maxHeartbeats 4000000 in
set_option maxRecDepth 100000 in
theorem wX10_sift_58 (C : Cx 50 D ad κ p s m args meth c cX10_sift RX10 7 none) {R : HS} : ∀ (f : Nat) (x2 : Int32) (x3 : Int32) (x4 : Int32) (x5 : Int32) (σ : HS) (H : Heap) (locs : List Loc) (ls : Array Slot), FX10_sift_58  f x2 x3 x4 x5 σ = some R → Hd 50 ceX D ad κ s σ H locs → lv_has ls 7 [(0, .ref (ad 11)), (1, .ref (ad 4)), (2, .int x2), (3, .int x3), (4, .int x4), (5, .int x5)] → W p l e ({ frames := 3, cells := 0, slots := 0, locals := 72 } : Room) s m args below meth c H locs 0 0 (MQ below (QV 50 ceX D ad κ R) args s 0 0 (AX 50 ad)) (F0 m 58 ls []) := by
  have hx := C.1
  have hb := C.2.1
  have hown := C.2.2.2.1
  have hts := C.2.2.2.2.1
  intro f
  induction f with
  | zero =>
    intro x2 x3 x4 x5 σ H locs ls h hH hl
    cases h
  | succ f ih =>
    intro x2 x3 x4 x5 σ H locs ls h hH hl
    rw [FX10_sift_58] at h
    refine lv_iload hx hb dX10_sift_58 (lv_at hl 5 rfl) ?_
    refine lv_iconst (v := 1) hx hb dX10_sift_60 (by decide) ?_
    refine lv_iload_n hx hb dX10_sift_61 rfl (lv_at hl 3 rfl) ?_
    obtain ⟨r_2, σ_3, hc_4, h⟩ := bdI_ex h
    refine g_ci (g_runS (rest := [.int (1 : Int32), .int x5]) C hH hl.1 cS_X10_65 (kJ6_bitCount_0f7a4 l D ad κ hc_4) ⟨rfl, rfl⟩ ⟨(Nat.le_of_ble_eq_true rfl), (Nat.le_of_ble_eq_true rfl)⟩ rfl rfl (Nat.le_of_ble_eq_true rfl) dX10_sift_62 z00) hH (fun H locs hH => ?_)
    refine lv_ishl hx hb dX10_sift_65 ?_
    refine lv_icmp_ge (tgt := 111) hx hb dX10_sift_66 (by decide) (fun hq_5 => ?_) (fun hq_5 => ?_)
    · rw [if_pos hq_5] at h
      exact g_retV C hH h dX10_sift_111
    · rw [if_neg hq_5] at h
      refine lv_aload_n hx hb dX10_sift_69 rfl (lv_at hl 0 rfl) ?_
      refine g_get C hH 11 (Nat.le_of_ble_eq_true rfl) rfl fl_X10_29 (v := .ref (ad 8)) rfl dX10_sift_70 ?_
      refine g_get C hH 8 (Nat.le_of_ble_eq_true rfl) rfl fl_X10_71 (v := .int (σ_3.1 8 7)) rfl dX10_sift_73 ?_
      refine lv_iload hx hb dX10_sift_76 (lv_at hl 4 rfl) ?_
      refine lv_ior hx hb dX10_sift_78 ?_
      obtain ⟨x6_6, ex6_6, h⟩ := hl_ex h
      refine lv_eqi ex6_6 ?_
      refine lv_istore (lv' := [(6, .int x6_6), (0, .ref (ad 11)), (1, .ref (ad 4)), (2, .int x2), (3, .int x3), (4, .int x4), (5, .int x5)]) hx hb dX10_sift_79 hl (by decide) rfl (fun ls hl => ?_)
      refine lv_aload_n hx hb dX10_sift_81 rfl (lv_at hl 1 rfl) ?_
      refine lv_iload hx hb dX10_sift_82 (lv_at hl 0 rfl) ?_
      refine lv_iload_n hx hb dX10_sift_84 rfl (lv_at hl 3 rfl) ?_
      obtain ⟨r_7, σ_8, hc_9, h⟩ := bdI_ex h
      refine g_ci (g_runV (rest := []) C hH hl.1 cV_X10_74 11 (Nat.le_of_ble_eq_true rfl) rfl rfl (kX10_agrees l D ad κ hc_9) ⟨rfl, rfl⟩ ⟨(Nat.le_of_ble_eq_true rfl), (Nat.le_of_ble_eq_true rfl)⟩ rfl rfl (Nat.le_of_ble_eq_true rfl) dX10_sift_85 z00) hH (fun H locs hH => ?_)
      refine lv_if_eq (tgt := 97) hx hb dX10_sift_88 (by decide) (fun hq_10 => ?_) (fun hq_10 => ?_)
      · rw [if_pos hq_10] at h
        exact wX10_sift_97 C ih  _ _ _ _ _ _ _ _ _ h hH (lv_sub hl [1, 2, 3, 4, 5, 6, 0] rfl)
      · rw [if_neg hq_10] at h
        refine lv_aload_n hx hb dX10_sift_91 rfl (lv_at hl 1 rfl) ?_
        refine lv_iload hx hb dX10_sift_92 (lv_at hl 0 rfl) ?_
        obtain ⟨σ_11, hc_12, h⟩ := bdV_ex h
        refine g_cv (g_runV (rest := []) C hH hl.1 cV_X10_78 11 (Nat.le_of_ble_eq_true rfl) rfl rfl (kX10_addSet l D ad κ hc_12) ⟨rfl, rfl⟩ ⟨(Nat.le_of_ble_eq_true rfl), (Nat.le_of_ble_eq_true rfl)⟩ rfl rfl (Nat.le_of_ble_eq_true rfl) dX10_sift_94 z00) hH (fun H locs hH => ?_)
        exact wX10_sift_97 C ih  _ _ _ _ _ _ _ _ _ h hH (lv_sub hl [1, 2, 3, 4, 5, 6, 0] rfl)
set_option maxHeartbeats 4000000 in
set_option maxRecDepth 100000 in
theorem kX10_sift (l : Launch) (D : va_G) (ad : Nat → Nat) (κ : KC) {x2 : Int32} {σ : HS} {R : HS} (h : FX10_sift x2 σ = some R) : MtV l 50 ceX D ad κ yX10_sift cX10_sift 7 none ({ frames := 3, cells := 0, slots := 0, locals := 72 } : Room) [.ref (ad 11), .ref (ad 4), .int x2] σ R := by
  refine open_ (by decide) (Nat.le_of_ble_eq_true rfl) (la := [(0, .ref (ad 11)), (1, .ref (ad 4)), (2, .int x2)]) rfl ?_
  intro p e s m below meth c ls C hH hl
  replace C : Cx 50 D ad κ p s m _ meth c cX10_sift RX10 7 none := C
  have hx := C.1
  have hb := C.2.1
  have hown := C.2.2.2.1
  have hts := C.2.2.2.2.1
  rw [FX10_sift] at h
  refine lv_aload_n hx hb dX10_sift_0 rfl (lv_at hl 0 rfl) ?_
  refine g_get C hH 11 (Nat.le_of_ble_eq_true rfl) rfl fl_X10_29 (v := .ref (ad 8)) rfl dX10_sift_1 ?_
  refine lv_aload_n hx hb dX10_sift_4 rfl (lv_at hl 1 rfl) ?_
  obtain ⟨σ_13, hc_14, h⟩ := bdV_ex h
  refine g_cv (g_runV (rest := []) C hH hl.1 cV_X10_37 8 (Nat.le_of_ble_eq_true rfl) rfl rfl (kX0_weigh l D ad κ st_4 hc_14) ⟨rfl, rfl⟩ ⟨(Nat.le_of_ble_eq_true rfl), (Nat.le_of_ble_eq_true rfl)⟩ rfl rfl (Nat.le_of_ble_eq_true rfl) dX10_sift_5 z00) hH (fun H locs hH => ?_)
  refine lv_aload_n hx hb dX10_sift_8 rfl (lv_at hl 0 rfl) ?_
  refine g_get C hH 11 (Nat.le_of_ble_eq_true rfl) rfl fl_X10_22 (v := .ref (ad 49)) rfl dX10_sift_9 ?_
  refine lv_iconst (v := 0) hx hb dX10_sift_12 (by decide) ?_
  obtain ⟨σ_15, hc_16, h⟩ := bdV_ex h
  refine g_cv (g_runS (rest := []) C hH hl.1 cS_X10_43 (kJ7_fill_53178 l D ad κ (Nat.le_of_ble_eq_true rfl) (fun _ _ => rfl) hc_16) ⟨rfl, rfl⟩ ⟨(Nat.le_of_ble_eq_true rfl), (Nat.le_of_ble_eq_true rfl)⟩ rfl rfl (Nat.le_of_ble_eq_true rfl) dX10_sift_13 z00) hH (fun H locs hH => ?_)
  refine lv_aload_n hx hb dX10_sift_16 rfl (lv_at hl 0 rfl) ?_
  refine lv_iconst (v := 0) hx hb dX10_sift_17 (by decide) ?_
  obtain ⟨σ_17, eσ_17, h⟩ := hl_ex h
  refine g_putI C hH 11 (Nat.le_of_ble_eq_true rfl) rfl fp_X10_49 rfl rfl (Nat.le_of_ble_eq_true rfl) rfl dX10_sift_18 (fun H locs hH => ?_)
  rw [← eσ_17] at hH
  refine lv_aload_n hx hb dX10_sift_21 rfl (lv_at hl 0 rfl) ?_
  refine lv_iconst (v := 1) hx hb dX10_sift_22 (by decide) ?_
  refine lv_aload_n hx hb dX10_sift_23 rfl (lv_at hl 0 rfl) ?_
  refine g_get C hH 11 (Nat.le_of_ble_eq_true rfl) rfl fl_X10_25 (v := .ref (ad 3)) rfl dX10_sift_24 ?_
  refine g_get C hH 3 (Nat.le_of_ble_eq_true rfl) rfl fl_X10_52 (v := .int (σ_17.1 3 0)) rfl dX10_sift_27 ?_
  refine lv_ishl hx hb dX10_sift_30 ?_
  refine lv_iconst (v := 1) hx hb dX10_sift_31 (by decide) ?_
  refine lv_isub hx hb dX10_sift_32 ?_
  obtain ⟨σ_18, eσ_18, h⟩ := hl_ex h
  refine g_putI C hH 11 (Nat.le_of_ble_eq_true rfl) rfl fp_X10_56 rfl rfl (Nat.le_of_ble_eq_true rfl) rfl dX10_sift_33 (fun H locs hH => ?_)
  rw [← eσ_18] at hH
  refine lv_aload_n hx hb dX10_sift_36 rfl (lv_at hl 0 rfl) ?_
  refine lv_aload_n hx hb dX10_sift_37 rfl (lv_at hl 0 rfl) ?_
  refine g_get C hH 11 (Nat.le_of_ble_eq_true rfl) rfl fl_X10_56 (v := .int (σ_18.1 11 9)) rfl dX10_sift_38 ?_
  obtain ⟨σ_19, eσ_19, h⟩ := hl_ex h
  refine g_putI C hH 11 (Nat.le_of_ble_eq_true rfl) rfl fp_X10_59 rfl rfl (Nat.le_of_ble_eq_true rfl) rfl dX10_sift_41 (fun H locs hH => ?_)
  rw [← eσ_19] at hH
  refine lv_aload_n hx hb dX10_sift_44 rfl (lv_at hl 0 rfl) ?_
  refine g_get C hH 11 (Nat.le_of_ble_eq_true rfl) rfl fl_X10_29 (v := .ref (ad 8)) rfl dX10_sift_45 ?_
  refine g_get C hH 8 (Nat.le_of_ble_eq_true rfl) rfl fl_X10_62 (v := .int (σ_19.1 8 8)) rfl dX10_sift_48 ?_
  obtain ⟨x3_20, ex3_20, h⟩ := hl_ex h
  refine lv_eqi ex3_20 ?_
  refine lv_istore_n (lv' := [(3, .int x3_20), (0, .ref (ad 11)), (1, .ref (ad 4)), (2, .int x2)]) hx hb dX10_sift_51 rfl hl (by decide) rfl (fun ls hl => ?_)
  refine lv_iconst (v := 0) hx hb dX10_sift_52 (by decide) ?_
  refine lv_istore (lv' := [(4, .int (0 : Int32)), (3, .int x3_20), (0, .ref (ad 11)), (1, .ref (ad 4)), (2, .int x2)]) hx hb dX10_sift_53 hl (by decide) rfl (fun ls hl => ?_)
  refine lv_iconst (v := 0) hx hb dX10_sift_55 (by decide) ?_
  refine lv_istore (lv' := [(5, .int (0 : Int32)), (4, .int (0 : Int32)), (3, .int x3_20), (0, .ref (ad 11)), (1, .ref (ad 4)), (2, .int x2)]) hx hb dX10_sift_56 hl (by decide) rfl (fun ls hl => ?_)
  exact wX10_sift_58 C _ _ _ _ _ _ _ _ _ h hH (lv_sub hl [3, 4, 5, 2, 1, 0] rfl)
-- X10_bestQuestion
def FX10_bestQuestion_12  : Nat → Int32 → Int32 → Int32 → HS → Option (Int32 × HS)
  | 0, _, _, _, _ => none
  | f + 1, x1, x2, x3, σ => if (σ.1 3 0) ≤ x3 then some (x1, σ) else gd (ix x3 10) (gd (ix x3 10) (hl_ (maxI (σ.1 49 (x3.toNatClampNeg)) ((σ.1 11 7) - (σ.1 49 (x3.toNatClampNeg)))) fun x4_4 => if x2 ≤ x4_4 then FX10_bestQuestion_12  f x1 x2 (x3 + 1) σ else FX10_bestQuestion_12  f x3 x4_4 (x3 + 1) σ))
def FX10_bestQuestion (σ : HS) : Option (Int32 × HS) :=
  hl_ ((σ.1 11 7) + (1 : Int32)) fun x2_6 => FX10_bestQuestion_12 fu (-2 : Int32) x2_6 (0 : Int32) σ
set_option maxHeartbeats 4000000 in
set_option maxRecDepth 100000 in
theorem wX10_bestQuestion_12 (C : Cx 50 D ad κ p s m args meth c cX10_bestQuestion RX10 5 (some .int)) {R : (Int32 × HS)} : ∀ (f : Nat) (x1 : Int32) (x2 : Int32) (x3 : Int32) (σ : HS) (H : Heap) (locs : List Loc) (ls : Array Slot), FX10_bestQuestion_12  f x1 x2 x3 σ = some R → Hd 50 ceX D ad κ s σ H locs → lv_has ls 5 [(0, .ref (ad 11)), (1, .int x1), (2, .int x2), (3, .int x3)] → W p l e ({ frames := 1, cells := 0, slots := 0, locals := 21 } : Room) s m args below meth c H locs 0 0 (MQ below (QI 50 ceX D ad κ R) args s 0 0 (AX 50 ad)) (F0 m 12 ls []) := by
  have hx := C.1
  have hb := C.2.1
  have hown := C.2.2.2.1
  have hts := C.2.2.2.2.1
  intro f
  induction f with
  | zero =>
    intro x1 x2 x3 σ H locs ls h hH hl
    cases h
  | succ f ih =>
    intro x1 x2 x3 σ H locs ls h hH hl
    rw [FX10_bestQuestion_12] at h
    refine lv_iload_n hx hb dX10_bestQuestion_12 rfl (lv_at hl 3 rfl) ?_
    refine lv_aload_n hx hb dX10_bestQuestion_13 rfl (lv_at hl 0 rfl) ?_
    refine g_get C hH 11 (Nat.le_of_ble_eq_true rfl) rfl fl_X10_25 (v := .ref (ad 3)) rfl dX10_bestQuestion_14 ?_
    refine g_get C hH 3 (Nat.le_of_ble_eq_true rfl) rfl fl_X10_52 (v := .int (σ.1 3 0)) rfl dX10_bestQuestion_17 ?_
    refine lv_icmp_ge (tgt := 62) hx hb dX10_bestQuestion_20 (by decide) (fun hq_1 => ?_) (fun hq_1 => ?_)
    · rw [if_pos hq_1] at h
      refine lv_iload_n hx hb dX10_bestQuestion_62 rfl (lv_at hl 1 rfl) ?_
      exact g_ret C hH h dX10_bestQuestion_63
    · rw [if_neg hq_1] at h
      refine lv_aload_n hx hb dX10_bestQuestion_23 rfl (lv_at hl 0 rfl) ?_
      refine g_get C hH 11 (Nat.le_of_ble_eq_true rfl) rfl fl_X10_22 (v := .ref (ad 49)) rfl dX10_bestQuestion_24 ?_
      refine lv_iload_n hx hb dX10_bestQuestion_27 rfl (lv_at hl 3 rfl) ?_
      obtain ⟨hi_2, h⟩ := gd_ex h
      refine g_iald C hH 49 (Nat.le_of_ble_eq_true rfl) rfl (k := (x3.toNatClampNeg)) rfl (ix_in hi_2) dX10_bestQuestion_28 ?_
      refine lv_aload_n hx hb dX10_bestQuestion_29 rfl (lv_at hl 0 rfl) ?_
      refine g_get C hH 11 (Nat.le_of_ble_eq_true rfl) rfl fl_X10_49 (v := .int (σ.1 11 7)) rfl dX10_bestQuestion_30 ?_
      refine lv_aload_n hx hb dX10_bestQuestion_33 rfl (lv_at hl 0 rfl) ?_
      refine g_get C hH 11 (Nat.le_of_ble_eq_true rfl) rfl fl_X10_22 (v := .ref (ad 49)) rfl dX10_bestQuestion_34 ?_
      refine lv_iload_n hx hb dX10_bestQuestion_37 rfl (lv_at hl 3 rfl) ?_
      obtain ⟨hi_3, h⟩ := gd_ex h
      refine g_iald C hH 49 (Nat.le_of_ble_eq_true rfl) rfl (k := (x3.toNatClampNeg)) rfl (ix_in hi_3) dX10_bestQuestion_38 ?_
      refine lv_isub hx hb dX10_bestQuestion_39 ?_
      refine g_max C hl.1 mmax_X10_89 (Nat.le_of_ble_eq_true rfl) (Nat.le_of_ble_eq_true rfl) z00 dX10_bestQuestion_40 ?_
      obtain ⟨x4_4, ex4_4, h⟩ := hl_ex h
      refine lv_eqi ex4_4 ?_
      refine lv_istore (lv' := [(4, .int x4_4), (0, .ref (ad 11)), (1, .int x1), (2, .int x2), (3, .int x3)]) hx hb dX10_bestQuestion_43 hl (by decide) rfl (fun ls hl => ?_)
      refine lv_iload hx hb dX10_bestQuestion_45 (lv_at hl 0 rfl) ?_
      refine lv_iload_n hx hb dX10_bestQuestion_47 rfl (lv_at hl 3 rfl) ?_
      refine lv_icmp_ge (tgt := 56) hx hb dX10_bestQuestion_48 (by decide) (fun hq_5 => ?_) (fun hq_5 => ?_)
      · rw [if_pos hq_5] at h
        refine lv_iinc (v := (x3 + 1)) (lv' := [(3, .int (x3 + 1)), (4, .int x4_4), (0, .ref (ad 11)), (1, .int x1), (2, .int x2)]) hx hb dX10_bestQuestion_56 hl (k := 4) rfl rfl (by decide) rfl (fun ls hl => ?_)
        refine lv_goto (tgt := 12) hx hb dX10_bestQuestion_59 (by decide) ?_
        exact ih _ _ _ _ _ _ _ h hH (lv_sub hl [2, 3, 4, 0] rfl)
      · rw [if_neg hq_5] at h
        refine lv_iload_n hx hb dX10_bestQuestion_51 rfl (lv_at hl 4 rfl) ?_
        refine lv_istore_n (lv' := [(1, .int x3), (4, .int x4_4), (0, .ref (ad 11)), (2, .int x2), (3, .int x3)]) hx hb dX10_bestQuestion_52 rfl hl (by decide) rfl (fun ls hl => ?_)
        refine lv_iload hx hb dX10_bestQuestion_53 (lv_at hl 1 rfl) ?_
        refine lv_istore_n (lv' := [(2, .int x4_4), (1, .int x3), (4, .int x4_4), (0, .ref (ad 11)), (3, .int x3)]) hx hb dX10_bestQuestion_55 rfl hl (by decide) rfl (fun ls hl => ?_)
        refine lv_iinc (v := (x3 + 1)) (lv' := [(3, .int (x3 + 1)), (2, .int x4_4), (1, .int x3), (4, .int x4_4), (0, .ref (ad 11))]) hx hb dX10_bestQuestion_56 hl (k := 4) rfl rfl (by decide) rfl (fun ls hl => ?_)
        refine lv_goto (tgt := 12) hx hb dX10_bestQuestion_59 (by decide) ?_
        exact ih _ _ _ _ _ _ _ h hH (lv_sub hl [4, 2, 1, 0] rfl)
set_option maxHeartbeats 4000000 in
set_option maxRecDepth 100000 in
theorem kX10_bestQuestion (l : Launch) (D : va_G) (ad : Nat → Nat) (κ : KC) {σ : HS} {R : (Int32 × HS)} (h : FX10_bestQuestion σ = some R) : MtI l 50 ceX D ad κ yX10_bestQuestion cX10_bestQuestion 5 (some .int) ({ frames := 1, cells := 0, slots := 0, locals := 21 } : Room) [.ref (ad 11)] σ R := by
  refine open_ (by decide) (Nat.le_of_ble_eq_true rfl) (la := [(0, .ref (ad 11))]) rfl ?_
  intro p e s m below meth c ls C hH hl
  replace C : Cx 50 D ad κ p s m _ meth c cX10_bestQuestion RX10 5 (some .int) := C
  have hx := C.1
  have hb := C.2.1
  have hown := C.2.2.2.1
  have hts := C.2.2.2.2.1
  rw [FX10_bestQuestion] at h
  refine lv_bipush (v := (-2)) hx hb dX10_bestQuestion_0 (by decide) ?_
  refine lv_istore_n (lv' := [(1, .int (-2 : Int32)), (0, .ref (ad 11))]) hx hb dX10_bestQuestion_2 rfl hl (by decide) rfl (fun ls hl => ?_)
  refine lv_aload_n hx hb dX10_bestQuestion_3 rfl (lv_at hl 1 rfl) ?_
  refine g_get C hH 11 (Nat.le_of_ble_eq_true rfl) rfl fl_X10_49 (v := .int (σ.1 11 7)) rfl dX10_bestQuestion_4 ?_
  refine lv_iconst (v := 1) hx hb dX10_bestQuestion_7 (by decide) ?_
  refine lv_iadd hx hb dX10_bestQuestion_8 ?_
  obtain ⟨x2_6, ex2_6, h⟩ := hl_ex h
  refine lv_eqi ex2_6 ?_
  refine lv_istore_n (lv' := [(2, .int x2_6), (1, .int (-2 : Int32)), (0, .ref (ad 11))]) hx hb dX10_bestQuestion_9 rfl hl (by decide) rfl (fun ls hl => ?_)
  refine lv_iconst (v := 0) hx hb dX10_bestQuestion_10 (by decide) ?_
  refine lv_istore_n (lv' := [(3, .int (0 : Int32)), (2, .int x2_6), (1, .int (-2 : Int32)), (0, .ref (ad 11))]) hx hb dX10_bestQuestion_11 rfl hl (by decide) rfl (fun ls hl => ?_)
  exact wX10_bestQuestion_12 C _ _ _ _ _ _ _ _ h hH (lv_sub hl [3, 2, 1, 0] rfl)
-- X11_within
def FX11_within (x0 : Int32) (x1 : Int32) (x2 : Int32) (σ : HS) : Option (Int32 × HS) :=
  if x0 < x1 then some ((0 : Int32), σ) else if x2 < x0 then some ((0 : Int32), σ) else some ((1 : Int32), σ)
set_option maxHeartbeats 4000000 in
set_option maxRecDepth 100000 in
theorem kX11_within (l : Launch) (D : va_G) (ad : Nat → Nat) (κ : KC) {x0 : Int32} {x1 : Int32} {x2 : Int32} {σ : HS} {R : (Int32 × HS)} (h : FX11_within x0 x1 x2 σ = some R) : MtI l 50 ceX D ad κ yX11_within cX11_within 3 (some .boolean) ({ frames := 0, cells := 0, slots := 0, locals := 0 } : Room) [.int x0, .int x1, .int x2] σ R := by
  refine open_ (by decide) (Nat.le_of_ble_eq_true rfl) (la := [(0, .int x0), (1, .int x1), (2, .int x2)]) rfl ?_
  intro p e s m below meth c ls C hH hl
  replace C : Cx 50 D ad κ p s m _ meth c cX11_within RX11 3 (some .boolean) := C
  have hx := C.1
  have hb := C.2.1
  have hown := C.2.2.2.1
  have hts := C.2.2.2.2.1
  rw [FX11_within] at h
  refine lv_iload_n hx hb dX11_within_0 rfl (lv_at hl 1 rfl) ?_
  refine lv_iload_n hx hb dX11_within_1 rfl (lv_at hl 0 rfl) ?_
  refine lv_icmp_gt (tgt := 14) hx hb dX11_within_2 (by decide) (fun hq_1 => ?_) (fun hq_1 => ?_)
  · rw [if_pos hq_1] at h
    refine lv_iconst (v := 0) hx hb dX11_within_14 (by decide) ?_
    exact g_retZ C hH rfl h dX11_within_15
  · rw [if_neg hq_1] at h
    refine lv_iload_n hx hb dX11_within_5 rfl (lv_at hl 0 rfl) ?_
    refine lv_iload_n hx hb dX11_within_6 rfl (lv_at hl 2 rfl) ?_
    refine lv_icmp_gt (tgt := 14) hx hb dX11_within_7 (by decide) (fun hq_2 => ?_) (fun hq_2 => ?_)
    · rw [if_pos hq_2] at h
      refine lv_iconst (v := 0) hx hb dX11_within_14 (by decide) ?_
      exact g_retZ C hH rfl h dX11_within_15
    · rw [if_neg hq_2] at h
      refine lv_iconst (v := 1) hx hb dX11_within_10 (by decide) ?_
      refine lv_goto (tgt := 15) hx hb dX11_within_11 (by decide) ?_
      exact g_retZ C hH rfl h dX11_within_15
-- X3_keep
def FX3_keep_43  (y1 : Int32) (σ : HS) : Option HS :=
  hl_ (pI σ 6 3 y1) fun σ_1 => hl_ (pI σ_1 6 4 (minI ((σ_1.1 6 4) + (1 : Int32)) (40 : Int32))) fun σ_2 => some σ_2
def FX3_keep (σ : HS) : Option HS :=
  gd (cpk (0 : Int32) ((σ.1 6 3) * (33 : Int32)) (33 : Int32) 33 1320) (hl_ (rI σ 36 (va_cpy (σ.1 14) (σ.1 36) 0 (((σ.1 6 3) * (33 : Int32)).toNatClampNeg) 33)) fun σ_4 => if (40 : Int32) ≤ ((σ_4.1 6 3) + (1 : Int32)) then FX3_keep_43 (0 : Int32) σ_4 else FX3_keep_43 ((σ_4.1 6 3) + (1 : Int32)) σ_4)
set_option maxHeartbeats 4000000 in
set_option maxRecDepth 100000 in
theorem wX3_keep_43 (C : Cx 50 D ad κ p s m args meth c cX3_keep RX3 2 none) {R : HS} : ∀ (y1 : Int32) (σ : HS) (H : Heap) (locs : List Loc) (ls : Array Slot), FX3_keep_43  y1 σ = some R → Hd 50 ceX D ad κ s σ H locs → lv_has ls 2 [(0, .ref (ad 6)), (1, .ref (ad 4))] → W p l e ({ frames := 1, cells := 0, slots := 0, locals := 26 } : Room) s m args below meth c H locs 0 0 (MQ below (QV 50 ceX D ad κ R) args s 0 0 (AX 50 ad)) (F0 m 43 ls [.int y1, .ref (ad 6)]) := by
  have hx := C.1
  have hb := C.2.1
  have hown := C.2.2.2.1
  have hts := C.2.2.2.2.1
  intro y1 σ H locs ls h hH hl
  rw [FX3_keep_43] at h
  obtain ⟨σ_1, eσ_1, h⟩ := hl_ex h
  refine g_putI C hH 6 (Nat.le_of_ble_eq_true rfl) rfl fp_X3_25 rfl rfl (Nat.le_of_ble_eq_true rfl) rfl dX3_keep_43 (fun H locs hH => ?_)
  rw [← eσ_1] at hH
  refine lv_aload_n hx hb dX3_keep_46 rfl (lv_at hl 0 rfl) ?_
  refine lv_aload_n hx hb dX3_keep_47 rfl (lv_at hl 0 rfl) ?_
  refine g_get C hH 6 (Nat.le_of_ble_eq_true rfl) rfl fl_X3_35 (v := .int (σ_1.1 6 4)) rfl dX3_keep_48 ?_
  refine lv_iconst (v := 1) hx hb dX3_keep_51 (by decide) ?_
  refine lv_iadd hx hb dX3_keep_52 ?_
  refine lv_bipush (v := 40) hx hb dX3_keep_53 (by decide) ?_
  refine g_min C hl.1 mmin_X3_38 (Nat.le_of_ble_eq_true rfl) (Nat.le_of_ble_eq_true rfl) z00 dX3_keep_55 ?_
  obtain ⟨σ_2, eσ_2, h⟩ := hl_ex h
  refine g_putI C hH 6 (Nat.le_of_ble_eq_true rfl) rfl fp_X3_35 rfl rfl (Nat.le_of_ble_eq_true rfl) rfl dX3_keep_58 (fun H locs hH => ?_)
  rw [← eσ_2] at hH
  exact g_retV C hH h dX3_keep_61
set_option maxHeartbeats 4000000 in
set_option maxRecDepth 100000 in
theorem kX3_keep (l : Launch) (D : va_G) (ad : Nat → Nat) (κ : KC) {σ : HS} {R : HS} (h : FX3_keep σ = some R) : MtV l 50 ceX D ad κ yX3_keep cX3_keep 2 none ({ frames := 1, cells := 0, slots := 0, locals := 26 } : Room) [.ref (ad 6), .ref (ad 4)] σ R := by
  refine open_ (by decide) (Nat.le_of_ble_eq_true rfl) (la := [(0, .ref (ad 6)), (1, .ref (ad 4))]) rfl ?_
  intro p e s m below meth c ls C hH hl
  replace C : Cx 50 D ad κ p s m _ meth c cX3_keep RX3 2 none := C
  have hx := C.1
  have hb := C.2.1
  have hown := C.2.2.2.1
  have hts := C.2.2.2.2.1
  rw [FX3_keep] at h
  refine lv_aload_n hx hb dX3_keep_0 rfl (lv_at hl 1 rfl) ?_
  refine g_get C hH 4 (Nat.le_of_ble_eq_true rfl) rfl fl_X3_22 (v := .ref (ad 14)) rfl dX3_keep_1 ?_
  refine lv_iconst (v := 0) hx hb dX3_keep_4 (by decide) ?_
  refine lv_aload_n hx hb dX3_keep_5 rfl (lv_at hl 0 rfl) ?_
  refine g_get C hH 6 (Nat.le_of_ble_eq_true rfl) rfl fl_X3_11 (v := .ref (ad 36)) rfl dX3_keep_6 ?_
  refine lv_aload_n hx hb dX3_keep_9 rfl (lv_at hl 0 rfl) ?_
  refine g_get C hH 6 (Nat.le_of_ble_eq_true rfl) rfl fl_X3_25 (v := .int (σ.1 6 3)) rfl dX3_keep_10 ?_
  refine lv_bipush (v := 33) hx hb dX3_keep_13 (by decide) ?_
  refine lv_imul hx hb dX3_keep_15 ?_
  refine lv_bipush (v := 33) hx hb dX3_keep_16 (by decide) ?_
  obtain ⟨hk_3, h⟩ := gd_ex h
  obtain ⟨σ_4, eσ_4, h⟩ := hl_ex h
  refine g_copy C hH hl.1 14 36 (Nat.le_of_ble_eq_true rfl) (Nat.le_of_ble_eq_true rfl) rfl (fun _ _ => rfl) kcp_X3_29 kcn kcs kci (a := 0) (b := (((σ.1 6 3) * (33 : Int32)).toNatClampNeg)) (d := 33) (by decide) rfl (by decide) (cpk_ex hk_3).1.1 (cpk_ex hk_3).1.2.1 (cpk_ex hk_3).1.2.2 (cpk_ex hk_3).2.1 (cpk_ex hk_3).2.2 (Nat.le_of_ble_eq_true rfl) (Nat.le_of_ble_eq_true rfl) dX3_keep_18 (fun H locs hH => ?_)
  rw [← eσ_4] at hH
  refine lv_aload_n hx hb dX3_keep_21 rfl (lv_at hl 0 rfl) ?_
  refine lv_aload_n hx hb dX3_keep_22 rfl (lv_at hl 0 rfl) ?_
  refine g_get C hH 6 (Nat.le_of_ble_eq_true rfl) rfl fl_X3_25 (v := .int (σ_4.1 6 3)) rfl dX3_keep_23 ?_
  refine lv_iconst (v := 1) hx hb dX3_keep_26 (by decide) ?_
  refine lv_iadd hx hb dX3_keep_27 ?_
  refine lv_bipush (v := 40) hx hb dX3_keep_28 (by decide) ?_
  refine lv_icmp_ge (tgt := 42) hx hb dX3_keep_30 (by decide) (fun hq_5 => ?_) (fun hq_5 => ?_)
  · rw [if_pos hq_5] at h
    refine lv_iconst (v := 0) hx hb dX3_keep_42 (by decide) ?_
    exact wX3_keep_43 C  _ _ _ _ _ h hH (lv_sub hl [0, 1] rfl)
  · rw [if_neg hq_5] at h
    refine lv_aload_n hx hb dX3_keep_33 rfl (lv_at hl 0 rfl) ?_
    refine g_get C hH 6 (Nat.le_of_ble_eq_true rfl) rfl fl_X3_25 (v := .int (σ_4.1 6 3)) rfl dX3_keep_34 ?_
    refine lv_iconst (v := 1) hx hb dX3_keep_37 (by decide) ?_
    refine lv_iadd hx hb dX3_keep_38 ?_
    refine lv_goto (tgt := 43) hx hb dX3_keep_39 (by decide) ?_
    exact wX3_keep_43 C  _ _ _ _ _ h hH (lv_sub hl [0, 1] rfl)
-- X3_takeBack
def FX3_takeBack_38  (y1 : Int32) (σ : HS) : Option (Int32 × HS) :=
  hl_ (pI σ 6 3 y1) fun σ_1 => gd (cpk ((σ_1.1 6 3) * (33 : Int32)) (0 : Int32) (33 : Int32) 1320 33) (hl_ (rI σ_1 14 (va_cpy (σ_1.1 36) (σ_1.1 14) (((σ_1.1 6 3) * (33 : Int32)).toNatClampNeg) 0 33)) fun σ_3 => some ((1 : Int32), σ_3))
def FX3_takeBack (σ : HS) : Option (Int32 × HS) :=
  if (σ.1 6 4) = 0 then some ((0 : Int32), σ) else hl_ (pI σ 6 4 ((σ.1 6 4) - (1 : Int32))) fun σ_5 => if (σ_5.1 6 3) ≤ 0 then FX3_takeBack_38 (39 : Int32) σ_5 else FX3_takeBack_38 ((σ_5.1 6 3) - (1 : Int32)) σ_5
set_option maxHeartbeats 4000000 in
set_option maxRecDepth 100000 in
theorem wX3_takeBack_38 (C : Cx 50 D ad κ p s m args meth c cX3_takeBack RX3 2 (some .boolean)) {R : (Int32 × HS)} : ∀ (y1 : Int32) (σ : HS) (H : Heap) (locs : List Loc) (ls : Array Slot), FX3_takeBack_38  y1 σ = some R → Hd 50 ceX D ad κ s σ H locs → lv_has ls 2 [(0, .ref (ad 6)), (1, .ref (ad 4))] → W p l e ({ frames := 1, cells := 0, slots := 0, locals := 26 } : Room) s m args below meth c H locs 0 0 (MQ below (QI 50 ceX D ad κ R) args s 0 0 (AX 50 ad)) (F0 m 38 ls [.int y1, .ref (ad 6)]) := by
  have hx := C.1
  have hb := C.2.1
  have hown := C.2.2.2.1
  have hts := C.2.2.2.2.1
  intro y1 σ H locs ls h hH hl
  rw [FX3_takeBack_38] at h
  obtain ⟨σ_1, eσ_1, h⟩ := hl_ex h
  refine g_putI C hH 6 (Nat.le_of_ble_eq_true rfl) rfl fp_X3_25 rfl rfl (Nat.le_of_ble_eq_true rfl) rfl dX3_takeBack_38 (fun H locs hH => ?_)
  rw [← eσ_1] at hH
  refine lv_aload_n hx hb dX3_takeBack_41 rfl (lv_at hl 0 rfl) ?_
  refine g_get C hH 6 (Nat.le_of_ble_eq_true rfl) rfl fl_X3_11 (v := .ref (ad 36)) rfl dX3_takeBack_42 ?_
  refine lv_aload_n hx hb dX3_takeBack_45 rfl (lv_at hl 0 rfl) ?_
  refine g_get C hH 6 (Nat.le_of_ble_eq_true rfl) rfl fl_X3_25 (v := .int (σ_1.1 6 3)) rfl dX3_takeBack_46 ?_
  refine lv_bipush (v := 33) hx hb dX3_takeBack_49 (by decide) ?_
  refine lv_imul hx hb dX3_takeBack_51 ?_
  refine lv_aload_n hx hb dX3_takeBack_52 rfl (lv_at hl 1 rfl) ?_
  refine g_get C hH 4 (Nat.le_of_ble_eq_true rfl) rfl fl_X3_22 (v := .ref (ad 14)) rfl dX3_takeBack_53 ?_
  refine lv_iconst (v := 0) hx hb dX3_takeBack_56 (by decide) ?_
  refine lv_bipush (v := 33) hx hb dX3_takeBack_57 (by decide) ?_
  obtain ⟨hk_2, h⟩ := gd_ex h
  obtain ⟨σ_3, eσ_3, h⟩ := hl_ex h
  refine g_copy C hH hl.1 36 14 (Nat.le_of_ble_eq_true rfl) (Nat.le_of_ble_eq_true rfl) rfl (fun _ _ => rfl) kcp_X3_29 kcn kcs kci (a := (((σ_1.1 6 3) * (33 : Int32)).toNatClampNeg)) (b := 0) (d := 33) rfl (by decide) (by decide) (cpk_ex hk_2).1.1 (cpk_ex hk_2).1.2.1 (cpk_ex hk_2).1.2.2 (cpk_ex hk_2).2.1 (cpk_ex hk_2).2.2 (Nat.le_of_ble_eq_true rfl) (Nat.le_of_ble_eq_true rfl) dX3_takeBack_59 (fun H locs hH => ?_)
  rw [← eσ_3] at hH
  refine lv_iconst (v := 1) hx hb dX3_takeBack_62 (by decide) ?_
  exact g_retZ C hH rfl h dX3_takeBack_63
set_option maxHeartbeats 4000000 in
set_option maxRecDepth 100000 in
theorem kX3_takeBack (l : Launch) (D : va_G) (ad : Nat → Nat) (κ : KC) {σ : HS} {R : (Int32 × HS)} (h : FX3_takeBack σ = some R) : MtI l 50 ceX D ad κ yX3_takeBack cX3_takeBack 2 (some .boolean) ({ frames := 1, cells := 0, slots := 0, locals := 26 } : Room) [.ref (ad 6), .ref (ad 4)] σ R := by
  refine open_ (by decide) (Nat.le_of_ble_eq_true rfl) (la := [(0, .ref (ad 6)), (1, .ref (ad 4))]) rfl ?_
  intro p e s m below meth c ls C hH hl
  replace C : Cx 50 D ad κ p s m _ meth c cX3_takeBack RX3 2 (some .boolean) := C
  have hx := C.1
  have hb := C.2.1
  have hown := C.2.2.2.1
  have hts := C.2.2.2.2.1
  rw [FX3_takeBack] at h
  refine lv_aload_n hx hb dX3_takeBack_0 rfl (lv_at hl 0 rfl) ?_
  refine g_get C hH 6 (Nat.le_of_ble_eq_true rfl) rfl fl_X3_35 (v := .int (σ.1 6 4)) rfl dX3_takeBack_1 ?_
  refine lv_if_ne (tgt := 9) hx hb dX3_takeBack_4 (by decide) (fun hq_4 => ?_) (fun hq_4 => ?_)
  · rw [if_neg hq_4] at h
    refine lv_aload_n hx hb dX3_takeBack_9 rfl (lv_at hl 0 rfl) ?_
    refine lv_dup hx hb dX3_takeBack_10 rfl ?_
    refine g_get C hH 6 (Nat.le_of_ble_eq_true rfl) rfl fl_X3_35 (v := .int (σ.1 6 4)) rfl dX3_takeBack_11 ?_
    refine lv_iconst (v := 1) hx hb dX3_takeBack_14 (by decide) ?_
    refine lv_isub hx hb dX3_takeBack_15 ?_
    obtain ⟨σ_5, eσ_5, h⟩ := hl_ex h
    refine g_putI C hH 6 (Nat.le_of_ble_eq_true rfl) rfl fp_X3_35 rfl rfl (Nat.le_of_ble_eq_true rfl) rfl dX3_takeBack_16 (fun H locs hH => ?_)
    rw [← eσ_5] at hH
    refine lv_aload_n hx hb dX3_takeBack_19 rfl (lv_at hl 0 rfl) ?_
    refine lv_aload_n hx hb dX3_takeBack_20 rfl (lv_at hl 0 rfl) ?_
    refine g_get C hH 6 (Nat.le_of_ble_eq_true rfl) rfl fl_X3_25 (v := .int (σ_5.1 6 3)) rfl dX3_takeBack_21 ?_
    refine lv_if_le (tgt := 36) hx hb dX3_takeBack_24 (by decide) (fun hq_6 => ?_) (fun hq_6 => ?_)
    · rw [if_pos hq_6] at h
      refine lv_bipush (v := 39) hx hb dX3_takeBack_36 (by decide) ?_
      exact wX3_takeBack_38 C  _ _ _ _ _ h hH (lv_sub hl [0, 1] rfl)
    · rw [if_neg hq_6] at h
      refine lv_aload_n hx hb dX3_takeBack_27 rfl (lv_at hl 0 rfl) ?_
      refine g_get C hH 6 (Nat.le_of_ble_eq_true rfl) rfl fl_X3_25 (v := .int (σ_5.1 6 3)) rfl dX3_takeBack_28 ?_
      refine lv_iconst (v := 1) hx hb dX3_takeBack_31 (by decide) ?_
      refine lv_isub hx hb dX3_takeBack_32 ?_
      refine lv_goto (tgt := 38) hx hb dX3_takeBack_33 (by decide) ?_
      exact wX3_takeBack_38 C  _ _ _ _ _ h hH (lv_sub hl [0, 1] rfl)
  · rw [if_pos hq_4] at h
    refine lv_iconst (v := 0) hx hb dX3_takeBack_7 (by decide) ?_
    exact g_retZ C hH rfl h dX3_takeBack_8
-- X3_clearThings
def FX3_clearThings (σ : HS) : Option HS :=
  hl_ (pI σ 6 4 (0 : Int32)) fun σ_1 => some σ_1
set_option maxHeartbeats 4000000 in
set_option maxRecDepth 100000 in
theorem kX3_clearThings (l : Launch) (D : va_G) (ad : Nat → Nat) (κ : KC) {σ : HS} {R : HS} (h : FX3_clearThings σ = some R) : MtV l 50 ceX D ad κ yX3_clearThings cX3_clearThings 1 none ({ frames := 0, cells := 0, slots := 0, locals := 0 } : Room) [.ref (ad 6)] σ R := by
  refine open_ (by decide) (Nat.le_of_ble_eq_true rfl) (la := [(0, .ref (ad 6))]) rfl ?_
  intro p e s m below meth c ls C hH hl
  replace C : Cx 50 D ad κ p s m _ meth c cX3_clearThings RX3 1 none := C
  have hx := C.1
  have hb := C.2.1
  have hown := C.2.2.2.1
  have hts := C.2.2.2.2.1
  rw [FX3_clearThings] at h
  refine lv_aload_n hx hb dX3_clearThings_0 rfl (lv_at hl 0 rfl) ?_
  refine lv_iconst (v := 0) hx hb dX3_clearThings_1 (by decide) ?_
  obtain ⟨σ_1, eσ_1, h⟩ := hl_ex h
  refine g_putI C hH 6 (Nat.le_of_ble_eq_true rfl) rfl fp_X3_35 rfl rfl (Nat.le_of_ble_eq_true rfl) rfl dX3_clearThings_2 (fun H locs hH => ?_)
  rw [← eσ_1] at hH
  exact g_retV C hH h dX3_clearThings_5
-- X3_clearSlots
def FX3_clearSlots_2  : Nat → Int32 → HS → Option HS
  | 0, _, _ => none
  | f + 1, x1, σ => if (3 : Int32) ≤ x1 then some σ else gd (ix x1 3) (hl_ (pI σ 38 (x1.toNatClampNeg) (vp_nar .boolean (0 : Int32))) fun σ_3 => FX3_clearSlots_2  f (x1 + 1) σ_3)
def FX3_clearSlots (σ : HS) : Option HS :=
  FX3_clearSlots_2 fu (0 : Int32) σ
set_option maxHeartbeats 4000000 in
set_option maxRecDepth 100000 in
theorem wX3_clearSlots_2 (C : Cx 50 D ad κ p s m args meth c cX3_clearSlots RX3 2 none) {R : HS} : ∀ (f : Nat) (x1 : Int32) (σ : HS) (H : Heap) (locs : List Loc) (ls : Array Slot), FX3_clearSlots_2  f x1 σ = some R → Hd 50 ceX D ad κ s σ H locs → lv_has ls 2 [(0, .ref (ad 6)), (1, .int x1)] → W p l e ({ frames := 0, cells := 0, slots := 0, locals := 0 } : Room) s m args below meth c H locs 0 0 (MQ below (QV 50 ceX D ad κ R) args s 0 0 (AX 50 ad)) (F0 m 2 ls []) := by
  have hx := C.1
  have hb := C.2.1
  have hown := C.2.2.2.1
  have hts := C.2.2.2.2.1
  intro f
  induction f with
  | zero =>
    intro x1 σ H locs ls h hH hl
    cases h
  | succ f ih =>
    intro x1 σ H locs ls h hH hl
    rw [FX3_clearSlots_2] at h
    refine lv_iload_n hx hb dX3_clearSlots_2 rfl (lv_at hl 1 rfl) ?_
    refine lv_iconst (v := 3) hx hb dX3_clearSlots_3 (by decide) ?_
    refine lv_icmp_ge (tgt := 20) hx hb dX3_clearSlots_4 (by decide) (fun hq_1 => ?_) (fun hq_1 => ?_)
    · rw [if_pos hq_1] at h
      exact g_retV C hH h dX3_clearSlots_20
    · rw [if_neg hq_1] at h
      refine lv_aload_n hx hb dX3_clearSlots_7 rfl (lv_at hl 0 rfl) ?_
      refine g_get C hH 6 (Nat.le_of_ble_eq_true rfl) rfl fl_X3_18 (v := .ref (ad 38)) rfl dX3_clearSlots_8 ?_
      refine lv_iload_n hx hb dX3_clearSlots_11 rfl (lv_at hl 1 rfl) ?_
      refine lv_iconst (v := 0) hx hb dX3_clearSlots_12 (by decide) ?_
      obtain ⟨hi_2, h⟩ := gd_ex h
      obtain ⟨σ_3, eσ_3, h⟩ := hl_ex h
      refine g_zast C hH 38 (Nat.le_of_ble_eq_true rfl) (fun _ _ => rfl) (k := (x1.toNatClampNeg)) rfl (ix_in hi_2) dX3_clearSlots_13 (fun H locs hH => ?_)
      rw [← eσ_3] at hH
      refine lv_iinc (v := (x1 + 1)) (lv' := [(1, .int (x1 + 1)), (0, .ref (ad 6))]) hx hb dX3_clearSlots_14 hl (k := 1) rfl rfl (by decide) rfl (fun ls hl => ?_)
      refine lv_goto (tgt := 2) hx hb dX3_clearSlots_17 (by decide) ?_
      exact ih _ _ _ _ _ h hH (lv_sub hl [1, 0] rfl)
set_option maxHeartbeats 4000000 in
set_option maxRecDepth 100000 in
theorem kX3_clearSlots (l : Launch) (D : va_G) (ad : Nat → Nat) (κ : KC) {σ : HS} {R : HS} (h : FX3_clearSlots σ = some R) : MtV l 50 ceX D ad κ yX3_clearSlots cX3_clearSlots 2 none ({ frames := 0, cells := 0, slots := 0, locals := 0 } : Room) [.ref (ad 6)] σ R := by
  refine open_ (by decide) (Nat.le_of_ble_eq_true rfl) (la := [(0, .ref (ad 6))]) rfl ?_
  intro p e s m below meth c ls C hH hl
  replace C : Cx 50 D ad κ p s m _ meth c cX3_clearSlots RX3 2 none := C
  have hx := C.1
  have hb := C.2.1
  have hown := C.2.2.2.1
  have hts := C.2.2.2.2.1
  rw [FX3_clearSlots] at h
  refine lv_iconst (v := 0) hx hb dX3_clearSlots_0 (by decide) ?_
  refine lv_istore_n (lv' := [(1, .int (0 : Int32)), (0, .ref (ad 6))]) hx hb dX3_clearSlots_1 rfl hl (by decide) rfl (fun ls hl => ?_)
  exact wX3_clearSlots_2 C _ _ _ _ _ _ h hH (lv_sub hl [1, 0] rfl)
-- X3_putInSlot
def FX3_putInSlot (x1 : Int32) (σ : HS) : Option (Int32 × HS) :=
  bdI (FX11_within x1 (0 : Int32) (2 : Int32) σ) fun r_1 σ_2 => if r_1 = 0 then some ((0 : Int32), σ_2) else gd (cpk (0 : Int32) (x1 * (33 : Int32)) (33 : Int32) 33 99) (hl_ (rI σ_2 37 (va_cpy (σ_2.1 14) (σ_2.1 37) 0 ((x1 * (33 : Int32)).toNatClampNeg) 33)) fun σ_6 => gd (ix x1 3) (hl_ (pI σ_6 38 (x1.toNatClampNeg) (vp_nar .boolean (1 : Int32))) fun σ_8 => some ((1 : Int32), σ_8)))
set_option maxHeartbeats 4000000 in
set_option maxRecDepth 100000 in
theorem kX3_putInSlot (l : Launch) (D : va_G) (ad : Nat → Nat) (κ : KC) {x1 : Int32} {σ : HS} {R : (Int32 × HS)} (h : FX3_putInSlot x1 σ = some R) : MtI l 50 ceX D ad κ yX3_putInSlot cX3_putInSlot 3 (some .boolean) ({ frames := 1, cells := 0, slots := 0, locals := 26 } : Room) [.ref (ad 6), .int x1, .ref (ad 4)] σ R := by
  refine open_ (by decide) (Nat.le_of_ble_eq_true rfl) (la := [(0, .ref (ad 6)), (1, .int x1), (2, .ref (ad 4))]) rfl ?_
  intro p e s m below meth c ls C hH hl
  replace C : Cx 50 D ad κ p s m _ meth c cX3_putInSlot RX3 3 (some .boolean) := C
  have hx := C.1
  have hb := C.2.1
  have hown := C.2.2.2.1
  have hts := C.2.2.2.2.1
  rw [FX3_putInSlot] at h
  refine lv_iload_n hx hb dX3_putInSlot_0 rfl (lv_at hl 1 rfl) ?_
  refine lv_iconst (v := 0) hx hb dX3_putInSlot_1 (by decide) ?_
  refine lv_iconst (v := 2) hx hb dX3_putInSlot_2 (by decide) ?_
  obtain ⟨r_1, σ_2, hc_3, h⟩ := bdI_ex h
  refine g_ci (g_runN (rest := []) C hH hl.1 cN_X3_44 (kX11_within l D ad κ hc_3) ⟨rfl, rfl⟩ ⟨(Nat.le_of_ble_eq_true rfl), (Nat.le_of_ble_eq_true rfl)⟩ rfl rfl (Nat.le_of_ble_eq_true rfl) dX3_putInSlot_3 z00) hH (fun H locs hH => ?_)
  refine lv_if_ne (tgt := 11) hx hb dX3_putInSlot_6 (by decide) (fun hq_4 => ?_) (fun hq_4 => ?_)
  · rw [if_neg hq_4] at h
    refine lv_aload_n hx hb dX3_putInSlot_11 rfl (lv_at hl 2 rfl) ?_
    refine g_get C hH 4 (Nat.le_of_ble_eq_true rfl) rfl fl_X3_22 (v := .ref (ad 14)) rfl dX3_putInSlot_12 ?_
    refine lv_iconst (v := 0) hx hb dX3_putInSlot_15 (by decide) ?_
    refine lv_aload_n hx hb dX3_putInSlot_16 rfl (lv_at hl 0 rfl) ?_
    refine g_get C hH 6 (Nat.le_of_ble_eq_true rfl) rfl fl_X3_15 (v := .ref (ad 37)) rfl dX3_putInSlot_17 ?_
    refine lv_iload_n hx hb dX3_putInSlot_20 rfl (lv_at hl 1 rfl) ?_
    refine lv_bipush (v := 33) hx hb dX3_putInSlot_21 (by decide) ?_
    refine lv_imul hx hb dX3_putInSlot_23 ?_
    refine lv_bipush (v := 33) hx hb dX3_putInSlot_24 (by decide) ?_
    obtain ⟨hk_5, h⟩ := gd_ex h
    obtain ⟨σ_6, eσ_6, h⟩ := hl_ex h
    refine g_copy C hH hl.1 14 37 (Nat.le_of_ble_eq_true rfl) (Nat.le_of_ble_eq_true rfl) rfl (fun _ _ => rfl) kcp_X3_29 kcn kcs kci (a := 0) (b := ((x1 * (33 : Int32)).toNatClampNeg)) (d := 33) (by decide) rfl (by decide) (cpk_ex hk_5).1.1 (cpk_ex hk_5).1.2.1 (cpk_ex hk_5).1.2.2 (cpk_ex hk_5).2.1 (cpk_ex hk_5).2.2 (Nat.le_of_ble_eq_true rfl) (Nat.le_of_ble_eq_true rfl) dX3_putInSlot_26 (fun H locs hH => ?_)
    rw [← eσ_6] at hH
    refine lv_aload_n hx hb dX3_putInSlot_29 rfl (lv_at hl 0 rfl) ?_
    refine g_get C hH 6 (Nat.le_of_ble_eq_true rfl) rfl fl_X3_18 (v := .ref (ad 38)) rfl dX3_putInSlot_30 ?_
    refine lv_iload_n hx hb dX3_putInSlot_33 rfl (lv_at hl 1 rfl) ?_
    refine lv_iconst (v := 1) hx hb dX3_putInSlot_34 (by decide) ?_
    obtain ⟨hi_7, h⟩ := gd_ex h
    obtain ⟨σ_8, eσ_8, h⟩ := hl_ex h
    refine g_zast C hH 38 (Nat.le_of_ble_eq_true rfl) (fun _ _ => rfl) (k := (x1.toNatClampNeg)) rfl (ix_in hi_7) dX3_putInSlot_35 (fun H locs hH => ?_)
    rw [← eσ_8] at hH
    refine lv_iconst (v := 1) hx hb dX3_putInSlot_36 (by decide) ?_
    exact g_retZ C hH rfl h dX3_putInSlot_37
  · rw [if_pos hq_4] at h
    refine lv_iconst (v := 0) hx hb dX3_putInSlot_9 (by decide) ?_
    exact g_retZ C hH rfl h dX3_putInSlot_10
-- X3_getFromSlot
def FX3_getFromSlot (x1 : Int32) (σ : HS) : Option (Int32 × HS) :=
  bdI (FX11_within x1 (0 : Int32) (2 : Int32) σ) fun r_1 σ_2 => if r_1 = 0 then some ((0 : Int32), σ_2) else gd (ix x1 3) (if (σ_2.1 38 (x1.toNatClampNeg)) = 0 then some ((0 : Int32), σ_2) else gd (cpk (x1 * (33 : Int32)) (0 : Int32) (33 : Int32) 99 33) (hl_ (rI σ_2 14 (va_cpy (σ_2.1 37) (σ_2.1 14) ((x1 * (33 : Int32)).toNatClampNeg) 0 33)) fun σ_8 => some ((1 : Int32), σ_8)))
set_option maxHeartbeats 4000000 in
set_option maxRecDepth 100000 in
theorem kX3_getFromSlot (l : Launch) (D : va_G) (ad : Nat → Nat) (κ : KC) {x1 : Int32} {σ : HS} {R : (Int32 × HS)} (h : FX3_getFromSlot x1 σ = some R) : MtI l 50 ceX D ad κ yX3_getFromSlot cX3_getFromSlot 3 (some .boolean) ({ frames := 1, cells := 0, slots := 0, locals := 26 } : Room) [.ref (ad 6), .int x1, .ref (ad 4)] σ R := by
  refine open_ (by decide) (Nat.le_of_ble_eq_true rfl) (la := [(0, .ref (ad 6)), (1, .int x1), (2, .ref (ad 4))]) rfl ?_
  intro p e s m below meth c ls C hH hl
  replace C : Cx 50 D ad κ p s m _ meth c cX3_getFromSlot RX3 3 (some .boolean) := C
  have hx := C.1
  have hb := C.2.1
  have hown := C.2.2.2.1
  have hts := C.2.2.2.2.1
  rw [FX3_getFromSlot] at h
  refine lv_iload_n hx hb dX3_getFromSlot_0 rfl (lv_at hl 1 rfl) ?_
  refine lv_iconst (v := 0) hx hb dX3_getFromSlot_1 (by decide) ?_
  refine lv_iconst (v := 2) hx hb dX3_getFromSlot_2 (by decide) ?_
  obtain ⟨r_1, σ_2, hc_3, h⟩ := bdI_ex h
  refine g_ci (g_runN (rest := []) C hH hl.1 cN_X3_44 (kX11_within l D ad κ hc_3) ⟨rfl, rfl⟩ ⟨(Nat.le_of_ble_eq_true rfl), (Nat.le_of_ble_eq_true rfl)⟩ rfl rfl (Nat.le_of_ble_eq_true rfl) dX3_getFromSlot_3 z00) hH (fun H locs hH => ?_)
  refine lv_if_eq (tgt := 18) hx hb dX3_getFromSlot_6 (by decide) (fun hq_4 => ?_) (fun hq_4 => ?_)
  · rw [if_pos hq_4] at h
    refine lv_iconst (v := 0) hx hb dX3_getFromSlot_18 (by decide) ?_
    exact g_retZ C hH rfl h dX3_getFromSlot_19
  · rw [if_neg hq_4] at h
    refine lv_aload_n hx hb dX3_getFromSlot_9 rfl (lv_at hl 0 rfl) ?_
    refine g_get C hH 6 (Nat.le_of_ble_eq_true rfl) rfl fl_X3_18 (v := .ref (ad 38)) rfl dX3_getFromSlot_10 ?_
    refine lv_iload_n hx hb dX3_getFromSlot_13 rfl (lv_at hl 1 rfl) ?_
    obtain ⟨hi_5, h⟩ := gd_ex h
    refine g_zald C hH 38 (Nat.le_of_ble_eq_true rfl) rfl (k := (x1.toNatClampNeg)) rfl (ix_in hi_5) dX3_getFromSlot_14 ?_
    refine lv_if_ne (tgt := 20) hx hb dX3_getFromSlot_15 (by decide) (fun hq_6 => ?_) (fun hq_6 => ?_)
    · rw [if_neg hq_6] at h
      refine lv_aload_n hx hb dX3_getFromSlot_20 rfl (lv_at hl 0 rfl) ?_
      refine g_get C hH 6 (Nat.le_of_ble_eq_true rfl) rfl fl_X3_15 (v := .ref (ad 37)) rfl dX3_getFromSlot_21 ?_
      refine lv_iload_n hx hb dX3_getFromSlot_24 rfl (lv_at hl 1 rfl) ?_
      refine lv_bipush (v := 33) hx hb dX3_getFromSlot_25 (by decide) ?_
      refine lv_imul hx hb dX3_getFromSlot_27 ?_
      refine lv_aload_n hx hb dX3_getFromSlot_28 rfl (lv_at hl 2 rfl) ?_
      refine g_get C hH 4 (Nat.le_of_ble_eq_true rfl) rfl fl_X3_22 (v := .ref (ad 14)) rfl dX3_getFromSlot_29 ?_
      refine lv_iconst (v := 0) hx hb dX3_getFromSlot_32 (by decide) ?_
      refine lv_bipush (v := 33) hx hb dX3_getFromSlot_33 (by decide) ?_
      obtain ⟨hk_7, h⟩ := gd_ex h
      obtain ⟨σ_8, eσ_8, h⟩ := hl_ex h
      refine g_copy C hH hl.1 37 14 (Nat.le_of_ble_eq_true rfl) (Nat.le_of_ble_eq_true rfl) rfl (fun _ _ => rfl) kcp_X3_29 kcn kcs kci (a := ((x1 * (33 : Int32)).toNatClampNeg)) (b := 0) (d := 33) rfl (by decide) (by decide) (cpk_ex hk_7).1.1 (cpk_ex hk_7).1.2.1 (cpk_ex hk_7).1.2.2 (cpk_ex hk_7).2.1 (cpk_ex hk_7).2.2 (Nat.le_of_ble_eq_true rfl) (Nat.le_of_ble_eq_true rfl) dX3_getFromSlot_35 (fun H locs hH => ?_)
      rw [← eσ_8] at hH
      refine lv_iconst (v := 1) hx hb dX3_getFromSlot_38 (by decide) ?_
      exact g_retZ C hH rfl h dX3_getFromSlot_39
    · rw [if_pos hq_6] at h
      refine lv_iconst (v := 0) hx hb dX3_getFromSlot_18 (by decide) ?_
      exact g_retZ C hH rfl h dX3_getFromSlot_19
-- X3_slotsHeld
def FX3_slotsHeld_4  : Nat → Int32 → Int32 → HS → Option (Int32 × HS)
  | 0, _, _, _ => none
  | f + 1, x1, x2, σ => if (3 : Int32) ≤ x2 then some (x1, σ) else gd (ix x2 3) (if (σ.1 38 (x2.toNatClampNeg)) = 0 then hl_ (x1 + (0 : Int32)) fun x1_4 => FX3_slotsHeld_4  f x1_4 (x2 + 1) σ else hl_ (x1 + (1 : Int32)) fun x1_5 => FX3_slotsHeld_4  f x1_5 (x2 + 1) σ)
def FX3_slotsHeld (σ : HS) : Option (Int32 × HS) :=
  FX3_slotsHeld_4 fu (0 : Int32) (0 : Int32) σ
set_option maxHeartbeats 4000000 in
set_option maxRecDepth 100000 in
theorem wX3_slotsHeld_4 (C : Cx 50 D ad κ p s m args meth c cX3_slotsHeld RX3 3 (some .int)) {R : (Int32 × HS)} : ∀ (f : Nat) (x1 : Int32) (x2 : Int32) (σ : HS) (H : Heap) (locs : List Loc) (ls : Array Slot), FX3_slotsHeld_4  f x1 x2 σ = some R → Hd 50 ceX D ad κ s σ H locs → lv_has ls 3 [(0, .ref (ad 6)), (1, .int x1), (2, .int x2)] → W p l e ({ frames := 0, cells := 0, slots := 0, locals := 0 } : Room) s m args below meth c H locs 0 0 (MQ below (QI 50 ceX D ad κ R) args s 0 0 (AX 50 ad)) (F0 m 4 ls []) := by
  have hx := C.1
  have hb := C.2.1
  have hown := C.2.2.2.1
  have hts := C.2.2.2.2.1
  intro f
  induction f with
  | zero =>
    intro x1 x2 σ H locs ls h hH hl
    cases h
  | succ f ih =>
    intro x1 x2 σ H locs ls h hH hl
    rw [FX3_slotsHeld_4] at h
    refine lv_iload_n hx hb dX3_slotsHeld_4 rfl (lv_at hl 2 rfl) ?_
    refine lv_iconst (v := 3) hx hb dX3_slotsHeld_5 (by decide) ?_
    refine lv_icmp_ge (tgt := 32) hx hb dX3_slotsHeld_6 (by decide) (fun hq_1 => ?_) (fun hq_1 => ?_)
    · rw [if_pos hq_1] at h
      refine lv_iload_n hx hb dX3_slotsHeld_32 rfl (lv_at hl 1 rfl) ?_
      exact g_ret C hH h dX3_slotsHeld_33
    · rw [if_neg hq_1] at h
      refine lv_iload_n hx hb dX3_slotsHeld_9 rfl (lv_at hl 1 rfl) ?_
      refine lv_aload_n hx hb dX3_slotsHeld_10 rfl (lv_at hl 0 rfl) ?_
      refine g_get C hH 6 (Nat.le_of_ble_eq_true rfl) rfl fl_X3_18 (v := .ref (ad 38)) rfl dX3_slotsHeld_11 ?_
      refine lv_iload_n hx hb dX3_slotsHeld_14 rfl (lv_at hl 2 rfl) ?_
      obtain ⟨hi_2, h⟩ := gd_ex h
      refine g_zald C hH 38 (Nat.le_of_ble_eq_true rfl) rfl (k := (x2.toNatClampNeg)) rfl (ix_in hi_2) dX3_slotsHeld_15 ?_
      refine lv_if_eq (tgt := 23) hx hb dX3_slotsHeld_16 (by decide) (fun hq_3 => ?_) (fun hq_3 => ?_)
      · rw [if_pos hq_3] at h
        refine lv_iconst (v := 0) hx hb dX3_slotsHeld_23 (by decide) ?_
        refine lv_iadd hx hb dX3_slotsHeld_24 ?_
        obtain ⟨x1_4, ex1_4, h⟩ := hl_ex h
        refine lv_eqi ex1_4 ?_
        refine lv_istore_n (lv' := [(1, .int x1_4), (0, .ref (ad 6)), (2, .int x2)]) hx hb dX3_slotsHeld_25 rfl hl (by decide) rfl (fun ls hl => ?_)
        refine lv_iinc (v := (x2 + 1)) (lv' := [(2, .int (x2 + 1)), (1, .int x1_4), (0, .ref (ad 6))]) hx hb dX3_slotsHeld_26 hl (k := 2) rfl rfl (by decide) rfl (fun ls hl => ?_)
        refine lv_goto (tgt := 4) hx hb dX3_slotsHeld_29 (by decide) ?_
        exact ih _ _ _ _ _ _ h hH (lv_sub hl [2, 1, 0] rfl)
      · rw [if_neg hq_3] at h
        refine lv_iconst (v := 1) hx hb dX3_slotsHeld_19 (by decide) ?_
        refine lv_goto (tgt := 24) hx hb dX3_slotsHeld_20 (by decide) ?_
        refine lv_iadd hx hb dX3_slotsHeld_24 ?_
        obtain ⟨x1_5, ex1_5, h⟩ := hl_ex h
        refine lv_eqi ex1_5 ?_
        refine lv_istore_n (lv' := [(1, .int x1_5), (0, .ref (ad 6)), (2, .int x2)]) hx hb dX3_slotsHeld_25 rfl hl (by decide) rfl (fun ls hl => ?_)
        refine lv_iinc (v := (x2 + 1)) (lv' := [(2, .int (x2 + 1)), (1, .int x1_5), (0, .ref (ad 6))]) hx hb dX3_slotsHeld_26 hl (k := 2) rfl rfl (by decide) rfl (fun ls hl => ?_)
        refine lv_goto (tgt := 4) hx hb dX3_slotsHeld_29 (by decide) ?_
        exact ih _ _ _ _ _ _ h hH (lv_sub hl [2, 1, 0] rfl)
set_option maxHeartbeats 4000000 in
set_option maxRecDepth 100000 in
theorem kX3_slotsHeld (l : Launch) (D : va_G) (ad : Nat → Nat) (κ : KC) {σ : HS} {R : (Int32 × HS)} (h : FX3_slotsHeld σ = some R) : MtI l 50 ceX D ad κ yX3_slotsHeld cX3_slotsHeld 3 (some .int) ({ frames := 0, cells := 0, slots := 0, locals := 0 } : Room) [.ref (ad 6)] σ R := by
  refine open_ (by decide) (Nat.le_of_ble_eq_true rfl) (la := [(0, .ref (ad 6))]) rfl ?_
  intro p e s m below meth c ls C hH hl
  replace C : Cx 50 D ad κ p s m _ meth c cX3_slotsHeld RX3 3 (some .int) := C
  have hx := C.1
  have hb := C.2.1
  have hown := C.2.2.2.1
  have hts := C.2.2.2.2.1
  rw [FX3_slotsHeld] at h
  refine lv_iconst (v := 0) hx hb dX3_slotsHeld_0 (by decide) ?_
  refine lv_istore_n (lv' := [(1, .int (0 : Int32)), (0, .ref (ad 6))]) hx hb dX3_slotsHeld_1 rfl hl (by decide) rfl (fun ls hl => ?_)
  refine lv_iconst (v := 0) hx hb dX3_slotsHeld_2 (by decide) ?_
  refine lv_istore_n (lv' := [(2, .int (0 : Int32)), (1, .int (0 : Int32)), (0, .ref (ad 6))]) hx hb dX3_slotsHeld_3 rfl hl (by decide) rfl (fun ls hl => ?_)
  exact wX3_slotsHeld_4 C _ _ _ _ _ _ _ h hH (lv_sub hl [2, 1, 0] rfl)
end
