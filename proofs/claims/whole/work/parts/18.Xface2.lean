theorem dX11_richest_0 : decode cX11_richest 0 = .ok (.iload_n 1, 1) := by decide +kernel
theorem dX11_richest_1 : decode cX11_richest 1 = .ok (.iconst 0, 1) := by decide +kernel
theorem dX11_richest_2 : decode cX11_richest 2 = .ok (.iconst 1, 1) := by decide +kernel
theorem dX11_richest_3 : decode cX11_richest 3 = .ok (.invokestatic 105, 3) := by decide +kernel
theorem dX11_richest_6 : decode cX11_richest 6 = .ok (.ifCond .ne 5, 3) := by decide +kernel
theorem dX11_richest_9 : decode cX11_richest 9 = .ok (.iconst (-1), 1) := by decide +kernel
theorem dX11_richest_10 : decode cX11_richest 10 = .ok (.ireturn, 1) := by decide +kernel
theorem dX11_richest_11 : decode cX11_richest 11 = .ok (.aload_n 0, 1) := by decide +kernel
theorem dX11_richest_12 : decode cX11_richest 12 = .ok (.getfield 63, 3) := by decide +kernel
theorem dX11_richest_15 : decode cX11_richest 15 = .ok (.aload_n 0, 1) := by decide +kernel
theorem dX11_richest_16 : decode cX11_richest 16 = .ok (.getfield 35, 3) := by decide +kernel
theorem dX11_richest_19 : decode cX11_richest 19 = .ok (.invokevirtual 210, 3) := by decide +kernel
theorem dX11_richest_22 : decode cX11_richest 22 = .ok (.bipush (-2), 2) := by decide +kernel
theorem dX11_richest_24 : decode cX11_richest 24 = .ok (.istore_n 2, 1) := by decide +kernel
theorem dX11_richest_25 : decode cX11_richest 25 = .ok (.bipush (-2), 2) := by decide +kernel
theorem dX11_richest_27 : decode cX11_richest 27 = .ok (.istore_n 3, 1) := by decide +kernel
theorem dX11_richest_28 : decode cX11_richest 28 = .ok (.iconst 0, 1) := by decide +kernel
theorem dX11_richest_29 : decode cX11_richest 29 = .ok (.istore 4, 2) := by decide +kernel
theorem dX11_richest_31 : decode cX11_richest 31 = .ok (.iload 4, 2) := by decide +kernel
theorem dX11_richest_33 : decode cX11_richest 33 = .ok (.aload_n 0, 1) := by decide +kernel
theorem dX11_richest_34 : decode cX11_richest 34 = .ok (.getfield 28, 3) := by decide +kernel
theorem dX11_richest_37 : decode cX11_richest 37 = .ok (.getfield 282, 3) := by decide +kernel
theorem dX11_richest_40 : decode cX11_richest 40 = .ok (.if_icmp .ge 36, 3) := by decide +kernel
theorem dX11_richest_43 : decode cX11_richest 43 = .ok (.aload_n 0, 1) := by decide +kernel
theorem dX11_richest_44 : decode cX11_richest 44 = .ok (.getfield 63, 3) := by decide +kernel
theorem dX11_richest_47 : decode cX11_richest 47 = .ok (.aload_n 0, 1) := by decide +kernel
theorem dX11_richest_48 : decode cX11_richest 48 = .ok (.getfield 35, 3) := by decide +kernel
theorem dX11_richest_51 : decode cX11_richest 51 = .ok (.iload 4, 2) := by decide +kernel
theorem dX11_richest_53 : decode cX11_richest 53 = .ok (.invokevirtual 285, 3) := by decide +kernel
theorem dX11_richest_56 : decode cX11_richest 56 = .ok (.istore 5, 2) := by decide +kernel
theorem dX11_richest_58 : decode cX11_richest 58 = .ok (.iload 5, 2) := by decide +kernel
theorem dX11_richest_60 : decode cX11_richest 60 = .ok (.iload_n 3, 1) := by decide +kernel
theorem dX11_richest_61 : decode cX11_richest 61 = .ok (.if_icmp .le 9, 3) := by decide +kernel
theorem dX11_richest_64 : decode cX11_richest 64 = .ok (.iload 4, 2) := by decide +kernel
theorem dX11_richest_66 : decode cX11_richest 66 = .ok (.istore_n 2, 1) := by decide +kernel
theorem dX11_richest_67 : decode cX11_richest 67 = .ok (.iload 5, 2) := by decide +kernel
theorem dX11_richest_69 : decode cX11_richest 69 = .ok (.istore_n 3, 1) := by decide +kernel
theorem dX11_richest_70 : decode cX11_richest 70 = .ok (.iinc 4 1, 3) := by decide +kernel
theorem dX11_richest_73 : decode cX11_richest 73 = .ok (.goto (-42), 3) := by decide +kernel
theorem dX11_richest_76 : decode cX11_richest 76 = .ok (.iload_n 1, 1) := by decide +kernel
theorem dX11_richest_77 : decode cX11_richest 77 = .ok (.ifCond .ne 7, 3) := by decide +kernel
theorem dX11_richest_80 : decode cX11_richest 80 = .ok (.iload_n 2, 1) := by decide +kernel
theorem dX11_richest_81 : decode cX11_richest 81 = .ok (.goto 4, 3) := by decide +kernel
theorem dX11_richest_84 : decode cX11_richest 84 = .ok (.iload_n 3, 1) := by decide +kernel
theorem dX11_richest_85 : decode cX11_richest 85 = .ok (.ireturn, 1) := by decide +kernel
theorem dX11_likely_0 : decode cX11_likely 0 = .ok (.iload_n 1, 1) := by decide +kernel
theorem dX11_likely_1 : decode cX11_likely 1 = .ok (.iconst 0, 1) := by decide +kernel
theorem dX11_likely_2 : decode cX11_likely 2 = .ok (.iconst 1, 1) := by decide +kernel
theorem dX11_likely_3 : decode cX11_likely 3 = .ok (.invokestatic 105, 3) := by decide +kernel
theorem dX11_likely_6 : decode cX11_likely 6 = .ok (.ifCond .ne 5, 3) := by decide +kernel
theorem dX11_likely_9 : decode cX11_likely 9 = .ok (.iconst (-1), 1) := by decide +kernel
theorem dX11_likely_10 : decode cX11_likely 10 = .ok (.ireturn, 1) := by decide +kernel
theorem dX11_likely_11 : decode cX11_likely 11 = .ok (.iconst 0, 1) := by decide +kernel
theorem dX11_likely_12 : decode cX11_likely 12 = .ok (.istore_n 2, 1) := by decide +kernel
theorem dX11_likely_13 : decode cX11_likely 13 = .ok (.iconst 1, 1) := by decide +kernel
theorem dX11_likely_14 : decode cX11_likely 14 = .ok (.istore_n 3, 1) := by decide +kernel
theorem dX11_likely_15 : decode cX11_likely 15 = .ok (.iconst 0, 1) := by decide +kernel
theorem dX11_likely_16 : decode cX11_likely 16 = .ok (.istore 4, 2) := by decide +kernel
theorem dX11_likely_18 : decode cX11_likely 18 = .ok (.iload 4, 2) := by decide +kernel
theorem dX11_likely_20 : decode cX11_likely 20 = .ok (.aload_n 0, 1) := by decide +kernel
theorem dX11_likely_21 : decode cX11_likely 21 = .ok (.getfield 28, 3) := by decide +kernel
theorem dX11_likely_24 : decode cX11_likely 24 = .ok (.getfield 241, 3) := by decide +kernel
theorem dX11_likely_27 : decode cX11_likely 27 = .ok (.if_icmp .ge 52, 3) := by decide +kernel
theorem dX11_likely_30 : decode cX11_likely 30 = .ok (.aload_n 0, 1) := by decide +kernel
theorem dX11_likely_31 : decode cX11_likely 31 = .ok (.getfield 54, 3) := by decide +kernel
theorem dX11_likely_34 : decode cX11_likely 34 = .ok (.aload_n 0, 1) := by decide +kernel
theorem dX11_likely_35 : decode cX11_likely 35 = .ok (.getfield 35, 3) := by decide +kernel
theorem dX11_likely_38 : decode cX11_likely 38 = .ok (.iload 4, 2) := by decide +kernel
theorem dX11_likely_40 : decode cX11_likely 40 = .ok (.invokevirtual 138, 3) := by decide +kernel
theorem dX11_likely_43 : decode cX11_likely 43 = .ok (.istore 5, 2) := by decide +kernel
theorem dX11_likely_45 : decode cX11_likely 45 = .ok (.iload 5, 2) := by decide +kernel
theorem dX11_likely_47 : decode cX11_likely 47 = .ok (.iconst 4, 1) := by decide +kernel
theorem dX11_likely_48 : decode cX11_likely 48 = .ok (.iload 5, 2) := by decide +kernel
theorem dX11_likely_50 : decode cX11_likely 50 = .ok (.isub, 1) := by decide +kernel
theorem dX11_likely_51 : decode cX11_likely 51 = .ok (.if_icmp .le 10, 3) := by decide +kernel
theorem dX11_likely_54 : decode cX11_likely 54 = .ok (.iload_n 2, 1) := by decide +kernel
theorem dX11_likely_55 : decode cX11_likely 55 = .ok (.iconst 1, 1) := by decide +kernel
theorem dX11_likely_56 : decode cX11_likely 56 = .ok (.iload 4, 2) := by decide +kernel
theorem dX11_likely_58 : decode cX11_likely 58 = .ok (.ishl, 1) := by decide +kernel
theorem dX11_likely_59 : decode cX11_likely 59 = .ok (.ior, 1) := by decide +kernel
theorem dX11_likely_60 : decode cX11_likely 60 = .ok (.istore_n 2, 1) := by decide +kernel
theorem dX11_likely_61 : decode cX11_likely 61 = .ok (.iload_n 3, 1) := by decide +kernel
theorem dX11_likely_62 : decode cX11_likely 62 = .ok (.iload 5, 2) := by decide +kernel
theorem dX11_likely_64 : decode cX11_likely 64 = .ok (.iconst 4, 1) := by decide +kernel
theorem dX11_likely_65 : decode cX11_likely 65 = .ok (.iload 5, 2) := by decide +kernel
theorem dX11_likely_67 : decode cX11_likely 67 = .ok (.isub, 1) := by decide +kernel
theorem dX11_likely_68 : decode cX11_likely 68 = .ok (.invokestatic 232, 3) := by decide +kernel
theorem dX11_likely_71 : decode cX11_likely 71 = .ok (.imul, 1) := by decide +kernel
theorem dX11_likely_72 : decode cX11_likely 72 = .ok (.istore_n 3, 1) := by decide +kernel
theorem dX11_likely_73 : decode cX11_likely 73 = .ok (.iinc 4 1, 3) := by decide +kernel
theorem dX11_likely_76 : decode cX11_likely 76 = .ok (.goto (-58), 3) := by decide +kernel
theorem dX11_likely_79 : decode cX11_likely 79 = .ok (.iload_n 1, 1) := by decide +kernel
theorem dX11_likely_80 : decode cX11_likely 80 = .ok (.ifCond .ne 7, 3) := by decide +kernel
theorem dX11_likely_83 : decode cX11_likely 83 = .ok (.iload_n 2, 1) := by decide +kernel
theorem dX11_likely_84 : decode cX11_likely 84 = .ok (.goto 4, 3) := by decide +kernel
theorem dX11_likely_87 : decode cX11_likely 87 = .ok (.iload_n 3, 1) := by decide +kernel
theorem dX11_likely_88 : decode cX11_likely 88 = .ok (.ireturn, 1) := by decide +kernel
theorem dX11_tryWeeks_0 : decode cX11_tryWeeks 0 = .ok (.aload_n 0, 1) := by decide +kernel
theorem dX11_tryWeeks_1 : decode cX11_tryWeeks 1 = .ok (.getfield 39, 3) := by decide +kernel
theorem dX11_tryWeeks_4 : decode cX11_tryWeeks 4 = .ok (.aload_n 0, 1) := by decide +kernel
theorem dX11_tryWeeks_5 : decode cX11_tryWeeks 5 = .ok (.getfield 35, 3) := by decide +kernel
theorem dX11_tryWeeks_8 : decode cX11_tryWeeks 8 = .ok (.invokevirtual 347, 3) := by decide +kernel
theorem dX11_tryWeeks_11 : decode cX11_tryWeeks 11 = .ok (.aload_n 0, 1) := by decide +kernel
theorem dX11_tryWeeks_12 : decode cX11_tryWeeks 12 = .ok (.getfield 70, 3) := by decide +kernel
theorem dX11_tryWeeks_15 : decode cX11_tryWeeks 15 = .ok (.aload_n 0, 1) := by decide +kernel
theorem dX11_tryWeeks_16 : decode cX11_tryWeeks 16 = .ok (.getfield 39, 3) := by decide +kernel
theorem dX11_tryWeeks_19 : decode cX11_tryWeeks 19 = .ok (.iload_n 1, 1) := by decide +kernel
theorem dX11_tryWeeks_20 : decode cX11_tryWeeks 20 = .ok (.iload_n 2, 1) := by decide +kernel
theorem dX11_tryWeeks_21 : decode cX11_tryWeeks 21 = .ok (.invokevirtual 199, 3) := by decide +kernel
theorem dX11_tryWeeks_24 : decode cX11_tryWeeks 24 = .ok (.return_, 1) := by decide +kernel
theorem dX11_gains_0 : decode cX11_gains 0 = .ok (.aload_n 0, 1) := by decide +kernel
theorem dX11_gains_1 : decode cX11_gains 1 = .ok (.iload_n 1, 1) := by decide +kernel
theorem dX11_gains_2 : decode cX11_gains 2 = .ok (.invokevirtual 149, 3) := by decide +kernel
theorem dX11_gains_5 : decode cX11_gains 5 = .ok (.ifCond .eq 13, 3) := by decide +kernel
theorem dX11_gains_8 : decode cX11_gains 8 = .ok (.iload_n 2, 1) := by decide +kernel
theorem dX11_gains_9 : decode cX11_gains 9 = .ok (.iconst 0, 1) := by decide +kernel
theorem dX11_gains_10 : decode cX11_gains 10 = .ok (.bipush 40, 2) := by decide +kernel
theorem dX11_gains_12 : decode cX11_gains 12 = .ok (.invokestatic 105, 3) := by decide +kernel
theorem dX11_gains_15 : decode cX11_gains 15 = .ok (.ifCond .ne 7, 3) := by decide +kernel
theorem dX11_gains_18 : decode cX11_gains 18 = .ok (.ldc_w 272, 3) := by decide +kernel
theorem dX11_gains_21 : decode cX11_gains 21 = .ok (.ireturn, 1) := by decide +kernel
theorem dX11_gains_22 : decode cX11_gains 22 = .ok (.aload_n 0, 1) := by decide +kernel
theorem dX11_gains_23 : decode cX11_gains 23 = .ok (.iload_n 2, 1) := by decide +kernel
theorem dX11_gains_24 : decode cX11_gains 24 = .ok (.aload_n 0, 1) := by decide +kernel
theorem dX11_gains_25 : decode cX11_gains 25 = .ok (.getfield 28, 3) := by decide +kernel
theorem dX11_gains_28 : decode cX11_gains 28 = .ok (.getfield 142, 3) := by decide +kernel
theorem dX11_gains_31 : decode cX11_gains 31 = .ok (.invokevirtual 288, 3) := by decide +kernel
theorem dX11_gains_34 : decode cX11_gains 34 = .ok (.aload_n 0, 1) := by decide +kernel
theorem dX11_gains_35 : decode cX11_gains 35 = .ok (.getfield 39, 3) := by decide +kernel
theorem dX11_gains_38 : decode cX11_gains 38 = .ok (.iload_n 1, 1) := by decide +kernel
theorem dX11_gains_39 : decode cX11_gains 39 = .ok (.invokevirtual 291, 3) := by decide +kernel
theorem dX11_gains_42 : decode cX11_gains 42 = .ok (.aload_n 0, 1) := by decide +kernel
theorem dX11_gains_43 : decode cX11_gains 43 = .ok (.getfield 35, 3) := by decide +kernel
theorem dX11_gains_46 : decode cX11_gains 46 = .ok (.iload_n 1, 1) := by decide +kernel
theorem dX11_gains_47 : decode cX11_gains 47 = .ok (.invokevirtual 291, 3) := by decide +kernel
theorem dX11_gains_50 : decode cX11_gains 50 = .ok (.isub, 1) := by decide +kernel
theorem dX11_gains_51 : decode cX11_gains 51 = .ok (.ireturn, 1) := by decide +kernel
theorem dX11_partsIn_0 : decode cX11_partsIn 0 = .ok (.iload_n 1, 1) := by decide +kernel
theorem dX11_partsIn_1 : decode cX11_partsIn 1 = .ok (.iconst 0, 1) := by decide +kernel
theorem dX11_partsIn_2 : decode cX11_partsIn 2 = .ok (.bipush 40, 2) := by decide +kernel
theorem dX11_partsIn_4 : decode cX11_partsIn 4 = .ok (.invokestatic 105, 3) := by decide +kernel
theorem dX11_partsIn_7 : decode cX11_partsIn 7 = .ok (.ifCond .ne 5, 3) := by decide +kernel
theorem dX11_partsIn_10 : decode cX11_partsIn 10 = .ok (.iconst (-1), 1) := by decide +kernel
theorem dX11_partsIn_11 : decode cX11_partsIn 11 = .ok (.ireturn, 1) := by decide +kernel
theorem dX11_partsIn_12 : decode cX11_partsIn 12 = .ok (.aload_n 0, 1) := by decide +kernel
theorem dX11_partsIn_13 : decode cX11_partsIn 13 = .ok (.iload_n 1, 1) := by decide +kernel
theorem dX11_partsIn_14 : decode cX11_partsIn 14 = .ok (.aload_n 0, 1) := by decide +kernel
theorem dX11_partsIn_15 : decode cX11_partsIn 15 = .ok (.getfield 28, 3) := by decide +kernel
theorem dX11_partsIn_18 : decode cX11_partsIn 18 = .ok (.getfield 142, 3) := by decide +kernel
theorem dX11_partsIn_21 : decode cX11_partsIn 21 = .ok (.invokevirtual 288, 3) := by decide +kernel
theorem dX11_partsIn_24 : decode cX11_partsIn 24 = .ok (.aload_n 0, 1) := by decide +kernel
theorem dX11_partsIn_25 : decode cX11_partsIn 25 = .ok (.getfield 39, 3) := by decide +kernel
theorem dX11_partsIn_28 : decode cX11_partsIn 28 = .ok (.getfield 203, 3) := by decide +kernel
theorem dX11_partsIn_31 : decode cX11_partsIn 31 = .ok (.bipush 32, 2) := by decide +kernel
theorem dX11_partsIn_33 : decode cX11_partsIn 33 = .ok (.iaload, 1) := by decide +kernel
theorem dX11_partsIn_34 : decode cX11_partsIn 34 = .ok (.ireturn, 1) := by decide +kernel
theorem dX11_year_0 : decode cX11_year 0 = .ok (.aload_n 0, 1) := by decide +kernel
theorem dX11_year_1 : decode cX11_year 1 = .ok (.iload_n 1, 1) := by decide +kernel
theorem dX11_year_2 : decode cX11_year 2 = .ok (.invokevirtual 149, 3) := by decide +kernel
theorem dX11_year_5 : decode cX11_year 5 = .ok (.ifCond .eq 23, 3) := by decide +kernel
theorem dX11_year_8 : decode cX11_year 8 = .ok (.iload_n 2, 1) := by decide +kernel
theorem dX11_year_9 : decode cX11_year 9 = .ok (.iconst 0, 1) := by decide +kernel
theorem dX11_year_10 : decode cX11_year 10 = .ok (.bipush 40, 2) := by decide +kernel
theorem dX11_year_12 : decode cX11_year 12 = .ok (.invokestatic 105, 3) := by decide +kernel
theorem dX11_year_15 : decode cX11_year 15 = .ok (.ifCond .eq 13, 3) := by decide +kernel
theorem dX11_year_18 : decode cX11_year 18 = .ok (.iload_n 3, 1) := by decide +kernel
theorem dX11_year_19 : decode cX11_year 19 = .ok (.iconst 1, 1) := by decide +kernel
theorem dX11_year_20 : decode cX11_year 20 = .ok (.bipush 20, 2) := by decide +kernel
theorem dX11_year_22 : decode cX11_year 22 = .ok (.invokestatic 105, 3) := by decide +kernel
theorem dX11_year_25 : decode cX11_year 25 = .ok (.ifCond .ne 5, 3) := by decide +kernel
theorem dX11_year_28 : decode cX11_year 28 = .ok (.iconst (-1), 1) := by decide +kernel
theorem dX11_year_29 : decode cX11_year 29 = .ok (.ireturn, 1) := by decide +kernel
theorem dX11_year_30 : decode cX11_year 30 = .ok (.iconst 0, 1) := by decide +kernel
theorem dX11_year_31 : decode cX11_year 31 = .ok (.istore 4, 2) := by decide +kernel
theorem dX11_year_33 : decode cX11_year 33 = .ok (.iconst 0, 1) := by decide +kernel
theorem dX11_year_34 : decode cX11_year 34 = .ok (.istore 5, 2) := by decide +kernel
theorem dX11_year_36 : decode cX11_year 36 = .ok (.iload 5, 2) := by decide +kernel
theorem dX11_year_38 : decode cX11_year 38 = .ok (.iload_n 3, 1) := by decide +kernel
theorem dX11_year_39 : decode cX11_year 39 = .ok (.if_icmp .ge 38, 3) := by decide +kernel
theorem dX11_year_42 : decode cX11_year 42 = .ok (.aload_n 0, 1) := by decide +kernel
theorem dX11_year_43 : decode cX11_year 43 = .ok (.iload_n 2, 1) := by decide +kernel
theorem dX11_year_44 : decode cX11_year 44 = .ok (.aload_n 0, 1) := by decide +kernel
theorem dX11_year_45 : decode cX11_year 45 = .ok (.getfield 28, 3) := by decide +kernel
theorem dX11_year_48 : decode cX11_year 48 = .ok (.getfield 142, 3) := by decide +kernel
theorem dX11_year_51 : decode cX11_year 51 = .ok (.iload 5, 2) := by decide +kernel
theorem dX11_year_53 : decode cX11_year 53 = .ok (.iadd, 1) := by decide +kernel
theorem dX11_year_54 : decode cX11_year 54 = .ok (.invokevirtual 288, 3) := by decide +kernel
theorem dX11_year_57 : decode cX11_year 57 = .ok (.aload_n 0, 1) := by decide +kernel
theorem dX11_year_58 : decode cX11_year 58 = .ok (.getfield 39, 3) := by decide +kernel
theorem dX11_year_61 : decode cX11_year 61 = .ok (.iload_n 1, 1) := by decide +kernel
theorem dX11_year_62 : decode cX11_year 62 = .ok (.invokevirtual 291, 3) := by decide +kernel
theorem dX11_year_65 : decode cX11_year 65 = .ok (.ifCond .le 6, 3) := by decide +kernel
theorem dX11_year_68 : decode cX11_year 68 = .ok (.iinc 4 1, 3) := by decide +kernel
theorem dX11_year_71 : decode cX11_year 71 = .ok (.iinc 5 1, 3) := by decide +kernel
theorem dX11_year_74 : decode cX11_year 74 = .ok (.goto (-38), 3) := by decide +kernel
theorem dX11_year_77 : decode cX11_year 77 = .ok (.iload 4, 2) := by decide +kernel
theorem dX11_year_79 : decode cX11_year 79 = .ok (.ireturn, 1) := by decide +kernel
theorem dX11_tell_0 : decode cX11_tell 0 = .ok (.aload_n 0, 1) := by decide +kernel
theorem dX11_tell_1 : decode cX11_tell 1 = .ok (.iload_n 1, 1) := by decide +kernel
theorem dX11_tell_2 : decode cX11_tell 2 = .ok (.invokevirtual 131, 3) := by decide +kernel
theorem dX11_tell_5 : decode cX11_tell 5 = .ok (.ifCond .eq 10, 3) := by decide +kernel
theorem dX11_tell_8 : decode cX11_tell 8 = .ok (.iload_n 2, 1) := by decide +kernel
theorem dX11_tell_9 : decode cX11_tell 9 = .ok (.invokestatic 174, 3) := by decide +kernel
theorem dX11_tell_12 : decode cX11_tell 12 = .ok (.ifCond .ne 5, 3) := by decide +kernel
theorem dX11_tell_15 : decode cX11_tell 15 = .ok (.iconst (-1), 1) := by decide +kernel
theorem dX11_tell_16 : decode cX11_tell 16 = .ok (.ireturn, 1) := by decide +kernel
theorem dX11_tell_17 : decode cX11_tell 17 = .ok (.aload_n 0, 1) := by decide +kernel
theorem dX11_tell_18 : decode cX11_tell 18 = .ok (.getfield 86, 3) := by decide +kernel
theorem dX11_tell_21 : decode cX11_tell 21 = .ok (.iload_n 1, 1) := by decide +kernel
theorem dX11_tell_22 : decode cX11_tell 22 = .ok (.iload_n 2, 1) := by decide +kernel
theorem dX11_tell_23 : decode cX11_tell 23 = .ok (.iload_n 3, 1) := by decide +kernel
theorem dX11_tell_24 : decode cX11_tell 24 = .ok (.invokevirtual 294, 3) := by decide +kernel
theorem dX11_tell_27 : decode cX11_tell 27 = .ok (.ireturn, 1) := by decide +kernel
theorem dX11_forget_0 : decode cX11_forget 0 = .ok (.aload_n 0, 1) := by decide +kernel
theorem dX11_forget_1 : decode cX11_forget 1 = .ok (.getfield 86, 3) := by decide +kernel
theorem dX11_forget_4 : decode cX11_forget 4 = .ok (.getfield 125, 3) := by decide +kernel
theorem dX11_forget_7 : decode cX11_forget 7 = .ok (.istore_n 1, 1) := by decide +kernel
theorem dX11_forget_8 : decode cX11_forget 8 = .ok (.aload_n 0, 1) := by decide +kernel
theorem dX11_forget_9 : decode cX11_forget 9 = .ok (.getfield 86, 3) := by decide +kernel
theorem dX11_forget_12 : decode cX11_forget 12 = .ok (.iconst 0, 1) := by decide +kernel
theorem dX11_forget_13 : decode cX11_forget 13 = .ok (.putfield 125, 3) := by decide +kernel
theorem dX11_forget_16 : decode cX11_forget 16 = .ok (.iload_n 1, 1) := by decide +kernel
theorem dX11_forget_17 : decode cX11_forget 17 = .ok (.ireturn, 1) := by decide +kernel
theorem dX11_when_0 : decode cX11_when 0 = .ok (.iload_n 1, 1) := by decide +kernel
theorem dX11_when_1 : decode cX11_when 1 = .ok (.iconst 0, 1) := by decide +kernel
theorem dX11_when_2 : decode cX11_when 2 = .ok (.aload_n 0, 1) := by decide +kernel
theorem dX11_when_3 : decode cX11_when 3 = .ok (.getfield 86, 3) := by decide +kernel
theorem dX11_when_6 : decode cX11_when 6 = .ok (.getfield 125, 3) := by decide +kernel
theorem dX11_when_9 : decode cX11_when 9 = .ok (.invokestatic 105, 3) := by decide +kernel
theorem dX11_when_12 : decode cX11_when 12 = .ok (.ifCond .eq 12, 3) := by decide +kernel
theorem dX11_when_15 : decode cX11_when 15 = .ok (.iload_n 2, 1) := by decide +kernel
theorem dX11_when_16 : decode cX11_when 16 = .ok (.iconst 0, 1) := by decide +kernel
theorem dX11_when_17 : decode cX11_when 17 = .ok (.iconst 3, 1) := by decide +kernel
theorem dX11_when_18 : decode cX11_when 18 = .ok (.invokestatic 105, 3) := by decide +kernel
theorem dX11_when_21 : decode cX11_when 21 = .ok (.ifCond .ne 5, 3) := by decide +kernel
theorem dX11_when_24 : decode cX11_when 24 = .ok (.iconst (-1), 1) := by decide +kernel
theorem dX11_when_25 : decode cX11_when 25 = .ok (.ireturn, 1) := by decide +kernel
theorem dX11_when_26 : decode cX11_when 26 = .ok (.aload_n 0, 1) := by decide +kernel
theorem dX11_when_27 : decode cX11_when 27 = .ok (.getfield 86, 3) := by decide +kernel
theorem dX11_when_30 : decode cX11_when 30 = .ok (.aload_n 0, 1) := by decide +kernel
theorem dX11_when_31 : decode cX11_when 31 = .ok (.getfield 35, 3) := by decide +kernel
theorem dX11_when_34 : decode cX11_when 34 = .ok (.iload_n 1, 1) := by decide +kernel
theorem dX11_when_35 : decode cX11_when 35 = .ok (.invokevirtual 298, 3) := by decide +kernel
theorem dX11_when_38 : decode cX11_when 38 = .ok (.iload_n 2, 1) := by decide +kernel
theorem dX11_when_39 : decode cX11_when 39 = .ok (.ifCond .ne 11, 3) := by decide +kernel
theorem dX11_when_42 : decode cX11_when 42 = .ok (.aload_n 0, 1) := by decide +kernel
theorem dX11_when_43 : decode cX11_when 43 = .ok (.getfield 86, 3) := by decide +kernel
theorem dX11_when_46 : decode cX11_when 46 = .ok (.getfield 301, 3) := by decide +kernel
theorem dX11_when_49 : decode cX11_when 49 = .ok (.ireturn, 1) := by decide +kernel
theorem dX11_when_50 : decode cX11_when 50 = .ok (.aload_n 0, 1) := by decide +kernel
theorem dX11_when_51 : decode cX11_when 51 = .ok (.getfield 86, 3) := by decide +kernel
theorem dX11_when_54 : decode cX11_when 54 = .ok (.getfield 301, 3) := by decide +kernel
theorem dX11_when_57 : decode cX11_when 57 = .ok (.ifCond .ne 6, 3) := by decide +kernel
theorem dX11_when_60 : decode cX11_when 60 = .ok (.bipush (-2), 2) := by decide +kernel
theorem dX11_when_62 : decode cX11_when 62 = .ok (.ireturn, 1) := by decide +kernel
theorem dX11_when_63 : decode cX11_when 63 = .ok (.iload_n 2, 1) := by decide +kernel
theorem dX11_when_64 : decode cX11_when 64 = .ok (.lookupswitch 44 #[(1, 28), (2, 36)], 28) := by decide +kernel
theorem dX11_when_92 : decode cX11_when 92 = .ok (.aload_n 0, 1) := by decide +kernel
theorem dX11_when_93 : decode cX11_when 93 = .ok (.getfield 86, 3) := by decide +kernel
theorem dX11_when_96 : decode cX11_when 96 = .ok (.getfield 304, 3) := by decide +kernel
theorem dX11_when_99 : decode cX11_when 99 = .ok (.ireturn, 1) := by decide +kernel
theorem dX11_when_100 : decode cX11_when 100 = .ok (.aload_n 0, 1) := by decide +kernel
theorem dX11_when_101 : decode cX11_when 101 = .ok (.getfield 86, 3) := by decide +kernel
theorem dX11_when_104 : decode cX11_when 104 = .ok (.getfield 307, 3) := by decide +kernel
theorem dX11_when_107 : decode cX11_when 107 = .ok (.ireturn, 1) := by decide +kernel
theorem dX11_when_108 : decode cX11_when 108 = .ok (.aload_n 0, 1) := by decide +kernel
theorem dX11_when_109 : decode cX11_when 109 = .ok (.getfield 86, 3) := by decide +kernel
theorem dX11_when_112 : decode cX11_when 112 = .ok (.getfield 310, 3) := by decide +kernel
theorem dX11_when_115 : decode cX11_when 115 = .ok (.ireturn, 1) := by decide +kernel
theorem dX11_ask_0 : decode cX11_ask 0 = .ok (.iload_n 1, 1) := by decide +kernel
theorem dX11_ask_1 : decode cX11_ask 1 = .ok (.iconst 0, 1) := by decide +kernel
theorem dX11_ask_2 : decode cX11_ask 2 = .ok (.aload_n 0, 1) := by decide +kernel
theorem dX11_ask_3 : decode cX11_ask 3 = .ok (.getfield 86, 3) := by decide +kernel
theorem dX11_ask_6 : decode cX11_ask 6 = .ok (.getfield 125, 3) := by decide +kernel
theorem dX11_ask_9 : decode cX11_ask 9 = .ok (.invokestatic 105, 3) := by decide +kernel
theorem dX11_ask_12 : decode cX11_ask 12 = .ok (.ifCond .ne 5, 3) := by decide +kernel
theorem dX11_ask_15 : decode cX11_ask 15 = .ok (.iconst (-1), 1) := by decide +kernel
theorem dX11_ask_16 : decode cX11_ask 16 = .ok (.ireturn, 1) := by decide +kernel
theorem dX11_ask_17 : decode cX11_ask 17 = .ok (.aload_n 0, 1) := by decide +kernel
theorem dX11_ask_18 : decode cX11_ask 18 = .ok (.getfield 86, 3) := by decide +kernel
theorem dX11_ask_21 : decode cX11_ask 21 = .ok (.aload_n 0, 1) := by decide +kernel
theorem dX11_ask_22 : decode cX11_ask 22 = .ok (.getfield 35, 3) := by decide +kernel
theorem dX11_ask_25 : decode cX11_ask 25 = .ok (.iload_n 1, 1) := by decide +kernel
theorem dX11_ask_26 : decode cX11_ask 26 = .ok (.invokevirtual 298, 3) := by decide +kernel
theorem dX11_ask_29 : decode cX11_ask 29 = .ok (.aload_n 0, 1) := by decide +kernel
theorem dX11_ask_30 : decode cX11_ask 30 = .ok (.getfield 86, 3) := by decide +kernel
theorem dX11_ask_33 : decode cX11_ask 33 = .ok (.getfield 301, 3) := by decide +kernel
theorem dX11_ask_36 : decode cX11_ask 36 = .ok (.ifCond .ne 8, 3) := by decide +kernel
theorem dX11_ask_39 : decode cX11_ask 39 = .ok (.bipush (-2), 2) := by decide +kernel
theorem dX11_ask_41 : decode cX11_ask 41 = .ok (.goto 10, 3) := by decide +kernel
theorem dX11_ask_44 : decode cX11_ask 44 = .ok (.aload_n 0, 1) := by decide +kernel
theorem dX11_ask_45 : decode cX11_ask 45 = .ok (.getfield 86, 3) := by decide +kernel
theorem dX11_ask_48 : decode cX11_ask 48 = .ok (.invokevirtual 313, 3) := by decide +kernel
theorem dX11_ask_51 : decode cX11_ask 51 = .ok (.ireturn, 1) := by decide +kernel
theorem dX11_hold_0 : decode cX11_hold 0 = .ok (.aload_n 0, 1) := by decide +kernel
theorem dX11_hold_1 : decode cX11_hold 1 = .ok (.getfield 45, 3) := by decide +kernel
theorem dX11_hold_4 : decode cX11_hold 4 = .ok (.iload_n 1, 1) := by decide +kernel
theorem dX11_hold_5 : decode cX11_hold 5 = .ok (.aload_n 0, 1) := by decide +kernel
theorem dX11_hold_6 : decode cX11_hold 6 = .ok (.getfield 35, 3) := by decide +kernel
theorem dX11_hold_9 : decode cX11_hold 9 = .ok (.invokevirtual 316, 3) := by decide +kernel
theorem dX11_hold_12 : decode cX11_hold 12 = .ok (.ireturn, 1) := by decide +kernel
theorem dX11_restore_0 : decode cX11_restore 0 = .ok (.aload_n 0, 1) := by decide +kernel
theorem dX11_restore_1 : decode cX11_restore 1 = .ok (.getfield 45, 3) := by decide +kernel
theorem dX11_restore_4 : decode cX11_restore 4 = .ok (.iload_n 1, 1) := by decide +kernel
theorem dX11_restore_5 : decode cX11_restore 5 = .ok (.aload_n 0, 1) := by decide +kernel
theorem dX11_restore_6 : decode cX11_restore 6 = .ok (.getfield 35, 3) := by decide +kernel
theorem dX11_restore_9 : decode cX11_restore 9 = .ok (.invokevirtual 320, 3) := by decide +kernel
theorem dX11_restore_12 : decode cX11_restore 12 = .ok (.ifCond .ne 5, 3) := by decide +kernel
theorem dX11_restore_15 : decode cX11_restore 15 = .ok (.iconst 0, 1) := by decide +kernel
theorem dX11_restore_16 : decode cX11_restore 16 = .ok (.ireturn, 1) := by decide +kernel
theorem dX11_restore_17 : decode cX11_restore 17 = .ok (.aload_n 0, 1) := by decide +kernel
theorem dX11_restore_18 : decode cX11_restore 18 = .ok (.getfield 45, 3) := by decide +kernel
theorem dX11_restore_21 : decode cX11_restore 21 = .ok (.invokevirtual 119, 3) := by decide +kernel
theorem dX11_restore_24 : decode cX11_restore 24 = .ok (.iconst 1, 1) := by decide +kernel
theorem dX11_restore_25 : decode cX11_restore 25 = .ok (.ireturn, 1) := by decide +kernel
theorem dX11_sureCoughs_0 : decode cX11_sureCoughs 0 = .ok (.aload_n 0, 1) := by decide +kernel
theorem dX11_sureCoughs_1 : decode cX11_sureCoughs 1 = .ok (.getfield 63, 3) := by decide +kernel
theorem dX11_sureCoughs_4 : decode cX11_sureCoughs 4 = .ok (.aload_n 0, 1) := by decide +kernel
theorem dX11_sureCoughs_5 : decode cX11_sureCoughs 5 = .ok (.getfield 35, 3) := by decide +kernel
theorem dX11_sureCoughs_8 : decode cX11_sureCoughs 8 = .ok (.invokevirtual 210, 3) := by decide +kernel
theorem dX11_sureCoughs_11 : decode cX11_sureCoughs 11 = .ok (.aload_n 0, 1) := by decide +kernel
theorem dX11_sureCoughs_12 : decode cX11_sureCoughs 12 = .ok (.getfield 63, 3) := by decide +kernel
theorem dX11_sureCoughs_15 : decode cX11_sureCoughs 15 = .ok (.getfield 349, 3) := by decide +kernel
theorem dX11_sureCoughs_18 : decode cX11_sureCoughs 18 = .ok (.ireturn, 1) := by decide +kernel
theorem dX11_allQuarters_0 : decode cX11_allQuarters 0 = .ok (.iconst 0, 1) := by decide +kernel
theorem dX11_allQuarters_1 : decode cX11_allQuarters 1 = .ok (.istore_n 1, 1) := by decide +kernel
theorem dX11_allQuarters_2 : decode cX11_allQuarters 2 = .ok (.iconst 0, 1) := by decide +kernel
theorem dX11_allQuarters_3 : decode cX11_allQuarters 3 = .ok (.istore_n 2, 1) := by decide +kernel
theorem dX11_allQuarters_4 : decode cX11_allQuarters 4 = .ok (.iload_n 2, 1) := by decide +kernel
theorem dX11_allQuarters_5 : decode cX11_allQuarters 5 = .ok (.aload_n 0, 1) := by decide +kernel
theorem dX11_allQuarters_6 : decode cX11_allQuarters 6 = .ok (.getfield 28, 3) := by decide +kernel
theorem dX11_allQuarters_9 : decode cX11_allQuarters 9 = .ok (.getfield 241, 3) := by decide +kernel
theorem dX11_allQuarters_12 : decode cX11_allQuarters 12 = .ok (.if_icmp .ge 24, 3) := by decide +kernel
theorem dX11_allQuarters_15 : decode cX11_allQuarters 15 = .ok (.iload_n 1, 1) := by decide +kernel
theorem dX11_allQuarters_16 : decode cX11_allQuarters 16 = .ok (.aload_n 0, 1) := by decide +kernel
theorem dX11_allQuarters_17 : decode cX11_allQuarters 17 = .ok (.getfield 54, 3) := by decide +kernel
theorem dX11_allQuarters_20 : decode cX11_allQuarters 20 = .ok (.aload_n 0, 1) := by decide +kernel
theorem dX11_allQuarters_21 : decode cX11_allQuarters 21 = .ok (.getfield 35, 3) := by decide +kernel
theorem dX11_allQuarters_24 : decode cX11_allQuarters 24 = .ok (.iload_n 2, 1) := by decide +kernel
theorem dX11_allQuarters_25 : decode cX11_allQuarters 25 = .ok (.invokevirtual 138, 3) := by decide +kernel
theorem dX11_allQuarters_28 : decode cX11_allQuarters 28 = .ok (.iadd, 1) := by decide +kernel
theorem dX11_allQuarters_29 : decode cX11_allQuarters 29 = .ok (.istore_n 1, 1) := by decide +kernel
theorem dX11_allQuarters_30 : decode cX11_allQuarters 30 = .ok (.iinc 2 1, 3) := by decide +kernel
theorem dX11_allQuarters_33 : decode cX11_allQuarters 33 = .ok (.goto (-29), 3) := by decide +kernel
theorem dX11_allQuarters_36 : decode cX11_allQuarters 36 = .ok (.iload_n 1, 1) := by decide +kernel
theorem dX11_allQuarters_37 : decode cX11_allQuarters 37 = .ok (.ireturn, 1) := by decide +kernel
theorem dX11_familiesWithoutLease_0 : decode cX11_familiesWithoutLease 0 = .ok (.iconst 0, 1) := by decide +kernel
theorem dX11_familiesWithoutLease_1 : decode cX11_familiesWithoutLease 1 = .ok (.istore_n 1, 1) := by decide +kernel
theorem dX11_familiesWithoutLease_2 : decode cX11_familiesWithoutLease 2 = .ok (.iconst 0, 1) := by decide +kernel
theorem dX11_familiesWithoutLease_3 : decode cX11_familiesWithoutLease 3 = .ok (.istore_n 2, 1) := by decide +kernel
theorem dX11_familiesWithoutLease_4 : decode cX11_familiesWithoutLease 4 = .ok (.iload_n 2, 1) := by decide +kernel
theorem dX11_familiesWithoutLease_5 : decode cX11_familiesWithoutLease 5 = .ok (.aload_n 0, 1) := by decide +kernel
theorem dX11_familiesWithoutLease_6 : decode cX11_familiesWithoutLease 6 = .ok (.getfield 28, 3) := by decide +kernel
theorem dX11_familiesWithoutLease_9 : decode cX11_familiesWithoutLease 9 = .ok (.getfield 282, 3) := by decide +kernel
theorem dX11_familiesWithoutLease_12 : decode cX11_familiesWithoutLease 12 = .ok (.if_icmp .ge 26, 3) := by decide +kernel
theorem dX11_familiesWithoutLease_15 : decode cX11_familiesWithoutLease 15 = .ok (.aload_n 0, 1) := by decide +kernel
theorem dX11_familiesWithoutLease_16 : decode cX11_familiesWithoutLease 16 = .ok (.getfield 35, 3) := by decide +kernel
theorem dX11_familiesWithoutLease_19 : decode cX11_familiesWithoutLease 19 = .ok (.iload_n 2, 1) := by decide +kernel
theorem dX11_familiesWithoutLease_20 : decode cX11_familiesWithoutLease 20 = .ok (.invokevirtual 159, 3) := by decide +kernel
theorem dX11_familiesWithoutLease_23 : decode cX11_familiesWithoutLease 23 = .ok (.ifCond .ne 9, 3) := by decide +kernel
theorem dX11_familiesWithoutLease_26 : decode cX11_familiesWithoutLease 26 = .ok (.iload_n 1, 1) := by decide +kernel
theorem dX11_familiesWithoutLease_27 : decode cX11_familiesWithoutLease 27 = .ok (.iconst 1, 1) := by decide +kernel
theorem dX11_familiesWithoutLease_28 : decode cX11_familiesWithoutLease 28 = .ok (.iload_n 2, 1) := by decide +kernel
theorem dX11_familiesWithoutLease_29 : decode cX11_familiesWithoutLease 29 = .ok (.ishl, 1) := by decide +kernel
theorem dX11_familiesWithoutLease_30 : decode cX11_familiesWithoutLease 30 = .ok (.ior, 1) := by decide +kernel
theorem dX11_familiesWithoutLease_31 : decode cX11_familiesWithoutLease 31 = .ok (.istore_n 1, 1) := by decide +kernel
theorem dX11_familiesWithoutLease_32 : decode cX11_familiesWithoutLease 32 = .ok (.iinc 2 1, 3) := by decide +kernel
theorem dX11_familiesWithoutLease_35 : decode cX11_familiesWithoutLease 35 = .ok (.goto (-31), 3) := by decide +kernel
theorem dX11_familiesWithoutLease_38 : decode cX11_familiesWithoutLease 38 = .ok (.iload_n 1, 1) := by decide +kernel
theorem dX11_familiesWithoutLease_39 : decode cX11_familiesWithoutLease 39 = .ok (.ireturn, 1) := by decide +kernel
theorem dX11_allZeal_0 : decode cX11_allZeal 0 = .ok (.iconst 0, 1) := by decide +kernel
theorem dX11_allZeal_1 : decode cX11_allZeal 1 = .ok (.istore_n 1, 1) := by decide +kernel
theorem dX11_allZeal_2 : decode cX11_allZeal 2 = .ok (.iconst 0, 1) := by decide +kernel
theorem dX11_allZeal_3 : decode cX11_allZeal 3 = .ok (.istore_n 2, 1) := by decide +kernel
theorem dX11_allZeal_4 : decode cX11_allZeal 4 = .ok (.iload_n 2, 1) := by decide +kernel
theorem dX11_allZeal_5 : decode cX11_allZeal 5 = .ok (.aload_n 0, 1) := by decide +kernel
theorem dX11_allZeal_6 : decode cX11_allZeal 6 = .ok (.getfield 28, 3) := by decide +kernel
theorem dX11_allZeal_9 : decode cX11_allZeal 9 = .ok (.getfield 282, 3) := by decide +kernel
theorem dX11_allZeal_12 : decode cX11_allZeal 12 = .ok (.if_icmp .ge 21, 3) := by decide +kernel
theorem dX11_allZeal_15 : decode cX11_allZeal 15 = .ok (.iload_n 1, 1) := by decide +kernel
theorem dX11_allZeal_16 : decode cX11_allZeal 16 = .ok (.aload_n 0, 1) := by decide +kernel
theorem dX11_allZeal_17 : decode cX11_allZeal 17 = .ok (.getfield 28, 3) := by decide +kernel
theorem dX11_allZeal_20 : decode cX11_allZeal 20 = .ok (.getfield 152, 3) := by decide +kernel
theorem dX11_allZeal_23 : decode cX11_allZeal 23 = .ok (.iload_n 2, 1) := by decide +kernel
theorem dX11_allZeal_24 : decode cX11_allZeal 24 = .ok (.iaload, 1) := by decide +kernel
theorem dX11_allZeal_25 : decode cX11_allZeal 25 = .ok (.iadd, 1) := by decide +kernel
theorem dX11_allZeal_26 : decode cX11_allZeal 26 = .ok (.istore_n 1, 1) := by decide +kernel
theorem dX11_allZeal_27 : decode cX11_allZeal 27 = .ok (.iinc 2 1, 3) := by decide +kernel
theorem dX11_allZeal_30 : decode cX11_allZeal 30 = .ok (.goto (-26), 3) := by decide +kernel
theorem dX11_allZeal_33 : decode cX11_allZeal 33 = .ok (.iload_n 1, 1) := by decide +kernel
theorem dX11_allZeal_34 : decode cX11_allZeal 34 = .ok (.ireturn, 1) := by decide +kernel
theorem dX11_count_0 : decode cX11_count 0 = .ok (.iload_n 1, 1) := by decide +kernel
theorem dX11_count_1 : decode cX11_count 1 = .ok (.tableswitch 284 0 20 #[99, 107, 115, 126, 137, 148, 159, 170, 182, 190, 198, 206, 214, 230, 238, 246, 251, 264, 269, 274, 279], 99) := by decide +kernel
theorem dX11_count_100 : decode cX11_count 100 = .ok (.aload_n 0, 1) := by decide +kernel
theorem dX11_count_101 : decode cX11_count 101 = .ok (.getfield 28, 3) := by decide +kernel
theorem dX11_count_104 : decode cX11_count 104 = .ok (.getfield 241, 3) := by decide +kernel
theorem dX11_count_107 : decode cX11_count 107 = .ok (.ireturn, 1) := by decide +kernel
theorem dX11_count_108 : decode cX11_count 108 = .ok (.aload_n 0, 1) := by decide +kernel
theorem dX11_count_109 : decode cX11_count 109 = .ok (.getfield 28, 3) := by decide +kernel
theorem dX11_count_112 : decode cX11_count 112 = .ok (.getfield 282, 3) := by decide +kernel
theorem dX11_count_115 : decode cX11_count 115 = .ok (.ireturn, 1) := by decide +kernel
theorem dX11_count_116 : decode cX11_count 116 = .ok (.aload_n 0, 1) := by decide +kernel
theorem dX11_count_117 : decode cX11_count 117 = .ok (.getfield 35, 3) := by decide +kernel
theorem dX11_count_120 : decode cX11_count 120 = .ok (.getfield 203, 3) := by decide +kernel
theorem dX11_count_123 : decode cX11_count 123 = .ok (.bipush 30, 2) := by decide +kernel
theorem dX11_count_125 : decode cX11_count 125 = .ok (.iaload, 1) := by decide +kernel
theorem dX11_count_126 : decode cX11_count 126 = .ok (.ireturn, 1) := by decide +kernel
theorem dX11_count_127 : decode cX11_count 127 = .ok (.aload_n 0, 1) := by decide +kernel
theorem dX11_count_128 : decode cX11_count 128 = .ok (.getfield 35, 3) := by decide +kernel
theorem dX11_count_131 : decode cX11_count 131 = .ok (.getfield 203, 3) := by decide +kernel
theorem dX11_count_134 : decode cX11_count 134 = .ok (.bipush 28, 2) := by decide +kernel
theorem dX11_count_136 : decode cX11_count 136 = .ok (.iaload, 1) := by decide +kernel
theorem dX11_count_137 : decode cX11_count 137 = .ok (.ireturn, 1) := by decide +kernel
theorem dX11_count_138 : decode cX11_count 138 = .ok (.aload_n 0, 1) := by decide +kernel
theorem dX11_count_139 : decode cX11_count 139 = .ok (.getfield 35, 3) := by decide +kernel
theorem dX11_count_142 : decode cX11_count 142 = .ok (.getfield 203, 3) := by decide +kernel
theorem dX11_count_145 : decode cX11_count 145 = .ok (.bipush 29, 2) := by decide +kernel
theorem dX11_count_147 : decode cX11_count 147 = .ok (.iaload, 1) := by decide +kernel
theorem dX11_count_148 : decode cX11_count 148 = .ok (.ireturn, 1) := by decide +kernel
theorem dX11_count_149 : decode cX11_count 149 = .ok (.aload_n 0, 1) := by decide +kernel
theorem dX11_count_150 : decode cX11_count 150 = .ok (.getfield 35, 3) := by decide +kernel
theorem dX11_count_153 : decode cX11_count 153 = .ok (.getfield 203, 3) := by decide +kernel
theorem dX11_count_156 : decode cX11_count 156 = .ok (.bipush 31, 2) := by decide +kernel
theorem dX11_count_158 : decode cX11_count 158 = .ok (.iaload, 1) := by decide +kernel
theorem dX11_count_159 : decode cX11_count 159 = .ok (.ireturn, 1) := by decide +kernel
theorem dX11_count_160 : decode cX11_count 160 = .ok (.aload_n 0, 1) := by decide +kernel
theorem dX11_count_161 : decode cX11_count 161 = .ok (.getfield 35, 3) := by decide +kernel
theorem dX11_count_164 : decode cX11_count 164 = .ok (.getfield 203, 3) := by decide +kernel
theorem dX11_count_167 : decode cX11_count 167 = .ok (.bipush 32, 2) := by decide +kernel
theorem dX11_count_169 : decode cX11_count 169 = .ok (.iaload, 1) := by decide +kernel
theorem dX11_count_170 : decode cX11_count 170 = .ok (.ireturn, 1) := by decide +kernel
theorem dX11_count_171 : decode cX11_count 171 = .ok (.iconst 1, 1) := by decide +kernel
theorem dX11_count_172 : decode cX11_count 172 = .ok (.iconst 2, 1) := by decide +kernel
theorem dX11_count_173 : decode cX11_count 173 = .ok (.aload_n 0, 1) := by decide +kernel
theorem dX11_count_174 : decode cX11_count 174 = .ok (.getfield 28, 3) := by decide +kernel
theorem dX11_count_177 : decode cX11_count 177 = .ok (.getfield 241, 3) := by decide +kernel
theorem dX11_count_180 : decode cX11_count 180 = .ok (.imul, 1) := by decide +kernel
theorem dX11_count_181 : decode cX11_count 181 = .ok (.ishl, 1) := by decide +kernel
theorem dX11_count_182 : decode cX11_count 182 = .ok (.ireturn, 1) := by decide +kernel
theorem dX11_count_183 : decode cX11_count 183 = .ok (.aload_n 0, 1) := by decide +kernel
theorem dX11_count_184 : decode cX11_count 184 = .ok (.getfield 12, 3) := by decide +kernel
theorem dX11_count_187 : decode cX11_count 187 = .ok (.getfield 101, 3) := by decide +kernel
theorem dX11_count_190 : decode cX11_count 190 = .ok (.ireturn, 1) := by decide +kernel
theorem dX11_count_191 : decode cX11_count 191 = .ok (.aload_n 0, 1) := by decide +kernel
theorem dX11_count_192 : decode cX11_count 192 = .ok (.getfield 45, 3) := by decide +kernel
theorem dX11_count_195 : decode cX11_count 195 = .ok (.getfield 323, 3) := by decide +kernel
theorem dX11_count_198 : decode cX11_count 198 = .ok (.ireturn, 1) := by decide +kernel
theorem dX11_count_199 : decode cX11_count 199 = .ok (.aload_n 0, 1) := by decide +kernel
theorem dX11_count_200 : decode cX11_count 200 = .ok (.getfield 86, 3) := by decide +kernel
theorem dX11_count_203 : decode cX11_count 203 = .ok (.getfield 125, 3) := by decide +kernel
theorem dX11_count_206 : decode cX11_count 206 = .ok (.ireturn, 1) := by decide +kernel
theorem dX11_count_207 : decode cX11_count 207 = .ok (.aload_n 0, 1) := by decide +kernel
theorem dX11_count_208 : decode cX11_count 208 = .ok (.getfield 45, 3) := by decide +kernel
theorem dX11_count_211 : decode cX11_count 211 = .ok (.invokevirtual 326, 3) := by decide +kernel
theorem dX11_count_214 : decode cX11_count 214 = .ok (.ireturn, 1) := by decide +kernel
theorem dX11_count_215 : decode cX11_count 215 = .ok (.sipush 255, 3) := by decide +kernel
theorem dX11_count_218 : decode cX11_count 218 = .ok (.aload_n 0, 1) := by decide +kernel
theorem dX11_count_219 : decode cX11_count 219 = .ok (.getfield 35, 3) := by decide +kernel
theorem dX11_count_222 : decode cX11_count 222 = .ok (.bipush (-2), 2) := by decide +kernel
theorem dX11_count_224 : decode cX11_count 224 = .ok (.invokevirtual 159, 3) := by decide +kernel
theorem dX11_count_227 : decode cX11_count 227 = .ok (.iconst (-1), 1) := by decide +kernel
theorem dX11_count_228 : decode cX11_count 228 = .ok (.ixor, 1) := by decide +kernel
theorem dX11_count_229 : decode cX11_count 229 = .ok (.iand, 1) := by decide +kernel
theorem dX11_count_230 : decode cX11_count 230 = .ok (.ireturn, 1) := by decide +kernel
theorem dX11_count_231 : decode cX11_count 231 = .ok (.aload_n 0, 1) := by decide +kernel
theorem dX11_count_232 : decode cX11_count 232 = .ok (.getfield 35, 3) := by decide +kernel
theorem dX11_count_235 : decode cX11_count 235 = .ok (.invokevirtual 329, 3) := by decide +kernel
theorem dX11_count_238 : decode cX11_count 238 = .ok (.ireturn, 1) := by decide +kernel
theorem dX11_count_239 : decode cX11_count 239 = .ok (.aload_n 0, 1) := by decide +kernel
theorem dX11_count_240 : decode cX11_count 240 = .ok (.getfield 35, 3) := by decide +kernel
theorem dX11_count_243 : decode cX11_count 243 = .ok (.invokevirtual 332, 3) := by decide +kernel
theorem dX11_count_246 : decode cX11_count 246 = .ok (.ireturn, 1) := by decide +kernel
theorem dX11_count_247 : decode cX11_count 247 = .ok (.aload_n 0, 1) := by decide +kernel
theorem dX11_count_248 : decode cX11_count 248 = .ok (.invokevirtual 258, 3) := by decide +kernel
theorem dX11_count_251 : decode cX11_count 251 = .ok (.ireturn, 1) := by decide +kernel
theorem dX11_count_252 : decode cX11_count 252 = .ok (.aload_n 0, 1) := by decide +kernel
theorem dX11_count_253 : decode cX11_count 253 = .ok (.getfield 35, 3) := by decide +kernel
theorem dX11_count_256 : decode cX11_count 256 = .ok (.bipush (-2), 2) := by decide +kernel
theorem dX11_count_258 : decode cX11_count 258 = .ok (.invokevirtual 159, 3) := by decide +kernel
theorem dX11_count_261 : decode cX11_count 261 = .ok (.invokestatic 264, 3) := by decide +kernel
theorem dX11_count_264 : decode cX11_count 264 = .ok (.ireturn, 1) := by decide +kernel
theorem dX11_count_265 : decode cX11_count 265 = .ok (.aload_n 0, 1) := by decide +kernel
theorem dX11_count_266 : decode cX11_count 266 = .ok (.invokevirtual 335, 3) := by decide +kernel
theorem dX11_count_269 : decode cX11_count 269 = .ok (.ireturn, 1) := by decide +kernel
theorem dX11_count_270 : decode cX11_count 270 = .ok (.aload_n 0, 1) := by decide +kernel
theorem dX11_count_271 : decode cX11_count 271 = .ok (.invokevirtual 338, 3) := by decide +kernel
theorem dX11_count_274 : decode cX11_count 274 = .ok (.ireturn, 1) := by decide +kernel
theorem dX11_count_275 : decode cX11_count 275 = .ok (.aload_n 0, 1) := by decide +kernel
theorem dX11_count_276 : decode cX11_count 276 = .ok (.invokevirtual 341, 3) := by decide +kernel
theorem dX11_count_279 : decode cX11_count 279 = .ok (.ireturn, 1) := by decide +kernel
theorem dX11_count_280 : decode cX11_count 280 = .ok (.aload_n 0, 1) := by decide +kernel
theorem dX11_count_281 : decode cX11_count 281 = .ok (.invokevirtual 344, 3) := by decide +kernel
theorem dX11_count_284 : decode cX11_count 284 = .ok (.ireturn, 1) := by decide +kernel
theorem dX11_count_285 : decode cX11_count 285 = .ok (.iconst (-1), 1) := by decide +kernel
theorem dX11_count_286 : decode cX11_count 286 = .ok (.ireturn, 1) := by decide +kernel
theorem fl_X11_125 : fl RX11 125 10 6 := ⟨RX10, TX10, 11, rfl, iw_X10, by decide, lg_at 360 (by decide +kernel) (by decide +kernel), rfl⟩
theorem fl_X11_301 : fl RX11 301 10 7 := ⟨RX10, TX10, 11, rfl, iw_X10, by decide, lg_at 362 (by decide +kernel) (by decide +kernel), rfl⟩
theorem fl_X11_304 : fl RX11 304 10 8 := ⟨RX10, TX10, 11, rfl, iw_X10, by decide, lg_at 364 (by decide +kernel) (by decide +kernel), rfl⟩
theorem fl_X11_307 : fl RX11 307 10 9 := ⟨RX10, TX10, 11, rfl, iw_X10, by decide, lg_at 366 (by decide +kernel) (by decide +kernel), rfl⟩
theorem fl_X11_310 : fl RX11 310 10 10 := ⟨RX10, TX10, 11, rfl, iw_X10, by decide, lg_at 368 (by decide +kernel) (by decide +kernel), rfl⟩
theorem fl_X11_323 : fl RX11 323 3 4 := ⟨RX3, TX3, 5, rfl, iw_X3, by decide, lg_at 250 (by decide +kernel) (by decide +kernel), rfl⟩
theorem fl_X11_349 : fl RX11 349 0 7 := ⟨RX0, TX0, 9, rfl, iw_X0, by decide, lg_at 295 (by decide +kernel) (by decide +kernel), rfl⟩
theorem cV_X11_288 : cV RX11 288 yX11_tryWeeks cX11_tryWeeks 3 none 2 := ⟨⟨lg_at 1054 (by decide +kernel) (by decide +kernel), lg_at 1056 (by decide +kernel) (by decide +kernel), lg_sel 39 (by decide +kernel) (by decide +kernel), lg_at 1 (by decide +kernel) (by decide +kernel), lg_at 1057 (by decide +kernel) (by decide +kernel)⟩, by decide +kernel, by decide +kernel, by decide +kernel⟩
theorem cV_X11_291 : cV RX11 291 yX7_profitOf cX7_profitOf 2 (some .int) 1 := ⟨⟨lg_at 1058 (by decide +kernel) (by decide +kernel), lg_at 1059 (by decide +kernel) (by decide +kernel), lg_at 1060 (by decide +kernel) (by decide +kernel), lg_at 7 (by decide +kernel) (by decide +kernel), lg_at 1061 (by decide +kernel) (by decide +kernel)⟩, by decide +kernel, by decide +kernel, by decide +kernel⟩
theorem cV_X11_294 : cV RX11 294 yX10_add cX10_add 4 (some .int) 3 := ⟨⟨lg_at 1076 (by decide +kernel) (by decide +kernel), lg_at 1077 (by decide +kernel) (by decide +kernel), lg_at 1078 (by decide +kernel) (by decide +kernel), lg_at 13 (by decide +kernel) (by decide +kernel), lg_at 1079 (by decide +kernel) (by decide +kernel)⟩, by decide +kernel, by decide +kernel, by decide +kernel⟩
theorem cV_X11_298 : cV RX11 298 yX10_sift cX10_sift 7 none 2 := ⟨⟨lg_at 1088 (by decide +kernel) (by decide +kernel), lg_at 1089 (by decide +kernel) (by decide +kernel), lg_at 1090 (by decide +kernel) (by decide +kernel), lg_at 13 (by decide +kernel) (by decide +kernel), lg_at 1091 (by decide +kernel) (by decide +kernel)⟩, by decide +kernel, by decide +kernel, by decide +kernel⟩
theorem cV_X11_313 : cV RX11 313 yX10_bestQuestion cX10_bestQuestion 5 (some .int) 0 := ⟨⟨lg_at 1108 (by decide +kernel) (by decide +kernel), lg_at 1109 (by decide +kernel) (by decide +kernel), lg_at 1110 (by decide +kernel) (by decide +kernel), lg_at 13 (by decide +kernel) (by decide +kernel), lg_at 1111 (by decide +kernel) (by decide +kernel)⟩, by decide +kernel, by decide +kernel, by decide +kernel⟩
theorem cV_X11_316 : cV RX11 316 yX3_putInSlot cX3_putInSlot 3 (some .boolean) 2 := ⟨⟨lg_at 1117 (by decide +kernel) (by decide +kernel), lg_at 1118 (by decide +kernel) (by decide +kernel), lg_at 1119 (by decide +kernel) (by decide +kernel), lg_at 8 (by decide +kernel) (by decide +kernel), lg_at 1120 (by decide +kernel) (by decide +kernel)⟩, by decide +kernel, by decide +kernel, by decide +kernel⟩
theorem cV_X11_320 : cV RX11 320 yX3_getFromSlot cX3_getFromSlot 3 (some .boolean) 2 := ⟨⟨lg_at 1126 (by decide +kernel) (by decide +kernel), lg_at 1127 (by decide +kernel) (by decide +kernel), lg_at 1128 (by decide +kernel) (by decide +kernel), lg_at 8 (by decide +kernel) (by decide +kernel), lg_at 1129 (by decide +kernel) (by decide +kernel)⟩, by decide +kernel, by decide +kernel, by decide +kernel⟩
theorem cV_X11_326 : cV RX11 326 yX3_slotsHeld cX3_slotsHeld 3 (some .int) 0 := ⟨⟨lg_at 1134 (by decide +kernel) (by decide +kernel), lg_at 1135 (by decide +kernel) (by decide +kernel), lg_at 1136 (by decide +kernel) (by decide +kernel), lg_at 8 (by decide +kernel) (by decide +kernel), lg_at 1137 (by decide +kernel) (by decide +kernel)⟩, by decide +kernel, by decide +kernel, by decide +kernel⟩
theorem cV_X11_329 : cV RX11 329 yX7_gainedByAll cX7_gainedByAll 1 (some .int) 0 := ⟨⟨lg_at 1138 (by decide +kernel) (by decide +kernel), lg_at 1139 (by decide +kernel) (by decide +kernel), lg_at 1140 (by decide +kernel) (by decide +kernel), lg_at 7 (by decide +kernel) (by decide +kernel), lg_at 1141 (by decide +kernel) (by decide +kernel)⟩, by decide +kernel, by decide +kernel, by decide +kernel⟩
theorem cV_X11_332 : cV RX11 332 yX7_paidByAll cX7_paidByAll 1 (some .int) 0 := ⟨⟨lg_at 1146 (by decide +kernel) (by decide +kernel), lg_at 1147 (by decide +kernel) (by decide +kernel), lg_at 1148 (by decide +kernel) (by decide +kernel), lg_at 7 (by decide +kernel) (by decide +kernel), lg_at 1149 (by decide +kernel) (by decide +kernel)⟩, by decide +kernel, by decide +kernel, by decide +kernel⟩
theorem cV_X11_335 : cV RX11 335 yX11_sureCoughs cX11_sureCoughs 1 (some .int) 0 := ⟨⟨lg_at 1150 (by decide +kernel) (by decide +kernel), lg_at 1152 (by decide +kernel) (by decide +kernel), lg_sel 43 (by decide +kernel) (by decide +kernel), lg_at 1 (by decide +kernel) (by decide +kernel), lg_at 1153 (by decide +kernel) (by decide +kernel)⟩, by decide +kernel, by decide +kernel, by decide +kernel⟩
theorem cV_X11_338 : cV RX11 338 yX11_allQuarters cX11_allQuarters 3 (some .int) 0 := ⟨⟨lg_at 1154 (by decide +kernel) (by decide +kernel), lg_at 1156 (by decide +kernel) (by decide +kernel), lg_sel 44 (by decide +kernel) (by decide +kernel), lg_at 1 (by decide +kernel) (by decide +kernel), lg_at 1157 (by decide +kernel) (by decide +kernel)⟩, by decide +kernel, by decide +kernel, by decide +kernel⟩
theorem cV_X11_341 : cV RX11 341 yX11_familiesWithoutLease cX11_familiesWithoutLease 3 (some .int) 0 := ⟨⟨lg_at 1158 (by decide +kernel) (by decide +kernel), lg_at 1160 (by decide +kernel) (by decide +kernel), lg_sel 45 (by decide +kernel) (by decide +kernel), lg_at 1 (by decide +kernel) (by decide +kernel), lg_at 1161 (by decide +kernel) (by decide +kernel)⟩, by decide +kernel, by decide +kernel, by decide +kernel⟩
theorem cV_X11_344 : cV RX11 344 yX11_allZeal cX11_allZeal 3 (some .int) 0 := ⟨⟨lg_at 1162 (by decide +kernel) (by decide +kernel), lg_at 1164 (by decide +kernel) (by decide +kernel), lg_sel 46 (by decide +kernel) (by decide +kernel), lg_at 1 (by decide +kernel) (by decide +kernel), lg_at 1165 (by decide +kernel) (by decide +kernel)⟩, by decide +kernel, by decide +kernel, by decide +kernel⟩
section
variable {p : Program} {l : Launch} {e : Env} {s : State} {m : MethodId} {args : Array Value} {below : List Frame} {meth : Method} {c : Code} {D : va_G} {ad : Nat → Nat} {κ : KC}
-- X11_richest
def FX11_richest_31  : Nat → Int32 → Int32 → Int32 → Int32 → HS → Option (Int32 × HS)
  | 0, _, _, _, _, _ => none
  | f + 1, x1, x2, x3, x4, σ => if (σ.1 3 1) ≤ x4 then if x1 = 0 then some (x2, σ) else some (x3, σ) else bdI (FX0_haveOf 4 x4 σ) fun r_3 σ_4 => if r_3 ≤ x3 then FX11_richest_31  f x1 x2 x3 (x4 + 1) σ_4 else FX11_richest_31  f x1 x4 r_3 (x4 + 1) σ_4
def FX11_richest (x1 : Int32) (σ : HS) : Option (Int32 × HS) :=
  bdI (FX11_within x1 (0 : Int32) (1 : Int32) σ) fun r_7 σ_8 => if r_7 = 0 then some ((-1 : Int32), σ_8) else bdV (FX0_weigh 4 σ_8) fun σ_11 => FX11_richest_31 fu x1 (-2 : Int32) (-2 : Int32) (0 : Int32) σ_11
set_option maxHeartbeats 4000000 in
set_option maxRecDepth 100000 in
theorem wX11_richest_31 (C : Cx 50 D ad κ p s m args meth c cX11_richest RX11 6 (some .int)) {R : (Int32 × HS)} : ∀ (f : Nat) (x1 : Int32) (x2 : Int32) (x3 : Int32) (x4 : Int32) (σ : HS) (H : Heap) (locs : List Loc) (ls : Array Slot), FX11_richest_31  f x1 x2 x3 x4 σ = some R → Hd 50 ceX D ad κ s σ H locs → lv_has ls 6 [(0, .ref (ad 0)), (1, .int x1), (2, .int x2), (3, .int x3), (4, .int x4)] → W p l e ({ frames := 4, cells := 0, slots := 0, locals := 101 } : Room) s m args below meth c H locs 0 0 (MQ below (QI 50 ceX D ad κ R) args s 0 0 (AX 50 ad)) (F0 m 31 ls []) := by
  have hx := C.1
  have hb := C.2.1
  have hown := C.2.2.2.1
  have hts := C.2.2.2.2.1
  intro f
  induction f with
  | zero =>
    intro x1 x2 x3 x4 σ H locs ls h hH hl
    cases h
  | succ f ih =>
    intro x1 x2 x3 x4 σ H locs ls h hH hl
    rw [FX11_richest_31] at h
    refine lv_iload hx hb dX11_richest_31 (lv_at hl 4 rfl) ?_
    refine lv_aload_n hx hb dX11_richest_33 rfl (lv_at hl 0 rfl) ?_
    refine g_get C hH 0 (Nat.le_of_ble_eq_true rfl) rfl fl_X11_28 (v := .ref (ad 3)) rfl dX11_richest_34 ?_
    refine g_get C hH 3 (Nat.le_of_ble_eq_true rfl) rfl fl_X11_282 (v := .int (σ.1 3 1)) rfl dX11_richest_37 ?_
    refine lv_icmp_ge (tgt := 76) hx hb dX11_richest_40 (by decide) (fun hq_1 => ?_) (fun hq_1 => ?_)
    · rw [if_pos hq_1] at h
      refine lv_iload_n hx hb dX11_richest_76 rfl (lv_at hl 1 rfl) ?_
      refine lv_if_ne (tgt := 84) hx hb dX11_richest_77 (by decide) (fun hq_2 => ?_) (fun hq_2 => ?_)
      · rw [if_neg hq_2] at h
        refine lv_iload_n hx hb dX11_richest_84 rfl (lv_at hl 3 rfl) ?_
        exact g_ret C hH h dX11_richest_85
      · rw [if_pos hq_2] at h
        refine lv_iload_n hx hb dX11_richest_80 rfl (lv_at hl 2 rfl) ?_
        refine lv_goto (tgt := 85) hx hb dX11_richest_81 (by decide) ?_
        exact g_ret C hH h dX11_richest_85
    · rw [if_neg hq_1] at h
      refine lv_aload_n hx hb dX11_richest_43 rfl (lv_at hl 0 rfl) ?_
      refine g_get C hH 0 (Nat.le_of_ble_eq_true rfl) rfl fl_X11_63 (v := .ref (ad 8)) rfl dX11_richest_44 ?_
      refine lv_aload_n hx hb dX11_richest_47 rfl (lv_at hl 0 rfl) ?_
      refine g_get C hH 0 (Nat.le_of_ble_eq_true rfl) rfl fl_X11_35 (v := .ref (ad 4)) rfl dX11_richest_48 ?_
      refine lv_iload hx hb dX11_richest_51 (lv_at hl 4 rfl) ?_
      obtain ⟨r_3, σ_4, hc_5, h⟩ := bdI_ex h
      refine g_ci (g_runV (rest := []) C hH hl.1 cV_X11_285 8 (Nat.le_of_ble_eq_true rfl) rfl rfl (kX0_haveOf l D ad κ st_4 hc_5) ⟨rfl, rfl⟩ ⟨(Nat.le_of_ble_eq_true rfl), (Nat.le_of_ble_eq_true rfl)⟩ rfl rfl (Nat.le_of_ble_eq_true rfl) dX11_richest_53 z00) hH (fun H locs hH => ?_)
      refine lv_istore (lv' := [(5, .int r_3), (0, .ref (ad 0)), (1, .int x1), (2, .int x2), (3, .int x3), (4, .int x4)]) hx hb dX11_richest_56 hl (by decide) rfl (fun ls hl => ?_)
      refine lv_iload hx hb dX11_richest_58 (lv_at hl 0 rfl) ?_
      refine lv_iload_n hx hb dX11_richest_60 rfl (lv_at hl 4 rfl) ?_
      refine lv_icmp_le (tgt := 70) hx hb dX11_richest_61 (by decide) (fun hq_6 => ?_) (fun hq_6 => ?_)
      · rw [if_pos hq_6] at h
        refine lv_iinc (v := (x4 + 1)) (lv' := [(4, .int (x4 + 1)), (5, .int r_3), (0, .ref (ad 0)), (1, .int x1), (2, .int x2), (3, .int x3)]) hx hb dX11_richest_70 hl (k := 5) rfl rfl (by decide) rfl (fun ls hl => ?_)
        refine lv_goto (tgt := 31) hx hb dX11_richest_73 (by decide) ?_
        exact ih _ _ _ _ _ _ _ _ h hH (lv_sub hl [2, 3, 4, 5, 0] rfl)
      · rw [if_neg hq_6] at h
        refine lv_iload hx hb dX11_richest_64 (lv_at hl 5 rfl) ?_
        refine lv_istore_n (lv' := [(2, .int x4), (5, .int r_3), (0, .ref (ad 0)), (1, .int x1), (3, .int x3), (4, .int x4)]) hx hb dX11_richest_66 rfl hl (by decide) rfl (fun ls hl => ?_)
        refine lv_iload hx hb dX11_richest_67 (lv_at hl 1 rfl) ?_
        refine lv_istore_n (lv' := [(3, .int r_3), (2, .int x4), (5, .int r_3), (0, .ref (ad 0)), (1, .int x1), (4, .int x4)]) hx hb dX11_richest_69 rfl hl (by decide) rfl (fun ls hl => ?_)
        refine lv_iinc (v := (x4 + 1)) (lv' := [(4, .int (x4 + 1)), (3, .int r_3), (2, .int x4), (5, .int r_3), (0, .ref (ad 0)), (1, .int x1)]) hx hb dX11_richest_70 hl (k := 5) rfl rfl (by decide) rfl (fun ls hl => ?_)
        refine lv_goto (tgt := 31) hx hb dX11_richest_73 (by decide) ?_
        exact ih _ _ _ _ _ _ _ _ h hH (lv_sub hl [4, 5, 2, 1, 0] rfl)
set_option maxHeartbeats 4000000 in
set_option maxRecDepth 100000 in
theorem kX11_richest (l : Launch) (D : va_G) (ad : Nat → Nat) (κ : KC) {x1 : Int32} {σ : HS} {R : (Int32 × HS)} (h : FX11_richest x1 σ = some R) : MtI l 50 ceX D ad κ yX11_richest cX11_richest 6 (some .int) ({ frames := 4, cells := 0, slots := 0, locals := 101 } : Room) [.ref (ad 0), .int x1] σ R := by
  refine open_ (by decide) (Nat.le_of_ble_eq_true rfl) (la := [(0, .ref (ad 0)), (1, .int x1)]) rfl ?_
  intro p e s m below meth c ls C hH hl
  replace C : Cx 50 D ad κ p s m _ meth c cX11_richest RX11 6 (some .int) := C
  have hx := C.1
  have hb := C.2.1
  have hown := C.2.2.2.1
  have hts := C.2.2.2.2.1
  rw [FX11_richest] at h
  refine lv_iload_n hx hb dX11_richest_0 rfl (lv_at hl 1 rfl) ?_
  refine lv_iconst (v := 0) hx hb dX11_richest_1 (by decide) ?_
  refine lv_iconst (v := 1) hx hb dX11_richest_2 (by decide) ?_
  obtain ⟨r_7, σ_8, hc_9, h⟩ := bdI_ex h
  refine g_ci (g_runS (rest := []) C hH hl.1 cS_X11_105 (kX11_within l D ad κ hc_9) ⟨rfl, rfl⟩ ⟨(Nat.le_of_ble_eq_true rfl), (Nat.le_of_ble_eq_true rfl)⟩ rfl rfl (Nat.le_of_ble_eq_true rfl) dX11_richest_3 z00) hH (fun H locs hH => ?_)
  refine lv_if_ne (tgt := 11) hx hb dX11_richest_6 (by decide) (fun hq_10 => ?_) (fun hq_10 => ?_)
  · rw [if_neg hq_10] at h
    refine lv_aload_n hx hb dX11_richest_11 rfl (lv_at hl 0 rfl) ?_
    refine g_get C hH 0 (Nat.le_of_ble_eq_true rfl) rfl fl_X11_63 (v := .ref (ad 8)) rfl dX11_richest_12 ?_
    refine lv_aload_n hx hb dX11_richest_15 rfl (lv_at hl 0 rfl) ?_
    refine g_get C hH 0 (Nat.le_of_ble_eq_true rfl) rfl fl_X11_35 (v := .ref (ad 4)) rfl dX11_richest_16 ?_
    obtain ⟨σ_11, hc_12, h⟩ := bdV_ex h
    refine g_cv (g_runV (rest := []) C hH hl.1 cV_X11_210 8 (Nat.le_of_ble_eq_true rfl) rfl rfl (kX0_weigh l D ad κ st_4 hc_12) ⟨rfl, rfl⟩ ⟨(Nat.le_of_ble_eq_true rfl), (Nat.le_of_ble_eq_true rfl)⟩ rfl rfl (Nat.le_of_ble_eq_true rfl) dX11_richest_19 z00) hH (fun H locs hH => ?_)
    refine lv_bipush (v := (-2)) hx hb dX11_richest_22 (by decide) ?_
    refine lv_istore_n (lv' := [(2, .int (-2 : Int32)), (0, .ref (ad 0)), (1, .int x1)]) hx hb dX11_richest_24 rfl hl (by decide) rfl (fun ls hl => ?_)
    refine lv_bipush (v := (-2)) hx hb dX11_richest_25 (by decide) ?_
    refine lv_istore_n (lv' := [(3, .int (-2 : Int32)), (2, .int (-2 : Int32)), (0, .ref (ad 0)), (1, .int x1)]) hx hb dX11_richest_27 rfl hl (by decide) rfl (fun ls hl => ?_)
    refine lv_iconst (v := 0) hx hb dX11_richest_28 (by decide) ?_
    refine lv_istore (lv' := [(4, .int (0 : Int32)), (3, .int (-2 : Int32)), (2, .int (-2 : Int32)), (0, .ref (ad 0)), (1, .int x1)]) hx hb dX11_richest_29 hl (by decide) rfl (fun ls hl => ?_)
    exact wX11_richest_31 C _ _ _ _ _ _ _ _ _ h hH (lv_sub hl [3, 4, 2, 1, 0] rfl)
  · rw [if_pos hq_10] at h
    refine lv_iconst (v := (-1)) hx hb dX11_richest_9 (by decide) ?_
    exact g_ret C hH h dX11_richest_10
-- X11_likely
def FX11_likely_61 (k18 : Int32 → Int32 → Int32 → Int32 → HS → Option (Int32 × HS)) (x1 : Int32) (x2 : Int32) (x3 : Int32) (x4 : Int32) (x5 : Int32) (σ : HS) : Option (Int32 × HS) :=
  hl_ (x3 * (maxI x5 ((4 : Int32) - x5))) fun x3_1 => k18 x1 x2 x3_1 (x4 + 1) σ
def FX11_likely_18  : Nat → Int32 → Int32 → Int32 → Int32 → HS → Option (Int32 × HS)
  | 0, _, _, _, _, _ => none
  | f + 1, x1, x2, x3, x4, σ => if (σ.1 3 0) ≤ x4 then if x1 = 0 then some (x2, σ) else some (x3, σ) else bdI (FX2_quartersOf 4 x4 σ) fun r_4 σ_5 => if r_4 ≤ ((4 : Int32) - r_4) then FX11_likely_61 (FX11_likely_18  f) x1 x2 x3 x4 r_4 σ_5 else hl_ (x2 ||| ((1 : Int32) <<< (x4 &&& 31))) fun x2_8 => FX11_likely_61 (FX11_likely_18  f) x1 x2_8 x3 x4 r_4 σ_5
def FX11_likely (x1 : Int32) (σ : HS) : Option (Int32 × HS) :=
  bdI (FX11_within x1 (0 : Int32) (1 : Int32) σ) fun r_9 σ_10 => if r_9 = 0 then some ((-1 : Int32), σ_10) else FX11_likely_18 fu x1 (0 : Int32) (1 : Int32) (0 : Int32) σ_10
set_option maxHeartbeats 4000000 in
set_option maxRecDepth 100000 in
theorem wX11_likely_61 (C : Cx 50 D ad κ p s m args meth c cX11_likely RX11 6 (some .int)) {R : (Int32 × HS)} {k18 : Int32 → Int32 → Int32 → Int32 → HS → Option (Int32 × HS)} (K18 : ∀ (x1 : Int32) (x2 : Int32) (x3 : Int32) (x4 : Int32) (σ : HS) (H : Heap) (locs : List Loc) (ls : Array Slot), k18 x1 x2 x3 x4 σ = some R → Hd 50 ceX D ad κ s σ H locs → lv_has ls 6 [(0, .ref (ad 0)), (1, .int x1), (2, .int x2), (3, .int x3), (4, .int x4)] → W p l e ({ frames := 2, cells := 0, slots := 0, locals := 50 } : Room) s m args below meth c H locs 0 0 (MQ below (QI 50 ceX D ad κ R) args s 0 0 (AX 50 ad)) (F0 m 18 ls [])) : ∀ (x1 : Int32) (x2 : Int32) (x3 : Int32) (x4 : Int32) (x5 : Int32) (σ : HS) (H : Heap) (locs : List Loc) (ls : Array Slot), FX11_likely_61 k18 x1 x2 x3 x4 x5 σ = some R → Hd 50 ceX D ad κ s σ H locs → lv_has ls 6 [(0, .ref (ad 0)), (1, .int x1), (2, .int x2), (3, .int x3), (4, .int x4), (5, .int x5)] → W p l e ({ frames := 2, cells := 0, slots := 0, locals := 50 } : Room) s m args below meth c H locs 0 0 (MQ below (QI 50 ceX D ad κ R) args s 0 0 (AX 50 ad)) (F0 m 61 ls []) := by
  have hx := C.1
  have hb := C.2.1
  have hown := C.2.2.2.1
  have hts := C.2.2.2.2.1
  intro x1 x2 x3 x4 x5 σ H locs ls h hH hl
  rw [FX11_likely_61] at h
  refine lv_iload_n hx hb dX11_likely_61 rfl (lv_at hl 3 rfl) ?_
  refine lv_iload hx hb dX11_likely_62 (lv_at hl 5 rfl) ?_
  refine lv_iconst (v := 4) hx hb dX11_likely_64 (by decide) ?_
  refine lv_iload hx hb dX11_likely_65 (lv_at hl 5 rfl) ?_
  refine lv_isub hx hb dX11_likely_67 ?_
  refine g_max C hl.1 mmax_X11_232 (Nat.le_of_ble_eq_true rfl) (Nat.le_of_ble_eq_true rfl) z00 dX11_likely_68 ?_
  refine lv_imul hx hb dX11_likely_71 ?_
  obtain ⟨x3_1, ex3_1, h⟩ := hl_ex h
  refine lv_eqi ex3_1 ?_
  refine lv_istore_n (lv' := [(3, .int x3_1), (0, .ref (ad 0)), (1, .int x1), (2, .int x2), (4, .int x4), (5, .int x5)]) hx hb dX11_likely_72 rfl hl (by decide) rfl (fun ls hl => ?_)
  refine lv_iinc (v := (x4 + 1)) (lv' := [(4, .int (x4 + 1)), (3, .int x3_1), (0, .ref (ad 0)), (1, .int x1), (2, .int x2), (5, .int x5)]) hx hb dX11_likely_73 hl (k := 4) rfl rfl (by decide) rfl (fun ls hl => ?_)
  refine lv_goto (tgt := 18) hx hb dX11_likely_76 (by decide) ?_
  exact K18 _ _ _ _ _ _ _ _ h hH (lv_sub hl [2, 3, 4, 1, 0] rfl)
set_option maxHeartbeats 4000000 in
set_option maxRecDepth 100000 in
theorem wX11_likely_18 (C : Cx 50 D ad κ p s m args meth c cX11_likely RX11 6 (some .int)) {R : (Int32 × HS)} : ∀ (f : Nat) (x1 : Int32) (x2 : Int32) (x3 : Int32) (x4 : Int32) (σ : HS) (H : Heap) (locs : List Loc) (ls : Array Slot), FX11_likely_18  f x1 x2 x3 x4 σ = some R → Hd 50 ceX D ad κ s σ H locs → lv_has ls 6 [(0, .ref (ad 0)), (1, .int x1), (2, .int x2), (3, .int x3), (4, .int x4)] → W p l e ({ frames := 2, cells := 0, slots := 0, locals := 50 } : Room) s m args below meth c H locs 0 0 (MQ below (QI 50 ceX D ad κ R) args s 0 0 (AX 50 ad)) (F0 m 18 ls []) := by
  have hx := C.1
  have hb := C.2.1
  have hown := C.2.2.2.1
  have hts := C.2.2.2.2.1
  intro f
  induction f with
  | zero =>
    intro x1 x2 x3 x4 σ H locs ls h hH hl
    cases h
  | succ f ih =>
    intro x1 x2 x3 x4 σ H locs ls h hH hl
    rw [FX11_likely_18] at h
    refine lv_iload hx hb dX11_likely_18 (lv_at hl 4 rfl) ?_
    refine lv_aload_n hx hb dX11_likely_20 rfl (lv_at hl 0 rfl) ?_
    refine g_get C hH 0 (Nat.le_of_ble_eq_true rfl) rfl fl_X11_28 (v := .ref (ad 3)) rfl dX11_likely_21 ?_
    refine g_get C hH 3 (Nat.le_of_ble_eq_true rfl) rfl fl_X11_241 (v := .int (σ.1 3 0)) rfl dX11_likely_24 ?_
    refine lv_icmp_ge (tgt := 79) hx hb dX11_likely_27 (by decide) (fun hq_2 => ?_) (fun hq_2 => ?_)
    · rw [if_pos hq_2] at h
      refine lv_iload_n hx hb dX11_likely_79 rfl (lv_at hl 1 rfl) ?_
      refine lv_if_ne (tgt := 87) hx hb dX11_likely_80 (by decide) (fun hq_3 => ?_) (fun hq_3 => ?_)
      · rw [if_neg hq_3] at h
        refine lv_iload_n hx hb dX11_likely_87 rfl (lv_at hl 3 rfl) ?_
        exact g_ret C hH h dX11_likely_88
      · rw [if_pos hq_3] at h
        refine lv_iload_n hx hb dX11_likely_83 rfl (lv_at hl 2 rfl) ?_
        refine lv_goto (tgt := 88) hx hb dX11_likely_84 (by decide) ?_
        exact g_ret C hH h dX11_likely_88
    · rw [if_neg hq_2] at h
      refine lv_aload_n hx hb dX11_likely_30 rfl (lv_at hl 0 rfl) ?_
      refine g_get C hH 0 (Nat.le_of_ble_eq_true rfl) rfl fl_X11_54 (v := .ref (ad 7)) rfl dX11_likely_31 ?_
      refine lv_aload_n hx hb dX11_likely_34 rfl (lv_at hl 0 rfl) ?_
      refine g_get C hH 0 (Nat.le_of_ble_eq_true rfl) rfl fl_X11_35 (v := .ref (ad 4)) rfl dX11_likely_35 ?_
      refine lv_iload hx hb dX11_likely_38 (lv_at hl 4 rfl) ?_
      obtain ⟨r_4, σ_5, hc_6, h⟩ := bdI_ex h
      refine g_ci (g_runV (rest := []) C hH hl.1 cV_X11_138 7 (Nat.le_of_ble_eq_true rfl) rfl rfl (kX2_quartersOf l D ad κ st_4 hc_6) ⟨rfl, rfl⟩ ⟨(Nat.le_of_ble_eq_true rfl), (Nat.le_of_ble_eq_true rfl)⟩ rfl rfl (Nat.le_of_ble_eq_true rfl) dX11_likely_40 z00) hH (fun H locs hH => ?_)
      refine lv_istore (lv' := [(5, .int r_4), (0, .ref (ad 0)), (1, .int x1), (2, .int x2), (3, .int x3), (4, .int x4)]) hx hb dX11_likely_43 hl (by decide) rfl (fun ls hl => ?_)
      refine lv_iload hx hb dX11_likely_45 (lv_at hl 0 rfl) ?_
      refine lv_iconst (v := 4) hx hb dX11_likely_47 (by decide) ?_
      refine lv_iload hx hb dX11_likely_48 (lv_at hl 0 rfl) ?_
      refine lv_isub hx hb dX11_likely_50 ?_
      refine lv_icmp_le (tgt := 61) hx hb dX11_likely_51 (by decide) (fun hq_7 => ?_) (fun hq_7 => ?_)
      · rw [if_pos hq_7] at h
        exact wX11_likely_61 C ih  _ _ _ _ _ _ _ _ _ h hH (lv_sub hl [1, 2, 3, 4, 5, 0] rfl)
      · rw [if_neg hq_7] at h
        refine lv_iload_n hx hb dX11_likely_54 rfl (lv_at hl 3 rfl) ?_
        refine lv_iconst (v := 1) hx hb dX11_likely_55 (by decide) ?_
        refine lv_iload hx hb dX11_likely_56 (lv_at hl 5 rfl) ?_
        refine lv_ishl hx hb dX11_likely_58 ?_
        refine lv_ior hx hb dX11_likely_59 ?_
        obtain ⟨x2_8, ex2_8, h⟩ := hl_ex h
        refine lv_eqi ex2_8 ?_
        refine lv_istore_n (lv' := [(2, .int x2_8), (5, .int r_4), (0, .ref (ad 0)), (1, .int x1), (3, .int x3), (4, .int x4)]) hx hb dX11_likely_60 rfl hl (by decide) rfl (fun ls hl => ?_)
        exact wX11_likely_61 C ih  _ _ _ _ _ _ _ _ _ h hH (lv_sub hl [2, 3, 0, 4, 5, 1] rfl)
set_option maxHeartbeats 4000000 in
set_option maxRecDepth 100000 in
theorem kX11_likely (l : Launch) (D : va_G) (ad : Nat → Nat) (κ : KC) {x1 : Int32} {σ : HS} {R : (Int32 × HS)} (h : FX11_likely x1 σ = some R) : MtI l 50 ceX D ad κ yX11_likely cX11_likely 6 (some .int) ({ frames := 2, cells := 0, slots := 0, locals := 50 } : Room) [.ref (ad 0), .int x1] σ R := by
  refine open_ (by decide) (Nat.le_of_ble_eq_true rfl) (la := [(0, .ref (ad 0)), (1, .int x1)]) rfl ?_
  intro p e s m below meth c ls C hH hl
  replace C : Cx 50 D ad κ p s m _ meth c cX11_likely RX11 6 (some .int) := C
  have hx := C.1
  have hb := C.2.1
  have hown := C.2.2.2.1
  have hts := C.2.2.2.2.1
  rw [FX11_likely] at h
  refine lv_iload_n hx hb dX11_likely_0 rfl (lv_at hl 1 rfl) ?_
  refine lv_iconst (v := 0) hx hb dX11_likely_1 (by decide) ?_
  refine lv_iconst (v := 1) hx hb dX11_likely_2 (by decide) ?_
  obtain ⟨r_9, σ_10, hc_11, h⟩ := bdI_ex h
  refine g_ci (g_runS (rest := []) C hH hl.1 cS_X11_105 (kX11_within l D ad κ hc_11) ⟨rfl, rfl⟩ ⟨(Nat.le_of_ble_eq_true rfl), (Nat.le_of_ble_eq_true rfl)⟩ rfl rfl (Nat.le_of_ble_eq_true rfl) dX11_likely_3 z00) hH (fun H locs hH => ?_)
  refine lv_if_ne (tgt := 11) hx hb dX11_likely_6 (by decide) (fun hq_12 => ?_) (fun hq_12 => ?_)
  · rw [if_neg hq_12] at h
    refine lv_iconst (v := 0) hx hb dX11_likely_11 (by decide) ?_
    refine lv_istore_n (lv' := [(2, .int (0 : Int32)), (0, .ref (ad 0)), (1, .int x1)]) hx hb dX11_likely_12 rfl hl (by decide) rfl (fun ls hl => ?_)
    refine lv_iconst (v := 1) hx hb dX11_likely_13 (by decide) ?_
    refine lv_istore_n (lv' := [(3, .int (1 : Int32)), (2, .int (0 : Int32)), (0, .ref (ad 0)), (1, .int x1)]) hx hb dX11_likely_14 rfl hl (by decide) rfl (fun ls hl => ?_)
    refine lv_iconst (v := 0) hx hb dX11_likely_15 (by decide) ?_
    refine lv_istore (lv' := [(4, .int (0 : Int32)), (3, .int (1 : Int32)), (2, .int (0 : Int32)), (0, .ref (ad 0)), (1, .int x1)]) hx hb dX11_likely_16 hl (by decide) rfl (fun ls hl => ?_)
    exact wX11_likely_18 C _ _ _ _ _ _ _ _ _ h hH (lv_sub hl [3, 4, 2, 1, 0] rfl)
  · rw [if_pos hq_12] at h
    refine lv_iconst (v := (-1)) hx hb dX11_likely_9 (by decide) ?_
    exact g_ret C hH h dX11_likely_10
-- X11_tryWeeks
def FX11_tryWeeks (x1 : Int32) (x2 : Int32) (σ : HS) : Option HS :=
  bdV (FX7_copyFrom σ) fun σ_1 => bdV (FX4_preachWeeks 5 x1 x2 σ_1) fun σ_3 => some σ_3
set_option maxHeartbeats 4000000 in
set_option maxRecDepth 100000 in
theorem kX11_tryWeeks (l : Launch) (D : va_G) (ad : Nat → Nat) (κ : KC) {x1 : Int32} {x2 : Int32} {σ : HS} {R : HS} (h : FX11_tryWeeks x1 x2 σ = some R) : MtV l 50 ceX D ad κ yX11_tryWeeks cX11_tryWeeks 3 none ({ frames := 5, cells := 0, slots := 0, locals := 126 } : Room) [.ref (ad 0), .int x1, .int x2] σ R := by
  refine open_ (by decide) (Nat.le_of_ble_eq_true rfl) (la := [(0, .ref (ad 0)), (1, .int x1), (2, .int x2)]) rfl ?_
  intro p e s m below meth c ls C hH hl
  replace C : Cx 50 D ad κ p s m _ meth c cX11_tryWeeks RX11 3 none := C
  have hx := C.1
  have hb := C.2.1
  have hown := C.2.2.2.1
  have hts := C.2.2.2.2.1
  rw [FX11_tryWeeks] at h
  refine lv_aload_n hx hb dX11_tryWeeks_0 rfl (lv_at hl 0 rfl) ?_
  refine g_get C hH 0 (Nat.le_of_ble_eq_true rfl) rfl fl_X11_39 (v := .ref (ad 5)) rfl dX11_tryWeeks_1 ?_
  refine lv_aload_n hx hb dX11_tryWeeks_4 rfl (lv_at hl 0 rfl) ?_
  refine g_get C hH 0 (Nat.le_of_ble_eq_true rfl) rfl fl_X11_35 (v := .ref (ad 4)) rfl dX11_tryWeeks_5 ?_
  obtain ⟨σ_1, hc_2, h⟩ := bdV_ex h
  refine g_cv (g_runV (rest := []) C hH hl.1 cV_X11_347 5 (Nat.le_of_ble_eq_true rfl) rfl rfl (kX7_copyFrom l D ad κ hc_2) ⟨rfl, rfl⟩ ⟨(Nat.le_of_ble_eq_true rfl), (Nat.le_of_ble_eq_true rfl)⟩ rfl rfl (Nat.le_of_ble_eq_true rfl) dX11_tryWeeks_8 z00) hH (fun H locs hH => ?_)
  refine lv_aload_n hx hb dX11_tryWeeks_11 rfl (lv_at hl 0 rfl) ?_
  refine g_get C hH 0 (Nat.le_of_ble_eq_true rfl) rfl fl_X11_70 (v := .ref (ad 9)) rfl dX11_tryWeeks_12 ?_
  refine lv_aload_n hx hb dX11_tryWeeks_15 rfl (lv_at hl 0 rfl) ?_
  refine g_get C hH 0 (Nat.le_of_ble_eq_true rfl) rfl fl_X11_39 (v := .ref (ad 5)) rfl dX11_tryWeeks_16 ?_
  refine lv_iload_n hx hb dX11_tryWeeks_19 rfl (lv_at hl 1 rfl) ?_
  refine lv_iload_n hx hb dX11_tryWeeks_20 rfl (lv_at hl 2 rfl) ?_
  obtain ⟨σ_3, hc_4, h⟩ := bdV_ex h
  refine g_cv (g_runV (rest := []) C hH hl.1 cV_X11_199 9 (Nat.le_of_ble_eq_true rfl) rfl rfl (kX4_preachWeeks l D ad κ st_5 hc_4) ⟨rfl, rfl⟩ ⟨(Nat.le_of_ble_eq_true rfl), (Nat.le_of_ble_eq_true rfl)⟩ rfl rfl (Nat.le_of_ble_eq_true rfl) dX11_tryWeeks_21 z00) hH (fun H locs hH => ?_)
  exact g_retV C hH h dX11_tryWeeks_24
-- X11_gains
def FX11_gains (x1 : Int32) (x2 : Int32) (σ : HS) : Option (Int32 × HS) :=
  bdI (FX11_isFamily x1 σ) fun r_1 σ_2 => if r_1 = 0 then some ((-100000000 : Int32), σ_2) else bdI (FX11_within x2 (0 : Int32) (40 : Int32) σ_2) fun r_5 σ_6 => if r_5 = 0 then some ((-100000000 : Int32), σ_6) else bdV (FX11_tryWeeks x2 (σ_6.1 3 4) σ_6) fun σ_9 => bdI (FX7_profitOf 5 x1 σ_9) fun r_11 σ_12 => bdI (FX7_profitOf 4 x1 σ_12) fun r_14 σ_15 => some ((r_11 - r_14), σ_15)
set_option maxHeartbeats 4000000 in
set_option maxRecDepth 100000 in
theorem kX11_gains (l : Launch) (D : va_G) (ad : Nat → Nat) (κ : KC) {x1 : Int32} {x2 : Int32} {σ : HS} {R : (Int32 × HS)} (h : FX11_gains x1 x2 σ = some R) : MtI l 50 ceX D ad κ yX11_gains cX11_gains 3 (some .int) ({ frames := 6, cells := 0, slots := 0, locals := 148 } : Room) [.ref (ad 0), .int x1, .int x2] σ R := by
  refine open_ (by decide) (Nat.le_of_ble_eq_true rfl) (la := [(0, .ref (ad 0)), (1, .int x1), (2, .int x2)]) rfl ?_
  intro p e s m below meth c ls C hH hl
  replace C : Cx 50 D ad κ p s m _ meth c cX11_gains RX11 3 (some .int) := C
  have hx := C.1
  have hb := C.2.1
  have hown := C.2.2.2.1
  have hts := C.2.2.2.2.1
  rw [FX11_gains] at h
  refine lv_aload_n hx hb dX11_gains_0 rfl (lv_at hl 0 rfl) ?_
  refine lv_iload_n hx hb dX11_gains_1 rfl (lv_at hl 1 rfl) ?_
  obtain ⟨r_1, σ_2, hc_3, h⟩ := bdI_ex h
  refine g_ci (g_runV (rest := []) C hH hl.1 cV_X11_149 0 (Nat.le_of_ble_eq_true rfl) rfl rfl (kX11_isFamily l D ad κ hc_3) ⟨rfl, rfl⟩ ⟨(Nat.le_of_ble_eq_true rfl), (Nat.le_of_ble_eq_true rfl)⟩ rfl rfl (Nat.le_of_ble_eq_true rfl) dX11_gains_2 z00) hH (fun H locs hH => ?_)
  refine lv_if_eq (tgt := 18) hx hb dX11_gains_5 (by decide) (fun hq_4 => ?_) (fun hq_4 => ?_)
  · rw [if_pos hq_4] at h
    refine lv_ldcw (v := (-100000000)) hx hb hown (hts _ kc_X11_272) dX11_gains_18 ?_
    exact g_ret C hH h dX11_gains_21
  · rw [if_neg hq_4] at h
    refine lv_iload_n hx hb dX11_gains_8 rfl (lv_at hl 2 rfl) ?_
    refine lv_iconst (v := 0) hx hb dX11_gains_9 (by decide) ?_
    refine lv_bipush (v := 40) hx hb dX11_gains_10 (by decide) ?_
    obtain ⟨r_5, σ_6, hc_7, h⟩ := bdI_ex h
    refine g_ci (g_runS (rest := []) C hH hl.1 cS_X11_105 (kX11_within l D ad κ hc_7) ⟨rfl, rfl⟩ ⟨(Nat.le_of_ble_eq_true rfl), (Nat.le_of_ble_eq_true rfl)⟩ rfl rfl (Nat.le_of_ble_eq_true rfl) dX11_gains_12 z00) hH (fun H locs hH => ?_)
    refine lv_if_ne (tgt := 22) hx hb dX11_gains_15 (by decide) (fun hq_8 => ?_) (fun hq_8 => ?_)
    · rw [if_neg hq_8] at h
      refine lv_aload_n hx hb dX11_gains_22 rfl (lv_at hl 0 rfl) ?_
      refine lv_iload_n hx hb dX11_gains_23 rfl (lv_at hl 2 rfl) ?_
      refine lv_aload_n hx hb dX11_gains_24 rfl (lv_at hl 0 rfl) ?_
      refine g_get C hH 0 (Nat.le_of_ble_eq_true rfl) rfl fl_X11_28 (v := .ref (ad 3)) rfl dX11_gains_25 ?_
      refine g_get C hH 3 (Nat.le_of_ble_eq_true rfl) rfl fl_X11_142 (v := .int (σ_6.1 3 4)) rfl dX11_gains_28 ?_
      obtain ⟨σ_9, hc_10, h⟩ := bdV_ex h
      refine g_cv (g_runV (rest := []) C hH hl.1 cV_X11_288 0 (Nat.le_of_ble_eq_true rfl) rfl rfl (kX11_tryWeeks l D ad κ hc_10) ⟨rfl, rfl⟩ ⟨(Nat.le_of_ble_eq_true rfl), (Nat.le_of_ble_eq_true rfl)⟩ rfl rfl (Nat.le_of_ble_eq_true rfl) dX11_gains_31 z00) hH (fun H locs hH => ?_)
      refine lv_aload_n hx hb dX11_gains_34 rfl (lv_at hl 0 rfl) ?_
      refine g_get C hH 0 (Nat.le_of_ble_eq_true rfl) rfl fl_X11_39 (v := .ref (ad 5)) rfl dX11_gains_35 ?_
      refine lv_iload_n hx hb dX11_gains_38 rfl (lv_at hl 1 rfl) ?_
      obtain ⟨r_11, σ_12, hc_13, h⟩ := bdI_ex h
      refine g_ci (g_runV (rest := []) C hH hl.1 cV_X11_291 5 (Nat.le_of_ble_eq_true rfl) rfl rfl (kX7_profitOf l D ad κ st_5 hc_13) ⟨rfl, rfl⟩ ⟨(Nat.le_of_ble_eq_true rfl), (Nat.le_of_ble_eq_true rfl)⟩ rfl rfl (Nat.le_of_ble_eq_true rfl) dX11_gains_39 z00) hH (fun H locs hH => ?_)
      refine lv_aload_n hx hb dX11_gains_42 rfl (lv_at hl 0 rfl) ?_
      refine g_get C hH 0 (Nat.le_of_ble_eq_true rfl) rfl fl_X11_35 (v := .ref (ad 4)) rfl dX11_gains_43 ?_
      refine lv_iload_n hx hb dX11_gains_46 rfl (lv_at hl 1 rfl) ?_
      obtain ⟨r_14, σ_15, hc_16, h⟩ := bdI_ex h
      refine g_ci (g_runV (rest := [.int r_11]) C hH hl.1 cV_X11_291 4 (Nat.le_of_ble_eq_true rfl) rfl rfl (kX7_profitOf l D ad κ st_4 hc_16) ⟨rfl, rfl⟩ ⟨(Nat.le_of_ble_eq_true rfl), (Nat.le_of_ble_eq_true rfl)⟩ rfl rfl (Nat.le_of_ble_eq_true rfl) dX11_gains_47 z00) hH (fun H locs hH => ?_)
      refine lv_isub hx hb dX11_gains_50 ?_
      exact g_ret C hH h dX11_gains_51
    · rw [if_pos hq_8] at h
      refine lv_ldcw (v := (-100000000)) hx hb hown (hts _ kc_X11_272) dX11_gains_18 ?_
      exact g_ret C hH h dX11_gains_21
-- X11_partsIn
def FX11_partsIn (x1 : Int32) (σ : HS) : Option (Int32 × HS) :=
  bdI (FX11_within x1 (0 : Int32) (40 : Int32) σ) fun r_1 σ_2 => if r_1 = 0 then some ((-1 : Int32), σ_2) else bdV (FX11_tryWeeks x1 (σ_2.1 3 4) σ_2) fun σ_5 => some ((σ_5.1 15 32), σ_5)
set_option maxHeartbeats 4000000 in
set_option maxRecDepth 100000 in
theorem kX11_partsIn (l : Launch) (D : va_G) (ad : Nat → Nat) (κ : KC) {x1 : Int32} {σ : HS} {R : (Int32 × HS)} (h : FX11_partsIn x1 σ = some R) : MtI l 50 ceX D ad κ yX11_partsIn cX11_partsIn 2 (some .int) ({ frames := 6, cells := 0, slots := 0, locals := 148 } : Room) [.ref (ad 0), .int x1] σ R := by
  refine open_ (by decide) (Nat.le_of_ble_eq_true rfl) (la := [(0, .ref (ad 0)), (1, .int x1)]) rfl ?_
  intro p e s m below meth c ls C hH hl
  replace C : Cx 50 D ad κ p s m _ meth c cX11_partsIn RX11 2 (some .int) := C
  have hx := C.1
  have hb := C.2.1
  have hown := C.2.2.2.1
  have hts := C.2.2.2.2.1
  rw [FX11_partsIn] at h
  refine lv_iload_n hx hb dX11_partsIn_0 rfl (lv_at hl 1 rfl) ?_
  refine lv_iconst (v := 0) hx hb dX11_partsIn_1 (by decide) ?_
  refine lv_bipush (v := 40) hx hb dX11_partsIn_2 (by decide) ?_
  obtain ⟨r_1, σ_2, hc_3, h⟩ := bdI_ex h
  refine g_ci (g_runS (rest := []) C hH hl.1 cS_X11_105 (kX11_within l D ad κ hc_3) ⟨rfl, rfl⟩ ⟨(Nat.le_of_ble_eq_true rfl), (Nat.le_of_ble_eq_true rfl)⟩ rfl rfl (Nat.le_of_ble_eq_true rfl) dX11_partsIn_4 z00) hH (fun H locs hH => ?_)
  refine lv_if_ne (tgt := 12) hx hb dX11_partsIn_7 (by decide) (fun hq_4 => ?_) (fun hq_4 => ?_)
  · rw [if_neg hq_4] at h
    refine lv_aload_n hx hb dX11_partsIn_12 rfl (lv_at hl 0 rfl) ?_
    refine lv_iload_n hx hb dX11_partsIn_13 rfl (lv_at hl 1 rfl) ?_
    refine lv_aload_n hx hb dX11_partsIn_14 rfl (lv_at hl 0 rfl) ?_
    refine g_get C hH 0 (Nat.le_of_ble_eq_true rfl) rfl fl_X11_28 (v := .ref (ad 3)) rfl dX11_partsIn_15 ?_
    refine g_get C hH 3 (Nat.le_of_ble_eq_true rfl) rfl fl_X11_142 (v := .int (σ_2.1 3 4)) rfl dX11_partsIn_18 ?_
    obtain ⟨σ_5, hc_6, h⟩ := bdV_ex h
    refine g_cv (g_runV (rest := []) C hH hl.1 cV_X11_288 0 (Nat.le_of_ble_eq_true rfl) rfl rfl (kX11_tryWeeks l D ad κ hc_6) ⟨rfl, rfl⟩ ⟨(Nat.le_of_ble_eq_true rfl), (Nat.le_of_ble_eq_true rfl)⟩ rfl rfl (Nat.le_of_ble_eq_true rfl) dX11_partsIn_21 z00) hH (fun H locs hH => ?_)
    refine lv_aload_n hx hb dX11_partsIn_24 rfl (lv_at hl 0 rfl) ?_
    refine g_get C hH 0 (Nat.le_of_ble_eq_true rfl) rfl fl_X11_39 (v := .ref (ad 5)) rfl dX11_partsIn_25 ?_
    refine g_get C hH 5 (Nat.le_of_ble_eq_true rfl) rfl fl_X11_203 (v := .ref (ad 15)) rfl dX11_partsIn_28 ?_
    refine lv_bipush (v := 32) hx hb dX11_partsIn_31 (by decide) ?_
    refine g_iald C hH 15 (Nat.le_of_ble_eq_true rfl) rfl (k := 32) (by decide) (ix_in rfl) dX11_partsIn_33 ?_
    exact g_ret C hH h dX11_partsIn_34
  · rw [if_pos hq_4] at h
    refine lv_iconst (v := (-1)) hx hb dX11_partsIn_10 (by decide) ?_
    exact g_ret C hH h dX11_partsIn_11
-- X11_year
def FX11_year_36  : Nat → Int32 → Int32 → Int32 → Int32 → Int32 → HS → Option (Int32 × HS)
  | 0, _, _, _, _, _, _ => none
  | f + 1, x1, x2, x3, x4, x5, σ => if x3 ≤ x5 then some (x4, σ) else bdV (FX11_tryWeeks x2 ((σ.1 3 4) + x5) σ) fun σ_2 => bdI (FX7_profitOf 5 x1 σ_2) fun r_4 σ_5 => if r_4 ≤ 0 then FX11_year_36  f x1 x2 x3 x4 (x5 + 1) σ_5 else FX11_year_36  f x1 x2 x3 (x4 + 1) (x5 + 1) σ_5
def FX11_year (x1 : Int32) (x2 : Int32) (x3 : Int32) (σ : HS) : Option (Int32 × HS) :=
  bdI (FX11_isFamily x1 σ) fun r_8 σ_9 => if r_8 = 0 then some ((-1 : Int32), σ_9) else bdI (FX11_within x2 (0 : Int32) (40 : Int32) σ_9) fun r_12 σ_13 => if r_12 = 0 then some ((-1 : Int32), σ_13) else bdI (FX11_within x3 (1 : Int32) (20 : Int32) σ_13) fun r_16 σ_17 => if r_16 = 0 then some ((-1 : Int32), σ_17) else FX11_year_36 fu x1 x2 x3 (0 : Int32) (0 : Int32) σ_17
set_option maxHeartbeats 4000000 in
set_option maxRecDepth 100000 in
theorem wX11_year_36 (C : Cx 50 D ad κ p s m args meth c cX11_year RX11 6 (some .int)) {R : (Int32 × HS)} : ∀ (f : Nat) (x1 : Int32) (x2 : Int32) (x3 : Int32) (x4 : Int32) (x5 : Int32) (σ : HS) (H : Heap) (locs : List Loc) (ls : Array Slot), FX11_year_36  f x1 x2 x3 x4 x5 σ = some R → Hd 50 ceX D ad κ s σ H locs → lv_has ls 6 [(0, .ref (ad 0)), (1, .int x1), (2, .int x2), (3, .int x3), (4, .int x4), (5, .int x5)] → W p l e ({ frames := 6, cells := 0, slots := 0, locals := 148 } : Room) s m args below meth c H locs 0 0 (MQ below (QI 50 ceX D ad κ R) args s 0 0 (AX 50 ad)) (F0 m 36 ls []) := by
  have hx := C.1
  have hb := C.2.1
  have hown := C.2.2.2.1
  have hts := C.2.2.2.2.1
  intro f
  induction f with
  | zero =>
    intro x1 x2 x3 x4 x5 σ H locs ls h hH hl
    cases h
  | succ f ih =>
    intro x1 x2 x3 x4 x5 σ H locs ls h hH hl
    rw [FX11_year_36] at h
    refine lv_iload hx hb dX11_year_36 (lv_at hl 5 rfl) ?_
    refine lv_iload_n hx hb dX11_year_38 rfl (lv_at hl 3 rfl) ?_
    refine lv_icmp_ge (tgt := 77) hx hb dX11_year_39 (by decide) (fun hq_1 => ?_) (fun hq_1 => ?_)
    · rw [if_pos hq_1] at h
      refine lv_iload hx hb dX11_year_77 (lv_at hl 4 rfl) ?_
      exact g_ret C hH h dX11_year_79
    · rw [if_neg hq_1] at h
      refine lv_aload_n hx hb dX11_year_42 rfl (lv_at hl 0 rfl) ?_
      refine lv_iload_n hx hb dX11_year_43 rfl (lv_at hl 2 rfl) ?_
      refine lv_aload_n hx hb dX11_year_44 rfl (lv_at hl 0 rfl) ?_
      refine g_get C hH 0 (Nat.le_of_ble_eq_true rfl) rfl fl_X11_28 (v := .ref (ad 3)) rfl dX11_year_45 ?_
      refine g_get C hH 3 (Nat.le_of_ble_eq_true rfl) rfl fl_X11_142 (v := .int (σ.1 3 4)) rfl dX11_year_48 ?_
      refine lv_iload hx hb dX11_year_51 (lv_at hl 5 rfl) ?_
      refine lv_iadd hx hb dX11_year_53 ?_
      obtain ⟨σ_2, hc_3, h⟩ := bdV_ex h
      refine g_cv (g_runV (rest := []) C hH hl.1 cV_X11_288 0 (Nat.le_of_ble_eq_true rfl) rfl rfl (kX11_tryWeeks l D ad κ hc_3) ⟨rfl, rfl⟩ ⟨(Nat.le_of_ble_eq_true rfl), (Nat.le_of_ble_eq_true rfl)⟩ rfl rfl (Nat.le_of_ble_eq_true rfl) dX11_year_54 z00) hH (fun H locs hH => ?_)
      refine lv_aload_n hx hb dX11_year_57 rfl (lv_at hl 0 rfl) ?_
      refine g_get C hH 0 (Nat.le_of_ble_eq_true rfl) rfl fl_X11_39 (v := .ref (ad 5)) rfl dX11_year_58 ?_
      refine lv_iload_n hx hb dX11_year_61 rfl (lv_at hl 1 rfl) ?_
      obtain ⟨r_4, σ_5, hc_6, h⟩ := bdI_ex h
      refine g_ci (g_runV (rest := []) C hH hl.1 cV_X11_291 5 (Nat.le_of_ble_eq_true rfl) rfl rfl (kX7_profitOf l D ad κ st_5 hc_6) ⟨rfl, rfl⟩ ⟨(Nat.le_of_ble_eq_true rfl), (Nat.le_of_ble_eq_true rfl)⟩ rfl rfl (Nat.le_of_ble_eq_true rfl) dX11_year_62 z00) hH (fun H locs hH => ?_)
      refine lv_if_le (tgt := 71) hx hb dX11_year_65 (by decide) (fun hq_7 => ?_) (fun hq_7 => ?_)
      · rw [if_pos hq_7] at h
        refine lv_iinc (v := (x5 + 1)) (lv' := [(5, .int (x5 + 1)), (0, .ref (ad 0)), (1, .int x1), (2, .int x2), (3, .int x3), (4, .int x4)]) hx hb dX11_year_71 hl (k := 5) rfl rfl (by decide) rfl (fun ls hl => ?_)
        refine lv_goto (tgt := 36) hx hb dX11_year_74 (by decide) ?_
        exact ih _ _ _ _ _ _ _ _ _ h hH (lv_sub hl [1, 2, 3, 4, 5, 0] rfl)
      · rw [if_neg hq_7] at h
        refine lv_iinc (v := (x4 + 1)) (lv' := [(4, .int (x4 + 1)), (0, .ref (ad 0)), (1, .int x1), (2, .int x2), (3, .int x3), (5, .int x5)]) hx hb dX11_year_68 hl (k := 4) rfl rfl (by decide) rfl (fun ls hl => ?_)
        refine lv_iinc (v := (x5 + 1)) (lv' := [(5, .int (x5 + 1)), (4, .int (x4 + 1)), (0, .ref (ad 0)), (1, .int x1), (2, .int x2), (3, .int x3)]) hx hb dX11_year_71 hl (k := 5) rfl rfl (by decide) rfl (fun ls hl => ?_)
        refine lv_goto (tgt := 36) hx hb dX11_year_74 (by decide) ?_
        exact ih _ _ _ _ _ _ _ _ _ h hH (lv_sub hl [2, 3, 4, 5, 1, 0] rfl)
set_option maxHeartbeats 4000000 in
set_option maxRecDepth 100000 in
theorem kX11_year (l : Launch) (D : va_G) (ad : Nat → Nat) (κ : KC) {x1 : Int32} {x2 : Int32} {x3 : Int32} {σ : HS} {R : (Int32 × HS)} (h : FX11_year x1 x2 x3 σ = some R) : MtI l 50 ceX D ad κ yX11_year cX11_year 6 (some .int) ({ frames := 6, cells := 0, slots := 0, locals := 148 } : Room) [.ref (ad 0), .int x1, .int x2, .int x3] σ R := by
  refine open_ (by decide) (Nat.le_of_ble_eq_true rfl) (la := [(0, .ref (ad 0)), (1, .int x1), (2, .int x2), (3, .int x3)]) rfl ?_
  intro p e s m below meth c ls C hH hl
  replace C : Cx 50 D ad κ p s m _ meth c cX11_year RX11 6 (some .int) := C
  have hx := C.1
  have hb := C.2.1
  have hown := C.2.2.2.1
  have hts := C.2.2.2.2.1
  rw [FX11_year] at h
  refine lv_aload_n hx hb dX11_year_0 rfl (lv_at hl 0 rfl) ?_
  refine lv_iload_n hx hb dX11_year_1 rfl (lv_at hl 1 rfl) ?_
  obtain ⟨r_8, σ_9, hc_10, h⟩ := bdI_ex h
  refine g_ci (g_runV (rest := []) C hH hl.1 cV_X11_149 0 (Nat.le_of_ble_eq_true rfl) rfl rfl (kX11_isFamily l D ad κ hc_10) ⟨rfl, rfl⟩ ⟨(Nat.le_of_ble_eq_true rfl), (Nat.le_of_ble_eq_true rfl)⟩ rfl rfl (Nat.le_of_ble_eq_true rfl) dX11_year_2 z00) hH (fun H locs hH => ?_)
  refine lv_if_eq (tgt := 28) hx hb dX11_year_5 (by decide) (fun hq_11 => ?_) (fun hq_11 => ?_)
  · rw [if_pos hq_11] at h
    refine lv_iconst (v := (-1)) hx hb dX11_year_28 (by decide) ?_
    exact g_ret C hH h dX11_year_29
  · rw [if_neg hq_11] at h
    refine lv_iload_n hx hb dX11_year_8 rfl (lv_at hl 2 rfl) ?_
    refine lv_iconst (v := 0) hx hb dX11_year_9 (by decide) ?_
    refine lv_bipush (v := 40) hx hb dX11_year_10 (by decide) ?_
    obtain ⟨r_12, σ_13, hc_14, h⟩ := bdI_ex h
    refine g_ci (g_runS (rest := []) C hH hl.1 cS_X11_105 (kX11_within l D ad κ hc_14) ⟨rfl, rfl⟩ ⟨(Nat.le_of_ble_eq_true rfl), (Nat.le_of_ble_eq_true rfl)⟩ rfl rfl (Nat.le_of_ble_eq_true rfl) dX11_year_12 z00) hH (fun H locs hH => ?_)
    refine lv_if_eq (tgt := 28) hx hb dX11_year_15 (by decide) (fun hq_15 => ?_) (fun hq_15 => ?_)
    · rw [if_pos hq_15] at h
      refine lv_iconst (v := (-1)) hx hb dX11_year_28 (by decide) ?_
      exact g_ret C hH h dX11_year_29
    · rw [if_neg hq_15] at h
      refine lv_iload_n hx hb dX11_year_18 rfl (lv_at hl 3 rfl) ?_
      refine lv_iconst (v := 1) hx hb dX11_year_19 (by decide) ?_
      refine lv_bipush (v := 20) hx hb dX11_year_20 (by decide) ?_
      obtain ⟨r_16, σ_17, hc_18, h⟩ := bdI_ex h
      refine g_ci (g_runS (rest := []) C hH hl.1 cS_X11_105 (kX11_within l D ad κ hc_18) ⟨rfl, rfl⟩ ⟨(Nat.le_of_ble_eq_true rfl), (Nat.le_of_ble_eq_true rfl)⟩ rfl rfl (Nat.le_of_ble_eq_true rfl) dX11_year_22 z00) hH (fun H locs hH => ?_)
      refine lv_if_ne (tgt := 30) hx hb dX11_year_25 (by decide) (fun hq_19 => ?_) (fun hq_19 => ?_)
      · rw [if_neg hq_19] at h
        refine lv_iconst (v := 0) hx hb dX11_year_30 (by decide) ?_
        refine lv_istore (lv' := [(4, .int (0 : Int32)), (0, .ref (ad 0)), (1, .int x1), (2, .int x2), (3, .int x3)]) hx hb dX11_year_31 hl (by decide) rfl (fun ls hl => ?_)
        refine lv_iconst (v := 0) hx hb dX11_year_33 (by decide) ?_
        refine lv_istore (lv' := [(5, .int (0 : Int32)), (4, .int (0 : Int32)), (0, .ref (ad 0)), (1, .int x1), (2, .int x2), (3, .int x3)]) hx hb dX11_year_34 hl (by decide) rfl (fun ls hl => ?_)
        exact wX11_year_36 C _ _ _ _ _ _ _ _ _ _ h hH (lv_sub hl [2, 3, 4, 5, 1, 0] rfl)
      · rw [if_pos hq_19] at h
        refine lv_iconst (v := (-1)) hx hb dX11_year_28 (by decide) ?_
        exact g_ret C hH h dX11_year_29
-- X11_tell
def FX11_tell (x1 : Int32) (x2 : Int32) (x3 : Int32) (σ : HS) : Option (Int32 × HS) :=
  bdI (FX11_isMinute x1 σ) fun r_1 σ_2 => if r_1 = 0 then some ((-1 : Int32), σ_2) else bdI (FX11_isPart x2 σ_2) fun r_5 σ_6 => if r_5 = 0 then some ((-1 : Int32), σ_6) else bdI (FX10_add x1 x2 x3 σ_6) fun r_9 σ_10 => some (r_9, σ_10)
set_option maxHeartbeats 4000000 in
set_option maxRecDepth 100000 in
theorem kX11_tell (l : Launch) (D : va_G) (ad : Nat → Nat) (κ : KC) {x1 : Int32} {x2 : Int32} {x3 : Int32} {σ : HS} {R : (Int32 × HS)} (h : FX11_tell x1 x2 x3 σ = some R) : MtI l 50 ceX D ad κ yX11_tell cX11_tell 4 (some .int) ({ frames := 2, cells := 0, slots := 0, locals := 43 } : Room) [.ref (ad 0), .int x1, .int x2, .int x3] σ R := by
  refine open_ (by decide) (Nat.le_of_ble_eq_true rfl) (la := [(0, .ref (ad 0)), (1, .int x1), (2, .int x2), (3, .int x3)]) rfl ?_
  intro p e s m below meth c ls C hH hl
  replace C : Cx 50 D ad κ p s m _ meth c cX11_tell RX11 4 (some .int) := C
  have hx := C.1
  have hb := C.2.1
  have hown := C.2.2.2.1
  have hts := C.2.2.2.2.1
  rw [FX11_tell] at h
  refine lv_aload_n hx hb dX11_tell_0 rfl (lv_at hl 0 rfl) ?_
  refine lv_iload_n hx hb dX11_tell_1 rfl (lv_at hl 1 rfl) ?_
  obtain ⟨r_1, σ_2, hc_3, h⟩ := bdI_ex h
  refine g_ci (g_runV (rest := []) C hH hl.1 cV_X11_131 0 (Nat.le_of_ble_eq_true rfl) rfl rfl (kX11_isMinute l D ad κ hc_3) ⟨rfl, rfl⟩ ⟨(Nat.le_of_ble_eq_true rfl), (Nat.le_of_ble_eq_true rfl)⟩ rfl rfl (Nat.le_of_ble_eq_true rfl) dX11_tell_2 z00) hH (fun H locs hH => ?_)
  refine lv_if_eq (tgt := 15) hx hb dX11_tell_5 (by decide) (fun hq_4 => ?_) (fun hq_4 => ?_)
  · rw [if_pos hq_4] at h
    refine lv_iconst (v := (-1)) hx hb dX11_tell_15 (by decide) ?_
    exact g_ret C hH h dX11_tell_16
  · rw [if_neg hq_4] at h
    refine lv_iload_n hx hb dX11_tell_8 rfl (lv_at hl 2 rfl) ?_
    obtain ⟨r_5, σ_6, hc_7, h⟩ := bdI_ex h
    refine g_ci (g_runS (rest := []) C hH hl.1 cS_X11_174 (kX11_isPart l D ad κ hc_7) ⟨rfl, rfl⟩ ⟨(Nat.le_of_ble_eq_true rfl), (Nat.le_of_ble_eq_true rfl)⟩ rfl rfl (Nat.le_of_ble_eq_true rfl) dX11_tell_9 z00) hH (fun H locs hH => ?_)
    refine lv_if_ne (tgt := 17) hx hb dX11_tell_12 (by decide) (fun hq_8 => ?_) (fun hq_8 => ?_)
    · rw [if_neg hq_8] at h
      refine lv_aload_n hx hb dX11_tell_17 rfl (lv_at hl 0 rfl) ?_
      refine g_get C hH 0 (Nat.le_of_ble_eq_true rfl) rfl fl_X11_86 (v := .ref (ad 11)) rfl dX11_tell_18 ?_
      refine lv_iload_n hx hb dX11_tell_21 rfl (lv_at hl 1 rfl) ?_
      refine lv_iload_n hx hb dX11_tell_22 rfl (lv_at hl 2 rfl) ?_
      refine lv_iload_n hx hb dX11_tell_23 rfl (lv_at hl 3 rfl) ?_
      obtain ⟨r_9, σ_10, hc_11, h⟩ := bdI_ex h
      refine g_ci (g_runV (rest := []) C hH hl.1 cV_X11_294 11 (Nat.le_of_ble_eq_true rfl) rfl rfl (kX10_add l D ad κ hc_11) ⟨rfl, rfl⟩ ⟨(Nat.le_of_ble_eq_true rfl), (Nat.le_of_ble_eq_true rfl)⟩ rfl rfl (Nat.le_of_ble_eq_true rfl) dX11_tell_24 z00) hH (fun H locs hH => ?_)
      exact g_ret C hH h dX11_tell_27
    · rw [if_pos hq_8] at h
      refine lv_iconst (v := (-1)) hx hb dX11_tell_15 (by decide) ?_
      exact g_ret C hH h dX11_tell_16
-- X11_forget
def FX11_forget (σ : HS) : Option (Int32 × HS) :=
  hl_ (σ.1 11 6) fun x1_1 => hl_ (pI σ 11 6 (0 : Int32)) fun σ_2 => some (x1_1, σ_2)
set_option maxHeartbeats 4000000 in
set_option maxRecDepth 100000 in
theorem kX11_forget (l : Launch) (D : va_G) (ad : Nat → Nat) (κ : KC) {σ : HS} {R : (Int32 × HS)} (h : FX11_forget σ = some R) : MtI l 50 ceX D ad κ yX11_forget cX11_forget 2 (some .int) ({ frames := 0, cells := 0, slots := 0, locals := 0 } : Room) [.ref (ad 0)] σ R := by
  refine open_ (by decide) (Nat.le_of_ble_eq_true rfl) (la := [(0, .ref (ad 0))]) rfl ?_
  intro p e s m below meth c ls C hH hl
  replace C : Cx 50 D ad κ p s m _ meth c cX11_forget RX11 2 (some .int) := C
  have hx := C.1
  have hb := C.2.1
  have hown := C.2.2.2.1
  have hts := C.2.2.2.2.1
  rw [FX11_forget] at h
  refine lv_aload_n hx hb dX11_forget_0 rfl (lv_at hl 0 rfl) ?_
  refine g_get C hH 0 (Nat.le_of_ble_eq_true rfl) rfl fl_X11_86 (v := .ref (ad 11)) rfl dX11_forget_1 ?_
  refine g_get C hH 11 (Nat.le_of_ble_eq_true rfl) rfl fl_X11_125 (v := .int (σ.1 11 6)) rfl dX11_forget_4 ?_
  obtain ⟨x1_1, ex1_1, h⟩ := hl_ex h
  refine lv_eqi ex1_1 ?_
  refine lv_istore_n (lv' := [(1, .int x1_1), (0, .ref (ad 0))]) hx hb dX11_forget_7 rfl hl (by decide) rfl (fun ls hl => ?_)
  refine lv_aload_n hx hb dX11_forget_8 rfl (lv_at hl 1 rfl) ?_
  refine g_get C hH 0 (Nat.le_of_ble_eq_true rfl) rfl fl_X11_86 (v := .ref (ad 11)) rfl dX11_forget_9 ?_
  refine lv_iconst (v := 0) hx hb dX11_forget_12 (by decide) ?_
  obtain ⟨σ_2, eσ_2, h⟩ := hl_ex h
  refine g_putI C hH 11 (Nat.le_of_ble_eq_true rfl) rfl fp_X11_125 rfl rfl (Nat.le_of_ble_eq_true rfl) rfl dX11_forget_13 (fun H locs hH => ?_)
  rw [← eσ_2] at hH
  refine lv_iload_n hx hb dX11_forget_16 rfl (lv_at hl 0 rfl) ?_
  exact g_ret C hH h dX11_forget_17
-- X11_when
def FX11_when (x1 : Int32) (x2 : Int32) (σ : HS) : Option (Int32 × HS) :=
  bdI (FX11_within x1 (0 : Int32) (σ.1 11 6) σ) fun r_1 σ_2 => if r_1 = 0 then some ((-1 : Int32), σ_2) else bdI (FX11_within x2 (0 : Int32) (3 : Int32) σ_2) fun r_5 σ_6 => if r_5 = 0 then some ((-1 : Int32), σ_6) else bdV (FX10_sift x1 σ_6) fun σ_9 => if x2 = 0 then some ((σ_9.1 11 7), σ_9) else if (σ_9.1 11 7) = 0 then some ((-2 : Int32), σ_9) else if x2 = 1 then some ((σ_9.1 11 8), σ_9) else if x2 = 2 then some ((σ_9.1 11 9), σ_9) else some ((σ_9.1 11 10), σ_9)
set_option maxHeartbeats 4000000 in
set_option maxRecDepth 100000 in
theorem kX11_when (l : Launch) (D : va_G) (ad : Nat → Nat) (κ : KC) {x1 : Int32} {x2 : Int32} {σ : HS} {R : (Int32 × HS)} (h : FX11_when x1 x2 σ = some R) : MtI l 50 ceX D ad κ yX11_when cX11_when 3 (some .int) ({ frames := 4, cells := 0, slots := 0, locals := 98 } : Room) [.ref (ad 0), .int x1, .int x2] σ R := by
  refine open_ (by decide) (Nat.le_of_ble_eq_true rfl) (la := [(0, .ref (ad 0)), (1, .int x1), (2, .int x2)]) rfl ?_
  intro p e s m below meth c ls C hH hl
  replace C : Cx 50 D ad κ p s m _ meth c cX11_when RX11 3 (some .int) := C
  have hx := C.1
  have hb := C.2.1
  have hown := C.2.2.2.1
  have hts := C.2.2.2.2.1
  rw [FX11_when] at h
  refine lv_iload_n hx hb dX11_when_0 rfl (lv_at hl 1 rfl) ?_
  refine lv_iconst (v := 0) hx hb dX11_when_1 (by decide) ?_
  refine lv_aload_n hx hb dX11_when_2 rfl (lv_at hl 0 rfl) ?_
  refine g_get C hH 0 (Nat.le_of_ble_eq_true rfl) rfl fl_X11_86 (v := .ref (ad 11)) rfl dX11_when_3 ?_
  refine g_get C hH 11 (Nat.le_of_ble_eq_true rfl) rfl fl_X11_125 (v := .int (σ.1 11 6)) rfl dX11_when_6 ?_
  obtain ⟨r_1, σ_2, hc_3, h⟩ := bdI_ex h
  refine g_ci (g_runS (rest := []) C hH hl.1 cS_X11_105 (kX11_within l D ad κ hc_3) ⟨rfl, rfl⟩ ⟨(Nat.le_of_ble_eq_true rfl), (Nat.le_of_ble_eq_true rfl)⟩ rfl rfl (Nat.le_of_ble_eq_true rfl) dX11_when_9 z00) hH (fun H locs hH => ?_)
  refine lv_if_eq (tgt := 24) hx hb dX11_when_12 (by decide) (fun hq_4 => ?_) (fun hq_4 => ?_)
  · rw [if_pos hq_4] at h
    refine lv_iconst (v := (-1)) hx hb dX11_when_24 (by decide) ?_
    exact g_ret C hH h dX11_when_25
  · rw [if_neg hq_4] at h
    refine lv_iload_n hx hb dX11_when_15 rfl (lv_at hl 2 rfl) ?_
    refine lv_iconst (v := 0) hx hb dX11_when_16 (by decide) ?_
    refine lv_iconst (v := 3) hx hb dX11_when_17 (by decide) ?_
    obtain ⟨r_5, σ_6, hc_7, h⟩ := bdI_ex h
    refine g_ci (g_runS (rest := []) C hH hl.1 cS_X11_105 (kX11_within l D ad κ hc_7) ⟨rfl, rfl⟩ ⟨(Nat.le_of_ble_eq_true rfl), (Nat.le_of_ble_eq_true rfl)⟩ rfl rfl (Nat.le_of_ble_eq_true rfl) dX11_when_18 z00) hH (fun H locs hH => ?_)
    refine lv_if_ne (tgt := 26) hx hb dX11_when_21 (by decide) (fun hq_8 => ?_) (fun hq_8 => ?_)
    · rw [if_neg hq_8] at h
      refine lv_aload_n hx hb dX11_when_26 rfl (lv_at hl 0 rfl) ?_
      refine g_get C hH 0 (Nat.le_of_ble_eq_true rfl) rfl fl_X11_86 (v := .ref (ad 11)) rfl dX11_when_27 ?_
      refine lv_aload_n hx hb dX11_when_30 rfl (lv_at hl 0 rfl) ?_
      refine g_get C hH 0 (Nat.le_of_ble_eq_true rfl) rfl fl_X11_35 (v := .ref (ad 4)) rfl dX11_when_31 ?_
      refine lv_iload_n hx hb dX11_when_34 rfl (lv_at hl 1 rfl) ?_
      obtain ⟨σ_9, hc_10, h⟩ := bdV_ex h
      refine g_cv (g_runV (rest := []) C hH hl.1 cV_X11_298 11 (Nat.le_of_ble_eq_true rfl) rfl rfl (kX10_sift l D ad κ hc_10) ⟨rfl, rfl⟩ ⟨(Nat.le_of_ble_eq_true rfl), (Nat.le_of_ble_eq_true rfl)⟩ rfl rfl (Nat.le_of_ble_eq_true rfl) dX11_when_35 z00) hH (fun H locs hH => ?_)
      refine lv_iload_n hx hb dX11_when_38 rfl (lv_at hl 2 rfl) ?_
      refine lv_if_ne (tgt := 50) hx hb dX11_when_39 (by decide) (fun hq_11 => ?_) (fun hq_11 => ?_)
      · rw [if_neg hq_11] at h
        refine lv_aload_n hx hb dX11_when_50 rfl (lv_at hl 0 rfl) ?_
        refine g_get C hH 0 (Nat.le_of_ble_eq_true rfl) rfl fl_X11_86 (v := .ref (ad 11)) rfl dX11_when_51 ?_
        refine g_get C hH 11 (Nat.le_of_ble_eq_true rfl) rfl fl_X11_301 (v := .int (σ_9.1 11 7)) rfl dX11_when_54 ?_
        refine lv_if_ne (tgt := 63) hx hb dX11_when_57 (by decide) (fun hq_12 => ?_) (fun hq_12 => ?_)
        · rw [if_neg hq_12] at h
          refine lv_iload_n hx hb dX11_when_63 rfl (lv_at hl 2 rfl) ?_
          by_cases hs_13 : x2 = 1
          · rw [if_pos hs_13] at h
            refine lv_lookup (off := 28) (tgt := 92) hx hb dX11_when_64 (by decide) (by rw [hs_13]; rfl) (by decide) ?_
            refine lv_aload_n hx hb dX11_when_92 rfl (lv_at hl 0 rfl) ?_
            refine g_get C hH 0 (Nat.le_of_ble_eq_true rfl) rfl fl_X11_86 (v := .ref (ad 11)) rfl dX11_when_93 ?_
            refine g_get C hH 11 (Nat.le_of_ble_eq_true rfl) rfl fl_X11_304 (v := .int (σ_9.1 11 8)) rfl dX11_when_96 ?_
            exact g_ret C hH h dX11_when_99
          · rw [if_neg hs_13] at h
            by_cases hs_14 : x2 = 2
            · rw [if_pos hs_14] at h
              refine lv_lookup (off := 36) (tgt := 100) hx hb dX11_when_64 (by decide) (by rw [hs_14]; rfl) (by decide) ?_
              refine lv_aload_n hx hb dX11_when_100 rfl (lv_at hl 0 rfl) ?_
              refine g_get C hH 0 (Nat.le_of_ble_eq_true rfl) rfl fl_X11_86 (v := .ref (ad 11)) rfl dX11_when_101 ?_
              refine g_get C hH 11 (Nat.le_of_ble_eq_true rfl) rfl fl_X11_307 (v := .int (σ_9.1 11 9)) rfl dX11_when_104 ?_
              exact g_ret C hH h dX11_when_107
            · rw [if_neg hs_14] at h
              refine lv_lookup (off := 44) (tgt := 108) hx hb dX11_when_64 (by decide) (by show Op.lookupswitch.offset [(1, 28), (2, 36)] _ _ = _; rw [lv_osw hs_13 (show (1 : Int32).toInt = 1 from by decide)]; rw [lv_osw hs_14 (show (2 : Int32).toInt = 2 from by decide)]; rfl) (by decide) ?_
              refine lv_aload_n hx hb dX11_when_108 rfl (lv_at hl 0 rfl) ?_
              refine g_get C hH 0 (Nat.le_of_ble_eq_true rfl) rfl fl_X11_86 (v := .ref (ad 11)) rfl dX11_when_109 ?_
              refine g_get C hH 11 (Nat.le_of_ble_eq_true rfl) rfl fl_X11_310 (v := .int (σ_9.1 11 10)) rfl dX11_when_112 ?_
              exact g_ret C hH h dX11_when_115
        · rw [if_pos hq_12] at h
          refine lv_bipush (v := (-2)) hx hb dX11_when_60 (by decide) ?_
          exact g_ret C hH h dX11_when_62
      · rw [if_pos hq_11] at h
        refine lv_aload_n hx hb dX11_when_42 rfl (lv_at hl 0 rfl) ?_
        refine g_get C hH 0 (Nat.le_of_ble_eq_true rfl) rfl fl_X11_86 (v := .ref (ad 11)) rfl dX11_when_43 ?_
        refine g_get C hH 11 (Nat.le_of_ble_eq_true rfl) rfl fl_X11_301 (v := .int (σ_9.1 11 7)) rfl dX11_when_46 ?_
        exact g_ret C hH h dX11_when_49
    · rw [if_pos hq_8] at h
      refine lv_iconst (v := (-1)) hx hb dX11_when_24 (by decide) ?_
      exact g_ret C hH h dX11_when_25
-- X11_ask
def FX11_ask (x1 : Int32) (σ : HS) : Option (Int32 × HS) :=
  bdI (FX11_within x1 (0 : Int32) (σ.1 11 6) σ) fun r_1 σ_2 => if r_1 = 0 then some ((-1 : Int32), σ_2) else bdV (FX10_sift x1 σ_2) fun σ_5 => if (σ_5.1 11 7) = 0 then some ((-2 : Int32), σ_5) else bdI (FX10_bestQuestion σ_5) fun r_8 σ_9 => some (r_8, σ_9)
set_option maxHeartbeats 4000000 in
set_option maxRecDepth 100000 in
theorem kX11_ask (l : Launch) (D : va_G) (ad : Nat → Nat) (κ : KC) {x1 : Int32} {σ : HS} {R : (Int32 × HS)} (h : FX11_ask x1 σ = some R) : MtI l 50 ceX D ad κ yX11_ask cX11_ask 2 (some .int) ({ frames := 4, cells := 0, slots := 0, locals := 98 } : Room) [.ref (ad 0), .int x1] σ R := by
  refine open_ (by decide) (Nat.le_of_ble_eq_true rfl) (la := [(0, .ref (ad 0)), (1, .int x1)]) rfl ?_
  intro p e s m below meth c ls C hH hl
  replace C : Cx 50 D ad κ p s m _ meth c cX11_ask RX11 2 (some .int) := C
  have hx := C.1
  have hb := C.2.1
  have hown := C.2.2.2.1
  have hts := C.2.2.2.2.1
  rw [FX11_ask] at h
  refine lv_iload_n hx hb dX11_ask_0 rfl (lv_at hl 1 rfl) ?_
  refine lv_iconst (v := 0) hx hb dX11_ask_1 (by decide) ?_
  refine lv_aload_n hx hb dX11_ask_2 rfl (lv_at hl 0 rfl) ?_
  refine g_get C hH 0 (Nat.le_of_ble_eq_true rfl) rfl fl_X11_86 (v := .ref (ad 11)) rfl dX11_ask_3 ?_
  refine g_get C hH 11 (Nat.le_of_ble_eq_true rfl) rfl fl_X11_125 (v := .int (σ.1 11 6)) rfl dX11_ask_6 ?_
  obtain ⟨r_1, σ_2, hc_3, h⟩ := bdI_ex h
  refine g_ci (g_runS (rest := []) C hH hl.1 cS_X11_105 (kX11_within l D ad κ hc_3) ⟨rfl, rfl⟩ ⟨(Nat.le_of_ble_eq_true rfl), (Nat.le_of_ble_eq_true rfl)⟩ rfl rfl (Nat.le_of_ble_eq_true rfl) dX11_ask_9 z00) hH (fun H locs hH => ?_)
  refine lv_if_ne (tgt := 17) hx hb dX11_ask_12 (by decide) (fun hq_4 => ?_) (fun hq_4 => ?_)
  · rw [if_neg hq_4] at h
    refine lv_aload_n hx hb dX11_ask_17 rfl (lv_at hl 0 rfl) ?_
    refine g_get C hH 0 (Nat.le_of_ble_eq_true rfl) rfl fl_X11_86 (v := .ref (ad 11)) rfl dX11_ask_18 ?_
    refine lv_aload_n hx hb dX11_ask_21 rfl (lv_at hl 0 rfl) ?_
    refine g_get C hH 0 (Nat.le_of_ble_eq_true rfl) rfl fl_X11_35 (v := .ref (ad 4)) rfl dX11_ask_22 ?_
    refine lv_iload_n hx hb dX11_ask_25 rfl (lv_at hl 1 rfl) ?_
    obtain ⟨σ_5, hc_6, h⟩ := bdV_ex h
    refine g_cv (g_runV (rest := []) C hH hl.1 cV_X11_298 11 (Nat.le_of_ble_eq_true rfl) rfl rfl (kX10_sift l D ad κ hc_6) ⟨rfl, rfl⟩ ⟨(Nat.le_of_ble_eq_true rfl), (Nat.le_of_ble_eq_true rfl)⟩ rfl rfl (Nat.le_of_ble_eq_true rfl) dX11_ask_26 z00) hH (fun H locs hH => ?_)
    refine lv_aload_n hx hb dX11_ask_29 rfl (lv_at hl 0 rfl) ?_
    refine g_get C hH 0 (Nat.le_of_ble_eq_true rfl) rfl fl_X11_86 (v := .ref (ad 11)) rfl dX11_ask_30 ?_
    refine g_get C hH 11 (Nat.le_of_ble_eq_true rfl) rfl fl_X11_301 (v := .int (σ_5.1 11 7)) rfl dX11_ask_33 ?_
    refine lv_if_ne (tgt := 44) hx hb dX11_ask_36 (by decide) (fun hq_7 => ?_) (fun hq_7 => ?_)
    · rw [if_neg hq_7] at h
      refine lv_aload_n hx hb dX11_ask_44 rfl (lv_at hl 0 rfl) ?_
      refine g_get C hH 0 (Nat.le_of_ble_eq_true rfl) rfl fl_X11_86 (v := .ref (ad 11)) rfl dX11_ask_45 ?_
      obtain ⟨r_8, σ_9, hc_10, h⟩ := bdI_ex h
      refine g_ci (g_runV (rest := []) C hH hl.1 cV_X11_313 11 (Nat.le_of_ble_eq_true rfl) rfl rfl (kX10_bestQuestion l D ad κ hc_10) ⟨rfl, rfl⟩ ⟨(Nat.le_of_ble_eq_true rfl), (Nat.le_of_ble_eq_true rfl)⟩ rfl rfl (Nat.le_of_ble_eq_true rfl) dX11_ask_48 z00) hH (fun H locs hH => ?_)
      exact g_ret C hH h dX11_ask_51
    · rw [if_pos hq_7] at h
      refine lv_bipush (v := (-2)) hx hb dX11_ask_39 (by decide) ?_
      refine lv_goto (tgt := 51) hx hb dX11_ask_41 (by decide) ?_
      exact g_ret C hH h dX11_ask_51
  · rw [if_pos hq_4] at h
    refine lv_iconst (v := (-1)) hx hb dX11_ask_15 (by decide) ?_
    exact g_ret C hH h dX11_ask_16
-- X11_hold
def FX11_hold (x1 : Int32) (σ : HS) : Option (Int32 × HS) :=
  bdI (FX3_putInSlot x1 σ) fun r_1 σ_2 => gd (isB r_1) (some (r_1, σ_2))
set_option maxHeartbeats 4000000 in
set_option maxRecDepth 100000 in
theorem kX11_hold (l : Launch) (D : va_G) (ad : Nat → Nat) (κ : KC) {x1 : Int32} {σ : HS} {R : (Int32 × HS)} (h : FX11_hold x1 σ = some R) : MtI l 50 ceX D ad κ yX11_hold cX11_hold 2 (some .boolean) ({ frames := 2, cells := 0, slots := 0, locals := 48 } : Room) [.ref (ad 0), .int x1] σ R := by
  refine open_ (by decide) (Nat.le_of_ble_eq_true rfl) (la := [(0, .ref (ad 0)), (1, .int x1)]) rfl ?_
  intro p e s m below meth c ls C hH hl
  replace C : Cx 50 D ad κ p s m _ meth c cX11_hold RX11 2 (some .boolean) := C
  have hx := C.1
  have hb := C.2.1
  have hown := C.2.2.2.1
  have hts := C.2.2.2.2.1
  rw [FX11_hold] at h
  refine lv_aload_n hx hb dX11_hold_0 rfl (lv_at hl 0 rfl) ?_
  refine g_get C hH 0 (Nat.le_of_ble_eq_true rfl) rfl fl_X11_45 (v := .ref (ad 6)) rfl dX11_hold_1 ?_
  refine lv_iload_n hx hb dX11_hold_4 rfl (lv_at hl 1 rfl) ?_
  refine lv_aload_n hx hb dX11_hold_5 rfl (lv_at hl 0 rfl) ?_
  refine g_get C hH 0 (Nat.le_of_ble_eq_true rfl) rfl fl_X11_35 (v := .ref (ad 4)) rfl dX11_hold_6 ?_
  obtain ⟨r_1, σ_2, hc_3, h⟩ := bdI_ex h
  refine g_ci (g_runV (rest := []) C hH hl.1 cV_X11_316 6 (Nat.le_of_ble_eq_true rfl) rfl rfl (kX3_putInSlot l D ad κ hc_3) ⟨rfl, rfl⟩ ⟨(Nat.le_of_ble_eq_true rfl), (Nat.le_of_ble_eq_true rfl)⟩ rfl rfl (Nat.le_of_ble_eq_true rfl) dX11_hold_9 z00) hH (fun H locs hH => ?_)
  obtain ⟨hb_4, h⟩ := gd_ex h
  exact g_retZ C hH hb_4 h dX11_hold_12
-- X11_restore
def FX11_restore (x1 : Int32) (σ : HS) : Option (Int32 × HS) :=
  bdI (FX3_getFromSlot x1 σ) fun r_1 σ_2 => if r_1 = 0 then some ((0 : Int32), σ_2) else bdV (FX3_clearThings σ_2) fun σ_5 => some ((1 : Int32), σ_5)
set_option maxHeartbeats 4000000 in
set_option maxRecDepth 100000 in
theorem kX11_restore (l : Launch) (D : va_G) (ad : Nat → Nat) (κ : KC) {x1 : Int32} {σ : HS} {R : (Int32 × HS)} (h : FX11_restore x1 σ = some R) : MtI l 50 ceX D ad κ yX11_restore cX11_restore 2 (some .boolean) ({ frames := 2, cells := 0, slots := 0, locals := 48 } : Room) [.ref (ad 0), .int x1] σ R := by
  refine open_ (by decide) (Nat.le_of_ble_eq_true rfl) (la := [(0, .ref (ad 0)), (1, .int x1)]) rfl ?_
  intro p e s m below meth c ls C hH hl
  replace C : Cx 50 D ad κ p s m _ meth c cX11_restore RX11 2 (some .boolean) := C
  have hx := C.1
  have hb := C.2.1
  have hown := C.2.2.2.1
  have hts := C.2.2.2.2.1
  rw [FX11_restore] at h
  refine lv_aload_n hx hb dX11_restore_0 rfl (lv_at hl 0 rfl) ?_
  refine g_get C hH 0 (Nat.le_of_ble_eq_true rfl) rfl fl_X11_45 (v := .ref (ad 6)) rfl dX11_restore_1 ?_
  refine lv_iload_n hx hb dX11_restore_4 rfl (lv_at hl 1 rfl) ?_
  refine lv_aload_n hx hb dX11_restore_5 rfl (lv_at hl 0 rfl) ?_
  refine g_get C hH 0 (Nat.le_of_ble_eq_true rfl) rfl fl_X11_35 (v := .ref (ad 4)) rfl dX11_restore_6 ?_
  obtain ⟨r_1, σ_2, hc_3, h⟩ := bdI_ex h
  refine g_ci (g_runV (rest := []) C hH hl.1 cV_X11_320 6 (Nat.le_of_ble_eq_true rfl) rfl rfl (kX3_getFromSlot l D ad κ hc_3) ⟨rfl, rfl⟩ ⟨(Nat.le_of_ble_eq_true rfl), (Nat.le_of_ble_eq_true rfl)⟩ rfl rfl (Nat.le_of_ble_eq_true rfl) dX11_restore_9 z00) hH (fun H locs hH => ?_)
  refine lv_if_ne (tgt := 17) hx hb dX11_restore_12 (by decide) (fun hq_4 => ?_) (fun hq_4 => ?_)
  · rw [if_neg hq_4] at h
    refine lv_aload_n hx hb dX11_restore_17 rfl (lv_at hl 0 rfl) ?_
    refine g_get C hH 0 (Nat.le_of_ble_eq_true rfl) rfl fl_X11_45 (v := .ref (ad 6)) rfl dX11_restore_18 ?_
    obtain ⟨σ_5, hc_6, h⟩ := bdV_ex h
    refine g_cv (g_runV (rest := []) C hH hl.1 cV_X11_119 6 (Nat.le_of_ble_eq_true rfl) rfl rfl (kX3_clearThings l D ad κ hc_6) ⟨rfl, rfl⟩ ⟨(Nat.le_of_ble_eq_true rfl), (Nat.le_of_ble_eq_true rfl)⟩ rfl rfl (Nat.le_of_ble_eq_true rfl) dX11_restore_21 z00) hH (fun H locs hH => ?_)
    refine lv_iconst (v := 1) hx hb dX11_restore_24 (by decide) ?_
    exact g_retZ C hH rfl h dX11_restore_25
  · rw [if_pos hq_4] at h
    refine lv_iconst (v := 0) hx hb dX11_restore_15 (by decide) ?_
    exact g_retZ C hH rfl h dX11_restore_16
-- X11_sureCoughs
def FX11_sureCoughs (σ : HS) : Option (Int32 × HS) :=
  bdV (FX0_weigh 4 σ) fun σ_1 => some ((σ_1.1 8 7), σ_1)
set_option maxHeartbeats 4000000 in
set_option maxRecDepth 100000 in
theorem kX11_sureCoughs (l : Launch) (D : va_G) (ad : Nat → Nat) (κ : KC) {σ : HS} {R : (Int32 × HS)} (h : FX11_sureCoughs σ = some R) : MtI l 50 ceX D ad κ yX11_sureCoughs cX11_sureCoughs 1 (some .int) ({ frames := 3, cells := 0, slots := 0, locals := 72 } : Room) [.ref (ad 0)] σ R := by
  refine open_ (by decide) (Nat.le_of_ble_eq_true rfl) (la := [(0, .ref (ad 0))]) rfl ?_
  intro p e s m below meth c ls C hH hl
  replace C : Cx 50 D ad κ p s m _ meth c cX11_sureCoughs RX11 1 (some .int) := C
  have hx := C.1
  have hb := C.2.1
  have hown := C.2.2.2.1
  have hts := C.2.2.2.2.1
  rw [FX11_sureCoughs] at h
  refine lv_aload_n hx hb dX11_sureCoughs_0 rfl (lv_at hl 0 rfl) ?_
  refine g_get C hH 0 (Nat.le_of_ble_eq_true rfl) rfl fl_X11_63 (v := .ref (ad 8)) rfl dX11_sureCoughs_1 ?_
  refine lv_aload_n hx hb dX11_sureCoughs_4 rfl (lv_at hl 0 rfl) ?_
  refine g_get C hH 0 (Nat.le_of_ble_eq_true rfl) rfl fl_X11_35 (v := .ref (ad 4)) rfl dX11_sureCoughs_5 ?_
  obtain ⟨σ_1, hc_2, h⟩ := bdV_ex h
  refine g_cv (g_runV (rest := []) C hH hl.1 cV_X11_210 8 (Nat.le_of_ble_eq_true rfl) rfl rfl (kX0_weigh l D ad κ st_4 hc_2) ⟨rfl, rfl⟩ ⟨(Nat.le_of_ble_eq_true rfl), (Nat.le_of_ble_eq_true rfl)⟩ rfl rfl (Nat.le_of_ble_eq_true rfl) dX11_sureCoughs_8 z00) hH (fun H locs hH => ?_)
  refine lv_aload_n hx hb dX11_sureCoughs_11 rfl (lv_at hl 0 rfl) ?_
  refine g_get C hH 0 (Nat.le_of_ble_eq_true rfl) rfl fl_X11_63 (v := .ref (ad 8)) rfl dX11_sureCoughs_12 ?_
  refine g_get C hH 8 (Nat.le_of_ble_eq_true rfl) rfl fl_X11_349 (v := .int (σ_1.1 8 7)) rfl dX11_sureCoughs_15 ?_
  exact g_ret C hH h dX11_sureCoughs_18
-- X11_allQuarters
def FX11_allQuarters_4  : Nat → Int32 → Int32 → HS → Option (Int32 × HS)
  | 0, _, _, _ => none
  | f + 1, x1, x2, σ => if (σ.1 3 0) ≤ x2 then some (x1, σ) else bdI (FX2_quartersOf 4 x2 σ) fun r_2 σ_3 => hl_ (x1 + r_2) fun x1_5 => FX11_allQuarters_4  f x1_5 (x2 + 1) σ_3
def FX11_allQuarters (σ : HS) : Option (Int32 × HS) :=
  FX11_allQuarters_4 fu (0 : Int32) (0 : Int32) σ
set_option maxHeartbeats 4000000 in
set_option maxRecDepth 100000 in
theorem wX11_allQuarters_4 (C : Cx 50 D ad κ p s m args meth c cX11_allQuarters RX11 3 (some .int)) {R : (Int32 × HS)} : ∀ (f : Nat) (x1 : Int32) (x2 : Int32) (σ : HS) (H : Heap) (locs : List Loc) (ls : Array Slot), FX11_allQuarters_4  f x1 x2 σ = some R → Hd 50 ceX D ad κ s σ H locs → lv_has ls 3 [(0, .ref (ad 0)), (1, .int x1), (2, .int x2)] → W p l e ({ frames := 2, cells := 0, slots := 0, locals := 50 } : Room) s m args below meth c H locs 0 0 (MQ below (QI 50 ceX D ad κ R) args s 0 0 (AX 50 ad)) (F0 m 4 ls []) := by
  have hx := C.1
  have hb := C.2.1
  have hown := C.2.2.2.1
  have hts := C.2.2.2.2.1
  intro f
  induction f with
  | zero =>
    intro x1 x2 σ H locs ls h hH hl
    cases h
  | succ f ih =>
    intro x1 x2 σ H locs ls h hH hl
    rw [FX11_allQuarters_4] at h
    refine lv_iload_n hx hb dX11_allQuarters_4 rfl (lv_at hl 2 rfl) ?_
    refine lv_aload_n hx hb dX11_allQuarters_5 rfl (lv_at hl 0 rfl) ?_
    refine g_get C hH 0 (Nat.le_of_ble_eq_true rfl) rfl fl_X11_28 (v := .ref (ad 3)) rfl dX11_allQuarters_6 ?_
    refine g_get C hH 3 (Nat.le_of_ble_eq_true rfl) rfl fl_X11_241 (v := .int (σ.1 3 0)) rfl dX11_allQuarters_9 ?_
    refine lv_icmp_ge (tgt := 36) hx hb dX11_allQuarters_12 (by decide) (fun hq_1 => ?_) (fun hq_1 => ?_)
    · rw [if_pos hq_1] at h
      refine lv_iload_n hx hb dX11_allQuarters_36 rfl (lv_at hl 1 rfl) ?_
      exact g_ret C hH h dX11_allQuarters_37
    · rw [if_neg hq_1] at h
      refine lv_iload_n hx hb dX11_allQuarters_15 rfl (lv_at hl 1 rfl) ?_
      refine lv_aload_n hx hb dX11_allQuarters_16 rfl (lv_at hl 0 rfl) ?_
      refine g_get C hH 0 (Nat.le_of_ble_eq_true rfl) rfl fl_X11_54 (v := .ref (ad 7)) rfl dX11_allQuarters_17 ?_
      refine lv_aload_n hx hb dX11_allQuarters_20 rfl (lv_at hl 0 rfl) ?_
      refine g_get C hH 0 (Nat.le_of_ble_eq_true rfl) rfl fl_X11_35 (v := .ref (ad 4)) rfl dX11_allQuarters_21 ?_
      refine lv_iload_n hx hb dX11_allQuarters_24 rfl (lv_at hl 2 rfl) ?_
      obtain ⟨r_2, σ_3, hc_4, h⟩ := bdI_ex h
      refine g_ci (g_runV (rest := [.int x1]) C hH hl.1 cV_X11_138 7 (Nat.le_of_ble_eq_true rfl) rfl rfl (kX2_quartersOf l D ad κ st_4 hc_4) ⟨rfl, rfl⟩ ⟨(Nat.le_of_ble_eq_true rfl), (Nat.le_of_ble_eq_true rfl)⟩ rfl rfl (Nat.le_of_ble_eq_true rfl) dX11_allQuarters_25 z00) hH (fun H locs hH => ?_)
      refine lv_iadd hx hb dX11_allQuarters_28 ?_
      obtain ⟨x1_5, ex1_5, h⟩ := hl_ex h
      refine lv_eqi ex1_5 ?_
      refine lv_istore_n (lv' := [(1, .int x1_5), (0, .ref (ad 0)), (2, .int x2)]) hx hb dX11_allQuarters_29 rfl hl (by decide) rfl (fun ls hl => ?_)
      refine lv_iinc (v := (x2 + 1)) (lv' := [(2, .int (x2 + 1)), (1, .int x1_5), (0, .ref (ad 0))]) hx hb dX11_allQuarters_30 hl (k := 2) rfl rfl (by decide) rfl (fun ls hl => ?_)
      refine lv_goto (tgt := 4) hx hb dX11_allQuarters_33 (by decide) ?_
      exact ih _ _ _ _ _ _ h hH (lv_sub hl [2, 1, 0] rfl)
set_option maxHeartbeats 4000000 in
set_option maxRecDepth 100000 in
theorem kX11_allQuarters (l : Launch) (D : va_G) (ad : Nat → Nat) (κ : KC) {σ : HS} {R : (Int32 × HS)} (h : FX11_allQuarters σ = some R) : MtI l 50 ceX D ad κ yX11_allQuarters cX11_allQuarters 3 (some .int) ({ frames := 2, cells := 0, slots := 0, locals := 50 } : Room) [.ref (ad 0)] σ R := by
  refine open_ (by decide) (Nat.le_of_ble_eq_true rfl) (la := [(0, .ref (ad 0))]) rfl ?_
  intro p e s m below meth c ls C hH hl
  replace C : Cx 50 D ad κ p s m _ meth c cX11_allQuarters RX11 3 (some .int) := C
  have hx := C.1
  have hb := C.2.1
  have hown := C.2.2.2.1
  have hts := C.2.2.2.2.1
  rw [FX11_allQuarters] at h
  refine lv_iconst (v := 0) hx hb dX11_allQuarters_0 (by decide) ?_
  refine lv_istore_n (lv' := [(1, .int (0 : Int32)), (0, .ref (ad 0))]) hx hb dX11_allQuarters_1 rfl hl (by decide) rfl (fun ls hl => ?_)
  refine lv_iconst (v := 0) hx hb dX11_allQuarters_2 (by decide) ?_
  refine lv_istore_n (lv' := [(2, .int (0 : Int32)), (1, .int (0 : Int32)), (0, .ref (ad 0))]) hx hb dX11_allQuarters_3 rfl hl (by decide) rfl (fun ls hl => ?_)
  exact wX11_allQuarters_4 C _ _ _ _ _ _ _ h hH (lv_sub hl [2, 1, 0] rfl)
-- X11_familiesWithoutLease
def FX11_familiesWithoutLease_4  : Nat → Int32 → Int32 → HS → Option (Int32 × HS)
  | 0, _, _, _ => none
  | f + 1, x1, x2, σ => if (σ.1 3 1) ≤ x2 then some (x1, σ) else bdI (FX7_partsOf 4 x2 σ) fun r_2 σ_3 => if r_2 = 0 then hl_ (x1 ||| ((1 : Int32) <<< (x2 &&& 31))) fun x1_6 => FX11_familiesWithoutLease_4  f x1_6 (x2 + 1) σ_3 else FX11_familiesWithoutLease_4  f x1 (x2 + 1) σ_3
def FX11_familiesWithoutLease (σ : HS) : Option (Int32 × HS) :=
  FX11_familiesWithoutLease_4 fu (0 : Int32) (0 : Int32) σ
set_option maxHeartbeats 4000000 in
set_option maxRecDepth 100000 in
theorem wX11_familiesWithoutLease_4 (C : Cx 50 D ad κ p s m args meth c cX11_familiesWithoutLease RX11 3 (some .int)) {R : (Int32 × HS)} : ∀ (f : Nat) (x1 : Int32) (x2 : Int32) (σ : HS) (H : Heap) (locs : List Loc) (ls : Array Slot), FX11_familiesWithoutLease_4  f x1 x2 σ = some R → Hd 50 ceX D ad κ s σ H locs → lv_has ls 3 [(0, .ref (ad 0)), (1, .int x1), (2, .int x2)] → W p l e ({ frames := 2, cells := 0, slots := 0, locals := 44 } : Room) s m args below meth c H locs 0 0 (MQ below (QI 50 ceX D ad κ R) args s 0 0 (AX 50 ad)) (F0 m 4 ls []) := by
  have hx := C.1
  have hb := C.2.1
  have hown := C.2.2.2.1
  have hts := C.2.2.2.2.1
  intro f
  induction f with
  | zero =>
    intro x1 x2 σ H locs ls h hH hl
    cases h
  | succ f ih =>
    intro x1 x2 σ H locs ls h hH hl
    rw [FX11_familiesWithoutLease_4] at h
    refine lv_iload_n hx hb dX11_familiesWithoutLease_4 rfl (lv_at hl 2 rfl) ?_
    refine lv_aload_n hx hb dX11_familiesWithoutLease_5 rfl (lv_at hl 0 rfl) ?_
    refine g_get C hH 0 (Nat.le_of_ble_eq_true rfl) rfl fl_X11_28 (v := .ref (ad 3)) rfl dX11_familiesWithoutLease_6 ?_
    refine g_get C hH 3 (Nat.le_of_ble_eq_true rfl) rfl fl_X11_282 (v := .int (σ.1 3 1)) rfl dX11_familiesWithoutLease_9 ?_
    refine lv_icmp_ge (tgt := 38) hx hb dX11_familiesWithoutLease_12 (by decide) (fun hq_1 => ?_) (fun hq_1 => ?_)
    · rw [if_pos hq_1] at h
      refine lv_iload_n hx hb dX11_familiesWithoutLease_38 rfl (lv_at hl 1 rfl) ?_
      exact g_ret C hH h dX11_familiesWithoutLease_39
    · rw [if_neg hq_1] at h
      refine lv_aload_n hx hb dX11_familiesWithoutLease_15 rfl (lv_at hl 0 rfl) ?_
      refine g_get C hH 0 (Nat.le_of_ble_eq_true rfl) rfl fl_X11_35 (v := .ref (ad 4)) rfl dX11_familiesWithoutLease_16 ?_
      refine lv_iload_n hx hb dX11_familiesWithoutLease_19 rfl (lv_at hl 2 rfl) ?_
      obtain ⟨r_2, σ_3, hc_4, h⟩ := bdI_ex h
      refine g_ci (g_runV (rest := []) C hH hl.1 cV_X11_159 4 (Nat.le_of_ble_eq_true rfl) rfl rfl (kX7_partsOf l D ad κ st_4 hc_4) ⟨rfl, rfl⟩ ⟨(Nat.le_of_ble_eq_true rfl), (Nat.le_of_ble_eq_true rfl)⟩ rfl rfl (Nat.le_of_ble_eq_true rfl) dX11_familiesWithoutLease_20 z00) hH (fun H locs hH => ?_)
      refine lv_if_ne (tgt := 32) hx hb dX11_familiesWithoutLease_23 (by decide) (fun hq_5 => ?_) (fun hq_5 => ?_)
      · rw [if_neg hq_5] at h
        refine lv_iinc (v := (x2 + 1)) (lv' := [(2, .int (x2 + 1)), (0, .ref (ad 0)), (1, .int x1)]) hx hb dX11_familiesWithoutLease_32 hl (k := 2) rfl rfl (by decide) rfl (fun ls hl => ?_)
        refine lv_goto (tgt := 4) hx hb dX11_familiesWithoutLease_35 (by decide) ?_
        exact ih _ _ _ _ _ _ h hH (lv_sub hl [1, 2, 0] rfl)
      · rw [if_pos hq_5] at h
        refine lv_iload_n hx hb dX11_familiesWithoutLease_26 rfl (lv_at hl 1 rfl) ?_
        refine lv_iconst (v := 1) hx hb dX11_familiesWithoutLease_27 (by decide) ?_
        refine lv_iload_n hx hb dX11_familiesWithoutLease_28 rfl (lv_at hl 2 rfl) ?_
        refine lv_ishl hx hb dX11_familiesWithoutLease_29 ?_
        refine lv_ior hx hb dX11_familiesWithoutLease_30 ?_
        obtain ⟨x1_6, ex1_6, h⟩ := hl_ex h
        refine lv_eqi ex1_6 ?_
        refine lv_istore_n (lv' := [(1, .int x1_6), (0, .ref (ad 0)), (2, .int x2)]) hx hb dX11_familiesWithoutLease_31 rfl hl (by decide) rfl (fun ls hl => ?_)
        refine lv_iinc (v := (x2 + 1)) (lv' := [(2, .int (x2 + 1)), (1, .int x1_6), (0, .ref (ad 0))]) hx hb dX11_familiesWithoutLease_32 hl (k := 2) rfl rfl (by decide) rfl (fun ls hl => ?_)
        refine lv_goto (tgt := 4) hx hb dX11_familiesWithoutLease_35 (by decide) ?_
        exact ih _ _ _ _ _ _ h hH (lv_sub hl [2, 1, 0] rfl)
set_option maxHeartbeats 4000000 in
set_option maxRecDepth 100000 in
theorem kX11_familiesWithoutLease (l : Launch) (D : va_G) (ad : Nat → Nat) (κ : KC) {σ : HS} {R : (Int32 × HS)} (h : FX11_familiesWithoutLease σ = some R) : MtI l 50 ceX D ad κ yX11_familiesWithoutLease cX11_familiesWithoutLease 3 (some .int) ({ frames := 2, cells := 0, slots := 0, locals := 44 } : Room) [.ref (ad 0)] σ R := by
  refine open_ (by decide) (Nat.le_of_ble_eq_true rfl) (la := [(0, .ref (ad 0))]) rfl ?_
  intro p e s m below meth c ls C hH hl
  replace C : Cx 50 D ad κ p s m _ meth c cX11_familiesWithoutLease RX11 3 (some .int) := C
  have hx := C.1
  have hb := C.2.1
  have hown := C.2.2.2.1
  have hts := C.2.2.2.2.1
  rw [FX11_familiesWithoutLease] at h
  refine lv_iconst (v := 0) hx hb dX11_familiesWithoutLease_0 (by decide) ?_
  refine lv_istore_n (lv' := [(1, .int (0 : Int32)), (0, .ref (ad 0))]) hx hb dX11_familiesWithoutLease_1 rfl hl (by decide) rfl (fun ls hl => ?_)
  refine lv_iconst (v := 0) hx hb dX11_familiesWithoutLease_2 (by decide) ?_
  refine lv_istore_n (lv' := [(2, .int (0 : Int32)), (1, .int (0 : Int32)), (0, .ref (ad 0))]) hx hb dX11_familiesWithoutLease_3 rfl hl (by decide) rfl (fun ls hl => ?_)
  exact wX11_familiesWithoutLease_4 C _ _ _ _ _ _ _ h hH (lv_sub hl [2, 1, 0] rfl)
-- X11_allZeal
def FX11_allZeal_4  : Nat → Int32 → Int32 → HS → Option (Int32 × HS)
  | 0, _, _, _ => none
  | f + 1, x1, x2, σ => if (σ.1 3 1) ≤ x2 then some (x1, σ) else gd (ix x2 5) (hl_ (x1 + (σ.1 23 (x2.toNatClampNeg))) fun x1_3 => FX11_allZeal_4  f x1_3 (x2 + 1) σ)
def FX11_allZeal (σ : HS) : Option (Int32 × HS) :=
  FX11_allZeal_4 fu (0 : Int32) (0 : Int32) σ
set_option maxHeartbeats 4000000 in
set_option maxRecDepth 100000 in
theorem wX11_allZeal_4 (C : Cx 50 D ad κ p s m args meth c cX11_allZeal RX11 3 (some .int)) {R : (Int32 × HS)} : ∀ (f : Nat) (x1 : Int32) (x2 : Int32) (σ : HS) (H : Heap) (locs : List Loc) (ls : Array Slot), FX11_allZeal_4  f x1 x2 σ = some R → Hd 50 ceX D ad κ s σ H locs → lv_has ls 3 [(0, .ref (ad 0)), (1, .int x1), (2, .int x2)] → W p l e ({ frames := 0, cells := 0, slots := 0, locals := 0 } : Room) s m args below meth c H locs 0 0 (MQ below (QI 50 ceX D ad κ R) args s 0 0 (AX 50 ad)) (F0 m 4 ls []) := by
  have hx := C.1
  have hb := C.2.1
  have hown := C.2.2.2.1
  have hts := C.2.2.2.2.1
  intro f
  induction f with
  | zero =>
    intro x1 x2 σ H locs ls h hH hl
    cases h
  | succ f ih =>
    intro x1 x2 σ H locs ls h hH hl
    rw [FX11_allZeal_4] at h
    refine lv_iload_n hx hb dX11_allZeal_4 rfl (lv_at hl 2 rfl) ?_
    refine lv_aload_n hx hb dX11_allZeal_5 rfl (lv_at hl 0 rfl) ?_
    refine g_get C hH 0 (Nat.le_of_ble_eq_true rfl) rfl fl_X11_28 (v := .ref (ad 3)) rfl dX11_allZeal_6 ?_
    refine g_get C hH 3 (Nat.le_of_ble_eq_true rfl) rfl fl_X11_282 (v := .int (σ.1 3 1)) rfl dX11_allZeal_9 ?_
    refine lv_icmp_ge (tgt := 33) hx hb dX11_allZeal_12 (by decide) (fun hq_1 => ?_) (fun hq_1 => ?_)
    · rw [if_pos hq_1] at h
      refine lv_iload_n hx hb dX11_allZeal_33 rfl (lv_at hl 1 rfl) ?_
      exact g_ret C hH h dX11_allZeal_34
    · rw [if_neg hq_1] at h
      refine lv_iload_n hx hb dX11_allZeal_15 rfl (lv_at hl 1 rfl) ?_
      refine lv_aload_n hx hb dX11_allZeal_16 rfl (lv_at hl 0 rfl) ?_
      refine g_get C hH 0 (Nat.le_of_ble_eq_true rfl) rfl fl_X11_28 (v := .ref (ad 3)) rfl dX11_allZeal_17 ?_
      refine g_get C hH 3 (Nat.le_of_ble_eq_true rfl) rfl fl_X11_152 (v := .ref (ad 23)) rfl dX11_allZeal_20 ?_
      refine lv_iload_n hx hb dX11_allZeal_23 rfl (lv_at hl 2 rfl) ?_
      obtain ⟨hi_2, h⟩ := gd_ex h
      refine g_iald C hH 23 (Nat.le_of_ble_eq_true rfl) rfl (k := (x2.toNatClampNeg)) rfl (ix_in hi_2) dX11_allZeal_24 ?_
      refine lv_iadd hx hb dX11_allZeal_25 ?_
      obtain ⟨x1_3, ex1_3, h⟩ := hl_ex h
      refine lv_eqi ex1_3 ?_
      refine lv_istore_n (lv' := [(1, .int x1_3), (0, .ref (ad 0)), (2, .int x2)]) hx hb dX11_allZeal_26 rfl hl (by decide) rfl (fun ls hl => ?_)
      refine lv_iinc (v := (x2 + 1)) (lv' := [(2, .int (x2 + 1)), (1, .int x1_3), (0, .ref (ad 0))]) hx hb dX11_allZeal_27 hl (k := 2) rfl rfl (by decide) rfl (fun ls hl => ?_)
      refine lv_goto (tgt := 4) hx hb dX11_allZeal_30 (by decide) ?_
      exact ih _ _ _ _ _ _ h hH (lv_sub hl [2, 1, 0] rfl)
set_option maxHeartbeats 4000000 in
set_option maxRecDepth 100000 in
theorem kX11_allZeal (l : Launch) (D : va_G) (ad : Nat → Nat) (κ : KC) {σ : HS} {R : (Int32 × HS)} (h : FX11_allZeal σ = some R) : MtI l 50 ceX D ad κ yX11_allZeal cX11_allZeal 3 (some .int) ({ frames := 0, cells := 0, slots := 0, locals := 0 } : Room) [.ref (ad 0)] σ R := by
  refine open_ (by decide) (Nat.le_of_ble_eq_true rfl) (la := [(0, .ref (ad 0))]) rfl ?_
  intro p e s m below meth c ls C hH hl
  replace C : Cx 50 D ad κ p s m _ meth c cX11_allZeal RX11 3 (some .int) := C
  have hx := C.1
  have hb := C.2.1
  have hown := C.2.2.2.1
  have hts := C.2.2.2.2.1
  rw [FX11_allZeal] at h
  refine lv_iconst (v := 0) hx hb dX11_allZeal_0 (by decide) ?_
  refine lv_istore_n (lv' := [(1, .int (0 : Int32)), (0, .ref (ad 0))]) hx hb dX11_allZeal_1 rfl hl (by decide) rfl (fun ls hl => ?_)
  refine lv_iconst (v := 0) hx hb dX11_allZeal_2 (by decide) ?_
  refine lv_istore_n (lv' := [(2, .int (0 : Int32)), (1, .int (0 : Int32)), (0, .ref (ad 0))]) hx hb dX11_allZeal_3 rfl hl (by decide) rfl (fun ls hl => ?_)
  exact wX11_allZeal_4 C _ _ _ _ _ _ _ h hH (lv_sub hl [2, 1, 0] rfl)
-- X11_count
def FX11_count (x1 : Int32) (σ : HS) : Option (Int32 × HS) :=
  if x1 = 0 then some ((σ.1 3 0), σ) else if x1 = 1 then some ((σ.1 3 1), σ) else if x1 = 2 then some ((σ.1 14 30), σ) else if x1 = 3 then some ((σ.1 14 28), σ) else if x1 = 4 then some ((σ.1 14 29), σ) else if x1 = 5 then some ((σ.1 14 31), σ) else if x1 = 6 then some ((σ.1 14 32), σ) else if x1 = 7 then some (((1 : Int32) <<< (((2 : Int32) * (σ.1 3 0)) &&& 31)), σ) else if x1 = 8 then some ((σ.1 1 1), σ) else if x1 = 9 then some ((σ.1 6 4), σ) else if x1 = 10 then some ((σ.1 11 6), σ) else if x1 = 11 then bdI (FX3_slotsHeld σ) fun r_13 σ_14 => some (r_13, σ_14) else if x1 = 12 then bdI (FX7_partsOf 4 (-2 : Int32) σ) fun r_17 σ_18 => some (((255 : Int32) &&& (r_17 ^^^ (-1 : Int32))), σ_18) else if x1 = 13 then bdI (FX7_gainedByAll σ) fun r_21 σ_22 => some (r_21, σ_22) else if x1 = 14 then bdI (FX7_paidByAll σ) fun r_25 σ_26 => some (r_25, σ_26) else if x1 = 15 then bdI (FX11_mattersThereAre σ) fun r_29 σ_30 => some (r_29, σ_30) else if x1 = 16 then bdI (FX7_partsOf 4 (-2 : Int32) σ) fun r_33 σ_34 => bdI (FJ6_bitCount_0f7a4 r_33 σ_34) fun r_36 σ_37 => some (r_36, σ_37) else if x1 = 17 then bdI (FX11_sureCoughs σ) fun r_40 σ_41 => some (r_40, σ_41) else if x1 = 18 then bdI (FX11_allQuarters σ) fun r_44 σ_45 => some (r_44, σ_45) else if x1 = 19 then bdI (FX11_familiesWithoutLease σ) fun r_48 σ_49 => some (r_48, σ_49) else if x1 = 20 then bdI (FX11_allZeal σ) fun r_52 σ_53 => some (r_52, σ_53) else some ((-1 : Int32), σ)
set_option maxHeartbeats 4000000 in
set_option maxRecDepth 100000 in
theorem kX11_count (l : Launch) (D : va_G) (ad : Nat → Nat) (κ : KC) {x1 : Int32} {σ : HS} {R : (Int32 × HS)} (h : FX11_count x1 σ = some R) : MtI l 50 ceX D ad κ yX11_count cX11_count 2 (some .int) ({ frames := 4, cells := 0, slots := 0, locals := 92 } : Room) [.ref (ad 0), .int x1] σ R := by
  refine open_ (by decide) (Nat.le_of_ble_eq_true rfl) (la := [(0, .ref (ad 0)), (1, .int x1)]) rfl ?_
  intro p e s m below meth c ls C hH hl
  replace C : Cx 50 D ad κ p s m _ meth c cX11_count RX11 2 (some .int) := C
  have hx := C.1
  have hb := C.2.1
  have hown := C.2.2.2.1
  have hts := C.2.2.2.2.1
  rw [FX11_count] at h
  refine lv_iload_n hx hb dX11_count_0 rfl (lv_at hl 1 rfl) ?_
  by_cases hs_1 : x1 = 0
  · rw [if_pos hs_1] at h
    refine lv_tableIn (off := 99) (tgt := 100) hx hb dX11_count_1 (by rw [hs_1]; decide) (by rw [hs_1]; decide) (by rw [hs_1]; rfl) (by decide) ?_
    refine lv_aload_n hx hb dX11_count_100 rfl (lv_at hl 0 rfl) ?_
    refine g_get C hH 0 (Nat.le_of_ble_eq_true rfl) rfl fl_X11_28 (v := .ref (ad 3)) rfl dX11_count_101 ?_
    refine g_get C hH 3 (Nat.le_of_ble_eq_true rfl) rfl fl_X11_241 (v := .int (σ.1 3 0)) rfl dX11_count_104 ?_
    exact g_ret C hH h dX11_count_107
  · rw [if_neg hs_1] at h
    by_cases hs_2 : x1 = 1
    · rw [if_pos hs_2] at h
      refine lv_tableIn (off := 107) (tgt := 108) hx hb dX11_count_1 (by rw [hs_2]; decide) (by rw [hs_2]; decide) (by rw [hs_2]; rfl) (by decide) ?_
      refine lv_aload_n hx hb dX11_count_108 rfl (lv_at hl 0 rfl) ?_
      refine g_get C hH 0 (Nat.le_of_ble_eq_true rfl) rfl fl_X11_28 (v := .ref (ad 3)) rfl dX11_count_109 ?_
      refine g_get C hH 3 (Nat.le_of_ble_eq_true rfl) rfl fl_X11_282 (v := .int (σ.1 3 1)) rfl dX11_count_112 ?_
      exact g_ret C hH h dX11_count_115
    · rw [if_neg hs_2] at h
      by_cases hs_3 : x1 = 2
      · rw [if_pos hs_3] at h
        refine lv_tableIn (off := 115) (tgt := 116) hx hb dX11_count_1 (by rw [hs_3]; decide) (by rw [hs_3]; decide) (by rw [hs_3]; rfl) (by decide) ?_
        refine lv_aload_n hx hb dX11_count_116 rfl (lv_at hl 0 rfl) ?_
        refine g_get C hH 0 (Nat.le_of_ble_eq_true rfl) rfl fl_X11_35 (v := .ref (ad 4)) rfl dX11_count_117 ?_
        refine g_get C hH 4 (Nat.le_of_ble_eq_true rfl) rfl fl_X11_203 (v := .ref (ad 14)) rfl dX11_count_120 ?_
        refine lv_bipush (v := 30) hx hb dX11_count_123 (by decide) ?_
        refine g_iald C hH 14 (Nat.le_of_ble_eq_true rfl) rfl (k := 30) (by decide) (ix_in rfl) dX11_count_125 ?_
        exact g_ret C hH h dX11_count_126
      · rw [if_neg hs_3] at h
        by_cases hs_4 : x1 = 3
        · rw [if_pos hs_4] at h
          refine lv_tableIn (off := 126) (tgt := 127) hx hb dX11_count_1 (by rw [hs_4]; decide) (by rw [hs_4]; decide) (by rw [hs_4]; rfl) (by decide) ?_
          refine lv_aload_n hx hb dX11_count_127 rfl (lv_at hl 0 rfl) ?_
          refine g_get C hH 0 (Nat.le_of_ble_eq_true rfl) rfl fl_X11_35 (v := .ref (ad 4)) rfl dX11_count_128 ?_
          refine g_get C hH 4 (Nat.le_of_ble_eq_true rfl) rfl fl_X11_203 (v := .ref (ad 14)) rfl dX11_count_131 ?_
          refine lv_bipush (v := 28) hx hb dX11_count_134 (by decide) ?_
          refine g_iald C hH 14 (Nat.le_of_ble_eq_true rfl) rfl (k := 28) (by decide) (ix_in rfl) dX11_count_136 ?_
          exact g_ret C hH h dX11_count_137
        · rw [if_neg hs_4] at h
          by_cases hs_5 : x1 = 4
          · rw [if_pos hs_5] at h
            refine lv_tableIn (off := 137) (tgt := 138) hx hb dX11_count_1 (by rw [hs_5]; decide) (by rw [hs_5]; decide) (by rw [hs_5]; rfl) (by decide) ?_
            refine lv_aload_n hx hb dX11_count_138 rfl (lv_at hl 0 rfl) ?_
            refine g_get C hH 0 (Nat.le_of_ble_eq_true rfl) rfl fl_X11_35 (v := .ref (ad 4)) rfl dX11_count_139 ?_
            refine g_get C hH 4 (Nat.le_of_ble_eq_true rfl) rfl fl_X11_203 (v := .ref (ad 14)) rfl dX11_count_142 ?_
            refine lv_bipush (v := 29) hx hb dX11_count_145 (by decide) ?_
            refine g_iald C hH 14 (Nat.le_of_ble_eq_true rfl) rfl (k := 29) (by decide) (ix_in rfl) dX11_count_147 ?_
            exact g_ret C hH h dX11_count_148
          · rw [if_neg hs_5] at h
            by_cases hs_6 : x1 = 5
            · rw [if_pos hs_6] at h
              refine lv_tableIn (off := 148) (tgt := 149) hx hb dX11_count_1 (by rw [hs_6]; decide) (by rw [hs_6]; decide) (by rw [hs_6]; rfl) (by decide) ?_
              refine lv_aload_n hx hb dX11_count_149 rfl (lv_at hl 0 rfl) ?_
              refine g_get C hH 0 (Nat.le_of_ble_eq_true rfl) rfl fl_X11_35 (v := .ref (ad 4)) rfl dX11_count_150 ?_
              refine g_get C hH 4 (Nat.le_of_ble_eq_true rfl) rfl fl_X11_203 (v := .ref (ad 14)) rfl dX11_count_153 ?_
              refine lv_bipush (v := 31) hx hb dX11_count_156 (by decide) ?_
              refine g_iald C hH 14 (Nat.le_of_ble_eq_true rfl) rfl (k := 31) (by decide) (ix_in rfl) dX11_count_158 ?_
              exact g_ret C hH h dX11_count_159
            · rw [if_neg hs_6] at h
              by_cases hs_7 : x1 = 6
              · rw [if_pos hs_7] at h
                refine lv_tableIn (off := 159) (tgt := 160) hx hb dX11_count_1 (by rw [hs_7]; decide) (by rw [hs_7]; decide) (by rw [hs_7]; rfl) (by decide) ?_
                refine lv_aload_n hx hb dX11_count_160 rfl (lv_at hl 0 rfl) ?_
                refine g_get C hH 0 (Nat.le_of_ble_eq_true rfl) rfl fl_X11_35 (v := .ref (ad 4)) rfl dX11_count_161 ?_
                refine g_get C hH 4 (Nat.le_of_ble_eq_true rfl) rfl fl_X11_203 (v := .ref (ad 14)) rfl dX11_count_164 ?_
                refine lv_bipush (v := 32) hx hb dX11_count_167 (by decide) ?_
                refine g_iald C hH 14 (Nat.le_of_ble_eq_true rfl) rfl (k := 32) (by decide) (ix_in rfl) dX11_count_169 ?_
                exact g_ret C hH h dX11_count_170
              · rw [if_neg hs_7] at h
                by_cases hs_8 : x1 = 7
                · rw [if_pos hs_8] at h
                  refine lv_tableIn (off := 170) (tgt := 171) hx hb dX11_count_1 (by rw [hs_8]; decide) (by rw [hs_8]; decide) (by rw [hs_8]; rfl) (by decide) ?_
                  refine lv_iconst (v := 1) hx hb dX11_count_171 (by decide) ?_
                  refine lv_iconst (v := 2) hx hb dX11_count_172 (by decide) ?_
                  refine lv_aload_n hx hb dX11_count_173 rfl (lv_at hl 0 rfl) ?_
                  refine g_get C hH 0 (Nat.le_of_ble_eq_true rfl) rfl fl_X11_28 (v := .ref (ad 3)) rfl dX11_count_174 ?_
                  refine g_get C hH 3 (Nat.le_of_ble_eq_true rfl) rfl fl_X11_241 (v := .int (σ.1 3 0)) rfl dX11_count_177 ?_
                  refine lv_imul hx hb dX11_count_180 ?_
                  refine lv_ishl hx hb dX11_count_181 ?_
                  exact g_ret C hH h dX11_count_182
                · rw [if_neg hs_8] at h
                  by_cases hs_9 : x1 = 8
                  · rw [if_pos hs_9] at h
                    refine lv_tableIn (off := 182) (tgt := 183) hx hb dX11_count_1 (by rw [hs_9]; decide) (by rw [hs_9]; decide) (by rw [hs_9]; rfl) (by decide) ?_
                    refine lv_aload_n hx hb dX11_count_183 rfl (lv_at hl 0 rfl) ?_
                    refine g_get C hH 0 (Nat.le_of_ble_eq_true rfl) rfl fl_X11_12 (v := .ref (ad 1)) rfl dX11_count_184 ?_
                    refine g_get C hH 1 (Nat.le_of_ble_eq_true rfl) rfl fl_X11_101 (v := .int (σ.1 1 1)) rfl dX11_count_187 ?_
                    exact g_ret C hH h dX11_count_190
                  · rw [if_neg hs_9] at h
                    by_cases hs_10 : x1 = 9
                    · rw [if_pos hs_10] at h
                      refine lv_tableIn (off := 190) (tgt := 191) hx hb dX11_count_1 (by rw [hs_10]; decide) (by rw [hs_10]; decide) (by rw [hs_10]; rfl) (by decide) ?_
                      refine lv_aload_n hx hb dX11_count_191 rfl (lv_at hl 0 rfl) ?_
                      refine g_get C hH 0 (Nat.le_of_ble_eq_true rfl) rfl fl_X11_45 (v := .ref (ad 6)) rfl dX11_count_192 ?_
                      refine g_get C hH 6 (Nat.le_of_ble_eq_true rfl) rfl fl_X11_323 (v := .int (σ.1 6 4)) rfl dX11_count_195 ?_
                      exact g_ret C hH h dX11_count_198
                    · rw [if_neg hs_10] at h
                      by_cases hs_11 : x1 = 10
                      · rw [if_pos hs_11] at h
                        refine lv_tableIn (off := 198) (tgt := 199) hx hb dX11_count_1 (by rw [hs_11]; decide) (by rw [hs_11]; decide) (by rw [hs_11]; rfl) (by decide) ?_
                        refine lv_aload_n hx hb dX11_count_199 rfl (lv_at hl 0 rfl) ?_
                        refine g_get C hH 0 (Nat.le_of_ble_eq_true rfl) rfl fl_X11_86 (v := .ref (ad 11)) rfl dX11_count_200 ?_
                        refine g_get C hH 11 (Nat.le_of_ble_eq_true rfl) rfl fl_X11_125 (v := .int (σ.1 11 6)) rfl dX11_count_203 ?_
                        exact g_ret C hH h dX11_count_206
                      · rw [if_neg hs_11] at h
                        by_cases hs_12 : x1 = 11
                        · rw [if_pos hs_12] at h
                          refine lv_tableIn (off := 206) (tgt := 207) hx hb dX11_count_1 (by rw [hs_12]; decide) (by rw [hs_12]; decide) (by rw [hs_12]; rfl) (by decide) ?_
                          refine lv_aload_n hx hb dX11_count_207 rfl (lv_at hl 0 rfl) ?_
                          refine g_get C hH 0 (Nat.le_of_ble_eq_true rfl) rfl fl_X11_45 (v := .ref (ad 6)) rfl dX11_count_208 ?_
                          obtain ⟨r_13, σ_14, hc_15, h⟩ := bdI_ex h
                          refine g_ci (g_runV (rest := []) C hH hl.1 cV_X11_326 6 (Nat.le_of_ble_eq_true rfl) rfl rfl (kX3_slotsHeld l D ad κ hc_15) ⟨rfl, rfl⟩ ⟨(Nat.le_of_ble_eq_true rfl), (Nat.le_of_ble_eq_true rfl)⟩ rfl rfl (Nat.le_of_ble_eq_true rfl) dX11_count_211 z00) hH (fun H locs hH => ?_)
                          exact g_ret C hH h dX11_count_214
                        · rw [if_neg hs_12] at h
                          by_cases hs_16 : x1 = 12
                          · rw [if_pos hs_16] at h
                            refine lv_tableIn (off := 214) (tgt := 215) hx hb dX11_count_1 (by rw [hs_16]; decide) (by rw [hs_16]; decide) (by rw [hs_16]; rfl) (by decide) ?_
                            refine lv_sipush (v := 255) hx hb dX11_count_215 (by decide) ?_
                            refine lv_aload_n hx hb dX11_count_218 rfl (lv_at hl 0 rfl) ?_
                            refine g_get C hH 0 (Nat.le_of_ble_eq_true rfl) rfl fl_X11_35 (v := .ref (ad 4)) rfl dX11_count_219 ?_
                            refine lv_bipush (v := (-2)) hx hb dX11_count_222 (by decide) ?_
                            obtain ⟨r_17, σ_18, hc_19, h⟩ := bdI_ex h
                            refine g_ci (g_runV (rest := [.int (255 : Int32)]) C hH hl.1 cV_X11_159 4 (Nat.le_of_ble_eq_true rfl) rfl rfl (kX7_partsOf l D ad κ st_4 hc_19) ⟨rfl, rfl⟩ ⟨(Nat.le_of_ble_eq_true rfl), (Nat.le_of_ble_eq_true rfl)⟩ rfl rfl (Nat.le_of_ble_eq_true rfl) dX11_count_224 z00) hH (fun H locs hH => ?_)
                            refine lv_iconst (v := (-1)) hx hb dX11_count_227 (by decide) ?_
                            refine lv_ixor hx hb dX11_count_228 ?_
                            refine lv_iand hx hb dX11_count_229 ?_
                            exact g_ret C hH h dX11_count_230
                          · rw [if_neg hs_16] at h
                            by_cases hs_20 : x1 = 13
                            · rw [if_pos hs_20] at h
                              refine lv_tableIn (off := 230) (tgt := 231) hx hb dX11_count_1 (by rw [hs_20]; decide) (by rw [hs_20]; decide) (by rw [hs_20]; rfl) (by decide) ?_
                              refine lv_aload_n hx hb dX11_count_231 rfl (lv_at hl 0 rfl) ?_
                              refine g_get C hH 0 (Nat.le_of_ble_eq_true rfl) rfl fl_X11_35 (v := .ref (ad 4)) rfl dX11_count_232 ?_
                              obtain ⟨r_21, σ_22, hc_23, h⟩ := bdI_ex h
                              refine g_ci (g_runV (rest := []) C hH hl.1 cV_X11_329 4 (Nat.le_of_ble_eq_true rfl) rfl rfl (kX7_gainedByAll l D ad κ hc_23) ⟨rfl, rfl⟩ ⟨(Nat.le_of_ble_eq_true rfl), (Nat.le_of_ble_eq_true rfl)⟩ rfl rfl (Nat.le_of_ble_eq_true rfl) dX11_count_235 z00) hH (fun H locs hH => ?_)
                              exact g_ret C hH h dX11_count_238
                            · rw [if_neg hs_20] at h
                              by_cases hs_24 : x1 = 14
                              · rw [if_pos hs_24] at h
                                refine lv_tableIn (off := 238) (tgt := 239) hx hb dX11_count_1 (by rw [hs_24]; decide) (by rw [hs_24]; decide) (by rw [hs_24]; rfl) (by decide) ?_
                                refine lv_aload_n hx hb dX11_count_239 rfl (lv_at hl 0 rfl) ?_
                                refine g_get C hH 0 (Nat.le_of_ble_eq_true rfl) rfl fl_X11_35 (v := .ref (ad 4)) rfl dX11_count_240 ?_
                                obtain ⟨r_25, σ_26, hc_27, h⟩ := bdI_ex h
                                refine g_ci (g_runV (rest := []) C hH hl.1 cV_X11_332 4 (Nat.le_of_ble_eq_true rfl) rfl rfl (kX7_paidByAll l D ad κ hc_27) ⟨rfl, rfl⟩ ⟨(Nat.le_of_ble_eq_true rfl), (Nat.le_of_ble_eq_true rfl)⟩ rfl rfl (Nat.le_of_ble_eq_true rfl) dX11_count_243 z00) hH (fun H locs hH => ?_)
                                exact g_ret C hH h dX11_count_246
                              · rw [if_neg hs_24] at h
                                by_cases hs_28 : x1 = 15
                                · rw [if_pos hs_28] at h
                                  refine lv_tableIn (off := 246) (tgt := 247) hx hb dX11_count_1 (by rw [hs_28]; decide) (by rw [hs_28]; decide) (by rw [hs_28]; rfl) (by decide) ?_
                                  refine lv_aload_n hx hb dX11_count_247 rfl (lv_at hl 0 rfl) ?_
                                  obtain ⟨r_29, σ_30, hc_31, h⟩ := bdI_ex h
                                  refine g_ci (g_runV (rest := []) C hH hl.1 cV_X11_258 0 (Nat.le_of_ble_eq_true rfl) rfl rfl (kX11_mattersThereAre l D ad κ hc_31) ⟨rfl, rfl⟩ ⟨(Nat.le_of_ble_eq_true rfl), (Nat.le_of_ble_eq_true rfl)⟩ rfl rfl (Nat.le_of_ble_eq_true rfl) dX11_count_248 z00) hH (fun H locs hH => ?_)
                                  exact g_ret C hH h dX11_count_251
                                · rw [if_neg hs_28] at h
                                  by_cases hs_32 : x1 = 16
                                  · rw [if_pos hs_32] at h
                                    refine lv_tableIn (off := 251) (tgt := 252) hx hb dX11_count_1 (by rw [hs_32]; decide) (by rw [hs_32]; decide) (by rw [hs_32]; rfl) (by decide) ?_
                                    refine lv_aload_n hx hb dX11_count_252 rfl (lv_at hl 0 rfl) ?_
                                    refine g_get C hH 0 (Nat.le_of_ble_eq_true rfl) rfl fl_X11_35 (v := .ref (ad 4)) rfl dX11_count_253 ?_
                                    refine lv_bipush (v := (-2)) hx hb dX11_count_256 (by decide) ?_
                                    obtain ⟨r_33, σ_34, hc_35, h⟩ := bdI_ex h
                                    refine g_ci (g_runV (rest := []) C hH hl.1 cV_X11_159 4 (Nat.le_of_ble_eq_true rfl) rfl rfl (kX7_partsOf l D ad κ st_4 hc_35) ⟨rfl, rfl⟩ ⟨(Nat.le_of_ble_eq_true rfl), (Nat.le_of_ble_eq_true rfl)⟩ rfl rfl (Nat.le_of_ble_eq_true rfl) dX11_count_258 z00) hH (fun H locs hH => ?_)
                                    obtain ⟨r_36, σ_37, hc_38, h⟩ := bdI_ex h
                                    refine g_ci (g_runS (rest := []) C hH hl.1 cS_X11_264 (kJ6_bitCount_0f7a4 l D ad κ hc_38) ⟨rfl, rfl⟩ ⟨(Nat.le_of_ble_eq_true rfl), (Nat.le_of_ble_eq_true rfl)⟩ rfl rfl (Nat.le_of_ble_eq_true rfl) dX11_count_261 z00) hH (fun H locs hH => ?_)
                                    exact g_ret C hH h dX11_count_264
                                  · rw [if_neg hs_32] at h
                                    by_cases hs_39 : x1 = 17
                                    · rw [if_pos hs_39] at h
                                      refine lv_tableIn (off := 264) (tgt := 265) hx hb dX11_count_1 (by rw [hs_39]; decide) (by rw [hs_39]; decide) (by rw [hs_39]; rfl) (by decide) ?_
                                      refine lv_aload_n hx hb dX11_count_265 rfl (lv_at hl 0 rfl) ?_
                                      obtain ⟨r_40, σ_41, hc_42, h⟩ := bdI_ex h
                                      refine g_ci (g_runV (rest := []) C hH hl.1 cV_X11_335 0 (Nat.le_of_ble_eq_true rfl) rfl rfl (kX11_sureCoughs l D ad κ hc_42) ⟨rfl, rfl⟩ ⟨(Nat.le_of_ble_eq_true rfl), (Nat.le_of_ble_eq_true rfl)⟩ rfl rfl (Nat.le_of_ble_eq_true rfl) dX11_count_266 z00) hH (fun H locs hH => ?_)
                                      exact g_ret C hH h dX11_count_269
                                    · rw [if_neg hs_39] at h
                                      by_cases hs_43 : x1 = 18
                                      · rw [if_pos hs_43] at h
                                        refine lv_tableIn (off := 269) (tgt := 270) hx hb dX11_count_1 (by rw [hs_43]; decide) (by rw [hs_43]; decide) (by rw [hs_43]; rfl) (by decide) ?_
                                        refine lv_aload_n hx hb dX11_count_270 rfl (lv_at hl 0 rfl) ?_
                                        obtain ⟨r_44, σ_45, hc_46, h⟩ := bdI_ex h
                                        refine g_ci (g_runV (rest := []) C hH hl.1 cV_X11_338 0 (Nat.le_of_ble_eq_true rfl) rfl rfl (kX11_allQuarters l D ad κ hc_46) ⟨rfl, rfl⟩ ⟨(Nat.le_of_ble_eq_true rfl), (Nat.le_of_ble_eq_true rfl)⟩ rfl rfl (Nat.le_of_ble_eq_true rfl) dX11_count_271 z00) hH (fun H locs hH => ?_)
                                        exact g_ret C hH h dX11_count_274
                                      · rw [if_neg hs_43] at h
                                        by_cases hs_47 : x1 = 19
                                        · rw [if_pos hs_47] at h
                                          refine lv_tableIn (off := 274) (tgt := 275) hx hb dX11_count_1 (by rw [hs_47]; decide) (by rw [hs_47]; decide) (by rw [hs_47]; rfl) (by decide) ?_
                                          refine lv_aload_n hx hb dX11_count_275 rfl (lv_at hl 0 rfl) ?_
                                          obtain ⟨r_48, σ_49, hc_50, h⟩ := bdI_ex h
                                          refine g_ci (g_runV (rest := []) C hH hl.1 cV_X11_341 0 (Nat.le_of_ble_eq_true rfl) rfl rfl (kX11_familiesWithoutLease l D ad κ hc_50) ⟨rfl, rfl⟩ ⟨(Nat.le_of_ble_eq_true rfl), (Nat.le_of_ble_eq_true rfl)⟩ rfl rfl (Nat.le_of_ble_eq_true rfl) dX11_count_276 z00) hH (fun H locs hH => ?_)
                                          exact g_ret C hH h dX11_count_279
                                        · rw [if_neg hs_47] at h
                                          by_cases hs_51 : x1 = 20
                                          · rw [if_pos hs_51] at h
                                            refine lv_tableIn (off := 279) (tgt := 280) hx hb dX11_count_1 (by rw [hs_51]; decide) (by rw [hs_51]; decide) (by rw [hs_51]; rfl) (by decide) ?_
                                            refine lv_aload_n hx hb dX11_count_280 rfl (lv_at hl 0 rfl) ?_
                                            obtain ⟨r_52, σ_53, hc_54, h⟩ := bdI_ex h
                                            refine g_ci (g_runV (rest := []) C hH hl.1 cV_X11_344 0 (Nat.le_of_ble_eq_true rfl) rfl rfl (kX11_allZeal l D ad κ hc_54) ⟨rfl, rfl⟩ ⟨(Nat.le_of_ble_eq_true rfl), (Nat.le_of_ble_eq_true rfl)⟩ rfl rfl (Nat.le_of_ble_eq_true rfl) dX11_count_281 z00) hH (fun H locs hH => ?_)
                                            exact g_ret C hH h dX11_count_284
                                          · rw [if_neg hs_51] at h
                                            refine lv_tableOut (tgt := 285) hx hb dX11_count_1 (by have a0 := lv_neT hs_1 (show (0 : Int32).toInt = 0 from by decide); have a1 := lv_neT hs_2 (show (1 : Int32).toInt = 1 from by decide); have a2 := lv_neT hs_3 (show (2 : Int32).toInt = 2 from by decide); have a3 := lv_neT hs_4 (show (3 : Int32).toInt = 3 from by decide); have a4 := lv_neT hs_5 (show (4 : Int32).toInt = 4 from by decide); have a5 := lv_neT hs_6 (show (5 : Int32).toInt = 5 from by decide); have a6 := lv_neT hs_7 (show (6 : Int32).toInt = 6 from by decide); have a7 := lv_neT hs_8 (show (7 : Int32).toInt = 7 from by decide); have a8 := lv_neT hs_9 (show (8 : Int32).toInt = 8 from by decide); have a9 := lv_neT hs_10 (show (9 : Int32).toInt = 9 from by decide); have a10 := lv_neT hs_11 (show (10 : Int32).toInt = 10 from by decide); have a11 := lv_neT hs_12 (show (11 : Int32).toInt = 11 from by decide); have a12 := lv_neT hs_16 (show (12 : Int32).toInt = 12 from by decide); have a13 := lv_neT hs_20 (show (13 : Int32).toInt = 13 from by decide); have a14 := lv_neT hs_24 (show (14 : Int32).toInt = 14 from by decide); have a15 := lv_neT hs_28 (show (15 : Int32).toInt = 15 from by decide); have a16 := lv_neT hs_32 (show (16 : Int32).toInt = 16 from by decide); have a17 := lv_neT hs_39 (show (17 : Int32).toInt = 17 from by decide); have a18 := lv_neT hs_43 (show (18 : Int32).toInt = 18 from by decide); have a19 := lv_neT hs_47 (show (19 : Int32).toInt = 19 from by decide); have a20 := lv_neT hs_51 (show (20 : Int32).toInt = 20 from by decide); omega) (by decide) ?_
                                            refine lv_iconst (v := (-1)) hx hb dX11_count_285 (by decide) ?_
                                            exact g_ret C hH h dX11_count_286
end
