theorem dX5_kindNow_0 : decode cX5_kindNow 0 = .ok (.aload_n 0, 1) := by decide +kernel
theorem dX5_kindNow_1 : decode cX5_kindNow 1 = .ok (.getfield 48, 3) := by decide +kernel
theorem dX5_kindNow_4 : decode cX5_kindNow 4 = .ok (.sipush 400, 3) := by decide +kernel
theorem dX5_kindNow_7 : decode cX5_kindNow 7 = .ok (.if_icmp .gt 18, 3) := by decide +kernel
theorem dX5_kindNow_10 : decode cX5_kindNow 10 = .ok (.aload_n 0, 1) := by decide +kernel
theorem dX5_kindNow_11 : decode cX5_kindNow 11 = .ok (.getfield 35, 3) := by decide +kernel
theorem dX5_kindNow_14 : decode cX5_kindNow 14 = .ok (.getfield 185, 3) := by decide +kernel
theorem dX5_kindNow_17 : decode cX5_kindNow 17 = .ok (.aload_n 0, 1) := by decide +kernel
theorem dX5_kindNow_18 : decode cX5_kindNow 18 = .ok (.getfield 48, 3) := by decide +kernel
theorem dX5_kindNow_21 : decode cX5_kindNow 21 = .ok (.iaload, 1) := by decide +kernel
theorem dX5_kindNow_22 : decode cX5_kindNow 22 = .ok (.goto 5, 3) := by decide +kernel
theorem dX5_kindNow_25 : decode cX5_kindNow 25 = .ok (.bipush 24, 2) := by decide +kernel
theorem dX5_kindNow_27 : decode cX5_kindNow 27 = .ok (.ireturn, 1) := by decide +kernel
theorem dX5_fail_0 : decode cX5_fail 0 = .ok (.aload_n 0, 1) := by decide +kernel
theorem dX5_fail_1 : decode cX5_fail 1 = .ok (.iload_n 1, 1) := by decide +kernel
theorem dX5_fail_2 : decode cX5_fail 2 = .ok (.putfield 51, 3) := by decide +kernel
theorem dX5_fail_5 : decode cX5_fail 5 = .ok (.aload_n 0, 1) := by decide +kernel
theorem dX5_fail_6 : decode cX5_fail 6 = .ok (.aload_n 0, 1) := by decide +kernel
theorem dX5_fail_7 : decode cX5_fail 7 = .ok (.getfield 48, 3) := by decide +kernel
theorem dX5_fail_10 : decode cX5_fail 10 = .ok (.sipush 400, 3) := by decide +kernel
theorem dX5_fail_13 : decode cX5_fail 13 = .ok (.if_icmp .gt 18, 3) := by decide +kernel
theorem dX5_fail_16 : decode cX5_fail 16 = .ok (.aload_n 0, 1) := by decide +kernel
theorem dX5_fail_17 : decode cX5_fail 17 = .ok (.getfield 35, 3) := by decide +kernel
theorem dX5_fail_20 : decode cX5_fail 20 = .ok (.getfield 191, 3) := by decide +kernel
theorem dX5_fail_23 : decode cX5_fail 23 = .ok (.aload_n 0, 1) := by decide +kernel
theorem dX5_fail_24 : decode cX5_fail 24 = .ok (.getfield 48, 3) := by decide +kernel
theorem dX5_fail_27 : decode cX5_fail 27 = .ok (.iaload, 1) := by decide +kernel
theorem dX5_fail_28 : decode cX5_fail 28 = .ok (.goto 4, 3) := by decide +kernel
theorem dX5_fail_31 : decode cX5_fail 31 = .ok (.iconst (-1), 1) := by decide +kernel
theorem dX5_fail_32 : decode cX5_fail 32 = .ok (.putfield 18, 3) := by decide +kernel
theorem dX5_fail_35 : decode cX5_fail 35 = .ok (.iconst 0, 1) := by decide +kernel
theorem dX5_fail_36 : decode cX5_fail 36 = .ok (.ireturn, 1) := by decide +kernel
theorem dX5_take_0 : decode cX5_take 0 = .ok (.aload_n 0, 1) := by decide +kernel
theorem dX5_take_1 : decode cX5_take 1 = .ok (.invokevirtual 60, 3) := by decide +kernel
theorem dX5_take_4 : decode cX5_take 4 = .ok (.iload_n 1, 1) := by decide +kernel
theorem dX5_take_5 : decode cX5_take 5 = .ok (.if_icmp .eq 9, 3) := by decide +kernel
theorem dX5_take_8 : decode cX5_take 8 = .ok (.aload_n 0, 1) := by decide +kernel
theorem dX5_take_9 : decode cX5_take 9 = .ok (.iconst 1, 1) := by decide +kernel
theorem dX5_take_10 : decode cX5_take 10 = .ok (.invokevirtual 86, 3) := by decide +kernel
theorem dX5_take_13 : decode cX5_take 13 = .ok (.ireturn, 1) := by decide +kernel
theorem dX5_take_14 : decode cX5_take 14 = .ok (.aload_n 0, 1) := by decide +kernel
theorem dX5_take_15 : decode cX5_take 15 = .ok (.getfield 48, 3) := by decide +kernel
theorem dX5_take_18 : decode cX5_take 18 = .ok (.sipush 400, 3) := by decide +kernel
theorem dX5_take_21 : decode cX5_take 21 = .ok (.if_icmp .lt 9, 3) := by decide +kernel
theorem dX5_take_24 : decode cX5_take 24 = .ok (.aload_n 0, 1) := by decide +kernel
theorem dX5_take_25 : decode cX5_take 25 = .ok (.iconst 2, 1) := by decide +kernel
theorem dX5_take_26 : decode cX5_take 26 = .ok (.invokevirtual 86, 3) := by decide +kernel
theorem dX5_take_29 : decode cX5_take 29 = .ok (.ireturn, 1) := by decide +kernel
theorem dX5_take_30 : decode cX5_take 30 = .ok (.aload_n 0, 1) := by decide +kernel
theorem dX5_take_31 : decode cX5_take 31 = .ok (.aload_n 0, 1) := by decide +kernel
theorem dX5_take_32 : decode cX5_take 32 = .ok (.getfield 35, 3) := by decide +kernel
theorem dX5_take_35 : decode cX5_take 35 = .ok (.getfield 188, 3) := by decide +kernel
theorem dX5_take_38 : decode cX5_take 38 = .ok (.aload_n 0, 1) := by decide +kernel
theorem dX5_take_39 : decode cX5_take 39 = .ok (.getfield 48, 3) := by decide +kernel
theorem dX5_take_42 : decode cX5_take 42 = .ok (.laload, 1) := by decide +kernel
theorem dX5_take_43 : decode cX5_take 43 = .ok (.putfield 101, 3) := by decide +kernel
theorem dX5_take_46 : decode cX5_take 46 = .ok (.aload_n 0, 1) := by decide +kernel
theorem dX5_take_47 : decode cX5_take 47 = .ok (.aload_n 0, 1) := by decide +kernel
theorem dX5_take_48 : decode cX5_take 48 = .ok (.getfield 35, 3) := by decide +kernel
theorem dX5_take_51 : decode cX5_take 51 = .ok (.getfield 191, 3) := by decide +kernel
theorem dX5_take_54 : decode cX5_take 54 = .ok (.aload_n 0, 1) := by decide +kernel
theorem dX5_take_55 : decode cX5_take 55 = .ok (.getfield 48, 3) := by decide +kernel
theorem dX5_take_58 : decode cX5_take 58 = .ok (.iaload, 1) := by decide +kernel
theorem dX5_take_59 : decode cX5_take 59 = .ok (.putfield 194, 3) := by decide +kernel
theorem dX5_take_62 : decode cX5_take 62 = .ok (.aload_n 0, 1) := by decide +kernel
theorem dX5_take_63 : decode cX5_take 63 = .ok (.dup, 1) := by decide +kernel
theorem dX5_take_64 : decode cX5_take 64 = .ok (.getfield 48, 3) := by decide +kernel
theorem dX5_take_67 : decode cX5_take 67 = .ok (.iconst 1, 1) := by decide +kernel
theorem dX5_take_68 : decode cX5_take 68 = .ok (.iadd, 1) := by decide +kernel
theorem dX5_take_69 : decode cX5_take 69 = .ok (.putfield 48, 3) := by decide +kernel
theorem dX5_take_72 : decode cX5_take 72 = .ok (.iconst 1, 1) := by decide +kernel
theorem dX5_take_73 : decode cX5_take 73 = .ok (.ireturn, 1) := by decide +kernel
theorem dX5_failLater_0 : decode cX5_failLater 0 = .ok (.aload_n 0, 1) := by decide +kernel
theorem dX5_failLater_1 : decode cX5_failLater 1 = .ok (.getfield 54, 3) := by decide +kernel
theorem dX5_failLater_4 : decode cX5_failLater 4 = .ok (.ifCond .ne 16, 3) := by decide +kernel
theorem dX5_failLater_7 : decode cX5_failLater 7 = .ok (.aload_n 0, 1) := by decide +kernel
theorem dX5_failLater_8 : decode cX5_failLater 8 = .ok (.iload_n 1, 1) := by decide +kernel
theorem dX5_failLater_9 : decode cX5_failLater 9 = .ok (.putfield 54, 3) := by decide +kernel
theorem dX5_failLater_12 : decode cX5_failLater 12 = .ok (.aload_n 0, 1) := by decide +kernel
theorem dX5_failLater_13 : decode cX5_failLater 13 = .ok (.aload_n 0, 1) := by decide +kernel
theorem dX5_failLater_14 : decode cX5_failLater 14 = .ok (.getfield 194, 3) := by decide +kernel
theorem dX5_failLater_17 : decode cX5_failLater 17 = .ok (.putfield 57, 3) := by decide +kernel
theorem dX5_failLater_20 : decode cX5_failLater 20 = .ok (.return_, 1) := by decide +kernel
theorem dX5_takeNumber_0 : decode cX5_takeNumber 0 = .ok (.aload_n 0, 1) := by decide +kernel
theorem dX5_takeNumber_1 : decode cX5_takeNumber 1 = .ok (.bipush 23, 2) := by decide +kernel
theorem dX5_takeNumber_3 : decode cX5_takeNumber 3 = .ok (.invokevirtual 92, 3) := by decide +kernel
theorem dX5_takeNumber_6 : decode cX5_takeNumber 6 = .ok (.ifCond .ne 5, 3) := by decide +kernel
theorem dX5_takeNumber_9 : decode cX5_takeNumber 9 = .ok (.iconst 0, 1) := by decide +kernel
theorem dX5_takeNumber_10 : decode cX5_takeNumber 10 = .ok (.ireturn, 1) := by decide +kernel
theorem dX5_takeNumber_11 : decode cX5_takeNumber 11 = .ok (.aload_n 0, 1) := by decide +kernel
theorem dX5_takeNumber_12 : decode cX5_takeNumber 12 = .ok (.getfield 101, 3) := by decide +kernel
theorem dX5_takeNumber_15 : decode cX5_takeNumber 15 = .ok (.iload_n 1, 1) := by decide +kernel
theorem dX5_takeNumber_16 : decode cX5_takeNumber 16 = .ok (.i2l, 1) := by decide +kernel
theorem dX5_takeNumber_17 : decode cX5_takeNumber 17 = .ok (.lcmp, 1) := by decide +kernel
theorem dX5_takeNumber_18 : decode cX5_takeNumber 18 = .ok (.ifCond .le 8, 3) := by decide +kernel
theorem dX5_takeNumber_21 : decode cX5_takeNumber 21 = .ok (.aload_n 0, 1) := by decide +kernel
theorem dX5_takeNumber_22 : decode cX5_takeNumber 22 = .ok (.iconst 5, 1) := by decide +kernel
theorem dX5_takeNumber_23 : decode cX5_takeNumber 23 = .ok (.invokevirtual 112, 3) := by decide +kernel
theorem dX5_takeNumber_26 : decode cX5_takeNumber 26 = .ok (.iconst 1, 1) := by decide +kernel
theorem dX5_takeNumber_27 : decode cX5_takeNumber 27 = .ok (.ireturn, 1) := by decide +kernel
theorem dX5_readMinute_0 : decode cX5_readMinute 0 = .ok (.aload_n 0, 1) := by decide +kernel
theorem dX5_readMinute_1 : decode cX5_readMinute 1 = .ok (.getfield 14, 3) := by decide +kernel
theorem dX5_readMinute_4 : decode cX5_readMinute 4 = .ok (.getfield 89, 3) := by decide +kernel
theorem dX5_readMinute_7 : decode cX5_readMinute 7 = .ok (.bipush 10, 2) := by decide +kernel
theorem dX5_readMinute_9 : decode cX5_readMinute 9 = .ok (.if_icmp .lt 9, 3) := by decide +kernel
theorem dX5_readMinute_12 : decode cX5_readMinute 12 = .ok (.aload_n 0, 1) := by decide +kernel
theorem dX5_readMinute_13 : decode cX5_readMinute 13 = .ok (.iconst 2, 1) := by decide +kernel
theorem dX5_readMinute_14 : decode cX5_readMinute 14 = .ok (.invokevirtual 86, 3) := by decide +kernel
theorem dX5_readMinute_17 : decode cX5_readMinute 17 = .ok (.ireturn, 1) := by decide +kernel
theorem dX5_readMinute_18 : decode cX5_readMinute 18 = .ok (.aload_n 0, 1) := by decide +kernel
theorem dX5_readMinute_19 : decode cX5_readMinute 19 = .ok (.iconst 0, 1) := by decide +kernel
theorem dX5_readMinute_20 : decode cX5_readMinute 20 = .ok (.invokevirtual 92, 3) := by decide +kernel
theorem dX5_readMinute_23 : decode cX5_readMinute 23 = .ok (.ifCond .eq 11, 3) := by decide +kernel
theorem dX5_readMinute_26 : decode cX5_readMinute 26 = .ok (.aload_n 0, 1) := by decide +kernel
theorem dX5_readMinute_27 : decode cX5_readMinute 27 = .ok (.iconst 5, 1) := by decide +kernel
theorem dX5_readMinute_28 : decode cX5_readMinute 28 = .ok (.invokevirtual 95, 3) := by decide +kernel
theorem dX5_readMinute_31 : decode cX5_readMinute 31 = .ok (.ifCond .ne 5, 3) := by decide +kernel
theorem dX5_readMinute_34 : decode cX5_readMinute 34 = .ok (.iconst 0, 1) := by decide +kernel
theorem dX5_readMinute_35 : decode cX5_readMinute 35 = .ok (.ireturn, 1) := by decide +kernel
theorem dX5_readMinute_36 : decode cX5_readMinute 36 = .ok (.aload_n 0, 1) := by decide +kernel
theorem dX5_readMinute_37 : decode cX5_readMinute 37 = .ok (.getfield 14, 3) := by decide +kernel
theorem dX5_readMinute_40 : decode cX5_readMinute 40 = .ok (.getfield 98, 3) := by decide +kernel
theorem dX5_readMinute_43 : decode cX5_readMinute 43 = .ok (.aload_n 0, 1) := by decide +kernel
theorem dX5_readMinute_44 : decode cX5_readMinute 44 = .ok (.getfield 14, 3) := by decide +kernel
theorem dX5_readMinute_47 : decode cX5_readMinute 47 = .ok (.getfield 89, 3) := by decide +kernel
theorem dX5_readMinute_50 : decode cX5_readMinute 50 = .ok (.aload_n 0, 1) := by decide +kernel
theorem dX5_readMinute_51 : decode cX5_readMinute 51 = .ok (.getfield 101, 3) := by decide +kernel
theorem dX5_readMinute_54 : decode cX5_readMinute 54 = .ok (.l2i, 1) := by decide +kernel
theorem dX5_readMinute_55 : decode cX5_readMinute 55 = .ok (.iastore, 1) := by decide +kernel
theorem dX5_readMinute_56 : decode cX5_readMinute 56 = .ok (.aload_n 0, 1) := by decide +kernel
theorem dX5_readMinute_57 : decode cX5_readMinute 57 = .ok (.getfield 14, 3) := by decide +kernel
theorem dX5_readMinute_60 : decode cX5_readMinute 60 = .ok (.dup, 1) := by decide +kernel
theorem dX5_readMinute_61 : decode cX5_readMinute 61 = .ok (.getfield 89, 3) := by decide +kernel
theorem dX5_readMinute_64 : decode cX5_readMinute 64 = .ok (.iconst 1, 1) := by decide +kernel
theorem dX5_readMinute_65 : decode cX5_readMinute 65 = .ok (.iadd, 1) := by decide +kernel
theorem dX5_readMinute_66 : decode cX5_readMinute 66 = .ok (.putfield 89, 3) := by decide +kernel
theorem dX5_readMinute_69 : decode cX5_readMinute 69 = .ok (.aload_n 0, 1) := by decide +kernel
theorem dX5_readMinute_70 : decode cX5_readMinute 70 = .ok (.bipush 59, 2) := by decide +kernel
theorem dX5_readMinute_72 : decode cX5_readMinute 72 = .ok (.invokevirtual 92, 3) := by decide +kernel
theorem dX5_readMinute_75 : decode cX5_readMinute 75 = .ok (.ireturn, 1) := by decide +kernel
theorem dX5_familyNamed_0 : decode cX5_familyNamed 0 = .ok (.iconst 0, 1) := by decide +kernel
theorem dX5_familyNamed_1 : decode cX5_familyNamed 1 = .ok (.istore_n 3, 1) := by decide +kernel
theorem dX5_familyNamed_2 : decode cX5_familyNamed 2 = .ok (.iload_n 3, 1) := by decide +kernel
theorem dX5_familyNamed_3 : decode cX5_familyNamed 3 = .ok (.aload_n 0, 1) := by decide +kernel
theorem dX5_familyNamed_4 : decode cX5_familyNamed 4 = .ok (.getfield 14, 3) := by decide +kernel
theorem dX5_familyNamed_7 : decode cX5_familyNamed 7 = .ok (.getfield 105, 3) := by decide +kernel
theorem dX5_familyNamed_10 : decode cX5_familyNamed 10 = .ok (.if_icmp .ge 22, 3) := by decide +kernel
theorem dX5_familyNamed_13 : decode cX5_familyNamed 13 = .ok (.aload_n 0, 1) := by decide +kernel
theorem dX5_familyNamed_14 : decode cX5_familyNamed 14 = .ok (.getfield 22, 3) := by decide +kernel
theorem dX5_familyNamed_17 : decode cX5_familyNamed 17 = .ok (.iload_n 3, 1) := by decide +kernel
theorem dX5_familyNamed_18 : decode cX5_familyNamed 18 = .ok (.laload, 1) := by decide +kernel
theorem dX5_familyNamed_19 : decode cX5_familyNamed 19 = .ok (.lload_n 1, 1) := by decide +kernel
theorem dX5_familyNamed_20 : decode cX5_familyNamed 20 = .ok (.lcmp, 1) := by decide +kernel
theorem dX5_familyNamed_21 : decode cX5_familyNamed 21 = .ok (.ifCond .ne 5, 3) := by decide +kernel
theorem dX5_familyNamed_24 : decode cX5_familyNamed 24 = .ok (.iload_n 3, 1) := by decide +kernel
theorem dX5_familyNamed_25 : decode cX5_familyNamed 25 = .ok (.ireturn, 1) := by decide +kernel
theorem dX5_familyNamed_26 : decode cX5_familyNamed 26 = .ok (.iinc 3 1, 3) := by decide +kernel
theorem dX5_familyNamed_29 : decode cX5_familyNamed 29 = .ok (.goto (-27), 3) := by decide +kernel
theorem dX5_familyNamed_32 : decode cX5_familyNamed 32 = .ok (.iconst (-1), 1) := by decide +kernel
theorem dX5_familyNamed_33 : decode cX5_familyNamed 33 = .ok (.ireturn, 1) := by decide +kernel
theorem dX5_readFamily_0 : decode cX5_readFamily 0 = .ok (.aload_n 0, 1) := by decide +kernel
theorem dX5_readFamily_1 : decode cX5_readFamily 1 = .ok (.getfield 14, 3) := by decide +kernel
theorem dX5_readFamily_4 : decode cX5_readFamily 4 = .ok (.getfield 105, 3) := by decide +kernel
theorem dX5_readFamily_7 : decode cX5_readFamily 7 = .ok (.istore_n 1, 1) := by decide +kernel
theorem dX5_readFamily_8 : decode cX5_readFamily 8 = .ok (.iload_n 1, 1) := by decide +kernel
theorem dX5_readFamily_9 : decode cX5_readFamily 9 = .ok (.iconst 5, 1) := by decide +kernel
theorem dX5_readFamily_10 : decode cX5_readFamily 10 = .ok (.if_icmp .lt 9, 3) := by decide +kernel
theorem dX5_readFamily_13 : decode cX5_readFamily 13 = .ok (.aload_n 0, 1) := by decide +kernel
theorem dX5_readFamily_14 : decode cX5_readFamily 14 = .ok (.iconst 2, 1) := by decide +kernel
theorem dX5_readFamily_15 : decode cX5_readFamily 15 = .ok (.invokevirtual 86, 3) := by decide +kernel
theorem dX5_readFamily_18 : decode cX5_readFamily 18 = .ok (.ireturn, 1) := by decide +kernel
theorem dX5_readFamily_19 : decode cX5_readFamily 19 = .ok (.aload_n 0, 1) := by decide +kernel
theorem dX5_readFamily_20 : decode cX5_readFamily 20 = .ok (.iconst 1, 1) := by decide +kernel
theorem dX5_readFamily_21 : decode cX5_readFamily 21 = .ok (.invokevirtual 92, 3) := by decide +kernel
theorem dX5_readFamily_24 : decode cX5_readFamily 24 = .ok (.ifCond .eq 12, 3) := by decide +kernel
theorem dX5_readFamily_27 : decode cX5_readFamily 27 = .ok (.aload_n 0, 1) := by decide +kernel
theorem dX5_readFamily_28 : decode cX5_readFamily 28 = .ok (.bipush 22, 2) := by decide +kernel
theorem dX5_readFamily_30 : decode cX5_readFamily 30 = .ok (.invokevirtual 92, 3) := by decide +kernel
theorem dX5_readFamily_33 : decode cX5_readFamily 33 = .ok (.ifCond .ne 5, 3) := by decide +kernel
theorem dX5_readFamily_36 : decode cX5_readFamily 36 = .ok (.iconst 0, 1) := by decide +kernel
theorem dX5_readFamily_37 : decode cX5_readFamily 37 = .ok (.ireturn, 1) := by decide +kernel
theorem dX5_readFamily_38 : decode cX5_readFamily 38 = .ok (.aload_n 0, 1) := by decide +kernel
theorem dX5_readFamily_39 : decode cX5_readFamily 39 = .ok (.aload_n 0, 1) := by decide +kernel
theorem dX5_readFamily_40 : decode cX5_readFamily 40 = .ok (.getfield 101, 3) := by decide +kernel
theorem dX5_readFamily_43 : decode cX5_readFamily 43 = .ok (.invokevirtual 108, 3) := by decide +kernel
theorem dX5_readFamily_46 : decode cX5_readFamily 46 = .ok (.iconst (-1), 1) := by decide +kernel
theorem dX5_readFamily_47 : decode cX5_readFamily 47 = .ok (.if_icmp .eq 8, 3) := by decide +kernel
theorem dX5_readFamily_50 : decode cX5_readFamily 50 = .ok (.aload_n 0, 1) := by decide +kernel
theorem dX5_readFamily_51 : decode cX5_readFamily 51 = .ok (.iconst 3, 1) := by decide +kernel
theorem dX5_readFamily_52 : decode cX5_readFamily 52 = .ok (.invokevirtual 112, 3) := by decide +kernel
theorem dX5_readFamily_55 : decode cX5_readFamily 55 = .ok (.aload_n 0, 1) := by decide +kernel
theorem dX5_readFamily_56 : decode cX5_readFamily 56 = .ok (.getfield 22, 3) := by decide +kernel
theorem dX5_readFamily_59 : decode cX5_readFamily 59 = .ok (.iload_n 1, 1) := by decide +kernel
theorem dX5_readFamily_60 : decode cX5_readFamily 60 = .ok (.aload_n 0, 1) := by decide +kernel
theorem dX5_readFamily_61 : decode cX5_readFamily 61 = .ok (.getfield 101, 3) := by decide +kernel
theorem dX5_readFamily_64 : decode cX5_readFamily 64 = .ok (.lastore, 1) := by decide +kernel
theorem dX5_readFamily_65 : decode cX5_readFamily 65 = .ok (.aload_n 0, 1) := by decide +kernel
theorem dX5_readFamily_66 : decode cX5_readFamily 66 = .ok (.bipush 9, 2) := by decide +kernel
theorem dX5_readFamily_68 : decode cX5_readFamily 68 = .ok (.invokevirtual 95, 3) := by decide +kernel
theorem dX5_readFamily_71 : decode cX5_readFamily 71 = .ok (.ifCond .ne 5, 3) := by decide +kernel
theorem dX5_readFamily_74 : decode cX5_readFamily 74 = .ok (.iconst 0, 1) := by decide +kernel
theorem dX5_readFamily_75 : decode cX5_readFamily 75 = .ok (.ireturn, 1) := by decide +kernel
theorem dX5_readFamily_76 : decode cX5_readFamily 76 = .ok (.aload_n 0, 1) := by decide +kernel
theorem dX5_readFamily_77 : decode cX5_readFamily 77 = .ok (.getfield 14, 3) := by decide +kernel
theorem dX5_readFamily_80 : decode cX5_readFamily 80 = .ok (.getfield 116, 3) := by decide +kernel
theorem dX5_readFamily_83 : decode cX5_readFamily 83 = .ok (.iload_n 1, 1) := by decide +kernel
theorem dX5_readFamily_84 : decode cX5_readFamily 84 = .ok (.aload_n 0, 1) := by decide +kernel
theorem dX5_readFamily_85 : decode cX5_readFamily 85 = .ok (.getfield 101, 3) := by decide +kernel
theorem dX5_readFamily_88 : decode cX5_readFamily 88 = .ok (.l2i, 1) := by decide +kernel
theorem dX5_readFamily_89 : decode cX5_readFamily 89 = .ok (.iastore, 1) := by decide +kernel
theorem dX5_readFamily_90 : decode cX5_readFamily 90 = .ok (.aload_n 0, 1) := by decide +kernel
theorem dX5_readFamily_91 : decode cX5_readFamily 91 = .ok (.iconst 5, 1) := by decide +kernel
theorem dX5_readFamily_92 : decode cX5_readFamily 92 = .ok (.invokevirtual 95, 3) := by decide +kernel
theorem dX5_readFamily_95 : decode cX5_readFamily 95 = .ok (.ifCond .ne 5, 3) := by decide +kernel
theorem dX5_readFamily_98 : decode cX5_readFamily 98 = .ok (.iconst 0, 1) := by decide +kernel
theorem dX5_readFamily_99 : decode cX5_readFamily 99 = .ok (.ireturn, 1) := by decide +kernel
theorem dX5_readFamily_100 : decode cX5_readFamily 100 = .ok (.aload_n 0, 1) := by decide +kernel
theorem dX5_readFamily_101 : decode cX5_readFamily 101 = .ok (.getfield 14, 3) := by decide +kernel
theorem dX5_readFamily_104 : decode cX5_readFamily 104 = .ok (.getfield 119, 3) := by decide +kernel
theorem dX5_readFamily_107 : decode cX5_readFamily 107 = .ok (.iload_n 1, 1) := by decide +kernel
theorem dX5_readFamily_108 : decode cX5_readFamily 108 = .ok (.aload_n 0, 1) := by decide +kernel
theorem dX5_readFamily_109 : decode cX5_readFamily 109 = .ok (.getfield 101, 3) := by decide +kernel
theorem dX5_readFamily_112 : decode cX5_readFamily 112 = .ok (.l2i, 1) := by decide +kernel
theorem dX5_readFamily_113 : decode cX5_readFamily 113 = .ok (.iastore, 1) := by decide +kernel
theorem dX5_readFamily_114 : decode cX5_readFamily 114 = .ok (.aload_n 0, 1) := by decide +kernel
theorem dX5_readFamily_115 : decode cX5_readFamily 115 = .ok (.getfield 14, 3) := by decide +kernel
theorem dX5_readFamily_118 : decode cX5_readFamily 118 = .ok (.dup, 1) := by decide +kernel
theorem dX5_readFamily_119 : decode cX5_readFamily 119 = .ok (.getfield 105, 3) := by decide +kernel
theorem dX5_readFamily_122 : decode cX5_readFamily 122 = .ok (.iconst 1, 1) := by decide +kernel
theorem dX5_readFamily_123 : decode cX5_readFamily 123 = .ok (.iadd, 1) := by decide +kernel
theorem dX5_readFamily_124 : decode cX5_readFamily 124 = .ok (.putfield 105, 3) := by decide +kernel
theorem dX5_readFamily_127 : decode cX5_readFamily 127 = .ok (.aload_n 0, 1) := by decide +kernel
theorem dX5_readFamily_128 : decode cX5_readFamily 128 = .ok (.bipush 59, 2) := by decide +kernel
theorem dX5_readFamily_130 : decode cX5_readFamily 130 = .ok (.invokevirtual 92, 3) := by decide +kernel
theorem dX5_readFamily_133 : decode cX5_readFamily 133 = .ok (.ireturn, 1) := by decide +kernel
theorem dX11_isPart_0 : decode cX11_isPart 0 = .ok (.iload_n 0, 1) := by decide +kernel
theorem dX11_isPart_1 : decode cX11_isPart 1 = .ok (.iconst 0, 1) := by decide +kernel
theorem dX11_isPart_2 : decode cX11_isPart 2 = .ok (.bipush 7, 2) := by decide +kernel
theorem dX11_isPart_4 : decode cX11_isPart 4 = .ok (.invokestatic 105, 3) := by decide +kernel
theorem dX11_isPart_7 : decode cX11_isPart 7 = .ok (.ireturn, 1) := by decide +kernel
theorem dX5_readLease_0 : decode cX5_readLease 0 = .ok (.aload_n 0, 1) := by decide +kernel
theorem dX5_readLease_1 : decode cX5_readLease 1 = .ok (.getfield 45, 3) := by decide +kernel
theorem dX5_readLease_4 : decode cX5_readLease 4 = .ok (.bipush 8, 2) := by decide +kernel
theorem dX5_readLease_6 : decode cX5_readLease 6 = .ok (.if_icmp .lt 9, 3) := by decide +kernel
theorem dX5_readLease_9 : decode cX5_readLease 9 = .ok (.aload_n 0, 1) := by decide +kernel
theorem dX5_readLease_10 : decode cX5_readLease 10 = .ok (.iconst 2, 1) := by decide +kernel
theorem dX5_readLease_11 : decode cX5_readLease 11 = .ok (.invokevirtual 86, 3) := by decide +kernel
theorem dX5_readLease_14 : decode cX5_readLease 14 = .ok (.ireturn, 1) := by decide +kernel
theorem dX5_readLease_15 : decode cX5_readLease 15 = .ok (.aload_n 0, 1) := by decide +kernel
theorem dX5_readLease_16 : decode cX5_readLease 16 = .ok (.dup, 1) := by decide +kernel
theorem dX5_readLease_17 : decode cX5_readLease 17 = .ok (.getfield 45, 3) := by decide +kernel
theorem dX5_readLease_20 : decode cX5_readLease 20 = .ok (.iconst 1, 1) := by decide +kernel
theorem dX5_readLease_21 : decode cX5_readLease 21 = .ok (.iadd, 1) := by decide +kernel
theorem dX5_readLease_22 : decode cX5_readLease 22 = .ok (.putfield 45, 3) := by decide +kernel
theorem dX5_readLease_25 : decode cX5_readLease 25 = .ok (.aload_n 0, 1) := by decide +kernel
theorem dX5_readLease_26 : decode cX5_readLease 26 = .ok (.iconst 2, 1) := by decide +kernel
theorem dX5_readLease_27 : decode cX5_readLease 27 = .ok (.invokevirtual 92, 3) := by decide +kernel
theorem dX5_readLease_30 : decode cX5_readLease 30 = .ok (.ifCond .eq 12, 3) := by decide +kernel
theorem dX5_readLease_33 : decode cX5_readLease 33 = .ok (.aload_n 0, 1) := by decide +kernel
theorem dX5_readLease_34 : decode cX5_readLease 34 = .ok (.bipush 22, 2) := by decide +kernel
theorem dX5_readLease_36 : decode cX5_readLease 36 = .ok (.invokevirtual 92, 3) := by decide +kernel
theorem dX5_readLease_39 : decode cX5_readLease 39 = .ok (.ifCond .ne 5, 3) := by decide +kernel
theorem dX5_readLease_42 : decode cX5_readLease 42 = .ok (.iconst 0, 1) := by decide +kernel
theorem dX5_readLease_43 : decode cX5_readLease 43 = .ok (.ireturn, 1) := by decide +kernel
theorem dX5_readLease_44 : decode cX5_readLease 44 = .ok (.aload_n 0, 1) := by decide +kernel
theorem dX5_readLease_45 : decode cX5_readLease 45 = .ok (.aload_n 0, 1) := by decide +kernel
theorem dX5_readLease_46 : decode cX5_readLease 46 = .ok (.getfield 101, 3) := by decide +kernel
theorem dX5_readLease_49 : decode cX5_readLease 49 = .ok (.invokevirtual 108, 3) := by decide +kernel
theorem dX5_readLease_52 : decode cX5_readLease 52 = .ok (.istore_n 1, 1) := by decide +kernel
theorem dX5_readLease_53 : decode cX5_readLease 53 = .ok (.iload_n 1, 1) := by decide +kernel
theorem dX5_readLease_54 : decode cX5_readLease 54 = .ok (.iconst (-1), 1) := by decide +kernel
theorem dX5_readLease_55 : decode cX5_readLease 55 = .ok (.if_icmp .ne 8, 3) := by decide +kernel
theorem dX5_readLease_58 : decode cX5_readLease 58 = .ok (.aload_n 0, 1) := by decide +kernel
theorem dX5_readLease_59 : decode cX5_readLease 59 = .ok (.iconst 4, 1) := by decide +kernel
theorem dX5_readLease_60 : decode cX5_readLease 60 = .ok (.invokevirtual 112, 3) := by decide +kernel
theorem dX5_readLease_63 : decode cX5_readLease 63 = .ok (.aload_n 0, 1) := by decide +kernel
theorem dX5_readLease_64 : decode cX5_readLease 64 = .ok (.bipush 7, 2) := by decide +kernel
theorem dX5_readLease_66 : decode cX5_readLease 66 = .ok (.invokevirtual 95, 3) := by decide +kernel
theorem dX5_readLease_69 : decode cX5_readLease 69 = .ok (.ifCond .ne 5, 3) := by decide +kernel
theorem dX5_readLease_72 : decode cX5_readLease 72 = .ok (.iconst 0, 1) := by decide +kernel
theorem dX5_readLease_73 : decode cX5_readLease 73 = .ok (.ireturn, 1) := by decide +kernel
theorem dX5_readLease_74 : decode cX5_readLease 74 = .ok (.aload_n 0, 1) := by decide +kernel
theorem dX5_readLease_75 : decode cX5_readLease 75 = .ok (.getfield 101, 3) := by decide +kernel
theorem dX5_readLease_78 : decode cX5_readLease 78 = .ok (.l2i, 1) := by decide +kernel
theorem dX5_readLease_79 : decode cX5_readLease 79 = .ok (.istore_n 2, 1) := by decide +kernel
theorem dX5_readLease_80 : decode cX5_readLease 80 = .ok (.iload_n 2, 1) := by decide +kernel
theorem dX5_readLease_81 : decode cX5_readLease 81 = .ok (.invokestatic 122, 3) := by decide +kernel
theorem dX5_readLease_84 : decode cX5_readLease 84 = .ok (.ifCond .eq 32, 3) := by decide +kernel
theorem dX5_readLease_87 : decode cX5_readLease 87 = .ok (.aload_n 0, 1) := by decide +kernel
theorem dX5_readLease_88 : decode cX5_readLease 88 = .ok (.getfield 14, 3) := by decide +kernel
theorem dX5_readLease_91 : decode cX5_readLease 91 = .ok (.getfield 125, 3) := by decide +kernel
theorem dX5_readLease_94 : decode cX5_readLease 94 = .ok (.iload_n 2, 1) := by decide +kernel
theorem dX5_readLease_95 : decode cX5_readLease 95 = .ok (.iaload, 1) := by decide +kernel
theorem dX5_readLease_96 : decode cX5_readLease 96 = .ok (.bipush (-2), 2) := by decide +kernel
theorem dX5_readLease_98 : decode cX5_readLease 98 = .ok (.if_icmp .eq 8, 3) := by decide +kernel
theorem dX5_readLease_101 : decode cX5_readLease 101 = .ok (.aload_n 0, 1) := by decide +kernel
theorem dX5_readLease_102 : decode cX5_readLease 102 = .ok (.iconst 3, 1) := by decide +kernel
theorem dX5_readLease_103 : decode cX5_readLease 103 = .ok (.invokevirtual 112, 3) := by decide +kernel
theorem dX5_readLease_106 : decode cX5_readLease 106 = .ok (.aload_n 0, 1) := by decide +kernel
theorem dX5_readLease_107 : decode cX5_readLease 107 = .ok (.getfield 14, 3) := by decide +kernel
theorem dX5_readLease_110 : decode cX5_readLease 110 = .ok (.getfield 125, 3) := by decide +kernel
theorem dX5_readLease_113 : decode cX5_readLease 113 = .ok (.iload_n 2, 1) := by decide +kernel
theorem dX5_readLease_114 : decode cX5_readLease 114 = .ok (.iload_n 1, 1) := by decide +kernel
theorem dX5_readLease_115 : decode cX5_readLease 115 = .ok (.iastore, 1) := by decide +kernel
theorem dX5_readLease_116 : decode cX5_readLease 116 = .ok (.aload_n 0, 1) := by decide +kernel
theorem dX5_readLease_117 : decode cX5_readLease 117 = .ok (.bipush 59, 2) := by decide +kernel
theorem dX5_readLease_119 : decode cX5_readLease 119 = .ok (.invokevirtual 92, 3) := by decide +kernel
theorem dX5_readLease_122 : decode cX5_readLease 122 = .ok (.ireturn, 1) := by decide +kernel
theorem dX5_isVar_0 : decode cX5_isVar 0 = .ok (.bipush 13, 2) := by decide +kernel
theorem dX5_isVar_2 : decode cX5_isVar 2 = .ok (.iload_n 0, 1) := by decide +kernel
theorem dX5_isVar_3 : decode cX5_isVar 3 = .ok (.if_icmp .gt 13, 3) := by decide +kernel
theorem dX5_isVar_6 : decode cX5_isVar 6 = .ok (.iload_n 0, 1) := by decide +kernel
theorem dX5_isVar_7 : decode cX5_isVar 7 = .ok (.bipush 21, 2) := by decide +kernel
theorem dX5_isVar_9 : decode cX5_isVar 9 = .ok (.if_icmp .gt 7, 3) := by decide +kernel
theorem dX5_isVar_12 : decode cX5_isVar 12 = .ok (.iconst 1, 1) := by decide +kernel
theorem dX5_isVar_13 : decode cX5_isVar 13 = .ok (.goto 4, 3) := by decide +kernel
theorem dX5_isVar_16 : decode cX5_isVar 16 = .ok (.iconst 0, 1) := by decide +kernel
theorem dX5_isVar_17 : decode cX5_isVar 17 = .ok (.ireturn, 1) := by decide +kernel
theorem dX5_rankOf_0 : decode cX5_rankOf 0 = .ok (.iload_n 0, 1) := by decide +kernel
theorem dX5_rankOf_1 : decode cX5_rankOf 1 = .ok (.bipush 43, 2) := by decide +kernel
theorem dX5_rankOf_3 : decode cX5_rankOf 3 = .ok (.if_icmp .eq 9, 3) := by decide +kernel
theorem dX5_rankOf_6 : decode cX5_rankOf 6 = .ok (.iload_n 0, 1) := by decide +kernel
theorem dX5_rankOf_7 : decode cX5_rankOf 7 = .ok (.bipush 45, 2) := by decide +kernel
theorem dX5_rankOf_9 : decode cX5_rankOf 9 = .ok (.if_icmp .ne 5, 3) := by decide +kernel
theorem dX5_rankOf_12 : decode cX5_rankOf 12 = .ok (.iconst 1, 1) := by decide +kernel
theorem dX5_rankOf_13 : decode cX5_rankOf 13 = .ok (.ireturn, 1) := by decide +kernel
theorem dX5_rankOf_14 : decode cX5_rankOf 14 = .ok (.iload_n 0, 1) := by decide +kernel
theorem dX5_rankOf_15 : decode cX5_rankOf 15 = .ok (.bipush 42, 2) := by decide +kernel
theorem dX5_rankOf_17 : decode cX5_rankOf 17 = .ok (.if_icmp .eq 9, 3) := by decide +kernel
theorem dX5_rankOf_20 : decode cX5_rankOf 20 = .ok (.iload_n 0, 1) := by decide +kernel
theorem dX5_rankOf_21 : decode cX5_rankOf 21 = .ok (.bipush 47, 2) := by decide +kernel
theorem dX5_rankOf_23 : decode cX5_rankOf 23 = .ok (.if_icmp .ne 7, 3) := by decide +kernel
theorem dX5_rankOf_26 : decode cX5_rankOf 26 = .ok (.iconst 2, 1) := by decide +kernel
theorem dX5_rankOf_27 : decode cX5_rankOf 27 = .ok (.goto 4, 3) := by decide +kernel
theorem dX5_rankOf_30 : decode cX5_rankOf 30 = .ok (.iconst 0, 1) := by decide +kernel
theorem dX5_rankOf_31 : decode cX5_rankOf 31 = .ok (.ireturn, 1) := by decide +kernel
theorem dX5_goesOnSum_0 : decode cX5_goesOnSum 0 = .ok (.iload_n 2, 1) := by decide +kernel
theorem dX5_goesOnSum_1 : decode cX5_goesOnSum 1 = .ok (.ifCond .eq 28, 3) := by decide +kernel
theorem dX5_goesOnSum_4 : decode cX5_goesOnSum 4 = .ok (.iload_n 1, 1) := by decide +kernel
theorem dX5_goesOnSum_5 : decode cX5_goesOnSum 5 = .ok (.bipush 40, 2) := by decide +kernel
theorem dX5_goesOnSum_7 : decode cX5_goesOnSum 7 = .ok (.if_icmp .eq 16, 3) := by decide +kernel
theorem dX5_goesOnSum_10 : decode cX5_goesOnSum 10 = .ok (.iload_n 1, 1) := by decide +kernel
theorem dX5_goesOnSum_11 : decode cX5_goesOnSum 11 = .ok (.bipush 23, 2) := by decide +kernel
theorem dX5_goesOnSum_13 : decode cX5_goesOnSum 13 = .ok (.if_icmp .eq 10, 3) := by decide +kernel
theorem dX5_goesOnSum_16 : decode cX5_goesOnSum 16 = .ok (.iload_n 1, 1) := by decide +kernel
theorem dX5_goesOnSum_17 : decode cX5_goesOnSum 17 = .ok (.invokestatic 182, 3) := by decide +kernel
theorem dX5_goesOnSum_20 : decode cX5_goesOnSum 20 = .ok (.ifCond .eq 7, 3) := by decide +kernel
theorem dX5_goesOnSum_23 : decode cX5_goesOnSum 23 = .ok (.iconst 1, 1) := by decide +kernel
theorem dX5_goesOnSum_24 : decode cX5_goesOnSum 24 = .ok (.goto 4, 3) := by decide +kernel
theorem dX5_goesOnSum_27 : decode cX5_goesOnSum 27 = .ok (.iconst 0, 1) := by decide +kernel
theorem dX5_goesOnSum_28 : decode cX5_goesOnSum 28 = .ok (.ireturn, 1) := by decide +kernel
theorem dX5_goesOnSum_29 : decode cX5_goesOnSum 29 = .ok (.iload_n 1, 1) := by decide +kernel
theorem dX5_goesOnSum_30 : decode cX5_goesOnSum 30 = .ok (.invokestatic 175, 3) := by decide +kernel
theorem dX5_goesOnSum_33 : decode cX5_goesOnSum 33 = .ok (.ifCond .gt 16, 3) := by decide +kernel
theorem dX5_goesOnSum_36 : decode cX5_goesOnSum 36 = .ok (.iload_n 1, 1) := by decide +kernel
theorem dX5_goesOnSum_37 : decode cX5_goesOnSum 37 = .ok (.bipush 41, 2) := by decide +kernel
theorem dX5_goesOnSum_39 : decode cX5_goesOnSum 39 = .ok (.if_icmp .ne 14, 3) := by decide +kernel
theorem dX5_goesOnSum_42 : decode cX5_goesOnSum 42 = .ok (.aload_n 0, 1) := by decide +kernel
theorem dX5_goesOnSum_43 : decode cX5_goesOnSum 43 = .ok (.getfield 156, 3) := by decide +kernel
theorem dX5_goesOnSum_46 : decode cX5_goesOnSum 46 = .ok (.ifCond .le 7, 3) := by decide +kernel
theorem dX5_goesOnSum_49 : decode cX5_goesOnSum 49 = .ok (.iconst 1, 1) := by decide +kernel
theorem dX5_goesOnSum_50 : decode cX5_goesOnSum 50 = .ok (.goto 4, 3) := by decide +kernel
theorem dX5_goesOnSum_53 : decode cX5_goesOnSum 53 = .ok (.iconst 0, 1) := by decide +kernel
theorem dX5_goesOnSum_54 : decode cX5_goesOnSum 54 = .ok (.ireturn, 1) := by decide +kernel
theorem dX5_putPending_0 : decode cX5_putPending 0 = .ok (.aload_n 0, 1) := by decide +kernel
theorem dX5_putPending_1 : decode cX5_putPending 1 = .ok (.getfield 153, 3) := by decide +kernel
theorem dX5_putPending_4 : decode cX5_putPending 4 = .ok (.ifCond .le 51, 3) := by decide +kernel
theorem dX5_putPending_7 : decode cX5_putPending 7 = .ok (.aload_n 0, 1) := by decide +kernel
theorem dX5_putPending_8 : decode cX5_putPending 8 = .ok (.getfield 26, 3) := by decide +kernel
theorem dX5_putPending_11 : decode cX5_putPending 11 = .ok (.aload_n 0, 1) := by decide +kernel
theorem dX5_putPending_12 : decode cX5_putPending 12 = .ok (.getfield 153, 3) := by decide +kernel
theorem dX5_putPending_15 : decode cX5_putPending 15 = .ok (.iconst 1, 1) := by decide +kernel
theorem dX5_putPending_16 : decode cX5_putPending 16 = .ok (.isub, 1) := by decide +kernel
theorem dX5_putPending_17 : decode cX5_putPending 17 = .ok (.iaload, 1) := by decide +kernel
theorem dX5_putPending_18 : decode cX5_putPending 18 = .ok (.invokestatic 175, 3) := by decide +kernel
theorem dX5_putPending_21 : decode cX5_putPending 21 = .ok (.iload_n 1, 1) := by decide +kernel
theorem dX5_putPending_22 : decode cX5_putPending 22 = .ok (.if_icmp .lt 33, 3) := by decide +kernel
theorem dX5_putPending_25 : decode cX5_putPending 25 = .ok (.aload_n 0, 1) := by decide +kernel
theorem dX5_putPending_26 : decode cX5_putPending 26 = .ok (.dup, 1) := by decide +kernel
theorem dX5_putPending_27 : decode cX5_putPending 27 = .ok (.getfield 153, 3) := by decide +kernel
theorem dX5_putPending_30 : decode cX5_putPending 30 = .ok (.iconst 1, 1) := by decide +kernel
theorem dX5_putPending_31 : decode cX5_putPending 31 = .ok (.isub, 1) := by decide +kernel
theorem dX5_putPending_32 : decode cX5_putPending 32 = .ok (.putfield 153, 3) := by decide +kernel
theorem dX5_putPending_35 : decode cX5_putPending 35 = .ok (.aload_n 0, 1) := by decide +kernel
theorem dX5_putPending_36 : decode cX5_putPending 36 = .ok (.getfield 14, 3) := by decide +kernel
theorem dX5_putPending_39 : decode cX5_putPending 39 = .ok (.aload_n 0, 1) := by decide +kernel
theorem dX5_putPending_40 : decode cX5_putPending 40 = .ok (.getfield 26, 3) := by decide +kernel
theorem dX5_putPending_43 : decode cX5_putPending 43 = .ok (.aload_n 0, 1) := by decide +kernel
theorem dX5_putPending_44 : decode cX5_putPending 44 = .ok (.getfield 153, 3) := by decide +kernel
theorem dX5_putPending_47 : decode cX5_putPending 47 = .ok (.iaload, 1) := by decide +kernel
theorem dX5_putPending_48 : decode cX5_putPending 48 = .ok (.iconst 0, 1) := by decide +kernel
theorem dX5_putPending_49 : decode cX5_putPending 49 = .ok (.invokevirtual 146, 3) := by decide +kernel
theorem dX5_putPending_52 : decode cX5_putPending 52 = .ok (.goto (-52), 3) := by decide +kernel
theorem dX5_putPending_55 : decode cX5_putPending 55 = .ok (.return_, 1) := by decide +kernel
theorem dX5_push_0 : decode cX5_push 0 = .ok (.aload_n 0, 1) := by decide +kernel
theorem dX5_push_1 : decode cX5_push 1 = .ok (.getfield 153, 3) := by decide +kernel
theorem dX5_push_4 : decode cX5_push 4 = .ok (.bipush 21, 2) := by decide +kernel
theorem dX5_push_6 : decode cX5_push 6 = .ok (.if_icmp .ge 23, 3) := by decide +kernel
theorem dX5_push_9 : decode cX5_push 9 = .ok (.aload_n 0, 1) := by decide +kernel
theorem dX5_push_10 : decode cX5_push 10 = .ok (.getfield 26, 3) := by decide +kernel
theorem dX5_push_13 : decode cX5_push 13 = .ok (.aload_n 0, 1) := by decide +kernel
theorem dX5_push_14 : decode cX5_push 14 = .ok (.getfield 153, 3) := by decide +kernel
theorem dX5_push_17 : decode cX5_push 17 = .ok (.iload_n 1, 1) := by decide +kernel
theorem dX5_push_18 : decode cX5_push 18 = .ok (.iastore, 1) := by decide +kernel
theorem dX5_push_19 : decode cX5_push 19 = .ok (.aload_n 0, 1) := by decide +kernel
theorem dX5_push_20 : decode cX5_push 20 = .ok (.dup, 1) := by decide +kernel
theorem dX5_push_21 : decode cX5_push 21 = .ok (.getfield 153, 3) := by decide +kernel
theorem dX5_push_24 : decode cX5_push 24 = .ok (.iconst 1, 1) := by decide +kernel
theorem dX5_push_25 : decode cX5_push 25 = .ok (.iadd, 1) := by decide +kernel
theorem dX5_push_26 : decode cX5_push 26 = .ok (.putfield 153, 3) := by decide +kernel
theorem dX5_push_29 : decode cX5_push 29 = .ok (.return_, 1) := by decide +kernel
theorem dX5_putUnit_0 : decode cX5_putUnit 0 = .ok (.iload_n 1, 1) := by decide +kernel
theorem dX5_putUnit_1 : decode cX5_putUnit 1 = .ok (.bipush 23, 2) := by decide +kernel
theorem dX5_putUnit_3 : decode cX5_putUnit 3 = .ok (.if_icmp .ne 19, 3) := by decide +kernel
theorem dX5_putUnit_6 : decode cX5_putUnit 6 = .ok (.aload_n 0, 1) := by decide +kernel
theorem dX5_putUnit_7 : decode cX5_putUnit 7 = .ok (.getfield 14, 3) := by decide +kernel
theorem dX5_putUnit_10 : decode cX5_putUnit 10 = .ok (.iconst 0, 1) := by decide +kernel
theorem dX5_putUnit_11 : decode cX5_putUnit 11 = .ok (.aload_n 0, 1) := by decide +kernel
theorem dX5_putUnit_12 : decode cX5_putUnit 12 = .ok (.getfield 101, 3) := by decide +kernel
theorem dX5_putUnit_15 : decode cX5_putUnit 15 = .ok (.l2i, 1) := by decide +kernel
theorem dX5_putUnit_16 : decode cX5_putUnit 16 = .ok (.invokevirtual 146, 3) := by decide +kernel
theorem dX5_putUnit_19 : decode cX5_putUnit 19 = .ok (.goto 15, 3) := by decide +kernel
theorem dX5_putUnit_22 : decode cX5_putUnit 22 = .ok (.aload_n 0, 1) := by decide +kernel
theorem dX5_putUnit_23 : decode cX5_putUnit 23 = .ok (.getfield 14, 3) := by decide +kernel
theorem dX5_putUnit_26 : decode cX5_putUnit 26 = .ok (.iconst 1, 1) := by decide +kernel
theorem dX5_putUnit_27 : decode cX5_putUnit 27 = .ok (.iload_n 1, 1) := by decide +kernel
theorem dX5_putUnit_28 : decode cX5_putUnit 28 = .ok (.bipush 13, 2) := by decide +kernel
theorem dX5_putUnit_30 : decode cX5_putUnit 30 = .ok (.isub, 1) := by decide +kernel
theorem dX5_putUnit_31 : decode cX5_putUnit 31 = .ok (.invokevirtual 146, 3) := by decide +kernel
theorem dX5_putUnit_34 : decode cX5_putUnit 34 = .ok (.return_, 1) := by decide +kernel
theorem dX5_readSum_0 : decode cX5_readSum 0 = .ok (.aload_n 0, 1) := by decide +kernel
theorem dX5_readSum_1 : decode cX5_readSum 1 = .ok (.iconst 0, 1) := by decide +kernel
theorem dX5_readSum_2 : decode cX5_readSum 2 = .ok (.putfield 153, 3) := by decide +kernel
theorem dX5_readSum_5 : decode cX5_readSum 5 = .ok (.aload_n 0, 1) := by decide +kernel
theorem dX5_readSum_6 : decode cX5_readSum 6 = .ok (.iconst 0, 1) := by decide +kernel
theorem dX5_readSum_7 : decode cX5_readSum 7 = .ok (.putfield 156, 3) := by decide +kernel
theorem dX5_readSum_10 : decode cX5_readSum 10 = .ok (.iconst 1, 1) := by decide +kernel
theorem dX5_readSum_11 : decode cX5_readSum 11 = .ok (.istore_n 1, 1) := by decide +kernel
theorem dX5_readSum_12 : decode cX5_readSum 12 = .ok (.iconst 0, 1) := by decide +kernel
theorem dX5_readSum_13 : decode cX5_readSum 13 = .ok (.istore_n 2, 1) := by decide +kernel
theorem dX5_readSum_14 : decode cX5_readSum 14 = .ok (.iload_n 2, 1) := by decide +kernel
theorem dX5_readSum_15 : decode cX5_readSum 15 = .ok (.sipush 400, 3) := by decide +kernel
theorem dX5_readSum_18 : decode cX5_readSum 18 = .ok (.if_icmp .gt 172, 3) := by decide +kernel
theorem dX5_readSum_21 : decode cX5_readSum 21 = .ok (.aload_n 0, 1) := by decide +kernel
theorem dX5_readSum_22 : decode cX5_readSum 22 = .ok (.invokevirtual 60, 3) := by decide +kernel
theorem dX5_readSum_25 : decode cX5_readSum 25 = .ok (.istore_n 3, 1) := by decide +kernel
theorem dX5_readSum_26 : decode cX5_readSum 26 = .ok (.aload_n 0, 1) := by decide +kernel
theorem dX5_readSum_27 : decode cX5_readSum 27 = .ok (.iload_n 3, 1) := by decide +kernel
theorem dX5_readSum_28 : decode cX5_readSum 28 = .ok (.iload_n 1, 1) := by decide +kernel
theorem dX5_readSum_29 : decode cX5_readSum 29 = .ok (.invokevirtual 159, 3) := by decide +kernel
theorem dX5_readSum_32 : decode cX5_readSum 32 = .ok (.ifCond .ne 27, 3) := by decide +kernel
theorem dX5_readSum_35 : decode cX5_readSum 35 = .ok (.iload_n 1, 1) := by decide +kernel
theorem dX5_readSum_36 : decode cX5_readSum 36 = .ok (.ifCond .ne 10, 3) := by decide +kernel
theorem dX5_readSum_39 : decode cX5_readSum 39 = .ok (.aload_n 0, 1) := by decide +kernel
theorem dX5_readSum_40 : decode cX5_readSum 40 = .ok (.getfield 156, 3) := by decide +kernel
theorem dX5_readSum_43 : decode cX5_readSum 43 = .ok (.ifCond .le 9, 3) := by decide +kernel
theorem dX5_readSum_46 : decode cX5_readSum 46 = .ok (.aload_n 0, 1) := by decide +kernel
theorem dX5_readSum_47 : decode cX5_readSum 47 = .ok (.iconst 1, 1) := by decide +kernel
theorem dX5_readSum_48 : decode cX5_readSum 48 = .ok (.invokevirtual 86, 3) := by decide +kernel
theorem dX5_readSum_51 : decode cX5_readSum 51 = .ok (.ireturn, 1) := by decide +kernel
theorem dX5_readSum_52 : decode cX5_readSum 52 = .ok (.aload_n 0, 1) := by decide +kernel
theorem dX5_readSum_53 : decode cX5_readSum 53 = .ok (.iconst 1, 1) := by decide +kernel
theorem dX5_readSum_54 : decode cX5_readSum 54 = .ok (.invokevirtual 163, 3) := by decide +kernel
theorem dX5_readSum_57 : decode cX5_readSum 57 = .ok (.iconst 1, 1) := by decide +kernel
theorem dX5_readSum_58 : decode cX5_readSum 58 = .ok (.ireturn, 1) := by decide +kernel
theorem dX5_readSum_59 : decode cX5_readSum 59 = .ok (.iload_n 3, 1) := by decide +kernel
theorem dX5_readSum_60 : decode cX5_readSum 60 = .ok (.bipush 40, 2) := by decide +kernel
theorem dX5_readSum_62 : decode cX5_readSum 62 = .ok (.if_icmp .ne 18, 3) := by decide +kernel
theorem dX5_readSum_65 : decode cX5_readSum 65 = .ok (.aload_n 0, 1) := by decide +kernel
theorem dX5_readSum_66 : decode cX5_readSum 66 = .ok (.getfield 156, 3) := by decide +kernel
theorem dX5_readSum_69 : decode cX5_readSum 69 = .ok (.bipush 6, 2) := by decide +kernel
theorem dX5_readSum_71 : decode cX5_readSum 71 = .ok (.if_icmp .lt 9, 3) := by decide +kernel
theorem dX5_readSum_74 : decode cX5_readSum 74 = .ok (.aload_n 0, 1) := by decide +kernel
theorem dX5_readSum_75 : decode cX5_readSum 75 = .ok (.iconst 2, 1) := by decide +kernel
theorem dX5_readSum_76 : decode cX5_readSum 76 = .ok (.invokevirtual 86, 3) := by decide +kernel
theorem dX5_readSum_79 : decode cX5_readSum 79 = .ok (.ireturn, 1) := by decide +kernel
theorem dX5_readSum_80 : decode cX5_readSum 80 = .ok (.aload_n 0, 1) := by decide +kernel
theorem dX5_readSum_81 : decode cX5_readSum 81 = .ok (.iload_n 3, 1) := by decide +kernel
theorem dX5_readSum_82 : decode cX5_readSum 82 = .ok (.invokevirtual 92, 3) := by decide +kernel
theorem dX5_readSum_85 : decode cX5_readSum 85 = .ok (.ifCond .ne 5, 3) := by decide +kernel
theorem dX5_readSum_88 : decode cX5_readSum 88 = .ok (.iconst 0, 1) := by decide +kernel
theorem dX5_readSum_89 : decode cX5_readSum 89 = .ok (.ireturn, 1) := by decide +kernel
theorem dX5_readSum_90 : decode cX5_readSum 90 = .ok (.iload_n 3, 1) := by decide +kernel
theorem dX5_readSum_91 : decode cX5_readSum 91 = .ok (.bipush 40, 2) := by decide +kernel
theorem dX5_readSum_93 : decode cX5_readSum 93 = .ok (.if_icmp .ne 21, 3) := by decide +kernel
theorem dX5_readSum_96 : decode cX5_readSum 96 = .ok (.aload_n 0, 1) := by decide +kernel
theorem dX5_readSum_97 : decode cX5_readSum 97 = .ok (.dup, 1) := by decide +kernel
theorem dX5_readSum_98 : decode cX5_readSum 98 = .ok (.getfield 156, 3) := by decide +kernel
theorem dX5_readSum_101 : decode cX5_readSum 101 = .ok (.iconst 1, 1) := by decide +kernel
theorem dX5_readSum_102 : decode cX5_readSum 102 = .ok (.iadd, 1) := by decide +kernel
theorem dX5_readSum_103 : decode cX5_readSum 103 = .ok (.putfield 156, 3) := by decide +kernel
theorem dX5_readSum_106 : decode cX5_readSum 106 = .ok (.aload_n 0, 1) := by decide +kernel
theorem dX5_readSum_107 : decode cX5_readSum 107 = .ok (.iload_n 3, 1) := by decide +kernel
theorem dX5_readSum_108 : decode cX5_readSum 108 = .ok (.invokevirtual 166, 3) := by decide +kernel
theorem dX5_readSum_111 : decode cX5_readSum 111 = .ok (.goto 73, 3) := by decide +kernel
theorem dX5_readSum_114 : decode cX5_readSum 114 = .ok (.iload_n 3, 1) := by decide +kernel
theorem dX5_readSum_115 : decode cX5_readSum 115 = .ok (.bipush 41, 2) := by decide +kernel
theorem dX5_readSum_117 : decode cX5_readSum 117 = .ok (.if_icmp .ne 35, 3) := by decide +kernel
theorem dX5_readSum_120 : decode cX5_readSum 120 = .ok (.aload_n 0, 1) := by decide +kernel
theorem dX5_readSum_121 : decode cX5_readSum 121 = .ok (.dup, 1) := by decide +kernel
theorem dX5_readSum_122 : decode cX5_readSum 122 = .ok (.getfield 156, 3) := by decide +kernel
theorem dX5_readSum_125 : decode cX5_readSum 125 = .ok (.iconst 1, 1) := by decide +kernel
theorem dX5_readSum_126 : decode cX5_readSum 126 = .ok (.isub, 1) := by decide +kernel
theorem dX5_readSum_127 : decode cX5_readSum 127 = .ok (.putfield 156, 3) := by decide +kernel
theorem dX5_readSum_130 : decode cX5_readSum 130 = .ok (.aload_n 0, 1) := by decide +kernel
theorem dX5_readSum_131 : decode cX5_readSum 131 = .ok (.iconst 1, 1) := by decide +kernel
theorem dX5_readSum_132 : decode cX5_readSum 132 = .ok (.invokevirtual 163, 3) := by decide +kernel
theorem dX5_readSum_135 : decode cX5_readSum 135 = .ok (.aload_n 0, 1) := by decide +kernel
theorem dX5_readSum_136 : decode cX5_readSum 136 = .ok (.iconst 0, 1) := by decide +kernel
theorem dX5_readSum_137 : decode cX5_readSum 137 = .ok (.aload_n 0, 1) := by decide +kernel
theorem dX5_readSum_138 : decode cX5_readSum 138 = .ok (.getfield 153, 3) := by decide +kernel
theorem dX5_readSum_141 : decode cX5_readSum 141 = .ok (.iconst 1, 1) := by decide +kernel
theorem dX5_readSum_142 : decode cX5_readSum 142 = .ok (.isub, 1) := by decide +kernel
theorem dX5_readSum_143 : decode cX5_readSum 143 = .ok (.invokestatic 169, 3) := by decide +kernel
theorem dX5_readSum_146 : decode cX5_readSum 146 = .ok (.putfield 153, 3) := by decide +kernel
theorem dX5_readSum_149 : decode cX5_readSum 149 = .ok (.goto 35, 3) := by decide +kernel
theorem dX5_readSum_152 : decode cX5_readSum 152 = .ok (.iload_n 3, 1) := by decide +kernel
theorem dX5_readSum_153 : decode cX5_readSum 153 = .ok (.invokestatic 175, 3) := by decide +kernel
theorem dX5_readSum_156 : decode cX5_readSum 156 = .ok (.ifCond .le 21, 3) := by decide +kernel
theorem dX5_readSum_159 : decode cX5_readSum 159 = .ok (.aload_n 0, 1) := by decide +kernel
theorem dX5_readSum_160 : decode cX5_readSum 160 = .ok (.iload_n 3, 1) := by decide +kernel
theorem dX5_readSum_161 : decode cX5_readSum 161 = .ok (.invokestatic 175, 3) := by decide +kernel
theorem dX5_readSum_164 : decode cX5_readSum 164 = .ok (.invokevirtual 163, 3) := by decide +kernel
theorem dX5_readSum_167 : decode cX5_readSum 167 = .ok (.aload_n 0, 1) := by decide +kernel
theorem dX5_readSum_168 : decode cX5_readSum 168 = .ok (.iload_n 3, 1) := by decide +kernel
theorem dX5_readSum_169 : decode cX5_readSum 169 = .ok (.invokevirtual 166, 3) := by decide +kernel
theorem dX5_readSum_172 : decode cX5_readSum 172 = .ok (.iconst 1, 1) := by decide +kernel
theorem dX5_readSum_173 : decode cX5_readSum 173 = .ok (.istore_n 1, 1) := by decide +kernel
theorem dX5_readSum_174 : decode cX5_readSum 174 = .ok (.goto 10, 3) := by decide +kernel
theorem dX5_readSum_177 : decode cX5_readSum 177 = .ok (.aload_n 0, 1) := by decide +kernel
theorem dX5_readSum_178 : decode cX5_readSum 178 = .ok (.iload_n 3, 1) := by decide +kernel
theorem dX5_readSum_179 : decode cX5_readSum 179 = .ok (.invokevirtual 179, 3) := by decide +kernel
theorem dX5_readSum_182 : decode cX5_readSum 182 = .ok (.iconst 0, 1) := by decide +kernel
theorem dX5_readSum_183 : decode cX5_readSum 183 = .ok (.istore_n 1, 1) := by decide +kernel
theorem dX5_readSum_184 : decode cX5_readSum 184 = .ok (.iinc 2 1, 3) := by decide +kernel
theorem dX5_readSum_187 : decode cX5_readSum 187 = .ok (.goto (-173), 3) := by decide +kernel
theorem dX5_readSum_190 : decode cX5_readSum 190 = .ok (.aload_n 0, 1) := by decide +kernel
theorem dX5_readSum_191 : decode cX5_readSum 191 = .ok (.iconst 2, 1) := by decide +kernel
theorem dX5_readSum_192 : decode cX5_readSum 192 = .ok (.invokevirtual 86, 3) := by decide +kernel
theorem dX5_readSum_195 : decode cX5_readSum 195 = .ok (.ireturn, 1) := by decide +kernel
theorem dX5_readLaw_0 : decode cX5_readLaw 0 = .ok (.aload_n 0, 1) := by decide +kernel
theorem dX5_readLaw_1 : decode cX5_readLaw 1 = .ok (.aload_n 0, 1) := by decide +kernel
theorem dX5_readLaw_2 : decode cX5_readLaw 2 = .ok (.invokevirtual 60, 3) := by decide +kernel
theorem dX5_readLaw_5 : decode cX5_readLaw 5 = .ok (.invokevirtual 92, 3) := by decide +kernel
theorem dX5_readLaw_8 : decode cX5_readLaw 8 = .ok (.ifCond .eq 12, 3) := by decide +kernel
theorem dX5_readLaw_11 : decode cX5_readLaw 11 = .ok (.aload_n 0, 1) := by decide +kernel
theorem dX5_readLaw_12 : decode cX5_readLaw 12 = .ok (.bipush 61, 2) := by decide +kernel
theorem dX5_readLaw_14 : decode cX5_readLaw 14 = .ok (.invokevirtual 92, 3) := by decide +kernel
theorem dX5_readLaw_17 : decode cX5_readLaw 17 = .ok (.ifCond .ne 5, 3) := by decide +kernel
theorem dX5_readLaw_20 : decode cX5_readLaw 20 = .ok (.iconst 0, 1) := by decide +kernel
theorem dX5_readLaw_21 : decode cX5_readLaw 21 = .ok (.ireturn, 1) := by decide +kernel
theorem dX5_readLaw_22 : decode cX5_readLaw 22 = .ok (.aload_n 0, 1) := by decide +kernel
theorem dX5_readLaw_23 : decode cX5_readLaw 23 = .ok (.getfield 14, 3) := by decide +kernel
theorem dX5_readLaw_26 : decode cX5_readLaw 26 = .ok (.iload_n 1, 1) := by decide +kernel
theorem dX5_readLaw_27 : decode cX5_readLaw 27 = .ok (.invokevirtual 137, 3) := by decide +kernel
theorem dX5_readLaw_30 : decode cX5_readLaw 30 = .ok (.iconst 0, 1) := by decide +kernel
theorem dX5_readLaw_31 : decode cX5_readLaw 31 = .ok (.istore_n 2, 1) := by decide +kernel
theorem dX5_readLaw_32 : decode cX5_readLaw 32 = .ok (.iload_n 2, 1) := by decide +kernel
theorem dX5_readLaw_33 : decode cX5_readLaw 33 = .ok (.iconst 4, 1) := by decide +kernel
theorem dX5_readLaw_34 : decode cX5_readLaw 34 = .ok (.if_icmp .gt 124, 3) := by decide +kernel
theorem dX5_readLaw_37 : decode cX5_readLaw 37 = .ok (.aload_n 0, 1) := by decide +kernel
theorem dX5_readLaw_38 : decode cX5_readLaw 38 = .ok (.invokevirtual 60, 3) := by decide +kernel
theorem dX5_readLaw_41 : decode cX5_readLaw 41 = .ok (.bipush 10, 2) := by decide +kernel
theorem dX5_readLaw_43 : decode cX5_readLaw 43 = .ok (.if_icmp .ne 115, 3) := by decide +kernel
theorem dX5_readLaw_46 : decode cX5_readLaw 46 = .ok (.iload_n 2, 1) := by decide +kernel
theorem dX5_readLaw_47 : decode cX5_readLaw 47 = .ok (.iconst 4, 1) := by decide +kernel
theorem dX5_readLaw_48 : decode cX5_readLaw 48 = .ok (.if_icmp .ne 9, 3) := by decide +kernel
theorem dX5_readLaw_51 : decode cX5_readLaw 51 = .ok (.aload_n 0, 1) := by decide +kernel
theorem dX5_readLaw_52 : decode cX5_readLaw 52 = .ok (.iconst 2, 1) := by decide +kernel
theorem dX5_readLaw_53 : decode cX5_readLaw 53 = .ok (.invokevirtual 86, 3) := by decide +kernel
theorem dX5_readLaw_56 : decode cX5_readLaw 56 = .ok (.ireturn, 1) := by decide +kernel
theorem dX5_readLaw_57 : decode cX5_readLaw 57 = .ok (.aload_n 0, 1) := by decide +kernel
theorem dX5_readLaw_58 : decode cX5_readLaw 58 = .ok (.bipush 10, 2) := by decide +kernel
theorem dX5_readLaw_60 : decode cX5_readLaw 60 = .ok (.invokevirtual 92, 3) := by decide +kernel
theorem dX5_readLaw_63 : decode cX5_readLaw 63 = .ok (.ifCond .eq 35, 3) := by decide +kernel
theorem dX5_readLaw_66 : decode cX5_readLaw 66 = .ok (.aload_n 0, 1) := by decide +kernel
theorem dX5_readLaw_67 : decode cX5_readLaw 67 = .ok (.invokevirtual 140, 3) := by decide +kernel
theorem dX5_readLaw_70 : decode cX5_readLaw 70 = .ok (.ifCond .eq 28, 3) := by decide +kernel
theorem dX5_readLaw_73 : decode cX5_readLaw 73 = .ok (.aload_n 0, 1) := by decide +kernel
theorem dX5_readLaw_74 : decode cX5_readLaw 74 = .ok (.bipush 60, 2) := by decide +kernel
theorem dX5_readLaw_76 : decode cX5_readLaw 76 = .ok (.invokevirtual 92, 3) := by decide +kernel
theorem dX5_readLaw_79 : decode cX5_readLaw 79 = .ok (.ifCond .eq 19, 3) := by decide +kernel
theorem dX5_readLaw_82 : decode cX5_readLaw 82 = .ok (.aload_n 0, 1) := by decide +kernel
theorem dX5_readLaw_83 : decode cX5_readLaw 83 = .ok (.invokevirtual 140, 3) := by decide +kernel
theorem dX5_readLaw_86 : decode cX5_readLaw 86 = .ok (.ifCond .eq 12, 3) := by decide +kernel
theorem dX5_readLaw_89 : decode cX5_readLaw 89 = .ok (.aload_n 0, 1) := by decide +kernel
theorem dX5_readLaw_90 : decode cX5_readLaw 90 = .ok (.bipush 11, 2) := by decide +kernel
theorem dX5_readLaw_92 : decode cX5_readLaw 92 = .ok (.invokevirtual 92, 3) := by decide +kernel
theorem dX5_readLaw_95 : decode cX5_readLaw 95 = .ok (.ifCond .ne 5, 3) := by decide +kernel
theorem dX5_readLaw_98 : decode cX5_readLaw 98 = .ok (.iconst 0, 1) := by decide +kernel
theorem dX5_readLaw_99 : decode cX5_readLaw 99 = .ok (.ireturn, 1) := by decide +kernel
theorem dX5_readLaw_100 : decode cX5_readLaw 100 = .ok (.aload_n 0, 1) := by decide +kernel
theorem dX5_readLaw_101 : decode cX5_readLaw 101 = .ok (.getfield 14, 3) := by decide +kernel
theorem dX5_readLaw_104 : decode cX5_readLaw 104 = .ok (.getfield 143, 3) := by decide +kernel
theorem dX5_readLaw_107 : decode cX5_readLaw 107 = .ok (.istore_n 3, 1) := by decide +kernel
theorem dX5_readLaw_108 : decode cX5_readLaw 108 = .ok (.aload_n 0, 1) := by decide +kernel
theorem dX5_readLaw_109 : decode cX5_readLaw 109 = .ok (.getfield 14, 3) := by decide +kernel
theorem dX5_readLaw_112 : decode cX5_readLaw 112 = .ok (.iconst 2, 1) := by decide +kernel
theorem dX5_readLaw_113 : decode cX5_readLaw 113 = .ok (.iconst 0, 1) := by decide +kernel
theorem dX5_readLaw_114 : decode cX5_readLaw 114 = .ok (.invokevirtual 146, 3) := by decide +kernel
theorem dX5_readLaw_117 : decode cX5_readLaw 117 = .ok (.aload_n 0, 1) := by decide +kernel
theorem dX5_readLaw_118 : decode cX5_readLaw 118 = .ok (.invokevirtual 140, 3) := by decide +kernel
theorem dX5_readLaw_121 : decode cX5_readLaw 121 = .ok (.ifCond .eq 12, 3) := by decide +kernel
theorem dX5_readLaw_124 : decode cX5_readLaw 124 = .ok (.aload_n 0, 1) := by decide +kernel
theorem dX5_readLaw_125 : decode cX5_readLaw 125 = .ok (.bipush 12, 2) := by decide +kernel
theorem dX5_readLaw_127 : decode cX5_readLaw 127 = .ok (.invokevirtual 92, 3) := by decide +kernel
theorem dX5_readLaw_130 : decode cX5_readLaw 130 = .ok (.ifCond .ne 5, 3) := by decide +kernel
theorem dX5_readLaw_133 : decode cX5_readLaw 133 = .ok (.iconst 0, 1) := by decide +kernel
theorem dX5_readLaw_134 : decode cX5_readLaw 134 = .ok (.ireturn, 1) := by decide +kernel
theorem dX5_readLaw_135 : decode cX5_readLaw 135 = .ok (.aload_n 0, 1) := by decide +kernel
theorem dX5_readLaw_136 : decode cX5_readLaw 136 = .ok (.getfield 14, 3) := by decide +kernel
theorem dX5_readLaw_139 : decode cX5_readLaw 139 = .ok (.iconst 3, 1) := by decide +kernel
theorem dX5_readLaw_140 : decode cX5_readLaw 140 = .ok (.iconst 0, 1) := by decide +kernel
theorem dX5_readLaw_141 : decode cX5_readLaw 141 = .ok (.invokevirtual 146, 3) := by decide +kernel
theorem dX5_readLaw_144 : decode cX5_readLaw 144 = .ok (.aload_n 0, 1) := by decide +kernel
theorem dX5_readLaw_145 : decode cX5_readLaw 145 = .ok (.getfield 14, 3) := by decide +kernel
theorem dX5_readLaw_148 : decode cX5_readLaw 148 = .ok (.iload_n 3, 1) := by decide +kernel
theorem dX5_readLaw_149 : decode cX5_readLaw 149 = .ok (.invokevirtual 150, 3) := by decide +kernel
theorem dX5_readLaw_152 : decode cX5_readLaw 152 = .ok (.iinc 2 1, 3) := by decide +kernel
theorem dX5_readLaw_155 : decode cX5_readLaw 155 = .ok (.goto (-123), 3) := by decide +kernel
theorem dX5_readLaw_158 : decode cX5_readLaw 158 = .ok (.aload_n 0, 1) := by decide +kernel
theorem dX5_readLaw_159 : decode cX5_readLaw 159 = .ok (.invokevirtual 140, 3) := by decide +kernel
theorem dX5_readLaw_162 : decode cX5_readLaw 162 = .ok (.ifCond .eq 12, 3) := by decide +kernel
theorem dX5_readLaw_165 : decode cX5_readLaw 165 = .ok (.aload_n 0, 1) := by decide +kernel
theorem dX5_readLaw_166 : decode cX5_readLaw 166 = .ok (.bipush 59, 2) := by decide +kernel
theorem dX5_readLaw_168 : decode cX5_readLaw 168 = .ok (.invokevirtual 92, 3) := by decide +kernel
theorem dX5_readLaw_171 : decode cX5_readLaw 171 = .ok (.ifCond .ne 5, 3) := by decide +kernel
theorem dX5_readLaw_174 : decode cX5_readLaw 174 = .ok (.iconst 0, 1) := by decide +kernel
theorem dX5_readLaw_175 : decode cX5_readLaw 175 = .ok (.ireturn, 1) := by decide +kernel
theorem dX5_readLaw_176 : decode cX5_readLaw 176 = .ok (.aload_n 0, 1) := by decide +kernel
theorem dX5_readLaw_177 : decode cX5_readLaw 177 = .ok (.getfield 14, 3) := by decide +kernel
theorem dX5_readLaw_180 : decode cX5_readLaw 180 = .ok (.iconst 3, 1) := by decide +kernel
theorem dX5_readLaw_181 : decode cX5_readLaw 181 = .ok (.iconst 0, 1) := by decide +kernel
theorem dX5_readLaw_182 : decode cX5_readLaw 182 = .ok (.invokevirtual 146, 3) := by decide +kernel
theorem dX5_readLaw_185 : decode cX5_readLaw 185 = .ok (.iconst 1, 1) := by decide +kernel
theorem dX5_readLaw_186 : decode cX5_readLaw 186 = .ok (.ireturn, 1) := by decide +kernel
theorem dX5_readSetting_0 : decode cX5_readSetting 0 = .ok (.aload_n 0, 1) := by decide +kernel
theorem dX5_readSetting_1 : decode cX5_readSetting 1 = .ok (.iload_n 1, 1) := by decide +kernel
theorem dX5_readSetting_2 : decode cX5_readSetting 2 = .ok (.invokevirtual 92, 3) := by decide +kernel
theorem dX5_readSetting_5 : decode cX5_readSetting 5 = .ok (.ifCond .eq 24, 3) := by decide +kernel
theorem dX5_readSetting_8 : decode cX5_readSetting 8 = .ok (.aload_n 0, 1) := by decide +kernel
theorem dX5_readSetting_9 : decode cX5_readSetting 9 = .ok (.iload_n 1, 1) := by decide +kernel
theorem dX5_readSetting_10 : decode cX5_readSetting 10 = .ok (.bipush 9, 2) := by decide +kernel
theorem dX5_readSetting_12 : decode cX5_readSetting 12 = .ok (.if_icmp .ne 9, 3) := by decide +kernel
theorem dX5_readSetting_15 : decode cX5_readSetting 15 = .ok (.sipush 9999, 3) := by decide +kernel
theorem dX5_readSetting_18 : decode cX5_readSetting 18 = .ok (.goto 5, 3) := by decide +kernel
theorem dX5_readSetting_21 : decode cX5_readSetting 21 = .ok (.bipush 9, 2) := by decide +kernel
theorem dX5_readSetting_23 : decode cX5_readSetting 23 = .ok (.invokevirtual 95, 3) := by decide +kernel
theorem dX5_readSetting_26 : decode cX5_readSetting 26 = .ok (.ifCond .ne 5, 3) := by decide +kernel
theorem dX5_readSetting_29 : decode cX5_readSetting 29 = .ok (.iconst 0, 1) := by decide +kernel
theorem dX5_readSetting_30 : decode cX5_readSetting 30 = .ok (.ireturn, 1) := by decide +kernel
theorem dX5_readSetting_31 : decode cX5_readSetting 31 = .ok (.iload_n 1, 1) := by decide +kernel
theorem dX5_readSetting_32 : decode cX5_readSetting 32 = .ok (.bipush 7, 2) := by decide +kernel
theorem dX5_readSetting_34 : decode cX5_readSetting 34 = .ok (.if_icmp .ne 18, 3) := by decide +kernel
theorem dX5_readSetting_37 : decode cX5_readSetting 37 = .ok (.aload_n 0, 1) := by decide +kernel
theorem dX5_readSetting_38 : decode cX5_readSetting 38 = .ok (.getfield 14, 3) := by decide +kernel
theorem dX5_readSetting_41 : decode cX5_readSetting 41 = .ok (.aload_n 0, 1) := by decide +kernel
theorem dX5_readSetting_42 : decode cX5_readSetting 42 = .ok (.getfield 101, 3) := by decide +kernel
theorem dX5_readSetting_45 : decode cX5_readSetting 45 = .ok (.l2i, 1) := by decide +kernel
theorem dX5_readSetting_46 : decode cX5_readSetting 46 = .ok (.putfield 128, 3) := by decide +kernel
theorem dX5_readSetting_49 : decode cX5_readSetting 49 = .ok (.goto 36, 3) := by decide +kernel
theorem dX5_readSetting_52 : decode cX5_readSetting 52 = .ok (.iload_n 1, 1) := by decide +kernel
theorem dX5_readSetting_53 : decode cX5_readSetting 53 = .ok (.bipush 8, 2) := by decide +kernel
theorem dX5_readSetting_55 : decode cX5_readSetting 55 = .ok (.if_icmp .ne 18, 3) := by decide +kernel
theorem dX5_readSetting_58 : decode cX5_readSetting 58 = .ok (.aload_n 0, 1) := by decide +kernel
theorem dX5_readSetting_59 : decode cX5_readSetting 59 = .ok (.getfield 14, 3) := by decide +kernel
theorem dX5_readSetting_62 : decode cX5_readSetting 62 = .ok (.aload_n 0, 1) := by decide +kernel
theorem dX5_readSetting_63 : decode cX5_readSetting 63 = .ok (.getfield 101, 3) := by decide +kernel
theorem dX5_readSetting_66 : decode cX5_readSetting 66 = .ok (.l2i, 1) := by decide +kernel
theorem dX5_readSetting_67 : decode cX5_readSetting 67 = .ok (.putfield 131, 3) := by decide +kernel
theorem dX5_readSetting_70 : decode cX5_readSetting 70 = .ok (.goto 15, 3) := by decide +kernel
theorem dX5_readSetting_73 : decode cX5_readSetting 73 = .ok (.aload_n 0, 1) := by decide +kernel
theorem dX5_readSetting_74 : decode cX5_readSetting 74 = .ok (.getfield 14, 3) := by decide +kernel
theorem dX5_readSetting_77 : decode cX5_readSetting 77 = .ok (.aload_n 0, 1) := by decide +kernel
theorem dX5_readSetting_78 : decode cX5_readSetting 78 = .ok (.getfield 101, 3) := by decide +kernel
theorem dX5_readSetting_81 : decode cX5_readSetting 81 = .ok (.l2i, 1) := by decide +kernel
theorem dX5_readSetting_82 : decode cX5_readSetting 82 = .ok (.putfield 134, 3) := by decide +kernel
theorem dX5_readSetting_85 : decode cX5_readSetting 85 = .ok (.aload_n 0, 1) := by decide +kernel
theorem dX5_readSetting_86 : decode cX5_readSetting 86 = .ok (.bipush 59, 2) := by decide +kernel
theorem dX5_readSetting_88 : decode cX5_readSetting 88 = .ok (.invokevirtual 92, 3) := by decide +kernel
theorem dX5_readSetting_91 : decode cX5_readSetting 91 = .ok (.ireturn, 1) := by decide +kernel
theorem dX5_readTell_0 : decode cX5_readTell 0 = .ok (.aload_n 0, 1) := by decide +kernel
theorem dX5_readTell_1 : decode cX5_readTell 1 = .ok (.invokevirtual 60, 3) := by decide +kernel
theorem dX5_readTell_4 : decode cX5_readTell 4 = .ok (.istore_n 1, 1) := by decide +kernel
theorem dX5_readTell_5 : decode cX5_readTell 5 = .ok (.iload_n 1, 1) := by decide +kernel
theorem dX5_readTell_6 : decode cX5_readTell 6 = .ok (.tableswitch 99 0 9 #[54, 59, 64, 69, 75, 81, 87, 93, 93, 93], 54) := by decide +kernel
theorem dX5_readTell_60 : decode cX5_readTell 60 = .ok (.aload_n 0, 1) := by decide +kernel
theorem dX5_readTell_61 : decode cX5_readTell 61 = .ok (.invokevirtual 68, 3) := by decide +kernel
theorem dX5_readTell_64 : decode cX5_readTell 64 = .ok (.ireturn, 1) := by decide +kernel
theorem dX5_readTell_65 : decode cX5_readTell 65 = .ok (.aload_n 0, 1) := by decide +kernel
theorem dX5_readTell_66 : decode cX5_readTell 66 = .ok (.invokevirtual 71, 3) := by decide +kernel
theorem dX5_readTell_69 : decode cX5_readTell 69 = .ok (.ireturn, 1) := by decide +kernel
theorem dX5_readTell_70 : decode cX5_readTell 70 = .ok (.aload_n 0, 1) := by decide +kernel
theorem dX5_readTell_71 : decode cX5_readTell 71 = .ok (.invokevirtual 74, 3) := by decide +kernel
theorem dX5_readTell_74 : decode cX5_readTell 74 = .ok (.ireturn, 1) := by decide +kernel
theorem dX5_readTell_75 : decode cX5_readTell 75 = .ok (.aload_n 0, 1) := by decide +kernel
theorem dX5_readTell_76 : decode cX5_readTell 76 = .ok (.iconst 0, 1) := by decide +kernel
theorem dX5_readTell_77 : decode cX5_readTell 77 = .ok (.invokevirtual 79, 3) := by decide +kernel
theorem dX5_readTell_80 : decode cX5_readTell 80 = .ok (.ireturn, 1) := by decide +kernel
theorem dX5_readTell_81 : decode cX5_readTell 81 = .ok (.aload_n 0, 1) := by decide +kernel
theorem dX5_readTell_82 : decode cX5_readTell 82 = .ok (.iconst 1, 1) := by decide +kernel
theorem dX5_readTell_83 : decode cX5_readTell 83 = .ok (.invokevirtual 79, 3) := by decide +kernel
theorem dX5_readTell_86 : decode cX5_readTell 86 = .ok (.ireturn, 1) := by decide +kernel
theorem dX5_readTell_87 : decode cX5_readTell 87 = .ok (.aload_n 0, 1) := by decide +kernel
theorem dX5_readTell_88 : decode cX5_readTell 88 = .ok (.iconst 2, 1) := by decide +kernel
theorem dX5_readTell_89 : decode cX5_readTell 89 = .ok (.invokevirtual 79, 3) := by decide +kernel
theorem dX5_readTell_92 : decode cX5_readTell 92 = .ok (.ireturn, 1) := by decide +kernel
theorem dX5_readTell_93 : decode cX5_readTell 93 = .ok (.aload_n 0, 1) := by decide +kernel
theorem dX5_readTell_94 : decode cX5_readTell 94 = .ok (.iconst 3, 1) := by decide +kernel
theorem dX5_readTell_95 : decode cX5_readTell 95 = .ok (.invokevirtual 79, 3) := by decide +kernel
theorem dX5_readTell_98 : decode cX5_readTell 98 = .ok (.ireturn, 1) := by decide +kernel
theorem dX5_readTell_99 : decode cX5_readTell 99 = .ok (.aload_n 0, 1) := by decide +kernel
theorem dX5_readTell_100 : decode cX5_readTell 100 = .ok (.iload_n 1, 1) := by decide +kernel
theorem dX5_readTell_101 : decode cX5_readTell 101 = .ok (.invokevirtual 83, 3) := by decide +kernel
theorem dX5_readTell_104 : decode cX5_readTell 104 = .ok (.ireturn, 1) := by decide +kernel
theorem dX5_readTell_105 : decode cX5_readTell 105 = .ok (.aload_n 0, 1) := by decide +kernel
theorem dX5_readTell_106 : decode cX5_readTell 106 = .ok (.iconst 1, 1) := by decide +kernel
theorem dX5_readTell_107 : decode cX5_readTell 107 = .ok (.invokevirtual 86, 3) := by decide +kernel
theorem dX5_readTell_110 : decode cX5_readTell 110 = .ok (.ireturn, 1) := by decide +kernel
theorem dX5_readAll_0 : decode cX5_readAll 0 = .ok (.aload_n 0, 1) := by decide +kernel
theorem dX5_readAll_1 : decode cX5_readAll 1 = .ok (.getfield 35, 3) := by decide +kernel
theorem dX5_readAll_4 : decode cX5_readAll 4 = .ok (.invokevirtual 39, 3) := by decide +kernel
theorem dX5_readAll_7 : decode cX5_readAll 7 = .ok (.aload_n 0, 1) := by decide +kernel
theorem dX5_readAll_8 : decode cX5_readAll 8 = .ok (.getfield 14, 3) := by decide +kernel
theorem dX5_readAll_11 : decode cX5_readAll 11 = .ok (.invokevirtual 42, 3) := by decide +kernel
theorem dX5_readAll_14 : decode cX5_readAll 14 = .ok (.aload_n 0, 1) := by decide +kernel
theorem dX5_readAll_15 : decode cX5_readAll 15 = .ok (.iconst 0, 1) := by decide +kernel
theorem dX5_readAll_16 : decode cX5_readAll 16 = .ok (.putfield 45, 3) := by decide +kernel
theorem dX5_readAll_19 : decode cX5_readAll 19 = .ok (.aload_n 0, 1) := by decide +kernel
theorem dX5_readAll_20 : decode cX5_readAll 20 = .ok (.iconst 0, 1) := by decide +kernel
theorem dX5_readAll_21 : decode cX5_readAll 21 = .ok (.putfield 48, 3) := by decide +kernel
theorem dX5_readAll_24 : decode cX5_readAll 24 = .ok (.aload_n 0, 1) := by decide +kernel
theorem dX5_readAll_25 : decode cX5_readAll 25 = .ok (.iconst 0, 1) := by decide +kernel
theorem dX5_readAll_26 : decode cX5_readAll 26 = .ok (.putfield 51, 3) := by decide +kernel
theorem dX5_readAll_29 : decode cX5_readAll 29 = .ok (.aload_n 0, 1) := by decide +kernel
theorem dX5_readAll_30 : decode cX5_readAll 30 = .ok (.iconst (-1), 1) := by decide +kernel
theorem dX5_readAll_31 : decode cX5_readAll 31 = .ok (.putfield 18, 3) := by decide +kernel
theorem dX5_readAll_34 : decode cX5_readAll 34 = .ok (.aload_n 0, 1) := by decide +kernel
theorem dX5_readAll_35 : decode cX5_readAll 35 = .ok (.iconst 0, 1) := by decide +kernel
theorem dX5_readAll_36 : decode cX5_readAll 36 = .ok (.putfield 54, 3) := by decide +kernel
theorem dX5_readAll_39 : decode cX5_readAll 39 = .ok (.aload_n 0, 1) := by decide +kernel
theorem dX5_readAll_40 : decode cX5_readAll 40 = .ok (.iconst (-1), 1) := by decide +kernel
theorem dX5_readAll_41 : decode cX5_readAll 41 = .ok (.putfield 57, 3) := by decide +kernel
theorem dX5_readAll_44 : decode cX5_readAll 44 = .ok (.iconst 1, 1) := by decide +kernel
theorem dX5_readAll_45 : decode cX5_readAll 45 = .ok (.istore_n 1, 1) := by decide +kernel
theorem dX5_readAll_46 : decode cX5_readAll 46 = .ok (.iconst 0, 1) := by decide +kernel
theorem dX5_readAll_47 : decode cX5_readAll 47 = .ok (.istore_n 2, 1) := by decide +kernel
theorem dX5_readAll_48 : decode cX5_readAll 48 = .ok (.iload_n 2, 1) := by decide +kernel
theorem dX5_readAll_49 : decode cX5_readAll 49 = .ok (.sipush 400, 3) := by decide +kernel
theorem dX5_readAll_52 : decode cX5_readAll 52 = .ok (.if_icmp .gt 27, 3) := by decide +kernel
theorem dX5_readAll_55 : decode cX5_readAll 55 = .ok (.iload_n 1, 1) := by decide +kernel
theorem dX5_readAll_56 : decode cX5_readAll 56 = .ok (.ifCond .eq 23, 3) := by decide +kernel
theorem dX5_readAll_59 : decode cX5_readAll 59 = .ok (.aload_n 0, 1) := by decide +kernel
theorem dX5_readAll_60 : decode cX5_readAll 60 = .ok (.invokevirtual 60, 3) := by decide +kernel
theorem dX5_readAll_63 : decode cX5_readAll 63 = .ok (.bipush 24, 2) := by decide +kernel
theorem dX5_readAll_65 : decode cX5_readAll 65 = .ok (.if_icmp .eq 14, 3) := by decide +kernel
theorem dX5_readAll_68 : decode cX5_readAll 68 = .ok (.aload_n 0, 1) := by decide +kernel
theorem dX5_readAll_69 : decode cX5_readAll 69 = .ok (.invokevirtual 64, 3) := by decide +kernel
theorem dX5_readAll_72 : decode cX5_readAll 72 = .ok (.istore_n 1, 1) := by decide +kernel
theorem dX5_readAll_73 : decode cX5_readAll 73 = .ok (.iinc 2 1, 3) := by decide +kernel
theorem dX5_readAll_76 : decode cX5_readAll 76 = .ok (.goto (-28), 3) := by decide +kernel
theorem dX5_readAll_79 : decode cX5_readAll 79 = .ok (.aload_n 0, 1) := by decide +kernel
theorem dX5_readAll_80 : decode cX5_readAll 80 = .ok (.getfield 51, 3) := by decide +kernel
theorem dX5_readAll_83 : decode cX5_readAll 83 = .ok (.ifCond .ne 19, 3) := by decide +kernel
theorem dX5_readAll_86 : decode cX5_readAll 86 = .ok (.aload_n 0, 1) := by decide +kernel
theorem dX5_readAll_87 : decode cX5_readAll 87 = .ok (.aload_n 0, 1) := by decide +kernel
theorem dX5_readAll_88 : decode cX5_readAll 88 = .ok (.getfield 54, 3) := by decide +kernel
theorem dX5_readAll_91 : decode cX5_readAll 91 = .ok (.putfield 51, 3) := by decide +kernel
theorem dX5_readAll_94 : decode cX5_readAll 94 = .ok (.aload_n 0, 1) := by decide +kernel
theorem dX5_readAll_95 : decode cX5_readAll 95 = .ok (.aload_n 0, 1) := by decide +kernel
theorem dX5_readAll_96 : decode cX5_readAll 96 = .ok (.getfield 57, 3) := by decide +kernel
theorem dX5_readAll_99 : decode cX5_readAll 99 = .ok (.putfield 18, 3) := by decide +kernel
theorem dX5_readAll_102 : decode cX5_readAll 102 = .ok (.aload_n 0, 1) := by decide +kernel
theorem dX5_readAll_103 : decode cX5_readAll 103 = .ok (.getfield 51, 3) := by decide +kernel
theorem dX5_readAll_106 : decode cX5_readAll 106 = .ok (.ireturn, 1) := by decide +kernel
theorem fl_X5_14 : fl RX5 14 5 0 := ⟨RX5, TX5, 14, rfl, iw_X5, by decide, lg_at 178 (by decide +kernel) (by decide +kernel), rfl⟩
theorem fl_X5_22 : fl RX5 22 5 3 := ⟨RX5, TX5, 14, rfl, iw_X5, by decide, lg_at 183 (by decide +kernel) (by decide +kernel), rfl⟩
theorem fl_X5_26 : fl RX5 26 5 4 := ⟨RX5, TX5, 14, rfl, iw_X5, by decide, lg_at 184 (by decide +kernel) (by decide +kernel), rfl⟩
theorem fl_X5_35 : fl RX5 35 5 2 := ⟨RX5, TX5, 14, rfl, iw_X5, by decide, lg_at 182 (by decide +kernel) (by decide +kernel), rfl⟩
theorem fl_X5_45 : fl RX5 45 5 5 := ⟨RX5, TX5, 14, rfl, iw_X5, by decide, lg_at 185 (by decide +kernel) (by decide +kernel), rfl⟩
theorem fl_X5_48 : fl RX5 48 5 8 := ⟨RX5, TX5, 14, rfl, iw_X5, by decide, lg_at 188 (by decide +kernel) (by decide +kernel), rfl⟩
theorem fl_X5_51 : fl RX5 51 5 11 := ⟨RX5, TX5, 14, rfl, iw_X5, by decide, lg_at 191 (by decide +kernel) (by decide +kernel), rfl⟩
theorem fl_X5_54 : fl RX5 54 5 12 := ⟨RX5, TX5, 14, rfl, iw_X5, by decide, lg_at 192 (by decide +kernel) (by decide +kernel), rfl⟩
theorem fl_X5_57 : fl RX5 57 5 13 := ⟨RX5, TX5, 14, rfl, iw_X5, by decide, lg_at 193 (by decide +kernel) (by decide +kernel), rfl⟩
theorem fl_X5_89 : fl RX5 89 9 0 := ⟨RX9, TX9, 13, rfl, iw_X9, by decide, lg_at 82 (by decide +kernel) (by decide +kernel), rfl⟩
theorem fl_X5_98 : fl RX5 98 9 6 := ⟨RX9, TX9, 13, rfl, iw_X9, by decide, lg_at 103 (by decide +kernel) (by decide +kernel), rfl⟩
theorem fl_X5_101 : fl RX5 101 5 9 := ⟨RX5, TX5, 14, rfl, iw_X5, by decide, lg_at 189 (by decide +kernel) (by decide +kernel), rfl⟩
theorem fl_X5_105 : fl RX5 105 9 1 := ⟨RX9, TX9, 13, rfl, iw_X9, by decide, lg_at 87 (by decide +kernel) (by decide +kernel), rfl⟩
theorem fl_X5_116 : fl RX5 116 9 7 := ⟨RX9, TX9, 13, rfl, iw_X9, by decide, lg_at 105 (by decide +kernel) (by decide +kernel), rfl⟩
theorem fl_X5_119 : fl RX5 119 9 8 := ⟨RX9, TX9, 13, rfl, iw_X9, by decide, lg_at 109 (by decide +kernel) (by decide +kernel), rfl⟩
theorem fl_X5_125 : fl RX5 125 9 9 := ⟨RX9, TX9, 13, rfl, iw_X9, by decide, lg_at 114 (by decide +kernel) (by decide +kernel), rfl⟩
theorem fl_X5_143 : fl RX5 143 9 5 := ⟨RX9, TX9, 13, rfl, iw_X9, by decide, lg_at 100 (by decide +kernel) (by decide +kernel), rfl⟩
theorem fl_X5_153 : fl RX5 153 5 6 := ⟨RX5, TX5, 14, rfl, iw_X5, by decide, lg_at 186 (by decide +kernel) (by decide +kernel), rfl⟩
theorem fl_X5_156 : fl RX5 156 5 7 := ⟨RX5, TX5, 14, rfl, iw_X5, by decide, lg_at 187 (by decide +kernel) (by decide +kernel), rfl⟩
theorem fl_X5_185 : fl RX5 185 6 0 := ⟨RX6, TX6, 6, rfl, iw_X6, by decide, lg_at 156 (by decide +kernel) (by decide +kernel), rfl⟩
theorem fl_X5_188 : fl RX5 188 6 2 := ⟨RX6, TX6, 6, rfl, iw_X6, by decide, lg_at 160 (by decide +kernel) (by decide +kernel), rfl⟩
theorem fl_X5_191 : fl RX5 191 6 1 := ⟨RX6, TX6, 6, rfl, iw_X6, by decide, lg_at 158 (by decide +kernel) (by decide +kernel), rfl⟩
theorem fl_X5_194 : fl RX5 194 5 10 := ⟨RX5, TX5, 14, rfl, iw_X5, by decide, lg_at 190 (by decide +kernel) (by decide +kernel), rfl⟩
theorem fp_X5_18 : fp RX5 18 5 1 .int := ⟨RX5, TX5, 14, tyX5, rfl, iw_X5, by decide, lg_at 180 (by decide +kernel) (by decide +kernel), rfl, tyX5_ok, nmX5, rfl, by decide +kernel⟩
theorem fp_X5_45 : fp RX5 45 5 5 .int := ⟨RX5, TX5, 14, tyX5, rfl, iw_X5, by decide, lg_at 185 (by decide +kernel) (by decide +kernel), rfl, tyX5_ok, nmX5, rfl, by decide +kernel⟩
theorem fp_X5_48 : fp RX5 48 5 8 .int := ⟨RX5, TX5, 14, tyX5, rfl, iw_X5, by decide, lg_at 188 (by decide +kernel) (by decide +kernel), rfl, tyX5_ok, nmX5, rfl, by decide +kernel⟩
theorem fp_X5_51 : fp RX5 51 5 11 .int := ⟨RX5, TX5, 14, tyX5, rfl, iw_X5, by decide, lg_at 191 (by decide +kernel) (by decide +kernel), rfl, tyX5_ok, nmX5, rfl, by decide +kernel⟩
theorem fp_X5_54 : fp RX5 54 5 12 .int := ⟨RX5, TX5, 14, tyX5, rfl, iw_X5, by decide, lg_at 192 (by decide +kernel) (by decide +kernel), rfl, tyX5_ok, nmX5, rfl, by decide +kernel⟩
theorem fp_X5_57 : fp RX5 57 5 13 .int := ⟨RX5, TX5, 14, tyX5, rfl, iw_X5, by decide, lg_at 193 (by decide +kernel) (by decide +kernel), rfl, tyX5_ok, nmX5, rfl, by decide +kernel⟩
theorem fp_X5_89 : fp RX5 89 9 0 .int := ⟨RX9, TX9, 13, tyX9, rfl, iw_X9, by decide, lg_at 82 (by decide +kernel) (by decide +kernel), rfl, tyX9_ok, nmX9, rfl, by decide +kernel⟩
theorem fp_X5_101 : fp RX5 101 5 9 .long := ⟨RX5, TX5, 14, tyX5, rfl, iw_X5, by decide, lg_at 189 (by decide +kernel) (by decide +kernel), rfl, tyX5_ok, nmX5, rfl, by decide +kernel⟩
theorem fp_X5_105 : fp RX5 105 9 1 .int := ⟨RX9, TX9, 13, tyX9, rfl, iw_X9, by decide, lg_at 87 (by decide +kernel) (by decide +kernel), rfl, tyX9_ok, nmX9, rfl, by decide +kernel⟩
theorem fp_X5_128 : fp RX5 128 9 2 .int := ⟨RX9, TX9, 13, tyX9, rfl, iw_X9, by decide, lg_at 91 (by decide +kernel) (by decide +kernel), rfl, tyX9_ok, nmX9, rfl, by decide +kernel⟩
theorem fp_X5_131 : fp RX5 131 9 3 .int := ⟨RX9, TX9, 13, tyX9, rfl, iw_X9, by decide, lg_at 94 (by decide +kernel) (by decide +kernel), rfl, tyX9_ok, nmX9, rfl, by decide +kernel⟩
theorem fp_X5_134 : fp RX5 134 9 4 .int := ⟨RX9, TX9, 13, tyX9, rfl, iw_X9, by decide, lg_at 97 (by decide +kernel) (by decide +kernel), rfl, tyX9_ok, nmX9, rfl, by decide +kernel⟩
theorem fp_X5_153 : fp RX5 153 5 6 .int := ⟨RX5, TX5, 14, tyX5, rfl, iw_X5, by decide, lg_at 186 (by decide +kernel) (by decide +kernel), rfl, tyX5_ok, nmX5, rfl, by decide +kernel⟩
theorem fp_X5_156 : fp RX5 156 5 7 .int := ⟨RX5, TX5, 14, tyX5, rfl, iw_X5, by decide, lg_at 187 (by decide +kernel) (by decide +kernel), rfl, tyX5_ok, nmX5, rfl, by decide +kernel⟩
theorem fp_X5_194 : fp RX5 194 5 10 .int := ⟨RX5, TX5, 14, tyX5, rfl, iw_X5, by decide, lg_at 190 (by decide +kernel) (by decide +kernel), rfl, tyX5_ok, nmX5, rfl, by decide +kernel⟩
theorem cV_X5_39 : cV RX5 39 yX6_scan cX6_scan 3 none 0 := ⟨⟨lg_at 461 (by decide +kernel) (by decide +kernel), lg_at 462 (by decide +kernel) (by decide +kernel), lg_at 463 (by decide +kernel) (by decide +kernel), lg_at 6 (by decide +kernel) (by decide +kernel), lg_at 464 (by decide +kernel) (by decide +kernel)⟩, by decide +kernel, by decide +kernel, by decide +kernel⟩
theorem cV_X5_42 : cV RX5 42 yX9_empty cX9_empty 1 none 0 := ⟨⟨lg_at 612 (by decide +kernel) (by decide +kernel), lg_at 60 (by decide +kernel) (by decide +kernel), lg_at 61 (by decide +kernel) (by decide +kernel), lg_at 4 (by decide +kernel) (by decide +kernel), lg_at 62 (by decide +kernel) (by decide +kernel)⟩, by decide +kernel, by decide +kernel, by decide +kernel⟩
theorem cV_X5_60 : cV RX5 60 yX5_kindNow cX5_kindNow 1 (some .int) 0 := ⟨⟨lg_at 613 (by decide +kernel) (by decide +kernel), lg_at 615 (by decide +kernel) (by decide +kernel), lg_sel 5 (by decide +kernel) (by decide +kernel), lg_at 3 (by decide +kernel) (by decide +kernel), lg_at 616 (by decide +kernel) (by decide +kernel)⟩, by decide +kernel, by decide +kernel, by decide +kernel⟩
theorem cV_X5_64 : cV RX5 64 yX5_readTell cX5_readTell 2 (some .boolean) 0 := ⟨⟨lg_at 617 (by decide +kernel) (by decide +kernel), lg_at 619 (by decide +kernel) (by decide +kernel), lg_sel 6 (by decide +kernel) (by decide +kernel), lg_at 3 (by decide +kernel) (by decide +kernel), lg_at 620 (by decide +kernel) (by decide +kernel)⟩, by decide +kernel, by decide +kernel, by decide +kernel⟩
theorem cV_X5_68 : cV RX5 68 yX5_readMinute cX5_readMinute 1 (some .boolean) 0 := ⟨⟨lg_at 621 (by decide +kernel) (by decide +kernel), lg_at 623 (by decide +kernel) (by decide +kernel), lg_sel 7 (by decide +kernel) (by decide +kernel), lg_at 3 (by decide +kernel) (by decide +kernel), lg_at 624 (by decide +kernel) (by decide +kernel)⟩, by decide +kernel, by decide +kernel, by decide +kernel⟩
theorem cV_X5_71 : cV RX5 71 yX5_readFamily cX5_readFamily 2 (some .boolean) 0 := ⟨⟨lg_at 641 (by decide +kernel) (by decide +kernel), lg_at 643 (by decide +kernel) (by decide +kernel), lg_sel 12 (by decide +kernel) (by decide +kernel), lg_at 3 (by decide +kernel) (by decide +kernel), lg_at 644 (by decide +kernel) (by decide +kernel)⟩, by decide +kernel, by decide +kernel, by decide +kernel⟩
theorem cV_X5_74 : cV RX5 74 yX5_readLease cX5_readLease 3 (some .boolean) 0 := ⟨⟨lg_at 649 (by decide +kernel) (by decide +kernel), lg_at 651 (by decide +kernel) (by decide +kernel), lg_sel 14 (by decide +kernel) (by decide +kernel), lg_at 3 (by decide +kernel) (by decide +kernel), lg_at 652 (by decide +kernel) (by decide +kernel)⟩, by decide +kernel, by decide +kernel, by decide +kernel⟩
theorem cV_X5_79 : cV RX5 79 yX5_readLaw cX5_readLaw 4 (some .boolean) 1 := ⟨⟨lg_at 656 (by decide +kernel) (by decide +kernel), lg_at 658 (by decide +kernel) (by decide +kernel), lg_sel 15 (by decide +kernel) (by decide +kernel), lg_at 3 (by decide +kernel) (by decide +kernel), lg_at 659 (by decide +kernel) (by decide +kernel)⟩, by decide +kernel, by decide +kernel, by decide +kernel⟩
theorem cV_X5_83 : cV RX5 83 yX5_readSetting cX5_readSetting 2 (some .boolean) 1 := ⟨⟨lg_at 693 (by decide +kernel) (by decide +kernel), lg_at 695 (by decide +kernel) (by decide +kernel), lg_sel 21 (by decide +kernel) (by decide +kernel), lg_at 3 (by decide +kernel) (by decide +kernel), lg_at 696 (by decide +kernel) (by decide +kernel)⟩, by decide +kernel, by decide +kernel, by decide +kernel⟩
theorem cV_X5_86 : cV RX5 86 yX5_fail cX5_fail 2 (some .boolean) 1 := ⟨⟨lg_at 625 (by decide +kernel) (by decide +kernel), lg_at 627 (by decide +kernel) (by decide +kernel), lg_sel 8 (by decide +kernel) (by decide +kernel), lg_at 3 (by decide +kernel) (by decide +kernel), lg_at 628 (by decide +kernel) (by decide +kernel)⟩, by decide +kernel, by decide +kernel, by decide +kernel⟩
theorem cV_X5_92 : cV RX5 92 yX5_take cX5_take 2 (some .boolean) 1 := ⟨⟨lg_at 629 (by decide +kernel) (by decide +kernel), lg_at 631 (by decide +kernel) (by decide +kernel), lg_sel 9 (by decide +kernel) (by decide +kernel), lg_at 3 (by decide +kernel) (by decide +kernel), lg_at 632 (by decide +kernel) (by decide +kernel)⟩, by decide +kernel, by decide +kernel, by decide +kernel⟩
theorem cV_X5_95 : cV RX5 95 yX5_takeNumber cX5_takeNumber 2 (some .boolean) 1 := ⟨⟨lg_at 633 (by decide +kernel) (by decide +kernel), lg_at 635 (by decide +kernel) (by decide +kernel), lg_sel 10 (by decide +kernel) (by decide +kernel), lg_at 3 (by decide +kernel) (by decide +kernel), lg_at 636 (by decide +kernel) (by decide +kernel)⟩, by decide +kernel, by decide +kernel, by decide +kernel⟩
theorem cV_X5_108 : cV RX5 108 yX5_familyNamed cX5_familyNamed 4 (some .int) 1 := ⟨⟨lg_at 645 (by decide +kernel) (by decide +kernel), lg_at 647 (by decide +kernel) (by decide +kernel), lg_sel 13 (by decide +kernel) (by decide +kernel), lg_at 3 (by decide +kernel) (by decide +kernel), lg_at 648 (by decide +kernel) (by decide +kernel)⟩, by decide +kernel, by decide +kernel, by decide +kernel⟩
theorem cV_X5_112 : cV RX5 112 yX5_failLater cX5_failLater 2 none 1 := ⟨⟨lg_at 637 (by decide +kernel) (by decide +kernel), lg_at 639 (by decide +kernel) (by decide +kernel), lg_sel 11 (by decide +kernel) (by decide +kernel), lg_at 3 (by decide +kernel) (by decide +kernel), lg_at 640 (by decide +kernel) (by decide +kernel)⟩, by decide +kernel, by decide +kernel, by decide +kernel⟩
theorem cV_X5_137 : cV RX5 137 yX9_startLaw cX9_startLaw 2 none 1 := ⟨⟨lg_at 660 (by decide +kernel) (by decide +kernel), lg_at 71 (by decide +kernel) (by decide +kernel), lg_at 72 (by decide +kernel) (by decide +kernel), lg_at 4 (by decide +kernel) (by decide +kernel), lg_at 73 (by decide +kernel) (by decide +kernel)⟩, by decide +kernel, by decide +kernel, by decide +kernel⟩
theorem cV_X5_140 : cV RX5 140 yX5_readSum cX5_readSum 4 (some .boolean) 0 := ⟨⟨lg_at 661 (by decide +kernel) (by decide +kernel), lg_at 663 (by decide +kernel) (by decide +kernel), lg_sel 16 (by decide +kernel) (by decide +kernel), lg_at 3 (by decide +kernel) (by decide +kernel), lg_at 664 (by decide +kernel) (by decide +kernel)⟩, by decide +kernel, by decide +kernel, by decide +kernel⟩
theorem cV_X5_146 : cV RX5 146 yX9_putCode cX9_putCode 3 none 2 := ⟨⟨lg_at 679 (by decide +kernel) (by decide +kernel), lg_at 75 (by decide +kernel) (by decide +kernel), lg_at 76 (by decide +kernel) (by decide +kernel), lg_at 4 (by decide +kernel) (by decide +kernel), lg_at 77 (by decide +kernel) (by decide +kernel)⟩, by decide +kernel, by decide +kernel, by decide +kernel⟩
theorem cV_X5_150 : cV RX5 150 yX9_aimHere cX9_aimHere 2 none 1 := ⟨⟨lg_at 689 (by decide +kernel) (by decide +kernel), lg_at 690 (by decide +kernel) (by decide +kernel), lg_at 691 (by decide +kernel) (by decide +kernel), lg_at 4 (by decide +kernel) (by decide +kernel), lg_at 692 (by decide +kernel) (by decide +kernel)⟩, by decide +kernel, by decide +kernel, by decide +kernel⟩
theorem cV_X5_159 : cV RX5 159 yX5_goesOnSum cX5_goesOnSum 3 (some .boolean) 2 := ⟨⟨lg_at 665 (by decide +kernel) (by decide +kernel), lg_at 667 (by decide +kernel) (by decide +kernel), lg_sel 17 (by decide +kernel) (by decide +kernel), lg_at 3 (by decide +kernel) (by decide +kernel), lg_at 668 (by decide +kernel) (by decide +kernel)⟩, by decide +kernel, by decide +kernel, by decide +kernel⟩
theorem cV_X5_163 : cV RX5 163 yX5_putPending cX5_putPending 2 none 1 := ⟨⟨lg_at 675 (by decide +kernel) (by decide +kernel), lg_at 677 (by decide +kernel) (by decide +kernel), lg_sel 18 (by decide +kernel) (by decide +kernel), lg_at 3 (by decide +kernel) (by decide +kernel), lg_at 678 (by decide +kernel) (by decide +kernel)⟩, by decide +kernel, by decide +kernel, by decide +kernel⟩
theorem cV_X5_166 : cV RX5 166 yX5_push cX5_push 2 none 1 := ⟨⟨lg_at 680 (by decide +kernel) (by decide +kernel), lg_at 682 (by decide +kernel) (by decide +kernel), lg_sel 19 (by decide +kernel) (by decide +kernel), lg_at 3 (by decide +kernel) (by decide +kernel), lg_at 683 (by decide +kernel) (by decide +kernel)⟩, by decide +kernel, by decide +kernel, by decide +kernel⟩
theorem cV_X5_179 : cV RX5 179 yX5_putUnit cX5_putUnit 2 none 1 := ⟨⟨lg_at 685 (by decide +kernel) (by decide +kernel), lg_at 687 (by decide +kernel) (by decide +kernel), lg_sel 20 (by decide +kernel) (by decide +kernel), lg_at 3 (by decide +kernel) (by decide +kernel), lg_at 688 (by decide +kernel) (by decide +kernel)⟩, by decide +kernel, by decide +kernel, by decide +kernel⟩
theorem cS_X11_105 : cS RX11 105 yX11_within cX11_within 3 (some .boolean) 3 := ⟨⟨lg_at 450 (by decide +kernel) (by decide +kernel), lg_at 451 (by decide +kernel) (by decide +kernel), lg_at 1 (by decide +kernel) (by decide +kernel), lg_at 452 (by decide +kernel) (by decide +kernel)⟩, by decide +kernel, by decide +kernel, by decide +kernel⟩
theorem cS_X5_175 : cS RX5 175 yX5_rankOf cX5_rankOf 1 (some .int) 1 := ⟨⟨lg_at 672 (by decide +kernel) (by decide +kernel), lg_at 673 (by decide +kernel) (by decide +kernel), lg_at 3 (by decide +kernel) (by decide +kernel), lg_at 674 (by decide +kernel) (by decide +kernel)⟩, by decide +kernel, by decide +kernel, by decide +kernel⟩
theorem cS_X5_182 : cS RX5 182 yX5_isVar cX5_isVar 1 (some .boolean) 1 := ⟨⟨lg_at 669 (by decide +kernel) (by decide +kernel), lg_at 670 (by decide +kernel) (by decide +kernel), lg_at 3 (by decide +kernel) (by decide +kernel), lg_at 671 (by decide +kernel) (by decide +kernel)⟩, by decide +kernel, by decide +kernel, by decide +kernel⟩
theorem cN_X5_122 : cN RX5 122 yX11_isPart RX11 cX11_isPart 1 (some .boolean) 1 := ⟨⟨List.mem_of_getElem? (i := 0) rfl, lg_at 654 (by decide +kernel) (by decide +kernel), lg_at 1 (by decide +kernel) (by decide +kernel), lg_at 655 (by decide +kernel) (by decide +kernel)⟩, by decide +kernel, by decide +kernel, by decide +kernel⟩
theorem mmax_X5_169 : mMax RX5 169 := ⟨lg_at 684 (by decide +kernel) (by decide +kernel), lg_at 569 (by decide +kernel) (by decide +kernel), lg_at 20 (by decide +kernel) (by decide +kernel), lg_at 570 (by decide +kernel) (by decide +kernel)⟩
section
variable {p : Program} {l : Launch} {e : Env} {s : State} {m : MethodId} {args : Array Value} {below : List Frame} {meth : Method} {c : Code} {D : va_G} {ad : Nat → Nat} {κ : KC}
-- X5_kindNow
def FX5_kindNow (σ : HS) : Option (Int32 × HS) :=
  if (400 : Int32) < (σ.1 2 8) then some ((24 : Int32), σ) else gd (ix (σ.1 2 8) 401) (some ((σ.1 19 ((σ.1 2 8).toNatClampNeg)), σ))
set_option maxHeartbeats 4000000 in
set_option maxRecDepth 100000 in
theorem kX5_kindNow (l : Launch) (D : va_G) (ad : Nat → Nat) (κ : KC) {σ : HS} {R : (Int32 × HS)} (h : FX5_kindNow σ = some R) : MtI l 50 ceX D ad κ yX5_kindNow cX5_kindNow 1 (some .int) ({ frames := 0, cells := 0, slots := 0, locals := 0 } : Room) [.ref (ad 2)] σ R := by
  refine open_ (by decide) (Nat.le_of_ble_eq_true rfl) (la := [(0, .ref (ad 2))]) rfl ?_
  intro p e s m below meth c ls C hH hl
  replace C : Cx 50 D ad κ p s m _ meth c cX5_kindNow RX5 1 (some .int) := C
  have hx := C.1
  have hb := C.2.1
  have hown := C.2.2.2.1
  have hts := C.2.2.2.2.1
  rw [FX5_kindNow] at h
  refine lv_aload_n hx hb dX5_kindNow_0 rfl (lv_at hl 0 rfl) ?_
  refine g_get C hH 2 (Nat.le_of_ble_eq_true rfl) rfl fl_X5_48 (v := .int (σ.1 2 8)) rfl dX5_kindNow_1 ?_
  refine lv_sipush (v := 400) hx hb dX5_kindNow_4 (by decide) ?_
  refine lv_icmp_gt (tgt := 25) hx hb dX5_kindNow_7 (by decide) (fun hq_1 => ?_) (fun hq_1 => ?_)
  · rw [if_pos hq_1] at h
    refine lv_bipush (v := 24) hx hb dX5_kindNow_25 (by decide) ?_
    exact g_ret C hH h dX5_kindNow_27
  · rw [if_neg hq_1] at h
    refine lv_aload_n hx hb dX5_kindNow_10 rfl (lv_at hl 0 rfl) ?_
    refine g_get C hH 2 (Nat.le_of_ble_eq_true rfl) rfl fl_X5_35 (v := .ref (ad 13)) rfl dX5_kindNow_11 ?_
    refine g_get C hH 13 (Nat.le_of_ble_eq_true rfl) rfl fl_X5_185 (v := .ref (ad 19)) rfl dX5_kindNow_14 ?_
    refine lv_aload_n hx hb dX5_kindNow_17 rfl (lv_at hl 0 rfl) ?_
    refine g_get C hH 2 (Nat.le_of_ble_eq_true rfl) rfl fl_X5_48 (v := .int (σ.1 2 8)) rfl dX5_kindNow_18 ?_
    obtain ⟨hi_2, h⟩ := gd_ex h
    refine g_iald C hH 19 (Nat.le_of_ble_eq_true rfl) rfl (k := ((σ.1 2 8).toNatClampNeg)) rfl (ix_in hi_2) dX5_kindNow_21 ?_
    refine lv_goto (tgt := 27) hx hb dX5_kindNow_22 (by decide) ?_
    exact g_ret C hH h dX5_kindNow_27
-- X5_fail
def FX5_fail (x1 : Int32) (σ : HS) : Option (Int32 × HS) :=
  hl_ (pI σ 2 11 x1) fun σ_1 => if (400 : Int32) < (σ_1.1 2 8) then hl_ (pI σ_1 2 1 (-1 : Int32)) fun σ_3 => some ((0 : Int32), σ_3) else gd (ix (σ_1.1 2 8) 401) (hl_ (pI σ_1 2 1 (σ_1.1 20 ((σ_1.1 2 8).toNatClampNeg))) fun σ_5 => some ((0 : Int32), σ_5))
set_option maxHeartbeats 4000000 in
set_option maxRecDepth 100000 in
theorem kX5_fail (l : Launch) (D : va_G) (ad : Nat → Nat) (κ : KC) {x1 : Int32} {σ : HS} {R : (Int32 × HS)} (h : FX5_fail x1 σ = some R) : MtI l 50 ceX D ad κ yX5_fail cX5_fail 2 (some .boolean) ({ frames := 0, cells := 0, slots := 0, locals := 0 } : Room) [.ref (ad 2), .int x1] σ R := by
  refine open_ (by decide) (Nat.le_of_ble_eq_true rfl) (la := [(0, .ref (ad 2)), (1, .int x1)]) rfl ?_
  intro p e s m below meth c ls C hH hl
  replace C : Cx 50 D ad κ p s m _ meth c cX5_fail RX5 2 (some .boolean) := C
  have hx := C.1
  have hb := C.2.1
  have hown := C.2.2.2.1
  have hts := C.2.2.2.2.1
  rw [FX5_fail] at h
  refine lv_aload_n hx hb dX5_fail_0 rfl (lv_at hl 0 rfl) ?_
  refine lv_iload_n hx hb dX5_fail_1 rfl (lv_at hl 1 rfl) ?_
  obtain ⟨σ_1, eσ_1, h⟩ := hl_ex h
  refine g_putI C hH 2 (Nat.le_of_ble_eq_true rfl) rfl fp_X5_51 rfl rfl (Nat.le_of_ble_eq_true rfl) rfl dX5_fail_2 (fun H locs hH => ?_)
  rw [← eσ_1] at hH
  refine lv_aload_n hx hb dX5_fail_5 rfl (lv_at hl 0 rfl) ?_
  refine lv_aload_n hx hb dX5_fail_6 rfl (lv_at hl 0 rfl) ?_
  refine g_get C hH 2 (Nat.le_of_ble_eq_true rfl) rfl fl_X5_48 (v := .int (σ_1.1 2 8)) rfl dX5_fail_7 ?_
  refine lv_sipush (v := 400) hx hb dX5_fail_10 (by decide) ?_
  refine lv_icmp_gt (tgt := 31) hx hb dX5_fail_13 (by decide) (fun hq_2 => ?_) (fun hq_2 => ?_)
  · rw [if_pos hq_2] at h
    refine lv_iconst (v := (-1)) hx hb dX5_fail_31 (by decide) ?_
    obtain ⟨σ_3, eσ_3, h⟩ := hl_ex h
    refine g_putI C hH 2 (Nat.le_of_ble_eq_true rfl) rfl fp_X5_18 rfl rfl (Nat.le_of_ble_eq_true rfl) rfl dX5_fail_32 (fun H locs hH => ?_)
    rw [← eσ_3] at hH
    refine lv_iconst (v := 0) hx hb dX5_fail_35 (by decide) ?_
    exact g_retZ C hH rfl h dX5_fail_36
  · rw [if_neg hq_2] at h
    refine lv_aload_n hx hb dX5_fail_16 rfl (lv_at hl 0 rfl) ?_
    refine g_get C hH 2 (Nat.le_of_ble_eq_true rfl) rfl fl_X5_35 (v := .ref (ad 13)) rfl dX5_fail_17 ?_
    refine g_get C hH 13 (Nat.le_of_ble_eq_true rfl) rfl fl_X5_191 (v := .ref (ad 20)) rfl dX5_fail_20 ?_
    refine lv_aload_n hx hb dX5_fail_23 rfl (lv_at hl 0 rfl) ?_
    refine g_get C hH 2 (Nat.le_of_ble_eq_true rfl) rfl fl_X5_48 (v := .int (σ_1.1 2 8)) rfl dX5_fail_24 ?_
    obtain ⟨hi_4, h⟩ := gd_ex h
    refine g_iald C hH 20 (Nat.le_of_ble_eq_true rfl) rfl (k := ((σ_1.1 2 8).toNatClampNeg)) rfl (ix_in hi_4) dX5_fail_27 ?_
    refine lv_goto (tgt := 32) hx hb dX5_fail_28 (by decide) ?_
    obtain ⟨σ_5, eσ_5, h⟩ := hl_ex h
    refine g_putI C hH 2 (Nat.le_of_ble_eq_true rfl) rfl fp_X5_18 rfl rfl (Nat.le_of_ble_eq_true rfl) rfl dX5_fail_32 (fun H locs hH => ?_)
    rw [← eσ_5] at hH
    refine lv_iconst (v := 0) hx hb dX5_fail_35 (by decide) ?_
    exact g_retZ C hH rfl h dX5_fail_36
-- X5_take
def FX5_take (x1 : Int32) (σ : HS) : Option (Int32 × HS) :=
  bdI (FX5_kindNow σ) fun r_1 σ_2 => if r_1 = x1 then if (σ_2.1 2 8) < (400 : Int32) then gd (ix (σ_2.1 2 8) 401) (hl_ (pL σ_2 2 9 (σ_2.2 21 ((σ_2.1 2 8).toNatClampNeg))) fun σ_7 => gd (ix (σ_7.1 2 8) 401) (hl_ (pI σ_7 2 10 (σ_7.1 20 ((σ_7.1 2 8).toNatClampNeg))) fun σ_9 => hl_ (pI σ_9 2 8 ((σ_9.1 2 8) + (1 : Int32))) fun σ_10 => some ((1 : Int32), σ_10))) else bdI (FX5_fail (2 : Int32) σ_2) fun r_11 σ_12 => gd (isB r_11) (some (r_11, σ_12)) else bdI (FX5_fail (1 : Int32) σ_2) fun r_15 σ_16 => gd (isB r_15) (some (r_15, σ_16))
set_option maxHeartbeats 4000000 in
set_option maxRecDepth 100000 in
theorem kX5_take (l : Launch) (D : va_G) (ad : Nat → Nat) (κ : KC) {x1 : Int32} {σ : HS} {R : (Int32 × HS)} (h : FX5_take x1 σ = some R) : MtI l 50 ceX D ad κ yX5_take cX5_take 2 (some .boolean) ({ frames := 1, cells := 0, slots := 0, locals := 21 } : Room) [.ref (ad 2), .int x1] σ R := by
  refine open_ (by decide) (Nat.le_of_ble_eq_true rfl) (la := [(0, .ref (ad 2)), (1, .int x1)]) rfl ?_
  intro p e s m below meth c ls C hH hl
  replace C : Cx 50 D ad κ p s m _ meth c cX5_take RX5 2 (some .boolean) := C
  have hx := C.1
  have hb := C.2.1
  have hown := C.2.2.2.1
  have hts := C.2.2.2.2.1
  rw [FX5_take] at h
  refine lv_aload_n hx hb dX5_take_0 rfl (lv_at hl 0 rfl) ?_
  obtain ⟨r_1, σ_2, hc_3, h⟩ := bdI_ex h
  refine g_ci (g_runV (rest := []) C hH hl.1 cV_X5_60 2 (Nat.le_of_ble_eq_true rfl) rfl rfl (kX5_kindNow l D ad κ hc_3) ⟨rfl, rfl⟩ ⟨(Nat.le_of_ble_eq_true rfl), (Nat.le_of_ble_eq_true rfl)⟩ rfl rfl (Nat.le_of_ble_eq_true rfl) dX5_take_1 z00) hH (fun H locs hH => ?_)
  refine lv_iload_n hx hb dX5_take_4 rfl (lv_at hl 1 rfl) ?_
  refine lv_icmp_eq (tgt := 14) hx hb dX5_take_5 (by decide) (fun hq_4 => ?_) (fun hq_4 => ?_)
  · rw [if_pos hq_4] at h
    refine lv_aload_n hx hb dX5_take_14 rfl (lv_at hl 0 rfl) ?_
    refine g_get C hH 2 (Nat.le_of_ble_eq_true rfl) rfl fl_X5_48 (v := .int (σ_2.1 2 8)) rfl dX5_take_15 ?_
    refine lv_sipush (v := 400) hx hb dX5_take_18 (by decide) ?_
    refine lv_icmp_lt (tgt := 30) hx hb dX5_take_21 (by decide) (fun hq_5 => ?_) (fun hq_5 => ?_)
    · rw [if_pos hq_5] at h
      refine lv_aload_n hx hb dX5_take_30 rfl (lv_at hl 0 rfl) ?_
      refine lv_aload_n hx hb dX5_take_31 rfl (lv_at hl 0 rfl) ?_
      refine g_get C hH 2 (Nat.le_of_ble_eq_true rfl) rfl fl_X5_35 (v := .ref (ad 13)) rfl dX5_take_32 ?_
      refine g_get C hH 13 (Nat.le_of_ble_eq_true rfl) rfl fl_X5_188 (v := .ref (ad 21)) rfl dX5_take_35 ?_
      refine lv_aload_n hx hb dX5_take_38 rfl (lv_at hl 0 rfl) ?_
      refine g_get C hH 2 (Nat.le_of_ble_eq_true rfl) rfl fl_X5_48 (v := .int (σ_2.1 2 8)) rfl dX5_take_39 ?_
      obtain ⟨hi_6, h⟩ := gd_ex h
      refine g_lald C hH 21 (Nat.le_of_ble_eq_true rfl) rfl (k := ((σ_2.1 2 8).toNatClampNeg)) rfl (ix_in hi_6) dX5_take_42 ?_
      obtain ⟨σ_7, eσ_7, h⟩ := hl_ex h
      refine g_putL C hH 2 (Nat.le_of_ble_eq_true rfl) rfl fp_X5_101 (Nat.le_of_ble_eq_true rfl) rfl dX5_take_43 (fun H locs hH => ?_)
      rw [← eσ_7] at hH
      refine lv_aload_n hx hb dX5_take_46 rfl (lv_at hl 0 rfl) ?_
      refine lv_aload_n hx hb dX5_take_47 rfl (lv_at hl 0 rfl) ?_
      refine g_get C hH 2 (Nat.le_of_ble_eq_true rfl) rfl fl_X5_35 (v := .ref (ad 13)) rfl dX5_take_48 ?_
      refine g_get C hH 13 (Nat.le_of_ble_eq_true rfl) rfl fl_X5_191 (v := .ref (ad 20)) rfl dX5_take_51 ?_
      refine lv_aload_n hx hb dX5_take_54 rfl (lv_at hl 0 rfl) ?_
      refine g_get C hH 2 (Nat.le_of_ble_eq_true rfl) rfl fl_X5_48 (v := .int (σ_7.1 2 8)) rfl dX5_take_55 ?_
      obtain ⟨hi_8, h⟩ := gd_ex h
      refine g_iald C hH 20 (Nat.le_of_ble_eq_true rfl) rfl (k := ((σ_7.1 2 8).toNatClampNeg)) rfl (ix_in hi_8) dX5_take_58 ?_
      obtain ⟨σ_9, eσ_9, h⟩ := hl_ex h
      refine g_putI C hH 2 (Nat.le_of_ble_eq_true rfl) rfl fp_X5_194 rfl rfl (Nat.le_of_ble_eq_true rfl) rfl dX5_take_59 (fun H locs hH => ?_)
      rw [← eσ_9] at hH
      refine lv_aload_n hx hb dX5_take_62 rfl (lv_at hl 0 rfl) ?_
      refine lv_dup hx hb dX5_take_63 rfl ?_
      refine g_get C hH 2 (Nat.le_of_ble_eq_true rfl) rfl fl_X5_48 (v := .int (σ_9.1 2 8)) rfl dX5_take_64 ?_
      refine lv_iconst (v := 1) hx hb dX5_take_67 (by decide) ?_
      refine lv_iadd hx hb dX5_take_68 ?_
      obtain ⟨σ_10, eσ_10, h⟩ := hl_ex h
      refine g_putI C hH 2 (Nat.le_of_ble_eq_true rfl) rfl fp_X5_48 rfl rfl (Nat.le_of_ble_eq_true rfl) rfl dX5_take_69 (fun H locs hH => ?_)
      rw [← eσ_10] at hH
      refine lv_iconst (v := 1) hx hb dX5_take_72 (by decide) ?_
      exact g_retZ C hH rfl h dX5_take_73
    · rw [if_neg hq_5] at h
      refine lv_aload_n hx hb dX5_take_24 rfl (lv_at hl 0 rfl) ?_
      refine lv_iconst (v := 2) hx hb dX5_take_25 (by decide) ?_
      obtain ⟨r_11, σ_12, hc_13, h⟩ := bdI_ex h
      refine g_ci (g_runV (rest := []) C hH hl.1 cV_X5_86 2 (Nat.le_of_ble_eq_true rfl) rfl rfl (kX5_fail l D ad κ hc_13) ⟨rfl, rfl⟩ ⟨(Nat.le_of_ble_eq_true rfl), (Nat.le_of_ble_eq_true rfl)⟩ rfl rfl (Nat.le_of_ble_eq_true rfl) dX5_take_26 z00) hH (fun H locs hH => ?_)
      obtain ⟨hb_14, h⟩ := gd_ex h
      exact g_retZ C hH hb_14 h dX5_take_29
  · rw [if_neg hq_4] at h
    refine lv_aload_n hx hb dX5_take_8 rfl (lv_at hl 0 rfl) ?_
    refine lv_iconst (v := 1) hx hb dX5_take_9 (by decide) ?_
    obtain ⟨r_15, σ_16, hc_17, h⟩ := bdI_ex h
    refine g_ci (g_runV (rest := []) C hH hl.1 cV_X5_86 2 (Nat.le_of_ble_eq_true rfl) rfl rfl (kX5_fail l D ad κ hc_17) ⟨rfl, rfl⟩ ⟨(Nat.le_of_ble_eq_true rfl), (Nat.le_of_ble_eq_true rfl)⟩ rfl rfl (Nat.le_of_ble_eq_true rfl) dX5_take_10 z00) hH (fun H locs hH => ?_)
    obtain ⟨hb_18, h⟩ := gd_ex h
    exact g_retZ C hH hb_18 h dX5_take_13
-- X5_failLater
def FX5_failLater (x1 : Int32) (σ : HS) : Option HS :=
  if (σ.1 2 12) = 0 then hl_ (pI σ 2 12 x1) fun σ_2 => hl_ (pI σ_2 2 13 (σ_2.1 2 10)) fun σ_3 => some σ_3 else some σ
set_option maxHeartbeats 4000000 in
set_option maxRecDepth 100000 in
theorem kX5_failLater (l : Launch) (D : va_G) (ad : Nat → Nat) (κ : KC) {x1 : Int32} {σ : HS} {R : HS} (h : FX5_failLater x1 σ = some R) : MtV l 50 ceX D ad κ yX5_failLater cX5_failLater 2 none ({ frames := 0, cells := 0, slots := 0, locals := 0 } : Room) [.ref (ad 2), .int x1] σ R := by
  refine open_ (by decide) (Nat.le_of_ble_eq_true rfl) (la := [(0, .ref (ad 2)), (1, .int x1)]) rfl ?_
  intro p e s m below meth c ls C hH hl
  replace C : Cx 50 D ad κ p s m _ meth c cX5_failLater RX5 2 none := C
  have hx := C.1
  have hb := C.2.1
  have hown := C.2.2.2.1
  have hts := C.2.2.2.2.1
  rw [FX5_failLater] at h
  refine lv_aload_n hx hb dX5_failLater_0 rfl (lv_at hl 0 rfl) ?_
  refine g_get C hH 2 (Nat.le_of_ble_eq_true rfl) rfl fl_X5_54 (v := .int (σ.1 2 12)) rfl dX5_failLater_1 ?_
  refine lv_if_ne (tgt := 20) hx hb dX5_failLater_4 (by decide) (fun hq_1 => ?_) (fun hq_1 => ?_)
  · rw [if_neg hq_1] at h
    exact g_retV C hH h dX5_failLater_20
  · rw [if_pos hq_1] at h
    refine lv_aload_n hx hb dX5_failLater_7 rfl (lv_at hl 0 rfl) ?_
    refine lv_iload_n hx hb dX5_failLater_8 rfl (lv_at hl 1 rfl) ?_
    obtain ⟨σ_2, eσ_2, h⟩ := hl_ex h
    refine g_putI C hH 2 (Nat.le_of_ble_eq_true rfl) rfl fp_X5_54 rfl rfl (Nat.le_of_ble_eq_true rfl) rfl dX5_failLater_9 (fun H locs hH => ?_)
    rw [← eσ_2] at hH
    refine lv_aload_n hx hb dX5_failLater_12 rfl (lv_at hl 0 rfl) ?_
    refine lv_aload_n hx hb dX5_failLater_13 rfl (lv_at hl 0 rfl) ?_
    refine g_get C hH 2 (Nat.le_of_ble_eq_true rfl) rfl fl_X5_194 (v := .int (σ_2.1 2 10)) rfl dX5_failLater_14 ?_
    obtain ⟨σ_3, eσ_3, h⟩ := hl_ex h
    refine g_putI C hH 2 (Nat.le_of_ble_eq_true rfl) rfl fp_X5_57 rfl rfl (Nat.le_of_ble_eq_true rfl) rfl dX5_failLater_17 (fun H locs hH => ?_)
    rw [← eσ_3] at hH
    exact g_retV C hH h dX5_failLater_20
-- X5_takeNumber
def FX5_takeNumber (x1 : Int32) (σ : HS) : Option (Int32 × HS) :=
  bdI (FX5_take (23 : Int32) σ) fun r_1 σ_2 => if r_1 = 0 then some ((0 : Int32), σ_2) else if (lg_cmp (σ_2.2 2 9) (x1.toInt64)) ≤ 0 then some ((1 : Int32), σ_2) else bdV (FX5_failLater (5 : Int32) σ_2) fun σ_6 => some ((1 : Int32), σ_6)
set_option maxHeartbeats 4000000 in
set_option maxRecDepth 100000 in
theorem kX5_takeNumber (l : Launch) (D : va_G) (ad : Nat → Nat) (κ : KC) {x1 : Int32} {σ : HS} {R : (Int32 × HS)} (h : FX5_takeNumber x1 σ = some R) : MtI l 50 ceX D ad κ yX5_takeNumber cX5_takeNumber 2 (some .boolean) ({ frames := 2, cells := 0, slots := 0, locals := 42 } : Room) [.ref (ad 2), .int x1] σ R := by
  refine open_ (by decide) (Nat.le_of_ble_eq_true rfl) (la := [(0, .ref (ad 2)), (1, .int x1)]) rfl ?_
  intro p e s m below meth c ls C hH hl
  replace C : Cx 50 D ad κ p s m _ meth c cX5_takeNumber RX5 2 (some .boolean) := C
  have hx := C.1
  have hb := C.2.1
  have hown := C.2.2.2.1
  have hts := C.2.2.2.2.1
  rw [FX5_takeNumber] at h
  refine lv_aload_n hx hb dX5_takeNumber_0 rfl (lv_at hl 0 rfl) ?_
  refine lv_bipush (v := 23) hx hb dX5_takeNumber_1 (by decide) ?_
  obtain ⟨r_1, σ_2, hc_3, h⟩ := bdI_ex h
  refine g_ci (g_runV (rest := []) C hH hl.1 cV_X5_92 2 (Nat.le_of_ble_eq_true rfl) rfl rfl (kX5_take l D ad κ hc_3) ⟨rfl, rfl⟩ ⟨(Nat.le_of_ble_eq_true rfl), (Nat.le_of_ble_eq_true rfl)⟩ rfl rfl (Nat.le_of_ble_eq_true rfl) dX5_takeNumber_3 z00) hH (fun H locs hH => ?_)
  refine lv_if_ne (tgt := 11) hx hb dX5_takeNumber_6 (by decide) (fun hq_4 => ?_) (fun hq_4 => ?_)
  · rw [if_neg hq_4] at h
    refine lv_aload_n hx hb dX5_takeNumber_11 rfl (lv_at hl 0 rfl) ?_
    refine g_get C hH 2 (Nat.le_of_ble_eq_true rfl) rfl fl_X5_101 (v := .long (σ_2.2 2 9)) rfl dX5_takeNumber_12 ?_
    refine lv_iload_n hx hb dX5_takeNumber_15 rfl (lv_at hl 1 rfl) ?_
    refine lv_i2l (v := (x1.toInt64)) hx hb dX5_takeNumber_16 rfl ?_
    refine W.lcmp hx hb dX5_takeNumber_17 ?_
    refine lv_if_le (tgt := 26) hx hb dX5_takeNumber_18 (by decide) (fun hq_5 => ?_) (fun hq_5 => ?_)
    · rw [if_pos hq_5] at h
      refine lv_iconst (v := 1) hx hb dX5_takeNumber_26 (by decide) ?_
      exact g_retZ C hH rfl h dX5_takeNumber_27
    · rw [if_neg hq_5] at h
      refine lv_aload_n hx hb dX5_takeNumber_21 rfl (lv_at hl 0 rfl) ?_
      refine lv_iconst (v := 5) hx hb dX5_takeNumber_22 (by decide) ?_
      obtain ⟨σ_6, hc_7, h⟩ := bdV_ex h
      refine g_cv (g_runV (rest := []) C hH hl.1 cV_X5_112 2 (Nat.le_of_ble_eq_true rfl) rfl rfl (kX5_failLater l D ad κ hc_7) ⟨rfl, rfl⟩ ⟨(Nat.le_of_ble_eq_true rfl), (Nat.le_of_ble_eq_true rfl)⟩ rfl rfl (Nat.le_of_ble_eq_true rfl) dX5_takeNumber_23 z00) hH (fun H locs hH => ?_)
      refine lv_iconst (v := 1) hx hb dX5_takeNumber_26 (by decide) ?_
      exact g_retZ C hH rfl h dX5_takeNumber_27
  · rw [if_pos hq_4] at h
    refine lv_iconst (v := 0) hx hb dX5_takeNumber_9 (by decide) ?_
    exact g_retZ C hH rfl h dX5_takeNumber_10
-- X5_readMinute
def FX5_readMinute (σ : HS) : Option (Int32 × HS) :=
  if (σ.1 12 0) < (10 : Int32) then bdI (FX5_take (0 : Int32) σ) fun r_2 σ_3 => if r_2 = 0 then some ((0 : Int32), σ_3) else bdI (FX5_takeNumber (5 : Int32) σ_3) fun r_6 σ_7 => if r_6 = 0 then some ((0 : Int32), σ_7) else gd (ix (σ_7.1 12 0) 10) (hl_ (pI σ_7 29 ((σ_7.1 12 0).toNatClampNeg) ((σ_7.2 2 9).toInt32)) fun σ_11 => hl_ (pI σ_11 12 0 ((σ_11.1 12 0) + (1 : Int32))) fun σ_12 => bdI (FX5_take (59 : Int32) σ_12) fun r_13 σ_14 => gd (isB r_13) (some (r_13, σ_14))) else bdI (FX5_fail (2 : Int32) σ) fun r_17 σ_18 => gd (isB r_17) (some (r_17, σ_18))
set_option maxHeartbeats 4000000 in
set_option maxRecDepth 100000 in
theorem kX5_readMinute (l : Launch) (D : va_G) (ad : Nat → Nat) (κ : KC) {σ : HS} {R : (Int32 × HS)} (h : FX5_readMinute σ = some R) : MtI l 50 ceX D ad κ yX5_readMinute cX5_readMinute 1 (some .boolean) ({ frames := 3, cells := 0, slots := 0, locals := 63 } : Room) [.ref (ad 2)] σ R := by
  refine open_ (by decide) (Nat.le_of_ble_eq_true rfl) (la := [(0, .ref (ad 2))]) rfl ?_
  intro p e s m below meth c ls C hH hl
  replace C : Cx 50 D ad κ p s m _ meth c cX5_readMinute RX5 1 (some .boolean) := C
  have hx := C.1
  have hb := C.2.1
  have hown := C.2.2.2.1
  have hts := C.2.2.2.2.1
  rw [FX5_readMinute] at h
  refine lv_aload_n hx hb dX5_readMinute_0 rfl (lv_at hl 0 rfl) ?_
  refine g_get C hH 2 (Nat.le_of_ble_eq_true rfl) rfl fl_X5_14 (v := .ref (ad 12)) rfl dX5_readMinute_1 ?_
  refine g_get C hH 12 (Nat.le_of_ble_eq_true rfl) rfl fl_X5_89 (v := .int (σ.1 12 0)) rfl dX5_readMinute_4 ?_
  refine lv_bipush (v := 10) hx hb dX5_readMinute_7 (by decide) ?_
  refine lv_icmp_lt (tgt := 18) hx hb dX5_readMinute_9 (by decide) (fun hq_1 => ?_) (fun hq_1 => ?_)
  · rw [if_pos hq_1] at h
    refine lv_aload_n hx hb dX5_readMinute_18 rfl (lv_at hl 0 rfl) ?_
    refine lv_iconst (v := 0) hx hb dX5_readMinute_19 (by decide) ?_
    obtain ⟨r_2, σ_3, hc_4, h⟩ := bdI_ex h
    refine g_ci (g_runV (rest := []) C hH hl.1 cV_X5_92 2 (Nat.le_of_ble_eq_true rfl) rfl rfl (kX5_take l D ad κ hc_4) ⟨rfl, rfl⟩ ⟨(Nat.le_of_ble_eq_true rfl), (Nat.le_of_ble_eq_true rfl)⟩ rfl rfl (Nat.le_of_ble_eq_true rfl) dX5_readMinute_20 z00) hH (fun H locs hH => ?_)
    refine lv_if_eq (tgt := 34) hx hb dX5_readMinute_23 (by decide) (fun hq_5 => ?_) (fun hq_5 => ?_)
    · rw [if_pos hq_5] at h
      refine lv_iconst (v := 0) hx hb dX5_readMinute_34 (by decide) ?_
      exact g_retZ C hH rfl h dX5_readMinute_35
    · rw [if_neg hq_5] at h
      refine lv_aload_n hx hb dX5_readMinute_26 rfl (lv_at hl 0 rfl) ?_
      refine lv_iconst (v := 5) hx hb dX5_readMinute_27 (by decide) ?_
      obtain ⟨r_6, σ_7, hc_8, h⟩ := bdI_ex h
      refine g_ci (g_runV (rest := []) C hH hl.1 cV_X5_95 2 (Nat.le_of_ble_eq_true rfl) rfl rfl (kX5_takeNumber l D ad κ hc_8) ⟨rfl, rfl⟩ ⟨(Nat.le_of_ble_eq_true rfl), (Nat.le_of_ble_eq_true rfl)⟩ rfl rfl (Nat.le_of_ble_eq_true rfl) dX5_readMinute_28 z00) hH (fun H locs hH => ?_)
      refine lv_if_ne (tgt := 36) hx hb dX5_readMinute_31 (by decide) (fun hq_9 => ?_) (fun hq_9 => ?_)
      · rw [if_neg hq_9] at h
        refine lv_aload_n hx hb dX5_readMinute_36 rfl (lv_at hl 0 rfl) ?_
        refine g_get C hH 2 (Nat.le_of_ble_eq_true rfl) rfl fl_X5_14 (v := .ref (ad 12)) rfl dX5_readMinute_37 ?_
        refine g_get C hH 12 (Nat.le_of_ble_eq_true rfl) rfl fl_X5_98 (v := .ref (ad 29)) rfl dX5_readMinute_40 ?_
        refine lv_aload_n hx hb dX5_readMinute_43 rfl (lv_at hl 0 rfl) ?_
        refine g_get C hH 2 (Nat.le_of_ble_eq_true rfl) rfl fl_X5_14 (v := .ref (ad 12)) rfl dX5_readMinute_44 ?_
        refine g_get C hH 12 (Nat.le_of_ble_eq_true rfl) rfl fl_X5_89 (v := .int (σ_7.1 12 0)) rfl dX5_readMinute_47 ?_
        refine lv_aload_n hx hb dX5_readMinute_50 rfl (lv_at hl 0 rfl) ?_
        refine g_get C hH 2 (Nat.le_of_ble_eq_true rfl) rfl fl_X5_101 (v := .long (σ_7.2 2 9)) rfl dX5_readMinute_51 ?_
        refine lv_l2i (v := ((σ_7.2 2 9).toInt32)) hx hb dX5_readMinute_54 rfl ?_
        obtain ⟨hi_10, h⟩ := gd_ex h
        obtain ⟨σ_11, eσ_11, h⟩ := hl_ex h
        refine g_iast C hH 29 (Nat.le_of_ble_eq_true rfl) (fun _ _ => rfl) (k := ((σ_7.1 12 0).toNatClampNeg)) rfl (ix_in hi_10) dX5_readMinute_55 (fun H locs hH => ?_)
        rw [← eσ_11] at hH
        refine lv_aload_n hx hb dX5_readMinute_56 rfl (lv_at hl 0 rfl) ?_
        refine g_get C hH 2 (Nat.le_of_ble_eq_true rfl) rfl fl_X5_14 (v := .ref (ad 12)) rfl dX5_readMinute_57 ?_
        refine lv_dup hx hb dX5_readMinute_60 rfl ?_
        refine g_get C hH 12 (Nat.le_of_ble_eq_true rfl) rfl fl_X5_89 (v := .int (σ_11.1 12 0)) rfl dX5_readMinute_61 ?_
        refine lv_iconst (v := 1) hx hb dX5_readMinute_64 (by decide) ?_
        refine lv_iadd hx hb dX5_readMinute_65 ?_
        obtain ⟨σ_12, eσ_12, h⟩ := hl_ex h
        refine g_putI C hH 12 (Nat.le_of_ble_eq_true rfl) rfl fp_X5_89 rfl rfl (Nat.le_of_ble_eq_true rfl) rfl dX5_readMinute_66 (fun H locs hH => ?_)
        rw [← eσ_12] at hH
        refine lv_aload_n hx hb dX5_readMinute_69 rfl (lv_at hl 0 rfl) ?_
        refine lv_bipush (v := 59) hx hb dX5_readMinute_70 (by decide) ?_
        obtain ⟨r_13, σ_14, hc_15, h⟩ := bdI_ex h
        refine g_ci (g_runV (rest := []) C hH hl.1 cV_X5_92 2 (Nat.le_of_ble_eq_true rfl) rfl rfl (kX5_take l D ad κ hc_15) ⟨rfl, rfl⟩ ⟨(Nat.le_of_ble_eq_true rfl), (Nat.le_of_ble_eq_true rfl)⟩ rfl rfl (Nat.le_of_ble_eq_true rfl) dX5_readMinute_72 z00) hH (fun H locs hH => ?_)
        obtain ⟨hb_16, h⟩ := gd_ex h
        exact g_retZ C hH hb_16 h dX5_readMinute_75
      · rw [if_pos hq_9] at h
        refine lv_iconst (v := 0) hx hb dX5_readMinute_34 (by decide) ?_
        exact g_retZ C hH rfl h dX5_readMinute_35
  · rw [if_neg hq_1] at h
    refine lv_aload_n hx hb dX5_readMinute_12 rfl (lv_at hl 0 rfl) ?_
    refine lv_iconst (v := 2) hx hb dX5_readMinute_13 (by decide) ?_
    obtain ⟨r_17, σ_18, hc_19, h⟩ := bdI_ex h
    refine g_ci (g_runV (rest := []) C hH hl.1 cV_X5_86 2 (Nat.le_of_ble_eq_true rfl) rfl rfl (kX5_fail l D ad κ hc_19) ⟨rfl, rfl⟩ ⟨(Nat.le_of_ble_eq_true rfl), (Nat.le_of_ble_eq_true rfl)⟩ rfl rfl (Nat.le_of_ble_eq_true rfl) dX5_readMinute_14 z00) hH (fun H locs hH => ?_)
    obtain ⟨hb_20, h⟩ := gd_ex h
    exact g_retZ C hH hb_20 h dX5_readMinute_17
-- X5_familyNamed
def FX5_familyNamed_2  : Nat → Int64 → Int32 → HS → Option (Int32 × HS)
  | 0, _, _, _ => none
  | f + 1, x1, x3, σ => if (σ.1 12 1) ≤ x3 then some ((-1 : Int32), σ) else gd (ix x3 5) (if (lg_cmp (σ.2 17 (x3.toNatClampNeg)) x1) = 0 then some (x3, σ) else FX5_familyNamed_2  f x1 (x3 + 1) σ)
def FX5_familyNamed (x1 : Int64) (σ : HS) : Option (Int32 × HS) :=
  FX5_familyNamed_2 fu x1 (0 : Int32) σ
set_option maxHeartbeats 4000000 in
set_option maxRecDepth 100000 in
theorem wX5_familyNamed_2 (C : Cx 50 D ad κ p s m args meth c cX5_familyNamed RX5 4 (some .int)) {R : (Int32 × HS)} : ∀ (f : Nat) (x1 : Int64) (x3 : Int32) (σ : HS) (H : Heap) (locs : List Loc) (ls : Array Slot), FX5_familyNamed_2  f x1 x3 σ = some R → Hd 50 ceX D ad κ s σ H locs → lv_has ls 4 [(0, .ref (ad 2)), (1, .long x1), (3, .int x3)] → W p l e ({ frames := 0, cells := 0, slots := 0, locals := 0 } : Room) s m args below meth c H locs 0 0 (MQ below (QI 50 ceX D ad κ R) args s 0 0 (AX 50 ad)) (F0 m 2 ls []) := by
  have hx := C.1
  have hb := C.2.1
  have hown := C.2.2.2.1
  have hts := C.2.2.2.2.1
  intro f
  induction f with
  | zero =>
    intro x1 x3 σ H locs ls h hH hl
    cases h
  | succ f ih =>
    intro x1 x3 σ H locs ls h hH hl
    rw [FX5_familyNamed_2] at h
    refine lv_iload_n hx hb dX5_familyNamed_2 rfl (lv_at hl 2 rfl) ?_
    refine lv_aload_n hx hb dX5_familyNamed_3 rfl (lv_at hl 0 rfl) ?_
    refine g_get C hH 2 (Nat.le_of_ble_eq_true rfl) rfl fl_X5_14 (v := .ref (ad 12)) rfl dX5_familyNamed_4 ?_
    refine g_get C hH 12 (Nat.le_of_ble_eq_true rfl) rfl fl_X5_105 (v := .int (σ.1 12 1)) rfl dX5_familyNamed_7 ?_
    refine lv_icmp_ge (tgt := 32) hx hb dX5_familyNamed_10 (by decide) (fun hq_1 => ?_) (fun hq_1 => ?_)
    · rw [if_pos hq_1] at h
      refine lv_iconst (v := (-1)) hx hb dX5_familyNamed_32 (by decide) ?_
      exact g_ret C hH h dX5_familyNamed_33
    · rw [if_neg hq_1] at h
      refine lv_aload_n hx hb dX5_familyNamed_13 rfl (lv_at hl 0 rfl) ?_
      refine g_get C hH 2 (Nat.le_of_ble_eq_true rfl) rfl fl_X5_22 (v := .ref (ad 17)) rfl dX5_familyNamed_14 ?_
      refine lv_iload_n hx hb dX5_familyNamed_17 rfl (lv_at hl 2 rfl) ?_
      obtain ⟨hi_2, h⟩ := gd_ex h
      refine g_lald C hH 17 (Nat.le_of_ble_eq_true rfl) rfl (k := (x3.toNatClampNeg)) rfl (ix_in hi_2) dX5_familyNamed_18 ?_
      refine lv_lload_n hx hb dX5_familyNamed_19 rfl (lv_at hl 1 rfl) ?_
      refine W.lcmp hx hb dX5_familyNamed_20 ?_
      refine lv_if_ne (tgt := 26) hx hb dX5_familyNamed_21 (by decide) (fun hq_3 => ?_) (fun hq_3 => ?_)
      · rw [if_neg hq_3] at h
        refine lv_iinc (v := (x3 + 1)) (lv' := [(3, .int (x3 + 1)), (0, .ref (ad 2)), (1, .long x1)]) hx hb dX5_familyNamed_26 hl (k := 2) rfl rfl (by decide) rfl (fun ls hl => ?_)
        refine lv_goto (tgt := 2) hx hb dX5_familyNamed_29 (by decide) ?_
        exact ih _ _ _ _ _ _ h hH (lv_sub hl [1, 2, 0] rfl)
      · rw [if_pos hq_3] at h
        refine lv_iload_n hx hb dX5_familyNamed_24 rfl (lv_at hl 2 rfl) ?_
        exact g_ret C hH h dX5_familyNamed_25
set_option maxHeartbeats 4000000 in
set_option maxRecDepth 100000 in
theorem kX5_familyNamed (l : Launch) (D : va_G) (ad : Nat → Nat) (κ : KC) {x1 : Int64} {σ : HS} {R : (Int32 × HS)} (h : FX5_familyNamed x1 σ = some R) : MtI l 50 ceX D ad κ yX5_familyNamed cX5_familyNamed 4 (some .int) ({ frames := 0, cells := 0, slots := 0, locals := 0 } : Room) [.ref (ad 2), .long x1] σ R := by
  refine open_ (by decide) (Nat.le_of_ble_eq_true rfl) (la := [(0, .ref (ad 2)), (1, .long x1)]) rfl ?_
  intro p e s m below meth c ls C hH hl
  replace C : Cx 50 D ad κ p s m _ meth c cX5_familyNamed RX5 4 (some .int) := C
  have hx := C.1
  have hb := C.2.1
  have hown := C.2.2.2.1
  have hts := C.2.2.2.2.1
  rw [FX5_familyNamed] at h
  refine lv_iconst (v := 0) hx hb dX5_familyNamed_0 (by decide) ?_
  refine lv_istore_n (lv' := [(3, .int (0 : Int32)), (0, .ref (ad 2)), (1, .long x1)]) hx hb dX5_familyNamed_1 rfl hl (by decide) rfl (fun ls hl => ?_)
  exact wX5_familyNamed_2 C _ _ _ _ _ _ _ h hH (lv_sub hl [1, 2, 0] rfl)
-- X5_readFamily
def FX5_readFamily_55  (x1 : Int32) (σ : HS) : Option (Int32 × HS) :=
  gd (ix x1 5) (hl_ (pL σ 17 (x1.toNatClampNeg) (σ.2 2 9)) fun σ_2 => bdI (FX5_takeNumber (9 : Int32) σ_2) fun r_3 σ_4 => if r_3 = 0 then some ((0 : Int32), σ_4) else gd (ix x1 5) (hl_ (pI σ_4 30 (x1.toNatClampNeg) ((σ_4.2 2 9).toInt32)) fun σ_8 => bdI (FX5_takeNumber (5 : Int32) σ_8) fun r_9 σ_10 => if r_9 = 0 then some ((0 : Int32), σ_10) else gd (ix x1 5) (hl_ (pI σ_10 31 (x1.toNatClampNeg) ((σ_10.2 2 9).toInt32)) fun σ_14 => hl_ (pI σ_14 12 1 ((σ_14.1 12 1) + (1 : Int32))) fun σ_15 => bdI (FX5_take (59 : Int32) σ_15) fun r_16 σ_17 => gd (isB r_16) (some (r_16, σ_17)))))
def FX5_readFamily (σ : HS) : Option (Int32 × HS) :=
  hl_ (σ.1 12 1) fun x1_20 => if x1_20 < (5 : Int32) then bdI (FX5_take (1 : Int32) σ) fun r_22 σ_23 => if r_22 = 0 then some ((0 : Int32), σ_23) else bdI (FX5_take (22 : Int32) σ_23) fun r_26 σ_27 => if r_26 = 0 then some ((0 : Int32), σ_27) else bdI (FX5_familyNamed (σ_27.2 2 9) σ_27) fun r_30 σ_31 => if r_30 = (-1 : Int32) then FX5_readFamily_55 x1_20 σ_31 else bdV (FX5_failLater (3 : Int32) σ_31) fun σ_34 => FX5_readFamily_55 x1_20 σ_34 else bdI (FX5_fail (2 : Int32) σ) fun r_36 σ_37 => gd (isB r_36) (some (r_36, σ_37))
set_option maxHeartbeats 4000000 in
set_option maxRecDepth 100000 in
theorem wX5_readFamily_55 (C : Cx 50 D ad κ p s m args meth c cX5_readFamily RX5 2 (some .boolean)) {R : (Int32 × HS)} : ∀ (x1 : Int32) (σ : HS) (H : Heap) (locs : List Loc) (ls : Array Slot), FX5_readFamily_55  x1 σ = some R → Hd 50 ceX D ad κ s σ H locs → lv_has ls 2 [(0, .ref (ad 2)), (1, .int x1)] → W p l e ({ frames := 3, cells := 0, slots := 0, locals := 63 } : Room) s m args below meth c H locs 0 0 (MQ below (QI 50 ceX D ad κ R) args s 0 0 (AX 50 ad)) (F0 m 55 ls []) := by
  have hx := C.1
  have hb := C.2.1
  have hown := C.2.2.2.1
  have hts := C.2.2.2.2.1
  intro x1 σ H locs ls h hH hl
  rw [FX5_readFamily_55] at h
  refine lv_aload_n hx hb dX5_readFamily_55 rfl (lv_at hl 0 rfl) ?_
  refine g_get C hH 2 (Nat.le_of_ble_eq_true rfl) rfl fl_X5_22 (v := .ref (ad 17)) rfl dX5_readFamily_56 ?_
  refine lv_iload_n hx hb dX5_readFamily_59 rfl (lv_at hl 1 rfl) ?_
  refine lv_aload_n hx hb dX5_readFamily_60 rfl (lv_at hl 0 rfl) ?_
  refine g_get C hH 2 (Nat.le_of_ble_eq_true rfl) rfl fl_X5_101 (v := .long (σ.2 2 9)) rfl dX5_readFamily_61 ?_
  obtain ⟨hi_1, h⟩ := gd_ex h
  obtain ⟨σ_2, eσ_2, h⟩ := hl_ex h
  refine g_last C hH 17 (Nat.le_of_ble_eq_true rfl) (fun _ _ => rfl) (k := (x1.toNatClampNeg)) rfl (ix_in hi_1) dX5_readFamily_64 (fun H locs hH => ?_)
  rw [← eσ_2] at hH
  refine lv_aload_n hx hb dX5_readFamily_65 rfl (lv_at hl 0 rfl) ?_
  refine lv_bipush (v := 9) hx hb dX5_readFamily_66 (by decide) ?_
  obtain ⟨r_3, σ_4, hc_5, h⟩ := bdI_ex h
  refine g_ci (g_runV (rest := []) C hH hl.1 cV_X5_95 2 (Nat.le_of_ble_eq_true rfl) rfl rfl (kX5_takeNumber l D ad κ hc_5) ⟨rfl, rfl⟩ ⟨(Nat.le_of_ble_eq_true rfl), (Nat.le_of_ble_eq_true rfl)⟩ rfl rfl (Nat.le_of_ble_eq_true rfl) dX5_readFamily_68 z00) hH (fun H locs hH => ?_)
  refine lv_if_ne (tgt := 76) hx hb dX5_readFamily_71 (by decide) (fun hq_6 => ?_) (fun hq_6 => ?_)
  · rw [if_neg hq_6] at h
    refine lv_aload_n hx hb dX5_readFamily_76 rfl (lv_at hl 0 rfl) ?_
    refine g_get C hH 2 (Nat.le_of_ble_eq_true rfl) rfl fl_X5_14 (v := .ref (ad 12)) rfl dX5_readFamily_77 ?_
    refine g_get C hH 12 (Nat.le_of_ble_eq_true rfl) rfl fl_X5_116 (v := .ref (ad 30)) rfl dX5_readFamily_80 ?_
    refine lv_iload_n hx hb dX5_readFamily_83 rfl (lv_at hl 1 rfl) ?_
    refine lv_aload_n hx hb dX5_readFamily_84 rfl (lv_at hl 0 rfl) ?_
    refine g_get C hH 2 (Nat.le_of_ble_eq_true rfl) rfl fl_X5_101 (v := .long (σ_4.2 2 9)) rfl dX5_readFamily_85 ?_
    refine lv_l2i (v := ((σ_4.2 2 9).toInt32)) hx hb dX5_readFamily_88 rfl ?_
    obtain ⟨hi_7, h⟩ := gd_ex h
    obtain ⟨σ_8, eσ_8, h⟩ := hl_ex h
    refine g_iast C hH 30 (Nat.le_of_ble_eq_true rfl) (fun _ _ => rfl) (k := (x1.toNatClampNeg)) rfl (ix_in hi_7) dX5_readFamily_89 (fun H locs hH => ?_)
    rw [← eσ_8] at hH
    refine lv_aload_n hx hb dX5_readFamily_90 rfl (lv_at hl 0 rfl) ?_
    refine lv_iconst (v := 5) hx hb dX5_readFamily_91 (by decide) ?_
    obtain ⟨r_9, σ_10, hc_11, h⟩ := bdI_ex h
    refine g_ci (g_runV (rest := []) C hH hl.1 cV_X5_95 2 (Nat.le_of_ble_eq_true rfl) rfl rfl (kX5_takeNumber l D ad κ hc_11) ⟨rfl, rfl⟩ ⟨(Nat.le_of_ble_eq_true rfl), (Nat.le_of_ble_eq_true rfl)⟩ rfl rfl (Nat.le_of_ble_eq_true rfl) dX5_readFamily_92 z00) hH (fun H locs hH => ?_)
    refine lv_if_ne (tgt := 100) hx hb dX5_readFamily_95 (by decide) (fun hq_12 => ?_) (fun hq_12 => ?_)
    · rw [if_neg hq_12] at h
      refine lv_aload_n hx hb dX5_readFamily_100 rfl (lv_at hl 0 rfl) ?_
      refine g_get C hH 2 (Nat.le_of_ble_eq_true rfl) rfl fl_X5_14 (v := .ref (ad 12)) rfl dX5_readFamily_101 ?_
      refine g_get C hH 12 (Nat.le_of_ble_eq_true rfl) rfl fl_X5_119 (v := .ref (ad 31)) rfl dX5_readFamily_104 ?_
      refine lv_iload_n hx hb dX5_readFamily_107 rfl (lv_at hl 1 rfl) ?_
      refine lv_aload_n hx hb dX5_readFamily_108 rfl (lv_at hl 0 rfl) ?_
      refine g_get C hH 2 (Nat.le_of_ble_eq_true rfl) rfl fl_X5_101 (v := .long (σ_10.2 2 9)) rfl dX5_readFamily_109 ?_
      refine lv_l2i (v := ((σ_10.2 2 9).toInt32)) hx hb dX5_readFamily_112 rfl ?_
      obtain ⟨hi_13, h⟩ := gd_ex h
      obtain ⟨σ_14, eσ_14, h⟩ := hl_ex h
      refine g_iast C hH 31 (Nat.le_of_ble_eq_true rfl) (fun _ _ => rfl) (k := (x1.toNatClampNeg)) rfl (ix_in hi_13) dX5_readFamily_113 (fun H locs hH => ?_)
      rw [← eσ_14] at hH
      refine lv_aload_n hx hb dX5_readFamily_114 rfl (lv_at hl 0 rfl) ?_
      refine g_get C hH 2 (Nat.le_of_ble_eq_true rfl) rfl fl_X5_14 (v := .ref (ad 12)) rfl dX5_readFamily_115 ?_
      refine lv_dup hx hb dX5_readFamily_118 rfl ?_
      refine g_get C hH 12 (Nat.le_of_ble_eq_true rfl) rfl fl_X5_105 (v := .int (σ_14.1 12 1)) rfl dX5_readFamily_119 ?_
      refine lv_iconst (v := 1) hx hb dX5_readFamily_122 (by decide) ?_
      refine lv_iadd hx hb dX5_readFamily_123 ?_
      obtain ⟨σ_15, eσ_15, h⟩ := hl_ex h
      refine g_putI C hH 12 (Nat.le_of_ble_eq_true rfl) rfl fp_X5_105 rfl rfl (Nat.le_of_ble_eq_true rfl) rfl dX5_readFamily_124 (fun H locs hH => ?_)
      rw [← eσ_15] at hH
      refine lv_aload_n hx hb dX5_readFamily_127 rfl (lv_at hl 0 rfl) ?_
      refine lv_bipush (v := 59) hx hb dX5_readFamily_128 (by decide) ?_
      obtain ⟨r_16, σ_17, hc_18, h⟩ := bdI_ex h
      refine g_ci (g_runV (rest := []) C hH hl.1 cV_X5_92 2 (Nat.le_of_ble_eq_true rfl) rfl rfl (kX5_take l D ad κ hc_18) ⟨rfl, rfl⟩ ⟨(Nat.le_of_ble_eq_true rfl), (Nat.le_of_ble_eq_true rfl)⟩ rfl rfl (Nat.le_of_ble_eq_true rfl) dX5_readFamily_130 z00) hH (fun H locs hH => ?_)
      obtain ⟨hb_19, h⟩ := gd_ex h
      exact g_retZ C hH hb_19 h dX5_readFamily_133
    · rw [if_pos hq_12] at h
      refine lv_iconst (v := 0) hx hb dX5_readFamily_98 (by decide) ?_
      exact g_retZ C hH rfl h dX5_readFamily_99
  · rw [if_pos hq_6] at h
    refine lv_iconst (v := 0) hx hb dX5_readFamily_74 (by decide) ?_
    exact g_retZ C hH rfl h dX5_readFamily_75
set_option maxHeartbeats 4000000 in
set_option maxRecDepth 100000 in
theorem kX5_readFamily (l : Launch) (D : va_G) (ad : Nat → Nat) (κ : KC) {σ : HS} {R : (Int32 × HS)} (h : FX5_readFamily σ = some R) : MtI l 50 ceX D ad κ yX5_readFamily cX5_readFamily 2 (some .boolean) ({ frames := 3, cells := 0, slots := 0, locals := 63 } : Room) [.ref (ad 2)] σ R := by
  refine open_ (by decide) (Nat.le_of_ble_eq_true rfl) (la := [(0, .ref (ad 2))]) rfl ?_
  intro p e s m below meth c ls C hH hl
  replace C : Cx 50 D ad κ p s m _ meth c cX5_readFamily RX5 2 (some .boolean) := C
  have hx := C.1
  have hb := C.2.1
  have hown := C.2.2.2.1
  have hts := C.2.2.2.2.1
  rw [FX5_readFamily] at h
  refine lv_aload_n hx hb dX5_readFamily_0 rfl (lv_at hl 0 rfl) ?_
  refine g_get C hH 2 (Nat.le_of_ble_eq_true rfl) rfl fl_X5_14 (v := .ref (ad 12)) rfl dX5_readFamily_1 ?_
  refine g_get C hH 12 (Nat.le_of_ble_eq_true rfl) rfl fl_X5_105 (v := .int (σ.1 12 1)) rfl dX5_readFamily_4 ?_
  obtain ⟨x1_20, ex1_20, h⟩ := hl_ex h
  refine lv_eqi ex1_20 ?_
  refine lv_istore_n (lv' := [(1, .int x1_20), (0, .ref (ad 2))]) hx hb dX5_readFamily_7 rfl hl (by decide) rfl (fun ls hl => ?_)
  refine lv_iload_n hx hb dX5_readFamily_8 rfl (lv_at hl 0 rfl) ?_
  refine lv_iconst (v := 5) hx hb dX5_readFamily_9 (by decide) ?_
  refine lv_icmp_lt (tgt := 19) hx hb dX5_readFamily_10 (by decide) (fun hq_21 => ?_) (fun hq_21 => ?_)
  · rw [if_pos hq_21] at h
    refine lv_aload_n hx hb dX5_readFamily_19 rfl (lv_at hl 1 rfl) ?_
    refine lv_iconst (v := 1) hx hb dX5_readFamily_20 (by decide) ?_
    obtain ⟨r_22, σ_23, hc_24, h⟩ := bdI_ex h
    refine g_ci (g_runV (rest := []) C hH hl.1 cV_X5_92 2 (Nat.le_of_ble_eq_true rfl) rfl rfl (kX5_take l D ad κ hc_24) ⟨rfl, rfl⟩ ⟨(Nat.le_of_ble_eq_true rfl), (Nat.le_of_ble_eq_true rfl)⟩ rfl rfl (Nat.le_of_ble_eq_true rfl) dX5_readFamily_21 z00) hH (fun H locs hH => ?_)
    refine lv_if_eq (tgt := 36) hx hb dX5_readFamily_24 (by decide) (fun hq_25 => ?_) (fun hq_25 => ?_)
    · rw [if_pos hq_25] at h
      refine lv_iconst (v := 0) hx hb dX5_readFamily_36 (by decide) ?_
      exact g_retZ C hH rfl h dX5_readFamily_37
    · rw [if_neg hq_25] at h
      refine lv_aload_n hx hb dX5_readFamily_27 rfl (lv_at hl 1 rfl) ?_
      refine lv_bipush (v := 22) hx hb dX5_readFamily_28 (by decide) ?_
      obtain ⟨r_26, σ_27, hc_28, h⟩ := bdI_ex h
      refine g_ci (g_runV (rest := []) C hH hl.1 cV_X5_92 2 (Nat.le_of_ble_eq_true rfl) rfl rfl (kX5_take l D ad κ hc_28) ⟨rfl, rfl⟩ ⟨(Nat.le_of_ble_eq_true rfl), (Nat.le_of_ble_eq_true rfl)⟩ rfl rfl (Nat.le_of_ble_eq_true rfl) dX5_readFamily_30 z00) hH (fun H locs hH => ?_)
      refine lv_if_ne (tgt := 38) hx hb dX5_readFamily_33 (by decide) (fun hq_29 => ?_) (fun hq_29 => ?_)
      · rw [if_neg hq_29] at h
        refine lv_aload_n hx hb dX5_readFamily_38 rfl (lv_at hl 1 rfl) ?_
        refine lv_aload_n hx hb dX5_readFamily_39 rfl (lv_at hl 1 rfl) ?_
        refine g_get C hH 2 (Nat.le_of_ble_eq_true rfl) rfl fl_X5_101 (v := .long (σ_27.2 2 9)) rfl dX5_readFamily_40 ?_
        obtain ⟨r_30, σ_31, hc_32, h⟩ := bdI_ex h
        refine g_ci (g_runV (rest := []) C hH hl.1 cV_X5_108 2 (Nat.le_of_ble_eq_true rfl) rfl rfl (kX5_familyNamed l D ad κ hc_32) ⟨rfl, rfl⟩ ⟨(Nat.le_of_ble_eq_true rfl), (Nat.le_of_ble_eq_true rfl)⟩ rfl rfl (Nat.le_of_ble_eq_true rfl) dX5_readFamily_43 z00) hH (fun H locs hH => ?_)
        refine lv_iconst (v := (-1)) hx hb dX5_readFamily_46 (by decide) ?_
        refine lv_icmp_eq (tgt := 55) hx hb dX5_readFamily_47 (by decide) (fun hq_33 => ?_) (fun hq_33 => ?_)
        · rw [if_pos hq_33] at h
          exact wX5_readFamily_55 C  _ _ _ _ _ h hH (lv_sub hl [1, 0] rfl)
        · rw [if_neg hq_33] at h
          refine lv_aload_n hx hb dX5_readFamily_50 rfl (lv_at hl 1 rfl) ?_
          refine lv_iconst (v := 3) hx hb dX5_readFamily_51 (by decide) ?_
          obtain ⟨σ_34, hc_35, h⟩ := bdV_ex h
          refine g_cv (g_runV (rest := []) C hH hl.1 cV_X5_112 2 (Nat.le_of_ble_eq_true rfl) rfl rfl (kX5_failLater l D ad κ hc_35) ⟨rfl, rfl⟩ ⟨(Nat.le_of_ble_eq_true rfl), (Nat.le_of_ble_eq_true rfl)⟩ rfl rfl (Nat.le_of_ble_eq_true rfl) dX5_readFamily_52 z00) hH (fun H locs hH => ?_)
          exact wX5_readFamily_55 C  _ _ _ _ _ h hH (lv_sub hl [1, 0] rfl)
      · rw [if_pos hq_29] at h
        refine lv_iconst (v := 0) hx hb dX5_readFamily_36 (by decide) ?_
        exact g_retZ C hH rfl h dX5_readFamily_37
  · rw [if_neg hq_21] at h
    refine lv_aload_n hx hb dX5_readFamily_13 rfl (lv_at hl 1 rfl) ?_
    refine lv_iconst (v := 2) hx hb dX5_readFamily_14 (by decide) ?_
    obtain ⟨r_36, σ_37, hc_38, h⟩ := bdI_ex h
    refine g_ci (g_runV (rest := []) C hH hl.1 cV_X5_86 2 (Nat.le_of_ble_eq_true rfl) rfl rfl (kX5_fail l D ad κ hc_38) ⟨rfl, rfl⟩ ⟨(Nat.le_of_ble_eq_true rfl), (Nat.le_of_ble_eq_true rfl)⟩ rfl rfl (Nat.le_of_ble_eq_true rfl) dX5_readFamily_15 z00) hH (fun H locs hH => ?_)
    obtain ⟨hb_39, h⟩ := gd_ex h
    exact g_retZ C hH hb_39 h dX5_readFamily_18
-- X11_isPart
def FX11_isPart (x0 : Int32) (σ : HS) : Option (Int32 × HS) :=
  bdI (FX11_within x0 (0 : Int32) (7 : Int32) σ) fun r_1 σ_2 => gd (isB r_1) (some (r_1, σ_2))
set_option maxHeartbeats 4000000 in
set_option maxRecDepth 100000 in
theorem kX11_isPart (l : Launch) (D : va_G) (ad : Nat → Nat) (κ : KC) {x0 : Int32} {σ : HS} {R : (Int32 × HS)} (h : FX11_isPart x0 σ = some R) : MtI l 50 ceX D ad κ yX11_isPart cX11_isPart 1 (some .boolean) ({ frames := 1, cells := 0, slots := 0, locals := 22 } : Room) [.int x0] σ R := by
  refine open_ (by decide) (Nat.le_of_ble_eq_true rfl) (la := [(0, .int x0)]) rfl ?_
  intro p e s m below meth c ls C hH hl
  replace C : Cx 50 D ad κ p s m _ meth c cX11_isPart RX11 1 (some .boolean) := C
  have hx := C.1
  have hb := C.2.1
  have hown := C.2.2.2.1
  have hts := C.2.2.2.2.1
  rw [FX11_isPart] at h
  refine lv_iload_n hx hb dX11_isPart_0 rfl (lv_at hl 0 rfl) ?_
  refine lv_iconst (v := 0) hx hb dX11_isPart_1 (by decide) ?_
  refine lv_bipush (v := 7) hx hb dX11_isPart_2 (by decide) ?_
  obtain ⟨r_1, σ_2, hc_3, h⟩ := bdI_ex h
  refine g_ci (g_runS (rest := []) C hH hl.1 cS_X11_105 (kX11_within l D ad κ hc_3) ⟨rfl, rfl⟩ ⟨(Nat.le_of_ble_eq_true rfl), (Nat.le_of_ble_eq_true rfl)⟩ rfl rfl (Nat.le_of_ble_eq_true rfl) dX11_isPart_4 z00) hH (fun H locs hH => ?_)
  obtain ⟨hb_4, h⟩ := gd_ex h
  exact g_retZ C hH hb_4 h dX11_isPart_7
-- X5_readLease
def FX5_readLease_116  (x1 : Int32) (x2 : Int32) (σ : HS) : Option (Int32 × HS) :=
  bdI (FX5_take (59 : Int32) σ) fun r_1 σ_2 => gd (isB r_1) (some (r_1, σ_2))
def FX5_readLease_106  (x1 : Int32) (x2 : Int32) (σ : HS) : Option (Int32 × HS) :=
  gd (ix x2 8) (hl_ (pI σ 32 (x2.toNatClampNeg) x1) fun σ_6 => FX5_readLease_116 x1 x2 σ_6)
def FX5_readLease_63  (x1 : Int32) (σ : HS) : Option (Int32 × HS) :=
  bdI (FX5_takeNumber (7 : Int32) σ) fun r_7 σ_8 => if r_7 = 0 then some ((0 : Int32), σ_8) else hl_ ((σ_8.2 2 9).toInt32) fun x2_11 => bdI (FX11_isPart x2_11 σ_8) fun r_12 σ_13 => if r_12 = 0 then FX5_readLease_116 x1 x2_11 σ_13 else gd (ix x2_11 8) (if (σ_13.1 32 (x2_11.toNatClampNeg)) = (-2 : Int32) then FX5_readLease_106 x1 x2_11 σ_13 else bdV (FX5_failLater (3 : Int32) σ_13) fun σ_18 => FX5_readLease_106 x1 x2_11 σ_18)
def FX5_readLease (σ : HS) : Option (Int32 × HS) :=
  if (σ.1 2 5) < (8 : Int32) then hl_ (pI σ 2 5 ((σ.1 2 5) + (1 : Int32))) fun σ_21 => bdI (FX5_take (2 : Int32) σ_21) fun r_22 σ_23 => if r_22 = 0 then some ((0 : Int32), σ_23) else bdI (FX5_take (22 : Int32) σ_23) fun r_26 σ_27 => if r_26 = 0 then some ((0 : Int32), σ_27) else bdI (FX5_familyNamed (σ_27.2 2 9) σ_27) fun r_30 σ_31 => if r_30 = (-1 : Int32) then bdV (FX5_failLater (4 : Int32) σ_31) fun σ_34 => FX5_readLease_63 r_30 σ_34 else FX5_readLease_63 r_30 σ_31 else bdI (FX5_fail (2 : Int32) σ) fun r_36 σ_37 => gd (isB r_36) (some (r_36, σ_37))
set_option maxHeartbeats 4000000 in
set_option maxRecDepth 100000 in
theorem wX5_readLease_116 (C : Cx 50 D ad κ p s m args meth c cX5_readLease RX5 3 (some .boolean)) {R : (Int32 × HS)} : ∀ (x1 : Int32) (x2 : Int32) (σ : HS) (H : Heap) (locs : List Loc) (ls : Array Slot), FX5_readLease_116  x1 x2 σ = some R → Hd 50 ceX D ad κ s σ H locs → lv_has ls 3 [(0, .ref (ad 2)), (1, .int x1), (2, .int x2)] → W p l e ({ frames := 3, cells := 0, slots := 0, locals := 63 } : Room) s m args below meth c H locs 0 0 (MQ below (QI 50 ceX D ad κ R) args s 0 0 (AX 50 ad)) (F0 m 116 ls []) := by
  have hx := C.1
  have hb := C.2.1
  have hown := C.2.2.2.1
  have hts := C.2.2.2.2.1
  intro x1 x2 σ H locs ls h hH hl
  rw [FX5_readLease_116] at h
  refine lv_aload_n hx hb dX5_readLease_116 rfl (lv_at hl 0 rfl) ?_
  refine lv_bipush (v := 59) hx hb dX5_readLease_117 (by decide) ?_
  obtain ⟨r_1, σ_2, hc_3, h⟩ := bdI_ex h
  refine g_ci (g_runV (rest := []) C hH hl.1 cV_X5_92 2 (Nat.le_of_ble_eq_true rfl) rfl rfl (kX5_take l D ad κ hc_3) ⟨rfl, rfl⟩ ⟨(Nat.le_of_ble_eq_true rfl), (Nat.le_of_ble_eq_true rfl)⟩ rfl rfl (Nat.le_of_ble_eq_true rfl) dX5_readLease_119 z00) hH (fun H locs hH => ?_)
  obtain ⟨hb_4, h⟩ := gd_ex h
  exact g_retZ C hH hb_4 h dX5_readLease_122
set_option maxHeartbeats 4000000 in
set_option maxRecDepth 100000 in
theorem wX5_readLease_106 (C : Cx 50 D ad κ p s m args meth c cX5_readLease RX5 3 (some .boolean)) {R : (Int32 × HS)} : ∀ (x1 : Int32) (x2 : Int32) (σ : HS) (H : Heap) (locs : List Loc) (ls : Array Slot), FX5_readLease_106  x1 x2 σ = some R → Hd 50 ceX D ad κ s σ H locs → lv_has ls 3 [(0, .ref (ad 2)), (1, .int x1), (2, .int x2)] → W p l e ({ frames := 3, cells := 0, slots := 0, locals := 63 } : Room) s m args below meth c H locs 0 0 (MQ below (QI 50 ceX D ad κ R) args s 0 0 (AX 50 ad)) (F0 m 106 ls []) := by
  have hx := C.1
  have hb := C.2.1
  have hown := C.2.2.2.1
  have hts := C.2.2.2.2.1
  intro x1 x2 σ H locs ls h hH hl
  rw [FX5_readLease_106] at h
  refine lv_aload_n hx hb dX5_readLease_106 rfl (lv_at hl 0 rfl) ?_
  refine g_get C hH 2 (Nat.le_of_ble_eq_true rfl) rfl fl_X5_14 (v := .ref (ad 12)) rfl dX5_readLease_107 ?_
  refine g_get C hH 12 (Nat.le_of_ble_eq_true rfl) rfl fl_X5_125 (v := .ref (ad 32)) rfl dX5_readLease_110 ?_
  refine lv_iload_n hx hb dX5_readLease_113 rfl (lv_at hl 2 rfl) ?_
  refine lv_iload_n hx hb dX5_readLease_114 rfl (lv_at hl 1 rfl) ?_
  obtain ⟨hi_5, h⟩ := gd_ex h
  obtain ⟨σ_6, eσ_6, h⟩ := hl_ex h
  refine g_iast C hH 32 (Nat.le_of_ble_eq_true rfl) (fun _ _ => rfl) (k := (x2.toNatClampNeg)) rfl (ix_in hi_5) dX5_readLease_115 (fun H locs hH => ?_)
  rw [← eσ_6] at hH
  exact wX5_readLease_116 C  _ _ _ _ _ _ h hH (lv_sub hl [0, 1, 2] rfl)
set_option maxHeartbeats 4000000 in
set_option maxRecDepth 100000 in
theorem wX5_readLease_63 (C : Cx 50 D ad κ p s m args meth c cX5_readLease RX5 3 (some .boolean)) {R : (Int32 × HS)} : ∀ (x1 : Int32) (σ : HS) (H : Heap) (locs : List Loc) (ls : Array Slot), FX5_readLease_63  x1 σ = some R → Hd 50 ceX D ad κ s σ H locs → lv_has ls 3 [(0, .ref (ad 2)), (1, .int x1)] → W p l e ({ frames := 3, cells := 0, slots := 0, locals := 63 } : Room) s m args below meth c H locs 0 0 (MQ below (QI 50 ceX D ad κ R) args s 0 0 (AX 50 ad)) (F0 m 63 ls []) := by
  have hx := C.1
  have hb := C.2.1
  have hown := C.2.2.2.1
  have hts := C.2.2.2.2.1
  intro x1 σ H locs ls h hH hl
  rw [FX5_readLease_63] at h
  refine lv_aload_n hx hb dX5_readLease_63 rfl (lv_at hl 0 rfl) ?_
  refine lv_bipush (v := 7) hx hb dX5_readLease_64 (by decide) ?_
  obtain ⟨r_7, σ_8, hc_9, h⟩ := bdI_ex h
  refine g_ci (g_runV (rest := []) C hH hl.1 cV_X5_95 2 (Nat.le_of_ble_eq_true rfl) rfl rfl (kX5_takeNumber l D ad κ hc_9) ⟨rfl, rfl⟩ ⟨(Nat.le_of_ble_eq_true rfl), (Nat.le_of_ble_eq_true rfl)⟩ rfl rfl (Nat.le_of_ble_eq_true rfl) dX5_readLease_66 z00) hH (fun H locs hH => ?_)
  refine lv_if_ne (tgt := 74) hx hb dX5_readLease_69 (by decide) (fun hq_10 => ?_) (fun hq_10 => ?_)
  · rw [if_neg hq_10] at h
    refine lv_aload_n hx hb dX5_readLease_74 rfl (lv_at hl 0 rfl) ?_
    refine g_get C hH 2 (Nat.le_of_ble_eq_true rfl) rfl fl_X5_101 (v := .long (σ_8.2 2 9)) rfl dX5_readLease_75 ?_
    refine lv_l2i (v := ((σ_8.2 2 9).toInt32)) hx hb dX5_readLease_78 rfl ?_
    obtain ⟨x2_11, ex2_11, h⟩ := hl_ex h
    refine lv_eqi ex2_11 ?_
    refine lv_istore_n (lv' := [(2, .int x2_11), (0, .ref (ad 2)), (1, .int x1)]) hx hb dX5_readLease_79 rfl hl (by decide) rfl (fun ls hl => ?_)
    refine lv_iload_n hx hb dX5_readLease_80 rfl (lv_at hl 0 rfl) ?_
    obtain ⟨r_12, σ_13, hc_14, h⟩ := bdI_ex h
    refine g_ci (g_runN (rest := []) C hH hl.1 cN_X5_122 (kX11_isPart l D ad κ hc_14) ⟨rfl, rfl⟩ ⟨(Nat.le_of_ble_eq_true rfl), (Nat.le_of_ble_eq_true rfl)⟩ rfl rfl (Nat.le_of_ble_eq_true rfl) dX5_readLease_81 z00) hH (fun H locs hH => ?_)
    refine lv_if_eq (tgt := 116) hx hb dX5_readLease_84 (by decide) (fun hq_15 => ?_) (fun hq_15 => ?_)
    · rw [if_pos hq_15] at h
      exact wX5_readLease_116 C  _ _ _ _ _ _ h hH (lv_sub hl [1, 2, 0] rfl)
    · rw [if_neg hq_15] at h
      refine lv_aload_n hx hb dX5_readLease_87 rfl (lv_at hl 1 rfl) ?_
      refine g_get C hH 2 (Nat.le_of_ble_eq_true rfl) rfl fl_X5_14 (v := .ref (ad 12)) rfl dX5_readLease_88 ?_
      refine g_get C hH 12 (Nat.le_of_ble_eq_true rfl) rfl fl_X5_125 (v := .ref (ad 32)) rfl dX5_readLease_91 ?_
      refine lv_iload_n hx hb dX5_readLease_94 rfl (lv_at hl 0 rfl) ?_
      obtain ⟨hi_16, h⟩ := gd_ex h
      refine g_iald C hH 32 (Nat.le_of_ble_eq_true rfl) rfl (k := (x2_11.toNatClampNeg)) rfl (ix_in hi_16) dX5_readLease_95 ?_
      refine lv_bipush (v := (-2)) hx hb dX5_readLease_96 (by decide) ?_
      refine lv_icmp_eq (tgt := 106) hx hb dX5_readLease_98 (by decide) (fun hq_17 => ?_) (fun hq_17 => ?_)
      · rw [if_pos hq_17] at h
        exact wX5_readLease_106 C  _ _ _ _ _ _ h hH (lv_sub hl [1, 2, 0] rfl)
      · rw [if_neg hq_17] at h
        refine lv_aload_n hx hb dX5_readLease_101 rfl (lv_at hl 1 rfl) ?_
        refine lv_iconst (v := 3) hx hb dX5_readLease_102 (by decide) ?_
        obtain ⟨σ_18, hc_19, h⟩ := bdV_ex h
        refine g_cv (g_runV (rest := []) C hH hl.1 cV_X5_112 2 (Nat.le_of_ble_eq_true rfl) rfl rfl (kX5_failLater l D ad κ hc_19) ⟨rfl, rfl⟩ ⟨(Nat.le_of_ble_eq_true rfl), (Nat.le_of_ble_eq_true rfl)⟩ rfl rfl (Nat.le_of_ble_eq_true rfl) dX5_readLease_103 z00) hH (fun H locs hH => ?_)
        exact wX5_readLease_106 C  _ _ _ _ _ _ h hH (lv_sub hl [1, 2, 0] rfl)
  · rw [if_pos hq_10] at h
    refine lv_iconst (v := 0) hx hb dX5_readLease_72 (by decide) ?_
    exact g_retZ C hH rfl h dX5_readLease_73
set_option maxHeartbeats 4000000 in
set_option maxRecDepth 100000 in
theorem kX5_readLease (l : Launch) (D : va_G) (ad : Nat → Nat) (κ : KC) {σ : HS} {R : (Int32 × HS)} (h : FX5_readLease σ = some R) : MtI l 50 ceX D ad κ yX5_readLease cX5_readLease 3 (some .boolean) ({ frames := 3, cells := 0, slots := 0, locals := 63 } : Room) [.ref (ad 2)] σ R := by
  refine open_ (by decide) (Nat.le_of_ble_eq_true rfl) (la := [(0, .ref (ad 2))]) rfl ?_
  intro p e s m below meth c ls C hH hl
  replace C : Cx 50 D ad κ p s m _ meth c cX5_readLease RX5 3 (some .boolean) := C
  have hx := C.1
  have hb := C.2.1
  have hown := C.2.2.2.1
  have hts := C.2.2.2.2.1
  rw [FX5_readLease] at h
  refine lv_aload_n hx hb dX5_readLease_0 rfl (lv_at hl 0 rfl) ?_
  refine g_get C hH 2 (Nat.le_of_ble_eq_true rfl) rfl fl_X5_45 (v := .int (σ.1 2 5)) rfl dX5_readLease_1 ?_
  refine lv_bipush (v := 8) hx hb dX5_readLease_4 (by decide) ?_
  refine lv_icmp_lt (tgt := 15) hx hb dX5_readLease_6 (by decide) (fun hq_20 => ?_) (fun hq_20 => ?_)
  · rw [if_pos hq_20] at h
    refine lv_aload_n hx hb dX5_readLease_15 rfl (lv_at hl 0 rfl) ?_
    refine lv_dup hx hb dX5_readLease_16 rfl ?_
    refine g_get C hH 2 (Nat.le_of_ble_eq_true rfl) rfl fl_X5_45 (v := .int (σ.1 2 5)) rfl dX5_readLease_17 ?_
    refine lv_iconst (v := 1) hx hb dX5_readLease_20 (by decide) ?_
    refine lv_iadd hx hb dX5_readLease_21 ?_
    obtain ⟨σ_21, eσ_21, h⟩ := hl_ex h
    refine g_putI C hH 2 (Nat.le_of_ble_eq_true rfl) rfl fp_X5_45 rfl rfl (Nat.le_of_ble_eq_true rfl) rfl dX5_readLease_22 (fun H locs hH => ?_)
    rw [← eσ_21] at hH
    refine lv_aload_n hx hb dX5_readLease_25 rfl (lv_at hl 0 rfl) ?_
    refine lv_iconst (v := 2) hx hb dX5_readLease_26 (by decide) ?_
    obtain ⟨r_22, σ_23, hc_24, h⟩ := bdI_ex h
    refine g_ci (g_runV (rest := []) C hH hl.1 cV_X5_92 2 (Nat.le_of_ble_eq_true rfl) rfl rfl (kX5_take l D ad κ hc_24) ⟨rfl, rfl⟩ ⟨(Nat.le_of_ble_eq_true rfl), (Nat.le_of_ble_eq_true rfl)⟩ rfl rfl (Nat.le_of_ble_eq_true rfl) dX5_readLease_27 z00) hH (fun H locs hH => ?_)
    refine lv_if_eq (tgt := 42) hx hb dX5_readLease_30 (by decide) (fun hq_25 => ?_) (fun hq_25 => ?_)
    · rw [if_pos hq_25] at h
      refine lv_iconst (v := 0) hx hb dX5_readLease_42 (by decide) ?_
      exact g_retZ C hH rfl h dX5_readLease_43
    · rw [if_neg hq_25] at h
      refine lv_aload_n hx hb dX5_readLease_33 rfl (lv_at hl 0 rfl) ?_
      refine lv_bipush (v := 22) hx hb dX5_readLease_34 (by decide) ?_
      obtain ⟨r_26, σ_27, hc_28, h⟩ := bdI_ex h
      refine g_ci (g_runV (rest := []) C hH hl.1 cV_X5_92 2 (Nat.le_of_ble_eq_true rfl) rfl rfl (kX5_take l D ad κ hc_28) ⟨rfl, rfl⟩ ⟨(Nat.le_of_ble_eq_true rfl), (Nat.le_of_ble_eq_true rfl)⟩ rfl rfl (Nat.le_of_ble_eq_true rfl) dX5_readLease_36 z00) hH (fun H locs hH => ?_)
      refine lv_if_ne (tgt := 44) hx hb dX5_readLease_39 (by decide) (fun hq_29 => ?_) (fun hq_29 => ?_)
      · rw [if_neg hq_29] at h
        refine lv_aload_n hx hb dX5_readLease_44 rfl (lv_at hl 0 rfl) ?_
        refine lv_aload_n hx hb dX5_readLease_45 rfl (lv_at hl 0 rfl) ?_
        refine g_get C hH 2 (Nat.le_of_ble_eq_true rfl) rfl fl_X5_101 (v := .long (σ_27.2 2 9)) rfl dX5_readLease_46 ?_
        obtain ⟨r_30, σ_31, hc_32, h⟩ := bdI_ex h
        refine g_ci (g_runV (rest := []) C hH hl.1 cV_X5_108 2 (Nat.le_of_ble_eq_true rfl) rfl rfl (kX5_familyNamed l D ad κ hc_32) ⟨rfl, rfl⟩ ⟨(Nat.le_of_ble_eq_true rfl), (Nat.le_of_ble_eq_true rfl)⟩ rfl rfl (Nat.le_of_ble_eq_true rfl) dX5_readLease_49 z00) hH (fun H locs hH => ?_)
        refine lv_istore_n (lv' := [(1, .int r_30), (0, .ref (ad 2))]) hx hb dX5_readLease_52 rfl hl (by decide) rfl (fun ls hl => ?_)
        refine lv_iload_n hx hb dX5_readLease_53 rfl (lv_at hl 0 rfl) ?_
        refine lv_iconst (v := (-1)) hx hb dX5_readLease_54 (by decide) ?_
        refine lv_icmp_ne (tgt := 63) hx hb dX5_readLease_55 (by decide) (fun hq_33 => ?_) (fun hq_33 => ?_)
        · rw [if_neg hq_33] at h
          exact wX5_readLease_63 C  _ _ _ _ _ h hH (lv_sub hl [1, 0] rfl)
        · rw [if_pos hq_33] at h
          refine lv_aload_n hx hb dX5_readLease_58 rfl (lv_at hl 1 rfl) ?_
          refine lv_iconst (v := 4) hx hb dX5_readLease_59 (by decide) ?_
          obtain ⟨σ_34, hc_35, h⟩ := bdV_ex h
          refine g_cv (g_runV (rest := []) C hH hl.1 cV_X5_112 2 (Nat.le_of_ble_eq_true rfl) rfl rfl (kX5_failLater l D ad κ hc_35) ⟨rfl, rfl⟩ ⟨(Nat.le_of_ble_eq_true rfl), (Nat.le_of_ble_eq_true rfl)⟩ rfl rfl (Nat.le_of_ble_eq_true rfl) dX5_readLease_60 z00) hH (fun H locs hH => ?_)
          exact wX5_readLease_63 C  _ _ _ _ _ h hH (lv_sub hl [1, 0] rfl)
      · rw [if_pos hq_29] at h
        refine lv_iconst (v := 0) hx hb dX5_readLease_42 (by decide) ?_
        exact g_retZ C hH rfl h dX5_readLease_43
  · rw [if_neg hq_20] at h
    refine lv_aload_n hx hb dX5_readLease_9 rfl (lv_at hl 0 rfl) ?_
    refine lv_iconst (v := 2) hx hb dX5_readLease_10 (by decide) ?_
    obtain ⟨r_36, σ_37, hc_38, h⟩ := bdI_ex h
    refine g_ci (g_runV (rest := []) C hH hl.1 cV_X5_86 2 (Nat.le_of_ble_eq_true rfl) rfl rfl (kX5_fail l D ad κ hc_38) ⟨rfl, rfl⟩ ⟨(Nat.le_of_ble_eq_true rfl), (Nat.le_of_ble_eq_true rfl)⟩ rfl rfl (Nat.le_of_ble_eq_true rfl) dX5_readLease_11 z00) hH (fun H locs hH => ?_)
    obtain ⟨hb_39, h⟩ := gd_ex h
    exact g_retZ C hH hb_39 h dX5_readLease_14
-- X5_isVar
def FX5_isVar (x0 : Int32) (σ : HS) : Option (Int32 × HS) :=
  if x0 < (13 : Int32) then some ((0 : Int32), σ) else if (21 : Int32) < x0 then some ((0 : Int32), σ) else some ((1 : Int32), σ)
set_option maxHeartbeats 4000000 in
set_option maxRecDepth 100000 in
theorem kX5_isVar (l : Launch) (D : va_G) (ad : Nat → Nat) (κ : KC) {x0 : Int32} {σ : HS} {R : (Int32 × HS)} (h : FX5_isVar x0 σ = some R) : MtI l 50 ceX D ad κ yX5_isVar cX5_isVar 1 (some .boolean) ({ frames := 0, cells := 0, slots := 0, locals := 0 } : Room) [.int x0] σ R := by
  refine open_ (by decide) (Nat.le_of_ble_eq_true rfl) (la := [(0, .int x0)]) rfl ?_
  intro p e s m below meth c ls C hH hl
  replace C : Cx 50 D ad κ p s m _ meth c cX5_isVar RX5 1 (some .boolean) := C
  have hx := C.1
  have hb := C.2.1
  have hown := C.2.2.2.1
  have hts := C.2.2.2.2.1
  rw [FX5_isVar] at h
  refine lv_bipush (v := 13) hx hb dX5_isVar_0 (by decide) ?_
  refine lv_iload_n hx hb dX5_isVar_2 rfl (lv_at hl 0 rfl) ?_
  refine lv_icmp_gt (tgt := 16) hx hb dX5_isVar_3 (by decide) (fun hq_1 => ?_) (fun hq_1 => ?_)
  · rw [if_pos hq_1] at h
    refine lv_iconst (v := 0) hx hb dX5_isVar_16 (by decide) ?_
    exact g_retZ C hH rfl h dX5_isVar_17
  · rw [if_neg hq_1] at h
    refine lv_iload_n hx hb dX5_isVar_6 rfl (lv_at hl 0 rfl) ?_
    refine lv_bipush (v := 21) hx hb dX5_isVar_7 (by decide) ?_
    refine lv_icmp_gt (tgt := 16) hx hb dX5_isVar_9 (by decide) (fun hq_2 => ?_) (fun hq_2 => ?_)
    · rw [if_pos hq_2] at h
      refine lv_iconst (v := 0) hx hb dX5_isVar_16 (by decide) ?_
      exact g_retZ C hH rfl h dX5_isVar_17
    · rw [if_neg hq_2] at h
      refine lv_iconst (v := 1) hx hb dX5_isVar_12 (by decide) ?_
      refine lv_goto (tgt := 17) hx hb dX5_isVar_13 (by decide) ?_
      exact g_retZ C hH rfl h dX5_isVar_17
-- X5_rankOf
def FX5_rankOf (x0 : Int32) (σ : HS) : Option (Int32 × HS) :=
  if x0 = (43 : Int32) then some ((1 : Int32), σ) else if x0 = (45 : Int32) then some ((1 : Int32), σ) else if x0 = (42 : Int32) then some ((2 : Int32), σ) else if x0 = (47 : Int32) then some ((2 : Int32), σ) else some ((0 : Int32), σ)
set_option maxHeartbeats 4000000 in
set_option maxRecDepth 100000 in
theorem kX5_rankOf (l : Launch) (D : va_G) (ad : Nat → Nat) (κ : KC) {x0 : Int32} {σ : HS} {R : (Int32 × HS)} (h : FX5_rankOf x0 σ = some R) : MtI l 50 ceX D ad κ yX5_rankOf cX5_rankOf 1 (some .int) ({ frames := 0, cells := 0, slots := 0, locals := 0 } : Room) [.int x0] σ R := by
  refine open_ (by decide) (Nat.le_of_ble_eq_true rfl) (la := [(0, .int x0)]) rfl ?_
  intro p e s m below meth c ls C hH hl
  replace C : Cx 50 D ad κ p s m _ meth c cX5_rankOf RX5 1 (some .int) := C
  have hx := C.1
  have hb := C.2.1
  have hown := C.2.2.2.1
  have hts := C.2.2.2.2.1
  rw [FX5_rankOf] at h
  refine lv_iload_n hx hb dX5_rankOf_0 rfl (lv_at hl 0 rfl) ?_
  refine lv_bipush (v := 43) hx hb dX5_rankOf_1 (by decide) ?_
  refine lv_icmp_eq (tgt := 12) hx hb dX5_rankOf_3 (by decide) (fun hq_1 => ?_) (fun hq_1 => ?_)
  · rw [if_pos hq_1] at h
    refine lv_iconst (v := 1) hx hb dX5_rankOf_12 (by decide) ?_
    exact g_ret C hH h dX5_rankOf_13
  · rw [if_neg hq_1] at h
    refine lv_iload_n hx hb dX5_rankOf_6 rfl (lv_at hl 0 rfl) ?_
    refine lv_bipush (v := 45) hx hb dX5_rankOf_7 (by decide) ?_
    refine lv_icmp_ne (tgt := 14) hx hb dX5_rankOf_9 (by decide) (fun hq_2 => ?_) (fun hq_2 => ?_)
    · rw [if_neg hq_2] at h
      refine lv_iload_n hx hb dX5_rankOf_14 rfl (lv_at hl 0 rfl) ?_
      refine lv_bipush (v := 42) hx hb dX5_rankOf_15 (by decide) ?_
      refine lv_icmp_eq (tgt := 26) hx hb dX5_rankOf_17 (by decide) (fun hq_3 => ?_) (fun hq_3 => ?_)
      · rw [if_pos hq_3] at h
        refine lv_iconst (v := 2) hx hb dX5_rankOf_26 (by decide) ?_
        refine lv_goto (tgt := 31) hx hb dX5_rankOf_27 (by decide) ?_
        exact g_ret C hH h dX5_rankOf_31
      · rw [if_neg hq_3] at h
        refine lv_iload_n hx hb dX5_rankOf_20 rfl (lv_at hl 0 rfl) ?_
        refine lv_bipush (v := 47) hx hb dX5_rankOf_21 (by decide) ?_
        refine lv_icmp_ne (tgt := 30) hx hb dX5_rankOf_23 (by decide) (fun hq_4 => ?_) (fun hq_4 => ?_)
        · rw [if_neg hq_4] at h
          refine lv_iconst (v := 0) hx hb dX5_rankOf_30 (by decide) ?_
          exact g_ret C hH h dX5_rankOf_31
        · rw [if_pos hq_4] at h
          refine lv_iconst (v := 2) hx hb dX5_rankOf_26 (by decide) ?_
          refine lv_goto (tgt := 31) hx hb dX5_rankOf_27 (by decide) ?_
          exact g_ret C hH h dX5_rankOf_31
    · rw [if_pos hq_2] at h
      refine lv_iconst (v := 1) hx hb dX5_rankOf_12 (by decide) ?_
      exact g_ret C hH h dX5_rankOf_13
-- X5_goesOnSum
def FX5_goesOnSum (x1 : Int32) (x2 : Int32) (σ : HS) : Option (Int32 × HS) :=
  if x2 = 0 then bdI (FX5_rankOf x1 σ) fun r_2 σ_3 => if 0 < r_2 then some ((1 : Int32), σ_3) else if x1 = (41 : Int32) then if (σ_3.1 2 7) ≤ 0 then some ((0 : Int32), σ_3) else some ((1 : Int32), σ_3) else some ((0 : Int32), σ_3) else if x1 = (40 : Int32) then some ((1 : Int32), σ) else if x1 = (23 : Int32) then some ((1 : Int32), σ) else bdI (FX5_isVar x1 σ) fun r_10 σ_11 => if r_10 = 0 then some ((0 : Int32), σ_11) else some ((1 : Int32), σ_11)
set_option maxHeartbeats 4000000 in
set_option maxRecDepth 100000 in
theorem kX5_goesOnSum (l : Launch) (D : va_G) (ad : Nat → Nat) (κ : KC) {x1 : Int32} {x2 : Int32} {σ : HS} {R : (Int32 × HS)} (h : FX5_goesOnSum x1 x2 σ = some R) : MtI l 50 ceX D ad κ yX5_goesOnSum cX5_goesOnSum 3 (some .boolean) ({ frames := 1, cells := 0, slots := 0, locals := 20 } : Room) [.ref (ad 2), .int x1, .int x2] σ R := by
  refine open_ (by decide) (Nat.le_of_ble_eq_true rfl) (la := [(0, .ref (ad 2)), (1, .int x1), (2, .int x2)]) rfl ?_
  intro p e s m below meth c ls C hH hl
  replace C : Cx 50 D ad κ p s m _ meth c cX5_goesOnSum RX5 3 (some .boolean) := C
  have hx := C.1
  have hb := C.2.1
  have hown := C.2.2.2.1
  have hts := C.2.2.2.2.1
  rw [FX5_goesOnSum] at h
  refine lv_iload_n hx hb dX5_goesOnSum_0 rfl (lv_at hl 2 rfl) ?_
  refine lv_if_eq (tgt := 29) hx hb dX5_goesOnSum_1 (by decide) (fun hq_1 => ?_) (fun hq_1 => ?_)
  · rw [if_pos hq_1] at h
    refine lv_iload_n hx hb dX5_goesOnSum_29 rfl (lv_at hl 1 rfl) ?_
    obtain ⟨r_2, σ_3, hc_4, h⟩ := bdI_ex h
    refine g_ci (g_runS (rest := []) C hH hl.1 cS_X5_175 (kX5_rankOf l D ad κ hc_4) ⟨rfl, rfl⟩ ⟨(Nat.le_of_ble_eq_true rfl), (Nat.le_of_ble_eq_true rfl)⟩ rfl rfl (Nat.le_of_ble_eq_true rfl) dX5_goesOnSum_30 z00) hH (fun H locs hH => ?_)
    refine lv_if_gt (tgt := 49) hx hb dX5_goesOnSum_33 (by decide) (fun hq_5 => ?_) (fun hq_5 => ?_)
    · rw [if_pos hq_5] at h
      refine lv_iconst (v := 1) hx hb dX5_goesOnSum_49 (by decide) ?_
      refine lv_goto (tgt := 54) hx hb dX5_goesOnSum_50 (by decide) ?_
      exact g_retZ C hH rfl h dX5_goesOnSum_54
    · rw [if_neg hq_5] at h
      refine lv_iload_n hx hb dX5_goesOnSum_36 rfl (lv_at hl 1 rfl) ?_
      refine lv_bipush (v := 41) hx hb dX5_goesOnSum_37 (by decide) ?_
      refine lv_icmp_ne (tgt := 53) hx hb dX5_goesOnSum_39 (by decide) (fun hq_6 => ?_) (fun hq_6 => ?_)
      · rw [if_neg hq_6] at h
        refine lv_iconst (v := 0) hx hb dX5_goesOnSum_53 (by decide) ?_
        exact g_retZ C hH rfl h dX5_goesOnSum_54
      · rw [if_pos hq_6] at h
        refine lv_aload_n hx hb dX5_goesOnSum_42 rfl (lv_at hl 0 rfl) ?_
        refine g_get C hH 2 (Nat.le_of_ble_eq_true rfl) rfl fl_X5_156 (v := .int (σ_3.1 2 7)) rfl dX5_goesOnSum_43 ?_
        refine lv_if_le (tgt := 53) hx hb dX5_goesOnSum_46 (by decide) (fun hq_7 => ?_) (fun hq_7 => ?_)
        · rw [if_pos hq_7] at h
          refine lv_iconst (v := 0) hx hb dX5_goesOnSum_53 (by decide) ?_
          exact g_retZ C hH rfl h dX5_goesOnSum_54
        · rw [if_neg hq_7] at h
          refine lv_iconst (v := 1) hx hb dX5_goesOnSum_49 (by decide) ?_
          refine lv_goto (tgt := 54) hx hb dX5_goesOnSum_50 (by decide) ?_
          exact g_retZ C hH rfl h dX5_goesOnSum_54
  · rw [if_neg hq_1] at h
    refine lv_iload_n hx hb dX5_goesOnSum_4 rfl (lv_at hl 1 rfl) ?_
    refine lv_bipush (v := 40) hx hb dX5_goesOnSum_5 (by decide) ?_
    refine lv_icmp_eq (tgt := 23) hx hb dX5_goesOnSum_7 (by decide) (fun hq_8 => ?_) (fun hq_8 => ?_)
    · rw [if_pos hq_8] at h
      refine lv_iconst (v := 1) hx hb dX5_goesOnSum_23 (by decide) ?_
      refine lv_goto (tgt := 28) hx hb dX5_goesOnSum_24 (by decide) ?_
      exact g_retZ C hH rfl h dX5_goesOnSum_28
    · rw [if_neg hq_8] at h
      refine lv_iload_n hx hb dX5_goesOnSum_10 rfl (lv_at hl 1 rfl) ?_
      refine lv_bipush (v := 23) hx hb dX5_goesOnSum_11 (by decide) ?_
      refine lv_icmp_eq (tgt := 23) hx hb dX5_goesOnSum_13 (by decide) (fun hq_9 => ?_) (fun hq_9 => ?_)
      · rw [if_pos hq_9] at h
        refine lv_iconst (v := 1) hx hb dX5_goesOnSum_23 (by decide) ?_
        refine lv_goto (tgt := 28) hx hb dX5_goesOnSum_24 (by decide) ?_
        exact g_retZ C hH rfl h dX5_goesOnSum_28
      · rw [if_neg hq_9] at h
        refine lv_iload_n hx hb dX5_goesOnSum_16 rfl (lv_at hl 1 rfl) ?_
        obtain ⟨r_10, σ_11, hc_12, h⟩ := bdI_ex h
        refine g_ci (g_runS (rest := []) C hH hl.1 cS_X5_182 (kX5_isVar l D ad κ hc_12) ⟨rfl, rfl⟩ ⟨(Nat.le_of_ble_eq_true rfl), (Nat.le_of_ble_eq_true rfl)⟩ rfl rfl (Nat.le_of_ble_eq_true rfl) dX5_goesOnSum_17 z00) hH (fun H locs hH => ?_)
        refine lv_if_eq (tgt := 27) hx hb dX5_goesOnSum_20 (by decide) (fun hq_13 => ?_) (fun hq_13 => ?_)
        · rw [if_pos hq_13] at h
          refine lv_iconst (v := 0) hx hb dX5_goesOnSum_27 (by decide) ?_
          exact g_retZ C hH rfl h dX5_goesOnSum_28
        · rw [if_neg hq_13] at h
          refine lv_iconst (v := 1) hx hb dX5_goesOnSum_23 (by decide) ?_
          refine lv_goto (tgt := 28) hx hb dX5_goesOnSum_24 (by decide) ?_
          exact g_retZ C hH rfl h dX5_goesOnSum_28
-- X5_putPending
def FX5_putPending_0  : Nat → Int32 → HS → Option HS
  | 0, _, _ => none
  | f + 1, x1, σ => if (σ.1 2 6) ≤ 0 then some σ else gd (ix ((σ.1 2 6) - (1 : Int32)) 21) (bdI (FX5_rankOf (σ.1 18 (((σ.1 2 6) - (1 : Int32)).toNatClampNeg)) σ) fun r_3 σ_4 => if r_3 < x1 then some σ_4 else hl_ (pI σ_4 2 6 ((σ_4.1 2 6) - (1 : Int32))) fun σ_7 => gd (ix (σ_7.1 2 6) 21) (bdV (FX9_putCode (σ_7.1 18 ((σ_7.1 2 6).toNatClampNeg)) (0 : Int32) σ_7) fun σ_9 => FX5_putPending_0  f x1 σ_9))
def FX5_putPending (x1 : Int32) (σ : HS) : Option HS :=
  FX5_putPending_0 fu x1 σ
set_option maxHeartbeats 4000000 in
set_option maxRecDepth 100000 in
theorem wX5_putPending_0 (C : Cx 50 D ad κ p s m args meth c cX5_putPending RX5 2 none) {R : HS} : ∀ (f : Nat) (x1 : Int32) (σ : HS) (H : Heap) (locs : List Loc) (ls : Array Slot), FX5_putPending_0  f x1 σ = some R → Hd 50 ceX D ad κ s σ H locs → lv_has ls 2 [(0, .ref (ad 2)), (1, .int x1)] → W p l e ({ frames := 1, cells := 0, slots := 0, locals := 22 } : Room) s m args below meth c H locs 0 0 (MQ below (QV 50 ceX D ad κ R) args s 0 0 (AX 50 ad)) (F0 m 0 ls []) := by
  have hx := C.1
  have hb := C.2.1
  have hown := C.2.2.2.1
  have hts := C.2.2.2.2.1
  intro f
  induction f with
  | zero =>
    intro x1 σ H locs ls h hH hl
    cases h
  | succ f ih =>
    intro x1 σ H locs ls h hH hl
    rw [FX5_putPending_0] at h
    refine lv_aload_n hx hb dX5_putPending_0 rfl (lv_at hl 0 rfl) ?_
    refine g_get C hH 2 (Nat.le_of_ble_eq_true rfl) rfl fl_X5_153 (v := .int (σ.1 2 6)) rfl dX5_putPending_1 ?_
    refine lv_if_le (tgt := 55) hx hb dX5_putPending_4 (by decide) (fun hq_1 => ?_) (fun hq_1 => ?_)
    · rw [if_pos hq_1] at h
      exact g_retV C hH h dX5_putPending_55
    · rw [if_neg hq_1] at h
      refine lv_aload_n hx hb dX5_putPending_7 rfl (lv_at hl 0 rfl) ?_
      refine g_get C hH 2 (Nat.le_of_ble_eq_true rfl) rfl fl_X5_26 (v := .ref (ad 18)) rfl dX5_putPending_8 ?_
      refine lv_aload_n hx hb dX5_putPending_11 rfl (lv_at hl 0 rfl) ?_
      refine g_get C hH 2 (Nat.le_of_ble_eq_true rfl) rfl fl_X5_153 (v := .int (σ.1 2 6)) rfl dX5_putPending_12 ?_
      refine lv_iconst (v := 1) hx hb dX5_putPending_15 (by decide) ?_
      refine lv_isub hx hb dX5_putPending_16 ?_
      obtain ⟨hi_2, h⟩ := gd_ex h
      refine g_iald C hH 18 (Nat.le_of_ble_eq_true rfl) rfl (k := (((σ.1 2 6) - (1 : Int32)).toNatClampNeg)) rfl (ix_in hi_2) dX5_putPending_17 ?_
      obtain ⟨r_3, σ_4, hc_5, h⟩ := bdI_ex h
      refine g_ci (g_runS (rest := []) C hH hl.1 cS_X5_175 (kX5_rankOf l D ad κ hc_5) ⟨rfl, rfl⟩ ⟨(Nat.le_of_ble_eq_true rfl), (Nat.le_of_ble_eq_true rfl)⟩ rfl rfl (Nat.le_of_ble_eq_true rfl) dX5_putPending_18 z00) hH (fun H locs hH => ?_)
      refine lv_iload_n hx hb dX5_putPending_21 rfl (lv_at hl 1 rfl) ?_
      refine lv_icmp_lt (tgt := 55) hx hb dX5_putPending_22 (by decide) (fun hq_6 => ?_) (fun hq_6 => ?_)
      · rw [if_pos hq_6] at h
        exact g_retV C hH h dX5_putPending_55
      · rw [if_neg hq_6] at h
        refine lv_aload_n hx hb dX5_putPending_25 rfl (lv_at hl 0 rfl) ?_
        refine lv_dup hx hb dX5_putPending_26 rfl ?_
        refine g_get C hH 2 (Nat.le_of_ble_eq_true rfl) rfl fl_X5_153 (v := .int (σ_4.1 2 6)) rfl dX5_putPending_27 ?_
        refine lv_iconst (v := 1) hx hb dX5_putPending_30 (by decide) ?_
        refine lv_isub hx hb dX5_putPending_31 ?_
        obtain ⟨σ_7, eσ_7, h⟩ := hl_ex h
        refine g_putI C hH 2 (Nat.le_of_ble_eq_true rfl) rfl fp_X5_153 rfl rfl (Nat.le_of_ble_eq_true rfl) rfl dX5_putPending_32 (fun H locs hH => ?_)
        rw [← eσ_7] at hH
        refine lv_aload_n hx hb dX5_putPending_35 rfl (lv_at hl 0 rfl) ?_
        refine g_get C hH 2 (Nat.le_of_ble_eq_true rfl) rfl fl_X5_14 (v := .ref (ad 12)) rfl dX5_putPending_36 ?_
        refine lv_aload_n hx hb dX5_putPending_39 rfl (lv_at hl 0 rfl) ?_
        refine g_get C hH 2 (Nat.le_of_ble_eq_true rfl) rfl fl_X5_26 (v := .ref (ad 18)) rfl dX5_putPending_40 ?_
        refine lv_aload_n hx hb dX5_putPending_43 rfl (lv_at hl 0 rfl) ?_
        refine g_get C hH 2 (Nat.le_of_ble_eq_true rfl) rfl fl_X5_153 (v := .int (σ_7.1 2 6)) rfl dX5_putPending_44 ?_
        obtain ⟨hi_8, h⟩ := gd_ex h
        refine g_iald C hH 18 (Nat.le_of_ble_eq_true rfl) rfl (k := ((σ_7.1 2 6).toNatClampNeg)) rfl (ix_in hi_8) dX5_putPending_47 ?_
        refine lv_iconst (v := 0) hx hb dX5_putPending_48 (by decide) ?_
        obtain ⟨σ_9, hc_10, h⟩ := bdV_ex h
        refine g_cv (g_runV (rest := []) C hH hl.1 cV_X5_146 12 (Nat.le_of_ble_eq_true rfl) rfl rfl (kX9_putCode l D ad κ hc_10) ⟨rfl, rfl⟩ ⟨(Nat.le_of_ble_eq_true rfl), (Nat.le_of_ble_eq_true rfl)⟩ rfl rfl (Nat.le_of_ble_eq_true rfl) dX5_putPending_49 z00) hH (fun H locs hH => ?_)
        refine lv_goto (tgt := 0) hx hb dX5_putPending_52 (by decide) ?_
        exact ih _ _ _ _ _ h hH (lv_sub hl [0, 1] rfl)
set_option maxHeartbeats 4000000 in
set_option maxRecDepth 100000 in
theorem kX5_putPending (l : Launch) (D : va_G) (ad : Nat → Nat) (κ : KC) {x1 : Int32} {σ : HS} {R : HS} (h : FX5_putPending x1 σ = some R) : MtV l 50 ceX D ad κ yX5_putPending cX5_putPending 2 none ({ frames := 1, cells := 0, slots := 0, locals := 22 } : Room) [.ref (ad 2), .int x1] σ R := by
  refine open_ (by decide) (Nat.le_of_ble_eq_true rfl) (la := [(0, .ref (ad 2)), (1, .int x1)]) rfl ?_
  intro p e s m below meth c ls C hH hl
  replace C : Cx 50 D ad κ p s m _ meth c cX5_putPending RX5 2 none := C
  have hx := C.1
  have hb := C.2.1
  have hown := C.2.2.2.1
  have hts := C.2.2.2.2.1
  rw [FX5_putPending] at h
  exact wX5_putPending_0 C _ _ _ _ _ _ h hH (lv_sub hl [0, 1] rfl)
-- X5_push
def FX5_push (x1 : Int32) (σ : HS) : Option HS :=
  if (21 : Int32) ≤ (σ.1 2 6) then some σ else gd (ix (σ.1 2 6) 21) (hl_ (pI σ 18 ((σ.1 2 6).toNatClampNeg) x1) fun σ_3 => hl_ (pI σ_3 2 6 ((σ_3.1 2 6) + (1 : Int32))) fun σ_4 => some σ_4)
set_option maxHeartbeats 4000000 in
set_option maxRecDepth 100000 in
theorem kX5_push (l : Launch) (D : va_G) (ad : Nat → Nat) (κ : KC) {x1 : Int32} {σ : HS} {R : HS} (h : FX5_push x1 σ = some R) : MtV l 50 ceX D ad κ yX5_push cX5_push 2 none ({ frames := 0, cells := 0, slots := 0, locals := 0 } : Room) [.ref (ad 2), .int x1] σ R := by
  refine open_ (by decide) (Nat.le_of_ble_eq_true rfl) (la := [(0, .ref (ad 2)), (1, .int x1)]) rfl ?_
  intro p e s m below meth c ls C hH hl
  replace C : Cx 50 D ad κ p s m _ meth c cX5_push RX5 2 none := C
  have hx := C.1
  have hb := C.2.1
  have hown := C.2.2.2.1
  have hts := C.2.2.2.2.1
  rw [FX5_push] at h
  refine lv_aload_n hx hb dX5_push_0 rfl (lv_at hl 0 rfl) ?_
  refine g_get C hH 2 (Nat.le_of_ble_eq_true rfl) rfl fl_X5_153 (v := .int (σ.1 2 6)) rfl dX5_push_1 ?_
  refine lv_bipush (v := 21) hx hb dX5_push_4 (by decide) ?_
  refine lv_icmp_ge (tgt := 29) hx hb dX5_push_6 (by decide) (fun hq_1 => ?_) (fun hq_1 => ?_)
  · rw [if_pos hq_1] at h
    exact g_retV C hH h dX5_push_29
  · rw [if_neg hq_1] at h
    refine lv_aload_n hx hb dX5_push_9 rfl (lv_at hl 0 rfl) ?_
    refine g_get C hH 2 (Nat.le_of_ble_eq_true rfl) rfl fl_X5_26 (v := .ref (ad 18)) rfl dX5_push_10 ?_
    refine lv_aload_n hx hb dX5_push_13 rfl (lv_at hl 0 rfl) ?_
    refine g_get C hH 2 (Nat.le_of_ble_eq_true rfl) rfl fl_X5_153 (v := .int (σ.1 2 6)) rfl dX5_push_14 ?_
    refine lv_iload_n hx hb dX5_push_17 rfl (lv_at hl 1 rfl) ?_
    obtain ⟨hi_2, h⟩ := gd_ex h
    obtain ⟨σ_3, eσ_3, h⟩ := hl_ex h
    refine g_iast C hH 18 (Nat.le_of_ble_eq_true rfl) (fun _ _ => rfl) (k := ((σ.1 2 6).toNatClampNeg)) rfl (ix_in hi_2) dX5_push_18 (fun H locs hH => ?_)
    rw [← eσ_3] at hH
    refine lv_aload_n hx hb dX5_push_19 rfl (lv_at hl 0 rfl) ?_
    refine lv_dup hx hb dX5_push_20 rfl ?_
    refine g_get C hH 2 (Nat.le_of_ble_eq_true rfl) rfl fl_X5_153 (v := .int (σ_3.1 2 6)) rfl dX5_push_21 ?_
    refine lv_iconst (v := 1) hx hb dX5_push_24 (by decide) ?_
    refine lv_iadd hx hb dX5_push_25 ?_
    obtain ⟨σ_4, eσ_4, h⟩ := hl_ex h
    refine g_putI C hH 2 (Nat.le_of_ble_eq_true rfl) rfl fp_X5_153 rfl rfl (Nat.le_of_ble_eq_true rfl) rfl dX5_push_26 (fun H locs hH => ?_)
    rw [← eσ_4] at hH
    exact g_retV C hH h dX5_push_29
-- X5_putUnit
def FX5_putUnit (x1 : Int32) (σ : HS) : Option HS :=
  if x1 = (23 : Int32) then bdV (FX9_putCode (0 : Int32) ((σ.2 2 9).toInt32) σ) fun σ_4 => some σ_4 else bdV (FX9_putCode (1 : Int32) (x1 - (13 : Int32)) σ) fun σ_2 => some σ_2
set_option maxHeartbeats 4000000 in
set_option maxRecDepth 100000 in
theorem kX5_putUnit (l : Launch) (D : va_G) (ad : Nat → Nat) (κ : KC) {x1 : Int32} {σ : HS} {R : HS} (h : FX5_putUnit x1 σ = some R) : MtV l 50 ceX D ad κ yX5_putUnit cX5_putUnit 2 none ({ frames := 1, cells := 0, slots := 0, locals := 22 } : Room) [.ref (ad 2), .int x1] σ R := by
  refine open_ (by decide) (Nat.le_of_ble_eq_true rfl) (la := [(0, .ref (ad 2)), (1, .int x1)]) rfl ?_
  intro p e s m below meth c ls C hH hl
  replace C : Cx 50 D ad κ p s m _ meth c cX5_putUnit RX5 2 none := C
  have hx := C.1
  have hb := C.2.1
  have hown := C.2.2.2.1
  have hts := C.2.2.2.2.1
  rw [FX5_putUnit] at h
  refine lv_iload_n hx hb dX5_putUnit_0 rfl (lv_at hl 1 rfl) ?_
  refine lv_bipush (v := 23) hx hb dX5_putUnit_1 (by decide) ?_
  refine lv_icmp_ne (tgt := 22) hx hb dX5_putUnit_3 (by decide) (fun hq_1 => ?_) (fun hq_1 => ?_)
  · rw [if_neg hq_1] at h
    refine lv_aload_n hx hb dX5_putUnit_22 rfl (lv_at hl 0 rfl) ?_
    refine g_get C hH 2 (Nat.le_of_ble_eq_true rfl) rfl fl_X5_14 (v := .ref (ad 12)) rfl dX5_putUnit_23 ?_
    refine lv_iconst (v := 1) hx hb dX5_putUnit_26 (by decide) ?_
    refine lv_iload_n hx hb dX5_putUnit_27 rfl (lv_at hl 1 rfl) ?_
    refine lv_bipush (v := 13) hx hb dX5_putUnit_28 (by decide) ?_
    refine lv_isub hx hb dX5_putUnit_30 ?_
    obtain ⟨σ_2, hc_3, h⟩ := bdV_ex h
    refine g_cv (g_runV (rest := []) C hH hl.1 cV_X5_146 12 (Nat.le_of_ble_eq_true rfl) rfl rfl (kX9_putCode l D ad κ hc_3) ⟨rfl, rfl⟩ ⟨(Nat.le_of_ble_eq_true rfl), (Nat.le_of_ble_eq_true rfl)⟩ rfl rfl (Nat.le_of_ble_eq_true rfl) dX5_putUnit_31 z00) hH (fun H locs hH => ?_)
    exact g_retV C hH h dX5_putUnit_34
  · rw [if_pos hq_1] at h
    refine lv_aload_n hx hb dX5_putUnit_6 rfl (lv_at hl 0 rfl) ?_
    refine g_get C hH 2 (Nat.le_of_ble_eq_true rfl) rfl fl_X5_14 (v := .ref (ad 12)) rfl dX5_putUnit_7 ?_
    refine lv_iconst (v := 0) hx hb dX5_putUnit_10 (by decide) ?_
    refine lv_aload_n hx hb dX5_putUnit_11 rfl (lv_at hl 0 rfl) ?_
    refine g_get C hH 2 (Nat.le_of_ble_eq_true rfl) rfl fl_X5_101 (v := .long (σ.2 2 9)) rfl dX5_putUnit_12 ?_
    refine lv_l2i (v := ((σ.2 2 9).toInt32)) hx hb dX5_putUnit_15 rfl ?_
    obtain ⟨σ_4, hc_5, h⟩ := bdV_ex h
    refine g_cv (g_runV (rest := []) C hH hl.1 cV_X5_146 12 (Nat.le_of_ble_eq_true rfl) rfl rfl (kX9_putCode l D ad κ hc_5) ⟨rfl, rfl⟩ ⟨(Nat.le_of_ble_eq_true rfl), (Nat.le_of_ble_eq_true rfl)⟩ rfl rfl (Nat.le_of_ble_eq_true rfl) dX5_putUnit_16 z00) hH (fun H locs hH => ?_)
    refine lv_goto (tgt := 34) hx hb dX5_putUnit_19 (by decide) ?_
    exact g_retV C hH h dX5_putUnit_34
-- X5_readSum
def FX5_readSum_46  (x1 : Int32) (x2 : Int32) (x3 : Int32) (σ : HS) : Option (Int32 × HS) :=
  bdI (FX5_fail (1 : Int32) σ) fun r_1 σ_2 => gd (isB r_1) (some (r_1, σ_2))
def FX5_readSum_80 (k14 : Int32 → Int32 → HS → Option (Int32 × HS)) (x1 : Int32) (x2 : Int32) (x3 : Int32) (σ : HS) : Option (Int32 × HS) :=
  bdI (FX5_take x3 σ) fun r_5 σ_6 => if r_5 = 0 then some ((0 : Int32), σ_6) else if x3 = (40 : Int32) then hl_ (pI σ_6 2 7 ((σ_6.1 2 7) + (1 : Int32))) fun σ_28 => bdV (FX5_push x3 σ_28) fun σ_29 => k14 x1 (x2 + 1) σ_29 else if x3 = (41 : Int32) then hl_ (pI σ_6 2 7 ((σ_6.1 2 7) - (1 : Int32))) fun σ_24 => bdV (FX5_putPending (1 : Int32) σ_24) fun σ_25 => hl_ (pI σ_25 2 6 (maxI (0 : Int32) ((σ_25.1 2 6) - (1 : Int32)))) fun σ_27 => k14 x1 (x2 + 1) σ_27 else bdI (FX5_rankOf x3 σ_6) fun r_11 σ_12 => if r_11 ≤ 0 then bdV (FX5_putUnit x3 σ_12) fun σ_15 => k14 (0 : Int32) (x2 + 1) σ_15 else bdI (FX5_rankOf x3 σ_12) fun r_17 σ_18 => bdV (FX5_putPending r_17 σ_18) fun σ_20 => bdV (FX5_push x3 σ_20) fun σ_22 => k14 (1 : Int32) (x2 + 1) σ_22
def FX5_readSum_14  : Nat → Int32 → Int32 → HS → Option (Int32 × HS)
  | 0, _, _, _ => none
  | f + 1, x1, x2, σ => if (400 : Int32) < x2 then bdI (FX5_fail (2 : Int32) σ) fun r_32 σ_33 => gd (isB r_32) (some (r_32, σ_33)) else bdI (FX5_kindNow σ) fun r_36 σ_37 => bdI (FX5_goesOnSum r_36 x1 σ_37) fun r_39 σ_40 => if r_39 = 0 then if x1 = 0 then if (σ_40.1 2 7) ≤ 0 then bdV (FX5_putPending (1 : Int32) σ_40) fun σ_51 => some ((1 : Int32), σ_51) else FX5_readSum_46 x1 x2 r_36 σ_40 else FX5_readSum_46 x1 x2 r_36 σ_40 else if r_36 = (40 : Int32) then if (σ_40.1 2 7) < (6 : Int32) then FX5_readSum_80 (FX5_readSum_14  f) x1 x2 r_36 σ_40 else bdI (FX5_fail (2 : Int32) σ_40) fun r_45 σ_46 => gd (isB r_45) (some (r_45, σ_46)) else FX5_readSum_80 (FX5_readSum_14  f) x1 x2 r_36 σ_40
def FX5_readSum (σ : HS) : Option (Int32 × HS) :=
  hl_ (pI σ 2 6 (0 : Int32)) fun σ_53 => hl_ (pI σ_53 2 7 (0 : Int32)) fun σ_54 => FX5_readSum_14 fu (1 : Int32) (0 : Int32) σ_54
set_option maxHeartbeats 4000000 in
set_option maxRecDepth 100000 in
theorem wX5_readSum_46 (C : Cx 50 D ad κ p s m args meth c cX5_readSum RX5 4 (some .boolean)) {R : (Int32 × HS)} : ∀ (x1 : Int32) (x2 : Int32) (x3 : Int32) (σ : HS) (H : Heap) (locs : List Loc) (ls : Array Slot), FX5_readSum_46  x1 x2 x3 σ = some R → Hd 50 ceX D ad κ s σ H locs → lv_has ls 4 [(0, .ref (ad 2)), (1, .int x1), (2, .int x2), (3, .int x3)] → W p l e ({ frames := 2, cells := 0, slots := 0, locals := 43 } : Room) s m args below meth c H locs 0 0 (MQ below (QI 50 ceX D ad κ R) args s 0 0 (AX 50 ad)) (F0 m 46 ls []) := by
  have hx := C.1
  have hb := C.2.1
  have hown := C.2.2.2.1
  have hts := C.2.2.2.2.1
  intro x1 x2 x3 σ H locs ls h hH hl
  rw [FX5_readSum_46] at h
  refine lv_aload_n hx hb dX5_readSum_46 rfl (lv_at hl 0 rfl) ?_
  refine lv_iconst (v := 1) hx hb dX5_readSum_47 (by decide) ?_
  obtain ⟨r_1, σ_2, hc_3, h⟩ := bdI_ex h
  refine g_ci (g_runV (rest := []) C hH hl.1 cV_X5_86 2 (Nat.le_of_ble_eq_true rfl) rfl rfl (kX5_fail l D ad κ hc_3) ⟨rfl, rfl⟩ ⟨(Nat.le_of_ble_eq_true rfl), (Nat.le_of_ble_eq_true rfl)⟩ rfl rfl (Nat.le_of_ble_eq_true rfl) dX5_readSum_48 z00) hH (fun H locs hH => ?_)
  obtain ⟨hb_4, h⟩ := gd_ex h
  exact g_retZ C hH hb_4 h dX5_readSum_51
set_option maxHeartbeats 4000000 in
set_option maxRecDepth 100000 in
theorem wX5_readSum_80 (C : Cx 50 D ad κ p s m args meth c cX5_readSum RX5 4 (some .boolean)) {R : (Int32 × HS)} {k14 : Int32 → Int32 → HS → Option (Int32 × HS)} (K14 : ∀ (x1 : Int32) (x2 : Int32) (σ : HS) (H : Heap) (locs : List Loc) (ls : Array Slot), k14 x1 x2 σ = some R → Hd 50 ceX D ad κ s σ H locs → lv_has ls 4 [(0, .ref (ad 2)), (1, .int x1), (2, .int x2)] → W p l e ({ frames := 2, cells := 0, slots := 0, locals := 43 } : Room) s m args below meth c H locs 0 0 (MQ below (QI 50 ceX D ad κ R) args s 0 0 (AX 50 ad)) (F0 m 14 ls [])) : ∀ (x1 : Int32) (x2 : Int32) (x3 : Int32) (σ : HS) (H : Heap) (locs : List Loc) (ls : Array Slot), FX5_readSum_80 k14 x1 x2 x3 σ = some R → Hd 50 ceX D ad κ s σ H locs → lv_has ls 4 [(0, .ref (ad 2)), (1, .int x1), (2, .int x2), (3, .int x3)] → W p l e ({ frames := 2, cells := 0, slots := 0, locals := 43 } : Room) s m args below meth c H locs 0 0 (MQ below (QI 50 ceX D ad κ R) args s 0 0 (AX 50 ad)) (F0 m 80 ls []) := by
  have hx := C.1
  have hb := C.2.1
  have hown := C.2.2.2.1
  have hts := C.2.2.2.2.1
  intro x1 x2 x3 σ H locs ls h hH hl
  rw [FX5_readSum_80] at h
  refine lv_aload_n hx hb dX5_readSum_80 rfl (lv_at hl 0 rfl) ?_
  refine lv_iload_n hx hb dX5_readSum_81 rfl (lv_at hl 3 rfl) ?_
  obtain ⟨r_5, σ_6, hc_7, h⟩ := bdI_ex h
  refine g_ci (g_runV (rest := []) C hH hl.1 cV_X5_92 2 (Nat.le_of_ble_eq_true rfl) rfl rfl (kX5_take l D ad κ hc_7) ⟨rfl, rfl⟩ ⟨(Nat.le_of_ble_eq_true rfl), (Nat.le_of_ble_eq_true rfl)⟩ rfl rfl (Nat.le_of_ble_eq_true rfl) dX5_readSum_82 z00) hH (fun H locs hH => ?_)
  refine lv_if_ne (tgt := 90) hx hb dX5_readSum_85 (by decide) (fun hq_8 => ?_) (fun hq_8 => ?_)
  · rw [if_neg hq_8] at h
    refine lv_iload_n hx hb dX5_readSum_90 rfl (lv_at hl 3 rfl) ?_
    refine lv_bipush (v := 40) hx hb dX5_readSum_91 (by decide) ?_
    refine lv_icmp_ne (tgt := 114) hx hb dX5_readSum_93 (by decide) (fun hq_9 => ?_) (fun hq_9 => ?_)
    · rw [if_neg hq_9] at h
      refine lv_iload_n hx hb dX5_readSum_114 rfl (lv_at hl 3 rfl) ?_
      refine lv_bipush (v := 41) hx hb dX5_readSum_115 (by decide) ?_
      refine lv_icmp_ne (tgt := 152) hx hb dX5_readSum_117 (by decide) (fun hq_10 => ?_) (fun hq_10 => ?_)
      · rw [if_neg hq_10] at h
        refine lv_iload_n hx hb dX5_readSum_152 rfl (lv_at hl 3 rfl) ?_
        obtain ⟨r_11, σ_12, hc_13, h⟩ := bdI_ex h
        refine g_ci (g_runS (rest := []) C hH hl.1 cS_X5_175 (kX5_rankOf l D ad κ hc_13) ⟨rfl, rfl⟩ ⟨(Nat.le_of_ble_eq_true rfl), (Nat.le_of_ble_eq_true rfl)⟩ rfl rfl (Nat.le_of_ble_eq_true rfl) dX5_readSum_153 z00) hH (fun H locs hH => ?_)
        refine lv_if_le (tgt := 177) hx hb dX5_readSum_156 (by decide) (fun hq_14 => ?_) (fun hq_14 => ?_)
        · rw [if_pos hq_14] at h
          refine lv_aload_n hx hb dX5_readSum_177 rfl (lv_at hl 0 rfl) ?_
          refine lv_iload_n hx hb dX5_readSum_178 rfl (lv_at hl 3 rfl) ?_
          obtain ⟨σ_15, hc_16, h⟩ := bdV_ex h
          refine g_cv (g_runV (rest := []) C hH hl.1 cV_X5_179 2 (Nat.le_of_ble_eq_true rfl) rfl rfl (kX5_putUnit l D ad κ hc_16) ⟨rfl, rfl⟩ ⟨(Nat.le_of_ble_eq_true rfl), (Nat.le_of_ble_eq_true rfl)⟩ rfl rfl (Nat.le_of_ble_eq_true rfl) dX5_readSum_179 z00) hH (fun H locs hH => ?_)
          refine lv_iconst (v := 0) hx hb dX5_readSum_182 (by decide) ?_
          refine lv_istore_n (lv' := [(1, .int (0 : Int32)), (0, .ref (ad 2)), (2, .int x2), (3, .int x3)]) hx hb dX5_readSum_183 rfl hl (by decide) rfl (fun ls hl => ?_)
          refine lv_iinc (v := (x2 + 1)) (lv' := [(2, .int (x2 + 1)), (1, .int (0 : Int32)), (0, .ref (ad 2)), (3, .int x3)]) hx hb dX5_readSum_184 hl (k := 2) rfl rfl (by decide) rfl (fun ls hl => ?_)
          refine lv_goto (tgt := 14) hx hb dX5_readSum_187 (by decide) ?_
          exact K14 _ _ _ _ _ _ h hH (lv_sub hl [2, 1, 0] rfl)
        · rw [if_neg hq_14] at h
          refine lv_aload_n hx hb dX5_readSum_159 rfl (lv_at hl 0 rfl) ?_
          refine lv_iload_n hx hb dX5_readSum_160 rfl (lv_at hl 3 rfl) ?_
          obtain ⟨r_17, σ_18, hc_19, h⟩ := bdI_ex h
          refine g_ci (g_runS (rest := [.ref (ad 2)]) C hH hl.1 cS_X5_175 (kX5_rankOf l D ad κ hc_19) ⟨rfl, rfl⟩ ⟨(Nat.le_of_ble_eq_true rfl), (Nat.le_of_ble_eq_true rfl)⟩ rfl rfl (Nat.le_of_ble_eq_true rfl) dX5_readSum_161 z00) hH (fun H locs hH => ?_)
          obtain ⟨σ_20, hc_21, h⟩ := bdV_ex h
          refine g_cv (g_runV (rest := []) C hH hl.1 cV_X5_163 2 (Nat.le_of_ble_eq_true rfl) rfl rfl (kX5_putPending l D ad κ hc_21) ⟨rfl, rfl⟩ ⟨(Nat.le_of_ble_eq_true rfl), (Nat.le_of_ble_eq_true rfl)⟩ rfl rfl (Nat.le_of_ble_eq_true rfl) dX5_readSum_164 z00) hH (fun H locs hH => ?_)
          refine lv_aload_n hx hb dX5_readSum_167 rfl (lv_at hl 0 rfl) ?_
          refine lv_iload_n hx hb dX5_readSum_168 rfl (lv_at hl 3 rfl) ?_
          obtain ⟨σ_22, hc_23, h⟩ := bdV_ex h
          refine g_cv (g_runV (rest := []) C hH hl.1 cV_X5_166 2 (Nat.le_of_ble_eq_true rfl) rfl rfl (kX5_push l D ad κ hc_23) ⟨rfl, rfl⟩ ⟨(Nat.le_of_ble_eq_true rfl), (Nat.le_of_ble_eq_true rfl)⟩ rfl rfl (Nat.le_of_ble_eq_true rfl) dX5_readSum_169 z00) hH (fun H locs hH => ?_)
          refine lv_iconst (v := 1) hx hb dX5_readSum_172 (by decide) ?_
          refine lv_istore_n (lv' := [(1, .int (1 : Int32)), (0, .ref (ad 2)), (2, .int x2), (3, .int x3)]) hx hb dX5_readSum_173 rfl hl (by decide) rfl (fun ls hl => ?_)
          refine lv_goto (tgt := 184) hx hb dX5_readSum_174 (by decide) ?_
          refine lv_iinc (v := (x2 + 1)) (lv' := [(2, .int (x2 + 1)), (1, .int (1 : Int32)), (0, .ref (ad 2)), (3, .int x3)]) hx hb dX5_readSum_184 hl (k := 2) rfl rfl (by decide) rfl (fun ls hl => ?_)
          refine lv_goto (tgt := 14) hx hb dX5_readSum_187 (by decide) ?_
          exact K14 _ _ _ _ _ _ h hH (lv_sub hl [2, 1, 0] rfl)
      · rw [if_pos hq_10] at h
        refine lv_aload_n hx hb dX5_readSum_120 rfl (lv_at hl 0 rfl) ?_
        refine lv_dup hx hb dX5_readSum_121 rfl ?_
        refine g_get C hH 2 (Nat.le_of_ble_eq_true rfl) rfl fl_X5_156 (v := .int (σ_6.1 2 7)) rfl dX5_readSum_122 ?_
        refine lv_iconst (v := 1) hx hb dX5_readSum_125 (by decide) ?_
        refine lv_isub hx hb dX5_readSum_126 ?_
        obtain ⟨σ_24, eσ_24, h⟩ := hl_ex h
        refine g_putI C hH 2 (Nat.le_of_ble_eq_true rfl) rfl fp_X5_156 rfl rfl (Nat.le_of_ble_eq_true rfl) rfl dX5_readSum_127 (fun H locs hH => ?_)
        rw [← eσ_24] at hH
        refine lv_aload_n hx hb dX5_readSum_130 rfl (lv_at hl 0 rfl) ?_
        refine lv_iconst (v := 1) hx hb dX5_readSum_131 (by decide) ?_
        obtain ⟨σ_25, hc_26, h⟩ := bdV_ex h
        refine g_cv (g_runV (rest := []) C hH hl.1 cV_X5_163 2 (Nat.le_of_ble_eq_true rfl) rfl rfl (kX5_putPending l D ad κ hc_26) ⟨rfl, rfl⟩ ⟨(Nat.le_of_ble_eq_true rfl), (Nat.le_of_ble_eq_true rfl)⟩ rfl rfl (Nat.le_of_ble_eq_true rfl) dX5_readSum_132 z00) hH (fun H locs hH => ?_)
        refine lv_aload_n hx hb dX5_readSum_135 rfl (lv_at hl 0 rfl) ?_
        refine lv_iconst (v := 0) hx hb dX5_readSum_136 (by decide) ?_
        refine lv_aload_n hx hb dX5_readSum_137 rfl (lv_at hl 0 rfl) ?_
        refine g_get C hH 2 (Nat.le_of_ble_eq_true rfl) rfl fl_X5_153 (v := .int (σ_25.1 2 6)) rfl dX5_readSum_138 ?_
        refine lv_iconst (v := 1) hx hb dX5_readSum_141 (by decide) ?_
        refine lv_isub hx hb dX5_readSum_142 ?_
        refine g_max C hl.1 mmax_X5_169 (Nat.le_of_ble_eq_true rfl) (Nat.le_of_ble_eq_true rfl) z00 dX5_readSum_143 ?_
        obtain ⟨σ_27, eσ_27, h⟩ := hl_ex h
        refine g_putI C hH 2 (Nat.le_of_ble_eq_true rfl) rfl fp_X5_153 rfl rfl (Nat.le_of_ble_eq_true rfl) rfl dX5_readSum_146 (fun H locs hH => ?_)
        rw [← eσ_27] at hH
        refine lv_goto (tgt := 184) hx hb dX5_readSum_149 (by decide) ?_
        refine lv_iinc (v := (x2 + 1)) (lv' := [(2, .int (x2 + 1)), (0, .ref (ad 2)), (1, .int x1), (3, .int x3)]) hx hb dX5_readSum_184 hl (k := 2) rfl rfl (by decide) rfl (fun ls hl => ?_)
        refine lv_goto (tgt := 14) hx hb dX5_readSum_187 (by decide) ?_
        exact K14 _ _ _ _ _ _ h hH (lv_sub hl [1, 2, 0] rfl)
    · rw [if_pos hq_9] at h
      refine lv_aload_n hx hb dX5_readSum_96 rfl (lv_at hl 0 rfl) ?_
      refine lv_dup hx hb dX5_readSum_97 rfl ?_
      refine g_get C hH 2 (Nat.le_of_ble_eq_true rfl) rfl fl_X5_156 (v := .int (σ_6.1 2 7)) rfl dX5_readSum_98 ?_
      refine lv_iconst (v := 1) hx hb dX5_readSum_101 (by decide) ?_
      refine lv_iadd hx hb dX5_readSum_102 ?_
      obtain ⟨σ_28, eσ_28, h⟩ := hl_ex h
      refine g_putI C hH 2 (Nat.le_of_ble_eq_true rfl) rfl fp_X5_156 rfl rfl (Nat.le_of_ble_eq_true rfl) rfl dX5_readSum_103 (fun H locs hH => ?_)
      rw [← eσ_28] at hH
      refine lv_aload_n hx hb dX5_readSum_106 rfl (lv_at hl 0 rfl) ?_
      refine lv_iload_n hx hb dX5_readSum_107 rfl (lv_at hl 3 rfl) ?_
      obtain ⟨σ_29, hc_30, h⟩ := bdV_ex h
      refine g_cv (g_runV (rest := []) C hH hl.1 cV_X5_166 2 (Nat.le_of_ble_eq_true rfl) rfl rfl (kX5_push l D ad κ hc_30) ⟨rfl, rfl⟩ ⟨(Nat.le_of_ble_eq_true rfl), (Nat.le_of_ble_eq_true rfl)⟩ rfl rfl (Nat.le_of_ble_eq_true rfl) dX5_readSum_108 z00) hH (fun H locs hH => ?_)
      refine lv_goto (tgt := 184) hx hb dX5_readSum_111 (by decide) ?_
      refine lv_iinc (v := (x2 + 1)) (lv' := [(2, .int (x2 + 1)), (0, .ref (ad 2)), (1, .int x1), (3, .int x3)]) hx hb dX5_readSum_184 hl (k := 2) rfl rfl (by decide) rfl (fun ls hl => ?_)
      refine lv_goto (tgt := 14) hx hb dX5_readSum_187 (by decide) ?_
      exact K14 _ _ _ _ _ _ h hH (lv_sub hl [1, 2, 0] rfl)
  · rw [if_pos hq_8] at h
    refine lv_iconst (v := 0) hx hb dX5_readSum_88 (by decide) ?_
    exact g_retZ C hH rfl h dX5_readSum_89
set_option maxHeartbeats 4000000 in
set_option maxRecDepth 100000 in
theorem wX5_readSum_14 (C : Cx 50 D ad κ p s m args meth c cX5_readSum RX5 4 (some .boolean)) {R : (Int32 × HS)} : ∀ (f : Nat) (x1 : Int32) (x2 : Int32) (σ : HS) (H : Heap) (locs : List Loc) (ls : Array Slot), FX5_readSum_14  f x1 x2 σ = some R → Hd 50 ceX D ad κ s σ H locs → lv_has ls 4 [(0, .ref (ad 2)), (1, .int x1), (2, .int x2)] → W p l e ({ frames := 2, cells := 0, slots := 0, locals := 43 } : Room) s m args below meth c H locs 0 0 (MQ below (QI 50 ceX D ad κ R) args s 0 0 (AX 50 ad)) (F0 m 14 ls []) := by
  have hx := C.1
  have hb := C.2.1
  have hown := C.2.2.2.1
  have hts := C.2.2.2.2.1
  intro f
  induction f with
  | zero =>
    intro x1 x2 σ H locs ls h hH hl
    cases h
  | succ f ih =>
    intro x1 x2 σ H locs ls h hH hl
    rw [FX5_readSum_14] at h
    refine lv_iload_n hx hb dX5_readSum_14 rfl (lv_at hl 2 rfl) ?_
    refine lv_sipush (v := 400) hx hb dX5_readSum_15 (by decide) ?_
    refine lv_icmp_gt (tgt := 190) hx hb dX5_readSum_18 (by decide) (fun hq_31 => ?_) (fun hq_31 => ?_)
    · rw [if_pos hq_31] at h
      refine lv_aload_n hx hb dX5_readSum_190 rfl (lv_at hl 0 rfl) ?_
      refine lv_iconst (v := 2) hx hb dX5_readSum_191 (by decide) ?_
      obtain ⟨r_32, σ_33, hc_34, h⟩ := bdI_ex h
      refine g_ci (g_runV (rest := []) C hH hl.1 cV_X5_86 2 (Nat.le_of_ble_eq_true rfl) rfl rfl (kX5_fail l D ad κ hc_34) ⟨rfl, rfl⟩ ⟨(Nat.le_of_ble_eq_true rfl), (Nat.le_of_ble_eq_true rfl)⟩ rfl rfl (Nat.le_of_ble_eq_true rfl) dX5_readSum_192 z00) hH (fun H locs hH => ?_)
      obtain ⟨hb_35, h⟩ := gd_ex h
      exact g_retZ C hH hb_35 h dX5_readSum_195
    · rw [if_neg hq_31] at h
      refine lv_aload_n hx hb dX5_readSum_21 rfl (lv_at hl 0 rfl) ?_
      obtain ⟨r_36, σ_37, hc_38, h⟩ := bdI_ex h
      refine g_ci (g_runV (rest := []) C hH hl.1 cV_X5_60 2 (Nat.le_of_ble_eq_true rfl) rfl rfl (kX5_kindNow l D ad κ hc_38) ⟨rfl, rfl⟩ ⟨(Nat.le_of_ble_eq_true rfl), (Nat.le_of_ble_eq_true rfl)⟩ rfl rfl (Nat.le_of_ble_eq_true rfl) dX5_readSum_22 z00) hH (fun H locs hH => ?_)
      refine lv_istore_n (lv' := [(3, .int r_36), (0, .ref (ad 2)), (1, .int x1), (2, .int x2)]) hx hb dX5_readSum_25 rfl hl (by decide) rfl (fun ls hl => ?_)
      refine lv_aload_n hx hb dX5_readSum_26 rfl (lv_at hl 1 rfl) ?_
      refine lv_iload_n hx hb dX5_readSum_27 rfl (lv_at hl 0 rfl) ?_
      refine lv_iload_n hx hb dX5_readSum_28 rfl (lv_at hl 2 rfl) ?_
      obtain ⟨r_39, σ_40, hc_41, h⟩ := bdI_ex h
      refine g_ci (g_runV (rest := []) C hH hl.1 cV_X5_159 2 (Nat.le_of_ble_eq_true rfl) rfl rfl (kX5_goesOnSum l D ad κ hc_41) ⟨rfl, rfl⟩ ⟨(Nat.le_of_ble_eq_true rfl), (Nat.le_of_ble_eq_true rfl)⟩ rfl rfl (Nat.le_of_ble_eq_true rfl) dX5_readSum_29 z00) hH (fun H locs hH => ?_)
      refine lv_if_ne (tgt := 59) hx hb dX5_readSum_32 (by decide) (fun hq_42 => ?_) (fun hq_42 => ?_)
      · rw [if_neg hq_42] at h
        refine lv_iload_n hx hb dX5_readSum_59 rfl (lv_at hl 0 rfl) ?_
        refine lv_bipush (v := 40) hx hb dX5_readSum_60 (by decide) ?_
        refine lv_icmp_ne (tgt := 80) hx hb dX5_readSum_62 (by decide) (fun hq_43 => ?_) (fun hq_43 => ?_)
        · rw [if_neg hq_43] at h
          exact wX5_readSum_80 C ih  _ _ _ _ _ _ _ h hH (lv_sub hl [1, 2, 3, 0] rfl)
        · rw [if_pos hq_43] at h
          refine lv_aload_n hx hb dX5_readSum_65 rfl (lv_at hl 1 rfl) ?_
          refine g_get C hH 2 (Nat.le_of_ble_eq_true rfl) rfl fl_X5_156 (v := .int (σ_40.1 2 7)) rfl dX5_readSum_66 ?_
          refine lv_bipush (v := 6) hx hb dX5_readSum_69 (by decide) ?_
          refine lv_icmp_lt (tgt := 80) hx hb dX5_readSum_71 (by decide) (fun hq_44 => ?_) (fun hq_44 => ?_)
          · rw [if_pos hq_44] at h
            exact wX5_readSum_80 C ih  _ _ _ _ _ _ _ h hH (lv_sub hl [1, 2, 3, 0] rfl)
          · rw [if_neg hq_44] at h
            refine lv_aload_n hx hb dX5_readSum_74 rfl (lv_at hl 1 rfl) ?_
            refine lv_iconst (v := 2) hx hb dX5_readSum_75 (by decide) ?_
            obtain ⟨r_45, σ_46, hc_47, h⟩ := bdI_ex h
            refine g_ci (g_runV (rest := []) C hH hl.1 cV_X5_86 2 (Nat.le_of_ble_eq_true rfl) rfl rfl (kX5_fail l D ad κ hc_47) ⟨rfl, rfl⟩ ⟨(Nat.le_of_ble_eq_true rfl), (Nat.le_of_ble_eq_true rfl)⟩ rfl rfl (Nat.le_of_ble_eq_true rfl) dX5_readSum_76 z00) hH (fun H locs hH => ?_)
            obtain ⟨hb_48, h⟩ := gd_ex h
            exact g_retZ C hH hb_48 h dX5_readSum_79
      · rw [if_pos hq_42] at h
        refine lv_iload_n hx hb dX5_readSum_35 rfl (lv_at hl 2 rfl) ?_
        refine lv_if_ne (tgt := 46) hx hb dX5_readSum_36 (by decide) (fun hq_49 => ?_) (fun hq_49 => ?_)
        · rw [if_neg hq_49] at h
          exact wX5_readSum_46 C  _ _ _ _ _ _ _ h hH (lv_sub hl [1, 2, 3, 0] rfl)
        · rw [if_pos hq_49] at h
          refine lv_aload_n hx hb dX5_readSum_39 rfl (lv_at hl 1 rfl) ?_
          refine g_get C hH 2 (Nat.le_of_ble_eq_true rfl) rfl fl_X5_156 (v := .int (σ_40.1 2 7)) rfl dX5_readSum_40 ?_
          refine lv_if_le (tgt := 52) hx hb dX5_readSum_43 (by decide) (fun hq_50 => ?_) (fun hq_50 => ?_)
          · rw [if_pos hq_50] at h
            refine lv_aload_n hx hb dX5_readSum_52 rfl (lv_at hl 1 rfl) ?_
            refine lv_iconst (v := 1) hx hb dX5_readSum_53 (by decide) ?_
            obtain ⟨σ_51, hc_52, h⟩ := bdV_ex h
            refine g_cv (g_runV (rest := []) C hH hl.1 cV_X5_163 2 (Nat.le_of_ble_eq_true rfl) rfl rfl (kX5_putPending l D ad κ hc_52) ⟨rfl, rfl⟩ ⟨(Nat.le_of_ble_eq_true rfl), (Nat.le_of_ble_eq_true rfl)⟩ rfl rfl (Nat.le_of_ble_eq_true rfl) dX5_readSum_54 z00) hH (fun H locs hH => ?_)
            refine lv_iconst (v := 1) hx hb dX5_readSum_57 (by decide) ?_
            exact g_retZ C hH rfl h dX5_readSum_58
          · rw [if_neg hq_50] at h
            exact wX5_readSum_46 C  _ _ _ _ _ _ _ h hH (lv_sub hl [1, 2, 3, 0] rfl)
set_option maxHeartbeats 4000000 in
set_option maxRecDepth 100000 in
theorem kX5_readSum (l : Launch) (D : va_G) (ad : Nat → Nat) (κ : KC) {σ : HS} {R : (Int32 × HS)} (h : FX5_readSum σ = some R) : MtI l 50 ceX D ad κ yX5_readSum cX5_readSum 4 (some .boolean) ({ frames := 2, cells := 0, slots := 0, locals := 43 } : Room) [.ref (ad 2)] σ R := by
  refine open_ (by decide) (Nat.le_of_ble_eq_true rfl) (la := [(0, .ref (ad 2))]) rfl ?_
  intro p e s m below meth c ls C hH hl
  replace C : Cx 50 D ad κ p s m _ meth c cX5_readSum RX5 4 (some .boolean) := C
  have hx := C.1
  have hb := C.2.1
  have hown := C.2.2.2.1
  have hts := C.2.2.2.2.1
  rw [FX5_readSum] at h
  refine lv_aload_n hx hb dX5_readSum_0 rfl (lv_at hl 0 rfl) ?_
  refine lv_iconst (v := 0) hx hb dX5_readSum_1 (by decide) ?_
  obtain ⟨σ_53, eσ_53, h⟩ := hl_ex h
  refine g_putI C hH 2 (Nat.le_of_ble_eq_true rfl) rfl fp_X5_153 rfl rfl (Nat.le_of_ble_eq_true rfl) rfl dX5_readSum_2 (fun H locs hH => ?_)
  rw [← eσ_53] at hH
  refine lv_aload_n hx hb dX5_readSum_5 rfl (lv_at hl 0 rfl) ?_
  refine lv_iconst (v := 0) hx hb dX5_readSum_6 (by decide) ?_
  obtain ⟨σ_54, eσ_54, h⟩ := hl_ex h
  refine g_putI C hH 2 (Nat.le_of_ble_eq_true rfl) rfl fp_X5_156 rfl rfl (Nat.le_of_ble_eq_true rfl) rfl dX5_readSum_7 (fun H locs hH => ?_)
  rw [← eσ_54] at hH
  refine lv_iconst (v := 1) hx hb dX5_readSum_10 (by decide) ?_
  refine lv_istore_n (lv' := [(1, .int (1 : Int32)), (0, .ref (ad 2))]) hx hb dX5_readSum_11 rfl hl (by decide) rfl (fun ls hl => ?_)
  refine lv_iconst (v := 0) hx hb dX5_readSum_12 (by decide) ?_
  refine lv_istore_n (lv' := [(2, .int (0 : Int32)), (1, .int (1 : Int32)), (0, .ref (ad 2))]) hx hb dX5_readSum_13 rfl hl (by decide) rfl (fun ls hl => ?_)
  exact wX5_readSum_14 C _ _ _ _ _ _ _ h hH (lv_sub hl [2, 1, 0] rfl)
-- X5_readLaw
def FX5_readLaw_158  (x1 : Int32) (x2 : Int32) (σ : HS) : Option (Int32 × HS) :=
  bdI (FX5_readSum σ) fun r_1 σ_2 => if r_1 = 0 then some ((0 : Int32), σ_2) else bdI (FX5_take (59 : Int32) σ_2) fun r_5 σ_6 => if r_5 = 0 then some ((0 : Int32), σ_6) else bdV (FX9_putCode (3 : Int32) (0 : Int32) σ_6) fun σ_9 => some ((1 : Int32), σ_9)
def FX5_readLaw_32  : Nat → Int32 → Int32 → HS → Option (Int32 × HS)
  | 0, _, _, _ => none
  | f + 1, x1, x2, σ => if (4 : Int32) < x2 then FX5_readLaw_158 x1 x2 σ else bdI (FX5_kindNow σ) fun r_12 σ_13 => if r_12 = (10 : Int32) then if x2 = (4 : Int32) then bdI (FX5_fail (2 : Int32) σ_13) fun r_52 σ_53 => gd (isB r_52) (some (r_52, σ_53)) else bdI (FX5_take (10 : Int32) σ_13) fun r_17 σ_18 => if r_17 = 0 then some ((0 : Int32), σ_18) else bdI (FX5_readSum σ_18) fun r_21 σ_22 => if r_21 = 0 then some ((0 : Int32), σ_22) else bdI (FX5_take (60 : Int32) σ_22) fun r_25 σ_26 => if r_25 = 0 then some ((0 : Int32), σ_26) else bdI (FX5_readSum σ_26) fun r_29 σ_30 => if r_29 = 0 then some ((0 : Int32), σ_30) else bdI (FX5_take (11 : Int32) σ_30) fun r_33 σ_34 => if r_33 = 0 then some ((0 : Int32), σ_34) else hl_ (σ_34.1 12 5) fun x3_37 => bdV (FX9_putCode (2 : Int32) (0 : Int32) σ_34) fun σ_38 => bdI (FX5_readSum σ_38) fun r_40 σ_41 => if r_40 = 0 then some ((0 : Int32), σ_41) else bdI (FX5_take (12 : Int32) σ_41) fun r_44 σ_45 => if r_44 = 0 then some ((0 : Int32), σ_45) else bdV (FX9_putCode (3 : Int32) (0 : Int32) σ_45) fun σ_48 => bdV (FX9_aimHere x3_37 σ_48) fun σ_50 => FX5_readLaw_32  f x1 (x2 + 1) σ_50 else FX5_readLaw_158 x1 x2 σ_13
def FX5_readLaw (x1 : Int32) (σ : HS) : Option (Int32 × HS) :=
  bdI (FX5_kindNow σ) fun r_56 σ_57 => bdI (FX5_take r_56 σ_57) fun r_59 σ_60 => if r_59 = 0 then some ((0 : Int32), σ_60) else bdI (FX5_take (61 : Int32) σ_60) fun r_63 σ_64 => if r_63 = 0 then some ((0 : Int32), σ_64) else bdV (FX9_startLaw x1 σ_64) fun σ_67 => FX5_readLaw_32 fu x1 (0 : Int32) σ_67
set_option maxHeartbeats 4000000 in
set_option maxRecDepth 100000 in
theorem wX5_readLaw_158 (C : Cx 50 D ad κ p s m args meth c cX5_readLaw RX5 4 (some .boolean)) {R : (Int32 × HS)} : ∀ (x1 : Int32) (x2 : Int32) (σ : HS) (H : Heap) (locs : List Loc) (ls : Array Slot), FX5_readLaw_158  x1 x2 σ = some R → Hd 50 ceX D ad κ s σ H locs → lv_has ls 4 [(0, .ref (ad 2)), (1, .int x1), (2, .int x2)] → W p l e ({ frames := 3, cells := 0, slots := 0, locals := 66 } : Room) s m args below meth c H locs 0 0 (MQ below (QI 50 ceX D ad κ R) args s 0 0 (AX 50 ad)) (F0 m 158 ls []) := by
  have hx := C.1
  have hb := C.2.1
  have hown := C.2.2.2.1
  have hts := C.2.2.2.2.1
  intro x1 x2 σ H locs ls h hH hl
  rw [FX5_readLaw_158] at h
  refine lv_aload_n hx hb dX5_readLaw_158 rfl (lv_at hl 0 rfl) ?_
  obtain ⟨r_1, σ_2, hc_3, h⟩ := bdI_ex h
  refine g_ci (g_runV (rest := []) C hH hl.1 cV_X5_140 2 (Nat.le_of_ble_eq_true rfl) rfl rfl (kX5_readSum l D ad κ hc_3) ⟨rfl, rfl⟩ ⟨(Nat.le_of_ble_eq_true rfl), (Nat.le_of_ble_eq_true rfl)⟩ rfl rfl (Nat.le_of_ble_eq_true rfl) dX5_readLaw_159 z00) hH (fun H locs hH => ?_)
  refine lv_if_eq (tgt := 174) hx hb dX5_readLaw_162 (by decide) (fun hq_4 => ?_) (fun hq_4 => ?_)
  · rw [if_pos hq_4] at h
    refine lv_iconst (v := 0) hx hb dX5_readLaw_174 (by decide) ?_
    exact g_retZ C hH rfl h dX5_readLaw_175
  · rw [if_neg hq_4] at h
    refine lv_aload_n hx hb dX5_readLaw_165 rfl (lv_at hl 0 rfl) ?_
    refine lv_bipush (v := 59) hx hb dX5_readLaw_166 (by decide) ?_
    obtain ⟨r_5, σ_6, hc_7, h⟩ := bdI_ex h
    refine g_ci (g_runV (rest := []) C hH hl.1 cV_X5_92 2 (Nat.le_of_ble_eq_true rfl) rfl rfl (kX5_take l D ad κ hc_7) ⟨rfl, rfl⟩ ⟨(Nat.le_of_ble_eq_true rfl), (Nat.le_of_ble_eq_true rfl)⟩ rfl rfl (Nat.le_of_ble_eq_true rfl) dX5_readLaw_168 z00) hH (fun H locs hH => ?_)
    refine lv_if_ne (tgt := 176) hx hb dX5_readLaw_171 (by decide) (fun hq_8 => ?_) (fun hq_8 => ?_)
    · rw [if_neg hq_8] at h
      refine lv_aload_n hx hb dX5_readLaw_176 rfl (lv_at hl 0 rfl) ?_
      refine g_get C hH 2 (Nat.le_of_ble_eq_true rfl) rfl fl_X5_14 (v := .ref (ad 12)) rfl dX5_readLaw_177 ?_
      refine lv_iconst (v := 3) hx hb dX5_readLaw_180 (by decide) ?_
      refine lv_iconst (v := 0) hx hb dX5_readLaw_181 (by decide) ?_
      obtain ⟨σ_9, hc_10, h⟩ := bdV_ex h
      refine g_cv (g_runV (rest := []) C hH hl.1 cV_X5_146 12 (Nat.le_of_ble_eq_true rfl) rfl rfl (kX9_putCode l D ad κ hc_10) ⟨rfl, rfl⟩ ⟨(Nat.le_of_ble_eq_true rfl), (Nat.le_of_ble_eq_true rfl)⟩ rfl rfl (Nat.le_of_ble_eq_true rfl) dX5_readLaw_182 z00) hH (fun H locs hH => ?_)
      refine lv_iconst (v := 1) hx hb dX5_readLaw_185 (by decide) ?_
      exact g_retZ C hH rfl h dX5_readLaw_186
    · rw [if_pos hq_8] at h
      refine lv_iconst (v := 0) hx hb dX5_readLaw_174 (by decide) ?_
      exact g_retZ C hH rfl h dX5_readLaw_175
set_option maxHeartbeats 4000000 in
set_option maxRecDepth 100000 in
theorem wX5_readLaw_32 (C : Cx 50 D ad κ p s m args meth c cX5_readLaw RX5 4 (some .boolean)) {R : (Int32 × HS)} : ∀ (f : Nat) (x1 : Int32) (x2 : Int32) (σ : HS) (H : Heap) (locs : List Loc) (ls : Array Slot), FX5_readLaw_32  f x1 x2 σ = some R → Hd 50 ceX D ad κ s σ H locs → lv_has ls 4 [(0, .ref (ad 2)), (1, .int x1), (2, .int x2)] → W p l e ({ frames := 3, cells := 0, slots := 0, locals := 66 } : Room) s m args below meth c H locs 0 0 (MQ below (QI 50 ceX D ad κ R) args s 0 0 (AX 50 ad)) (F0 m 32 ls []) := by
  have hx := C.1
  have hb := C.2.1
  have hown := C.2.2.2.1
  have hts := C.2.2.2.2.1
  intro f
  induction f with
  | zero =>
    intro x1 x2 σ H locs ls h hH hl
    cases h
  | succ f ih =>
    intro x1 x2 σ H locs ls h hH hl
    rw [FX5_readLaw_32] at h
    refine lv_iload_n hx hb dX5_readLaw_32 rfl (lv_at hl 2 rfl) ?_
    refine lv_iconst (v := 4) hx hb dX5_readLaw_33 (by decide) ?_
    refine lv_icmp_gt (tgt := 158) hx hb dX5_readLaw_34 (by decide) (fun hq_11 => ?_) (fun hq_11 => ?_)
    · rw [if_pos hq_11] at h
      exact wX5_readLaw_158 C  _ _ _ _ _ _ h hH (lv_sub hl [0, 1, 2] rfl)
    · rw [if_neg hq_11] at h
      refine lv_aload_n hx hb dX5_readLaw_37 rfl (lv_at hl 0 rfl) ?_
      obtain ⟨r_12, σ_13, hc_14, h⟩ := bdI_ex h
      refine g_ci (g_runV (rest := []) C hH hl.1 cV_X5_60 2 (Nat.le_of_ble_eq_true rfl) rfl rfl (kX5_kindNow l D ad κ hc_14) ⟨rfl, rfl⟩ ⟨(Nat.le_of_ble_eq_true rfl), (Nat.le_of_ble_eq_true rfl)⟩ rfl rfl (Nat.le_of_ble_eq_true rfl) dX5_readLaw_38 z00) hH (fun H locs hH => ?_)
      refine lv_bipush (v := 10) hx hb dX5_readLaw_41 (by decide) ?_
      refine lv_icmp_ne (tgt := 158) hx hb dX5_readLaw_43 (by decide) (fun hq_15 => ?_) (fun hq_15 => ?_)
      · rw [if_neg hq_15] at h
        exact wX5_readLaw_158 C  _ _ _ _ _ _ h hH (lv_sub hl [0, 1, 2] rfl)
      · rw [if_pos hq_15] at h
        refine lv_iload_n hx hb dX5_readLaw_46 rfl (lv_at hl 2 rfl) ?_
        refine lv_iconst (v := 4) hx hb dX5_readLaw_47 (by decide) ?_
        refine lv_icmp_ne (tgt := 57) hx hb dX5_readLaw_48 (by decide) (fun hq_16 => ?_) (fun hq_16 => ?_)
        · rw [if_neg hq_16] at h
          refine lv_aload_n hx hb dX5_readLaw_57 rfl (lv_at hl 0 rfl) ?_
          refine lv_bipush (v := 10) hx hb dX5_readLaw_58 (by decide) ?_
          obtain ⟨r_17, σ_18, hc_19, h⟩ := bdI_ex h
          refine g_ci (g_runV (rest := []) C hH hl.1 cV_X5_92 2 (Nat.le_of_ble_eq_true rfl) rfl rfl (kX5_take l D ad κ hc_19) ⟨rfl, rfl⟩ ⟨(Nat.le_of_ble_eq_true rfl), (Nat.le_of_ble_eq_true rfl)⟩ rfl rfl (Nat.le_of_ble_eq_true rfl) dX5_readLaw_60 z00) hH (fun H locs hH => ?_)
          refine lv_if_eq (tgt := 98) hx hb dX5_readLaw_63 (by decide) (fun hq_20 => ?_) (fun hq_20 => ?_)
          · rw [if_pos hq_20] at h
            refine lv_iconst (v := 0) hx hb dX5_readLaw_98 (by decide) ?_
            exact g_retZ C hH rfl h dX5_readLaw_99
          · rw [if_neg hq_20] at h
            refine lv_aload_n hx hb dX5_readLaw_66 rfl (lv_at hl 0 rfl) ?_
            obtain ⟨r_21, σ_22, hc_23, h⟩ := bdI_ex h
            refine g_ci (g_runV (rest := []) C hH hl.1 cV_X5_140 2 (Nat.le_of_ble_eq_true rfl) rfl rfl (kX5_readSum l D ad κ hc_23) ⟨rfl, rfl⟩ ⟨(Nat.le_of_ble_eq_true rfl), (Nat.le_of_ble_eq_true rfl)⟩ rfl rfl (Nat.le_of_ble_eq_true rfl) dX5_readLaw_67 z00) hH (fun H locs hH => ?_)
            refine lv_if_eq (tgt := 98) hx hb dX5_readLaw_70 (by decide) (fun hq_24 => ?_) (fun hq_24 => ?_)
            · rw [if_pos hq_24] at h
              refine lv_iconst (v := 0) hx hb dX5_readLaw_98 (by decide) ?_
              exact g_retZ C hH rfl h dX5_readLaw_99
            · rw [if_neg hq_24] at h
              refine lv_aload_n hx hb dX5_readLaw_73 rfl (lv_at hl 0 rfl) ?_
              refine lv_bipush (v := 60) hx hb dX5_readLaw_74 (by decide) ?_
              obtain ⟨r_25, σ_26, hc_27, h⟩ := bdI_ex h
              refine g_ci (g_runV (rest := []) C hH hl.1 cV_X5_92 2 (Nat.le_of_ble_eq_true rfl) rfl rfl (kX5_take l D ad κ hc_27) ⟨rfl, rfl⟩ ⟨(Nat.le_of_ble_eq_true rfl), (Nat.le_of_ble_eq_true rfl)⟩ rfl rfl (Nat.le_of_ble_eq_true rfl) dX5_readLaw_76 z00) hH (fun H locs hH => ?_)
              refine lv_if_eq (tgt := 98) hx hb dX5_readLaw_79 (by decide) (fun hq_28 => ?_) (fun hq_28 => ?_)
              · rw [if_pos hq_28] at h
                refine lv_iconst (v := 0) hx hb dX5_readLaw_98 (by decide) ?_
                exact g_retZ C hH rfl h dX5_readLaw_99
              · rw [if_neg hq_28] at h
                refine lv_aload_n hx hb dX5_readLaw_82 rfl (lv_at hl 0 rfl) ?_
                obtain ⟨r_29, σ_30, hc_31, h⟩ := bdI_ex h
                refine g_ci (g_runV (rest := []) C hH hl.1 cV_X5_140 2 (Nat.le_of_ble_eq_true rfl) rfl rfl (kX5_readSum l D ad κ hc_31) ⟨rfl, rfl⟩ ⟨(Nat.le_of_ble_eq_true rfl), (Nat.le_of_ble_eq_true rfl)⟩ rfl rfl (Nat.le_of_ble_eq_true rfl) dX5_readLaw_83 z00) hH (fun H locs hH => ?_)
                refine lv_if_eq (tgt := 98) hx hb dX5_readLaw_86 (by decide) (fun hq_32 => ?_) (fun hq_32 => ?_)
                · rw [if_pos hq_32] at h
                  refine lv_iconst (v := 0) hx hb dX5_readLaw_98 (by decide) ?_
                  exact g_retZ C hH rfl h dX5_readLaw_99
                · rw [if_neg hq_32] at h
                  refine lv_aload_n hx hb dX5_readLaw_89 rfl (lv_at hl 0 rfl) ?_
                  refine lv_bipush (v := 11) hx hb dX5_readLaw_90 (by decide) ?_
                  obtain ⟨r_33, σ_34, hc_35, h⟩ := bdI_ex h
                  refine g_ci (g_runV (rest := []) C hH hl.1 cV_X5_92 2 (Nat.le_of_ble_eq_true rfl) rfl rfl (kX5_take l D ad κ hc_35) ⟨rfl, rfl⟩ ⟨(Nat.le_of_ble_eq_true rfl), (Nat.le_of_ble_eq_true rfl)⟩ rfl rfl (Nat.le_of_ble_eq_true rfl) dX5_readLaw_92 z00) hH (fun H locs hH => ?_)
                  refine lv_if_ne (tgt := 100) hx hb dX5_readLaw_95 (by decide) (fun hq_36 => ?_) (fun hq_36 => ?_)
                  · rw [if_neg hq_36] at h
                    refine lv_aload_n hx hb dX5_readLaw_100 rfl (lv_at hl 0 rfl) ?_
                    refine g_get C hH 2 (Nat.le_of_ble_eq_true rfl) rfl fl_X5_14 (v := .ref (ad 12)) rfl dX5_readLaw_101 ?_
                    refine g_get C hH 12 (Nat.le_of_ble_eq_true rfl) rfl fl_X5_143 (v := .int (σ_34.1 12 5)) rfl dX5_readLaw_104 ?_
                    obtain ⟨x3_37, ex3_37, h⟩ := hl_ex h
                    refine lv_eqi ex3_37 ?_
                    refine lv_istore_n (lv' := [(3, .int x3_37), (0, .ref (ad 2)), (1, .int x1), (2, .int x2)]) hx hb dX5_readLaw_107 rfl hl (by decide) rfl (fun ls hl => ?_)
                    refine lv_aload_n hx hb dX5_readLaw_108 rfl (lv_at hl 1 rfl) ?_
                    refine g_get C hH 2 (Nat.le_of_ble_eq_true rfl) rfl fl_X5_14 (v := .ref (ad 12)) rfl dX5_readLaw_109 ?_
                    refine lv_iconst (v := 2) hx hb dX5_readLaw_112 (by decide) ?_
                    refine lv_iconst (v := 0) hx hb dX5_readLaw_113 (by decide) ?_
                    obtain ⟨σ_38, hc_39, h⟩ := bdV_ex h
                    refine g_cv (g_runV (rest := []) C hH hl.1 cV_X5_146 12 (Nat.le_of_ble_eq_true rfl) rfl rfl (kX9_putCode l D ad κ hc_39) ⟨rfl, rfl⟩ ⟨(Nat.le_of_ble_eq_true rfl), (Nat.le_of_ble_eq_true rfl)⟩ rfl rfl (Nat.le_of_ble_eq_true rfl) dX5_readLaw_114 z00) hH (fun H locs hH => ?_)
                    refine lv_aload_n hx hb dX5_readLaw_117 rfl (lv_at hl 1 rfl) ?_
                    obtain ⟨r_40, σ_41, hc_42, h⟩ := bdI_ex h
                    refine g_ci (g_runV (rest := []) C hH hl.1 cV_X5_140 2 (Nat.le_of_ble_eq_true rfl) rfl rfl (kX5_readSum l D ad κ hc_42) ⟨rfl, rfl⟩ ⟨(Nat.le_of_ble_eq_true rfl), (Nat.le_of_ble_eq_true rfl)⟩ rfl rfl (Nat.le_of_ble_eq_true rfl) dX5_readLaw_118 z00) hH (fun H locs hH => ?_)
                    refine lv_if_eq (tgt := 133) hx hb dX5_readLaw_121 (by decide) (fun hq_43 => ?_) (fun hq_43 => ?_)
                    · rw [if_pos hq_43] at h
                      refine lv_iconst (v := 0) hx hb dX5_readLaw_133 (by decide) ?_
                      exact g_retZ C hH rfl h dX5_readLaw_134
                    · rw [if_neg hq_43] at h
                      refine lv_aload_n hx hb dX5_readLaw_124 rfl (lv_at hl 1 rfl) ?_
                      refine lv_bipush (v := 12) hx hb dX5_readLaw_125 (by decide) ?_
                      obtain ⟨r_44, σ_45, hc_46, h⟩ := bdI_ex h
                      refine g_ci (g_runV (rest := []) C hH hl.1 cV_X5_92 2 (Nat.le_of_ble_eq_true rfl) rfl rfl (kX5_take l D ad κ hc_46) ⟨rfl, rfl⟩ ⟨(Nat.le_of_ble_eq_true rfl), (Nat.le_of_ble_eq_true rfl)⟩ rfl rfl (Nat.le_of_ble_eq_true rfl) dX5_readLaw_127 z00) hH (fun H locs hH => ?_)
                      refine lv_if_ne (tgt := 135) hx hb dX5_readLaw_130 (by decide) (fun hq_47 => ?_) (fun hq_47 => ?_)
                      · rw [if_neg hq_47] at h
                        refine lv_aload_n hx hb dX5_readLaw_135 rfl (lv_at hl 1 rfl) ?_
                        refine g_get C hH 2 (Nat.le_of_ble_eq_true rfl) rfl fl_X5_14 (v := .ref (ad 12)) rfl dX5_readLaw_136 ?_
                        refine lv_iconst (v := 3) hx hb dX5_readLaw_139 (by decide) ?_
                        refine lv_iconst (v := 0) hx hb dX5_readLaw_140 (by decide) ?_
                        obtain ⟨σ_48, hc_49, h⟩ := bdV_ex h
                        refine g_cv (g_runV (rest := []) C hH hl.1 cV_X5_146 12 (Nat.le_of_ble_eq_true rfl) rfl rfl (kX9_putCode l D ad κ hc_49) ⟨rfl, rfl⟩ ⟨(Nat.le_of_ble_eq_true rfl), (Nat.le_of_ble_eq_true rfl)⟩ rfl rfl (Nat.le_of_ble_eq_true rfl) dX5_readLaw_141 z00) hH (fun H locs hH => ?_)
                        refine lv_aload_n hx hb dX5_readLaw_144 rfl (lv_at hl 1 rfl) ?_
                        refine g_get C hH 2 (Nat.le_of_ble_eq_true rfl) rfl fl_X5_14 (v := .ref (ad 12)) rfl dX5_readLaw_145 ?_
                        refine lv_iload_n hx hb dX5_readLaw_148 rfl (lv_at hl 0 rfl) ?_
                        obtain ⟨σ_50, hc_51, h⟩ := bdV_ex h
                        refine g_cv (g_runV (rest := []) C hH hl.1 cV_X5_150 12 (Nat.le_of_ble_eq_true rfl) rfl rfl (kX9_aimHere l D ad κ hc_51) ⟨rfl, rfl⟩ ⟨(Nat.le_of_ble_eq_true rfl), (Nat.le_of_ble_eq_true rfl)⟩ rfl rfl (Nat.le_of_ble_eq_true rfl) dX5_readLaw_149 z00) hH (fun H locs hH => ?_)
                        refine lv_iinc (v := (x2 + 1)) (lv' := [(2, .int (x2 + 1)), (3, .int x3_37), (0, .ref (ad 2)), (1, .int x1)]) hx hb dX5_readLaw_152 hl (k := 3) rfl rfl (by decide) rfl (fun ls hl => ?_)
                        refine lv_goto (tgt := 32) hx hb dX5_readLaw_155 (by decide) ?_
                        exact ih _ _ _ _ _ _ h hH (lv_sub hl [2, 3, 0] rfl)
                      · rw [if_pos hq_47] at h
                        refine lv_iconst (v := 0) hx hb dX5_readLaw_133 (by decide) ?_
                        exact g_retZ C hH rfl h dX5_readLaw_134
                  · rw [if_pos hq_36] at h
                    refine lv_iconst (v := 0) hx hb dX5_readLaw_98 (by decide) ?_
                    exact g_retZ C hH rfl h dX5_readLaw_99
        · rw [if_pos hq_16] at h
          refine lv_aload_n hx hb dX5_readLaw_51 rfl (lv_at hl 0 rfl) ?_
          refine lv_iconst (v := 2) hx hb dX5_readLaw_52 (by decide) ?_
          obtain ⟨r_52, σ_53, hc_54, h⟩ := bdI_ex h
          refine g_ci (g_runV (rest := []) C hH hl.1 cV_X5_86 2 (Nat.le_of_ble_eq_true rfl) rfl rfl (kX5_fail l D ad κ hc_54) ⟨rfl, rfl⟩ ⟨(Nat.le_of_ble_eq_true rfl), (Nat.le_of_ble_eq_true rfl)⟩ rfl rfl (Nat.le_of_ble_eq_true rfl) dX5_readLaw_53 z00) hH (fun H locs hH => ?_)
          obtain ⟨hb_55, h⟩ := gd_ex h
          exact g_retZ C hH hb_55 h dX5_readLaw_56
set_option maxHeartbeats 4000000 in
set_option maxRecDepth 100000 in
theorem kX5_readLaw (l : Launch) (D : va_G) (ad : Nat → Nat) (κ : KC) {x1 : Int32} {σ : HS} {R : (Int32 × HS)} (h : FX5_readLaw x1 σ = some R) : MtI l 50 ceX D ad κ yX5_readLaw cX5_readLaw 4 (some .boolean) ({ frames := 3, cells := 0, slots := 0, locals := 66 } : Room) [.ref (ad 2), .int x1] σ R := by
  refine open_ (by decide) (Nat.le_of_ble_eq_true rfl) (la := [(0, .ref (ad 2)), (1, .int x1)]) rfl ?_
  intro p e s m below meth c ls C hH hl
  replace C : Cx 50 D ad κ p s m _ meth c cX5_readLaw RX5 4 (some .boolean) := C
  have hx := C.1
  have hb := C.2.1
  have hown := C.2.2.2.1
  have hts := C.2.2.2.2.1
  rw [FX5_readLaw] at h
  refine lv_aload_n hx hb dX5_readLaw_0 rfl (lv_at hl 0 rfl) ?_
  refine lv_aload_n hx hb dX5_readLaw_1 rfl (lv_at hl 0 rfl) ?_
  obtain ⟨r_56, σ_57, hc_58, h⟩ := bdI_ex h
  refine g_ci (g_runV (rest := [.ref (ad 2)]) C hH hl.1 cV_X5_60 2 (Nat.le_of_ble_eq_true rfl) rfl rfl (kX5_kindNow l D ad κ hc_58) ⟨rfl, rfl⟩ ⟨(Nat.le_of_ble_eq_true rfl), (Nat.le_of_ble_eq_true rfl)⟩ rfl rfl (Nat.le_of_ble_eq_true rfl) dX5_readLaw_2 z00) hH (fun H locs hH => ?_)
  obtain ⟨r_59, σ_60, hc_61, h⟩ := bdI_ex h
  refine g_ci (g_runV (rest := []) C hH hl.1 cV_X5_92 2 (Nat.le_of_ble_eq_true rfl) rfl rfl (kX5_take l D ad κ hc_61) ⟨rfl, rfl⟩ ⟨(Nat.le_of_ble_eq_true rfl), (Nat.le_of_ble_eq_true rfl)⟩ rfl rfl (Nat.le_of_ble_eq_true rfl) dX5_readLaw_5 z00) hH (fun H locs hH => ?_)
  refine lv_if_eq (tgt := 20) hx hb dX5_readLaw_8 (by decide) (fun hq_62 => ?_) (fun hq_62 => ?_)
  · rw [if_pos hq_62] at h
    refine lv_iconst (v := 0) hx hb dX5_readLaw_20 (by decide) ?_
    exact g_retZ C hH rfl h dX5_readLaw_21
  · rw [if_neg hq_62] at h
    refine lv_aload_n hx hb dX5_readLaw_11 rfl (lv_at hl 0 rfl) ?_
    refine lv_bipush (v := 61) hx hb dX5_readLaw_12 (by decide) ?_
    obtain ⟨r_63, σ_64, hc_65, h⟩ := bdI_ex h
    refine g_ci (g_runV (rest := []) C hH hl.1 cV_X5_92 2 (Nat.le_of_ble_eq_true rfl) rfl rfl (kX5_take l D ad κ hc_65) ⟨rfl, rfl⟩ ⟨(Nat.le_of_ble_eq_true rfl), (Nat.le_of_ble_eq_true rfl)⟩ rfl rfl (Nat.le_of_ble_eq_true rfl) dX5_readLaw_14 z00) hH (fun H locs hH => ?_)
    refine lv_if_ne (tgt := 22) hx hb dX5_readLaw_17 (by decide) (fun hq_66 => ?_) (fun hq_66 => ?_)
    · rw [if_neg hq_66] at h
      refine lv_aload_n hx hb dX5_readLaw_22 rfl (lv_at hl 0 rfl) ?_
      refine g_get C hH 2 (Nat.le_of_ble_eq_true rfl) rfl fl_X5_14 (v := .ref (ad 12)) rfl dX5_readLaw_23 ?_
      refine lv_iload_n hx hb dX5_readLaw_26 rfl (lv_at hl 1 rfl) ?_
      obtain ⟨σ_67, hc_68, h⟩ := bdV_ex h
      refine g_cv (g_runV (rest := []) C hH hl.1 cV_X5_137 12 (Nat.le_of_ble_eq_true rfl) rfl rfl (kX9_startLaw l D ad κ hc_68) ⟨rfl, rfl⟩ ⟨(Nat.le_of_ble_eq_true rfl), (Nat.le_of_ble_eq_true rfl)⟩ rfl rfl (Nat.le_of_ble_eq_true rfl) dX5_readLaw_27 z00) hH (fun H locs hH => ?_)
      refine lv_iconst (v := 0) hx hb dX5_readLaw_30 (by decide) ?_
      refine lv_istore_n (lv' := [(2, .int (0 : Int32)), (0, .ref (ad 2)), (1, .int x1)]) hx hb dX5_readLaw_31 rfl hl (by decide) rfl (fun ls hl => ?_)
      exact wX5_readLaw_32 C _ _ _ _ _ _ _ h hH (lv_sub hl [1, 2, 0] rfl)
    · rw [if_pos hq_66] at h
      refine lv_iconst (v := 0) hx hb dX5_readLaw_20 (by decide) ?_
      exact g_retZ C hH rfl h dX5_readLaw_21
-- X5_readSetting
def FX5_readSetting_85  (x1 : Int32) (σ : HS) : Option (Int32 × HS) :=
  bdI (FX5_take (59 : Int32) σ) fun r_1 σ_2 => gd (isB r_1) (some (r_1, σ_2))
def FX5_readSetting_23  (x1 : Int32) (y1 : Int32) (σ : HS) : Option (Int32 × HS) :=
  bdI (FX5_takeNumber y1 σ) fun r_5 σ_6 => if r_5 = 0 then some ((0 : Int32), σ_6) else if x1 = (7 : Int32) then hl_ (pI σ_6 12 2 ((σ_6.2 2 9).toInt32)) fun σ_13 => FX5_readSetting_85 x1 σ_13 else if x1 = (8 : Int32) then hl_ (pI σ_6 12 3 ((σ_6.2 2 9).toInt32)) fun σ_12 => FX5_readSetting_85 x1 σ_12 else hl_ (pI σ_6 12 4 ((σ_6.2 2 9).toInt32)) fun σ_11 => FX5_readSetting_85 x1 σ_11
def FX5_readSetting (x1 : Int32) (σ : HS) : Option (Int32 × HS) :=
  bdI (FX5_take x1 σ) fun r_14 σ_15 => if r_14 = 0 then some ((0 : Int32), σ_15) else if x1 = (9 : Int32) then FX5_readSetting_23 x1 (9999 : Int32) σ_15 else FX5_readSetting_23 x1 (9 : Int32) σ_15
set_option maxHeartbeats 4000000 in
set_option maxRecDepth 100000 in
theorem wX5_readSetting_85 (C : Cx 50 D ad κ p s m args meth c cX5_readSetting RX5 2 (some .boolean)) {R : (Int32 × HS)} : ∀ (x1 : Int32) (σ : HS) (H : Heap) (locs : List Loc) (ls : Array Slot), FX5_readSetting_85  x1 σ = some R → Hd 50 ceX D ad κ s σ H locs → lv_has ls 2 [(0, .ref (ad 2)), (1, .int x1)] → W p l e ({ frames := 3, cells := 0, slots := 0, locals := 63 } : Room) s m args below meth c H locs 0 0 (MQ below (QI 50 ceX D ad κ R) args s 0 0 (AX 50 ad)) (F0 m 85 ls []) := by
  have hx := C.1
  have hb := C.2.1
  have hown := C.2.2.2.1
  have hts := C.2.2.2.2.1
  intro x1 σ H locs ls h hH hl
  rw [FX5_readSetting_85] at h
  refine lv_aload_n hx hb dX5_readSetting_85 rfl (lv_at hl 0 rfl) ?_
  refine lv_bipush (v := 59) hx hb dX5_readSetting_86 (by decide) ?_
  obtain ⟨r_1, σ_2, hc_3, h⟩ := bdI_ex h
  refine g_ci (g_runV (rest := []) C hH hl.1 cV_X5_92 2 (Nat.le_of_ble_eq_true rfl) rfl rfl (kX5_take l D ad κ hc_3) ⟨rfl, rfl⟩ ⟨(Nat.le_of_ble_eq_true rfl), (Nat.le_of_ble_eq_true rfl)⟩ rfl rfl (Nat.le_of_ble_eq_true rfl) dX5_readSetting_88 z00) hH (fun H locs hH => ?_)
  obtain ⟨hb_4, h⟩ := gd_ex h
  exact g_retZ C hH hb_4 h dX5_readSetting_91
set_option maxHeartbeats 4000000 in
set_option maxRecDepth 100000 in
theorem wX5_readSetting_23 (C : Cx 50 D ad κ p s m args meth c cX5_readSetting RX5 2 (some .boolean)) {R : (Int32 × HS)} : ∀ (x1 : Int32) (y1 : Int32) (σ : HS) (H : Heap) (locs : List Loc) (ls : Array Slot), FX5_readSetting_23  x1 y1 σ = some R → Hd 50 ceX D ad κ s σ H locs → lv_has ls 2 [(0, .ref (ad 2)), (1, .int x1)] → W p l e ({ frames := 3, cells := 0, slots := 0, locals := 63 } : Room) s m args below meth c H locs 0 0 (MQ below (QI 50 ceX D ad κ R) args s 0 0 (AX 50 ad)) (F0 m 23 ls [.int y1, .ref (ad 2)]) := by
  have hx := C.1
  have hb := C.2.1
  have hown := C.2.2.2.1
  have hts := C.2.2.2.2.1
  intro x1 y1 σ H locs ls h hH hl
  rw [FX5_readSetting_23] at h
  obtain ⟨r_5, σ_6, hc_7, h⟩ := bdI_ex h
  refine g_ci (g_runV (rest := []) C hH hl.1 cV_X5_95 2 (Nat.le_of_ble_eq_true rfl) rfl rfl (kX5_takeNumber l D ad κ hc_7) ⟨rfl, rfl⟩ ⟨(Nat.le_of_ble_eq_true rfl), (Nat.le_of_ble_eq_true rfl)⟩ rfl rfl (Nat.le_of_ble_eq_true rfl) dX5_readSetting_23 z00) hH (fun H locs hH => ?_)
  refine lv_if_ne (tgt := 31) hx hb dX5_readSetting_26 (by decide) (fun hq_8 => ?_) (fun hq_8 => ?_)
  · rw [if_neg hq_8] at h
    refine lv_iload_n hx hb dX5_readSetting_31 rfl (lv_at hl 1 rfl) ?_
    refine lv_bipush (v := 7) hx hb dX5_readSetting_32 (by decide) ?_
    refine lv_icmp_ne (tgt := 52) hx hb dX5_readSetting_34 (by decide) (fun hq_9 => ?_) (fun hq_9 => ?_)
    · rw [if_neg hq_9] at h
      refine lv_iload_n hx hb dX5_readSetting_52 rfl (lv_at hl 1 rfl) ?_
      refine lv_bipush (v := 8) hx hb dX5_readSetting_53 (by decide) ?_
      refine lv_icmp_ne (tgt := 73) hx hb dX5_readSetting_55 (by decide) (fun hq_10 => ?_) (fun hq_10 => ?_)
      · rw [if_neg hq_10] at h
        refine lv_aload_n hx hb dX5_readSetting_73 rfl (lv_at hl 0 rfl) ?_
        refine g_get C hH 2 (Nat.le_of_ble_eq_true rfl) rfl fl_X5_14 (v := .ref (ad 12)) rfl dX5_readSetting_74 ?_
        refine lv_aload_n hx hb dX5_readSetting_77 rfl (lv_at hl 0 rfl) ?_
        refine g_get C hH 2 (Nat.le_of_ble_eq_true rfl) rfl fl_X5_101 (v := .long (σ_6.2 2 9)) rfl dX5_readSetting_78 ?_
        refine lv_l2i (v := ((σ_6.2 2 9).toInt32)) hx hb dX5_readSetting_81 rfl ?_
        obtain ⟨σ_11, eσ_11, h⟩ := hl_ex h
        refine g_putI C hH 12 (Nat.le_of_ble_eq_true rfl) rfl fp_X5_134 rfl rfl (Nat.le_of_ble_eq_true rfl) rfl dX5_readSetting_82 (fun H locs hH => ?_)
        rw [← eσ_11] at hH
        exact wX5_readSetting_85 C  _ _ _ _ _ h hH (lv_sub hl [0, 1] rfl)
      · rw [if_pos hq_10] at h
        refine lv_aload_n hx hb dX5_readSetting_58 rfl (lv_at hl 0 rfl) ?_
        refine g_get C hH 2 (Nat.le_of_ble_eq_true rfl) rfl fl_X5_14 (v := .ref (ad 12)) rfl dX5_readSetting_59 ?_
        refine lv_aload_n hx hb dX5_readSetting_62 rfl (lv_at hl 0 rfl) ?_
        refine g_get C hH 2 (Nat.le_of_ble_eq_true rfl) rfl fl_X5_101 (v := .long (σ_6.2 2 9)) rfl dX5_readSetting_63 ?_
        refine lv_l2i (v := ((σ_6.2 2 9).toInt32)) hx hb dX5_readSetting_66 rfl ?_
        obtain ⟨σ_12, eσ_12, h⟩ := hl_ex h
        refine g_putI C hH 12 (Nat.le_of_ble_eq_true rfl) rfl fp_X5_131 rfl rfl (Nat.le_of_ble_eq_true rfl) rfl dX5_readSetting_67 (fun H locs hH => ?_)
        rw [← eσ_12] at hH
        refine lv_goto (tgt := 85) hx hb dX5_readSetting_70 (by decide) ?_
        exact wX5_readSetting_85 C  _ _ _ _ _ h hH (lv_sub hl [0, 1] rfl)
    · rw [if_pos hq_9] at h
      refine lv_aload_n hx hb dX5_readSetting_37 rfl (lv_at hl 0 rfl) ?_
      refine g_get C hH 2 (Nat.le_of_ble_eq_true rfl) rfl fl_X5_14 (v := .ref (ad 12)) rfl dX5_readSetting_38 ?_
      refine lv_aload_n hx hb dX5_readSetting_41 rfl (lv_at hl 0 rfl) ?_
      refine g_get C hH 2 (Nat.le_of_ble_eq_true rfl) rfl fl_X5_101 (v := .long (σ_6.2 2 9)) rfl dX5_readSetting_42 ?_
      refine lv_l2i (v := ((σ_6.2 2 9).toInt32)) hx hb dX5_readSetting_45 rfl ?_
      obtain ⟨σ_13, eσ_13, h⟩ := hl_ex h
      refine g_putI C hH 12 (Nat.le_of_ble_eq_true rfl) rfl fp_X5_128 rfl rfl (Nat.le_of_ble_eq_true rfl) rfl dX5_readSetting_46 (fun H locs hH => ?_)
      rw [← eσ_13] at hH
      refine lv_goto (tgt := 85) hx hb dX5_readSetting_49 (by decide) ?_
      exact wX5_readSetting_85 C  _ _ _ _ _ h hH (lv_sub hl [0, 1] rfl)
  · rw [if_pos hq_8] at h
    refine lv_iconst (v := 0) hx hb dX5_readSetting_29 (by decide) ?_
    exact g_retZ C hH rfl h dX5_readSetting_30
set_option maxHeartbeats 4000000 in
set_option maxRecDepth 100000 in
theorem kX5_readSetting (l : Launch) (D : va_G) (ad : Nat → Nat) (κ : KC) {x1 : Int32} {σ : HS} {R : (Int32 × HS)} (h : FX5_readSetting x1 σ = some R) : MtI l 50 ceX D ad κ yX5_readSetting cX5_readSetting 2 (some .boolean) ({ frames := 3, cells := 0, slots := 0, locals := 63 } : Room) [.ref (ad 2), .int x1] σ R := by
  refine open_ (by decide) (Nat.le_of_ble_eq_true rfl) (la := [(0, .ref (ad 2)), (1, .int x1)]) rfl ?_
  intro p e s m below meth c ls C hH hl
  replace C : Cx 50 D ad κ p s m _ meth c cX5_readSetting RX5 2 (some .boolean) := C
  have hx := C.1
  have hb := C.2.1
  have hown := C.2.2.2.1
  have hts := C.2.2.2.2.1
  rw [FX5_readSetting] at h
  refine lv_aload_n hx hb dX5_readSetting_0 rfl (lv_at hl 0 rfl) ?_
  refine lv_iload_n hx hb dX5_readSetting_1 rfl (lv_at hl 1 rfl) ?_
  obtain ⟨r_14, σ_15, hc_16, h⟩ := bdI_ex h
  refine g_ci (g_runV (rest := []) C hH hl.1 cV_X5_92 2 (Nat.le_of_ble_eq_true rfl) rfl rfl (kX5_take l D ad κ hc_16) ⟨rfl, rfl⟩ ⟨(Nat.le_of_ble_eq_true rfl), (Nat.le_of_ble_eq_true rfl)⟩ rfl rfl (Nat.le_of_ble_eq_true rfl) dX5_readSetting_2 z00) hH (fun H locs hH => ?_)
  refine lv_if_eq (tgt := 29) hx hb dX5_readSetting_5 (by decide) (fun hq_17 => ?_) (fun hq_17 => ?_)
  · rw [if_pos hq_17] at h
    refine lv_iconst (v := 0) hx hb dX5_readSetting_29 (by decide) ?_
    exact g_retZ C hH rfl h dX5_readSetting_30
  · rw [if_neg hq_17] at h
    refine lv_aload_n hx hb dX5_readSetting_8 rfl (lv_at hl 0 rfl) ?_
    refine lv_iload_n hx hb dX5_readSetting_9 rfl (lv_at hl 1 rfl) ?_
    refine lv_bipush (v := 9) hx hb dX5_readSetting_10 (by decide) ?_
    refine lv_icmp_ne (tgt := 21) hx hb dX5_readSetting_12 (by decide) (fun hq_18 => ?_) (fun hq_18 => ?_)
    · rw [if_neg hq_18] at h
      refine lv_bipush (v := 9) hx hb dX5_readSetting_21 (by decide) ?_
      exact wX5_readSetting_23 C  _ _ _ _ _ _ h hH (lv_sub hl [0, 1] rfl)
    · rw [if_pos hq_18] at h
      refine lv_sipush (v := 9999) hx hb dX5_readSetting_15 (by decide) ?_
      refine lv_goto (tgt := 23) hx hb dX5_readSetting_18 (by decide) ?_
      exact wX5_readSetting_23 C  _ _ _ _ _ _ h hH (lv_sub hl [0, 1] rfl)
-- X5_readTell
def FX5_readTell (σ : HS) : Option (Int32 × HS) :=
  bdI (FX5_kindNow σ) fun r_1 σ_2 => if r_1 = 0 then bdI (FX5_readMinute σ_2) fun r_5 σ_6 => gd (isB r_5) (some (r_5, σ_6)) else if r_1 = 1 then bdI (FX5_readFamily σ_2) fun r_10 σ_11 => gd (isB r_10) (some (r_10, σ_11)) else if r_1 = 2 then bdI (FX5_readLease σ_2) fun r_15 σ_16 => gd (isB r_15) (some (r_15, σ_16)) else if r_1 = 3 then bdI (FX5_readLaw (0 : Int32) σ_2) fun r_20 σ_21 => gd (isB r_20) (some (r_20, σ_21)) else if r_1 = 4 then bdI (FX5_readLaw (1 : Int32) σ_2) fun r_25 σ_26 => gd (isB r_25) (some (r_25, σ_26)) else if r_1 = 5 then bdI (FX5_readLaw (2 : Int32) σ_2) fun r_30 σ_31 => gd (isB r_30) (some (r_30, σ_31)) else if r_1 = 6 then bdI (FX5_readLaw (3 : Int32) σ_2) fun r_35 σ_36 => gd (isB r_35) (some (r_35, σ_36)) else if r_1 = 7 then bdI (FX5_readSetting r_1 σ_2) fun r_40 σ_41 => gd (isB r_40) (some (r_40, σ_41)) else if r_1 = 8 then bdI (FX5_readSetting r_1 σ_2) fun r_45 σ_46 => gd (isB r_45) (some (r_45, σ_46)) else if r_1 = 9 then bdI (FX5_readSetting r_1 σ_2) fun r_50 σ_51 => gd (isB r_50) (some (r_50, σ_51)) else bdI (FX5_fail (1 : Int32) σ_2) fun r_54 σ_55 => gd (isB r_54) (some (r_54, σ_55))
set_option maxHeartbeats 4000000 in
set_option maxRecDepth 100000 in
theorem kX5_readTell (l : Launch) (D : va_G) (ad : Nat → Nat) (κ : KC) {σ : HS} {R : (Int32 × HS)} (h : FX5_readTell σ = some R) : MtI l 50 ceX D ad κ yX5_readTell cX5_readTell 2 (some .boolean) ({ frames := 4, cells := 0, slots := 0, locals := 89 } : Room) [.ref (ad 2)] σ R := by
  refine open_ (by decide) (Nat.le_of_ble_eq_true rfl) (la := [(0, .ref (ad 2))]) rfl ?_
  intro p e s m below meth c ls C hH hl
  replace C : Cx 50 D ad κ p s m _ meth c cX5_readTell RX5 2 (some .boolean) := C
  have hx := C.1
  have hb := C.2.1
  have hown := C.2.2.2.1
  have hts := C.2.2.2.2.1
  rw [FX5_readTell] at h
  refine lv_aload_n hx hb dX5_readTell_0 rfl (lv_at hl 0 rfl) ?_
  obtain ⟨r_1, σ_2, hc_3, h⟩ := bdI_ex h
  refine g_ci (g_runV (rest := []) C hH hl.1 cV_X5_60 2 (Nat.le_of_ble_eq_true rfl) rfl rfl (kX5_kindNow l D ad κ hc_3) ⟨rfl, rfl⟩ ⟨(Nat.le_of_ble_eq_true rfl), (Nat.le_of_ble_eq_true rfl)⟩ rfl rfl (Nat.le_of_ble_eq_true rfl) dX5_readTell_1 z00) hH (fun H locs hH => ?_)
  refine lv_istore_n (lv' := [(1, .int r_1), (0, .ref (ad 2))]) hx hb dX5_readTell_4 rfl hl (by decide) rfl (fun ls hl => ?_)
  refine lv_iload_n hx hb dX5_readTell_5 rfl (lv_at hl 0 rfl) ?_
  by_cases hs_4 : r_1 = 0
  · rw [if_pos hs_4] at h
    refine lv_tableIn (off := 54) (tgt := 60) hx hb dX5_readTell_6 (by rw [hs_4]; decide) (by rw [hs_4]; decide) (by rw [hs_4]; rfl) (by decide) ?_
    refine lv_aload_n hx hb dX5_readTell_60 rfl (lv_at hl 1 rfl) ?_
    obtain ⟨r_5, σ_6, hc_7, h⟩ := bdI_ex h
    refine g_ci (g_runV (rest := []) C hH hl.1 cV_X5_68 2 (Nat.le_of_ble_eq_true rfl) rfl rfl (kX5_readMinute l D ad κ hc_7) ⟨rfl, rfl⟩ ⟨(Nat.le_of_ble_eq_true rfl), (Nat.le_of_ble_eq_true rfl)⟩ rfl rfl (Nat.le_of_ble_eq_true rfl) dX5_readTell_61 z00) hH (fun H locs hH => ?_)
    obtain ⟨hb_8, h⟩ := gd_ex h
    exact g_retZ C hH hb_8 h dX5_readTell_64
  · rw [if_neg hs_4] at h
    by_cases hs_9 : r_1 = 1
    · rw [if_pos hs_9] at h
      refine lv_tableIn (off := 59) (tgt := 65) hx hb dX5_readTell_6 (by rw [hs_9]; decide) (by rw [hs_9]; decide) (by rw [hs_9]; rfl) (by decide) ?_
      refine lv_aload_n hx hb dX5_readTell_65 rfl (lv_at hl 1 rfl) ?_
      obtain ⟨r_10, σ_11, hc_12, h⟩ := bdI_ex h
      refine g_ci (g_runV (rest := []) C hH hl.1 cV_X5_71 2 (Nat.le_of_ble_eq_true rfl) rfl rfl (kX5_readFamily l D ad κ hc_12) ⟨rfl, rfl⟩ ⟨(Nat.le_of_ble_eq_true rfl), (Nat.le_of_ble_eq_true rfl)⟩ rfl rfl (Nat.le_of_ble_eq_true rfl) dX5_readTell_66 z00) hH (fun H locs hH => ?_)
      obtain ⟨hb_13, h⟩ := gd_ex h
      exact g_retZ C hH hb_13 h dX5_readTell_69
    · rw [if_neg hs_9] at h
      by_cases hs_14 : r_1 = 2
      · rw [if_pos hs_14] at h
        refine lv_tableIn (off := 64) (tgt := 70) hx hb dX5_readTell_6 (by rw [hs_14]; decide) (by rw [hs_14]; decide) (by rw [hs_14]; rfl) (by decide) ?_
        refine lv_aload_n hx hb dX5_readTell_70 rfl (lv_at hl 1 rfl) ?_
        obtain ⟨r_15, σ_16, hc_17, h⟩ := bdI_ex h
        refine g_ci (g_runV (rest := []) C hH hl.1 cV_X5_74 2 (Nat.le_of_ble_eq_true rfl) rfl rfl (kX5_readLease l D ad κ hc_17) ⟨rfl, rfl⟩ ⟨(Nat.le_of_ble_eq_true rfl), (Nat.le_of_ble_eq_true rfl)⟩ rfl rfl (Nat.le_of_ble_eq_true rfl) dX5_readTell_71 z00) hH (fun H locs hH => ?_)
        obtain ⟨hb_18, h⟩ := gd_ex h
        exact g_retZ C hH hb_18 h dX5_readTell_74
      · rw [if_neg hs_14] at h
        by_cases hs_19 : r_1 = 3
        · rw [if_pos hs_19] at h
          refine lv_tableIn (off := 69) (tgt := 75) hx hb dX5_readTell_6 (by rw [hs_19]; decide) (by rw [hs_19]; decide) (by rw [hs_19]; rfl) (by decide) ?_
          refine lv_aload_n hx hb dX5_readTell_75 rfl (lv_at hl 1 rfl) ?_
          refine lv_iconst (v := 0) hx hb dX5_readTell_76 (by decide) ?_
          obtain ⟨r_20, σ_21, hc_22, h⟩ := bdI_ex h
          refine g_ci (g_runV (rest := []) C hH hl.1 cV_X5_79 2 (Nat.le_of_ble_eq_true rfl) rfl rfl (kX5_readLaw l D ad κ hc_22) ⟨rfl, rfl⟩ ⟨(Nat.le_of_ble_eq_true rfl), (Nat.le_of_ble_eq_true rfl)⟩ rfl rfl (Nat.le_of_ble_eq_true rfl) dX5_readTell_77 z00) hH (fun H locs hH => ?_)
          obtain ⟨hb_23, h⟩ := gd_ex h
          exact g_retZ C hH hb_23 h dX5_readTell_80
        · rw [if_neg hs_19] at h
          by_cases hs_24 : r_1 = 4
          · rw [if_pos hs_24] at h
            refine lv_tableIn (off := 75) (tgt := 81) hx hb dX5_readTell_6 (by rw [hs_24]; decide) (by rw [hs_24]; decide) (by rw [hs_24]; rfl) (by decide) ?_
            refine lv_aload_n hx hb dX5_readTell_81 rfl (lv_at hl 1 rfl) ?_
            refine lv_iconst (v := 1) hx hb dX5_readTell_82 (by decide) ?_
            obtain ⟨r_25, σ_26, hc_27, h⟩ := bdI_ex h
            refine g_ci (g_runV (rest := []) C hH hl.1 cV_X5_79 2 (Nat.le_of_ble_eq_true rfl) rfl rfl (kX5_readLaw l D ad κ hc_27) ⟨rfl, rfl⟩ ⟨(Nat.le_of_ble_eq_true rfl), (Nat.le_of_ble_eq_true rfl)⟩ rfl rfl (Nat.le_of_ble_eq_true rfl) dX5_readTell_83 z00) hH (fun H locs hH => ?_)
            obtain ⟨hb_28, h⟩ := gd_ex h
            exact g_retZ C hH hb_28 h dX5_readTell_86
          · rw [if_neg hs_24] at h
            by_cases hs_29 : r_1 = 5
            · rw [if_pos hs_29] at h
              refine lv_tableIn (off := 81) (tgt := 87) hx hb dX5_readTell_6 (by rw [hs_29]; decide) (by rw [hs_29]; decide) (by rw [hs_29]; rfl) (by decide) ?_
              refine lv_aload_n hx hb dX5_readTell_87 rfl (lv_at hl 1 rfl) ?_
              refine lv_iconst (v := 2) hx hb dX5_readTell_88 (by decide) ?_
              obtain ⟨r_30, σ_31, hc_32, h⟩ := bdI_ex h
              refine g_ci (g_runV (rest := []) C hH hl.1 cV_X5_79 2 (Nat.le_of_ble_eq_true rfl) rfl rfl (kX5_readLaw l D ad κ hc_32) ⟨rfl, rfl⟩ ⟨(Nat.le_of_ble_eq_true rfl), (Nat.le_of_ble_eq_true rfl)⟩ rfl rfl (Nat.le_of_ble_eq_true rfl) dX5_readTell_89 z00) hH (fun H locs hH => ?_)
              obtain ⟨hb_33, h⟩ := gd_ex h
              exact g_retZ C hH hb_33 h dX5_readTell_92
            · rw [if_neg hs_29] at h
              by_cases hs_34 : r_1 = 6
              · rw [if_pos hs_34] at h
                refine lv_tableIn (off := 87) (tgt := 93) hx hb dX5_readTell_6 (by rw [hs_34]; decide) (by rw [hs_34]; decide) (by rw [hs_34]; rfl) (by decide) ?_
                refine lv_aload_n hx hb dX5_readTell_93 rfl (lv_at hl 1 rfl) ?_
                refine lv_iconst (v := 3) hx hb dX5_readTell_94 (by decide) ?_
                obtain ⟨r_35, σ_36, hc_37, h⟩ := bdI_ex h
                refine g_ci (g_runV (rest := []) C hH hl.1 cV_X5_79 2 (Nat.le_of_ble_eq_true rfl) rfl rfl (kX5_readLaw l D ad κ hc_37) ⟨rfl, rfl⟩ ⟨(Nat.le_of_ble_eq_true rfl), (Nat.le_of_ble_eq_true rfl)⟩ rfl rfl (Nat.le_of_ble_eq_true rfl) dX5_readTell_95 z00) hH (fun H locs hH => ?_)
                obtain ⟨hb_38, h⟩ := gd_ex h
                exact g_retZ C hH hb_38 h dX5_readTell_98
              · rw [if_neg hs_34] at h
                by_cases hs_39 : r_1 = 7
                · rw [if_pos hs_39] at h
                  refine lv_tableIn (off := 93) (tgt := 99) hx hb dX5_readTell_6 (by rw [hs_39]; decide) (by rw [hs_39]; decide) (by rw [hs_39]; rfl) (by decide) ?_
                  refine lv_aload_n hx hb dX5_readTell_99 rfl (lv_at hl 1 rfl) ?_
                  refine lv_iload_n hx hb dX5_readTell_100 rfl (lv_at hl 0 rfl) ?_
                  obtain ⟨r_40, σ_41, hc_42, h⟩ := bdI_ex h
                  refine g_ci (g_runV (rest := []) C hH hl.1 cV_X5_83 2 (Nat.le_of_ble_eq_true rfl) rfl rfl (kX5_readSetting l D ad κ hc_42) ⟨rfl, rfl⟩ ⟨(Nat.le_of_ble_eq_true rfl), (Nat.le_of_ble_eq_true rfl)⟩ rfl rfl (Nat.le_of_ble_eq_true rfl) dX5_readTell_101 z00) hH (fun H locs hH => ?_)
                  obtain ⟨hb_43, h⟩ := gd_ex h
                  exact g_retZ C hH hb_43 h dX5_readTell_104
                · rw [if_neg hs_39] at h
                  by_cases hs_44 : r_1 = 8
                  · rw [if_pos hs_44] at h
                    refine lv_tableIn (off := 93) (tgt := 99) hx hb dX5_readTell_6 (by rw [hs_44]; decide) (by rw [hs_44]; decide) (by rw [hs_44]; rfl) (by decide) ?_
                    refine lv_aload_n hx hb dX5_readTell_99 rfl (lv_at hl 1 rfl) ?_
                    refine lv_iload_n hx hb dX5_readTell_100 rfl (lv_at hl 0 rfl) ?_
                    obtain ⟨r_45, σ_46, hc_47, h⟩ := bdI_ex h
                    refine g_ci (g_runV (rest := []) C hH hl.1 cV_X5_83 2 (Nat.le_of_ble_eq_true rfl) rfl rfl (kX5_readSetting l D ad κ hc_47) ⟨rfl, rfl⟩ ⟨(Nat.le_of_ble_eq_true rfl), (Nat.le_of_ble_eq_true rfl)⟩ rfl rfl (Nat.le_of_ble_eq_true rfl) dX5_readTell_101 z00) hH (fun H locs hH => ?_)
                    obtain ⟨hb_48, h⟩ := gd_ex h
                    exact g_retZ C hH hb_48 h dX5_readTell_104
                  · rw [if_neg hs_44] at h
                    by_cases hs_49 : r_1 = 9
                    · rw [if_pos hs_49] at h
                      refine lv_tableIn (off := 93) (tgt := 99) hx hb dX5_readTell_6 (by rw [hs_49]; decide) (by rw [hs_49]; decide) (by rw [hs_49]; rfl) (by decide) ?_
                      refine lv_aload_n hx hb dX5_readTell_99 rfl (lv_at hl 1 rfl) ?_
                      refine lv_iload_n hx hb dX5_readTell_100 rfl (lv_at hl 0 rfl) ?_
                      obtain ⟨r_50, σ_51, hc_52, h⟩ := bdI_ex h
                      refine g_ci (g_runV (rest := []) C hH hl.1 cV_X5_83 2 (Nat.le_of_ble_eq_true rfl) rfl rfl (kX5_readSetting l D ad κ hc_52) ⟨rfl, rfl⟩ ⟨(Nat.le_of_ble_eq_true rfl), (Nat.le_of_ble_eq_true rfl)⟩ rfl rfl (Nat.le_of_ble_eq_true rfl) dX5_readTell_101 z00) hH (fun H locs hH => ?_)
                      obtain ⟨hb_53, h⟩ := gd_ex h
                      exact g_retZ C hH hb_53 h dX5_readTell_104
                    · rw [if_neg hs_49] at h
                      refine lv_tableOut (tgt := 105) hx hb dX5_readTell_6 (by have a0 := lv_neT hs_4 (show (0 : Int32).toInt = 0 from by decide); have a1 := lv_neT hs_9 (show (1 : Int32).toInt = 1 from by decide); have a2 := lv_neT hs_14 (show (2 : Int32).toInt = 2 from by decide); have a3 := lv_neT hs_19 (show (3 : Int32).toInt = 3 from by decide); have a4 := lv_neT hs_24 (show (4 : Int32).toInt = 4 from by decide); have a5 := lv_neT hs_29 (show (5 : Int32).toInt = 5 from by decide); have a6 := lv_neT hs_34 (show (6 : Int32).toInt = 6 from by decide); have a7 := lv_neT hs_39 (show (7 : Int32).toInt = 7 from by decide); have a8 := lv_neT hs_44 (show (8 : Int32).toInt = 8 from by decide); have a9 := lv_neT hs_49 (show (9 : Int32).toInt = 9 from by decide); omega) (by decide) ?_
                      refine lv_aload_n hx hb dX5_readTell_105 rfl (lv_at hl 1 rfl) ?_
                      refine lv_iconst (v := 1) hx hb dX5_readTell_106 (by decide) ?_
                      obtain ⟨r_54, σ_55, hc_56, h⟩ := bdI_ex h
                      refine g_ci (g_runV (rest := []) C hH hl.1 cV_X5_86 2 (Nat.le_of_ble_eq_true rfl) rfl rfl (kX5_fail l D ad κ hc_56) ⟨rfl, rfl⟩ ⟨(Nat.le_of_ble_eq_true rfl), (Nat.le_of_ble_eq_true rfl)⟩ rfl rfl (Nat.le_of_ble_eq_true rfl) dX5_readTell_107 z00) hH (fun H locs hH => ?_)
                      obtain ⟨hb_57, h⟩ := gd_ex h
                      exact g_retZ C hH hb_57 h dX5_readTell_110
-- X5_readAll
def FX5_readAll_79  (x1 : Int32) (x2 : Int32) (σ : HS) : Option (Int32 × HS) :=
  if (σ.1 2 11) = 0 then hl_ (pI σ 2 11 (σ.1 2 12)) fun σ_2 => hl_ (pI σ_2 2 1 (σ_2.1 2 13)) fun σ_3 => some ((σ_3.1 2 11), σ_3) else some ((σ.1 2 11), σ)
def FX5_readAll_48  : Nat → Int32 → Int32 → HS → Option (Int32 × HS)
  | 0, _, _, _ => none
  | f + 1, x1, x2, σ => if (400 : Int32) < x2 then FX5_readAll_79 x1 x2 σ else if x1 = 0 then FX5_readAll_79 x1 x2 σ else bdI (FX5_kindNow σ) fun r_6 σ_7 => if r_6 = (24 : Int32) then FX5_readAll_79 x1 x2 σ_7 else bdI (FX5_readTell σ_7) fun r_10 σ_11 => FX5_readAll_48  f r_10 (x2 + 1) σ_11
def FX5_readAll (σ : HS) : Option (Int32 × HS) :=
  bdV (FX6_scan σ) fun σ_13 => bdV (FX9_empty σ_13) fun σ_15 => hl_ (pI σ_15 2 5 (0 : Int32)) fun σ_17 => hl_ (pI σ_17 2 8 (0 : Int32)) fun σ_18 => hl_ (pI σ_18 2 11 (0 : Int32)) fun σ_19 => hl_ (pI σ_19 2 1 (-1 : Int32)) fun σ_20 => hl_ (pI σ_20 2 12 (0 : Int32)) fun σ_21 => hl_ (pI σ_21 2 13 (-1 : Int32)) fun σ_22 => FX5_readAll_48 fu (1 : Int32) (0 : Int32) σ_22
set_option maxHeartbeats 4000000 in
set_option maxRecDepth 100000 in
theorem wX5_readAll_79 (C : Cx 50 D ad κ p s m args meth c cX5_readAll RX5 3 (some .int)) {R : (Int32 × HS)} : ∀ (x1 : Int32) (x2 : Int32) (σ : HS) (H : Heap) (locs : List Loc) (ls : Array Slot), FX5_readAll_79  x1 x2 σ = some R → Hd 50 ceX D ad κ s σ H locs → lv_has ls 3 [(0, .ref (ad 2)), (1, .int x1), (2, .int x2)] → W p l e ({ frames := 8, cells := 0, slots := 0, locals := 175 } : Room) s m args below meth c H locs 0 0 (MQ below (QI 50 ceX D ad κ R) args s 0 0 (AX 50 ad)) (F0 m 79 ls []) := by
  have hx := C.1
  have hb := C.2.1
  have hown := C.2.2.2.1
  have hts := C.2.2.2.2.1
  intro x1 x2 σ H locs ls h hH hl
  rw [FX5_readAll_79] at h
  refine lv_aload_n hx hb dX5_readAll_79 rfl (lv_at hl 0 rfl) ?_
  refine g_get C hH 2 (Nat.le_of_ble_eq_true rfl) rfl fl_X5_51 (v := .int (σ.1 2 11)) rfl dX5_readAll_80 ?_
  refine lv_if_ne (tgt := 102) hx hb dX5_readAll_83 (by decide) (fun hq_1 => ?_) (fun hq_1 => ?_)
  · rw [if_neg hq_1] at h
    refine lv_aload_n hx hb dX5_readAll_102 rfl (lv_at hl 0 rfl) ?_
    refine g_get C hH 2 (Nat.le_of_ble_eq_true rfl) rfl fl_X5_51 (v := .int (σ.1 2 11)) rfl dX5_readAll_103 ?_
    exact g_ret C hH h dX5_readAll_106
  · rw [if_pos hq_1] at h
    refine lv_aload_n hx hb dX5_readAll_86 rfl (lv_at hl 0 rfl) ?_
    refine lv_aload_n hx hb dX5_readAll_87 rfl (lv_at hl 0 rfl) ?_
    refine g_get C hH 2 (Nat.le_of_ble_eq_true rfl) rfl fl_X5_54 (v := .int (σ.1 2 12)) rfl dX5_readAll_88 ?_
    obtain ⟨σ_2, eσ_2, h⟩ := hl_ex h
    refine g_putI C hH 2 (Nat.le_of_ble_eq_true rfl) rfl fp_X5_51 rfl rfl (Nat.le_of_ble_eq_true rfl) rfl dX5_readAll_91 (fun H locs hH => ?_)
    rw [← eσ_2] at hH
    refine lv_aload_n hx hb dX5_readAll_94 rfl (lv_at hl 0 rfl) ?_
    refine lv_aload_n hx hb dX5_readAll_95 rfl (lv_at hl 0 rfl) ?_
    refine g_get C hH 2 (Nat.le_of_ble_eq_true rfl) rfl fl_X5_57 (v := .int (σ_2.1 2 13)) rfl dX5_readAll_96 ?_
    obtain ⟨σ_3, eσ_3, h⟩ := hl_ex h
    refine g_putI C hH 2 (Nat.le_of_ble_eq_true rfl) rfl fp_X5_18 rfl rfl (Nat.le_of_ble_eq_true rfl) rfl dX5_readAll_99 (fun H locs hH => ?_)
    rw [← eσ_3] at hH
    refine lv_aload_n hx hb dX5_readAll_102 rfl (lv_at hl 0 rfl) ?_
    refine g_get C hH 2 (Nat.le_of_ble_eq_true rfl) rfl fl_X5_51 (v := .int (σ_3.1 2 11)) rfl dX5_readAll_103 ?_
    exact g_ret C hH h dX5_readAll_106
set_option maxHeartbeats 4000000 in
set_option maxRecDepth 100000 in
theorem wX5_readAll_48 (C : Cx 50 D ad κ p s m args meth c cX5_readAll RX5 3 (some .int)) {R : (Int32 × HS)} : ∀ (f : Nat) (x1 : Int32) (x2 : Int32) (σ : HS) (H : Heap) (locs : List Loc) (ls : Array Slot), FX5_readAll_48  f x1 x2 σ = some R → Hd 50 ceX D ad κ s σ H locs → lv_has ls 3 [(0, .ref (ad 2)), (1, .int x1), (2, .int x2)] → W p l e ({ frames := 8, cells := 0, slots := 0, locals := 175 } : Room) s m args below meth c H locs 0 0 (MQ below (QI 50 ceX D ad κ R) args s 0 0 (AX 50 ad)) (F0 m 48 ls []) := by
  have hx := C.1
  have hb := C.2.1
  have hown := C.2.2.2.1
  have hts := C.2.2.2.2.1
  intro f
  induction f with
  | zero =>
    intro x1 x2 σ H locs ls h hH hl
    cases h
  | succ f ih =>
    intro x1 x2 σ H locs ls h hH hl
    rw [FX5_readAll_48] at h
    refine lv_iload_n hx hb dX5_readAll_48 rfl (lv_at hl 2 rfl) ?_
    refine lv_sipush (v := 400) hx hb dX5_readAll_49 (by decide) ?_
    refine lv_icmp_gt (tgt := 79) hx hb dX5_readAll_52 (by decide) (fun hq_4 => ?_) (fun hq_4 => ?_)
    · rw [if_pos hq_4] at h
      exact wX5_readAll_79 C  _ _ _ _ _ _ h hH (lv_sub hl [0, 1, 2] rfl)
    · rw [if_neg hq_4] at h
      refine lv_iload_n hx hb dX5_readAll_55 rfl (lv_at hl 1 rfl) ?_
      refine lv_if_eq (tgt := 79) hx hb dX5_readAll_56 (by decide) (fun hq_5 => ?_) (fun hq_5 => ?_)
      · rw [if_pos hq_5] at h
        exact wX5_readAll_79 C  _ _ _ _ _ _ h hH (lv_sub hl [0, 1, 2] rfl)
      · rw [if_neg hq_5] at h
        refine lv_aload_n hx hb dX5_readAll_59 rfl (lv_at hl 0 rfl) ?_
        obtain ⟨r_6, σ_7, hc_8, h⟩ := bdI_ex h
        refine g_ci (g_runV (rest := []) C hH hl.1 cV_X5_60 2 (Nat.le_of_ble_eq_true rfl) rfl rfl (kX5_kindNow l D ad κ hc_8) ⟨rfl, rfl⟩ ⟨(Nat.le_of_ble_eq_true rfl), (Nat.le_of_ble_eq_true rfl)⟩ rfl rfl (Nat.le_of_ble_eq_true rfl) dX5_readAll_60 z00) hH (fun H locs hH => ?_)
        refine lv_bipush (v := 24) hx hb dX5_readAll_63 (by decide) ?_
        refine lv_icmp_eq (tgt := 79) hx hb dX5_readAll_65 (by decide) (fun hq_9 => ?_) (fun hq_9 => ?_)
        · rw [if_pos hq_9] at h
          exact wX5_readAll_79 C  _ _ _ _ _ _ h hH (lv_sub hl [0, 1, 2] rfl)
        · rw [if_neg hq_9] at h
          refine lv_aload_n hx hb dX5_readAll_68 rfl (lv_at hl 0 rfl) ?_
          obtain ⟨r_10, σ_11, hc_12, h⟩ := bdI_ex h
          refine g_ci (g_runV (rest := []) C hH hl.1 cV_X5_64 2 (Nat.le_of_ble_eq_true rfl) rfl rfl (kX5_readTell l D ad κ hc_12) ⟨rfl, rfl⟩ ⟨(Nat.le_of_ble_eq_true rfl), (Nat.le_of_ble_eq_true rfl)⟩ rfl rfl (Nat.le_of_ble_eq_true rfl) dX5_readAll_69 z00) hH (fun H locs hH => ?_)
          refine lv_istore_n (lv' := [(1, .int r_10), (0, .ref (ad 2)), (2, .int x2)]) hx hb dX5_readAll_72 rfl hl (by decide) rfl (fun ls hl => ?_)
          refine lv_iinc (v := (x2 + 1)) (lv' := [(2, .int (x2 + 1)), (1, .int r_10), (0, .ref (ad 2))]) hx hb dX5_readAll_73 hl (k := 2) rfl rfl (by decide) rfl (fun ls hl => ?_)
          refine lv_goto (tgt := 48) hx hb dX5_readAll_76 (by decide) ?_
          exact ih _ _ _ _ _ _ h hH (lv_sub hl [2, 1, 0] rfl)
set_option maxHeartbeats 4000000 in
set_option maxRecDepth 100000 in
theorem kX5_readAll (l : Launch) (D : va_G) (ad : Nat → Nat) (κ : KC) {σ : HS} {R : (Int32 × HS)} (h : FX5_readAll σ = some R) : MtI l 50 ceX D ad κ yX5_readAll cX5_readAll 3 (some .int) ({ frames := 8, cells := 0, slots := 0, locals := 175 } : Room) [.ref (ad 2)] σ R := by
  refine open_ (by decide) (Nat.le_of_ble_eq_true rfl) (la := [(0, .ref (ad 2))]) rfl ?_
  intro p e s m below meth c ls C hH hl
  replace C : Cx 50 D ad κ p s m _ meth c cX5_readAll RX5 3 (some .int) := C
  have hx := C.1
  have hb := C.2.1
  have hown := C.2.2.2.1
  have hts := C.2.2.2.2.1
  rw [FX5_readAll] at h
  refine lv_aload_n hx hb dX5_readAll_0 rfl (lv_at hl 0 rfl) ?_
  refine g_get C hH 2 (Nat.le_of_ble_eq_true rfl) rfl fl_X5_35 (v := .ref (ad 13)) rfl dX5_readAll_1 ?_
  obtain ⟨σ_13, hc_14, h⟩ := bdV_ex h
  refine g_cv (g_runV (rest := []) C hH hl.1 cV_X5_39 13 (Nat.le_of_ble_eq_true rfl) rfl rfl (kX6_scan l D ad κ hc_14) ⟨rfl, rfl⟩ ⟨(Nat.le_of_ble_eq_true rfl), (Nat.le_of_ble_eq_true rfl)⟩ rfl rfl (Nat.le_of_ble_eq_true rfl) dX5_readAll_4 z00) hH (fun H locs hH => ?_)
  refine lv_aload_n hx hb dX5_readAll_7 rfl (lv_at hl 0 rfl) ?_
  refine g_get C hH 2 (Nat.le_of_ble_eq_true rfl) rfl fl_X5_14 (v := .ref (ad 12)) rfl dX5_readAll_8 ?_
  obtain ⟨σ_15, hc_16, h⟩ := bdV_ex h
  refine g_cv (g_runV (rest := []) C hH hl.1 cV_X5_42 12 (Nat.le_of_ble_eq_true rfl) rfl rfl (kX9_empty l D ad κ hc_16) ⟨rfl, rfl⟩ ⟨(Nat.le_of_ble_eq_true rfl), (Nat.le_of_ble_eq_true rfl)⟩ rfl rfl (Nat.le_of_ble_eq_true rfl) dX5_readAll_11 z00) hH (fun H locs hH => ?_)
  refine lv_aload_n hx hb dX5_readAll_14 rfl (lv_at hl 0 rfl) ?_
  refine lv_iconst (v := 0) hx hb dX5_readAll_15 (by decide) ?_
  obtain ⟨σ_17, eσ_17, h⟩ := hl_ex h
  refine g_putI C hH 2 (Nat.le_of_ble_eq_true rfl) rfl fp_X5_45 rfl rfl (Nat.le_of_ble_eq_true rfl) rfl dX5_readAll_16 (fun H locs hH => ?_)
  rw [← eσ_17] at hH
  refine lv_aload_n hx hb dX5_readAll_19 rfl (lv_at hl 0 rfl) ?_
  refine lv_iconst (v := 0) hx hb dX5_readAll_20 (by decide) ?_
  obtain ⟨σ_18, eσ_18, h⟩ := hl_ex h
  refine g_putI C hH 2 (Nat.le_of_ble_eq_true rfl) rfl fp_X5_48 rfl rfl (Nat.le_of_ble_eq_true rfl) rfl dX5_readAll_21 (fun H locs hH => ?_)
  rw [← eσ_18] at hH
  refine lv_aload_n hx hb dX5_readAll_24 rfl (lv_at hl 0 rfl) ?_
  refine lv_iconst (v := 0) hx hb dX5_readAll_25 (by decide) ?_
  obtain ⟨σ_19, eσ_19, h⟩ := hl_ex h
  refine g_putI C hH 2 (Nat.le_of_ble_eq_true rfl) rfl fp_X5_51 rfl rfl (Nat.le_of_ble_eq_true rfl) rfl dX5_readAll_26 (fun H locs hH => ?_)
  rw [← eσ_19] at hH
  refine lv_aload_n hx hb dX5_readAll_29 rfl (lv_at hl 0 rfl) ?_
  refine lv_iconst (v := (-1)) hx hb dX5_readAll_30 (by decide) ?_
  obtain ⟨σ_20, eσ_20, h⟩ := hl_ex h
  refine g_putI C hH 2 (Nat.le_of_ble_eq_true rfl) rfl fp_X5_18 rfl rfl (Nat.le_of_ble_eq_true rfl) rfl dX5_readAll_31 (fun H locs hH => ?_)
  rw [← eσ_20] at hH
  refine lv_aload_n hx hb dX5_readAll_34 rfl (lv_at hl 0 rfl) ?_
  refine lv_iconst (v := 0) hx hb dX5_readAll_35 (by decide) ?_
  obtain ⟨σ_21, eσ_21, h⟩ := hl_ex h
  refine g_putI C hH 2 (Nat.le_of_ble_eq_true rfl) rfl fp_X5_54 rfl rfl (Nat.le_of_ble_eq_true rfl) rfl dX5_readAll_36 (fun H locs hH => ?_)
  rw [← eσ_21] at hH
  refine lv_aload_n hx hb dX5_readAll_39 rfl (lv_at hl 0 rfl) ?_
  refine lv_iconst (v := (-1)) hx hb dX5_readAll_40 (by decide) ?_
  obtain ⟨σ_22, eσ_22, h⟩ := hl_ex h
  refine g_putI C hH 2 (Nat.le_of_ble_eq_true rfl) rfl fp_X5_57 rfl rfl (Nat.le_of_ble_eq_true rfl) rfl dX5_readAll_41 (fun H locs hH => ?_)
  rw [← eσ_22] at hH
  refine lv_iconst (v := 1) hx hb dX5_readAll_44 (by decide) ?_
  refine lv_istore_n (lv' := [(1, .int (1 : Int32)), (0, .ref (ad 2))]) hx hb dX5_readAll_45 rfl hl (by decide) rfl (fun ls hl => ?_)
  refine lv_iconst (v := 0) hx hb dX5_readAll_46 (by decide) ?_
  refine lv_istore_n (lv' := [(2, .int (0 : Int32)), (1, .int (1 : Int32)), (0, .ref (ad 2))]) hx hb dX5_readAll_47 rfl hl (by decide) rfl (fun ls hl => ?_)
  exact wX5_readAll_48 C _ _ _ _ _ _ _ h hH (lv_sub hl [2, 1, 0] rfl)
end
