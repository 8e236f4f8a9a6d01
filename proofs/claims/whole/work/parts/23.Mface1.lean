theorem dX12_in_0 : decode cX12_in 0 = .ok (.iload_n 0, 1) := by decide +kernel
theorem dX12_in_1 : decode cX12_in 1 = .ok (.iload_n 1, 1) := by decide +kernel
theorem dX12_in_2 : decode cX12_in 2 = .ok (.if_icmp .lt 12, 3) := by decide +kernel
theorem dX12_in_5 : decode cX12_in 5 = .ok (.iload_n 0, 1) := by decide +kernel
theorem dX12_in_6 : decode cX12_in 6 = .ok (.iload_n 2, 1) := by decide +kernel
theorem dX12_in_7 : decode cX12_in 7 = .ok (.if_icmp .gt 7, 3) := by decide +kernel
theorem dX12_in_10 : decode cX12_in 10 = .ok (.iconst 1, 1) := by decide +kernel
theorem dX12_in_11 : decode cX12_in 11 = .ok (.goto 4, 3) := by decide +kernel
theorem dX12_in_14 : decode cX12_in 14 = .ok (.iconst 0, 1) := by decide +kernel
theorem dX12_in_15 : decode cX12_in 15 = .ok (.ireturn, 1) := by decide +kernel
theorem dX12_isMinute_0 : decode cX12_isMinute 0 = .ok (.iload_n 1, 1) := by decide +kernel
theorem dX12_isMinute_1 : decode cX12_isMinute 1 = .ok (.iconst 0, 1) := by decide +kernel
theorem dX12_isMinute_2 : decode cX12_isMinute 2 = .ok (.aload_n 0, 1) := by decide +kernel
theorem dX12_isMinute_3 : decode cX12_isMinute 3 = .ok (.invokevirtual 306, 3) := by decide +kernel
theorem dX12_isMinute_6 : decode cX12_isMinute 6 = .ok (.iconst 1, 1) := by decide +kernel
theorem dX12_isMinute_7 : decode cX12_isMinute 7 = .ok (.isub, 1) := by decide +kernel
theorem dX12_isMinute_8 : decode cX12_isMinute 8 = .ok (.invokestatic 310, 3) := by decide +kernel
theorem dX12_isMinute_11 : decode cX12_isMinute 11 = .ok (.ireturn, 1) := by decide +kernel
theorem dX12_minute_0 : decode cX12_minute 0 = .ok (.aload_n 0, 1) := by decide +kernel
theorem dX12_minute_1 : decode cX12_minute 1 = .ok (.iload_n 1, 1) := by decide +kernel
theorem dX12_minute_2 : decode cX12_minute 2 = .ok (.invokevirtual 366, 3) := by decide +kernel
theorem dX12_minute_5 : decode cX12_minute 5 = .ok (.ifCond .ne 5, 3) := by decide +kernel
theorem dX12_minute_8 : decode cX12_minute 8 = .ok (.iconst (-1), 1) := by decide +kernel
theorem dX12_minute_9 : decode cX12_minute 9 = .ok (.ireturn, 1) := by decide +kernel
theorem dX12_minute_10 : decode cX12_minute 10 = .ok (.aload_n 0, 1) := by decide +kernel
theorem dX12_minute_11 : decode cX12_minute 11 = .ok (.invokevirtual 369, 3) := by decide +kernel
theorem dX12_minute_14 : decode cX12_minute 14 = .ok (.iload_n 2, 1) := by decide +kernel
theorem dX12_minute_15 : decode cX12_minute 15 = .ok (.tableswitch 47 0 2 #[25, 32, 38], 25) := by decide +kernel
theorem dX12_minute_40 : decode cX12_minute 40 = .ok (.aload_n 0, 1) := by decide +kernel
theorem dX12_minute_41 : decode cX12_minute 41 = .ok (.getfield 113, 3) := by decide +kernel
theorem dX12_minute_44 : decode cX12_minute 44 = .ok (.iload_n 1, 1) := by decide +kernel
theorem dX12_minute_45 : decode cX12_minute 45 = .ok (.iaload, 1) := by decide +kernel
theorem dX12_minute_46 : decode cX12_minute 46 = .ok (.ireturn, 1) := by decide +kernel
theorem dX12_minute_47 : decode cX12_minute 47 = .ok (.aload_n 0, 1) := by decide +kernel
theorem dX12_minute_48 : decode cX12_minute 48 = .ok (.iload_n 1, 1) := by decide +kernel
theorem dX12_minute_49 : decode cX12_minute 49 = .ok (.invokevirtual 348, 3) := by decide +kernel
theorem dX12_minute_52 : decode cX12_minute 52 = .ok (.ireturn, 1) := by decide +kernel
theorem dX12_minute_53 : decode cX12_minute 53 = .ok (.aload_n 0, 1) := by decide +kernel
theorem dX12_minute_54 : decode cX12_minute 54 = .ok (.invokevirtual 351, 3) := by decide +kernel
theorem dX12_minute_57 : decode cX12_minute 57 = .ok (.iload_n 1, 1) := by decide +kernel
theorem dX12_minute_58 : decode cX12_minute 58 = .ok (.ishr, 1) := by decide +kernel
theorem dX12_minute_59 : decode cX12_minute 59 = .ok (.iconst 1, 1) := by decide +kernel
theorem dX12_minute_60 : decode cX12_minute 60 = .ok (.iand, 1) := by decide +kernel
theorem dX12_minute_61 : decode cX12_minute 61 = .ok (.ireturn, 1) := by decide +kernel
theorem dX12_minute_62 : decode cX12_minute 62 = .ok (.iconst (-1), 1) := by decide +kernel
theorem dX12_minute_63 : decode cX12_minute 63 = .ok (.ireturn, 1) := by decide +kernel
theorem dX12_isFamily_0 : decode cX12_isFamily 0 = .ok (.iload_n 1, 1) := by decide +kernel
theorem dX12_isFamily_1 : decode cX12_isFamily 1 = .ok (.iconst 0, 1) := by decide +kernel
theorem dX12_isFamily_2 : decode cX12_isFamily 2 = .ok (.aload_n 0, 1) := by decide +kernel
theorem dX12_isFamily_3 : decode cX12_isFamily 3 = .ok (.getfield 49, 3) := by decide +kernel
theorem dX12_isFamily_6 : decode cX12_isFamily 6 = .ok (.aload_n 0, 1) := by decide +kernel
theorem dX12_isFamily_7 : decode cX12_isFamily 7 = .ok (.getfield 233, 3) := by decide +kernel
theorem dX12_isFamily_10 : decode cX12_isFamily 10 = .ok (.iaload, 1) := by decide +kernel
theorem dX12_isFamily_11 : decode cX12_isFamily 11 = .ok (.iconst 1, 1) := by decide +kernel
theorem dX12_isFamily_12 : decode cX12_isFamily 12 = .ok (.isub, 1) := by decide +kernel
theorem dX12_isFamily_13 : decode cX12_isFamily 13 = .ok (.invokestatic 310, 3) := by decide +kernel
theorem dX12_isFamily_16 : decode cX12_isFamily 16 = .ok (.ireturn, 1) := by decide +kernel
theorem dX12_family_0 : decode cX12_family 0 = .ok (.aload_n 0, 1) := by decide +kernel
theorem dX12_family_1 : decode cX12_family 1 = .ok (.iload_n 1, 1) := by decide +kernel
theorem dX12_family_2 : decode cX12_family 2 = .ok (.invokevirtual 372, 3) := by decide +kernel
theorem dX12_family_5 : decode cX12_family 5 = .ok (.ifCond .ne 5, 3) := by decide +kernel
theorem dX12_family_8 : decode cX12_family 8 = .ok (.iconst (-1), 1) := by decide +kernel
theorem dX12_family_9 : decode cX12_family 9 = .ok (.ireturn, 1) := by decide +kernel
theorem dX12_family_10 : decode cX12_family 10 = .ok (.aload_n 0, 1) := by decide +kernel
theorem dX12_family_11 : decode cX12_family 11 = .ok (.invokevirtual 369, 3) := by decide +kernel
theorem dX12_family_14 : decode cX12_family 14 = .ok (.iload_n 2, 1) := by decide +kernel
theorem dX12_family_15 : decode cX12_family 15 = .ok (.tableswitch 107 0 6 #[41, 55, 69, 75, 85, 95, 101], 41) := by decide +kernel
theorem dX12_family_56 : decode cX12_family 56 = .ok (.aload_n 0, 1) := by decide +kernel
theorem dX12_family_57 : decode cX12_family 57 = .ok (.getfield 52, 3) := by decide +kernel
theorem dX12_family_60 : decode cX12_family 60 = .ok (.iconst 5, 1) := by decide +kernel
theorem dX12_family_61 : decode cX12_family 61 = .ok (.aload_n 0, 1) := by decide +kernel
theorem dX12_family_62 : decode cX12_family 62 = .ok (.getfield 233, 3) := by decide +kernel
theorem dX12_family_65 : decode cX12_family 65 = .ok (.imul, 1) := by decide +kernel
theorem dX12_family_66 : decode cX12_family 66 = .ok (.iload_n 1, 1) := by decide +kernel
theorem dX12_family_67 : decode cX12_family 67 = .ok (.iadd, 1) := by decide +kernel
theorem dX12_family_68 : decode cX12_family 68 = .ok (.iaload, 1) := by decide +kernel
theorem dX12_family_69 : decode cX12_family 69 = .ok (.ireturn, 1) := by decide +kernel
theorem dX12_family_70 : decode cX12_family 70 = .ok (.aload_n 0, 1) := by decide +kernel
theorem dX12_family_71 : decode cX12_family 71 = .ok (.getfield 55, 3) := by decide +kernel
theorem dX12_family_74 : decode cX12_family 74 = .ok (.iconst 5, 1) := by decide +kernel
theorem dX12_family_75 : decode cX12_family 75 = .ok (.aload_n 0, 1) := by decide +kernel
theorem dX12_family_76 : decode cX12_family 76 = .ok (.getfield 233, 3) := by decide +kernel
theorem dX12_family_79 : decode cX12_family 79 = .ok (.imul, 1) := by decide +kernel
theorem dX12_family_80 : decode cX12_family 80 = .ok (.iload_n 1, 1) := by decide +kernel
theorem dX12_family_81 : decode cX12_family 81 = .ok (.iadd, 1) := by decide +kernel
theorem dX12_family_82 : decode cX12_family 82 = .ok (.iaload, 1) := by decide +kernel
theorem dX12_family_83 : decode cX12_family 83 = .ok (.ireturn, 1) := by decide +kernel
theorem dX12_family_84 : decode cX12_family 84 = .ok (.aload_n 0, 1) := by decide +kernel
theorem dX12_family_85 : decode cX12_family 85 = .ok (.iload_n 1, 1) := by decide +kernel
theorem dX12_family_86 : decode cX12_family 86 = .ok (.invokevirtual 336, 3) := by decide +kernel
theorem dX12_family_89 : decode cX12_family 89 = .ok (.ireturn, 1) := by decide +kernel
theorem dX12_family_90 : decode cX12_family 90 = .ok (.aload_n 0, 1) := by decide +kernel
theorem dX12_family_91 : decode cX12_family 91 = .ok (.getfield 113, 3) := by decide +kernel
theorem dX12_family_94 : decode cX12_family 94 = .ok (.bipush 23, 2) := by decide +kernel
theorem dX12_family_96 : decode cX12_family 96 = .ok (.iload_n 1, 1) := by decide +kernel
theorem dX12_family_97 : decode cX12_family 97 = .ok (.iadd, 1) := by decide +kernel
theorem dX12_family_98 : decode cX12_family 98 = .ok (.iaload, 1) := by decide +kernel
theorem dX12_family_99 : decode cX12_family 99 = .ok (.ireturn, 1) := by decide +kernel
theorem dX12_family_100 : decode cX12_family 100 = .ok (.aload_n 0, 1) := by decide +kernel
theorem dX12_family_101 : decode cX12_family 101 = .ok (.getfield 113, 3) := by decide +kernel
theorem dX12_family_104 : decode cX12_family 104 = .ok (.bipush 28, 2) := by decide +kernel
theorem dX12_family_106 : decode cX12_family 106 = .ok (.iload_n 1, 1) := by decide +kernel
theorem dX12_family_107 : decode cX12_family 107 = .ok (.iadd, 1) := by decide +kernel
theorem dX12_family_108 : decode cX12_family 108 = .ok (.iaload, 1) := by decide +kernel
theorem dX12_family_109 : decode cX12_family 109 = .ok (.ireturn, 1) := by decide +kernel
theorem dX12_family_110 : decode cX12_family 110 = .ok (.aload_n 0, 1) := by decide +kernel
theorem dX12_family_111 : decode cX12_family 111 = .ok (.iload_n 1, 1) := by decide +kernel
theorem dX12_family_112 : decode cX12_family 112 = .ok (.invokevirtual 357, 3) := by decide +kernel
theorem dX12_family_115 : decode cX12_family 115 = .ok (.ireturn, 1) := by decide +kernel
theorem dX12_family_116 : decode cX12_family 116 = .ok (.aload_n 0, 1) := by decide +kernel
theorem dX12_family_117 : decode cX12_family 117 = .ok (.iload_n 1, 1) := by decide +kernel
theorem dX12_family_118 : decode cX12_family 118 = .ok (.invokevirtual 375, 3) := by decide +kernel
theorem dX12_family_121 : decode cX12_family 121 = .ok (.ireturn, 1) := by decide +kernel
theorem dX12_family_122 : decode cX12_family 122 = .ok (.iconst (-1), 1) := by decide +kernel
theorem dX12_family_123 : decode cX12_family 123 = .ok (.ireturn, 1) := by decide +kernel
theorem dX12_isPart_0 : decode cX12_isPart 0 = .ok (.iload_n 0, 1) := by decide +kernel
theorem dX12_isPart_1 : decode cX12_isPart 1 = .ok (.iconst 0, 1) := by decide +kernel
theorem dX12_isPart_2 : decode cX12_isPart 2 = .ok (.bipush 7, 2) := by decide +kernel
theorem dX12_isPart_4 : decode cX12_isPart 4 = .ok (.invokestatic 310, 3) := by decide +kernel
theorem dX12_isPart_7 : decode cX12_isPart 7 = .ok (.ireturn, 1) := by decide +kernel
theorem dX12_lease_0 : decode cX12_lease 0 = .ok (.iload_n 1, 1) := by decide +kernel
theorem dX12_lease_1 : decode cX12_lease 1 = .ok (.invokestatic 378, 3) := by decide +kernel
theorem dX12_lease_4 : decode cX12_lease 4 = .ok (.ifCond .eq 15, 3) := by decide +kernel
theorem dX12_lease_7 : decode cX12_lease 7 = .ok (.aload_n 0, 1) := by decide +kernel
theorem dX12_lease_8 : decode cX12_lease 8 = .ok (.getfield 110, 3) := by decide +kernel
theorem dX12_lease_11 : decode cX12_lease 11 = .ok (.bipush 10, 2) := by decide +kernel
theorem dX12_lease_13 : decode cX12_lease 13 = .ok (.iload_n 1, 1) := by decide +kernel
theorem dX12_lease_14 : decode cX12_lease 14 = .ok (.iadd, 1) := by decide +kernel
theorem dX12_lease_15 : decode cX12_lease 15 = .ok (.iaload, 1) := by decide +kernel
theorem dX12_lease_16 : decode cX12_lease 16 = .ok (.goto 4, 3) := by decide +kernel
theorem dX12_lease_19 : decode cX12_lease 19 = .ok (.iconst (-1), 1) := by decide +kernel
theorem dX12_lease_20 : decode cX12_lease 20 = .ok (.ireturn, 1) := by decide +kernel
theorem dX12_worth_0 : decode cX12_worth 0 = .ok (.aload_n 0, 1) := by decide +kernel
theorem dX12_worth_1 : decode cX12_worth 1 = .ok (.iload_n 1, 1) := by decide +kernel
theorem dX12_worth_2 : decode cX12_worth 2 = .ok (.invokevirtual 372, 3) := by decide +kernel
theorem dX12_worth_5 : decode cX12_worth 5 = .ok (.ifCond .eq 18, 3) := by decide +kernel
theorem dX12_worth_8 : decode cX12_worth 8 = .ok (.aload_n 0, 1) := by decide +kernel
theorem dX12_worth_9 : decode cX12_worth 9 = .ok (.iload_n 2, 1) := by decide +kernel
theorem dX12_worth_10 : decode cX12_worth 10 = .ok (.invokevirtual 366, 3) := by decide +kernel
theorem dX12_worth_13 : decode cX12_worth 13 = .ok (.ifCond .eq 10, 3) := by decide +kernel
theorem dX12_worth_16 : decode cX12_worth 16 = .ok (.iload_n 3, 1) := by decide +kernel
theorem dX12_worth_17 : decode cX12_worth 17 = .ok (.invokestatic 378, 3) := by decide +kernel
theorem dX12_worth_20 : decode cX12_worth 20 = .ok (.ifCond .ne 5, 3) := by decide +kernel
theorem dX12_worth_23 : decode cX12_worth 23 = .ok (.iconst (-1), 1) := by decide +kernel
theorem dX12_worth_24 : decode cX12_worth 24 = .ok (.ireturn, 1) := by decide +kernel
theorem dX12_worth_25 : decode cX12_worth 25 = .ok (.aload_n 0, 1) := by decide +kernel
theorem dX12_worth_26 : decode cX12_worth 26 = .ok (.invokevirtual 369, 3) := by decide +kernel
theorem dX12_worth_29 : decode cX12_worth 29 = .ok (.aload_n 0, 1) := by decide +kernel
theorem dX12_worth_30 : decode cX12_worth 30 = .ok (.iload_n 1, 1) := by decide +kernel
theorem dX12_worth_31 : decode cX12_worth 31 = .ok (.iload_n 2, 1) := by decide +kernel
theorem dX12_worth_32 : decode cX12_worth 32 = .ok (.iload_n 3, 1) := by decide +kernel
theorem dX12_worth_33 : decode cX12_worth 33 = .ok (.invokevirtual 354, 3) := by decide +kernel
theorem dX12_worth_36 : decode cX12_worth 36 = .ok (.ireturn, 1) := by decide +kernel
theorem dX12_changesFor_0 : decode cX12_changesFor 0 = .ok (.aload_n 0, 1) := by decide +kernel
theorem dX12_changesFor_1 : decode cX12_changesFor 1 = .ok (.invokevirtual 369, 3) := by decide +kernel
theorem dX12_changesFor_4 : decode cX12_changesFor 4 = .ok (.aload_n 0, 1) := by decide +kernel
theorem dX12_changesFor_5 : decode cX12_changesFor 5 = .ok (.getfield 113, 3) := by decide +kernel
theorem dX12_changesFor_8 : decode cX12_changesFor 8 = .ok (.iload_n 1, 1) := by decide +kernel
theorem dX12_changesFor_9 : decode cX12_changesFor 9 = .ok (.aload_n 0, 1) := by decide +kernel
theorem dX12_changesFor_10 : decode cX12_changesFor 10 = .ok (.getfield 110, 3) := by decide +kernel
theorem dX12_changesFor_13 : decode cX12_changesFor 13 = .ok (.iload_n 2, 1) := by decide +kernel
theorem dX12_changesFor_14 : decode cX12_changesFor 14 = .ok (.iaload, 1) := by decide +kernel
theorem dX12_changesFor_15 : decode cX12_changesFor 15 = .ok (.iastore, 1) := by decide +kernel
theorem dX12_changesFor_16 : decode cX12_changesFor 16 = .ok (.aload_n 0, 1) := by decide +kernel
theorem dX12_changesFor_17 : decode cX12_changesFor 17 = .ok (.getfield 113, 3) := by decide +kernel
theorem dX12_changesFor_20 : decode cX12_changesFor 20 = .ok (.iload_n 2, 1) := by decide +kernel
theorem dX12_changesFor_21 : decode cX12_changesFor 21 = .ok (.aload_n 0, 1) := by decide +kernel
theorem dX12_changesFor_22 : decode cX12_changesFor 22 = .ok (.getfield 110, 3) := by decide +kernel
theorem dX12_changesFor_25 : decode cX12_changesFor 25 = .ok (.iload_n 1, 1) := by decide +kernel
theorem dX12_changesFor_26 : decode cX12_changesFor 26 = .ok (.iaload, 1) := by decide +kernel
theorem dX12_changesFor_27 : decode cX12_changesFor 27 = .ok (.iastore, 1) := by decide +kernel
theorem dX12_changesFor_28 : decode cX12_changesFor 28 = .ok (.return_, 1) := by decide +kernel
theorem dX12_records_0 : decode cX12_records 0 = .ok (.aload_n 0, 1) := by decide +kernel
theorem dX12_records_1 : decode cX12_records 1 = .ok (.getfield 248, 3) := by decide +kernel
theorem dX12_records_4 : decode cX12_records 4 = .ok (.bipush 40, 2) := by decide +kernel
theorem dX12_records_6 : decode cX12_records 6 = .ok (.if_icmp .ne 43, 3) := by decide +kernel
theorem dX12_records_9 : decode cX12_records 9 = .ok (.iconst 0, 1) := by decide +kernel
theorem dX12_records_10 : decode cX12_records 10 = .ok (.istore_n 1, 1) := by decide +kernel
theorem dX12_records_11 : decode cX12_records 11 = .ok (.iload_n 1, 1) := by decide +kernel
theorem dX12_records_12 : decode cX12_records 12 = .ok (.sipush 1287, 3) := by decide +kernel
theorem dX12_records_15 : decode cX12_records 15 = .ok (.if_icmp .ge 24, 3) := by decide +kernel
theorem dX12_records_18 : decode cX12_records 18 = .ok (.aload_n 0, 1) := by decide +kernel
theorem dX12_records_19 : decode cX12_records 19 = .ok (.getfield 116, 3) := by decide +kernel
theorem dX12_records_22 : decode cX12_records 22 = .ok (.iload_n 1, 1) := by decide +kernel
theorem dX12_records_23 : decode cX12_records 23 = .ok (.aload_n 0, 1) := by decide +kernel
theorem dX12_records_24 : decode cX12_records 24 = .ok (.getfield 116, 3) := by decide +kernel
theorem dX12_records_27 : decode cX12_records 27 = .ok (.iload_n 1, 1) := by decide +kernel
theorem dX12_records_28 : decode cX12_records 28 = .ok (.bipush 33, 2) := by decide +kernel
theorem dX12_records_30 : decode cX12_records 30 = .ok (.iadd, 1) := by decide +kernel
theorem dX12_records_31 : decode cX12_records 31 = .ok (.iaload, 1) := by decide +kernel
theorem dX12_records_32 : decode cX12_records 32 = .ok (.iastore, 1) := by decide +kernel
theorem dX12_records_33 : decode cX12_records 33 = .ok (.iinc 1 1, 3) := by decide +kernel
theorem dX12_records_36 : decode cX12_records 36 = .ok (.goto (-25), 3) := by decide +kernel
theorem dX12_records_39 : decode cX12_records 39 = .ok (.aload_n 0, 1) := by decide +kernel
theorem dX12_records_40 : decode cX12_records 40 = .ok (.dup, 1) := by decide +kernel
theorem dX12_records_41 : decode cX12_records 41 = .ok (.getfield 248, 3) := by decide +kernel
theorem dX12_records_44 : decode cX12_records 44 = .ok (.iconst 1, 1) := by decide +kernel
theorem dX12_records_45 : decode cX12_records 45 = .ok (.isub, 1) := by decide +kernel
theorem dX12_records_46 : decode cX12_records 46 = .ok (.putfield 248, 3) := by decide +kernel
theorem dX12_records_49 : decode cX12_records 49 = .ok (.iconst 0, 1) := by decide +kernel
theorem dX12_records_50 : decode cX12_records 50 = .ok (.istore_n 1, 1) := by decide +kernel
theorem dX12_records_51 : decode cX12_records 51 = .ok (.iload_n 1, 1) := by decide +kernel
theorem dX12_records_52 : decode cX12_records 52 = .ok (.bipush 33, 2) := by decide +kernel
theorem dX12_records_54 : decode cX12_records 54 = .ok (.if_icmp .ge 29, 3) := by decide +kernel
theorem dX12_records_57 : decode cX12_records 57 = .ok (.aload_n 0, 1) := by decide +kernel
theorem dX12_records_58 : decode cX12_records 58 = .ok (.getfield 116, 3) := by decide +kernel
theorem dX12_records_61 : decode cX12_records 61 = .ok (.bipush 33, 2) := by decide +kernel
theorem dX12_records_63 : decode cX12_records 63 = .ok (.aload_n 0, 1) := by decide +kernel
theorem dX12_records_64 : decode cX12_records 64 = .ok (.getfield 248, 3) := by decide +kernel
theorem dX12_records_67 : decode cX12_records 67 = .ok (.imul, 1) := by decide +kernel
theorem dX12_records_68 : decode cX12_records 68 = .ok (.iload_n 1, 1) := by decide +kernel
theorem dX12_records_69 : decode cX12_records 69 = .ok (.iadd, 1) := by decide +kernel
theorem dX12_records_70 : decode cX12_records 70 = .ok (.aload_n 0, 1) := by decide +kernel
theorem dX12_records_71 : decode cX12_records 71 = .ok (.getfield 110, 3) := by decide +kernel
theorem dX12_records_74 : decode cX12_records 74 = .ok (.iload_n 1, 1) := by decide +kernel
theorem dX12_records_75 : decode cX12_records 75 = .ok (.iaload, 1) := by decide +kernel
theorem dX12_records_76 : decode cX12_records 76 = .ok (.iastore, 1) := by decide +kernel
theorem dX12_records_77 : decode cX12_records 77 = .ok (.iinc 1 1, 3) := by decide +kernel
theorem dX12_records_80 : decode cX12_records 80 = .ok (.goto (-29), 3) := by decide +kernel
theorem dX12_records_83 : decode cX12_records 83 = .ok (.aload_n 0, 1) := by decide +kernel
theorem dX12_records_84 : decode cX12_records 84 = .ok (.dup, 1) := by decide +kernel
theorem dX12_records_85 : decode cX12_records 85 = .ok (.getfield 248, 3) := by decide +kernel
theorem dX12_records_88 : decode cX12_records 88 = .ok (.iconst 1, 1) := by decide +kernel
theorem dX12_records_89 : decode cX12_records 89 = .ok (.iadd, 1) := by decide +kernel
theorem dX12_records_90 : decode cX12_records 90 = .ok (.putfield 248, 3) := by decide +kernel
theorem dX12_records_93 : decode cX12_records 93 = .ok (.aload_n 0, 1) := by decide +kernel
theorem dX12_records_94 : decode cX12_records 94 = .ok (.invokevirtual 163, 3) := by decide +kernel
theorem dX12_records_97 : decode cX12_records 97 = .ok (.return_, 1) := by decide +kernel
theorem dX12_change_0 : decode cX12_change 0 = .ok (.aload_n 0, 1) := by decide +kernel
theorem dX12_change_1 : decode cX12_change 1 = .ok (.iload_n 1, 1) := by decide +kernel
theorem dX12_change_2 : decode cX12_change 2 = .ok (.invokevirtual 366, 3) := by decide +kernel
theorem dX12_change_5 : decode cX12_change 5 = .ok (.ifCond .eq 26, 3) := by decide +kernel
theorem dX12_change_8 : decode cX12_change 8 = .ok (.aload_n 0, 1) := by decide +kernel
theorem dX12_change_9 : decode cX12_change 9 = .ok (.iload_n 2, 1) := by decide +kernel
theorem dX12_change_10 : decode cX12_change 10 = .ok (.invokevirtual 366, 3) := by decide +kernel
theorem dX12_change_13 : decode cX12_change 13 = .ok (.ifCond .eq 18, 3) := by decide +kernel
theorem dX12_change_16 : decode cX12_change 16 = .ok (.aload_n 0, 1) := by decide +kernel
theorem dX12_change_17 : decode cX12_change 17 = .ok (.getfield 110, 3) := by decide +kernel
theorem dX12_change_20 : decode cX12_change 20 = .ok (.iload_n 1, 1) := by decide +kernel
theorem dX12_change_21 : decode cX12_change 21 = .ok (.iaload, 1) := by decide +kernel
theorem dX12_change_22 : decode cX12_change 22 = .ok (.aload_n 0, 1) := by decide +kernel
theorem dX12_change_23 : decode cX12_change 23 = .ok (.getfield 110, 3) := by decide +kernel
theorem dX12_change_26 : decode cX12_change 26 = .ok (.iload_n 2, 1) := by decide +kernel
theorem dX12_change_27 : decode cX12_change 27 = .ok (.iaload, 1) := by decide +kernel
theorem dX12_change_28 : decode cX12_change 28 = .ok (.if_icmp .ne 5, 3) := by decide +kernel
theorem dX12_change_31 : decode cX12_change 31 = .ok (.iconst 0, 1) := by decide +kernel
theorem dX12_change_32 : decode cX12_change 32 = .ok (.ireturn, 1) := by decide +kernel
theorem dX12_change_33 : decode cX12_change 33 = .ok (.aload_n 0, 1) := by decide +kernel
theorem dX12_change_34 : decode cX12_change 34 = .ok (.iload_n 1, 1) := by decide +kernel
theorem dX12_change_35 : decode cX12_change 35 = .ok (.iload_n 2, 1) := by decide +kernel
theorem dX12_change_36 : decode cX12_change 36 = .ok (.invokevirtual 384, 3) := by decide +kernel
theorem dX12_change_39 : decode cX12_change 39 = .ok (.aload_n 0, 1) := by decide +kernel
theorem dX12_change_40 : decode cX12_change 40 = .ok (.invokevirtual 381, 3) := by decide +kernel
theorem dX12_change_43 : decode cX12_change 43 = .ok (.iconst 1, 1) := by decide +kernel
theorem dX12_change_44 : decode cX12_change 44 = .ok (.ireturn, 1) := by decide +kernel
theorem dX12_does_0 : decode cX12_does 0 = .ok (.aload_n 0, 1) := by decide +kernel
theorem dX12_does_1 : decode cX12_does 1 = .ok (.invokevirtual 369, 3) := by decide +kernel
theorem dX12_does_4 : decode cX12_does 4 = .ok (.aload_n 0, 1) := by decide +kernel
theorem dX12_does_5 : decode cX12_does 5 = .ok (.getfield 113, 3) := by decide +kernel
theorem dX12_does_8 : decode cX12_does 8 = .ok (.iload_n 1, 1) := by decide +kernel
theorem dX12_does_9 : decode cX12_does 9 = .ok (.iload_n 2, 1) := by decide +kernel
theorem dX12_does_10 : decode cX12_does 10 = .ok (.iastore, 1) := by decide +kernel
theorem dX12_does_11 : decode cX12_does 11 = .ok (.aload_n 0, 1) := by decide +kernel
theorem dX12_does_12 : decode cX12_does 12 = .ok (.invokevirtual 381, 3) := by decide +kernel
theorem dX12_does_15 : decode cX12_does 15 = .ok (.return_, 1) := by decide +kernel
theorem dX12_let_0 : decode cX12_let 0 = .ok (.iload_n 1, 1) := by decide +kernel
theorem dX12_let_1 : decode cX12_let 1 = .ok (.invokestatic 378, 3) := by decide +kernel
theorem dX12_let_4 : decode cX12_let 4 = .ok (.ifCond .eq 16, 3) := by decide +kernel
theorem dX12_let_7 : decode cX12_let 7 = .ok (.iload_n 2, 1) := by decide +kernel
theorem dX12_let_8 : decode cX12_let 8 = .ok (.iconst (-1), 1) := by decide +kernel
theorem dX12_let_9 : decode cX12_let 9 = .ok (.if_icmp .eq 13, 3) := by decide +kernel
theorem dX12_let_12 : decode cX12_let 12 = .ok (.aload_n 0, 1) := by decide +kernel
theorem dX12_let_13 : decode cX12_let 13 = .ok (.iload_n 2, 1) := by decide +kernel
theorem dX12_let_14 : decode cX12_let 14 = .ok (.invokevirtual 372, 3) := by decide +kernel
theorem dX12_let_17 : decode cX12_let 17 = .ok (.ifCond .ne 5, 3) := by decide +kernel
theorem dX12_let_20 : decode cX12_let 20 = .ok (.iconst 0, 1) := by decide +kernel
theorem dX12_let_21 : decode cX12_let 21 = .ok (.ireturn, 1) := by decide +kernel
theorem dX12_let_22 : decode cX12_let 22 = .ok (.iload_n 2, 1) := by decide +kernel
theorem dX12_let_23 : decode cX12_let 23 = .ok (.iconst (-1), 1) := by decide +kernel
theorem dX12_let_24 : decode cX12_let 24 = .ok (.if_icmp .ne 8, 3) := by decide +kernel
theorem dX12_let_27 : decode cX12_let 27 = .ok (.bipush (-2), 2) := by decide +kernel
theorem dX12_let_29 : decode cX12_let 29 = .ok (.goto 4, 3) := by decide +kernel
theorem dX12_let_32 : decode cX12_let 32 = .ok (.iload_n 2, 1) := by decide +kernel
theorem dX12_let_33 : decode cX12_let 33 = .ok (.istore_n 3, 1) := by decide +kernel
theorem dX12_let_34 : decode cX12_let 34 = .ok (.aload_n 0, 1) := by decide +kernel
theorem dX12_let_35 : decode cX12_let 35 = .ok (.getfield 110, 3) := by decide +kernel
theorem dX12_let_38 : decode cX12_let 38 = .ok (.bipush 10, 2) := by decide +kernel
theorem dX12_let_40 : decode cX12_let 40 = .ok (.iload_n 1, 1) := by decide +kernel
theorem dX12_let_41 : decode cX12_let 41 = .ok (.iadd, 1) := by decide +kernel
theorem dX12_let_42 : decode cX12_let 42 = .ok (.iaload, 1) := by decide +kernel
theorem dX12_let_43 : decode cX12_let 43 = .ok (.iload_n 3, 1) := by decide +kernel
theorem dX12_let_44 : decode cX12_let 44 = .ok (.if_icmp .ne 5, 3) := by decide +kernel
theorem dX12_let_47 : decode cX12_let 47 = .ok (.iconst 0, 1) := by decide +kernel
theorem dX12_let_48 : decode cX12_let 48 = .ok (.ireturn, 1) := by decide +kernel
theorem dX12_let_49 : decode cX12_let 49 = .ok (.aload_n 0, 1) := by decide +kernel
theorem dX12_let_50 : decode cX12_let 50 = .ok (.bipush 10, 2) := by decide +kernel
theorem dX12_let_52 : decode cX12_let 52 = .ok (.iload_n 1, 1) := by decide +kernel
theorem dX12_let_53 : decode cX12_let 53 = .ok (.iadd, 1) := by decide +kernel
theorem dX12_let_54 : decode cX12_let 54 = .ok (.iload_n 3, 1) := by decide +kernel
theorem dX12_let_55 : decode cX12_let 55 = .ok (.invokevirtual 387, 3) := by decide +kernel
theorem dX12_let_58 : decode cX12_let 58 = .ok (.iconst 1, 1) := by decide +kernel
theorem dX12_let_59 : decode cX12_let 59 = .ok (.ireturn, 1) := by decide +kernel
theorem dX12_given_0 : decode cX12_given 0 = .ok (.aload_n 0, 1) := by decide +kernel
theorem dX12_given_1 : decode cX12_given 1 = .ok (.getfield 110, 3) := by decide +kernel
theorem dX12_given_4 : decode cX12_given 4 = .ok (.iload_n 1, 1) := by decide +kernel
theorem dX12_given_5 : decode cX12_given 5 = .ok (.iaload, 1) := by decide +kernel
theorem dX12_given_6 : decode cX12_given 6 = .ok (.iload_n 2, 1) := by decide +kernel
theorem dX12_given_7 : decode cX12_given 7 = .ok (.ifCond .eq 8, 3) := by decide +kernel
theorem dX12_given_10 : decode cX12_given 10 = .ok (.bipush 9, 2) := by decide +kernel
theorem dX12_given_12 : decode cX12_given 12 = .ok (.goto 4, 3) := by decide +kernel
theorem dX12_given_15 : decode cX12_given 15 = .ok (.iconst 0, 1) := by decide +kernel
theorem dX12_given_16 : decode cX12_given 16 = .ok (.if_icmp .ne 5, 3) := by decide +kernel
theorem dX12_given_19 : decode cX12_given 19 = .ok (.iconst 0, 1) := by decide +kernel
theorem dX12_given_20 : decode cX12_given 20 = .ok (.ireturn, 1) := by decide +kernel
theorem dX12_given_21 : decode cX12_given 21 = .ok (.aload_n 0, 1) := by decide +kernel
theorem dX12_given_22 : decode cX12_given 22 = .ok (.iload_n 1, 1) := by decide +kernel
theorem dX12_given_23 : decode cX12_given 23 = .ok (.aload_n 0, 1) := by decide +kernel
theorem dX12_given_24 : decode cX12_given 24 = .ok (.getfield 110, 3) := by decide +kernel
theorem dX12_given_27 : decode cX12_given 27 = .ok (.iload_n 1, 1) := by decide +kernel
theorem dX12_given_28 : decode cX12_given 28 = .ok (.iaload, 1) := by decide +kernel
theorem dX12_given_29 : decode cX12_given 29 = .ok (.iload_n 2, 1) := by decide +kernel
theorem dX12_given_30 : decode cX12_given 30 = .ok (.ifCond .eq 7, 3) := by decide +kernel
theorem dX12_given_33 : decode cX12_given 33 = .ok (.iconst 1, 1) := by decide +kernel
theorem dX12_given_34 : decode cX12_given 34 = .ok (.goto 4, 3) := by decide +kernel
theorem dX12_given_37 : decode cX12_given 37 = .ok (.iconst (-1), 1) := by decide +kernel
theorem dX12_given_38 : decode cX12_given 38 = .ok (.iadd, 1) := by decide +kernel
theorem dX12_given_39 : decode cX12_given 39 = .ok (.invokevirtual 387, 3) := by decide +kernel
theorem dX12_given_42 : decode cX12_given 42 = .ok (.iconst 1, 1) := by decide +kernel
theorem dX12_given_43 : decode cX12_given 43 = .ok (.ireturn, 1) := by decide +kernel
theorem dX12_syrup_0 : decode cX12_syrup 0 = .ok (.aload_n 0, 1) := by decide +kernel
theorem dX12_syrup_1 : decode cX12_syrup 1 = .ok (.bipush 19, 2) := by decide +kernel
theorem dX12_syrup_3 : decode cX12_syrup 3 = .ok (.iload_n 1, 1) := by decide +kernel
theorem dX12_syrup_4 : decode cX12_syrup 4 = .ok (.invokevirtual 390, 3) := by decide +kernel
theorem dX12_syrup_7 : decode cX12_syrup 7 = .ok (.ireturn, 1) := by decide +kernel
theorem dX12_dust_0 : decode cX12_dust 0 = .ok (.aload_n 0, 1) := by decide +kernel
theorem dX12_dust_1 : decode cX12_dust 1 = .ok (.bipush 18, 2) := by decide +kernel
theorem dX12_dust_3 : decode cX12_dust 3 = .ok (.iload_n 1, 1) := by decide +kernel
theorem dX12_dust_4 : decode cX12_dust 4 = .ok (.invokevirtual 390, 3) := by decide +kernel
theorem dX12_dust_7 : decode cX12_dust 7 = .ok (.ireturn, 1) := by decide +kernel
theorem dX12_isLong_0 : decode cX12_isLong 0 = .ok (.iload_n 0, 1) := by decide +kernel
theorem dX12_isLong_1 : decode cX12_isLong 1 = .ok (.iconst 0, 1) := by decide +kernel
theorem dX12_isLong_2 : decode cX12_isLong 2 = .ok (.bipush 40, 2) := by decide +kernel
theorem dX12_isLong_4 : decode cX12_isLong 4 = .ok (.invokestatic 310, 3) := by decide +kernel
theorem dX12_isLong_7 : decode cX12_isLong 7 = .ok (.ireturn, 1) := by decide +kernel
theorem dX12_weeks_0 : decode cX12_weeks 0 = .ok (.iload_n 1, 1) := by decide +kernel
theorem dX12_weeks_1 : decode cX12_weeks 1 = .ok (.invokestatic 394, 3) := by decide +kernel
theorem dX12_weeks_4 : decode cX12_weeks 4 = .ok (.ifCond .ne 5, 3) := by decide +kernel
theorem dX12_weeks_7 : decode cX12_weeks 7 = .ok (.iconst (-1), 1) := by decide +kernel
theorem dX12_weeks_8 : decode cX12_weeks 8 = .ok (.ireturn, 1) := by decide +kernel
theorem dX12_weeks_9 : decode cX12_weeks 9 = .ok (.iload_n 1, 1) := by decide +kernel
theorem dX12_weeks_10 : decode cX12_weeks 10 = .ok (.ifCond .ne 11, 3) := by decide +kernel
theorem dX12_weeks_13 : decode cX12_weeks 13 = .ok (.aload_n 0, 1) := by decide +kernel
theorem dX12_weeks_14 : decode cX12_weeks 14 = .ok (.getfield 110, 3) := by decide +kernel
theorem dX12_weeks_17 : decode cX12_weeks 17 = .ok (.bipush 20, 2) := by decide +kernel
theorem dX12_weeks_19 : decode cX12_weeks 19 = .ok (.iaload, 1) := by decide +kernel
theorem dX12_weeks_20 : decode cX12_weeks 20 = .ok (.ireturn, 1) := by decide +kernel
theorem dX12_weeks_21 : decode cX12_weeks 21 = .ok (.aload_n 0, 1) := by decide +kernel
theorem dX12_weeks_22 : decode cX12_weeks 22 = .ok (.invokevirtual 369, 3) := by decide +kernel
theorem dX12_weeks_25 : decode cX12_weeks 25 = .ok (.aload_n 0, 1) := by decide +kernel
theorem dX12_weeks_26 : decode cX12_weeks 26 = .ok (.iload_n 1, 1) := by decide +kernel
theorem dX12_weeks_27 : decode cX12_weeks 27 = .ok (.invokevirtual 397, 3) := by decide +kernel
theorem dX12_weeks_30 : decode cX12_weeks 30 = .ok (.aload_n 0, 1) := by decide +kernel
theorem dX12_weeks_31 : decode cX12_weeks 31 = .ok (.invokevirtual 381, 3) := by decide +kernel
theorem dX12_weeks_34 : decode cX12_weeks 34 = .ok (.aload_n 0, 1) := by decide +kernel
theorem dX12_weeks_35 : decode cX12_weeks 35 = .ok (.getfield 110, 3) := by decide +kernel
theorem dX12_weeks_38 : decode cX12_weeks 38 = .ok (.bipush 20, 2) := by decide +kernel
theorem dX12_weeks_40 : decode cX12_weeks 40 = .ok (.iaload, 1) := by decide +kernel
theorem dX12_weeks_41 : decode cX12_weeks 41 = .ok (.ireturn, 1) := by decide +kernel
theorem dX12_undo_0 : decode cX12_undo 0 = .ok (.aload_n 0, 1) := by decide +kernel
theorem dX12_undo_1 : decode cX12_undo 1 = .ok (.getfield 248, 3) := by decide +kernel
theorem dX12_undo_4 : decode cX12_undo 4 = .ok (.ifCond .ne 5, 3) := by decide +kernel
theorem dX12_undo_7 : decode cX12_undo 7 = .ok (.iconst 0, 1) := by decide +kernel
theorem dX12_undo_8 : decode cX12_undo 8 = .ok (.ireturn, 1) := by decide +kernel
theorem dX12_undo_9 : decode cX12_undo 9 = .ok (.aload_n 0, 1) := by decide +kernel
theorem dX12_undo_10 : decode cX12_undo 10 = .ok (.dup, 1) := by decide +kernel
theorem dX12_undo_11 : decode cX12_undo 11 = .ok (.getfield 248, 3) := by decide +kernel
theorem dX12_undo_14 : decode cX12_undo 14 = .ok (.iconst 1, 1) := by decide +kernel
theorem dX12_undo_15 : decode cX12_undo 15 = .ok (.isub, 1) := by decide +kernel
theorem dX12_undo_16 : decode cX12_undo 16 = .ok (.putfield 248, 3) := by decide +kernel
theorem dX12_undo_19 : decode cX12_undo 19 = .ok (.iconst 0, 1) := by decide +kernel
theorem dX12_undo_20 : decode cX12_undo 20 = .ok (.istore_n 1, 1) := by decide +kernel
theorem dX12_undo_21 : decode cX12_undo 21 = .ok (.iload_n 1, 1) := by decide +kernel
theorem dX12_undo_22 : decode cX12_undo 22 = .ok (.bipush 33, 2) := by decide +kernel
theorem dX12_undo_24 : decode cX12_undo 24 = .ok (.if_icmp .ge 29, 3) := by decide +kernel
theorem dX12_undo_27 : decode cX12_undo 27 = .ok (.aload_n 0, 1) := by decide +kernel
theorem dX12_undo_28 : decode cX12_undo 28 = .ok (.getfield 110, 3) := by decide +kernel
theorem dX12_undo_31 : decode cX12_undo 31 = .ok (.iload_n 1, 1) := by decide +kernel
theorem dX12_undo_32 : decode cX12_undo 32 = .ok (.aload_n 0, 1) := by decide +kernel
theorem dX12_undo_33 : decode cX12_undo 33 = .ok (.getfield 116, 3) := by decide +kernel
theorem dX12_undo_36 : decode cX12_undo 36 = .ok (.bipush 33, 2) := by decide +kernel
theorem dX12_undo_38 : decode cX12_undo 38 = .ok (.aload_n 0, 1) := by decide +kernel
theorem dX12_undo_39 : decode cX12_undo 39 = .ok (.getfield 248, 3) := by decide +kernel
theorem dX12_undo_42 : decode cX12_undo 42 = .ok (.imul, 1) := by decide +kernel
theorem dX12_undo_43 : decode cX12_undo 43 = .ok (.iload_n 1, 1) := by decide +kernel
theorem dX12_undo_44 : decode cX12_undo 44 = .ok (.iadd, 1) := by decide +kernel
theorem dX12_undo_45 : decode cX12_undo 45 = .ok (.iaload, 1) := by decide +kernel
theorem dX12_undo_46 : decode cX12_undo 46 = .ok (.iastore, 1) := by decide +kernel
theorem dX12_undo_47 : decode cX12_undo 47 = .ok (.iinc 1 1, 3) := by decide +kernel
theorem dX12_undo_50 : decode cX12_undo 50 = .ok (.goto (-29), 3) := by decide +kernel
theorem dX12_undo_53 : decode cX12_undo 53 = .ok (.iconst 1, 1) := by decide +kernel
theorem dX12_undo_54 : decode cX12_undo 54 = .ok (.ireturn, 1) := by decide +kernel
theorem dX12_power_0 : decode cX12_power 0 = .ok (.iconst 1, 1) := by decide +kernel
theorem dX12_power_1 : decode cX12_power 1 = .ok (.iconst 2, 1) := by decide +kernel
theorem dX12_power_2 : decode cX12_power 2 = .ok (.iload_n 0, 1) := by decide +kernel
theorem dX12_power_3 : decode cX12_power 3 = .ok (.imul, 1) := by decide +kernel
theorem dX12_power_4 : decode cX12_power 4 = .ok (.ishl, 1) := by decide +kernel
theorem dX12_power_5 : decode cX12_power 5 = .ok (.ireturn, 1) := by decide +kernel
theorem dX12_fillsFalls_0 : decode cX12_fillsFalls 0 = .ok (.iconst 0, 1) := by decide +kernel
theorem dX12_fillsFalls_1 : decode cX12_fillsFalls 1 = .ok (.istore_n 1, 1) := by decide +kernel
theorem dX12_fillsFalls_2 : decode cX12_fillsFalls 2 = .ok (.iload_n 1, 1) := by decide +kernel
theorem dX12_fillsFalls_3 : decode cX12_fillsFalls 3 = .ok (.aload_n 0, 1) := by decide +kernel
theorem dX12_fillsFalls_4 : decode cX12_fillsFalls 4 = .ok (.invokevirtual 306, 3) := by decide +kernel
theorem dX12_fillsFalls_7 : decode cX12_fillsFalls 7 = .ok (.if_icmp .ge 20, 3) := by decide +kernel
theorem dX12_fillsFalls_10 : decode cX12_fillsFalls 10 = .ok (.aload_n 0, 1) := by decide +kernel
theorem dX12_fillsFalls_11 : decode cX12_fillsFalls 11 = .ok (.getfield 119, 3) := by decide +kernel
theorem dX12_fillsFalls_14 : decode cX12_fillsFalls 14 = .ok (.iload_n 1, 1) := by decide +kernel
theorem dX12_fillsFalls_15 : decode cX12_fillsFalls 15 = .ok (.aload_n 0, 1) := by decide +kernel
theorem dX12_fillsFalls_16 : decode cX12_fillsFalls 16 = .ok (.iload_n 1, 1) := by decide +kernel
theorem dX12_fillsFalls_17 : decode cX12_fillsFalls 17 = .ok (.invokevirtual 348, 3) := by decide +kernel
theorem dX12_fillsFalls_20 : decode cX12_fillsFalls 20 = .ok (.iastore, 1) := by decide +kernel
theorem dX12_fillsFalls_21 : decode cX12_fillsFalls 21 = .ok (.iinc 1 1, 3) := by decide +kernel
theorem dX12_fillsFalls_24 : decode cX12_fillsFalls 24 = .ok (.goto (-22), 3) := by decide +kernel
theorem dX12_fillsFalls_27 : decode cX12_fillsFalls 27 = .ok (.iconst 0, 1) := by decide +kernel
theorem dX12_fillsFalls_28 : decode cX12_fillsFalls 28 = .ok (.istore_n 1, 1) := by decide +kernel
theorem dX12_fillsFalls_29 : decode cX12_fillsFalls 29 = .ok (.iload_n 1, 1) := by decide +kernel
theorem dX12_fillsFalls_30 : decode cX12_fillsFalls 30 = .ok (.bipush 80, 2) := by decide +kernel
theorem dX12_fillsFalls_32 : decode cX12_fillsFalls 32 = .ok (.if_icmp .ge 16, 3) := by decide +kernel
theorem dX12_fillsFalls_35 : decode cX12_fillsFalls 35 = .ok (.aload_n 0, 1) := by decide +kernel
theorem dX12_fillsFalls_36 : decode cX12_fillsFalls 36 = .ok (.getfield 122, 3) := by decide +kernel
theorem dX12_fillsFalls_39 : decode cX12_fillsFalls 39 = .ok (.iload_n 1, 1) := by decide +kernel
theorem dX12_fillsFalls_40 : decode cX12_fillsFalls 40 = .ok (.iconst 0, 1) := by decide +kernel
theorem dX12_fillsFalls_41 : decode cX12_fillsFalls 41 = .ok (.iastore, 1) := by decide +kernel
theorem dX12_fillsFalls_42 : decode cX12_fillsFalls 42 = .ok (.iinc 1 1, 3) := by decide +kernel
theorem dX12_fillsFalls_45 : decode cX12_fillsFalls 45 = .ok (.goto (-16), 3) := by decide +kernel
theorem dX12_fillsFalls_48 : decode cX12_fillsFalls 48 = .ok (.aload_n 0, 1) := by decide +kernel
theorem dX12_fillsFalls_49 : decode cX12_fillsFalls 49 = .ok (.getfield 122, 3) := by decide +kernel
theorem dX12_fillsFalls_52 : decode cX12_fillsFalls 52 = .ok (.iconst 0, 1) := by decide +kernel
theorem dX12_fillsFalls_53 : decode cX12_fillsFalls 53 = .ok (.aload_n 0, 1) := by decide +kernel
theorem dX12_fillsFalls_54 : decode cX12_fillsFalls 54 = .ok (.invokevirtual 306, 3) := by decide +kernel
theorem dX12_fillsFalls_57 : decode cX12_fillsFalls 57 = .ok (.ifCond .ne 7, 3) := by decide +kernel
theorem dX12_fillsFalls_60 : decode cX12_fillsFalls 60 = .ok (.iconst 0, 1) := by decide +kernel
theorem dX12_fillsFalls_61 : decode cX12_fillsFalls 61 = .ok (.goto 10, 3) := by decide +kernel
theorem dX12_fillsFalls_64 : decode cX12_fillsFalls 64 = .ok (.aload_n 0, 1) := by decide +kernel
theorem dX12_fillsFalls_65 : decode cX12_fillsFalls 65 = .ok (.invokevirtual 306, 3) := by decide +kernel
theorem dX12_fillsFalls_68 : decode cX12_fillsFalls 68 = .ok (.invokestatic 400, 3) := by decide +kernel
theorem dX12_fillsFalls_71 : decode cX12_fillsFalls 71 = .ok (.iastore, 1) := by decide +kernel
theorem dX12_fillsFalls_72 : decode cX12_fillsFalls 72 = .ok (.iconst 1, 1) := by decide +kernel
theorem dX12_fillsFalls_73 : decode cX12_fillsFalls 73 = .ok (.istore_n 1, 1) := by decide +kernel
theorem dX12_fillsFalls_74 : decode cX12_fillsFalls 74 = .ok (.iload_n 1, 1) := by decide +kernel
theorem dX12_fillsFalls_75 : decode cX12_fillsFalls 75 = .ok (.aload_n 0, 1) := by decide +kernel
theorem dX12_fillsFalls_76 : decode cX12_fillsFalls 76 = .ok (.invokevirtual 306, 3) := by decide +kernel
theorem dX12_fillsFalls_79 : decode cX12_fillsFalls 79 = .ok (.if_icmp .ge 103, 3) := by decide +kernel
theorem dX12_fillsFalls_82 : decode cX12_fillsFalls 82 = .ok (.iconst 0, 1) := by decide +kernel
theorem dX12_fillsFalls_83 : decode cX12_fillsFalls 83 = .ok (.istore_n 2, 1) := by decide +kernel
theorem dX12_fillsFalls_84 : decode cX12_fillsFalls 84 = .ok (.iload_n 2, 1) := by decide +kernel
theorem dX12_fillsFalls_85 : decode cX12_fillsFalls 85 = .ok (.bipush 8, 2) := by decide +kernel
theorem dX12_fillsFalls_87 : decode cX12_fillsFalls 87 = .ok (.if_icmp .ge 89, 3) := by decide +kernel
theorem dX12_fillsFalls_90 : decode cX12_fillsFalls 90 = .ok (.aload_n 0, 1) := by decide +kernel
theorem dX12_fillsFalls_91 : decode cX12_fillsFalls 91 = .ok (.getfield 122, 3) := by decide +kernel
theorem dX12_fillsFalls_94 : decode cX12_fillsFalls 94 = .ok (.bipush 8, 2) := by decide +kernel
theorem dX12_fillsFalls_96 : decode cX12_fillsFalls 96 = .ok (.iload_n 1, 1) := by decide +kernel
theorem dX12_fillsFalls_97 : decode cX12_fillsFalls 97 = .ok (.imul, 1) := by decide +kernel
theorem dX12_fillsFalls_98 : decode cX12_fillsFalls 98 = .ok (.bipush 8, 2) := by decide +kernel
theorem dX12_fillsFalls_100 : decode cX12_fillsFalls 100 = .ok (.isub, 1) := by decide +kernel
theorem dX12_fillsFalls_101 : decode cX12_fillsFalls 101 = .ok (.iload_n 2, 1) := by decide +kernel
theorem dX12_fillsFalls_102 : decode cX12_fillsFalls 102 = .ok (.iadd, 1) := by decide +kernel
theorem dX12_fillsFalls_103 : decode cX12_fillsFalls 103 = .ok (.iaload, 1) := by decide +kernel
theorem dX12_fillsFalls_104 : decode cX12_fillsFalls 104 = .ok (.iconst 4, 1) := by decide +kernel
theorem dX12_fillsFalls_105 : decode cX12_fillsFalls 105 = .ok (.idiv, 1) := by decide +kernel
theorem dX12_fillsFalls_106 : decode cX12_fillsFalls 106 = .ok (.istore_n 3, 1) := by decide +kernel
theorem dX12_fillsFalls_107 : decode cX12_fillsFalls 107 = .ok (.aload_n 0, 1) := by decide +kernel
theorem dX12_fillsFalls_108 : decode cX12_fillsFalls 108 = .ok (.getfield 122, 3) := by decide +kernel
theorem dX12_fillsFalls_111 : decode cX12_fillsFalls 111 = .ok (.bipush 8, 2) := by decide +kernel
theorem dX12_fillsFalls_113 : decode cX12_fillsFalls 113 = .ok (.iload_n 1, 1) := by decide +kernel
theorem dX12_fillsFalls_114 : decode cX12_fillsFalls 114 = .ok (.imul, 1) := by decide +kernel
theorem dX12_fillsFalls_115 : decode cX12_fillsFalls 115 = .ok (.iload_n 2, 1) := by decide +kernel
theorem dX12_fillsFalls_116 : decode cX12_fillsFalls 116 = .ok (.iadd, 1) := by decide +kernel
theorem dX12_fillsFalls_117 : decode cX12_fillsFalls 117 = .ok (.dup2, 1) := by decide +kernel
theorem dX12_fillsFalls_118 : decode cX12_fillsFalls 118 = .ok (.iaload, 1) := by decide +kernel
theorem dX12_fillsFalls_119 : decode cX12_fillsFalls 119 = .ok (.iload_n 3, 1) := by decide +kernel
theorem dX12_fillsFalls_120 : decode cX12_fillsFalls 120 = .ok (.iconst 4, 1) := by decide +kernel
theorem dX12_fillsFalls_121 : decode cX12_fillsFalls 121 = .ok (.aload_n 0, 1) := by decide +kernel
theorem dX12_fillsFalls_122 : decode cX12_fillsFalls 122 = .ok (.getfield 119, 3) := by decide +kernel
theorem dX12_fillsFalls_125 : decode cX12_fillsFalls 125 = .ok (.iload_n 1, 1) := by decide +kernel
theorem dX12_fillsFalls_126 : decode cX12_fillsFalls 126 = .ok (.iconst 1, 1) := by decide +kernel
theorem dX12_fillsFalls_127 : decode cX12_fillsFalls 127 = .ok (.isub, 1) := by decide +kernel
theorem dX12_fillsFalls_128 : decode cX12_fillsFalls 128 = .ok (.iaload, 1) := by decide +kernel
theorem dX12_fillsFalls_129 : decode cX12_fillsFalls 129 = .ok (.isub, 1) := by decide +kernel
theorem dX12_fillsFalls_130 : decode cX12_fillsFalls 130 = .ok (.imul, 1) := by decide +kernel
theorem dX12_fillsFalls_131 : decode cX12_fillsFalls 131 = .ok (.iadd, 1) := by decide +kernel
theorem dX12_fillsFalls_132 : decode cX12_fillsFalls 132 = .ok (.iastore, 1) := by decide +kernel
theorem dX12_fillsFalls_133 : decode cX12_fillsFalls 133 = .ok (.aload_n 0, 1) := by decide +kernel
theorem dX12_fillsFalls_134 : decode cX12_fillsFalls 134 = .ok (.getfield 122, 3) := by decide +kernel
theorem dX12_fillsFalls_137 : decode cX12_fillsFalls 137 = .ok (.bipush 8, 2) := by decide +kernel
theorem dX12_fillsFalls_139 : decode cX12_fillsFalls 139 = .ok (.iload_n 1, 1) := by decide +kernel
theorem dX12_fillsFalls_140 : decode cX12_fillsFalls 140 = .ok (.imul, 1) := by decide +kernel
theorem dX12_fillsFalls_141 : decode cX12_fillsFalls 141 = .ok (.iload_n 2, 1) := by decide +kernel
theorem dX12_fillsFalls_142 : decode cX12_fillsFalls 142 = .ok (.bipush 7, 2) := by decide +kernel
theorem dX12_fillsFalls_144 : decode cX12_fillsFalls 144 = .ok (.if_icmp .ge 9, 3) := by decide +kernel
theorem dX12_fillsFalls_147 : decode cX12_fillsFalls 147 = .ok (.iload_n 2, 1) := by decide +kernel
theorem dX12_fillsFalls_148 : decode cX12_fillsFalls 148 = .ok (.iconst 1, 1) := by decide +kernel
theorem dX12_fillsFalls_149 : decode cX12_fillsFalls 149 = .ok (.iadd, 1) := by decide +kernel
theorem dX12_fillsFalls_150 : decode cX12_fillsFalls 150 = .ok (.goto 5, 3) := by decide +kernel
theorem dX12_fillsFalls_153 : decode cX12_fillsFalls 153 = .ok (.bipush 7, 2) := by decide +kernel
theorem dX12_fillsFalls_155 : decode cX12_fillsFalls 155 = .ok (.iadd, 1) := by decide +kernel
theorem dX12_fillsFalls_156 : decode cX12_fillsFalls 156 = .ok (.dup2, 1) := by decide +kernel
theorem dX12_fillsFalls_157 : decode cX12_fillsFalls 157 = .ok (.iaload, 1) := by decide +kernel
theorem dX12_fillsFalls_158 : decode cX12_fillsFalls 158 = .ok (.iload_n 3, 1) := by decide +kernel
theorem dX12_fillsFalls_159 : decode cX12_fillsFalls 159 = .ok (.aload_n 0, 1) := by decide +kernel
theorem dX12_fillsFalls_160 : decode cX12_fillsFalls 160 = .ok (.getfield 119, 3) := by decide +kernel
theorem dX12_fillsFalls_163 : decode cX12_fillsFalls 163 = .ok (.iload_n 1, 1) := by decide +kernel
theorem dX12_fillsFalls_164 : decode cX12_fillsFalls 164 = .ok (.iconst 1, 1) := by decide +kernel
theorem dX12_fillsFalls_165 : decode cX12_fillsFalls 165 = .ok (.isub, 1) := by decide +kernel
theorem dX12_fillsFalls_166 : decode cX12_fillsFalls 166 = .ok (.iaload, 1) := by decide +kernel
theorem dX12_fillsFalls_167 : decode cX12_fillsFalls 167 = .ok (.imul, 1) := by decide +kernel
theorem dX12_fillsFalls_168 : decode cX12_fillsFalls 168 = .ok (.iadd, 1) := by decide +kernel
theorem dX12_fillsFalls_169 : decode cX12_fillsFalls 169 = .ok (.iastore, 1) := by decide +kernel
theorem dX12_fillsFalls_170 : decode cX12_fillsFalls 170 = .ok (.iinc 2 1, 3) := by decide +kernel
theorem dX12_fillsFalls_173 : decode cX12_fillsFalls 173 = .ok (.goto (-89), 3) := by decide +kernel
theorem dX12_fillsFalls_176 : decode cX12_fillsFalls 176 = .ok (.iinc 1 1, 3) := by decide +kernel
theorem dX12_fillsFalls_179 : decode cX12_fillsFalls 179 = .ok (.goto (-105), 3) := by decide +kernel
theorem dX12_fillsFalls_182 : decode cX12_fillsFalls 182 = .ok (.return_, 1) := by decide +kernel
theorem dX12_copiesFalls_0 : decode cX12_copiesFalls 0 = .ok (.aload_n 0, 1) := by decide +kernel
theorem dX12_copiesFalls_1 : decode cX12_copiesFalls 1 = .ok (.invokevirtual 369, 3) := by decide +kernel
theorem dX12_copiesFalls_4 : decode cX12_copiesFalls 4 = .ok (.aload_n 0, 1) := by decide +kernel
theorem dX12_copiesFalls_5 : decode cX12_copiesFalls 5 = .ok (.invokevirtual 403, 3) := by decide +kernel
theorem dX12_copiesFalls_8 : decode cX12_copiesFalls 8 = .ok (.return_, 1) := by decide +kernel
theorem dX12_oddsOf_0 : decode cX12_oddsOf 0 = .ok (.aload_n 0, 1) := by decide +kernel
theorem dX12_oddsOf_1 : decode cX12_oddsOf 1 = .ok (.invokevirtual 306, 3) := by decide +kernel
theorem dX12_oddsOf_4 : decode cX12_oddsOf 4 = .ok (.ifCond .ne 13, 3) := by decide +kernel
theorem dX12_oddsOf_7 : decode cX12_oddsOf 7 = .ok (.iload_n 1, 1) := by decide +kernel
theorem dX12_oddsOf_8 : decode cX12_oddsOf 8 = .ok (.ifCond .ne 7, 3) := by decide +kernel
theorem dX12_oddsOf_11 : decode cX12_oddsOf 11 = .ok (.iconst 1, 1) := by decide +kernel
theorem dX12_oddsOf_12 : decode cX12_oddsOf 12 = .ok (.goto 4, 3) := by decide +kernel
theorem dX12_oddsOf_15 : decode cX12_oddsOf 15 = .ok (.iconst 0, 1) := by decide +kernel
theorem dX12_oddsOf_16 : decode cX12_oddsOf 16 = .ok (.ireturn, 1) := by decide +kernel
theorem dX12_oddsOf_17 : decode cX12_oddsOf 17 = .ok (.iload_n 1, 1) := by decide +kernel
theorem dX12_oddsOf_18 : decode cX12_oddsOf 18 = .ok (.ifCond .ne 7, 3) := by decide +kernel
theorem dX12_oddsOf_21 : decode cX12_oddsOf 21 = .ok (.iconst 0, 1) := by decide +kernel
theorem dX12_oddsOf_22 : decode cX12_oddsOf 22 = .ok (.goto 22, 3) := by decide +kernel
theorem dX12_oddsOf_25 : decode cX12_oddsOf 25 = .ok (.aload_n 0, 1) := by decide +kernel
theorem dX12_oddsOf_26 : decode cX12_oddsOf 26 = .ok (.getfield 122, 3) := by decide +kernel
theorem dX12_oddsOf_29 : decode cX12_oddsOf 29 = .ok (.bipush 8, 2) := by decide +kernel
theorem dX12_oddsOf_31 : decode cX12_oddsOf 31 = .ok (.aload_n 0, 1) := by decide +kernel
theorem dX12_oddsOf_32 : decode cX12_oddsOf 32 = .ok (.invokevirtual 306, 3) := by decide +kernel
theorem dX12_oddsOf_35 : decode cX12_oddsOf 35 = .ok (.imul, 1) := by decide +kernel
theorem dX12_oddsOf_36 : decode cX12_oddsOf 36 = .ok (.bipush 8, 2) := by decide +kernel
theorem dX12_oddsOf_38 : decode cX12_oddsOf 38 = .ok (.isub, 1) := by decide +kernel
theorem dX12_oddsOf_39 : decode cX12_oddsOf 39 = .ok (.iload_n 1, 1) := by decide +kernel
theorem dX12_oddsOf_40 : decode cX12_oddsOf 40 = .ok (.iadd, 1) := by decide +kernel
theorem dX12_oddsOf_41 : decode cX12_oddsOf 41 = .ok (.iconst 1, 1) := by decide +kernel
theorem dX12_oddsOf_42 : decode cX12_oddsOf 42 = .ok (.isub, 1) := by decide +kernel
theorem dX12_oddsOf_43 : decode cX12_oddsOf 43 = .ok (.iaload, 1) := by decide +kernel
theorem dX12_oddsOf_44 : decode cX12_oddsOf 44 = .ok (.ireturn, 1) := by decide +kernel
theorem dX12_odds_0 : decode cX12_odds 0 = .ok (.iload_n 1, 1) := by decide +kernel
theorem dX12_odds_1 : decode cX12_odds 1 = .ok (.iconst 0, 1) := by decide +kernel
theorem dX12_odds_2 : decode cX12_odds 2 = .ok (.bipush 8, 2) := by decide +kernel
theorem dX12_odds_4 : decode cX12_odds 4 = .ok (.invokestatic 310, 3) := by decide +kernel
theorem dX12_odds_7 : decode cX12_odds 7 = .ok (.ifCond .ne 5, 3) := by decide +kernel
theorem dX12_odds_10 : decode cX12_odds 10 = .ok (.iconst (-1), 1) := by decide +kernel
theorem dX12_odds_11 : decode cX12_odds 11 = .ok (.ireturn, 1) := by decide +kernel
theorem dX12_odds_12 : decode cX12_odds 12 = .ok (.aload_n 0, 1) := by decide +kernel
theorem dX12_odds_13 : decode cX12_odds 13 = .ok (.invokevirtual 406, 3) := by decide +kernel
theorem dX12_odds_16 : decode cX12_odds 16 = .ok (.aload_n 0, 1) := by decide +kernel
theorem dX12_odds_17 : decode cX12_odds 17 = .ok (.iload_n 1, 1) := by decide +kernel
theorem dX12_odds_18 : decode cX12_odds 18 = .ok (.invokevirtual 409, 3) := by decide +kernel
theorem dX12_odds_21 : decode cX12_odds 21 = .ok (.ireturn, 1) := by decide +kernel
theorem dX12_falls_0 : decode cX12_falls 0 = .ok (.aload_n 0, 1) := by decide +kernel
theorem dX12_falls_1 : decode cX12_falls 1 = .ok (.iload_n 1, 1) := by decide +kernel
theorem dX12_falls_2 : decode cX12_falls 2 = .ok (.invokevirtual 366, 3) := by decide +kernel
theorem dX12_falls_5 : decode cX12_falls 5 = .ok (.ifCond .eq 10, 3) := by decide +kernel
theorem dX12_falls_8 : decode cX12_falls 8 = .ok (.iload_n 2, 1) := by decide +kernel
theorem dX12_falls_9 : decode cX12_falls 9 = .ok (.invokestatic 378, 3) := by decide +kernel
theorem dX12_falls_12 : decode cX12_falls 12 = .ok (.ifCond .ne 5, 3) := by decide +kernel
theorem dX12_falls_15 : decode cX12_falls 15 = .ok (.iconst (-1), 1) := by decide +kernel
theorem dX12_falls_16 : decode cX12_falls 16 = .ok (.ireturn, 1) := by decide +kernel
theorem dX12_falls_17 : decode cX12_falls 17 = .ok (.aload_n 0, 1) := by decide +kernel
theorem dX12_falls_18 : decode cX12_falls 18 = .ok (.invokevirtual 406, 3) := by decide +kernel
theorem dX12_falls_21 : decode cX12_falls 21 = .ok (.aload_n 0, 1) := by decide +kernel
theorem dX12_falls_22 : decode cX12_falls 22 = .ok (.getfield 122, 3) := by decide +kernel
theorem dX12_falls_25 : decode cX12_falls 25 = .ok (.bipush 8, 2) := by decide +kernel
theorem dX12_falls_27 : decode cX12_falls 27 = .ok (.iload_n 1, 1) := by decide +kernel
theorem dX12_falls_28 : decode cX12_falls 28 = .ok (.imul, 1) := by decide +kernel
theorem dX12_falls_29 : decode cX12_falls 29 = .ok (.iload_n 2, 1) := by decide +kernel
theorem dX12_falls_30 : decode cX12_falls 30 = .ok (.iadd, 1) := by decide +kernel
theorem dX12_falls_31 : decode cX12_falls 31 = .ok (.iaload, 1) := by decide +kernel
theorem dX12_falls_32 : decode cX12_falls 32 = .ok (.ireturn, 1) := by decide +kernel
theorem dX12_valueOf_0 : decode cX12_valueOf 0 = .ok (.iconst 0, 1) := by decide +kernel
theorem dX12_valueOf_1 : decode cX12_valueOf 1 = .ok (.istore_n 3, 1) := by decide +kernel
theorem dX12_valueOf_2 : decode cX12_valueOf 2 = .ok (.iconst 0, 1) := by decide +kernel
theorem dX12_valueOf_3 : decode cX12_valueOf 3 = .ok (.istore 4, 2) := by decide +kernel
theorem dX12_valueOf_5 : decode cX12_valueOf 5 = .ok (.iload 4, 2) := by decide +kernel
theorem dX12_valueOf_7 : decode cX12_valueOf 7 = .ok (.aload_n 0, 1) := by decide +kernel
theorem dX12_valueOf_8 : decode cX12_valueOf 8 = .ok (.invokevirtual 306, 3) := by decide +kernel
theorem dX12_valueOf_11 : decode cX12_valueOf 11 = .ok (.if_icmp .ge 33, 3) := by decide +kernel
theorem dX12_valueOf_14 : decode cX12_valueOf 14 = .ok (.iload_n 3, 1) := by decide +kernel
theorem dX12_valueOf_15 : decode cX12_valueOf 15 = .ok (.aload_n 0, 1) := by decide +kernel
theorem dX12_valueOf_16 : decode cX12_valueOf 16 = .ok (.getfield 122, 3) := by decide +kernel
theorem dX12_valueOf_19 : decode cX12_valueOf 19 = .ok (.bipush 8, 2) := by decide +kernel
theorem dX12_valueOf_21 : decode cX12_valueOf 21 = .ok (.iload 4, 2) := by decide +kernel
theorem dX12_valueOf_23 : decode cX12_valueOf 23 = .ok (.imul, 1) := by decide +kernel
theorem dX12_valueOf_24 : decode cX12_valueOf 24 = .ok (.iload_n 2, 1) := by decide +kernel
theorem dX12_valueOf_25 : decode cX12_valueOf 25 = .ok (.iadd, 1) := by decide +kernel
theorem dX12_valueOf_26 : decode cX12_valueOf 26 = .ok (.iaload, 1) := by decide +kernel
theorem dX12_valueOf_27 : decode cX12_valueOf 27 = .ok (.aload_n 0, 1) := by decide +kernel
theorem dX12_valueOf_28 : decode cX12_valueOf 28 = .ok (.iload_n 1, 1) := by decide +kernel
theorem dX12_valueOf_29 : decode cX12_valueOf 29 = .ok (.iload 4, 2) := by decide +kernel
theorem dX12_valueOf_31 : decode cX12_valueOf 31 = .ok (.iload_n 2, 1) := by decide +kernel
theorem dX12_valueOf_32 : decode cX12_valueOf 32 = .ok (.invokevirtual 354, 3) := by decide +kernel
theorem dX12_valueOf_35 : decode cX12_valueOf 35 = .ok (.imul, 1) := by decide +kernel
theorem dX12_valueOf_36 : decode cX12_valueOf 36 = .ok (.iadd, 1) := by decide +kernel
theorem dX12_valueOf_37 : decode cX12_valueOf 37 = .ok (.istore_n 3, 1) := by decide +kernel
theorem dX12_valueOf_38 : decode cX12_valueOf 38 = .ok (.iinc 4 1, 3) := by decide +kernel
theorem dX12_valueOf_41 : decode cX12_valueOf 41 = .ok (.goto (-36), 3) := by decide +kernel
theorem dX12_valueOf_44 : decode cX12_valueOf 44 = .ok (.iload_n 3, 1) := by decide +kernel
theorem dX12_valueOf_45 : decode cX12_valueOf 45 = .ok (.ireturn, 1) := by decide +kernel
theorem dX12_value_0 : decode cX12_value 0 = .ok (.aload_n 0, 1) := by decide +kernel
theorem dX12_value_1 : decode cX12_value 1 = .ok (.iload_n 1, 1) := by decide +kernel
theorem dX12_value_2 : decode cX12_value 2 = .ok (.invokevirtual 372, 3) := by decide +kernel
theorem dX12_value_5 : decode cX12_value 5 = .ok (.ifCond .eq 10, 3) := by decide +kernel
theorem dX12_value_8 : decode cX12_value 8 = .ok (.iload_n 2, 1) := by decide +kernel
theorem dX12_value_9 : decode cX12_value 9 = .ok (.invokestatic 378, 3) := by decide +kernel
theorem dX12_value_12 : decode cX12_value 12 = .ok (.ifCond .ne 5, 3) := by decide +kernel
theorem dX12_value_15 : decode cX12_value 15 = .ok (.iconst (-1), 1) := by decide +kernel
theorem dX12_value_16 : decode cX12_value 16 = .ok (.ireturn, 1) := by decide +kernel
theorem dX12_value_17 : decode cX12_value 17 = .ok (.aload_n 0, 1) := by decide +kernel
theorem dX12_value_18 : decode cX12_value 18 = .ok (.invokevirtual 406, 3) := by decide +kernel
theorem dX12_value_21 : decode cX12_value 21 = .ok (.aload_n 0, 1) := by decide +kernel
theorem dX12_value_22 : decode cX12_value 22 = .ok (.iload_n 1, 1) := by decide +kernel
theorem dX12_value_23 : decode cX12_value 23 = .ok (.iload_n 2, 1) := by decide +kernel
theorem dX12_value_24 : decode cX12_value 24 = .ok (.invokevirtual 412, 3) := by decide +kernel
theorem dX12_value_27 : decode cX12_value 27 = .ok (.ireturn, 1) := by decide +kernel
theorem dX12_haveOf_0 : decode cX12_haveOf 0 = .ok (.iconst 0, 1) := by decide +kernel
theorem dX12_haveOf_1 : decode cX12_haveOf 1 = .ok (.istore_n 2, 1) := by decide +kernel
theorem dX12_haveOf_2 : decode cX12_haveOf 2 = .ok (.iconst 0, 1) := by decide +kernel
theorem dX12_haveOf_3 : decode cX12_haveOf 3 = .ok (.istore_n 3, 1) := by decide +kernel
theorem dX12_haveOf_4 : decode cX12_haveOf 4 = .ok (.iload_n 3, 1) := by decide +kernel
theorem dX12_haveOf_5 : decode cX12_haveOf 5 = .ok (.bipush 8, 2) := by decide +kernel
theorem dX12_haveOf_7 : decode cX12_haveOf 7 = .ok (.if_icmp .ge 31, 3) := by decide +kernel
theorem dX12_haveOf_10 : decode cX12_haveOf 10 = .ok (.aload_n 0, 1) := by decide +kernel
theorem dX12_haveOf_11 : decode cX12_haveOf 11 = .ok (.getfield 113, 3) := by decide +kernel
theorem dX12_haveOf_14 : decode cX12_haveOf 14 = .ok (.bipush 10, 2) := by decide +kernel
theorem dX12_haveOf_16 : decode cX12_haveOf 16 = .ok (.iload_n 3, 1) := by decide +kernel
theorem dX12_haveOf_17 : decode cX12_haveOf 17 = .ok (.iadd, 1) := by decide +kernel
theorem dX12_haveOf_18 : decode cX12_haveOf 18 = .ok (.iaload, 1) := by decide +kernel
theorem dX12_haveOf_19 : decode cX12_haveOf 19 = .ok (.iload_n 1, 1) := by decide +kernel
theorem dX12_haveOf_20 : decode cX12_haveOf 20 = .ok (.if_icmp .ne 12, 3) := by decide +kernel
theorem dX12_haveOf_23 : decode cX12_haveOf 23 = .ok (.iload_n 2, 1) := by decide +kernel
theorem dX12_haveOf_24 : decode cX12_haveOf 24 = .ok (.aload_n 0, 1) := by decide +kernel
theorem dX12_haveOf_25 : decode cX12_haveOf 25 = .ok (.iload_n 1, 1) := by decide +kernel
theorem dX12_haveOf_26 : decode cX12_haveOf 26 = .ok (.iload_n 3, 1) := by decide +kernel
theorem dX12_haveOf_27 : decode cX12_haveOf 27 = .ok (.invokevirtual 412, 3) := by decide +kernel
theorem dX12_haveOf_30 : decode cX12_haveOf 30 = .ok (.iadd, 1) := by decide +kernel
theorem dX12_haveOf_31 : decode cX12_haveOf 31 = .ok (.istore_n 2, 1) := by decide +kernel
theorem dX12_haveOf_32 : decode cX12_haveOf 32 = .ok (.iinc 3 1, 3) := by decide +kernel
theorem dX12_haveOf_35 : decode cX12_haveOf 35 = .ok (.goto (-31), 3) := by decide +kernel
theorem dX12_haveOf_38 : decode cX12_haveOf 38 = .ok (.iload_n 2, 1) := by decide +kernel
theorem dX12_haveOf_39 : decode cX12_haveOf 39 = .ok (.ireturn, 1) := by decide +kernel
theorem dX12_have_0 : decode cX12_have 0 = .ok (.aload_n 0, 1) := by decide +kernel
theorem dX12_have_1 : decode cX12_have 1 = .ok (.iload_n 1, 1) := by decide +kernel
theorem dX12_have_2 : decode cX12_have 2 = .ok (.invokevirtual 372, 3) := by decide +kernel
theorem dX12_have_5 : decode cX12_have 5 = .ok (.ifCond .ne 5, 3) := by decide +kernel
theorem dX12_have_8 : decode cX12_have 8 = .ok (.iconst (-1), 1) := by decide +kernel
theorem dX12_have_9 : decode cX12_have 9 = .ok (.ireturn, 1) := by decide +kernel
theorem dX12_have_10 : decode cX12_have 10 = .ok (.aload_n 0, 1) := by decide +kernel
theorem dX12_have_11 : decode cX12_have 11 = .ok (.invokevirtual 406, 3) := by decide +kernel
theorem dX12_have_14 : decode cX12_have 14 = .ok (.aload_n 0, 1) := by decide +kernel
theorem dX12_have_15 : decode cX12_have 15 = .ok (.iload_n 1, 1) := by decide +kernel
theorem dX12_have_16 : decode cX12_have 16 = .ok (.invokevirtual 415, 3) := by decide +kernel
theorem dX12_have_19 : decode cX12_have 19 = .ok (.ireturn, 1) := by decide +kernel
theorem dX12_mode_0 : decode cX12_mode 0 = .ok (.aload_n 0, 1) := by decide +kernel
theorem dX12_mode_1 : decode cX12_mode 1 = .ok (.iload_n 1, 1) := by decide +kernel
theorem dX12_mode_2 : decode cX12_mode 2 = .ok (.invokevirtual 366, 3) := by decide +kernel
theorem dX12_mode_5 : decode cX12_mode 5 = .ok (.ifCond .eq 12, 3) := by decide +kernel
theorem dX12_mode_8 : decode cX12_mode 8 = .ok (.iload_n 2, 1) := by decide +kernel
theorem dX12_mode_9 : decode cX12_mode 9 = .ok (.iconst 0, 1) := by decide +kernel
theorem dX12_mode_10 : decode cX12_mode 10 = .ok (.iconst 1, 1) := by decide +kernel
theorem dX12_mode_11 : decode cX12_mode 11 = .ok (.invokestatic 310, 3) := by decide +kernel
theorem dX12_mode_14 : decode cX12_mode 14 = .ok (.ifCond .ne 5, 3) := by decide +kernel
theorem dX12_mode_17 : decode cX12_mode 17 = .ok (.iconst (-1), 1) := by decide +kernel
theorem dX12_mode_18 : decode cX12_mode 18 = .ok (.ireturn, 1) := by decide +kernel
theorem dX12_mode_19 : decode cX12_mode 19 = .ok (.aload_n 0, 1) := by decide +kernel
theorem dX12_mode_20 : decode cX12_mode 20 = .ok (.invokevirtual 406, 3) := by decide +kernel
theorem dX12_mode_23 : decode cX12_mode 23 = .ok (.iconst 0, 1) := by decide +kernel
theorem dX12_mode_24 : decode cX12_mode 24 = .ok (.istore_n 3, 1) := by decide +kernel
theorem dX12_mode_25 : decode cX12_mode 25 = .ok (.iconst 1, 1) := by decide +kernel
theorem dX12_mode_26 : decode cX12_mode 26 = .ok (.istore 4, 2) := by decide +kernel
theorem dX12_mode_28 : decode cX12_mode 28 = .ok (.iload 4, 2) := by decide +kernel
theorem dX12_mode_30 : decode cX12_mode 30 = .ok (.bipush 8, 2) := by decide +kernel
theorem dX12_mode_32 : decode cX12_mode 32 = .ok (.if_icmp .ge 38, 3) := by decide +kernel
theorem dX12_mode_35 : decode cX12_mode 35 = .ok (.aload_n 0, 1) := by decide +kernel
theorem dX12_mode_36 : decode cX12_mode 36 = .ok (.getfield 122, 3) := by decide +kernel
theorem dX12_mode_39 : decode cX12_mode 39 = .ok (.bipush 8, 2) := by decide +kernel
theorem dX12_mode_41 : decode cX12_mode 41 = .ok (.iload_n 1, 1) := by decide +kernel
theorem dX12_mode_42 : decode cX12_mode 42 = .ok (.imul, 1) := by decide +kernel
theorem dX12_mode_43 : decode cX12_mode 43 = .ok (.iload 4, 2) := by decide +kernel
theorem dX12_mode_45 : decode cX12_mode 45 = .ok (.iadd, 1) := by decide +kernel
theorem dX12_mode_46 : decode cX12_mode 46 = .ok (.iaload, 1) := by decide +kernel
theorem dX12_mode_47 : decode cX12_mode 47 = .ok (.aload_n 0, 1) := by decide +kernel
theorem dX12_mode_48 : decode cX12_mode 48 = .ok (.getfield 122, 3) := by decide +kernel
theorem dX12_mode_51 : decode cX12_mode 51 = .ok (.bipush 8, 2) := by decide +kernel
theorem dX12_mode_53 : decode cX12_mode 53 = .ok (.iload_n 1, 1) := by decide +kernel
theorem dX12_mode_54 : decode cX12_mode 54 = .ok (.imul, 1) := by decide +kernel
theorem dX12_mode_55 : decode cX12_mode 55 = .ok (.iload_n 3, 1) := by decide +kernel
theorem dX12_mode_56 : decode cX12_mode 56 = .ok (.iadd, 1) := by decide +kernel
theorem dX12_mode_57 : decode cX12_mode 57 = .ok (.iaload, 1) := by decide +kernel
theorem dX12_mode_58 : decode cX12_mode 58 = .ok (.if_icmp .le 6, 3) := by decide +kernel
theorem dX12_mode_61 : decode cX12_mode 61 = .ok (.iload 4, 2) := by decide +kernel
theorem dX12_mode_63 : decode cX12_mode 63 = .ok (.istore_n 3, 1) := by decide +kernel
theorem dX12_mode_64 : decode cX12_mode 64 = .ok (.iinc 4 1, 3) := by decide +kernel
theorem dX12_mode_67 : decode cX12_mode 67 = .ok (.goto (-39), 3) := by decide +kernel
theorem dX12_mode_70 : decode cX12_mode 70 = .ok (.iload_n 2, 1) := by decide +kernel
theorem dX12_mode_71 : decode cX12_mode 71 = .ok (.ifCond .ne 7, 3) := by decide +kernel
theorem dX12_mode_74 : decode cX12_mode 74 = .ok (.iload_n 3, 1) := by decide +kernel
theorem dX12_mode_75 : decode cX12_mode 75 = .ok (.goto 14, 3) := by decide +kernel
theorem dX12_mode_78 : decode cX12_mode 78 = .ok (.aload_n 0, 1) := by decide +kernel
theorem dX12_mode_79 : decode cX12_mode 79 = .ok (.getfield 122, 3) := by decide +kernel
theorem dX12_mode_82 : decode cX12_mode 82 = .ok (.bipush 8, 2) := by decide +kernel
theorem dX12_mode_84 : decode cX12_mode 84 = .ok (.iload_n 1, 1) := by decide +kernel
theorem dX12_mode_85 : decode cX12_mode 85 = .ok (.imul, 1) := by decide +kernel
theorem dX12_mode_86 : decode cX12_mode 86 = .ok (.iload_n 3, 1) := by decide +kernel
theorem dX12_mode_87 : decode cX12_mode 87 = .ok (.iadd, 1) := by decide +kernel
theorem dX12_mode_88 : decode cX12_mode 88 = .ok (.iaload, 1) := by decide +kernel
theorem dX12_mode_89 : decode cX12_mode 89 = .ok (.ireturn, 1) := by decide +kernel
theorem dX12_mean_0 : decode cX12_mean 0 = .ok (.aload_n 0, 1) := by decide +kernel
theorem dX12_mean_1 : decode cX12_mean 1 = .ok (.invokevirtual 406, 3) := by decide +kernel
theorem dX12_mean_4 : decode cX12_mean 4 = .ok (.iconst 0, 1) := by decide +kernel
theorem dX12_mean_5 : decode cX12_mean 5 = .ok (.istore_n 1, 1) := by decide +kernel
theorem dX12_mean_6 : decode cX12_mean 6 = .ok (.iconst 1, 1) := by decide +kernel
theorem dX12_mean_7 : decode cX12_mean 7 = .ok (.istore_n 2, 1) := by decide +kernel
theorem dX12_mean_8 : decode cX12_mean 8 = .ok (.iload_n 2, 1) := by decide +kernel
theorem dX12_mean_9 : decode cX12_mean 9 = .ok (.bipush 8, 2) := by decide +kernel
theorem dX12_mean_11 : decode cX12_mean 11 = .ok (.if_icmp .gt 19, 3) := by decide +kernel
theorem dX12_mean_14 : decode cX12_mean 14 = .ok (.iload_n 1, 1) := by decide +kernel
theorem dX12_mean_15 : decode cX12_mean 15 = .ok (.iload_n 2, 1) := by decide +kernel
theorem dX12_mean_16 : decode cX12_mean 16 = .ok (.aload_n 0, 1) := by decide +kernel
theorem dX12_mean_17 : decode cX12_mean 17 = .ok (.iload_n 2, 1) := by decide +kernel
theorem dX12_mean_18 : decode cX12_mean 18 = .ok (.invokevirtual 409, 3) := by decide +kernel
theorem dX12_mean_21 : decode cX12_mean 21 = .ok (.imul, 1) := by decide +kernel
theorem dX12_mean_22 : decode cX12_mean 22 = .ok (.iadd, 1) := by decide +kernel
theorem dX12_mean_23 : decode cX12_mean 23 = .ok (.istore_n 1, 1) := by decide +kernel
theorem dX12_mean_24 : decode cX12_mean 24 = .ok (.iinc 2 1, 3) := by decide +kernel
theorem dX12_mean_27 : decode cX12_mean 27 = .ok (.goto (-19), 3) := by decide +kernel
theorem dX12_mean_30 : decode cX12_mean 30 = .ok (.iload_n 1, 1) := by decide +kernel
theorem dX12_mean_31 : decode cX12_mean 31 = .ok (.ireturn, 1) := by decide +kernel
theorem dX12_both_0 : decode cX12_both 0 = .ok (.aload_n 0, 1) := by decide +kernel
theorem dX12_both_1 : decode cX12_both 1 = .ok (.iload_n 1, 1) := by decide +kernel
theorem dX12_both_2 : decode cX12_both 2 = .ok (.invokevirtual 366, 3) := by decide +kernel
theorem dX12_both_5 : decode cX12_both 5 = .ok (.ifCond .eq 11, 3) := by decide +kernel
theorem dX12_both_8 : decode cX12_both 8 = .ok (.aload_n 0, 1) := by decide +kernel
theorem dX12_both_9 : decode cX12_both 9 = .ok (.iload_n 2, 1) := by decide +kernel
theorem dX12_both_10 : decode cX12_both 10 = .ok (.invokevirtual 366, 3) := by decide +kernel
theorem dX12_both_13 : decode cX12_both 13 = .ok (.ifCond .ne 5, 3) := by decide +kernel
theorem dX12_both_16 : decode cX12_both 16 = .ok (.iconst (-1), 1) := by decide +kernel
theorem dX12_both_17 : decode cX12_both 17 = .ok (.ireturn, 1) := by decide +kernel
theorem dX12_both_18 : decode cX12_both 18 = .ok (.aload_n 0, 1) := by decide +kernel
theorem dX12_both_19 : decode cX12_both 19 = .ok (.invokevirtual 406, 3) := by decide +kernel
theorem dX12_both_22 : decode cX12_both 22 = .ok (.iload_n 1, 1) := by decide +kernel
theorem dX12_both_23 : decode cX12_both 23 = .ok (.iload_n 2, 1) := by decide +kernel
theorem dX12_both_24 : decode cX12_both 24 = .ok (.if_icmp .ge 7, 3) := by decide +kernel
theorem dX12_both_27 : decode cX12_both 27 = .ok (.iload_n 1, 1) := by decide +kernel
theorem dX12_both_28 : decode cX12_both 28 = .ok (.goto 4, 3) := by decide +kernel
theorem dX12_both_31 : decode cX12_both 31 = .ok (.iload_n 2, 1) := by decide +kernel
theorem dX12_both_32 : decode cX12_both 32 = .ok (.istore_n 3, 1) := by decide +kernel
theorem dX12_both_33 : decode cX12_both 33 = .ok (.iload_n 1, 1) := by decide +kernel
theorem dX12_both_34 : decode cX12_both 34 = .ok (.iload_n 2, 1) := by decide +kernel
theorem dX12_both_35 : decode cX12_both 35 = .ok (.if_icmp .ge 7, 3) := by decide +kernel
theorem dX12_both_38 : decode cX12_both 38 = .ok (.iload_n 2, 1) := by decide +kernel
theorem dX12_both_39 : decode cX12_both 39 = .ok (.goto 4, 3) := by decide +kernel
theorem dX12_both_42 : decode cX12_both 42 = .ok (.iload_n 1, 1) := by decide +kernel
theorem dX12_both_43 : decode cX12_both 43 = .ok (.istore 4, 2) := by decide +kernel
theorem dX12_both_45 : decode cX12_both 45 = .ok (.aload_n 0, 1) := by decide +kernel
theorem dX12_both_46 : decode cX12_both 46 = .ok (.getfield 122, 3) := by decide +kernel
theorem dX12_both_49 : decode cX12_both 49 = .ok (.bipush 8, 2) := by decide +kernel
theorem dX12_both_51 : decode cX12_both 51 = .ok (.iload_n 3, 1) := by decide +kernel
theorem dX12_both_52 : decode cX12_both 52 = .ok (.imul, 1) := by decide +kernel
theorem dX12_both_53 : decode cX12_both 53 = .ok (.bipush 7, 2) := by decide +kernel
theorem dX12_both_55 : decode cX12_both 55 = .ok (.iadd, 1) := by decide +kernel
theorem dX12_both_56 : decode cX12_both 56 = .ok (.iaload, 1) := by decide +kernel
theorem dX12_both_57 : decode cX12_both 57 = .ok (.istore 5, 2) := by decide +kernel
theorem dX12_both_59 : decode cX12_both 59 = .ok (.iconst 0, 1) := by decide +kernel
theorem dX12_both_60 : decode cX12_both 60 = .ok (.istore 6, 2) := by decide +kernel
theorem dX12_both_62 : decode cX12_both 62 = .ok (.iload 6, 2) := by decide +kernel
theorem dX12_both_64 : decode cX12_both 64 = .ok (.bipush 7, 2) := by decide +kernel
theorem dX12_both_66 : decode cX12_both 66 = .ok (.if_icmp .ge 68, 3) := by decide +kernel
theorem dX12_both_69 : decode cX12_both 69 = .ok (.aload_n 0, 1) := by decide +kernel
theorem dX12_both_70 : decode cX12_both 70 = .ok (.getfield 122, 3) := by decide +kernel
theorem dX12_both_73 : decode cX12_both 73 = .ok (.bipush 8, 2) := by decide +kernel
theorem dX12_both_75 : decode cX12_both 75 = .ok (.iload_n 3, 1) := by decide +kernel
theorem dX12_both_76 : decode cX12_both 76 = .ok (.imul, 1) := by decide +kernel
theorem dX12_both_77 : decode cX12_both 77 = .ok (.iload 6, 2) := by decide +kernel
theorem dX12_both_79 : decode cX12_both 79 = .ok (.iadd, 1) := by decide +kernel
theorem dX12_both_80 : decode cX12_both 80 = .ok (.iaload, 1) := by decide +kernel
theorem dX12_both_81 : decode cX12_both 81 = .ok (.iload 4, 2) := by decide +kernel
theorem dX12_both_83 : decode cX12_both 83 = .ok (.iload_n 3, 1) := by decide +kernel
theorem dX12_both_84 : decode cX12_both 84 = .ok (.isub, 1) := by decide +kernel
theorem dX12_both_85 : decode cX12_both 85 = .ok (.invokestatic 400, 3) := by decide +kernel
theorem dX12_both_88 : decode cX12_both 88 = .ok (.idiv, 1) := by decide +kernel
theorem dX12_both_89 : decode cX12_both 89 = .ok (.istore 7, 2) := by decide +kernel
theorem dX12_both_91 : decode cX12_both 91 = .ok (.iload_n 3, 1) := by decide +kernel
theorem dX12_both_92 : decode cX12_both 92 = .ok (.istore 8, 2) := by decide +kernel
theorem dX12_both_94 : decode cX12_both 94 = .ok (.iload 8, 2) := by decide +kernel
theorem dX12_both_96 : decode cX12_both 96 = .ok (.iload 4, 2) := by decide +kernel
theorem dX12_both_98 : decode cX12_both 98 = .ok (.if_icmp .ge 23, 3) := by decide +kernel
theorem dX12_both_101 : decode cX12_both 101 = .ok (.iload 7, 2) := by decide +kernel
theorem dX12_both_103 : decode cX12_both 103 = .ok (.iconst 4, 1) := by decide +kernel
theorem dX12_both_104 : decode cX12_both 104 = .ok (.aload_n 0, 1) := by decide +kernel
theorem dX12_both_105 : decode cX12_both 105 = .ok (.getfield 119, 3) := by decide +kernel
theorem dX12_both_108 : decode cX12_both 108 = .ok (.iload 8, 2) := by decide +kernel
theorem dX12_both_110 : decode cX12_both 110 = .ok (.iaload, 1) := by decide +kernel
theorem dX12_both_111 : decode cX12_both 111 = .ok (.isub, 1) := by decide +kernel
theorem dX12_both_112 : decode cX12_both 112 = .ok (.imul, 1) := by decide +kernel
theorem dX12_both_113 : decode cX12_both 113 = .ok (.istore 7, 2) := by decide +kernel
theorem dX12_both_115 : decode cX12_both 115 = .ok (.iinc 8 1, 3) := by decide +kernel
theorem dX12_both_118 : decode cX12_both 118 = .ok (.goto (-24), 3) := by decide +kernel
theorem dX12_both_121 : decode cX12_both 121 = .ok (.iload 5, 2) := by decide +kernel
theorem dX12_both_123 : decode cX12_both 123 = .ok (.iload 7, 2) := by decide +kernel
theorem dX12_both_125 : decode cX12_both 125 = .ok (.iadd, 1) := by decide +kernel
theorem dX12_both_126 : decode cX12_both 126 = .ok (.istore 5, 2) := by decide +kernel
theorem dX12_both_128 : decode cX12_both 128 = .ok (.iinc 6 1, 3) := by decide +kernel
theorem dX12_both_131 : decode cX12_both 131 = .ok (.goto (-69), 3) := by decide +kernel
theorem dX12_both_134 : decode cX12_both 134 = .ok (.iload 5, 2) := by decide +kernel
theorem dX12_both_136 : decode cX12_both 136 = .ok (.ireturn, 1) := by decide +kernel
theorem dX12_goesWith_0 : decode cX12_goesWith 0 = .ok (.iconst 0, 1) := by decide +kernel
theorem dX12_goesWith_1 : decode cX12_goesWith 1 = .ok (.istore_n 3, 1) := by decide +kernel
theorem dX12_goesWith_2 : decode cX12_goesWith 2 = .ok (.iload_n 3, 1) := by decide +kernel
theorem dX12_goesWith_3 : decode cX12_goesWith 3 = .ok (.bipush 88, 2) := by decide +kernel
theorem dX12_goesWith_5 : decode cX12_goesWith 5 = .ok (.if_icmp .ge 16, 3) := by decide +kernel
theorem dX12_goesWith_8 : decode cX12_goesWith 8 = .ok (.aload_n 0, 1) := by decide +kernel
theorem dX12_goesWith_9 : decode cX12_goesWith 9 = .ok (.getfield 128, 3) := by decide +kernel
theorem dX12_goesWith_12 : decode cX12_goesWith 12 = .ok (.iload_n 3, 1) := by decide +kernel
theorem dX12_goesWith_13 : decode cX12_goesWith 13 = .ok (.iconst 0, 1) := by decide +kernel
theorem dX12_goesWith_14 : decode cX12_goesWith 14 = .ok (.iastore, 1) := by decide +kernel
theorem dX12_goesWith_15 : decode cX12_goesWith 15 = .ok (.iinc 3 1, 3) := by decide +kernel
theorem dX12_goesWith_18 : decode cX12_goesWith 18 = .ok (.goto (-16), 3) := by decide +kernel
theorem dX12_goesWith_21 : decode cX12_goesWith 21 = .ok (.iconst 0, 1) := by decide +kernel
theorem dX12_goesWith_22 : decode cX12_goesWith 22 = .ok (.istore_n 3, 1) := by decide +kernel
theorem dX12_goesWith_23 : decode cX12_goesWith 23 = .ok (.iload_n 3, 1) := by decide +kernel
theorem dX12_goesWith_24 : decode cX12_goesWith 24 = .ok (.bipush 88, 2) := by decide +kernel
theorem dX12_goesWith_26 : decode cX12_goesWith 26 = .ok (.if_icmp .ge 119, 3) := by decide +kernel
theorem dX12_goesWith_29 : decode cX12_goesWith 29 = .ok (.aload_n 0, 1) := by decide +kernel
theorem dX12_goesWith_30 : decode cX12_goesWith 30 = .ok (.getfield 125, 3) := by decide +kernel
theorem dX12_goesWith_33 : decode cX12_goesWith 33 = .ok (.iload_n 3, 1) := by decide +kernel
theorem dX12_goesWith_34 : decode cX12_goesWith 34 = .ok (.iaload, 1) := by decide +kernel
theorem dX12_goesWith_35 : decode cX12_goesWith 35 = .ok (.ifCond .ne 6, 3) := by decide +kernel
theorem dX12_goesWith_38 : decode cX12_goesWith 38 = .ok (.goto 101, 3) := by decide +kernel
theorem dX12_goesWith_41 : decode cX12_goesWith 41 = .ok (.iload_n 3, 1) := by decide +kernel
theorem dX12_goesWith_42 : decode cX12_goesWith 42 = .ok (.bipush 11, 2) := by decide +kernel
theorem dX12_goesWith_44 : decode cX12_goesWith 44 = .ok (.idiv, 1) := by decide +kernel
theorem dX12_goesWith_45 : decode cX12_goesWith 45 = .ok (.istore 4, 2) := by decide +kernel
theorem dX12_goesWith_47 : decode cX12_goesWith 47 = .ok (.iload_n 3, 1) := by decide +kernel
theorem dX12_goesWith_48 : decode cX12_goesWith 48 = .ok (.bipush 11, 2) := by decide +kernel
theorem dX12_goesWith_50 : decode cX12_goesWith 50 = .ok (.irem, 1) := by decide +kernel
theorem dX12_goesWith_51 : decode cX12_goesWith 51 = .ok (.iload 4, 2) := by decide +kernel
theorem dX12_goesWith_53 : decode cX12_goesWith 53 = .ok (.iload_n 1, 1) := by decide +kernel
theorem dX12_goesWith_54 : decode cX12_goesWith 54 = .ok (.if_icmp .ne 7, 3) := by decide +kernel
theorem dX12_goesWith_57 : decode cX12_goesWith 57 = .ok (.iconst 1, 1) := by decide +kernel
theorem dX12_goesWith_58 : decode cX12_goesWith 58 = .ok (.goto 4, 3) := by decide +kernel
theorem dX12_goesWith_61 : decode cX12_goesWith 61 = .ok (.iconst 0, 1) := by decide +kernel
theorem dX12_goesWith_62 : decode cX12_goesWith 62 = .ok (.iadd, 1) := by decide +kernel
theorem dX12_goesWith_63 : decode cX12_goesWith 63 = .ok (.istore 5, 2) := by decide +kernel
theorem dX12_goesWith_65 : decode cX12_goesWith 65 = .ok (.aload_n 0, 1) := by decide +kernel
theorem dX12_goesWith_66 : decode cX12_goesWith 66 = .ok (.getfield 128, 3) := by decide +kernel
theorem dX12_goesWith_69 : decode cX12_goesWith 69 = .ok (.bipush 11, 2) := by decide +kernel
theorem dX12_goesWith_71 : decode cX12_goesWith 71 = .ok (.iload 4, 2) := by decide +kernel
theorem dX12_goesWith_73 : decode cX12_goesWith 73 = .ok (.imul, 1) := by decide +kernel
theorem dX12_goesWith_74 : decode cX12_goesWith 74 = .ok (.iload 5, 2) := by decide +kernel
theorem dX12_goesWith_76 : decode cX12_goesWith 76 = .ok (.iadd, 1) := by decide +kernel
theorem dX12_goesWith_77 : decode cX12_goesWith 77 = .ok (.dup2, 1) := by decide +kernel
theorem dX12_goesWith_78 : decode cX12_goesWith 78 = .ok (.iaload, 1) := by decide +kernel
theorem dX12_goesWith_79 : decode cX12_goesWith 79 = .ok (.aload_n 0, 1) := by decide +kernel
theorem dX12_goesWith_80 : decode cX12_goesWith 80 = .ok (.getfield 125, 3) := by decide +kernel
theorem dX12_goesWith_83 : decode cX12_goesWith 83 = .ok (.iload_n 3, 1) := by decide +kernel
theorem dX12_goesWith_84 : decode cX12_goesWith 84 = .ok (.iaload, 1) := by decide +kernel
theorem dX12_goesWith_85 : decode cX12_goesWith 85 = .ok (.iconst 4, 1) := by decide +kernel
theorem dX12_goesWith_86 : decode cX12_goesWith 86 = .ok (.aload_n 0, 1) := by decide +kernel
theorem dX12_goesWith_87 : decode cX12_goesWith 87 = .ok (.getfield 119, 3) := by decide +kernel
theorem dX12_goesWith_90 : decode cX12_goesWith 90 = .ok (.iload_n 2, 1) := by decide +kernel
theorem dX12_goesWith_91 : decode cX12_goesWith 91 = .ok (.iaload, 1) := by decide +kernel
theorem dX12_goesWith_92 : decode cX12_goesWith 92 = .ok (.isub, 1) := by decide +kernel
theorem dX12_goesWith_93 : decode cX12_goesWith 93 = .ok (.imul, 1) := by decide +kernel
theorem dX12_goesWith_94 : decode cX12_goesWith 94 = .ok (.iadd, 1) := by decide +kernel
theorem dX12_goesWith_95 : decode cX12_goesWith 95 = .ok (.iastore, 1) := by decide +kernel
theorem dX12_goesWith_96 : decode cX12_goesWith 96 = .ok (.aload_n 0, 1) := by decide +kernel
theorem dX12_goesWith_97 : decode cX12_goesWith 97 = .ok (.getfield 128, 3) := by decide +kernel
theorem dX12_goesWith_100 : decode cX12_goesWith 100 = .ok (.bipush 11, 2) := by decide +kernel
theorem dX12_goesWith_102 : decode cX12_goesWith 102 = .ok (.iload 4, 2) := by decide +kernel
theorem dX12_goesWith_104 : decode cX12_goesWith 104 = .ok (.bipush 7, 2) := by decide +kernel
theorem dX12_goesWith_106 : decode cX12_goesWith 106 = .ok (.if_icmp .ge 10, 3) := by decide +kernel
theorem dX12_goesWith_109 : decode cX12_goesWith 109 = .ok (.iload 4, 2) := by decide +kernel
theorem dX12_goesWith_111 : decode cX12_goesWith 111 = .ok (.iconst 1, 1) := by decide +kernel
theorem dX12_goesWith_112 : decode cX12_goesWith 112 = .ok (.iadd, 1) := by decide +kernel
theorem dX12_goesWith_113 : decode cX12_goesWith 113 = .ok (.goto 5, 3) := by decide +kernel
theorem dX12_goesWith_116 : decode cX12_goesWith 116 = .ok (.bipush 7, 2) := by decide +kernel
theorem dX12_goesWith_118 : decode cX12_goesWith 118 = .ok (.imul, 1) := by decide +kernel
theorem dX12_goesWith_119 : decode cX12_goesWith 119 = .ok (.iload 5, 2) := by decide +kernel
theorem dX12_goesWith_121 : decode cX12_goesWith 121 = .ok (.iadd, 1) := by decide +kernel
theorem dX12_goesWith_122 : decode cX12_goesWith 122 = .ok (.dup2, 1) := by decide +kernel
theorem dX12_goesWith_123 : decode cX12_goesWith 123 = .ok (.iaload, 1) := by decide +kernel
theorem dX12_goesWith_124 : decode cX12_goesWith 124 = .ok (.aload_n 0, 1) := by decide +kernel
theorem dX12_goesWith_125 : decode cX12_goesWith 125 = .ok (.getfield 125, 3) := by decide +kernel
theorem dX12_goesWith_128 : decode cX12_goesWith 128 = .ok (.iload_n 3, 1) := by decide +kernel
theorem dX12_goesWith_129 : decode cX12_goesWith 129 = .ok (.iaload, 1) := by decide +kernel
theorem dX12_goesWith_130 : decode cX12_goesWith 130 = .ok (.aload_n 0, 1) := by decide +kernel
theorem dX12_goesWith_131 : decode cX12_goesWith 131 = .ok (.getfield 119, 3) := by decide +kernel
theorem dX12_goesWith_134 : decode cX12_goesWith 134 = .ok (.iload_n 2, 1) := by decide +kernel
theorem dX12_goesWith_135 : decode cX12_goesWith 135 = .ok (.iaload, 1) := by decide +kernel
theorem dX12_goesWith_136 : decode cX12_goesWith 136 = .ok (.imul, 1) := by decide +kernel
theorem dX12_goesWith_137 : decode cX12_goesWith 137 = .ok (.iadd, 1) := by decide +kernel
theorem dX12_goesWith_138 : decode cX12_goesWith 138 = .ok (.iastore, 1) := by decide +kernel
theorem dX12_goesWith_139 : decode cX12_goesWith 139 = .ok (.iinc 3 1, 3) := by decide +kernel
theorem dX12_goesWith_142 : decode cX12_goesWith 142 = .ok (.goto (-119), 3) := by decide +kernel
theorem dX12_goesWith_145 : decode cX12_goesWith 145 = .ok (.iconst 0, 1) := by decide +kernel
theorem dX12_goesWith_146 : decode cX12_goesWith 146 = .ok (.istore_n 3, 1) := by decide +kernel
theorem dX12_goesWith_147 : decode cX12_goesWith 147 = .ok (.iload_n 3, 1) := by decide +kernel
theorem dX12_goesWith_148 : decode cX12_goesWith 148 = .ok (.bipush 88, 2) := by decide +kernel
theorem dX12_goesWith_150 : decode cX12_goesWith 150 = .ok (.if_icmp .ge 21, 3) := by decide +kernel
theorem dX12_goesWith_153 : decode cX12_goesWith 153 = .ok (.aload_n 0, 1) := by decide +kernel
theorem dX12_goesWith_154 : decode cX12_goesWith 154 = .ok (.getfield 125, 3) := by decide +kernel
theorem dX12_goesWith_157 : decode cX12_goesWith 157 = .ok (.iload_n 3, 1) := by decide +kernel
theorem dX12_goesWith_158 : decode cX12_goesWith 158 = .ok (.aload_n 0, 1) := by decide +kernel
theorem dX12_goesWith_159 : decode cX12_goesWith 159 = .ok (.getfield 128, 3) := by decide +kernel
theorem dX12_goesWith_162 : decode cX12_goesWith 162 = .ok (.iload_n 3, 1) := by decide +kernel
theorem dX12_goesWith_163 : decode cX12_goesWith 163 = .ok (.iaload, 1) := by decide +kernel
theorem dX12_goesWith_164 : decode cX12_goesWith 164 = .ok (.iastore, 1) := by decide +kernel
theorem dX12_goesWith_165 : decode cX12_goesWith 165 = .ok (.iinc 3 1, 3) := by decide +kernel
theorem dX12_goesWith_168 : decode cX12_goesWith 168 = .ok (.goto (-21), 3) := by decide +kernel
theorem dX12_goesWith_171 : decode cX12_goesWith 171 = .ok (.return_, 1) := by decide +kernel
theorem dX12_with_0 : decode cX12_with 0 = .ok (.iload_n 1, 1) := by decide +kernel
theorem dX12_with_1 : decode cX12_with 1 = .ok (.invokestatic 378, 3) := by decide +kernel
theorem dX12_with_4 : decode cX12_with 4 = .ok (.ifCond .eq 13, 3) := by decide +kernel
theorem dX12_with_7 : decode cX12_with 7 = .ok (.iload_n 2, 1) := by decide +kernel
theorem dX12_with_8 : decode cX12_with 8 = .ok (.iconst 0, 1) := by decide +kernel
theorem dX12_with_9 : decode cX12_with 9 = .ok (.bipush 10, 2) := by decide +kernel
theorem dX12_with_11 : decode cX12_with 11 = .ok (.invokestatic 310, 3) := by decide +kernel
theorem dX12_with_14 : decode cX12_with 14 = .ok (.ifCond .ne 5, 3) := by decide +kernel
theorem dX12_with_17 : decode cX12_with 17 = .ok (.iconst (-1), 1) := by decide +kernel
theorem dX12_with_18 : decode cX12_with 18 = .ok (.ireturn, 1) := by decide +kernel
theorem dX12_with_19 : decode cX12_with 19 = .ok (.aload_n 0, 1) := by decide +kernel
theorem dX12_with_20 : decode cX12_with 20 = .ok (.invokevirtual 406, 3) := by decide +kernel
theorem dX12_with_23 : decode cX12_with 23 = .ok (.iconst 0, 1) := by decide +kernel
theorem dX12_with_24 : decode cX12_with 24 = .ok (.istore_n 3, 1) := by decide +kernel
theorem dX12_with_25 : decode cX12_with 25 = .ok (.iload_n 3, 1) := by decide +kernel
theorem dX12_with_26 : decode cX12_with 26 = .ok (.bipush 88, 2) := by decide +kernel
theorem dX12_with_28 : decode cX12_with 28 = .ok (.if_icmp .ge 16, 3) := by decide +kernel
theorem dX12_with_31 : decode cX12_with 31 = .ok (.aload_n 0, 1) := by decide +kernel
theorem dX12_with_32 : decode cX12_with 32 = .ok (.getfield 125, 3) := by decide +kernel
theorem dX12_with_35 : decode cX12_with 35 = .ok (.iload_n 3, 1) := by decide +kernel
theorem dX12_with_36 : decode cX12_with 36 = .ok (.iconst 0, 1) := by decide +kernel
theorem dX12_with_37 : decode cX12_with 37 = .ok (.iastore, 1) := by decide +kernel
theorem dX12_with_38 : decode cX12_with 38 = .ok (.iinc 3 1, 3) := by decide +kernel
theorem dX12_with_41 : decode cX12_with 41 = .ok (.goto (-16), 3) := by decide +kernel
theorem dX12_with_44 : decode cX12_with 44 = .ok (.aload_n 0, 1) := by decide +kernel
theorem dX12_with_45 : decode cX12_with 45 = .ok (.getfield 125, 3) := by decide +kernel
theorem dX12_with_48 : decode cX12_with 48 = .ok (.iconst 0, 1) := by decide +kernel
theorem dX12_with_49 : decode cX12_with 49 = .ok (.iconst 1, 1) := by decide +kernel
theorem dX12_with_50 : decode cX12_with 50 = .ok (.iastore, 1) := by decide +kernel
theorem dX12_with_51 : decode cX12_with 51 = .ok (.iconst 0, 1) := by decide +kernel
theorem dX12_with_52 : decode cX12_with 52 = .ok (.istore_n 3, 1) := by decide +kernel
theorem dX12_with_53 : decode cX12_with 53 = .ok (.iload_n 3, 1) := by decide +kernel
theorem dX12_with_54 : decode cX12_with 54 = .ok (.aload_n 0, 1) := by decide +kernel
theorem dX12_with_55 : decode cX12_with 55 = .ok (.invokevirtual 306, 3) := by decide +kernel
theorem dX12_with_58 : decode cX12_with 58 = .ok (.if_icmp .ge 15, 3) := by decide +kernel
theorem dX12_with_61 : decode cX12_with 61 = .ok (.aload_n 0, 1) := by decide +kernel
theorem dX12_with_62 : decode cX12_with 62 = .ok (.iload_n 1, 1) := by decide +kernel
theorem dX12_with_63 : decode cX12_with 63 = .ok (.iload_n 3, 1) := by decide +kernel
theorem dX12_with_64 : decode cX12_with 64 = .ok (.invokevirtual 418, 3) := by decide +kernel
theorem dX12_with_67 : decode cX12_with 67 = .ok (.iinc 3 1, 3) := by decide +kernel
theorem dX12_with_70 : decode cX12_with 70 = .ok (.goto (-17), 3) := by decide +kernel
theorem dX12_with_73 : decode cX12_with 73 = .ok (.iconst 0, 1) := by decide +kernel
theorem dX12_with_74 : decode cX12_with 74 = .ok (.istore_n 3, 1) := by decide +kernel
theorem dX12_with_75 : decode cX12_with 75 = .ok (.iconst 0, 1) := by decide +kernel
theorem dX12_with_76 : decode cX12_with 76 = .ok (.istore 4, 2) := by decide +kernel
theorem dX12_with_78 : decode cX12_with 78 = .ok (.iload 4, 2) := by decide +kernel
theorem dX12_with_80 : decode cX12_with 80 = .ok (.bipush 8, 2) := by decide +kernel
theorem dX12_with_82 : decode cX12_with 82 = .ok (.if_icmp .ge 24, 3) := by decide +kernel
theorem dX12_with_85 : decode cX12_with 85 = .ok (.iload_n 3, 1) := by decide +kernel
theorem dX12_with_86 : decode cX12_with 86 = .ok (.aload_n 0, 1) := by decide +kernel
theorem dX12_with_87 : decode cX12_with 87 = .ok (.getfield 125, 3) := by decide +kernel
theorem dX12_with_90 : decode cX12_with 90 = .ok (.bipush 11, 2) := by decide +kernel
theorem dX12_with_92 : decode cX12_with 92 = .ok (.iload 4, 2) := by decide +kernel
theorem dX12_with_94 : decode cX12_with 94 = .ok (.imul, 1) := by decide +kernel
theorem dX12_with_95 : decode cX12_with 95 = .ok (.iload_n 2, 1) := by decide +kernel
theorem dX12_with_96 : decode cX12_with 96 = .ok (.iadd, 1) := by decide +kernel
theorem dX12_with_97 : decode cX12_with 97 = .ok (.iaload, 1) := by decide +kernel
theorem dX12_with_98 : decode cX12_with 98 = .ok (.iadd, 1) := by decide +kernel
theorem dX12_with_99 : decode cX12_with 99 = .ok (.istore_n 3, 1) := by decide +kernel
theorem dX12_with_100 : decode cX12_with 100 = .ok (.iinc 4 1, 3) := by decide +kernel
theorem dX12_with_103 : decode cX12_with 103 = .ok (.goto (-25), 3) := by decide +kernel
theorem dX12_with_106 : decode cX12_with 106 = .ok (.iload_n 3, 1) := by decide +kernel
theorem dX12_with_107 : decode cX12_with 107 = .ok (.ireturn, 1) := by decide +kernel
theorem dX12_buy_0 : decode cX12_buy 0 = .ok (.aload_n 0, 1) := by decide +kernel
theorem dX12_buy_1 : decode cX12_buy 1 = .ok (.iload_n 1, 1) := by decide +kernel
theorem dX12_buy_2 : decode cX12_buy 2 = .ok (.invokevirtual 372, 3) := by decide +kernel
theorem dX12_buy_5 : decode cX12_buy 5 = .ok (.ifCond .eq 12, 3) := by decide +kernel
theorem dX12_buy_8 : decode cX12_buy 8 = .ok (.iload_n 2, 1) := by decide +kernel
theorem dX12_buy_9 : decode cX12_buy 9 = .ok (.iconst 0, 1) := by decide +kernel
theorem dX12_buy_10 : decode cX12_buy 10 = .ok (.iconst 1, 1) := by decide +kernel
theorem dX12_buy_11 : decode cX12_buy 11 = .ok (.invokestatic 310, 3) := by decide +kernel
theorem dX12_buy_14 : decode cX12_buy 14 = .ok (.ifCond .ne 5, 3) := by decide +kernel
theorem dX12_buy_17 : decode cX12_buy 17 = .ok (.iconst (-1), 1) := by decide +kernel
theorem dX12_buy_18 : decode cX12_buy 18 = .ok (.ireturn, 1) := by decide +kernel
theorem dX12_buy_19 : decode cX12_buy 19 = .ok (.aload_n 0, 1) := by decide +kernel
theorem dX12_buy_20 : decode cX12_buy 20 = .ok (.invokevirtual 406, 3) := by decide +kernel
theorem dX12_buy_23 : decode cX12_buy 23 = .ok (.bipush (-2), 2) := by decide +kernel
theorem dX12_buy_25 : decode cX12_buy 25 = .ok (.istore_n 3, 1) := by decide +kernel
theorem dX12_buy_26 : decode cX12_buy 26 = .ok (.iconst 0, 1) := by decide +kernel
theorem dX12_buy_27 : decode cX12_buy 27 = .ok (.istore 4, 2) := by decide +kernel
theorem dX12_buy_29 : decode cX12_buy 29 = .ok (.iload 4, 2) := by decide +kernel
theorem dX12_buy_31 : decode cX12_buy 31 = .ok (.bipush 8, 2) := by decide +kernel
theorem dX12_buy_33 : decode cX12_buy 33 = .ok (.if_icmp .ge 45, 3) := by decide +kernel
theorem dX12_buy_36 : decode cX12_buy 36 = .ok (.aload_n 0, 1) := by decide +kernel
theorem dX12_buy_37 : decode cX12_buy 37 = .ok (.getfield 113, 3) := by decide +kernel
theorem dX12_buy_40 : decode cX12_buy 40 = .ok (.bipush 10, 2) := by decide +kernel
theorem dX12_buy_42 : decode cX12_buy 42 = .ok (.iload 4, 2) := by decide +kernel
theorem dX12_buy_44 : decode cX12_buy 44 = .ok (.iadd, 1) := by decide +kernel
theorem dX12_buy_45 : decode cX12_buy 45 = .ok (.iaload, 1) := by decide +kernel
theorem dX12_buy_46 : decode cX12_buy 46 = .ok (.ifCond .ge 26, 3) := by decide +kernel
theorem dX12_buy_49 : decode cX12_buy 49 = .ok (.iload_n 3, 1) := by decide +kernel
theorem dX12_buy_50 : decode cX12_buy 50 = .ok (.ifCond .lt 19, 3) := by decide +kernel
theorem dX12_buy_53 : decode cX12_buy 53 = .ok (.aload_n 0, 1) := by decide +kernel
theorem dX12_buy_54 : decode cX12_buy 54 = .ok (.iload_n 1, 1) := by decide +kernel
theorem dX12_buy_55 : decode cX12_buy 55 = .ok (.iload 4, 2) := by decide +kernel
theorem dX12_buy_57 : decode cX12_buy 57 = .ok (.invokevirtual 412, 3) := by decide +kernel
theorem dX12_buy_60 : decode cX12_buy 60 = .ok (.aload_n 0, 1) := by decide +kernel
theorem dX12_buy_61 : decode cX12_buy 61 = .ok (.iload_n 1, 1) := by decide +kernel
theorem dX12_buy_62 : decode cX12_buy 62 = .ok (.iload_n 3, 1) := by decide +kernel
theorem dX12_buy_63 : decode cX12_buy 63 = .ok (.invokevirtual 412, 3) := by decide +kernel
theorem dX12_buy_66 : decode cX12_buy 66 = .ok (.if_icmp .le 6, 3) := by decide +kernel
theorem dX12_buy_69 : decode cX12_buy 69 = .ok (.iload 4, 2) := by decide +kernel
theorem dX12_buy_71 : decode cX12_buy 71 = .ok (.istore_n 3, 1) := by decide +kernel
theorem dX12_buy_72 : decode cX12_buy 72 = .ok (.iinc 4 1, 3) := by decide +kernel
theorem dX12_buy_75 : decode cX12_buy 75 = .ok (.goto (-46), 3) := by decide +kernel
theorem dX12_buy_78 : decode cX12_buy 78 = .ok (.iload_n 3, 1) := by decide +kernel
theorem dX12_buy_79 : decode cX12_buy 79 = .ok (.ifCond .lt 7, 3) := by decide +kernel
theorem dX12_buy_82 : decode cX12_buy 82 = .ok (.iload_n 2, 1) := by decide +kernel
theorem dX12_buy_83 : decode cX12_buy 83 = .ok (.ifCond .ne 7, 3) := by decide +kernel
theorem dX12_buy_86 : decode cX12_buy 86 = .ok (.iload_n 3, 1) := by decide +kernel
theorem dX12_buy_87 : decode cX12_buy 87 = .ok (.goto 9, 3) := by decide +kernel
theorem dX12_buy_90 : decode cX12_buy 90 = .ok (.aload_n 0, 1) := by decide +kernel
theorem dX12_buy_91 : decode cX12_buy 91 = .ok (.iload_n 1, 1) := by decide +kernel
theorem dX12_buy_92 : decode cX12_buy 92 = .ok (.iload_n 3, 1) := by decide +kernel
theorem dX12_buy_93 : decode cX12_buy 93 = .ok (.invokevirtual 412, 3) := by decide +kernel
theorem dX12_buy_96 : decode cX12_buy 96 = .ok (.ireturn, 1) := by decide +kernel
theorem dX12_swap_0 : decode cX12_swap 0 = .ok (.aload_n 0, 1) := by decide +kernel
theorem dX12_swap_1 : decode cX12_swap 1 = .ok (.iload_n 1, 1) := by decide +kernel
theorem dX12_swap_2 : decode cX12_swap 2 = .ok (.invokevirtual 372, 3) := by decide +kernel
theorem dX12_swap_5 : decode cX12_swap 5 = .ok (.ifCond .eq 12, 3) := by decide +kernel
theorem dX12_swap_8 : decode cX12_swap 8 = .ok (.iload_n 2, 1) := by decide +kernel
theorem dX12_swap_9 : decode cX12_swap 9 = .ok (.iconst 0, 1) := by decide +kernel
theorem dX12_swap_10 : decode cX12_swap 10 = .ok (.iconst 1, 1) := by decide +kernel
theorem dX12_swap_11 : decode cX12_swap 11 = .ok (.invokestatic 310, 3) := by decide +kernel
theorem dX12_swap_14 : decode cX12_swap 14 = .ok (.ifCond .ne 5, 3) := by decide +kernel
theorem dX12_swap_17 : decode cX12_swap 17 = .ok (.iconst (-1), 1) := by decide +kernel
theorem dX12_swap_18 : decode cX12_swap 18 = .ok (.ireturn, 1) := by decide +kernel
theorem dX12_swap_19 : decode cX12_swap 19 = .ok (.aload_n 0, 1) := by decide +kernel
theorem dX12_swap_20 : decode cX12_swap 20 = .ok (.invokevirtual 406, 3) := by decide +kernel
theorem dX12_swap_23 : decode cX12_swap 23 = .ok (.bipush (-2), 2) := by decide +kernel
theorem dX12_swap_25 : decode cX12_swap 25 = .ok (.istore_n 3, 1) := by decide +kernel
theorem dX12_swap_26 : decode cX12_swap 26 = .ok (.aload_n 0, 1) := by decide +kernel
theorem dX12_swap_27 : decode cX12_swap 27 = .ok (.iload_n 1, 1) := by decide +kernel
theorem dX12_swap_28 : decode cX12_swap 28 = .ok (.invokevirtual 415, 3) := by decide +kernel
theorem dX12_swap_31 : decode cX12_swap 31 = .ok (.istore 4, 2) := by decide +kernel
theorem dX12_swap_33 : decode cX12_swap 33 = .ok (.iconst 0, 1) := by decide +kernel
theorem dX12_swap_34 : decode cX12_swap 34 = .ok (.istore 5, 2) := by decide +kernel
theorem dX12_swap_36 : decode cX12_swap 36 = .ok (.iload 5, 2) := by decide +kernel
theorem dX12_swap_38 : decode cX12_swap 38 = .ok (.aload_n 0, 1) := by decide +kernel
theorem dX12_swap_39 : decode cX12_swap 39 = .ok (.invokevirtual 306, 3) := by decide +kernel
theorem dX12_swap_42 : decode cX12_swap 42 = .ok (.if_icmp .ge 72, 3) := by decide +kernel
theorem dX12_swap_45 : decode cX12_swap 45 = .ok (.iload 5, 2) := by decide +kernel
theorem dX12_swap_47 : decode cX12_swap 47 = .ok (.iconst 1, 1) := by decide +kernel
theorem dX12_swap_48 : decode cX12_swap 48 = .ok (.iadd, 1) := by decide +kernel
theorem dX12_swap_49 : decode cX12_swap 49 = .ok (.istore 6, 2) := by decide +kernel
theorem dX12_swap_51 : decode cX12_swap 51 = .ok (.iload 6, 2) := by decide +kernel
theorem dX12_swap_53 : decode cX12_swap 53 = .ok (.aload_n 0, 1) := by decide +kernel
theorem dX12_swap_54 : decode cX12_swap 54 = .ok (.invokevirtual 306, 3) := by decide +kernel
theorem dX12_swap_57 : decode cX12_swap 57 = .ok (.if_icmp .ge 51, 3) := by decide +kernel
theorem dX12_swap_60 : decode cX12_swap 60 = .ok (.aload_n 0, 1) := by decide +kernel
theorem dX12_swap_61 : decode cX12_swap 61 = .ok (.iload 5, 2) := by decide +kernel
theorem dX12_swap_63 : decode cX12_swap 63 = .ok (.iload 6, 2) := by decide +kernel
theorem dX12_swap_65 : decode cX12_swap 65 = .ok (.invokevirtual 384, 3) := by decide +kernel
theorem dX12_swap_68 : decode cX12_swap 68 = .ok (.aload_n 0, 1) := by decide +kernel
theorem dX12_swap_69 : decode cX12_swap 69 = .ok (.invokevirtual 403, 3) := by decide +kernel
theorem dX12_swap_72 : decode cX12_swap 72 = .ok (.aload_n 0, 1) := by decide +kernel
theorem dX12_swap_73 : decode cX12_swap 73 = .ok (.iload_n 1, 1) := by decide +kernel
theorem dX12_swap_74 : decode cX12_swap 74 = .ok (.invokevirtual 415, 3) := by decide +kernel
theorem dX12_swap_77 : decode cX12_swap 77 = .ok (.istore 7, 2) := by decide +kernel
theorem dX12_swap_79 : decode cX12_swap 79 = .ok (.iload 7, 2) := by decide +kernel
theorem dX12_swap_81 : decode cX12_swap 81 = .ok (.iload 4, 2) := by decide +kernel
theorem dX12_swap_83 : decode cX12_swap 83 = .ok (.if_icmp .gt 6, 3) := by decide +kernel
theorem dX12_swap_86 : decode cX12_swap 86 = .ok (.goto 16, 3) := by decide +kernel
theorem dX12_swap_89 : decode cX12_swap 89 = .ok (.bipush 10, 2) := by decide +kernel
theorem dX12_swap_91 : decode cX12_swap 91 = .ok (.iload 5, 2) := by decide +kernel
theorem dX12_swap_93 : decode cX12_swap 93 = .ok (.imul, 1) := by decide +kernel
theorem dX12_swap_94 : decode cX12_swap 94 = .ok (.iload 6, 2) := by decide +kernel
theorem dX12_swap_96 : decode cX12_swap 96 = .ok (.iadd, 1) := by decide +kernel
theorem dX12_swap_97 : decode cX12_swap 97 = .ok (.istore_n 3, 1) := by decide +kernel
theorem dX12_swap_98 : decode cX12_swap 98 = .ok (.iload 7, 2) := by decide +kernel
theorem dX12_swap_100 : decode cX12_swap 100 = .ok (.istore 4, 2) := by decide +kernel
theorem dX12_swap_102 : decode cX12_swap 102 = .ok (.iinc 6 1, 3) := by decide +kernel
theorem dX12_swap_105 : decode cX12_swap 105 = .ok (.goto (-54), 3) := by decide +kernel
theorem dX12_swap_108 : decode cX12_swap 108 = .ok (.iinc 5 1, 3) := by decide +kernel
theorem dX12_swap_111 : decode cX12_swap 111 = .ok (.goto (-75), 3) := by decide +kernel
theorem dX12_swap_114 : decode cX12_swap 114 = .ok (.iload_n 3, 1) := by decide +kernel
theorem dX12_swap_115 : decode cX12_swap 115 = .ok (.ifCond .lt 7, 3) := by decide +kernel
theorem dX12_swap_118 : decode cX12_swap 118 = .ok (.iload_n 2, 1) := by decide +kernel
theorem dX12_swap_119 : decode cX12_swap 119 = .ok (.ifCond .ne 7, 3) := by decide +kernel
theorem dX12_swap_122 : decode cX12_swap 122 = .ok (.iload_n 3, 1) := by decide +kernel
theorem dX12_swap_123 : decode cX12_swap 123 = .ok (.goto 5, 3) := by decide +kernel
theorem dX12_swap_126 : decode cX12_swap 126 = .ok (.iload 4, 2) := by decide +kernel
theorem dX12_swap_128 : decode cX12_swap 128 = .ok (.ireturn, 1) := by decide +kernel
theorem dX12_moreBy_0 : decode cX12_moreBy 0 = .ok (.aload_n 0, 1) := by decide +kernel
theorem dX12_moreBy_1 : decode cX12_moreBy 1 = .ok (.iload_n 1, 1) := by decide +kernel
theorem dX12_moreBy_2 : decode cX12_moreBy 2 = .ok (.invokevirtual 372, 3) := by decide +kernel
theorem dX12_moreBy_5 : decode cX12_moreBy 5 = .ok (.ifCond .ne 7, 3) := by decide +kernel
theorem dX12_moreBy_8 : decode cX12_moreBy 8 = .ok (.ldc_w 421, 3) := by decide +kernel
theorem dX12_moreBy_11 : decode cX12_moreBy 11 = .ok (.ireturn, 1) := by decide +kernel
theorem dX12_moreBy_12 : decode cX12_moreBy 12 = .ok (.aload_n 0, 1) := by decide +kernel
theorem dX12_moreBy_13 : decode cX12_moreBy 13 = .ok (.invokevirtual 406, 3) := by decide +kernel
theorem dX12_moreBy_16 : decode cX12_moreBy 16 = .ok (.aload_n 0, 1) := by decide +kernel
theorem dX12_moreBy_17 : decode cX12_moreBy 17 = .ok (.iload_n 1, 1) := by decide +kernel
theorem dX12_moreBy_18 : decode cX12_moreBy 18 = .ok (.invokevirtual 415, 3) := by decide +kernel
theorem dX12_moreBy_21 : decode cX12_moreBy 21 = .ok (.istore_n 3, 1) := by decide +kernel
theorem dX12_moreBy_22 : decode cX12_moreBy 22 = .ok (.aload_n 0, 1) := by decide +kernel
theorem dX12_moreBy_23 : decode cX12_moreBy 23 = .ok (.getfield 113, 3) := by decide +kernel
theorem dX12_moreBy_26 : decode cX12_moreBy 26 = .ok (.iload_n 2, 1) := by decide +kernel
theorem dX12_moreBy_27 : decode cX12_moreBy 27 = .ok (.iaload, 1) := by decide +kernel
theorem dX12_moreBy_28 : decode cX12_moreBy 28 = .ok (.bipush 9, 2) := by decide +kernel
theorem dX12_moreBy_30 : decode cX12_moreBy 30 = .ok (.if_icmp .ne 5, 3) := by decide +kernel
theorem dX12_moreBy_33 : decode cX12_moreBy 33 = .ok (.iconst 0, 1) := by decide +kernel
theorem dX12_moreBy_34 : decode cX12_moreBy 34 = .ok (.ireturn, 1) := by decide +kernel
theorem dX12_moreBy_35 : decode cX12_moreBy 35 = .ok (.aload_n 0, 1) := by decide +kernel
theorem dX12_moreBy_36 : decode cX12_moreBy 36 = .ok (.getfield 113, 3) := by decide +kernel
theorem dX12_moreBy_39 : decode cX12_moreBy 39 = .ok (.iload_n 2, 1) := by decide +kernel
theorem dX12_moreBy_40 : decode cX12_moreBy 40 = .ok (.dup2, 1) := by decide +kernel
theorem dX12_moreBy_41 : decode cX12_moreBy 41 = .ok (.iaload, 1) := by decide +kernel
theorem dX12_moreBy_42 : decode cX12_moreBy 42 = .ok (.iconst 1, 1) := by decide +kernel
theorem dX12_moreBy_43 : decode cX12_moreBy 43 = .ok (.iadd, 1) := by decide +kernel
theorem dX12_moreBy_44 : decode cX12_moreBy 44 = .ok (.iastore, 1) := by decide +kernel
theorem dX12_moreBy_45 : decode cX12_moreBy 45 = .ok (.aload_n 0, 1) := by decide +kernel
theorem dX12_moreBy_46 : decode cX12_moreBy 46 = .ok (.invokevirtual 403, 3) := by decide +kernel
theorem dX12_moreBy_49 : decode cX12_moreBy 49 = .ok (.aload_n 0, 1) := by decide +kernel
theorem dX12_moreBy_50 : decode cX12_moreBy 50 = .ok (.iload_n 1, 1) := by decide +kernel
theorem dX12_moreBy_51 : decode cX12_moreBy 51 = .ok (.invokevirtual 415, 3) := by decide +kernel
theorem dX12_moreBy_54 : decode cX12_moreBy 54 = .ok (.iload_n 3, 1) := by decide +kernel
theorem dX12_moreBy_55 : decode cX12_moreBy 55 = .ok (.isub, 1) := by decide +kernel
theorem dX12_moreBy_56 : decode cX12_moreBy 56 = .ok (.ireturn, 1) := by decide +kernel
theorem dX12_pepper_0 : decode cX12_pepper 0 = .ok (.aload_n 0, 1) := by decide +kernel
theorem dX12_pepper_1 : decode cX12_pepper 1 = .ok (.iload_n 1, 1) := by decide +kernel
theorem dX12_pepper_2 : decode cX12_pepper 2 = .ok (.bipush 18, 2) := by decide +kernel
theorem dX12_pepper_4 : decode cX12_pepper 4 = .ok (.invokevirtual 422, 3) := by decide +kernel
theorem dX12_pepper_7 : decode cX12_pepper 7 = .ok (.ireturn, 1) := by decide +kernel
theorem dX12_soothes_0 : decode cX12_soothes 0 = .ok (.aload_n 0, 1) := by decide +kernel
theorem dX12_soothes_1 : decode cX12_soothes 1 = .ok (.iload_n 1, 1) := by decide +kernel
theorem dX12_soothes_2 : decode cX12_soothes 2 = .ok (.bipush 19, 2) := by decide +kernel
theorem dX12_soothes_4 : decode cX12_soothes 4 = .ok (.invokevirtual 422, 3) := by decide +kernel
theorem dX12_soothes_7 : decode cX12_soothes 7 = .ok (.ireturn, 1) := by decide +kernel
theorem dX12_copiesGame_0 : decode cX12_copiesGame 0 = .ok (.aload_n 0, 1) := by decide +kernel
theorem dX12_copiesGame_1 : decode cX12_copiesGame 1 = .ok (.invokevirtual 369, 3) := by decide +kernel
theorem dX12_copiesGame_4 : decode cX12_copiesGame 4 = .ok (.aload_n 0, 1) := by decide +kernel
theorem dX12_copiesGame_5 : decode cX12_copiesGame 5 = .ok (.getfield 113, 3) := by decide +kernel
theorem dX12_copiesGame_8 : decode cX12_copiesGame 8 = .ok (.bipush 18, 2) := by decide +kernel
theorem dX12_copiesGame_10 : decode cX12_copiesGame 10 = .ok (.aload_n 0, 1) := by decide +kernel
theorem dX12_copiesGame_11 : decode cX12_copiesGame 11 = .ok (.getfield 113, 3) := by decide +kernel
theorem dX12_copiesGame_14 : decode cX12_copiesGame 14 = .ok (.bipush 18, 2) := by decide +kernel
theorem dX12_copiesGame_16 : decode cX12_copiesGame 16 = .ok (.iaload, 1) := by decide +kernel
theorem dX12_copiesGame_17 : decode cX12_copiesGame 17 = .ok (.iload_n 1, 1) := by decide +kernel
theorem dX12_copiesGame_18 : decode cX12_copiesGame 18 = .ok (.iadd, 1) := by decide +kernel
theorem dX12_copiesGame_19 : decode cX12_copiesGame 19 = .ok (.iconst 0, 1) := by decide +kernel
theorem dX12_copiesGame_20 : decode cX12_copiesGame 20 = .ok (.bipush 9, 2) := by decide +kernel
theorem dX12_copiesGame_22 : decode cX12_copiesGame 22 = .ok (.invokestatic 330, 3) := by decide +kernel
theorem dX12_copiesGame_25 : decode cX12_copiesGame 25 = .ok (.iastore, 1) := by decide +kernel
theorem dX12_copiesGame_26 : decode cX12_copiesGame 26 = .ok (.aload_n 0, 1) := by decide +kernel
theorem dX12_copiesGame_27 : decode cX12_copiesGame 27 = .ok (.getfield 113, 3) := by decide +kernel
theorem dX12_copiesGame_30 : decode cX12_copiesGame 30 = .ok (.bipush 19, 2) := by decide +kernel
theorem dX12_copiesGame_32 : decode cX12_copiesGame 32 = .ok (.aload_n 0, 1) := by decide +kernel
theorem dX12_copiesGame_33 : decode cX12_copiesGame 33 = .ok (.getfield 113, 3) := by decide +kernel
theorem dX12_copiesGame_36 : decode cX12_copiesGame 36 = .ok (.bipush 19, 2) := by decide +kernel
theorem dX12_copiesGame_38 : decode cX12_copiesGame 38 = .ok (.iaload, 1) := by decide +kernel
theorem dX12_copiesGame_39 : decode cX12_copiesGame 39 = .ok (.iload_n 2, 1) := by decide +kernel
theorem dX12_copiesGame_40 : decode cX12_copiesGame 40 = .ok (.iadd, 1) := by decide +kernel
theorem dX12_copiesGame_41 : decode cX12_copiesGame 41 = .ok (.iconst 0, 1) := by decide +kernel
theorem dX12_copiesGame_42 : decode cX12_copiesGame 42 = .ok (.bipush 9, 2) := by decide +kernel
theorem dX12_copiesGame_44 : decode cX12_copiesGame 44 = .ok (.invokestatic 330, 3) := by decide +kernel
theorem dX12_copiesGame_47 : decode cX12_copiesGame 47 = .ok (.iastore, 1) := by decide +kernel
theorem dX12_copiesGame_48 : decode cX12_copiesGame 48 = .ok (.aload_n 0, 1) := by decide +kernel
theorem dX12_copiesGame_49 : decode cX12_copiesGame 49 = .ok (.invokevirtual 403, 3) := by decide +kernel
theorem dX12_copiesGame_52 : decode cX12_copiesGame 52 = .ok (.return_, 1) := by decide +kernel
theorem dX12_sweetFor_0 : decode cX12_sweetFor 0 = .ok (.iconst 0, 1) := by decide +kernel
theorem dX12_sweetFor_1 : decode cX12_sweetFor 1 = .ok (.istore_n 3, 1) := by decide +kernel
theorem dX12_sweetFor_2 : decode cX12_sweetFor 2 = .ok (.iconst (-1), 1) := by decide +kernel
theorem dX12_sweetFor_3 : decode cX12_sweetFor 3 = .ok (.istore 4, 2) := by decide +kernel
theorem dX12_sweetFor_5 : decode cX12_sweetFor 5 = .ok (.iconst 0, 1) := by decide +kernel
theorem dX12_sweetFor_6 : decode cX12_sweetFor 6 = .ok (.istore 5, 2) := by decide +kernel
theorem dX12_sweetFor_8 : decode cX12_sweetFor 8 = .ok (.iload 5, 2) := by decide +kernel
theorem dX12_sweetFor_10 : decode cX12_sweetFor 10 = .ok (.iconst 4, 1) := by decide +kernel
theorem dX12_sweetFor_11 : decode cX12_sweetFor 11 = .ok (.if_icmp .ge 40, 3) := by decide +kernel
theorem dX12_sweetFor_14 : decode cX12_sweetFor 14 = .ok (.aload_n 0, 1) := by decide +kernel
theorem dX12_sweetFor_15 : decode cX12_sweetFor 15 = .ok (.iload_n 2, 1) := by decide +kernel
theorem dX12_sweetFor_16 : decode cX12_sweetFor 16 = .ok (.iload 5, 2) := by decide +kernel
theorem dX12_sweetFor_18 : decode cX12_sweetFor 18 = .ok (.invokevirtual 425, 3) := by decide +kernel
theorem dX12_sweetFor_21 : decode cX12_sweetFor 21 = .ok (.aload_n 0, 1) := by decide +kernel
theorem dX12_sweetFor_22 : decode cX12_sweetFor 22 = .ok (.iload_n 1, 1) := by decide +kernel
theorem dX12_sweetFor_23 : decode cX12_sweetFor 23 = .ok (.invokevirtual 415, 3) := by decide +kernel
theorem dX12_sweetFor_26 : decode cX12_sweetFor 26 = .ok (.istore 6, 2) := by decide +kernel
theorem dX12_sweetFor_28 : decode cX12_sweetFor 28 = .ok (.iload 6, 2) := by decide +kernel
theorem dX12_sweetFor_30 : decode cX12_sweetFor 30 = .ok (.iload 4, 2) := by decide +kernel
theorem dX12_sweetFor_32 : decode cX12_sweetFor 32 = .ok (.if_icmp .gt 6, 3) := by decide +kernel
theorem dX12_sweetFor_35 : decode cX12_sweetFor 35 = .ok (.goto 10, 3) := by decide +kernel
theorem dX12_sweetFor_38 : decode cX12_sweetFor 38 = .ok (.iload 5, 2) := by decide +kernel
theorem dX12_sweetFor_40 : decode cX12_sweetFor 40 = .ok (.istore_n 3, 1) := by decide +kernel
theorem dX12_sweetFor_41 : decode cX12_sweetFor 41 = .ok (.iload 6, 2) := by decide +kernel
theorem dX12_sweetFor_43 : decode cX12_sweetFor 43 = .ok (.istore 4, 2) := by decide +kernel
theorem dX12_sweetFor_45 : decode cX12_sweetFor 45 = .ok (.iinc 5 1, 3) := by decide +kernel
theorem dX12_sweetFor_48 : decode cX12_sweetFor 48 = .ok (.goto (-40), 3) := by decide +kernel
theorem dX12_sweetFor_51 : decode cX12_sweetFor 51 = .ok (.iload_n 3, 1) := by decide +kernel
theorem dX12_sweetFor_52 : decode cX12_sweetFor 52 = .ok (.ireturn, 1) := by decide +kernel
theorem dX12_game_0 : decode cX12_game 0 = .ok (.aload_n 0, 1) := by decide +kernel
theorem dX12_game_1 : decode cX12_game 1 = .ok (.iload_n 1, 1) := by decide +kernel
theorem dX12_game_2 : decode cX12_game 2 = .ok (.invokevirtual 372, 3) := by decide +kernel
theorem dX12_game_5 : decode cX12_game 5 = .ok (.ifCond .eq 25, 3) := by decide +kernel
theorem dX12_game_8 : decode cX12_game 8 = .ok (.aload_n 0, 1) := by decide +kernel
theorem dX12_game_9 : decode cX12_game 9 = .ok (.iload_n 2, 1) := by decide +kernel
theorem dX12_game_10 : decode cX12_game 10 = .ok (.invokevirtual 372, 3) := by decide +kernel
theorem dX12_game_13 : decode cX12_game 13 = .ok (.ifCond .eq 17, 3) := by decide +kernel
theorem dX12_game_16 : decode cX12_game 16 = .ok (.iload_n 1, 1) := by decide +kernel
theorem dX12_game_17 : decode cX12_game 17 = .ok (.iload_n 2, 1) := by decide +kernel
theorem dX12_game_18 : decode cX12_game 18 = .ok (.if_icmp .eq 12, 3) := by decide +kernel
theorem dX12_game_21 : decode cX12_game 21 = .ok (.iload_n 3, 1) := by decide +kernel
theorem dX12_game_22 : decode cX12_game 22 = .ok (.iconst 0, 1) := by decide +kernel
theorem dX12_game_23 : decode cX12_game 23 = .ok (.iconst 2, 1) := by decide +kernel
theorem dX12_game_24 : decode cX12_game 24 = .ok (.invokestatic 310, 3) := by decide +kernel
theorem dX12_game_27 : decode cX12_game 27 = .ok (.ifCond .ne 5, 3) := by decide +kernel
theorem dX12_game_30 : decode cX12_game 30 = .ok (.iconst (-1), 1) := by decide +kernel
theorem dX12_game_31 : decode cX12_game 31 = .ok (.ireturn, 1) := by decide +kernel
theorem dX12_game_32 : decode cX12_game 32 = .ok (.iconst 0, 1) := by decide +kernel
theorem dX12_game_33 : decode cX12_game 33 = .ok (.istore 4, 2) := by decide +kernel
theorem dX12_game_35 : decode cX12_game 35 = .ok (.iconst (-1), 1) := by decide +kernel
theorem dX12_game_36 : decode cX12_game 36 = .ok (.istore 5, 2) := by decide +kernel
theorem dX12_game_38 : decode cX12_game 38 = .ok (.iconst 0, 1) := by decide +kernel
theorem dX12_game_39 : decode cX12_game 39 = .ok (.istore 6, 2) := by decide +kernel
theorem dX12_game_41 : decode cX12_game 41 = .ok (.iload 6, 2) := by decide +kernel
theorem dX12_game_43 : decode cX12_game 43 = .ok (.iconst 4, 1) := by decide +kernel
theorem dX12_game_44 : decode cX12_game 44 = .ok (.if_icmp .ge 47, 3) := by decide +kernel
theorem dX12_game_47 : decode cX12_game 47 = .ok (.aload_n 0, 1) := by decide +kernel
theorem dX12_game_48 : decode cX12_game 48 = .ok (.iload 6, 2) := by decide +kernel
theorem dX12_game_50 : decode cX12_game 50 = .ok (.aload_n 0, 1) := by decide +kernel
theorem dX12_game_51 : decode cX12_game 51 = .ok (.iload_n 2, 1) := by decide +kernel
theorem dX12_game_52 : decode cX12_game 52 = .ok (.iload 6, 2) := by decide +kernel
theorem dX12_game_54 : decode cX12_game 54 = .ok (.invokevirtual 428, 3) := by decide +kernel
theorem dX12_game_57 : decode cX12_game 57 = .ok (.invokevirtual 425, 3) := by decide +kernel
theorem dX12_game_60 : decode cX12_game 60 = .ok (.aload_n 0, 1) := by decide +kernel
theorem dX12_game_61 : decode cX12_game 61 = .ok (.iload_n 1, 1) := by decide +kernel
theorem dX12_game_62 : decode cX12_game 62 = .ok (.invokevirtual 415, 3) := by decide +kernel
theorem dX12_game_65 : decode cX12_game 65 = .ok (.istore 7, 2) := by decide +kernel
theorem dX12_game_67 : decode cX12_game 67 = .ok (.iload 7, 2) := by decide +kernel
theorem dX12_game_69 : decode cX12_game 69 = .ok (.iload 5, 2) := by decide +kernel
theorem dX12_game_71 : decode cX12_game 71 = .ok (.if_icmp .gt 6, 3) := by decide +kernel
theorem dX12_game_74 : decode cX12_game 74 = .ok (.goto 11, 3) := by decide +kernel
theorem dX12_game_77 : decode cX12_game 77 = .ok (.iload 6, 2) := by decide +kernel
theorem dX12_game_79 : decode cX12_game 79 = .ok (.istore 4, 2) := by decide +kernel
theorem dX12_game_81 : decode cX12_game 81 = .ok (.iload 7, 2) := by decide +kernel
theorem dX12_game_83 : decode cX12_game 83 = .ok (.istore 5, 2) := by decide +kernel
theorem dX12_game_85 : decode cX12_game 85 = .ok (.iinc 6 1, 3) := by decide +kernel
theorem dX12_game_88 : decode cX12_game 88 = .ok (.goto (-47), 3) := by decide +kernel
theorem dX12_game_91 : decode cX12_game 91 = .ok (.iload_n 3, 1) := by decide +kernel
theorem dX12_game_92 : decode cX12_game 92 = .ok (.ifCond .ne 8, 3) := by decide +kernel
theorem dX12_game_95 : decode cX12_game 95 = .ok (.iload 4, 2) := by decide +kernel
theorem dX12_game_97 : decode cX12_game 97 = .ok (.goto 20, 3) := by decide +kernel
theorem dX12_game_100 : decode cX12_game 100 = .ok (.iload_n 3, 1) := by decide +kernel
theorem dX12_game_101 : decode cX12_game 101 = .ok (.iconst 1, 1) := by decide +kernel
theorem dX12_game_102 : decode cX12_game 102 = .ok (.if_icmp .ne 13, 3) := by decide +kernel
theorem dX12_game_105 : decode cX12_game 105 = .ok (.aload_n 0, 1) := by decide +kernel
theorem dX12_game_106 : decode cX12_game 106 = .ok (.iload_n 2, 1) := by decide +kernel
theorem dX12_game_107 : decode cX12_game 107 = .ok (.iload 4, 2) := by decide +kernel
theorem dX12_game_109 : decode cX12_game 109 = .ok (.invokevirtual 428, 3) := by decide +kernel
theorem dX12_game_112 : decode cX12_game 112 = .ok (.goto 5, 3) := by decide +kernel
theorem dX12_game_115 : decode cX12_game 115 = .ok (.iload 5, 2) := by decide +kernel
theorem dX12_game_117 : decode cX12_game 117 = .ok (.ireturn, 1) := by decide +kernel
theorem fl_X12_116 : fl RX12 116 12 51 := ⟨RX12, TX12, 64, rfl, iw_X12, by decide, lg_at 1245 (by decide +kernel) (by decide +kernel), rfl⟩
theorem fl_X12_119 : fl RX12 119 12 52 := ⟨RX12, TX12, 64, rfl, iw_X12, by decide, lg_at 1246 (by decide +kernel) (by decide +kernel), rfl⟩
theorem fl_X12_122 : fl RX12 122 12 53 := ⟨RX12, TX12, 64, rfl, iw_X12, by decide, lg_at 1247 (by decide +kernel) (by decide +kernel), rfl⟩
theorem fl_X12_125 : fl RX12 125 12 54 := ⟨RX12, TX12, 64, rfl, iw_X12, by decide, lg_at 1248 (by decide +kernel) (by decide +kernel), rfl⟩
theorem fl_X12_128 : fl RX12 128 12 55 := ⟨RX12, TX12, 64, rfl, iw_X12, by decide, lg_at 1249 (by decide +kernel) (by decide +kernel), rfl⟩
theorem fl_X12_248 : fl RX12 248 12 50 := ⟨RX12, TX12, 64, rfl, iw_X12, by decide, lg_at 1244 (by decide +kernel) (by decide +kernel), rfl⟩
theorem cV_X12_366 : cV RX12 366 yX12_isMinute cX12_isMinute 2 (some .boolean) 1 := ⟨⟨lg_at 1505 (by decide +kernel) (by decide +kernel), lg_at 1507 (by decide +kernel) (by decide +kernel), lg_sel 74 (by decide +kernel) (by decide +kernel), lg_at 15 (by decide +kernel) (by decide +kernel), lg_at 1508 (by decide +kernel) (by decide +kernel)⟩, by decide +kernel, by decide +kernel, by decide +kernel⟩
theorem cV_X12_369 : cV RX12 369 yX12_copies cX12_copies 2 none 0 := ⟨⟨lg_at 1512 (by decide +kernel) (by decide +kernel), lg_at 1514 (by decide +kernel) (by decide +kernel), lg_sel 75 (by decide +kernel) (by decide +kernel), lg_at 15 (by decide +kernel) (by decide +kernel), lg_at 1515 (by decide +kernel) (by decide +kernel)⟩, by decide +kernel, by decide +kernel, by decide +kernel⟩
theorem cV_X12_372 : cV RX12 372 yX12_isFamily cX12_isFamily 2 (some .boolean) 1 := ⟨⟨lg_at 1551 (by decide +kernel) (by decide +kernel), lg_at 1553 (by decide +kernel) (by decide +kernel), lg_sel 82 (by decide +kernel) (by decide +kernel), lg_at 15 (by decide +kernel) (by decide +kernel), lg_at 1554 (by decide +kernel) (by decide +kernel)⟩, by decide +kernel, by decide +kernel, by decide +kernel⟩
theorem cV_X12_375 : cV RX12 375 yX12_curesOf cX12_curesOf 2 (some .int) 1 := ⟨⟨lg_at 1570 (by decide +kernel) (by decide +kernel), lg_at 1572 (by decide +kernel) (by decide +kernel), lg_sel 86 (by decide +kernel) (by decide +kernel), lg_at 15 (by decide +kernel) (by decide +kernel), lg_at 1573 (by decide +kernel) (by decide +kernel)⟩, by decide +kernel, by decide +kernel, by decide +kernel⟩
theorem cV_X12_381 : cV RX12 381 yX12_records cX12_records 2 none 0 := ⟨⟨lg_at 1597 (by decide +kernel) (by decide +kernel), lg_at 1599 (by decide +kernel) (by decide +kernel), lg_sel 89 (by decide +kernel) (by decide +kernel), lg_at 15 (by decide +kernel) (by decide +kernel), lg_at 1600 (by decide +kernel) (by decide +kernel)⟩, by decide +kernel, by decide +kernel, by decide +kernel⟩
theorem cV_X12_384 : cV RX12 384 yX12_changesFor cX12_changesFor 3 none 2 := ⟨⟨lg_at 1593 (by decide +kernel) (by decide +kernel), lg_at 1595 (by decide +kernel) (by decide +kernel), lg_sel 88 (by decide +kernel) (by decide +kernel), lg_at 15 (by decide +kernel) (by decide +kernel), lg_at 1596 (by decide +kernel) (by decide +kernel)⟩, by decide +kernel, by decide +kernel, by decide +kernel⟩
theorem cV_X12_387 : cV RX12 387 yX12_does cX12_does 3 none 2 := ⟨⟨lg_at 1605 (by decide +kernel) (by decide +kernel), lg_at 1607 (by decide +kernel) (by decide +kernel), lg_sel 90 (by decide +kernel) (by decide +kernel), lg_at 15 (by decide +kernel) (by decide +kernel), lg_at 1608 (by decide +kernel) (by decide +kernel)⟩, by decide +kernel, by decide +kernel, by decide +kernel⟩
theorem cV_X12_390 : cV RX12 390 yX12_given cX12_given 3 (some .boolean) 2 := ⟨⟨lg_at 1613 (by decide +kernel) (by decide +kernel), lg_at 1615 (by decide +kernel) (by decide +kernel), lg_sel 91 (by decide +kernel) (by decide +kernel), lg_at 15 (by decide +kernel) (by decide +kernel), lg_at 1616 (by decide +kernel) (by decide +kernel)⟩, by decide +kernel, by decide +kernel, by decide +kernel⟩
theorem cV_X12_397 : cV RX12 397 yX12_goes cX12_goes 3 none 1 := ⟨⟨lg_at 1628 (by decide +kernel) (by decide +kernel), lg_at 1630 (by decide +kernel) (by decide +kernel), lg_sel 92 (by decide +kernel) (by decide +kernel), lg_at 15 (by decide +kernel) (by decide +kernel), lg_at 1631 (by decide +kernel) (by decide +kernel)⟩, by decide +kernel, by decide +kernel, by decide +kernel⟩
theorem cV_X12_403 : cV RX12 403 yX12_fillsFalls cX12_fillsFalls 4 none 0 := ⟨⟨lg_at 1655 (by decide +kernel) (by decide +kernel), lg_at 1657 (by decide +kernel) (by decide +kernel), lg_sel 96 (by decide +kernel) (by decide +kernel), lg_at 15 (by decide +kernel) (by decide +kernel), lg_at 1658 (by decide +kernel) (by decide +kernel)⟩, by decide +kernel, by decide +kernel, by decide +kernel⟩
theorem cV_X12_406 : cV RX12 406 yX12_copiesFalls cX12_copiesFalls 1 none 0 := ⟨⟨lg_at 1651 (by decide +kernel) (by decide +kernel), lg_at 1653 (by decide +kernel) (by decide +kernel), lg_sel 95 (by decide +kernel) (by decide +kernel), lg_at 15 (by decide +kernel) (by decide +kernel), lg_at 1654 (by decide +kernel) (by decide +kernel)⟩, by decide +kernel, by decide +kernel, by decide +kernel⟩
theorem cV_X12_409 : cV RX12 409 yX12_oddsOf cX12_oddsOf 2 (some .int) 1 := ⟨⟨lg_at 1662 (by decide +kernel) (by decide +kernel), lg_at 1664 (by decide +kernel) (by decide +kernel), lg_sel 97 (by decide +kernel) (by decide +kernel), lg_at 15 (by decide +kernel) (by decide +kernel), lg_at 1665 (by decide +kernel) (by decide +kernel)⟩, by decide +kernel, by decide +kernel, by decide +kernel⟩
theorem cV_X12_412 : cV RX12 412 yX12_valueOf cX12_valueOf 5 (some .int) 2 := ⟨⟨lg_at 1674 (by decide +kernel) (by decide +kernel), lg_at 1676 (by decide +kernel) (by decide +kernel), lg_sel 98 (by decide +kernel) (by decide +kernel), lg_at 15 (by decide +kernel) (by decide +kernel), lg_at 1677 (by decide +kernel) (by decide +kernel)⟩, by decide +kernel, by decide +kernel, by decide +kernel⟩
theorem cV_X12_415 : cV RX12 415 yX12_haveOf cX12_haveOf 4 (some .int) 1 := ⟨⟨lg_at 1682 (by decide +kernel) (by decide +kernel), lg_at 1684 (by decide +kernel) (by decide +kernel), lg_sel 99 (by decide +kernel) (by decide +kernel), lg_at 15 (by decide +kernel) (by decide +kernel), lg_at 1685 (by decide +kernel) (by decide +kernel)⟩, by decide +kernel, by decide +kernel, by decide +kernel⟩
theorem cV_X12_418 : cV RX12 418 yX12_goesWith cX12_goesWith 6 none 2 := ⟨⟨lg_at 1702 (by decide +kernel) (by decide +kernel), lg_at 1704 (by decide +kernel) (by decide +kernel), lg_sel 100 (by decide +kernel) (by decide +kernel), lg_at 15 (by decide +kernel) (by decide +kernel), lg_at 1705 (by decide +kernel) (by decide +kernel)⟩, by decide +kernel, by decide +kernel, by decide +kernel⟩
theorem cV_X12_422 : cV RX12 422 yX12_moreBy cX12_moreBy 4 (some .int) 2 := ⟨⟨lg_at 1718 (by decide +kernel) (by decide +kernel), lg_at 1720 (by decide +kernel) (by decide +kernel), lg_sel 101 (by decide +kernel) (by decide +kernel), lg_at 15 (by decide +kernel) (by decide +kernel), lg_at 1721 (by decide +kernel) (by decide +kernel)⟩, by decide +kernel, by decide +kernel, by decide +kernel⟩
theorem cV_X12_425 : cV RX12 425 yX12_copiesGame cX12_copiesGame 3 none 2 := ⟨⟨lg_at 1735 (by decide +kernel) (by decide +kernel), lg_at 1737 (by decide +kernel) (by decide +kernel), lg_sel 103 (by decide +kernel) (by decide +kernel), lg_at 15 (by decide +kernel) (by decide +kernel), lg_at 1738 (by decide +kernel) (by decide +kernel)⟩, by decide +kernel, by decide +kernel, by decide +kernel⟩
theorem cV_X12_428 : cV RX12 428 yX12_sweetFor cX12_sweetFor 7 (some .int) 2 := ⟨⟨lg_at 1731 (by decide +kernel) (by decide +kernel), lg_at 1733 (by decide +kernel) (by decide +kernel), lg_sel 102 (by decide +kernel) (by decide +kernel), lg_at 15 (by decide +kernel) (by decide +kernel), lg_at 1734 (by decide +kernel) (by decide +kernel)⟩, by decide +kernel, by decide +kernel, by decide +kernel⟩
theorem cS_X12_310 : cS RX12 310 yX12_in cX12_in 3 (some .boolean) 3 := ⟨⟨lg_at 1509 (by decide +kernel) (by decide +kernel), lg_at 1510 (by decide +kernel) (by decide +kernel), lg_at 15 (by decide +kernel) (by decide +kernel), lg_at 1511 (by decide +kernel) (by decide +kernel)⟩, by decide +kernel, by decide +kernel, by decide +kernel⟩
theorem cS_X12_378 : cS RX12 378 yX12_isPart cX12_isPart 1 (some .boolean) 1 := ⟨⟨lg_at 1578 (by decide +kernel) (by decide +kernel), lg_at 1579 (by decide +kernel) (by decide +kernel), lg_at 15 (by decide +kernel) (by decide +kernel), lg_at 1580 (by decide +kernel) (by decide +kernel)⟩, by decide +kernel, by decide +kernel, by decide +kernel⟩
theorem cS_X12_394 : cS RX12 394 yX12_isLong cX12_isLong 1 (some .boolean) 1 := ⟨⟨lg_at 1625 (by decide +kernel) (by decide +kernel), lg_at 1626 (by decide +kernel) (by decide +kernel), lg_at 15 (by decide +kernel) (by decide +kernel), lg_at 1627 (by decide +kernel) (by decide +kernel)⟩, by decide +kernel, by decide +kernel, by decide +kernel⟩
theorem cS_X12_400 : cS RX12 400 yX12_power cX12_power 1 (some .int) 1 := ⟨⟨lg_at 1659 (by decide +kernel) (by decide +kernel), lg_at 1660 (by decide +kernel) (by decide +kernel), lg_at 15 (by decide +kernel) (by decide +kernel), lg_at 1661 (by decide +kernel) (by decide +kernel)⟩, by decide +kernel, by decide +kernel, by decide +kernel⟩
theorem kc_X12_421 : Cond.constant RX12 421 (-100000000) ∈ lg_tbl := lg_at 1722 (by decide +kernel) (by decide +kernel)
section
variable {p : Program} {l : Launch} {e : Env} {s : State} {m : MethodId} {args : Array Value} {below : List Frame} {meth : Method} {c : Code} {D : va_G} {ad : Nat → Nat} {κ : KC}
-- X12_in
def FX12_in (x0 : Int32) (x1 : Int32) (x2 : Int32) (σ : HS) : Option (Int32 × HS) :=
  if x0 < x1 then some ((0 : Int32), σ) else if x2 < x0 then some ((0 : Int32), σ) else some ((1 : Int32), σ)
set_option maxHeartbeats 4000000 in
set_option maxRecDepth 100000 in
theorem kX12_in (l : Launch) (D : va_G) (ad : Nat → Nat) (κ : KC) {x0 : Int32} {x1 : Int32} {x2 : Int32} {σ : HS} {R : (Int32 × HS)} (h : FX12_in x0 x1 x2 σ = some R) : MtI l 45 ceM D ad κ yX12_in cX12_in 3 (some .boolean) ({ frames := 0, cells := 0, slots := 0, locals := 0 } : Room) [.int x0, .int x1, .int x2] σ R := by
  refine open_ (by decide) (Nat.le_of_ble_eq_true rfl) (la := [(0, .int x0), (1, .int x1), (2, .int x2)]) rfl ?_
  intro p e s m below meth c ls C hH hl
  replace C : Cx 45 D ad κ p s m _ meth c cX12_in RX12 3 (some .boolean) := C
  have hx := C.1
  have hb := C.2.1
  have hown := C.2.2.2.1
  have hts := C.2.2.2.2.1
  rw [FX12_in] at h
  refine lv_iload_n hx hb dX12_in_0 rfl (lv_at hl 0 rfl) ?_
  refine lv_iload_n hx hb dX12_in_1 rfl (lv_at hl 1 rfl) ?_
  refine lv_icmp_lt (tgt := 14) hx hb dX12_in_2 (by decide) (fun hq_1 => ?_) (fun hq_1 => ?_)
  · rw [if_pos hq_1] at h
    refine lv_iconst (v := 0) hx hb dX12_in_14 (by decide) ?_
    exact g_retZ C hH rfl h dX12_in_15
  · rw [if_neg hq_1] at h
    refine lv_iload_n hx hb dX12_in_5 rfl (lv_at hl 0 rfl) ?_
    refine lv_iload_n hx hb dX12_in_6 rfl (lv_at hl 2 rfl) ?_
    refine lv_icmp_gt (tgt := 14) hx hb dX12_in_7 (by decide) (fun hq_2 => ?_) (fun hq_2 => ?_)
    · rw [if_pos hq_2] at h
      refine lv_iconst (v := 0) hx hb dX12_in_14 (by decide) ?_
      exact g_retZ C hH rfl h dX12_in_15
    · rw [if_neg hq_2] at h
      refine lv_iconst (v := 1) hx hb dX12_in_10 (by decide) ?_
      refine lv_goto (tgt := 15) hx hb dX12_in_11 (by decide) ?_
      exact g_retZ C hH rfl h dX12_in_15
-- X12_isMinute
def FX12_isMinute (x1 : Int32) (σ : HS) : Option (Int32 × HS) :=
  bdI (FX12_many σ) fun r_1 σ_2 => bdI (FX12_in x1 (0 : Int32) (r_1 - (1 : Int32)) σ_2) fun r_4 σ_5 => gd (isB r_4) (some (r_4, σ_5))
set_option maxHeartbeats 4000000 in
set_option maxRecDepth 100000 in
theorem kX12_isMinute (l : Launch) (D : va_G) (ad : Nat → Nat) (κ : KC) {x1 : Int32} {σ : HS} {R : (Int32 × HS)} (h : FX12_isMinute x1 σ = some R) : MtI l 45 ceM D ad κ yX12_isMinute cX12_isMinute 2 (some .boolean) ({ frames := 1, cells := 0, slots := 0, locals := 22 } : Room) [.ref (ad 0), .int x1] σ R := by
  refine open_ (by decide) (Nat.le_of_ble_eq_true rfl) (la := [(0, .ref (ad 0)), (1, .int x1)]) rfl ?_
  intro p e s m below meth c ls C hH hl
  replace C : Cx 45 D ad κ p s m _ meth c cX12_isMinute RX12 2 (some .boolean) := C
  have hx := C.1
  have hb := C.2.1
  have hown := C.2.2.2.1
  have hts := C.2.2.2.2.1
  rw [FX12_isMinute] at h
  refine lv_iload_n hx hb dX12_isMinute_0 rfl (lv_at hl 1 rfl) ?_
  refine lv_iconst (v := 0) hx hb dX12_isMinute_1 (by decide) ?_
  refine lv_aload_n hx hb dX12_isMinute_2 rfl (lv_at hl 0 rfl) ?_
  obtain ⟨r_1, σ_2, hc_3, h⟩ := bdI_ex h
  refine g_ci (g_runV (rest := [.int (0 : Int32), .int x1]) C hH hl.1 cV_X12_306 0 (Nat.le_of_ble_eq_true rfl) rfl rfl (kX12_many l D ad κ hc_3) ⟨rfl, rfl⟩ ⟨(Nat.le_of_ble_eq_true rfl), (Nat.le_of_ble_eq_true rfl)⟩ rfl rfl (Nat.le_of_ble_eq_true rfl) dX12_isMinute_3 z00) hH (fun H locs hH => ?_)
  refine lv_iconst (v := 1) hx hb dX12_isMinute_6 (by decide) ?_
  refine lv_isub hx hb dX12_isMinute_7 ?_
  obtain ⟨r_4, σ_5, hc_6, h⟩ := bdI_ex h
  refine g_ci (g_runS (rest := []) C hH hl.1 cS_X12_310 (kX12_in l D ad κ hc_6) ⟨rfl, rfl⟩ ⟨(Nat.le_of_ble_eq_true rfl), (Nat.le_of_ble_eq_true rfl)⟩ rfl rfl (Nat.le_of_ble_eq_true rfl) dX12_isMinute_8 z00) hH (fun H locs hH => ?_)
  obtain ⟨hb_7, h⟩ := gd_ex h
  exact g_retZ C hH hb_7 h dX12_isMinute_11
-- X12_minute
def FX12_minute (x1 : Int32) (x2 : Int32) (σ : HS) : Option (Int32 × HS) :=
  bdI (FX12_isMinute x1 σ) fun r_1 σ_2 => if r_1 = 0 then some ((-1 : Int32), σ_2) else bdV (FX12_copies σ_2) fun σ_5 => if x2 = 0 then gd (ix x1 33) (some ((σ_5.1 32 (x1.toNatClampNeg)), σ_5)) else if x2 = 1 then bdI (FX12_coughsOf x1 σ_5) fun r_10 σ_11 => some (r_10, σ_11) else if x2 = 2 then bdI (FX12_coughsNow σ_5) fun r_14 σ_15 => some (((r_14 >>> (x1 &&& 31)) &&& (1 : Int32)), σ_15) else some ((-1 : Int32), σ_5)
set_option maxHeartbeats 4000000 in
set_option maxRecDepth 100000 in
theorem kX12_minute (l : Launch) (D : va_G) (ad : Nat → Nat) (κ : KC) {x1 : Int32} {x2 : Int32} {σ : HS} {R : (Int32 × HS)} (h : FX12_minute x1 x2 σ = some R) : MtI l 45 ceM D ad κ yX12_minute cX12_minute 3 (some .int) ({ frames := 4, cells := 0, slots := 0, locals := 96 } : Room) [.ref (ad 0), .int x1, .int x2] σ R := by
  refine open_ (by decide) (Nat.le_of_ble_eq_true rfl) (la := [(0, .ref (ad 0)), (1, .int x1), (2, .int x2)]) rfl ?_
  intro p e s m below meth c ls C hH hl
  replace C : Cx 45 D ad κ p s m _ meth c cX12_minute RX12 3 (some .int) := C
  have hx := C.1
  have hb := C.2.1
  have hown := C.2.2.2.1
  have hts := C.2.2.2.2.1
  rw [FX12_minute] at h
  refine lv_aload_n hx hb dX12_minute_0 rfl (lv_at hl 0 rfl) ?_
  refine lv_iload_n hx hb dX12_minute_1 rfl (lv_at hl 1 rfl) ?_
  obtain ⟨r_1, σ_2, hc_3, h⟩ := bdI_ex h
  refine g_ci (g_runV (rest := []) C hH hl.1 cV_X12_366 0 (Nat.le_of_ble_eq_true rfl) rfl rfl (kX12_isMinute l D ad κ hc_3) ⟨rfl, rfl⟩ ⟨(Nat.le_of_ble_eq_true rfl), (Nat.le_of_ble_eq_true rfl)⟩ rfl rfl (Nat.le_of_ble_eq_true rfl) dX12_minute_2 z00) hH (fun H locs hH => ?_)
  refine lv_if_ne (tgt := 10) hx hb dX12_minute_5 (by decide) (fun hq_4 => ?_) (fun hq_4 => ?_)
  · rw [if_neg hq_4] at h
    refine lv_aload_n hx hb dX12_minute_10 rfl (lv_at hl 0 rfl) ?_
    obtain ⟨σ_5, hc_6, h⟩ := bdV_ex h
    refine g_cv (g_runV (rest := []) C hH hl.1 cV_X12_369 0 (Nat.le_of_ble_eq_true rfl) rfl rfl (kX12_copies l D ad κ hc_6) ⟨rfl, rfl⟩ ⟨(Nat.le_of_ble_eq_true rfl), (Nat.le_of_ble_eq_true rfl)⟩ rfl rfl (Nat.le_of_ble_eq_true rfl) dX12_minute_11 z00) hH (fun H locs hH => ?_)
    refine lv_iload_n hx hb dX12_minute_14 rfl (lv_at hl 2 rfl) ?_
    by_cases hs_7 : x2 = 0
    · rw [if_pos hs_7] at h
      refine lv_tableIn (off := 25) (tgt := 40) hx hb dX12_minute_15 (by rw [hs_7]; decide) (by rw [hs_7]; decide) (by rw [hs_7]; rfl) (by decide) ?_
      refine lv_aload_n hx hb dX12_minute_40 rfl (lv_at hl 0 rfl) ?_
      refine g_get C hH 0 (Nat.le_of_ble_eq_true rfl) rfl fl_X12_113 (v := .ref (ad 32)) rfl dX12_minute_41 ?_
      refine lv_iload_n hx hb dX12_minute_44 rfl (lv_at hl 1 rfl) ?_
      obtain ⟨hi_8, h⟩ := gd_ex h
      refine g_iald C hH 32 (Nat.le_of_ble_eq_true rfl) rfl (k := (x1.toNatClampNeg)) rfl (ix_in hi_8) dX12_minute_45 ?_
      exact g_ret C hH h dX12_minute_46
    · rw [if_neg hs_7] at h
      by_cases hs_9 : x2 = 1
      · rw [if_pos hs_9] at h
        refine lv_tableIn (off := 32) (tgt := 47) hx hb dX12_minute_15 (by rw [hs_9]; decide) (by rw [hs_9]; decide) (by rw [hs_9]; rfl) (by decide) ?_
        refine lv_aload_n hx hb dX12_minute_47 rfl (lv_at hl 0 rfl) ?_
        refine lv_iload_n hx hb dX12_minute_48 rfl (lv_at hl 1 rfl) ?_
        obtain ⟨r_10, σ_11, hc_12, h⟩ := bdI_ex h
        refine g_ci (g_runV (rest := []) C hH hl.1 cV_X12_348 0 (Nat.le_of_ble_eq_true rfl) rfl rfl (kX12_coughsOf l D ad κ hc_12) ⟨rfl, rfl⟩ ⟨(Nat.le_of_ble_eq_true rfl), (Nat.le_of_ble_eq_true rfl)⟩ rfl rfl (Nat.le_of_ble_eq_true rfl) dX12_minute_49 z00) hH (fun H locs hH => ?_)
        exact g_ret C hH h dX12_minute_52
      · rw [if_neg hs_9] at h
        by_cases hs_13 : x2 = 2
        · rw [if_pos hs_13] at h
          refine lv_tableIn (off := 38) (tgt := 53) hx hb dX12_minute_15 (by rw [hs_13]; decide) (by rw [hs_13]; decide) (by rw [hs_13]; rfl) (by decide) ?_
          refine lv_aload_n hx hb dX12_minute_53 rfl (lv_at hl 0 rfl) ?_
          obtain ⟨r_14, σ_15, hc_16, h⟩ := bdI_ex h
          refine g_ci (g_runV (rest := []) C hH hl.1 cV_X12_351 0 (Nat.le_of_ble_eq_true rfl) rfl rfl (kX12_coughsNow l D ad κ hc_16) ⟨rfl, rfl⟩ ⟨(Nat.le_of_ble_eq_true rfl), (Nat.le_of_ble_eq_true rfl)⟩ rfl rfl (Nat.le_of_ble_eq_true rfl) dX12_minute_54 z00) hH (fun H locs hH => ?_)
          refine lv_iload_n hx hb dX12_minute_57 rfl (lv_at hl 1 rfl) ?_
          refine lv_ishr hx hb dX12_minute_58 ?_
          refine lv_iconst (v := 1) hx hb dX12_minute_59 (by decide) ?_
          refine lv_iand hx hb dX12_minute_60 ?_
          exact g_ret C hH h dX12_minute_61
        · rw [if_neg hs_13] at h
          refine lv_tableOut (tgt := 62) hx hb dX12_minute_15 (by have a0 := lv_neT hs_7 (show (0 : Int32).toInt = 0 from by decide); have a1 := lv_neT hs_9 (show (1 : Int32).toInt = 1 from by decide); have a2 := lv_neT hs_13 (show (2 : Int32).toInt = 2 from by decide); omega) (by decide) ?_
          refine lv_iconst (v := (-1)) hx hb dX12_minute_62 (by decide) ?_
          exact g_ret C hH h dX12_minute_63
  · rw [if_pos hq_4] at h
    refine lv_iconst (v := (-1)) hx hb dX12_minute_8 (by decide) ?_
    exact g_ret C hH h dX12_minute_9
-- X12_isFamily
def FX12_isFamily (x1 : Int32) (σ : HS) : Option (Int32 × HS) :=
  gd (ix (σ.1 0 18) 2) (bdI (FX12_in x1 (0 : Int32) ((σ.1 11 ((σ.1 0 18).toNatClampNeg)) - (1 : Int32)) σ) fun r_2 σ_3 => gd (isB r_2) (some (r_2, σ_3)))
set_option maxHeartbeats 4000000 in
set_option maxRecDepth 100000 in
theorem kX12_isFamily (l : Launch) (D : va_G) (ad : Nat → Nat) (κ : KC) {x1 : Int32} {σ : HS} {R : (Int32 × HS)} (h : FX12_isFamily x1 σ = some R) : MtI l 45 ceM D ad κ yX12_isFamily cX12_isFamily 2 (some .boolean) ({ frames := 1, cells := 0, slots := 0, locals := 22 } : Room) [.ref (ad 0), .int x1] σ R := by
  refine open_ (by decide) (Nat.le_of_ble_eq_true rfl) (la := [(0, .ref (ad 0)), (1, .int x1)]) rfl ?_
  intro p e s m below meth c ls C hH hl
  replace C : Cx 45 D ad κ p s m _ meth c cX12_isFamily RX12 2 (some .boolean) := C
  have hx := C.1
  have hb := C.2.1
  have hown := C.2.2.2.1
  have hts := C.2.2.2.2.1
  rw [FX12_isFamily] at h
  refine lv_iload_n hx hb dX12_isFamily_0 rfl (lv_at hl 1 rfl) ?_
  refine lv_iconst (v := 0) hx hb dX12_isFamily_1 (by decide) ?_
  refine lv_aload_n hx hb dX12_isFamily_2 rfl (lv_at hl 0 rfl) ?_
  refine g_get C hH 0 (Nat.le_of_ble_eq_true rfl) rfl fl_X12_49 (v := .ref (ad 11)) rfl dX12_isFamily_3 ?_
  refine lv_aload_n hx hb dX12_isFamily_6 rfl (lv_at hl 0 rfl) ?_
  refine g_get C hH 0 (Nat.le_of_ble_eq_true rfl) rfl fl_X12_233 (v := .int (σ.1 0 18)) rfl dX12_isFamily_7 ?_
  obtain ⟨hi_1, h⟩ := gd_ex h
  refine g_iald C hH 11 (Nat.le_of_ble_eq_true rfl) rfl (k := ((σ.1 0 18).toNatClampNeg)) rfl (ix_in hi_1) dX12_isFamily_10 ?_
  refine lv_iconst (v := 1) hx hb dX12_isFamily_11 (by decide) ?_
  refine lv_isub hx hb dX12_isFamily_12 ?_
  obtain ⟨r_2, σ_3, hc_4, h⟩ := bdI_ex h
  refine g_ci (g_runS (rest := []) C hH hl.1 cS_X12_310 (kX12_in l D ad κ hc_4) ⟨rfl, rfl⟩ ⟨(Nat.le_of_ble_eq_true rfl), (Nat.le_of_ble_eq_true rfl)⟩ rfl rfl (Nat.le_of_ble_eq_true rfl) dX12_isFamily_13 z00) hH (fun H locs hH => ?_)
  obtain ⟨hb_5, h⟩ := gd_ex h
  exact g_retZ C hH hb_5 h dX12_isFamily_16
-- X12_family
def FX12_family (x1 : Int32) (x2 : Int32) (σ : HS) : Option (Int32 × HS) :=
  bdI (FX12_isFamily x1 σ) fun r_1 σ_2 => if r_1 = 0 then some ((-1 : Int32), σ_2) else bdV (FX12_copies σ_2) fun σ_5 => if x2 = 0 then gd (ix (((5 : Int32) * (σ_5.1 0 18)) + x1) 10) (some ((σ_5.1 12 ((((5 : Int32) * (σ_5.1 0 18)) + x1).toNatClampNeg)), σ_5)) else if x2 = 1 then gd (ix (((5 : Int32) * (σ_5.1 0 18)) + x1) 10) (some ((σ_5.1 13 ((((5 : Int32) * (σ_5.1 0 18)) + x1).toNatClampNeg)), σ_5)) else if x2 = 2 then bdI (FX12_partBits x1 σ_5) fun r_12 σ_13 => some (r_12, σ_13) else if x2 = 3 then gd (ix ((23 : Int32) + x1) 33) (some ((σ_5.1 32 (((23 : Int32) + x1).toNatClampNeg)), σ_5)) else if x2 = 4 then gd (ix ((28 : Int32) + x1) 33) (some ((σ_5.1 32 (((28 : Int32) + x1).toNatClampNeg)), σ_5)) else if x2 = 5 then bdI (FX12_rentsOf x1 σ_5) fun r_20 σ_21 => some (r_20, σ_21) else if x2 = 6 then bdI (FX12_curesOf x1 σ_5) fun r_24 σ_25 => some (r_24, σ_25) else some ((-1 : Int32), σ_5)
set_option maxHeartbeats 4000000 in
set_option maxRecDepth 100000 in
theorem kX12_family (l : Launch) (D : va_G) (ad : Nat → Nat) (κ : KC) {x1 : Int32} {x2 : Int32} {σ : HS} {R : (Int32 × HS)} (h : FX12_family x1 x2 σ = some R) : MtI l 45 ceM D ad κ yX12_family cX12_family 3 (some .int) ({ frames := 3, cells := 0, slots := 0, locals := 74 } : Room) [.ref (ad 0), .int x1, .int x2] σ R := by
  refine open_ (by decide) (Nat.le_of_ble_eq_true rfl) (la := [(0, .ref (ad 0)), (1, .int x1), (2, .int x2)]) rfl ?_
  intro p e s m below meth c ls C hH hl
  replace C : Cx 45 D ad κ p s m _ meth c cX12_family RX12 3 (some .int) := C
  have hx := C.1
  have hb := C.2.1
  have hown := C.2.2.2.1
  have hts := C.2.2.2.2.1
  rw [FX12_family] at h
  refine lv_aload_n hx hb dX12_family_0 rfl (lv_at hl 0 rfl) ?_
  refine lv_iload_n hx hb dX12_family_1 rfl (lv_at hl 1 rfl) ?_
  obtain ⟨r_1, σ_2, hc_3, h⟩ := bdI_ex h
  refine g_ci (g_runV (rest := []) C hH hl.1 cV_X12_372 0 (Nat.le_of_ble_eq_true rfl) rfl rfl (kX12_isFamily l D ad κ hc_3) ⟨rfl, rfl⟩ ⟨(Nat.le_of_ble_eq_true rfl), (Nat.le_of_ble_eq_true rfl)⟩ rfl rfl (Nat.le_of_ble_eq_true rfl) dX12_family_2 z00) hH (fun H locs hH => ?_)
  refine lv_if_ne (tgt := 10) hx hb dX12_family_5 (by decide) (fun hq_4 => ?_) (fun hq_4 => ?_)
  · rw [if_neg hq_4] at h
    refine lv_aload_n hx hb dX12_family_10 rfl (lv_at hl 0 rfl) ?_
    obtain ⟨σ_5, hc_6, h⟩ := bdV_ex h
    refine g_cv (g_runV (rest := []) C hH hl.1 cV_X12_369 0 (Nat.le_of_ble_eq_true rfl) rfl rfl (kX12_copies l D ad κ hc_6) ⟨rfl, rfl⟩ ⟨(Nat.le_of_ble_eq_true rfl), (Nat.le_of_ble_eq_true rfl)⟩ rfl rfl (Nat.le_of_ble_eq_true rfl) dX12_family_11 z00) hH (fun H locs hH => ?_)
    refine lv_iload_n hx hb dX12_family_14 rfl (lv_at hl 2 rfl) ?_
    by_cases hs_7 : x2 = 0
    · rw [if_pos hs_7] at h
      refine lv_tableIn (off := 41) (tgt := 56) hx hb dX12_family_15 (by rw [hs_7]; decide) (by rw [hs_7]; decide) (by rw [hs_7]; rfl) (by decide) ?_
      refine lv_aload_n hx hb dX12_family_56 rfl (lv_at hl 0 rfl) ?_
      refine g_get C hH 0 (Nat.le_of_ble_eq_true rfl) rfl fl_X12_52 (v := .ref (ad 12)) rfl dX12_family_57 ?_
      refine lv_iconst (v := 5) hx hb dX12_family_60 (by decide) ?_
      refine lv_aload_n hx hb dX12_family_61 rfl (lv_at hl 0 rfl) ?_
      refine g_get C hH 0 (Nat.le_of_ble_eq_true rfl) rfl fl_X12_233 (v := .int (σ_5.1 0 18)) rfl dX12_family_62 ?_
      refine lv_imul hx hb dX12_family_65 ?_
      refine lv_iload_n hx hb dX12_family_66 rfl (lv_at hl 1 rfl) ?_
      refine lv_iadd hx hb dX12_family_67 ?_
      obtain ⟨hi_8, h⟩ := gd_ex h
      refine g_iald C hH 12 (Nat.le_of_ble_eq_true rfl) rfl (k := ((((5 : Int32) * (σ_5.1 0 18)) + x1).toNatClampNeg)) rfl (ix_in hi_8) dX12_family_68 ?_
      exact g_ret C hH h dX12_family_69
    · rw [if_neg hs_7] at h
      by_cases hs_9 : x2 = 1
      · rw [if_pos hs_9] at h
        refine lv_tableIn (off := 55) (tgt := 70) hx hb dX12_family_15 (by rw [hs_9]; decide) (by rw [hs_9]; decide) (by rw [hs_9]; rfl) (by decide) ?_
        refine lv_aload_n hx hb dX12_family_70 rfl (lv_at hl 0 rfl) ?_
        refine g_get C hH 0 (Nat.le_of_ble_eq_true rfl) rfl fl_X12_55 (v := .ref (ad 13)) rfl dX12_family_71 ?_
        refine lv_iconst (v := 5) hx hb dX12_family_74 (by decide) ?_
        refine lv_aload_n hx hb dX12_family_75 rfl (lv_at hl 0 rfl) ?_
        refine g_get C hH 0 (Nat.le_of_ble_eq_true rfl) rfl fl_X12_233 (v := .int (σ_5.1 0 18)) rfl dX12_family_76 ?_
        refine lv_imul hx hb dX12_family_79 ?_
        refine lv_iload_n hx hb dX12_family_80 rfl (lv_at hl 1 rfl) ?_
        refine lv_iadd hx hb dX12_family_81 ?_
        obtain ⟨hi_10, h⟩ := gd_ex h
        refine g_iald C hH 13 (Nat.le_of_ble_eq_true rfl) rfl (k := ((((5 : Int32) * (σ_5.1 0 18)) + x1).toNatClampNeg)) rfl (ix_in hi_10) dX12_family_82 ?_
        exact g_ret C hH h dX12_family_83
      · rw [if_neg hs_9] at h
        by_cases hs_11 : x2 = 2
        · rw [if_pos hs_11] at h
          refine lv_tableIn (off := 69) (tgt := 84) hx hb dX12_family_15 (by rw [hs_11]; decide) (by rw [hs_11]; decide) (by rw [hs_11]; rfl) (by decide) ?_
          refine lv_aload_n hx hb dX12_family_84 rfl (lv_at hl 0 rfl) ?_
          refine lv_iload_n hx hb dX12_family_85 rfl (lv_at hl 1 rfl) ?_
          obtain ⟨r_12, σ_13, hc_14, h⟩ := bdI_ex h
          refine g_ci (g_runV (rest := []) C hH hl.1 cV_X12_336 0 (Nat.le_of_ble_eq_true rfl) rfl rfl (kX12_partBits l D ad κ hc_14) ⟨rfl, rfl⟩ ⟨(Nat.le_of_ble_eq_true rfl), (Nat.le_of_ble_eq_true rfl)⟩ rfl rfl (Nat.le_of_ble_eq_true rfl) dX12_family_86 z00) hH (fun H locs hH => ?_)
          exact g_ret C hH h dX12_family_89
        · rw [if_neg hs_11] at h
          by_cases hs_15 : x2 = 3
          · rw [if_pos hs_15] at h
            refine lv_tableIn (off := 75) (tgt := 90) hx hb dX12_family_15 (by rw [hs_15]; decide) (by rw [hs_15]; decide) (by rw [hs_15]; rfl) (by decide) ?_
            refine lv_aload_n hx hb dX12_family_90 rfl (lv_at hl 0 rfl) ?_
            refine g_get C hH 0 (Nat.le_of_ble_eq_true rfl) rfl fl_X12_113 (v := .ref (ad 32)) rfl dX12_family_91 ?_
            refine lv_bipush (v := 23) hx hb dX12_family_94 (by decide) ?_
            refine lv_iload_n hx hb dX12_family_96 rfl (lv_at hl 1 rfl) ?_
            refine lv_iadd hx hb dX12_family_97 ?_
            obtain ⟨hi_16, h⟩ := gd_ex h
            refine g_iald C hH 32 (Nat.le_of_ble_eq_true rfl) rfl (k := (((23 : Int32) + x1).toNatClampNeg)) rfl (ix_in hi_16) dX12_family_98 ?_
            exact g_ret C hH h dX12_family_99
          · rw [if_neg hs_15] at h
            by_cases hs_17 : x2 = 4
            · rw [if_pos hs_17] at h
              refine lv_tableIn (off := 85) (tgt := 100) hx hb dX12_family_15 (by rw [hs_17]; decide) (by rw [hs_17]; decide) (by rw [hs_17]; rfl) (by decide) ?_
              refine lv_aload_n hx hb dX12_family_100 rfl (lv_at hl 0 rfl) ?_
              refine g_get C hH 0 (Nat.le_of_ble_eq_true rfl) rfl fl_X12_113 (v := .ref (ad 32)) rfl dX12_family_101 ?_
              refine lv_bipush (v := 28) hx hb dX12_family_104 (by decide) ?_
              refine lv_iload_n hx hb dX12_family_106 rfl (lv_at hl 1 rfl) ?_
              refine lv_iadd hx hb dX12_family_107 ?_
              obtain ⟨hi_18, h⟩ := gd_ex h
              refine g_iald C hH 32 (Nat.le_of_ble_eq_true rfl) rfl (k := (((28 : Int32) + x1).toNatClampNeg)) rfl (ix_in hi_18) dX12_family_108 ?_
              exact g_ret C hH h dX12_family_109
            · rw [if_neg hs_17] at h
              by_cases hs_19 : x2 = 5
              · rw [if_pos hs_19] at h
                refine lv_tableIn (off := 95) (tgt := 110) hx hb dX12_family_15 (by rw [hs_19]; decide) (by rw [hs_19]; decide) (by rw [hs_19]; rfl) (by decide) ?_
                refine lv_aload_n hx hb dX12_family_110 rfl (lv_at hl 0 rfl) ?_
                refine lv_iload_n hx hb dX12_family_111 rfl (lv_at hl 1 rfl) ?_
                obtain ⟨r_20, σ_21, hc_22, h⟩ := bdI_ex h
                refine g_ci (g_runV (rest := []) C hH hl.1 cV_X12_357 0 (Nat.le_of_ble_eq_true rfl) rfl rfl (kX12_rentsOf l D ad κ hc_22) ⟨rfl, rfl⟩ ⟨(Nat.le_of_ble_eq_true rfl), (Nat.le_of_ble_eq_true rfl)⟩ rfl rfl (Nat.le_of_ble_eq_true rfl) dX12_family_112 z00) hH (fun H locs hH => ?_)
                exact g_ret C hH h dX12_family_115
              · rw [if_neg hs_19] at h
                by_cases hs_23 : x2 = 6
                · rw [if_pos hs_23] at h
                  refine lv_tableIn (off := 101) (tgt := 116) hx hb dX12_family_15 (by rw [hs_23]; decide) (by rw [hs_23]; decide) (by rw [hs_23]; rfl) (by decide) ?_
                  refine lv_aload_n hx hb dX12_family_116 rfl (lv_at hl 0 rfl) ?_
                  refine lv_iload_n hx hb dX12_family_117 rfl (lv_at hl 1 rfl) ?_
                  obtain ⟨r_24, σ_25, hc_26, h⟩ := bdI_ex h
                  refine g_ci (g_runV (rest := []) C hH hl.1 cV_X12_375 0 (Nat.le_of_ble_eq_true rfl) rfl rfl (kX12_curesOf l D ad κ hc_26) ⟨rfl, rfl⟩ ⟨(Nat.le_of_ble_eq_true rfl), (Nat.le_of_ble_eq_true rfl)⟩ rfl rfl (Nat.le_of_ble_eq_true rfl) dX12_family_118 z00) hH (fun H locs hH => ?_)
                  exact g_ret C hH h dX12_family_121
                · rw [if_neg hs_23] at h
                  refine lv_tableOut (tgt := 122) hx hb dX12_family_15 (by have a0 := lv_neT hs_7 (show (0 : Int32).toInt = 0 from by decide); have a1 := lv_neT hs_9 (show (1 : Int32).toInt = 1 from by decide); have a2 := lv_neT hs_11 (show (2 : Int32).toInt = 2 from by decide); have a3 := lv_neT hs_15 (show (3 : Int32).toInt = 3 from by decide); have a4 := lv_neT hs_17 (show (4 : Int32).toInt = 4 from by decide); have a5 := lv_neT hs_19 (show (5 : Int32).toInt = 5 from by decide); have a6 := lv_neT hs_23 (show (6 : Int32).toInt = 6 from by decide); omega) (by decide) ?_
                  refine lv_iconst (v := (-1)) hx hb dX12_family_122 (by decide) ?_
                  exact g_ret C hH h dX12_family_123
  · rw [if_pos hq_4] at h
    refine lv_iconst (v := (-1)) hx hb dX12_family_8 (by decide) ?_
    exact g_ret C hH h dX12_family_9
-- X12_isPart
def FX12_isPart (x0 : Int32) (σ : HS) : Option (Int32 × HS) :=
  bdI (FX12_in x0 (0 : Int32) (7 : Int32) σ) fun r_1 σ_2 => gd (isB r_1) (some (r_1, σ_2))
set_option maxHeartbeats 4000000 in
set_option maxRecDepth 100000 in
theorem kX12_isPart (l : Launch) (D : va_G) (ad : Nat → Nat) (κ : KC) {x0 : Int32} {σ : HS} {R : (Int32 × HS)} (h : FX12_isPart x0 σ = some R) : MtI l 45 ceM D ad κ yX12_isPart cX12_isPart 1 (some .boolean) ({ frames := 1, cells := 0, slots := 0, locals := 22 } : Room) [.int x0] σ R := by
  refine open_ (by decide) (Nat.le_of_ble_eq_true rfl) (la := [(0, .int x0)]) rfl ?_
  intro p e s m below meth c ls C hH hl
  replace C : Cx 45 D ad κ p s m _ meth c cX12_isPart RX12 1 (some .boolean) := C
  have hx := C.1
  have hb := C.2.1
  have hown := C.2.2.2.1
  have hts := C.2.2.2.2.1
  rw [FX12_isPart] at h
  refine lv_iload_n hx hb dX12_isPart_0 rfl (lv_at hl 0 rfl) ?_
  refine lv_iconst (v := 0) hx hb dX12_isPart_1 (by decide) ?_
  refine lv_bipush (v := 7) hx hb dX12_isPart_2 (by decide) ?_
  obtain ⟨r_1, σ_2, hc_3, h⟩ := bdI_ex h
  refine g_ci (g_runS (rest := []) C hH hl.1 cS_X12_310 (kX12_in l D ad κ hc_3) ⟨rfl, rfl⟩ ⟨(Nat.le_of_ble_eq_true rfl), (Nat.le_of_ble_eq_true rfl)⟩ rfl rfl (Nat.le_of_ble_eq_true rfl) dX12_isPart_4 z00) hH (fun H locs hH => ?_)
  obtain ⟨hb_4, h⟩ := gd_ex h
  exact g_retZ C hH hb_4 h dX12_isPart_7
-- X12_lease
def FX12_lease (x1 : Int32) (σ : HS) : Option (Int32 × HS) :=
  bdI (FX12_isPart x1 σ) fun r_1 σ_2 => if r_1 = 0 then some ((-1 : Int32), σ_2) else gd (ix ((10 : Int32) + x1) 33) (some ((σ_2.1 31 (((10 : Int32) + x1).toNatClampNeg)), σ_2))
set_option maxHeartbeats 4000000 in
set_option maxRecDepth 100000 in
theorem kX12_lease (l : Launch) (D : va_G) (ad : Nat → Nat) (κ : KC) {x1 : Int32} {σ : HS} {R : (Int32 × HS)} (h : FX12_lease x1 σ = some R) : MtI l 45 ceM D ad κ yX12_lease cX12_lease 2 (some .int) ({ frames := 2, cells := 0, slots := 0, locals := 42 } : Room) [.ref (ad 0), .int x1] σ R := by
  refine open_ (by decide) (Nat.le_of_ble_eq_true rfl) (la := [(0, .ref (ad 0)), (1, .int x1)]) rfl ?_
  intro p e s m below meth c ls C hH hl
  replace C : Cx 45 D ad κ p s m _ meth c cX12_lease RX12 2 (some .int) := C
  have hx := C.1
  have hb := C.2.1
  have hown := C.2.2.2.1
  have hts := C.2.2.2.2.1
  rw [FX12_lease] at h
  refine lv_iload_n hx hb dX12_lease_0 rfl (lv_at hl 1 rfl) ?_
  obtain ⟨r_1, σ_2, hc_3, h⟩ := bdI_ex h
  refine g_ci (g_runS (rest := []) C hH hl.1 cS_X12_378 (kX12_isPart l D ad κ hc_3) ⟨rfl, rfl⟩ ⟨(Nat.le_of_ble_eq_true rfl), (Nat.le_of_ble_eq_true rfl)⟩ rfl rfl (Nat.le_of_ble_eq_true rfl) dX12_lease_1 z00) hH (fun H locs hH => ?_)
  refine lv_if_eq (tgt := 19) hx hb dX12_lease_4 (by decide) (fun hq_4 => ?_) (fun hq_4 => ?_)
  · rw [if_pos hq_4] at h
    refine lv_iconst (v := (-1)) hx hb dX12_lease_19 (by decide) ?_
    exact g_ret C hH h dX12_lease_20
  · rw [if_neg hq_4] at h
    refine lv_aload_n hx hb dX12_lease_7 rfl (lv_at hl 0 rfl) ?_
    refine g_get C hH 0 (Nat.le_of_ble_eq_true rfl) rfl fl_X12_110 (v := .ref (ad 31)) rfl dX12_lease_8 ?_
    refine lv_bipush (v := 10) hx hb dX12_lease_11 (by decide) ?_
    refine lv_iload_n hx hb dX12_lease_13 rfl (lv_at hl 1 rfl) ?_
    refine lv_iadd hx hb dX12_lease_14 ?_
    obtain ⟨hi_5, h⟩ := gd_ex h
    refine g_iald C hH 31 (Nat.le_of_ble_eq_true rfl) rfl (k := (((10 : Int32) + x1).toNatClampNeg)) rfl (ix_in hi_5) dX12_lease_15 ?_
    refine lv_goto (tgt := 20) hx hb dX12_lease_16 (by decide) ?_
    exact g_ret C hH h dX12_lease_20
-- X12_worth
def FX12_worth (x1 : Int32) (x2 : Int32) (x3 : Int32) (σ : HS) : Option (Int32 × HS) :=
  bdI (FX12_isFamily x1 σ) fun r_1 σ_2 => if r_1 = 0 then some ((-1 : Int32), σ_2) else bdI (FX12_isMinute x2 σ_2) fun r_5 σ_6 => if r_5 = 0 then some ((-1 : Int32), σ_6) else bdI (FX12_isPart x3 σ_6) fun r_9 σ_10 => if r_9 = 0 then some ((-1 : Int32), σ_10) else bdV (FX12_copies σ_10) fun σ_13 => bdI (FX12_worthOf x1 x2 x3 σ_13) fun r_15 σ_16 => some (r_15, σ_16)
set_option maxHeartbeats 4000000 in
set_option maxRecDepth 100000 in
theorem kX12_worth (l : Launch) (D : va_G) (ad : Nat → Nat) (κ : KC) {x1 : Int32} {x2 : Int32} {x3 : Int32} {σ : HS} {R : (Int32 × HS)} (h : FX12_worth x1 x2 x3 σ = some R) : MtI l 45 ceM D ad κ yX12_worth cX12_worth 4 (some .int) ({ frames := 3, cells := 0, slots := 0, locals := 76 } : Room) [.ref (ad 0), .int x1, .int x2, .int x3] σ R := by
  refine open_ (by decide) (Nat.le_of_ble_eq_true rfl) (la := [(0, .ref (ad 0)), (1, .int x1), (2, .int x2), (3, .int x3)]) rfl ?_
  intro p e s m below meth c ls C hH hl
  replace C : Cx 45 D ad κ p s m _ meth c cX12_worth RX12 4 (some .int) := C
  have hx := C.1
  have hb := C.2.1
  have hown := C.2.2.2.1
  have hts := C.2.2.2.2.1
  rw [FX12_worth] at h
  refine lv_aload_n hx hb dX12_worth_0 rfl (lv_at hl 0 rfl) ?_
  refine lv_iload_n hx hb dX12_worth_1 rfl (lv_at hl 1 rfl) ?_
  obtain ⟨r_1, σ_2, hc_3, h⟩ := bdI_ex h
  refine g_ci (g_runV (rest := []) C hH hl.1 cV_X12_372 0 (Nat.le_of_ble_eq_true rfl) rfl rfl (kX12_isFamily l D ad κ hc_3) ⟨rfl, rfl⟩ ⟨(Nat.le_of_ble_eq_true rfl), (Nat.le_of_ble_eq_true rfl)⟩ rfl rfl (Nat.le_of_ble_eq_true rfl) dX12_worth_2 z00) hH (fun H locs hH => ?_)
  refine lv_if_eq (tgt := 23) hx hb dX12_worth_5 (by decide) (fun hq_4 => ?_) (fun hq_4 => ?_)
  · rw [if_pos hq_4] at h
    refine lv_iconst (v := (-1)) hx hb dX12_worth_23 (by decide) ?_
    exact g_ret C hH h dX12_worth_24
  · rw [if_neg hq_4] at h
    refine lv_aload_n hx hb dX12_worth_8 rfl (lv_at hl 0 rfl) ?_
    refine lv_iload_n hx hb dX12_worth_9 rfl (lv_at hl 2 rfl) ?_
    obtain ⟨r_5, σ_6, hc_7, h⟩ := bdI_ex h
    refine g_ci (g_runV (rest := []) C hH hl.1 cV_X12_366 0 (Nat.le_of_ble_eq_true rfl) rfl rfl (kX12_isMinute l D ad κ hc_7) ⟨rfl, rfl⟩ ⟨(Nat.le_of_ble_eq_true rfl), (Nat.le_of_ble_eq_true rfl)⟩ rfl rfl (Nat.le_of_ble_eq_true rfl) dX12_worth_10 z00) hH (fun H locs hH => ?_)
    refine lv_if_eq (tgt := 23) hx hb dX12_worth_13 (by decide) (fun hq_8 => ?_) (fun hq_8 => ?_)
    · rw [if_pos hq_8] at h
      refine lv_iconst (v := (-1)) hx hb dX12_worth_23 (by decide) ?_
      exact g_ret C hH h dX12_worth_24
    · rw [if_neg hq_8] at h
      refine lv_iload_n hx hb dX12_worth_16 rfl (lv_at hl 3 rfl) ?_
      obtain ⟨r_9, σ_10, hc_11, h⟩ := bdI_ex h
      refine g_ci (g_runS (rest := []) C hH hl.1 cS_X12_378 (kX12_isPart l D ad κ hc_11) ⟨rfl, rfl⟩ ⟨(Nat.le_of_ble_eq_true rfl), (Nat.le_of_ble_eq_true rfl)⟩ rfl rfl (Nat.le_of_ble_eq_true rfl) dX12_worth_17 z00) hH (fun H locs hH => ?_)
      refine lv_if_ne (tgt := 25) hx hb dX12_worth_20 (by decide) (fun hq_12 => ?_) (fun hq_12 => ?_)
      · rw [if_neg hq_12] at h
        refine lv_aload_n hx hb dX12_worth_25 rfl (lv_at hl 0 rfl) ?_
        obtain ⟨σ_13, hc_14, h⟩ := bdV_ex h
        refine g_cv (g_runV (rest := []) C hH hl.1 cV_X12_369 0 (Nat.le_of_ble_eq_true rfl) rfl rfl (kX12_copies l D ad κ hc_14) ⟨rfl, rfl⟩ ⟨(Nat.le_of_ble_eq_true rfl), (Nat.le_of_ble_eq_true rfl)⟩ rfl rfl (Nat.le_of_ble_eq_true rfl) dX12_worth_26 z00) hH (fun H locs hH => ?_)
        refine lv_aload_n hx hb dX12_worth_29 rfl (lv_at hl 0 rfl) ?_
        refine lv_iload_n hx hb dX12_worth_30 rfl (lv_at hl 1 rfl) ?_
        refine lv_iload_n hx hb dX12_worth_31 rfl (lv_at hl 2 rfl) ?_
        refine lv_iload_n hx hb dX12_worth_32 rfl (lv_at hl 3 rfl) ?_
        obtain ⟨r_15, σ_16, hc_17, h⟩ := bdI_ex h
        refine g_ci (g_runV (rest := []) C hH hl.1 cV_X12_354 0 (Nat.le_of_ble_eq_true rfl) rfl rfl (kX12_worthOf l D ad κ hc_17) ⟨rfl, rfl⟩ ⟨(Nat.le_of_ble_eq_true rfl), (Nat.le_of_ble_eq_true rfl)⟩ rfl rfl (Nat.le_of_ble_eq_true rfl) dX12_worth_33 z00) hH (fun H locs hH => ?_)
        exact g_ret C hH h dX12_worth_36
      · rw [if_pos hq_12] at h
        refine lv_iconst (v := (-1)) hx hb dX12_worth_23 (by decide) ?_
        exact g_ret C hH h dX12_worth_24
-- X12_changesFor
def FX12_changesFor (x1 : Int32) (x2 : Int32) (σ : HS) : Option HS :=
  bdV (FX12_copies σ) fun σ_1 => gd (ix x2 33) (gd (ix x1 33) (hl_ (pI σ_1 32 (x1.toNatClampNeg) (σ_1.1 31 (x2.toNatClampNeg))) fun σ_5 => gd (ix x1 33) (gd (ix x2 33) (hl_ (pI σ_5 32 (x2.toNatClampNeg) (σ_5.1 31 (x1.toNatClampNeg))) fun σ_8 => some σ_8))))
set_option maxHeartbeats 4000000 in
set_option maxRecDepth 100000 in
theorem kX12_changesFor (l : Launch) (D : va_G) (ad : Nat → Nat) (κ : KC) {x1 : Int32} {x2 : Int32} {σ : HS} {R : HS} (h : FX12_changesFor x1 x2 σ = some R) : MtV l 45 ceM D ad κ yX12_changesFor cX12_changesFor 3 none ({ frames := 1, cells := 0, slots := 0, locals := 21 } : Room) [.ref (ad 0), .int x1, .int x2] σ R := by
  refine open_ (by decide) (Nat.le_of_ble_eq_true rfl) (la := [(0, .ref (ad 0)), (1, .int x1), (2, .int x2)]) rfl ?_
  intro p e s m below meth c ls C hH hl
  replace C : Cx 45 D ad κ p s m _ meth c cX12_changesFor RX12 3 none := C
  have hx := C.1
  have hb := C.2.1
  have hown := C.2.2.2.1
  have hts := C.2.2.2.2.1
  rw [FX12_changesFor] at h
  refine lv_aload_n hx hb dX12_changesFor_0 rfl (lv_at hl 0 rfl) ?_
  obtain ⟨σ_1, hc_2, h⟩ := bdV_ex h
  refine g_cv (g_runV (rest := []) C hH hl.1 cV_X12_369 0 (Nat.le_of_ble_eq_true rfl) rfl rfl (kX12_copies l D ad κ hc_2) ⟨rfl, rfl⟩ ⟨(Nat.le_of_ble_eq_true rfl), (Nat.le_of_ble_eq_true rfl)⟩ rfl rfl (Nat.le_of_ble_eq_true rfl) dX12_changesFor_1 z00) hH (fun H locs hH => ?_)
  refine lv_aload_n hx hb dX12_changesFor_4 rfl (lv_at hl 0 rfl) ?_
  refine g_get C hH 0 (Nat.le_of_ble_eq_true rfl) rfl fl_X12_113 (v := .ref (ad 32)) rfl dX12_changesFor_5 ?_
  refine lv_iload_n hx hb dX12_changesFor_8 rfl (lv_at hl 1 rfl) ?_
  refine lv_aload_n hx hb dX12_changesFor_9 rfl (lv_at hl 0 rfl) ?_
  refine g_get C hH 0 (Nat.le_of_ble_eq_true rfl) rfl fl_X12_110 (v := .ref (ad 31)) rfl dX12_changesFor_10 ?_
  refine lv_iload_n hx hb dX12_changesFor_13 rfl (lv_at hl 2 rfl) ?_
  obtain ⟨hi_3, h⟩ := gd_ex h
  refine g_iald C hH 31 (Nat.le_of_ble_eq_true rfl) rfl (k := (x2.toNatClampNeg)) rfl (ix_in hi_3) dX12_changesFor_14 ?_
  obtain ⟨hi_4, h⟩ := gd_ex h
  obtain ⟨σ_5, eσ_5, h⟩ := hl_ex h
  refine g_iast C hH 32 (Nat.le_of_ble_eq_true rfl) (fun _ _ => rfl) (k := (x1.toNatClampNeg)) rfl (ix_in hi_4) dX12_changesFor_15 (fun H locs hH => ?_)
  rw [← eσ_5] at hH
  refine lv_aload_n hx hb dX12_changesFor_16 rfl (lv_at hl 0 rfl) ?_
  refine g_get C hH 0 (Nat.le_of_ble_eq_true rfl) rfl fl_X12_113 (v := .ref (ad 32)) rfl dX12_changesFor_17 ?_
  refine lv_iload_n hx hb dX12_changesFor_20 rfl (lv_at hl 2 rfl) ?_
  refine lv_aload_n hx hb dX12_changesFor_21 rfl (lv_at hl 0 rfl) ?_
  refine g_get C hH 0 (Nat.le_of_ble_eq_true rfl) rfl fl_X12_110 (v := .ref (ad 31)) rfl dX12_changesFor_22 ?_
  refine lv_iload_n hx hb dX12_changesFor_25 rfl (lv_at hl 1 rfl) ?_
  obtain ⟨hi_6, h⟩ := gd_ex h
  refine g_iald C hH 31 (Nat.le_of_ble_eq_true rfl) rfl (k := (x1.toNatClampNeg)) rfl (ix_in hi_6) dX12_changesFor_26 ?_
  obtain ⟨hi_7, h⟩ := gd_ex h
  obtain ⟨σ_8, eσ_8, h⟩ := hl_ex h
  refine g_iast C hH 32 (Nat.le_of_ble_eq_true rfl) (fun _ _ => rfl) (k := (x2.toNatClampNeg)) rfl (ix_in hi_7) dX12_changesFor_27 (fun H locs hH => ?_)
  rw [← eσ_8] at hH
  exact g_retV C hH h dX12_changesFor_28
-- X12_records
def FX12_records_51  : Nat → Int32 → HS → Option HS
  | 0, _, _ => none
  | f + 1, x1, σ => if (33 : Int32) ≤ x1 then hl_ (pI σ 0 50 ((σ.1 0 50) + (1 : Int32))) fun σ_2 => bdV (FX12_keepsRow σ_2) fun σ_3 => some σ_3 else gd (ix x1 33) (gd (ix (((33 : Int32) * (σ.1 0 50)) + x1) 1320) (hl_ (pI σ 33 ((((33 : Int32) * (σ.1 0 50)) + x1).toNatClampNeg) (σ.1 31 (x1.toNatClampNeg))) fun σ_7 => FX12_records_51  f (x1 + 1) σ_7))
def FX12_records_11  : Nat → Int32 → HS → Option HS
  | 0, _, _ => none
  | f + 1, x1, σ => if (1287 : Int32) ≤ x1 then hl_ (pI σ 0 50 ((σ.1 0 50) - (1 : Int32))) fun σ_9 => FX12_records_51 fu (0 : Int32) σ_9 else gd (ix (x1 + (33 : Int32)) 1320) (gd (ix x1 1320) (hl_ (pI σ 33 (x1.toNatClampNeg) (σ.1 33 ((x1 + (33 : Int32)).toNatClampNeg))) fun σ_12 => FX12_records_11  f (x1 + 1) σ_12))
def FX12_records (σ : HS) : Option HS :=
  if (σ.1 0 50) = (40 : Int32) then FX12_records_11 fu (0 : Int32) σ else FX12_records_51 fu (0 : Int32) σ
set_option maxHeartbeats 4000000 in
set_option maxRecDepth 100000 in
theorem wX12_records_51 (C : Cx 45 D ad κ p s m args meth c cX12_records RX12 2 none) {R : HS} : ∀ (f : Nat) (x1 : Int32) (σ : HS) (H : Heap) (locs : List Loc) (ls : Array Slot), FX12_records_51  f x1 σ = some R → Hd 45 ceM D ad κ s σ H locs → lv_has ls 2 [(0, .ref (ad 0)), (1, .int x1)] → W p l e ({ frames := 1, cells := 0, slots := 0, locals := 21 } : Room) s m args below meth c H locs 0 0 (MQ below (QV 45 ceM D ad κ R) args s 0 0 (AX 45 ad)) (F0 m 51 ls []) := by
  have hx := C.1
  have hb := C.2.1
  have hown := C.2.2.2.1
  have hts := C.2.2.2.2.1
  intro f
  induction f with
  | zero =>
    intro x1 σ H locs ls h hH hl
    cases h
  | succ f ih =>
    intro x1 σ H locs ls h hH hl
    rw [FX12_records_51] at h
    refine lv_iload_n hx hb dX12_records_51 rfl (lv_at hl 1 rfl) ?_
    refine lv_bipush (v := 33) hx hb dX12_records_52 (by decide) ?_
    refine lv_icmp_ge (tgt := 83) hx hb dX12_records_54 (by decide) (fun hq_1 => ?_) (fun hq_1 => ?_)
    · rw [if_pos hq_1] at h
      refine lv_aload_n hx hb dX12_records_83 rfl (lv_at hl 0 rfl) ?_
      refine lv_dup hx hb dX12_records_84 rfl ?_
      refine g_get C hH 0 (Nat.le_of_ble_eq_true rfl) rfl fl_X12_248 (v := .int (σ.1 0 50)) rfl dX12_records_85 ?_
      refine lv_iconst (v := 1) hx hb dX12_records_88 (by decide) ?_
      refine lv_iadd hx hb dX12_records_89 ?_
      obtain ⟨σ_2, eσ_2, h⟩ := hl_ex h
      refine g_putI C hH 0 (Nat.le_of_ble_eq_true rfl) rfl fp_X12_248 rfl rfl (Nat.le_of_ble_eq_true rfl) rfl dX12_records_90 (fun H locs hH => ?_)
      rw [← eσ_2] at hH
      refine lv_aload_n hx hb dX12_records_93 rfl (lv_at hl 0 rfl) ?_
      obtain ⟨σ_3, hc_4, h⟩ := bdV_ex h
      refine g_cv (g_runV (rest := []) C hH hl.1 cV_X12_163 0 (Nat.le_of_ble_eq_true rfl) rfl rfl (kX12_keepsRow l D ad κ hc_4) ⟨rfl, rfl⟩ ⟨(Nat.le_of_ble_eq_true rfl), (Nat.le_of_ble_eq_true rfl)⟩ rfl rfl (Nat.le_of_ble_eq_true rfl) dX12_records_94 z00) hH (fun H locs hH => ?_)
      exact g_retV C hH h dX12_records_97
    · rw [if_neg hq_1] at h
      refine lv_aload_n hx hb dX12_records_57 rfl (lv_at hl 0 rfl) ?_
      refine g_get C hH 0 (Nat.le_of_ble_eq_true rfl) rfl fl_X12_116 (v := .ref (ad 33)) rfl dX12_records_58 ?_
      refine lv_bipush (v := 33) hx hb dX12_records_61 (by decide) ?_
      refine lv_aload_n hx hb dX12_records_63 rfl (lv_at hl 0 rfl) ?_
      refine g_get C hH 0 (Nat.le_of_ble_eq_true rfl) rfl fl_X12_248 (v := .int (σ.1 0 50)) rfl dX12_records_64 ?_
      refine lv_imul hx hb dX12_records_67 ?_
      refine lv_iload_n hx hb dX12_records_68 rfl (lv_at hl 1 rfl) ?_
      refine lv_iadd hx hb dX12_records_69 ?_
      refine lv_aload_n hx hb dX12_records_70 rfl (lv_at hl 0 rfl) ?_
      refine g_get C hH 0 (Nat.le_of_ble_eq_true rfl) rfl fl_X12_110 (v := .ref (ad 31)) rfl dX12_records_71 ?_
      refine lv_iload_n hx hb dX12_records_74 rfl (lv_at hl 1 rfl) ?_
      obtain ⟨hi_5, h⟩ := gd_ex h
      refine g_iald C hH 31 (Nat.le_of_ble_eq_true rfl) rfl (k := (x1.toNatClampNeg)) rfl (ix_in hi_5) dX12_records_75 ?_
      obtain ⟨hi_6, h⟩ := gd_ex h
      obtain ⟨σ_7, eσ_7, h⟩ := hl_ex h
      refine g_iast C hH 33 (Nat.le_of_ble_eq_true rfl) (fun _ _ => rfl) (k := ((((33 : Int32) * (σ.1 0 50)) + x1).toNatClampNeg)) rfl (ix_in hi_6) dX12_records_76 (fun H locs hH => ?_)
      rw [← eσ_7] at hH
      refine lv_iinc (v := (x1 + 1)) (lv' := [(1, .int (x1 + 1)), (0, .ref (ad 0))]) hx hb dX12_records_77 hl (k := 1) rfl rfl (by decide) rfl (fun ls hl => ?_)
      refine lv_goto (tgt := 51) hx hb dX12_records_80 (by decide) ?_
      exact ih _ _ _ _ _ h hH (lv_sub hl [1, 0] rfl)
set_option maxHeartbeats 4000000 in
set_option maxRecDepth 100000 in
theorem wX12_records_11 (C : Cx 45 D ad κ p s m args meth c cX12_records RX12 2 none) {R : HS} : ∀ (f : Nat) (x1 : Int32) (σ : HS) (H : Heap) (locs : List Loc) (ls : Array Slot), FX12_records_11  f x1 σ = some R → Hd 45 ceM D ad κ s σ H locs → lv_has ls 2 [(0, .ref (ad 0)), (1, .int x1)] → W p l e ({ frames := 1, cells := 0, slots := 0, locals := 21 } : Room) s m args below meth c H locs 0 0 (MQ below (QV 45 ceM D ad κ R) args s 0 0 (AX 45 ad)) (F0 m 11 ls []) := by
  have hx := C.1
  have hb := C.2.1
  have hown := C.2.2.2.1
  have hts := C.2.2.2.2.1
  intro f
  induction f with
  | zero =>
    intro x1 σ H locs ls h hH hl
    cases h
  | succ f ih =>
    intro x1 σ H locs ls h hH hl
    rw [FX12_records_11] at h
    refine lv_iload_n hx hb dX12_records_11 rfl (lv_at hl 1 rfl) ?_
    refine lv_sipush (v := 1287) hx hb dX12_records_12 (by decide) ?_
    refine lv_icmp_ge (tgt := 39) hx hb dX12_records_15 (by decide) (fun hq_8 => ?_) (fun hq_8 => ?_)
    · rw [if_pos hq_8] at h
      refine lv_aload_n hx hb dX12_records_39 rfl (lv_at hl 0 rfl) ?_
      refine lv_dup hx hb dX12_records_40 rfl ?_
      refine g_get C hH 0 (Nat.le_of_ble_eq_true rfl) rfl fl_X12_248 (v := .int (σ.1 0 50)) rfl dX12_records_41 ?_
      refine lv_iconst (v := 1) hx hb dX12_records_44 (by decide) ?_
      refine lv_isub hx hb dX12_records_45 ?_
      obtain ⟨σ_9, eσ_9, h⟩ := hl_ex h
      refine g_putI C hH 0 (Nat.le_of_ble_eq_true rfl) rfl fp_X12_248 rfl rfl (Nat.le_of_ble_eq_true rfl) rfl dX12_records_46 (fun H locs hH => ?_)
      rw [← eσ_9] at hH
      refine lv_iconst (v := 0) hx hb dX12_records_49 (by decide) ?_
      refine lv_istore_n (lv' := [(1, .int (0 : Int32)), (0, .ref (ad 0))]) hx hb dX12_records_50 rfl hl (by decide) rfl (fun ls hl => ?_)
      exact wX12_records_51 C _ _ _ _ _ _ h hH (lv_sub hl [1, 0] rfl)
    · rw [if_neg hq_8] at h
      refine lv_aload_n hx hb dX12_records_18 rfl (lv_at hl 0 rfl) ?_
      refine g_get C hH 0 (Nat.le_of_ble_eq_true rfl) rfl fl_X12_116 (v := .ref (ad 33)) rfl dX12_records_19 ?_
      refine lv_iload_n hx hb dX12_records_22 rfl (lv_at hl 1 rfl) ?_
      refine lv_aload_n hx hb dX12_records_23 rfl (lv_at hl 0 rfl) ?_
      refine g_get C hH 0 (Nat.le_of_ble_eq_true rfl) rfl fl_X12_116 (v := .ref (ad 33)) rfl dX12_records_24 ?_
      refine lv_iload_n hx hb dX12_records_27 rfl (lv_at hl 1 rfl) ?_
      refine lv_bipush (v := 33) hx hb dX12_records_28 (by decide) ?_
      refine lv_iadd hx hb dX12_records_30 ?_
      obtain ⟨hi_10, h⟩ := gd_ex h
      refine g_iald C hH 33 (Nat.le_of_ble_eq_true rfl) rfl (k := ((x1 + (33 : Int32)).toNatClampNeg)) rfl (ix_in hi_10) dX12_records_31 ?_
      obtain ⟨hi_11, h⟩ := gd_ex h
      obtain ⟨σ_12, eσ_12, h⟩ := hl_ex h
      refine g_iast C hH 33 (Nat.le_of_ble_eq_true rfl) (fun _ _ => rfl) (k := (x1.toNatClampNeg)) rfl (ix_in hi_11) dX12_records_32 (fun H locs hH => ?_)
      rw [← eσ_12] at hH
      refine lv_iinc (v := (x1 + 1)) (lv' := [(1, .int (x1 + 1)), (0, .ref (ad 0))]) hx hb dX12_records_33 hl (k := 1) rfl rfl (by decide) rfl (fun ls hl => ?_)
      refine lv_goto (tgt := 11) hx hb dX12_records_36 (by decide) ?_
      exact ih _ _ _ _ _ h hH (lv_sub hl [1, 0] rfl)
set_option maxHeartbeats 4000000 in
set_option maxRecDepth 100000 in
theorem kX12_records (l : Launch) (D : va_G) (ad : Nat → Nat) (κ : KC) {σ : HS} {R : HS} (h : FX12_records σ = some R) : MtV l 45 ceM D ad κ yX12_records cX12_records 2 none ({ frames := 1, cells := 0, slots := 0, locals := 21 } : Room) [.ref (ad 0)] σ R := by
  refine open_ (by decide) (Nat.le_of_ble_eq_true rfl) (la := [(0, .ref (ad 0))]) rfl ?_
  intro p e s m below meth c ls C hH hl
  replace C : Cx 45 D ad κ p s m _ meth c cX12_records RX12 2 none := C
  have hx := C.1
  have hb := C.2.1
  have hown := C.2.2.2.1
  have hts := C.2.2.2.2.1
  rw [FX12_records] at h
  refine lv_aload_n hx hb dX12_records_0 rfl (lv_at hl 0 rfl) ?_
  refine g_get C hH 0 (Nat.le_of_ble_eq_true rfl) rfl fl_X12_248 (v := .int (σ.1 0 50)) rfl dX12_records_1 ?_
  refine lv_bipush (v := 40) hx hb dX12_records_4 (by decide) ?_
  refine lv_icmp_ne (tgt := 49) hx hb dX12_records_6 (by decide) (fun hq_13 => ?_) (fun hq_13 => ?_)
  · rw [if_neg hq_13] at h
    refine lv_iconst (v := 0) hx hb dX12_records_49 (by decide) ?_
    refine lv_istore_n (lv' := [(1, .int (0 : Int32)), (0, .ref (ad 0))]) hx hb dX12_records_50 rfl hl (by decide) rfl (fun ls hl => ?_)
    exact wX12_records_51 C _ _ _ _ _ _ h hH (lv_sub hl [1, 0] rfl)
  · rw [if_pos hq_13] at h
    refine lv_iconst (v := 0) hx hb dX12_records_9 (by decide) ?_
    refine lv_istore_n (lv' := [(1, .int (0 : Int32)), (0, .ref (ad 0))]) hx hb dX12_records_10 rfl hl (by decide) rfl (fun ls hl => ?_)
    exact wX12_records_11 C _ _ _ _ _ _ h hH (lv_sub hl [1, 0] rfl)
-- X12_change
def FX12_change (x1 : Int32) (x2 : Int32) (σ : HS) : Option (Int32 × HS) :=
  bdI (FX12_isMinute x1 σ) fun r_1 σ_2 => if r_1 = 0 then some ((0 : Int32), σ_2) else bdI (FX12_isMinute x2 σ_2) fun r_5 σ_6 => if r_5 = 0 then some ((0 : Int32), σ_6) else gd (ix x1 33) (gd (ix x2 33) (if (σ_6.1 31 (x1.toNatClampNeg)) = (σ_6.1 31 (x2.toNatClampNeg)) then some ((0 : Int32), σ_6) else bdV (FX12_changesFor x1 x2 σ_6) fun σ_12 => bdV (FX12_records σ_12) fun σ_14 => some ((1 : Int32), σ_14)))
set_option maxHeartbeats 4000000 in
set_option maxRecDepth 100000 in
theorem kX12_change (l : Launch) (D : va_G) (ad : Nat → Nat) (κ : KC) {x1 : Int32} {x2 : Int32} {σ : HS} {R : (Int32 × HS)} (h : FX12_change x1 x2 σ = some R) : MtI l 45 ceM D ad κ yX12_change cX12_change 3 (some .boolean) ({ frames := 2, cells := 0, slots := 0, locals := 43 } : Room) [.ref (ad 0), .int x1, .int x2] σ R := by
  refine open_ (by decide) (Nat.le_of_ble_eq_true rfl) (la := [(0, .ref (ad 0)), (1, .int x1), (2, .int x2)]) rfl ?_
  intro p e s m below meth c ls C hH hl
  replace C : Cx 45 D ad κ p s m _ meth c cX12_change RX12 3 (some .boolean) := C
  have hx := C.1
  have hb := C.2.1
  have hown := C.2.2.2.1
  have hts := C.2.2.2.2.1
  rw [FX12_change] at h
  refine lv_aload_n hx hb dX12_change_0 rfl (lv_at hl 0 rfl) ?_
  refine lv_iload_n hx hb dX12_change_1 rfl (lv_at hl 1 rfl) ?_
  obtain ⟨r_1, σ_2, hc_3, h⟩ := bdI_ex h
  refine g_ci (g_runV (rest := []) C hH hl.1 cV_X12_366 0 (Nat.le_of_ble_eq_true rfl) rfl rfl (kX12_isMinute l D ad κ hc_3) ⟨rfl, rfl⟩ ⟨(Nat.le_of_ble_eq_true rfl), (Nat.le_of_ble_eq_true rfl)⟩ rfl rfl (Nat.le_of_ble_eq_true rfl) dX12_change_2 z00) hH (fun H locs hH => ?_)
  refine lv_if_eq (tgt := 31) hx hb dX12_change_5 (by decide) (fun hq_4 => ?_) (fun hq_4 => ?_)
  · rw [if_pos hq_4] at h
    refine lv_iconst (v := 0) hx hb dX12_change_31 (by decide) ?_
    exact g_retZ C hH rfl h dX12_change_32
  · rw [if_neg hq_4] at h
    refine lv_aload_n hx hb dX12_change_8 rfl (lv_at hl 0 rfl) ?_
    refine lv_iload_n hx hb dX12_change_9 rfl (lv_at hl 2 rfl) ?_
    obtain ⟨r_5, σ_6, hc_7, h⟩ := bdI_ex h
    refine g_ci (g_runV (rest := []) C hH hl.1 cV_X12_366 0 (Nat.le_of_ble_eq_true rfl) rfl rfl (kX12_isMinute l D ad κ hc_7) ⟨rfl, rfl⟩ ⟨(Nat.le_of_ble_eq_true rfl), (Nat.le_of_ble_eq_true rfl)⟩ rfl rfl (Nat.le_of_ble_eq_true rfl) dX12_change_10 z00) hH (fun H locs hH => ?_)
    refine lv_if_eq (tgt := 31) hx hb dX12_change_13 (by decide) (fun hq_8 => ?_) (fun hq_8 => ?_)
    · rw [if_pos hq_8] at h
      refine lv_iconst (v := 0) hx hb dX12_change_31 (by decide) ?_
      exact g_retZ C hH rfl h dX12_change_32
    · rw [if_neg hq_8] at h
      refine lv_aload_n hx hb dX12_change_16 rfl (lv_at hl 0 rfl) ?_
      refine g_get C hH 0 (Nat.le_of_ble_eq_true rfl) rfl fl_X12_110 (v := .ref (ad 31)) rfl dX12_change_17 ?_
      refine lv_iload_n hx hb dX12_change_20 rfl (lv_at hl 1 rfl) ?_
      obtain ⟨hi_9, h⟩ := gd_ex h
      refine g_iald C hH 31 (Nat.le_of_ble_eq_true rfl) rfl (k := (x1.toNatClampNeg)) rfl (ix_in hi_9) dX12_change_21 ?_
      refine lv_aload_n hx hb dX12_change_22 rfl (lv_at hl 0 rfl) ?_
      refine g_get C hH 0 (Nat.le_of_ble_eq_true rfl) rfl fl_X12_110 (v := .ref (ad 31)) rfl dX12_change_23 ?_
      refine lv_iload_n hx hb dX12_change_26 rfl (lv_at hl 2 rfl) ?_
      obtain ⟨hi_10, h⟩ := gd_ex h
      refine g_iald C hH 31 (Nat.le_of_ble_eq_true rfl) rfl (k := (x2.toNatClampNeg)) rfl (ix_in hi_10) dX12_change_27 ?_
      refine lv_icmp_ne (tgt := 33) hx hb dX12_change_28 (by decide) (fun hq_11 => ?_) (fun hq_11 => ?_)
      · rw [if_neg hq_11] at h
        refine lv_aload_n hx hb dX12_change_33 rfl (lv_at hl 0 rfl) ?_
        refine lv_iload_n hx hb dX12_change_34 rfl (lv_at hl 1 rfl) ?_
        refine lv_iload_n hx hb dX12_change_35 rfl (lv_at hl 2 rfl) ?_
        obtain ⟨σ_12, hc_13, h⟩ := bdV_ex h
        refine g_cv (g_runV (rest := []) C hH hl.1 cV_X12_384 0 (Nat.le_of_ble_eq_true rfl) rfl rfl (kX12_changesFor l D ad κ hc_13) ⟨rfl, rfl⟩ ⟨(Nat.le_of_ble_eq_true rfl), (Nat.le_of_ble_eq_true rfl)⟩ rfl rfl (Nat.le_of_ble_eq_true rfl) dX12_change_36 z00) hH (fun H locs hH => ?_)
        refine lv_aload_n hx hb dX12_change_39 rfl (lv_at hl 0 rfl) ?_
        obtain ⟨σ_14, hc_15, h⟩ := bdV_ex h
        refine g_cv (g_runV (rest := []) C hH hl.1 cV_X12_381 0 (Nat.le_of_ble_eq_true rfl) rfl rfl (kX12_records l D ad κ hc_15) ⟨rfl, rfl⟩ ⟨(Nat.le_of_ble_eq_true rfl), (Nat.le_of_ble_eq_true rfl)⟩ rfl rfl (Nat.le_of_ble_eq_true rfl) dX12_change_40 z00) hH (fun H locs hH => ?_)
        refine lv_iconst (v := 1) hx hb dX12_change_43 (by decide) ?_
        exact g_retZ C hH rfl h dX12_change_44
      · rw [if_pos hq_11] at h
        refine lv_iconst (v := 0) hx hb dX12_change_31 (by decide) ?_
        exact g_retZ C hH rfl h dX12_change_32
-- X12_does
def FX12_does (x1 : Int32) (x2 : Int32) (σ : HS) : Option HS :=
  bdV (FX12_copies σ) fun σ_1 => gd (ix x1 33) (hl_ (pI σ_1 32 (x1.toNatClampNeg) x2) fun σ_4 => bdV (FX12_records σ_4) fun σ_5 => some σ_5)
set_option maxHeartbeats 4000000 in
set_option maxRecDepth 100000 in
theorem kX12_does (l : Launch) (D : va_G) (ad : Nat → Nat) (κ : KC) {x1 : Int32} {x2 : Int32} {σ : HS} {R : HS} (h : FX12_does x1 x2 σ = some R) : MtV l 45 ceM D ad κ yX12_does cX12_does 3 none ({ frames := 2, cells := 0, slots := 0, locals := 42 } : Room) [.ref (ad 0), .int x1, .int x2] σ R := by
  refine open_ (by decide) (Nat.le_of_ble_eq_true rfl) (la := [(0, .ref (ad 0)), (1, .int x1), (2, .int x2)]) rfl ?_
  intro p e s m below meth c ls C hH hl
  replace C : Cx 45 D ad κ p s m _ meth c cX12_does RX12 3 none := C
  have hx := C.1
  have hb := C.2.1
  have hown := C.2.2.2.1
  have hts := C.2.2.2.2.1
  rw [FX12_does] at h
  refine lv_aload_n hx hb dX12_does_0 rfl (lv_at hl 0 rfl) ?_
  obtain ⟨σ_1, hc_2, h⟩ := bdV_ex h
  refine g_cv (g_runV (rest := []) C hH hl.1 cV_X12_369 0 (Nat.le_of_ble_eq_true rfl) rfl rfl (kX12_copies l D ad κ hc_2) ⟨rfl, rfl⟩ ⟨(Nat.le_of_ble_eq_true rfl), (Nat.le_of_ble_eq_true rfl)⟩ rfl rfl (Nat.le_of_ble_eq_true rfl) dX12_does_1 z00) hH (fun H locs hH => ?_)
  refine lv_aload_n hx hb dX12_does_4 rfl (lv_at hl 0 rfl) ?_
  refine g_get C hH 0 (Nat.le_of_ble_eq_true rfl) rfl fl_X12_113 (v := .ref (ad 32)) rfl dX12_does_5 ?_
  refine lv_iload_n hx hb dX12_does_8 rfl (lv_at hl 1 rfl) ?_
  refine lv_iload_n hx hb dX12_does_9 rfl (lv_at hl 2 rfl) ?_
  obtain ⟨hi_3, h⟩ := gd_ex h
  obtain ⟨σ_4, eσ_4, h⟩ := hl_ex h
  refine g_iast C hH 32 (Nat.le_of_ble_eq_true rfl) (fun _ _ => rfl) (k := (x1.toNatClampNeg)) rfl (ix_in hi_3) dX12_does_10 (fun H locs hH => ?_)
  rw [← eσ_4] at hH
  refine lv_aload_n hx hb dX12_does_11 rfl (lv_at hl 0 rfl) ?_
  obtain ⟨σ_5, hc_6, h⟩ := bdV_ex h
  refine g_cv (g_runV (rest := []) C hH hl.1 cV_X12_381 0 (Nat.le_of_ble_eq_true rfl) rfl rfl (kX12_records l D ad κ hc_6) ⟨rfl, rfl⟩ ⟨(Nat.le_of_ble_eq_true rfl), (Nat.le_of_ble_eq_true rfl)⟩ rfl rfl (Nat.le_of_ble_eq_true rfl) dX12_does_12 z00) hH (fun H locs hH => ?_)
  exact g_retV C hH h dX12_does_15
-- X12_let
def FX12_let_33  (x1 : Int32) (x2 : Int32) (y0 : Int32) (σ : HS) : Option (Int32 × HS) :=
  gd (ix ((10 : Int32) + x1) 33) (if (σ.1 31 (((10 : Int32) + x1).toNatClampNeg)) = y0 then some ((0 : Int32), σ) else bdV (FX12_does ((10 : Int32) + x1) y0 σ) fun σ_3 => some ((1 : Int32), σ_3))
def FX12_let_22  (x1 : Int32) (x2 : Int32) (σ : HS) : Option (Int32 × HS) :=
  if x2 = (-1 : Int32) then FX12_let_33 x1 x2 (-2 : Int32) σ else FX12_let_33 x1 x2 x2 σ
def FX12_let (x1 : Int32) (x2 : Int32) (σ : HS) : Option (Int32 × HS) :=
  bdI (FX12_isPart x1 σ) fun r_6 σ_7 => if r_6 = 0 then some ((0 : Int32), σ_7) else if x2 = (-1 : Int32) then FX12_let_22 x1 x2 σ_7 else bdI (FX12_isFamily x2 σ_7) fun r_11 σ_12 => if r_11 = 0 then some ((0 : Int32), σ_12) else FX12_let_22 x1 x2 σ_12
set_option maxHeartbeats 4000000 in
set_option maxRecDepth 100000 in
theorem wX12_let_33 (C : Cx 45 D ad κ p s m args meth c cX12_let RX12 4 (some .boolean)) {R : (Int32 × HS)} : ∀ (x1 : Int32) (x2 : Int32) (y0 : Int32) (σ : HS) (H : Heap) (locs : List Loc) (ls : Array Slot), FX12_let_33  x1 x2 y0 σ = some R → Hd 45 ceM D ad κ s σ H locs → lv_has ls 4 [(0, .ref (ad 0)), (1, .int x1), (2, .int x2)] → W p l e ({ frames := 3, cells := 0, slots := 0, locals := 64 } : Room) s m args below meth c H locs 0 0 (MQ below (QI 45 ceM D ad κ R) args s 0 0 (AX 45 ad)) (F0 m 33 ls [.int y0]) := by
  have hx := C.1
  have hb := C.2.1
  have hown := C.2.2.2.1
  have hts := C.2.2.2.2.1
  intro x1 x2 y0 σ H locs ls h hH hl
  rw [FX12_let_33] at h
  refine lv_istore_n (lv' := [(3, .int y0), (0, .ref (ad 0)), (1, .int x1), (2, .int x2)]) hx hb dX12_let_33 rfl hl (by decide) rfl (fun ls hl => ?_)
  refine lv_aload_n hx hb dX12_let_34 rfl (lv_at hl 1 rfl) ?_
  refine g_get C hH 0 (Nat.le_of_ble_eq_true rfl) rfl fl_X12_110 (v := .ref (ad 31)) rfl dX12_let_35 ?_
  refine lv_bipush (v := 10) hx hb dX12_let_38 (by decide) ?_
  refine lv_iload_n hx hb dX12_let_40 rfl (lv_at hl 2 rfl) ?_
  refine lv_iadd hx hb dX12_let_41 ?_
  obtain ⟨hi_1, h⟩ := gd_ex h
  refine g_iald C hH 31 (Nat.le_of_ble_eq_true rfl) rfl (k := (((10 : Int32) + x1).toNatClampNeg)) rfl (ix_in hi_1) dX12_let_42 ?_
  refine lv_iload_n hx hb dX12_let_43 rfl (lv_at hl 0 rfl) ?_
  refine lv_icmp_ne (tgt := 49) hx hb dX12_let_44 (by decide) (fun hq_2 => ?_) (fun hq_2 => ?_)
  · rw [if_neg hq_2] at h
    refine lv_aload_n hx hb dX12_let_49 rfl (lv_at hl 1 rfl) ?_
    refine lv_bipush (v := 10) hx hb dX12_let_50 (by decide) ?_
    refine lv_iload_n hx hb dX12_let_52 rfl (lv_at hl 2 rfl) ?_
    refine lv_iadd hx hb dX12_let_53 ?_
    refine lv_iload_n hx hb dX12_let_54 rfl (lv_at hl 0 rfl) ?_
    obtain ⟨σ_3, hc_4, h⟩ := bdV_ex h
    refine g_cv (g_runV (rest := []) C hH hl.1 cV_X12_387 0 (Nat.le_of_ble_eq_true rfl) rfl rfl (kX12_does l D ad κ hc_4) ⟨rfl, rfl⟩ ⟨(Nat.le_of_ble_eq_true rfl), (Nat.le_of_ble_eq_true rfl)⟩ rfl rfl (Nat.le_of_ble_eq_true rfl) dX12_let_55 z00) hH (fun H locs hH => ?_)
    refine lv_iconst (v := 1) hx hb dX12_let_58 (by decide) ?_
    exact g_retZ C hH rfl h dX12_let_59
  · rw [if_pos hq_2] at h
    refine lv_iconst (v := 0) hx hb dX12_let_47 (by decide) ?_
    exact g_retZ C hH rfl h dX12_let_48
set_option maxHeartbeats 4000000 in
set_option maxRecDepth 100000 in
theorem wX12_let_22 (C : Cx 45 D ad κ p s m args meth c cX12_let RX12 4 (some .boolean)) {R : (Int32 × HS)} : ∀ (x1 : Int32) (x2 : Int32) (σ : HS) (H : Heap) (locs : List Loc) (ls : Array Slot), FX12_let_22  x1 x2 σ = some R → Hd 45 ceM D ad κ s σ H locs → lv_has ls 4 [(0, .ref (ad 0)), (1, .int x1), (2, .int x2)] → W p l e ({ frames := 3, cells := 0, slots := 0, locals := 64 } : Room) s m args below meth c H locs 0 0 (MQ below (QI 45 ceM D ad κ R) args s 0 0 (AX 45 ad)) (F0 m 22 ls []) := by
  have hx := C.1
  have hb := C.2.1
  have hown := C.2.2.2.1
  have hts := C.2.2.2.2.1
  intro x1 x2 σ H locs ls h hH hl
  rw [FX12_let_22] at h
  refine lv_iload_n hx hb dX12_let_22 rfl (lv_at hl 2 rfl) ?_
  refine lv_iconst (v := (-1)) hx hb dX12_let_23 (by decide) ?_
  refine lv_icmp_ne (tgt := 32) hx hb dX12_let_24 (by decide) (fun hq_5 => ?_) (fun hq_5 => ?_)
  · rw [if_neg hq_5] at h
    refine lv_iload_n hx hb dX12_let_32 rfl (lv_at hl 2 rfl) ?_
    exact wX12_let_33 C  _ _ _ _ _ _ _ h hH (lv_sub hl [0, 1, 2] rfl)
  · rw [if_pos hq_5] at h
    refine lv_bipush (v := (-2)) hx hb dX12_let_27 (by decide) ?_
    refine lv_goto (tgt := 33) hx hb dX12_let_29 (by decide) ?_
    exact wX12_let_33 C  _ _ _ _ _ _ _ h hH (lv_sub hl [0, 1, 2] rfl)
set_option maxHeartbeats 4000000 in
set_option maxRecDepth 100000 in
theorem kX12_let (l : Launch) (D : va_G) (ad : Nat → Nat) (κ : KC) {x1 : Int32} {x2 : Int32} {σ : HS} {R : (Int32 × HS)} (h : FX12_let x1 x2 σ = some R) : MtI l 45 ceM D ad κ yX12_let cX12_let 4 (some .boolean) ({ frames := 3, cells := 0, slots := 0, locals := 64 } : Room) [.ref (ad 0), .int x1, .int x2] σ R := by
  refine open_ (by decide) (Nat.le_of_ble_eq_true rfl) (la := [(0, .ref (ad 0)), (1, .int x1), (2, .int x2)]) rfl ?_
  intro p e s m below meth c ls C hH hl
  replace C : Cx 45 D ad κ p s m _ meth c cX12_let RX12 4 (some .boolean) := C
  have hx := C.1
  have hb := C.2.1
  have hown := C.2.2.2.1
  have hts := C.2.2.2.2.1
  rw [FX12_let] at h
  refine lv_iload_n hx hb dX12_let_0 rfl (lv_at hl 1 rfl) ?_
  obtain ⟨r_6, σ_7, hc_8, h⟩ := bdI_ex h
  refine g_ci (g_runS (rest := []) C hH hl.1 cS_X12_378 (kX12_isPart l D ad κ hc_8) ⟨rfl, rfl⟩ ⟨(Nat.le_of_ble_eq_true rfl), (Nat.le_of_ble_eq_true rfl)⟩ rfl rfl (Nat.le_of_ble_eq_true rfl) dX12_let_1 z00) hH (fun H locs hH => ?_)
  refine lv_if_eq (tgt := 20) hx hb dX12_let_4 (by decide) (fun hq_9 => ?_) (fun hq_9 => ?_)
  · rw [if_pos hq_9] at h
    refine lv_iconst (v := 0) hx hb dX12_let_20 (by decide) ?_
    exact g_retZ C hH rfl h dX12_let_21
  · rw [if_neg hq_9] at h
    refine lv_iload_n hx hb dX12_let_7 rfl (lv_at hl 2 rfl) ?_
    refine lv_iconst (v := (-1)) hx hb dX12_let_8 (by decide) ?_
    refine lv_icmp_eq (tgt := 22) hx hb dX12_let_9 (by decide) (fun hq_10 => ?_) (fun hq_10 => ?_)
    · rw [if_pos hq_10] at h
      exact wX12_let_22 C  _ _ _ _ _ _ h hH (lv_sub hl [0, 1, 2] rfl)
    · rw [if_neg hq_10] at h
      refine lv_aload_n hx hb dX12_let_12 rfl (lv_at hl 0 rfl) ?_
      refine lv_iload_n hx hb dX12_let_13 rfl (lv_at hl 2 rfl) ?_
      obtain ⟨r_11, σ_12, hc_13, h⟩ := bdI_ex h
      refine g_ci (g_runV (rest := []) C hH hl.1 cV_X12_372 0 (Nat.le_of_ble_eq_true rfl) rfl rfl (kX12_isFamily l D ad κ hc_13) ⟨rfl, rfl⟩ ⟨(Nat.le_of_ble_eq_true rfl), (Nat.le_of_ble_eq_true rfl)⟩ rfl rfl (Nat.le_of_ble_eq_true rfl) dX12_let_14 z00) hH (fun H locs hH => ?_)
      refine lv_if_ne (tgt := 22) hx hb dX12_let_17 (by decide) (fun hq_14 => ?_) (fun hq_14 => ?_)
      · rw [if_neg hq_14] at h
        exact wX12_let_22 C  _ _ _ _ _ _ h hH (lv_sub hl [0, 1, 2] rfl)
      · rw [if_pos hq_14] at h
        refine lv_iconst (v := 0) hx hb dX12_let_20 (by decide) ?_
        exact g_retZ C hH rfl h dX12_let_21
-- X12_given
def FX12_given_38  (x1 : Int32) (x2 : Int32) (y1 : Int32) (y2 : Int32) (y3 : Int32) (σ : HS) : Option (Int32 × HS) :=
  bdV (FX12_does y1 (y2 + y3) σ) fun σ_1 => some ((1 : Int32), σ_1)
def FX12_given_16  (x1 : Int32) (x2 : Int32) (y0 : Int32) (y1 : Int32) (σ : HS) : Option (Int32 × HS) :=
  if y0 = y1 then some ((0 : Int32), σ) else gd (ix x1 33) (if x2 = 0 then FX12_given_38 x1 x2 x1 (σ.1 31 (x1.toNatClampNeg)) (-1 : Int32) σ else FX12_given_38 x1 x2 x1 (σ.1 31 (x1.toNatClampNeg)) (1 : Int32) σ)
def FX12_given (x1 : Int32) (x2 : Int32) (σ : HS) : Option (Int32 × HS) :=
  gd (ix x1 33) (if x2 = 0 then FX12_given_16 x1 x2 (σ.1 31 (x1.toNatClampNeg)) (0 : Int32) σ else FX12_given_16 x1 x2 (σ.1 31 (x1.toNatClampNeg)) (9 : Int32) σ)
set_option maxHeartbeats 4000000 in
set_option maxRecDepth 100000 in
theorem wX12_given_38 (C : Cx 45 D ad κ p s m args meth c cX12_given RX12 3 (some .boolean)) {R : (Int32 × HS)} : ∀ (x1 : Int32) (x2 : Int32) (y1 : Int32) (y2 : Int32) (y3 : Int32) (σ : HS) (H : Heap) (locs : List Loc) (ls : Array Slot), FX12_given_38  x1 x2 y1 y2 y3 σ = some R → Hd 45 ceM D ad κ s σ H locs → lv_has ls 3 [(0, .ref (ad 0)), (1, .int x1), (2, .int x2)] → W p l e ({ frames := 3, cells := 0, slots := 0, locals := 64 } : Room) s m args below meth c H locs 0 0 (MQ below (QI 45 ceM D ad κ R) args s 0 0 (AX 45 ad)) (F0 m 38 ls [.int y3, .int y2, .int y1, .ref (ad 0)]) := by
  have hx := C.1
  have hb := C.2.1
  have hown := C.2.2.2.1
  have hts := C.2.2.2.2.1
  intro x1 x2 y1 y2 y3 σ H locs ls h hH hl
  rw [FX12_given_38] at h
  refine lv_iadd hx hb dX12_given_38 ?_
  obtain ⟨σ_1, hc_2, h⟩ := bdV_ex h
  refine g_cv (g_runV (rest := []) C hH hl.1 cV_X12_387 0 (Nat.le_of_ble_eq_true rfl) rfl rfl (kX12_does l D ad κ hc_2) ⟨rfl, rfl⟩ ⟨(Nat.le_of_ble_eq_true rfl), (Nat.le_of_ble_eq_true rfl)⟩ rfl rfl (Nat.le_of_ble_eq_true rfl) dX12_given_39 z00) hH (fun H locs hH => ?_)
  refine lv_iconst (v := 1) hx hb dX12_given_42 (by decide) ?_
  exact g_retZ C hH rfl h dX12_given_43
set_option maxHeartbeats 4000000 in
set_option maxRecDepth 100000 in
theorem wX12_given_16 (C : Cx 45 D ad κ p s m args meth c cX12_given RX12 3 (some .boolean)) {R : (Int32 × HS)} : ∀ (x1 : Int32) (x2 : Int32) (y0 : Int32) (y1 : Int32) (σ : HS) (H : Heap) (locs : List Loc) (ls : Array Slot), FX12_given_16  x1 x2 y0 y1 σ = some R → Hd 45 ceM D ad κ s σ H locs → lv_has ls 3 [(0, .ref (ad 0)), (1, .int x1), (2, .int x2)] → W p l e ({ frames := 3, cells := 0, slots := 0, locals := 64 } : Room) s m args below meth c H locs 0 0 (MQ below (QI 45 ceM D ad κ R) args s 0 0 (AX 45 ad)) (F0 m 16 ls [.int y1, .int y0]) := by
  have hx := C.1
  have hb := C.2.1
  have hown := C.2.2.2.1
  have hts := C.2.2.2.2.1
  intro x1 x2 y0 y1 σ H locs ls h hH hl
  rw [FX12_given_16] at h
  refine lv_icmp_ne (tgt := 21) hx hb dX12_given_16 (by decide) (fun hq_3 => ?_) (fun hq_3 => ?_)
  · rw [if_neg hq_3] at h
    refine lv_aload_n hx hb dX12_given_21 rfl (lv_at hl 0 rfl) ?_
    refine lv_iload_n hx hb dX12_given_22 rfl (lv_at hl 1 rfl) ?_
    refine lv_aload_n hx hb dX12_given_23 rfl (lv_at hl 0 rfl) ?_
    refine g_get C hH 0 (Nat.le_of_ble_eq_true rfl) rfl fl_X12_110 (v := .ref (ad 31)) rfl dX12_given_24 ?_
    refine lv_iload_n hx hb dX12_given_27 rfl (lv_at hl 1 rfl) ?_
    obtain ⟨hi_4, h⟩ := gd_ex h
    refine g_iald C hH 31 (Nat.le_of_ble_eq_true rfl) rfl (k := (x1.toNatClampNeg)) rfl (ix_in hi_4) dX12_given_28 ?_
    refine lv_iload_n hx hb dX12_given_29 rfl (lv_at hl 2 rfl) ?_
    refine lv_if_eq (tgt := 37) hx hb dX12_given_30 (by decide) (fun hq_5 => ?_) (fun hq_5 => ?_)
    · rw [if_pos hq_5] at h
      refine lv_iconst (v := (-1)) hx hb dX12_given_37 (by decide) ?_
      exact wX12_given_38 C  _ _ _ _ _ _ _ _ _ h hH (lv_sub hl [0, 1, 2] rfl)
    · rw [if_neg hq_5] at h
      refine lv_iconst (v := 1) hx hb dX12_given_33 (by decide) ?_
      refine lv_goto (tgt := 38) hx hb dX12_given_34 (by decide) ?_
      exact wX12_given_38 C  _ _ _ _ _ _ _ _ _ h hH (lv_sub hl [0, 1, 2] rfl)
  · rw [if_pos hq_3] at h
    refine lv_iconst (v := 0) hx hb dX12_given_19 (by decide) ?_
    exact g_retZ C hH rfl h dX12_given_20
set_option maxHeartbeats 4000000 in
set_option maxRecDepth 100000 in
theorem kX12_given (l : Launch) (D : va_G) (ad : Nat → Nat) (κ : KC) {x1 : Int32} {x2 : Int32} {σ : HS} {R : (Int32 × HS)} (h : FX12_given x1 x2 σ = some R) : MtI l 45 ceM D ad κ yX12_given cX12_given 3 (some .boolean) ({ frames := 3, cells := 0, slots := 0, locals := 64 } : Room) [.ref (ad 0), .int x1, .int x2] σ R := by
  refine open_ (by decide) (Nat.le_of_ble_eq_true rfl) (la := [(0, .ref (ad 0)), (1, .int x1), (2, .int x2)]) rfl ?_
  intro p e s m below meth c ls C hH hl
  replace C : Cx 45 D ad κ p s m _ meth c cX12_given RX12 3 (some .boolean) := C
  have hx := C.1
  have hb := C.2.1
  have hown := C.2.2.2.1
  have hts := C.2.2.2.2.1
  rw [FX12_given] at h
  refine lv_aload_n hx hb dX12_given_0 rfl (lv_at hl 0 rfl) ?_
  refine g_get C hH 0 (Nat.le_of_ble_eq_true rfl) rfl fl_X12_110 (v := .ref (ad 31)) rfl dX12_given_1 ?_
  refine lv_iload_n hx hb dX12_given_4 rfl (lv_at hl 1 rfl) ?_
  obtain ⟨hi_6, h⟩ := gd_ex h
  refine g_iald C hH 31 (Nat.le_of_ble_eq_true rfl) rfl (k := (x1.toNatClampNeg)) rfl (ix_in hi_6) dX12_given_5 ?_
  refine lv_iload_n hx hb dX12_given_6 rfl (lv_at hl 2 rfl) ?_
  refine lv_if_eq (tgt := 15) hx hb dX12_given_7 (by decide) (fun hq_7 => ?_) (fun hq_7 => ?_)
  · rw [if_pos hq_7] at h
    refine lv_iconst (v := 0) hx hb dX12_given_15 (by decide) ?_
    exact wX12_given_16 C  _ _ _ _ _ _ _ _ h hH (lv_sub hl [0, 1, 2] rfl)
  · rw [if_neg hq_7] at h
    refine lv_bipush (v := 9) hx hb dX12_given_10 (by decide) ?_
    refine lv_goto (tgt := 16) hx hb dX12_given_12 (by decide) ?_
    exact wX12_given_16 C  _ _ _ _ _ _ _ _ h hH (lv_sub hl [0, 1, 2] rfl)
-- X12_syrup
def FX12_syrup (x1 : Int32) (σ : HS) : Option (Int32 × HS) :=
  bdI (FX12_given (19 : Int32) x1 σ) fun r_1 σ_2 => gd (isB r_1) (some (r_1, σ_2))
set_option maxHeartbeats 4000000 in
set_option maxRecDepth 100000 in
theorem kX12_syrup (l : Launch) (D : va_G) (ad : Nat → Nat) (κ : KC) {x1 : Int32} {σ : HS} {R : (Int32 × HS)} (h : FX12_syrup x1 σ = some R) : MtI l 45 ceM D ad κ yX12_syrup cX12_syrup 2 (some .boolean) ({ frames := 4, cells := 0, slots := 0, locals := 86 } : Room) [.ref (ad 0), .int x1] σ R := by
  refine open_ (by decide) (Nat.le_of_ble_eq_true rfl) (la := [(0, .ref (ad 0)), (1, .int x1)]) rfl ?_
  intro p e s m below meth c ls C hH hl
  replace C : Cx 45 D ad κ p s m _ meth c cX12_syrup RX12 2 (some .boolean) := C
  have hx := C.1
  have hb := C.2.1
  have hown := C.2.2.2.1
  have hts := C.2.2.2.2.1
  rw [FX12_syrup] at h
  refine lv_aload_n hx hb dX12_syrup_0 rfl (lv_at hl 0 rfl) ?_
  refine lv_bipush (v := 19) hx hb dX12_syrup_1 (by decide) ?_
  refine lv_iload_n hx hb dX12_syrup_3 rfl (lv_at hl 1 rfl) ?_
  obtain ⟨r_1, σ_2, hc_3, h⟩ := bdI_ex h
  refine g_ci (g_runV (rest := []) C hH hl.1 cV_X12_390 0 (Nat.le_of_ble_eq_true rfl) rfl rfl (kX12_given l D ad κ hc_3) ⟨rfl, rfl⟩ ⟨(Nat.le_of_ble_eq_true rfl), (Nat.le_of_ble_eq_true rfl)⟩ rfl rfl (Nat.le_of_ble_eq_true rfl) dX12_syrup_4 z00) hH (fun H locs hH => ?_)
  obtain ⟨hb_4, h⟩ := gd_ex h
  exact g_retZ C hH hb_4 h dX12_syrup_7
-- X12_dust
def FX12_dust (x1 : Int32) (σ : HS) : Option (Int32 × HS) :=
  bdI (FX12_given (18 : Int32) x1 σ) fun r_1 σ_2 => gd (isB r_1) (some (r_1, σ_2))
set_option maxHeartbeats 4000000 in
set_option maxRecDepth 100000 in
theorem kX12_dust (l : Launch) (D : va_G) (ad : Nat → Nat) (κ : KC) {x1 : Int32} {σ : HS} {R : (Int32 × HS)} (h : FX12_dust x1 σ = some R) : MtI l 45 ceM D ad κ yX12_dust cX12_dust 2 (some .boolean) ({ frames := 4, cells := 0, slots := 0, locals := 86 } : Room) [.ref (ad 0), .int x1] σ R := by
  refine open_ (by decide) (Nat.le_of_ble_eq_true rfl) (la := [(0, .ref (ad 0)), (1, .int x1)]) rfl ?_
  intro p e s m below meth c ls C hH hl
  replace C : Cx 45 D ad κ p s m _ meth c cX12_dust RX12 2 (some .boolean) := C
  have hx := C.1
  have hb := C.2.1
  have hown := C.2.2.2.1
  have hts := C.2.2.2.2.1
  rw [FX12_dust] at h
  refine lv_aload_n hx hb dX12_dust_0 rfl (lv_at hl 0 rfl) ?_
  refine lv_bipush (v := 18) hx hb dX12_dust_1 (by decide) ?_
  refine lv_iload_n hx hb dX12_dust_3 rfl (lv_at hl 1 rfl) ?_
  obtain ⟨r_1, σ_2, hc_3, h⟩ := bdI_ex h
  refine g_ci (g_runV (rest := []) C hH hl.1 cV_X12_390 0 (Nat.le_of_ble_eq_true rfl) rfl rfl (kX12_given l D ad κ hc_3) ⟨rfl, rfl⟩ ⟨(Nat.le_of_ble_eq_true rfl), (Nat.le_of_ble_eq_true rfl)⟩ rfl rfl (Nat.le_of_ble_eq_true rfl) dX12_dust_4 z00) hH (fun H locs hH => ?_)
  obtain ⟨hb_4, h⟩ := gd_ex h
  exact g_retZ C hH hb_4 h dX12_dust_7
-- X12_isLong
def FX12_isLong (x0 : Int32) (σ : HS) : Option (Int32 × HS) :=
  bdI (FX12_in x0 (0 : Int32) (40 : Int32) σ) fun r_1 σ_2 => gd (isB r_1) (some (r_1, σ_2))
set_option maxHeartbeats 4000000 in
set_option maxRecDepth 100000 in
theorem kX12_isLong (l : Launch) (D : va_G) (ad : Nat → Nat) (κ : KC) {x0 : Int32} {σ : HS} {R : (Int32 × HS)} (h : FX12_isLong x0 σ = some R) : MtI l 45 ceM D ad κ yX12_isLong cX12_isLong 1 (some .boolean) ({ frames := 1, cells := 0, slots := 0, locals := 22 } : Room) [.int x0] σ R := by
  refine open_ (by decide) (Nat.le_of_ble_eq_true rfl) (la := [(0, .int x0)]) rfl ?_
  intro p e s m below meth c ls C hH hl
  replace C : Cx 45 D ad κ p s m _ meth c cX12_isLong RX12 1 (some .boolean) := C
  have hx := C.1
  have hb := C.2.1
  have hown := C.2.2.2.1
  have hts := C.2.2.2.2.1
  rw [FX12_isLong] at h
  refine lv_iload_n hx hb dX12_isLong_0 rfl (lv_at hl 0 rfl) ?_
  refine lv_iconst (v := 0) hx hb dX12_isLong_1 (by decide) ?_
  refine lv_bipush (v := 40) hx hb dX12_isLong_2 (by decide) ?_
  obtain ⟨r_1, σ_2, hc_3, h⟩ := bdI_ex h
  refine g_ci (g_runS (rest := []) C hH hl.1 cS_X12_310 (kX12_in l D ad κ hc_3) ⟨rfl, rfl⟩ ⟨(Nat.le_of_ble_eq_true rfl), (Nat.le_of_ble_eq_true rfl)⟩ rfl rfl (Nat.le_of_ble_eq_true rfl) dX12_isLong_4 z00) hH (fun H locs hH => ?_)
  obtain ⟨hb_4, h⟩ := gd_ex h
  exact g_retZ C hH hb_4 h dX12_isLong_7
-- X12_weeks
def FX12_weeks (x1 : Int32) (σ : HS) : Option (Int32 × HS) :=
  bdI (FX12_isLong x1 σ) fun r_1 σ_2 => if r_1 = 0 then some ((-1 : Int32), σ_2) else if x1 = 0 then some ((σ_2.1 31 20), σ_2) else bdV (FX12_copies σ_2) fun σ_6 => bdV (FX12_goes x1 σ_6) fun σ_8 => bdV (FX12_records σ_8) fun σ_10 => some ((σ_10.1 31 20), σ_10)
set_option maxHeartbeats 4000000 in
set_option maxRecDepth 100000 in
theorem kX12_weeks (l : Launch) (D : va_G) (ad : Nat → Nat) (κ : KC) {x1 : Int32} {σ : HS} {R : (Int32 × HS)} (h : FX12_weeks x1 σ = some R) : MtI l 45 ceM D ad κ yX12_weeks cX12_weeks 2 (some .int) ({ frames := 6, cells := 0, slots := 0, locals := 142 } : Room) [.ref (ad 0), .int x1] σ R := by
  refine open_ (by decide) (Nat.le_of_ble_eq_true rfl) (la := [(0, .ref (ad 0)), (1, .int x1)]) rfl ?_
  intro p e s m below meth c ls C hH hl
  replace C : Cx 45 D ad κ p s m _ meth c cX12_weeks RX12 2 (some .int) := C
  have hx := C.1
  have hb := C.2.1
  have hown := C.2.2.2.1
  have hts := C.2.2.2.2.1
  rw [FX12_weeks] at h
  refine lv_iload_n hx hb dX12_weeks_0 rfl (lv_at hl 1 rfl) ?_
  obtain ⟨r_1, σ_2, hc_3, h⟩ := bdI_ex h
  refine g_ci (g_runS (rest := []) C hH hl.1 cS_X12_394 (kX12_isLong l D ad κ hc_3) ⟨rfl, rfl⟩ ⟨(Nat.le_of_ble_eq_true rfl), (Nat.le_of_ble_eq_true rfl)⟩ rfl rfl (Nat.le_of_ble_eq_true rfl) dX12_weeks_1 z00) hH (fun H locs hH => ?_)
  refine lv_if_ne (tgt := 9) hx hb dX12_weeks_4 (by decide) (fun hq_4 => ?_) (fun hq_4 => ?_)
  · rw [if_neg hq_4] at h
    refine lv_iload_n hx hb dX12_weeks_9 rfl (lv_at hl 1 rfl) ?_
    refine lv_if_ne (tgt := 21) hx hb dX12_weeks_10 (by decide) (fun hq_5 => ?_) (fun hq_5 => ?_)
    · rw [if_neg hq_5] at h
      refine lv_aload_n hx hb dX12_weeks_21 rfl (lv_at hl 0 rfl) ?_
      obtain ⟨σ_6, hc_7, h⟩ := bdV_ex h
      refine g_cv (g_runV (rest := []) C hH hl.1 cV_X12_369 0 (Nat.le_of_ble_eq_true rfl) rfl rfl (kX12_copies l D ad κ hc_7) ⟨rfl, rfl⟩ ⟨(Nat.le_of_ble_eq_true rfl), (Nat.le_of_ble_eq_true rfl)⟩ rfl rfl (Nat.le_of_ble_eq_true rfl) dX12_weeks_22 z00) hH (fun H locs hH => ?_)
      refine lv_aload_n hx hb dX12_weeks_25 rfl (lv_at hl 0 rfl) ?_
      refine lv_iload_n hx hb dX12_weeks_26 rfl (lv_at hl 1 rfl) ?_
      obtain ⟨σ_8, hc_9, h⟩ := bdV_ex h
      refine g_cv (g_runV (rest := []) C hH hl.1 cV_X12_397 0 (Nat.le_of_ble_eq_true rfl) rfl rfl (kX12_goes l D ad κ hc_9) ⟨rfl, rfl⟩ ⟨(Nat.le_of_ble_eq_true rfl), (Nat.le_of_ble_eq_true rfl)⟩ rfl rfl (Nat.le_of_ble_eq_true rfl) dX12_weeks_27 z00) hH (fun H locs hH => ?_)
      refine lv_aload_n hx hb dX12_weeks_30 rfl (lv_at hl 0 rfl) ?_
      obtain ⟨σ_10, hc_11, h⟩ := bdV_ex h
      refine g_cv (g_runV (rest := []) C hH hl.1 cV_X12_381 0 (Nat.le_of_ble_eq_true rfl) rfl rfl (kX12_records l D ad κ hc_11) ⟨rfl, rfl⟩ ⟨(Nat.le_of_ble_eq_true rfl), (Nat.le_of_ble_eq_true rfl)⟩ rfl rfl (Nat.le_of_ble_eq_true rfl) dX12_weeks_31 z00) hH (fun H locs hH => ?_)
      refine lv_aload_n hx hb dX12_weeks_34 rfl (lv_at hl 0 rfl) ?_
      refine g_get C hH 0 (Nat.le_of_ble_eq_true rfl) rfl fl_X12_110 (v := .ref (ad 31)) rfl dX12_weeks_35 ?_
      refine lv_bipush (v := 20) hx hb dX12_weeks_38 (by decide) ?_
      refine g_iald C hH 31 (Nat.le_of_ble_eq_true rfl) rfl (k := 20) (by decide) (ix_in rfl) dX12_weeks_40 ?_
      exact g_ret C hH h dX12_weeks_41
    · rw [if_pos hq_5] at h
      refine lv_aload_n hx hb dX12_weeks_13 rfl (lv_at hl 0 rfl) ?_
      refine g_get C hH 0 (Nat.le_of_ble_eq_true rfl) rfl fl_X12_110 (v := .ref (ad 31)) rfl dX12_weeks_14 ?_
      refine lv_bipush (v := 20) hx hb dX12_weeks_17 (by decide) ?_
      refine g_iald C hH 31 (Nat.le_of_ble_eq_true rfl) rfl (k := 20) (by decide) (ix_in rfl) dX12_weeks_19 ?_
      exact g_ret C hH h dX12_weeks_20
  · rw [if_pos hq_4] at h
    refine lv_iconst (v := (-1)) hx hb dX12_weeks_7 (by decide) ?_
    exact g_ret C hH h dX12_weeks_8
-- X12_undo
def FX12_undo_21  : Nat → Int32 → HS → Option (Int32 × HS)
  | 0, _, _ => none
  | f + 1, x1, σ => if (33 : Int32) ≤ x1 then some ((1 : Int32), σ) else gd (ix (((33 : Int32) * (σ.1 0 50)) + x1) 1320) (gd (ix x1 33) (hl_ (pI σ 31 (x1.toNatClampNeg) (σ.1 33 ((((33 : Int32) * (σ.1 0 50)) + x1).toNatClampNeg))) fun σ_4 => FX12_undo_21  f (x1 + 1) σ_4))
def FX12_undo (σ : HS) : Option (Int32 × HS) :=
  if (σ.1 0 50) = 0 then some ((0 : Int32), σ) else hl_ (pI σ 0 50 ((σ.1 0 50) - (1 : Int32))) fun σ_6 => FX12_undo_21 fu (0 : Int32) σ_6
set_option maxHeartbeats 4000000 in
set_option maxRecDepth 100000 in
theorem wX12_undo_21 (C : Cx 45 D ad κ p s m args meth c cX12_undo RX12 2 (some .boolean)) {R : (Int32 × HS)} : ∀ (f : Nat) (x1 : Int32) (σ : HS) (H : Heap) (locs : List Loc) (ls : Array Slot), FX12_undo_21  f x1 σ = some R → Hd 45 ceM D ad κ s σ H locs → lv_has ls 2 [(0, .ref (ad 0)), (1, .int x1)] → W p l e ({ frames := 0, cells := 0, slots := 0, locals := 0 } : Room) s m args below meth c H locs 0 0 (MQ below (QI 45 ceM D ad κ R) args s 0 0 (AX 45 ad)) (F0 m 21 ls []) := by
  have hx := C.1
  have hb := C.2.1
  have hown := C.2.2.2.1
  have hts := C.2.2.2.2.1
  intro f
  induction f with
  | zero =>
    intro x1 σ H locs ls h hH hl
    cases h
  | succ f ih =>
    intro x1 σ H locs ls h hH hl
    rw [FX12_undo_21] at h
    refine lv_iload_n hx hb dX12_undo_21 rfl (lv_at hl 1 rfl) ?_
    refine lv_bipush (v := 33) hx hb dX12_undo_22 (by decide) ?_
    refine lv_icmp_ge (tgt := 53) hx hb dX12_undo_24 (by decide) (fun hq_1 => ?_) (fun hq_1 => ?_)
    · rw [if_pos hq_1] at h
      refine lv_iconst (v := 1) hx hb dX12_undo_53 (by decide) ?_
      exact g_retZ C hH rfl h dX12_undo_54
    · rw [if_neg hq_1] at h
      refine lv_aload_n hx hb dX12_undo_27 rfl (lv_at hl 0 rfl) ?_
      refine g_get C hH 0 (Nat.le_of_ble_eq_true rfl) rfl fl_X12_110 (v := .ref (ad 31)) rfl dX12_undo_28 ?_
      refine lv_iload_n hx hb dX12_undo_31 rfl (lv_at hl 1 rfl) ?_
      refine lv_aload_n hx hb dX12_undo_32 rfl (lv_at hl 0 rfl) ?_
      refine g_get C hH 0 (Nat.le_of_ble_eq_true rfl) rfl fl_X12_116 (v := .ref (ad 33)) rfl dX12_undo_33 ?_
      refine lv_bipush (v := 33) hx hb dX12_undo_36 (by decide) ?_
      refine lv_aload_n hx hb dX12_undo_38 rfl (lv_at hl 0 rfl) ?_
      refine g_get C hH 0 (Nat.le_of_ble_eq_true rfl) rfl fl_X12_248 (v := .int (σ.1 0 50)) rfl dX12_undo_39 ?_
      refine lv_imul hx hb dX12_undo_42 ?_
      refine lv_iload_n hx hb dX12_undo_43 rfl (lv_at hl 1 rfl) ?_
      refine lv_iadd hx hb dX12_undo_44 ?_
      obtain ⟨hi_2, h⟩ := gd_ex h
      refine g_iald C hH 33 (Nat.le_of_ble_eq_true rfl) rfl (k := ((((33 : Int32) * (σ.1 0 50)) + x1).toNatClampNeg)) rfl (ix_in hi_2) dX12_undo_45 ?_
      obtain ⟨hi_3, h⟩ := gd_ex h
      obtain ⟨σ_4, eσ_4, h⟩ := hl_ex h
      refine g_iast C hH 31 (Nat.le_of_ble_eq_true rfl) (fun _ _ => rfl) (k := (x1.toNatClampNeg)) rfl (ix_in hi_3) dX12_undo_46 (fun H locs hH => ?_)
      rw [← eσ_4] at hH
      refine lv_iinc (v := (x1 + 1)) (lv' := [(1, .int (x1 + 1)), (0, .ref (ad 0))]) hx hb dX12_undo_47 hl (k := 1) rfl rfl (by decide) rfl (fun ls hl => ?_)
      refine lv_goto (tgt := 21) hx hb dX12_undo_50 (by decide) ?_
      exact ih _ _ _ _ _ h hH (lv_sub hl [1, 0] rfl)
set_option maxHeartbeats 4000000 in
set_option maxRecDepth 100000 in
theorem kX12_undo (l : Launch) (D : va_G) (ad : Nat → Nat) (κ : KC) {σ : HS} {R : (Int32 × HS)} (h : FX12_undo σ = some R) : MtI l 45 ceM D ad κ yX12_undo cX12_undo 2 (some .boolean) ({ frames := 0, cells := 0, slots := 0, locals := 0 } : Room) [.ref (ad 0)] σ R := by
  refine open_ (by decide) (Nat.le_of_ble_eq_true rfl) (la := [(0, .ref (ad 0))]) rfl ?_
  intro p e s m below meth c ls C hH hl
  replace C : Cx 45 D ad κ p s m _ meth c cX12_undo RX12 2 (some .boolean) := C
  have hx := C.1
  have hb := C.2.1
  have hown := C.2.2.2.1
  have hts := C.2.2.2.2.1
  rw [FX12_undo] at h
  refine lv_aload_n hx hb dX12_undo_0 rfl (lv_at hl 0 rfl) ?_
  refine g_get C hH 0 (Nat.le_of_ble_eq_true rfl) rfl fl_X12_248 (v := .int (σ.1 0 50)) rfl dX12_undo_1 ?_
  refine lv_if_ne (tgt := 9) hx hb dX12_undo_4 (by decide) (fun hq_5 => ?_) (fun hq_5 => ?_)
  · rw [if_neg hq_5] at h
    refine lv_aload_n hx hb dX12_undo_9 rfl (lv_at hl 0 rfl) ?_
    refine lv_dup hx hb dX12_undo_10 rfl ?_
    refine g_get C hH 0 (Nat.le_of_ble_eq_true rfl) rfl fl_X12_248 (v := .int (σ.1 0 50)) rfl dX12_undo_11 ?_
    refine lv_iconst (v := 1) hx hb dX12_undo_14 (by decide) ?_
    refine lv_isub hx hb dX12_undo_15 ?_
    obtain ⟨σ_6, eσ_6, h⟩ := hl_ex h
    refine g_putI C hH 0 (Nat.le_of_ble_eq_true rfl) rfl fp_X12_248 rfl rfl (Nat.le_of_ble_eq_true rfl) rfl dX12_undo_16 (fun H locs hH => ?_)
    rw [← eσ_6] at hH
    refine lv_iconst (v := 0) hx hb dX12_undo_19 (by decide) ?_
    refine lv_istore_n (lv' := [(1, .int (0 : Int32)), (0, .ref (ad 0))]) hx hb dX12_undo_20 rfl hl (by decide) rfl (fun ls hl => ?_)
    exact wX12_undo_21 C _ _ _ _ _ _ h hH (lv_sub hl [1, 0] rfl)
  · rw [if_pos hq_5] at h
    refine lv_iconst (v := 0) hx hb dX12_undo_7 (by decide) ?_
    exact g_retZ C hH rfl h dX12_undo_8
-- X12_power
def FX12_power (x0 : Int32) (σ : HS) : Option (Int32 × HS) :=
  some (((1 : Int32) <<< (((2 : Int32) * x0) &&& 31)), σ)
set_option maxHeartbeats 4000000 in
set_option maxRecDepth 100000 in
theorem kX12_power (l : Launch) (D : va_G) (ad : Nat → Nat) (κ : KC) {x0 : Int32} {σ : HS} {R : (Int32 × HS)} (h : FX12_power x0 σ = some R) : MtI l 45 ceM D ad κ yX12_power cX12_power 1 (some .int) ({ frames := 0, cells := 0, slots := 0, locals := 0 } : Room) [.int x0] σ R := by
  refine open_ (by decide) (Nat.le_of_ble_eq_true rfl) (la := [(0, .int x0)]) rfl ?_
  intro p e s m below meth c ls C hH hl
  replace C : Cx 45 D ad κ p s m _ meth c cX12_power RX12 1 (some .int) := C
  have hx := C.1
  have hb := C.2.1
  have hown := C.2.2.2.1
  have hts := C.2.2.2.2.1
  rw [FX12_power] at h
  refine lv_iconst (v := 1) hx hb dX12_power_0 (by decide) ?_
  refine lv_iconst (v := 2) hx hb dX12_power_1 (by decide) ?_
  refine lv_iload_n hx hb dX12_power_2 rfl (lv_at hl 0 rfl) ?_
  refine lv_imul hx hb dX12_power_3 ?_
  refine lv_ishl hx hb dX12_power_4 ?_
  exact g_ret C hH h dX12_power_5
-- X12_fillsFalls
def FX12_fillsFalls_155 (k74 : Int32 → HS → Option HS) (k84 : Int32 → Int32 → HS → Option HS) (x1 : Int32) (x2 : Int32) (x3 : Int32) (y1 : Int32) (y2 : Int32) (σ : HS) : Option HS :=
  gd (ix (y1 + y2) 80) (gd (ix (x1 - (1 : Int32)) 10) (gd (ix (y1 + y2) 80) (hl_ (pI σ 35 ((y1 + y2).toNatClampNeg) ((σ.1 35 ((y1 + y2).toNatClampNeg)) + (x3 * (σ.1 34 ((x1 - (1 : Int32)).toNatClampNeg))))) fun σ_4 => k84 x1 (x2 + 1) σ_4)))
def FX12_fillsFalls_84 (k74 : Int32 → HS → Option HS) : Nat → Int32 → Int32 → HS → Option HS
  | 0, _, _, _ => none
  | f + 1, x1, x2, σ => if (8 : Int32) ≤ x2 then k74 (x1 + 1) σ else gd (ix ((((8 : Int32) * x1) - (8 : Int32)) + x2) 80) (hl_ ((σ.1 35 (((((8 : Int32) * x1) - (8 : Int32)) + x2).toNatClampNeg)) / (4 : Int32)) fun x3_7 => gd (ix (((8 : Int32) * x1) + x2) 80) (gd (ix (x1 - (1 : Int32)) 10) (gd (ix (((8 : Int32) * x1) + x2) 80) (hl_ (pI σ 35 ((((8 : Int32) * x1) + x2).toNatClampNeg) ((σ.1 35 ((((8 : Int32) * x1) + x2).toNatClampNeg)) + (x3_7 * ((4 : Int32) - (σ.1 34 ((x1 - (1 : Int32)).toNatClampNeg)))))) fun σ_11 => if (7 : Int32) ≤ x2 then FX12_fillsFalls_155 k74 (FX12_fillsFalls_84 k74 f) x1 x2 x3_7 ((8 : Int32) * x1) (7 : Int32) σ_11 else FX12_fillsFalls_155 k74 (FX12_fillsFalls_84 k74 f) x1 x2 x3_7 ((8 : Int32) * x1) (x2 + (1 : Int32)) σ_11))))
def FX12_fillsFalls_74  : Nat → Int32 → HS → Option HS
  | 0, _, _ => none
  | f + 1, x1, σ => bdI (FX12_many σ) fun r_13 σ_14 => if r_13 ≤ x1 then some σ_14 else FX12_fillsFalls_84 (FX12_fillsFalls_74  f) fu x1 (0 : Int32) σ_14
def FX12_fillsFalls_29  : Nat → Int32 → HS → Option HS
  | 0, _, _ => none
  | f + 1, x1, σ => if (80 : Int32) ≤ x1 then bdI (FX12_many σ) fun r_18 σ_19 => if r_18 = 0 then hl_ (pI σ_19 35 0 (0 : Int32)) fun σ_29 => FX12_fillsFalls_74 fu (1 : Int32) σ_29 else bdI (FX12_many σ_19) fun r_22 σ_23 => bdI (FX12_power r_22 σ_23) fun r_25 σ_26 => hl_ (pI σ_26 35 0 r_25) fun σ_28 => FX12_fillsFalls_74 fu (1 : Int32) σ_28 else gd (ix x1 80) (hl_ (pI σ 35 (x1.toNatClampNeg) (0 : Int32)) fun σ_31 => FX12_fillsFalls_29  f (x1 + 1) σ_31)
def FX12_fillsFalls_2  : Nat → Int32 → HS → Option HS
  | 0, _, _ => none
  | f + 1, x1, σ => bdI (FX12_many σ) fun r_32 σ_33 => if r_32 ≤ x1 then FX12_fillsFalls_29 fu (0 : Int32) σ_33 else bdI (FX12_coughsOf x1 σ_33) fun r_36 σ_37 => gd (ix x1 10) (hl_ (pI σ_37 34 (x1.toNatClampNeg) r_36) fun σ_40 => FX12_fillsFalls_2  f (x1 + 1) σ_40)
def FX12_fillsFalls (σ : HS) : Option HS :=
  FX12_fillsFalls_2 fu (0 : Int32) σ
set_option maxHeartbeats 4000000 in
set_option maxRecDepth 100000 in
theorem wX12_fillsFalls_155 (C : Cx 45 D ad κ p s m args meth c cX12_fillsFalls RX12 4 none) {R : HS} {k74 : Int32 → HS → Option HS} (K74 : ∀ (x1 : Int32) (σ : HS) (H : Heap) (locs : List Loc) (ls : Array Slot), k74 x1 σ = some R → Hd 45 ceM D ad κ s σ H locs → lv_has ls 4 [(0, .ref (ad 0)), (1, .int x1)] → W p l e ({ frames := 3, cells := 0, slots := 0, locals := 74 } : Room) s m args below meth c H locs 0 0 (MQ below (QV 45 ceM D ad κ R) args s 0 0 (AX 45 ad)) (F0 m 74 ls [])) {k84 : Int32 → Int32 → HS → Option HS} (K84 : ∀ (x1 : Int32) (x2 : Int32) (σ : HS) (H : Heap) (locs : List Loc) (ls : Array Slot), k84 x1 x2 σ = some R → Hd 45 ceM D ad κ s σ H locs → lv_has ls 4 [(0, .ref (ad 0)), (1, .int x1), (2, .int x2)] → W p l e ({ frames := 3, cells := 0, slots := 0, locals := 74 } : Room) s m args below meth c H locs 0 0 (MQ below (QV 45 ceM D ad κ R) args s 0 0 (AX 45 ad)) (F0 m 84 ls [])) : ∀ (x1 : Int32) (x2 : Int32) (x3 : Int32) (y1 : Int32) (y2 : Int32) (σ : HS) (H : Heap) (locs : List Loc) (ls : Array Slot), FX12_fillsFalls_155 k74 k84 x1 x2 x3 y1 y2 σ = some R → Hd 45 ceM D ad κ s σ H locs → lv_has ls 4 [(0, .ref (ad 0)), (1, .int x1), (2, .int x2), (3, .int x3)] → W p l e ({ frames := 3, cells := 0, slots := 0, locals := 74 } : Room) s m args below meth c H locs 0 0 (MQ below (QV 45 ceM D ad κ R) args s 0 0 (AX 45 ad)) (F0 m 155 ls [.int y2, .int y1, .ref (ad 35)]) := by
  have hx := C.1
  have hb := C.2.1
  have hown := C.2.2.2.1
  have hts := C.2.2.2.2.1
  intro x1 x2 x3 y1 y2 σ H locs ls h hH hl
  rw [FX12_fillsFalls_155] at h
  refine lv_iadd hx hb dX12_fillsFalls_155 ?_
  refine lv_dup2_11 hx hb dX12_fillsFalls_156 rfl rfl ?_
  obtain ⟨hi_1, h⟩ := gd_ex h
  refine g_iald C hH 35 (Nat.le_of_ble_eq_true rfl) rfl (k := ((y1 + y2).toNatClampNeg)) rfl (ix_in hi_1) dX12_fillsFalls_157 ?_
  refine lv_iload_n hx hb dX12_fillsFalls_158 rfl (lv_at hl 3 rfl) ?_
  refine lv_aload_n hx hb dX12_fillsFalls_159 rfl (lv_at hl 0 rfl) ?_
  refine g_get C hH 0 (Nat.le_of_ble_eq_true rfl) rfl fl_X12_119 (v := .ref (ad 34)) rfl dX12_fillsFalls_160 ?_
  refine lv_iload_n hx hb dX12_fillsFalls_163 rfl (lv_at hl 1 rfl) ?_
  refine lv_iconst (v := 1) hx hb dX12_fillsFalls_164 (by decide) ?_
  refine lv_isub hx hb dX12_fillsFalls_165 ?_
  obtain ⟨hi_2, h⟩ := gd_ex h
  refine g_iald C hH 34 (Nat.le_of_ble_eq_true rfl) rfl (k := ((x1 - (1 : Int32)).toNatClampNeg)) rfl (ix_in hi_2) dX12_fillsFalls_166 ?_
  refine lv_imul hx hb dX12_fillsFalls_167 ?_
  refine lv_iadd hx hb dX12_fillsFalls_168 ?_
  obtain ⟨hi_3, h⟩ := gd_ex h
  obtain ⟨σ_4, eσ_4, h⟩ := hl_ex h
  refine g_iast C hH 35 (Nat.le_of_ble_eq_true rfl) (fun _ _ => rfl) (k := ((y1 + y2).toNatClampNeg)) rfl (ix_in hi_3) dX12_fillsFalls_169 (fun H locs hH => ?_)
  rw [← eσ_4] at hH
  refine lv_iinc (v := (x2 + 1)) (lv' := [(2, .int (x2 + 1)), (0, .ref (ad 0)), (1, .int x1), (3, .int x3)]) hx hb dX12_fillsFalls_170 hl (k := 2) rfl rfl (by decide) rfl (fun ls hl => ?_)
  refine lv_goto (tgt := 84) hx hb dX12_fillsFalls_173 (by decide) ?_
  exact K84 _ _ _ _ _ _ h hH (lv_sub hl [1, 2, 0] rfl)
set_option maxHeartbeats 4000000 in
set_option maxRecDepth 100000 in
theorem wX12_fillsFalls_84 (C : Cx 45 D ad κ p s m args meth c cX12_fillsFalls RX12 4 none) {R : HS} {k74 : Int32 → HS → Option HS} (K74 : ∀ (x1 : Int32) (σ : HS) (H : Heap) (locs : List Loc) (ls : Array Slot), k74 x1 σ = some R → Hd 45 ceM D ad κ s σ H locs → lv_has ls 4 [(0, .ref (ad 0)), (1, .int x1)] → W p l e ({ frames := 3, cells := 0, slots := 0, locals := 74 } : Room) s m args below meth c H locs 0 0 (MQ below (QV 45 ceM D ad κ R) args s 0 0 (AX 45 ad)) (F0 m 74 ls [])) : ∀ (f : Nat) (x1 : Int32) (x2 : Int32) (σ : HS) (H : Heap) (locs : List Loc) (ls : Array Slot), FX12_fillsFalls_84 k74 f x1 x2 σ = some R → Hd 45 ceM D ad κ s σ H locs → lv_has ls 4 [(0, .ref (ad 0)), (1, .int x1), (2, .int x2)] → W p l e ({ frames := 3, cells := 0, slots := 0, locals := 74 } : Room) s m args below meth c H locs 0 0 (MQ below (QV 45 ceM D ad κ R) args s 0 0 (AX 45 ad)) (F0 m 84 ls []) := by
  have hx := C.1
  have hb := C.2.1
  have hown := C.2.2.2.1
  have hts := C.2.2.2.2.1
  intro f
  induction f with
  | zero =>
    intro x1 x2 σ H locs ls h hH hl
    cases h
  | succ f ih =>
    intro x1 x2 σ H locs ls h hH hl
    rw [FX12_fillsFalls_84] at h
    refine lv_iload_n hx hb dX12_fillsFalls_84 rfl (lv_at hl 2 rfl) ?_
    refine lv_bipush (v := 8) hx hb dX12_fillsFalls_85 (by decide) ?_
    refine lv_icmp_ge (tgt := 176) hx hb dX12_fillsFalls_87 (by decide) (fun hq_5 => ?_) (fun hq_5 => ?_)
    · rw [if_pos hq_5] at h
      refine lv_iinc (v := (x1 + 1)) (lv' := [(1, .int (x1 + 1)), (0, .ref (ad 0)), (2, .int x2)]) hx hb dX12_fillsFalls_176 hl (k := 1) rfl rfl (by decide) rfl (fun ls hl => ?_)
      refine lv_goto (tgt := 74) hx hb dX12_fillsFalls_179 (by decide) ?_
      exact K74 _ _ _ _ _ h hH (lv_sub hl [1, 0] rfl)
    · rw [if_neg hq_5] at h
      refine lv_aload_n hx hb dX12_fillsFalls_90 rfl (lv_at hl 0 rfl) ?_
      refine g_get C hH 0 (Nat.le_of_ble_eq_true rfl) rfl fl_X12_122 (v := .ref (ad 35)) rfl dX12_fillsFalls_91 ?_
      refine lv_bipush (v := 8) hx hb dX12_fillsFalls_94 (by decide) ?_
      refine lv_iload_n hx hb dX12_fillsFalls_96 rfl (lv_at hl 1 rfl) ?_
      refine lv_imul hx hb dX12_fillsFalls_97 ?_
      refine lv_bipush (v := 8) hx hb dX12_fillsFalls_98 (by decide) ?_
      refine lv_isub hx hb dX12_fillsFalls_100 ?_
      refine lv_iload_n hx hb dX12_fillsFalls_101 rfl (lv_at hl 2 rfl) ?_
      refine lv_iadd hx hb dX12_fillsFalls_102 ?_
      obtain ⟨hi_6, h⟩ := gd_ex h
      refine g_iald C hH 35 (Nat.le_of_ble_eq_true rfl) rfl (k := (((((8 : Int32) * x1) - (8 : Int32)) + x2).toNatClampNeg)) rfl (ix_in hi_6) dX12_fillsFalls_103 ?_
      refine lv_iconst (v := 4) hx hb dX12_fillsFalls_104 (by decide) ?_
      refine lv_idiv hx hb dX12_fillsFalls_105 (by decide) ?_
      obtain ⟨x3_7, ex3_7, h⟩ := hl_ex h
      refine lv_eqi ex3_7 ?_
      refine lv_istore_n (lv' := [(3, .int x3_7), (0, .ref (ad 0)), (1, .int x1), (2, .int x2)]) hx hb dX12_fillsFalls_106 rfl hl (by decide) rfl (fun ls hl => ?_)
      refine lv_aload_n hx hb dX12_fillsFalls_107 rfl (lv_at hl 1 rfl) ?_
      refine g_get C hH 0 (Nat.le_of_ble_eq_true rfl) rfl fl_X12_122 (v := .ref (ad 35)) rfl dX12_fillsFalls_108 ?_
      refine lv_bipush (v := 8) hx hb dX12_fillsFalls_111 (by decide) ?_
      refine lv_iload_n hx hb dX12_fillsFalls_113 rfl (lv_at hl 2 rfl) ?_
      refine lv_imul hx hb dX12_fillsFalls_114 ?_
      refine lv_iload_n hx hb dX12_fillsFalls_115 rfl (lv_at hl 3 rfl) ?_
      refine lv_iadd hx hb dX12_fillsFalls_116 ?_
      refine lv_dup2_11 hx hb dX12_fillsFalls_117 rfl rfl ?_
      obtain ⟨hi_8, h⟩ := gd_ex h
      refine g_iald C hH 35 (Nat.le_of_ble_eq_true rfl) rfl (k := ((((8 : Int32) * x1) + x2).toNatClampNeg)) rfl (ix_in hi_8) dX12_fillsFalls_118 ?_
      refine lv_iload_n hx hb dX12_fillsFalls_119 rfl (lv_at hl 0 rfl) ?_
      refine lv_iconst (v := 4) hx hb dX12_fillsFalls_120 (by decide) ?_
      refine lv_aload_n hx hb dX12_fillsFalls_121 rfl (lv_at hl 1 rfl) ?_
      refine g_get C hH 0 (Nat.le_of_ble_eq_true rfl) rfl fl_X12_119 (v := .ref (ad 34)) rfl dX12_fillsFalls_122 ?_
      refine lv_iload_n hx hb dX12_fillsFalls_125 rfl (lv_at hl 2 rfl) ?_
      refine lv_iconst (v := 1) hx hb dX12_fillsFalls_126 (by decide) ?_
      refine lv_isub hx hb dX12_fillsFalls_127 ?_
      obtain ⟨hi_9, h⟩ := gd_ex h
      refine g_iald C hH 34 (Nat.le_of_ble_eq_true rfl) rfl (k := ((x1 - (1 : Int32)).toNatClampNeg)) rfl (ix_in hi_9) dX12_fillsFalls_128 ?_
      refine lv_isub hx hb dX12_fillsFalls_129 ?_
      refine lv_imul hx hb dX12_fillsFalls_130 ?_
      refine lv_iadd hx hb dX12_fillsFalls_131 ?_
      obtain ⟨hi_10, h⟩ := gd_ex h
      obtain ⟨σ_11, eσ_11, h⟩ := hl_ex h
      refine g_iast C hH 35 (Nat.le_of_ble_eq_true rfl) (fun _ _ => rfl) (k := ((((8 : Int32) * x1) + x2).toNatClampNeg)) rfl (ix_in hi_10) dX12_fillsFalls_132 (fun H locs hH => ?_)
      rw [← eσ_11] at hH
      refine lv_aload_n hx hb dX12_fillsFalls_133 rfl (lv_at hl 1 rfl) ?_
      refine g_get C hH 0 (Nat.le_of_ble_eq_true rfl) rfl fl_X12_122 (v := .ref (ad 35)) rfl dX12_fillsFalls_134 ?_
      refine lv_bipush (v := 8) hx hb dX12_fillsFalls_137 (by decide) ?_
      refine lv_iload_n hx hb dX12_fillsFalls_139 rfl (lv_at hl 2 rfl) ?_
      refine lv_imul hx hb dX12_fillsFalls_140 ?_
      refine lv_iload_n hx hb dX12_fillsFalls_141 rfl (lv_at hl 3 rfl) ?_
      refine lv_bipush (v := 7) hx hb dX12_fillsFalls_142 (by decide) ?_
      refine lv_icmp_ge (tgt := 153) hx hb dX12_fillsFalls_144 (by decide) (fun hq_12 => ?_) (fun hq_12 => ?_)
      · rw [if_pos hq_12] at h
        refine lv_bipush (v := 7) hx hb dX12_fillsFalls_153 (by decide) ?_
        exact wX12_fillsFalls_155 C K74 ih  _ _ _ _ _ _ _ _ _ h hH (lv_sub hl [1, 2, 3, 0] rfl)
      · rw [if_neg hq_12] at h
        refine lv_iload_n hx hb dX12_fillsFalls_147 rfl (lv_at hl 3 rfl) ?_
        refine lv_iconst (v := 1) hx hb dX12_fillsFalls_148 (by decide) ?_
        refine lv_iadd hx hb dX12_fillsFalls_149 ?_
        refine lv_goto (tgt := 155) hx hb dX12_fillsFalls_150 (by decide) ?_
        exact wX12_fillsFalls_155 C K74 ih  _ _ _ _ _ _ _ _ _ h hH (lv_sub hl [1, 2, 3, 0] rfl)
set_option maxHeartbeats 4000000 in
set_option maxRecDepth 100000 in
theorem wX12_fillsFalls_74 (C : Cx 45 D ad κ p s m args meth c cX12_fillsFalls RX12 4 none) {R : HS} : ∀ (f : Nat) (x1 : Int32) (σ : HS) (H : Heap) (locs : List Loc) (ls : Array Slot), FX12_fillsFalls_74  f x1 σ = some R → Hd 45 ceM D ad κ s σ H locs → lv_has ls 4 [(0, .ref (ad 0)), (1, .int x1)] → W p l e ({ frames := 3, cells := 0, slots := 0, locals := 74 } : Room) s m args below meth c H locs 0 0 (MQ below (QV 45 ceM D ad κ R) args s 0 0 (AX 45 ad)) (F0 m 74 ls []) := by
  have hx := C.1
  have hb := C.2.1
  have hown := C.2.2.2.1
  have hts := C.2.2.2.2.1
  intro f
  induction f with
  | zero =>
    intro x1 σ H locs ls h hH hl
    cases h
  | succ f ih =>
    intro x1 σ H locs ls h hH hl
    rw [FX12_fillsFalls_74] at h
    refine lv_iload_n hx hb dX12_fillsFalls_74 rfl (lv_at hl 1 rfl) ?_
    refine lv_aload_n hx hb dX12_fillsFalls_75 rfl (lv_at hl 0 rfl) ?_
    obtain ⟨r_13, σ_14, hc_15, h⟩ := bdI_ex h
    refine g_ci (g_runV (rest := [.int x1]) C hH hl.1 cV_X12_306 0 (Nat.le_of_ble_eq_true rfl) rfl rfl (kX12_many l D ad κ hc_15) ⟨rfl, rfl⟩ ⟨(Nat.le_of_ble_eq_true rfl), (Nat.le_of_ble_eq_true rfl)⟩ rfl rfl (Nat.le_of_ble_eq_true rfl) dX12_fillsFalls_76 z00) hH (fun H locs hH => ?_)
    refine lv_icmp_ge (tgt := 182) hx hb dX12_fillsFalls_79 (by decide) (fun hq_16 => ?_) (fun hq_16 => ?_)
    · rw [if_pos hq_16] at h
      exact g_retV C hH h dX12_fillsFalls_182
    · rw [if_neg hq_16] at h
      refine lv_iconst (v := 0) hx hb dX12_fillsFalls_82 (by decide) ?_
      refine lv_istore_n (lv' := [(2, .int (0 : Int32)), (0, .ref (ad 0)), (1, .int x1)]) hx hb dX12_fillsFalls_83 rfl hl (by decide) rfl (fun ls hl => ?_)
      exact wX12_fillsFalls_84 C ih _ _ _ _ _ _ _ h hH (lv_sub hl [1, 2, 0] rfl)
set_option maxHeartbeats 4000000 in
set_option maxRecDepth 100000 in
theorem wX12_fillsFalls_29 (C : Cx 45 D ad κ p s m args meth c cX12_fillsFalls RX12 4 none) {R : HS} : ∀ (f : Nat) (x1 : Int32) (σ : HS) (H : Heap) (locs : List Loc) (ls : Array Slot), FX12_fillsFalls_29  f x1 σ = some R → Hd 45 ceM D ad κ s σ H locs → lv_has ls 4 [(0, .ref (ad 0)), (1, .int x1)] → W p l e ({ frames := 3, cells := 0, slots := 0, locals := 74 } : Room) s m args below meth c H locs 0 0 (MQ below (QV 45 ceM D ad κ R) args s 0 0 (AX 45 ad)) (F0 m 29 ls []) := by
  have hx := C.1
  have hb := C.2.1
  have hown := C.2.2.2.1
  have hts := C.2.2.2.2.1
  intro f
  induction f with
  | zero =>
    intro x1 σ H locs ls h hH hl
    cases h
  | succ f ih =>
    intro x1 σ H locs ls h hH hl
    rw [FX12_fillsFalls_29] at h
    refine lv_iload_n hx hb dX12_fillsFalls_29 rfl (lv_at hl 1 rfl) ?_
    refine lv_bipush (v := 80) hx hb dX12_fillsFalls_30 (by decide) ?_
    refine lv_icmp_ge (tgt := 48) hx hb dX12_fillsFalls_32 (by decide) (fun hq_17 => ?_) (fun hq_17 => ?_)
    · rw [if_pos hq_17] at h
      refine lv_aload_n hx hb dX12_fillsFalls_48 rfl (lv_at hl 0 rfl) ?_
      refine g_get C hH 0 (Nat.le_of_ble_eq_true rfl) rfl fl_X12_122 (v := .ref (ad 35)) rfl dX12_fillsFalls_49 ?_
      refine lv_iconst (v := 0) hx hb dX12_fillsFalls_52 (by decide) ?_
      refine lv_aload_n hx hb dX12_fillsFalls_53 rfl (lv_at hl 0 rfl) ?_
      obtain ⟨r_18, σ_19, hc_20, h⟩ := bdI_ex h
      refine g_ci (g_runV (rest := [.int (0 : Int32), .ref (ad 35)]) C hH hl.1 cV_X12_306 0 (Nat.le_of_ble_eq_true rfl) rfl rfl (kX12_many l D ad κ hc_20) ⟨rfl, rfl⟩ ⟨(Nat.le_of_ble_eq_true rfl), (Nat.le_of_ble_eq_true rfl)⟩ rfl rfl (Nat.le_of_ble_eq_true rfl) dX12_fillsFalls_54 z00) hH (fun H locs hH => ?_)
      refine lv_if_ne (tgt := 64) hx hb dX12_fillsFalls_57 (by decide) (fun hq_21 => ?_) (fun hq_21 => ?_)
      · rw [if_neg hq_21] at h
        refine lv_aload_n hx hb dX12_fillsFalls_64 rfl (lv_at hl 0 rfl) ?_
        obtain ⟨r_22, σ_23, hc_24, h⟩ := bdI_ex h
        refine g_ci (g_runV (rest := [.int (0 : Int32), .ref (ad 35)]) C hH hl.1 cV_X12_306 0 (Nat.le_of_ble_eq_true rfl) rfl rfl (kX12_many l D ad κ hc_24) ⟨rfl, rfl⟩ ⟨(Nat.le_of_ble_eq_true rfl), (Nat.le_of_ble_eq_true rfl)⟩ rfl rfl (Nat.le_of_ble_eq_true rfl) dX12_fillsFalls_65 z00) hH (fun H locs hH => ?_)
        obtain ⟨r_25, σ_26, hc_27, h⟩ := bdI_ex h
        refine g_ci (g_runS (rest := [.int (0 : Int32), .ref (ad 35)]) C hH hl.1 cS_X12_400 (kX12_power l D ad κ hc_27) ⟨rfl, rfl⟩ ⟨(Nat.le_of_ble_eq_true rfl), (Nat.le_of_ble_eq_true rfl)⟩ rfl rfl (Nat.le_of_ble_eq_true rfl) dX12_fillsFalls_68 z00) hH (fun H locs hH => ?_)
        obtain ⟨σ_28, eσ_28, h⟩ := hl_ex h
        refine g_iast C hH 35 (Nat.le_of_ble_eq_true rfl) (fun _ _ => rfl) (k := 0) (by decide) (ix_in rfl) dX12_fillsFalls_71 (fun H locs hH => ?_)
        rw [← eσ_28] at hH
        refine lv_iconst (v := 1) hx hb dX12_fillsFalls_72 (by decide) ?_
        refine lv_istore_n (lv' := [(1, .int (1 : Int32)), (0, .ref (ad 0))]) hx hb dX12_fillsFalls_73 rfl hl (by decide) rfl (fun ls hl => ?_)
        exact wX12_fillsFalls_74 C _ _ _ _ _ _ h hH (lv_sub hl [1, 0] rfl)
      · rw [if_pos hq_21] at h
        refine lv_iconst (v := 0) hx hb dX12_fillsFalls_60 (by decide) ?_
        refine lv_goto (tgt := 71) hx hb dX12_fillsFalls_61 (by decide) ?_
        obtain ⟨σ_29, eσ_29, h⟩ := hl_ex h
        refine g_iast C hH 35 (Nat.le_of_ble_eq_true rfl) (fun _ _ => rfl) (k := 0) (by decide) (ix_in rfl) dX12_fillsFalls_71 (fun H locs hH => ?_)
        rw [← eσ_29] at hH
        refine lv_iconst (v := 1) hx hb dX12_fillsFalls_72 (by decide) ?_
        refine lv_istore_n (lv' := [(1, .int (1 : Int32)), (0, .ref (ad 0))]) hx hb dX12_fillsFalls_73 rfl hl (by decide) rfl (fun ls hl => ?_)
        exact wX12_fillsFalls_74 C _ _ _ _ _ _ h hH (lv_sub hl [1, 0] rfl)
    · rw [if_neg hq_17] at h
      refine lv_aload_n hx hb dX12_fillsFalls_35 rfl (lv_at hl 0 rfl) ?_
      refine g_get C hH 0 (Nat.le_of_ble_eq_true rfl) rfl fl_X12_122 (v := .ref (ad 35)) rfl dX12_fillsFalls_36 ?_
      refine lv_iload_n hx hb dX12_fillsFalls_39 rfl (lv_at hl 1 rfl) ?_
      refine lv_iconst (v := 0) hx hb dX12_fillsFalls_40 (by decide) ?_
      obtain ⟨hi_30, h⟩ := gd_ex h
      obtain ⟨σ_31, eσ_31, h⟩ := hl_ex h
      refine g_iast C hH 35 (Nat.le_of_ble_eq_true rfl) (fun _ _ => rfl) (k := (x1.toNatClampNeg)) rfl (ix_in hi_30) dX12_fillsFalls_41 (fun H locs hH => ?_)
      rw [← eσ_31] at hH
      refine lv_iinc (v := (x1 + 1)) (lv' := [(1, .int (x1 + 1)), (0, .ref (ad 0))]) hx hb dX12_fillsFalls_42 hl (k := 1) rfl rfl (by decide) rfl (fun ls hl => ?_)
      refine lv_goto (tgt := 29) hx hb dX12_fillsFalls_45 (by decide) ?_
      exact ih _ _ _ _ _ h hH (lv_sub hl [1, 0] rfl)
set_option maxHeartbeats 4000000 in
set_option maxRecDepth 100000 in
theorem wX12_fillsFalls_2 (C : Cx 45 D ad κ p s m args meth c cX12_fillsFalls RX12 4 none) {R : HS} : ∀ (f : Nat) (x1 : Int32) (σ : HS) (H : Heap) (locs : List Loc) (ls : Array Slot), FX12_fillsFalls_2  f x1 σ = some R → Hd 45 ceM D ad κ s σ H locs → lv_has ls 4 [(0, .ref (ad 0)), (1, .int x1)] → W p l e ({ frames := 3, cells := 0, slots := 0, locals := 74 } : Room) s m args below meth c H locs 0 0 (MQ below (QV 45 ceM D ad κ R) args s 0 0 (AX 45 ad)) (F0 m 2 ls []) := by
  have hx := C.1
  have hb := C.2.1
  have hown := C.2.2.2.1
  have hts := C.2.2.2.2.1
  intro f
  induction f with
  | zero =>
    intro x1 σ H locs ls h hH hl
    cases h
  | succ f ih =>
    intro x1 σ H locs ls h hH hl
    rw [FX12_fillsFalls_2] at h
    refine lv_iload_n hx hb dX12_fillsFalls_2 rfl (lv_at hl 1 rfl) ?_
    refine lv_aload_n hx hb dX12_fillsFalls_3 rfl (lv_at hl 0 rfl) ?_
    obtain ⟨r_32, σ_33, hc_34, h⟩ := bdI_ex h
    refine g_ci (g_runV (rest := [.int x1]) C hH hl.1 cV_X12_306 0 (Nat.le_of_ble_eq_true rfl) rfl rfl (kX12_many l D ad κ hc_34) ⟨rfl, rfl⟩ ⟨(Nat.le_of_ble_eq_true rfl), (Nat.le_of_ble_eq_true rfl)⟩ rfl rfl (Nat.le_of_ble_eq_true rfl) dX12_fillsFalls_4 z00) hH (fun H locs hH => ?_)
    refine lv_icmp_ge (tgt := 27) hx hb dX12_fillsFalls_7 (by decide) (fun hq_35 => ?_) (fun hq_35 => ?_)
    · rw [if_pos hq_35] at h
      refine lv_iconst (v := 0) hx hb dX12_fillsFalls_27 (by decide) ?_
      refine lv_istore_n (lv' := [(1, .int (0 : Int32)), (0, .ref (ad 0))]) hx hb dX12_fillsFalls_28 rfl hl (by decide) rfl (fun ls hl => ?_)
      exact wX12_fillsFalls_29 C _ _ _ _ _ _ h hH (lv_sub hl [1, 0] rfl)
    · rw [if_neg hq_35] at h
      refine lv_aload_n hx hb dX12_fillsFalls_10 rfl (lv_at hl 0 rfl) ?_
      refine g_get C hH 0 (Nat.le_of_ble_eq_true rfl) rfl fl_X12_119 (v := .ref (ad 34)) rfl dX12_fillsFalls_11 ?_
      refine lv_iload_n hx hb dX12_fillsFalls_14 rfl (lv_at hl 1 rfl) ?_
      refine lv_aload_n hx hb dX12_fillsFalls_15 rfl (lv_at hl 0 rfl) ?_
      refine lv_iload_n hx hb dX12_fillsFalls_16 rfl (lv_at hl 1 rfl) ?_
      obtain ⟨r_36, σ_37, hc_38, h⟩ := bdI_ex h
      refine g_ci (g_runV (rest := [.int x1, .ref (ad 34)]) C hH hl.1 cV_X12_348 0 (Nat.le_of_ble_eq_true rfl) rfl rfl (kX12_coughsOf l D ad κ hc_38) ⟨rfl, rfl⟩ ⟨(Nat.le_of_ble_eq_true rfl), (Nat.le_of_ble_eq_true rfl)⟩ rfl rfl (Nat.le_of_ble_eq_true rfl) dX12_fillsFalls_17 z00) hH (fun H locs hH => ?_)
      obtain ⟨hi_39, h⟩ := gd_ex h
      obtain ⟨σ_40, eσ_40, h⟩ := hl_ex h
      refine g_iast C hH 34 (Nat.le_of_ble_eq_true rfl) (fun _ _ => rfl) (k := (x1.toNatClampNeg)) rfl (ix_in hi_39) dX12_fillsFalls_20 (fun H locs hH => ?_)
      rw [← eσ_40] at hH
      refine lv_iinc (v := (x1 + 1)) (lv' := [(1, .int (x1 + 1)), (0, .ref (ad 0))]) hx hb dX12_fillsFalls_21 hl (k := 1) rfl rfl (by decide) rfl (fun ls hl => ?_)
      refine lv_goto (tgt := 2) hx hb dX12_fillsFalls_24 (by decide) ?_
      exact ih _ _ _ _ _ h hH (lv_sub hl [1, 0] rfl)
set_option maxHeartbeats 4000000 in
set_option maxRecDepth 100000 in
theorem kX12_fillsFalls (l : Launch) (D : va_G) (ad : Nat → Nat) (κ : KC) {σ : HS} {R : HS} (h : FX12_fillsFalls σ = some R) : MtV l 45 ceM D ad κ yX12_fillsFalls cX12_fillsFalls 4 none ({ frames := 3, cells := 0, slots := 0, locals := 74 } : Room) [.ref (ad 0)] σ R := by
  refine open_ (by decide) (Nat.le_of_ble_eq_true rfl) (la := [(0, .ref (ad 0))]) rfl ?_
  intro p e s m below meth c ls C hH hl
  replace C : Cx 45 D ad κ p s m _ meth c cX12_fillsFalls RX12 4 none := C
  have hx := C.1
  have hb := C.2.1
  have hown := C.2.2.2.1
  have hts := C.2.2.2.2.1
  rw [FX12_fillsFalls] at h
  refine lv_iconst (v := 0) hx hb dX12_fillsFalls_0 (by decide) ?_
  refine lv_istore_n (lv' := [(1, .int (0 : Int32)), (0, .ref (ad 0))]) hx hb dX12_fillsFalls_1 rfl hl (by decide) rfl (fun ls hl => ?_)
  exact wX12_fillsFalls_2 C _ _ _ _ _ _ h hH (lv_sub hl [1, 0] rfl)
-- X12_copiesFalls
def FX12_copiesFalls (σ : HS) : Option HS :=
  bdV (FX12_copies σ) fun σ_1 => bdV (FX12_fillsFalls σ_1) fun σ_3 => some σ_3
set_option maxHeartbeats 4000000 in
set_option maxRecDepth 100000 in
theorem kX12_copiesFalls (l : Launch) (D : va_G) (ad : Nat → Nat) (κ : KC) {σ : HS} {R : HS} (h : FX12_copiesFalls σ = some R) : MtV l 45 ceM D ad κ yX12_copiesFalls cX12_copiesFalls 1 none ({ frames := 4, cells := 0, slots := 0, locals := 97 } : Room) [.ref (ad 0)] σ R := by
  refine open_ (by decide) (Nat.le_of_ble_eq_true rfl) (la := [(0, .ref (ad 0))]) rfl ?_
  intro p e s m below meth c ls C hH hl
  replace C : Cx 45 D ad κ p s m _ meth c cX12_copiesFalls RX12 1 none := C
  have hx := C.1
  have hb := C.2.1
  have hown := C.2.2.2.1
  have hts := C.2.2.2.2.1
  rw [FX12_copiesFalls] at h
  refine lv_aload_n hx hb dX12_copiesFalls_0 rfl (lv_at hl 0 rfl) ?_
  obtain ⟨σ_1, hc_2, h⟩ := bdV_ex h
  refine g_cv (g_runV (rest := []) C hH hl.1 cV_X12_369 0 (Nat.le_of_ble_eq_true rfl) rfl rfl (kX12_copies l D ad κ hc_2) ⟨rfl, rfl⟩ ⟨(Nat.le_of_ble_eq_true rfl), (Nat.le_of_ble_eq_true rfl)⟩ rfl rfl (Nat.le_of_ble_eq_true rfl) dX12_copiesFalls_1 z00) hH (fun H locs hH => ?_)
  refine lv_aload_n hx hb dX12_copiesFalls_4 rfl (lv_at hl 0 rfl) ?_
  obtain ⟨σ_3, hc_4, h⟩ := bdV_ex h
  refine g_cv (g_runV (rest := []) C hH hl.1 cV_X12_403 0 (Nat.le_of_ble_eq_true rfl) rfl rfl (kX12_fillsFalls l D ad κ hc_4) ⟨rfl, rfl⟩ ⟨(Nat.le_of_ble_eq_true rfl), (Nat.le_of_ble_eq_true rfl)⟩ rfl rfl (Nat.le_of_ble_eq_true rfl) dX12_copiesFalls_5 z00) hH (fun H locs hH => ?_)
  exact g_retV C hH h dX12_copiesFalls_8
-- X12_oddsOf
def FX12_oddsOf (x1 : Int32) (σ : HS) : Option (Int32 × HS) :=
  bdI (FX12_many σ) fun r_1 σ_2 => if r_1 = 0 then if x1 = 0 then some ((1 : Int32), σ_2) else some ((0 : Int32), σ_2) else if x1 = 0 then some ((0 : Int32), σ_2) else bdI (FX12_many σ_2) fun r_6 σ_7 => gd (ix (((((8 : Int32) * r_6) - (8 : Int32)) + x1) - (1 : Int32)) 80) (some ((σ_7.1 35 ((((((8 : Int32) * r_6) - (8 : Int32)) + x1) - (1 : Int32)).toNatClampNeg)), σ_7))
set_option maxHeartbeats 4000000 in
set_option maxRecDepth 100000 in
theorem kX12_oddsOf (l : Launch) (D : va_G) (ad : Nat → Nat) (κ : KC) {x1 : Int32} {σ : HS} {R : (Int32 × HS)} (h : FX12_oddsOf x1 σ = some R) : MtI l 45 ceM D ad κ yX12_oddsOf cX12_oddsOf 2 (some .int) ({ frames := 1, cells := 0, slots := 0, locals := 20 } : Room) [.ref (ad 0), .int x1] σ R := by
  refine open_ (by decide) (Nat.le_of_ble_eq_true rfl) (la := [(0, .ref (ad 0)), (1, .int x1)]) rfl ?_
  intro p e s m below meth c ls C hH hl
  replace C : Cx 45 D ad κ p s m _ meth c cX12_oddsOf RX12 2 (some .int) := C
  have hx := C.1
  have hb := C.2.1
  have hown := C.2.2.2.1
  have hts := C.2.2.2.2.1
  rw [FX12_oddsOf] at h
  refine lv_aload_n hx hb dX12_oddsOf_0 rfl (lv_at hl 0 rfl) ?_
  obtain ⟨r_1, σ_2, hc_3, h⟩ := bdI_ex h
  refine g_ci (g_runV (rest := []) C hH hl.1 cV_X12_306 0 (Nat.le_of_ble_eq_true rfl) rfl rfl (kX12_many l D ad κ hc_3) ⟨rfl, rfl⟩ ⟨(Nat.le_of_ble_eq_true rfl), (Nat.le_of_ble_eq_true rfl)⟩ rfl rfl (Nat.le_of_ble_eq_true rfl) dX12_oddsOf_1 z00) hH (fun H locs hH => ?_)
  refine lv_if_ne (tgt := 17) hx hb dX12_oddsOf_4 (by decide) (fun hq_4 => ?_) (fun hq_4 => ?_)
  · rw [if_neg hq_4] at h
    refine lv_iload_n hx hb dX12_oddsOf_17 rfl (lv_at hl 1 rfl) ?_
    refine lv_if_ne (tgt := 25) hx hb dX12_oddsOf_18 (by decide) (fun hq_5 => ?_) (fun hq_5 => ?_)
    · rw [if_neg hq_5] at h
      refine lv_aload_n hx hb dX12_oddsOf_25 rfl (lv_at hl 0 rfl) ?_
      refine g_get C hH 0 (Nat.le_of_ble_eq_true rfl) rfl fl_X12_122 (v := .ref (ad 35)) rfl dX12_oddsOf_26 ?_
      refine lv_bipush (v := 8) hx hb dX12_oddsOf_29 (by decide) ?_
      refine lv_aload_n hx hb dX12_oddsOf_31 rfl (lv_at hl 0 rfl) ?_
      obtain ⟨r_6, σ_7, hc_8, h⟩ := bdI_ex h
      refine g_ci (g_runV (rest := [.int (8 : Int32), .ref (ad 35)]) C hH hl.1 cV_X12_306 0 (Nat.le_of_ble_eq_true rfl) rfl rfl (kX12_many l D ad κ hc_8) ⟨rfl, rfl⟩ ⟨(Nat.le_of_ble_eq_true rfl), (Nat.le_of_ble_eq_true rfl)⟩ rfl rfl (Nat.le_of_ble_eq_true rfl) dX12_oddsOf_32 z00) hH (fun H locs hH => ?_)
      refine lv_imul hx hb dX12_oddsOf_35 ?_
      refine lv_bipush (v := 8) hx hb dX12_oddsOf_36 (by decide) ?_
      refine lv_isub hx hb dX12_oddsOf_38 ?_
      refine lv_iload_n hx hb dX12_oddsOf_39 rfl (lv_at hl 1 rfl) ?_
      refine lv_iadd hx hb dX12_oddsOf_40 ?_
      refine lv_iconst (v := 1) hx hb dX12_oddsOf_41 (by decide) ?_
      refine lv_isub hx hb dX12_oddsOf_42 ?_
      obtain ⟨hi_9, h⟩ := gd_ex h
      refine g_iald C hH 35 (Nat.le_of_ble_eq_true rfl) rfl (k := ((((((8 : Int32) * r_6) - (8 : Int32)) + x1) - (1 : Int32)).toNatClampNeg)) rfl (ix_in hi_9) dX12_oddsOf_43 ?_
      exact g_ret C hH h dX12_oddsOf_44
    · rw [if_pos hq_5] at h
      refine lv_iconst (v := 0) hx hb dX12_oddsOf_21 (by decide) ?_
      refine lv_goto (tgt := 44) hx hb dX12_oddsOf_22 (by decide) ?_
      exact g_ret C hH h dX12_oddsOf_44
  · rw [if_pos hq_4] at h
    refine lv_iload_n hx hb dX12_oddsOf_7 rfl (lv_at hl 1 rfl) ?_
    refine lv_if_ne (tgt := 15) hx hb dX12_oddsOf_8 (by decide) (fun hq_10 => ?_) (fun hq_10 => ?_)
    · rw [if_neg hq_10] at h
      refine lv_iconst (v := 0) hx hb dX12_oddsOf_15 (by decide) ?_
      exact g_ret C hH h dX12_oddsOf_16
    · rw [if_pos hq_10] at h
      refine lv_iconst (v := 1) hx hb dX12_oddsOf_11 (by decide) ?_
      refine lv_goto (tgt := 16) hx hb dX12_oddsOf_12 (by decide) ?_
      exact g_ret C hH h dX12_oddsOf_16
-- X12_odds
def FX12_odds (x1 : Int32) (σ : HS) : Option (Int32 × HS) :=
  bdI (FX12_in x1 (0 : Int32) (8 : Int32) σ) fun r_1 σ_2 => if r_1 = 0 then some ((-1 : Int32), σ_2) else bdV (FX12_copiesFalls σ_2) fun σ_5 => bdI (FX12_oddsOf x1 σ_5) fun r_7 σ_8 => some (r_7, σ_8)
set_option maxHeartbeats 4000000 in
set_option maxRecDepth 100000 in
theorem kX12_odds (l : Launch) (D : va_G) (ad : Nat → Nat) (κ : KC) {x1 : Int32} {σ : HS} {R : (Int32 × HS)} (h : FX12_odds x1 σ = some R) : MtI l 45 ceM D ad κ yX12_odds cX12_odds 2 (some .int) ({ frames := 5, cells := 0, slots := 0, locals := 117 } : Room) [.ref (ad 0), .int x1] σ R := by
  refine open_ (by decide) (Nat.le_of_ble_eq_true rfl) (la := [(0, .ref (ad 0)), (1, .int x1)]) rfl ?_
  intro p e s m below meth c ls C hH hl
  replace C : Cx 45 D ad κ p s m _ meth c cX12_odds RX12 2 (some .int) := C
  have hx := C.1
  have hb := C.2.1
  have hown := C.2.2.2.1
  have hts := C.2.2.2.2.1
  rw [FX12_odds] at h
  refine lv_iload_n hx hb dX12_odds_0 rfl (lv_at hl 1 rfl) ?_
  refine lv_iconst (v := 0) hx hb dX12_odds_1 (by decide) ?_
  refine lv_bipush (v := 8) hx hb dX12_odds_2 (by decide) ?_
  obtain ⟨r_1, σ_2, hc_3, h⟩ := bdI_ex h
  refine g_ci (g_runS (rest := []) C hH hl.1 cS_X12_310 (kX12_in l D ad κ hc_3) ⟨rfl, rfl⟩ ⟨(Nat.le_of_ble_eq_true rfl), (Nat.le_of_ble_eq_true rfl)⟩ rfl rfl (Nat.le_of_ble_eq_true rfl) dX12_odds_4 z00) hH (fun H locs hH => ?_)
  refine lv_if_ne (tgt := 12) hx hb dX12_odds_7 (by decide) (fun hq_4 => ?_) (fun hq_4 => ?_)
  · rw [if_neg hq_4] at h
    refine lv_aload_n hx hb dX12_odds_12 rfl (lv_at hl 0 rfl) ?_
    obtain ⟨σ_5, hc_6, h⟩ := bdV_ex h
    refine g_cv (g_runV (rest := []) C hH hl.1 cV_X12_406 0 (Nat.le_of_ble_eq_true rfl) rfl rfl (kX12_copiesFalls l D ad κ hc_6) ⟨rfl, rfl⟩ ⟨(Nat.le_of_ble_eq_true rfl), (Nat.le_of_ble_eq_true rfl)⟩ rfl rfl (Nat.le_of_ble_eq_true rfl) dX12_odds_13 z00) hH (fun H locs hH => ?_)
    refine lv_aload_n hx hb dX12_odds_16 rfl (lv_at hl 0 rfl) ?_
    refine lv_iload_n hx hb dX12_odds_17 rfl (lv_at hl 1 rfl) ?_
    obtain ⟨r_7, σ_8, hc_9, h⟩ := bdI_ex h
    refine g_ci (g_runV (rest := []) C hH hl.1 cV_X12_409 0 (Nat.le_of_ble_eq_true rfl) rfl rfl (kX12_oddsOf l D ad κ hc_9) ⟨rfl, rfl⟩ ⟨(Nat.le_of_ble_eq_true rfl), (Nat.le_of_ble_eq_true rfl)⟩ rfl rfl (Nat.le_of_ble_eq_true rfl) dX12_odds_18 z00) hH (fun H locs hH => ?_)
    exact g_ret C hH h dX12_odds_21
  · rw [if_pos hq_4] at h
    refine lv_iconst (v := (-1)) hx hb dX12_odds_10 (by decide) ?_
    exact g_ret C hH h dX12_odds_11
-- X12_falls
def FX12_falls (x1 : Int32) (x2 : Int32) (σ : HS) : Option (Int32 × HS) :=
  bdI (FX12_isMinute x1 σ) fun r_1 σ_2 => if r_1 = 0 then some ((-1 : Int32), σ_2) else bdI (FX12_isPart x2 σ_2) fun r_5 σ_6 => if r_5 = 0 then some ((-1 : Int32), σ_6) else bdV (FX12_copiesFalls σ_6) fun σ_9 => gd (ix (((8 : Int32) * x1) + x2) 80) (some ((σ_9.1 35 ((((8 : Int32) * x1) + x2).toNatClampNeg)), σ_9))
set_option maxHeartbeats 4000000 in
set_option maxRecDepth 100000 in
theorem kX12_falls (l : Launch) (D : va_G) (ad : Nat → Nat) (κ : KC) {x1 : Int32} {x2 : Int32} {σ : HS} {R : (Int32 × HS)} (h : FX12_falls x1 x2 σ = some R) : MtI l 45 ceM D ad κ yX12_falls cX12_falls 3 (some .int) ({ frames := 5, cells := 0, slots := 0, locals := 117 } : Room) [.ref (ad 0), .int x1, .int x2] σ R := by
  refine open_ (by decide) (Nat.le_of_ble_eq_true rfl) (la := [(0, .ref (ad 0)), (1, .int x1), (2, .int x2)]) rfl ?_
  intro p e s m below meth c ls C hH hl
  replace C : Cx 45 D ad κ p s m _ meth c cX12_falls RX12 3 (some .int) := C
  have hx := C.1
  have hb := C.2.1
  have hown := C.2.2.2.1
  have hts := C.2.2.2.2.1
  rw [FX12_falls] at h
  refine lv_aload_n hx hb dX12_falls_0 rfl (lv_at hl 0 rfl) ?_
  refine lv_iload_n hx hb dX12_falls_1 rfl (lv_at hl 1 rfl) ?_
  obtain ⟨r_1, σ_2, hc_3, h⟩ := bdI_ex h
  refine g_ci (g_runV (rest := []) C hH hl.1 cV_X12_366 0 (Nat.le_of_ble_eq_true rfl) rfl rfl (kX12_isMinute l D ad κ hc_3) ⟨rfl, rfl⟩ ⟨(Nat.le_of_ble_eq_true rfl), (Nat.le_of_ble_eq_true rfl)⟩ rfl rfl (Nat.le_of_ble_eq_true rfl) dX12_falls_2 z00) hH (fun H locs hH => ?_)
  refine lv_if_eq (tgt := 15) hx hb dX12_falls_5 (by decide) (fun hq_4 => ?_) (fun hq_4 => ?_)
  · rw [if_pos hq_4] at h
    refine lv_iconst (v := (-1)) hx hb dX12_falls_15 (by decide) ?_
    exact g_ret C hH h dX12_falls_16
  · rw [if_neg hq_4] at h
    refine lv_iload_n hx hb dX12_falls_8 rfl (lv_at hl 2 rfl) ?_
    obtain ⟨r_5, σ_6, hc_7, h⟩ := bdI_ex h
    refine g_ci (g_runS (rest := []) C hH hl.1 cS_X12_378 (kX12_isPart l D ad κ hc_7) ⟨rfl, rfl⟩ ⟨(Nat.le_of_ble_eq_true rfl), (Nat.le_of_ble_eq_true rfl)⟩ rfl rfl (Nat.le_of_ble_eq_true rfl) dX12_falls_9 z00) hH (fun H locs hH => ?_)
    refine lv_if_ne (tgt := 17) hx hb dX12_falls_12 (by decide) (fun hq_8 => ?_) (fun hq_8 => ?_)
    · rw [if_neg hq_8] at h
      refine lv_aload_n hx hb dX12_falls_17 rfl (lv_at hl 0 rfl) ?_
      obtain ⟨σ_9, hc_10, h⟩ := bdV_ex h
      refine g_cv (g_runV (rest := []) C hH hl.1 cV_X12_406 0 (Nat.le_of_ble_eq_true rfl) rfl rfl (kX12_copiesFalls l D ad κ hc_10) ⟨rfl, rfl⟩ ⟨(Nat.le_of_ble_eq_true rfl), (Nat.le_of_ble_eq_true rfl)⟩ rfl rfl (Nat.le_of_ble_eq_true rfl) dX12_falls_18 z00) hH (fun H locs hH => ?_)
      refine lv_aload_n hx hb dX12_falls_21 rfl (lv_at hl 0 rfl) ?_
      refine g_get C hH 0 (Nat.le_of_ble_eq_true rfl) rfl fl_X12_122 (v := .ref (ad 35)) rfl dX12_falls_22 ?_
      refine lv_bipush (v := 8) hx hb dX12_falls_25 (by decide) ?_
      refine lv_iload_n hx hb dX12_falls_27 rfl (lv_at hl 1 rfl) ?_
      refine lv_imul hx hb dX12_falls_28 ?_
      refine lv_iload_n hx hb dX12_falls_29 rfl (lv_at hl 2 rfl) ?_
      refine lv_iadd hx hb dX12_falls_30 ?_
      obtain ⟨hi_11, h⟩ := gd_ex h
      refine g_iald C hH 35 (Nat.le_of_ble_eq_true rfl) rfl (k := ((((8 : Int32) * x1) + x2).toNatClampNeg)) rfl (ix_in hi_11) dX12_falls_31 ?_
      exact g_ret C hH h dX12_falls_32
    · rw [if_pos hq_8] at h
      refine lv_iconst (v := (-1)) hx hb dX12_falls_15 (by decide) ?_
      exact g_ret C hH h dX12_falls_16
-- X12_valueOf
def FX12_valueOf_5  : Nat → Int32 → Int32 → Int32 → Int32 → HS → Option (Int32 × HS)
  | 0, _, _, _, _, _ => none
  | f + 1, x1, x2, x3, x4, σ => bdI (FX12_many σ) fun r_1 σ_2 => if r_1 ≤ x4 then some (x3, σ_2) else gd (ix (((8 : Int32) * x4) + x2) 80) (bdI (FX12_worthOf x1 x4 x2 σ_2) fun r_6 σ_7 => hl_ (x3 + ((σ_2.1 35 ((((8 : Int32) * x4) + x2).toNatClampNeg)) * r_6)) fun x3_9 => FX12_valueOf_5  f x1 x2 x3_9 (x4 + 1) σ_7)
def FX12_valueOf (x1 : Int32) (x2 : Int32) (σ : HS) : Option (Int32 × HS) :=
  FX12_valueOf_5 fu x1 x2 (0 : Int32) (0 : Int32) σ
set_option maxHeartbeats 4000000 in
set_option maxRecDepth 100000 in
theorem wX12_valueOf_5 (C : Cx 45 D ad κ p s m args meth c cX12_valueOf RX12 5 (some .int)) {R : (Int32 × HS)} : ∀ (f : Nat) (x1 : Int32) (x2 : Int32) (x3 : Int32) (x4 : Int32) (σ : HS) (H : Heap) (locs : List Loc) (ls : Array Slot), FX12_valueOf_5  f x1 x2 x3 x4 σ = some R → Hd 45 ceM D ad κ s σ H locs → lv_has ls 5 [(0, .ref (ad 0)), (1, .int x1), (2, .int x2), (3, .int x3), (4, .int x4)] → W p l e ({ frames := 3, cells := 0, slots := 0, locals := 76 } : Room) s m args below meth c H locs 0 0 (MQ below (QI 45 ceM D ad κ R) args s 0 0 (AX 45 ad)) (F0 m 5 ls []) := by
  have hx := C.1
  have hb := C.2.1
  have hown := C.2.2.2.1
  have hts := C.2.2.2.2.1
  intro f
  induction f with
  | zero =>
    intro x1 x2 x3 x4 σ H locs ls h hH hl
    cases h
  | succ f ih =>
    intro x1 x2 x3 x4 σ H locs ls h hH hl
    rw [FX12_valueOf_5] at h
    refine lv_iload hx hb dX12_valueOf_5 (lv_at hl 4 rfl) ?_
    refine lv_aload_n hx hb dX12_valueOf_7 rfl (lv_at hl 0 rfl) ?_
    obtain ⟨r_1, σ_2, hc_3, h⟩ := bdI_ex h
    refine g_ci (g_runV (rest := [.int x4]) C hH hl.1 cV_X12_306 0 (Nat.le_of_ble_eq_true rfl) rfl rfl (kX12_many l D ad κ hc_3) ⟨rfl, rfl⟩ ⟨(Nat.le_of_ble_eq_true rfl), (Nat.le_of_ble_eq_true rfl)⟩ rfl rfl (Nat.le_of_ble_eq_true rfl) dX12_valueOf_8 z00) hH (fun H locs hH => ?_)
    refine lv_icmp_ge (tgt := 44) hx hb dX12_valueOf_11 (by decide) (fun hq_4 => ?_) (fun hq_4 => ?_)
    · rw [if_pos hq_4] at h
      refine lv_iload_n hx hb dX12_valueOf_44 rfl (lv_at hl 3 rfl) ?_
      exact g_ret C hH h dX12_valueOf_45
    · rw [if_neg hq_4] at h
      refine lv_iload_n hx hb dX12_valueOf_14 rfl (lv_at hl 3 rfl) ?_
      refine lv_aload_n hx hb dX12_valueOf_15 rfl (lv_at hl 0 rfl) ?_
      refine g_get C hH 0 (Nat.le_of_ble_eq_true rfl) rfl fl_X12_122 (v := .ref (ad 35)) rfl dX12_valueOf_16 ?_
      refine lv_bipush (v := 8) hx hb dX12_valueOf_19 (by decide) ?_
      refine lv_iload hx hb dX12_valueOf_21 (lv_at hl 4 rfl) ?_
      refine lv_imul hx hb dX12_valueOf_23 ?_
      refine lv_iload_n hx hb dX12_valueOf_24 rfl (lv_at hl 2 rfl) ?_
      refine lv_iadd hx hb dX12_valueOf_25 ?_
      obtain ⟨hi_5, h⟩ := gd_ex h
      refine g_iald C hH 35 (Nat.le_of_ble_eq_true rfl) rfl (k := ((((8 : Int32) * x4) + x2).toNatClampNeg)) rfl (ix_in hi_5) dX12_valueOf_26 ?_
      refine lv_aload_n hx hb dX12_valueOf_27 rfl (lv_at hl 0 rfl) ?_
      refine lv_iload_n hx hb dX12_valueOf_28 rfl (lv_at hl 1 rfl) ?_
      refine lv_iload hx hb dX12_valueOf_29 (lv_at hl 4 rfl) ?_
      refine lv_iload_n hx hb dX12_valueOf_31 rfl (lv_at hl 2 rfl) ?_
      obtain ⟨r_6, σ_7, hc_8, h⟩ := bdI_ex h
      refine g_ci (g_runV (rest := [.int (σ_2.1 35 ((((8 : Int32) * x4) + x2).toNatClampNeg)), .int x3]) C hH hl.1 cV_X12_354 0 (Nat.le_of_ble_eq_true rfl) rfl rfl (kX12_worthOf l D ad κ hc_8) ⟨rfl, rfl⟩ ⟨(Nat.le_of_ble_eq_true rfl), (Nat.le_of_ble_eq_true rfl)⟩ rfl rfl (Nat.le_of_ble_eq_true rfl) dX12_valueOf_32 z00) hH (fun H locs hH => ?_)
      refine lv_imul hx hb dX12_valueOf_35 ?_
      refine lv_iadd hx hb dX12_valueOf_36 ?_
      obtain ⟨x3_9, ex3_9, h⟩ := hl_ex h
      refine lv_eqi ex3_9 ?_
      refine lv_istore_n (lv' := [(3, .int x3_9), (0, .ref (ad 0)), (1, .int x1), (2, .int x2), (4, .int x4)]) hx hb dX12_valueOf_37 rfl hl (by decide) rfl (fun ls hl => ?_)
      refine lv_iinc (v := (x4 + 1)) (lv' := [(4, .int (x4 + 1)), (3, .int x3_9), (0, .ref (ad 0)), (1, .int x1), (2, .int x2)]) hx hb dX12_valueOf_38 hl (k := 4) rfl rfl (by decide) rfl (fun ls hl => ?_)
      refine lv_goto (tgt := 5) hx hb dX12_valueOf_41 (by decide) ?_
      exact ih _ _ _ _ _ _ _ _ h hH (lv_sub hl [2, 3, 4, 1, 0] rfl)
set_option maxHeartbeats 4000000 in
set_option maxRecDepth 100000 in
theorem kX12_valueOf (l : Launch) (D : va_G) (ad : Nat → Nat) (κ : KC) {x1 : Int32} {x2 : Int32} {σ : HS} {R : (Int32 × HS)} (h : FX12_valueOf x1 x2 σ = some R) : MtI l 45 ceM D ad κ yX12_valueOf cX12_valueOf 5 (some .int) ({ frames := 3, cells := 0, slots := 0, locals := 76 } : Room) [.ref (ad 0), .int x1, .int x2] σ R := by
  refine open_ (by decide) (Nat.le_of_ble_eq_true rfl) (la := [(0, .ref (ad 0)), (1, .int x1), (2, .int x2)]) rfl ?_
  intro p e s m below meth c ls C hH hl
  replace C : Cx 45 D ad κ p s m _ meth c cX12_valueOf RX12 5 (some .int) := C
  have hx := C.1
  have hb := C.2.1
  have hown := C.2.2.2.1
  have hts := C.2.2.2.2.1
  rw [FX12_valueOf] at h
  refine lv_iconst (v := 0) hx hb dX12_valueOf_0 (by decide) ?_
  refine lv_istore_n (lv' := [(3, .int (0 : Int32)), (0, .ref (ad 0)), (1, .int x1), (2, .int x2)]) hx hb dX12_valueOf_1 rfl hl (by decide) rfl (fun ls hl => ?_)
  refine lv_iconst (v := 0) hx hb dX12_valueOf_2 (by decide) ?_
  refine lv_istore (lv' := [(4, .int (0 : Int32)), (3, .int (0 : Int32)), (0, .ref (ad 0)), (1, .int x1), (2, .int x2)]) hx hb dX12_valueOf_3 hl (by decide) rfl (fun ls hl => ?_)
  exact wX12_valueOf_5 C _ _ _ _ _ _ _ _ _ h hH (lv_sub hl [2, 3, 4, 1, 0] rfl)
-- X12_value
def FX12_value (x1 : Int32) (x2 : Int32) (σ : HS) : Option (Int32 × HS) :=
  bdI (FX12_isFamily x1 σ) fun r_1 σ_2 => if r_1 = 0 then some ((-1 : Int32), σ_2) else bdI (FX12_isPart x2 σ_2) fun r_5 σ_6 => if r_5 = 0 then some ((-1 : Int32), σ_6) else bdV (FX12_copiesFalls σ_6) fun σ_9 => bdI (FX12_valueOf x1 x2 σ_9) fun r_11 σ_12 => some (r_11, σ_12)
set_option maxHeartbeats 4000000 in
set_option maxRecDepth 100000 in
theorem kX12_value (l : Launch) (D : va_G) (ad : Nat → Nat) (κ : KC) {x1 : Int32} {x2 : Int32} {σ : HS} {R : (Int32 × HS)} (h : FX12_value x1 x2 σ = some R) : MtI l 45 ceM D ad κ yX12_value cX12_value 3 (some .int) ({ frames := 5, cells := 0, slots := 0, locals := 117 } : Room) [.ref (ad 0), .int x1, .int x2] σ R := by
  refine open_ (by decide) (Nat.le_of_ble_eq_true rfl) (la := [(0, .ref (ad 0)), (1, .int x1), (2, .int x2)]) rfl ?_
  intro p e s m below meth c ls C hH hl
  replace C : Cx 45 D ad κ p s m _ meth c cX12_value RX12 3 (some .int) := C
  have hx := C.1
  have hb := C.2.1
  have hown := C.2.2.2.1
  have hts := C.2.2.2.2.1
  rw [FX12_value] at h
  refine lv_aload_n hx hb dX12_value_0 rfl (lv_at hl 0 rfl) ?_
  refine lv_iload_n hx hb dX12_value_1 rfl (lv_at hl 1 rfl) ?_
  obtain ⟨r_1, σ_2, hc_3, h⟩ := bdI_ex h
  refine g_ci (g_runV (rest := []) C hH hl.1 cV_X12_372 0 (Nat.le_of_ble_eq_true rfl) rfl rfl (kX12_isFamily l D ad κ hc_3) ⟨rfl, rfl⟩ ⟨(Nat.le_of_ble_eq_true rfl), (Nat.le_of_ble_eq_true rfl)⟩ rfl rfl (Nat.le_of_ble_eq_true rfl) dX12_value_2 z00) hH (fun H locs hH => ?_)
  refine lv_if_eq (tgt := 15) hx hb dX12_value_5 (by decide) (fun hq_4 => ?_) (fun hq_4 => ?_)
  · rw [if_pos hq_4] at h
    refine lv_iconst (v := (-1)) hx hb dX12_value_15 (by decide) ?_
    exact g_ret C hH h dX12_value_16
  · rw [if_neg hq_4] at h
    refine lv_iload_n hx hb dX12_value_8 rfl (lv_at hl 2 rfl) ?_
    obtain ⟨r_5, σ_6, hc_7, h⟩ := bdI_ex h
    refine g_ci (g_runS (rest := []) C hH hl.1 cS_X12_378 (kX12_isPart l D ad κ hc_7) ⟨rfl, rfl⟩ ⟨(Nat.le_of_ble_eq_true rfl), (Nat.le_of_ble_eq_true rfl)⟩ rfl rfl (Nat.le_of_ble_eq_true rfl) dX12_value_9 z00) hH (fun H locs hH => ?_)
    refine lv_if_ne (tgt := 17) hx hb dX12_value_12 (by decide) (fun hq_8 => ?_) (fun hq_8 => ?_)
    · rw [if_neg hq_8] at h
      refine lv_aload_n hx hb dX12_value_17 rfl (lv_at hl 0 rfl) ?_
      obtain ⟨σ_9, hc_10, h⟩ := bdV_ex h
      refine g_cv (g_runV (rest := []) C hH hl.1 cV_X12_406 0 (Nat.le_of_ble_eq_true rfl) rfl rfl (kX12_copiesFalls l D ad κ hc_10) ⟨rfl, rfl⟩ ⟨(Nat.le_of_ble_eq_true rfl), (Nat.le_of_ble_eq_true rfl)⟩ rfl rfl (Nat.le_of_ble_eq_true rfl) dX12_value_18 z00) hH (fun H locs hH => ?_)
      refine lv_aload_n hx hb dX12_value_21 rfl (lv_at hl 0 rfl) ?_
      refine lv_iload_n hx hb dX12_value_22 rfl (lv_at hl 1 rfl) ?_
      refine lv_iload_n hx hb dX12_value_23 rfl (lv_at hl 2 rfl) ?_
      obtain ⟨r_11, σ_12, hc_13, h⟩ := bdI_ex h
      refine g_ci (g_runV (rest := []) C hH hl.1 cV_X12_412 0 (Nat.le_of_ble_eq_true rfl) rfl rfl (kX12_valueOf l D ad κ hc_13) ⟨rfl, rfl⟩ ⟨(Nat.le_of_ble_eq_true rfl), (Nat.le_of_ble_eq_true rfl)⟩ rfl rfl (Nat.le_of_ble_eq_true rfl) dX12_value_24 z00) hH (fun H locs hH => ?_)
      exact g_ret C hH h dX12_value_27
    · rw [if_pos hq_8] at h
      refine lv_iconst (v := (-1)) hx hb dX12_value_15 (by decide) ?_
      exact g_ret C hH h dX12_value_16
-- X12_haveOf
def FX12_haveOf_4  : Nat → Int32 → Int32 → Int32 → HS → Option (Int32 × HS)
  | 0, _, _, _, _ => none
  | f + 1, x1, x2, x3, σ => if (8 : Int32) ≤ x3 then some (x2, σ) else gd (ix ((10 : Int32) + x3) 33) (if (σ.1 32 (((10 : Int32) + x3).toNatClampNeg)) = x1 then bdI (FX12_valueOf x1 x3 σ) fun r_4 σ_5 => hl_ (x2 + r_4) fun x2_7 => FX12_haveOf_4  f x1 x2_7 (x3 + 1) σ_5 else FX12_haveOf_4  f x1 x2 (x3 + 1) σ)
def FX12_haveOf (x1 : Int32) (σ : HS) : Option (Int32 × HS) :=
  FX12_haveOf_4 fu x1 (0 : Int32) (0 : Int32) σ
set_option maxHeartbeats 4000000 in
set_option maxRecDepth 100000 in
theorem wX12_haveOf_4 (C : Cx 45 D ad κ p s m args meth c cX12_haveOf RX12 4 (some .int)) {R : (Int32 × HS)} : ∀ (f : Nat) (x1 : Int32) (x2 : Int32) (x3 : Int32) (σ : HS) (H : Heap) (locs : List Loc) (ls : Array Slot), FX12_haveOf_4  f x1 x2 x3 σ = some R → Hd 45 ceM D ad κ s σ H locs → lv_has ls 4 [(0, .ref (ad 0)), (1, .int x1), (2, .int x2), (3, .int x3)] → W p l e ({ frames := 4, cells := 0, slots := 0, locals := 100 } : Room) s m args below meth c H locs 0 0 (MQ below (QI 45 ceM D ad κ R) args s 0 0 (AX 45 ad)) (F0 m 4 ls []) := by
  have hx := C.1
  have hb := C.2.1
  have hown := C.2.2.2.1
  have hts := C.2.2.2.2.1
  intro f
  induction f with
  | zero =>
    intro x1 x2 x3 σ H locs ls h hH hl
    cases h
  | succ f ih =>
    intro x1 x2 x3 σ H locs ls h hH hl
    rw [FX12_haveOf_4] at h
    refine lv_iload_n hx hb dX12_haveOf_4 rfl (lv_at hl 3 rfl) ?_
    refine lv_bipush (v := 8) hx hb dX12_haveOf_5 (by decide) ?_
    refine lv_icmp_ge (tgt := 38) hx hb dX12_haveOf_7 (by decide) (fun hq_1 => ?_) (fun hq_1 => ?_)
    · rw [if_pos hq_1] at h
      refine lv_iload_n hx hb dX12_haveOf_38 rfl (lv_at hl 2 rfl) ?_
      exact g_ret C hH h dX12_haveOf_39
    · rw [if_neg hq_1] at h
      refine lv_aload_n hx hb dX12_haveOf_10 rfl (lv_at hl 0 rfl) ?_
      refine g_get C hH 0 (Nat.le_of_ble_eq_true rfl) rfl fl_X12_113 (v := .ref (ad 32)) rfl dX12_haveOf_11 ?_
      refine lv_bipush (v := 10) hx hb dX12_haveOf_14 (by decide) ?_
      refine lv_iload_n hx hb dX12_haveOf_16 rfl (lv_at hl 3 rfl) ?_
      refine lv_iadd hx hb dX12_haveOf_17 ?_
      obtain ⟨hi_2, h⟩ := gd_ex h
      refine g_iald C hH 32 (Nat.le_of_ble_eq_true rfl) rfl (k := (((10 : Int32) + x3).toNatClampNeg)) rfl (ix_in hi_2) dX12_haveOf_18 ?_
      refine lv_iload_n hx hb dX12_haveOf_19 rfl (lv_at hl 1 rfl) ?_
      refine lv_icmp_ne (tgt := 32) hx hb dX12_haveOf_20 (by decide) (fun hq_3 => ?_) (fun hq_3 => ?_)
      · rw [if_neg hq_3] at h
        refine lv_iinc (v := (x3 + 1)) (lv' := [(3, .int (x3 + 1)), (0, .ref (ad 0)), (1, .int x1), (2, .int x2)]) hx hb dX12_haveOf_32 hl (k := 3) rfl rfl (by decide) rfl (fun ls hl => ?_)
        refine lv_goto (tgt := 4) hx hb dX12_haveOf_35 (by decide) ?_
        exact ih _ _ _ _ _ _ _ h hH (lv_sub hl [1, 2, 3, 0] rfl)
      · rw [if_pos hq_3] at h
        refine lv_iload_n hx hb dX12_haveOf_23 rfl (lv_at hl 2 rfl) ?_
        refine lv_aload_n hx hb dX12_haveOf_24 rfl (lv_at hl 0 rfl) ?_
        refine lv_iload_n hx hb dX12_haveOf_25 rfl (lv_at hl 1 rfl) ?_
        refine lv_iload_n hx hb dX12_haveOf_26 rfl (lv_at hl 3 rfl) ?_
        obtain ⟨r_4, σ_5, hc_6, h⟩ := bdI_ex h
        refine g_ci (g_runV (rest := [.int x2]) C hH hl.1 cV_X12_412 0 (Nat.le_of_ble_eq_true rfl) rfl rfl (kX12_valueOf l D ad κ hc_6) ⟨rfl, rfl⟩ ⟨(Nat.le_of_ble_eq_true rfl), (Nat.le_of_ble_eq_true rfl)⟩ rfl rfl (Nat.le_of_ble_eq_true rfl) dX12_haveOf_27 z00) hH (fun H locs hH => ?_)
        refine lv_iadd hx hb dX12_haveOf_30 ?_
        obtain ⟨x2_7, ex2_7, h⟩ := hl_ex h
        refine lv_eqi ex2_7 ?_
        refine lv_istore_n (lv' := [(2, .int x2_7), (0, .ref (ad 0)), (1, .int x1), (3, .int x3)]) hx hb dX12_haveOf_31 rfl hl (by decide) rfl (fun ls hl => ?_)
        refine lv_iinc (v := (x3 + 1)) (lv' := [(3, .int (x3 + 1)), (2, .int x2_7), (0, .ref (ad 0)), (1, .int x1)]) hx hb dX12_haveOf_32 hl (k := 3) rfl rfl (by decide) rfl (fun ls hl => ?_)
        refine lv_goto (tgt := 4) hx hb dX12_haveOf_35 (by decide) ?_
        exact ih _ _ _ _ _ _ _ h hH (lv_sub hl [2, 3, 1, 0] rfl)
set_option maxHeartbeats 4000000 in
set_option maxRecDepth 100000 in
theorem kX12_haveOf (l : Launch) (D : va_G) (ad : Nat → Nat) (κ : KC) {x1 : Int32} {σ : HS} {R : (Int32 × HS)} (h : FX12_haveOf x1 σ = some R) : MtI l 45 ceM D ad κ yX12_haveOf cX12_haveOf 4 (some .int) ({ frames := 4, cells := 0, slots := 0, locals := 100 } : Room) [.ref (ad 0), .int x1] σ R := by
  refine open_ (by decide) (Nat.le_of_ble_eq_true rfl) (la := [(0, .ref (ad 0)), (1, .int x1)]) rfl ?_
  intro p e s m below meth c ls C hH hl
  replace C : Cx 45 D ad κ p s m _ meth c cX12_haveOf RX12 4 (some .int) := C
  have hx := C.1
  have hb := C.2.1
  have hown := C.2.2.2.1
  have hts := C.2.2.2.2.1
  rw [FX12_haveOf] at h
  refine lv_iconst (v := 0) hx hb dX12_haveOf_0 (by decide) ?_
  refine lv_istore_n (lv' := [(2, .int (0 : Int32)), (0, .ref (ad 0)), (1, .int x1)]) hx hb dX12_haveOf_1 rfl hl (by decide) rfl (fun ls hl => ?_)
  refine lv_iconst (v := 0) hx hb dX12_haveOf_2 (by decide) ?_
  refine lv_istore_n (lv' := [(3, .int (0 : Int32)), (2, .int (0 : Int32)), (0, .ref (ad 0)), (1, .int x1)]) hx hb dX12_haveOf_3 rfl hl (by decide) rfl (fun ls hl => ?_)
  exact wX12_haveOf_4 C _ _ _ _ _ _ _ _ h hH (lv_sub hl [2, 3, 1, 0] rfl)
-- X12_have
def FX12_have (x1 : Int32) (σ : HS) : Option (Int32 × HS) :=
  bdI (FX12_isFamily x1 σ) fun r_1 σ_2 => if r_1 = 0 then some ((-1 : Int32), σ_2) else bdV (FX12_copiesFalls σ_2) fun σ_5 => bdI (FX12_haveOf x1 σ_5) fun r_7 σ_8 => some (r_7, σ_8)
set_option maxHeartbeats 4000000 in
set_option maxRecDepth 100000 in
theorem kX12_have (l : Launch) (D : va_G) (ad : Nat → Nat) (κ : KC) {x1 : Int32} {σ : HS} {R : (Int32 × HS)} (h : FX12_have x1 σ = some R) : MtI l 45 ceM D ad κ yX12_have cX12_have 2 (some .int) ({ frames := 5, cells := 0, slots := 0, locals := 123 } : Room) [.ref (ad 0), .int x1] σ R := by
  refine open_ (by decide) (Nat.le_of_ble_eq_true rfl) (la := [(0, .ref (ad 0)), (1, .int x1)]) rfl ?_
  intro p e s m below meth c ls C hH hl
  replace C : Cx 45 D ad κ p s m _ meth c cX12_have RX12 2 (some .int) := C
  have hx := C.1
  have hb := C.2.1
  have hown := C.2.2.2.1
  have hts := C.2.2.2.2.1
  rw [FX12_have] at h
  refine lv_aload_n hx hb dX12_have_0 rfl (lv_at hl 0 rfl) ?_
  refine lv_iload_n hx hb dX12_have_1 rfl (lv_at hl 1 rfl) ?_
  obtain ⟨r_1, σ_2, hc_3, h⟩ := bdI_ex h
  refine g_ci (g_runV (rest := []) C hH hl.1 cV_X12_372 0 (Nat.le_of_ble_eq_true rfl) rfl rfl (kX12_isFamily l D ad κ hc_3) ⟨rfl, rfl⟩ ⟨(Nat.le_of_ble_eq_true rfl), (Nat.le_of_ble_eq_true rfl)⟩ rfl rfl (Nat.le_of_ble_eq_true rfl) dX12_have_2 z00) hH (fun H locs hH => ?_)
  refine lv_if_ne (tgt := 10) hx hb dX12_have_5 (by decide) (fun hq_4 => ?_) (fun hq_4 => ?_)
  · rw [if_neg hq_4] at h
    refine lv_aload_n hx hb dX12_have_10 rfl (lv_at hl 0 rfl) ?_
    obtain ⟨σ_5, hc_6, h⟩ := bdV_ex h
    refine g_cv (g_runV (rest := []) C hH hl.1 cV_X12_406 0 (Nat.le_of_ble_eq_true rfl) rfl rfl (kX12_copiesFalls l D ad κ hc_6) ⟨rfl, rfl⟩ ⟨(Nat.le_of_ble_eq_true rfl), (Nat.le_of_ble_eq_true rfl)⟩ rfl rfl (Nat.le_of_ble_eq_true rfl) dX12_have_11 z00) hH (fun H locs hH => ?_)
    refine lv_aload_n hx hb dX12_have_14 rfl (lv_at hl 0 rfl) ?_
    refine lv_iload_n hx hb dX12_have_15 rfl (lv_at hl 1 rfl) ?_
    obtain ⟨r_7, σ_8, hc_9, h⟩ := bdI_ex h
    refine g_ci (g_runV (rest := []) C hH hl.1 cV_X12_415 0 (Nat.le_of_ble_eq_true rfl) rfl rfl (kX12_haveOf l D ad κ hc_9) ⟨rfl, rfl⟩ ⟨(Nat.le_of_ble_eq_true rfl), (Nat.le_of_ble_eq_true rfl)⟩ rfl rfl (Nat.le_of_ble_eq_true rfl) dX12_have_16 z00) hH (fun H locs hH => ?_)
    exact g_ret C hH h dX12_have_19
  · rw [if_pos hq_4] at h
    refine lv_iconst (v := (-1)) hx hb dX12_have_8 (by decide) ?_
    exact g_ret C hH h dX12_have_9
-- X12_mode
def FX12_mode_28  : Nat → Int32 → Int32 → Int32 → Int32 → HS → Option (Int32 × HS)
  | 0, _, _, _, _, _ => none
  | f + 1, x1, x2, x3, x4, σ => if (8 : Int32) ≤ x4 then if x2 = 0 then some (x3, σ) else gd (ix (((8 : Int32) * x1) + x3) 80) (some ((σ.1 35 ((((8 : Int32) * x1) + x3).toNatClampNeg)), σ)) else gd (ix (((8 : Int32) * x1) + x4) 80) (gd (ix (((8 : Int32) * x1) + x3) 80) (if (σ.1 35 ((((8 : Int32) * x1) + x4).toNatClampNeg)) ≤ (σ.1 35 ((((8 : Int32) * x1) + x3).toNatClampNeg)) then FX12_mode_28  f x1 x2 x3 (x4 + 1) σ else FX12_mode_28  f x1 x2 x4 (x4 + 1) σ))
def FX12_mode (x1 : Int32) (x2 : Int32) (σ : HS) : Option (Int32 × HS) :=
  bdI (FX12_isMinute x1 σ) fun r_7 σ_8 => if r_7 = 0 then some ((-1 : Int32), σ_8) else bdI (FX12_in x2 (0 : Int32) (1 : Int32) σ_8) fun r_11 σ_12 => if r_11 = 0 then some ((-1 : Int32), σ_12) else bdV (FX12_copiesFalls σ_12) fun σ_15 => FX12_mode_28 fu x1 x2 (0 : Int32) (1 : Int32) σ_15
set_option maxHeartbeats 4000000 in
set_option maxRecDepth 100000 in
theorem wX12_mode_28 (C : Cx 45 D ad κ p s m args meth c cX12_mode RX12 5 (some .int)) {R : (Int32 × HS)} : ∀ (f : Nat) (x1 : Int32) (x2 : Int32) (x3 : Int32) (x4 : Int32) (σ : HS) (H : Heap) (locs : List Loc) (ls : Array Slot), FX12_mode_28  f x1 x2 x3 x4 σ = some R → Hd 45 ceM D ad κ s σ H locs → lv_has ls 5 [(0, .ref (ad 0)), (1, .int x1), (2, .int x2), (3, .int x3), (4, .int x4)] → W p l e ({ frames := 5, cells := 0, slots := 0, locals := 117 } : Room) s m args below meth c H locs 0 0 (MQ below (QI 45 ceM D ad κ R) args s 0 0 (AX 45 ad)) (F0 m 28 ls []) := by
  have hx := C.1
  have hb := C.2.1
  have hown := C.2.2.2.1
  have hts := C.2.2.2.2.1
  intro f
  induction f with
  | zero =>
    intro x1 x2 x3 x4 σ H locs ls h hH hl
    cases h
  | succ f ih =>
    intro x1 x2 x3 x4 σ H locs ls h hH hl
    rw [FX12_mode_28] at h
    refine lv_iload hx hb dX12_mode_28 (lv_at hl 4 rfl) ?_
    refine lv_bipush (v := 8) hx hb dX12_mode_30 (by decide) ?_
    refine lv_icmp_ge (tgt := 70) hx hb dX12_mode_32 (by decide) (fun hq_1 => ?_) (fun hq_1 => ?_)
    · rw [if_pos hq_1] at h
      refine lv_iload_n hx hb dX12_mode_70 rfl (lv_at hl 2 rfl) ?_
      refine lv_if_ne (tgt := 78) hx hb dX12_mode_71 (by decide) (fun hq_2 => ?_) (fun hq_2 => ?_)
      · rw [if_neg hq_2] at h
        refine lv_aload_n hx hb dX12_mode_78 rfl (lv_at hl 0 rfl) ?_
        refine g_get C hH 0 (Nat.le_of_ble_eq_true rfl) rfl fl_X12_122 (v := .ref (ad 35)) rfl dX12_mode_79 ?_
        refine lv_bipush (v := 8) hx hb dX12_mode_82 (by decide) ?_
        refine lv_iload_n hx hb dX12_mode_84 rfl (lv_at hl 1 rfl) ?_
        refine lv_imul hx hb dX12_mode_85 ?_
        refine lv_iload_n hx hb dX12_mode_86 rfl (lv_at hl 3 rfl) ?_
        refine lv_iadd hx hb dX12_mode_87 ?_
        obtain ⟨hi_3, h⟩ := gd_ex h
        refine g_iald C hH 35 (Nat.le_of_ble_eq_true rfl) rfl (k := ((((8 : Int32) * x1) + x3).toNatClampNeg)) rfl (ix_in hi_3) dX12_mode_88 ?_
        exact g_ret C hH h dX12_mode_89
      · rw [if_pos hq_2] at h
        refine lv_iload_n hx hb dX12_mode_74 rfl (lv_at hl 3 rfl) ?_
        refine lv_goto (tgt := 89) hx hb dX12_mode_75 (by decide) ?_
        exact g_ret C hH h dX12_mode_89
    · rw [if_neg hq_1] at h
      refine lv_aload_n hx hb dX12_mode_35 rfl (lv_at hl 0 rfl) ?_
      refine g_get C hH 0 (Nat.le_of_ble_eq_true rfl) rfl fl_X12_122 (v := .ref (ad 35)) rfl dX12_mode_36 ?_
      refine lv_bipush (v := 8) hx hb dX12_mode_39 (by decide) ?_
      refine lv_iload_n hx hb dX12_mode_41 rfl (lv_at hl 1 rfl) ?_
      refine lv_imul hx hb dX12_mode_42 ?_
      refine lv_iload hx hb dX12_mode_43 (lv_at hl 4 rfl) ?_
      refine lv_iadd hx hb dX12_mode_45 ?_
      obtain ⟨hi_4, h⟩ := gd_ex h
      refine g_iald C hH 35 (Nat.le_of_ble_eq_true rfl) rfl (k := ((((8 : Int32) * x1) + x4).toNatClampNeg)) rfl (ix_in hi_4) dX12_mode_46 ?_
      refine lv_aload_n hx hb dX12_mode_47 rfl (lv_at hl 0 rfl) ?_
      refine g_get C hH 0 (Nat.le_of_ble_eq_true rfl) rfl fl_X12_122 (v := .ref (ad 35)) rfl dX12_mode_48 ?_
      refine lv_bipush (v := 8) hx hb dX12_mode_51 (by decide) ?_
      refine lv_iload_n hx hb dX12_mode_53 rfl (lv_at hl 1 rfl) ?_
      refine lv_imul hx hb dX12_mode_54 ?_
      refine lv_iload_n hx hb dX12_mode_55 rfl (lv_at hl 3 rfl) ?_
      refine lv_iadd hx hb dX12_mode_56 ?_
      obtain ⟨hi_5, h⟩ := gd_ex h
      refine g_iald C hH 35 (Nat.le_of_ble_eq_true rfl) rfl (k := ((((8 : Int32) * x1) + x3).toNatClampNeg)) rfl (ix_in hi_5) dX12_mode_57 ?_
      refine lv_icmp_le (tgt := 64) hx hb dX12_mode_58 (by decide) (fun hq_6 => ?_) (fun hq_6 => ?_)
      · rw [if_pos hq_6] at h
        refine lv_iinc (v := (x4 + 1)) (lv' := [(4, .int (x4 + 1)), (0, .ref (ad 0)), (1, .int x1), (2, .int x2), (3, .int x3)]) hx hb dX12_mode_64 hl (k := 4) rfl rfl (by decide) rfl (fun ls hl => ?_)
        refine lv_goto (tgt := 28) hx hb dX12_mode_67 (by decide) ?_
        exact ih _ _ _ _ _ _ _ _ h hH (lv_sub hl [1, 2, 3, 4, 0] rfl)
      · rw [if_neg hq_6] at h
        refine lv_iload hx hb dX12_mode_61 (lv_at hl 4 rfl) ?_
        refine lv_istore_n (lv' := [(3, .int x4), (0, .ref (ad 0)), (1, .int x1), (2, .int x2), (4, .int x4)]) hx hb dX12_mode_63 rfl hl (by decide) rfl (fun ls hl => ?_)
        refine lv_iinc (v := (x4 + 1)) (lv' := [(4, .int (x4 + 1)), (3, .int x4), (0, .ref (ad 0)), (1, .int x1), (2, .int x2)]) hx hb dX12_mode_64 hl (k := 4) rfl rfl (by decide) rfl (fun ls hl => ?_)
        refine lv_goto (tgt := 28) hx hb dX12_mode_67 (by decide) ?_
        exact ih _ _ _ _ _ _ _ _ h hH (lv_sub hl [2, 3, 4, 1, 0] rfl)
set_option maxHeartbeats 4000000 in
set_option maxRecDepth 100000 in
theorem kX12_mode (l : Launch) (D : va_G) (ad : Nat → Nat) (κ : KC) {x1 : Int32} {x2 : Int32} {σ : HS} {R : (Int32 × HS)} (h : FX12_mode x1 x2 σ = some R) : MtI l 45 ceM D ad κ yX12_mode cX12_mode 5 (some .int) ({ frames := 5, cells := 0, slots := 0, locals := 117 } : Room) [.ref (ad 0), .int x1, .int x2] σ R := by
  refine open_ (by decide) (Nat.le_of_ble_eq_true rfl) (la := [(0, .ref (ad 0)), (1, .int x1), (2, .int x2)]) rfl ?_
  intro p e s m below meth c ls C hH hl
  replace C : Cx 45 D ad κ p s m _ meth c cX12_mode RX12 5 (some .int) := C
  have hx := C.1
  have hb := C.2.1
  have hown := C.2.2.2.1
  have hts := C.2.2.2.2.1
  rw [FX12_mode] at h
  refine lv_aload_n hx hb dX12_mode_0 rfl (lv_at hl 0 rfl) ?_
  refine lv_iload_n hx hb dX12_mode_1 rfl (lv_at hl 1 rfl) ?_
  obtain ⟨r_7, σ_8, hc_9, h⟩ := bdI_ex h
  refine g_ci (g_runV (rest := []) C hH hl.1 cV_X12_366 0 (Nat.le_of_ble_eq_true rfl) rfl rfl (kX12_isMinute l D ad κ hc_9) ⟨rfl, rfl⟩ ⟨(Nat.le_of_ble_eq_true rfl), (Nat.le_of_ble_eq_true rfl)⟩ rfl rfl (Nat.le_of_ble_eq_true rfl) dX12_mode_2 z00) hH (fun H locs hH => ?_)
  refine lv_if_eq (tgt := 17) hx hb dX12_mode_5 (by decide) (fun hq_10 => ?_) (fun hq_10 => ?_)
  · rw [if_pos hq_10] at h
    refine lv_iconst (v := (-1)) hx hb dX12_mode_17 (by decide) ?_
    exact g_ret C hH h dX12_mode_18
  · rw [if_neg hq_10] at h
    refine lv_iload_n hx hb dX12_mode_8 rfl (lv_at hl 2 rfl) ?_
    refine lv_iconst (v := 0) hx hb dX12_mode_9 (by decide) ?_
    refine lv_iconst (v := 1) hx hb dX12_mode_10 (by decide) ?_
    obtain ⟨r_11, σ_12, hc_13, h⟩ := bdI_ex h
    refine g_ci (g_runS (rest := []) C hH hl.1 cS_X12_310 (kX12_in l D ad κ hc_13) ⟨rfl, rfl⟩ ⟨(Nat.le_of_ble_eq_true rfl), (Nat.le_of_ble_eq_true rfl)⟩ rfl rfl (Nat.le_of_ble_eq_true rfl) dX12_mode_11 z00) hH (fun H locs hH => ?_)
    refine lv_if_ne (tgt := 19) hx hb dX12_mode_14 (by decide) (fun hq_14 => ?_) (fun hq_14 => ?_)
    · rw [if_neg hq_14] at h
      refine lv_aload_n hx hb dX12_mode_19 rfl (lv_at hl 0 rfl) ?_
      obtain ⟨σ_15, hc_16, h⟩ := bdV_ex h
      refine g_cv (g_runV (rest := []) C hH hl.1 cV_X12_406 0 (Nat.le_of_ble_eq_true rfl) rfl rfl (kX12_copiesFalls l D ad κ hc_16) ⟨rfl, rfl⟩ ⟨(Nat.le_of_ble_eq_true rfl), (Nat.le_of_ble_eq_true rfl)⟩ rfl rfl (Nat.le_of_ble_eq_true rfl) dX12_mode_20 z00) hH (fun H locs hH => ?_)
      refine lv_iconst (v := 0) hx hb dX12_mode_23 (by decide) ?_
      refine lv_istore_n (lv' := [(3, .int (0 : Int32)), (0, .ref (ad 0)), (1, .int x1), (2, .int x2)]) hx hb dX12_mode_24 rfl hl (by decide) rfl (fun ls hl => ?_)
      refine lv_iconst (v := 1) hx hb dX12_mode_25 (by decide) ?_
      refine lv_istore (lv' := [(4, .int (1 : Int32)), (3, .int (0 : Int32)), (0, .ref (ad 0)), (1, .int x1), (2, .int x2)]) hx hb dX12_mode_26 hl (by decide) rfl (fun ls hl => ?_)
      exact wX12_mode_28 C _ _ _ _ _ _ _ _ _ h hH (lv_sub hl [2, 3, 4, 1, 0] rfl)
    · rw [if_pos hq_14] at h
      refine lv_iconst (v := (-1)) hx hb dX12_mode_17 (by decide) ?_
      exact g_ret C hH h dX12_mode_18
-- X12_mean
def FX12_mean_8  : Nat → Int32 → Int32 → HS → Option (Int32 × HS)
  | 0, _, _, _ => none
  | f + 1, x1, x2, σ => if (8 : Int32) < x2 then some (x1, σ) else bdI (FX12_oddsOf x2 σ) fun r_2 σ_3 => hl_ (x1 + (x2 * r_2)) fun x1_5 => FX12_mean_8  f x1_5 (x2 + 1) σ_3
def FX12_mean (σ : HS) : Option (Int32 × HS) :=
  bdV (FX12_copiesFalls σ) fun σ_6 => FX12_mean_8 fu (0 : Int32) (1 : Int32) σ_6
set_option maxHeartbeats 4000000 in
set_option maxRecDepth 100000 in
theorem wX12_mean_8 (C : Cx 45 D ad κ p s m args meth c cX12_mean RX12 3 (some .int)) {R : (Int32 × HS)} : ∀ (f : Nat) (x1 : Int32) (x2 : Int32) (σ : HS) (H : Heap) (locs : List Loc) (ls : Array Slot), FX12_mean_8  f x1 x2 σ = some R → Hd 45 ceM D ad κ s σ H locs → lv_has ls 3 [(0, .ref (ad 0)), (1, .int x1), (2, .int x2)] → W p l e ({ frames := 5, cells := 0, slots := 0, locals := 117 } : Room) s m args below meth c H locs 0 0 (MQ below (QI 45 ceM D ad κ R) args s 0 0 (AX 45 ad)) (F0 m 8 ls []) := by
  have hx := C.1
  have hb := C.2.1
  have hown := C.2.2.2.1
  have hts := C.2.2.2.2.1
  intro f
  induction f with
  | zero =>
    intro x1 x2 σ H locs ls h hH hl
    cases h
  | succ f ih =>
    intro x1 x2 σ H locs ls h hH hl
    rw [FX12_mean_8] at h
    refine lv_iload_n hx hb dX12_mean_8 rfl (lv_at hl 2 rfl) ?_
    refine lv_bipush (v := 8) hx hb dX12_mean_9 (by decide) ?_
    refine lv_icmp_gt (tgt := 30) hx hb dX12_mean_11 (by decide) (fun hq_1 => ?_) (fun hq_1 => ?_)
    · rw [if_pos hq_1] at h
      refine lv_iload_n hx hb dX12_mean_30 rfl (lv_at hl 1 rfl) ?_
      exact g_ret C hH h dX12_mean_31
    · rw [if_neg hq_1] at h
      refine lv_iload_n hx hb dX12_mean_14 rfl (lv_at hl 1 rfl) ?_
      refine lv_iload_n hx hb dX12_mean_15 rfl (lv_at hl 2 rfl) ?_
      refine lv_aload_n hx hb dX12_mean_16 rfl (lv_at hl 0 rfl) ?_
      refine lv_iload_n hx hb dX12_mean_17 rfl (lv_at hl 2 rfl) ?_
      obtain ⟨r_2, σ_3, hc_4, h⟩ := bdI_ex h
      refine g_ci (g_runV (rest := [.int x2, .int x1]) C hH hl.1 cV_X12_409 0 (Nat.le_of_ble_eq_true rfl) rfl rfl (kX12_oddsOf l D ad κ hc_4) ⟨rfl, rfl⟩ ⟨(Nat.le_of_ble_eq_true rfl), (Nat.le_of_ble_eq_true rfl)⟩ rfl rfl (Nat.le_of_ble_eq_true rfl) dX12_mean_18 z00) hH (fun H locs hH => ?_)
      refine lv_imul hx hb dX12_mean_21 ?_
      refine lv_iadd hx hb dX12_mean_22 ?_
      obtain ⟨x1_5, ex1_5, h⟩ := hl_ex h
      refine lv_eqi ex1_5 ?_
      refine lv_istore_n (lv' := [(1, .int x1_5), (0, .ref (ad 0)), (2, .int x2)]) hx hb dX12_mean_23 rfl hl (by decide) rfl (fun ls hl => ?_)
      refine lv_iinc (v := (x2 + 1)) (lv' := [(2, .int (x2 + 1)), (1, .int x1_5), (0, .ref (ad 0))]) hx hb dX12_mean_24 hl (k := 2) rfl rfl (by decide) rfl (fun ls hl => ?_)
      refine lv_goto (tgt := 8) hx hb dX12_mean_27 (by decide) ?_
      exact ih _ _ _ _ _ _ h hH (lv_sub hl [2, 1, 0] rfl)
set_option maxHeartbeats 4000000 in
set_option maxRecDepth 100000 in
theorem kX12_mean (l : Launch) (D : va_G) (ad : Nat → Nat) (κ : KC) {σ : HS} {R : (Int32 × HS)} (h : FX12_mean σ = some R) : MtI l 45 ceM D ad κ yX12_mean cX12_mean 3 (some .int) ({ frames := 5, cells := 0, slots := 0, locals := 117 } : Room) [.ref (ad 0)] σ R := by
  refine open_ (by decide) (Nat.le_of_ble_eq_true rfl) (la := [(0, .ref (ad 0))]) rfl ?_
  intro p e s m below meth c ls C hH hl
  replace C : Cx 45 D ad κ p s m _ meth c cX12_mean RX12 3 (some .int) := C
  have hx := C.1
  have hb := C.2.1
  have hown := C.2.2.2.1
  have hts := C.2.2.2.2.1
  rw [FX12_mean] at h
  refine lv_aload_n hx hb dX12_mean_0 rfl (lv_at hl 0 rfl) ?_
  obtain ⟨σ_6, hc_7, h⟩ := bdV_ex h
  refine g_cv (g_runV (rest := []) C hH hl.1 cV_X12_406 0 (Nat.le_of_ble_eq_true rfl) rfl rfl (kX12_copiesFalls l D ad κ hc_7) ⟨rfl, rfl⟩ ⟨(Nat.le_of_ble_eq_true rfl), (Nat.le_of_ble_eq_true rfl)⟩ rfl rfl (Nat.le_of_ble_eq_true rfl) dX12_mean_1 z00) hH (fun H locs hH => ?_)
  refine lv_iconst (v := 0) hx hb dX12_mean_4 (by decide) ?_
  refine lv_istore_n (lv' := [(1, .int (0 : Int32)), (0, .ref (ad 0))]) hx hb dX12_mean_5 rfl hl (by decide) rfl (fun ls hl => ?_)
  refine lv_iconst (v := 1) hx hb dX12_mean_6 (by decide) ?_
  refine lv_istore_n (lv' := [(2, .int (1 : Int32)), (1, .int (0 : Int32)), (0, .ref (ad 0))]) hx hb dX12_mean_7 rfl hl (by decide) rfl (fun ls hl => ?_)
  exact wX12_mean_8 C _ _ _ _ _ _ _ h hH (lv_sub hl [2, 1, 0] rfl)
-- X12_both
def FX12_both_94 (k62 : Int32 → Int32 → Int32 → Int32 → Int32 → Int32 → HS → Option (Int32 × HS)) : Nat → Int32 → Int32 → Int32 → Int32 → Int32 → Int32 → Int32 → Int32 → HS → Option (Int32 × HS)
  | 0, _, _, _, _, _, _, _, _, _ => none
  | f + 1, x1, x2, x3, x4, x5, x6, x7, x8, σ => if x4 ≤ x8 then hl_ (x5 + x7) fun x5_2 => k62 x1 x2 x3 x4 x5_2 (x6 + 1) σ else gd (ix x8 10) (hl_ (x7 * ((4 : Int32) - (σ.1 34 (x8.toNatClampNeg)))) fun x7_4 => FX12_both_94 k62 f x1 x2 x3 x4 x5 x6 x7_4 (x8 + 1) σ)
def FX12_both_62  : Nat → Int32 → Int32 → Int32 → Int32 → Int32 → Int32 → HS → Option (Int32 × HS)
  | 0, _, _, _, _, _, _, _ => none
  | f + 1, x1, x2, x3, x4, x5, x6, σ => if (7 : Int32) ≤ x6 then some (x5, σ) else gd (ix (((8 : Int32) * x3) + x6) 80) (bdI (FX12_power (x4 - x3) σ) fun r_7 σ_8 => gd (nz r_7) (hl_ ((σ.1 35 ((((8 : Int32) * x3) + x6).toNatClampNeg)) / r_7) fun x7_11 => FX12_both_94 (FX12_both_62  f) fu x1 x2 x3 x4 x5 x6 x7_11 x3 σ_8))
def FX12_both_43  (x1 : Int32) (x2 : Int32) (x3 : Int32) (y0 : Int32) (σ : HS) : Option (Int32 × HS) :=
  gd (ix (((8 : Int32) * x3) + (7 : Int32)) 80) (hl_ (σ.1 35 ((((8 : Int32) * x3) + (7 : Int32)).toNatClampNeg)) fun x5_13 => FX12_both_62 fu x1 x2 x3 y0 x5_13 (0 : Int32) σ)
def FX12_both_32  (x1 : Int32) (x2 : Int32) (y0 : Int32) (σ : HS) : Option (Int32 × HS) :=
  if x2 ≤ x1 then FX12_both_43 x1 x2 y0 x1 σ else FX12_both_43 x1 x2 y0 x2 σ
def FX12_both (x1 : Int32) (x2 : Int32) (σ : HS) : Option (Int32 × HS) :=
  bdI (FX12_isMinute x1 σ) fun r_15 σ_16 => if r_15 = 0 then some ((-1 : Int32), σ_16) else bdI (FX12_isMinute x2 σ_16) fun r_19 σ_20 => if r_19 = 0 then some ((-1 : Int32), σ_20) else bdV (FX12_copiesFalls σ_20) fun σ_23 => if x2 ≤ x1 then FX12_both_32 x1 x2 x2 σ_23 else FX12_both_32 x1 x2 x1 σ_23
set_option maxHeartbeats 4000000 in
set_option maxRecDepth 100000 in
theorem wX12_both_94 (C : Cx 45 D ad κ p s m args meth c cX12_both RX12 9 (some .int)) {R : (Int32 × HS)} {k62 : Int32 → Int32 → Int32 → Int32 → Int32 → Int32 → HS → Option (Int32 × HS)} (K62 : ∀ (x1 : Int32) (x2 : Int32) (x3 : Int32) (x4 : Int32) (x5 : Int32) (x6 : Int32) (σ : HS) (H : Heap) (locs : List Loc) (ls : Array Slot), k62 x1 x2 x3 x4 x5 x6 σ = some R → Hd 45 ceM D ad κ s σ H locs → lv_has ls 9 [(0, .ref (ad 0)), (1, .int x1), (2, .int x2), (3, .int x3), (4, .int x4), (5, .int x5), (6, .int x6)] → W p l e ({ frames := 5, cells := 0, slots := 0, locals := 117 } : Room) s m args below meth c H locs 0 0 (MQ below (QI 45 ceM D ad κ R) args s 0 0 (AX 45 ad)) (F0 m 62 ls [])) : ∀ (f : Nat) (x1 : Int32) (x2 : Int32) (x3 : Int32) (x4 : Int32) (x5 : Int32) (x6 : Int32) (x7 : Int32) (x8 : Int32) (σ : HS) (H : Heap) (locs : List Loc) (ls : Array Slot), FX12_both_94 k62 f x1 x2 x3 x4 x5 x6 x7 x8 σ = some R → Hd 45 ceM D ad κ s σ H locs → lv_has ls 9 [(0, .ref (ad 0)), (1, .int x1), (2, .int x2), (3, .int x3), (4, .int x4), (5, .int x5), (6, .int x6), (7, .int x7), (8, .int x8)] → W p l e ({ frames := 5, cells := 0, slots := 0, locals := 117 } : Room) s m args below meth c H locs 0 0 (MQ below (QI 45 ceM D ad κ R) args s 0 0 (AX 45 ad)) (F0 m 94 ls []) := by
  have hx := C.1
  have hb := C.2.1
  have hown := C.2.2.2.1
  have hts := C.2.2.2.2.1
  intro f
  induction f with
  | zero =>
    intro x1 x2 x3 x4 x5 x6 x7 x8 σ H locs ls h hH hl
    cases h
  | succ f ih =>
    intro x1 x2 x3 x4 x5 x6 x7 x8 σ H locs ls h hH hl
    rw [FX12_both_94] at h
    refine lv_iload hx hb dX12_both_94 (lv_at hl 8 rfl) ?_
    refine lv_iload hx hb dX12_both_96 (lv_at hl 4 rfl) ?_
    refine lv_icmp_ge (tgt := 121) hx hb dX12_both_98 (by decide) (fun hq_1 => ?_) (fun hq_1 => ?_)
    · rw [if_pos hq_1] at h
      refine lv_iload hx hb dX12_both_121 (lv_at hl 5 rfl) ?_
      refine lv_iload hx hb dX12_both_123 (lv_at hl 7 rfl) ?_
      refine lv_iadd hx hb dX12_both_125 ?_
      obtain ⟨x5_2, ex5_2, h⟩ := hl_ex h
      refine lv_eqi ex5_2 ?_
      refine lv_istore (lv' := [(5, .int x5_2), (0, .ref (ad 0)), (1, .int x1), (2, .int x2), (3, .int x3), (4, .int x4), (6, .int x6), (7, .int x7), (8, .int x8)]) hx hb dX12_both_126 hl (by decide) rfl (fun ls hl => ?_)
      refine lv_iinc (v := (x6 + 1)) (lv' := [(6, .int (x6 + 1)), (5, .int x5_2), (0, .ref (ad 0)), (1, .int x1), (2, .int x2), (3, .int x3), (4, .int x4), (7, .int x7), (8, .int x8)]) hx hb dX12_both_128 hl (k := 6) rfl rfl (by decide) rfl (fun ls hl => ?_)
      refine lv_goto (tgt := 62) hx hb dX12_both_131 (by decide) ?_
      exact K62 _ _ _ _ _ _ _ _ _ _ h hH (lv_sub hl [2, 3, 4, 5, 6, 1, 0] rfl)
    · rw [if_neg hq_1] at h
      refine lv_iload hx hb dX12_both_101 (lv_at hl 7 rfl) ?_
      refine lv_iconst (v := 4) hx hb dX12_both_103 (by decide) ?_
      refine lv_aload_n hx hb dX12_both_104 rfl (lv_at hl 0 rfl) ?_
      refine g_get C hH 0 (Nat.le_of_ble_eq_true rfl) rfl fl_X12_119 (v := .ref (ad 34)) rfl dX12_both_105 ?_
      refine lv_iload hx hb dX12_both_108 (lv_at hl 8 rfl) ?_
      obtain ⟨hi_3, h⟩ := gd_ex h
      refine g_iald C hH 34 (Nat.le_of_ble_eq_true rfl) rfl (k := (x8.toNatClampNeg)) rfl (ix_in hi_3) dX12_both_110 ?_
      refine lv_isub hx hb dX12_both_111 ?_
      refine lv_imul hx hb dX12_both_112 ?_
      obtain ⟨x7_4, ex7_4, h⟩ := hl_ex h
      refine lv_eqi ex7_4 ?_
      refine lv_istore (lv' := [(7, .int x7_4), (0, .ref (ad 0)), (1, .int x1), (2, .int x2), (3, .int x3), (4, .int x4), (5, .int x5), (6, .int x6), (8, .int x8)]) hx hb dX12_both_113 hl (by decide) rfl (fun ls hl => ?_)
      refine lv_iinc (v := (x8 + 1)) (lv' := [(8, .int (x8 + 1)), (7, .int x7_4), (0, .ref (ad 0)), (1, .int x1), (2, .int x2), (3, .int x3), (4, .int x4), (5, .int x5), (6, .int x6)]) hx hb dX12_both_115 hl (k := 8) rfl rfl (by decide) rfl (fun ls hl => ?_)
      refine lv_goto (tgt := 94) hx hb dX12_both_118 (by decide) ?_
      exact ih _ _ _ _ _ _ _ _ _ _ _ _ h hH (lv_sub hl [2, 3, 4, 5, 6, 7, 8, 1, 0] rfl)
set_option maxHeartbeats 4000000 in
set_option maxRecDepth 100000 in
theorem wX12_both_62 (C : Cx 45 D ad κ p s m args meth c cX12_both RX12 9 (some .int)) {R : (Int32 × HS)} : ∀ (f : Nat) (x1 : Int32) (x2 : Int32) (x3 : Int32) (x4 : Int32) (x5 : Int32) (x6 : Int32) (σ : HS) (H : Heap) (locs : List Loc) (ls : Array Slot), FX12_both_62  f x1 x2 x3 x4 x5 x6 σ = some R → Hd 45 ceM D ad κ s σ H locs → lv_has ls 9 [(0, .ref (ad 0)), (1, .int x1), (2, .int x2), (3, .int x3), (4, .int x4), (5, .int x5), (6, .int x6)] → W p l e ({ frames := 5, cells := 0, slots := 0, locals := 117 } : Room) s m args below meth c H locs 0 0 (MQ below (QI 45 ceM D ad κ R) args s 0 0 (AX 45 ad)) (F0 m 62 ls []) := by
  have hx := C.1
  have hb := C.2.1
  have hown := C.2.2.2.1
  have hts := C.2.2.2.2.1
  intro f
  induction f with
  | zero =>
    intro x1 x2 x3 x4 x5 x6 σ H locs ls h hH hl
    cases h
  | succ f ih =>
    intro x1 x2 x3 x4 x5 x6 σ H locs ls h hH hl
    rw [FX12_both_62] at h
    refine lv_iload hx hb dX12_both_62 (lv_at hl 6 rfl) ?_
    refine lv_bipush (v := 7) hx hb dX12_both_64 (by decide) ?_
    refine lv_icmp_ge (tgt := 134) hx hb dX12_both_66 (by decide) (fun hq_5 => ?_) (fun hq_5 => ?_)
    · rw [if_pos hq_5] at h
      refine lv_iload hx hb dX12_both_134 (lv_at hl 5 rfl) ?_
      exact g_ret C hH h dX12_both_136
    · rw [if_neg hq_5] at h
      refine lv_aload_n hx hb dX12_both_69 rfl (lv_at hl 0 rfl) ?_
      refine g_get C hH 0 (Nat.le_of_ble_eq_true rfl) rfl fl_X12_122 (v := .ref (ad 35)) rfl dX12_both_70 ?_
      refine lv_bipush (v := 8) hx hb dX12_both_73 (by decide) ?_
      refine lv_iload_n hx hb dX12_both_75 rfl (lv_at hl 3 rfl) ?_
      refine lv_imul hx hb dX12_both_76 ?_
      refine lv_iload hx hb dX12_both_77 (lv_at hl 6 rfl) ?_
      refine lv_iadd hx hb dX12_both_79 ?_
      obtain ⟨hi_6, h⟩ := gd_ex h
      refine g_iald C hH 35 (Nat.le_of_ble_eq_true rfl) rfl (k := ((((8 : Int32) * x3) + x6).toNatClampNeg)) rfl (ix_in hi_6) dX12_both_80 ?_
      refine lv_iload hx hb dX12_both_81 (lv_at hl 4 rfl) ?_
      refine lv_iload_n hx hb dX12_both_83 rfl (lv_at hl 3 rfl) ?_
      refine lv_isub hx hb dX12_both_84 ?_
      obtain ⟨r_7, σ_8, hc_9, h⟩ := bdI_ex h
      refine g_ci (g_runS (rest := [.int (σ.1 35 ((((8 : Int32) * x3) + x6).toNatClampNeg))]) C hH hl.1 cS_X12_400 (kX12_power l D ad κ hc_9) ⟨rfl, rfl⟩ ⟨(Nat.le_of_ble_eq_true rfl), (Nat.le_of_ble_eq_true rfl)⟩ rfl rfl (Nat.le_of_ble_eq_true rfl) dX12_both_85 z00) hH (fun H locs hH => ?_)
      obtain ⟨hz_10, h⟩ := gd_ex h
      refine lv_idiv hx hb dX12_both_88 (nz_ne hz_10) ?_
      obtain ⟨x7_11, ex7_11, h⟩ := hl_ex h
      refine lv_eqi ex7_11 ?_
      refine lv_istore (lv' := [(7, .int x7_11), (0, .ref (ad 0)), (1, .int x1), (2, .int x2), (3, .int x3), (4, .int x4), (5, .int x5), (6, .int x6)]) hx hb dX12_both_89 hl (by decide) rfl (fun ls hl => ?_)
      refine lv_iload_n hx hb dX12_both_91 rfl (lv_at hl 4 rfl) ?_
      refine lv_istore (lv' := [(8, .int x3), (7, .int x7_11), (0, .ref (ad 0)), (1, .int x1), (2, .int x2), (3, .int x3), (4, .int x4), (5, .int x5), (6, .int x6)]) hx hb dX12_both_92 hl (by decide) rfl (fun ls hl => ?_)
      exact wX12_both_94 C ih _ _ _ _ _ _ _ _ _ _ _ _ _ h hH (lv_sub hl [2, 3, 4, 5, 6, 7, 8, 1, 0] rfl)
set_option maxHeartbeats 4000000 in
set_option maxRecDepth 100000 in
theorem wX12_both_43 (C : Cx 45 D ad κ p s m args meth c cX12_both RX12 9 (some .int)) {R : (Int32 × HS)} : ∀ (x1 : Int32) (x2 : Int32) (x3 : Int32) (y0 : Int32) (σ : HS) (H : Heap) (locs : List Loc) (ls : Array Slot), FX12_both_43  x1 x2 x3 y0 σ = some R → Hd 45 ceM D ad κ s σ H locs → lv_has ls 9 [(0, .ref (ad 0)), (1, .int x1), (2, .int x2), (3, .int x3)] → W p l e ({ frames := 5, cells := 0, slots := 0, locals := 117 } : Room) s m args below meth c H locs 0 0 (MQ below (QI 45 ceM D ad κ R) args s 0 0 (AX 45 ad)) (F0 m 43 ls [.int y0]) := by
  have hx := C.1
  have hb := C.2.1
  have hown := C.2.2.2.1
  have hts := C.2.2.2.2.1
  intro x1 x2 x3 y0 σ H locs ls h hH hl
  rw [FX12_both_43] at h
  refine lv_istore (lv' := [(4, .int y0), (0, .ref (ad 0)), (1, .int x1), (2, .int x2), (3, .int x3)]) hx hb dX12_both_43 hl (by decide) rfl (fun ls hl => ?_)
  refine lv_aload_n hx hb dX12_both_45 rfl (lv_at hl 1 rfl) ?_
  refine g_get C hH 0 (Nat.le_of_ble_eq_true rfl) rfl fl_X12_122 (v := .ref (ad 35)) rfl dX12_both_46 ?_
  refine lv_bipush (v := 8) hx hb dX12_both_49 (by decide) ?_
  refine lv_iload_n hx hb dX12_both_51 rfl (lv_at hl 4 rfl) ?_
  refine lv_imul hx hb dX12_both_52 ?_
  refine lv_bipush (v := 7) hx hb dX12_both_53 (by decide) ?_
  refine lv_iadd hx hb dX12_both_55 ?_
  obtain ⟨hi_12, h⟩ := gd_ex h
  refine g_iald C hH 35 (Nat.le_of_ble_eq_true rfl) rfl (k := ((((8 : Int32) * x3) + (7 : Int32)).toNatClampNeg)) rfl (ix_in hi_12) dX12_both_56 ?_
  obtain ⟨x5_13, ex5_13, h⟩ := hl_ex h
  refine lv_eqi ex5_13 ?_
  refine lv_istore (lv' := [(5, .int x5_13), (4, .int y0), (0, .ref (ad 0)), (1, .int x1), (2, .int x2), (3, .int x3)]) hx hb dX12_both_57 hl (by decide) rfl (fun ls hl => ?_)
  refine lv_iconst (v := 0) hx hb dX12_both_59 (by decide) ?_
  refine lv_istore (lv' := [(6, .int (0 : Int32)), (5, .int x5_13), (4, .int y0), (0, .ref (ad 0)), (1, .int x1), (2, .int x2), (3, .int x3)]) hx hb dX12_both_60 hl (by decide) rfl (fun ls hl => ?_)
  exact wX12_both_62 C _ _ _ _ _ _ _ _ _ _ _ h hH (lv_sub hl [3, 4, 5, 6, 2, 1, 0] rfl)
set_option maxHeartbeats 4000000 in
set_option maxRecDepth 100000 in
theorem wX12_both_32 (C : Cx 45 D ad κ p s m args meth c cX12_both RX12 9 (some .int)) {R : (Int32 × HS)} : ∀ (x1 : Int32) (x2 : Int32) (y0 : Int32) (σ : HS) (H : Heap) (locs : List Loc) (ls : Array Slot), FX12_both_32  x1 x2 y0 σ = some R → Hd 45 ceM D ad κ s σ H locs → lv_has ls 9 [(0, .ref (ad 0)), (1, .int x1), (2, .int x2)] → W p l e ({ frames := 5, cells := 0, slots := 0, locals := 117 } : Room) s m args below meth c H locs 0 0 (MQ below (QI 45 ceM D ad κ R) args s 0 0 (AX 45 ad)) (F0 m 32 ls [.int y0]) := by
  have hx := C.1
  have hb := C.2.1
  have hown := C.2.2.2.1
  have hts := C.2.2.2.2.1
  intro x1 x2 y0 σ H locs ls h hH hl
  rw [FX12_both_32] at h
  refine lv_istore_n (lv' := [(3, .int y0), (0, .ref (ad 0)), (1, .int x1), (2, .int x2)]) hx hb dX12_both_32 rfl hl (by decide) rfl (fun ls hl => ?_)
  refine lv_iload_n hx hb dX12_both_33 rfl (lv_at hl 2 rfl) ?_
  refine lv_iload_n hx hb dX12_both_34 rfl (lv_at hl 3 rfl) ?_
  refine lv_icmp_ge (tgt := 42) hx hb dX12_both_35 (by decide) (fun hq_14 => ?_) (fun hq_14 => ?_)
  · rw [if_pos hq_14] at h
    refine lv_iload_n hx hb dX12_both_42 rfl (lv_at hl 2 rfl) ?_
    exact wX12_both_43 C  _ _ _ _ _ _ _ _ h hH (lv_sub hl [1, 2, 3, 0] rfl)
  · rw [if_neg hq_14] at h
    refine lv_iload_n hx hb dX12_both_38 rfl (lv_at hl 3 rfl) ?_
    refine lv_goto (tgt := 43) hx hb dX12_both_39 (by decide) ?_
    exact wX12_both_43 C  _ _ _ _ _ _ _ _ h hH (lv_sub hl [1, 2, 3, 0] rfl)
set_option maxHeartbeats 4000000 in
set_option maxRecDepth 100000 in
theorem kX12_both (l : Launch) (D : va_G) (ad : Nat → Nat) (κ : KC) {x1 : Int32} {x2 : Int32} {σ : HS} {R : (Int32 × HS)} (h : FX12_both x1 x2 σ = some R) : MtI l 45 ceM D ad κ yX12_both cX12_both 9 (some .int) ({ frames := 5, cells := 0, slots := 0, locals := 117 } : Room) [.ref (ad 0), .int x1, .int x2] σ R := by
  refine open_ (by decide) (Nat.le_of_ble_eq_true rfl) (la := [(0, .ref (ad 0)), (1, .int x1), (2, .int x2)]) rfl ?_
  intro p e s m below meth c ls C hH hl
  replace C : Cx 45 D ad κ p s m _ meth c cX12_both RX12 9 (some .int) := C
  have hx := C.1
  have hb := C.2.1
  have hown := C.2.2.2.1
  have hts := C.2.2.2.2.1
  rw [FX12_both] at h
  refine lv_aload_n hx hb dX12_both_0 rfl (lv_at hl 0 rfl) ?_
  refine lv_iload_n hx hb dX12_both_1 rfl (lv_at hl 1 rfl) ?_
  obtain ⟨r_15, σ_16, hc_17, h⟩ := bdI_ex h
  refine g_ci (g_runV (rest := []) C hH hl.1 cV_X12_366 0 (Nat.le_of_ble_eq_true rfl) rfl rfl (kX12_isMinute l D ad κ hc_17) ⟨rfl, rfl⟩ ⟨(Nat.le_of_ble_eq_true rfl), (Nat.le_of_ble_eq_true rfl)⟩ rfl rfl (Nat.le_of_ble_eq_true rfl) dX12_both_2 z00) hH (fun H locs hH => ?_)
  refine lv_if_eq (tgt := 16) hx hb dX12_both_5 (by decide) (fun hq_18 => ?_) (fun hq_18 => ?_)
  · rw [if_pos hq_18] at h
    refine lv_iconst (v := (-1)) hx hb dX12_both_16 (by decide) ?_
    exact g_ret C hH h dX12_both_17
  · rw [if_neg hq_18] at h
    refine lv_aload_n hx hb dX12_both_8 rfl (lv_at hl 0 rfl) ?_
    refine lv_iload_n hx hb dX12_both_9 rfl (lv_at hl 2 rfl) ?_
    obtain ⟨r_19, σ_20, hc_21, h⟩ := bdI_ex h
    refine g_ci (g_runV (rest := []) C hH hl.1 cV_X12_366 0 (Nat.le_of_ble_eq_true rfl) rfl rfl (kX12_isMinute l D ad κ hc_21) ⟨rfl, rfl⟩ ⟨(Nat.le_of_ble_eq_true rfl), (Nat.le_of_ble_eq_true rfl)⟩ rfl rfl (Nat.le_of_ble_eq_true rfl) dX12_both_10 z00) hH (fun H locs hH => ?_)
    refine lv_if_ne (tgt := 18) hx hb dX12_both_13 (by decide) (fun hq_22 => ?_) (fun hq_22 => ?_)
    · rw [if_neg hq_22] at h
      refine lv_aload_n hx hb dX12_both_18 rfl (lv_at hl 0 rfl) ?_
      obtain ⟨σ_23, hc_24, h⟩ := bdV_ex h
      refine g_cv (g_runV (rest := []) C hH hl.1 cV_X12_406 0 (Nat.le_of_ble_eq_true rfl) rfl rfl (kX12_copiesFalls l D ad κ hc_24) ⟨rfl, rfl⟩ ⟨(Nat.le_of_ble_eq_true rfl), (Nat.le_of_ble_eq_true rfl)⟩ rfl rfl (Nat.le_of_ble_eq_true rfl) dX12_both_19 z00) hH (fun H locs hH => ?_)
      refine lv_iload_n hx hb dX12_both_22 rfl (lv_at hl 1 rfl) ?_
      refine lv_iload_n hx hb dX12_both_23 rfl (lv_at hl 2 rfl) ?_
      refine lv_icmp_ge (tgt := 31) hx hb dX12_both_24 (by decide) (fun hq_25 => ?_) (fun hq_25 => ?_)
      · rw [if_pos hq_25] at h
        refine lv_iload_n hx hb dX12_both_31 rfl (lv_at hl 2 rfl) ?_
        exact wX12_both_32 C  _ _ _ _ _ _ _ h hH (lv_sub hl [0, 1, 2] rfl)
      · rw [if_neg hq_25] at h
        refine lv_iload_n hx hb dX12_both_27 rfl (lv_at hl 1 rfl) ?_
        refine lv_goto (tgt := 32) hx hb dX12_both_28 (by decide) ?_
        exact wX12_both_32 C  _ _ _ _ _ _ _ h hH (lv_sub hl [0, 1, 2] rfl)
    · rw [if_pos hq_22] at h
      refine lv_iconst (v := (-1)) hx hb dX12_both_16 (by decide) ?_
      exact g_ret C hH h dX12_both_17
-- X12_goesWith
def FX12_goesWith_118 (k23 : Int32 → Int32 → Int32 → HS → Option HS) (x1 : Int32) (x2 : Int32) (x3 : Int32) (x4 : Int32) (x5 : Int32) (y2 : Int32) (σ : HS) : Option HS :=
  gd (ix (((11 : Int32) * y2) + x5) 88) (gd (ix x3 88) (gd (ix x2 10) (gd (ix (((11 : Int32) * y2) + x5) 88) (hl_ (pI σ 37 ((((11 : Int32) * y2) + x5).toNatClampNeg) ((σ.1 37 ((((11 : Int32) * y2) + x5).toNatClampNeg)) + ((σ.1 36 (x3.toNatClampNeg)) * (σ.1 34 (x2.toNatClampNeg))))) fun σ_5 => k23 x1 x2 (x3 + 1) σ_5))))
def FX12_goesWith_62 (k23 : Int32 → Int32 → Int32 → HS → Option HS) (x1 : Int32) (x2 : Int32) (x3 : Int32) (x4 : Int32) (y0 : Int32) (y1 : Int32) (σ : HS) : Option HS :=
  hl_ (y0 + y1) fun x5_6 => gd (ix (((11 : Int32) * x4) + x5_6) 88) (gd (ix x3 88) (gd (ix x2 10) (gd (ix (((11 : Int32) * x4) + x5_6) 88) (hl_ (pI σ 37 ((((11 : Int32) * x4) + x5_6).toNatClampNeg) ((σ.1 37 ((((11 : Int32) * x4) + x5_6).toNatClampNeg)) + ((σ.1 36 (x3.toNatClampNeg)) * ((4 : Int32) - (σ.1 34 (x2.toNatClampNeg)))))) fun σ_11 => if (7 : Int32) ≤ x4 then FX12_goesWith_118 k23 x1 x2 x3 x4 x5_6 (7 : Int32) σ_11 else FX12_goesWith_118 k23 x1 x2 x3 x4 x5_6 (x4 + (1 : Int32)) σ_11))))
def FX12_goesWith_147  : Nat → Int32 → Int32 → Int32 → HS → Option HS
  | 0, _, _, _, _ => none
  | f + 1, x1, x2, x3, σ => if (88 : Int32) ≤ x3 then some σ else gd (ix x3 88) (gd (ix x3 88) (hl_ (pI σ 36 (x3.toNatClampNeg) (σ.1 37 (x3.toNatClampNeg))) fun σ_16 => FX12_goesWith_147  f x1 x2 (x3 + 1) σ_16))
def FX12_goesWith_23  : Nat → Int32 → Int32 → Int32 → HS → Option HS
  | 0, _, _, _, _ => none
  | f + 1, x1, x2, x3, σ => if (88 : Int32) ≤ x3 then FX12_goesWith_147 fu x1 x2 (0 : Int32) σ else gd (ix x3 88) (if (σ.1 36 (x3.toNatClampNeg)) = 0 then FX12_goesWith_23  f x1 x2 (x3 + 1) σ else hl_ (x3 / (11 : Int32)) fun x4_20 => if x4_20 = x1 then FX12_goesWith_62 (FX12_goesWith_23  f) x1 x2 x3 x4_20 (x3 - (x3 / (11 : Int32)) * (11 : Int32)) (1 : Int32) σ else FX12_goesWith_62 (FX12_goesWith_23  f) x1 x2 x3 x4_20 (x3 - (x3 / (11 : Int32)) * (11 : Int32)) (0 : Int32) σ)
def FX12_goesWith_2  : Nat → Int32 → Int32 → Int32 → HS → Option HS
  | 0, _, _, _, _ => none
  | f + 1, x1, x2, x3, σ => if (88 : Int32) ≤ x3 then FX12_goesWith_23 fu x1 x2 (0 : Int32) σ else gd (ix x3 88) (hl_ (pI σ 37 (x3.toNatClampNeg) (0 : Int32)) fun σ_24 => FX12_goesWith_2  f x1 x2 (x3 + 1) σ_24)
def FX12_goesWith (x1 : Int32) (x2 : Int32) (σ : HS) : Option HS :=
  FX12_goesWith_2 fu x1 x2 (0 : Int32) σ
set_option maxHeartbeats 4000000 in
set_option maxRecDepth 100000 in
theorem wX12_goesWith_118 (C : Cx 45 D ad κ p s m args meth c cX12_goesWith RX12 6 none) {R : HS} {k23 : Int32 → Int32 → Int32 → HS → Option HS} (K23 : ∀ (x1 : Int32) (x2 : Int32) (x3 : Int32) (σ : HS) (H : Heap) (locs : List Loc) (ls : Array Slot), k23 x1 x2 x3 σ = some R → Hd 45 ceM D ad κ s σ H locs → lv_has ls 6 [(0, .ref (ad 0)), (1, .int x1), (2, .int x2), (3, .int x3)] → W p l e ({ frames := 0, cells := 0, slots := 0, locals := 0 } : Room) s m args below meth c H locs 0 0 (MQ below (QV 45 ceM D ad κ R) args s 0 0 (AX 45 ad)) (F0 m 23 ls [])) : ∀ (x1 : Int32) (x2 : Int32) (x3 : Int32) (x4 : Int32) (x5 : Int32) (y2 : Int32) (σ : HS) (H : Heap) (locs : List Loc) (ls : Array Slot), FX12_goesWith_118 k23 x1 x2 x3 x4 x5 y2 σ = some R → Hd 45 ceM D ad κ s σ H locs → lv_has ls 6 [(0, .ref (ad 0)), (1, .int x1), (2, .int x2), (3, .int x3), (4, .int x4), (5, .int x5)] → W p l e ({ frames := 0, cells := 0, slots := 0, locals := 0 } : Room) s m args below meth c H locs 0 0 (MQ below (QV 45 ceM D ad κ R) args s 0 0 (AX 45 ad)) (F0 m 118 ls [.int y2, .int (11 : Int32), .ref (ad 37)]) := by
  have hx := C.1
  have hb := C.2.1
  have hown := C.2.2.2.1
  have hts := C.2.2.2.2.1
  intro x1 x2 x3 x4 x5 y2 σ H locs ls h hH hl
  rw [FX12_goesWith_118] at h
  refine lv_imul hx hb dX12_goesWith_118 ?_
  refine lv_iload hx hb dX12_goesWith_119 (lv_at hl 5 rfl) ?_
  refine lv_iadd hx hb dX12_goesWith_121 ?_
  refine lv_dup2_11 hx hb dX12_goesWith_122 rfl rfl ?_
  obtain ⟨hi_1, h⟩ := gd_ex h
  refine g_iald C hH 37 (Nat.le_of_ble_eq_true rfl) rfl (k := ((((11 : Int32) * y2) + x5).toNatClampNeg)) rfl (ix_in hi_1) dX12_goesWith_123 ?_
  refine lv_aload_n hx hb dX12_goesWith_124 rfl (lv_at hl 0 rfl) ?_
  refine g_get C hH 0 (Nat.le_of_ble_eq_true rfl) rfl fl_X12_125 (v := .ref (ad 36)) rfl dX12_goesWith_125 ?_
  refine lv_iload_n hx hb dX12_goesWith_128 rfl (lv_at hl 3 rfl) ?_
  obtain ⟨hi_2, h⟩ := gd_ex h
  refine g_iald C hH 36 (Nat.le_of_ble_eq_true rfl) rfl (k := (x3.toNatClampNeg)) rfl (ix_in hi_2) dX12_goesWith_129 ?_
  refine lv_aload_n hx hb dX12_goesWith_130 rfl (lv_at hl 0 rfl) ?_
  refine g_get C hH 0 (Nat.le_of_ble_eq_true rfl) rfl fl_X12_119 (v := .ref (ad 34)) rfl dX12_goesWith_131 ?_
  refine lv_iload_n hx hb dX12_goesWith_134 rfl (lv_at hl 2 rfl) ?_
  obtain ⟨hi_3, h⟩ := gd_ex h
  refine g_iald C hH 34 (Nat.le_of_ble_eq_true rfl) rfl (k := (x2.toNatClampNeg)) rfl (ix_in hi_3) dX12_goesWith_135 ?_
  refine lv_imul hx hb dX12_goesWith_136 ?_
  refine lv_iadd hx hb dX12_goesWith_137 ?_
  obtain ⟨hi_4, h⟩ := gd_ex h
  obtain ⟨σ_5, eσ_5, h⟩ := hl_ex h
  refine g_iast C hH 37 (Nat.le_of_ble_eq_true rfl) (fun _ _ => rfl) (k := ((((11 : Int32) * y2) + x5).toNatClampNeg)) rfl (ix_in hi_4) dX12_goesWith_138 (fun H locs hH => ?_)
  rw [← eσ_5] at hH
  refine lv_iinc (v := (x3 + 1)) (lv' := [(3, .int (x3 + 1)), (0, .ref (ad 0)), (1, .int x1), (2, .int x2), (4, .int x4), (5, .int x5)]) hx hb dX12_goesWith_139 hl (k := 3) rfl rfl (by decide) rfl (fun ls hl => ?_)
  refine lv_goto (tgt := 23) hx hb dX12_goesWith_142 (by decide) ?_
  exact K23 _ _ _ _ _ _ _ h hH (lv_sub hl [1, 2, 3, 0] rfl)
set_option maxHeartbeats 4000000 in
set_option maxRecDepth 100000 in
theorem wX12_goesWith_62 (C : Cx 45 D ad κ p s m args meth c cX12_goesWith RX12 6 none) {R : HS} {k23 : Int32 → Int32 → Int32 → HS → Option HS} (K23 : ∀ (x1 : Int32) (x2 : Int32) (x3 : Int32) (σ : HS) (H : Heap) (locs : List Loc) (ls : Array Slot), k23 x1 x2 x3 σ = some R → Hd 45 ceM D ad κ s σ H locs → lv_has ls 6 [(0, .ref (ad 0)), (1, .int x1), (2, .int x2), (3, .int x3)] → W p l e ({ frames := 0, cells := 0, slots := 0, locals := 0 } : Room) s m args below meth c H locs 0 0 (MQ below (QV 45 ceM D ad κ R) args s 0 0 (AX 45 ad)) (F0 m 23 ls [])) : ∀ (x1 : Int32) (x2 : Int32) (x3 : Int32) (x4 : Int32) (y0 : Int32) (y1 : Int32) (σ : HS) (H : Heap) (locs : List Loc) (ls : Array Slot), FX12_goesWith_62 k23 x1 x2 x3 x4 y0 y1 σ = some R → Hd 45 ceM D ad κ s σ H locs → lv_has ls 6 [(0, .ref (ad 0)), (1, .int x1), (2, .int x2), (3, .int x3), (4, .int x4)] → W p l e ({ frames := 0, cells := 0, slots := 0, locals := 0 } : Room) s m args below meth c H locs 0 0 (MQ below (QV 45 ceM D ad κ R) args s 0 0 (AX 45 ad)) (F0 m 62 ls [.int y1, .int y0]) := by
  have hx := C.1
  have hb := C.2.1
  have hown := C.2.2.2.1
  have hts := C.2.2.2.2.1
  intro x1 x2 x3 x4 y0 y1 σ H locs ls h hH hl
  rw [FX12_goesWith_62] at h
  refine lv_iadd hx hb dX12_goesWith_62 ?_
  obtain ⟨x5_6, ex5_6, h⟩ := hl_ex h
  refine lv_eqi ex5_6 ?_
  refine lv_istore (lv' := [(5, .int x5_6), (0, .ref (ad 0)), (1, .int x1), (2, .int x2), (3, .int x3), (4, .int x4)]) hx hb dX12_goesWith_63 hl (by decide) rfl (fun ls hl => ?_)
  refine lv_aload_n hx hb dX12_goesWith_65 rfl (lv_at hl 1 rfl) ?_
  refine g_get C hH 0 (Nat.le_of_ble_eq_true rfl) rfl fl_X12_128 (v := .ref (ad 37)) rfl dX12_goesWith_66 ?_
  refine lv_bipush (v := 11) hx hb dX12_goesWith_69 (by decide) ?_
  refine lv_iload hx hb dX12_goesWith_71 (lv_at hl 5 rfl) ?_
  refine lv_imul hx hb dX12_goesWith_73 ?_
  refine lv_iload hx hb dX12_goesWith_74 (lv_at hl 0 rfl) ?_
  refine lv_iadd hx hb dX12_goesWith_76 ?_
  refine lv_dup2_11 hx hb dX12_goesWith_77 rfl rfl ?_
  obtain ⟨hi_7, h⟩ := gd_ex h
  refine g_iald C hH 37 (Nat.le_of_ble_eq_true rfl) rfl (k := ((((11 : Int32) * x4) + x5_6).toNatClampNeg)) rfl (ix_in hi_7) dX12_goesWith_78 ?_
  refine lv_aload_n hx hb dX12_goesWith_79 rfl (lv_at hl 1 rfl) ?_
  refine g_get C hH 0 (Nat.le_of_ble_eq_true rfl) rfl fl_X12_125 (v := .ref (ad 36)) rfl dX12_goesWith_80 ?_
  refine lv_iload_n hx hb dX12_goesWith_83 rfl (lv_at hl 4 rfl) ?_
  obtain ⟨hi_8, h⟩ := gd_ex h
  refine g_iald C hH 36 (Nat.le_of_ble_eq_true rfl) rfl (k := (x3.toNatClampNeg)) rfl (ix_in hi_8) dX12_goesWith_84 ?_
  refine lv_iconst (v := 4) hx hb dX12_goesWith_85 (by decide) ?_
  refine lv_aload_n hx hb dX12_goesWith_86 rfl (lv_at hl 1 rfl) ?_
  refine g_get C hH 0 (Nat.le_of_ble_eq_true rfl) rfl fl_X12_119 (v := .ref (ad 34)) rfl dX12_goesWith_87 ?_
  refine lv_iload_n hx hb dX12_goesWith_90 rfl (lv_at hl 3 rfl) ?_
  obtain ⟨hi_9, h⟩ := gd_ex h
  refine g_iald C hH 34 (Nat.le_of_ble_eq_true rfl) rfl (k := (x2.toNatClampNeg)) rfl (ix_in hi_9) dX12_goesWith_91 ?_
  refine lv_isub hx hb dX12_goesWith_92 ?_
  refine lv_imul hx hb dX12_goesWith_93 ?_
  refine lv_iadd hx hb dX12_goesWith_94 ?_
  obtain ⟨hi_10, h⟩ := gd_ex h
  obtain ⟨σ_11, eσ_11, h⟩ := hl_ex h
  refine g_iast C hH 37 (Nat.le_of_ble_eq_true rfl) (fun _ _ => rfl) (k := ((((11 : Int32) * x4) + x5_6).toNatClampNeg)) rfl (ix_in hi_10) dX12_goesWith_95 (fun H locs hH => ?_)
  rw [← eσ_11] at hH
  refine lv_aload_n hx hb dX12_goesWith_96 rfl (lv_at hl 1 rfl) ?_
  refine g_get C hH 0 (Nat.le_of_ble_eq_true rfl) rfl fl_X12_128 (v := .ref (ad 37)) rfl dX12_goesWith_97 ?_
  refine lv_bipush (v := 11) hx hb dX12_goesWith_100 (by decide) ?_
  refine lv_iload hx hb dX12_goesWith_102 (lv_at hl 5 rfl) ?_
  refine lv_bipush (v := 7) hx hb dX12_goesWith_104 (by decide) ?_
  refine lv_icmp_ge (tgt := 116) hx hb dX12_goesWith_106 (by decide) (fun hq_12 => ?_) (fun hq_12 => ?_)
  · rw [if_pos hq_12] at h
    refine lv_bipush (v := 7) hx hb dX12_goesWith_116 (by decide) ?_
    exact wX12_goesWith_118 C K23  _ _ _ _ _ _ _ _ _ _ h hH (lv_sub hl [1, 2, 3, 4, 5, 0] rfl)
  · rw [if_neg hq_12] at h
    refine lv_iload hx hb dX12_goesWith_109 (lv_at hl 5 rfl) ?_
    refine lv_iconst (v := 1) hx hb dX12_goesWith_111 (by decide) ?_
    refine lv_iadd hx hb dX12_goesWith_112 ?_
    refine lv_goto (tgt := 118) hx hb dX12_goesWith_113 (by decide) ?_
    exact wX12_goesWith_118 C K23  _ _ _ _ _ _ _ _ _ _ h hH (lv_sub hl [1, 2, 3, 4, 5, 0] rfl)
set_option maxHeartbeats 4000000 in
set_option maxRecDepth 100000 in
theorem wX12_goesWith_147 (C : Cx 45 D ad κ p s m args meth c cX12_goesWith RX12 6 none) {R : HS} : ∀ (f : Nat) (x1 : Int32) (x2 : Int32) (x3 : Int32) (σ : HS) (H : Heap) (locs : List Loc) (ls : Array Slot), FX12_goesWith_147  f x1 x2 x3 σ = some R → Hd 45 ceM D ad κ s σ H locs → lv_has ls 6 [(0, .ref (ad 0)), (1, .int x1), (2, .int x2), (3, .int x3)] → W p l e ({ frames := 0, cells := 0, slots := 0, locals := 0 } : Room) s m args below meth c H locs 0 0 (MQ below (QV 45 ceM D ad κ R) args s 0 0 (AX 45 ad)) (F0 m 147 ls []) := by
  have hx := C.1
  have hb := C.2.1
  have hown := C.2.2.2.1
  have hts := C.2.2.2.2.1
  intro f
  induction f with
  | zero =>
    intro x1 x2 x3 σ H locs ls h hH hl
    cases h
  | succ f ih =>
    intro x1 x2 x3 σ H locs ls h hH hl
    rw [FX12_goesWith_147] at h
    refine lv_iload_n hx hb dX12_goesWith_147 rfl (lv_at hl 3 rfl) ?_
    refine lv_bipush (v := 88) hx hb dX12_goesWith_148 (by decide) ?_
    refine lv_icmp_ge (tgt := 171) hx hb dX12_goesWith_150 (by decide) (fun hq_13 => ?_) (fun hq_13 => ?_)
    · rw [if_pos hq_13] at h
      exact g_retV C hH h dX12_goesWith_171
    · rw [if_neg hq_13] at h
      refine lv_aload_n hx hb dX12_goesWith_153 rfl (lv_at hl 0 rfl) ?_
      refine g_get C hH 0 (Nat.le_of_ble_eq_true rfl) rfl fl_X12_125 (v := .ref (ad 36)) rfl dX12_goesWith_154 ?_
      refine lv_iload_n hx hb dX12_goesWith_157 rfl (lv_at hl 3 rfl) ?_
      refine lv_aload_n hx hb dX12_goesWith_158 rfl (lv_at hl 0 rfl) ?_
      refine g_get C hH 0 (Nat.le_of_ble_eq_true rfl) rfl fl_X12_128 (v := .ref (ad 37)) rfl dX12_goesWith_159 ?_
      refine lv_iload_n hx hb dX12_goesWith_162 rfl (lv_at hl 3 rfl) ?_
      obtain ⟨hi_14, h⟩ := gd_ex h
      refine g_iald C hH 37 (Nat.le_of_ble_eq_true rfl) rfl (k := (x3.toNatClampNeg)) rfl (ix_in hi_14) dX12_goesWith_163 ?_
      obtain ⟨hi_15, h⟩ := gd_ex h
      obtain ⟨σ_16, eσ_16, h⟩ := hl_ex h
      refine g_iast C hH 36 (Nat.le_of_ble_eq_true rfl) (fun _ _ => rfl) (k := (x3.toNatClampNeg)) rfl (ix_in hi_15) dX12_goesWith_164 (fun H locs hH => ?_)
      rw [← eσ_16] at hH
      refine lv_iinc (v := (x3 + 1)) (lv' := [(3, .int (x3 + 1)), (0, .ref (ad 0)), (1, .int x1), (2, .int x2)]) hx hb dX12_goesWith_165 hl (k := 3) rfl rfl (by decide) rfl (fun ls hl => ?_)
      refine lv_goto (tgt := 147) hx hb dX12_goesWith_168 (by decide) ?_
      exact ih _ _ _ _ _ _ _ h hH (lv_sub hl [1, 2, 3, 0] rfl)
set_option maxHeartbeats 4000000 in
set_option maxRecDepth 100000 in
theorem wX12_goesWith_23 (C : Cx 45 D ad κ p s m args meth c cX12_goesWith RX12 6 none) {R : HS} : ∀ (f : Nat) (x1 : Int32) (x2 : Int32) (x3 : Int32) (σ : HS) (H : Heap) (locs : List Loc) (ls : Array Slot), FX12_goesWith_23  f x1 x2 x3 σ = some R → Hd 45 ceM D ad κ s σ H locs → lv_has ls 6 [(0, .ref (ad 0)), (1, .int x1), (2, .int x2), (3, .int x3)] → W p l e ({ frames := 0, cells := 0, slots := 0, locals := 0 } : Room) s m args below meth c H locs 0 0 (MQ below (QV 45 ceM D ad κ R) args s 0 0 (AX 45 ad)) (F0 m 23 ls []) := by
  have hx := C.1
  have hb := C.2.1
  have hown := C.2.2.2.1
  have hts := C.2.2.2.2.1
  intro f
  induction f with
  | zero =>
    intro x1 x2 x3 σ H locs ls h hH hl
    cases h
  | succ f ih =>
    intro x1 x2 x3 σ H locs ls h hH hl
    rw [FX12_goesWith_23] at h
    refine lv_iload_n hx hb dX12_goesWith_23 rfl (lv_at hl 3 rfl) ?_
    refine lv_bipush (v := 88) hx hb dX12_goesWith_24 (by decide) ?_
    refine lv_icmp_ge (tgt := 145) hx hb dX12_goesWith_26 (by decide) (fun hq_17 => ?_) (fun hq_17 => ?_)
    · rw [if_pos hq_17] at h
      refine lv_iconst (v := 0) hx hb dX12_goesWith_145 (by decide) ?_
      refine lv_istore_n (lv' := [(3, .int (0 : Int32)), (0, .ref (ad 0)), (1, .int x1), (2, .int x2)]) hx hb dX12_goesWith_146 rfl hl (by decide) rfl (fun ls hl => ?_)
      exact wX12_goesWith_147 C _ _ _ _ _ _ _ _ h hH (lv_sub hl [1, 2, 3, 0] rfl)
    · rw [if_neg hq_17] at h
      refine lv_aload_n hx hb dX12_goesWith_29 rfl (lv_at hl 0 rfl) ?_
      refine g_get C hH 0 (Nat.le_of_ble_eq_true rfl) rfl fl_X12_125 (v := .ref (ad 36)) rfl dX12_goesWith_30 ?_
      refine lv_iload_n hx hb dX12_goesWith_33 rfl (lv_at hl 3 rfl) ?_
      obtain ⟨hi_18, h⟩ := gd_ex h
      refine g_iald C hH 36 (Nat.le_of_ble_eq_true rfl) rfl (k := (x3.toNatClampNeg)) rfl (ix_in hi_18) dX12_goesWith_34 ?_
      refine lv_if_ne (tgt := 41) hx hb dX12_goesWith_35 (by decide) (fun hq_19 => ?_) (fun hq_19 => ?_)
      · rw [if_neg hq_19] at h
        refine lv_iload_n hx hb dX12_goesWith_41 rfl (lv_at hl 3 rfl) ?_
        refine lv_bipush (v := 11) hx hb dX12_goesWith_42 (by decide) ?_
        refine lv_idiv hx hb dX12_goesWith_44 (by decide) ?_
        obtain ⟨x4_20, ex4_20, h⟩ := hl_ex h
        refine lv_eqi ex4_20 ?_
        refine lv_istore (lv' := [(4, .int x4_20), (0, .ref (ad 0)), (1, .int x1), (2, .int x2), (3, .int x3)]) hx hb dX12_goesWith_45 hl (by decide) rfl (fun ls hl => ?_)
        refine lv_iload_n hx hb dX12_goesWith_47 rfl (lv_at hl 4 rfl) ?_
        refine lv_bipush (v := 11) hx hb dX12_goesWith_48 (by decide) ?_
        refine lv_irem hx hb dX12_goesWith_50 (by decide) ?_
        refine lv_iload hx hb dX12_goesWith_51 (lv_at hl 0 rfl) ?_
        refine lv_iload_n hx hb dX12_goesWith_53 rfl (lv_at hl 2 rfl) ?_
        refine lv_icmp_ne (tgt := 61) hx hb dX12_goesWith_54 (by decide) (fun hq_21 => ?_) (fun hq_21 => ?_)
        · rw [if_neg hq_21] at h
          refine lv_iconst (v := 0) hx hb dX12_goesWith_61 (by decide) ?_
          exact wX12_goesWith_62 C ih  _ _ _ _ _ _ _ _ _ _ h hH (lv_sub hl [1, 2, 3, 4, 0] rfl)
        · rw [if_pos hq_21] at h
          refine lv_iconst (v := 1) hx hb dX12_goesWith_57 (by decide) ?_
          refine lv_goto (tgt := 62) hx hb dX12_goesWith_58 (by decide) ?_
          exact wX12_goesWith_62 C ih  _ _ _ _ _ _ _ _ _ _ h hH (lv_sub hl [1, 2, 3, 4, 0] rfl)
      · rw [if_pos hq_19] at h
        refine lv_goto (tgt := 139) hx hb dX12_goesWith_38 (by decide) ?_
        refine lv_iinc (v := (x3 + 1)) (lv' := [(3, .int (x3 + 1)), (0, .ref (ad 0)), (1, .int x1), (2, .int x2)]) hx hb dX12_goesWith_139 hl (k := 3) rfl rfl (by decide) rfl (fun ls hl => ?_)
        refine lv_goto (tgt := 23) hx hb dX12_goesWith_142 (by decide) ?_
        exact ih _ _ _ _ _ _ _ h hH (lv_sub hl [1, 2, 3, 0] rfl)
set_option maxHeartbeats 4000000 in
set_option maxRecDepth 100000 in
theorem wX12_goesWith_2 (C : Cx 45 D ad κ p s m args meth c cX12_goesWith RX12 6 none) {R : HS} : ∀ (f : Nat) (x1 : Int32) (x2 : Int32) (x3 : Int32) (σ : HS) (H : Heap) (locs : List Loc) (ls : Array Slot), FX12_goesWith_2  f x1 x2 x3 σ = some R → Hd 45 ceM D ad κ s σ H locs → lv_has ls 6 [(0, .ref (ad 0)), (1, .int x1), (2, .int x2), (3, .int x3)] → W p l e ({ frames := 0, cells := 0, slots := 0, locals := 0 } : Room) s m args below meth c H locs 0 0 (MQ below (QV 45 ceM D ad κ R) args s 0 0 (AX 45 ad)) (F0 m 2 ls []) := by
  have hx := C.1
  have hb := C.2.1
  have hown := C.2.2.2.1
  have hts := C.2.2.2.2.1
  intro f
  induction f with
  | zero =>
    intro x1 x2 x3 σ H locs ls h hH hl
    cases h
  | succ f ih =>
    intro x1 x2 x3 σ H locs ls h hH hl
    rw [FX12_goesWith_2] at h
    refine lv_iload_n hx hb dX12_goesWith_2 rfl (lv_at hl 3 rfl) ?_
    refine lv_bipush (v := 88) hx hb dX12_goesWith_3 (by decide) ?_
    refine lv_icmp_ge (tgt := 21) hx hb dX12_goesWith_5 (by decide) (fun hq_22 => ?_) (fun hq_22 => ?_)
    · rw [if_pos hq_22] at h
      refine lv_iconst (v := 0) hx hb dX12_goesWith_21 (by decide) ?_
      refine lv_istore_n (lv' := [(3, .int (0 : Int32)), (0, .ref (ad 0)), (1, .int x1), (2, .int x2)]) hx hb dX12_goesWith_22 rfl hl (by decide) rfl (fun ls hl => ?_)
      exact wX12_goesWith_23 C _ _ _ _ _ _ _ _ h hH (lv_sub hl [1, 2, 3, 0] rfl)
    · rw [if_neg hq_22] at h
      refine lv_aload_n hx hb dX12_goesWith_8 rfl (lv_at hl 0 rfl) ?_
      refine g_get C hH 0 (Nat.le_of_ble_eq_true rfl) rfl fl_X12_128 (v := .ref (ad 37)) rfl dX12_goesWith_9 ?_
      refine lv_iload_n hx hb dX12_goesWith_12 rfl (lv_at hl 3 rfl) ?_
      refine lv_iconst (v := 0) hx hb dX12_goesWith_13 (by decide) ?_
      obtain ⟨hi_23, h⟩ := gd_ex h
      obtain ⟨σ_24, eσ_24, h⟩ := hl_ex h
      refine g_iast C hH 37 (Nat.le_of_ble_eq_true rfl) (fun _ _ => rfl) (k := (x3.toNatClampNeg)) rfl (ix_in hi_23) dX12_goesWith_14 (fun H locs hH => ?_)
      rw [← eσ_24] at hH
      refine lv_iinc (v := (x3 + 1)) (lv' := [(3, .int (x3 + 1)), (0, .ref (ad 0)), (1, .int x1), (2, .int x2)]) hx hb dX12_goesWith_15 hl (k := 3) rfl rfl (by decide) rfl (fun ls hl => ?_)
      refine lv_goto (tgt := 2) hx hb dX12_goesWith_18 (by decide) ?_
      exact ih _ _ _ _ _ _ _ h hH (lv_sub hl [1, 2, 3, 0] rfl)
set_option maxHeartbeats 4000000 in
set_option maxRecDepth 100000 in
theorem kX12_goesWith (l : Launch) (D : va_G) (ad : Nat → Nat) (κ : KC) {x1 : Int32} {x2 : Int32} {σ : HS} {R : HS} (h : FX12_goesWith x1 x2 σ = some R) : MtV l 45 ceM D ad κ yX12_goesWith cX12_goesWith 6 none ({ frames := 0, cells := 0, slots := 0, locals := 0 } : Room) [.ref (ad 0), .int x1, .int x2] σ R := by
  refine open_ (by decide) (Nat.le_of_ble_eq_true rfl) (la := [(0, .ref (ad 0)), (1, .int x1), (2, .int x2)]) rfl ?_
  intro p e s m below meth c ls C hH hl
  replace C : Cx 45 D ad κ p s m _ meth c cX12_goesWith RX12 6 none := C
  have hx := C.1
  have hb := C.2.1
  have hown := C.2.2.2.1
  have hts := C.2.2.2.2.1
  rw [FX12_goesWith] at h
  refine lv_iconst (v := 0) hx hb dX12_goesWith_0 (by decide) ?_
  refine lv_istore_n (lv' := [(3, .int (0 : Int32)), (0, .ref (ad 0)), (1, .int x1), (2, .int x2)]) hx hb dX12_goesWith_1 rfl hl (by decide) rfl (fun ls hl => ?_)
  exact wX12_goesWith_2 C _ _ _ _ _ _ _ _ h hH (lv_sub hl [1, 2, 3, 0] rfl)
-- X12_with
def FX12_with_78  : Nat → Int32 → Int32 → Int32 → Int32 → HS → Option (Int32 × HS)
  | 0, _, _, _, _, _ => none
  | f + 1, x1, x2, x3, x4, σ => if (8 : Int32) ≤ x4 then some (x3, σ) else gd (ix (((11 : Int32) * x4) + x2) 88) (hl_ (x3 + (σ.1 36 ((((11 : Int32) * x4) + x2).toNatClampNeg))) fun x3_3 => FX12_with_78  f x1 x2 x3_3 (x4 + 1) σ)
def FX12_with_53  : Nat → Int32 → Int32 → Int32 → HS → Option (Int32 × HS)
  | 0, _, _, _, _ => none
  | f + 1, x1, x2, x3, σ => bdI (FX12_many σ) fun r_4 σ_5 => if r_4 ≤ x3 then FX12_with_78 fu x1 x2 (0 : Int32) (0 : Int32) σ_5 else bdV (FX12_goesWith x1 x3 σ_5) fun σ_8 => FX12_with_53  f x1 x2 (x3 + 1) σ_8
def FX12_with_25  : Nat → Int32 → Int32 → Int32 → HS → Option (Int32 × HS)
  | 0, _, _, _, _ => none
  | f + 1, x1, x2, x3, σ => if (88 : Int32) ≤ x3 then hl_ (pI σ 36 0 (1 : Int32)) fun σ_11 => FX12_with_53 fu x1 x2 (0 : Int32) σ_11 else gd (ix x3 88) (hl_ (pI σ 36 (x3.toNatClampNeg) (0 : Int32)) fun σ_13 => FX12_with_25  f x1 x2 (x3 + 1) σ_13)
def FX12_with (x1 : Int32) (x2 : Int32) (σ : HS) : Option (Int32 × HS) :=
  bdI (FX12_isPart x1 σ) fun r_14 σ_15 => if r_14 = 0 then some ((-1 : Int32), σ_15) else bdI (FX12_in x2 (0 : Int32) (10 : Int32) σ_15) fun r_18 σ_19 => if r_18 = 0 then some ((-1 : Int32), σ_19) else bdV (FX12_copiesFalls σ_19) fun σ_22 => FX12_with_25 fu x1 x2 (0 : Int32) σ_22
set_option maxHeartbeats 4000000 in
set_option maxRecDepth 100000 in
theorem wX12_with_78 (C : Cx 45 D ad κ p s m args meth c cX12_with RX12 5 (some .int)) {R : (Int32 × HS)} : ∀ (f : Nat) (x1 : Int32) (x2 : Int32) (x3 : Int32) (x4 : Int32) (σ : HS) (H : Heap) (locs : List Loc) (ls : Array Slot), FX12_with_78  f x1 x2 x3 x4 σ = some R → Hd 45 ceM D ad κ s σ H locs → lv_has ls 5 [(0, .ref (ad 0)), (1, .int x1), (2, .int x2), (3, .int x3), (4, .int x4)] → W p l e ({ frames := 5, cells := 0, slots := 0, locals := 117 } : Room) s m args below meth c H locs 0 0 (MQ below (QI 45 ceM D ad κ R) args s 0 0 (AX 45 ad)) (F0 m 78 ls []) := by
  have hx := C.1
  have hb := C.2.1
  have hown := C.2.2.2.1
  have hts := C.2.2.2.2.1
  intro f
  induction f with
  | zero =>
    intro x1 x2 x3 x4 σ H locs ls h hH hl
    cases h
  | succ f ih =>
    intro x1 x2 x3 x4 σ H locs ls h hH hl
    rw [FX12_with_78] at h
    refine lv_iload hx hb dX12_with_78 (lv_at hl 4 rfl) ?_
    refine lv_bipush (v := 8) hx hb dX12_with_80 (by decide) ?_
    refine lv_icmp_ge (tgt := 106) hx hb dX12_with_82 (by decide) (fun hq_1 => ?_) (fun hq_1 => ?_)
    · rw [if_pos hq_1] at h
      refine lv_iload_n hx hb dX12_with_106 rfl (lv_at hl 3 rfl) ?_
      exact g_ret C hH h dX12_with_107
    · rw [if_neg hq_1] at h
      refine lv_iload_n hx hb dX12_with_85 rfl (lv_at hl 3 rfl) ?_
      refine lv_aload_n hx hb dX12_with_86 rfl (lv_at hl 0 rfl) ?_
      refine g_get C hH 0 (Nat.le_of_ble_eq_true rfl) rfl fl_X12_125 (v := .ref (ad 36)) rfl dX12_with_87 ?_
      refine lv_bipush (v := 11) hx hb dX12_with_90 (by decide) ?_
      refine lv_iload hx hb dX12_with_92 (lv_at hl 4 rfl) ?_
      refine lv_imul hx hb dX12_with_94 ?_
      refine lv_iload_n hx hb dX12_with_95 rfl (lv_at hl 2 rfl) ?_
      refine lv_iadd hx hb dX12_with_96 ?_
      obtain ⟨hi_2, h⟩ := gd_ex h
      refine g_iald C hH 36 (Nat.le_of_ble_eq_true rfl) rfl (k := ((((11 : Int32) * x4) + x2).toNatClampNeg)) rfl (ix_in hi_2) dX12_with_97 ?_
      refine lv_iadd hx hb dX12_with_98 ?_
      obtain ⟨x3_3, ex3_3, h⟩ := hl_ex h
      refine lv_eqi ex3_3 ?_
      refine lv_istore_n (lv' := [(3, .int x3_3), (0, .ref (ad 0)), (1, .int x1), (2, .int x2), (4, .int x4)]) hx hb dX12_with_99 rfl hl (by decide) rfl (fun ls hl => ?_)
      refine lv_iinc (v := (x4 + 1)) (lv' := [(4, .int (x4 + 1)), (3, .int x3_3), (0, .ref (ad 0)), (1, .int x1), (2, .int x2)]) hx hb dX12_with_100 hl (k := 4) rfl rfl (by decide) rfl (fun ls hl => ?_)
      refine lv_goto (tgt := 78) hx hb dX12_with_103 (by decide) ?_
      exact ih _ _ _ _ _ _ _ _ h hH (lv_sub hl [2, 3, 4, 1, 0] rfl)
set_option maxHeartbeats 4000000 in
set_option maxRecDepth 100000 in
theorem wX12_with_53 (C : Cx 45 D ad κ p s m args meth c cX12_with RX12 5 (some .int)) {R : (Int32 × HS)} : ∀ (f : Nat) (x1 : Int32) (x2 : Int32) (x3 : Int32) (σ : HS) (H : Heap) (locs : List Loc) (ls : Array Slot), FX12_with_53  f x1 x2 x3 σ = some R → Hd 45 ceM D ad κ s σ H locs → lv_has ls 5 [(0, .ref (ad 0)), (1, .int x1), (2, .int x2), (3, .int x3)] → W p l e ({ frames := 5, cells := 0, slots := 0, locals := 117 } : Room) s m args below meth c H locs 0 0 (MQ below (QI 45 ceM D ad κ R) args s 0 0 (AX 45 ad)) (F0 m 53 ls []) := by
  have hx := C.1
  have hb := C.2.1
  have hown := C.2.2.2.1
  have hts := C.2.2.2.2.1
  intro f
  induction f with
  | zero =>
    intro x1 x2 x3 σ H locs ls h hH hl
    cases h
  | succ f ih =>
    intro x1 x2 x3 σ H locs ls h hH hl
    rw [FX12_with_53] at h
    refine lv_iload_n hx hb dX12_with_53 rfl (lv_at hl 3 rfl) ?_
    refine lv_aload_n hx hb dX12_with_54 rfl (lv_at hl 0 rfl) ?_
    obtain ⟨r_4, σ_5, hc_6, h⟩ := bdI_ex h
    refine g_ci (g_runV (rest := [.int x3]) C hH hl.1 cV_X12_306 0 (Nat.le_of_ble_eq_true rfl) rfl rfl (kX12_many l D ad κ hc_6) ⟨rfl, rfl⟩ ⟨(Nat.le_of_ble_eq_true rfl), (Nat.le_of_ble_eq_true rfl)⟩ rfl rfl (Nat.le_of_ble_eq_true rfl) dX12_with_55 z00) hH (fun H locs hH => ?_)
    refine lv_icmp_ge (tgt := 73) hx hb dX12_with_58 (by decide) (fun hq_7 => ?_) (fun hq_7 => ?_)
    · rw [if_pos hq_7] at h
      refine lv_iconst (v := 0) hx hb dX12_with_73 (by decide) ?_
      refine lv_istore_n (lv' := [(3, .int (0 : Int32)), (0, .ref (ad 0)), (1, .int x1), (2, .int x2)]) hx hb dX12_with_74 rfl hl (by decide) rfl (fun ls hl => ?_)
      refine lv_iconst (v := 0) hx hb dX12_with_75 (by decide) ?_
      refine lv_istore (lv' := [(4, .int (0 : Int32)), (3, .int (0 : Int32)), (0, .ref (ad 0)), (1, .int x1), (2, .int x2)]) hx hb dX12_with_76 hl (by decide) rfl (fun ls hl => ?_)
      exact wX12_with_78 C _ _ _ _ _ _ _ _ _ h hH (lv_sub hl [2, 3, 4, 1, 0] rfl)
    · rw [if_neg hq_7] at h
      refine lv_aload_n hx hb dX12_with_61 rfl (lv_at hl 0 rfl) ?_
      refine lv_iload_n hx hb dX12_with_62 rfl (lv_at hl 1 rfl) ?_
      refine lv_iload_n hx hb dX12_with_63 rfl (lv_at hl 3 rfl) ?_
      obtain ⟨σ_8, hc_9, h⟩ := bdV_ex h
      refine g_cv (g_runV (rest := []) C hH hl.1 cV_X12_418 0 (Nat.le_of_ble_eq_true rfl) rfl rfl (kX12_goesWith l D ad κ hc_9) ⟨rfl, rfl⟩ ⟨(Nat.le_of_ble_eq_true rfl), (Nat.le_of_ble_eq_true rfl)⟩ rfl rfl (Nat.le_of_ble_eq_true rfl) dX12_with_64 z00) hH (fun H locs hH => ?_)
      refine lv_iinc (v := (x3 + 1)) (lv' := [(3, .int (x3 + 1)), (0, .ref (ad 0)), (1, .int x1), (2, .int x2)]) hx hb dX12_with_67 hl (k := 3) rfl rfl (by decide) rfl (fun ls hl => ?_)
      refine lv_goto (tgt := 53) hx hb dX12_with_70 (by decide) ?_
      exact ih _ _ _ _ _ _ _ h hH (lv_sub hl [1, 2, 3, 0] rfl)
set_option maxHeartbeats 4000000 in
set_option maxRecDepth 100000 in
theorem wX12_with_25 (C : Cx 45 D ad κ p s m args meth c cX12_with RX12 5 (some .int)) {R : (Int32 × HS)} : ∀ (f : Nat) (x1 : Int32) (x2 : Int32) (x3 : Int32) (σ : HS) (H : Heap) (locs : List Loc) (ls : Array Slot), FX12_with_25  f x1 x2 x3 σ = some R → Hd 45 ceM D ad κ s σ H locs → lv_has ls 5 [(0, .ref (ad 0)), (1, .int x1), (2, .int x2), (3, .int x3)] → W p l e ({ frames := 5, cells := 0, slots := 0, locals := 117 } : Room) s m args below meth c H locs 0 0 (MQ below (QI 45 ceM D ad κ R) args s 0 0 (AX 45 ad)) (F0 m 25 ls []) := by
  have hx := C.1
  have hb := C.2.1
  have hown := C.2.2.2.1
  have hts := C.2.2.2.2.1
  intro f
  induction f with
  | zero =>
    intro x1 x2 x3 σ H locs ls h hH hl
    cases h
  | succ f ih =>
    intro x1 x2 x3 σ H locs ls h hH hl
    rw [FX12_with_25] at h
    refine lv_iload_n hx hb dX12_with_25 rfl (lv_at hl 3 rfl) ?_
    refine lv_bipush (v := 88) hx hb dX12_with_26 (by decide) ?_
    refine lv_icmp_ge (tgt := 44) hx hb dX12_with_28 (by decide) (fun hq_10 => ?_) (fun hq_10 => ?_)
    · rw [if_pos hq_10] at h
      refine lv_aload_n hx hb dX12_with_44 rfl (lv_at hl 0 rfl) ?_
      refine g_get C hH 0 (Nat.le_of_ble_eq_true rfl) rfl fl_X12_125 (v := .ref (ad 36)) rfl dX12_with_45 ?_
      refine lv_iconst (v := 0) hx hb dX12_with_48 (by decide) ?_
      refine lv_iconst (v := 1) hx hb dX12_with_49 (by decide) ?_
      obtain ⟨σ_11, eσ_11, h⟩ := hl_ex h
      refine g_iast C hH 36 (Nat.le_of_ble_eq_true rfl) (fun _ _ => rfl) (k := 0) (by decide) (ix_in rfl) dX12_with_50 (fun H locs hH => ?_)
      rw [← eσ_11] at hH
      refine lv_iconst (v := 0) hx hb dX12_with_51 (by decide) ?_
      refine lv_istore_n (lv' := [(3, .int (0 : Int32)), (0, .ref (ad 0)), (1, .int x1), (2, .int x2)]) hx hb dX12_with_52 rfl hl (by decide) rfl (fun ls hl => ?_)
      exact wX12_with_53 C _ _ _ _ _ _ _ _ h hH (lv_sub hl [1, 2, 3, 0] rfl)
    · rw [if_neg hq_10] at h
      refine lv_aload_n hx hb dX12_with_31 rfl (lv_at hl 0 rfl) ?_
      refine g_get C hH 0 (Nat.le_of_ble_eq_true rfl) rfl fl_X12_125 (v := .ref (ad 36)) rfl dX12_with_32 ?_
      refine lv_iload_n hx hb dX12_with_35 rfl (lv_at hl 3 rfl) ?_
      refine lv_iconst (v := 0) hx hb dX12_with_36 (by decide) ?_
      obtain ⟨hi_12, h⟩ := gd_ex h
      obtain ⟨σ_13, eσ_13, h⟩ := hl_ex h
      refine g_iast C hH 36 (Nat.le_of_ble_eq_true rfl) (fun _ _ => rfl) (k := (x3.toNatClampNeg)) rfl (ix_in hi_12) dX12_with_37 (fun H locs hH => ?_)
      rw [← eσ_13] at hH
      refine lv_iinc (v := (x3 + 1)) (lv' := [(3, .int (x3 + 1)), (0, .ref (ad 0)), (1, .int x1), (2, .int x2)]) hx hb dX12_with_38 hl (k := 3) rfl rfl (by decide) rfl (fun ls hl => ?_)
      refine lv_goto (tgt := 25) hx hb dX12_with_41 (by decide) ?_
      exact ih _ _ _ _ _ _ _ h hH (lv_sub hl [1, 2, 3, 0] rfl)
set_option maxHeartbeats 4000000 in
set_option maxRecDepth 100000 in
theorem kX12_with (l : Launch) (D : va_G) (ad : Nat → Nat) (κ : KC) {x1 : Int32} {x2 : Int32} {σ : HS} {R : (Int32 × HS)} (h : FX12_with x1 x2 σ = some R) : MtI l 45 ceM D ad κ yX12_with cX12_with 5 (some .int) ({ frames := 5, cells := 0, slots := 0, locals := 117 } : Room) [.ref (ad 0), .int x1, .int x2] σ R := by
  refine open_ (by decide) (Nat.le_of_ble_eq_true rfl) (la := [(0, .ref (ad 0)), (1, .int x1), (2, .int x2)]) rfl ?_
  intro p e s m below meth c ls C hH hl
  replace C : Cx 45 D ad κ p s m _ meth c cX12_with RX12 5 (some .int) := C
  have hx := C.1
  have hb := C.2.1
  have hown := C.2.2.2.1
  have hts := C.2.2.2.2.1
  rw [FX12_with] at h
  refine lv_iload_n hx hb dX12_with_0 rfl (lv_at hl 1 rfl) ?_
  obtain ⟨r_14, σ_15, hc_16, h⟩ := bdI_ex h
  refine g_ci (g_runS (rest := []) C hH hl.1 cS_X12_378 (kX12_isPart l D ad κ hc_16) ⟨rfl, rfl⟩ ⟨(Nat.le_of_ble_eq_true rfl), (Nat.le_of_ble_eq_true rfl)⟩ rfl rfl (Nat.le_of_ble_eq_true rfl) dX12_with_1 z00) hH (fun H locs hH => ?_)
  refine lv_if_eq (tgt := 17) hx hb dX12_with_4 (by decide) (fun hq_17 => ?_) (fun hq_17 => ?_)
  · rw [if_pos hq_17] at h
    refine lv_iconst (v := (-1)) hx hb dX12_with_17 (by decide) ?_
    exact g_ret C hH h dX12_with_18
  · rw [if_neg hq_17] at h
    refine lv_iload_n hx hb dX12_with_7 rfl (lv_at hl 2 rfl) ?_
    refine lv_iconst (v := 0) hx hb dX12_with_8 (by decide) ?_
    refine lv_bipush (v := 10) hx hb dX12_with_9 (by decide) ?_
    obtain ⟨r_18, σ_19, hc_20, h⟩ := bdI_ex h
    refine g_ci (g_runS (rest := []) C hH hl.1 cS_X12_310 (kX12_in l D ad κ hc_20) ⟨rfl, rfl⟩ ⟨(Nat.le_of_ble_eq_true rfl), (Nat.le_of_ble_eq_true rfl)⟩ rfl rfl (Nat.le_of_ble_eq_true rfl) dX12_with_11 z00) hH (fun H locs hH => ?_)
    refine lv_if_ne (tgt := 19) hx hb dX12_with_14 (by decide) (fun hq_21 => ?_) (fun hq_21 => ?_)
    · rw [if_neg hq_21] at h
      refine lv_aload_n hx hb dX12_with_19 rfl (lv_at hl 0 rfl) ?_
      obtain ⟨σ_22, hc_23, h⟩ := bdV_ex h
      refine g_cv (g_runV (rest := []) C hH hl.1 cV_X12_406 0 (Nat.le_of_ble_eq_true rfl) rfl rfl (kX12_copiesFalls l D ad κ hc_23) ⟨rfl, rfl⟩ ⟨(Nat.le_of_ble_eq_true rfl), (Nat.le_of_ble_eq_true rfl)⟩ rfl rfl (Nat.le_of_ble_eq_true rfl) dX12_with_20 z00) hH (fun H locs hH => ?_)
      refine lv_iconst (v := 0) hx hb dX12_with_23 (by decide) ?_
      refine lv_istore_n (lv' := [(3, .int (0 : Int32)), (0, .ref (ad 0)), (1, .int x1), (2, .int x2)]) hx hb dX12_with_24 rfl hl (by decide) rfl (fun ls hl => ?_)
      exact wX12_with_25 C _ _ _ _ _ _ _ _ h hH (lv_sub hl [1, 2, 3, 0] rfl)
    · rw [if_pos hq_21] at h
      refine lv_iconst (v := (-1)) hx hb dX12_with_17 (by decide) ?_
      exact g_ret C hH h dX12_with_18
-- X12_buy
def FX12_buy_29  : Nat → Int32 → Int32 → Int32 → Int32 → HS → Option (Int32 × HS)
  | 0, _, _, _, _, _ => none
  | f + 1, x1, x2, x3, x4, σ => if (8 : Int32) ≤ x4 then if x3 < 0 then some (x3, σ) else if x2 = 0 then some (x3, σ) else bdI (FX12_valueOf x1 x3 σ) fun r_4 σ_5 => some (r_4, σ_5) else gd (ix ((10 : Int32) + x4) 33) (if 0 ≤ (σ.1 32 (((10 : Int32) + x4).toNatClampNeg)) then FX12_buy_29  f x1 x2 x3 (x4 + 1) σ else if x3 < 0 then FX12_buy_29  f x1 x2 x4 (x4 + 1) σ else bdI (FX12_valueOf x1 x4 σ) fun r_10 σ_11 => bdI (FX12_valueOf x1 x3 σ_11) fun r_13 σ_14 => if r_10 ≤ r_13 then FX12_buy_29  f x1 x2 x3 (x4 + 1) σ_14 else FX12_buy_29  f x1 x2 x4 (x4 + 1) σ_14)
def FX12_buy (x1 : Int32) (x2 : Int32) (σ : HS) : Option (Int32 × HS) :=
  bdI (FX12_isFamily x1 σ) fun r_17 σ_18 => if r_17 = 0 then some ((-1 : Int32), σ_18) else bdI (FX12_in x2 (0 : Int32) (1 : Int32) σ_18) fun r_21 σ_22 => if r_21 = 0 then some ((-1 : Int32), σ_22) else bdV (FX12_copiesFalls σ_22) fun σ_25 => FX12_buy_29 fu x1 x2 (-2 : Int32) (0 : Int32) σ_25
set_option maxHeartbeats 4000000 in
set_option maxRecDepth 100000 in
theorem wX12_buy_29 (C : Cx 45 D ad κ p s m args meth c cX12_buy RX12 5 (some .int)) {R : (Int32 × HS)} : ∀ (f : Nat) (x1 : Int32) (x2 : Int32) (x3 : Int32) (x4 : Int32) (σ : HS) (H : Heap) (locs : List Loc) (ls : Array Slot), FX12_buy_29  f x1 x2 x3 x4 σ = some R → Hd 45 ceM D ad κ s σ H locs → lv_has ls 5 [(0, .ref (ad 0)), (1, .int x1), (2, .int x2), (3, .int x3), (4, .int x4)] → W p l e ({ frames := 5, cells := 0, slots := 0, locals := 117 } : Room) s m args below meth c H locs 0 0 (MQ below (QI 45 ceM D ad κ R) args s 0 0 (AX 45 ad)) (F0 m 29 ls []) := by
  have hx := C.1
  have hb := C.2.1
  have hown := C.2.2.2.1
  have hts := C.2.2.2.2.1
  intro f
  induction f with
  | zero =>
    intro x1 x2 x3 x4 σ H locs ls h hH hl
    cases h
  | succ f ih =>
    intro x1 x2 x3 x4 σ H locs ls h hH hl
    rw [FX12_buy_29] at h
    refine lv_iload hx hb dX12_buy_29 (lv_at hl 4 rfl) ?_
    refine lv_bipush (v := 8) hx hb dX12_buy_31 (by decide) ?_
    refine lv_icmp_ge (tgt := 78) hx hb dX12_buy_33 (by decide) (fun hq_1 => ?_) (fun hq_1 => ?_)
    · rw [if_pos hq_1] at h
      refine lv_iload_n hx hb dX12_buy_78 rfl (lv_at hl 3 rfl) ?_
      refine lv_if_lt (tgt := 86) hx hb dX12_buy_79 (by decide) (fun hq_2 => ?_) (fun hq_2 => ?_)
      · rw [if_pos hq_2] at h
        refine lv_iload_n hx hb dX12_buy_86 rfl (lv_at hl 3 rfl) ?_
        refine lv_goto (tgt := 96) hx hb dX12_buy_87 (by decide) ?_
        exact g_ret C hH h dX12_buy_96
      · rw [if_neg hq_2] at h
        refine lv_iload_n hx hb dX12_buy_82 rfl (lv_at hl 2 rfl) ?_
        refine lv_if_ne (tgt := 90) hx hb dX12_buy_83 (by decide) (fun hq_3 => ?_) (fun hq_3 => ?_)
        · rw [if_neg hq_3] at h
          refine lv_aload_n hx hb dX12_buy_90 rfl (lv_at hl 0 rfl) ?_
          refine lv_iload_n hx hb dX12_buy_91 rfl (lv_at hl 1 rfl) ?_
          refine lv_iload_n hx hb dX12_buy_92 rfl (lv_at hl 3 rfl) ?_
          obtain ⟨r_4, σ_5, hc_6, h⟩ := bdI_ex h
          refine g_ci (g_runV (rest := []) C hH hl.1 cV_X12_412 0 (Nat.le_of_ble_eq_true rfl) rfl rfl (kX12_valueOf l D ad κ hc_6) ⟨rfl, rfl⟩ ⟨(Nat.le_of_ble_eq_true rfl), (Nat.le_of_ble_eq_true rfl)⟩ rfl rfl (Nat.le_of_ble_eq_true rfl) dX12_buy_93 z00) hH (fun H locs hH => ?_)
          exact g_ret C hH h dX12_buy_96
        · rw [if_pos hq_3] at h
          refine lv_iload_n hx hb dX12_buy_86 rfl (lv_at hl 3 rfl) ?_
          refine lv_goto (tgt := 96) hx hb dX12_buy_87 (by decide) ?_
          exact g_ret C hH h dX12_buy_96
    · rw [if_neg hq_1] at h
      refine lv_aload_n hx hb dX12_buy_36 rfl (lv_at hl 0 rfl) ?_
      refine g_get C hH 0 (Nat.le_of_ble_eq_true rfl) rfl fl_X12_113 (v := .ref (ad 32)) rfl dX12_buy_37 ?_
      refine lv_bipush (v := 10) hx hb dX12_buy_40 (by decide) ?_
      refine lv_iload hx hb dX12_buy_42 (lv_at hl 4 rfl) ?_
      refine lv_iadd hx hb dX12_buy_44 ?_
      obtain ⟨hi_7, h⟩ := gd_ex h
      refine g_iald C hH 32 (Nat.le_of_ble_eq_true rfl) rfl (k := (((10 : Int32) + x4).toNatClampNeg)) rfl (ix_in hi_7) dX12_buy_45 ?_
      refine lv_if_ge (tgt := 72) hx hb dX12_buy_46 (by decide) (fun hq_8 => ?_) (fun hq_8 => ?_)
      · rw [if_pos hq_8] at h
        refine lv_iinc (v := (x4 + 1)) (lv' := [(4, .int (x4 + 1)), (0, .ref (ad 0)), (1, .int x1), (2, .int x2), (3, .int x3)]) hx hb dX12_buy_72 hl (k := 4) rfl rfl (by decide) rfl (fun ls hl => ?_)
        refine lv_goto (tgt := 29) hx hb dX12_buy_75 (by decide) ?_
        exact ih _ _ _ _ _ _ _ _ h hH (lv_sub hl [1, 2, 3, 4, 0] rfl)
      · rw [if_neg hq_8] at h
        refine lv_iload_n hx hb dX12_buy_49 rfl (lv_at hl 3 rfl) ?_
        refine lv_if_lt (tgt := 69) hx hb dX12_buy_50 (by decide) (fun hq_9 => ?_) (fun hq_9 => ?_)
        · rw [if_pos hq_9] at h
          refine lv_iload hx hb dX12_buy_69 (lv_at hl 4 rfl) ?_
          refine lv_istore_n (lv' := [(3, .int x4), (0, .ref (ad 0)), (1, .int x1), (2, .int x2), (4, .int x4)]) hx hb dX12_buy_71 rfl hl (by decide) rfl (fun ls hl => ?_)
          refine lv_iinc (v := (x4 + 1)) (lv' := [(4, .int (x4 + 1)), (3, .int x4), (0, .ref (ad 0)), (1, .int x1), (2, .int x2)]) hx hb dX12_buy_72 hl (k := 4) rfl rfl (by decide) rfl (fun ls hl => ?_)
          refine lv_goto (tgt := 29) hx hb dX12_buy_75 (by decide) ?_
          exact ih _ _ _ _ _ _ _ _ h hH (lv_sub hl [2, 3, 4, 1, 0] rfl)
        · rw [if_neg hq_9] at h
          refine lv_aload_n hx hb dX12_buy_53 rfl (lv_at hl 0 rfl) ?_
          refine lv_iload_n hx hb dX12_buy_54 rfl (lv_at hl 1 rfl) ?_
          refine lv_iload hx hb dX12_buy_55 (lv_at hl 4 rfl) ?_
          obtain ⟨r_10, σ_11, hc_12, h⟩ := bdI_ex h
          refine g_ci (g_runV (rest := []) C hH hl.1 cV_X12_412 0 (Nat.le_of_ble_eq_true rfl) rfl rfl (kX12_valueOf l D ad κ hc_12) ⟨rfl, rfl⟩ ⟨(Nat.le_of_ble_eq_true rfl), (Nat.le_of_ble_eq_true rfl)⟩ rfl rfl (Nat.le_of_ble_eq_true rfl) dX12_buy_57 z00) hH (fun H locs hH => ?_)
          refine lv_aload_n hx hb dX12_buy_60 rfl (lv_at hl 0 rfl) ?_
          refine lv_iload_n hx hb dX12_buy_61 rfl (lv_at hl 1 rfl) ?_
          refine lv_iload_n hx hb dX12_buy_62 rfl (lv_at hl 3 rfl) ?_
          obtain ⟨r_13, σ_14, hc_15, h⟩ := bdI_ex h
          refine g_ci (g_runV (rest := [.int r_10]) C hH hl.1 cV_X12_412 0 (Nat.le_of_ble_eq_true rfl) rfl rfl (kX12_valueOf l D ad κ hc_15) ⟨rfl, rfl⟩ ⟨(Nat.le_of_ble_eq_true rfl), (Nat.le_of_ble_eq_true rfl)⟩ rfl rfl (Nat.le_of_ble_eq_true rfl) dX12_buy_63 z00) hH (fun H locs hH => ?_)
          refine lv_icmp_le (tgt := 72) hx hb dX12_buy_66 (by decide) (fun hq_16 => ?_) (fun hq_16 => ?_)
          · rw [if_pos hq_16] at h
            refine lv_iinc (v := (x4 + 1)) (lv' := [(4, .int (x4 + 1)), (0, .ref (ad 0)), (1, .int x1), (2, .int x2), (3, .int x3)]) hx hb dX12_buy_72 hl (k := 4) rfl rfl (by decide) rfl (fun ls hl => ?_)
            refine lv_goto (tgt := 29) hx hb dX12_buy_75 (by decide) ?_
            exact ih _ _ _ _ _ _ _ _ h hH (lv_sub hl [1, 2, 3, 4, 0] rfl)
          · rw [if_neg hq_16] at h
            refine lv_iload hx hb dX12_buy_69 (lv_at hl 4 rfl) ?_
            refine lv_istore_n (lv' := [(3, .int x4), (0, .ref (ad 0)), (1, .int x1), (2, .int x2), (4, .int x4)]) hx hb dX12_buy_71 rfl hl (by decide) rfl (fun ls hl => ?_)
            refine lv_iinc (v := (x4 + 1)) (lv' := [(4, .int (x4 + 1)), (3, .int x4), (0, .ref (ad 0)), (1, .int x1), (2, .int x2)]) hx hb dX12_buy_72 hl (k := 4) rfl rfl (by decide) rfl (fun ls hl => ?_)
            refine lv_goto (tgt := 29) hx hb dX12_buy_75 (by decide) ?_
            exact ih _ _ _ _ _ _ _ _ h hH (lv_sub hl [2, 3, 4, 1, 0] rfl)
set_option maxHeartbeats 4000000 in
set_option maxRecDepth 100000 in
theorem kX12_buy (l : Launch) (D : va_G) (ad : Nat → Nat) (κ : KC) {x1 : Int32} {x2 : Int32} {σ : HS} {R : (Int32 × HS)} (h : FX12_buy x1 x2 σ = some R) : MtI l 45 ceM D ad κ yX12_buy cX12_buy 5 (some .int) ({ frames := 5, cells := 0, slots := 0, locals := 117 } : Room) [.ref (ad 0), .int x1, .int x2] σ R := by
  refine open_ (by decide) (Nat.le_of_ble_eq_true rfl) (la := [(0, .ref (ad 0)), (1, .int x1), (2, .int x2)]) rfl ?_
  intro p e s m below meth c ls C hH hl
  replace C : Cx 45 D ad κ p s m _ meth c cX12_buy RX12 5 (some .int) := C
  have hx := C.1
  have hb := C.2.1
  have hown := C.2.2.2.1
  have hts := C.2.2.2.2.1
  rw [FX12_buy] at h
  refine lv_aload_n hx hb dX12_buy_0 rfl (lv_at hl 0 rfl) ?_
  refine lv_iload_n hx hb dX12_buy_1 rfl (lv_at hl 1 rfl) ?_
  obtain ⟨r_17, σ_18, hc_19, h⟩ := bdI_ex h
  refine g_ci (g_runV (rest := []) C hH hl.1 cV_X12_372 0 (Nat.le_of_ble_eq_true rfl) rfl rfl (kX12_isFamily l D ad κ hc_19) ⟨rfl, rfl⟩ ⟨(Nat.le_of_ble_eq_true rfl), (Nat.le_of_ble_eq_true rfl)⟩ rfl rfl (Nat.le_of_ble_eq_true rfl) dX12_buy_2 z00) hH (fun H locs hH => ?_)
  refine lv_if_eq (tgt := 17) hx hb dX12_buy_5 (by decide) (fun hq_20 => ?_) (fun hq_20 => ?_)
  · rw [if_pos hq_20] at h
    refine lv_iconst (v := (-1)) hx hb dX12_buy_17 (by decide) ?_
    exact g_ret C hH h dX12_buy_18
  · rw [if_neg hq_20] at h
    refine lv_iload_n hx hb dX12_buy_8 rfl (lv_at hl 2 rfl) ?_
    refine lv_iconst (v := 0) hx hb dX12_buy_9 (by decide) ?_
    refine lv_iconst (v := 1) hx hb dX12_buy_10 (by decide) ?_
    obtain ⟨r_21, σ_22, hc_23, h⟩ := bdI_ex h
    refine g_ci (g_runS (rest := []) C hH hl.1 cS_X12_310 (kX12_in l D ad κ hc_23) ⟨rfl, rfl⟩ ⟨(Nat.le_of_ble_eq_true rfl), (Nat.le_of_ble_eq_true rfl)⟩ rfl rfl (Nat.le_of_ble_eq_true rfl) dX12_buy_11 z00) hH (fun H locs hH => ?_)
    refine lv_if_ne (tgt := 19) hx hb dX12_buy_14 (by decide) (fun hq_24 => ?_) (fun hq_24 => ?_)
    · rw [if_neg hq_24] at h
      refine lv_aload_n hx hb dX12_buy_19 rfl (lv_at hl 0 rfl) ?_
      obtain ⟨σ_25, hc_26, h⟩ := bdV_ex h
      refine g_cv (g_runV (rest := []) C hH hl.1 cV_X12_406 0 (Nat.le_of_ble_eq_true rfl) rfl rfl (kX12_copiesFalls l D ad κ hc_26) ⟨rfl, rfl⟩ ⟨(Nat.le_of_ble_eq_true rfl), (Nat.le_of_ble_eq_true rfl)⟩ rfl rfl (Nat.le_of_ble_eq_true rfl) dX12_buy_20 z00) hH (fun H locs hH => ?_)
      refine lv_bipush (v := (-2)) hx hb dX12_buy_23 (by decide) ?_
      refine lv_istore_n (lv' := [(3, .int (-2 : Int32)), (0, .ref (ad 0)), (1, .int x1), (2, .int x2)]) hx hb dX12_buy_25 rfl hl (by decide) rfl (fun ls hl => ?_)
      refine lv_iconst (v := 0) hx hb dX12_buy_26 (by decide) ?_
      refine lv_istore (lv' := [(4, .int (0 : Int32)), (3, .int (-2 : Int32)), (0, .ref (ad 0)), (1, .int x1), (2, .int x2)]) hx hb dX12_buy_27 hl (by decide) rfl (fun ls hl => ?_)
      exact wX12_buy_29 C _ _ _ _ _ _ _ _ _ h hH (lv_sub hl [2, 3, 4, 1, 0] rfl)
    · rw [if_pos hq_24] at h
      refine lv_iconst (v := (-1)) hx hb dX12_buy_17 (by decide) ?_
      exact g_ret C hH h dX12_buy_18
-- X12_swap
def FX12_swap_51 (k36 : Int32 → Int32 → Int32 → Int32 → Int32 → HS → Option (Int32 × HS)) : Nat → Int32 → Int32 → Int32 → Int32 → Int32 → Int32 → HS → Option (Int32 × HS)
  | 0, _, _, _, _, _, _, _ => none
  | f + 1, x1, x2, x3, x4, x5, x6, σ => bdI (FX12_many σ) fun r_1 σ_2 => if r_1 ≤ x6 then k36 x1 x2 x3 x4 (x5 + 1) σ_2 else bdV (FX12_changesFor x5 x6 σ_2) fun σ_5 => bdV (FX12_fillsFalls σ_5) fun σ_7 => bdI (FX12_haveOf x1 σ_7) fun r_9 σ_10 => if x4 < r_9 then hl_ (((10 : Int32) * x5) + x6) fun x3_13 => FX12_swap_51 k36 f x1 x2 x3_13 r_9 x5 (x6 + 1) σ_10 else FX12_swap_51 k36 f x1 x2 x3 x4 x5 (x6 + 1) σ_10
def FX12_swap_36  : Nat → Int32 → Int32 → Int32 → Int32 → Int32 → HS → Option (Int32 × HS)
  | 0, _, _, _, _, _, _ => none
  | f + 1, x1, x2, x3, x4, x5, σ => bdI (FX12_many σ) fun r_14 σ_15 => if r_14 ≤ x5 then if x3 < 0 then some (x3, σ_15) else if x2 = 0 then some (x3, σ_15) else some (x4, σ_15) else hl_ (x5 + (1 : Int32)) fun x6_20 => FX12_swap_51 (FX12_swap_36  f) fu x1 x2 x3 x4 x5 x6_20 σ_15
def FX12_swap (x1 : Int32) (x2 : Int32) (σ : HS) : Option (Int32 × HS) :=
  bdI (FX12_isFamily x1 σ) fun r_21 σ_22 => if r_21 = 0 then some ((-1 : Int32), σ_22) else bdI (FX12_in x2 (0 : Int32) (1 : Int32) σ_22) fun r_25 σ_26 => if r_25 = 0 then some ((-1 : Int32), σ_26) else bdV (FX12_copiesFalls σ_26) fun σ_29 => bdI (FX12_haveOf x1 σ_29) fun r_31 σ_32 => FX12_swap_36 fu x1 x2 (-2 : Int32) r_31 (0 : Int32) σ_32
set_option maxHeartbeats 4000000 in
set_option maxRecDepth 100000 in
theorem wX12_swap_51 (C : Cx 45 D ad κ p s m args meth c cX12_swap RX12 8 (some .int)) {R : (Int32 × HS)} {k36 : Int32 → Int32 → Int32 → Int32 → Int32 → HS → Option (Int32 × HS)} (K36 : ∀ (x1 : Int32) (x2 : Int32) (x3 : Int32) (x4 : Int32) (x5 : Int32) (σ : HS) (H : Heap) (locs : List Loc) (ls : Array Slot), k36 x1 x2 x3 x4 x5 σ = some R → Hd 45 ceM D ad κ s σ H locs → lv_has ls 8 [(0, .ref (ad 0)), (1, .int x1), (2, .int x2), (3, .int x3), (4, .int x4), (5, .int x5)] → W p l e ({ frames := 5, cells := 0, slots := 0, locals := 123 } : Room) s m args below meth c H locs 0 0 (MQ below (QI 45 ceM D ad κ R) args s 0 0 (AX 45 ad)) (F0 m 36 ls [])) : ∀ (f : Nat) (x1 : Int32) (x2 : Int32) (x3 : Int32) (x4 : Int32) (x5 : Int32) (x6 : Int32) (σ : HS) (H : Heap) (locs : List Loc) (ls : Array Slot), FX12_swap_51 k36 f x1 x2 x3 x4 x5 x6 σ = some R → Hd 45 ceM D ad κ s σ H locs → lv_has ls 8 [(0, .ref (ad 0)), (1, .int x1), (2, .int x2), (3, .int x3), (4, .int x4), (5, .int x5), (6, .int x6)] → W p l e ({ frames := 5, cells := 0, slots := 0, locals := 123 } : Room) s m args below meth c H locs 0 0 (MQ below (QI 45 ceM D ad κ R) args s 0 0 (AX 45 ad)) (F0 m 51 ls []) := by
  have hx := C.1
  have hb := C.2.1
  have hown := C.2.2.2.1
  have hts := C.2.2.2.2.1
  intro f
  induction f with
  | zero =>
    intro x1 x2 x3 x4 x5 x6 σ H locs ls h hH hl
    cases h
  | succ f ih =>
    intro x1 x2 x3 x4 x5 x6 σ H locs ls h hH hl
    rw [FX12_swap_51] at h
    refine lv_iload hx hb dX12_swap_51 (lv_at hl 6 rfl) ?_
    refine lv_aload_n hx hb dX12_swap_53 rfl (lv_at hl 0 rfl) ?_
    obtain ⟨r_1, σ_2, hc_3, h⟩ := bdI_ex h
    refine g_ci (g_runV (rest := [.int x6]) C hH hl.1 cV_X12_306 0 (Nat.le_of_ble_eq_true rfl) rfl rfl (kX12_many l D ad κ hc_3) ⟨rfl, rfl⟩ ⟨(Nat.le_of_ble_eq_true rfl), (Nat.le_of_ble_eq_true rfl)⟩ rfl rfl (Nat.le_of_ble_eq_true rfl) dX12_swap_54 z00) hH (fun H locs hH => ?_)
    refine lv_icmp_ge (tgt := 108) hx hb dX12_swap_57 (by decide) (fun hq_4 => ?_) (fun hq_4 => ?_)
    · rw [if_pos hq_4] at h
      refine lv_iinc (v := (x5 + 1)) (lv' := [(5, .int (x5 + 1)), (0, .ref (ad 0)), (1, .int x1), (2, .int x2), (3, .int x3), (4, .int x4), (6, .int x6)]) hx hb dX12_swap_108 hl (k := 5) rfl rfl (by decide) rfl (fun ls hl => ?_)
      refine lv_goto (tgt := 36) hx hb dX12_swap_111 (by decide) ?_
      exact K36 _ _ _ _ _ _ _ _ _ h hH (lv_sub hl [1, 2, 3, 4, 5, 0] rfl)
    · rw [if_neg hq_4] at h
      refine lv_aload_n hx hb dX12_swap_60 rfl (lv_at hl 0 rfl) ?_
      refine lv_iload hx hb dX12_swap_61 (lv_at hl 5 rfl) ?_
      refine lv_iload hx hb dX12_swap_63 (lv_at hl 6 rfl) ?_
      obtain ⟨σ_5, hc_6, h⟩ := bdV_ex h
      refine g_cv (g_runV (rest := []) C hH hl.1 cV_X12_384 0 (Nat.le_of_ble_eq_true rfl) rfl rfl (kX12_changesFor l D ad κ hc_6) ⟨rfl, rfl⟩ ⟨(Nat.le_of_ble_eq_true rfl), (Nat.le_of_ble_eq_true rfl)⟩ rfl rfl (Nat.le_of_ble_eq_true rfl) dX12_swap_65 z00) hH (fun H locs hH => ?_)
      refine lv_aload_n hx hb dX12_swap_68 rfl (lv_at hl 0 rfl) ?_
      obtain ⟨σ_7, hc_8, h⟩ := bdV_ex h
      refine g_cv (g_runV (rest := []) C hH hl.1 cV_X12_403 0 (Nat.le_of_ble_eq_true rfl) rfl rfl (kX12_fillsFalls l D ad κ hc_8) ⟨rfl, rfl⟩ ⟨(Nat.le_of_ble_eq_true rfl), (Nat.le_of_ble_eq_true rfl)⟩ rfl rfl (Nat.le_of_ble_eq_true rfl) dX12_swap_69 z00) hH (fun H locs hH => ?_)
      refine lv_aload_n hx hb dX12_swap_72 rfl (lv_at hl 0 rfl) ?_
      refine lv_iload_n hx hb dX12_swap_73 rfl (lv_at hl 1 rfl) ?_
      obtain ⟨r_9, σ_10, hc_11, h⟩ := bdI_ex h
      refine g_ci (g_runV (rest := []) C hH hl.1 cV_X12_415 0 (Nat.le_of_ble_eq_true rfl) rfl rfl (kX12_haveOf l D ad κ hc_11) ⟨rfl, rfl⟩ ⟨(Nat.le_of_ble_eq_true rfl), (Nat.le_of_ble_eq_true rfl)⟩ rfl rfl (Nat.le_of_ble_eq_true rfl) dX12_swap_74 z00) hH (fun H locs hH => ?_)
      refine lv_istore (lv' := [(7, .int r_9), (0, .ref (ad 0)), (1, .int x1), (2, .int x2), (3, .int x3), (4, .int x4), (5, .int x5), (6, .int x6)]) hx hb dX12_swap_77 hl (by decide) rfl (fun ls hl => ?_)
      refine lv_iload hx hb dX12_swap_79 (lv_at hl 0 rfl) ?_
      refine lv_iload hx hb dX12_swap_81 (lv_at hl 5 rfl) ?_
      refine lv_icmp_gt (tgt := 89) hx hb dX12_swap_83 (by decide) (fun hq_12 => ?_) (fun hq_12 => ?_)
      · rw [if_pos hq_12] at h
        refine lv_bipush (v := 10) hx hb dX12_swap_89 (by decide) ?_
        refine lv_iload hx hb dX12_swap_91 (lv_at hl 6 rfl) ?_
        refine lv_imul hx hb dX12_swap_93 ?_
        refine lv_iload hx hb dX12_swap_94 (lv_at hl 7 rfl) ?_
        refine lv_iadd hx hb dX12_swap_96 ?_
        obtain ⟨x3_13, ex3_13, h⟩ := hl_ex h
        refine lv_eqi ex3_13 ?_
        refine lv_istore_n (lv' := [(3, .int x3_13), (7, .int r_9), (0, .ref (ad 0)), (1, .int x1), (2, .int x2), (4, .int x4), (5, .int x5), (6, .int x6)]) hx hb dX12_swap_97 rfl hl (by decide) rfl (fun ls hl => ?_)
        refine lv_iload hx hb dX12_swap_98 (lv_at hl 1 rfl) ?_
        refine lv_istore (lv' := [(4, .int r_9), (3, .int x3_13), (7, .int r_9), (0, .ref (ad 0)), (1, .int x1), (2, .int x2), (5, .int x5), (6, .int x6)]) hx hb dX12_swap_100 hl (by decide) rfl (fun ls hl => ?_)
        refine lv_iinc (v := (x6 + 1)) (lv' := [(6, .int (x6 + 1)), (4, .int r_9), (3, .int x3_13), (7, .int r_9), (0, .ref (ad 0)), (1, .int x1), (2, .int x2), (5, .int x5)]) hx hb dX12_swap_102 hl (k := 7) rfl rfl (by decide) rfl (fun ls hl => ?_)
        refine lv_goto (tgt := 51) hx hb dX12_swap_105 (by decide) ?_
        exact ih _ _ _ _ _ _ _ _ _ _ h hH (lv_sub hl [4, 5, 6, 2, 1, 7, 0] rfl)
      · rw [if_neg hq_12] at h
        refine lv_goto (tgt := 102) hx hb dX12_swap_86 (by decide) ?_
        refine lv_iinc (v := (x6 + 1)) (lv' := [(6, .int (x6 + 1)), (7, .int r_9), (0, .ref (ad 0)), (1, .int x1), (2, .int x2), (3, .int x3), (4, .int x4), (5, .int x5)]) hx hb dX12_swap_102 hl (k := 7) rfl rfl (by decide) rfl (fun ls hl => ?_)
        refine lv_goto (tgt := 51) hx hb dX12_swap_105 (by decide) ?_
        exact ih _ _ _ _ _ _ _ _ _ _ h hH (lv_sub hl [2, 3, 4, 5, 6, 7, 0] rfl)
set_option maxHeartbeats 4000000 in
set_option maxRecDepth 100000 in
theorem wX12_swap_36 (C : Cx 45 D ad κ p s m args meth c cX12_swap RX12 8 (some .int)) {R : (Int32 × HS)} : ∀ (f : Nat) (x1 : Int32) (x2 : Int32) (x3 : Int32) (x4 : Int32) (x5 : Int32) (σ : HS) (H : Heap) (locs : List Loc) (ls : Array Slot), FX12_swap_36  f x1 x2 x3 x4 x5 σ = some R → Hd 45 ceM D ad κ s σ H locs → lv_has ls 8 [(0, .ref (ad 0)), (1, .int x1), (2, .int x2), (3, .int x3), (4, .int x4), (5, .int x5)] → W p l e ({ frames := 5, cells := 0, slots := 0, locals := 123 } : Room) s m args below meth c H locs 0 0 (MQ below (QI 45 ceM D ad κ R) args s 0 0 (AX 45 ad)) (F0 m 36 ls []) := by
  have hx := C.1
  have hb := C.2.1
  have hown := C.2.2.2.1
  have hts := C.2.2.2.2.1
  intro f
  induction f with
  | zero =>
    intro x1 x2 x3 x4 x5 σ H locs ls h hH hl
    cases h
  | succ f ih =>
    intro x1 x2 x3 x4 x5 σ H locs ls h hH hl
    rw [FX12_swap_36] at h
    refine lv_iload hx hb dX12_swap_36 (lv_at hl 5 rfl) ?_
    refine lv_aload_n hx hb dX12_swap_38 rfl (lv_at hl 0 rfl) ?_
    obtain ⟨r_14, σ_15, hc_16, h⟩ := bdI_ex h
    refine g_ci (g_runV (rest := [.int x5]) C hH hl.1 cV_X12_306 0 (Nat.le_of_ble_eq_true rfl) rfl rfl (kX12_many l D ad κ hc_16) ⟨rfl, rfl⟩ ⟨(Nat.le_of_ble_eq_true rfl), (Nat.le_of_ble_eq_true rfl)⟩ rfl rfl (Nat.le_of_ble_eq_true rfl) dX12_swap_39 z00) hH (fun H locs hH => ?_)
    refine lv_icmp_ge (tgt := 114) hx hb dX12_swap_42 (by decide) (fun hq_17 => ?_) (fun hq_17 => ?_)
    · rw [if_pos hq_17] at h
      refine lv_iload_n hx hb dX12_swap_114 rfl (lv_at hl 3 rfl) ?_
      refine lv_if_lt (tgt := 122) hx hb dX12_swap_115 (by decide) (fun hq_18 => ?_) (fun hq_18 => ?_)
      · rw [if_pos hq_18] at h
        refine lv_iload_n hx hb dX12_swap_122 rfl (lv_at hl 3 rfl) ?_
        refine lv_goto (tgt := 128) hx hb dX12_swap_123 (by decide) ?_
        exact g_ret C hH h dX12_swap_128
      · rw [if_neg hq_18] at h
        refine lv_iload_n hx hb dX12_swap_118 rfl (lv_at hl 2 rfl) ?_
        refine lv_if_ne (tgt := 126) hx hb dX12_swap_119 (by decide) (fun hq_19 => ?_) (fun hq_19 => ?_)
        · rw [if_neg hq_19] at h
          refine lv_iload hx hb dX12_swap_126 (lv_at hl 4 rfl) ?_
          exact g_ret C hH h dX12_swap_128
        · rw [if_pos hq_19] at h
          refine lv_iload_n hx hb dX12_swap_122 rfl (lv_at hl 3 rfl) ?_
          refine lv_goto (tgt := 128) hx hb dX12_swap_123 (by decide) ?_
          exact g_ret C hH h dX12_swap_128
    · rw [if_neg hq_17] at h
      refine lv_iload hx hb dX12_swap_45 (lv_at hl 5 rfl) ?_
      refine lv_iconst (v := 1) hx hb dX12_swap_47 (by decide) ?_
      refine lv_iadd hx hb dX12_swap_48 ?_
      obtain ⟨x6_20, ex6_20, h⟩ := hl_ex h
      refine lv_eqi ex6_20 ?_
      refine lv_istore (lv' := [(6, .int x6_20), (0, .ref (ad 0)), (1, .int x1), (2, .int x2), (3, .int x3), (4, .int x4), (5, .int x5)]) hx hb dX12_swap_49 hl (by decide) rfl (fun ls hl => ?_)
      exact wX12_swap_51 C ih _ _ _ _ _ _ _ _ _ _ _ h hH (lv_sub hl [1, 2, 3, 4, 5, 6, 0] rfl)
set_option maxHeartbeats 4000000 in
set_option maxRecDepth 100000 in
theorem kX12_swap (l : Launch) (D : va_G) (ad : Nat → Nat) (κ : KC) {x1 : Int32} {x2 : Int32} {σ : HS} {R : (Int32 × HS)} (h : FX12_swap x1 x2 σ = some R) : MtI l 45 ceM D ad κ yX12_swap cX12_swap 8 (some .int) ({ frames := 5, cells := 0, slots := 0, locals := 123 } : Room) [.ref (ad 0), .int x1, .int x2] σ R := by
  refine open_ (by decide) (Nat.le_of_ble_eq_true rfl) (la := [(0, .ref (ad 0)), (1, .int x1), (2, .int x2)]) rfl ?_
  intro p e s m below meth c ls C hH hl
  replace C : Cx 45 D ad κ p s m _ meth c cX12_swap RX12 8 (some .int) := C
  have hx := C.1
  have hb := C.2.1
  have hown := C.2.2.2.1
  have hts := C.2.2.2.2.1
  rw [FX12_swap] at h
  refine lv_aload_n hx hb dX12_swap_0 rfl (lv_at hl 0 rfl) ?_
  refine lv_iload_n hx hb dX12_swap_1 rfl (lv_at hl 1 rfl) ?_
  obtain ⟨r_21, σ_22, hc_23, h⟩ := bdI_ex h
  refine g_ci (g_runV (rest := []) C hH hl.1 cV_X12_372 0 (Nat.le_of_ble_eq_true rfl) rfl rfl (kX12_isFamily l D ad κ hc_23) ⟨rfl, rfl⟩ ⟨(Nat.le_of_ble_eq_true rfl), (Nat.le_of_ble_eq_true rfl)⟩ rfl rfl (Nat.le_of_ble_eq_true rfl) dX12_swap_2 z00) hH (fun H locs hH => ?_)
  refine lv_if_eq (tgt := 17) hx hb dX12_swap_5 (by decide) (fun hq_24 => ?_) (fun hq_24 => ?_)
  · rw [if_pos hq_24] at h
    refine lv_iconst (v := (-1)) hx hb dX12_swap_17 (by decide) ?_
    exact g_ret C hH h dX12_swap_18
  · rw [if_neg hq_24] at h
    refine lv_iload_n hx hb dX12_swap_8 rfl (lv_at hl 2 rfl) ?_
    refine lv_iconst (v := 0) hx hb dX12_swap_9 (by decide) ?_
    refine lv_iconst (v := 1) hx hb dX12_swap_10 (by decide) ?_
    obtain ⟨r_25, σ_26, hc_27, h⟩ := bdI_ex h
    refine g_ci (g_runS (rest := []) C hH hl.1 cS_X12_310 (kX12_in l D ad κ hc_27) ⟨rfl, rfl⟩ ⟨(Nat.le_of_ble_eq_true rfl), (Nat.le_of_ble_eq_true rfl)⟩ rfl rfl (Nat.le_of_ble_eq_true rfl) dX12_swap_11 z00) hH (fun H locs hH => ?_)
    refine lv_if_ne (tgt := 19) hx hb dX12_swap_14 (by decide) (fun hq_28 => ?_) (fun hq_28 => ?_)
    · rw [if_neg hq_28] at h
      refine lv_aload_n hx hb dX12_swap_19 rfl (lv_at hl 0 rfl) ?_
      obtain ⟨σ_29, hc_30, h⟩ := bdV_ex h
      refine g_cv (g_runV (rest := []) C hH hl.1 cV_X12_406 0 (Nat.le_of_ble_eq_true rfl) rfl rfl (kX12_copiesFalls l D ad κ hc_30) ⟨rfl, rfl⟩ ⟨(Nat.le_of_ble_eq_true rfl), (Nat.le_of_ble_eq_true rfl)⟩ rfl rfl (Nat.le_of_ble_eq_true rfl) dX12_swap_20 z00) hH (fun H locs hH => ?_)
      refine lv_bipush (v := (-2)) hx hb dX12_swap_23 (by decide) ?_
      refine lv_istore_n (lv' := [(3, .int (-2 : Int32)), (0, .ref (ad 0)), (1, .int x1), (2, .int x2)]) hx hb dX12_swap_25 rfl hl (by decide) rfl (fun ls hl => ?_)
      refine lv_aload_n hx hb dX12_swap_26 rfl (lv_at hl 1 rfl) ?_
      refine lv_iload_n hx hb dX12_swap_27 rfl (lv_at hl 2 rfl) ?_
      obtain ⟨r_31, σ_32, hc_33, h⟩ := bdI_ex h
      refine g_ci (g_runV (rest := []) C hH hl.1 cV_X12_415 0 (Nat.le_of_ble_eq_true rfl) rfl rfl (kX12_haveOf l D ad κ hc_33) ⟨rfl, rfl⟩ ⟨(Nat.le_of_ble_eq_true rfl), (Nat.le_of_ble_eq_true rfl)⟩ rfl rfl (Nat.le_of_ble_eq_true rfl) dX12_swap_28 z00) hH (fun H locs hH => ?_)
      refine lv_istore (lv' := [(4, .int r_31), (3, .int (-2 : Int32)), (0, .ref (ad 0)), (1, .int x1), (2, .int x2)]) hx hb dX12_swap_31 hl (by decide) rfl (fun ls hl => ?_)
      refine lv_iconst (v := 0) hx hb dX12_swap_33 (by decide) ?_
      refine lv_istore (lv' := [(5, .int (0 : Int32)), (4, .int r_31), (3, .int (-2 : Int32)), (0, .ref (ad 0)), (1, .int x1), (2, .int x2)]) hx hb dX12_swap_34 hl (by decide) rfl (fun ls hl => ?_)
      exact wX12_swap_36 C _ _ _ _ _ _ _ _ _ _ h hH (lv_sub hl [3, 4, 5, 2, 1, 0] rfl)
    · rw [if_pos hq_28] at h
      refine lv_iconst (v := (-1)) hx hb dX12_swap_17 (by decide) ?_
      exact g_ret C hH h dX12_swap_18
-- X12_moreBy
def FX12_moreBy (x1 : Int32) (x2 : Int32) (σ : HS) : Option (Int32 × HS) :=
  bdI (FX12_isFamily x1 σ) fun r_1 σ_2 => if r_1 = 0 then some ((-100000000 : Int32), σ_2) else bdV (FX12_copiesFalls σ_2) fun σ_5 => bdI (FX12_haveOf x1 σ_5) fun r_7 σ_8 => gd (ix x2 33) (if (σ_8.1 32 (x2.toNatClampNeg)) = (9 : Int32) then some ((0 : Int32), σ_8) else gd (ix x2 33) (gd (ix x2 33) (hl_ (pI σ_8 32 (x2.toNatClampNeg) ((σ_8.1 32 (x2.toNatClampNeg)) + (1 : Int32))) fun σ_14 => bdV (FX12_fillsFalls σ_14) fun σ_15 => bdI (FX12_haveOf x1 σ_15) fun r_17 σ_18 => some ((r_17 - r_7), σ_18))))
set_option maxHeartbeats 4000000 in
set_option maxRecDepth 100000 in
theorem kX12_moreBy (l : Launch) (D : va_G) (ad : Nat → Nat) (κ : KC) {x1 : Int32} {x2 : Int32} {σ : HS} {R : (Int32 × HS)} (h : FX12_moreBy x1 x2 σ = some R) : MtI l 45 ceM D ad κ yX12_moreBy cX12_moreBy 4 (some .int) ({ frames := 5, cells := 0, slots := 0, locals := 123 } : Room) [.ref (ad 0), .int x1, .int x2] σ R := by
  refine open_ (by decide) (Nat.le_of_ble_eq_true rfl) (la := [(0, .ref (ad 0)), (1, .int x1), (2, .int x2)]) rfl ?_
  intro p e s m below meth c ls C hH hl
  replace C : Cx 45 D ad κ p s m _ meth c cX12_moreBy RX12 4 (some .int) := C
  have hx := C.1
  have hb := C.2.1
  have hown := C.2.2.2.1
  have hts := C.2.2.2.2.1
  rw [FX12_moreBy] at h
  refine lv_aload_n hx hb dX12_moreBy_0 rfl (lv_at hl 0 rfl) ?_
  refine lv_iload_n hx hb dX12_moreBy_1 rfl (lv_at hl 1 rfl) ?_
  obtain ⟨r_1, σ_2, hc_3, h⟩ := bdI_ex h
  refine g_ci (g_runV (rest := []) C hH hl.1 cV_X12_372 0 (Nat.le_of_ble_eq_true rfl) rfl rfl (kX12_isFamily l D ad κ hc_3) ⟨rfl, rfl⟩ ⟨(Nat.le_of_ble_eq_true rfl), (Nat.le_of_ble_eq_true rfl)⟩ rfl rfl (Nat.le_of_ble_eq_true rfl) dX12_moreBy_2 z00) hH (fun H locs hH => ?_)
  refine lv_if_ne (tgt := 12) hx hb dX12_moreBy_5 (by decide) (fun hq_4 => ?_) (fun hq_4 => ?_)
  · rw [if_neg hq_4] at h
    refine lv_aload_n hx hb dX12_moreBy_12 rfl (lv_at hl 0 rfl) ?_
    obtain ⟨σ_5, hc_6, h⟩ := bdV_ex h
    refine g_cv (g_runV (rest := []) C hH hl.1 cV_X12_406 0 (Nat.le_of_ble_eq_true rfl) rfl rfl (kX12_copiesFalls l D ad κ hc_6) ⟨rfl, rfl⟩ ⟨(Nat.le_of_ble_eq_true rfl), (Nat.le_of_ble_eq_true rfl)⟩ rfl rfl (Nat.le_of_ble_eq_true rfl) dX12_moreBy_13 z00) hH (fun H locs hH => ?_)
    refine lv_aload_n hx hb dX12_moreBy_16 rfl (lv_at hl 0 rfl) ?_
    refine lv_iload_n hx hb dX12_moreBy_17 rfl (lv_at hl 1 rfl) ?_
    obtain ⟨r_7, σ_8, hc_9, h⟩ := bdI_ex h
    refine g_ci (g_runV (rest := []) C hH hl.1 cV_X12_415 0 (Nat.le_of_ble_eq_true rfl) rfl rfl (kX12_haveOf l D ad κ hc_9) ⟨rfl, rfl⟩ ⟨(Nat.le_of_ble_eq_true rfl), (Nat.le_of_ble_eq_true rfl)⟩ rfl rfl (Nat.le_of_ble_eq_true rfl) dX12_moreBy_18 z00) hH (fun H locs hH => ?_)
    refine lv_istore_n (lv' := [(3, .int r_7), (0, .ref (ad 0)), (1, .int x1), (2, .int x2)]) hx hb dX12_moreBy_21 rfl hl (by decide) rfl (fun ls hl => ?_)
    refine lv_aload_n hx hb dX12_moreBy_22 rfl (lv_at hl 1 rfl) ?_
    refine g_get C hH 0 (Nat.le_of_ble_eq_true rfl) rfl fl_X12_113 (v := .ref (ad 32)) rfl dX12_moreBy_23 ?_
    refine lv_iload_n hx hb dX12_moreBy_26 rfl (lv_at hl 3 rfl) ?_
    obtain ⟨hi_10, h⟩ := gd_ex h
    refine g_iald C hH 32 (Nat.le_of_ble_eq_true rfl) rfl (k := (x2.toNatClampNeg)) rfl (ix_in hi_10) dX12_moreBy_27 ?_
    refine lv_bipush (v := 9) hx hb dX12_moreBy_28 (by decide) ?_
    refine lv_icmp_ne (tgt := 35) hx hb dX12_moreBy_30 (by decide) (fun hq_11 => ?_) (fun hq_11 => ?_)
    · rw [if_neg hq_11] at h
      refine lv_aload_n hx hb dX12_moreBy_35 rfl (lv_at hl 1 rfl) ?_
      refine g_get C hH 0 (Nat.le_of_ble_eq_true rfl) rfl fl_X12_113 (v := .ref (ad 32)) rfl dX12_moreBy_36 ?_
      refine lv_iload_n hx hb dX12_moreBy_39 rfl (lv_at hl 3 rfl) ?_
      refine lv_dup2_11 hx hb dX12_moreBy_40 rfl rfl ?_
      obtain ⟨hi_12, h⟩ := gd_ex h
      refine g_iald C hH 32 (Nat.le_of_ble_eq_true rfl) rfl (k := (x2.toNatClampNeg)) rfl (ix_in hi_12) dX12_moreBy_41 ?_
      refine lv_iconst (v := 1) hx hb dX12_moreBy_42 (by decide) ?_
      refine lv_iadd hx hb dX12_moreBy_43 ?_
      obtain ⟨hi_13, h⟩ := gd_ex h
      obtain ⟨σ_14, eσ_14, h⟩ := hl_ex h
      refine g_iast C hH 32 (Nat.le_of_ble_eq_true rfl) (fun _ _ => rfl) (k := (x2.toNatClampNeg)) rfl (ix_in hi_13) dX12_moreBy_44 (fun H locs hH => ?_)
      rw [← eσ_14] at hH
      refine lv_aload_n hx hb dX12_moreBy_45 rfl (lv_at hl 1 rfl) ?_
      obtain ⟨σ_15, hc_16, h⟩ := bdV_ex h
      refine g_cv (g_runV (rest := []) C hH hl.1 cV_X12_403 0 (Nat.le_of_ble_eq_true rfl) rfl rfl (kX12_fillsFalls l D ad κ hc_16) ⟨rfl, rfl⟩ ⟨(Nat.le_of_ble_eq_true rfl), (Nat.le_of_ble_eq_true rfl)⟩ rfl rfl (Nat.le_of_ble_eq_true rfl) dX12_moreBy_46 z00) hH (fun H locs hH => ?_)
      refine lv_aload_n hx hb dX12_moreBy_49 rfl (lv_at hl 1 rfl) ?_
      refine lv_iload_n hx hb dX12_moreBy_50 rfl (lv_at hl 2 rfl) ?_
      obtain ⟨r_17, σ_18, hc_19, h⟩ := bdI_ex h
      refine g_ci (g_runV (rest := []) C hH hl.1 cV_X12_415 0 (Nat.le_of_ble_eq_true rfl) rfl rfl (kX12_haveOf l D ad κ hc_19) ⟨rfl, rfl⟩ ⟨(Nat.le_of_ble_eq_true rfl), (Nat.le_of_ble_eq_true rfl)⟩ rfl rfl (Nat.le_of_ble_eq_true rfl) dX12_moreBy_51 z00) hH (fun H locs hH => ?_)
      refine lv_iload_n hx hb dX12_moreBy_54 rfl (lv_at hl 0 rfl) ?_
      refine lv_isub hx hb dX12_moreBy_55 ?_
      exact g_ret C hH h dX12_moreBy_56
    · rw [if_pos hq_11] at h
      refine lv_iconst (v := 0) hx hb dX12_moreBy_33 (by decide) ?_
      exact g_ret C hH h dX12_moreBy_34
  · rw [if_pos hq_4] at h
    refine lv_ldcw (v := (-100000000)) hx hb hown (hts _ kc_X12_421) dX12_moreBy_8 ?_
    exact g_ret C hH h dX12_moreBy_11
-- X12_pepper
def FX12_pepper (x1 : Int32) (σ : HS) : Option (Int32 × HS) :=
  bdI (FX12_moreBy x1 (18 : Int32) σ) fun r_1 σ_2 => some (r_1, σ_2)
set_option maxHeartbeats 4000000 in
set_option maxRecDepth 100000 in
theorem kX12_pepper (l : Launch) (D : va_G) (ad : Nat → Nat) (κ : KC) {x1 : Int32} {σ : HS} {R : (Int32 × HS)} (h : FX12_pepper x1 σ = some R) : MtI l 45 ceM D ad κ yX12_pepper cX12_pepper 2 (some .int) ({ frames := 6, cells := 0, slots := 0, locals := 146 } : Room) [.ref (ad 0), .int x1] σ R := by
  refine open_ (by decide) (Nat.le_of_ble_eq_true rfl) (la := [(0, .ref (ad 0)), (1, .int x1)]) rfl ?_
  intro p e s m below meth c ls C hH hl
  replace C : Cx 45 D ad κ p s m _ meth c cX12_pepper RX12 2 (some .int) := C
  have hx := C.1
  have hb := C.2.1
  have hown := C.2.2.2.1
  have hts := C.2.2.2.2.1
  rw [FX12_pepper] at h
  refine lv_aload_n hx hb dX12_pepper_0 rfl (lv_at hl 0 rfl) ?_
  refine lv_iload_n hx hb dX12_pepper_1 rfl (lv_at hl 1 rfl) ?_
  refine lv_bipush (v := 18) hx hb dX12_pepper_2 (by decide) ?_
  obtain ⟨r_1, σ_2, hc_3, h⟩ := bdI_ex h
  refine g_ci (g_runV (rest := []) C hH hl.1 cV_X12_422 0 (Nat.le_of_ble_eq_true rfl) rfl rfl (kX12_moreBy l D ad κ hc_3) ⟨rfl, rfl⟩ ⟨(Nat.le_of_ble_eq_true rfl), (Nat.le_of_ble_eq_true rfl)⟩ rfl rfl (Nat.le_of_ble_eq_true rfl) dX12_pepper_4 z00) hH (fun H locs hH => ?_)
  exact g_ret C hH h dX12_pepper_7
-- X12_soothes
def FX12_soothes (x1 : Int32) (σ : HS) : Option (Int32 × HS) :=
  bdI (FX12_moreBy x1 (19 : Int32) σ) fun r_1 σ_2 => some (r_1, σ_2)
set_option maxHeartbeats 4000000 in
set_option maxRecDepth 100000 in
theorem kX12_soothes (l : Launch) (D : va_G) (ad : Nat → Nat) (κ : KC) {x1 : Int32} {σ : HS} {R : (Int32 × HS)} (h : FX12_soothes x1 σ = some R) : MtI l 45 ceM D ad κ yX12_soothes cX12_soothes 2 (some .int) ({ frames := 6, cells := 0, slots := 0, locals := 146 } : Room) [.ref (ad 0), .int x1] σ R := by
  refine open_ (by decide) (Nat.le_of_ble_eq_true rfl) (la := [(0, .ref (ad 0)), (1, .int x1)]) rfl ?_
  intro p e s m below meth c ls C hH hl
  replace C : Cx 45 D ad κ p s m _ meth c cX12_soothes RX12 2 (some .int) := C
  have hx := C.1
  have hb := C.2.1
  have hown := C.2.2.2.1
  have hts := C.2.2.2.2.1
  rw [FX12_soothes] at h
  refine lv_aload_n hx hb dX12_soothes_0 rfl (lv_at hl 0 rfl) ?_
  refine lv_iload_n hx hb dX12_soothes_1 rfl (lv_at hl 1 rfl) ?_
  refine lv_bipush (v := 19) hx hb dX12_soothes_2 (by decide) ?_
  obtain ⟨r_1, σ_2, hc_3, h⟩ := bdI_ex h
  refine g_ci (g_runV (rest := []) C hH hl.1 cV_X12_422 0 (Nat.le_of_ble_eq_true rfl) rfl rfl (kX12_moreBy l D ad κ hc_3) ⟨rfl, rfl⟩ ⟨(Nat.le_of_ble_eq_true rfl), (Nat.le_of_ble_eq_true rfl)⟩ rfl rfl (Nat.le_of_ble_eq_true rfl) dX12_soothes_4 z00) hH (fun H locs hH => ?_)
  exact g_ret C hH h dX12_soothes_7
-- X12_copiesGame
def FX12_copiesGame (x1 : Int32) (x2 : Int32) (σ : HS) : Option HS :=
  bdV (FX12_copies σ) fun σ_1 => bdI (FX12_within ((σ_1.1 32 18) + x1) (0 : Int32) (9 : Int32) σ_1) fun r_3 σ_4 => hl_ (pI σ_4 32 18 r_3) fun σ_6 => bdI (FX12_within ((σ_6.1 32 19) + x2) (0 : Int32) (9 : Int32) σ_6) fun r_7 σ_8 => hl_ (pI σ_8 32 19 r_7) fun σ_10 => bdV (FX12_fillsFalls σ_10) fun σ_11 => some σ_11
set_option maxHeartbeats 4000000 in
set_option maxRecDepth 100000 in
theorem kX12_copiesGame (l : Launch) (D : va_G) (ad : Nat → Nat) (κ : KC) {x1 : Int32} {x2 : Int32} {σ : HS} {R : HS} (h : FX12_copiesGame x1 x2 σ = some R) : MtV l 45 ceM D ad κ yX12_copiesGame cX12_copiesGame 3 none ({ frames := 4, cells := 0, slots := 0, locals := 97 } : Room) [.ref (ad 0), .int x1, .int x2] σ R := by
  refine open_ (by decide) (Nat.le_of_ble_eq_true rfl) (la := [(0, .ref (ad 0)), (1, .int x1), (2, .int x2)]) rfl ?_
  intro p e s m below meth c ls C hH hl
  replace C : Cx 45 D ad κ p s m _ meth c cX12_copiesGame RX12 3 none := C
  have hx := C.1
  have hb := C.2.1
  have hown := C.2.2.2.1
  have hts := C.2.2.2.2.1
  rw [FX12_copiesGame] at h
  refine lv_aload_n hx hb dX12_copiesGame_0 rfl (lv_at hl 0 rfl) ?_
  obtain ⟨σ_1, hc_2, h⟩ := bdV_ex h
  refine g_cv (g_runV (rest := []) C hH hl.1 cV_X12_369 0 (Nat.le_of_ble_eq_true rfl) rfl rfl (kX12_copies l D ad κ hc_2) ⟨rfl, rfl⟩ ⟨(Nat.le_of_ble_eq_true rfl), (Nat.le_of_ble_eq_true rfl)⟩ rfl rfl (Nat.le_of_ble_eq_true rfl) dX12_copiesGame_1 z00) hH (fun H locs hH => ?_)
  refine lv_aload_n hx hb dX12_copiesGame_4 rfl (lv_at hl 0 rfl) ?_
  refine g_get C hH 0 (Nat.le_of_ble_eq_true rfl) rfl fl_X12_113 (v := .ref (ad 32)) rfl dX12_copiesGame_5 ?_
  refine lv_bipush (v := 18) hx hb dX12_copiesGame_8 (by decide) ?_
  refine lv_aload_n hx hb dX12_copiesGame_10 rfl (lv_at hl 0 rfl) ?_
  refine g_get C hH 0 (Nat.le_of_ble_eq_true rfl) rfl fl_X12_113 (v := .ref (ad 32)) rfl dX12_copiesGame_11 ?_
  refine lv_bipush (v := 18) hx hb dX12_copiesGame_14 (by decide) ?_
  refine g_iald C hH 32 (Nat.le_of_ble_eq_true rfl) rfl (k := 18) (by decide) (ix_in rfl) dX12_copiesGame_16 ?_
  refine lv_iload_n hx hb dX12_copiesGame_17 rfl (lv_at hl 1 rfl) ?_
  refine lv_iadd hx hb dX12_copiesGame_18 ?_
  refine lv_iconst (v := 0) hx hb dX12_copiesGame_19 (by decide) ?_
  refine lv_bipush (v := 9) hx hb dX12_copiesGame_20 (by decide) ?_
  obtain ⟨r_3, σ_4, hc_5, h⟩ := bdI_ex h
  refine g_ci (g_runS (rest := [.int (18 : Int32), .ref (ad 32)]) C hH hl.1 cS_X12_330 (kX12_within l D ad κ hc_5) ⟨rfl, rfl⟩ ⟨(Nat.le_of_ble_eq_true rfl), (Nat.le_of_ble_eq_true rfl)⟩ rfl rfl (Nat.le_of_ble_eq_true rfl) dX12_copiesGame_22 z00) hH (fun H locs hH => ?_)
  obtain ⟨σ_6, eσ_6, h⟩ := hl_ex h
  refine g_iast C hH 32 (Nat.le_of_ble_eq_true rfl) (fun _ _ => rfl) (k := 18) (by decide) (ix_in rfl) dX12_copiesGame_25 (fun H locs hH => ?_)
  rw [← eσ_6] at hH
  refine lv_aload_n hx hb dX12_copiesGame_26 rfl (lv_at hl 0 rfl) ?_
  refine g_get C hH 0 (Nat.le_of_ble_eq_true rfl) rfl fl_X12_113 (v := .ref (ad 32)) rfl dX12_copiesGame_27 ?_
  refine lv_bipush (v := 19) hx hb dX12_copiesGame_30 (by decide) ?_
  refine lv_aload_n hx hb dX12_copiesGame_32 rfl (lv_at hl 0 rfl) ?_
  refine g_get C hH 0 (Nat.le_of_ble_eq_true rfl) rfl fl_X12_113 (v := .ref (ad 32)) rfl dX12_copiesGame_33 ?_
  refine lv_bipush (v := 19) hx hb dX12_copiesGame_36 (by decide) ?_
  refine g_iald C hH 32 (Nat.le_of_ble_eq_true rfl) rfl (k := 19) (by decide) (ix_in rfl) dX12_copiesGame_38 ?_
  refine lv_iload_n hx hb dX12_copiesGame_39 rfl (lv_at hl 2 rfl) ?_
  refine lv_iadd hx hb dX12_copiesGame_40 ?_
  refine lv_iconst (v := 0) hx hb dX12_copiesGame_41 (by decide) ?_
  refine lv_bipush (v := 9) hx hb dX12_copiesGame_42 (by decide) ?_
  obtain ⟨r_7, σ_8, hc_9, h⟩ := bdI_ex h
  refine g_ci (g_runS (rest := [.int (19 : Int32), .ref (ad 32)]) C hH hl.1 cS_X12_330 (kX12_within l D ad κ hc_9) ⟨rfl, rfl⟩ ⟨(Nat.le_of_ble_eq_true rfl), (Nat.le_of_ble_eq_true rfl)⟩ rfl rfl (Nat.le_of_ble_eq_true rfl) dX12_copiesGame_44 z00) hH (fun H locs hH => ?_)
  obtain ⟨σ_10, eσ_10, h⟩ := hl_ex h
  refine g_iast C hH 32 (Nat.le_of_ble_eq_true rfl) (fun _ _ => rfl) (k := 19) (by decide) (ix_in rfl) dX12_copiesGame_47 (fun H locs hH => ?_)
  rw [← eσ_10] at hH
  refine lv_aload_n hx hb dX12_copiesGame_48 rfl (lv_at hl 0 rfl) ?_
  obtain ⟨σ_11, hc_12, h⟩ := bdV_ex h
  refine g_cv (g_runV (rest := []) C hH hl.1 cV_X12_403 0 (Nat.le_of_ble_eq_true rfl) rfl rfl (kX12_fillsFalls l D ad κ hc_12) ⟨rfl, rfl⟩ ⟨(Nat.le_of_ble_eq_true rfl), (Nat.le_of_ble_eq_true rfl)⟩ rfl rfl (Nat.le_of_ble_eq_true rfl) dX12_copiesGame_49 z00) hH (fun H locs hH => ?_)
  exact g_retV C hH h dX12_copiesGame_52
-- X12_sweetFor
def FX12_sweetFor_8  : Nat → Int32 → Int32 → Int32 → Int32 → Int32 → HS → Option (Int32 × HS)
  | 0, _, _, _, _, _, _ => none
  | f + 1, x1, x2, x3, x4, x5, σ => if (4 : Int32) ≤ x5 then some (x3, σ) else bdV (FX12_copiesGame x2 x5 σ) fun σ_2 => bdI (FX12_haveOf x1 σ_2) fun r_4 σ_5 => if x4 < r_4 then FX12_sweetFor_8  f x1 x2 x5 r_4 (x5 + 1) σ_5 else FX12_sweetFor_8  f x1 x2 x3 x4 (x5 + 1) σ_5
def FX12_sweetFor (x1 : Int32) (x2 : Int32) (σ : HS) : Option (Int32 × HS) :=
  FX12_sweetFor_8 fu x1 x2 (0 : Int32) (-1 : Int32) (0 : Int32) σ
set_option maxHeartbeats 4000000 in
set_option maxRecDepth 100000 in
theorem wX12_sweetFor_8 (C : Cx 45 D ad κ p s m args meth c cX12_sweetFor RX12 7 (some .int)) {R : (Int32 × HS)} : ∀ (f : Nat) (x1 : Int32) (x2 : Int32) (x3 : Int32) (x4 : Int32) (x5 : Int32) (σ : HS) (H : Heap) (locs : List Loc) (ls : Array Slot), FX12_sweetFor_8  f x1 x2 x3 x4 x5 σ = some R → Hd 45 ceM D ad κ s σ H locs → lv_has ls 7 [(0, .ref (ad 0)), (1, .int x1), (2, .int x2), (3, .int x3), (4, .int x4), (5, .int x5)] → W p l e ({ frames := 5, cells := 0, slots := 0, locals := 123 } : Room) s m args below meth c H locs 0 0 (MQ below (QI 45 ceM D ad κ R) args s 0 0 (AX 45 ad)) (F0 m 8 ls []) := by
  have hx := C.1
  have hb := C.2.1
  have hown := C.2.2.2.1
  have hts := C.2.2.2.2.1
  intro f
  induction f with
  | zero =>
    intro x1 x2 x3 x4 x5 σ H locs ls h hH hl
    cases h
  | succ f ih =>
    intro x1 x2 x3 x4 x5 σ H locs ls h hH hl
    rw [FX12_sweetFor_8] at h
    refine lv_iload hx hb dX12_sweetFor_8 (lv_at hl 5 rfl) ?_
    refine lv_iconst (v := 4) hx hb dX12_sweetFor_10 (by decide) ?_
    refine lv_icmp_ge (tgt := 51) hx hb dX12_sweetFor_11 (by decide) (fun hq_1 => ?_) (fun hq_1 => ?_)
    · rw [if_pos hq_1] at h
      refine lv_iload_n hx hb dX12_sweetFor_51 rfl (lv_at hl 3 rfl) ?_
      exact g_ret C hH h dX12_sweetFor_52
    · rw [if_neg hq_1] at h
      refine lv_aload_n hx hb dX12_sweetFor_14 rfl (lv_at hl 0 rfl) ?_
      refine lv_iload_n hx hb dX12_sweetFor_15 rfl (lv_at hl 2 rfl) ?_
      refine lv_iload hx hb dX12_sweetFor_16 (lv_at hl 5 rfl) ?_
      obtain ⟨σ_2, hc_3, h⟩ := bdV_ex h
      refine g_cv (g_runV (rest := []) C hH hl.1 cV_X12_425 0 (Nat.le_of_ble_eq_true rfl) rfl rfl (kX12_copiesGame l D ad κ hc_3) ⟨rfl, rfl⟩ ⟨(Nat.le_of_ble_eq_true rfl), (Nat.le_of_ble_eq_true rfl)⟩ rfl rfl (Nat.le_of_ble_eq_true rfl) dX12_sweetFor_18 z00) hH (fun H locs hH => ?_)
      refine lv_aload_n hx hb dX12_sweetFor_21 rfl (lv_at hl 0 rfl) ?_
      refine lv_iload_n hx hb dX12_sweetFor_22 rfl (lv_at hl 1 rfl) ?_
      obtain ⟨r_4, σ_5, hc_6, h⟩ := bdI_ex h
      refine g_ci (g_runV (rest := []) C hH hl.1 cV_X12_415 0 (Nat.le_of_ble_eq_true rfl) rfl rfl (kX12_haveOf l D ad κ hc_6) ⟨rfl, rfl⟩ ⟨(Nat.le_of_ble_eq_true rfl), (Nat.le_of_ble_eq_true rfl)⟩ rfl rfl (Nat.le_of_ble_eq_true rfl) dX12_sweetFor_23 z00) hH (fun H locs hH => ?_)
      refine lv_istore (lv' := [(6, .int r_4), (0, .ref (ad 0)), (1, .int x1), (2, .int x2), (3, .int x3), (4, .int x4), (5, .int x5)]) hx hb dX12_sweetFor_26 hl (by decide) rfl (fun ls hl => ?_)
      refine lv_iload hx hb dX12_sweetFor_28 (lv_at hl 0 rfl) ?_
      refine lv_iload hx hb dX12_sweetFor_30 (lv_at hl 5 rfl) ?_
      refine lv_icmp_gt (tgt := 38) hx hb dX12_sweetFor_32 (by decide) (fun hq_7 => ?_) (fun hq_7 => ?_)
      · rw [if_pos hq_7] at h
        refine lv_iload hx hb dX12_sweetFor_38 (lv_at hl 6 rfl) ?_
        refine lv_istore_n (lv' := [(3, .int x5), (6, .int r_4), (0, .ref (ad 0)), (1, .int x1), (2, .int x2), (4, .int x4), (5, .int x5)]) hx hb dX12_sweetFor_40 rfl hl (by decide) rfl (fun ls hl => ?_)
        refine lv_iload hx hb dX12_sweetFor_41 (lv_at hl 1 rfl) ?_
        refine lv_istore (lv' := [(4, .int r_4), (3, .int x5), (6, .int r_4), (0, .ref (ad 0)), (1, .int x1), (2, .int x2), (5, .int x5)]) hx hb dX12_sweetFor_43 hl (by decide) rfl (fun ls hl => ?_)
        refine lv_iinc (v := (x5 + 1)) (lv' := [(5, .int (x5 + 1)), (4, .int r_4), (3, .int x5), (6, .int r_4), (0, .ref (ad 0)), (1, .int x1), (2, .int x2)]) hx hb dX12_sweetFor_45 hl (k := 6) rfl rfl (by decide) rfl (fun ls hl => ?_)
        refine lv_goto (tgt := 8) hx hb dX12_sweetFor_48 (by decide) ?_
        exact ih _ _ _ _ _ _ _ _ _ h hH (lv_sub hl [4, 5, 6, 2, 1, 0] rfl)
      · rw [if_neg hq_7] at h
        refine lv_goto (tgt := 45) hx hb dX12_sweetFor_35 (by decide) ?_
        refine lv_iinc (v := (x5 + 1)) (lv' := [(5, .int (x5 + 1)), (6, .int r_4), (0, .ref (ad 0)), (1, .int x1), (2, .int x2), (3, .int x3), (4, .int x4)]) hx hb dX12_sweetFor_45 hl (k := 6) rfl rfl (by decide) rfl (fun ls hl => ?_)
        refine lv_goto (tgt := 8) hx hb dX12_sweetFor_48 (by decide) ?_
        exact ih _ _ _ _ _ _ _ _ _ h hH (lv_sub hl [2, 3, 4, 5, 6, 0] rfl)
set_option maxHeartbeats 4000000 in
set_option maxRecDepth 100000 in
theorem kX12_sweetFor (l : Launch) (D : va_G) (ad : Nat → Nat) (κ : KC) {x1 : Int32} {x2 : Int32} {σ : HS} {R : (Int32 × HS)} (h : FX12_sweetFor x1 x2 σ = some R) : MtI l 45 ceM D ad κ yX12_sweetFor cX12_sweetFor 7 (some .int) ({ frames := 5, cells := 0, slots := 0, locals := 123 } : Room) [.ref (ad 0), .int x1, .int x2] σ R := by
  refine open_ (by decide) (Nat.le_of_ble_eq_true rfl) (la := [(0, .ref (ad 0)), (1, .int x1), (2, .int x2)]) rfl ?_
  intro p e s m below meth c ls C hH hl
  replace C : Cx 45 D ad κ p s m _ meth c cX12_sweetFor RX12 7 (some .int) := C
  have hx := C.1
  have hb := C.2.1
  have hown := C.2.2.2.1
  have hts := C.2.2.2.2.1
  rw [FX12_sweetFor] at h
  refine lv_iconst (v := 0) hx hb dX12_sweetFor_0 (by decide) ?_
  refine lv_istore_n (lv' := [(3, .int (0 : Int32)), (0, .ref (ad 0)), (1, .int x1), (2, .int x2)]) hx hb dX12_sweetFor_1 rfl hl (by decide) rfl (fun ls hl => ?_)
  refine lv_iconst (v := (-1)) hx hb dX12_sweetFor_2 (by decide) ?_
  refine lv_istore (lv' := [(4, .int (-1 : Int32)), (3, .int (0 : Int32)), (0, .ref (ad 0)), (1, .int x1), (2, .int x2)]) hx hb dX12_sweetFor_3 hl (by decide) rfl (fun ls hl => ?_)
  refine lv_iconst (v := 0) hx hb dX12_sweetFor_5 (by decide) ?_
  refine lv_istore (lv' := [(5, .int (0 : Int32)), (4, .int (-1 : Int32)), (3, .int (0 : Int32)), (0, .ref (ad 0)), (1, .int x1), (2, .int x2)]) hx hb dX12_sweetFor_6 hl (by decide) rfl (fun ls hl => ?_)
  exact wX12_sweetFor_8 C _ _ _ _ _ _ _ _ _ _ h hH (lv_sub hl [3, 4, 5, 2, 1, 0] rfl)
-- X12_game
def FX12_game_41  : Nat → Int32 → Int32 → Int32 → Int32 → Int32 → Int32 → HS → Option (Int32 × HS)
  | 0, _, _, _, _, _, _, _ => none
  | f + 1, x1, x2, x3, x4, x5, x6, σ => if (4 : Int32) ≤ x6 then if x3 = 0 then some (x4, σ) else if x3 = (1 : Int32) then bdI (FX12_sweetFor x2 x4 σ) fun r_4 σ_5 => some (r_4, σ_5) else some (x5, σ) else bdI (FX12_sweetFor x2 x6 σ) fun r_7 σ_8 => bdV (FX12_copiesGame x6 r_7 σ_8) fun σ_10 => bdI (FX12_haveOf x1 σ_10) fun r_12 σ_13 => if x5 < r_12 then FX12_game_41  f x1 x2 x3 x6 r_12 (x6 + 1) σ_13 else FX12_game_41  f x1 x2 x3 x4 x5 (x6 + 1) σ_13
def FX12_game (x1 : Int32) (x2 : Int32) (x3 : Int32) (σ : HS) : Option (Int32 × HS) :=
  bdI (FX12_isFamily x1 σ) fun r_16 σ_17 => if r_16 = 0 then some ((-1 : Int32), σ_17) else bdI (FX12_isFamily x2 σ_17) fun r_20 σ_21 => if r_20 = 0 then some ((-1 : Int32), σ_21) else if x1 = x2 then some ((-1 : Int32), σ_21) else bdI (FX12_in x3 (0 : Int32) (2 : Int32) σ_21) fun r_25 σ_26 => if r_25 = 0 then some ((-1 : Int32), σ_26) else FX12_game_41 fu x1 x2 x3 (0 : Int32) (-1 : Int32) (0 : Int32) σ_26
set_option maxHeartbeats 4000000 in
set_option maxRecDepth 100000 in
theorem wX12_game_41 (C : Cx 45 D ad κ p s m args meth c cX12_game RX12 8 (some .int)) {R : (Int32 × HS)} : ∀ (f : Nat) (x1 : Int32) (x2 : Int32) (x3 : Int32) (x4 : Int32) (x5 : Int32) (x6 : Int32) (σ : HS) (H : Heap) (locs : List Loc) (ls : Array Slot), FX12_game_41  f x1 x2 x3 x4 x5 x6 σ = some R → Hd 45 ceM D ad κ s σ H locs → lv_has ls 8 [(0, .ref (ad 0)), (1, .int x1), (2, .int x2), (3, .int x3), (4, .int x4), (5, .int x5), (6, .int x6)] → W p l e ({ frames := 6, cells := 0, slots := 0, locals := 149 } : Room) s m args below meth c H locs 0 0 (MQ below (QI 45 ceM D ad κ R) args s 0 0 (AX 45 ad)) (F0 m 41 ls []) := by
  have hx := C.1
  have hb := C.2.1
  have hown := C.2.2.2.1
  have hts := C.2.2.2.2.1
  intro f
  induction f with
  | zero =>
    intro x1 x2 x3 x4 x5 x6 σ H locs ls h hH hl
    cases h
  | succ f ih =>
    intro x1 x2 x3 x4 x5 x6 σ H locs ls h hH hl
    rw [FX12_game_41] at h
    refine lv_iload hx hb dX12_game_41 (lv_at hl 6 rfl) ?_
    refine lv_iconst (v := 4) hx hb dX12_game_43 (by decide) ?_
    refine lv_icmp_ge (tgt := 91) hx hb dX12_game_44 (by decide) (fun hq_1 => ?_) (fun hq_1 => ?_)
    · rw [if_pos hq_1] at h
      refine lv_iload_n hx hb dX12_game_91 rfl (lv_at hl 3 rfl) ?_
      refine lv_if_ne (tgt := 100) hx hb dX12_game_92 (by decide) (fun hq_2 => ?_) (fun hq_2 => ?_)
      · rw [if_neg hq_2] at h
        refine lv_iload_n hx hb dX12_game_100 rfl (lv_at hl 3 rfl) ?_
        refine lv_iconst (v := 1) hx hb dX12_game_101 (by decide) ?_
        refine lv_icmp_ne (tgt := 115) hx hb dX12_game_102 (by decide) (fun hq_3 => ?_) (fun hq_3 => ?_)
        · rw [if_neg hq_3] at h
          refine lv_iload hx hb dX12_game_115 (lv_at hl 5 rfl) ?_
          exact g_ret C hH h dX12_game_117
        · rw [if_pos hq_3] at h
          refine lv_aload_n hx hb dX12_game_105 rfl (lv_at hl 0 rfl) ?_
          refine lv_iload_n hx hb dX12_game_106 rfl (lv_at hl 2 rfl) ?_
          refine lv_iload hx hb dX12_game_107 (lv_at hl 4 rfl) ?_
          obtain ⟨r_4, σ_5, hc_6, h⟩ := bdI_ex h
          refine g_ci (g_runV (rest := []) C hH hl.1 cV_X12_428 0 (Nat.le_of_ble_eq_true rfl) rfl rfl (kX12_sweetFor l D ad κ hc_6) ⟨rfl, rfl⟩ ⟨(Nat.le_of_ble_eq_true rfl), (Nat.le_of_ble_eq_true rfl)⟩ rfl rfl (Nat.le_of_ble_eq_true rfl) dX12_game_109 z00) hH (fun H locs hH => ?_)
          refine lv_goto (tgt := 117) hx hb dX12_game_112 (by decide) ?_
          exact g_ret C hH h dX12_game_117
      · rw [if_pos hq_2] at h
        refine lv_iload hx hb dX12_game_95 (lv_at hl 4 rfl) ?_
        refine lv_goto (tgt := 117) hx hb dX12_game_97 (by decide) ?_
        exact g_ret C hH h dX12_game_117
    · rw [if_neg hq_1] at h
      refine lv_aload_n hx hb dX12_game_47 rfl (lv_at hl 0 rfl) ?_
      refine lv_iload hx hb dX12_game_48 (lv_at hl 6 rfl) ?_
      refine lv_aload_n hx hb dX12_game_50 rfl (lv_at hl 0 rfl) ?_
      refine lv_iload_n hx hb dX12_game_51 rfl (lv_at hl 2 rfl) ?_
      refine lv_iload hx hb dX12_game_52 (lv_at hl 6 rfl) ?_
      obtain ⟨r_7, σ_8, hc_9, h⟩ := bdI_ex h
      refine g_ci (g_runV (rest := [.int x6, .ref (ad 0)]) C hH hl.1 cV_X12_428 0 (Nat.le_of_ble_eq_true rfl) rfl rfl (kX12_sweetFor l D ad κ hc_9) ⟨rfl, rfl⟩ ⟨(Nat.le_of_ble_eq_true rfl), (Nat.le_of_ble_eq_true rfl)⟩ rfl rfl (Nat.le_of_ble_eq_true rfl) dX12_game_54 z00) hH (fun H locs hH => ?_)
      obtain ⟨σ_10, hc_11, h⟩ := bdV_ex h
      refine g_cv (g_runV (rest := []) C hH hl.1 cV_X12_425 0 (Nat.le_of_ble_eq_true rfl) rfl rfl (kX12_copiesGame l D ad κ hc_11) ⟨rfl, rfl⟩ ⟨(Nat.le_of_ble_eq_true rfl), (Nat.le_of_ble_eq_true rfl)⟩ rfl rfl (Nat.le_of_ble_eq_true rfl) dX12_game_57 z00) hH (fun H locs hH => ?_)
      refine lv_aload_n hx hb dX12_game_60 rfl (lv_at hl 0 rfl) ?_
      refine lv_iload_n hx hb dX12_game_61 rfl (lv_at hl 1 rfl) ?_
      obtain ⟨r_12, σ_13, hc_14, h⟩ := bdI_ex h
      refine g_ci (g_runV (rest := []) C hH hl.1 cV_X12_415 0 (Nat.le_of_ble_eq_true rfl) rfl rfl (kX12_haveOf l D ad κ hc_14) ⟨rfl, rfl⟩ ⟨(Nat.le_of_ble_eq_true rfl), (Nat.le_of_ble_eq_true rfl)⟩ rfl rfl (Nat.le_of_ble_eq_true rfl) dX12_game_62 z00) hH (fun H locs hH => ?_)
      refine lv_istore (lv' := [(7, .int r_12), (0, .ref (ad 0)), (1, .int x1), (2, .int x2), (3, .int x3), (4, .int x4), (5, .int x5), (6, .int x6)]) hx hb dX12_game_65 hl (by decide) rfl (fun ls hl => ?_)
      refine lv_iload hx hb dX12_game_67 (lv_at hl 0 rfl) ?_
      refine lv_iload hx hb dX12_game_69 (lv_at hl 6 rfl) ?_
      refine lv_icmp_gt (tgt := 77) hx hb dX12_game_71 (by decide) (fun hq_15 => ?_) (fun hq_15 => ?_)
      · rw [if_pos hq_15] at h
        refine lv_iload hx hb dX12_game_77 (lv_at hl 7 rfl) ?_
        refine lv_istore (lv' := [(4, .int x6), (7, .int r_12), (0, .ref (ad 0)), (1, .int x1), (2, .int x2), (3, .int x3), (5, .int x5), (6, .int x6)]) hx hb dX12_game_79 hl (by decide) rfl (fun ls hl => ?_)
        refine lv_iload hx hb dX12_game_81 (lv_at hl 1 rfl) ?_
        refine lv_istore (lv' := [(5, .int r_12), (4, .int x6), (7, .int r_12), (0, .ref (ad 0)), (1, .int x1), (2, .int x2), (3, .int x3), (6, .int x6)]) hx hb dX12_game_83 hl (by decide) rfl (fun ls hl => ?_)
        refine lv_iinc (v := (x6 + 1)) (lv' := [(6, .int (x6 + 1)), (5, .int r_12), (4, .int x6), (7, .int r_12), (0, .ref (ad 0)), (1, .int x1), (2, .int x2), (3, .int x3)]) hx hb dX12_game_85 hl (k := 7) rfl rfl (by decide) rfl (fun ls hl => ?_)
        refine lv_goto (tgt := 41) hx hb dX12_game_88 (by decide) ?_
        exact ih _ _ _ _ _ _ _ _ _ _ h hH (lv_sub hl [4, 5, 6, 7, 2, 1, 0] rfl)
      · rw [if_neg hq_15] at h
        refine lv_goto (tgt := 85) hx hb dX12_game_74 (by decide) ?_
        refine lv_iinc (v := (x6 + 1)) (lv' := [(6, .int (x6 + 1)), (7, .int r_12), (0, .ref (ad 0)), (1, .int x1), (2, .int x2), (3, .int x3), (4, .int x4), (5, .int x5)]) hx hb dX12_game_85 hl (k := 7) rfl rfl (by decide) rfl (fun ls hl => ?_)
        refine lv_goto (tgt := 41) hx hb dX12_game_88 (by decide) ?_
        exact ih _ _ _ _ _ _ _ _ _ _ h hH (lv_sub hl [2, 3, 4, 5, 6, 7, 0] rfl)
set_option maxHeartbeats 4000000 in
set_option maxRecDepth 100000 in
theorem kX12_game (l : Launch) (D : va_G) (ad : Nat → Nat) (κ : KC) {x1 : Int32} {x2 : Int32} {x3 : Int32} {σ : HS} {R : (Int32 × HS)} (h : FX12_game x1 x2 x3 σ = some R) : MtI l 45 ceM D ad κ yX12_game cX12_game 8 (some .int) ({ frames := 6, cells := 0, slots := 0, locals := 149 } : Room) [.ref (ad 0), .int x1, .int x2, .int x3] σ R := by
  refine open_ (by decide) (Nat.le_of_ble_eq_true rfl) (la := [(0, .ref (ad 0)), (1, .int x1), (2, .int x2), (3, .int x3)]) rfl ?_
  intro p e s m below meth c ls C hH hl
  replace C : Cx 45 D ad κ p s m _ meth c cX12_game RX12 8 (some .int) := C
  have hx := C.1
  have hb := C.2.1
  have hown := C.2.2.2.1
  have hts := C.2.2.2.2.1
  rw [FX12_game] at h
  refine lv_aload_n hx hb dX12_game_0 rfl (lv_at hl 0 rfl) ?_
  refine lv_iload_n hx hb dX12_game_1 rfl (lv_at hl 1 rfl) ?_
  obtain ⟨r_16, σ_17, hc_18, h⟩ := bdI_ex h
  refine g_ci (g_runV (rest := []) C hH hl.1 cV_X12_372 0 (Nat.le_of_ble_eq_true rfl) rfl rfl (kX12_isFamily l D ad κ hc_18) ⟨rfl, rfl⟩ ⟨(Nat.le_of_ble_eq_true rfl), (Nat.le_of_ble_eq_true rfl)⟩ rfl rfl (Nat.le_of_ble_eq_true rfl) dX12_game_2 z00) hH (fun H locs hH => ?_)
  refine lv_if_eq (tgt := 30) hx hb dX12_game_5 (by decide) (fun hq_19 => ?_) (fun hq_19 => ?_)
  · rw [if_pos hq_19] at h
    refine lv_iconst (v := (-1)) hx hb dX12_game_30 (by decide) ?_
    exact g_ret C hH h dX12_game_31
  · rw [if_neg hq_19] at h
    refine lv_aload_n hx hb dX12_game_8 rfl (lv_at hl 0 rfl) ?_
    refine lv_iload_n hx hb dX12_game_9 rfl (lv_at hl 2 rfl) ?_
    obtain ⟨r_20, σ_21, hc_22, h⟩ := bdI_ex h
    refine g_ci (g_runV (rest := []) C hH hl.1 cV_X12_372 0 (Nat.le_of_ble_eq_true rfl) rfl rfl (kX12_isFamily l D ad κ hc_22) ⟨rfl, rfl⟩ ⟨(Nat.le_of_ble_eq_true rfl), (Nat.le_of_ble_eq_true rfl)⟩ rfl rfl (Nat.le_of_ble_eq_true rfl) dX12_game_10 z00) hH (fun H locs hH => ?_)
    refine lv_if_eq (tgt := 30) hx hb dX12_game_13 (by decide) (fun hq_23 => ?_) (fun hq_23 => ?_)
    · rw [if_pos hq_23] at h
      refine lv_iconst (v := (-1)) hx hb dX12_game_30 (by decide) ?_
      exact g_ret C hH h dX12_game_31
    · rw [if_neg hq_23] at h
      refine lv_iload_n hx hb dX12_game_16 rfl (lv_at hl 1 rfl) ?_
      refine lv_iload_n hx hb dX12_game_17 rfl (lv_at hl 2 rfl) ?_
      refine lv_icmp_eq (tgt := 30) hx hb dX12_game_18 (by decide) (fun hq_24 => ?_) (fun hq_24 => ?_)
      · rw [if_pos hq_24] at h
        refine lv_iconst (v := (-1)) hx hb dX12_game_30 (by decide) ?_
        exact g_ret C hH h dX12_game_31
      · rw [if_neg hq_24] at h
        refine lv_iload_n hx hb dX12_game_21 rfl (lv_at hl 3 rfl) ?_
        refine lv_iconst (v := 0) hx hb dX12_game_22 (by decide) ?_
        refine lv_iconst (v := 2) hx hb dX12_game_23 (by decide) ?_
        obtain ⟨r_25, σ_26, hc_27, h⟩ := bdI_ex h
        refine g_ci (g_runS (rest := []) C hH hl.1 cS_X12_310 (kX12_in l D ad κ hc_27) ⟨rfl, rfl⟩ ⟨(Nat.le_of_ble_eq_true rfl), (Nat.le_of_ble_eq_true rfl)⟩ rfl rfl (Nat.le_of_ble_eq_true rfl) dX12_game_24 z00) hH (fun H locs hH => ?_)
        refine lv_if_ne (tgt := 32) hx hb dX12_game_27 (by decide) (fun hq_28 => ?_) (fun hq_28 => ?_)
        · rw [if_neg hq_28] at h
          refine lv_iconst (v := 0) hx hb dX12_game_32 (by decide) ?_
          refine lv_istore (lv' := [(4, .int (0 : Int32)), (0, .ref (ad 0)), (1, .int x1), (2, .int x2), (3, .int x3)]) hx hb dX12_game_33 hl (by decide) rfl (fun ls hl => ?_)
          refine lv_iconst (v := (-1)) hx hb dX12_game_35 (by decide) ?_
          refine lv_istore (lv' := [(5, .int (-1 : Int32)), (4, .int (0 : Int32)), (0, .ref (ad 0)), (1, .int x1), (2, .int x2), (3, .int x3)]) hx hb dX12_game_36 hl (by decide) rfl (fun ls hl => ?_)
          refine lv_iconst (v := 0) hx hb dX12_game_38 (by decide) ?_
          refine lv_istore (lv' := [(6, .int (0 : Int32)), (5, .int (-1 : Int32)), (4, .int (0 : Int32)), (0, .ref (ad 0)), (1, .int x1), (2, .int x2), (3, .int x3)]) hx hb dX12_game_39 hl (by decide) rfl (fun ls hl => ?_)
          exact wX12_game_41 C _ _ _ _ _ _ _ _ _ _ _ h hH (lv_sub hl [3, 4, 5, 6, 2, 1, 0] rfl)
        · rw [if_pos hq_28] at h
          refine lv_iconst (v := (-1)) hx hb dX12_game_30 (by decide) ?_
          exact g_ret C hH h dX12_game_31
end
