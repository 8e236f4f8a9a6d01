theorem dX11_feed_0 : decode cX11_feed 0 = .ok (.aload_n 0, 1) := by decide +kernel
theorem dX11_feed_1 : decode cX11_feed 1 = .ok (.getfield 12, 3) := by decide +kernel
theorem dX11_feed_4 : decode cX11_feed 4 = .ok (.bipush 20, 2) := by decide +kernel
theorem dX11_feed_6 : decode cX11_feed 6 = .ok (.invokevirtual 93, 3) := by decide +kernel
theorem dX11_feed_9 : decode cX11_feed 9 = .ok (.ifCond .ne 5, 3) := by decide +kernel
theorem dX11_feed_12 : decode cX11_feed 12 = .ok (.iconst (-1), 1) := by decide +kernel
theorem dX11_feed_13 : decode cX11_feed 13 = .ok (.ireturn, 1) := by decide +kernel
theorem dX11_feed_14 : decode cX11_feed 14 = .ok (.aload_n 0, 1) := by decide +kernel
theorem dX11_feed_15 : decode cX11_feed 15 = .ok (.getfield 12, 3) := by decide +kernel
theorem dX11_feed_18 : decode cX11_feed 18 = .ok (.iload_n 1, 1) := by decide +kernel
theorem dX11_feed_19 : decode cX11_feed 19 = .ok (.invokevirtual 97, 3) := by decide +kernel
theorem dX11_feed_22 : decode cX11_feed 22 = .ok (.aload_n 0, 1) := by decide +kernel
theorem dX11_feed_23 : decode cX11_feed 23 = .ok (.getfield 12, 3) := by decide +kernel
theorem dX11_feed_26 : decode cX11_feed 26 = .ok (.iload_n 2, 1) := by decide +kernel
theorem dX11_feed_27 : decode cX11_feed 27 = .ok (.invokevirtual 97, 3) := by decide +kernel
theorem dX11_feed_30 : decode cX11_feed 30 = .ok (.aload_n 0, 1) := by decide +kernel
theorem dX11_feed_31 : decode cX11_feed 31 = .ok (.getfield 12, 3) := by decide +kernel
theorem dX11_feed_34 : decode cX11_feed 34 = .ok (.iload_n 3, 1) := by decide +kernel
theorem dX11_feed_35 : decode cX11_feed 35 = .ok (.invokevirtual 97, 3) := by decide +kernel
theorem dX11_feed_38 : decode cX11_feed 38 = .ok (.aload_n 0, 1) := by decide +kernel
theorem dX11_feed_39 : decode cX11_feed 39 = .ok (.getfield 12, 3) := by decide +kernel
theorem dX11_feed_42 : decode cX11_feed 42 = .ok (.iload 4, 2) := by decide +kernel
theorem dX11_feed_44 : decode cX11_feed 44 = .ok (.invokevirtual 97, 3) := by decide +kernel
theorem dX11_feed_47 : decode cX11_feed 47 = .ok (.aload_n 0, 1) := by decide +kernel
theorem dX11_feed_48 : decode cX11_feed 48 = .ok (.getfield 12, 3) := by decide +kernel
theorem dX11_feed_51 : decode cX11_feed 51 = .ok (.iload 5, 2) := by decide +kernel
theorem dX11_feed_53 : decode cX11_feed 53 = .ok (.invokevirtual 97, 3) := by decide +kernel
theorem dX11_feed_56 : decode cX11_feed 56 = .ok (.aload_n 0, 1) := by decide +kernel
theorem dX11_feed_57 : decode cX11_feed 57 = .ok (.getfield 12, 3) := by decide +kernel
theorem dX11_feed_60 : decode cX11_feed 60 = .ok (.getfield 101, 3) := by decide +kernel
theorem dX11_feed_63 : decode cX11_feed 63 = .ok (.ireturn, 1) := by decide +kernel
theorem dX11_back_0 : decode cX11_back 0 = .ok (.iload_n 1, 1) := by decide +kernel
theorem dX11_back_1 : decode cX11_back 1 = .ok (.iconst 0, 1) := by decide +kernel
theorem dX11_back_2 : decode cX11_back 2 = .ok (.aload_n 0, 1) := by decide +kernel
theorem dX11_back_3 : decode cX11_back 3 = .ok (.getfield 12, 3) := by decide +kernel
theorem dX11_back_6 : decode cX11_back 6 = .ok (.getfield 101, 3) := by decide +kernel
theorem dX11_back_9 : decode cX11_back 9 = .ok (.invokestatic 105, 3) := by decide +kernel
theorem dX11_back_12 : decode cX11_back 12 = .ok (.ifCond .ne 5, 3) := by decide +kernel
theorem dX11_back_15 : decode cX11_back 15 = .ok (.iconst (-1), 1) := by decide +kernel
theorem dX11_back_16 : decode cX11_back 16 = .ok (.ireturn, 1) := by decide +kernel
theorem dX11_back_17 : decode cX11_back 17 = .ok (.aload_n 0, 1) := by decide +kernel
theorem dX11_back_18 : decode cX11_back 18 = .ok (.getfield 12, 3) := by decide +kernel
theorem dX11_back_21 : decode cX11_back 21 = .ok (.dup, 1) := by decide +kernel
theorem dX11_back_22 : decode cX11_back 22 = .ok (.getfield 101, 3) := by decide +kernel
theorem dX11_back_25 : decode cX11_back 25 = .ok (.iload_n 1, 1) := by decide +kernel
theorem dX11_back_26 : decode cX11_back 26 = .ok (.isub, 1) := by decide +kernel
theorem dX11_back_27 : decode cX11_back 27 = .ok (.putfield 101, 3) := by decide +kernel
theorem dX11_back_30 : decode cX11_back 30 = .ok (.aload_n 0, 1) := by decide +kernel
theorem dX11_back_31 : decode cX11_back 31 = .ok (.getfield 12, 3) := by decide +kernel
theorem dX11_back_34 : decode cX11_back 34 = .ok (.getfield 101, 3) := by decide +kernel
theorem dX11_back_37 : decode cX11_back 37 = .ok (.ireturn, 1) := by decide +kernel
theorem dX11_read_0 : decode cX11_read 0 = .ok (.aload_n 0, 1) := by decide +kernel
theorem dX11_read_1 : decode cX11_read 1 = .ok (.getfield 21, 3) := by decide +kernel
theorem dX11_read_4 : decode cX11_read 4 = .ok (.invokevirtual 109, 3) := by decide +kernel
theorem dX11_read_7 : decode cX11_read 7 = .ok (.istore_n 1, 1) := by decide +kernel
theorem dX11_read_8 : decode cX11_read 8 = .ok (.aload_n 0, 1) := by decide +kernel
theorem dX11_read_9 : decode cX11_read 9 = .ok (.getfield 12, 3) := by decide +kernel
theorem dX11_read_12 : decode cX11_read 12 = .ok (.iconst 0, 1) := by decide +kernel
theorem dX11_read_13 : decode cX11_read 13 = .ok (.putfield 101, 3) := by decide +kernel
theorem dX11_read_16 : decode cX11_read 16 = .ok (.iload_n 1, 1) := by decide +kernel
theorem dX11_read_17 : decode cX11_read 17 = .ok (.ifCond .ne 50, 3) := by decide +kernel
theorem dX11_read_20 : decode cX11_read 20 = .ok (.aload_n 0, 1) := by decide +kernel
theorem dX11_read_21 : decode cX11_read 21 = .ok (.getfield 28, 3) := by decide +kernel
theorem dX11_read_24 : decode cX11_read 24 = .ok (.aload_n 0, 1) := by decide +kernel
theorem dX11_read_25 : decode cX11_read 25 = .ok (.getfield 21, 3) := by decide +kernel
theorem dX11_read_28 : decode cX11_read 28 = .ok (.getfield 113, 3) := by decide +kernel
theorem dX11_read_31 : decode cX11_read 31 = .ok (.invokevirtual 116, 3) := by decide +kernel
theorem dX11_read_34 : decode cX11_read 34 = .ok (.aload_n 0, 1) := by decide +kernel
theorem dX11_read_35 : decode cX11_read 35 = .ok (.getfield 35, 3) := by decide +kernel
theorem dX11_read_38 : decode cX11_read 38 = .ok (.aload_n 0, 1) := by decide +kernel
theorem dX11_read_39 : decode cX11_read 39 = .ok (.getfield 28, 3) := by decide +kernel
theorem dX11_read_42 : decode cX11_read 42 = .ok (.invokevirtual 90, 3) := by decide +kernel
theorem dX11_read_45 : decode cX11_read 45 = .ok (.aload_n 0, 1) := by decide +kernel
theorem dX11_read_46 : decode cX11_read 46 = .ok (.getfield 45, 3) := by decide +kernel
theorem dX11_read_49 : decode cX11_read 49 = .ok (.invokevirtual 119, 3) := by decide +kernel
theorem dX11_read_52 : decode cX11_read 52 = .ok (.aload_n 0, 1) := by decide +kernel
theorem dX11_read_53 : decode cX11_read 53 = .ok (.getfield 45, 3) := by decide +kernel
theorem dX11_read_56 : decode cX11_read 56 = .ok (.invokevirtual 122, 3) := by decide +kernel
theorem dX11_read_59 : decode cX11_read 59 = .ok (.aload_n 0, 1) := by decide +kernel
theorem dX11_read_60 : decode cX11_read 60 = .ok (.getfield 86, 3) := by decide +kernel
theorem dX11_read_63 : decode cX11_read 63 = .ok (.iconst 0, 1) := by decide +kernel
theorem dX11_read_64 : decode cX11_read 64 = .ok (.putfield 125, 3) := by decide +kernel
theorem dX11_read_67 : decode cX11_read 67 = .ok (.iload_n 1, 1) := by decide +kernel
theorem dX11_read_68 : decode cX11_read 68 = .ok (.ireturn, 1) := by decide +kernel
theorem dX11_place_0 : decode cX11_place 0 = .ok (.aload_n 0, 1) := by decide +kernel
theorem dX11_place_1 : decode cX11_place 1 = .ok (.getfield 21, 3) := by decide +kernel
theorem dX11_place_4 : decode cX11_place 4 = .ok (.getfield 128, 3) := by decide +kernel
theorem dX11_place_7 : decode cX11_place 7 = .ok (.ireturn, 1) := by decide +kernel
theorem dX11_isMinute_0 : decode cX11_isMinute 0 = .ok (.iload_n 1, 1) := by decide +kernel
theorem dX11_isMinute_1 : decode cX11_isMinute 1 = .ok (.iconst 0, 1) := by decide +kernel
theorem dX11_isMinute_2 : decode cX11_isMinute 2 = .ok (.aload_n 0, 1) := by decide +kernel
theorem dX11_isMinute_3 : decode cX11_isMinute 3 = .ok (.getfield 28, 3) := by decide +kernel
theorem dX11_isMinute_6 : decode cX11_isMinute 6 = .ok (.getfield 241, 3) := by decide +kernel
theorem dX11_isMinute_9 : decode cX11_isMinute 9 = .ok (.iconst 1, 1) := by decide +kernel
theorem dX11_isMinute_10 : decode cX11_isMinute 10 = .ok (.isub, 1) := by decide +kernel
theorem dX11_isMinute_11 : decode cX11_isMinute 11 = .ok (.invokestatic 105, 3) := by decide +kernel
theorem dX11_isMinute_14 : decode cX11_isMinute 14 = .ok (.ireturn, 1) := by decide +kernel
theorem dX11_minute_0 : decode cX11_minute 0 = .ok (.aload_n 0, 1) := by decide +kernel
theorem dX11_minute_1 : decode cX11_minute 1 = .ok (.iload_n 1, 1) := by decide +kernel
theorem dX11_minute_2 : decode cX11_minute 2 = .ok (.invokevirtual 131, 3) := by decide +kernel
theorem dX11_minute_5 : decode cX11_minute 5 = .ok (.ifCond .ne 5, 3) := by decide +kernel
theorem dX11_minute_8 : decode cX11_minute 8 = .ok (.iconst (-1), 1) := by decide +kernel
theorem dX11_minute_9 : decode cX11_minute 9 = .ok (.ireturn, 1) := by decide +kernel
theorem dX11_minute_10 : decode cX11_minute 10 = .ok (.iload_n 2, 1) := by decide +kernel
theorem dX11_minute_11 : decode cX11_minute 11 = .ok (.tableswitch 75 0 2 #[25, 34, 47], 25) := by decide +kernel
theorem dX11_minute_36 : decode cX11_minute 36 = .ok (.aload_n 0, 1) := by decide +kernel
theorem dX11_minute_37 : decode cX11_minute 37 = .ok (.getfield 35, 3) := by decide +kernel
theorem dX11_minute_40 : decode cX11_minute 40 = .ok (.iload_n 1, 1) := by decide +kernel
theorem dX11_minute_41 : decode cX11_minute 41 = .ok (.invokevirtual 134, 3) := by decide +kernel
theorem dX11_minute_44 : decode cX11_minute 44 = .ok (.ireturn, 1) := by decide +kernel
theorem dX11_minute_45 : decode cX11_minute 45 = .ok (.aload_n 0, 1) := by decide +kernel
theorem dX11_minute_46 : decode cX11_minute 46 = .ok (.getfield 54, 3) := by decide +kernel
theorem dX11_minute_49 : decode cX11_minute 49 = .ok (.aload_n 0, 1) := by decide +kernel
theorem dX11_minute_50 : decode cX11_minute 50 = .ok (.getfield 35, 3) := by decide +kernel
theorem dX11_minute_53 : decode cX11_minute 53 = .ok (.iload_n 1, 1) := by decide +kernel
theorem dX11_minute_54 : decode cX11_minute 54 = .ok (.invokevirtual 138, 3) := by decide +kernel
theorem dX11_minute_57 : decode cX11_minute 57 = .ok (.ireturn, 1) := by decide +kernel
theorem dX11_minute_58 : decode cX11_minute 58 = .ok (.aload_n 0, 1) := by decide +kernel
theorem dX11_minute_59 : decode cX11_minute 59 = .ok (.getfield 70, 3) := by decide +kernel
theorem dX11_minute_62 : decode cX11_minute 62 = .ok (.aload_n 0, 1) := by decide +kernel
theorem dX11_minute_63 : decode cX11_minute 63 = .ok (.getfield 35, 3) := by decide +kernel
theorem dX11_minute_66 : decode cX11_minute 66 = .ok (.iload_n 1, 1) := by decide +kernel
theorem dX11_minute_67 : decode cX11_minute 67 = .ok (.aload_n 0, 1) := by decide +kernel
theorem dX11_minute_68 : decode cX11_minute 68 = .ok (.getfield 28, 3) := by decide +kernel
theorem dX11_minute_71 : decode cX11_minute 71 = .ok (.getfield 142, 3) := by decide +kernel
theorem dX11_minute_74 : decode cX11_minute 74 = .ok (.invokevirtual 145, 3) := by decide +kernel
theorem dX11_minute_77 : decode cX11_minute 77 = .ok (.ifCond .eq 7, 3) := by decide +kernel
theorem dX11_minute_80 : decode cX11_minute 80 = .ok (.iconst 1, 1) := by decide +kernel
theorem dX11_minute_81 : decode cX11_minute 81 = .ok (.goto 4, 3) := by decide +kernel
theorem dX11_minute_84 : decode cX11_minute 84 = .ok (.iconst 0, 1) := by decide +kernel
theorem dX11_minute_85 : decode cX11_minute 85 = .ok (.ireturn, 1) := by decide +kernel
theorem dX11_minute_86 : decode cX11_minute 86 = .ok (.iconst (-1), 1) := by decide +kernel
theorem dX11_minute_87 : decode cX11_minute 87 = .ok (.ireturn, 1) := by decide +kernel
theorem dX11_isFamily_0 : decode cX11_isFamily 0 = .ok (.iload_n 1, 1) := by decide +kernel
theorem dX11_isFamily_1 : decode cX11_isFamily 1 = .ok (.iconst 0, 1) := by decide +kernel
theorem dX11_isFamily_2 : decode cX11_isFamily 2 = .ok (.aload_n 0, 1) := by decide +kernel
theorem dX11_isFamily_3 : decode cX11_isFamily 3 = .ok (.getfield 28, 3) := by decide +kernel
theorem dX11_isFamily_6 : decode cX11_isFamily 6 = .ok (.getfield 282, 3) := by decide +kernel
theorem dX11_isFamily_9 : decode cX11_isFamily 9 = .ok (.iconst 1, 1) := by decide +kernel
theorem dX11_isFamily_10 : decode cX11_isFamily 10 = .ok (.isub, 1) := by decide +kernel
theorem dX11_isFamily_11 : decode cX11_isFamily 11 = .ok (.invokestatic 105, 3) := by decide +kernel
theorem dX11_isFamily_14 : decode cX11_isFamily 14 = .ok (.ireturn, 1) := by decide +kernel
theorem dX11_family_0 : decode cX11_family 0 = .ok (.aload_n 0, 1) := by decide +kernel
theorem dX11_family_1 : decode cX11_family 1 = .ok (.iload_n 1, 1) := by decide +kernel
theorem dX11_family_2 : decode cX11_family 2 = .ok (.invokevirtual 149, 3) := by decide +kernel
theorem dX11_family_5 : decode cX11_family 5 = .ok (.ifCond .ne 5, 3) := by decide +kernel
theorem dX11_family_8 : decode cX11_family 8 = .ok (.iconst (-1), 1) := by decide +kernel
theorem dX11_family_9 : decode cX11_family 9 = .ok (.ireturn, 1) := by decide +kernel
theorem dX11_family_10 : decode cX11_family 10 = .ok (.iload_n 2, 1) := by decide +kernel
theorem dX11_family_11 : decode cX11_family 11 = .ok (.tableswitch 114 0 6 #[41, 51, 61, 70, 79, 88, 101], 41) := by decide +kernel
theorem dX11_family_52 : decode cX11_family 52 = .ok (.aload_n 0, 1) := by decide +kernel
theorem dX11_family_53 : decode cX11_family 53 = .ok (.getfield 28, 3) := by decide +kernel
theorem dX11_family_56 : decode cX11_family 56 = .ok (.getfield 152, 3) := by decide +kernel
theorem dX11_family_59 : decode cX11_family 59 = .ok (.iload_n 1, 1) := by decide +kernel
theorem dX11_family_60 : decode cX11_family 60 = .ok (.iaload, 1) := by decide +kernel
theorem dX11_family_61 : decode cX11_family 61 = .ok (.ireturn, 1) := by decide +kernel
theorem dX11_family_62 : decode cX11_family 62 = .ok (.aload_n 0, 1) := by decide +kernel
theorem dX11_family_63 : decode cX11_family 63 = .ok (.getfield 28, 3) := by decide +kernel
theorem dX11_family_66 : decode cX11_family 66 = .ok (.getfield 156, 3) := by decide +kernel
theorem dX11_family_69 : decode cX11_family 69 = .ok (.iload_n 1, 1) := by decide +kernel
theorem dX11_family_70 : decode cX11_family 70 = .ok (.iaload, 1) := by decide +kernel
theorem dX11_family_71 : decode cX11_family 71 = .ok (.ireturn, 1) := by decide +kernel
theorem dX11_family_72 : decode cX11_family 72 = .ok (.aload_n 0, 1) := by decide +kernel
theorem dX11_family_73 : decode cX11_family 73 = .ok (.getfield 35, 3) := by decide +kernel
theorem dX11_family_76 : decode cX11_family 76 = .ok (.iload_n 1, 1) := by decide +kernel
theorem dX11_family_77 : decode cX11_family 77 = .ok (.invokevirtual 159, 3) := by decide +kernel
theorem dX11_family_80 : decode cX11_family 80 = .ok (.ireturn, 1) := by decide +kernel
theorem dX11_family_81 : decode cX11_family 81 = .ok (.aload_n 0, 1) := by decide +kernel
theorem dX11_family_82 : decode cX11_family 82 = .ok (.getfield 35, 3) := by decide +kernel
theorem dX11_family_85 : decode cX11_family 85 = .ok (.iload_n 1, 1) := by decide +kernel
theorem dX11_family_86 : decode cX11_family 86 = .ok (.invokevirtual 162, 3) := by decide +kernel
theorem dX11_family_89 : decode cX11_family 89 = .ok (.ireturn, 1) := by decide +kernel
theorem dX11_family_90 : decode cX11_family 90 = .ok (.aload_n 0, 1) := by decide +kernel
theorem dX11_family_91 : decode cX11_family 91 = .ok (.getfield 35, 3) := by decide +kernel
theorem dX11_family_94 : decode cX11_family 94 = .ok (.iload_n 1, 1) := by decide +kernel
theorem dX11_family_95 : decode cX11_family 95 = .ok (.invokevirtual 165, 3) := by decide +kernel
theorem dX11_family_98 : decode cX11_family 98 = .ok (.ireturn, 1) := by decide +kernel
theorem dX11_family_99 : decode cX11_family 99 = .ok (.aload_n 0, 1) := by decide +kernel
theorem dX11_family_100 : decode cX11_family 100 = .ok (.getfield 54, 3) := by decide +kernel
theorem dX11_family_103 : decode cX11_family 103 = .ok (.aload_n 0, 1) := by decide +kernel
theorem dX11_family_104 : decode cX11_family 104 = .ok (.getfield 35, 3) := by decide +kernel
theorem dX11_family_107 : decode cX11_family 107 = .ok (.iload_n 1, 1) := by decide +kernel
theorem dX11_family_108 : decode cX11_family 108 = .ok (.invokevirtual 168, 3) := by decide +kernel
theorem dX11_family_111 : decode cX11_family 111 = .ok (.ireturn, 1) := by decide +kernel
theorem dX11_family_112 : decode cX11_family 112 = .ok (.aload_n 0, 1) := by decide +kernel
theorem dX11_family_113 : decode cX11_family 113 = .ok (.getfield 54, 3) := by decide +kernel
theorem dX11_family_116 : decode cX11_family 116 = .ok (.aload_n 0, 1) := by decide +kernel
theorem dX11_family_117 : decode cX11_family 117 = .ok (.getfield 35, 3) := by decide +kernel
theorem dX11_family_120 : decode cX11_family 120 = .ok (.iload_n 1, 1) := by decide +kernel
theorem dX11_family_121 : decode cX11_family 121 = .ok (.invokevirtual 171, 3) := by decide +kernel
theorem dX11_family_124 : decode cX11_family 124 = .ok (.ireturn, 1) := by decide +kernel
theorem dX11_family_125 : decode cX11_family 125 = .ok (.iconst (-1), 1) := by decide +kernel
theorem dX11_family_126 : decode cX11_family 126 = .ok (.ireturn, 1) := by decide +kernel
theorem dX11_lease_0 : decode cX11_lease 0 = .ok (.iload_n 1, 1) := by decide +kernel
theorem dX11_lease_1 : decode cX11_lease 1 = .ok (.invokestatic 174, 3) := by decide +kernel
theorem dX11_lease_4 : decode cX11_lease 4 = .ok (.ifCond .eq 14, 3) := by decide +kernel
theorem dX11_lease_7 : decode cX11_lease 7 = .ok (.aload_n 0, 1) := by decide +kernel
theorem dX11_lease_8 : decode cX11_lease 8 = .ok (.getfield 35, 3) := by decide +kernel
theorem dX11_lease_11 : decode cX11_lease 11 = .ok (.iload_n 1, 1) := by decide +kernel
theorem dX11_lease_12 : decode cX11_lease 12 = .ok (.invokevirtual 177, 3) := by decide +kernel
theorem dX11_lease_15 : decode cX11_lease 15 = .ok (.goto 4, 3) := by decide +kernel
theorem dX11_lease_18 : decode cX11_lease 18 = .ok (.iconst (-1), 1) := by decide +kernel
theorem dX11_lease_19 : decode cX11_lease 19 = .ok (.ireturn, 1) := by decide +kernel
theorem dX11_worth_0 : decode cX11_worth 0 = .ok (.aload_n 0, 1) := by decide +kernel
theorem dX11_worth_1 : decode cX11_worth 1 = .ok (.iload_n 1, 1) := by decide +kernel
theorem dX11_worth_2 : decode cX11_worth 2 = .ok (.invokevirtual 149, 3) := by decide +kernel
theorem dX11_worth_5 : decode cX11_worth 5 = .ok (.ifCond .eq 18, 3) := by decide +kernel
theorem dX11_worth_8 : decode cX11_worth 8 = .ok (.aload_n 0, 1) := by decide +kernel
theorem dX11_worth_9 : decode cX11_worth 9 = .ok (.iload_n 2, 1) := by decide +kernel
theorem dX11_worth_10 : decode cX11_worth 10 = .ok (.invokevirtual 131, 3) := by decide +kernel
theorem dX11_worth_13 : decode cX11_worth 13 = .ok (.ifCond .eq 10, 3) := by decide +kernel
theorem dX11_worth_16 : decode cX11_worth 16 = .ok (.iload_n 3, 1) := by decide +kernel
theorem dX11_worth_17 : decode cX11_worth 17 = .ok (.invokestatic 174, 3) := by decide +kernel
theorem dX11_worth_20 : decode cX11_worth 20 = .ok (.ifCond .ne 5, 3) := by decide +kernel
theorem dX11_worth_23 : decode cX11_worth 23 = .ok (.iconst (-1), 1) := by decide +kernel
theorem dX11_worth_24 : decode cX11_worth 24 = .ok (.ireturn, 1) := by decide +kernel
theorem dX11_worth_25 : decode cX11_worth 25 = .ok (.aload_n 0, 1) := by decide +kernel
theorem dX11_worth_26 : decode cX11_worth 26 = .ok (.getfield 54, 3) := by decide +kernel
theorem dX11_worth_29 : decode cX11_worth 29 = .ok (.aload_n 0, 1) := by decide +kernel
theorem dX11_worth_30 : decode cX11_worth 30 = .ok (.getfield 35, 3) := by decide +kernel
theorem dX11_worth_33 : decode cX11_worth 33 = .ok (.iload_n 1, 1) := by decide +kernel
theorem dX11_worth_34 : decode cX11_worth 34 = .ok (.iload_n 2, 1) := by decide +kernel
theorem dX11_worth_35 : decode cX11_worth 35 = .ok (.iload_n 3, 1) := by decide +kernel
theorem dX11_worth_36 : decode cX11_worth 36 = .ok (.invokevirtual 180, 3) := by decide +kernel
theorem dX11_worth_39 : decode cX11_worth 39 = .ok (.ireturn, 1) := by decide +kernel
theorem dX11_change_0 : decode cX11_change 0 = .ok (.aload_n 0, 1) := by decide +kernel
theorem dX11_change_1 : decode cX11_change 1 = .ok (.iload_n 1, 1) := by decide +kernel
theorem dX11_change_2 : decode cX11_change 2 = .ok (.invokevirtual 131, 3) := by decide +kernel
theorem dX11_change_5 : decode cX11_change 5 = .ok (.ifCond .eq 30, 3) := by decide +kernel
theorem dX11_change_8 : decode cX11_change 8 = .ok (.aload_n 0, 1) := by decide +kernel
theorem dX11_change_9 : decode cX11_change 9 = .ok (.iload_n 2, 1) := by decide +kernel
theorem dX11_change_10 : decode cX11_change 10 = .ok (.invokevirtual 131, 3) := by decide +kernel
theorem dX11_change_13 : decode cX11_change 13 = .ok (.ifCond .eq 22, 3) := by decide +kernel
theorem dX11_change_16 : decode cX11_change 16 = .ok (.aload_n 0, 1) := by decide +kernel
theorem dX11_change_17 : decode cX11_change 17 = .ok (.getfield 35, 3) := by decide +kernel
theorem dX11_change_20 : decode cX11_change 20 = .ok (.iload_n 1, 1) := by decide +kernel
theorem dX11_change_21 : decode cX11_change 21 = .ok (.invokevirtual 134, 3) := by decide +kernel
theorem dX11_change_24 : decode cX11_change 24 = .ok (.aload_n 0, 1) := by decide +kernel
theorem dX11_change_25 : decode cX11_change 25 = .ok (.getfield 35, 3) := by decide +kernel
theorem dX11_change_28 : decode cX11_change 28 = .ok (.iload_n 2, 1) := by decide +kernel
theorem dX11_change_29 : decode cX11_change 29 = .ok (.invokevirtual 134, 3) := by decide +kernel
theorem dX11_change_32 : decode cX11_change 32 = .ok (.if_icmp .ne 5, 3) := by decide +kernel
theorem dX11_change_35 : decode cX11_change 35 = .ok (.iconst 0, 1) := by decide +kernel
theorem dX11_change_36 : decode cX11_change 36 = .ok (.ireturn, 1) := by decide +kernel
theorem dX11_change_37 : decode cX11_change 37 = .ok (.aload_n 0, 1) := by decide +kernel
theorem dX11_change_38 : decode cX11_change 38 = .ok (.getfield 45, 3) := by decide +kernel
theorem dX11_change_41 : decode cX11_change 41 = .ok (.aload_n 0, 1) := by decide +kernel
theorem dX11_change_42 : decode cX11_change 42 = .ok (.getfield 35, 3) := by decide +kernel
theorem dX11_change_45 : decode cX11_change 45 = .ok (.invokevirtual 184, 3) := by decide +kernel
theorem dX11_change_48 : decode cX11_change 48 = .ok (.aload_n 0, 1) := by decide +kernel
theorem dX11_change_49 : decode cX11_change 49 = .ok (.getfield 35, 3) := by decide +kernel
theorem dX11_change_52 : decode cX11_change 52 = .ok (.iload_n 1, 1) := by decide +kernel
theorem dX11_change_53 : decode cX11_change 53 = .ok (.iload_n 2, 1) := by decide +kernel
theorem dX11_change_54 : decode cX11_change 54 = .ok (.invokevirtual 188, 3) := by decide +kernel
theorem dX11_change_57 : decode cX11_change 57 = .ok (.iconst 1, 1) := by decide +kernel
theorem dX11_change_58 : decode cX11_change 58 = .ok (.ireturn, 1) := by decide +kernel
theorem dX11_let_0 : decode cX11_let 0 = .ok (.iload_n 1, 1) := by decide +kernel
theorem dX11_let_1 : decode cX11_let 1 = .ok (.invokestatic 174, 3) := by decide +kernel
theorem dX11_let_4 : decode cX11_let 4 = .ok (.ifCond .eq 16, 3) := by decide +kernel
theorem dX11_let_7 : decode cX11_let 7 = .ok (.iload_n 2, 1) := by decide +kernel
theorem dX11_let_8 : decode cX11_let 8 = .ok (.iconst (-1), 1) := by decide +kernel
theorem dX11_let_9 : decode cX11_let 9 = .ok (.if_icmp .eq 13, 3) := by decide +kernel
theorem dX11_let_12 : decode cX11_let 12 = .ok (.aload_n 0, 1) := by decide +kernel
theorem dX11_let_13 : decode cX11_let 13 = .ok (.iload_n 2, 1) := by decide +kernel
theorem dX11_let_14 : decode cX11_let 14 = .ok (.invokevirtual 149, 3) := by decide +kernel
theorem dX11_let_17 : decode cX11_let 17 = .ok (.ifCond .ne 5, 3) := by decide +kernel
theorem dX11_let_20 : decode cX11_let 20 = .ok (.iconst 0, 1) := by decide +kernel
theorem dX11_let_21 : decode cX11_let 21 = .ok (.ireturn, 1) := by decide +kernel
theorem dX11_let_22 : decode cX11_let 22 = .ok (.iload_n 2, 1) := by decide +kernel
theorem dX11_let_23 : decode cX11_let 23 = .ok (.iconst (-1), 1) := by decide +kernel
theorem dX11_let_24 : decode cX11_let 24 = .ok (.if_icmp .ne 8, 3) := by decide +kernel
theorem dX11_let_27 : decode cX11_let 27 = .ok (.bipush (-2), 2) := by decide +kernel
theorem dX11_let_29 : decode cX11_let 29 = .ok (.goto 4, 3) := by decide +kernel
theorem dX11_let_32 : decode cX11_let 32 = .ok (.iload_n 2, 1) := by decide +kernel
theorem dX11_let_33 : decode cX11_let 33 = .ok (.istore_n 3, 1) := by decide +kernel
theorem dX11_let_34 : decode cX11_let 34 = .ok (.aload_n 0, 1) := by decide +kernel
theorem dX11_let_35 : decode cX11_let 35 = .ok (.getfield 35, 3) := by decide +kernel
theorem dX11_let_38 : decode cX11_let 38 = .ok (.iload_n 1, 1) := by decide +kernel
theorem dX11_let_39 : decode cX11_let 39 = .ok (.invokevirtual 177, 3) := by decide +kernel
theorem dX11_let_42 : decode cX11_let 42 = .ok (.iload_n 3, 1) := by decide +kernel
theorem dX11_let_43 : decode cX11_let 43 = .ok (.if_icmp .ne 5, 3) := by decide +kernel
theorem dX11_let_46 : decode cX11_let 46 = .ok (.iconst 0, 1) := by decide +kernel
theorem dX11_let_47 : decode cX11_let 47 = .ok (.ireturn, 1) := by decide +kernel
theorem dX11_let_48 : decode cX11_let 48 = .ok (.aload_n 0, 1) := by decide +kernel
theorem dX11_let_49 : decode cX11_let 49 = .ok (.getfield 45, 3) := by decide +kernel
theorem dX11_let_52 : decode cX11_let 52 = .ok (.aload_n 0, 1) := by decide +kernel
theorem dX11_let_53 : decode cX11_let 53 = .ok (.getfield 35, 3) := by decide +kernel
theorem dX11_let_56 : decode cX11_let 56 = .ok (.invokevirtual 184, 3) := by decide +kernel
theorem dX11_let_59 : decode cX11_let 59 = .ok (.aload_n 0, 1) := by decide +kernel
theorem dX11_let_60 : decode cX11_let 60 = .ok (.getfield 35, 3) := by decide +kernel
theorem dX11_let_63 : decode cX11_let 63 = .ok (.iload_n 1, 1) := by decide +kernel
theorem dX11_let_64 : decode cX11_let 64 = .ok (.iload_n 3, 1) := by decide +kernel
theorem dX11_let_65 : decode cX11_let 65 = .ok (.invokevirtual 192, 3) := by decide +kernel
theorem dX11_let_68 : decode cX11_let 68 = .ok (.iconst 1, 1) := by decide +kernel
theorem dX11_let_69 : decode cX11_let 69 = .ok (.ireturn, 1) := by decide +kernel
theorem dX11_give_0 : decode cX11_give 0 = .ok (.aload_n 0, 1) := by decide +kernel
theorem dX11_give_1 : decode cX11_give 1 = .ok (.getfield 35, 3) := by decide +kernel
theorem dX11_give_4 : decode cX11_give 4 = .ok (.getfield 203, 3) := by decide +kernel
theorem dX11_give_7 : decode cX11_give 7 = .ok (.iload_n 1, 1) := by decide +kernel
theorem dX11_give_8 : decode cX11_give 8 = .ok (.iaload, 1) := by decide +kernel
theorem dX11_give_9 : decode cX11_give 9 = .ok (.iload_n 2, 1) := by decide +kernel
theorem dX11_give_10 : decode cX11_give 10 = .ok (.ifCond .eq 7, 3) := by decide +kernel
theorem dX11_give_13 : decode cX11_give 13 = .ok (.iconst 1, 1) := by decide +kernel
theorem dX11_give_14 : decode cX11_give 14 = .ok (.goto 4, 3) := by decide +kernel
theorem dX11_give_17 : decode cX11_give 17 = .ok (.iconst (-1), 1) := by decide +kernel
theorem dX11_give_18 : decode cX11_give 18 = .ok (.iadd, 1) := by decide +kernel
theorem dX11_give_19 : decode cX11_give 19 = .ok (.istore_n 3, 1) := by decide +kernel
theorem dX11_give_20 : decode cX11_give 20 = .ok (.iload_n 3, 1) := by decide +kernel
theorem dX11_give_21 : decode cX11_give 21 = .ok (.iconst 0, 1) := by decide +kernel
theorem dX11_give_22 : decode cX11_give 22 = .ok (.bipush 9, 2) := by decide +kernel
theorem dX11_give_24 : decode cX11_give 24 = .ok (.invokestatic 105, 3) := by decide +kernel
theorem dX11_give_27 : decode cX11_give 27 = .ok (.ifCond .ne 5, 3) := by decide +kernel
theorem dX11_give_30 : decode cX11_give 30 = .ok (.iconst 0, 1) := by decide +kernel
theorem dX11_give_31 : decode cX11_give 31 = .ok (.ireturn, 1) := by decide +kernel
theorem dX11_give_32 : decode cX11_give 32 = .ok (.aload_n 0, 1) := by decide +kernel
theorem dX11_give_33 : decode cX11_give 33 = .ok (.getfield 45, 3) := by decide +kernel
theorem dX11_give_36 : decode cX11_give 36 = .ok (.aload_n 0, 1) := by decide +kernel
theorem dX11_give_37 : decode cX11_give 37 = .ok (.getfield 35, 3) := by decide +kernel
theorem dX11_give_40 : decode cX11_give 40 = .ok (.invokevirtual 184, 3) := by decide +kernel
theorem dX11_give_43 : decode cX11_give 43 = .ok (.aload_n 0, 1) := by decide +kernel
theorem dX11_give_44 : decode cX11_give 44 = .ok (.getfield 35, 3) := by decide +kernel
theorem dX11_give_47 : decode cX11_give 47 = .ok (.getfield 203, 3) := by decide +kernel
theorem dX11_give_50 : decode cX11_give 50 = .ok (.iload_n 1, 1) := by decide +kernel
theorem dX11_give_51 : decode cX11_give 51 = .ok (.iload_n 3, 1) := by decide +kernel
theorem dX11_give_52 : decode cX11_give 52 = .ok (.iastore, 1) := by decide +kernel
theorem dX11_give_53 : decode cX11_give 53 = .ok (.iconst 1, 1) := by decide +kernel
theorem dX11_give_54 : decode cX11_give 54 = .ok (.ireturn, 1) := by decide +kernel
theorem dX11_syrup_0 : decode cX11_syrup 0 = .ok (.aload_n 0, 1) := by decide +kernel
theorem dX11_syrup_1 : decode cX11_syrup 1 = .ok (.bipush 29, 2) := by decide +kernel
theorem dX11_syrup_3 : decode cX11_syrup 3 = .ok (.iload_n 1, 1) := by decide +kernel
theorem dX11_syrup_4 : decode cX11_syrup 4 = .ok (.invokevirtual 195, 3) := by decide +kernel
theorem dX11_syrup_7 : decode cX11_syrup 7 = .ok (.ireturn, 1) := by decide +kernel
theorem dX11_dust_0 : decode cX11_dust 0 = .ok (.aload_n 0, 1) := by decide +kernel
theorem dX11_dust_1 : decode cX11_dust 1 = .ok (.bipush 28, 2) := by decide +kernel
theorem dX11_dust_3 : decode cX11_dust 3 = .ok (.iload_n 1, 1) := by decide +kernel
theorem dX11_dust_4 : decode cX11_dust 4 = .ok (.invokevirtual 195, 3) := by decide +kernel
theorem dX11_dust_7 : decode cX11_dust 7 = .ok (.ireturn, 1) := by decide +kernel
theorem dX11_weeks_0 : decode cX11_weeks 0 = .ok (.iload_n 1, 1) := by decide +kernel
theorem dX11_weeks_1 : decode cX11_weeks 1 = .ok (.iconst 0, 1) := by decide +kernel
theorem dX11_weeks_2 : decode cX11_weeks 2 = .ok (.bipush 40, 2) := by decide +kernel
theorem dX11_weeks_4 : decode cX11_weeks 4 = .ok (.invokestatic 105, 3) := by decide +kernel
theorem dX11_weeks_7 : decode cX11_weeks 7 = .ok (.ifCond .ne 5, 3) := by decide +kernel
theorem dX11_weeks_10 : decode cX11_weeks 10 = .ok (.iconst (-1), 1) := by decide +kernel
theorem dX11_weeks_11 : decode cX11_weeks 11 = .ok (.ireturn, 1) := by decide +kernel
theorem dX11_weeks_12 : decode cX11_weeks 12 = .ok (.iload_n 1, 1) := by decide +kernel
theorem dX11_weeks_13 : decode cX11_weeks 13 = .ok (.ifCond .le 33, 3) := by decide +kernel
theorem dX11_weeks_16 : decode cX11_weeks 16 = .ok (.aload_n 0, 1) := by decide +kernel
theorem dX11_weeks_17 : decode cX11_weeks 17 = .ok (.getfield 45, 3) := by decide +kernel
theorem dX11_weeks_20 : decode cX11_weeks 20 = .ok (.aload_n 0, 1) := by decide +kernel
theorem dX11_weeks_21 : decode cX11_weeks 21 = .ok (.getfield 35, 3) := by decide +kernel
theorem dX11_weeks_24 : decode cX11_weeks 24 = .ok (.invokevirtual 184, 3) := by decide +kernel
theorem dX11_weeks_27 : decode cX11_weeks 27 = .ok (.aload_n 0, 1) := by decide +kernel
theorem dX11_weeks_28 : decode cX11_weeks 28 = .ok (.getfield 70, 3) := by decide +kernel
theorem dX11_weeks_31 : decode cX11_weeks 31 = .ok (.aload_n 0, 1) := by decide +kernel
theorem dX11_weeks_32 : decode cX11_weeks 32 = .ok (.getfield 35, 3) := by decide +kernel
theorem dX11_weeks_35 : decode cX11_weeks 35 = .ok (.iload_n 1, 1) := by decide +kernel
theorem dX11_weeks_36 : decode cX11_weeks 36 = .ok (.aload_n 0, 1) := by decide +kernel
theorem dX11_weeks_37 : decode cX11_weeks 37 = .ok (.getfield 28, 3) := by decide +kernel
theorem dX11_weeks_40 : decode cX11_weeks 40 = .ok (.getfield 142, 3) := by decide +kernel
theorem dX11_weeks_43 : decode cX11_weeks 43 = .ok (.invokevirtual 199, 3) := by decide +kernel
theorem dX11_weeks_46 : decode cX11_weeks 46 = .ok (.aload_n 0, 1) := by decide +kernel
theorem dX11_weeks_47 : decode cX11_weeks 47 = .ok (.getfield 35, 3) := by decide +kernel
theorem dX11_weeks_50 : decode cX11_weeks 50 = .ok (.getfield 203, 3) := by decide +kernel
theorem dX11_weeks_53 : decode cX11_weeks 53 = .ok (.bipush 30, 2) := by decide +kernel
theorem dX11_weeks_55 : decode cX11_weeks 55 = .ok (.iaload, 1) := by decide +kernel
theorem dX11_weeks_56 : decode cX11_weeks 56 = .ok (.ireturn, 1) := by decide +kernel
theorem dX11_undo_0 : decode cX11_undo 0 = .ok (.aload_n 0, 1) := by decide +kernel
theorem dX11_undo_1 : decode cX11_undo 1 = .ok (.getfield 45, 3) := by decide +kernel
theorem dX11_undo_4 : decode cX11_undo 4 = .ok (.aload_n 0, 1) := by decide +kernel
theorem dX11_undo_5 : decode cX11_undo 5 = .ok (.getfield 35, 3) := by decide +kernel
theorem dX11_undo_8 : decode cX11_undo 8 = .ok (.invokevirtual 206, 3) := by decide +kernel
theorem dX11_undo_11 : decode cX11_undo 11 = .ok (.ireturn, 1) := by decide +kernel
theorem dX11_odds_0 : decode cX11_odds 0 = .ok (.iload_n 1, 1) := by decide +kernel
theorem dX11_odds_1 : decode cX11_odds 1 = .ok (.iconst 0, 1) := by decide +kernel
theorem dX11_odds_2 : decode cX11_odds 2 = .ok (.bipush 8, 2) := by decide +kernel
theorem dX11_odds_4 : decode cX11_odds 4 = .ok (.invokestatic 105, 3) := by decide +kernel
theorem dX11_odds_7 : decode cX11_odds 7 = .ok (.ifCond .ne 5, 3) := by decide +kernel
theorem dX11_odds_10 : decode cX11_odds 10 = .ok (.iconst (-1), 1) := by decide +kernel
theorem dX11_odds_11 : decode cX11_odds 11 = .ok (.ireturn, 1) := by decide +kernel
theorem dX11_odds_12 : decode cX11_odds 12 = .ok (.aload_n 0, 1) := by decide +kernel
theorem dX11_odds_13 : decode cX11_odds 13 = .ok (.getfield 63, 3) := by decide +kernel
theorem dX11_odds_16 : decode cX11_odds 16 = .ok (.aload_n 0, 1) := by decide +kernel
theorem dX11_odds_17 : decode cX11_odds 17 = .ok (.getfield 35, 3) := by decide +kernel
theorem dX11_odds_20 : decode cX11_odds 20 = .ok (.invokevirtual 210, 3) := by decide +kernel
theorem dX11_odds_23 : decode cX11_odds 23 = .ok (.aload_n 0, 1) := by decide +kernel
theorem dX11_odds_24 : decode cX11_odds 24 = .ok (.getfield 63, 3) := by decide +kernel
theorem dX11_odds_27 : decode cX11_odds 27 = .ok (.iload_n 1, 1) := by decide +kernel
theorem dX11_odds_28 : decode cX11_odds 28 = .ok (.invokevirtual 213, 3) := by decide +kernel
theorem dX11_odds_31 : decode cX11_odds 31 = .ok (.ireturn, 1) := by decide +kernel
theorem dX11_falls_0 : decode cX11_falls 0 = .ok (.aload_n 0, 1) := by decide +kernel
theorem dX11_falls_1 : decode cX11_falls 1 = .ok (.iload_n 1, 1) := by decide +kernel
theorem dX11_falls_2 : decode cX11_falls 2 = .ok (.invokevirtual 131, 3) := by decide +kernel
theorem dX11_falls_5 : decode cX11_falls 5 = .ok (.ifCond .eq 10, 3) := by decide +kernel
theorem dX11_falls_8 : decode cX11_falls 8 = .ok (.iload_n 2, 1) := by decide +kernel
theorem dX11_falls_9 : decode cX11_falls 9 = .ok (.invokestatic 174, 3) := by decide +kernel
theorem dX11_falls_12 : decode cX11_falls 12 = .ok (.ifCond .ne 5, 3) := by decide +kernel
theorem dX11_falls_15 : decode cX11_falls 15 = .ok (.iconst (-1), 1) := by decide +kernel
theorem dX11_falls_16 : decode cX11_falls 16 = .ok (.ireturn, 1) := by decide +kernel
theorem dX11_falls_17 : decode cX11_falls 17 = .ok (.aload_n 0, 1) := by decide +kernel
theorem dX11_falls_18 : decode cX11_falls 18 = .ok (.getfield 63, 3) := by decide +kernel
theorem dX11_falls_21 : decode cX11_falls 21 = .ok (.aload_n 0, 1) := by decide +kernel
theorem dX11_falls_22 : decode cX11_falls 22 = .ok (.getfield 35, 3) := by decide +kernel
theorem dX11_falls_25 : decode cX11_falls 25 = .ok (.invokevirtual 210, 3) := by decide +kernel
theorem dX11_falls_28 : decode cX11_falls 28 = .ok (.aload_n 0, 1) := by decide +kernel
theorem dX11_falls_29 : decode cX11_falls 29 = .ok (.getfield 63, 3) := by decide +kernel
theorem dX11_falls_32 : decode cX11_falls 32 = .ok (.iload_n 1, 1) := by decide +kernel
theorem dX11_falls_33 : decode cX11_falls 33 = .ok (.iload_n 2, 1) := by decide +kernel
theorem dX11_falls_34 : decode cX11_falls 34 = .ok (.invokevirtual 216, 3) := by decide +kernel
theorem dX11_falls_37 : decode cX11_falls 37 = .ok (.ireturn, 1) := by decide +kernel
theorem dX11_value_0 : decode cX11_value 0 = .ok (.aload_n 0, 1) := by decide +kernel
theorem dX11_value_1 : decode cX11_value 1 = .ok (.iload_n 1, 1) := by decide +kernel
theorem dX11_value_2 : decode cX11_value 2 = .ok (.invokevirtual 149, 3) := by decide +kernel
theorem dX11_value_5 : decode cX11_value 5 = .ok (.ifCond .eq 10, 3) := by decide +kernel
theorem dX11_value_8 : decode cX11_value 8 = .ok (.iload_n 2, 1) := by decide +kernel
theorem dX11_value_9 : decode cX11_value 9 = .ok (.invokestatic 174, 3) := by decide +kernel
theorem dX11_value_12 : decode cX11_value 12 = .ok (.ifCond .ne 5, 3) := by decide +kernel
theorem dX11_value_15 : decode cX11_value 15 = .ok (.iconst (-1), 1) := by decide +kernel
theorem dX11_value_16 : decode cX11_value 16 = .ok (.ireturn, 1) := by decide +kernel
theorem dX11_value_17 : decode cX11_value 17 = .ok (.aload_n 0, 1) := by decide +kernel
theorem dX11_value_18 : decode cX11_value 18 = .ok (.getfield 63, 3) := by decide +kernel
theorem dX11_value_21 : decode cX11_value 21 = .ok (.aload_n 0, 1) := by decide +kernel
theorem dX11_value_22 : decode cX11_value 22 = .ok (.getfield 35, 3) := by decide +kernel
theorem dX11_value_25 : decode cX11_value 25 = .ok (.invokevirtual 210, 3) := by decide +kernel
theorem dX11_value_28 : decode cX11_value 28 = .ok (.aload_n 0, 1) := by decide +kernel
theorem dX11_value_29 : decode cX11_value 29 = .ok (.getfield 63, 3) := by decide +kernel
theorem dX11_value_32 : decode cX11_value 32 = .ok (.aload_n 0, 1) := by decide +kernel
theorem dX11_value_33 : decode cX11_value 33 = .ok (.getfield 35, 3) := by decide +kernel
theorem dX11_value_36 : decode cX11_value 36 = .ok (.iload_n 1, 1) := by decide +kernel
theorem dX11_value_37 : decode cX11_value 37 = .ok (.iconst 1, 1) := by decide +kernel
theorem dX11_value_38 : decode cX11_value 38 = .ok (.iload_n 2, 1) := by decide +kernel
theorem dX11_value_39 : decode cX11_value 39 = .ok (.ishl, 1) := by decide +kernel
theorem dX11_value_40 : decode cX11_value 40 = .ok (.invokevirtual 220, 3) := by decide +kernel
theorem dX11_value_43 : decode cX11_value 43 = .ok (.ireturn, 1) := by decide +kernel
theorem dX11_haveIn_0 : decode cX11_haveIn 0 = .ok (.aload_n 0, 1) := by decide +kernel
theorem dX11_haveIn_1 : decode cX11_haveIn 1 = .ok (.getfield 63, 3) := by decide +kernel
theorem dX11_haveIn_4 : decode cX11_haveIn 4 = .ok (.aload_n 1, 1) := by decide +kernel
theorem dX11_haveIn_5 : decode cX11_haveIn 5 = .ok (.invokevirtual 210, 3) := by decide +kernel
theorem dX11_haveIn_8 : decode cX11_haveIn 8 = .ok (.aload_n 0, 1) := by decide +kernel
theorem dX11_haveIn_9 : decode cX11_haveIn 9 = .ok (.getfield 63, 3) := by decide +kernel
theorem dX11_haveIn_12 : decode cX11_haveIn 12 = .ok (.aload_n 1, 1) := by decide +kernel
theorem dX11_haveIn_13 : decode cX11_haveIn 13 = .ok (.iload_n 2, 1) := by decide +kernel
theorem dX11_haveIn_14 : decode cX11_haveIn 14 = .ok (.aload_n 1, 1) := by decide +kernel
theorem dX11_haveIn_15 : decode cX11_haveIn 15 = .ok (.iload_n 2, 1) := by decide +kernel
theorem dX11_haveIn_16 : decode cX11_haveIn 16 = .ok (.invokevirtual 159, 3) := by decide +kernel
theorem dX11_haveIn_19 : decode cX11_haveIn 19 = .ok (.invokevirtual 220, 3) := by decide +kernel
theorem dX11_haveIn_22 : decode cX11_haveIn 22 = .ok (.ireturn, 1) := by decide +kernel
theorem dX11_have_0 : decode cX11_have 0 = .ok (.aload_n 0, 1) := by decide +kernel
theorem dX11_have_1 : decode cX11_have 1 = .ok (.iload_n 1, 1) := by decide +kernel
theorem dX11_have_2 : decode cX11_have 2 = .ok (.invokevirtual 149, 3) := by decide +kernel
theorem dX11_have_5 : decode cX11_have 5 = .ok (.ifCond .eq 15, 3) := by decide +kernel
theorem dX11_have_8 : decode cX11_have 8 = .ok (.aload_n 0, 1) := by decide +kernel
theorem dX11_have_9 : decode cX11_have 9 = .ok (.aload_n 0, 1) := by decide +kernel
theorem dX11_have_10 : decode cX11_have 10 = .ok (.getfield 35, 3) := by decide +kernel
theorem dX11_have_13 : decode cX11_have 13 = .ok (.iload_n 1, 1) := by decide +kernel
theorem dX11_have_14 : decode cX11_have 14 = .ok (.invokevirtual 224, 3) := by decide +kernel
theorem dX11_have_17 : decode cX11_have 17 = .ok (.goto 4, 3) := by decide +kernel
theorem dX11_have_20 : decode cX11_have 20 = .ok (.iconst (-1), 1) := by decide +kernel
theorem dX11_have_21 : decode cX11_have 21 = .ok (.ireturn, 1) := by decide +kernel
theorem dX11_mode_0 : decode cX11_mode 0 = .ok (.aload_n 0, 1) := by decide +kernel
theorem dX11_mode_1 : decode cX11_mode 1 = .ok (.iload_n 1, 1) := by decide +kernel
theorem dX11_mode_2 : decode cX11_mode 2 = .ok (.invokevirtual 131, 3) := by decide +kernel
theorem dX11_mode_5 : decode cX11_mode 5 = .ok (.ifCond .eq 12, 3) := by decide +kernel
theorem dX11_mode_8 : decode cX11_mode 8 = .ok (.iload_n 2, 1) := by decide +kernel
theorem dX11_mode_9 : decode cX11_mode 9 = .ok (.iconst 0, 1) := by decide +kernel
theorem dX11_mode_10 : decode cX11_mode 10 = .ok (.iconst 1, 1) := by decide +kernel
theorem dX11_mode_11 : decode cX11_mode 11 = .ok (.invokestatic 105, 3) := by decide +kernel
theorem dX11_mode_14 : decode cX11_mode 14 = .ok (.ifCond .ne 5, 3) := by decide +kernel
theorem dX11_mode_17 : decode cX11_mode 17 = .ok (.iconst (-1), 1) := by decide +kernel
theorem dX11_mode_18 : decode cX11_mode 18 = .ok (.ireturn, 1) := by decide +kernel
theorem dX11_mode_19 : decode cX11_mode 19 = .ok (.aload_n 0, 1) := by decide +kernel
theorem dX11_mode_20 : decode cX11_mode 20 = .ok (.getfield 63, 3) := by decide +kernel
theorem dX11_mode_23 : decode cX11_mode 23 = .ok (.aload_n 0, 1) := by decide +kernel
theorem dX11_mode_24 : decode cX11_mode 24 = .ok (.getfield 35, 3) := by decide +kernel
theorem dX11_mode_27 : decode cX11_mode 27 = .ok (.invokevirtual 210, 3) := by decide +kernel
theorem dX11_mode_30 : decode cX11_mode 30 = .ok (.iconst 0, 1) := by decide +kernel
theorem dX11_mode_31 : decode cX11_mode 31 = .ok (.istore_n 3, 1) := by decide +kernel
theorem dX11_mode_32 : decode cX11_mode 32 = .ok (.iconst 1, 1) := by decide +kernel
theorem dX11_mode_33 : decode cX11_mode 33 = .ok (.istore 4, 2) := by decide +kernel
theorem dX11_mode_35 : decode cX11_mode 35 = .ok (.iload 4, 2) := by decide +kernel
theorem dX11_mode_37 : decode cX11_mode 37 = .ok (.bipush 8, 2) := by decide +kernel
theorem dX11_mode_39 : decode cX11_mode 39 = .ok (.if_icmp .ge 34, 3) := by decide +kernel
theorem dX11_mode_42 : decode cX11_mode 42 = .ok (.aload_n 0, 1) := by decide +kernel
theorem dX11_mode_43 : decode cX11_mode 43 = .ok (.getfield 63, 3) := by decide +kernel
theorem dX11_mode_46 : decode cX11_mode 46 = .ok (.iload_n 1, 1) := by decide +kernel
theorem dX11_mode_47 : decode cX11_mode 47 = .ok (.iload 4, 2) := by decide +kernel
theorem dX11_mode_49 : decode cX11_mode 49 = .ok (.invokevirtual 216, 3) := by decide +kernel
theorem dX11_mode_52 : decode cX11_mode 52 = .ok (.aload_n 0, 1) := by decide +kernel
theorem dX11_mode_53 : decode cX11_mode 53 = .ok (.getfield 63, 3) := by decide +kernel
theorem dX11_mode_56 : decode cX11_mode 56 = .ok (.iload_n 1, 1) := by decide +kernel
theorem dX11_mode_57 : decode cX11_mode 57 = .ok (.iload_n 3, 1) := by decide +kernel
theorem dX11_mode_58 : decode cX11_mode 58 = .ok (.invokevirtual 216, 3) := by decide +kernel
theorem dX11_mode_61 : decode cX11_mode 61 = .ok (.if_icmp .le 6, 3) := by decide +kernel
theorem dX11_mode_64 : decode cX11_mode 64 = .ok (.iload 4, 2) := by decide +kernel
theorem dX11_mode_66 : decode cX11_mode 66 = .ok (.istore_n 3, 1) := by decide +kernel
theorem dX11_mode_67 : decode cX11_mode 67 = .ok (.iinc 4 1, 3) := by decide +kernel
theorem dX11_mode_70 : decode cX11_mode 70 = .ok (.goto (-35), 3) := by decide +kernel
theorem dX11_mode_73 : decode cX11_mode 73 = .ok (.iload_n 2, 1) := by decide +kernel
theorem dX11_mode_74 : decode cX11_mode 74 = .ok (.ifCond .ne 7, 3) := by decide +kernel
theorem dX11_mode_77 : decode cX11_mode 77 = .ok (.iload_n 3, 1) := by decide +kernel
theorem dX11_mode_78 : decode cX11_mode 78 = .ok (.goto 12, 3) := by decide +kernel
theorem dX11_mode_81 : decode cX11_mode 81 = .ok (.aload_n 0, 1) := by decide +kernel
theorem dX11_mode_82 : decode cX11_mode 82 = .ok (.getfield 63, 3) := by decide +kernel
theorem dX11_mode_85 : decode cX11_mode 85 = .ok (.iload_n 1, 1) := by decide +kernel
theorem dX11_mode_86 : decode cX11_mode 86 = .ok (.iload_n 3, 1) := by decide +kernel
theorem dX11_mode_87 : decode cX11_mode 87 = .ok (.invokevirtual 216, 3) := by decide +kernel
theorem dX11_mode_90 : decode cX11_mode 90 = .ok (.ireturn, 1) := by decide +kernel
theorem dX11_mean_0 : decode cX11_mean 0 = .ok (.aload_n 0, 1) := by decide +kernel
theorem dX11_mean_1 : decode cX11_mean 1 = .ok (.getfield 63, 3) := by decide +kernel
theorem dX11_mean_4 : decode cX11_mean 4 = .ok (.aload_n 0, 1) := by decide +kernel
theorem dX11_mean_5 : decode cX11_mean 5 = .ok (.getfield 35, 3) := by decide +kernel
theorem dX11_mean_8 : decode cX11_mean 8 = .ok (.invokevirtual 210, 3) := by decide +kernel
theorem dX11_mean_11 : decode cX11_mean 11 = .ok (.iconst 0, 1) := by decide +kernel
theorem dX11_mean_12 : decode cX11_mean 12 = .ok (.istore_n 1, 1) := by decide +kernel
theorem dX11_mean_13 : decode cX11_mean 13 = .ok (.iconst 1, 1) := by decide +kernel
theorem dX11_mean_14 : decode cX11_mean 14 = .ok (.istore_n 2, 1) := by decide +kernel
theorem dX11_mean_15 : decode cX11_mean 15 = .ok (.iload_n 2, 1) := by decide +kernel
theorem dX11_mean_16 : decode cX11_mean 16 = .ok (.bipush 8, 2) := by decide +kernel
theorem dX11_mean_18 : decode cX11_mean 18 = .ok (.if_icmp .gt 22, 3) := by decide +kernel
theorem dX11_mean_21 : decode cX11_mean 21 = .ok (.iload_n 1, 1) := by decide +kernel
theorem dX11_mean_22 : decode cX11_mean 22 = .ok (.iload_n 2, 1) := by decide +kernel
theorem dX11_mean_23 : decode cX11_mean 23 = .ok (.aload_n 0, 1) := by decide +kernel
theorem dX11_mean_24 : decode cX11_mean 24 = .ok (.getfield 63, 3) := by decide +kernel
theorem dX11_mean_27 : decode cX11_mean 27 = .ok (.iload_n 2, 1) := by decide +kernel
theorem dX11_mean_28 : decode cX11_mean 28 = .ok (.invokevirtual 213, 3) := by decide +kernel
theorem dX11_mean_31 : decode cX11_mean 31 = .ok (.imul, 1) := by decide +kernel
theorem dX11_mean_32 : decode cX11_mean 32 = .ok (.iadd, 1) := by decide +kernel
theorem dX11_mean_33 : decode cX11_mean 33 = .ok (.istore_n 1, 1) := by decide +kernel
theorem dX11_mean_34 : decode cX11_mean 34 = .ok (.iinc 2 1, 3) := by decide +kernel
theorem dX11_mean_37 : decode cX11_mean 37 = .ok (.goto (-22), 3) := by decide +kernel
theorem dX11_mean_40 : decode cX11_mean 40 = .ok (.iload_n 1, 1) := by decide +kernel
theorem dX11_mean_41 : decode cX11_mean 41 = .ok (.ireturn, 1) := by decide +kernel
theorem dX11_both_0 : decode cX11_both 0 = .ok (.aload_n 0, 1) := by decide +kernel
theorem dX11_both_1 : decode cX11_both 1 = .ok (.iload_n 1, 1) := by decide +kernel
theorem dX11_both_2 : decode cX11_both 2 = .ok (.invokevirtual 131, 3) := by decide +kernel
theorem dX11_both_5 : decode cX11_both 5 = .ok (.ifCond .eq 11, 3) := by decide +kernel
theorem dX11_both_8 : decode cX11_both 8 = .ok (.aload_n 0, 1) := by decide +kernel
theorem dX11_both_9 : decode cX11_both 9 = .ok (.iload_n 2, 1) := by decide +kernel
theorem dX11_both_10 : decode cX11_both 10 = .ok (.invokevirtual 131, 3) := by decide +kernel
theorem dX11_both_13 : decode cX11_both 13 = .ok (.ifCond .ne 5, 3) := by decide +kernel
theorem dX11_both_16 : decode cX11_both 16 = .ok (.iconst (-1), 1) := by decide +kernel
theorem dX11_both_17 : decode cX11_both 17 = .ok (.ireturn, 1) := by decide +kernel
theorem dX11_both_18 : decode cX11_both 18 = .ok (.aload_n 0, 1) := by decide +kernel
theorem dX11_both_19 : decode cX11_both 19 = .ok (.getfield 63, 3) := by decide +kernel
theorem dX11_both_22 : decode cX11_both 22 = .ok (.aload_n 0, 1) := by decide +kernel
theorem dX11_both_23 : decode cX11_both 23 = .ok (.getfield 35, 3) := by decide +kernel
theorem dX11_both_26 : decode cX11_both 26 = .ok (.invokevirtual 210, 3) := by decide +kernel
theorem dX11_both_29 : decode cX11_both 29 = .ok (.aload_n 0, 1) := by decide +kernel
theorem dX11_both_30 : decode cX11_both 30 = .ok (.getfield 63, 3) := by decide +kernel
theorem dX11_both_33 : decode cX11_both 33 = .ok (.iload_n 1, 1) := by decide +kernel
theorem dX11_both_34 : decode cX11_both 34 = .ok (.iload_n 2, 1) := by decide +kernel
theorem dX11_both_35 : decode cX11_both 35 = .ok (.invokestatic 227, 3) := by decide +kernel
theorem dX11_both_38 : decode cX11_both 38 = .ok (.iload_n 1, 1) := by decide +kernel
theorem dX11_both_39 : decode cX11_both 39 = .ok (.iload_n 2, 1) := by decide +kernel
theorem dX11_both_40 : decode cX11_both 40 = .ok (.invokestatic 232, 3) := by decide +kernel
theorem dX11_both_43 : decode cX11_both 43 = .ok (.invokevirtual 235, 3) := by decide +kernel
theorem dX11_both_46 : decode cX11_both 46 = .ok (.ireturn, 1) := by decide +kernel
theorem dX11_with_0 : decode cX11_with 0 = .ok (.iload_n 1, 1) := by decide +kernel
theorem dX11_with_1 : decode cX11_with 1 = .ok (.invokestatic 174, 3) := by decide +kernel
theorem dX11_with_4 : decode cX11_with 4 = .ok (.ifCond .eq 13, 3) := by decide +kernel
theorem dX11_with_7 : decode cX11_with 7 = .ok (.iload_n 2, 1) := by decide +kernel
theorem dX11_with_8 : decode cX11_with 8 = .ok (.iconst 0, 1) := by decide +kernel
theorem dX11_with_9 : decode cX11_with 9 = .ok (.bipush 10, 2) := by decide +kernel
theorem dX11_with_11 : decode cX11_with 11 = .ok (.invokestatic 105, 3) := by decide +kernel
theorem dX11_with_14 : decode cX11_with 14 = .ok (.ifCond .ne 5, 3) := by decide +kernel
theorem dX11_with_17 : decode cX11_with 17 = .ok (.iconst (-1), 1) := by decide +kernel
theorem dX11_with_18 : decode cX11_with 18 = .ok (.ireturn, 1) := by decide +kernel
theorem dX11_with_19 : decode cX11_with 19 = .ok (.aload_n 0, 1) := by decide +kernel
theorem dX11_with_20 : decode cX11_with 20 = .ok (.getfield 63, 3) := by decide +kernel
theorem dX11_with_23 : decode cX11_with 23 = .ok (.aload_n 0, 1) := by decide +kernel
theorem dX11_with_24 : decode cX11_with 24 = .ok (.getfield 35, 3) := by decide +kernel
theorem dX11_with_27 : decode cX11_with 27 = .ok (.invokevirtual 210, 3) := by decide +kernel
theorem dX11_with_30 : decode cX11_with 30 = .ok (.aload_n 0, 1) := by decide +kernel
theorem dX11_with_31 : decode cX11_with 31 = .ok (.getfield 63, 3) := by decide +kernel
theorem dX11_with_34 : decode cX11_with 34 = .ok (.iload_n 1, 1) := by decide +kernel
theorem dX11_with_35 : decode cX11_with 35 = .ok (.iload_n 2, 1) := by decide +kernel
theorem dX11_with_36 : decode cX11_with 36 = .ok (.invokevirtual 238, 3) := by decide +kernel
theorem dX11_with_39 : decode cX11_with 39 = .ok (.ireturn, 1) := by decide +kernel
theorem dX11_buy_0 : decode cX11_buy 0 = .ok (.aload_n 0, 1) := by decide +kernel
theorem dX11_buy_1 : decode cX11_buy 1 = .ok (.iload_n 1, 1) := by decide +kernel
theorem dX11_buy_2 : decode cX11_buy 2 = .ok (.invokevirtual 149, 3) := by decide +kernel
theorem dX11_buy_5 : decode cX11_buy 5 = .ok (.ifCond .eq 12, 3) := by decide +kernel
theorem dX11_buy_8 : decode cX11_buy 8 = .ok (.iload_n 2, 1) := by decide +kernel
theorem dX11_buy_9 : decode cX11_buy 9 = .ok (.iconst 0, 1) := by decide +kernel
theorem dX11_buy_10 : decode cX11_buy 10 = .ok (.iconst 1, 1) := by decide +kernel
theorem dX11_buy_11 : decode cX11_buy 11 = .ok (.invokestatic 105, 3) := by decide +kernel
theorem dX11_buy_14 : decode cX11_buy 14 = .ok (.ifCond .ne 5, 3) := by decide +kernel
theorem dX11_buy_17 : decode cX11_buy 17 = .ok (.iconst (-1), 1) := by decide +kernel
theorem dX11_buy_18 : decode cX11_buy 18 = .ok (.ireturn, 1) := by decide +kernel
theorem dX11_buy_19 : decode cX11_buy 19 = .ok (.aload_n 0, 1) := by decide +kernel
theorem dX11_buy_20 : decode cX11_buy 20 = .ok (.getfield 63, 3) := by decide +kernel
theorem dX11_buy_23 : decode cX11_buy 23 = .ok (.aload_n 0, 1) := by decide +kernel
theorem dX11_buy_24 : decode cX11_buy 24 = .ok (.getfield 35, 3) := by decide +kernel
theorem dX11_buy_27 : decode cX11_buy 27 = .ok (.invokevirtual 210, 3) := by decide +kernel
theorem dX11_buy_30 : decode cX11_buy 30 = .ok (.bipush (-2), 2) := by decide +kernel
theorem dX11_buy_32 : decode cX11_buy 32 = .ok (.istore_n 3, 1) := by decide +kernel
theorem dX11_buy_33 : decode cX11_buy 33 = .ok (.bipush (-2), 2) := by decide +kernel
theorem dX11_buy_35 : decode cX11_buy 35 = .ok (.istore 4, 2) := by decide +kernel
theorem dX11_buy_37 : decode cX11_buy 37 = .ok (.iconst 0, 1) := by decide +kernel
theorem dX11_buy_38 : decode cX11_buy 38 = .ok (.istore 5, 2) := by decide +kernel
theorem dX11_buy_40 : decode cX11_buy 40 = .ok (.iload 5, 2) := by decide +kernel
theorem dX11_buy_42 : decode cX11_buy 42 = .ok (.bipush 8, 2) := by decide +kernel
theorem dX11_buy_44 : decode cX11_buy 44 = .ok (.if_icmp .ge 55, 3) := by decide +kernel
theorem dX11_buy_47 : decode cX11_buy 47 = .ok (.aload_n 0, 1) := by decide +kernel
theorem dX11_buy_48 : decode cX11_buy 48 = .ok (.getfield 35, 3) := by decide +kernel
theorem dX11_buy_51 : decode cX11_buy 51 = .ok (.iload 5, 2) := by decide +kernel
theorem dX11_buy_53 : decode cX11_buy 53 = .ok (.invokevirtual 177, 3) := by decide +kernel
theorem dX11_buy_56 : decode cX11_buy 56 = .ok (.bipush (-2), 2) := by decide +kernel
theorem dX11_buy_58 : decode cX11_buy 58 = .ok (.if_icmp .ne 35, 3) := by decide +kernel
theorem dX11_buy_61 : decode cX11_buy 61 = .ok (.aload_n 0, 1) := by decide +kernel
theorem dX11_buy_62 : decode cX11_buy 62 = .ok (.getfield 63, 3) := by decide +kernel
theorem dX11_buy_65 : decode cX11_buy 65 = .ok (.aload_n 0, 1) := by decide +kernel
theorem dX11_buy_66 : decode cX11_buy 66 = .ok (.getfield 35, 3) := by decide +kernel
theorem dX11_buy_69 : decode cX11_buy 69 = .ok (.iload_n 1, 1) := by decide +kernel
theorem dX11_buy_70 : decode cX11_buy 70 = .ok (.iconst 1, 1) := by decide +kernel
theorem dX11_buy_71 : decode cX11_buy 71 = .ok (.iload 5, 2) := by decide +kernel
theorem dX11_buy_73 : decode cX11_buy 73 = .ok (.ishl, 1) := by decide +kernel
theorem dX11_buy_74 : decode cX11_buy 74 = .ok (.invokevirtual 220, 3) := by decide +kernel
theorem dX11_buy_77 : decode cX11_buy 77 = .ok (.istore 6, 2) := by decide +kernel
theorem dX11_buy_79 : decode cX11_buy 79 = .ok (.iload 6, 2) := by decide +kernel
theorem dX11_buy_81 : decode cX11_buy 81 = .ok (.iload 4, 2) := by decide +kernel
theorem dX11_buy_83 : decode cX11_buy 83 = .ok (.if_icmp .le 10, 3) := by decide +kernel
theorem dX11_buy_86 : decode cX11_buy 86 = .ok (.iload 5, 2) := by decide +kernel
theorem dX11_buy_88 : decode cX11_buy 88 = .ok (.istore_n 3, 1) := by decide +kernel
theorem dX11_buy_89 : decode cX11_buy 89 = .ok (.iload 6, 2) := by decide +kernel
theorem dX11_buy_91 : decode cX11_buy 91 = .ok (.istore 4, 2) := by decide +kernel
theorem dX11_buy_93 : decode cX11_buy 93 = .ok (.iinc 5 1, 3) := by decide +kernel
theorem dX11_buy_96 : decode cX11_buy 96 = .ok (.goto (-56), 3) := by decide +kernel
theorem dX11_buy_99 : decode cX11_buy 99 = .ok (.iload_n 2, 1) := by decide +kernel
theorem dX11_buy_100 : decode cX11_buy 100 = .ok (.ifCond .ne 7, 3) := by decide +kernel
theorem dX11_buy_103 : decode cX11_buy 103 = .ok (.iload_n 3, 1) := by decide +kernel
theorem dX11_buy_104 : decode cX11_buy 104 = .ok (.goto 5, 3) := by decide +kernel
theorem dX11_buy_107 : decode cX11_buy 107 = .ok (.iload 4, 2) := by decide +kernel
theorem dX11_buy_109 : decode cX11_buy 109 = .ok (.ireturn, 1) := by decide +kernel
theorem dX11_haveAfterChange_0 : decode cX11_haveAfterChange 0 = .ok (.aload_n 0, 1) := by decide +kernel
theorem dX11_haveAfterChange_1 : decode cX11_haveAfterChange 1 = .ok (.getfield 39, 3) := by decide +kernel
theorem dX11_haveAfterChange_4 : decode cX11_haveAfterChange 4 = .ok (.aload_n 0, 1) := by decide +kernel
theorem dX11_haveAfterChange_5 : decode cX11_haveAfterChange 5 = .ok (.getfield 35, 3) := by decide +kernel
theorem dX11_haveAfterChange_8 : decode cX11_haveAfterChange 8 = .ok (.invokevirtual 347, 3) := by decide +kernel
theorem dX11_haveAfterChange_11 : decode cX11_haveAfterChange 11 = .ok (.aload_n 0, 1) := by decide +kernel
theorem dX11_haveAfterChange_12 : decode cX11_haveAfterChange 12 = .ok (.getfield 39, 3) := by decide +kernel
theorem dX11_haveAfterChange_15 : decode cX11_haveAfterChange 15 = .ok (.iload_n 2, 1) := by decide +kernel
theorem dX11_haveAfterChange_16 : decode cX11_haveAfterChange 16 = .ok (.iload_n 3, 1) := by decide +kernel
theorem dX11_haveAfterChange_17 : decode cX11_haveAfterChange 17 = .ok (.invokevirtual 188, 3) := by decide +kernel
theorem dX11_haveAfterChange_20 : decode cX11_haveAfterChange 20 = .ok (.aload_n 0, 1) := by decide +kernel
theorem dX11_haveAfterChange_21 : decode cX11_haveAfterChange 21 = .ok (.aload_n 0, 1) := by decide +kernel
theorem dX11_haveAfterChange_22 : decode cX11_haveAfterChange 22 = .ok (.getfield 39, 3) := by decide +kernel
theorem dX11_haveAfterChange_25 : decode cX11_haveAfterChange 25 = .ok (.iload_n 1, 1) := by decide +kernel
theorem dX11_haveAfterChange_26 : decode cX11_haveAfterChange 26 = .ok (.invokevirtual 224, 3) := by decide +kernel
theorem dX11_haveAfterChange_29 : decode cX11_haveAfterChange 29 = .ok (.ireturn, 1) := by decide +kernel
theorem dX11_swap_0 : decode cX11_swap 0 = .ok (.aload_n 0, 1) := by decide +kernel
theorem dX11_swap_1 : decode cX11_swap 1 = .ok (.iload_n 1, 1) := by decide +kernel
theorem dX11_swap_2 : decode cX11_swap 2 = .ok (.invokevirtual 149, 3) := by decide +kernel
theorem dX11_swap_5 : decode cX11_swap 5 = .ok (.ifCond .eq 12, 3) := by decide +kernel
theorem dX11_swap_8 : decode cX11_swap 8 = .ok (.iload_n 2, 1) := by decide +kernel
theorem dX11_swap_9 : decode cX11_swap 9 = .ok (.iconst 0, 1) := by decide +kernel
theorem dX11_swap_10 : decode cX11_swap 10 = .ok (.iconst 1, 1) := by decide +kernel
theorem dX11_swap_11 : decode cX11_swap 11 = .ok (.invokestatic 105, 3) := by decide +kernel
theorem dX11_swap_14 : decode cX11_swap 14 = .ok (.ifCond .ne 5, 3) := by decide +kernel
theorem dX11_swap_17 : decode cX11_swap 17 = .ok (.iconst (-1), 1) := by decide +kernel
theorem dX11_swap_18 : decode cX11_swap 18 = .ok (.ireturn, 1) := by decide +kernel
theorem dX11_swap_19 : decode cX11_swap 19 = .ok (.bipush (-2), 2) := by decide +kernel
theorem dX11_swap_21 : decode cX11_swap 21 = .ok (.istore_n 3, 1) := by decide +kernel
theorem dX11_swap_22 : decode cX11_swap 22 = .ok (.aload_n 0, 1) := by decide +kernel
theorem dX11_swap_23 : decode cX11_swap 23 = .ok (.aload_n 0, 1) := by decide +kernel
theorem dX11_swap_24 : decode cX11_swap 24 = .ok (.getfield 35, 3) := by decide +kernel
theorem dX11_swap_27 : decode cX11_swap 27 = .ok (.iload_n 1, 1) := by decide +kernel
theorem dX11_swap_28 : decode cX11_swap 28 = .ok (.invokevirtual 224, 3) := by decide +kernel
theorem dX11_swap_31 : decode cX11_swap 31 = .ok (.istore 4, 2) := by decide +kernel
theorem dX11_swap_33 : decode cX11_swap 33 = .ok (.iconst 0, 1) := by decide +kernel
theorem dX11_swap_34 : decode cX11_swap 34 = .ok (.istore 5, 2) := by decide +kernel
theorem dX11_swap_36 : decode cX11_swap 36 = .ok (.iload 5, 2) := by decide +kernel
theorem dX11_swap_38 : decode cX11_swap 38 = .ok (.aload_n 0, 1) := by decide +kernel
theorem dX11_swap_39 : decode cX11_swap 39 = .ok (.getfield 28, 3) := by decide +kernel
theorem dX11_swap_42 : decode cX11_swap 42 = .ok (.getfield 241, 3) := by decide +kernel
theorem dX11_swap_45 : decode cX11_swap 45 = .ok (.if_icmp .ge 64, 3) := by decide +kernel
theorem dX11_swap_48 : decode cX11_swap 48 = .ok (.iload 5, 2) := by decide +kernel
theorem dX11_swap_50 : decode cX11_swap 50 = .ok (.iconst 1, 1) := by decide +kernel
theorem dX11_swap_51 : decode cX11_swap 51 = .ok (.iadd, 1) := by decide +kernel
theorem dX11_swap_52 : decode cX11_swap 52 = .ok (.istore 6, 2) := by decide +kernel
theorem dX11_swap_54 : decode cX11_swap 54 = .ok (.iload 6, 2) := by decide +kernel
theorem dX11_swap_56 : decode cX11_swap 56 = .ok (.aload_n 0, 1) := by decide +kernel
theorem dX11_swap_57 : decode cX11_swap 57 = .ok (.getfield 28, 3) := by decide +kernel
theorem dX11_swap_60 : decode cX11_swap 60 = .ok (.getfield 241, 3) := by decide +kernel
theorem dX11_swap_63 : decode cX11_swap 63 = .ok (.if_icmp .ge 40, 3) := by decide +kernel
theorem dX11_swap_66 : decode cX11_swap 66 = .ok (.aload_n 0, 1) := by decide +kernel
theorem dX11_swap_67 : decode cX11_swap 67 = .ok (.iload_n 1, 1) := by decide +kernel
theorem dX11_swap_68 : decode cX11_swap 68 = .ok (.iload 5, 2) := by decide +kernel
theorem dX11_swap_70 : decode cX11_swap 70 = .ok (.iload 6, 2) := by decide +kernel
theorem dX11_swap_72 : decode cX11_swap 72 = .ok (.invokevirtual 244, 3) := by decide +kernel
theorem dX11_swap_75 : decode cX11_swap 75 = .ok (.istore 7, 2) := by decide +kernel
theorem dX11_swap_77 : decode cX11_swap 77 = .ok (.iload 7, 2) := by decide +kernel
theorem dX11_swap_79 : decode cX11_swap 79 = .ok (.iload 4, 2) := by decide +kernel
theorem dX11_swap_81 : decode cX11_swap 81 = .ok (.if_icmp .le 16, 3) := by decide +kernel
theorem dX11_swap_84 : decode cX11_swap 84 = .ok (.bipush 10, 2) := by decide +kernel
theorem dX11_swap_86 : decode cX11_swap 86 = .ok (.iload 5, 2) := by decide +kernel
theorem dX11_swap_88 : decode cX11_swap 88 = .ok (.imul, 1) := by decide +kernel
theorem dX11_swap_89 : decode cX11_swap 89 = .ok (.iload 6, 2) := by decide +kernel
theorem dX11_swap_91 : decode cX11_swap 91 = .ok (.iadd, 1) := by decide +kernel
theorem dX11_swap_92 : decode cX11_swap 92 = .ok (.istore_n 3, 1) := by decide +kernel
theorem dX11_swap_93 : decode cX11_swap 93 = .ok (.iload 7, 2) := by decide +kernel
theorem dX11_swap_95 : decode cX11_swap 95 = .ok (.istore 4, 2) := by decide +kernel
theorem dX11_swap_97 : decode cX11_swap 97 = .ok (.iinc 6 1, 3) := by decide +kernel
theorem dX11_swap_100 : decode cX11_swap 100 = .ok (.goto (-46), 3) := by decide +kernel
theorem dX11_swap_103 : decode cX11_swap 103 = .ok (.iinc 5 1, 3) := by decide +kernel
theorem dX11_swap_106 : decode cX11_swap 106 = .ok (.goto (-70), 3) := by decide +kernel
theorem dX11_swap_109 : decode cX11_swap 109 = .ok (.iload_n 2, 1) := by decide +kernel
theorem dX11_swap_110 : decode cX11_swap 110 = .ok (.ifCond .eq 9, 3) := by decide +kernel
theorem dX11_swap_113 : decode cX11_swap 113 = .ok (.iload_n 3, 1) := by decide +kernel
theorem dX11_swap_114 : decode cX11_swap 114 = .ok (.bipush (-2), 2) := by decide +kernel
theorem dX11_swap_116 : decode cX11_swap 116 = .ok (.if_icmp .ne 7, 3) := by decide +kernel
theorem dX11_swap_119 : decode cX11_swap 119 = .ok (.iload_n 3, 1) := by decide +kernel
theorem dX11_swap_120 : decode cX11_swap 120 = .ok (.goto 5, 3) := by decide +kernel
theorem dX11_swap_123 : decode cX11_swap 123 = .ok (.iload 4, 2) := by decide +kernel
theorem dX11_swap_125 : decode cX11_swap 125 = .ok (.ireturn, 1) := by decide +kernel
theorem dX11_isMatter_0 : decode cX11_isMatter 0 = .ok (.iload_n 0, 1) := by decide +kernel
theorem dX11_isMatter_1 : decode cX11_isMatter 1 = .ok (.iconst 0, 1) := by decide +kernel
theorem dX11_isMatter_2 : decode cX11_isMatter 2 = .ok (.iconst 5, 1) := by decide +kernel
theorem dX11_isMatter_3 : decode cX11_isMatter 3 = .ok (.invokestatic 105, 3) := by decide +kernel
theorem dX11_isMatter_6 : decode cX11_isMatter 6 = .ok (.ireturn, 1) := by decide +kernel
theorem dX11_sure_0 : decode cX11_sure 0 = .ok (.aload_n 0, 1) := by decide +kernel
theorem dX11_sure_1 : decode cX11_sure 1 = .ok (.iload_n 1, 1) := by decide +kernel
theorem dX11_sure_2 : decode cX11_sure 2 = .ok (.invokevirtual 149, 3) := by decide +kernel
theorem dX11_sure_5 : decode cX11_sure 5 = .ok (.ifCond .eq 10, 3) := by decide +kernel
theorem dX11_sure_8 : decode cX11_sure 8 = .ok (.iload_n 2, 1) := by decide +kernel
theorem dX11_sure_9 : decode cX11_sure 9 = .ok (.invokestatic 248, 3) := by decide +kernel
theorem dX11_sure_12 : decode cX11_sure 12 = .ok (.ifCond .ne 5, 3) := by decide +kernel
theorem dX11_sure_15 : decode cX11_sure 15 = .ok (.iconst (-1), 1) := by decide +kernel
theorem dX11_sure_16 : decode cX11_sure 16 = .ok (.ireturn, 1) := by decide +kernel
theorem dX11_sure_17 : decode cX11_sure 17 = .ok (.aload_n 0, 1) := by decide +kernel
theorem dX11_sure_18 : decode cX11_sure 18 = .ok (.getfield 79, 3) := by decide +kernel
theorem dX11_sure_21 : decode cX11_sure 21 = .ok (.aload_n 0, 1) := by decide +kernel
theorem dX11_sure_22 : decode cX11_sure 22 = .ok (.getfield 35, 3) := by decide +kernel
theorem dX11_sure_25 : decode cX11_sure 25 = .ok (.iload_n 2, 1) := by decide +kernel
theorem dX11_sure_26 : decode cX11_sure 26 = .ok (.invokevirtual 251, 3) := by decide +kernel
theorem dX11_sure_29 : decode cX11_sure 29 = .ok (.aload_n 0, 1) := by decide +kernel
theorem dX11_sure_30 : decode cX11_sure 30 = .ok (.getfield 79, 3) := by decide +kernel
theorem dX11_sure_33 : decode cX11_sure 33 = .ok (.aload_n 0, 1) := by decide +kernel
theorem dX11_sure_34 : decode cX11_sure 34 = .ok (.getfield 35, 3) := by decide +kernel
theorem dX11_sure_37 : decode cX11_sure 37 = .ok (.iload_n 1, 1) := by decide +kernel
theorem dX11_sure_38 : decode cX11_sure 38 = .ok (.invokevirtual 159, 3) := by decide +kernel
theorem dX11_sure_41 : decode cX11_sure 41 = .ok (.invokevirtual 255, 3) := by decide +kernel
theorem dX11_sure_44 : decode cX11_sure 44 = .ok (.ifCond .eq 7, 3) := by decide +kernel
theorem dX11_sure_47 : decode cX11_sure 47 = .ok (.iconst 1, 1) := by decide +kernel
theorem dX11_sure_48 : decode cX11_sure 48 = .ok (.goto 4, 3) := by decide +kernel
theorem dX11_sure_51 : decode cX11_sure 51 = .ok (.iconst 0, 1) := by decide +kernel
theorem dX11_sure_52 : decode cX11_sure 52 = .ok (.ireturn, 1) := by decide +kernel
theorem dX11_mattersThereAre_0 : decode cX11_mattersThereAre 0 = .ok (.iconst 0, 1) := by decide +kernel
theorem dX11_mattersThereAre_1 : decode cX11_mattersThereAre 1 = .ok (.istore_n 1, 1) := by decide +kernel
theorem dX11_mattersThereAre_2 : decode cX11_mattersThereAre 2 = .ok (.iconst 0, 1) := by decide +kernel
theorem dX11_mattersThereAre_3 : decode cX11_mattersThereAre 3 = .ok (.istore_n 2, 1) := by decide +kernel
theorem dX11_mattersThereAre_4 : decode cX11_mattersThereAre 4 = .ok (.iload_n 2, 1) := by decide +kernel
theorem dX11_mattersThereAre_5 : decode cX11_mattersThereAre 5 = .ok (.aload_n 0, 1) := by decide +kernel
theorem dX11_mattersThereAre_6 : decode cX11_mattersThereAre 6 = .ok (.getfield 28, 3) := by decide +kernel
theorem dX11_mattersThereAre_9 : decode cX11_mattersThereAre 9 = .ok (.getfield 241, 3) := by decide +kernel
theorem dX11_mattersThereAre_12 : decode cX11_mattersThereAre 12 = .ok (.if_icmp .ge 22, 3) := by decide +kernel
theorem dX11_mattersThereAre_15 : decode cX11_mattersThereAre 15 = .ok (.iload_n 1, 1) := by decide +kernel
theorem dX11_mattersThereAre_16 : decode cX11_mattersThereAre 16 = .ok (.iconst 1, 1) := by decide +kernel
theorem dX11_mattersThereAre_17 : decode cX11_mattersThereAre 17 = .ok (.aload_n 0, 1) := by decide +kernel
theorem dX11_mattersThereAre_18 : decode cX11_mattersThereAre 18 = .ok (.getfield 35, 3) := by decide +kernel
theorem dX11_mattersThereAre_21 : decode cX11_mattersThereAre 21 = .ok (.iload_n 2, 1) := by decide +kernel
theorem dX11_mattersThereAre_22 : decode cX11_mattersThereAre 22 = .ok (.invokevirtual 134, 3) := by decide +kernel
theorem dX11_mattersThereAre_25 : decode cX11_mattersThereAre 25 = .ok (.ishl, 1) := by decide +kernel
theorem dX11_mattersThereAre_26 : decode cX11_mattersThereAre 26 = .ok (.ior, 1) := by decide +kernel
theorem dX11_mattersThereAre_27 : decode cX11_mattersThereAre 27 = .ok (.istore_n 1, 1) := by decide +kernel
theorem dX11_mattersThereAre_28 : decode cX11_mattersThereAre 28 = .ok (.iinc 2 1, 3) := by decide +kernel
theorem dX11_mattersThereAre_31 : decode cX11_mattersThereAre 31 = .ok (.goto (-27), 3) := by decide +kernel
theorem dX11_mattersThereAre_34 : decode cX11_mattersThereAre 34 = .ok (.iload_n 1, 1) := by decide +kernel
theorem dX11_mattersThereAre_35 : decode cX11_mattersThereAre 35 = .ok (.ireturn, 1) := by decide +kernel
theorem dX11_cover_0 : decode cX11_cover 0 = .ok (.iload_n 1, 1) := by decide +kernel
theorem dX11_cover_1 : decode cX11_cover 1 = .ok (.invokestatic 248, 3) := by decide +kernel
theorem dX11_cover_4 : decode cX11_cover 4 = .ok (.ifCond .eq 12, 3) := by decide +kernel
theorem dX11_cover_7 : decode cX11_cover 7 = .ok (.iload_n 2, 1) := by decide +kernel
theorem dX11_cover_8 : decode cX11_cover 8 = .ok (.iconst 0, 1) := by decide +kernel
theorem dX11_cover_9 : decode cX11_cover 9 = .ok (.iconst 1, 1) := by decide +kernel
theorem dX11_cover_10 : decode cX11_cover 10 = .ok (.invokestatic 105, 3) := by decide +kernel
theorem dX11_cover_13 : decode cX11_cover 13 = .ok (.ifCond .ne 5, 3) := by decide +kernel
theorem dX11_cover_16 : decode cX11_cover 16 = .ok (.iconst (-1), 1) := by decide +kernel
theorem dX11_cover_17 : decode cX11_cover 17 = .ok (.ireturn, 1) := by decide +kernel
theorem dX11_cover_18 : decode cX11_cover 18 = .ok (.aload_n 0, 1) := by decide +kernel
theorem dX11_cover_19 : decode cX11_cover 19 = .ok (.invokevirtual 258, 3) := by decide +kernel
theorem dX11_cover_22 : decode cX11_cover 22 = .ok (.iload_n 1, 1) := by decide +kernel
theorem dX11_cover_23 : decode cX11_cover 23 = .ok (.ishr, 1) := by decide +kernel
theorem dX11_cover_24 : decode cX11_cover 24 = .ok (.iconst 1, 1) := by decide +kernel
theorem dX11_cover_25 : decode cX11_cover 25 = .ok (.iand, 1) := by decide +kernel
theorem dX11_cover_26 : decode cX11_cover 26 = .ok (.ifCond .ne 6, 3) := by decide +kernel
theorem dX11_cover_29 : decode cX11_cover 29 = .ok (.bipush (-2), 2) := by decide +kernel
theorem dX11_cover_31 : decode cX11_cover 31 = .ok (.ireturn, 1) := by decide +kernel
theorem dX11_cover_32 : decode cX11_cover 32 = .ok (.aload_n 0, 1) := by decide +kernel
theorem dX11_cover_33 : decode cX11_cover 33 = .ok (.getfield 79, 3) := by decide +kernel
theorem dX11_cover_36 : decode cX11_cover 36 = .ok (.aload_n 0, 1) := by decide +kernel
theorem dX11_cover_37 : decode cX11_cover 37 = .ok (.getfield 35, 3) := by decide +kernel
theorem dX11_cover_40 : decode cX11_cover 40 = .ok (.iload_n 1, 1) := by decide +kernel
theorem dX11_cover_41 : decode cX11_cover 41 = .ok (.invokevirtual 251, 3) := by decide +kernel
theorem dX11_cover_44 : decode cX11_cover 44 = .ok (.aload_n 0, 1) := by decide +kernel
theorem dX11_cover_45 : decode cX11_cover 45 = .ok (.getfield 79, 3) := by decide +kernel
theorem dX11_cover_48 : decode cX11_cover 48 = .ok (.invokevirtual 261, 3) := by decide +kernel
theorem dX11_cover_51 : decode cX11_cover 51 = .ok (.istore_n 3, 1) := by decide +kernel
theorem dX11_cover_52 : decode cX11_cover 52 = .ok (.iload_n 2, 1) := by decide +kernel
theorem dX11_cover_53 : decode cX11_cover 53 = .ok (.ifCond .ne 10, 3) := by decide +kernel
theorem dX11_cover_56 : decode cX11_cover 56 = .ok (.iload_n 3, 1) := by decide +kernel
theorem dX11_cover_57 : decode cX11_cover 57 = .ok (.invokestatic 264, 3) := by decide +kernel
theorem dX11_cover_60 : decode cX11_cover 60 = .ok (.goto 4, 3) := by decide +kernel
theorem dX11_cover_63 : decode cX11_cover 63 = .ok (.iload_n 3, 1) := by decide +kernel
theorem dX11_cover_64 : decode cX11_cover 64 = .ok (.ireturn, 1) := by decide +kernel
theorem dX11_gainByOneMore_0 : decode cX11_gainByOneMore 0 = .ok (.aload_n 0, 1) := by decide +kernel
theorem dX11_gainByOneMore_1 : decode cX11_gainByOneMore 1 = .ok (.getfield 35, 3) := by decide +kernel
theorem dX11_gainByOneMore_4 : decode cX11_gainByOneMore 4 = .ok (.getfield 203, 3) := by decide +kernel
theorem dX11_gainByOneMore_7 : decode cX11_gainByOneMore 7 = .ok (.iload_n 2, 1) := by decide +kernel
theorem dX11_gainByOneMore_8 : decode cX11_gainByOneMore 8 = .ok (.iaload, 1) := by decide +kernel
theorem dX11_gainByOneMore_9 : decode cX11_gainByOneMore 9 = .ok (.bipush 9, 2) := by decide +kernel
theorem dX11_gainByOneMore_11 : decode cX11_gainByOneMore 11 = .ok (.if_icmp .lt 5, 3) := by decide +kernel
theorem dX11_gainByOneMore_14 : decode cX11_gainByOneMore 14 = .ok (.iconst 0, 1) := by decide +kernel
theorem dX11_gainByOneMore_15 : decode cX11_gainByOneMore 15 = .ok (.ireturn, 1) := by decide +kernel
theorem dX11_gainByOneMore_16 : decode cX11_gainByOneMore 16 = .ok (.aload_n 0, 1) := by decide +kernel
theorem dX11_gainByOneMore_17 : decode cX11_gainByOneMore 17 = .ok (.getfield 39, 3) := by decide +kernel
theorem dX11_gainByOneMore_20 : decode cX11_gainByOneMore 20 = .ok (.aload_n 0, 1) := by decide +kernel
theorem dX11_gainByOneMore_21 : decode cX11_gainByOneMore 21 = .ok (.getfield 35, 3) := by decide +kernel
theorem dX11_gainByOneMore_24 : decode cX11_gainByOneMore 24 = .ok (.invokevirtual 347, 3) := by decide +kernel
theorem dX11_gainByOneMore_27 : decode cX11_gainByOneMore 27 = .ok (.aload_n 0, 1) := by decide +kernel
theorem dX11_gainByOneMore_28 : decode cX11_gainByOneMore 28 = .ok (.getfield 39, 3) := by decide +kernel
theorem dX11_gainByOneMore_31 : decode cX11_gainByOneMore 31 = .ok (.getfield 203, 3) := by decide +kernel
theorem dX11_gainByOneMore_34 : decode cX11_gainByOneMore 34 = .ok (.iload_n 2, 1) := by decide +kernel
theorem dX11_gainByOneMore_35 : decode cX11_gainByOneMore 35 = .ok (.dup2, 1) := by decide +kernel
theorem dX11_gainByOneMore_36 : decode cX11_gainByOneMore 36 = .ok (.iaload, 1) := by decide +kernel
theorem dX11_gainByOneMore_37 : decode cX11_gainByOneMore 37 = .ok (.iconst 1, 1) := by decide +kernel
theorem dX11_gainByOneMore_38 : decode cX11_gainByOneMore 38 = .ok (.iadd, 1) := by decide +kernel
theorem dX11_gainByOneMore_39 : decode cX11_gainByOneMore 39 = .ok (.iastore, 1) := by decide +kernel
theorem dX11_gainByOneMore_40 : decode cX11_gainByOneMore 40 = .ok (.aload_n 0, 1) := by decide +kernel
theorem dX11_gainByOneMore_41 : decode cX11_gainByOneMore 41 = .ok (.aload_n 0, 1) := by decide +kernel
theorem dX11_gainByOneMore_42 : decode cX11_gainByOneMore 42 = .ok (.getfield 39, 3) := by decide +kernel
theorem dX11_gainByOneMore_45 : decode cX11_gainByOneMore 45 = .ok (.iload_n 1, 1) := by decide +kernel
theorem dX11_gainByOneMore_46 : decode cX11_gainByOneMore 46 = .ok (.invokevirtual 224, 3) := by decide +kernel
theorem dX11_gainByOneMore_49 : decode cX11_gainByOneMore 49 = .ok (.aload_n 0, 1) := by decide +kernel
theorem dX11_gainByOneMore_50 : decode cX11_gainByOneMore 50 = .ok (.aload_n 0, 1) := by decide +kernel
theorem dX11_gainByOneMore_51 : decode cX11_gainByOneMore 51 = .ok (.getfield 35, 3) := by decide +kernel
theorem dX11_gainByOneMore_54 : decode cX11_gainByOneMore 54 = .ok (.iload_n 1, 1) := by decide +kernel
theorem dX11_gainByOneMore_55 : decode cX11_gainByOneMore 55 = .ok (.invokevirtual 224, 3) := by decide +kernel
theorem dX11_gainByOneMore_58 : decode cX11_gainByOneMore 58 = .ok (.isub, 1) := by decide +kernel
theorem dX11_gainByOneMore_59 : decode cX11_gainByOneMore 59 = .ok (.ireturn, 1) := by decide +kernel
theorem dX11_pepper_0 : decode cX11_pepper 0 = .ok (.aload_n 0, 1) := by decide +kernel
theorem dX11_pepper_1 : decode cX11_pepper 1 = .ok (.iload_n 1, 1) := by decide +kernel
theorem dX11_pepper_2 : decode cX11_pepper 2 = .ok (.invokevirtual 149, 3) := by decide +kernel
theorem dX11_pepper_5 : decode cX11_pepper 5 = .ok (.ifCond .eq 13, 3) := by decide +kernel
theorem dX11_pepper_8 : decode cX11_pepper 8 = .ok (.aload_n 0, 1) := by decide +kernel
theorem dX11_pepper_9 : decode cX11_pepper 9 = .ok (.iload_n 1, 1) := by decide +kernel
theorem dX11_pepper_10 : decode cX11_pepper 10 = .ok (.bipush 28, 2) := by decide +kernel
theorem dX11_pepper_12 : decode cX11_pepper 12 = .ok (.invokevirtual 269, 3) := by decide +kernel
theorem dX11_pepper_15 : decode cX11_pepper 15 = .ok (.goto 6, 3) := by decide +kernel
theorem dX11_pepper_18 : decode cX11_pepper 18 = .ok (.ldc_w 272, 3) := by decide +kernel
theorem dX11_pepper_21 : decode cX11_pepper 21 = .ok (.ireturn, 1) := by decide +kernel
theorem dX11_soothes_0 : decode cX11_soothes 0 = .ok (.aload_n 0, 1) := by decide +kernel
theorem dX11_soothes_1 : decode cX11_soothes 1 = .ok (.iload_n 1, 1) := by decide +kernel
theorem dX11_soothes_2 : decode cX11_soothes 2 = .ok (.invokevirtual 149, 3) := by decide +kernel
theorem dX11_soothes_5 : decode cX11_soothes 5 = .ok (.ifCond .eq 13, 3) := by decide +kernel
theorem dX11_soothes_8 : decode cX11_soothes 8 = .ok (.aload_n 0, 1) := by decide +kernel
theorem dX11_soothes_9 : decode cX11_soothes 9 = .ok (.iload_n 1, 1) := by decide +kernel
theorem dX11_soothes_10 : decode cX11_soothes 10 = .ok (.bipush 29, 2) := by decide +kernel
theorem dX11_soothes_12 : decode cX11_soothes 12 = .ok (.invokevirtual 269, 3) := by decide +kernel
theorem dX11_soothes_15 : decode cX11_soothes 15 = .ok (.goto 6, 3) := by decide +kernel
theorem dX11_soothes_18 : decode cX11_soothes 18 = .ok (.ldc_w 272, 3) := by decide +kernel
theorem dX11_soothes_21 : decode cX11_soothes 21 = .ok (.ireturn, 1) := by decide +kernel
theorem dX11_choicesOf_0 : decode cX11_choicesOf 0 = .ok (.iconst 3, 1) := by decide +kernel
theorem dX11_choicesOf_1 : decode cX11_choicesOf 1 = .ok (.bipush 9, 2) := by decide +kernel
theorem dX11_choicesOf_3 : decode cX11_choicesOf 3 = .ok (.aload_n 0, 1) := by decide +kernel
theorem dX11_choicesOf_4 : decode cX11_choicesOf 4 = .ok (.getfield 35, 3) := by decide +kernel
theorem dX11_choicesOf_7 : decode cX11_choicesOf 7 = .ok (.getfield 203, 3) := by decide +kernel
theorem dX11_choicesOf_10 : decode cX11_choicesOf 10 = .ok (.iload_n 1, 1) := by decide +kernel
theorem dX11_choicesOf_11 : decode cX11_choicesOf 11 = .ok (.iaload, 1) := by decide +kernel
theorem dX11_choicesOf_12 : decode cX11_choicesOf 12 = .ok (.isub, 1) := by decide +kernel
theorem dX11_choicesOf_13 : decode cX11_choicesOf 13 = .ok (.invokestatic 227, 3) := by decide +kernel
theorem dX11_choicesOf_16 : decode cX11_choicesOf 16 = .ok (.ireturn, 1) := by decide +kernel
theorem dX11_haveAfter_0 : decode cX11_haveAfter 0 = .ok (.aload_n 0, 1) := by decide +kernel
theorem dX11_haveAfter_1 : decode cX11_haveAfter 1 = .ok (.getfield 39, 3) := by decide +kernel
theorem dX11_haveAfter_4 : decode cX11_haveAfter 4 = .ok (.aload_n 0, 1) := by decide +kernel
theorem dX11_haveAfter_5 : decode cX11_haveAfter 5 = .ok (.getfield 35, 3) := by decide +kernel
theorem dX11_haveAfter_8 : decode cX11_haveAfter 8 = .ok (.invokevirtual 347, 3) := by decide +kernel
theorem dX11_haveAfter_11 : decode cX11_haveAfter 11 = .ok (.aload_n 0, 1) := by decide +kernel
theorem dX11_haveAfter_12 : decode cX11_haveAfter 12 = .ok (.getfield 39, 3) := by decide +kernel
theorem dX11_haveAfter_15 : decode cX11_haveAfter 15 = .ok (.getfield 203, 3) := by decide +kernel
theorem dX11_haveAfter_18 : decode cX11_haveAfter 18 = .ok (.bipush 28, 2) := by decide +kernel
theorem dX11_haveAfter_20 : decode cX11_haveAfter 20 = .ok (.dup2, 1) := by decide +kernel
theorem dX11_haveAfter_21 : decode cX11_haveAfter 21 = .ok (.iaload, 1) := by decide +kernel
theorem dX11_haveAfter_22 : decode cX11_haveAfter 22 = .ok (.iload_n 2, 1) := by decide +kernel
theorem dX11_haveAfter_23 : decode cX11_haveAfter 23 = .ok (.iadd, 1) := by decide +kernel
theorem dX11_haveAfter_24 : decode cX11_haveAfter 24 = .ok (.iastore, 1) := by decide +kernel
theorem dX11_haveAfter_25 : decode cX11_haveAfter 25 = .ok (.aload_n 0, 1) := by decide +kernel
theorem dX11_haveAfter_26 : decode cX11_haveAfter 26 = .ok (.getfield 39, 3) := by decide +kernel
theorem dX11_haveAfter_29 : decode cX11_haveAfter 29 = .ok (.getfield 203, 3) := by decide +kernel
theorem dX11_haveAfter_32 : decode cX11_haveAfter 32 = .ok (.bipush 29, 2) := by decide +kernel
theorem dX11_haveAfter_34 : decode cX11_haveAfter 34 = .ok (.dup2, 1) := by decide +kernel
theorem dX11_haveAfter_35 : decode cX11_haveAfter 35 = .ok (.iaload, 1) := by decide +kernel
theorem dX11_haveAfter_36 : decode cX11_haveAfter 36 = .ok (.iload_n 3, 1) := by decide +kernel
theorem dX11_haveAfter_37 : decode cX11_haveAfter 37 = .ok (.iadd, 1) := by decide +kernel
theorem dX11_haveAfter_38 : decode cX11_haveAfter 38 = .ok (.iastore, 1) := by decide +kernel
theorem dX11_haveAfter_39 : decode cX11_haveAfter 39 = .ok (.aload_n 0, 1) := by decide +kernel
theorem dX11_haveAfter_40 : decode cX11_haveAfter 40 = .ok (.aload_n 0, 1) := by decide +kernel
theorem dX11_haveAfter_41 : decode cX11_haveAfter 41 = .ok (.getfield 39, 3) := by decide +kernel
theorem dX11_haveAfter_44 : decode cX11_haveAfter 44 = .ok (.iload_n 1, 1) := by decide +kernel
theorem dX11_haveAfter_45 : decode cX11_haveAfter 45 = .ok (.invokevirtual 224, 3) := by decide +kernel
theorem dX11_haveAfter_48 : decode cX11_haveAfter 48 = .ok (.ireturn, 1) := by decide +kernel
theorem dX11_answerTo_0 : decode cX11_answerTo 0 = .ok (.iconst 0, 1) := by decide +kernel
theorem dX11_answerTo_1 : decode cX11_answerTo 1 = .ok (.istore_n 3, 1) := by decide +kernel
theorem dX11_answerTo_2 : decode cX11_answerTo 2 = .ok (.iconst (-1), 1) := by decide +kernel
theorem dX11_answerTo_3 : decode cX11_answerTo 3 = .ok (.istore 4, 2) := by decide +kernel
theorem dX11_answerTo_5 : decode cX11_answerTo 5 = .ok (.iconst 0, 1) := by decide +kernel
theorem dX11_answerTo_6 : decode cX11_answerTo 6 = .ok (.istore 5, 2) := by decide +kernel
theorem dX11_answerTo_8 : decode cX11_answerTo 8 = .ok (.iload 5, 2) := by decide +kernel
theorem dX11_answerTo_10 : decode cX11_answerTo 10 = .ok (.aload_n 0, 1) := by decide +kernel
theorem dX11_answerTo_11 : decode cX11_answerTo 11 = .ok (.bipush 29, 2) := by decide +kernel
theorem dX11_answerTo_13 : decode cX11_answerTo 13 = .ok (.invokevirtual 273, 3) := by decide +kernel
theorem dX11_answerTo_16 : decode cX11_answerTo 16 = .ok (.if_icmp .gt 33, 3) := by decide +kernel
theorem dX11_answerTo_19 : decode cX11_answerTo 19 = .ok (.aload_n 0, 1) := by decide +kernel
theorem dX11_answerTo_20 : decode cX11_answerTo 20 = .ok (.iload_n 2, 1) := by decide +kernel
theorem dX11_answerTo_21 : decode cX11_answerTo 21 = .ok (.iload_n 1, 1) := by decide +kernel
theorem dX11_answerTo_22 : decode cX11_answerTo 22 = .ok (.iload 5, 2) := by decide +kernel
theorem dX11_answerTo_24 : decode cX11_answerTo 24 = .ok (.invokevirtual 279, 3) := by decide +kernel
theorem dX11_answerTo_27 : decode cX11_answerTo 27 = .ok (.istore 6, 2) := by decide +kernel
theorem dX11_answerTo_29 : decode cX11_answerTo 29 = .ok (.iload 6, 2) := by decide +kernel
theorem dX11_answerTo_31 : decode cX11_answerTo 31 = .ok (.iload 4, 2) := by decide +kernel
theorem dX11_answerTo_33 : decode cX11_answerTo 33 = .ok (.if_icmp .le 10, 3) := by decide +kernel
theorem dX11_answerTo_36 : decode cX11_answerTo 36 = .ok (.iload 5, 2) := by decide +kernel
theorem dX11_answerTo_38 : decode cX11_answerTo 38 = .ok (.istore_n 3, 1) := by decide +kernel
theorem dX11_answerTo_39 : decode cX11_answerTo 39 = .ok (.iload 6, 2) := by decide +kernel
theorem dX11_answerTo_41 : decode cX11_answerTo 41 = .ok (.istore 4, 2) := by decide +kernel
theorem dX11_answerTo_43 : decode cX11_answerTo 43 = .ok (.iinc 5 1, 3) := by decide +kernel
theorem dX11_answerTo_46 : decode cX11_answerTo 46 = .ok (.goto (-38), 3) := by decide +kernel
theorem dX11_answerTo_49 : decode cX11_answerTo 49 = .ok (.iload_n 3, 1) := by decide +kernel
theorem dX11_answerTo_50 : decode cX11_answerTo 50 = .ok (.ireturn, 1) := by decide +kernel
theorem dX11_game_0 : decode cX11_game 0 = .ok (.aload_n 0, 1) := by decide +kernel
theorem dX11_game_1 : decode cX11_game 1 = .ok (.iload_n 1, 1) := by decide +kernel
theorem dX11_game_2 : decode cX11_game 2 = .ok (.invokevirtual 149, 3) := by decide +kernel
theorem dX11_game_5 : decode cX11_game 5 = .ok (.ifCond .eq 25, 3) := by decide +kernel
theorem dX11_game_8 : decode cX11_game 8 = .ok (.aload_n 0, 1) := by decide +kernel
theorem dX11_game_9 : decode cX11_game 9 = .ok (.iload_n 2, 1) := by decide +kernel
theorem dX11_game_10 : decode cX11_game 10 = .ok (.invokevirtual 149, 3) := by decide +kernel
theorem dX11_game_13 : decode cX11_game 13 = .ok (.ifCond .eq 17, 3) := by decide +kernel
theorem dX11_game_16 : decode cX11_game 16 = .ok (.iload_n 1, 1) := by decide +kernel
theorem dX11_game_17 : decode cX11_game 17 = .ok (.iload_n 2, 1) := by decide +kernel
theorem dX11_game_18 : decode cX11_game 18 = .ok (.if_icmp .eq 12, 3) := by decide +kernel
theorem dX11_game_21 : decode cX11_game 21 = .ok (.iload_n 3, 1) := by decide +kernel
theorem dX11_game_22 : decode cX11_game 22 = .ok (.iconst 0, 1) := by decide +kernel
theorem dX11_game_23 : decode cX11_game 23 = .ok (.iconst 2, 1) := by decide +kernel
theorem dX11_game_24 : decode cX11_game 24 = .ok (.invokestatic 105, 3) := by decide +kernel
theorem dX11_game_27 : decode cX11_game 27 = .ok (.ifCond .ne 5, 3) := by decide +kernel
theorem dX11_game_30 : decode cX11_game 30 = .ok (.iconst (-1), 1) := by decide +kernel
theorem dX11_game_31 : decode cX11_game 31 = .ok (.ireturn, 1) := by decide +kernel
theorem dX11_game_32 : decode cX11_game 32 = .ok (.iconst 0, 1) := by decide +kernel
theorem dX11_game_33 : decode cX11_game 33 = .ok (.istore 4, 2) := by decide +kernel
theorem dX11_game_35 : decode cX11_game 35 = .ok (.iconst 0, 1) := by decide +kernel
theorem dX11_game_36 : decode cX11_game 36 = .ok (.istore 5, 2) := by decide +kernel
theorem dX11_game_38 : decode cX11_game 38 = .ok (.iconst (-1), 1) := by decide +kernel
theorem dX11_game_39 : decode cX11_game 39 = .ok (.istore 6, 2) := by decide +kernel
theorem dX11_game_41 : decode cX11_game 41 = .ok (.iconst 0, 1) := by decide +kernel
theorem dX11_game_42 : decode cX11_game 42 = .ok (.istore 7, 2) := by decide +kernel
theorem dX11_game_44 : decode cX11_game 44 = .ok (.iload 7, 2) := by decide +kernel
theorem dX11_game_46 : decode cX11_game 46 = .ok (.aload_n 0, 1) := by decide +kernel
theorem dX11_game_47 : decode cX11_game 47 = .ok (.bipush 28, 2) := by decide +kernel
theorem dX11_game_49 : decode cX11_game 49 = .ok (.invokevirtual 273, 3) := by decide +kernel
theorem dX11_game_52 : decode cX11_game 52 = .ok (.if_icmp .gt 48, 3) := by decide +kernel
theorem dX11_game_55 : decode cX11_game 55 = .ok (.aload_n 0, 1) := by decide +kernel
theorem dX11_game_56 : decode cX11_game 56 = .ok (.iload 7, 2) := by decide +kernel
theorem dX11_game_58 : decode cX11_game 58 = .ok (.iload_n 2, 1) := by decide +kernel
theorem dX11_game_59 : decode cX11_game 59 = .ok (.invokevirtual 276, 3) := by decide +kernel
theorem dX11_game_62 : decode cX11_game 62 = .ok (.istore 8, 2) := by decide +kernel
theorem dX11_game_64 : decode cX11_game 64 = .ok (.aload_n 0, 1) := by decide +kernel
theorem dX11_game_65 : decode cX11_game 65 = .ok (.iload_n 1, 1) := by decide +kernel
theorem dX11_game_66 : decode cX11_game 66 = .ok (.iload 7, 2) := by decide +kernel
theorem dX11_game_68 : decode cX11_game 68 = .ok (.iload 8, 2) := by decide +kernel
theorem dX11_game_70 : decode cX11_game 70 = .ok (.invokevirtual 279, 3) := by decide +kernel
theorem dX11_game_73 : decode cX11_game 73 = .ok (.istore 9, 2) := by decide +kernel
theorem dX11_game_75 : decode cX11_game 75 = .ok (.iload 9, 2) := by decide +kernel
theorem dX11_game_77 : decode cX11_game 77 = .ok (.iload 6, 2) := by decide +kernel
theorem dX11_game_79 : decode cX11_game 79 = .ok (.if_icmp .le 15, 3) := by decide +kernel
theorem dX11_game_82 : decode cX11_game 82 = .ok (.iload 7, 2) := by decide +kernel
theorem dX11_game_84 : decode cX11_game 84 = .ok (.istore 4, 2) := by decide +kernel
theorem dX11_game_86 : decode cX11_game 86 = .ok (.iload 8, 2) := by decide +kernel
theorem dX11_game_88 : decode cX11_game 88 = .ok (.istore 5, 2) := by decide +kernel
theorem dX11_game_90 : decode cX11_game 90 = .ok (.iload 9, 2) := by decide +kernel
theorem dX11_game_92 : decode cX11_game 92 = .ok (.istore 6, 2) := by decide +kernel
theorem dX11_game_94 : decode cX11_game 94 = .ok (.iinc 7 1, 3) := by decide +kernel
theorem dX11_game_97 : decode cX11_game 97 = .ok (.goto (-53), 3) := by decide +kernel
theorem dX11_game_100 : decode cX11_game 100 = .ok (.iload_n 3, 1) := by decide +kernel
theorem dX11_game_101 : decode cX11_game 101 = .ok (.ifCond .ne 6, 3) := by decide +kernel
theorem dX11_game_104 : decode cX11_game 104 = .ok (.iload 4, 2) := by decide +kernel
theorem dX11_game_106 : decode cX11_game 106 = .ok (.ireturn, 1) := by decide +kernel
theorem dX11_game_107 : decode cX11_game 107 = .ok (.iload_n 3, 1) := by decide +kernel
theorem dX11_game_108 : decode cX11_game 108 = .ok (.iconst 1, 1) := by decide +kernel
theorem dX11_game_109 : decode cX11_game 109 = .ok (.if_icmp .ne 8, 3) := by decide +kernel
theorem dX11_game_112 : decode cX11_game 112 = .ok (.iload 5, 2) := by decide +kernel
theorem dX11_game_114 : decode cX11_game 114 = .ok (.goto 5, 3) := by decide +kernel
theorem dX11_game_117 : decode cX11_game 117 = .ok (.iload 6, 2) := by decide +kernel
theorem dX11_game_119 : decode cX11_game 119 = .ok (.ireturn, 1) := by decide +kernel
theorem dX11_cure_0 : decode cX11_cure 0 = .ok (.aload_n 0, 1) := by decide +kernel
theorem dX11_cure_1 : decode cX11_cure 1 = .ok (.getfield 63, 3) := by decide +kernel
theorem dX11_cure_4 : decode cX11_cure 4 = .ok (.aload_n 0, 1) := by decide +kernel
theorem dX11_cure_5 : decode cX11_cure 5 = .ok (.getfield 35, 3) := by decide +kernel
theorem dX11_cure_8 : decode cX11_cure 8 = .ok (.invokevirtual 210, 3) := by decide +kernel
theorem dX11_cure_11 : decode cX11_cure 11 = .ok (.iconst 0, 1) := by decide +kernel
theorem dX11_cure_12 : decode cX11_cure 12 = .ok (.istore_n 1, 1) := by decide +kernel
theorem dX11_cure_13 : decode cX11_cure 13 = .ok (.iconst 0, 1) := by decide +kernel
theorem dX11_cure_14 : decode cX11_cure 14 = .ok (.istore_n 2, 1) := by decide +kernel
theorem dX11_cure_15 : decode cX11_cure 15 = .ok (.iload_n 2, 1) := by decide +kernel
theorem dX11_cure_16 : decode cX11_cure 16 = .ok (.aload_n 0, 1) := by decide +kernel
theorem dX11_cure_17 : decode cX11_cure 17 = .ok (.getfield 28, 3) := by decide +kernel
theorem dX11_cure_20 : decode cX11_cure 20 = .ok (.getfield 282, 3) := by decide +kernel
theorem dX11_cure_23 : decode cX11_cure 23 = .ok (.if_icmp .ge 54, 3) := by decide +kernel
theorem dX11_cure_26 : decode cX11_cure 26 = .ok (.aload_n 0, 1) := by decide +kernel
theorem dX11_cure_27 : decode cX11_cure 27 = .ok (.getfield 63, 3) := by decide +kernel
theorem dX11_cure_30 : decode cX11_cure 30 = .ok (.aload_n 0, 1) := by decide +kernel
theorem dX11_cure_31 : decode cX11_cure 31 = .ok (.getfield 35, 3) := by decide +kernel
theorem dX11_cure_34 : decode cX11_cure 34 = .ok (.iload_n 2, 1) := by decide +kernel
theorem dX11_cure_35 : decode cX11_cure 35 = .ok (.invokevirtual 285, 3) := by decide +kernel
theorem dX11_cure_38 : decode cX11_cure 38 = .ok (.iconst 2, 1) := by decide +kernel
theorem dX11_cure_39 : decode cX11_cure 39 = .ok (.aload_n 0, 1) := by decide +kernel
theorem dX11_cure_40 : decode cX11_cure 40 = .ok (.getfield 28, 3) := by decide +kernel
theorem dX11_cure_43 : decode cX11_cure 43 = .ok (.getfield 241, 3) := by decide +kernel
theorem dX11_cure_46 : decode cX11_cure 46 = .ok (.imul, 1) := by decide +kernel
theorem dX11_cure_47 : decode cX11_cure 47 = .ok (.ishr, 1) := by decide +kernel
theorem dX11_cure_48 : decode cX11_cure 48 = .ok (.istore_n 3, 1) := by decide +kernel
theorem dX11_cure_49 : decode cX11_cure 49 = .ok (.aload_n 0, 1) := by decide +kernel
theorem dX11_cure_50 : decode cX11_cure 50 = .ok (.getfield 54, 3) := by decide +kernel
theorem dX11_cure_53 : decode cX11_cure 53 = .ok (.aload_n 0, 1) := by decide +kernel
theorem dX11_cure_54 : decode cX11_cure 54 = .ok (.getfield 35, 3) := by decide +kernel
theorem dX11_cure_57 : decode cX11_cure 57 = .ok (.iload_n 2, 1) := by decide +kernel
theorem dX11_cure_58 : decode cX11_cure 58 = .ok (.invokevirtual 171, 3) := by decide +kernel
theorem dX11_cure_61 : decode cX11_cure 61 = .ok (.iload_n 3, 1) := by decide +kernel
theorem dX11_cure_62 : decode cX11_cure 62 = .ok (.if_icmp .le 9, 3) := by decide +kernel
theorem dX11_cure_65 : decode cX11_cure 65 = .ok (.iload_n 1, 1) := by decide +kernel
theorem dX11_cure_66 : decode cX11_cure 66 = .ok (.iconst 1, 1) := by decide +kernel
theorem dX11_cure_67 : decode cX11_cure 67 = .ok (.iload_n 2, 1) := by decide +kernel
theorem dX11_cure_68 : decode cX11_cure 68 = .ok (.ishl, 1) := by decide +kernel
theorem dX11_cure_69 : decode cX11_cure 69 = .ok (.ior, 1) := by decide +kernel
theorem dX11_cure_70 : decode cX11_cure 70 = .ok (.istore_n 1, 1) := by decide +kernel
theorem dX11_cure_71 : decode cX11_cure 71 = .ok (.iinc 2 1, 3) := by decide +kernel
theorem dX11_cure_74 : decode cX11_cure 74 = .ok (.goto (-59), 3) := by decide +kernel
theorem dX11_cure_77 : decode cX11_cure 77 = .ok (.iload_n 1, 1) := by decide +kernel
theorem dX11_cure_78 : decode cX11_cure 78 = .ok (.ireturn, 1) := by decide +kernel
theorem fl_X11_12 : fl RX11 12 11 0 := ⟨RX11, TX11, 11, rfl, iw_X11, by decide, lg_at 400 (by decide +kernel) (by decide +kernel), rfl⟩
theorem fl_X11_21 : fl RX11 21 11 1 := ⟨RX11, TX11, 11, rfl, iw_X11, by decide, lg_at 401 (by decide +kernel) (by decide +kernel), rfl⟩
theorem fl_X11_28 : fl RX11 28 11 2 := ⟨RX11, TX11, 11, rfl, iw_X11, by decide, lg_at 402 (by decide +kernel) (by decide +kernel), rfl⟩
theorem fl_X11_35 : fl RX11 35 11 3 := ⟨RX11, TX11, 11, rfl, iw_X11, by decide, lg_at 403 (by decide +kernel) (by decide +kernel), rfl⟩
theorem fl_X11_39 : fl RX11 39 11 4 := ⟨RX11, TX11, 11, rfl, iw_X11, by decide, lg_at 404 (by decide +kernel) (by decide +kernel), rfl⟩
theorem fl_X11_45 : fl RX11 45 11 5 := ⟨RX11, TX11, 11, rfl, iw_X11, by decide, lg_at 405 (by decide +kernel) (by decide +kernel), rfl⟩
theorem fl_X11_54 : fl RX11 54 11 6 := ⟨RX11, TX11, 11, rfl, iw_X11, by decide, lg_at 406 (by decide +kernel) (by decide +kernel), rfl⟩
theorem fl_X11_63 : fl RX11 63 11 7 := ⟨RX11, TX11, 11, rfl, iw_X11, by decide, lg_at 407 (by decide +kernel) (by decide +kernel), rfl⟩
theorem fl_X11_70 : fl RX11 70 11 8 := ⟨RX11, TX11, 11, rfl, iw_X11, by decide, lg_at 408 (by decide +kernel) (by decide +kernel), rfl⟩
theorem fl_X11_79 : fl RX11 79 11 9 := ⟨RX11, TX11, 11, rfl, iw_X11, by decide, lg_at 409 (by decide +kernel) (by decide +kernel), rfl⟩
theorem fl_X11_86 : fl RX11 86 11 10 := ⟨RX11, TX11, 11, rfl, iw_X11, by decide, lg_at 410 (by decide +kernel) (by decide +kernel), rfl⟩
theorem fl_X11_101 : fl RX11 101 8 1 := ⟨RX8, TX8, 2, rfl, iw_X8, by decide, lg_at 39 (by decide +kernel) (by decide +kernel), rfl⟩
theorem fl_X11_113 : fl RX11 113 5 0 := ⟨RX5, TX5, 14, rfl, iw_X5, by decide, lg_at 179 (by decide +kernel) (by decide +kernel), rfl⟩
theorem fl_X11_128 : fl RX11 128 5 1 := ⟨RX5, TX5, 14, rfl, iw_X5, by decide, lg_at 181 (by decide +kernel) (by decide +kernel), rfl⟩
theorem fl_X11_142 : fl RX11 142 9 4 := ⟨RX9, TX9, 13, rfl, iw_X9, by decide, lg_at 96 (by decide +kernel) (by decide +kernel), rfl⟩
theorem fl_X11_152 : fl RX11 152 9 7 := ⟨RX9, TX9, 13, rfl, iw_X9, by decide, lg_at 107 (by decide +kernel) (by decide +kernel), rfl⟩
theorem fl_X11_156 : fl RX11 156 9 8 := ⟨RX9, TX9, 13, rfl, iw_X9, by decide, lg_at 111 (by decide +kernel) (by decide +kernel), rfl⟩
theorem fl_X11_203 : fl RX11 203 7 0 := ⟨RX7, TX7, 1, rfl, iw_X7, by decide, lg_at 235 (by decide +kernel) (by decide +kernel), rfl⟩
theorem fl_X11_241 : fl RX11 241 9 0 := ⟨RX9, TX9, 13, rfl, iw_X9, by decide, lg_at 84 (by decide +kernel) (by decide +kernel), rfl⟩
theorem fl_X11_282 : fl RX11 282 9 1 := ⟨RX9, TX9, 13, rfl, iw_X9, by decide, lg_at 88 (by decide +kernel) (by decide +kernel), rfl⟩
theorem fp_X11_101 : fp RX11 101 8 1 .int := ⟨RX8, TX8, 2, tyX8, rfl, iw_X8, by decide, lg_at 39 (by decide +kernel) (by decide +kernel), rfl, tyX8_ok, nmX8, rfl, by decide +kernel⟩
theorem fp_X11_125 : fp RX11 125 10 6 .int := ⟨RX10, TX10, 11, tyX10, rfl, iw_X10, by decide, lg_at 360 (by decide +kernel) (by decide +kernel), rfl, tyX10_ok, nmX10, rfl, by decide +kernel⟩
theorem cV_X11_90 : cV RX11 90 yX7_begin cX7_begin 2 none 1 := ⟨⟨lg_at 392 (by decide +kernel) (by decide +kernel), lg_at 393 (by decide +kernel) (by decide +kernel), lg_at 394 (by decide +kernel) (by decide +kernel), lg_at 7 (by decide +kernel) (by decide +kernel), lg_at 395 (by decide +kernel) (by decide +kernel)⟩, by decide +kernel, by decide +kernel, by decide +kernel⟩
theorem cV_X11_93 : cV RX11 93 yX8_hasRoomFor cX8_hasRoomFor 2 (some .boolean) 1 := ⟨⟨lg_at 438 (by decide +kernel) (by decide +kernel), lg_at 439 (by decide +kernel) (by decide +kernel), lg_at 440 (by decide +kernel) (by decide +kernel), lg_at 2 (by decide +kernel) (by decide +kernel), lg_at 441 (by decide +kernel) (by decide +kernel)⟩, by decide +kernel, by decide +kernel, by decide +kernel⟩
theorem cV_X11_97 : cV RX11 97 yX8_putInt cX8_putInt 3 none 1 := ⟨⟨lg_at 442 (by decide +kernel) (by decide +kernel), lg_at 443 (by decide +kernel) (by decide +kernel), lg_at 444 (by decide +kernel) (by decide +kernel), lg_at 2 (by decide +kernel) (by decide +kernel), lg_at 445 (by decide +kernel) (by decide +kernel)⟩, by decide +kernel, by decide +kernel, by decide +kernel⟩
theorem cV_X11_109 : cV RX11 109 yX5_readAll cX5_readAll 3 (some .int) 0 := ⟨⟨lg_at 457 (by decide +kernel) (by decide +kernel), lg_at 458 (by decide +kernel) (by decide +kernel), lg_at 459 (by decide +kernel) (by decide +kernel), lg_at 3 (by decide +kernel) (by decide +kernel), lg_at 460 (by decide +kernel) (by decide +kernel)⟩, by decide +kernel, by decide +kernel, by decide +kernel⟩
theorem cV_X11_116 : cV RX11 116 yX9_copyFrom cX9_copyFrom 2 none 1 := ⟨⟨lg_at 697 (by decide +kernel) (by decide +kernel), lg_at 698 (by decide +kernel) (by decide +kernel), lg_at 699 (by decide +kernel) (by decide +kernel), lg_at 4 (by decide +kernel) (by decide +kernel), lg_at 700 (by decide +kernel) (by decide +kernel)⟩, by decide +kernel, by decide +kernel, by decide +kernel⟩
theorem cV_X11_119 : cV RX11 119 yX3_clearThings cX3_clearThings 1 none 0 := ⟨⟨lg_at 702 (by decide +kernel) (by decide +kernel), lg_at 703 (by decide +kernel) (by decide +kernel), lg_at 704 (by decide +kernel) (by decide +kernel), lg_at 8 (by decide +kernel) (by decide +kernel), lg_at 705 (by decide +kernel) (by decide +kernel)⟩, by decide +kernel, by decide +kernel, by decide +kernel⟩
theorem cV_X11_122 : cV RX11 122 yX3_clearSlots cX3_clearSlots 2 none 0 := ⟨⟨lg_at 706 (by decide +kernel) (by decide +kernel), lg_at 707 (by decide +kernel) (by decide +kernel), lg_at 708 (by decide +kernel) (by decide +kernel), lg_at 8 (by decide +kernel) (by decide +kernel), lg_at 709 (by decide +kernel) (by decide +kernel)⟩, by decide +kernel, by decide +kernel, by decide +kernel⟩
theorem cV_X11_131 : cV RX11 131 yX11_isMinute cX11_isMinute 2 (some .boolean) 1 := ⟨⟨lg_at 718 (by decide +kernel) (by decide +kernel), lg_at 720 (by decide +kernel) (by decide +kernel), lg_sel 22 (by decide +kernel) (by decide +kernel), lg_at 1 (by decide +kernel) (by decide +kernel), lg_at 721 (by decide +kernel) (by decide +kernel)⟩, by decide +kernel, by decide +kernel, by decide +kernel⟩
theorem cV_X11_134 : cV RX11 134 yX7_matterOf cX7_matterOf 2 (some .int) 1 := ⟨⟨lg_at 722 (by decide +kernel) (by decide +kernel), lg_at 723 (by decide +kernel) (by decide +kernel), lg_at 724 (by decide +kernel) (by decide +kernel), lg_at 7 (by decide +kernel) (by decide +kernel), lg_at 725 (by decide +kernel) (by decide +kernel)⟩, by decide +kernel, by decide +kernel, by decide +kernel⟩
theorem cV_X11_138 : cV RX11 138 yX2_quartersOf cX2_quartersOf 3 (some .int) 2 := ⟨⟨lg_at 726 (by decide +kernel) (by decide +kernel), lg_at 727 (by decide +kernel) (by decide +kernel), lg_at 728 (by decide +kernel) (by decide +kernel), lg_at 9 (by decide +kernel) (by decide +kernel), lg_at 729 (by decide +kernel) (by decide +kernel)⟩, by decide +kernel, by decide +kernel, by decide +kernel⟩
theorem cV_X11_145 : cV RX11 145 yX4_coughsBehind cX4_coughsBehind 5 (some .boolean) 3 := ⟨⟨lg_at 740 (by decide +kernel) (by decide +kernel), lg_at 741 (by decide +kernel) (by decide +kernel), lg_at 742 (by decide +kernel) (by decide +kernel), lg_at 11 (by decide +kernel) (by decide +kernel), lg_at 743 (by decide +kernel) (by decide +kernel)⟩, by decide +kernel, by decide +kernel, by decide +kernel⟩
theorem cV_X11_149 : cV RX11 149 yX11_isFamily cX11_isFamily 2 (some .boolean) 1 := ⟨⟨lg_at 756 (by decide +kernel) (by decide +kernel), lg_at 758 (by decide +kernel) (by decide +kernel), lg_sel 25 (by decide +kernel) (by decide +kernel), lg_at 1 (by decide +kernel) (by decide +kernel), lg_at 759 (by decide +kernel) (by decide +kernel)⟩, by decide +kernel, by decide +kernel, by decide +kernel⟩
theorem cV_X11_159 : cV RX11 159 yX7_partsOf cX7_partsOf 4 (some .int) 1 := ⟨⟨lg_at 760 (by decide +kernel) (by decide +kernel), lg_at 761 (by decide +kernel) (by decide +kernel), lg_at 762 (by decide +kernel) (by decide +kernel), lg_at 7 (by decide +kernel) (by decide +kernel), lg_at 763 (by decide +kernel) (by decide +kernel)⟩, by decide +kernel, by decide +kernel, by decide +kernel⟩
theorem cV_X11_162 : cV RX11 162 yX7_gainedBy cX7_gainedBy 2 (some .int) 1 := ⟨⟨lg_at 768 (by decide +kernel) (by decide +kernel), lg_at 769 (by decide +kernel) (by decide +kernel), lg_at 770 (by decide +kernel) (by decide +kernel), lg_at 7 (by decide +kernel) (by decide +kernel), lg_at 771 (by decide +kernel) (by decide +kernel)⟩, by decide +kernel, by decide +kernel, by decide +kernel⟩
theorem cV_X11_165 : cV RX11 165 yX7_paidBy cX7_paidBy 2 (some .int) 1 := ⟨⟨lg_at 772 (by decide +kernel) (by decide +kernel), lg_at 773 (by decide +kernel) (by decide +kernel), lg_at 774 (by decide +kernel) (by decide +kernel), lg_at 7 (by decide +kernel) (by decide +kernel), lg_at 775 (by decide +kernel) (by decide +kernel)⟩, by decide +kernel, by decide +kernel, by decide +kernel⟩
theorem cV_X11_168 : cV RX11 168 yX2_rentOf cX2_rentOf 3 (some .int) 2 := ⟨⟨lg_at 776 (by decide +kernel) (by decide +kernel), lg_at 777 (by decide +kernel) (by decide +kernel), lg_at 778 (by decide +kernel) (by decide +kernel), lg_at 9 (by decide +kernel) (by decide +kernel), lg_at 779 (by decide +kernel) (by decide +kernel)⟩, by decide +kernel, by decide +kernel, by decide +kernel⟩
theorem cV_X11_171 : cV RX11 171 yX2_cureFor cX2_cureFor 3 (some .int) 2 := ⟨⟨lg_at 787 (by decide +kernel) (by decide +kernel), lg_at 788 (by decide +kernel) (by decide +kernel), lg_at 789 (by decide +kernel) (by decide +kernel), lg_at 9 (by decide +kernel) (by decide +kernel), lg_at 790 (by decide +kernel) (by decide +kernel)⟩, by decide +kernel, by decide +kernel, by decide +kernel⟩
theorem cV_X11_177 : cV RX11 177 yX7_ownerOf cX7_ownerOf 2 (some .int) 1 := ⟨⟨lg_at 796 (by decide +kernel) (by decide +kernel), lg_at 765 (by decide +kernel) (by decide +kernel), lg_at 766 (by decide +kernel) (by decide +kernel), lg_at 7 (by decide +kernel) (by decide +kernel), lg_at 767 (by decide +kernel) (by decide +kernel)⟩, by decide +kernel, by decide +kernel, by decide +kernel⟩
theorem cV_X11_180 : cV RX11 180 yX2_worthTo cX2_worthTo 5 (some .int) 4 := ⟨⟨lg_at 801 (by decide +kernel) (by decide +kernel), lg_at 802 (by decide +kernel) (by decide +kernel), lg_at 803 (by decide +kernel) (by decide +kernel), lg_at 9 (by decide +kernel) (by decide +kernel), lg_at 804 (by decide +kernel) (by decide +kernel)⟩, by decide +kernel, by decide +kernel, by decide +kernel⟩
theorem cV_X11_184 : cV RX11 184 yX3_keep cX3_keep 2 none 1 := ⟨⟨lg_at 809 (by decide +kernel) (by decide +kernel), lg_at 810 (by decide +kernel) (by decide +kernel), lg_at 811 (by decide +kernel) (by decide +kernel), lg_at 8 (by decide +kernel) (by decide +kernel), lg_at 812 (by decide +kernel) (by decide +kernel)⟩, by decide +kernel, by decide +kernel, by decide +kernel⟩
theorem cV_X11_188 : cV RX11 188 yX7_exchange cX7_exchange 4 none 2 := ⟨⟨lg_at 815 (by decide +kernel) (by decide +kernel), lg_at 816 (by decide +kernel) (by decide +kernel), lg_at 817 (by decide +kernel) (by decide +kernel), lg_at 7 (by decide +kernel) (by decide +kernel), lg_at 818 (by decide +kernel) (by decide +kernel)⟩, by decide +kernel, by decide +kernel, by decide +kernel⟩
theorem cV_X11_192 : cV RX11 192 yX7_setOwner cX7_setOwner 3 none 2 := ⟨⟨lg_at 823 (by decide +kernel) (by decide +kernel), lg_at 824 (by decide +kernel) (by decide +kernel), lg_at 825 (by decide +kernel) (by decide +kernel), lg_at 7 (by decide +kernel) (by decide +kernel), lg_at 826 (by decide +kernel) (by decide +kernel)⟩, by decide +kernel, by decide +kernel, by decide +kernel⟩
theorem cV_X11_195 : cV RX11 195 yX11_give cX11_give 4 (some .boolean) 2 := ⟨⟨lg_at 831 (by decide +kernel) (by decide +kernel), lg_at 833 (by decide +kernel) (by decide +kernel), lg_sel 26 (by decide +kernel) (by decide +kernel), lg_at 1 (by decide +kernel) (by decide +kernel), lg_at 834 (by decide +kernel) (by decide +kernel)⟩, by decide +kernel, by decide +kernel, by decide +kernel⟩
theorem cV_X11_199 : cV RX11 199 yX4_preachWeeks cX4_preachWeeks 5 none 3 := ⟨⟨lg_at 843 (by decide +kernel) (by decide +kernel), lg_at 844 (by decide +kernel) (by decide +kernel), lg_at 845 (by decide +kernel) (by decide +kernel), lg_at 11 (by decide +kernel) (by decide +kernel), lg_at 846 (by decide +kernel) (by decide +kernel)⟩, by decide +kernel, by decide +kernel, by decide +kernel⟩
theorem cV_X11_206 : cV RX11 206 yX3_takeBack cX3_takeBack 2 (some .boolean) 1 := ⟨⟨lg_at 866 (by decide +kernel) (by decide +kernel), lg_at 867 (by decide +kernel) (by decide +kernel), lg_at 868 (by decide +kernel) (by decide +kernel), lg_at 8 (by decide +kernel) (by decide +kernel), lg_at 869 (by decide +kernel) (by decide +kernel)⟩, by decide +kernel, by decide +kernel, by decide +kernel⟩
theorem cV_X11_210 : cV RX11 210 yX0_weigh cX0_weigh 3 none 1 := ⟨⟨lg_at 874 (by decide +kernel) (by decide +kernel), lg_at 875 (by decide +kernel) (by decide +kernel), lg_at 876 (by decide +kernel) (by decide +kernel), lg_at 10 (by decide +kernel) (by decide +kernel), lg_at 877 (by decide +kernel) (by decide +kernel)⟩, by decide +kernel, by decide +kernel, by decide +kernel⟩
theorem cV_X11_213 : cV RX11 213 yX0_casesOfParts cX0_casesOfParts 2 (some .int) 1 := ⟨⟨lg_at 885 (by decide +kernel) (by decide +kernel), lg_at 886 (by decide +kernel) (by decide +kernel), lg_at 887 (by decide +kernel) (by decide +kernel), lg_at 10 (by decide +kernel) (by decide +kernel), lg_at 888 (by decide +kernel) (by decide +kernel)⟩, by decide +kernel, by decide +kernel, by decide +kernel⟩
theorem cV_X11_216 : cV RX11 216 yX0_casesIn cX0_casesIn 3 (some .int) 2 := ⟨⟨lg_at 897 (by decide +kernel) (by decide +kernel), lg_at 890 (by decide +kernel) (by decide +kernel), lg_at 891 (by decide +kernel) (by decide +kernel), lg_at 10 (by decide +kernel) (by decide +kernel), lg_at 892 (by decide +kernel) (by decide +kernel)⟩, by decide +kernel, by decide +kernel, by decide +kernel⟩
theorem cV_X11_220 : cV RX11 220 yX0_valueOf cX0_valueOf 8 (some .int) 3 := ⟨⟨lg_at 902 (by decide +kernel) (by decide +kernel), lg_at 903 (by decide +kernel) (by decide +kernel), lg_at 904 (by decide +kernel) (by decide +kernel), lg_at 10 (by decide +kernel) (by decide +kernel), lg_at 905 (by decide +kernel) (by decide +kernel)⟩, by decide +kernel, by decide +kernel, by decide +kernel⟩
theorem cV_X11_224 : cV RX11 224 yX11_haveIn cX11_haveIn 3 (some .int) 2 := ⟨⟨lg_at 911 (by decide +kernel) (by decide +kernel), lg_at 913 (by decide +kernel) (by decide +kernel), lg_sel 30 (by decide +kernel) (by decide +kernel), lg_at 1 (by decide +kernel) (by decide +kernel), lg_at 914 (by decide +kernel) (by decide +kernel)⟩, by decide +kernel, by decide +kernel, by decide +kernel⟩
theorem cV_X11_235 : cV RX11 235 yX0_casesTogether cX0_casesTogether 6 (some .int) 2 := ⟨⟨lg_at 929 (by decide +kernel) (by decide +kernel), lg_at 930 (by decide +kernel) (by decide +kernel), lg_at 931 (by decide +kernel) (by decide +kernel), lg_at 10 (by decide +kernel) (by decide +kernel), lg_at 932 (by decide +kernel) (by decide +kernel)⟩, by decide +kernel, by decide +kernel, by decide +kernel⟩
theorem cV_X11_238 : cV RX11 238 yX0_casesHolding cX0_casesHolding 5 (some .int) 2 := ⟨⟨lg_at 937 (by decide +kernel) (by decide +kernel), lg_at 938 (by decide +kernel) (by decide +kernel), lg_at 939 (by decide +kernel) (by decide +kernel), lg_at 10 (by decide +kernel) (by decide +kernel), lg_at 940 (by decide +kernel) (by decide +kernel)⟩, by decide +kernel, by decide +kernel, by decide +kernel⟩
theorem cV_X11_244 : cV RX11 244 yX11_haveAfterChange cX11_haveAfterChange 4 (some .int) 3 := ⟨⟨lg_at 954 (by decide +kernel) (by decide +kernel), lg_at 956 (by decide +kernel) (by decide +kernel), lg_sel 32 (by decide +kernel) (by decide +kernel), lg_at 1 (by decide +kernel) (by decide +kernel), lg_at 957 (by decide +kernel) (by decide +kernel)⟩, by decide +kernel, by decide +kernel, by decide +kernel⟩
theorem cV_X11_251 : cV RX11 251 yX1_look cX1_look 6 none 2 := ⟨⟨lg_at 969 (by decide +kernel) (by decide +kernel), lg_at 970 (by decide +kernel) (by decide +kernel), lg_at 971 (by decide +kernel) (by decide +kernel), lg_at 12 (by decide +kernel) (by decide +kernel), lg_at 972 (by decide +kernel) (by decide +kernel)⟩, by decide +kernel, by decide +kernel, by decide +kernel⟩
theorem cV_X11_255 : cV RX11 255 yX1_isMetBy cX1_isMetBy 3 (some .boolean) 1 := ⟨⟨lg_at 985 (by decide +kernel) (by decide +kernel), lg_at 986 (by decide +kernel) (by decide +kernel), lg_at 987 (by decide +kernel) (by decide +kernel), lg_at 12 (by decide +kernel) (by decide +kernel), lg_at 988 (by decide +kernel) (by decide +kernel)⟩, by decide +kernel, by decide +kernel, by decide +kernel⟩
theorem cV_X11_258 : cV RX11 258 yX11_mattersThereAre cX11_mattersThereAre 3 (some .int) 0 := ⟨⟨lg_at 993 (by decide +kernel) (by decide +kernel), lg_at 995 (by decide +kernel) (by decide +kernel), lg_sel 34 (by decide +kernel) (by decide +kernel), lg_at 1 (by decide +kernel) (by decide +kernel), lg_at 996 (by decide +kernel) (by decide +kernel)⟩, by decide +kernel, by decide +kernel, by decide +kernel⟩
theorem cV_X11_261 : cV RX11 261 yX1_fewestParts cX1_fewestParts 3 (some .int) 0 := ⟨⟨lg_at 997 (by decide +kernel) (by decide +kernel), lg_at 998 (by decide +kernel) (by decide +kernel), lg_at 999 (by decide +kernel) (by decide +kernel), lg_at 12 (by decide +kernel) (by decide +kernel), lg_at 1000 (by decide +kernel) (by decide +kernel)⟩, by decide +kernel, by decide +kernel, by decide +kernel⟩
theorem cV_X11_269 : cV RX11 269 yX11_gainByOneMore cX11_gainByOneMore 3 (some .int) 2 := ⟨⟨lg_at 1007 (by decide +kernel) (by decide +kernel), lg_at 1009 (by decide +kernel) (by decide +kernel), lg_sel 35 (by decide +kernel) (by decide +kernel), lg_at 1 (by decide +kernel) (by decide +kernel), lg_at 1010 (by decide +kernel) (by decide +kernel)⟩, by decide +kernel, by decide +kernel, by decide +kernel⟩
theorem cV_X11_273 : cV RX11 273 yX11_choicesOf cX11_choicesOf 2 (some .int) 1 := ⟨⟨lg_at 1020 (by decide +kernel) (by decide +kernel), lg_at 1022 (by decide +kernel) (by decide +kernel), lg_sel 36 (by decide +kernel) (by decide +kernel), lg_at 1 (by decide +kernel) (by decide +kernel), lg_at 1023 (by decide +kernel) (by decide +kernel)⟩, by decide +kernel, by decide +kernel, by decide +kernel⟩
theorem cV_X11_276 : cV RX11 276 yX11_answerTo cX11_answerTo 7 (some .int) 2 := ⟨⟨lg_at 1024 (by decide +kernel) (by decide +kernel), lg_at 1026 (by decide +kernel) (by decide +kernel), lg_sel 37 (by decide +kernel) (by decide +kernel), lg_at 1 (by decide +kernel) (by decide +kernel), lg_at 1027 (by decide +kernel) (by decide +kernel)⟩, by decide +kernel, by decide +kernel, by decide +kernel⟩
theorem cV_X11_279 : cV RX11 279 yX11_haveAfter cX11_haveAfter 4 (some .int) 3 := ⟨⟨lg_at 1028 (by decide +kernel) (by decide +kernel), lg_at 1030 (by decide +kernel) (by decide +kernel), lg_sel 38 (by decide +kernel) (by decide +kernel), lg_at 1 (by decide +kernel) (by decide +kernel), lg_at 1031 (by decide +kernel) (by decide +kernel)⟩, by decide +kernel, by decide +kernel, by decide +kernel⟩
theorem cV_X11_285 : cV RX11 285 yX0_haveOf cX0_haveOf 3 (some .int) 2 := ⟨⟨lg_at 1036 (by decide +kernel) (by decide +kernel), lg_at 1037 (by decide +kernel) (by decide +kernel), lg_at 1038 (by decide +kernel) (by decide +kernel), lg_at 10 (by decide +kernel) (by decide +kernel), lg_at 1039 (by decide +kernel) (by decide +kernel)⟩, by decide +kernel, by decide +kernel, by decide +kernel⟩
theorem cV_X11_347 : cV RX11 347 yX7_copyFrom cX7_copyFrom 2 none 1 := ⟨⟨lg_at 958 (by decide +kernel) (by decide +kernel), lg_at 959 (by decide +kernel) (by decide +kernel), lg_at 960 (by decide +kernel) (by decide +kernel), lg_at 7 (by decide +kernel) (by decide +kernel), lg_at 961 (by decide +kernel) (by decide +kernel)⟩, by decide +kernel, by decide +kernel, by decide +kernel⟩
theorem cS_X11_174 : cS RX11 174 yX11_isPart cX11_isPart 1 (some .boolean) 1 := ⟨⟨lg_at 795 (by decide +kernel) (by decide +kernel), lg_at 654 (by decide +kernel) (by decide +kernel), lg_at 1 (by decide +kernel) (by decide +kernel), lg_at 655 (by decide +kernel) (by decide +kernel)⟩, by decide +kernel, by decide +kernel, by decide +kernel⟩
theorem cS_X11_248 : cS RX11 248 yX11_isMatter cX11_isMatter 1 (some .boolean) 1 := ⟨⟨lg_at 966 (by decide +kernel) (by decide +kernel), lg_at 967 (by decide +kernel) (by decide +kernel), lg_at 1 (by decide +kernel) (by decide +kernel), lg_at 968 (by decide +kernel) (by decide +kernel)⟩, by decide +kernel, by decide +kernel, by decide +kernel⟩
theorem cS_X11_264 : cS RX11 264 yJ6_bitCount_0f7a4 cJ6_bitCount_0f7a4 1 (some .int) 1 := ⟨⟨lg_at 1002 (by decide +kernel) (by decide +kernel), lg_at 782 (by decide +kernel) (by decide +kernel), lg_at 22 (by decide +kernel) (by decide +kernel), lg_at 783 (by decide +kernel) (by decide +kernel)⟩, by decide +kernel, by decide +kernel, by decide +kernel⟩
theorem mmax_X11_232 : mMax RX11 232 := ⟨lg_at 928 (by decide +kernel) (by decide +kernel), lg_at 569 (by decide +kernel) (by decide +kernel), lg_at 20 (by decide +kernel) (by decide +kernel), lg_at 570 (by decide +kernel) (by decide +kernel)⟩
theorem mmin_X11_227 : mMin RX11 227 := ⟨lg_at 927 (by decide +kernel) (by decide +kernel), lg_at 572 (by decide +kernel) (by decide +kernel), lg_at 20 (by decide +kernel) (by decide +kernel), lg_at 573 (by decide +kernel) (by decide +kernel)⟩
theorem kc_X11_272 : Cond.constant RX11 272 (-100000000) ∈ lg_tbl := lg_at 1011 (by decide +kernel) (by decide +kernel)
section
variable {p : Program} {l : Launch} {e : Env} {s : State} {m : MethodId} {args : Array Value} {below : List Frame} {meth : Method} {c : Code} {D : va_G} {ad : Nat → Nat} {κ : KC}
-- X11_feed
def FX11_feed (x1 : Int32) (x2 : Int32) (x3 : Int32) (x4 : Int32) (x5 : Int32) (σ : HS) : Option (Int32 × HS) :=
  bdI (FX8_hasRoomFor (20 : Int32) σ) fun r_1 σ_2 => if r_1 = 0 then some ((-1 : Int32), σ_2) else bdV (FX8_putInt x1 σ_2) fun σ_5 => bdV (FX8_putInt x2 σ_5) fun σ_7 => bdV (FX8_putInt x3 σ_7) fun σ_9 => bdV (FX8_putInt x4 σ_9) fun σ_11 => bdV (FX8_putInt x5 σ_11) fun σ_13 => some ((σ_13.1 1 1), σ_13)
set_option maxHeartbeats 4000000 in
set_option maxRecDepth 100000 in
theorem kX11_feed (l : Launch) (D : va_G) (ad : Nat → Nat) (κ : KC) {x1 : Int32} {x2 : Int32} {x3 : Int32} {x4 : Int32} {x5 : Int32} {σ : HS} {R : (Int32 × HS)} (h : FX11_feed x1 x2 x3 x4 x5 σ = some R) : MtI l 50 ceX D ad κ yX11_feed cX11_feed 6 (some .int) ({ frames := 1, cells := 0, slots := 0, locals := 22 } : Room) [.ref (ad 0), .int x1, .int x2, .int x3, .int x4, .int x5] σ R := by
  refine open_ (by decide) (Nat.le_of_ble_eq_true rfl) (la := [(0, .ref (ad 0)), (1, .int x1), (2, .int x2), (3, .int x3), (4, .int x4), (5, .int x5)]) rfl ?_
  intro p e s m below meth c ls C hH hl
  replace C : Cx 50 D ad κ p s m _ meth c cX11_feed RX11 6 (some .int) := C
  have hx := C.1
  have hb := C.2.1
  have hown := C.2.2.2.1
  have hts := C.2.2.2.2.1
  rw [FX11_feed] at h
  refine lv_aload_n hx hb dX11_feed_0 rfl (lv_at hl 0 rfl) ?_
  refine g_get C hH 0 (Nat.le_of_ble_eq_true rfl) rfl fl_X11_12 (v := .ref (ad 1)) rfl dX11_feed_1 ?_
  refine lv_bipush (v := 20) hx hb dX11_feed_4 (by decide) ?_
  obtain ⟨r_1, σ_2, hc_3, h⟩ := bdI_ex h
  refine g_ci (g_runV (rest := []) C hH hl.1 cV_X11_93 1 (Nat.le_of_ble_eq_true rfl) rfl rfl (kX8_hasRoomFor l D ad κ hc_3) ⟨rfl, rfl⟩ ⟨(Nat.le_of_ble_eq_true rfl), (Nat.le_of_ble_eq_true rfl)⟩ rfl rfl (Nat.le_of_ble_eq_true rfl) dX11_feed_6 z00) hH (fun H locs hH => ?_)
  refine lv_if_ne (tgt := 14) hx hb dX11_feed_9 (by decide) (fun hq_4 => ?_) (fun hq_4 => ?_)
  · rw [if_neg hq_4] at h
    refine lv_aload_n hx hb dX11_feed_14 rfl (lv_at hl 0 rfl) ?_
    refine g_get C hH 0 (Nat.le_of_ble_eq_true rfl) rfl fl_X11_12 (v := .ref (ad 1)) rfl dX11_feed_15 ?_
    refine lv_iload_n hx hb dX11_feed_18 rfl (lv_at hl 1 rfl) ?_
    obtain ⟨σ_5, hc_6, h⟩ := bdV_ex h
    refine g_cv (g_runV (rest := []) C hH hl.1 cV_X11_97 1 (Nat.le_of_ble_eq_true rfl) rfl rfl (kX8_putInt l D ad κ hc_6) ⟨rfl, rfl⟩ ⟨(Nat.le_of_ble_eq_true rfl), (Nat.le_of_ble_eq_true rfl)⟩ rfl rfl (Nat.le_of_ble_eq_true rfl) dX11_feed_19 z00) hH (fun H locs hH => ?_)
    refine lv_aload_n hx hb dX11_feed_22 rfl (lv_at hl 0 rfl) ?_
    refine g_get C hH 0 (Nat.le_of_ble_eq_true rfl) rfl fl_X11_12 (v := .ref (ad 1)) rfl dX11_feed_23 ?_
    refine lv_iload_n hx hb dX11_feed_26 rfl (lv_at hl 2 rfl) ?_
    obtain ⟨σ_7, hc_8, h⟩ := bdV_ex h
    refine g_cv (g_runV (rest := []) C hH hl.1 cV_X11_97 1 (Nat.le_of_ble_eq_true rfl) rfl rfl (kX8_putInt l D ad κ hc_8) ⟨rfl, rfl⟩ ⟨(Nat.le_of_ble_eq_true rfl), (Nat.le_of_ble_eq_true rfl)⟩ rfl rfl (Nat.le_of_ble_eq_true rfl) dX11_feed_27 z00) hH (fun H locs hH => ?_)
    refine lv_aload_n hx hb dX11_feed_30 rfl (lv_at hl 0 rfl) ?_
    refine g_get C hH 0 (Nat.le_of_ble_eq_true rfl) rfl fl_X11_12 (v := .ref (ad 1)) rfl dX11_feed_31 ?_
    refine lv_iload_n hx hb dX11_feed_34 rfl (lv_at hl 3 rfl) ?_
    obtain ⟨σ_9, hc_10, h⟩ := bdV_ex h
    refine g_cv (g_runV (rest := []) C hH hl.1 cV_X11_97 1 (Nat.le_of_ble_eq_true rfl) rfl rfl (kX8_putInt l D ad κ hc_10) ⟨rfl, rfl⟩ ⟨(Nat.le_of_ble_eq_true rfl), (Nat.le_of_ble_eq_true rfl)⟩ rfl rfl (Nat.le_of_ble_eq_true rfl) dX11_feed_35 z00) hH (fun H locs hH => ?_)
    refine lv_aload_n hx hb dX11_feed_38 rfl (lv_at hl 0 rfl) ?_
    refine g_get C hH 0 (Nat.le_of_ble_eq_true rfl) rfl fl_X11_12 (v := .ref (ad 1)) rfl dX11_feed_39 ?_
    refine lv_iload hx hb dX11_feed_42 (lv_at hl 4 rfl) ?_
    obtain ⟨σ_11, hc_12, h⟩ := bdV_ex h
    refine g_cv (g_runV (rest := []) C hH hl.1 cV_X11_97 1 (Nat.le_of_ble_eq_true rfl) rfl rfl (kX8_putInt l D ad κ hc_12) ⟨rfl, rfl⟩ ⟨(Nat.le_of_ble_eq_true rfl), (Nat.le_of_ble_eq_true rfl)⟩ rfl rfl (Nat.le_of_ble_eq_true rfl) dX11_feed_44 z00) hH (fun H locs hH => ?_)
    refine lv_aload_n hx hb dX11_feed_47 rfl (lv_at hl 0 rfl) ?_
    refine g_get C hH 0 (Nat.le_of_ble_eq_true rfl) rfl fl_X11_12 (v := .ref (ad 1)) rfl dX11_feed_48 ?_
    refine lv_iload hx hb dX11_feed_51 (lv_at hl 5 rfl) ?_
    obtain ⟨σ_13, hc_14, h⟩ := bdV_ex h
    refine g_cv (g_runV (rest := []) C hH hl.1 cV_X11_97 1 (Nat.le_of_ble_eq_true rfl) rfl rfl (kX8_putInt l D ad κ hc_14) ⟨rfl, rfl⟩ ⟨(Nat.le_of_ble_eq_true rfl), (Nat.le_of_ble_eq_true rfl)⟩ rfl rfl (Nat.le_of_ble_eq_true rfl) dX11_feed_53 z00) hH (fun H locs hH => ?_)
    refine lv_aload_n hx hb dX11_feed_56 rfl (lv_at hl 0 rfl) ?_
    refine g_get C hH 0 (Nat.le_of_ble_eq_true rfl) rfl fl_X11_12 (v := .ref (ad 1)) rfl dX11_feed_57 ?_
    refine g_get C hH 1 (Nat.le_of_ble_eq_true rfl) rfl fl_X11_101 (v := .int (σ_13.1 1 1)) rfl dX11_feed_60 ?_
    exact g_ret C hH h dX11_feed_63
  · rw [if_pos hq_4] at h
    refine lv_iconst (v := (-1)) hx hb dX11_feed_12 (by decide) ?_
    exact g_ret C hH h dX11_feed_13
-- X11_back
def FX11_back (x1 : Int32) (σ : HS) : Option (Int32 × HS) :=
  bdI (FX11_within x1 (0 : Int32) (σ.1 1 1) σ) fun r_1 σ_2 => if r_1 = 0 then some ((-1 : Int32), σ_2) else hl_ (pI σ_2 1 1 ((σ_2.1 1 1) - x1)) fun σ_5 => some ((σ_5.1 1 1), σ_5)
set_option maxHeartbeats 4000000 in
set_option maxRecDepth 100000 in
theorem kX11_back (l : Launch) (D : va_G) (ad : Nat → Nat) (κ : KC) {x1 : Int32} {σ : HS} {R : (Int32 × HS)} (h : FX11_back x1 σ = some R) : MtI l 50 ceX D ad κ yX11_back cX11_back 2 (some .int) ({ frames := 1, cells := 0, slots := 0, locals := 22 } : Room) [.ref (ad 0), .int x1] σ R := by
  refine open_ (by decide) (Nat.le_of_ble_eq_true rfl) (la := [(0, .ref (ad 0)), (1, .int x1)]) rfl ?_
  intro p e s m below meth c ls C hH hl
  replace C : Cx 50 D ad κ p s m _ meth c cX11_back RX11 2 (some .int) := C
  have hx := C.1
  have hb := C.2.1
  have hown := C.2.2.2.1
  have hts := C.2.2.2.2.1
  rw [FX11_back] at h
  refine lv_iload_n hx hb dX11_back_0 rfl (lv_at hl 1 rfl) ?_
  refine lv_iconst (v := 0) hx hb dX11_back_1 (by decide) ?_
  refine lv_aload_n hx hb dX11_back_2 rfl (lv_at hl 0 rfl) ?_
  refine g_get C hH 0 (Nat.le_of_ble_eq_true rfl) rfl fl_X11_12 (v := .ref (ad 1)) rfl dX11_back_3 ?_
  refine g_get C hH 1 (Nat.le_of_ble_eq_true rfl) rfl fl_X11_101 (v := .int (σ.1 1 1)) rfl dX11_back_6 ?_
  obtain ⟨r_1, σ_2, hc_3, h⟩ := bdI_ex h
  refine g_ci (g_runS (rest := []) C hH hl.1 cS_X11_105 (kX11_within l D ad κ hc_3) ⟨rfl, rfl⟩ ⟨(Nat.le_of_ble_eq_true rfl), (Nat.le_of_ble_eq_true rfl)⟩ rfl rfl (Nat.le_of_ble_eq_true rfl) dX11_back_9 z00) hH (fun H locs hH => ?_)
  refine lv_if_ne (tgt := 17) hx hb dX11_back_12 (by decide) (fun hq_4 => ?_) (fun hq_4 => ?_)
  · rw [if_neg hq_4] at h
    refine lv_aload_n hx hb dX11_back_17 rfl (lv_at hl 0 rfl) ?_
    refine g_get C hH 0 (Nat.le_of_ble_eq_true rfl) rfl fl_X11_12 (v := .ref (ad 1)) rfl dX11_back_18 ?_
    refine lv_dup hx hb dX11_back_21 rfl ?_
    refine g_get C hH 1 (Nat.le_of_ble_eq_true rfl) rfl fl_X11_101 (v := .int (σ_2.1 1 1)) rfl dX11_back_22 ?_
    refine lv_iload_n hx hb dX11_back_25 rfl (lv_at hl 1 rfl) ?_
    refine lv_isub hx hb dX11_back_26 ?_
    obtain ⟨σ_5, eσ_5, h⟩ := hl_ex h
    refine g_putI C hH 1 (Nat.le_of_ble_eq_true rfl) rfl fp_X11_101 rfl rfl (Nat.le_of_ble_eq_true rfl) rfl dX11_back_27 (fun H locs hH => ?_)
    rw [← eσ_5] at hH
    refine lv_aload_n hx hb dX11_back_30 rfl (lv_at hl 0 rfl) ?_
    refine g_get C hH 0 (Nat.le_of_ble_eq_true rfl) rfl fl_X11_12 (v := .ref (ad 1)) rfl dX11_back_31 ?_
    refine g_get C hH 1 (Nat.le_of_ble_eq_true rfl) rfl fl_X11_101 (v := .int (σ_5.1 1 1)) rfl dX11_back_34 ?_
    exact g_ret C hH h dX11_back_37
  · rw [if_pos hq_4] at h
    refine lv_iconst (v := (-1)) hx hb dX11_back_15 (by decide) ?_
    exact g_ret C hH h dX11_back_16
-- X11_read
def FX11_read (σ : HS) : Option (Int32 × HS) :=
  bdI (FX5_readAll σ) fun r_1 σ_2 => hl_ (pI σ_2 1 1 (0 : Int32)) fun σ_4 => if r_1 = 0 then bdV (FX9_copyFrom σ_4) fun σ_6 => bdV (FX7_begin σ_6) fun σ_8 => bdV (FX3_clearThings σ_8) fun σ_10 => bdV (FX3_clearSlots σ_10) fun σ_12 => hl_ (pI σ_12 11 6 (0 : Int32)) fun σ_14 => some (r_1, σ_14) else some (r_1, σ_4)
set_option maxHeartbeats 4000000 in
set_option maxRecDepth 100000 in
theorem kX11_read (l : Launch) (D : va_G) (ad : Nat → Nat) (κ : KC) {σ : HS} {R : (Int32 × HS)} (h : FX11_read σ = some R) : MtI l 50 ceX D ad κ yX11_read cX11_read 2 (some .int) ({ frames := 9, cells := 0, slots := 0, locals := 197 } : Room) [.ref (ad 0)] σ R := by
  refine open_ (by decide) (Nat.le_of_ble_eq_true rfl) (la := [(0, .ref (ad 0))]) rfl ?_
  intro p e s m below meth c ls C hH hl
  replace C : Cx 50 D ad κ p s m _ meth c cX11_read RX11 2 (some .int) := C
  have hx := C.1
  have hb := C.2.1
  have hown := C.2.2.2.1
  have hts := C.2.2.2.2.1
  rw [FX11_read] at h
  refine lv_aload_n hx hb dX11_read_0 rfl (lv_at hl 0 rfl) ?_
  refine g_get C hH 0 (Nat.le_of_ble_eq_true rfl) rfl fl_X11_21 (v := .ref (ad 2)) rfl dX11_read_1 ?_
  obtain ⟨r_1, σ_2, hc_3, h⟩ := bdI_ex h
  refine g_ci (g_runV (rest := []) C hH hl.1 cV_X11_109 2 (Nat.le_of_ble_eq_true rfl) rfl rfl (kX5_readAll l D ad κ hc_3) ⟨rfl, rfl⟩ ⟨(Nat.le_of_ble_eq_true rfl), (Nat.le_of_ble_eq_true rfl)⟩ rfl rfl (Nat.le_of_ble_eq_true rfl) dX11_read_4 z00) hH (fun H locs hH => ?_)
  refine lv_istore_n (lv' := [(1, .int r_1), (0, .ref (ad 0))]) hx hb dX11_read_7 rfl hl (by decide) rfl (fun ls hl => ?_)
  refine lv_aload_n hx hb dX11_read_8 rfl (lv_at hl 1 rfl) ?_
  refine g_get C hH 0 (Nat.le_of_ble_eq_true rfl) rfl fl_X11_12 (v := .ref (ad 1)) rfl dX11_read_9 ?_
  refine lv_iconst (v := 0) hx hb dX11_read_12 (by decide) ?_
  obtain ⟨σ_4, eσ_4, h⟩ := hl_ex h
  refine g_putI C hH 1 (Nat.le_of_ble_eq_true rfl) rfl fp_X11_101 rfl rfl (Nat.le_of_ble_eq_true rfl) rfl dX11_read_13 (fun H locs hH => ?_)
  rw [← eσ_4] at hH
  refine lv_iload_n hx hb dX11_read_16 rfl (lv_at hl 0 rfl) ?_
  refine lv_if_ne (tgt := 67) hx hb dX11_read_17 (by decide) (fun hq_5 => ?_) (fun hq_5 => ?_)
  · rw [if_neg hq_5] at h
    refine lv_iload_n hx hb dX11_read_67 rfl (lv_at hl 0 rfl) ?_
    exact g_ret C hH h dX11_read_68
  · rw [if_pos hq_5] at h
    refine lv_aload_n hx hb dX11_read_20 rfl (lv_at hl 1 rfl) ?_
    refine g_get C hH 0 (Nat.le_of_ble_eq_true rfl) rfl fl_X11_28 (v := .ref (ad 3)) rfl dX11_read_21 ?_
    refine lv_aload_n hx hb dX11_read_24 rfl (lv_at hl 1 rfl) ?_
    refine g_get C hH 0 (Nat.le_of_ble_eq_true rfl) rfl fl_X11_21 (v := .ref (ad 2)) rfl dX11_read_25 ?_
    refine g_get C hH 2 (Nat.le_of_ble_eq_true rfl) rfl fl_X11_113 (v := .ref (ad 12)) rfl dX11_read_28 ?_
    obtain ⟨σ_6, hc_7, h⟩ := bdV_ex h
    refine g_cv (g_runV (rest := []) C hH hl.1 cV_X11_116 3 (Nat.le_of_ble_eq_true rfl) rfl rfl (kX9_copyFrom l D ad κ hc_7) ⟨rfl, rfl⟩ ⟨(Nat.le_of_ble_eq_true rfl), (Nat.le_of_ble_eq_true rfl)⟩ rfl rfl (Nat.le_of_ble_eq_true rfl) dX11_read_31 z00) hH (fun H locs hH => ?_)
    refine lv_aload_n hx hb dX11_read_34 rfl (lv_at hl 1 rfl) ?_
    refine g_get C hH 0 (Nat.le_of_ble_eq_true rfl) rfl fl_X11_35 (v := .ref (ad 4)) rfl dX11_read_35 ?_
    refine lv_aload_n hx hb dX11_read_38 rfl (lv_at hl 1 rfl) ?_
    refine g_get C hH 0 (Nat.le_of_ble_eq_true rfl) rfl fl_X11_28 (v := .ref (ad 3)) rfl dX11_read_39 ?_
    obtain ⟨σ_8, hc_9, h⟩ := bdV_ex h
    refine g_cv (g_runV (rest := []) C hH hl.1 cV_X11_90 4 (Nat.le_of_ble_eq_true rfl) rfl rfl (kX7_begin l D ad κ hc_9) ⟨rfl, rfl⟩ ⟨(Nat.le_of_ble_eq_true rfl), (Nat.le_of_ble_eq_true rfl)⟩ rfl rfl (Nat.le_of_ble_eq_true rfl) dX11_read_42 z00) hH (fun H locs hH => ?_)
    refine lv_aload_n hx hb dX11_read_45 rfl (lv_at hl 1 rfl) ?_
    refine g_get C hH 0 (Nat.le_of_ble_eq_true rfl) rfl fl_X11_45 (v := .ref (ad 6)) rfl dX11_read_46 ?_
    obtain ⟨σ_10, hc_11, h⟩ := bdV_ex h
    refine g_cv (g_runV (rest := []) C hH hl.1 cV_X11_119 6 (Nat.le_of_ble_eq_true rfl) rfl rfl (kX3_clearThings l D ad κ hc_11) ⟨rfl, rfl⟩ ⟨(Nat.le_of_ble_eq_true rfl), (Nat.le_of_ble_eq_true rfl)⟩ rfl rfl (Nat.le_of_ble_eq_true rfl) dX11_read_49 z00) hH (fun H locs hH => ?_)
    refine lv_aload_n hx hb dX11_read_52 rfl (lv_at hl 1 rfl) ?_
    refine g_get C hH 0 (Nat.le_of_ble_eq_true rfl) rfl fl_X11_45 (v := .ref (ad 6)) rfl dX11_read_53 ?_
    obtain ⟨σ_12, hc_13, h⟩ := bdV_ex h
    refine g_cv (g_runV (rest := []) C hH hl.1 cV_X11_122 6 (Nat.le_of_ble_eq_true rfl) rfl rfl (kX3_clearSlots l D ad κ hc_13) ⟨rfl, rfl⟩ ⟨(Nat.le_of_ble_eq_true rfl), (Nat.le_of_ble_eq_true rfl)⟩ rfl rfl (Nat.le_of_ble_eq_true rfl) dX11_read_56 z00) hH (fun H locs hH => ?_)
    refine lv_aload_n hx hb dX11_read_59 rfl (lv_at hl 1 rfl) ?_
    refine g_get C hH 0 (Nat.le_of_ble_eq_true rfl) rfl fl_X11_86 (v := .ref (ad 11)) rfl dX11_read_60 ?_
    refine lv_iconst (v := 0) hx hb dX11_read_63 (by decide) ?_
    obtain ⟨σ_14, eσ_14, h⟩ := hl_ex h
    refine g_putI C hH 11 (Nat.le_of_ble_eq_true rfl) rfl fp_X11_125 rfl rfl (Nat.le_of_ble_eq_true rfl) rfl dX11_read_64 (fun H locs hH => ?_)
    rw [← eσ_14] at hH
    refine lv_iload_n hx hb dX11_read_67 rfl (lv_at hl 0 rfl) ?_
    exact g_ret C hH h dX11_read_68
-- X11_place
def FX11_place (σ : HS) : Option (Int32 × HS) :=
  some ((σ.1 2 1), σ)
set_option maxHeartbeats 4000000 in
set_option maxRecDepth 100000 in
theorem kX11_place (l : Launch) (D : va_G) (ad : Nat → Nat) (κ : KC) {σ : HS} {R : (Int32 × HS)} (h : FX11_place σ = some R) : MtI l 50 ceX D ad κ yX11_place cX11_place 1 (some .int) ({ frames := 0, cells := 0, slots := 0, locals := 0 } : Room) [.ref (ad 0)] σ R := by
  refine open_ (by decide) (Nat.le_of_ble_eq_true rfl) (la := [(0, .ref (ad 0))]) rfl ?_
  intro p e s m below meth c ls C hH hl
  replace C : Cx 50 D ad κ p s m _ meth c cX11_place RX11 1 (some .int) := C
  have hx := C.1
  have hb := C.2.1
  have hown := C.2.2.2.1
  have hts := C.2.2.2.2.1
  rw [FX11_place] at h
  refine lv_aload_n hx hb dX11_place_0 rfl (lv_at hl 0 rfl) ?_
  refine g_get C hH 0 (Nat.le_of_ble_eq_true rfl) rfl fl_X11_21 (v := .ref (ad 2)) rfl dX11_place_1 ?_
  refine g_get C hH 2 (Nat.le_of_ble_eq_true rfl) rfl fl_X11_128 (v := .int (σ.1 2 1)) rfl dX11_place_4 ?_
  exact g_ret C hH h dX11_place_7
-- X11_isMinute
def FX11_isMinute (x1 : Int32) (σ : HS) : Option (Int32 × HS) :=
  bdI (FX11_within x1 (0 : Int32) ((σ.1 3 0) - (1 : Int32)) σ) fun r_1 σ_2 => gd (isB r_1) (some (r_1, σ_2))
set_option maxHeartbeats 4000000 in
set_option maxRecDepth 100000 in
theorem kX11_isMinute (l : Launch) (D : va_G) (ad : Nat → Nat) (κ : KC) {x1 : Int32} {σ : HS} {R : (Int32 × HS)} (h : FX11_isMinute x1 σ = some R) : MtI l 50 ceX D ad κ yX11_isMinute cX11_isMinute 2 (some .boolean) ({ frames := 1, cells := 0, slots := 0, locals := 22 } : Room) [.ref (ad 0), .int x1] σ R := by
  refine open_ (by decide) (Nat.le_of_ble_eq_true rfl) (la := [(0, .ref (ad 0)), (1, .int x1)]) rfl ?_
  intro p e s m below meth c ls C hH hl
  replace C : Cx 50 D ad κ p s m _ meth c cX11_isMinute RX11 2 (some .boolean) := C
  have hx := C.1
  have hb := C.2.1
  have hown := C.2.2.2.1
  have hts := C.2.2.2.2.1
  rw [FX11_isMinute] at h
  refine lv_iload_n hx hb dX11_isMinute_0 rfl (lv_at hl 1 rfl) ?_
  refine lv_iconst (v := 0) hx hb dX11_isMinute_1 (by decide) ?_
  refine lv_aload_n hx hb dX11_isMinute_2 rfl (lv_at hl 0 rfl) ?_
  refine g_get C hH 0 (Nat.le_of_ble_eq_true rfl) rfl fl_X11_28 (v := .ref (ad 3)) rfl dX11_isMinute_3 ?_
  refine g_get C hH 3 (Nat.le_of_ble_eq_true rfl) rfl fl_X11_241 (v := .int (σ.1 3 0)) rfl dX11_isMinute_6 ?_
  refine lv_iconst (v := 1) hx hb dX11_isMinute_9 (by decide) ?_
  refine lv_isub hx hb dX11_isMinute_10 ?_
  obtain ⟨r_1, σ_2, hc_3, h⟩ := bdI_ex h
  refine g_ci (g_runS (rest := []) C hH hl.1 cS_X11_105 (kX11_within l D ad κ hc_3) ⟨rfl, rfl⟩ ⟨(Nat.le_of_ble_eq_true rfl), (Nat.le_of_ble_eq_true rfl)⟩ rfl rfl (Nat.le_of_ble_eq_true rfl) dX11_isMinute_11 z00) hH (fun H locs hH => ?_)
  obtain ⟨hb_4, h⟩ := gd_ex h
  exact g_retZ C hH hb_4 h dX11_isMinute_14
-- X11_minute
def FX11_minute (x1 : Int32) (x2 : Int32) (σ : HS) : Option (Int32 × HS) :=
  bdI (FX11_isMinute x1 σ) fun r_1 σ_2 => if r_1 = 0 then some ((-1 : Int32), σ_2) else if x2 = 0 then bdI (FX7_matterOf 4 x1 σ_2) fun r_6 σ_7 => some (r_6, σ_7) else if x2 = 1 then bdI (FX2_quartersOf 4 x1 σ_2) fun r_10 σ_11 => some (r_10, σ_11) else if x2 = 2 then bdI (FX4_coughsBehind 4 x1 (σ_2.1 3 4) σ_2) fun r_14 σ_15 => if r_14 = 0 then some ((0 : Int32), σ_15) else some ((1 : Int32), σ_15) else some ((-1 : Int32), σ_2)
set_option maxHeartbeats 4000000 in
set_option maxRecDepth 100000 in
theorem kX11_minute (l : Launch) (D : va_G) (ad : Nat → Nat) (κ : KC) {x1 : Int32} {x2 : Int32} {σ : HS} {R : (Int32 × HS)} (h : FX11_minute x1 x2 σ = some R) : MtI l 50 ceX D ad κ yX11_minute cX11_minute 3 (some .int) ({ frames := 3, cells := 0, slots := 0, locals := 74 } : Room) [.ref (ad 0), .int x1, .int x2] σ R := by
  refine open_ (by decide) (Nat.le_of_ble_eq_true rfl) (la := [(0, .ref (ad 0)), (1, .int x1), (2, .int x2)]) rfl ?_
  intro p e s m below meth c ls C hH hl
  replace C : Cx 50 D ad κ p s m _ meth c cX11_minute RX11 3 (some .int) := C
  have hx := C.1
  have hb := C.2.1
  have hown := C.2.2.2.1
  have hts := C.2.2.2.2.1
  rw [FX11_minute] at h
  refine lv_aload_n hx hb dX11_minute_0 rfl (lv_at hl 0 rfl) ?_
  refine lv_iload_n hx hb dX11_minute_1 rfl (lv_at hl 1 rfl) ?_
  obtain ⟨r_1, σ_2, hc_3, h⟩ := bdI_ex h
  refine g_ci (g_runV (rest := []) C hH hl.1 cV_X11_131 0 (Nat.le_of_ble_eq_true rfl) rfl rfl (kX11_isMinute l D ad κ hc_3) ⟨rfl, rfl⟩ ⟨(Nat.le_of_ble_eq_true rfl), (Nat.le_of_ble_eq_true rfl)⟩ rfl rfl (Nat.le_of_ble_eq_true rfl) dX11_minute_2 z00) hH (fun H locs hH => ?_)
  refine lv_if_ne (tgt := 10) hx hb dX11_minute_5 (by decide) (fun hq_4 => ?_) (fun hq_4 => ?_)
  · rw [if_neg hq_4] at h
    refine lv_iload_n hx hb dX11_minute_10 rfl (lv_at hl 2 rfl) ?_
    by_cases hs_5 : x2 = 0
    · rw [if_pos hs_5] at h
      refine lv_tableIn (off := 25) (tgt := 36) hx hb dX11_minute_11 (by rw [hs_5]; decide) (by rw [hs_5]; decide) (by rw [hs_5]; rfl) (by decide) ?_
      refine lv_aload_n hx hb dX11_minute_36 rfl (lv_at hl 0 rfl) ?_
      refine g_get C hH 0 (Nat.le_of_ble_eq_true rfl) rfl fl_X11_35 (v := .ref (ad 4)) rfl dX11_minute_37 ?_
      refine lv_iload_n hx hb dX11_minute_40 rfl (lv_at hl 1 rfl) ?_
      obtain ⟨r_6, σ_7, hc_8, h⟩ := bdI_ex h
      refine g_ci (g_runV (rest := []) C hH hl.1 cV_X11_134 4 (Nat.le_of_ble_eq_true rfl) rfl rfl (kX7_matterOf l D ad κ st_4 hc_8) ⟨rfl, rfl⟩ ⟨(Nat.le_of_ble_eq_true rfl), (Nat.le_of_ble_eq_true rfl)⟩ rfl rfl (Nat.le_of_ble_eq_true rfl) dX11_minute_41 z00) hH (fun H locs hH => ?_)
      exact g_ret C hH h dX11_minute_44
    · rw [if_neg hs_5] at h
      by_cases hs_9 : x2 = 1
      · rw [if_pos hs_9] at h
        refine lv_tableIn (off := 34) (tgt := 45) hx hb dX11_minute_11 (by rw [hs_9]; decide) (by rw [hs_9]; decide) (by rw [hs_9]; rfl) (by decide) ?_
        refine lv_aload_n hx hb dX11_minute_45 rfl (lv_at hl 0 rfl) ?_
        refine g_get C hH 0 (Nat.le_of_ble_eq_true rfl) rfl fl_X11_54 (v := .ref (ad 7)) rfl dX11_minute_46 ?_
        refine lv_aload_n hx hb dX11_minute_49 rfl (lv_at hl 0 rfl) ?_
        refine g_get C hH 0 (Nat.le_of_ble_eq_true rfl) rfl fl_X11_35 (v := .ref (ad 4)) rfl dX11_minute_50 ?_
        refine lv_iload_n hx hb dX11_minute_53 rfl (lv_at hl 1 rfl) ?_
        obtain ⟨r_10, σ_11, hc_12, h⟩ := bdI_ex h
        refine g_ci (g_runV (rest := []) C hH hl.1 cV_X11_138 7 (Nat.le_of_ble_eq_true rfl) rfl rfl (kX2_quartersOf l D ad κ st_4 hc_12) ⟨rfl, rfl⟩ ⟨(Nat.le_of_ble_eq_true rfl), (Nat.le_of_ble_eq_true rfl)⟩ rfl rfl (Nat.le_of_ble_eq_true rfl) dX11_minute_54 z00) hH (fun H locs hH => ?_)
        exact g_ret C hH h dX11_minute_57
      · rw [if_neg hs_9] at h
        by_cases hs_13 : x2 = 2
        · rw [if_pos hs_13] at h
          refine lv_tableIn (off := 47) (tgt := 58) hx hb dX11_minute_11 (by rw [hs_13]; decide) (by rw [hs_13]; decide) (by rw [hs_13]; rfl) (by decide) ?_
          refine lv_aload_n hx hb dX11_minute_58 rfl (lv_at hl 0 rfl) ?_
          refine g_get C hH 0 (Nat.le_of_ble_eq_true rfl) rfl fl_X11_70 (v := .ref (ad 9)) rfl dX11_minute_59 ?_
          refine lv_aload_n hx hb dX11_minute_62 rfl (lv_at hl 0 rfl) ?_
          refine g_get C hH 0 (Nat.le_of_ble_eq_true rfl) rfl fl_X11_35 (v := .ref (ad 4)) rfl dX11_minute_63 ?_
          refine lv_iload_n hx hb dX11_minute_66 rfl (lv_at hl 1 rfl) ?_
          refine lv_aload_n hx hb dX11_minute_67 rfl (lv_at hl 0 rfl) ?_
          refine g_get C hH 0 (Nat.le_of_ble_eq_true rfl) rfl fl_X11_28 (v := .ref (ad 3)) rfl dX11_minute_68 ?_
          refine g_get C hH 3 (Nat.le_of_ble_eq_true rfl) rfl fl_X11_142 (v := .int (σ_2.1 3 4)) rfl dX11_minute_71 ?_
          obtain ⟨r_14, σ_15, hc_16, h⟩ := bdI_ex h
          refine g_ci (g_runV (rest := []) C hH hl.1 cV_X11_145 9 (Nat.le_of_ble_eq_true rfl) rfl rfl (kX4_coughsBehind l D ad κ st_4 hc_16) ⟨rfl, rfl⟩ ⟨(Nat.le_of_ble_eq_true rfl), (Nat.le_of_ble_eq_true rfl)⟩ rfl rfl (Nat.le_of_ble_eq_true rfl) dX11_minute_74 z00) hH (fun H locs hH => ?_)
          refine lv_if_eq (tgt := 84) hx hb dX11_minute_77 (by decide) (fun hq_17 => ?_) (fun hq_17 => ?_)
          · rw [if_pos hq_17] at h
            refine lv_iconst (v := 0) hx hb dX11_minute_84 (by decide) ?_
            exact g_ret C hH h dX11_minute_85
          · rw [if_neg hq_17] at h
            refine lv_iconst (v := 1) hx hb dX11_minute_80 (by decide) ?_
            refine lv_goto (tgt := 85) hx hb dX11_minute_81 (by decide) ?_
            exact g_ret C hH h dX11_minute_85
        · rw [if_neg hs_13] at h
          refine lv_tableOut (tgt := 86) hx hb dX11_minute_11 (by have a0 := lv_neT hs_5 (show (0 : Int32).toInt = 0 from by decide); have a1 := lv_neT hs_9 (show (1 : Int32).toInt = 1 from by decide); have a2 := lv_neT hs_13 (show (2 : Int32).toInt = 2 from by decide); omega) (by decide) ?_
          refine lv_iconst (v := (-1)) hx hb dX11_minute_86 (by decide) ?_
          exact g_ret C hH h dX11_minute_87
  · rw [if_pos hq_4] at h
    refine lv_iconst (v := (-1)) hx hb dX11_minute_8 (by decide) ?_
    exact g_ret C hH h dX11_minute_9
-- X11_isFamily
def FX11_isFamily (x1 : Int32) (σ : HS) : Option (Int32 × HS) :=
  bdI (FX11_within x1 (0 : Int32) ((σ.1 3 1) - (1 : Int32)) σ) fun r_1 σ_2 => gd (isB r_1) (some (r_1, σ_2))
set_option maxHeartbeats 4000000 in
set_option maxRecDepth 100000 in
theorem kX11_isFamily (l : Launch) (D : va_G) (ad : Nat → Nat) (κ : KC) {x1 : Int32} {σ : HS} {R : (Int32 × HS)} (h : FX11_isFamily x1 σ = some R) : MtI l 50 ceX D ad κ yX11_isFamily cX11_isFamily 2 (some .boolean) ({ frames := 1, cells := 0, slots := 0, locals := 22 } : Room) [.ref (ad 0), .int x1] σ R := by
  refine open_ (by decide) (Nat.le_of_ble_eq_true rfl) (la := [(0, .ref (ad 0)), (1, .int x1)]) rfl ?_
  intro p e s m below meth c ls C hH hl
  replace C : Cx 50 D ad κ p s m _ meth c cX11_isFamily RX11 2 (some .boolean) := C
  have hx := C.1
  have hb := C.2.1
  have hown := C.2.2.2.1
  have hts := C.2.2.2.2.1
  rw [FX11_isFamily] at h
  refine lv_iload_n hx hb dX11_isFamily_0 rfl (lv_at hl 1 rfl) ?_
  refine lv_iconst (v := 0) hx hb dX11_isFamily_1 (by decide) ?_
  refine lv_aload_n hx hb dX11_isFamily_2 rfl (lv_at hl 0 rfl) ?_
  refine g_get C hH 0 (Nat.le_of_ble_eq_true rfl) rfl fl_X11_28 (v := .ref (ad 3)) rfl dX11_isFamily_3 ?_
  refine g_get C hH 3 (Nat.le_of_ble_eq_true rfl) rfl fl_X11_282 (v := .int (σ.1 3 1)) rfl dX11_isFamily_6 ?_
  refine lv_iconst (v := 1) hx hb dX11_isFamily_9 (by decide) ?_
  refine lv_isub hx hb dX11_isFamily_10 ?_
  obtain ⟨r_1, σ_2, hc_3, h⟩ := bdI_ex h
  refine g_ci (g_runS (rest := []) C hH hl.1 cS_X11_105 (kX11_within l D ad κ hc_3) ⟨rfl, rfl⟩ ⟨(Nat.le_of_ble_eq_true rfl), (Nat.le_of_ble_eq_true rfl)⟩ rfl rfl (Nat.le_of_ble_eq_true rfl) dX11_isFamily_11 z00) hH (fun H locs hH => ?_)
  obtain ⟨hb_4, h⟩ := gd_ex h
  exact g_retZ C hH hb_4 h dX11_isFamily_14
-- X11_family
def FX11_family (x1 : Int32) (x2 : Int32) (σ : HS) : Option (Int32 × HS) :=
  bdI (FX11_isFamily x1 σ) fun r_1 σ_2 => if r_1 = 0 then some ((-1 : Int32), σ_2) else if x2 = 0 then gd (ix x1 5) (some ((σ_2.1 23 (x1.toNatClampNeg)), σ_2)) else if x2 = 1 then gd (ix x1 5) (some ((σ_2.1 24 (x1.toNatClampNeg)), σ_2)) else if x2 = 2 then bdI (FX7_partsOf 4 x1 σ_2) fun r_10 σ_11 => some (r_10, σ_11) else if x2 = 3 then bdI (FX7_gainedBy 4 x1 σ_2) fun r_14 σ_15 => some (r_14, σ_15) else if x2 = 4 then bdI (FX7_paidBy 4 x1 σ_2) fun r_18 σ_19 => some (r_18, σ_19) else if x2 = 5 then bdI (FX2_rentOf 4 x1 σ_2) fun r_22 σ_23 => some (r_22, σ_23) else if x2 = 6 then bdI (FX2_cureFor 4 x1 σ_2) fun r_26 σ_27 => some (r_26, σ_27) else some ((-1 : Int32), σ_2)
set_option maxHeartbeats 4000000 in
set_option maxRecDepth 100000 in
theorem kX11_family (l : Launch) (D : va_G) (ad : Nat → Nat) (κ : KC) {x1 : Int32} {x2 : Int32} {σ : HS} {R : (Int32 × HS)} (h : FX11_family x1 x2 σ = some R) : MtI l 50 ceX D ad κ yX11_family cX11_family 3 (some .int) ({ frames := 3, cells := 0, slots := 0, locals := 66 } : Room) [.ref (ad 0), .int x1, .int x2] σ R := by
  refine open_ (by decide) (Nat.le_of_ble_eq_true rfl) (la := [(0, .ref (ad 0)), (1, .int x1), (2, .int x2)]) rfl ?_
  intro p e s m below meth c ls C hH hl
  replace C : Cx 50 D ad κ p s m _ meth c cX11_family RX11 3 (some .int) := C
  have hx := C.1
  have hb := C.2.1
  have hown := C.2.2.2.1
  have hts := C.2.2.2.2.1
  rw [FX11_family] at h
  refine lv_aload_n hx hb dX11_family_0 rfl (lv_at hl 0 rfl) ?_
  refine lv_iload_n hx hb dX11_family_1 rfl (lv_at hl 1 rfl) ?_
  obtain ⟨r_1, σ_2, hc_3, h⟩ := bdI_ex h
  refine g_ci (g_runV (rest := []) C hH hl.1 cV_X11_149 0 (Nat.le_of_ble_eq_true rfl) rfl rfl (kX11_isFamily l D ad κ hc_3) ⟨rfl, rfl⟩ ⟨(Nat.le_of_ble_eq_true rfl), (Nat.le_of_ble_eq_true rfl)⟩ rfl rfl (Nat.le_of_ble_eq_true rfl) dX11_family_2 z00) hH (fun H locs hH => ?_)
  refine lv_if_ne (tgt := 10) hx hb dX11_family_5 (by decide) (fun hq_4 => ?_) (fun hq_4 => ?_)
  · rw [if_neg hq_4] at h
    refine lv_iload_n hx hb dX11_family_10 rfl (lv_at hl 2 rfl) ?_
    by_cases hs_5 : x2 = 0
    · rw [if_pos hs_5] at h
      refine lv_tableIn (off := 41) (tgt := 52) hx hb dX11_family_11 (by rw [hs_5]; decide) (by rw [hs_5]; decide) (by rw [hs_5]; rfl) (by decide) ?_
      refine lv_aload_n hx hb dX11_family_52 rfl (lv_at hl 0 rfl) ?_
      refine g_get C hH 0 (Nat.le_of_ble_eq_true rfl) rfl fl_X11_28 (v := .ref (ad 3)) rfl dX11_family_53 ?_
      refine g_get C hH 3 (Nat.le_of_ble_eq_true rfl) rfl fl_X11_152 (v := .ref (ad 23)) rfl dX11_family_56 ?_
      refine lv_iload_n hx hb dX11_family_59 rfl (lv_at hl 1 rfl) ?_
      obtain ⟨hi_6, h⟩ := gd_ex h
      refine g_iald C hH 23 (Nat.le_of_ble_eq_true rfl) rfl (k := (x1.toNatClampNeg)) rfl (ix_in hi_6) dX11_family_60 ?_
      exact g_ret C hH h dX11_family_61
    · rw [if_neg hs_5] at h
      by_cases hs_7 : x2 = 1
      · rw [if_pos hs_7] at h
        refine lv_tableIn (off := 51) (tgt := 62) hx hb dX11_family_11 (by rw [hs_7]; decide) (by rw [hs_7]; decide) (by rw [hs_7]; rfl) (by decide) ?_
        refine lv_aload_n hx hb dX11_family_62 rfl (lv_at hl 0 rfl) ?_
        refine g_get C hH 0 (Nat.le_of_ble_eq_true rfl) rfl fl_X11_28 (v := .ref (ad 3)) rfl dX11_family_63 ?_
        refine g_get C hH 3 (Nat.le_of_ble_eq_true rfl) rfl fl_X11_156 (v := .ref (ad 24)) rfl dX11_family_66 ?_
        refine lv_iload_n hx hb dX11_family_69 rfl (lv_at hl 1 rfl) ?_
        obtain ⟨hi_8, h⟩ := gd_ex h
        refine g_iald C hH 24 (Nat.le_of_ble_eq_true rfl) rfl (k := (x1.toNatClampNeg)) rfl (ix_in hi_8) dX11_family_70 ?_
        exact g_ret C hH h dX11_family_71
      · rw [if_neg hs_7] at h
        by_cases hs_9 : x2 = 2
        · rw [if_pos hs_9] at h
          refine lv_tableIn (off := 61) (tgt := 72) hx hb dX11_family_11 (by rw [hs_9]; decide) (by rw [hs_9]; decide) (by rw [hs_9]; rfl) (by decide) ?_
          refine lv_aload_n hx hb dX11_family_72 rfl (lv_at hl 0 rfl) ?_
          refine g_get C hH 0 (Nat.le_of_ble_eq_true rfl) rfl fl_X11_35 (v := .ref (ad 4)) rfl dX11_family_73 ?_
          refine lv_iload_n hx hb dX11_family_76 rfl (lv_at hl 1 rfl) ?_
          obtain ⟨r_10, σ_11, hc_12, h⟩ := bdI_ex h
          refine g_ci (g_runV (rest := []) C hH hl.1 cV_X11_159 4 (Nat.le_of_ble_eq_true rfl) rfl rfl (kX7_partsOf l D ad κ st_4 hc_12) ⟨rfl, rfl⟩ ⟨(Nat.le_of_ble_eq_true rfl), (Nat.le_of_ble_eq_true rfl)⟩ rfl rfl (Nat.le_of_ble_eq_true rfl) dX11_family_77 z00) hH (fun H locs hH => ?_)
          exact g_ret C hH h dX11_family_80
        · rw [if_neg hs_9] at h
          by_cases hs_13 : x2 = 3
          · rw [if_pos hs_13] at h
            refine lv_tableIn (off := 70) (tgt := 81) hx hb dX11_family_11 (by rw [hs_13]; decide) (by rw [hs_13]; decide) (by rw [hs_13]; rfl) (by decide) ?_
            refine lv_aload_n hx hb dX11_family_81 rfl (lv_at hl 0 rfl) ?_
            refine g_get C hH 0 (Nat.le_of_ble_eq_true rfl) rfl fl_X11_35 (v := .ref (ad 4)) rfl dX11_family_82 ?_
            refine lv_iload_n hx hb dX11_family_85 rfl (lv_at hl 1 rfl) ?_
            obtain ⟨r_14, σ_15, hc_16, h⟩ := bdI_ex h
            refine g_ci (g_runV (rest := []) C hH hl.1 cV_X11_162 4 (Nat.le_of_ble_eq_true rfl) rfl rfl (kX7_gainedBy l D ad κ st_4 hc_16) ⟨rfl, rfl⟩ ⟨(Nat.le_of_ble_eq_true rfl), (Nat.le_of_ble_eq_true rfl)⟩ rfl rfl (Nat.le_of_ble_eq_true rfl) dX11_family_86 z00) hH (fun H locs hH => ?_)
            exact g_ret C hH h dX11_family_89
          · rw [if_neg hs_13] at h
            by_cases hs_17 : x2 = 4
            · rw [if_pos hs_17] at h
              refine lv_tableIn (off := 79) (tgt := 90) hx hb dX11_family_11 (by rw [hs_17]; decide) (by rw [hs_17]; decide) (by rw [hs_17]; rfl) (by decide) ?_
              refine lv_aload_n hx hb dX11_family_90 rfl (lv_at hl 0 rfl) ?_
              refine g_get C hH 0 (Nat.le_of_ble_eq_true rfl) rfl fl_X11_35 (v := .ref (ad 4)) rfl dX11_family_91 ?_
              refine lv_iload_n hx hb dX11_family_94 rfl (lv_at hl 1 rfl) ?_
              obtain ⟨r_18, σ_19, hc_20, h⟩ := bdI_ex h
              refine g_ci (g_runV (rest := []) C hH hl.1 cV_X11_165 4 (Nat.le_of_ble_eq_true rfl) rfl rfl (kX7_paidBy l D ad κ st_4 hc_20) ⟨rfl, rfl⟩ ⟨(Nat.le_of_ble_eq_true rfl), (Nat.le_of_ble_eq_true rfl)⟩ rfl rfl (Nat.le_of_ble_eq_true rfl) dX11_family_95 z00) hH (fun H locs hH => ?_)
              exact g_ret C hH h dX11_family_98
            · rw [if_neg hs_17] at h
              by_cases hs_21 : x2 = 5
              · rw [if_pos hs_21] at h
                refine lv_tableIn (off := 88) (tgt := 99) hx hb dX11_family_11 (by rw [hs_21]; decide) (by rw [hs_21]; decide) (by rw [hs_21]; rfl) (by decide) ?_
                refine lv_aload_n hx hb dX11_family_99 rfl (lv_at hl 0 rfl) ?_
                refine g_get C hH 0 (Nat.le_of_ble_eq_true rfl) rfl fl_X11_54 (v := .ref (ad 7)) rfl dX11_family_100 ?_
                refine lv_aload_n hx hb dX11_family_103 rfl (lv_at hl 0 rfl) ?_
                refine g_get C hH 0 (Nat.le_of_ble_eq_true rfl) rfl fl_X11_35 (v := .ref (ad 4)) rfl dX11_family_104 ?_
                refine lv_iload_n hx hb dX11_family_107 rfl (lv_at hl 1 rfl) ?_
                obtain ⟨r_22, σ_23, hc_24, h⟩ := bdI_ex h
                refine g_ci (g_runV (rest := []) C hH hl.1 cV_X11_168 7 (Nat.le_of_ble_eq_true rfl) rfl rfl (kX2_rentOf l D ad κ st_4 hc_24) ⟨rfl, rfl⟩ ⟨(Nat.le_of_ble_eq_true rfl), (Nat.le_of_ble_eq_true rfl)⟩ rfl rfl (Nat.le_of_ble_eq_true rfl) dX11_family_108 z00) hH (fun H locs hH => ?_)
                exact g_ret C hH h dX11_family_111
              · rw [if_neg hs_21] at h
                by_cases hs_25 : x2 = 6
                · rw [if_pos hs_25] at h
                  refine lv_tableIn (off := 101) (tgt := 112) hx hb dX11_family_11 (by rw [hs_25]; decide) (by rw [hs_25]; decide) (by rw [hs_25]; rfl) (by decide) ?_
                  refine lv_aload_n hx hb dX11_family_112 rfl (lv_at hl 0 rfl) ?_
                  refine g_get C hH 0 (Nat.le_of_ble_eq_true rfl) rfl fl_X11_54 (v := .ref (ad 7)) rfl dX11_family_113 ?_
                  refine lv_aload_n hx hb dX11_family_116 rfl (lv_at hl 0 rfl) ?_
                  refine g_get C hH 0 (Nat.le_of_ble_eq_true rfl) rfl fl_X11_35 (v := .ref (ad 4)) rfl dX11_family_117 ?_
                  refine lv_iload_n hx hb dX11_family_120 rfl (lv_at hl 1 rfl) ?_
                  obtain ⟨r_26, σ_27, hc_28, h⟩ := bdI_ex h
                  refine g_ci (g_runV (rest := []) C hH hl.1 cV_X11_171 7 (Nat.le_of_ble_eq_true rfl) rfl rfl (kX2_cureFor l D ad κ st_4 hc_28) ⟨rfl, rfl⟩ ⟨(Nat.le_of_ble_eq_true rfl), (Nat.le_of_ble_eq_true rfl)⟩ rfl rfl (Nat.le_of_ble_eq_true rfl) dX11_family_121 z00) hH (fun H locs hH => ?_)
                  exact g_ret C hH h dX11_family_124
                · rw [if_neg hs_25] at h
                  refine lv_tableOut (tgt := 125) hx hb dX11_family_11 (by have a0 := lv_neT hs_5 (show (0 : Int32).toInt = 0 from by decide); have a1 := lv_neT hs_7 (show (1 : Int32).toInt = 1 from by decide); have a2 := lv_neT hs_9 (show (2 : Int32).toInt = 2 from by decide); have a3 := lv_neT hs_13 (show (3 : Int32).toInt = 3 from by decide); have a4 := lv_neT hs_17 (show (4 : Int32).toInt = 4 from by decide); have a5 := lv_neT hs_21 (show (5 : Int32).toInt = 5 from by decide); have a6 := lv_neT hs_25 (show (6 : Int32).toInt = 6 from by decide); omega) (by decide) ?_
                  refine lv_iconst (v := (-1)) hx hb dX11_family_125 (by decide) ?_
                  exact g_ret C hH h dX11_family_126
  · rw [if_pos hq_4] at h
    refine lv_iconst (v := (-1)) hx hb dX11_family_8 (by decide) ?_
    exact g_ret C hH h dX11_family_9
-- X11_lease
def FX11_lease (x1 : Int32) (σ : HS) : Option (Int32 × HS) :=
  bdI (FX11_isPart x1 σ) fun r_1 σ_2 => if r_1 = 0 then some ((-1 : Int32), σ_2) else bdI (FX7_ownerOf 4 x1 σ_2) fun r_5 σ_6 => some (r_5, σ_6)
set_option maxHeartbeats 4000000 in
set_option maxRecDepth 100000 in
theorem kX11_lease (l : Launch) (D : va_G) (ad : Nat → Nat) (κ : KC) {x1 : Int32} {σ : HS} {R : (Int32 × HS)} (h : FX11_lease x1 σ = some R) : MtI l 50 ceX D ad κ yX11_lease cX11_lease 2 (some .int) ({ frames := 2, cells := 0, slots := 0, locals := 42 } : Room) [.ref (ad 0), .int x1] σ R := by
  refine open_ (by decide) (Nat.le_of_ble_eq_true rfl) (la := [(0, .ref (ad 0)), (1, .int x1)]) rfl ?_
  intro p e s m below meth c ls C hH hl
  replace C : Cx 50 D ad κ p s m _ meth c cX11_lease RX11 2 (some .int) := C
  have hx := C.1
  have hb := C.2.1
  have hown := C.2.2.2.1
  have hts := C.2.2.2.2.1
  rw [FX11_lease] at h
  refine lv_iload_n hx hb dX11_lease_0 rfl (lv_at hl 1 rfl) ?_
  obtain ⟨r_1, σ_2, hc_3, h⟩ := bdI_ex h
  refine g_ci (g_runS (rest := []) C hH hl.1 cS_X11_174 (kX11_isPart l D ad κ hc_3) ⟨rfl, rfl⟩ ⟨(Nat.le_of_ble_eq_true rfl), (Nat.le_of_ble_eq_true rfl)⟩ rfl rfl (Nat.le_of_ble_eq_true rfl) dX11_lease_1 z00) hH (fun H locs hH => ?_)
  refine lv_if_eq (tgt := 18) hx hb dX11_lease_4 (by decide) (fun hq_4 => ?_) (fun hq_4 => ?_)
  · rw [if_pos hq_4] at h
    refine lv_iconst (v := (-1)) hx hb dX11_lease_18 (by decide) ?_
    exact g_ret C hH h dX11_lease_19
  · rw [if_neg hq_4] at h
    refine lv_aload_n hx hb dX11_lease_7 rfl (lv_at hl 0 rfl) ?_
    refine g_get C hH 0 (Nat.le_of_ble_eq_true rfl) rfl fl_X11_35 (v := .ref (ad 4)) rfl dX11_lease_8 ?_
    refine lv_iload_n hx hb dX11_lease_11 rfl (lv_at hl 1 rfl) ?_
    obtain ⟨r_5, σ_6, hc_7, h⟩ := bdI_ex h
    refine g_ci (g_runV (rest := []) C hH hl.1 cV_X11_177 4 (Nat.le_of_ble_eq_true rfl) rfl rfl (kX7_ownerOf l D ad κ st_4 hc_7) ⟨rfl, rfl⟩ ⟨(Nat.le_of_ble_eq_true rfl), (Nat.le_of_ble_eq_true rfl)⟩ rfl rfl (Nat.le_of_ble_eq_true rfl) dX11_lease_12 z00) hH (fun H locs hH => ?_)
    refine lv_goto (tgt := 19) hx hb dX11_lease_15 (by decide) ?_
    exact g_ret C hH h dX11_lease_19
-- X11_worth
def FX11_worth (x1 : Int32) (x2 : Int32) (x3 : Int32) (σ : HS) : Option (Int32 × HS) :=
  bdI (FX11_isFamily x1 σ) fun r_1 σ_2 => if r_1 = 0 then some ((-1 : Int32), σ_2) else bdI (FX11_isMinute x2 σ_2) fun r_5 σ_6 => if r_5 = 0 then some ((-1 : Int32), σ_6) else bdI (FX11_isPart x3 σ_6) fun r_9 σ_10 => if r_9 = 0 then some ((-1 : Int32), σ_10) else bdI (FX2_worthTo 4 x1 x2 x3 σ_10) fun r_13 σ_14 => some (r_13, σ_14)
set_option maxHeartbeats 4000000 in
set_option maxRecDepth 100000 in
theorem kX11_worth (l : Launch) (D : va_G) (ad : Nat → Nat) (κ : KC) {x1 : Int32} {x2 : Int32} {x3 : Int32} {σ : HS} {R : (Int32 × HS)} (h : FX11_worth x1 x2 x3 σ = some R) : MtI l 50 ceX D ad κ yX11_worth cX11_worth 4 (some .int) ({ frames := 2, cells := 0, slots := 0, locals := 52 } : Room) [.ref (ad 0), .int x1, .int x2, .int x3] σ R := by
  refine open_ (by decide) (Nat.le_of_ble_eq_true rfl) (la := [(0, .ref (ad 0)), (1, .int x1), (2, .int x2), (3, .int x3)]) rfl ?_
  intro p e s m below meth c ls C hH hl
  replace C : Cx 50 D ad κ p s m _ meth c cX11_worth RX11 4 (some .int) := C
  have hx := C.1
  have hb := C.2.1
  have hown := C.2.2.2.1
  have hts := C.2.2.2.2.1
  rw [FX11_worth] at h
  refine lv_aload_n hx hb dX11_worth_0 rfl (lv_at hl 0 rfl) ?_
  refine lv_iload_n hx hb dX11_worth_1 rfl (lv_at hl 1 rfl) ?_
  obtain ⟨r_1, σ_2, hc_3, h⟩ := bdI_ex h
  refine g_ci (g_runV (rest := []) C hH hl.1 cV_X11_149 0 (Nat.le_of_ble_eq_true rfl) rfl rfl (kX11_isFamily l D ad κ hc_3) ⟨rfl, rfl⟩ ⟨(Nat.le_of_ble_eq_true rfl), (Nat.le_of_ble_eq_true rfl)⟩ rfl rfl (Nat.le_of_ble_eq_true rfl) dX11_worth_2 z00) hH (fun H locs hH => ?_)
  refine lv_if_eq (tgt := 23) hx hb dX11_worth_5 (by decide) (fun hq_4 => ?_) (fun hq_4 => ?_)
  · rw [if_pos hq_4] at h
    refine lv_iconst (v := (-1)) hx hb dX11_worth_23 (by decide) ?_
    exact g_ret C hH h dX11_worth_24
  · rw [if_neg hq_4] at h
    refine lv_aload_n hx hb dX11_worth_8 rfl (lv_at hl 0 rfl) ?_
    refine lv_iload_n hx hb dX11_worth_9 rfl (lv_at hl 2 rfl) ?_
    obtain ⟨r_5, σ_6, hc_7, h⟩ := bdI_ex h
    refine g_ci (g_runV (rest := []) C hH hl.1 cV_X11_131 0 (Nat.le_of_ble_eq_true rfl) rfl rfl (kX11_isMinute l D ad κ hc_7) ⟨rfl, rfl⟩ ⟨(Nat.le_of_ble_eq_true rfl), (Nat.le_of_ble_eq_true rfl)⟩ rfl rfl (Nat.le_of_ble_eq_true rfl) dX11_worth_10 z00) hH (fun H locs hH => ?_)
    refine lv_if_eq (tgt := 23) hx hb dX11_worth_13 (by decide) (fun hq_8 => ?_) (fun hq_8 => ?_)
    · rw [if_pos hq_8] at h
      refine lv_iconst (v := (-1)) hx hb dX11_worth_23 (by decide) ?_
      exact g_ret C hH h dX11_worth_24
    · rw [if_neg hq_8] at h
      refine lv_iload_n hx hb dX11_worth_16 rfl (lv_at hl 3 rfl) ?_
      obtain ⟨r_9, σ_10, hc_11, h⟩ := bdI_ex h
      refine g_ci (g_runS (rest := []) C hH hl.1 cS_X11_174 (kX11_isPart l D ad κ hc_11) ⟨rfl, rfl⟩ ⟨(Nat.le_of_ble_eq_true rfl), (Nat.le_of_ble_eq_true rfl)⟩ rfl rfl (Nat.le_of_ble_eq_true rfl) dX11_worth_17 z00) hH (fun H locs hH => ?_)
      refine lv_if_ne (tgt := 25) hx hb dX11_worth_20 (by decide) (fun hq_12 => ?_) (fun hq_12 => ?_)
      · rw [if_neg hq_12] at h
        refine lv_aload_n hx hb dX11_worth_25 rfl (lv_at hl 0 rfl) ?_
        refine g_get C hH 0 (Nat.le_of_ble_eq_true rfl) rfl fl_X11_54 (v := .ref (ad 7)) rfl dX11_worth_26 ?_
        refine lv_aload_n hx hb dX11_worth_29 rfl (lv_at hl 0 rfl) ?_
        refine g_get C hH 0 (Nat.le_of_ble_eq_true rfl) rfl fl_X11_35 (v := .ref (ad 4)) rfl dX11_worth_30 ?_
        refine lv_iload_n hx hb dX11_worth_33 rfl (lv_at hl 1 rfl) ?_
        refine lv_iload_n hx hb dX11_worth_34 rfl (lv_at hl 2 rfl) ?_
        refine lv_iload_n hx hb dX11_worth_35 rfl (lv_at hl 3 rfl) ?_
        obtain ⟨r_13, σ_14, hc_15, h⟩ := bdI_ex h
        refine g_ci (g_runV (rest := []) C hH hl.1 cV_X11_180 7 (Nat.le_of_ble_eq_true rfl) rfl rfl (kX2_worthTo l D ad κ st_4 hc_15) ⟨rfl, rfl⟩ ⟨(Nat.le_of_ble_eq_true rfl), (Nat.le_of_ble_eq_true rfl)⟩ rfl rfl (Nat.le_of_ble_eq_true rfl) dX11_worth_36 z00) hH (fun H locs hH => ?_)
        exact g_ret C hH h dX11_worth_39
      · rw [if_pos hq_12] at h
        refine lv_iconst (v := (-1)) hx hb dX11_worth_23 (by decide) ?_
        exact g_ret C hH h dX11_worth_24
-- X11_change
def FX11_change (x1 : Int32) (x2 : Int32) (σ : HS) : Option (Int32 × HS) :=
  bdI (FX11_isMinute x1 σ) fun r_1 σ_2 => if r_1 = 0 then some ((0 : Int32), σ_2) else bdI (FX11_isMinute x2 σ_2) fun r_5 σ_6 => if r_5 = 0 then some ((0 : Int32), σ_6) else bdI (FX7_matterOf 4 x1 σ_6) fun r_9 σ_10 => bdI (FX7_matterOf 4 x2 σ_10) fun r_12 σ_13 => if r_9 = r_12 then some ((0 : Int32), σ_13) else bdV (FX3_keep σ_13) fun σ_16 => bdV (FX7_exchange 4 x1 x2 σ_16) fun σ_18 => some ((1 : Int32), σ_18)
set_option maxHeartbeats 4000000 in
set_option maxRecDepth 100000 in
theorem kX11_change (l : Launch) (D : va_G) (ad : Nat → Nat) (κ : KC) {x1 : Int32} {x2 : Int32} {σ : HS} {R : (Int32 × HS)} (h : FX11_change x1 x2 σ = some R) : MtI l 50 ceX D ad κ yX11_change cX11_change 3 (some .boolean) ({ frames := 2, cells := 0, slots := 0, locals := 47 } : Room) [.ref (ad 0), .int x1, .int x2] σ R := by
  refine open_ (by decide) (Nat.le_of_ble_eq_true rfl) (la := [(0, .ref (ad 0)), (1, .int x1), (2, .int x2)]) rfl ?_
  intro p e s m below meth c ls C hH hl
  replace C : Cx 50 D ad κ p s m _ meth c cX11_change RX11 3 (some .boolean) := C
  have hx := C.1
  have hb := C.2.1
  have hown := C.2.2.2.1
  have hts := C.2.2.2.2.1
  rw [FX11_change] at h
  refine lv_aload_n hx hb dX11_change_0 rfl (lv_at hl 0 rfl) ?_
  refine lv_iload_n hx hb dX11_change_1 rfl (lv_at hl 1 rfl) ?_
  obtain ⟨r_1, σ_2, hc_3, h⟩ := bdI_ex h
  refine g_ci (g_runV (rest := []) C hH hl.1 cV_X11_131 0 (Nat.le_of_ble_eq_true rfl) rfl rfl (kX11_isMinute l D ad κ hc_3) ⟨rfl, rfl⟩ ⟨(Nat.le_of_ble_eq_true rfl), (Nat.le_of_ble_eq_true rfl)⟩ rfl rfl (Nat.le_of_ble_eq_true rfl) dX11_change_2 z00) hH (fun H locs hH => ?_)
  refine lv_if_eq (tgt := 35) hx hb dX11_change_5 (by decide) (fun hq_4 => ?_) (fun hq_4 => ?_)
  · rw [if_pos hq_4] at h
    refine lv_iconst (v := 0) hx hb dX11_change_35 (by decide) ?_
    exact g_retZ C hH rfl h dX11_change_36
  · rw [if_neg hq_4] at h
    refine lv_aload_n hx hb dX11_change_8 rfl (lv_at hl 0 rfl) ?_
    refine lv_iload_n hx hb dX11_change_9 rfl (lv_at hl 2 rfl) ?_
    obtain ⟨r_5, σ_6, hc_7, h⟩ := bdI_ex h
    refine g_ci (g_runV (rest := []) C hH hl.1 cV_X11_131 0 (Nat.le_of_ble_eq_true rfl) rfl rfl (kX11_isMinute l D ad κ hc_7) ⟨rfl, rfl⟩ ⟨(Nat.le_of_ble_eq_true rfl), (Nat.le_of_ble_eq_true rfl)⟩ rfl rfl (Nat.le_of_ble_eq_true rfl) dX11_change_10 z00) hH (fun H locs hH => ?_)
    refine lv_if_eq (tgt := 35) hx hb dX11_change_13 (by decide) (fun hq_8 => ?_) (fun hq_8 => ?_)
    · rw [if_pos hq_8] at h
      refine lv_iconst (v := 0) hx hb dX11_change_35 (by decide) ?_
      exact g_retZ C hH rfl h dX11_change_36
    · rw [if_neg hq_8] at h
      refine lv_aload_n hx hb dX11_change_16 rfl (lv_at hl 0 rfl) ?_
      refine g_get C hH 0 (Nat.le_of_ble_eq_true rfl) rfl fl_X11_35 (v := .ref (ad 4)) rfl dX11_change_17 ?_
      refine lv_iload_n hx hb dX11_change_20 rfl (lv_at hl 1 rfl) ?_
      obtain ⟨r_9, σ_10, hc_11, h⟩ := bdI_ex h
      refine g_ci (g_runV (rest := []) C hH hl.1 cV_X11_134 4 (Nat.le_of_ble_eq_true rfl) rfl rfl (kX7_matterOf l D ad κ st_4 hc_11) ⟨rfl, rfl⟩ ⟨(Nat.le_of_ble_eq_true rfl), (Nat.le_of_ble_eq_true rfl)⟩ rfl rfl (Nat.le_of_ble_eq_true rfl) dX11_change_21 z00) hH (fun H locs hH => ?_)
      refine lv_aload_n hx hb dX11_change_24 rfl (lv_at hl 0 rfl) ?_
      refine g_get C hH 0 (Nat.le_of_ble_eq_true rfl) rfl fl_X11_35 (v := .ref (ad 4)) rfl dX11_change_25 ?_
      refine lv_iload_n hx hb dX11_change_28 rfl (lv_at hl 2 rfl) ?_
      obtain ⟨r_12, σ_13, hc_14, h⟩ := bdI_ex h
      refine g_ci (g_runV (rest := [.int r_9]) C hH hl.1 cV_X11_134 4 (Nat.le_of_ble_eq_true rfl) rfl rfl (kX7_matterOf l D ad κ st_4 hc_14) ⟨rfl, rfl⟩ ⟨(Nat.le_of_ble_eq_true rfl), (Nat.le_of_ble_eq_true rfl)⟩ rfl rfl (Nat.le_of_ble_eq_true rfl) dX11_change_29 z00) hH (fun H locs hH => ?_)
      refine lv_icmp_ne (tgt := 37) hx hb dX11_change_32 (by decide) (fun hq_15 => ?_) (fun hq_15 => ?_)
      · rw [if_neg hq_15] at h
        refine lv_aload_n hx hb dX11_change_37 rfl (lv_at hl 0 rfl) ?_
        refine g_get C hH 0 (Nat.le_of_ble_eq_true rfl) rfl fl_X11_45 (v := .ref (ad 6)) rfl dX11_change_38 ?_
        refine lv_aload_n hx hb dX11_change_41 rfl (lv_at hl 0 rfl) ?_
        refine g_get C hH 0 (Nat.le_of_ble_eq_true rfl) rfl fl_X11_35 (v := .ref (ad 4)) rfl dX11_change_42 ?_
        obtain ⟨σ_16, hc_17, h⟩ := bdV_ex h
        refine g_cv (g_runV (rest := []) C hH hl.1 cV_X11_184 6 (Nat.le_of_ble_eq_true rfl) rfl rfl (kX3_keep l D ad κ hc_17) ⟨rfl, rfl⟩ ⟨(Nat.le_of_ble_eq_true rfl), (Nat.le_of_ble_eq_true rfl)⟩ rfl rfl (Nat.le_of_ble_eq_true rfl) dX11_change_45 z00) hH (fun H locs hH => ?_)
        refine lv_aload_n hx hb dX11_change_48 rfl (lv_at hl 0 rfl) ?_
        refine g_get C hH 0 (Nat.le_of_ble_eq_true rfl) rfl fl_X11_35 (v := .ref (ad 4)) rfl dX11_change_49 ?_
        refine lv_iload_n hx hb dX11_change_52 rfl (lv_at hl 1 rfl) ?_
        refine lv_iload_n hx hb dX11_change_53 rfl (lv_at hl 2 rfl) ?_
        obtain ⟨σ_18, hc_19, h⟩ := bdV_ex h
        refine g_cv (g_runV (rest := []) C hH hl.1 cV_X11_188 4 (Nat.le_of_ble_eq_true rfl) rfl rfl (kX7_exchange l D ad κ st_4 hc_19) ⟨rfl, rfl⟩ ⟨(Nat.le_of_ble_eq_true rfl), (Nat.le_of_ble_eq_true rfl)⟩ rfl rfl (Nat.le_of_ble_eq_true rfl) dX11_change_54 z00) hH (fun H locs hH => ?_)
        refine lv_iconst (v := 1) hx hb dX11_change_57 (by decide) ?_
        exact g_retZ C hH rfl h dX11_change_58
      · rw [if_pos hq_15] at h
        refine lv_iconst (v := 0) hx hb dX11_change_35 (by decide) ?_
        exact g_retZ C hH rfl h dX11_change_36
-- X11_let
def FX11_let_33  (x1 : Int32) (x2 : Int32) (y0 : Int32) (σ : HS) : Option (Int32 × HS) :=
  bdI (FX7_ownerOf 4 x1 σ) fun r_1 σ_2 => if r_1 = y0 then some ((0 : Int32), σ_2) else bdV (FX3_keep σ_2) fun σ_5 => bdV (FX7_setOwner x1 y0 σ_5) fun σ_7 => some ((1 : Int32), σ_7)
def FX11_let_22  (x1 : Int32) (x2 : Int32) (σ : HS) : Option (Int32 × HS) :=
  if x2 = (-1 : Int32) then FX11_let_33 x1 x2 (-2 : Int32) σ else FX11_let_33 x1 x2 x2 σ
def FX11_let (x1 : Int32) (x2 : Int32) (σ : HS) : Option (Int32 × HS) :=
  bdI (FX11_isPart x1 σ) fun r_10 σ_11 => if r_10 = 0 then some ((0 : Int32), σ_11) else if x2 = (-1 : Int32) then FX11_let_22 x1 x2 σ_11 else bdI (FX11_isFamily x2 σ_11) fun r_15 σ_16 => if r_15 = 0 then some ((0 : Int32), σ_16) else FX11_let_22 x1 x2 σ_16
set_option maxHeartbeats 4000000 in
set_option maxRecDepth 100000 in
theorem wX11_let_33 (C : Cx 50 D ad κ p s m args meth c cX11_let RX11 4 (some .boolean)) {R : (Int32 × HS)} : ∀ (x1 : Int32) (x2 : Int32) (y0 : Int32) (σ : HS) (H : Heap) (locs : List Loc) (ls : Array Slot), FX11_let_33  x1 x2 y0 σ = some R → Hd 50 ceX D ad κ s σ H locs → lv_has ls 4 [(0, .ref (ad 0)), (1, .int x1), (2, .int x2)] → W p l e ({ frames := 2, cells := 0, slots := 0, locals := 47 } : Room) s m args below meth c H locs 0 0 (MQ below (QI 50 ceX D ad κ R) args s 0 0 (AX 50 ad)) (F0 m 33 ls [.int y0]) := by
  have hx := C.1
  have hb := C.2.1
  have hown := C.2.2.2.1
  have hts := C.2.2.2.2.1
  intro x1 x2 y0 σ H locs ls h hH hl
  rw [FX11_let_33] at h
  refine lv_istore_n (lv' := [(3, .int y0), (0, .ref (ad 0)), (1, .int x1), (2, .int x2)]) hx hb dX11_let_33 rfl hl (by decide) rfl (fun ls hl => ?_)
  refine lv_aload_n hx hb dX11_let_34 rfl (lv_at hl 1 rfl) ?_
  refine g_get C hH 0 (Nat.le_of_ble_eq_true rfl) rfl fl_X11_35 (v := .ref (ad 4)) rfl dX11_let_35 ?_
  refine lv_iload_n hx hb dX11_let_38 rfl (lv_at hl 2 rfl) ?_
  obtain ⟨r_1, σ_2, hc_3, h⟩ := bdI_ex h
  refine g_ci (g_runV (rest := []) C hH hl.1 cV_X11_177 4 (Nat.le_of_ble_eq_true rfl) rfl rfl (kX7_ownerOf l D ad κ st_4 hc_3) ⟨rfl, rfl⟩ ⟨(Nat.le_of_ble_eq_true rfl), (Nat.le_of_ble_eq_true rfl)⟩ rfl rfl (Nat.le_of_ble_eq_true rfl) dX11_let_39 z00) hH (fun H locs hH => ?_)
  refine lv_iload_n hx hb dX11_let_42 rfl (lv_at hl 0 rfl) ?_
  refine lv_icmp_ne (tgt := 48) hx hb dX11_let_43 (by decide) (fun hq_4 => ?_) (fun hq_4 => ?_)
  · rw [if_neg hq_4] at h
    refine lv_aload_n hx hb dX11_let_48 rfl (lv_at hl 1 rfl) ?_
    refine g_get C hH 0 (Nat.le_of_ble_eq_true rfl) rfl fl_X11_45 (v := .ref (ad 6)) rfl dX11_let_49 ?_
    refine lv_aload_n hx hb dX11_let_52 rfl (lv_at hl 1 rfl) ?_
    refine g_get C hH 0 (Nat.le_of_ble_eq_true rfl) rfl fl_X11_35 (v := .ref (ad 4)) rfl dX11_let_53 ?_
    obtain ⟨σ_5, hc_6, h⟩ := bdV_ex h
    refine g_cv (g_runV (rest := []) C hH hl.1 cV_X11_184 6 (Nat.le_of_ble_eq_true rfl) rfl rfl (kX3_keep l D ad κ hc_6) ⟨rfl, rfl⟩ ⟨(Nat.le_of_ble_eq_true rfl), (Nat.le_of_ble_eq_true rfl)⟩ rfl rfl (Nat.le_of_ble_eq_true rfl) dX11_let_56 z00) hH (fun H locs hH => ?_)
    refine lv_aload_n hx hb dX11_let_59 rfl (lv_at hl 1 rfl) ?_
    refine g_get C hH 0 (Nat.le_of_ble_eq_true rfl) rfl fl_X11_35 (v := .ref (ad 4)) rfl dX11_let_60 ?_
    refine lv_iload_n hx hb dX11_let_63 rfl (lv_at hl 2 rfl) ?_
    refine lv_iload_n hx hb dX11_let_64 rfl (lv_at hl 0 rfl) ?_
    obtain ⟨σ_7, hc_8, h⟩ := bdV_ex h
    refine g_cv (g_runV (rest := []) C hH hl.1 cV_X11_192 4 (Nat.le_of_ble_eq_true rfl) rfl rfl (kX7_setOwner l D ad κ hc_8) ⟨rfl, rfl⟩ ⟨(Nat.le_of_ble_eq_true rfl), (Nat.le_of_ble_eq_true rfl)⟩ rfl rfl (Nat.le_of_ble_eq_true rfl) dX11_let_65 z00) hH (fun H locs hH => ?_)
    refine lv_iconst (v := 1) hx hb dX11_let_68 (by decide) ?_
    exact g_retZ C hH rfl h dX11_let_69
  · rw [if_pos hq_4] at h
    refine lv_iconst (v := 0) hx hb dX11_let_46 (by decide) ?_
    exact g_retZ C hH rfl h dX11_let_47
set_option maxHeartbeats 4000000 in
set_option maxRecDepth 100000 in
theorem wX11_let_22 (C : Cx 50 D ad κ p s m args meth c cX11_let RX11 4 (some .boolean)) {R : (Int32 × HS)} : ∀ (x1 : Int32) (x2 : Int32) (σ : HS) (H : Heap) (locs : List Loc) (ls : Array Slot), FX11_let_22  x1 x2 σ = some R → Hd 50 ceX D ad κ s σ H locs → lv_has ls 4 [(0, .ref (ad 0)), (1, .int x1), (2, .int x2)] → W p l e ({ frames := 2, cells := 0, slots := 0, locals := 47 } : Room) s m args below meth c H locs 0 0 (MQ below (QI 50 ceX D ad κ R) args s 0 0 (AX 50 ad)) (F0 m 22 ls []) := by
  have hx := C.1
  have hb := C.2.1
  have hown := C.2.2.2.1
  have hts := C.2.2.2.2.1
  intro x1 x2 σ H locs ls h hH hl
  rw [FX11_let_22] at h
  refine lv_iload_n hx hb dX11_let_22 rfl (lv_at hl 2 rfl) ?_
  refine lv_iconst (v := (-1)) hx hb dX11_let_23 (by decide) ?_
  refine lv_icmp_ne (tgt := 32) hx hb dX11_let_24 (by decide) (fun hq_9 => ?_) (fun hq_9 => ?_)
  · rw [if_neg hq_9] at h
    refine lv_iload_n hx hb dX11_let_32 rfl (lv_at hl 2 rfl) ?_
    exact wX11_let_33 C  _ _ _ _ _ _ _ h hH (lv_sub hl [0, 1, 2] rfl)
  · rw [if_pos hq_9] at h
    refine lv_bipush (v := (-2)) hx hb dX11_let_27 (by decide) ?_
    refine lv_goto (tgt := 33) hx hb dX11_let_29 (by decide) ?_
    exact wX11_let_33 C  _ _ _ _ _ _ _ h hH (lv_sub hl [0, 1, 2] rfl)
set_option maxHeartbeats 4000000 in
set_option maxRecDepth 100000 in
theorem kX11_let (l : Launch) (D : va_G) (ad : Nat → Nat) (κ : KC) {x1 : Int32} {x2 : Int32} {σ : HS} {R : (Int32 × HS)} (h : FX11_let x1 x2 σ = some R) : MtI l 50 ceX D ad κ yX11_let cX11_let 4 (some .boolean) ({ frames := 2, cells := 0, slots := 0, locals := 47 } : Room) [.ref (ad 0), .int x1, .int x2] σ R := by
  refine open_ (by decide) (Nat.le_of_ble_eq_true rfl) (la := [(0, .ref (ad 0)), (1, .int x1), (2, .int x2)]) rfl ?_
  intro p e s m below meth c ls C hH hl
  replace C : Cx 50 D ad κ p s m _ meth c cX11_let RX11 4 (some .boolean) := C
  have hx := C.1
  have hb := C.2.1
  have hown := C.2.2.2.1
  have hts := C.2.2.2.2.1
  rw [FX11_let] at h
  refine lv_iload_n hx hb dX11_let_0 rfl (lv_at hl 1 rfl) ?_
  obtain ⟨r_10, σ_11, hc_12, h⟩ := bdI_ex h
  refine g_ci (g_runS (rest := []) C hH hl.1 cS_X11_174 (kX11_isPart l D ad κ hc_12) ⟨rfl, rfl⟩ ⟨(Nat.le_of_ble_eq_true rfl), (Nat.le_of_ble_eq_true rfl)⟩ rfl rfl (Nat.le_of_ble_eq_true rfl) dX11_let_1 z00) hH (fun H locs hH => ?_)
  refine lv_if_eq (tgt := 20) hx hb dX11_let_4 (by decide) (fun hq_13 => ?_) (fun hq_13 => ?_)
  · rw [if_pos hq_13] at h
    refine lv_iconst (v := 0) hx hb dX11_let_20 (by decide) ?_
    exact g_retZ C hH rfl h dX11_let_21
  · rw [if_neg hq_13] at h
    refine lv_iload_n hx hb dX11_let_7 rfl (lv_at hl 2 rfl) ?_
    refine lv_iconst (v := (-1)) hx hb dX11_let_8 (by decide) ?_
    refine lv_icmp_eq (tgt := 22) hx hb dX11_let_9 (by decide) (fun hq_14 => ?_) (fun hq_14 => ?_)
    · rw [if_pos hq_14] at h
      exact wX11_let_22 C  _ _ _ _ _ _ h hH (lv_sub hl [0, 1, 2] rfl)
    · rw [if_neg hq_14] at h
      refine lv_aload_n hx hb dX11_let_12 rfl (lv_at hl 0 rfl) ?_
      refine lv_iload_n hx hb dX11_let_13 rfl (lv_at hl 2 rfl) ?_
      obtain ⟨r_15, σ_16, hc_17, h⟩ := bdI_ex h
      refine g_ci (g_runV (rest := []) C hH hl.1 cV_X11_149 0 (Nat.le_of_ble_eq_true rfl) rfl rfl (kX11_isFamily l D ad κ hc_17) ⟨rfl, rfl⟩ ⟨(Nat.le_of_ble_eq_true rfl), (Nat.le_of_ble_eq_true rfl)⟩ rfl rfl (Nat.le_of_ble_eq_true rfl) dX11_let_14 z00) hH (fun H locs hH => ?_)
      refine lv_if_ne (tgt := 22) hx hb dX11_let_17 (by decide) (fun hq_18 => ?_) (fun hq_18 => ?_)
      · rw [if_neg hq_18] at h
        exact wX11_let_22 C  _ _ _ _ _ _ h hH (lv_sub hl [0, 1, 2] rfl)
      · rw [if_pos hq_18] at h
        refine lv_iconst (v := 0) hx hb dX11_let_20 (by decide) ?_
        exact g_retZ C hH rfl h dX11_let_21
-- X11_give
def FX11_give_18  (x1 : Int32) (x2 : Int32) (y0 : Int32) (y1 : Int32) (σ : HS) : Option (Int32 × HS) :=
  hl_ (y0 + y1) fun x3_1 => bdI (FX11_within x3_1 (0 : Int32) (9 : Int32) σ) fun r_2 σ_3 => if r_2 = 0 then some ((0 : Int32), σ_3) else bdV (FX3_keep σ_3) fun σ_6 => gd (ix x1 33) (hl_ (pI σ_6 14 (x1.toNatClampNeg) x3_1) fun σ_9 => some ((1 : Int32), σ_9))
def FX11_give (x1 : Int32) (x2 : Int32) (σ : HS) : Option (Int32 × HS) :=
  gd (ix x1 33) (if x2 = 0 then FX11_give_18 x1 x2 (σ.1 14 (x1.toNatClampNeg)) (-1 : Int32) σ else FX11_give_18 x1 x2 (σ.1 14 (x1.toNatClampNeg)) (1 : Int32) σ)
set_option maxHeartbeats 4000000 in
set_option maxRecDepth 100000 in
theorem wX11_give_18 (C : Cx 50 D ad κ p s m args meth c cX11_give RX11 4 (some .boolean)) {R : (Int32 × HS)} : ∀ (x1 : Int32) (x2 : Int32) (y0 : Int32) (y1 : Int32) (σ : HS) (H : Heap) (locs : List Loc) (ls : Array Slot), FX11_give_18  x1 x2 y0 y1 σ = some R → Hd 50 ceX D ad κ s σ H locs → lv_has ls 4 [(0, .ref (ad 0)), (1, .int x1), (2, .int x2)] → W p l e ({ frames := 2, cells := 0, slots := 0, locals := 47 } : Room) s m args below meth c H locs 0 0 (MQ below (QI 50 ceX D ad κ R) args s 0 0 (AX 50 ad)) (F0 m 18 ls [.int y1, .int y0]) := by
  have hx := C.1
  have hb := C.2.1
  have hown := C.2.2.2.1
  have hts := C.2.2.2.2.1
  intro x1 x2 y0 y1 σ H locs ls h hH hl
  rw [FX11_give_18] at h
  refine lv_iadd hx hb dX11_give_18 ?_
  obtain ⟨x3_1, ex3_1, h⟩ := hl_ex h
  refine lv_eqi ex3_1 ?_
  refine lv_istore_n (lv' := [(3, .int x3_1), (0, .ref (ad 0)), (1, .int x1), (2, .int x2)]) hx hb dX11_give_19 rfl hl (by decide) rfl (fun ls hl => ?_)
  refine lv_iload_n hx hb dX11_give_20 rfl (lv_at hl 0 rfl) ?_
  refine lv_iconst (v := 0) hx hb dX11_give_21 (by decide) ?_
  refine lv_bipush (v := 9) hx hb dX11_give_22 (by decide) ?_
  obtain ⟨r_2, σ_3, hc_4, h⟩ := bdI_ex h
  refine g_ci (g_runS (rest := []) C hH hl.1 cS_X11_105 (kX11_within l D ad κ hc_4) ⟨rfl, rfl⟩ ⟨(Nat.le_of_ble_eq_true rfl), (Nat.le_of_ble_eq_true rfl)⟩ rfl rfl (Nat.le_of_ble_eq_true rfl) dX11_give_24 z00) hH (fun H locs hH => ?_)
  refine lv_if_ne (tgt := 32) hx hb dX11_give_27 (by decide) (fun hq_5 => ?_) (fun hq_5 => ?_)
  · rw [if_neg hq_5] at h
    refine lv_aload_n hx hb dX11_give_32 rfl (lv_at hl 1 rfl) ?_
    refine g_get C hH 0 (Nat.le_of_ble_eq_true rfl) rfl fl_X11_45 (v := .ref (ad 6)) rfl dX11_give_33 ?_
    refine lv_aload_n hx hb dX11_give_36 rfl (lv_at hl 1 rfl) ?_
    refine g_get C hH 0 (Nat.le_of_ble_eq_true rfl) rfl fl_X11_35 (v := .ref (ad 4)) rfl dX11_give_37 ?_
    obtain ⟨σ_6, hc_7, h⟩ := bdV_ex h
    refine g_cv (g_runV (rest := []) C hH hl.1 cV_X11_184 6 (Nat.le_of_ble_eq_true rfl) rfl rfl (kX3_keep l D ad κ hc_7) ⟨rfl, rfl⟩ ⟨(Nat.le_of_ble_eq_true rfl), (Nat.le_of_ble_eq_true rfl)⟩ rfl rfl (Nat.le_of_ble_eq_true rfl) dX11_give_40 z00) hH (fun H locs hH => ?_)
    refine lv_aload_n hx hb dX11_give_43 rfl (lv_at hl 1 rfl) ?_
    refine g_get C hH 0 (Nat.le_of_ble_eq_true rfl) rfl fl_X11_35 (v := .ref (ad 4)) rfl dX11_give_44 ?_
    refine g_get C hH 4 (Nat.le_of_ble_eq_true rfl) rfl fl_X11_203 (v := .ref (ad 14)) rfl dX11_give_47 ?_
    refine lv_iload_n hx hb dX11_give_50 rfl (lv_at hl 2 rfl) ?_
    refine lv_iload_n hx hb dX11_give_51 rfl (lv_at hl 0 rfl) ?_
    obtain ⟨hi_8, h⟩ := gd_ex h
    obtain ⟨σ_9, eσ_9, h⟩ := hl_ex h
    refine g_iast C hH 14 (Nat.le_of_ble_eq_true rfl) (fun _ _ => rfl) (k := (x1.toNatClampNeg)) rfl (ix_in hi_8) dX11_give_52 (fun H locs hH => ?_)
    rw [← eσ_9] at hH
    refine lv_iconst (v := 1) hx hb dX11_give_53 (by decide) ?_
    exact g_retZ C hH rfl h dX11_give_54
  · rw [if_pos hq_5] at h
    refine lv_iconst (v := 0) hx hb dX11_give_30 (by decide) ?_
    exact g_retZ C hH rfl h dX11_give_31
set_option maxHeartbeats 4000000 in
set_option maxRecDepth 100000 in
theorem kX11_give (l : Launch) (D : va_G) (ad : Nat → Nat) (κ : KC) {x1 : Int32} {x2 : Int32} {σ : HS} {R : (Int32 × HS)} (h : FX11_give x1 x2 σ = some R) : MtI l 50 ceX D ad κ yX11_give cX11_give 4 (some .boolean) ({ frames := 2, cells := 0, slots := 0, locals := 47 } : Room) [.ref (ad 0), .int x1, .int x2] σ R := by
  refine open_ (by decide) (Nat.le_of_ble_eq_true rfl) (la := [(0, .ref (ad 0)), (1, .int x1), (2, .int x2)]) rfl ?_
  intro p e s m below meth c ls C hH hl
  replace C : Cx 50 D ad κ p s m _ meth c cX11_give RX11 4 (some .boolean) := C
  have hx := C.1
  have hb := C.2.1
  have hown := C.2.2.2.1
  have hts := C.2.2.2.2.1
  rw [FX11_give] at h
  refine lv_aload_n hx hb dX11_give_0 rfl (lv_at hl 0 rfl) ?_
  refine g_get C hH 0 (Nat.le_of_ble_eq_true rfl) rfl fl_X11_35 (v := .ref (ad 4)) rfl dX11_give_1 ?_
  refine g_get C hH 4 (Nat.le_of_ble_eq_true rfl) rfl fl_X11_203 (v := .ref (ad 14)) rfl dX11_give_4 ?_
  refine lv_iload_n hx hb dX11_give_7 rfl (lv_at hl 1 rfl) ?_
  obtain ⟨hi_10, h⟩ := gd_ex h
  refine g_iald C hH 14 (Nat.le_of_ble_eq_true rfl) rfl (k := (x1.toNatClampNeg)) rfl (ix_in hi_10) dX11_give_8 ?_
  refine lv_iload_n hx hb dX11_give_9 rfl (lv_at hl 2 rfl) ?_
  refine lv_if_eq (tgt := 17) hx hb dX11_give_10 (by decide) (fun hq_11 => ?_) (fun hq_11 => ?_)
  · rw [if_pos hq_11] at h
    refine lv_iconst (v := (-1)) hx hb dX11_give_17 (by decide) ?_
    exact wX11_give_18 C  _ _ _ _ _ _ _ _ h hH (lv_sub hl [0, 1, 2] rfl)
  · rw [if_neg hq_11] at h
    refine lv_iconst (v := 1) hx hb dX11_give_13 (by decide) ?_
    refine lv_goto (tgt := 18) hx hb dX11_give_14 (by decide) ?_
    exact wX11_give_18 C  _ _ _ _ _ _ _ _ h hH (lv_sub hl [0, 1, 2] rfl)
-- X11_syrup
def FX11_syrup (x1 : Int32) (σ : HS) : Option (Int32 × HS) :=
  bdI (FX11_give (29 : Int32) x1 σ) fun r_1 σ_2 => gd (isB r_1) (some (r_1, σ_2))
set_option maxHeartbeats 4000000 in
set_option maxRecDepth 100000 in
theorem kX11_syrup (l : Launch) (D : va_G) (ad : Nat → Nat) (κ : KC) {x1 : Int32} {σ : HS} {R : (Int32 × HS)} (h : FX11_syrup x1 σ = some R) : MtI l 50 ceX D ad κ yX11_syrup cX11_syrup 2 (some .boolean) ({ frames := 3, cells := 0, slots := 0, locals := 70 } : Room) [.ref (ad 0), .int x1] σ R := by
  refine open_ (by decide) (Nat.le_of_ble_eq_true rfl) (la := [(0, .ref (ad 0)), (1, .int x1)]) rfl ?_
  intro p e s m below meth c ls C hH hl
  replace C : Cx 50 D ad κ p s m _ meth c cX11_syrup RX11 2 (some .boolean) := C
  have hx := C.1
  have hb := C.2.1
  have hown := C.2.2.2.1
  have hts := C.2.2.2.2.1
  rw [FX11_syrup] at h
  refine lv_aload_n hx hb dX11_syrup_0 rfl (lv_at hl 0 rfl) ?_
  refine lv_bipush (v := 29) hx hb dX11_syrup_1 (by decide) ?_
  refine lv_iload_n hx hb dX11_syrup_3 rfl (lv_at hl 1 rfl) ?_
  obtain ⟨r_1, σ_2, hc_3, h⟩ := bdI_ex h
  refine g_ci (g_runV (rest := []) C hH hl.1 cV_X11_195 0 (Nat.le_of_ble_eq_true rfl) rfl rfl (kX11_give l D ad κ hc_3) ⟨rfl, rfl⟩ ⟨(Nat.le_of_ble_eq_true rfl), (Nat.le_of_ble_eq_true rfl)⟩ rfl rfl (Nat.le_of_ble_eq_true rfl) dX11_syrup_4 z00) hH (fun H locs hH => ?_)
  obtain ⟨hb_4, h⟩ := gd_ex h
  exact g_retZ C hH hb_4 h dX11_syrup_7
-- X11_dust
def FX11_dust (x1 : Int32) (σ : HS) : Option (Int32 × HS) :=
  bdI (FX11_give (28 : Int32) x1 σ) fun r_1 σ_2 => gd (isB r_1) (some (r_1, σ_2))
set_option maxHeartbeats 4000000 in
set_option maxRecDepth 100000 in
theorem kX11_dust (l : Launch) (D : va_G) (ad : Nat → Nat) (κ : KC) {x1 : Int32} {σ : HS} {R : (Int32 × HS)} (h : FX11_dust x1 σ = some R) : MtI l 50 ceX D ad κ yX11_dust cX11_dust 2 (some .boolean) ({ frames := 3, cells := 0, slots := 0, locals := 70 } : Room) [.ref (ad 0), .int x1] σ R := by
  refine open_ (by decide) (Nat.le_of_ble_eq_true rfl) (la := [(0, .ref (ad 0)), (1, .int x1)]) rfl ?_
  intro p e s m below meth c ls C hH hl
  replace C : Cx 50 D ad κ p s m _ meth c cX11_dust RX11 2 (some .boolean) := C
  have hx := C.1
  have hb := C.2.1
  have hown := C.2.2.2.1
  have hts := C.2.2.2.2.1
  rw [FX11_dust] at h
  refine lv_aload_n hx hb dX11_dust_0 rfl (lv_at hl 0 rfl) ?_
  refine lv_bipush (v := 28) hx hb dX11_dust_1 (by decide) ?_
  refine lv_iload_n hx hb dX11_dust_3 rfl (lv_at hl 1 rfl) ?_
  obtain ⟨r_1, σ_2, hc_3, h⟩ := bdI_ex h
  refine g_ci (g_runV (rest := []) C hH hl.1 cV_X11_195 0 (Nat.le_of_ble_eq_true rfl) rfl rfl (kX11_give l D ad κ hc_3) ⟨rfl, rfl⟩ ⟨(Nat.le_of_ble_eq_true rfl), (Nat.le_of_ble_eq_true rfl)⟩ rfl rfl (Nat.le_of_ble_eq_true rfl) dX11_dust_4 z00) hH (fun H locs hH => ?_)
  obtain ⟨hb_4, h⟩ := gd_ex h
  exact g_retZ C hH hb_4 h dX11_dust_7
-- X11_weeks
def FX11_weeks (x1 : Int32) (σ : HS) : Option (Int32 × HS) :=
  bdI (FX11_within x1 (0 : Int32) (40 : Int32) σ) fun r_1 σ_2 => if r_1 = 0 then some ((-1 : Int32), σ_2) else if x1 ≤ 0 then some ((σ_2.1 14 30), σ_2) else bdV (FX3_keep σ_2) fun σ_6 => bdV (FX4_preachWeeks 4 x1 (σ_6.1 3 4) σ_6) fun σ_8 => some ((σ_8.1 14 30), σ_8)
set_option maxHeartbeats 4000000 in
set_option maxRecDepth 100000 in
theorem kX11_weeks (l : Launch) (D : va_G) (ad : Nat → Nat) (κ : KC) {x1 : Int32} {σ : HS} {R : (Int32 × HS)} (h : FX11_weeks x1 σ = some R) : MtI l 50 ceX D ad κ yX11_weeks cX11_weeks 2 (some .int) ({ frames := 5, cells := 0, slots := 0, locals := 126 } : Room) [.ref (ad 0), .int x1] σ R := by
  refine open_ (by decide) (Nat.le_of_ble_eq_true rfl) (la := [(0, .ref (ad 0)), (1, .int x1)]) rfl ?_
  intro p e s m below meth c ls C hH hl
  replace C : Cx 50 D ad κ p s m _ meth c cX11_weeks RX11 2 (some .int) := C
  have hx := C.1
  have hb := C.2.1
  have hown := C.2.2.2.1
  have hts := C.2.2.2.2.1
  rw [FX11_weeks] at h
  refine lv_iload_n hx hb dX11_weeks_0 rfl (lv_at hl 1 rfl) ?_
  refine lv_iconst (v := 0) hx hb dX11_weeks_1 (by decide) ?_
  refine lv_bipush (v := 40) hx hb dX11_weeks_2 (by decide) ?_
  obtain ⟨r_1, σ_2, hc_3, h⟩ := bdI_ex h
  refine g_ci (g_runS (rest := []) C hH hl.1 cS_X11_105 (kX11_within l D ad κ hc_3) ⟨rfl, rfl⟩ ⟨(Nat.le_of_ble_eq_true rfl), (Nat.le_of_ble_eq_true rfl)⟩ rfl rfl (Nat.le_of_ble_eq_true rfl) dX11_weeks_4 z00) hH (fun H locs hH => ?_)
  refine lv_if_ne (tgt := 12) hx hb dX11_weeks_7 (by decide) (fun hq_4 => ?_) (fun hq_4 => ?_)
  · rw [if_neg hq_4] at h
    refine lv_iload_n hx hb dX11_weeks_12 rfl (lv_at hl 1 rfl) ?_
    refine lv_if_le (tgt := 46) hx hb dX11_weeks_13 (by decide) (fun hq_5 => ?_) (fun hq_5 => ?_)
    · rw [if_pos hq_5] at h
      refine lv_aload_n hx hb dX11_weeks_46 rfl (lv_at hl 0 rfl) ?_
      refine g_get C hH 0 (Nat.le_of_ble_eq_true rfl) rfl fl_X11_35 (v := .ref (ad 4)) rfl dX11_weeks_47 ?_
      refine g_get C hH 4 (Nat.le_of_ble_eq_true rfl) rfl fl_X11_203 (v := .ref (ad 14)) rfl dX11_weeks_50 ?_
      refine lv_bipush (v := 30) hx hb dX11_weeks_53 (by decide) ?_
      refine g_iald C hH 14 (Nat.le_of_ble_eq_true rfl) rfl (k := 30) (by decide) (ix_in rfl) dX11_weeks_55 ?_
      exact g_ret C hH h dX11_weeks_56
    · rw [if_neg hq_5] at h
      refine lv_aload_n hx hb dX11_weeks_16 rfl (lv_at hl 0 rfl) ?_
      refine g_get C hH 0 (Nat.le_of_ble_eq_true rfl) rfl fl_X11_45 (v := .ref (ad 6)) rfl dX11_weeks_17 ?_
      refine lv_aload_n hx hb dX11_weeks_20 rfl (lv_at hl 0 rfl) ?_
      refine g_get C hH 0 (Nat.le_of_ble_eq_true rfl) rfl fl_X11_35 (v := .ref (ad 4)) rfl dX11_weeks_21 ?_
      obtain ⟨σ_6, hc_7, h⟩ := bdV_ex h
      refine g_cv (g_runV (rest := []) C hH hl.1 cV_X11_184 6 (Nat.le_of_ble_eq_true rfl) rfl rfl (kX3_keep l D ad κ hc_7) ⟨rfl, rfl⟩ ⟨(Nat.le_of_ble_eq_true rfl), (Nat.le_of_ble_eq_true rfl)⟩ rfl rfl (Nat.le_of_ble_eq_true rfl) dX11_weeks_24 z00) hH (fun H locs hH => ?_)
      refine lv_aload_n hx hb dX11_weeks_27 rfl (lv_at hl 0 rfl) ?_
      refine g_get C hH 0 (Nat.le_of_ble_eq_true rfl) rfl fl_X11_70 (v := .ref (ad 9)) rfl dX11_weeks_28 ?_
      refine lv_aload_n hx hb dX11_weeks_31 rfl (lv_at hl 0 rfl) ?_
      refine g_get C hH 0 (Nat.le_of_ble_eq_true rfl) rfl fl_X11_35 (v := .ref (ad 4)) rfl dX11_weeks_32 ?_
      refine lv_iload_n hx hb dX11_weeks_35 rfl (lv_at hl 1 rfl) ?_
      refine lv_aload_n hx hb dX11_weeks_36 rfl (lv_at hl 0 rfl) ?_
      refine g_get C hH 0 (Nat.le_of_ble_eq_true rfl) rfl fl_X11_28 (v := .ref (ad 3)) rfl dX11_weeks_37 ?_
      refine g_get C hH 3 (Nat.le_of_ble_eq_true rfl) rfl fl_X11_142 (v := .int (σ_6.1 3 4)) rfl dX11_weeks_40 ?_
      obtain ⟨σ_8, hc_9, h⟩ := bdV_ex h
      refine g_cv (g_runV (rest := []) C hH hl.1 cV_X11_199 9 (Nat.le_of_ble_eq_true rfl) rfl rfl (kX4_preachWeeks l D ad κ st_4 hc_9) ⟨rfl, rfl⟩ ⟨(Nat.le_of_ble_eq_true rfl), (Nat.le_of_ble_eq_true rfl)⟩ rfl rfl (Nat.le_of_ble_eq_true rfl) dX11_weeks_43 z00) hH (fun H locs hH => ?_)
      refine lv_aload_n hx hb dX11_weeks_46 rfl (lv_at hl 0 rfl) ?_
      refine g_get C hH 0 (Nat.le_of_ble_eq_true rfl) rfl fl_X11_35 (v := .ref (ad 4)) rfl dX11_weeks_47 ?_
      refine g_get C hH 4 (Nat.le_of_ble_eq_true rfl) rfl fl_X11_203 (v := .ref (ad 14)) rfl dX11_weeks_50 ?_
      refine lv_bipush (v := 30) hx hb dX11_weeks_53 (by decide) ?_
      refine g_iald C hH 14 (Nat.le_of_ble_eq_true rfl) rfl (k := 30) (by decide) (ix_in rfl) dX11_weeks_55 ?_
      exact g_ret C hH h dX11_weeks_56
  · rw [if_pos hq_4] at h
    refine lv_iconst (v := (-1)) hx hb dX11_weeks_10 (by decide) ?_
    exact g_ret C hH h dX11_weeks_11
-- X11_undo
def FX11_undo (σ : HS) : Option (Int32 × HS) :=
  bdI (FX3_takeBack σ) fun r_1 σ_2 => gd (isB r_1) (some (r_1, σ_2))
set_option maxHeartbeats 4000000 in
set_option maxRecDepth 100000 in
theorem kX11_undo (l : Launch) (D : va_G) (ad : Nat → Nat) (κ : KC) {σ : HS} {R : (Int32 × HS)} (h : FX11_undo σ = some R) : MtI l 50 ceX D ad κ yX11_undo cX11_undo 1 (some .boolean) ({ frames := 2, cells := 0, slots := 0, locals := 47 } : Room) [.ref (ad 0)] σ R := by
  refine open_ (by decide) (Nat.le_of_ble_eq_true rfl) (la := [(0, .ref (ad 0))]) rfl ?_
  intro p e s m below meth c ls C hH hl
  replace C : Cx 50 D ad κ p s m _ meth c cX11_undo RX11 1 (some .boolean) := C
  have hx := C.1
  have hb := C.2.1
  have hown := C.2.2.2.1
  have hts := C.2.2.2.2.1
  rw [FX11_undo] at h
  refine lv_aload_n hx hb dX11_undo_0 rfl (lv_at hl 0 rfl) ?_
  refine g_get C hH 0 (Nat.le_of_ble_eq_true rfl) rfl fl_X11_45 (v := .ref (ad 6)) rfl dX11_undo_1 ?_
  refine lv_aload_n hx hb dX11_undo_4 rfl (lv_at hl 0 rfl) ?_
  refine g_get C hH 0 (Nat.le_of_ble_eq_true rfl) rfl fl_X11_35 (v := .ref (ad 4)) rfl dX11_undo_5 ?_
  obtain ⟨r_1, σ_2, hc_3, h⟩ := bdI_ex h
  refine g_ci (g_runV (rest := []) C hH hl.1 cV_X11_206 6 (Nat.le_of_ble_eq_true rfl) rfl rfl (kX3_takeBack l D ad κ hc_3) ⟨rfl, rfl⟩ ⟨(Nat.le_of_ble_eq_true rfl), (Nat.le_of_ble_eq_true rfl)⟩ rfl rfl (Nat.le_of_ble_eq_true rfl) dX11_undo_8 z00) hH (fun H locs hH => ?_)
  obtain ⟨hb_4, h⟩ := gd_ex h
  exact g_retZ C hH hb_4 h dX11_undo_11
-- X11_odds
def FX11_odds (x1 : Int32) (σ : HS) : Option (Int32 × HS) :=
  bdI (FX11_within x1 (0 : Int32) (8 : Int32) σ) fun r_1 σ_2 => if r_1 = 0 then some ((-1 : Int32), σ_2) else bdV (FX0_weigh 4 σ_2) fun σ_5 => bdI (FX0_casesOfParts x1 σ_5) fun r_7 σ_8 => some (r_7, σ_8)
set_option maxHeartbeats 4000000 in
set_option maxRecDepth 100000 in
theorem kX11_odds (l : Launch) (D : va_G) (ad : Nat → Nat) (κ : KC) {x1 : Int32} {σ : HS} {R : (Int32 × HS)} (h : FX11_odds x1 σ = some R) : MtI l 50 ceX D ad κ yX11_odds cX11_odds 2 (some .int) ({ frames := 3, cells := 0, slots := 0, locals := 72 } : Room) [.ref (ad 0), .int x1] σ R := by
  refine open_ (by decide) (Nat.le_of_ble_eq_true rfl) (la := [(0, .ref (ad 0)), (1, .int x1)]) rfl ?_
  intro p e s m below meth c ls C hH hl
  replace C : Cx 50 D ad κ p s m _ meth c cX11_odds RX11 2 (some .int) := C
  have hx := C.1
  have hb := C.2.1
  have hown := C.2.2.2.1
  have hts := C.2.2.2.2.1
  rw [FX11_odds] at h
  refine lv_iload_n hx hb dX11_odds_0 rfl (lv_at hl 1 rfl) ?_
  refine lv_iconst (v := 0) hx hb dX11_odds_1 (by decide) ?_
  refine lv_bipush (v := 8) hx hb dX11_odds_2 (by decide) ?_
  obtain ⟨r_1, σ_2, hc_3, h⟩ := bdI_ex h
  refine g_ci (g_runS (rest := []) C hH hl.1 cS_X11_105 (kX11_within l D ad κ hc_3) ⟨rfl, rfl⟩ ⟨(Nat.le_of_ble_eq_true rfl), (Nat.le_of_ble_eq_true rfl)⟩ rfl rfl (Nat.le_of_ble_eq_true rfl) dX11_odds_4 z00) hH (fun H locs hH => ?_)
  refine lv_if_ne (tgt := 12) hx hb dX11_odds_7 (by decide) (fun hq_4 => ?_) (fun hq_4 => ?_)
  · rw [if_neg hq_4] at h
    refine lv_aload_n hx hb dX11_odds_12 rfl (lv_at hl 0 rfl) ?_
    refine g_get C hH 0 (Nat.le_of_ble_eq_true rfl) rfl fl_X11_63 (v := .ref (ad 8)) rfl dX11_odds_13 ?_
    refine lv_aload_n hx hb dX11_odds_16 rfl (lv_at hl 0 rfl) ?_
    refine g_get C hH 0 (Nat.le_of_ble_eq_true rfl) rfl fl_X11_35 (v := .ref (ad 4)) rfl dX11_odds_17 ?_
    obtain ⟨σ_5, hc_6, h⟩ := bdV_ex h
    refine g_cv (g_runV (rest := []) C hH hl.1 cV_X11_210 8 (Nat.le_of_ble_eq_true rfl) rfl rfl (kX0_weigh l D ad κ st_4 hc_6) ⟨rfl, rfl⟩ ⟨(Nat.le_of_ble_eq_true rfl), (Nat.le_of_ble_eq_true rfl)⟩ rfl rfl (Nat.le_of_ble_eq_true rfl) dX11_odds_20 z00) hH (fun H locs hH => ?_)
    refine lv_aload_n hx hb dX11_odds_23 rfl (lv_at hl 0 rfl) ?_
    refine g_get C hH 0 (Nat.le_of_ble_eq_true rfl) rfl fl_X11_63 (v := .ref (ad 8)) rfl dX11_odds_24 ?_
    refine lv_iload_n hx hb dX11_odds_27 rfl (lv_at hl 1 rfl) ?_
    obtain ⟨r_7, σ_8, hc_9, h⟩ := bdI_ex h
    refine g_ci (g_runV (rest := []) C hH hl.1 cV_X11_213 8 (Nat.le_of_ble_eq_true rfl) rfl rfl (kX0_casesOfParts l D ad κ hc_9) ⟨rfl, rfl⟩ ⟨(Nat.le_of_ble_eq_true rfl), (Nat.le_of_ble_eq_true rfl)⟩ rfl rfl (Nat.le_of_ble_eq_true rfl) dX11_odds_28 z00) hH (fun H locs hH => ?_)
    exact g_ret C hH h dX11_odds_31
  · rw [if_pos hq_4] at h
    refine lv_iconst (v := (-1)) hx hb dX11_odds_10 (by decide) ?_
    exact g_ret C hH h dX11_odds_11
-- X11_falls
def FX11_falls (x1 : Int32) (x2 : Int32) (σ : HS) : Option (Int32 × HS) :=
  bdI (FX11_isMinute x1 σ) fun r_1 σ_2 => if r_1 = 0 then some ((-1 : Int32), σ_2) else bdI (FX11_isPart x2 σ_2) fun r_5 σ_6 => if r_5 = 0 then some ((-1 : Int32), σ_6) else bdV (FX0_weigh 4 σ_6) fun σ_9 => bdI (FX0_casesIn x1 x2 σ_9) fun r_11 σ_12 => some (r_11, σ_12)
set_option maxHeartbeats 4000000 in
set_option maxRecDepth 100000 in
theorem kX11_falls (l : Launch) (D : va_G) (ad : Nat → Nat) (κ : KC) {x1 : Int32} {x2 : Int32} {σ : HS} {R : (Int32 × HS)} (h : FX11_falls x1 x2 σ = some R) : MtI l 50 ceX D ad κ yX11_falls cX11_falls 3 (some .int) ({ frames := 3, cells := 0, slots := 0, locals := 72 } : Room) [.ref (ad 0), .int x1, .int x2] σ R := by
  refine open_ (by decide) (Nat.le_of_ble_eq_true rfl) (la := [(0, .ref (ad 0)), (1, .int x1), (2, .int x2)]) rfl ?_
  intro p e s m below meth c ls C hH hl
  replace C : Cx 50 D ad κ p s m _ meth c cX11_falls RX11 3 (some .int) := C
  have hx := C.1
  have hb := C.2.1
  have hown := C.2.2.2.1
  have hts := C.2.2.2.2.1
  rw [FX11_falls] at h
  refine lv_aload_n hx hb dX11_falls_0 rfl (lv_at hl 0 rfl) ?_
  refine lv_iload_n hx hb dX11_falls_1 rfl (lv_at hl 1 rfl) ?_
  obtain ⟨r_1, σ_2, hc_3, h⟩ := bdI_ex h
  refine g_ci (g_runV (rest := []) C hH hl.1 cV_X11_131 0 (Nat.le_of_ble_eq_true rfl) rfl rfl (kX11_isMinute l D ad κ hc_3) ⟨rfl, rfl⟩ ⟨(Nat.le_of_ble_eq_true rfl), (Nat.le_of_ble_eq_true rfl)⟩ rfl rfl (Nat.le_of_ble_eq_true rfl) dX11_falls_2 z00) hH (fun H locs hH => ?_)
  refine lv_if_eq (tgt := 15) hx hb dX11_falls_5 (by decide) (fun hq_4 => ?_) (fun hq_4 => ?_)
  · rw [if_pos hq_4] at h
    refine lv_iconst (v := (-1)) hx hb dX11_falls_15 (by decide) ?_
    exact g_ret C hH h dX11_falls_16
  · rw [if_neg hq_4] at h
    refine lv_iload_n hx hb dX11_falls_8 rfl (lv_at hl 2 rfl) ?_
    obtain ⟨r_5, σ_6, hc_7, h⟩ := bdI_ex h
    refine g_ci (g_runS (rest := []) C hH hl.1 cS_X11_174 (kX11_isPart l D ad κ hc_7) ⟨rfl, rfl⟩ ⟨(Nat.le_of_ble_eq_true rfl), (Nat.le_of_ble_eq_true rfl)⟩ rfl rfl (Nat.le_of_ble_eq_true rfl) dX11_falls_9 z00) hH (fun H locs hH => ?_)
    refine lv_if_ne (tgt := 17) hx hb dX11_falls_12 (by decide) (fun hq_8 => ?_) (fun hq_8 => ?_)
    · rw [if_neg hq_8] at h
      refine lv_aload_n hx hb dX11_falls_17 rfl (lv_at hl 0 rfl) ?_
      refine g_get C hH 0 (Nat.le_of_ble_eq_true rfl) rfl fl_X11_63 (v := .ref (ad 8)) rfl dX11_falls_18 ?_
      refine lv_aload_n hx hb dX11_falls_21 rfl (lv_at hl 0 rfl) ?_
      refine g_get C hH 0 (Nat.le_of_ble_eq_true rfl) rfl fl_X11_35 (v := .ref (ad 4)) rfl dX11_falls_22 ?_
      obtain ⟨σ_9, hc_10, h⟩ := bdV_ex h
      refine g_cv (g_runV (rest := []) C hH hl.1 cV_X11_210 8 (Nat.le_of_ble_eq_true rfl) rfl rfl (kX0_weigh l D ad κ st_4 hc_10) ⟨rfl, rfl⟩ ⟨(Nat.le_of_ble_eq_true rfl), (Nat.le_of_ble_eq_true rfl)⟩ rfl rfl (Nat.le_of_ble_eq_true rfl) dX11_falls_25 z00) hH (fun H locs hH => ?_)
      refine lv_aload_n hx hb dX11_falls_28 rfl (lv_at hl 0 rfl) ?_
      refine g_get C hH 0 (Nat.le_of_ble_eq_true rfl) rfl fl_X11_63 (v := .ref (ad 8)) rfl dX11_falls_29 ?_
      refine lv_iload_n hx hb dX11_falls_32 rfl (lv_at hl 1 rfl) ?_
      refine lv_iload_n hx hb dX11_falls_33 rfl (lv_at hl 2 rfl) ?_
      obtain ⟨r_11, σ_12, hc_13, h⟩ := bdI_ex h
      refine g_ci (g_runV (rest := []) C hH hl.1 cV_X11_216 8 (Nat.le_of_ble_eq_true rfl) rfl rfl (kX0_casesIn l D ad κ hc_13) ⟨rfl, rfl⟩ ⟨(Nat.le_of_ble_eq_true rfl), (Nat.le_of_ble_eq_true rfl)⟩ rfl rfl (Nat.le_of_ble_eq_true rfl) dX11_falls_34 z00) hH (fun H locs hH => ?_)
      exact g_ret C hH h dX11_falls_37
    · rw [if_pos hq_8] at h
      refine lv_iconst (v := (-1)) hx hb dX11_falls_15 (by decide) ?_
      exact g_ret C hH h dX11_falls_16
-- X11_value
def FX11_value (x1 : Int32) (x2 : Int32) (σ : HS) : Option (Int32 × HS) :=
  bdI (FX11_isFamily x1 σ) fun r_1 σ_2 => if r_1 = 0 then some ((-1 : Int32), σ_2) else bdI (FX11_isPart x2 σ_2) fun r_5 σ_6 => if r_5 = 0 then some ((-1 : Int32), σ_6) else bdV (FX0_weigh 4 σ_6) fun σ_9 => bdI (FX0_valueOf 4 x1 ((1 : Int32) <<< (x2 &&& 31)) σ_9) fun r_11 σ_12 => some (r_11, σ_12)
set_option maxHeartbeats 4000000 in
set_option maxRecDepth 100000 in
theorem kX11_value (l : Launch) (D : va_G) (ad : Nat → Nat) (κ : KC) {x1 : Int32} {x2 : Int32} {σ : HS} {R : (Int32 × HS)} (h : FX11_value x1 x2 σ = some R) : MtI l 50 ceX D ad κ yX11_value cX11_value 3 (some .int) ({ frames := 3, cells := 0, slots := 0, locals := 79 } : Room) [.ref (ad 0), .int x1, .int x2] σ R := by
  refine open_ (by decide) (Nat.le_of_ble_eq_true rfl) (la := [(0, .ref (ad 0)), (1, .int x1), (2, .int x2)]) rfl ?_
  intro p e s m below meth c ls C hH hl
  replace C : Cx 50 D ad κ p s m _ meth c cX11_value RX11 3 (some .int) := C
  have hx := C.1
  have hb := C.2.1
  have hown := C.2.2.2.1
  have hts := C.2.2.2.2.1
  rw [FX11_value] at h
  refine lv_aload_n hx hb dX11_value_0 rfl (lv_at hl 0 rfl) ?_
  refine lv_iload_n hx hb dX11_value_1 rfl (lv_at hl 1 rfl) ?_
  obtain ⟨r_1, σ_2, hc_3, h⟩ := bdI_ex h
  refine g_ci (g_runV (rest := []) C hH hl.1 cV_X11_149 0 (Nat.le_of_ble_eq_true rfl) rfl rfl (kX11_isFamily l D ad κ hc_3) ⟨rfl, rfl⟩ ⟨(Nat.le_of_ble_eq_true rfl), (Nat.le_of_ble_eq_true rfl)⟩ rfl rfl (Nat.le_of_ble_eq_true rfl) dX11_value_2 z00) hH (fun H locs hH => ?_)
  refine lv_if_eq (tgt := 15) hx hb dX11_value_5 (by decide) (fun hq_4 => ?_) (fun hq_4 => ?_)
  · rw [if_pos hq_4] at h
    refine lv_iconst (v := (-1)) hx hb dX11_value_15 (by decide) ?_
    exact g_ret C hH h dX11_value_16
  · rw [if_neg hq_4] at h
    refine lv_iload_n hx hb dX11_value_8 rfl (lv_at hl 2 rfl) ?_
    obtain ⟨r_5, σ_6, hc_7, h⟩ := bdI_ex h
    refine g_ci (g_runS (rest := []) C hH hl.1 cS_X11_174 (kX11_isPart l D ad κ hc_7) ⟨rfl, rfl⟩ ⟨(Nat.le_of_ble_eq_true rfl), (Nat.le_of_ble_eq_true rfl)⟩ rfl rfl (Nat.le_of_ble_eq_true rfl) dX11_value_9 z00) hH (fun H locs hH => ?_)
    refine lv_if_ne (tgt := 17) hx hb dX11_value_12 (by decide) (fun hq_8 => ?_) (fun hq_8 => ?_)
    · rw [if_neg hq_8] at h
      refine lv_aload_n hx hb dX11_value_17 rfl (lv_at hl 0 rfl) ?_
      refine g_get C hH 0 (Nat.le_of_ble_eq_true rfl) rfl fl_X11_63 (v := .ref (ad 8)) rfl dX11_value_18 ?_
      refine lv_aload_n hx hb dX11_value_21 rfl (lv_at hl 0 rfl) ?_
      refine g_get C hH 0 (Nat.le_of_ble_eq_true rfl) rfl fl_X11_35 (v := .ref (ad 4)) rfl dX11_value_22 ?_
      obtain ⟨σ_9, hc_10, h⟩ := bdV_ex h
      refine g_cv (g_runV (rest := []) C hH hl.1 cV_X11_210 8 (Nat.le_of_ble_eq_true rfl) rfl rfl (kX0_weigh l D ad κ st_4 hc_10) ⟨rfl, rfl⟩ ⟨(Nat.le_of_ble_eq_true rfl), (Nat.le_of_ble_eq_true rfl)⟩ rfl rfl (Nat.le_of_ble_eq_true rfl) dX11_value_25 z00) hH (fun H locs hH => ?_)
      refine lv_aload_n hx hb dX11_value_28 rfl (lv_at hl 0 rfl) ?_
      refine g_get C hH 0 (Nat.le_of_ble_eq_true rfl) rfl fl_X11_63 (v := .ref (ad 8)) rfl dX11_value_29 ?_
      refine lv_aload_n hx hb dX11_value_32 rfl (lv_at hl 0 rfl) ?_
      refine g_get C hH 0 (Nat.le_of_ble_eq_true rfl) rfl fl_X11_35 (v := .ref (ad 4)) rfl dX11_value_33 ?_
      refine lv_iload_n hx hb dX11_value_36 rfl (lv_at hl 1 rfl) ?_
      refine lv_iconst (v := 1) hx hb dX11_value_37 (by decide) ?_
      refine lv_iload_n hx hb dX11_value_38 rfl (lv_at hl 2 rfl) ?_
      refine lv_ishl hx hb dX11_value_39 ?_
      obtain ⟨r_11, σ_12, hc_13, h⟩ := bdI_ex h
      refine g_ci (g_runV (rest := []) C hH hl.1 cV_X11_220 8 (Nat.le_of_ble_eq_true rfl) rfl rfl (kX0_valueOf l D ad κ st_4 hc_13) ⟨rfl, rfl⟩ ⟨(Nat.le_of_ble_eq_true rfl), (Nat.le_of_ble_eq_true rfl)⟩ rfl rfl (Nat.le_of_ble_eq_true rfl) dX11_value_40 z00) hH (fun H locs hH => ?_)
      exact g_ret C hH h dX11_value_43
    · rw [if_pos hq_8] at h
      refine lv_iconst (v := (-1)) hx hb dX11_value_15 (by decide) ?_
      exact g_ret C hH h dX11_value_16
-- X11_haveIn
def FX11_haveIn (st : Nat) (x2 : Int32) (σ : HS) : Option (Int32 × HS) :=
  bdV (FX0_weigh st σ) fun σ_1 => bdI (FX7_partsOf st x2 σ_1) fun r_3 σ_4 => bdI (FX0_valueOf st x2 r_3 σ_4) fun r_6 σ_7 => some (r_6, σ_7)
set_option maxHeartbeats 4000000 in
set_option maxRecDepth 100000 in
theorem kX11_haveIn (l : Launch) (D : va_G) (ad : Nat → Nat) (κ : KC) {st : Nat} (hst : isSt st) {x2 : Int32} {σ : HS} {R : (Int32 × HS)} (h : FX11_haveIn st x2 σ = some R) : MtI l 50 ceX D ad κ yX11_haveIn cX11_haveIn 3 (some .int) ({ frames := 3, cells := 0, slots := 0, locals := 79 } : Room) [.ref (ad 0), .ref (ad st), .int x2] σ R := by
  refine open_ (by decide) (Nat.le_of_ble_eq_true rfl) (la := [(0, .ref (ad 0)), (1, .ref (ad st)), (2, .int x2)]) rfl ?_
  intro p e s m below meth c ls C hH hl
  replace C : Cx 50 D ad κ p s m _ meth c cX11_haveIn RX11 3 (some .int) := C
  have hx := C.1
  have hb := C.2.1
  have hown := C.2.2.2.1
  have hts := C.2.2.2.2.1
  rw [FX11_haveIn] at h
  refine lv_aload_n hx hb dX11_haveIn_0 rfl (lv_at hl 0 rfl) ?_
  refine g_get C hH 0 (Nat.le_of_ble_eq_true rfl) rfl fl_X11_63 (v := .ref (ad 8)) rfl dX11_haveIn_1 ?_
  refine lv_aload_n hx hb dX11_haveIn_4 rfl (lv_at hl 1 rfl) ?_
  obtain ⟨σ_1, hc_2, h⟩ := bdV_ex h
  refine g_cv (g_runV (rest := []) C hH hl.1 cV_X11_210 8 (Nat.le_of_ble_eq_true rfl) rfl rfl (kX0_weigh l D ad κ hst hc_2) ⟨rfl, rfl⟩ ⟨(Nat.le_of_ble_eq_true rfl), (Nat.le_of_ble_eq_true rfl)⟩ rfl rfl (Nat.le_of_ble_eq_true rfl) dX11_haveIn_5 z00) hH (fun H locs hH => ?_)
  refine lv_aload_n hx hb dX11_haveIn_8 rfl (lv_at hl 0 rfl) ?_
  refine g_get C hH 0 (Nat.le_of_ble_eq_true rfl) rfl fl_X11_63 (v := .ref (ad 8)) rfl dX11_haveIn_9 ?_
  refine lv_aload_n hx hb dX11_haveIn_12 rfl (lv_at hl 1 rfl) ?_
  refine lv_iload_n hx hb dX11_haveIn_13 rfl (lv_at hl 2 rfl) ?_
  refine lv_aload_n hx hb dX11_haveIn_14 rfl (lv_at hl 1 rfl) ?_
  refine lv_iload_n hx hb dX11_haveIn_15 rfl (lv_at hl 2 rfl) ?_
  obtain ⟨r_3, σ_4, hc_5, h⟩ := bdI_ex h
  refine g_ci (g_runV (rest := [.int x2, .ref (ad st), .ref (ad 8)]) C hH hl.1 cV_X11_159 st (st_lt hst) (st_ce hst) rfl (kX7_partsOf l D ad κ hst hc_5) ⟨rfl, rfl⟩ ⟨(Nat.le_of_ble_eq_true rfl), (Nat.le_of_ble_eq_true rfl)⟩ rfl rfl (Nat.le_of_ble_eq_true rfl) dX11_haveIn_16 z00) hH (fun H locs hH => ?_)
  obtain ⟨r_6, σ_7, hc_8, h⟩ := bdI_ex h
  refine g_ci (g_runV (rest := []) C hH hl.1 cV_X11_220 8 (Nat.le_of_ble_eq_true rfl) rfl rfl (kX0_valueOf l D ad κ hst hc_8) ⟨rfl, rfl⟩ ⟨(Nat.le_of_ble_eq_true rfl), (Nat.le_of_ble_eq_true rfl)⟩ rfl rfl (Nat.le_of_ble_eq_true rfl) dX11_haveIn_19 z00) hH (fun H locs hH => ?_)
  exact g_ret C hH h dX11_haveIn_22
-- X11_have
def FX11_have (x1 : Int32) (σ : HS) : Option (Int32 × HS) :=
  bdI (FX11_isFamily x1 σ) fun r_1 σ_2 => if r_1 = 0 then some ((-1 : Int32), σ_2) else bdI (FX11_haveIn 4 x1 σ_2) fun r_5 σ_6 => some (r_5, σ_6)
set_option maxHeartbeats 4000000 in
set_option maxRecDepth 100000 in
theorem kX11_have (l : Launch) (D : va_G) (ad : Nat → Nat) (κ : KC) {x1 : Int32} {σ : HS} {R : (Int32 × HS)} (h : FX11_have x1 σ = some R) : MtI l 50 ceX D ad κ yX11_have cX11_have 2 (some .int) ({ frames := 4, cells := 0, slots := 0, locals := 101 } : Room) [.ref (ad 0), .int x1] σ R := by
  refine open_ (by decide) (Nat.le_of_ble_eq_true rfl) (la := [(0, .ref (ad 0)), (1, .int x1)]) rfl ?_
  intro p e s m below meth c ls C hH hl
  replace C : Cx 50 D ad κ p s m _ meth c cX11_have RX11 2 (some .int) := C
  have hx := C.1
  have hb := C.2.1
  have hown := C.2.2.2.1
  have hts := C.2.2.2.2.1
  rw [FX11_have] at h
  refine lv_aload_n hx hb dX11_have_0 rfl (lv_at hl 0 rfl) ?_
  refine lv_iload_n hx hb dX11_have_1 rfl (lv_at hl 1 rfl) ?_
  obtain ⟨r_1, σ_2, hc_3, h⟩ := bdI_ex h
  refine g_ci (g_runV (rest := []) C hH hl.1 cV_X11_149 0 (Nat.le_of_ble_eq_true rfl) rfl rfl (kX11_isFamily l D ad κ hc_3) ⟨rfl, rfl⟩ ⟨(Nat.le_of_ble_eq_true rfl), (Nat.le_of_ble_eq_true rfl)⟩ rfl rfl (Nat.le_of_ble_eq_true rfl) dX11_have_2 z00) hH (fun H locs hH => ?_)
  refine lv_if_eq (tgt := 20) hx hb dX11_have_5 (by decide) (fun hq_4 => ?_) (fun hq_4 => ?_)
  · rw [if_pos hq_4] at h
    refine lv_iconst (v := (-1)) hx hb dX11_have_20 (by decide) ?_
    exact g_ret C hH h dX11_have_21
  · rw [if_neg hq_4] at h
    refine lv_aload_n hx hb dX11_have_8 rfl (lv_at hl 0 rfl) ?_
    refine lv_aload_n hx hb dX11_have_9 rfl (lv_at hl 0 rfl) ?_
    refine g_get C hH 0 (Nat.le_of_ble_eq_true rfl) rfl fl_X11_35 (v := .ref (ad 4)) rfl dX11_have_10 ?_
    refine lv_iload_n hx hb dX11_have_13 rfl (lv_at hl 1 rfl) ?_
    obtain ⟨r_5, σ_6, hc_7, h⟩ := bdI_ex h
    refine g_ci (g_runV (rest := []) C hH hl.1 cV_X11_224 0 (Nat.le_of_ble_eq_true rfl) rfl rfl (kX11_haveIn l D ad κ st_4 hc_7) ⟨rfl, rfl⟩ ⟨(Nat.le_of_ble_eq_true rfl), (Nat.le_of_ble_eq_true rfl)⟩ rfl rfl (Nat.le_of_ble_eq_true rfl) dX11_have_14 z00) hH (fun H locs hH => ?_)
    refine lv_goto (tgt := 21) hx hb dX11_have_17 (by decide) ?_
    exact g_ret C hH h dX11_have_21
-- X11_mode
def FX11_mode_35  : Nat → Int32 → Int32 → Int32 → Int32 → HS → Option (Int32 × HS)
  | 0, _, _, _, _, _ => none
  | f + 1, x1, x2, x3, x4, σ => if (8 : Int32) ≤ x4 then if x2 = 0 then some (x3, σ) else bdI (FX0_casesIn x1 x3 σ) fun r_3 σ_4 => some (r_3, σ_4) else bdI (FX0_casesIn x1 x4 σ) fun r_6 σ_7 => bdI (FX0_casesIn x1 x3 σ_7) fun r_9 σ_10 => if r_6 ≤ r_9 then FX11_mode_35  f x1 x2 x3 (x4 + 1) σ_10 else FX11_mode_35  f x1 x2 x4 (x4 + 1) σ_10
def FX11_mode (x1 : Int32) (x2 : Int32) (σ : HS) : Option (Int32 × HS) :=
  bdI (FX11_isMinute x1 σ) fun r_13 σ_14 => if r_13 = 0 then some ((-1 : Int32), σ_14) else bdI (FX11_within x2 (0 : Int32) (1 : Int32) σ_14) fun r_17 σ_18 => if r_17 = 0 then some ((-1 : Int32), σ_18) else bdV (FX0_weigh 4 σ_18) fun σ_21 => FX11_mode_35 fu x1 x2 (0 : Int32) (1 : Int32) σ_21
set_option maxHeartbeats 4000000 in
set_option maxRecDepth 100000 in
theorem wX11_mode_35 (C : Cx 50 D ad κ p s m args meth c cX11_mode RX11 5 (some .int)) {R : (Int32 × HS)} : ∀ (f : Nat) (x1 : Int32) (x2 : Int32) (x3 : Int32) (x4 : Int32) (σ : HS) (H : Heap) (locs : List Loc) (ls : Array Slot), FX11_mode_35  f x1 x2 x3 x4 σ = some R → Hd 50 ceX D ad κ s σ H locs → lv_has ls 5 [(0, .ref (ad 0)), (1, .int x1), (2, .int x2), (3, .int x3), (4, .int x4)] → W p l e ({ frames := 3, cells := 0, slots := 0, locals := 72 } : Room) s m args below meth c H locs 0 0 (MQ below (QI 50 ceX D ad κ R) args s 0 0 (AX 50 ad)) (F0 m 35 ls []) := by
  have hx := C.1
  have hb := C.2.1
  have hown := C.2.2.2.1
  have hts := C.2.2.2.2.1
  intro f
  induction f with
  | zero =>
    intro x1 x2 x3 x4 σ H locs ls h hH hl
    cases h
  | succ f ih =>
    intro x1 x2 x3 x4 σ H locs ls h hH hl
    rw [FX11_mode_35] at h
    refine lv_iload hx hb dX11_mode_35 (lv_at hl 4 rfl) ?_
    refine lv_bipush (v := 8) hx hb dX11_mode_37 (by decide) ?_
    refine lv_icmp_ge (tgt := 73) hx hb dX11_mode_39 (by decide) (fun hq_1 => ?_) (fun hq_1 => ?_)
    · rw [if_pos hq_1] at h
      refine lv_iload_n hx hb dX11_mode_73 rfl (lv_at hl 2 rfl) ?_
      refine lv_if_ne (tgt := 81) hx hb dX11_mode_74 (by decide) (fun hq_2 => ?_) (fun hq_2 => ?_)
      · rw [if_neg hq_2] at h
        refine lv_aload_n hx hb dX11_mode_81 rfl (lv_at hl 0 rfl) ?_
        refine g_get C hH 0 (Nat.le_of_ble_eq_true rfl) rfl fl_X11_63 (v := .ref (ad 8)) rfl dX11_mode_82 ?_
        refine lv_iload_n hx hb dX11_mode_85 rfl (lv_at hl 1 rfl) ?_
        refine lv_iload_n hx hb dX11_mode_86 rfl (lv_at hl 3 rfl) ?_
        obtain ⟨r_3, σ_4, hc_5, h⟩ := bdI_ex h
        refine g_ci (g_runV (rest := []) C hH hl.1 cV_X11_216 8 (Nat.le_of_ble_eq_true rfl) rfl rfl (kX0_casesIn l D ad κ hc_5) ⟨rfl, rfl⟩ ⟨(Nat.le_of_ble_eq_true rfl), (Nat.le_of_ble_eq_true rfl)⟩ rfl rfl (Nat.le_of_ble_eq_true rfl) dX11_mode_87 z00) hH (fun H locs hH => ?_)
        exact g_ret C hH h dX11_mode_90
      · rw [if_pos hq_2] at h
        refine lv_iload_n hx hb dX11_mode_77 rfl (lv_at hl 3 rfl) ?_
        refine lv_goto (tgt := 90) hx hb dX11_mode_78 (by decide) ?_
        exact g_ret C hH h dX11_mode_90
    · rw [if_neg hq_1] at h
      refine lv_aload_n hx hb dX11_mode_42 rfl (lv_at hl 0 rfl) ?_
      refine g_get C hH 0 (Nat.le_of_ble_eq_true rfl) rfl fl_X11_63 (v := .ref (ad 8)) rfl dX11_mode_43 ?_
      refine lv_iload_n hx hb dX11_mode_46 rfl (lv_at hl 1 rfl) ?_
      refine lv_iload hx hb dX11_mode_47 (lv_at hl 4 rfl) ?_
      obtain ⟨r_6, σ_7, hc_8, h⟩ := bdI_ex h
      refine g_ci (g_runV (rest := []) C hH hl.1 cV_X11_216 8 (Nat.le_of_ble_eq_true rfl) rfl rfl (kX0_casesIn l D ad κ hc_8) ⟨rfl, rfl⟩ ⟨(Nat.le_of_ble_eq_true rfl), (Nat.le_of_ble_eq_true rfl)⟩ rfl rfl (Nat.le_of_ble_eq_true rfl) dX11_mode_49 z00) hH (fun H locs hH => ?_)
      refine lv_aload_n hx hb dX11_mode_52 rfl (lv_at hl 0 rfl) ?_
      refine g_get C hH 0 (Nat.le_of_ble_eq_true rfl) rfl fl_X11_63 (v := .ref (ad 8)) rfl dX11_mode_53 ?_
      refine lv_iload_n hx hb dX11_mode_56 rfl (lv_at hl 1 rfl) ?_
      refine lv_iload_n hx hb dX11_mode_57 rfl (lv_at hl 3 rfl) ?_
      obtain ⟨r_9, σ_10, hc_11, h⟩ := bdI_ex h
      refine g_ci (g_runV (rest := [.int r_6]) C hH hl.1 cV_X11_216 8 (Nat.le_of_ble_eq_true rfl) rfl rfl (kX0_casesIn l D ad κ hc_11) ⟨rfl, rfl⟩ ⟨(Nat.le_of_ble_eq_true rfl), (Nat.le_of_ble_eq_true rfl)⟩ rfl rfl (Nat.le_of_ble_eq_true rfl) dX11_mode_58 z00) hH (fun H locs hH => ?_)
      refine lv_icmp_le (tgt := 67) hx hb dX11_mode_61 (by decide) (fun hq_12 => ?_) (fun hq_12 => ?_)
      · rw [if_pos hq_12] at h
        refine lv_iinc (v := (x4 + 1)) (lv' := [(4, .int (x4 + 1)), (0, .ref (ad 0)), (1, .int x1), (2, .int x2), (3, .int x3)]) hx hb dX11_mode_67 hl (k := 4) rfl rfl (by decide) rfl (fun ls hl => ?_)
        refine lv_goto (tgt := 35) hx hb dX11_mode_70 (by decide) ?_
        exact ih _ _ _ _ _ _ _ _ h hH (lv_sub hl [1, 2, 3, 4, 0] rfl)
      · rw [if_neg hq_12] at h
        refine lv_iload hx hb dX11_mode_64 (lv_at hl 4 rfl) ?_
        refine lv_istore_n (lv' := [(3, .int x4), (0, .ref (ad 0)), (1, .int x1), (2, .int x2), (4, .int x4)]) hx hb dX11_mode_66 rfl hl (by decide) rfl (fun ls hl => ?_)
        refine lv_iinc (v := (x4 + 1)) (lv' := [(4, .int (x4 + 1)), (3, .int x4), (0, .ref (ad 0)), (1, .int x1), (2, .int x2)]) hx hb dX11_mode_67 hl (k := 4) rfl rfl (by decide) rfl (fun ls hl => ?_)
        refine lv_goto (tgt := 35) hx hb dX11_mode_70 (by decide) ?_
        exact ih _ _ _ _ _ _ _ _ h hH (lv_sub hl [2, 3, 4, 1, 0] rfl)
set_option maxHeartbeats 4000000 in
set_option maxRecDepth 100000 in
theorem kX11_mode (l : Launch) (D : va_G) (ad : Nat → Nat) (κ : KC) {x1 : Int32} {x2 : Int32} {σ : HS} {R : (Int32 × HS)} (h : FX11_mode x1 x2 σ = some R) : MtI l 50 ceX D ad κ yX11_mode cX11_mode 5 (some .int) ({ frames := 3, cells := 0, slots := 0, locals := 72 } : Room) [.ref (ad 0), .int x1, .int x2] σ R := by
  refine open_ (by decide) (Nat.le_of_ble_eq_true rfl) (la := [(0, .ref (ad 0)), (1, .int x1), (2, .int x2)]) rfl ?_
  intro p e s m below meth c ls C hH hl
  replace C : Cx 50 D ad κ p s m _ meth c cX11_mode RX11 5 (some .int) := C
  have hx := C.1
  have hb := C.2.1
  have hown := C.2.2.2.1
  have hts := C.2.2.2.2.1
  rw [FX11_mode] at h
  refine lv_aload_n hx hb dX11_mode_0 rfl (lv_at hl 0 rfl) ?_
  refine lv_iload_n hx hb dX11_mode_1 rfl (lv_at hl 1 rfl) ?_
  obtain ⟨r_13, σ_14, hc_15, h⟩ := bdI_ex h
  refine g_ci (g_runV (rest := []) C hH hl.1 cV_X11_131 0 (Nat.le_of_ble_eq_true rfl) rfl rfl (kX11_isMinute l D ad κ hc_15) ⟨rfl, rfl⟩ ⟨(Nat.le_of_ble_eq_true rfl), (Nat.le_of_ble_eq_true rfl)⟩ rfl rfl (Nat.le_of_ble_eq_true rfl) dX11_mode_2 z00) hH (fun H locs hH => ?_)
  refine lv_if_eq (tgt := 17) hx hb dX11_mode_5 (by decide) (fun hq_16 => ?_) (fun hq_16 => ?_)
  · rw [if_pos hq_16] at h
    refine lv_iconst (v := (-1)) hx hb dX11_mode_17 (by decide) ?_
    exact g_ret C hH h dX11_mode_18
  · rw [if_neg hq_16] at h
    refine lv_iload_n hx hb dX11_mode_8 rfl (lv_at hl 2 rfl) ?_
    refine lv_iconst (v := 0) hx hb dX11_mode_9 (by decide) ?_
    refine lv_iconst (v := 1) hx hb dX11_mode_10 (by decide) ?_
    obtain ⟨r_17, σ_18, hc_19, h⟩ := bdI_ex h
    refine g_ci (g_runS (rest := []) C hH hl.1 cS_X11_105 (kX11_within l D ad κ hc_19) ⟨rfl, rfl⟩ ⟨(Nat.le_of_ble_eq_true rfl), (Nat.le_of_ble_eq_true rfl)⟩ rfl rfl (Nat.le_of_ble_eq_true rfl) dX11_mode_11 z00) hH (fun H locs hH => ?_)
    refine lv_if_ne (tgt := 19) hx hb dX11_mode_14 (by decide) (fun hq_20 => ?_) (fun hq_20 => ?_)
    · rw [if_neg hq_20] at h
      refine lv_aload_n hx hb dX11_mode_19 rfl (lv_at hl 0 rfl) ?_
      refine g_get C hH 0 (Nat.le_of_ble_eq_true rfl) rfl fl_X11_63 (v := .ref (ad 8)) rfl dX11_mode_20 ?_
      refine lv_aload_n hx hb dX11_mode_23 rfl (lv_at hl 0 rfl) ?_
      refine g_get C hH 0 (Nat.le_of_ble_eq_true rfl) rfl fl_X11_35 (v := .ref (ad 4)) rfl dX11_mode_24 ?_
      obtain ⟨σ_21, hc_22, h⟩ := bdV_ex h
      refine g_cv (g_runV (rest := []) C hH hl.1 cV_X11_210 8 (Nat.le_of_ble_eq_true rfl) rfl rfl (kX0_weigh l D ad κ st_4 hc_22) ⟨rfl, rfl⟩ ⟨(Nat.le_of_ble_eq_true rfl), (Nat.le_of_ble_eq_true rfl)⟩ rfl rfl (Nat.le_of_ble_eq_true rfl) dX11_mode_27 z00) hH (fun H locs hH => ?_)
      refine lv_iconst (v := 0) hx hb dX11_mode_30 (by decide) ?_
      refine lv_istore_n (lv' := [(3, .int (0 : Int32)), (0, .ref (ad 0)), (1, .int x1), (2, .int x2)]) hx hb dX11_mode_31 rfl hl (by decide) rfl (fun ls hl => ?_)
      refine lv_iconst (v := 1) hx hb dX11_mode_32 (by decide) ?_
      refine lv_istore (lv' := [(4, .int (1 : Int32)), (3, .int (0 : Int32)), (0, .ref (ad 0)), (1, .int x1), (2, .int x2)]) hx hb dX11_mode_33 hl (by decide) rfl (fun ls hl => ?_)
      exact wX11_mode_35 C _ _ _ _ _ _ _ _ _ h hH (lv_sub hl [2, 3, 4, 1, 0] rfl)
    · rw [if_pos hq_20] at h
      refine lv_iconst (v := (-1)) hx hb dX11_mode_17 (by decide) ?_
      exact g_ret C hH h dX11_mode_18
-- X11_mean
def FX11_mean_15  : Nat → Int32 → Int32 → HS → Option (Int32 × HS)
  | 0, _, _, _ => none
  | f + 1, x1, x2, σ => if (8 : Int32) < x2 then some (x1, σ) else bdI (FX0_casesOfParts x2 σ) fun r_2 σ_3 => hl_ (x1 + (x2 * r_2)) fun x1_5 => FX11_mean_15  f x1_5 (x2 + 1) σ_3
def FX11_mean (σ : HS) : Option (Int32 × HS) :=
  bdV (FX0_weigh 4 σ) fun σ_6 => FX11_mean_15 fu (0 : Int32) (1 : Int32) σ_6
set_option maxHeartbeats 4000000 in
set_option maxRecDepth 100000 in
theorem wX11_mean_15 (C : Cx 50 D ad κ p s m args meth c cX11_mean RX11 3 (some .int)) {R : (Int32 × HS)} : ∀ (f : Nat) (x1 : Int32) (x2 : Int32) (σ : HS) (H : Heap) (locs : List Loc) (ls : Array Slot), FX11_mean_15  f x1 x2 σ = some R → Hd 50 ceX D ad κ s σ H locs → lv_has ls 3 [(0, .ref (ad 0)), (1, .int x1), (2, .int x2)] → W p l e ({ frames := 3, cells := 0, slots := 0, locals := 72 } : Room) s m args below meth c H locs 0 0 (MQ below (QI 50 ceX D ad κ R) args s 0 0 (AX 50 ad)) (F0 m 15 ls []) := by
  have hx := C.1
  have hb := C.2.1
  have hown := C.2.2.2.1
  have hts := C.2.2.2.2.1
  intro f
  induction f with
  | zero =>
    intro x1 x2 σ H locs ls h hH hl
    cases h
  | succ f ih =>
    intro x1 x2 σ H locs ls h hH hl
    rw [FX11_mean_15] at h
    refine lv_iload_n hx hb dX11_mean_15 rfl (lv_at hl 2 rfl) ?_
    refine lv_bipush (v := 8) hx hb dX11_mean_16 (by decide) ?_
    refine lv_icmp_gt (tgt := 40) hx hb dX11_mean_18 (by decide) (fun hq_1 => ?_) (fun hq_1 => ?_)
    · rw [if_pos hq_1] at h
      refine lv_iload_n hx hb dX11_mean_40 rfl (lv_at hl 1 rfl) ?_
      exact g_ret C hH h dX11_mean_41
    · rw [if_neg hq_1] at h
      refine lv_iload_n hx hb dX11_mean_21 rfl (lv_at hl 1 rfl) ?_
      refine lv_iload_n hx hb dX11_mean_22 rfl (lv_at hl 2 rfl) ?_
      refine lv_aload_n hx hb dX11_mean_23 rfl (lv_at hl 0 rfl) ?_
      refine g_get C hH 0 (Nat.le_of_ble_eq_true rfl) rfl fl_X11_63 (v := .ref (ad 8)) rfl dX11_mean_24 ?_
      refine lv_iload_n hx hb dX11_mean_27 rfl (lv_at hl 2 rfl) ?_
      obtain ⟨r_2, σ_3, hc_4, h⟩ := bdI_ex h
      refine g_ci (g_runV (rest := [.int x2, .int x1]) C hH hl.1 cV_X11_213 8 (Nat.le_of_ble_eq_true rfl) rfl rfl (kX0_casesOfParts l D ad κ hc_4) ⟨rfl, rfl⟩ ⟨(Nat.le_of_ble_eq_true rfl), (Nat.le_of_ble_eq_true rfl)⟩ rfl rfl (Nat.le_of_ble_eq_true rfl) dX11_mean_28 z00) hH (fun H locs hH => ?_)
      refine lv_imul hx hb dX11_mean_31 ?_
      refine lv_iadd hx hb dX11_mean_32 ?_
      obtain ⟨x1_5, ex1_5, h⟩ := hl_ex h
      refine lv_eqi ex1_5 ?_
      refine lv_istore_n (lv' := [(1, .int x1_5), (0, .ref (ad 0)), (2, .int x2)]) hx hb dX11_mean_33 rfl hl (by decide) rfl (fun ls hl => ?_)
      refine lv_iinc (v := (x2 + 1)) (lv' := [(2, .int (x2 + 1)), (1, .int x1_5), (0, .ref (ad 0))]) hx hb dX11_mean_34 hl (k := 2) rfl rfl (by decide) rfl (fun ls hl => ?_)
      refine lv_goto (tgt := 15) hx hb dX11_mean_37 (by decide) ?_
      exact ih _ _ _ _ _ _ h hH (lv_sub hl [2, 1, 0] rfl)
set_option maxHeartbeats 4000000 in
set_option maxRecDepth 100000 in
theorem kX11_mean (l : Launch) (D : va_G) (ad : Nat → Nat) (κ : KC) {σ : HS} {R : (Int32 × HS)} (h : FX11_mean σ = some R) : MtI l 50 ceX D ad κ yX11_mean cX11_mean 3 (some .int) ({ frames := 3, cells := 0, slots := 0, locals := 72 } : Room) [.ref (ad 0)] σ R := by
  refine open_ (by decide) (Nat.le_of_ble_eq_true rfl) (la := [(0, .ref (ad 0))]) rfl ?_
  intro p e s m below meth c ls C hH hl
  replace C : Cx 50 D ad κ p s m _ meth c cX11_mean RX11 3 (some .int) := C
  have hx := C.1
  have hb := C.2.1
  have hown := C.2.2.2.1
  have hts := C.2.2.2.2.1
  rw [FX11_mean] at h
  refine lv_aload_n hx hb dX11_mean_0 rfl (lv_at hl 0 rfl) ?_
  refine g_get C hH 0 (Nat.le_of_ble_eq_true rfl) rfl fl_X11_63 (v := .ref (ad 8)) rfl dX11_mean_1 ?_
  refine lv_aload_n hx hb dX11_mean_4 rfl (lv_at hl 0 rfl) ?_
  refine g_get C hH 0 (Nat.le_of_ble_eq_true rfl) rfl fl_X11_35 (v := .ref (ad 4)) rfl dX11_mean_5 ?_
  obtain ⟨σ_6, hc_7, h⟩ := bdV_ex h
  refine g_cv (g_runV (rest := []) C hH hl.1 cV_X11_210 8 (Nat.le_of_ble_eq_true rfl) rfl rfl (kX0_weigh l D ad κ st_4 hc_7) ⟨rfl, rfl⟩ ⟨(Nat.le_of_ble_eq_true rfl), (Nat.le_of_ble_eq_true rfl)⟩ rfl rfl (Nat.le_of_ble_eq_true rfl) dX11_mean_8 z00) hH (fun H locs hH => ?_)
  refine lv_iconst (v := 0) hx hb dX11_mean_11 (by decide) ?_
  refine lv_istore_n (lv' := [(1, .int (0 : Int32)), (0, .ref (ad 0))]) hx hb dX11_mean_12 rfl hl (by decide) rfl (fun ls hl => ?_)
  refine lv_iconst (v := 1) hx hb dX11_mean_13 (by decide) ?_
  refine lv_istore_n (lv' := [(2, .int (1 : Int32)), (1, .int (0 : Int32)), (0, .ref (ad 0))]) hx hb dX11_mean_14 rfl hl (by decide) rfl (fun ls hl => ?_)
  exact wX11_mean_15 C _ _ _ _ _ _ _ h hH (lv_sub hl [2, 1, 0] rfl)
-- X11_both
def FX11_both (x1 : Int32) (x2 : Int32) (σ : HS) : Option (Int32 × HS) :=
  bdI (FX11_isMinute x1 σ) fun r_1 σ_2 => if r_1 = 0 then some ((-1 : Int32), σ_2) else bdI (FX11_isMinute x2 σ_2) fun r_5 σ_6 => if r_5 = 0 then some ((-1 : Int32), σ_6) else bdV (FX0_weigh 4 σ_6) fun σ_9 => bdI (FX0_casesTogether (minI x1 x2) (maxI x1 x2) σ_9) fun r_11 σ_12 => some (r_11, σ_12)
set_option maxHeartbeats 4000000 in
set_option maxRecDepth 100000 in
theorem kX11_both (l : Launch) (D : va_G) (ad : Nat → Nat) (κ : KC) {x1 : Int32} {x2 : Int32} {σ : HS} {R : (Int32 × HS)} (h : FX11_both x1 x2 σ = some R) : MtI l 50 ceX D ad κ yX11_both cX11_both 3 (some .int) ({ frames := 3, cells := 0, slots := 0, locals := 72 } : Room) [.ref (ad 0), .int x1, .int x2] σ R := by
  refine open_ (by decide) (Nat.le_of_ble_eq_true rfl) (la := [(0, .ref (ad 0)), (1, .int x1), (2, .int x2)]) rfl ?_
  intro p e s m below meth c ls C hH hl
  replace C : Cx 50 D ad κ p s m _ meth c cX11_both RX11 3 (some .int) := C
  have hx := C.1
  have hb := C.2.1
  have hown := C.2.2.2.1
  have hts := C.2.2.2.2.1
  rw [FX11_both] at h
  refine lv_aload_n hx hb dX11_both_0 rfl (lv_at hl 0 rfl) ?_
  refine lv_iload_n hx hb dX11_both_1 rfl (lv_at hl 1 rfl) ?_
  obtain ⟨r_1, σ_2, hc_3, h⟩ := bdI_ex h
  refine g_ci (g_runV (rest := []) C hH hl.1 cV_X11_131 0 (Nat.le_of_ble_eq_true rfl) rfl rfl (kX11_isMinute l D ad κ hc_3) ⟨rfl, rfl⟩ ⟨(Nat.le_of_ble_eq_true rfl), (Nat.le_of_ble_eq_true rfl)⟩ rfl rfl (Nat.le_of_ble_eq_true rfl) dX11_both_2 z00) hH (fun H locs hH => ?_)
  refine lv_if_eq (tgt := 16) hx hb dX11_both_5 (by decide) (fun hq_4 => ?_) (fun hq_4 => ?_)
  · rw [if_pos hq_4] at h
    refine lv_iconst (v := (-1)) hx hb dX11_both_16 (by decide) ?_
    exact g_ret C hH h dX11_both_17
  · rw [if_neg hq_4] at h
    refine lv_aload_n hx hb dX11_both_8 rfl (lv_at hl 0 rfl) ?_
    refine lv_iload_n hx hb dX11_both_9 rfl (lv_at hl 2 rfl) ?_
    obtain ⟨r_5, σ_6, hc_7, h⟩ := bdI_ex h
    refine g_ci (g_runV (rest := []) C hH hl.1 cV_X11_131 0 (Nat.le_of_ble_eq_true rfl) rfl rfl (kX11_isMinute l D ad κ hc_7) ⟨rfl, rfl⟩ ⟨(Nat.le_of_ble_eq_true rfl), (Nat.le_of_ble_eq_true rfl)⟩ rfl rfl (Nat.le_of_ble_eq_true rfl) dX11_both_10 z00) hH (fun H locs hH => ?_)
    refine lv_if_ne (tgt := 18) hx hb dX11_both_13 (by decide) (fun hq_8 => ?_) (fun hq_8 => ?_)
    · rw [if_neg hq_8] at h
      refine lv_aload_n hx hb dX11_both_18 rfl (lv_at hl 0 rfl) ?_
      refine g_get C hH 0 (Nat.le_of_ble_eq_true rfl) rfl fl_X11_63 (v := .ref (ad 8)) rfl dX11_both_19 ?_
      refine lv_aload_n hx hb dX11_both_22 rfl (lv_at hl 0 rfl) ?_
      refine g_get C hH 0 (Nat.le_of_ble_eq_true rfl) rfl fl_X11_35 (v := .ref (ad 4)) rfl dX11_both_23 ?_
      obtain ⟨σ_9, hc_10, h⟩ := bdV_ex h
      refine g_cv (g_runV (rest := []) C hH hl.1 cV_X11_210 8 (Nat.le_of_ble_eq_true rfl) rfl rfl (kX0_weigh l D ad κ st_4 hc_10) ⟨rfl, rfl⟩ ⟨(Nat.le_of_ble_eq_true rfl), (Nat.le_of_ble_eq_true rfl)⟩ rfl rfl (Nat.le_of_ble_eq_true rfl) dX11_both_26 z00) hH (fun H locs hH => ?_)
      refine lv_aload_n hx hb dX11_both_29 rfl (lv_at hl 0 rfl) ?_
      refine g_get C hH 0 (Nat.le_of_ble_eq_true rfl) rfl fl_X11_63 (v := .ref (ad 8)) rfl dX11_both_30 ?_
      refine lv_iload_n hx hb dX11_both_33 rfl (lv_at hl 1 rfl) ?_
      refine lv_iload_n hx hb dX11_both_34 rfl (lv_at hl 2 rfl) ?_
      refine g_min C hl.1 mmin_X11_227 (Nat.le_of_ble_eq_true rfl) (Nat.le_of_ble_eq_true rfl) z00 dX11_both_35 ?_
      refine lv_iload_n hx hb dX11_both_38 rfl (lv_at hl 1 rfl) ?_
      refine lv_iload_n hx hb dX11_both_39 rfl (lv_at hl 2 rfl) ?_
      refine g_max C hl.1 mmax_X11_232 (Nat.le_of_ble_eq_true rfl) (Nat.le_of_ble_eq_true rfl) z00 dX11_both_40 ?_
      obtain ⟨r_11, σ_12, hc_13, h⟩ := bdI_ex h
      refine g_ci (g_runV (rest := []) C hH hl.1 cV_X11_235 8 (Nat.le_of_ble_eq_true rfl) rfl rfl (kX0_casesTogether l D ad κ hc_13) ⟨rfl, rfl⟩ ⟨(Nat.le_of_ble_eq_true rfl), (Nat.le_of_ble_eq_true rfl)⟩ rfl rfl (Nat.le_of_ble_eq_true rfl) dX11_both_43 z00) hH (fun H locs hH => ?_)
      exact g_ret C hH h dX11_both_46
    · rw [if_pos hq_8] at h
      refine lv_iconst (v := (-1)) hx hb dX11_both_16 (by decide) ?_
      exact g_ret C hH h dX11_both_17
-- X11_with
def FX11_with (x1 : Int32) (x2 : Int32) (σ : HS) : Option (Int32 × HS) :=
  bdI (FX11_isPart x1 σ) fun r_1 σ_2 => if r_1 = 0 then some ((-1 : Int32), σ_2) else bdI (FX11_within x2 (0 : Int32) (10 : Int32) σ_2) fun r_5 σ_6 => if r_5 = 0 then some ((-1 : Int32), σ_6) else bdV (FX0_weigh 4 σ_6) fun σ_9 => bdI (FX0_casesHolding x1 x2 σ_9) fun r_11 σ_12 => some (r_11, σ_12)
set_option maxHeartbeats 4000000 in
set_option maxRecDepth 100000 in
theorem kX11_with (l : Launch) (D : va_G) (ad : Nat → Nat) (κ : KC) {x1 : Int32} {x2 : Int32} {σ : HS} {R : (Int32 × HS)} (h : FX11_with x1 x2 σ = some R) : MtI l 50 ceX D ad κ yX11_with cX11_with 3 (some .int) ({ frames := 3, cells := 0, slots := 0, locals := 72 } : Room) [.ref (ad 0), .int x1, .int x2] σ R := by
  refine open_ (by decide) (Nat.le_of_ble_eq_true rfl) (la := [(0, .ref (ad 0)), (1, .int x1), (2, .int x2)]) rfl ?_
  intro p e s m below meth c ls C hH hl
  replace C : Cx 50 D ad κ p s m _ meth c cX11_with RX11 3 (some .int) := C
  have hx := C.1
  have hb := C.2.1
  have hown := C.2.2.2.1
  have hts := C.2.2.2.2.1
  rw [FX11_with] at h
  refine lv_iload_n hx hb dX11_with_0 rfl (lv_at hl 1 rfl) ?_
  obtain ⟨r_1, σ_2, hc_3, h⟩ := bdI_ex h
  refine g_ci (g_runS (rest := []) C hH hl.1 cS_X11_174 (kX11_isPart l D ad κ hc_3) ⟨rfl, rfl⟩ ⟨(Nat.le_of_ble_eq_true rfl), (Nat.le_of_ble_eq_true rfl)⟩ rfl rfl (Nat.le_of_ble_eq_true rfl) dX11_with_1 z00) hH (fun H locs hH => ?_)
  refine lv_if_eq (tgt := 17) hx hb dX11_with_4 (by decide) (fun hq_4 => ?_) (fun hq_4 => ?_)
  · rw [if_pos hq_4] at h
    refine lv_iconst (v := (-1)) hx hb dX11_with_17 (by decide) ?_
    exact g_ret C hH h dX11_with_18
  · rw [if_neg hq_4] at h
    refine lv_iload_n hx hb dX11_with_7 rfl (lv_at hl 2 rfl) ?_
    refine lv_iconst (v := 0) hx hb dX11_with_8 (by decide) ?_
    refine lv_bipush (v := 10) hx hb dX11_with_9 (by decide) ?_
    obtain ⟨r_5, σ_6, hc_7, h⟩ := bdI_ex h
    refine g_ci (g_runS (rest := []) C hH hl.1 cS_X11_105 (kX11_within l D ad κ hc_7) ⟨rfl, rfl⟩ ⟨(Nat.le_of_ble_eq_true rfl), (Nat.le_of_ble_eq_true rfl)⟩ rfl rfl (Nat.le_of_ble_eq_true rfl) dX11_with_11 z00) hH (fun H locs hH => ?_)
    refine lv_if_ne (tgt := 19) hx hb dX11_with_14 (by decide) (fun hq_8 => ?_) (fun hq_8 => ?_)
    · rw [if_neg hq_8] at h
      refine lv_aload_n hx hb dX11_with_19 rfl (lv_at hl 0 rfl) ?_
      refine g_get C hH 0 (Nat.le_of_ble_eq_true rfl) rfl fl_X11_63 (v := .ref (ad 8)) rfl dX11_with_20 ?_
      refine lv_aload_n hx hb dX11_with_23 rfl (lv_at hl 0 rfl) ?_
      refine g_get C hH 0 (Nat.le_of_ble_eq_true rfl) rfl fl_X11_35 (v := .ref (ad 4)) rfl dX11_with_24 ?_
      obtain ⟨σ_9, hc_10, h⟩ := bdV_ex h
      refine g_cv (g_runV (rest := []) C hH hl.1 cV_X11_210 8 (Nat.le_of_ble_eq_true rfl) rfl rfl (kX0_weigh l D ad κ st_4 hc_10) ⟨rfl, rfl⟩ ⟨(Nat.le_of_ble_eq_true rfl), (Nat.le_of_ble_eq_true rfl)⟩ rfl rfl (Nat.le_of_ble_eq_true rfl) dX11_with_27 z00) hH (fun H locs hH => ?_)
      refine lv_aload_n hx hb dX11_with_30 rfl (lv_at hl 0 rfl) ?_
      refine g_get C hH 0 (Nat.le_of_ble_eq_true rfl) rfl fl_X11_63 (v := .ref (ad 8)) rfl dX11_with_31 ?_
      refine lv_iload_n hx hb dX11_with_34 rfl (lv_at hl 1 rfl) ?_
      refine lv_iload_n hx hb dX11_with_35 rfl (lv_at hl 2 rfl) ?_
      obtain ⟨r_11, σ_12, hc_13, h⟩ := bdI_ex h
      refine g_ci (g_runV (rest := []) C hH hl.1 cV_X11_238 8 (Nat.le_of_ble_eq_true rfl) rfl rfl (kX0_casesHolding l D ad κ hc_13) ⟨rfl, rfl⟩ ⟨(Nat.le_of_ble_eq_true rfl), (Nat.le_of_ble_eq_true rfl)⟩ rfl rfl (Nat.le_of_ble_eq_true rfl) dX11_with_36 z00) hH (fun H locs hH => ?_)
      exact g_ret C hH h dX11_with_39
    · rw [if_pos hq_8] at h
      refine lv_iconst (v := (-1)) hx hb dX11_with_17 (by decide) ?_
      exact g_ret C hH h dX11_with_18
-- X11_buy
def FX11_buy_40  : Nat → Int32 → Int32 → Int32 → Int32 → Int32 → HS → Option (Int32 × HS)
  | 0, _, _, _, _, _, _ => none
  | f + 1, x1, x2, x3, x4, x5, σ => if (8 : Int32) ≤ x5 then if x2 = 0 then some (x3, σ) else some (x4, σ) else bdI (FX7_ownerOf 4 x5 σ) fun r_3 σ_4 => if r_3 = (-2 : Int32) then bdI (FX0_valueOf 4 x1 ((1 : Int32) <<< (x5 &&& 31)) σ_4) fun r_7 σ_8 => if r_7 ≤ x4 then FX11_buy_40  f x1 x2 x3 x4 (x5 + 1) σ_8 else FX11_buy_40  f x1 x2 x5 r_7 (x5 + 1) σ_8 else FX11_buy_40  f x1 x2 x3 x4 (x5 + 1) σ_4
def FX11_buy (x1 : Int32) (x2 : Int32) (σ : HS) : Option (Int32 × HS) :=
  bdI (FX11_isFamily x1 σ) fun r_11 σ_12 => if r_11 = 0 then some ((-1 : Int32), σ_12) else bdI (FX11_within x2 (0 : Int32) (1 : Int32) σ_12) fun r_15 σ_16 => if r_15 = 0 then some ((-1 : Int32), σ_16) else bdV (FX0_weigh 4 σ_16) fun σ_19 => FX11_buy_40 fu x1 x2 (-2 : Int32) (-2 : Int32) (0 : Int32) σ_19
set_option maxHeartbeats 4000000 in
set_option maxRecDepth 100000 in
theorem wX11_buy_40 (C : Cx 50 D ad κ p s m args meth c cX11_buy RX11 7 (some .int)) {R : (Int32 × HS)} : ∀ (f : Nat) (x1 : Int32) (x2 : Int32) (x3 : Int32) (x4 : Int32) (x5 : Int32) (σ : HS) (H : Heap) (locs : List Loc) (ls : Array Slot), FX11_buy_40  f x1 x2 x3 x4 x5 σ = some R → Hd 50 ceX D ad κ s σ H locs → lv_has ls 7 [(0, .ref (ad 0)), (1, .int x1), (2, .int x2), (3, .int x3), (4, .int x4), (5, .int x5)] → W p l e ({ frames := 3, cells := 0, slots := 0, locals := 79 } : Room) s m args below meth c H locs 0 0 (MQ below (QI 50 ceX D ad κ R) args s 0 0 (AX 50 ad)) (F0 m 40 ls []) := by
  have hx := C.1
  have hb := C.2.1
  have hown := C.2.2.2.1
  have hts := C.2.2.2.2.1
  intro f
  induction f with
  | zero =>
    intro x1 x2 x3 x4 x5 σ H locs ls h hH hl
    cases h
  | succ f ih =>
    intro x1 x2 x3 x4 x5 σ H locs ls h hH hl
    rw [FX11_buy_40] at h
    refine lv_iload hx hb dX11_buy_40 (lv_at hl 5 rfl) ?_
    refine lv_bipush (v := 8) hx hb dX11_buy_42 (by decide) ?_
    refine lv_icmp_ge (tgt := 99) hx hb dX11_buy_44 (by decide) (fun hq_1 => ?_) (fun hq_1 => ?_)
    · rw [if_pos hq_1] at h
      refine lv_iload_n hx hb dX11_buy_99 rfl (lv_at hl 2 rfl) ?_
      refine lv_if_ne (tgt := 107) hx hb dX11_buy_100 (by decide) (fun hq_2 => ?_) (fun hq_2 => ?_)
      · rw [if_neg hq_2] at h
        refine lv_iload hx hb dX11_buy_107 (lv_at hl 4 rfl) ?_
        exact g_ret C hH h dX11_buy_109
      · rw [if_pos hq_2] at h
        refine lv_iload_n hx hb dX11_buy_103 rfl (lv_at hl 3 rfl) ?_
        refine lv_goto (tgt := 109) hx hb dX11_buy_104 (by decide) ?_
        exact g_ret C hH h dX11_buy_109
    · rw [if_neg hq_1] at h
      refine lv_aload_n hx hb dX11_buy_47 rfl (lv_at hl 0 rfl) ?_
      refine g_get C hH 0 (Nat.le_of_ble_eq_true rfl) rfl fl_X11_35 (v := .ref (ad 4)) rfl dX11_buy_48 ?_
      refine lv_iload hx hb dX11_buy_51 (lv_at hl 5 rfl) ?_
      obtain ⟨r_3, σ_4, hc_5, h⟩ := bdI_ex h
      refine g_ci (g_runV (rest := []) C hH hl.1 cV_X11_177 4 (Nat.le_of_ble_eq_true rfl) rfl rfl (kX7_ownerOf l D ad κ st_4 hc_5) ⟨rfl, rfl⟩ ⟨(Nat.le_of_ble_eq_true rfl), (Nat.le_of_ble_eq_true rfl)⟩ rfl rfl (Nat.le_of_ble_eq_true rfl) dX11_buy_53 z00) hH (fun H locs hH => ?_)
      refine lv_bipush (v := (-2)) hx hb dX11_buy_56 (by decide) ?_
      refine lv_icmp_ne (tgt := 93) hx hb dX11_buy_58 (by decide) (fun hq_6 => ?_) (fun hq_6 => ?_)
      · rw [if_neg hq_6] at h
        refine lv_iinc (v := (x5 + 1)) (lv' := [(5, .int (x5 + 1)), (0, .ref (ad 0)), (1, .int x1), (2, .int x2), (3, .int x3), (4, .int x4)]) hx hb dX11_buy_93 hl (k := 5) rfl rfl (by decide) rfl (fun ls hl => ?_)
        refine lv_goto (tgt := 40) hx hb dX11_buy_96 (by decide) ?_
        exact ih _ _ _ _ _ _ _ _ _ h hH (lv_sub hl [1, 2, 3, 4, 5, 0] rfl)
      · rw [if_pos hq_6] at h
        refine lv_aload_n hx hb dX11_buy_61 rfl (lv_at hl 0 rfl) ?_
        refine g_get C hH 0 (Nat.le_of_ble_eq_true rfl) rfl fl_X11_63 (v := .ref (ad 8)) rfl dX11_buy_62 ?_
        refine lv_aload_n hx hb dX11_buy_65 rfl (lv_at hl 0 rfl) ?_
        refine g_get C hH 0 (Nat.le_of_ble_eq_true rfl) rfl fl_X11_35 (v := .ref (ad 4)) rfl dX11_buy_66 ?_
        refine lv_iload_n hx hb dX11_buy_69 rfl (lv_at hl 1 rfl) ?_
        refine lv_iconst (v := 1) hx hb dX11_buy_70 (by decide) ?_
        refine lv_iload hx hb dX11_buy_71 (lv_at hl 5 rfl) ?_
        refine lv_ishl hx hb dX11_buy_73 ?_
        obtain ⟨r_7, σ_8, hc_9, h⟩ := bdI_ex h
        refine g_ci (g_runV (rest := []) C hH hl.1 cV_X11_220 8 (Nat.le_of_ble_eq_true rfl) rfl rfl (kX0_valueOf l D ad κ st_4 hc_9) ⟨rfl, rfl⟩ ⟨(Nat.le_of_ble_eq_true rfl), (Nat.le_of_ble_eq_true rfl)⟩ rfl rfl (Nat.le_of_ble_eq_true rfl) dX11_buy_74 z00) hH (fun H locs hH => ?_)
        refine lv_istore (lv' := [(6, .int r_7), (0, .ref (ad 0)), (1, .int x1), (2, .int x2), (3, .int x3), (4, .int x4), (5, .int x5)]) hx hb dX11_buy_77 hl (by decide) rfl (fun ls hl => ?_)
        refine lv_iload hx hb dX11_buy_79 (lv_at hl 0 rfl) ?_
        refine lv_iload hx hb dX11_buy_81 (lv_at hl 5 rfl) ?_
        refine lv_icmp_le (tgt := 93) hx hb dX11_buy_83 (by decide) (fun hq_10 => ?_) (fun hq_10 => ?_)
        · rw [if_pos hq_10] at h
          refine lv_iinc (v := (x5 + 1)) (lv' := [(5, .int (x5 + 1)), (6, .int r_7), (0, .ref (ad 0)), (1, .int x1), (2, .int x2), (3, .int x3), (4, .int x4)]) hx hb dX11_buy_93 hl (k := 6) rfl rfl (by decide) rfl (fun ls hl => ?_)
          refine lv_goto (tgt := 40) hx hb dX11_buy_96 (by decide) ?_
          exact ih _ _ _ _ _ _ _ _ _ h hH (lv_sub hl [2, 3, 4, 5, 6, 0] rfl)
        · rw [if_neg hq_10] at h
          refine lv_iload hx hb dX11_buy_86 (lv_at hl 6 rfl) ?_
          refine lv_istore_n (lv' := [(3, .int x5), (6, .int r_7), (0, .ref (ad 0)), (1, .int x1), (2, .int x2), (4, .int x4), (5, .int x5)]) hx hb dX11_buy_88 rfl hl (by decide) rfl (fun ls hl => ?_)
          refine lv_iload hx hb dX11_buy_89 (lv_at hl 1 rfl) ?_
          refine lv_istore (lv' := [(4, .int r_7), (3, .int x5), (6, .int r_7), (0, .ref (ad 0)), (1, .int x1), (2, .int x2), (5, .int x5)]) hx hb dX11_buy_91 hl (by decide) rfl (fun ls hl => ?_)
          refine lv_iinc (v := (x5 + 1)) (lv' := [(5, .int (x5 + 1)), (4, .int r_7), (3, .int x5), (6, .int r_7), (0, .ref (ad 0)), (1, .int x1), (2, .int x2)]) hx hb dX11_buy_93 hl (k := 6) rfl rfl (by decide) rfl (fun ls hl => ?_)
          refine lv_goto (tgt := 40) hx hb dX11_buy_96 (by decide) ?_
          exact ih _ _ _ _ _ _ _ _ _ h hH (lv_sub hl [4, 5, 6, 2, 1, 0] rfl)
set_option maxHeartbeats 4000000 in
set_option maxRecDepth 100000 in
theorem kX11_buy (l : Launch) (D : va_G) (ad : Nat → Nat) (κ : KC) {x1 : Int32} {x2 : Int32} {σ : HS} {R : (Int32 × HS)} (h : FX11_buy x1 x2 σ = some R) : MtI l 50 ceX D ad κ yX11_buy cX11_buy 7 (some .int) ({ frames := 3, cells := 0, slots := 0, locals := 79 } : Room) [.ref (ad 0), .int x1, .int x2] σ R := by
  refine open_ (by decide) (Nat.le_of_ble_eq_true rfl) (la := [(0, .ref (ad 0)), (1, .int x1), (2, .int x2)]) rfl ?_
  intro p e s m below meth c ls C hH hl
  replace C : Cx 50 D ad κ p s m _ meth c cX11_buy RX11 7 (some .int) := C
  have hx := C.1
  have hb := C.2.1
  have hown := C.2.2.2.1
  have hts := C.2.2.2.2.1
  rw [FX11_buy] at h
  refine lv_aload_n hx hb dX11_buy_0 rfl (lv_at hl 0 rfl) ?_
  refine lv_iload_n hx hb dX11_buy_1 rfl (lv_at hl 1 rfl) ?_
  obtain ⟨r_11, σ_12, hc_13, h⟩ := bdI_ex h
  refine g_ci (g_runV (rest := []) C hH hl.1 cV_X11_149 0 (Nat.le_of_ble_eq_true rfl) rfl rfl (kX11_isFamily l D ad κ hc_13) ⟨rfl, rfl⟩ ⟨(Nat.le_of_ble_eq_true rfl), (Nat.le_of_ble_eq_true rfl)⟩ rfl rfl (Nat.le_of_ble_eq_true rfl) dX11_buy_2 z00) hH (fun H locs hH => ?_)
  refine lv_if_eq (tgt := 17) hx hb dX11_buy_5 (by decide) (fun hq_14 => ?_) (fun hq_14 => ?_)
  · rw [if_pos hq_14] at h
    refine lv_iconst (v := (-1)) hx hb dX11_buy_17 (by decide) ?_
    exact g_ret C hH h dX11_buy_18
  · rw [if_neg hq_14] at h
    refine lv_iload_n hx hb dX11_buy_8 rfl (lv_at hl 2 rfl) ?_
    refine lv_iconst (v := 0) hx hb dX11_buy_9 (by decide) ?_
    refine lv_iconst (v := 1) hx hb dX11_buy_10 (by decide) ?_
    obtain ⟨r_15, σ_16, hc_17, h⟩ := bdI_ex h
    refine g_ci (g_runS (rest := []) C hH hl.1 cS_X11_105 (kX11_within l D ad κ hc_17) ⟨rfl, rfl⟩ ⟨(Nat.le_of_ble_eq_true rfl), (Nat.le_of_ble_eq_true rfl)⟩ rfl rfl (Nat.le_of_ble_eq_true rfl) dX11_buy_11 z00) hH (fun H locs hH => ?_)
    refine lv_if_ne (tgt := 19) hx hb dX11_buy_14 (by decide) (fun hq_18 => ?_) (fun hq_18 => ?_)
    · rw [if_neg hq_18] at h
      refine lv_aload_n hx hb dX11_buy_19 rfl (lv_at hl 0 rfl) ?_
      refine g_get C hH 0 (Nat.le_of_ble_eq_true rfl) rfl fl_X11_63 (v := .ref (ad 8)) rfl dX11_buy_20 ?_
      refine lv_aload_n hx hb dX11_buy_23 rfl (lv_at hl 0 rfl) ?_
      refine g_get C hH 0 (Nat.le_of_ble_eq_true rfl) rfl fl_X11_35 (v := .ref (ad 4)) rfl dX11_buy_24 ?_
      obtain ⟨σ_19, hc_20, h⟩ := bdV_ex h
      refine g_cv (g_runV (rest := []) C hH hl.1 cV_X11_210 8 (Nat.le_of_ble_eq_true rfl) rfl rfl (kX0_weigh l D ad κ st_4 hc_20) ⟨rfl, rfl⟩ ⟨(Nat.le_of_ble_eq_true rfl), (Nat.le_of_ble_eq_true rfl)⟩ rfl rfl (Nat.le_of_ble_eq_true rfl) dX11_buy_27 z00) hH (fun H locs hH => ?_)
      refine lv_bipush (v := (-2)) hx hb dX11_buy_30 (by decide) ?_
      refine lv_istore_n (lv' := [(3, .int (-2 : Int32)), (0, .ref (ad 0)), (1, .int x1), (2, .int x2)]) hx hb dX11_buy_32 rfl hl (by decide) rfl (fun ls hl => ?_)
      refine lv_bipush (v := (-2)) hx hb dX11_buy_33 (by decide) ?_
      refine lv_istore (lv' := [(4, .int (-2 : Int32)), (3, .int (-2 : Int32)), (0, .ref (ad 0)), (1, .int x1), (2, .int x2)]) hx hb dX11_buy_35 hl (by decide) rfl (fun ls hl => ?_)
      refine lv_iconst (v := 0) hx hb dX11_buy_37 (by decide) ?_
      refine lv_istore (lv' := [(5, .int (0 : Int32)), (4, .int (-2 : Int32)), (3, .int (-2 : Int32)), (0, .ref (ad 0)), (1, .int x1), (2, .int x2)]) hx hb dX11_buy_38 hl (by decide) rfl (fun ls hl => ?_)
      exact wX11_buy_40 C _ _ _ _ _ _ _ _ _ _ h hH (lv_sub hl [3, 4, 5, 2, 1, 0] rfl)
    · rw [if_pos hq_18] at h
      refine lv_iconst (v := (-1)) hx hb dX11_buy_17 (by decide) ?_
      exact g_ret C hH h dX11_buy_18
-- X11_haveAfterChange
def FX11_haveAfterChange (x1 : Int32) (x2 : Int32) (x3 : Int32) (σ : HS) : Option (Int32 × HS) :=
  bdV (FX7_copyFrom σ) fun σ_1 => bdV (FX7_exchange 5 x2 x3 σ_1) fun σ_3 => bdI (FX11_haveIn 5 x1 σ_3) fun r_5 σ_6 => some (r_5, σ_6)
set_option maxHeartbeats 4000000 in
set_option maxRecDepth 100000 in
theorem kX11_haveAfterChange (l : Launch) (D : va_G) (ad : Nat → Nat) (κ : KC) {x1 : Int32} {x2 : Int32} {x3 : Int32} {σ : HS} {R : (Int32 × HS)} (h : FX11_haveAfterChange x1 x2 x3 σ = some R) : MtI l 50 ceX D ad κ yX11_haveAfterChange cX11_haveAfterChange 4 (some .int) ({ frames := 4, cells := 0, slots := 0, locals := 101 } : Room) [.ref (ad 0), .int x1, .int x2, .int x3] σ R := by
  refine open_ (by decide) (Nat.le_of_ble_eq_true rfl) (la := [(0, .ref (ad 0)), (1, .int x1), (2, .int x2), (3, .int x3)]) rfl ?_
  intro p e s m below meth c ls C hH hl
  replace C : Cx 50 D ad κ p s m _ meth c cX11_haveAfterChange RX11 4 (some .int) := C
  have hx := C.1
  have hb := C.2.1
  have hown := C.2.2.2.1
  have hts := C.2.2.2.2.1
  rw [FX11_haveAfterChange] at h
  refine lv_aload_n hx hb dX11_haveAfterChange_0 rfl (lv_at hl 0 rfl) ?_
  refine g_get C hH 0 (Nat.le_of_ble_eq_true rfl) rfl fl_X11_39 (v := .ref (ad 5)) rfl dX11_haveAfterChange_1 ?_
  refine lv_aload_n hx hb dX11_haveAfterChange_4 rfl (lv_at hl 0 rfl) ?_
  refine g_get C hH 0 (Nat.le_of_ble_eq_true rfl) rfl fl_X11_35 (v := .ref (ad 4)) rfl dX11_haveAfterChange_5 ?_
  obtain ⟨σ_1, hc_2, h⟩ := bdV_ex h
  refine g_cv (g_runV (rest := []) C hH hl.1 cV_X11_347 5 (Nat.le_of_ble_eq_true rfl) rfl rfl (kX7_copyFrom l D ad κ hc_2) ⟨rfl, rfl⟩ ⟨(Nat.le_of_ble_eq_true rfl), (Nat.le_of_ble_eq_true rfl)⟩ rfl rfl (Nat.le_of_ble_eq_true rfl) dX11_haveAfterChange_8 z00) hH (fun H locs hH => ?_)
  refine lv_aload_n hx hb dX11_haveAfterChange_11 rfl (lv_at hl 0 rfl) ?_
  refine g_get C hH 0 (Nat.le_of_ble_eq_true rfl) rfl fl_X11_39 (v := .ref (ad 5)) rfl dX11_haveAfterChange_12 ?_
  refine lv_iload_n hx hb dX11_haveAfterChange_15 rfl (lv_at hl 2 rfl) ?_
  refine lv_iload_n hx hb dX11_haveAfterChange_16 rfl (lv_at hl 3 rfl) ?_
  obtain ⟨σ_3, hc_4, h⟩ := bdV_ex h
  refine g_cv (g_runV (rest := []) C hH hl.1 cV_X11_188 5 (Nat.le_of_ble_eq_true rfl) rfl rfl (kX7_exchange l D ad κ st_5 hc_4) ⟨rfl, rfl⟩ ⟨(Nat.le_of_ble_eq_true rfl), (Nat.le_of_ble_eq_true rfl)⟩ rfl rfl (Nat.le_of_ble_eq_true rfl) dX11_haveAfterChange_17 z00) hH (fun H locs hH => ?_)
  refine lv_aload_n hx hb dX11_haveAfterChange_20 rfl (lv_at hl 0 rfl) ?_
  refine lv_aload_n hx hb dX11_haveAfterChange_21 rfl (lv_at hl 0 rfl) ?_
  refine g_get C hH 0 (Nat.le_of_ble_eq_true rfl) rfl fl_X11_39 (v := .ref (ad 5)) rfl dX11_haveAfterChange_22 ?_
  refine lv_iload_n hx hb dX11_haveAfterChange_25 rfl (lv_at hl 1 rfl) ?_
  obtain ⟨r_5, σ_6, hc_7, h⟩ := bdI_ex h
  refine g_ci (g_runV (rest := []) C hH hl.1 cV_X11_224 0 (Nat.le_of_ble_eq_true rfl) rfl rfl (kX11_haveIn l D ad κ st_5 hc_7) ⟨rfl, rfl⟩ ⟨(Nat.le_of_ble_eq_true rfl), (Nat.le_of_ble_eq_true rfl)⟩ rfl rfl (Nat.le_of_ble_eq_true rfl) dX11_haveAfterChange_26 z00) hH (fun H locs hH => ?_)
  exact g_ret C hH h dX11_haveAfterChange_29
-- X11_swap
def FX11_swap_54 (k36 : Int32 → Int32 → Int32 → Int32 → Int32 → HS → Option (Int32 × HS)) : Nat → Int32 → Int32 → Int32 → Int32 → Int32 → Int32 → HS → Option (Int32 × HS)
  | 0, _, _, _, _, _, _, _ => none
  | f + 1, x1, x2, x3, x4, x5, x6, σ => if (σ.1 3 0) ≤ x6 then k36 x1 x2 x3 x4 (x5 + 1) σ else bdI (FX11_haveAfterChange x1 x5 x6 σ) fun r_2 σ_3 => if r_2 ≤ x4 then FX11_swap_54 k36 f x1 x2 x3 x4 x5 (x6 + 1) σ_3 else hl_ (((10 : Int32) * x5) + x6) fun x3_6 => FX11_swap_54 k36 f x1 x2 x3_6 r_2 x5 (x6 + 1) σ_3
def FX11_swap_36  : Nat → Int32 → Int32 → Int32 → Int32 → Int32 → HS → Option (Int32 × HS)
  | 0, _, _, _, _, _, _ => none
  | f + 1, x1, x2, x3, x4, x5, σ => if (σ.1 3 0) ≤ x5 then if x2 = 0 then some (x3, σ) else if x3 = (-2 : Int32) then some (x3, σ) else some (x4, σ) else hl_ (x5 + (1 : Int32)) fun x6_10 => FX11_swap_54 (FX11_swap_36  f) fu x1 x2 x3 x4 x5 x6_10 σ
def FX11_swap (x1 : Int32) (x2 : Int32) (σ : HS) : Option (Int32 × HS) :=
  bdI (FX11_isFamily x1 σ) fun r_11 σ_12 => if r_11 = 0 then some ((-1 : Int32), σ_12) else bdI (FX11_within x2 (0 : Int32) (1 : Int32) σ_12) fun r_15 σ_16 => if r_15 = 0 then some ((-1 : Int32), σ_16) else bdI (FX11_haveIn 4 x1 σ_16) fun r_19 σ_20 => FX11_swap_36 fu x1 x2 (-2 : Int32) r_19 (0 : Int32) σ_20
set_option maxHeartbeats 4000000 in
set_option maxRecDepth 100000 in
theorem wX11_swap_54 (C : Cx 50 D ad κ p s m args meth c cX11_swap RX11 8 (some .int)) {R : (Int32 × HS)} {k36 : Int32 → Int32 → Int32 → Int32 → Int32 → HS → Option (Int32 × HS)} (K36 : ∀ (x1 : Int32) (x2 : Int32) (x3 : Int32) (x4 : Int32) (x5 : Int32) (σ : HS) (H : Heap) (locs : List Loc) (ls : Array Slot), k36 x1 x2 x3 x4 x5 σ = some R → Hd 50 ceX D ad κ s σ H locs → lv_has ls 8 [(0, .ref (ad 0)), (1, .int x1), (2, .int x2), (3, .int x3), (4, .int x4), (5, .int x5)] → W p l e ({ frames := 5, cells := 0, slots := 0, locals := 124 } : Room) s m args below meth c H locs 0 0 (MQ below (QI 50 ceX D ad κ R) args s 0 0 (AX 50 ad)) (F0 m 36 ls [])) : ∀ (f : Nat) (x1 : Int32) (x2 : Int32) (x3 : Int32) (x4 : Int32) (x5 : Int32) (x6 : Int32) (σ : HS) (H : Heap) (locs : List Loc) (ls : Array Slot), FX11_swap_54 k36 f x1 x2 x3 x4 x5 x6 σ = some R → Hd 50 ceX D ad κ s σ H locs → lv_has ls 8 [(0, .ref (ad 0)), (1, .int x1), (2, .int x2), (3, .int x3), (4, .int x4), (5, .int x5), (6, .int x6)] → W p l e ({ frames := 5, cells := 0, slots := 0, locals := 124 } : Room) s m args below meth c H locs 0 0 (MQ below (QI 50 ceX D ad κ R) args s 0 0 (AX 50 ad)) (F0 m 54 ls []) := by
  have hx := C.1
  have hb := C.2.1
  have hown := C.2.2.2.1
  have hts := C.2.2.2.2.1
  intro f
  induction f with
  | zero =>
    intro x1 x2 x3 x4 x5 x6 σ H locs ls h hH hl
    cases h
  | succ f ih =>
    intro x1 x2 x3 x4 x5 x6 σ H locs ls h hH hl
    rw [FX11_swap_54] at h
    refine lv_iload hx hb dX11_swap_54 (lv_at hl 6 rfl) ?_
    refine lv_aload_n hx hb dX11_swap_56 rfl (lv_at hl 0 rfl) ?_
    refine g_get C hH 0 (Nat.le_of_ble_eq_true rfl) rfl fl_X11_28 (v := .ref (ad 3)) rfl dX11_swap_57 ?_
    refine g_get C hH 3 (Nat.le_of_ble_eq_true rfl) rfl fl_X11_241 (v := .int (σ.1 3 0)) rfl dX11_swap_60 ?_
    refine lv_icmp_ge (tgt := 103) hx hb dX11_swap_63 (by decide) (fun hq_1 => ?_) (fun hq_1 => ?_)
    · rw [if_pos hq_1] at h
      refine lv_iinc (v := (x5 + 1)) (lv' := [(5, .int (x5 + 1)), (0, .ref (ad 0)), (1, .int x1), (2, .int x2), (3, .int x3), (4, .int x4), (6, .int x6)]) hx hb dX11_swap_103 hl (k := 5) rfl rfl (by decide) rfl (fun ls hl => ?_)
      refine lv_goto (tgt := 36) hx hb dX11_swap_106 (by decide) ?_
      exact K36 _ _ _ _ _ _ _ _ _ h hH (lv_sub hl [1, 2, 3, 4, 5, 0] rfl)
    · rw [if_neg hq_1] at h
      refine lv_aload_n hx hb dX11_swap_66 rfl (lv_at hl 0 rfl) ?_
      refine lv_iload_n hx hb dX11_swap_67 rfl (lv_at hl 1 rfl) ?_
      refine lv_iload hx hb dX11_swap_68 (lv_at hl 5 rfl) ?_
      refine lv_iload hx hb dX11_swap_70 (lv_at hl 6 rfl) ?_
      obtain ⟨r_2, σ_3, hc_4, h⟩ := bdI_ex h
      refine g_ci (g_runV (rest := []) C hH hl.1 cV_X11_244 0 (Nat.le_of_ble_eq_true rfl) rfl rfl (kX11_haveAfterChange l D ad κ hc_4) ⟨rfl, rfl⟩ ⟨(Nat.le_of_ble_eq_true rfl), (Nat.le_of_ble_eq_true rfl)⟩ rfl rfl (Nat.le_of_ble_eq_true rfl) dX11_swap_72 z00) hH (fun H locs hH => ?_)
      refine lv_istore (lv' := [(7, .int r_2), (0, .ref (ad 0)), (1, .int x1), (2, .int x2), (3, .int x3), (4, .int x4), (5, .int x5), (6, .int x6)]) hx hb dX11_swap_75 hl (by decide) rfl (fun ls hl => ?_)
      refine lv_iload hx hb dX11_swap_77 (lv_at hl 0 rfl) ?_
      refine lv_iload hx hb dX11_swap_79 (lv_at hl 5 rfl) ?_
      refine lv_icmp_le (tgt := 97) hx hb dX11_swap_81 (by decide) (fun hq_5 => ?_) (fun hq_5 => ?_)
      · rw [if_pos hq_5] at h
        refine lv_iinc (v := (x6 + 1)) (lv' := [(6, .int (x6 + 1)), (7, .int r_2), (0, .ref (ad 0)), (1, .int x1), (2, .int x2), (3, .int x3), (4, .int x4), (5, .int x5)]) hx hb dX11_swap_97 hl (k := 7) rfl rfl (by decide) rfl (fun ls hl => ?_)
        refine lv_goto (tgt := 54) hx hb dX11_swap_100 (by decide) ?_
        exact ih _ _ _ _ _ _ _ _ _ _ h hH (lv_sub hl [2, 3, 4, 5, 6, 7, 0] rfl)
      · rw [if_neg hq_5] at h
        refine lv_bipush (v := 10) hx hb dX11_swap_84 (by decide) ?_
        refine lv_iload hx hb dX11_swap_86 (lv_at hl 6 rfl) ?_
        refine lv_imul hx hb dX11_swap_88 ?_
        refine lv_iload hx hb dX11_swap_89 (lv_at hl 7 rfl) ?_
        refine lv_iadd hx hb dX11_swap_91 ?_
        obtain ⟨x3_6, ex3_6, h⟩ := hl_ex h
        refine lv_eqi ex3_6 ?_
        refine lv_istore_n (lv' := [(3, .int x3_6), (7, .int r_2), (0, .ref (ad 0)), (1, .int x1), (2, .int x2), (4, .int x4), (5, .int x5), (6, .int x6)]) hx hb dX11_swap_92 rfl hl (by decide) rfl (fun ls hl => ?_)
        refine lv_iload hx hb dX11_swap_93 (lv_at hl 1 rfl) ?_
        refine lv_istore (lv' := [(4, .int r_2), (3, .int x3_6), (7, .int r_2), (0, .ref (ad 0)), (1, .int x1), (2, .int x2), (5, .int x5), (6, .int x6)]) hx hb dX11_swap_95 hl (by decide) rfl (fun ls hl => ?_)
        refine lv_iinc (v := (x6 + 1)) (lv' := [(6, .int (x6 + 1)), (4, .int r_2), (3, .int x3_6), (7, .int r_2), (0, .ref (ad 0)), (1, .int x1), (2, .int x2), (5, .int x5)]) hx hb dX11_swap_97 hl (k := 7) rfl rfl (by decide) rfl (fun ls hl => ?_)
        refine lv_goto (tgt := 54) hx hb dX11_swap_100 (by decide) ?_
        exact ih _ _ _ _ _ _ _ _ _ _ h hH (lv_sub hl [4, 5, 6, 2, 1, 7, 0] rfl)
set_option maxHeartbeats 4000000 in
set_option maxRecDepth 100000 in
theorem wX11_swap_36 (C : Cx 50 D ad κ p s m args meth c cX11_swap RX11 8 (some .int)) {R : (Int32 × HS)} : ∀ (f : Nat) (x1 : Int32) (x2 : Int32) (x3 : Int32) (x4 : Int32) (x5 : Int32) (σ : HS) (H : Heap) (locs : List Loc) (ls : Array Slot), FX11_swap_36  f x1 x2 x3 x4 x5 σ = some R → Hd 50 ceX D ad κ s σ H locs → lv_has ls 8 [(0, .ref (ad 0)), (1, .int x1), (2, .int x2), (3, .int x3), (4, .int x4), (5, .int x5)] → W p l e ({ frames := 5, cells := 0, slots := 0, locals := 124 } : Room) s m args below meth c H locs 0 0 (MQ below (QI 50 ceX D ad κ R) args s 0 0 (AX 50 ad)) (F0 m 36 ls []) := by
  have hx := C.1
  have hb := C.2.1
  have hown := C.2.2.2.1
  have hts := C.2.2.2.2.1
  intro f
  induction f with
  | zero =>
    intro x1 x2 x3 x4 x5 σ H locs ls h hH hl
    cases h
  | succ f ih =>
    intro x1 x2 x3 x4 x5 σ H locs ls h hH hl
    rw [FX11_swap_36] at h
    refine lv_iload hx hb dX11_swap_36 (lv_at hl 5 rfl) ?_
    refine lv_aload_n hx hb dX11_swap_38 rfl (lv_at hl 0 rfl) ?_
    refine g_get C hH 0 (Nat.le_of_ble_eq_true rfl) rfl fl_X11_28 (v := .ref (ad 3)) rfl dX11_swap_39 ?_
    refine g_get C hH 3 (Nat.le_of_ble_eq_true rfl) rfl fl_X11_241 (v := .int (σ.1 3 0)) rfl dX11_swap_42 ?_
    refine lv_icmp_ge (tgt := 109) hx hb dX11_swap_45 (by decide) (fun hq_7 => ?_) (fun hq_7 => ?_)
    · rw [if_pos hq_7] at h
      refine lv_iload_n hx hb dX11_swap_109 rfl (lv_at hl 2 rfl) ?_
      refine lv_if_eq (tgt := 119) hx hb dX11_swap_110 (by decide) (fun hq_8 => ?_) (fun hq_8 => ?_)
      · rw [if_pos hq_8] at h
        refine lv_iload_n hx hb dX11_swap_119 rfl (lv_at hl 3 rfl) ?_
        refine lv_goto (tgt := 125) hx hb dX11_swap_120 (by decide) ?_
        exact g_ret C hH h dX11_swap_125
      · rw [if_neg hq_8] at h
        refine lv_iload_n hx hb dX11_swap_113 rfl (lv_at hl 3 rfl) ?_
        refine lv_bipush (v := (-2)) hx hb dX11_swap_114 (by decide) ?_
        refine lv_icmp_ne (tgt := 123) hx hb dX11_swap_116 (by decide) (fun hq_9 => ?_) (fun hq_9 => ?_)
        · rw [if_neg hq_9] at h
          refine lv_iload hx hb dX11_swap_123 (lv_at hl 4 rfl) ?_
          exact g_ret C hH h dX11_swap_125
        · rw [if_pos hq_9] at h
          refine lv_iload_n hx hb dX11_swap_119 rfl (lv_at hl 3 rfl) ?_
          refine lv_goto (tgt := 125) hx hb dX11_swap_120 (by decide) ?_
          exact g_ret C hH h dX11_swap_125
    · rw [if_neg hq_7] at h
      refine lv_iload hx hb dX11_swap_48 (lv_at hl 5 rfl) ?_
      refine lv_iconst (v := 1) hx hb dX11_swap_50 (by decide) ?_
      refine lv_iadd hx hb dX11_swap_51 ?_
      obtain ⟨x6_10, ex6_10, h⟩ := hl_ex h
      refine lv_eqi ex6_10 ?_
      refine lv_istore (lv' := [(6, .int x6_10), (0, .ref (ad 0)), (1, .int x1), (2, .int x2), (3, .int x3), (4, .int x4), (5, .int x5)]) hx hb dX11_swap_52 hl (by decide) rfl (fun ls hl => ?_)
      exact wX11_swap_54 C ih _ _ _ _ _ _ _ _ _ _ _ h hH (lv_sub hl [1, 2, 3, 4, 5, 6, 0] rfl)
set_option maxHeartbeats 4000000 in
set_option maxRecDepth 100000 in
theorem kX11_swap (l : Launch) (D : va_G) (ad : Nat → Nat) (κ : KC) {x1 : Int32} {x2 : Int32} {σ : HS} {R : (Int32 × HS)} (h : FX11_swap x1 x2 σ = some R) : MtI l 50 ceX D ad κ yX11_swap cX11_swap 8 (some .int) ({ frames := 5, cells := 0, slots := 0, locals := 124 } : Room) [.ref (ad 0), .int x1, .int x2] σ R := by
  refine open_ (by decide) (Nat.le_of_ble_eq_true rfl) (la := [(0, .ref (ad 0)), (1, .int x1), (2, .int x2)]) rfl ?_
  intro p e s m below meth c ls C hH hl
  replace C : Cx 50 D ad κ p s m _ meth c cX11_swap RX11 8 (some .int) := C
  have hx := C.1
  have hb := C.2.1
  have hown := C.2.2.2.1
  have hts := C.2.2.2.2.1
  rw [FX11_swap] at h
  refine lv_aload_n hx hb dX11_swap_0 rfl (lv_at hl 0 rfl) ?_
  refine lv_iload_n hx hb dX11_swap_1 rfl (lv_at hl 1 rfl) ?_
  obtain ⟨r_11, σ_12, hc_13, h⟩ := bdI_ex h
  refine g_ci (g_runV (rest := []) C hH hl.1 cV_X11_149 0 (Nat.le_of_ble_eq_true rfl) rfl rfl (kX11_isFamily l D ad κ hc_13) ⟨rfl, rfl⟩ ⟨(Nat.le_of_ble_eq_true rfl), (Nat.le_of_ble_eq_true rfl)⟩ rfl rfl (Nat.le_of_ble_eq_true rfl) dX11_swap_2 z00) hH (fun H locs hH => ?_)
  refine lv_if_eq (tgt := 17) hx hb dX11_swap_5 (by decide) (fun hq_14 => ?_) (fun hq_14 => ?_)
  · rw [if_pos hq_14] at h
    refine lv_iconst (v := (-1)) hx hb dX11_swap_17 (by decide) ?_
    exact g_ret C hH h dX11_swap_18
  · rw [if_neg hq_14] at h
    refine lv_iload_n hx hb dX11_swap_8 rfl (lv_at hl 2 rfl) ?_
    refine lv_iconst (v := 0) hx hb dX11_swap_9 (by decide) ?_
    refine lv_iconst (v := 1) hx hb dX11_swap_10 (by decide) ?_
    obtain ⟨r_15, σ_16, hc_17, h⟩ := bdI_ex h
    refine g_ci (g_runS (rest := []) C hH hl.1 cS_X11_105 (kX11_within l D ad κ hc_17) ⟨rfl, rfl⟩ ⟨(Nat.le_of_ble_eq_true rfl), (Nat.le_of_ble_eq_true rfl)⟩ rfl rfl (Nat.le_of_ble_eq_true rfl) dX11_swap_11 z00) hH (fun H locs hH => ?_)
    refine lv_if_ne (tgt := 19) hx hb dX11_swap_14 (by decide) (fun hq_18 => ?_) (fun hq_18 => ?_)
    · rw [if_neg hq_18] at h
      refine lv_bipush (v := (-2)) hx hb dX11_swap_19 (by decide) ?_
      refine lv_istore_n (lv' := [(3, .int (-2 : Int32)), (0, .ref (ad 0)), (1, .int x1), (2, .int x2)]) hx hb dX11_swap_21 rfl hl (by decide) rfl (fun ls hl => ?_)
      refine lv_aload_n hx hb dX11_swap_22 rfl (lv_at hl 1 rfl) ?_
      refine lv_aload_n hx hb dX11_swap_23 rfl (lv_at hl 1 rfl) ?_
      refine g_get C hH 0 (Nat.le_of_ble_eq_true rfl) rfl fl_X11_35 (v := .ref (ad 4)) rfl dX11_swap_24 ?_
      refine lv_iload_n hx hb dX11_swap_27 rfl (lv_at hl 2 rfl) ?_
      obtain ⟨r_19, σ_20, hc_21, h⟩ := bdI_ex h
      refine g_ci (g_runV (rest := []) C hH hl.1 cV_X11_224 0 (Nat.le_of_ble_eq_true rfl) rfl rfl (kX11_haveIn l D ad κ st_4 hc_21) ⟨rfl, rfl⟩ ⟨(Nat.le_of_ble_eq_true rfl), (Nat.le_of_ble_eq_true rfl)⟩ rfl rfl (Nat.le_of_ble_eq_true rfl) dX11_swap_28 z00) hH (fun H locs hH => ?_)
      refine lv_istore (lv' := [(4, .int r_19), (3, .int (-2 : Int32)), (0, .ref (ad 0)), (1, .int x1), (2, .int x2)]) hx hb dX11_swap_31 hl (by decide) rfl (fun ls hl => ?_)
      refine lv_iconst (v := 0) hx hb dX11_swap_33 (by decide) ?_
      refine lv_istore (lv' := [(5, .int (0 : Int32)), (4, .int r_19), (3, .int (-2 : Int32)), (0, .ref (ad 0)), (1, .int x1), (2, .int x2)]) hx hb dX11_swap_34 hl (by decide) rfl (fun ls hl => ?_)
      exact wX11_swap_36 C _ _ _ _ _ _ _ _ _ _ h hH (lv_sub hl [3, 4, 5, 2, 1, 0] rfl)
    · rw [if_pos hq_18] at h
      refine lv_iconst (v := (-1)) hx hb dX11_swap_17 (by decide) ?_
      exact g_ret C hH h dX11_swap_18
-- X11_isMatter
def FX11_isMatter (x0 : Int32) (σ : HS) : Option (Int32 × HS) :=
  bdI (FX11_within x0 (0 : Int32) (5 : Int32) σ) fun r_1 σ_2 => gd (isB r_1) (some (r_1, σ_2))
set_option maxHeartbeats 4000000 in
set_option maxRecDepth 100000 in
theorem kX11_isMatter (l : Launch) (D : va_G) (ad : Nat → Nat) (κ : KC) {x0 : Int32} {σ : HS} {R : (Int32 × HS)} (h : FX11_isMatter x0 σ = some R) : MtI l 50 ceX D ad κ yX11_isMatter cX11_isMatter 1 (some .boolean) ({ frames := 1, cells := 0, slots := 0, locals := 22 } : Room) [.int x0] σ R := by
  refine open_ (by decide) (Nat.le_of_ble_eq_true rfl) (la := [(0, .int x0)]) rfl ?_
  intro p e s m below meth c ls C hH hl
  replace C : Cx 50 D ad κ p s m _ meth c cX11_isMatter RX11 1 (some .boolean) := C
  have hx := C.1
  have hb := C.2.1
  have hown := C.2.2.2.1
  have hts := C.2.2.2.2.1
  rw [FX11_isMatter] at h
  refine lv_iload_n hx hb dX11_isMatter_0 rfl (lv_at hl 0 rfl) ?_
  refine lv_iconst (v := 0) hx hb dX11_isMatter_1 (by decide) ?_
  refine lv_iconst (v := 5) hx hb dX11_isMatter_2 (by decide) ?_
  obtain ⟨r_1, σ_2, hc_3, h⟩ := bdI_ex h
  refine g_ci (g_runS (rest := []) C hH hl.1 cS_X11_105 (kX11_within l D ad κ hc_3) ⟨rfl, rfl⟩ ⟨(Nat.le_of_ble_eq_true rfl), (Nat.le_of_ble_eq_true rfl)⟩ rfl rfl (Nat.le_of_ble_eq_true rfl) dX11_isMatter_3 z00) hH (fun H locs hH => ?_)
  obtain ⟨hb_4, h⟩ := gd_ex h
  exact g_retZ C hH hb_4 h dX11_isMatter_6
-- X11_sure
def FX11_sure (x1 : Int32) (x2 : Int32) (σ : HS) : Option (Int32 × HS) :=
  bdI (FX11_isFamily x1 σ) fun r_1 σ_2 => if r_1 = 0 then some ((-1 : Int32), σ_2) else bdI (FX11_isMatter x2 σ_2) fun r_5 σ_6 => if r_5 = 0 then some ((-1 : Int32), σ_6) else bdV (FX1_look x2 σ_6) fun σ_9 => bdI (FX7_partsOf 4 x1 σ_9) fun r_11 σ_12 => bdI (FX1_isMetBy r_11 σ_12) fun r_14 σ_15 => if r_14 = 0 then some ((0 : Int32), σ_15) else some ((1 : Int32), σ_15)
set_option maxHeartbeats 4000000 in
set_option maxRecDepth 100000 in
theorem kX11_sure (l : Launch) (D : va_G) (ad : Nat → Nat) (κ : KC) {x1 : Int32} {x2 : Int32} {σ : HS} {R : (Int32 × HS)} (h : FX11_sure x1 x2 σ = some R) : MtI l 50 ceX D ad κ yX11_sure cX11_sure 3 (some .int) ({ frames := 4, cells := 0, slots := 0, locals := 97 } : Room) [.ref (ad 0), .int x1, .int x2] σ R := by
  refine open_ (by decide) (Nat.le_of_ble_eq_true rfl) (la := [(0, .ref (ad 0)), (1, .int x1), (2, .int x2)]) rfl ?_
  intro p e s m below meth c ls C hH hl
  replace C : Cx 50 D ad κ p s m _ meth c cX11_sure RX11 3 (some .int) := C
  have hx := C.1
  have hb := C.2.1
  have hown := C.2.2.2.1
  have hts := C.2.2.2.2.1
  rw [FX11_sure] at h
  refine lv_aload_n hx hb dX11_sure_0 rfl (lv_at hl 0 rfl) ?_
  refine lv_iload_n hx hb dX11_sure_1 rfl (lv_at hl 1 rfl) ?_
  obtain ⟨r_1, σ_2, hc_3, h⟩ := bdI_ex h
  refine g_ci (g_runV (rest := []) C hH hl.1 cV_X11_149 0 (Nat.le_of_ble_eq_true rfl) rfl rfl (kX11_isFamily l D ad κ hc_3) ⟨rfl, rfl⟩ ⟨(Nat.le_of_ble_eq_true rfl), (Nat.le_of_ble_eq_true rfl)⟩ rfl rfl (Nat.le_of_ble_eq_true rfl) dX11_sure_2 z00) hH (fun H locs hH => ?_)
  refine lv_if_eq (tgt := 15) hx hb dX11_sure_5 (by decide) (fun hq_4 => ?_) (fun hq_4 => ?_)
  · rw [if_pos hq_4] at h
    refine lv_iconst (v := (-1)) hx hb dX11_sure_15 (by decide) ?_
    exact g_ret C hH h dX11_sure_16
  · rw [if_neg hq_4] at h
    refine lv_iload_n hx hb dX11_sure_8 rfl (lv_at hl 2 rfl) ?_
    obtain ⟨r_5, σ_6, hc_7, h⟩ := bdI_ex h
    refine g_ci (g_runS (rest := []) C hH hl.1 cS_X11_248 (kX11_isMatter l D ad κ hc_7) ⟨rfl, rfl⟩ ⟨(Nat.le_of_ble_eq_true rfl), (Nat.le_of_ble_eq_true rfl)⟩ rfl rfl (Nat.le_of_ble_eq_true rfl) dX11_sure_9 z00) hH (fun H locs hH => ?_)
    refine lv_if_ne (tgt := 17) hx hb dX11_sure_12 (by decide) (fun hq_8 => ?_) (fun hq_8 => ?_)
    · rw [if_neg hq_8] at h
      refine lv_aload_n hx hb dX11_sure_17 rfl (lv_at hl 0 rfl) ?_
      refine g_get C hH 0 (Nat.le_of_ble_eq_true rfl) rfl fl_X11_79 (v := .ref (ad 10)) rfl dX11_sure_18 ?_
      refine lv_aload_n hx hb dX11_sure_21 rfl (lv_at hl 0 rfl) ?_
      refine g_get C hH 0 (Nat.le_of_ble_eq_true rfl) rfl fl_X11_35 (v := .ref (ad 4)) rfl dX11_sure_22 ?_
      refine lv_iload_n hx hb dX11_sure_25 rfl (lv_at hl 2 rfl) ?_
      obtain ⟨σ_9, hc_10, h⟩ := bdV_ex h
      refine g_cv (g_runV (rest := []) C hH hl.1 cV_X11_251 10 (Nat.le_of_ble_eq_true rfl) rfl rfl (kX1_look l D ad κ hc_10) ⟨rfl, rfl⟩ ⟨(Nat.le_of_ble_eq_true rfl), (Nat.le_of_ble_eq_true rfl)⟩ rfl rfl (Nat.le_of_ble_eq_true rfl) dX11_sure_26 z00) hH (fun H locs hH => ?_)
      refine lv_aload_n hx hb dX11_sure_29 rfl (lv_at hl 0 rfl) ?_
      refine g_get C hH 0 (Nat.le_of_ble_eq_true rfl) rfl fl_X11_79 (v := .ref (ad 10)) rfl dX11_sure_30 ?_
      refine lv_aload_n hx hb dX11_sure_33 rfl (lv_at hl 0 rfl) ?_
      refine g_get C hH 0 (Nat.le_of_ble_eq_true rfl) rfl fl_X11_35 (v := .ref (ad 4)) rfl dX11_sure_34 ?_
      refine lv_iload_n hx hb dX11_sure_37 rfl (lv_at hl 1 rfl) ?_
      obtain ⟨r_11, σ_12, hc_13, h⟩ := bdI_ex h
      refine g_ci (g_runV (rest := [.ref (ad 10)]) C hH hl.1 cV_X11_159 4 (Nat.le_of_ble_eq_true rfl) rfl rfl (kX7_partsOf l D ad κ st_4 hc_13) ⟨rfl, rfl⟩ ⟨(Nat.le_of_ble_eq_true rfl), (Nat.le_of_ble_eq_true rfl)⟩ rfl rfl (Nat.le_of_ble_eq_true rfl) dX11_sure_38 z00) hH (fun H locs hH => ?_)
      obtain ⟨r_14, σ_15, hc_16, h⟩ := bdI_ex h
      refine g_ci (g_runV (rest := []) C hH hl.1 cV_X11_255 10 (Nat.le_of_ble_eq_true rfl) rfl rfl (kX1_isMetBy l D ad κ hc_16) ⟨rfl, rfl⟩ ⟨(Nat.le_of_ble_eq_true rfl), (Nat.le_of_ble_eq_true rfl)⟩ rfl rfl (Nat.le_of_ble_eq_true rfl) dX11_sure_41 z00) hH (fun H locs hH => ?_)
      refine lv_if_eq (tgt := 51) hx hb dX11_sure_44 (by decide) (fun hq_17 => ?_) (fun hq_17 => ?_)
      · rw [if_pos hq_17] at h
        refine lv_iconst (v := 0) hx hb dX11_sure_51 (by decide) ?_
        exact g_ret C hH h dX11_sure_52
      · rw [if_neg hq_17] at h
        refine lv_iconst (v := 1) hx hb dX11_sure_47 (by decide) ?_
        refine lv_goto (tgt := 52) hx hb dX11_sure_48 (by decide) ?_
        exact g_ret C hH h dX11_sure_52
    · rw [if_pos hq_8] at h
      refine lv_iconst (v := (-1)) hx hb dX11_sure_15 (by decide) ?_
      exact g_ret C hH h dX11_sure_16
-- X11_mattersThereAre
def FX11_mattersThereAre_4  : Nat → Int32 → Int32 → HS → Option (Int32 × HS)
  | 0, _, _, _ => none
  | f + 1, x1, x2, σ => if (σ.1 3 0) ≤ x2 then some (x1, σ) else bdI (FX7_matterOf 4 x2 σ) fun r_2 σ_3 => hl_ (x1 ||| ((1 : Int32) <<< (r_2 &&& 31))) fun x1_5 => FX11_mattersThereAre_4  f x1_5 (x2 + 1) σ_3
def FX11_mattersThereAre (σ : HS) : Option (Int32 × HS) :=
  FX11_mattersThereAre_4 fu (0 : Int32) (0 : Int32) σ
set_option maxHeartbeats 4000000 in
set_option maxRecDepth 100000 in
theorem wX11_mattersThereAre_4 (C : Cx 50 D ad κ p s m args meth c cX11_mattersThereAre RX11 3 (some .int)) {R : (Int32 × HS)} : ∀ (f : Nat) (x1 : Int32) (x2 : Int32) (σ : HS) (H : Heap) (locs : List Loc) (ls : Array Slot), FX11_mattersThereAre_4  f x1 x2 σ = some R → Hd 50 ceX D ad κ s σ H locs → lv_has ls 3 [(0, .ref (ad 0)), (1, .int x1), (2, .int x2)] → W p l e ({ frames := 1, cells := 0, slots := 0, locals := 21 } : Room) s m args below meth c H locs 0 0 (MQ below (QI 50 ceX D ad κ R) args s 0 0 (AX 50 ad)) (F0 m 4 ls []) := by
  have hx := C.1
  have hb := C.2.1
  have hown := C.2.2.2.1
  have hts := C.2.2.2.2.1
  intro f
  induction f with
  | zero =>
    intro x1 x2 σ H locs ls h hH hl
    cases h
  | succ f ih =>
    intro x1 x2 σ H locs ls h hH hl
    rw [FX11_mattersThereAre_4] at h
    refine lv_iload_n hx hb dX11_mattersThereAre_4 rfl (lv_at hl 2 rfl) ?_
    refine lv_aload_n hx hb dX11_mattersThereAre_5 rfl (lv_at hl 0 rfl) ?_
    refine g_get C hH 0 (Nat.le_of_ble_eq_true rfl) rfl fl_X11_28 (v := .ref (ad 3)) rfl dX11_mattersThereAre_6 ?_
    refine g_get C hH 3 (Nat.le_of_ble_eq_true rfl) rfl fl_X11_241 (v := .int (σ.1 3 0)) rfl dX11_mattersThereAre_9 ?_
    refine lv_icmp_ge (tgt := 34) hx hb dX11_mattersThereAre_12 (by decide) (fun hq_1 => ?_) (fun hq_1 => ?_)
    · rw [if_pos hq_1] at h
      refine lv_iload_n hx hb dX11_mattersThereAre_34 rfl (lv_at hl 1 rfl) ?_
      exact g_ret C hH h dX11_mattersThereAre_35
    · rw [if_neg hq_1] at h
      refine lv_iload_n hx hb dX11_mattersThereAre_15 rfl (lv_at hl 1 rfl) ?_
      refine lv_iconst (v := 1) hx hb dX11_mattersThereAre_16 (by decide) ?_
      refine lv_aload_n hx hb dX11_mattersThereAre_17 rfl (lv_at hl 0 rfl) ?_
      refine g_get C hH 0 (Nat.le_of_ble_eq_true rfl) rfl fl_X11_35 (v := .ref (ad 4)) rfl dX11_mattersThereAre_18 ?_
      refine lv_iload_n hx hb dX11_mattersThereAre_21 rfl (lv_at hl 2 rfl) ?_
      obtain ⟨r_2, σ_3, hc_4, h⟩ := bdI_ex h
      refine g_ci (g_runV (rest := [.int (1 : Int32), .int x1]) C hH hl.1 cV_X11_134 4 (Nat.le_of_ble_eq_true rfl) rfl rfl (kX7_matterOf l D ad κ st_4 hc_4) ⟨rfl, rfl⟩ ⟨(Nat.le_of_ble_eq_true rfl), (Nat.le_of_ble_eq_true rfl)⟩ rfl rfl (Nat.le_of_ble_eq_true rfl) dX11_mattersThereAre_22 z00) hH (fun H locs hH => ?_)
      refine lv_ishl hx hb dX11_mattersThereAre_25 ?_
      refine lv_ior hx hb dX11_mattersThereAre_26 ?_
      obtain ⟨x1_5, ex1_5, h⟩ := hl_ex h
      refine lv_eqi ex1_5 ?_
      refine lv_istore_n (lv' := [(1, .int x1_5), (0, .ref (ad 0)), (2, .int x2)]) hx hb dX11_mattersThereAre_27 rfl hl (by decide) rfl (fun ls hl => ?_)
      refine lv_iinc (v := (x2 + 1)) (lv' := [(2, .int (x2 + 1)), (1, .int x1_5), (0, .ref (ad 0))]) hx hb dX11_mattersThereAre_28 hl (k := 2) rfl rfl (by decide) rfl (fun ls hl => ?_)
      refine lv_goto (tgt := 4) hx hb dX11_mattersThereAre_31 (by decide) ?_
      exact ih _ _ _ _ _ _ h hH (lv_sub hl [2, 1, 0] rfl)
set_option maxHeartbeats 4000000 in
set_option maxRecDepth 100000 in
theorem kX11_mattersThereAre (l : Launch) (D : va_G) (ad : Nat → Nat) (κ : KC) {σ : HS} {R : (Int32 × HS)} (h : FX11_mattersThereAre σ = some R) : MtI l 50 ceX D ad κ yX11_mattersThereAre cX11_mattersThereAre 3 (some .int) ({ frames := 1, cells := 0, slots := 0, locals := 21 } : Room) [.ref (ad 0)] σ R := by
  refine open_ (by decide) (Nat.le_of_ble_eq_true rfl) (la := [(0, .ref (ad 0))]) rfl ?_
  intro p e s m below meth c ls C hH hl
  replace C : Cx 50 D ad κ p s m _ meth c cX11_mattersThereAre RX11 3 (some .int) := C
  have hx := C.1
  have hb := C.2.1
  have hown := C.2.2.2.1
  have hts := C.2.2.2.2.1
  rw [FX11_mattersThereAre] at h
  refine lv_iconst (v := 0) hx hb dX11_mattersThereAre_0 (by decide) ?_
  refine lv_istore_n (lv' := [(1, .int (0 : Int32)), (0, .ref (ad 0))]) hx hb dX11_mattersThereAre_1 rfl hl (by decide) rfl (fun ls hl => ?_)
  refine lv_iconst (v := 0) hx hb dX11_mattersThereAre_2 (by decide) ?_
  refine lv_istore_n (lv' := [(2, .int (0 : Int32)), (1, .int (0 : Int32)), (0, .ref (ad 0))]) hx hb dX11_mattersThereAre_3 rfl hl (by decide) rfl (fun ls hl => ?_)
  exact wX11_mattersThereAre_4 C _ _ _ _ _ _ _ h hH (lv_sub hl [2, 1, 0] rfl)
-- X11_cover
def FX11_cover (x1 : Int32) (x2 : Int32) (σ : HS) : Option (Int32 × HS) :=
  bdI (FX11_isMatter x1 σ) fun r_1 σ_2 => if r_1 = 0 then some ((-1 : Int32), σ_2) else bdI (FX11_within x2 (0 : Int32) (1 : Int32) σ_2) fun r_5 σ_6 => if r_5 = 0 then some ((-1 : Int32), σ_6) else bdI (FX11_mattersThereAre σ_6) fun r_9 σ_10 => if ((r_9 >>> (x1 &&& 31)) &&& (1 : Int32)) = 0 then some ((-2 : Int32), σ_10) else bdV (FX1_look x1 σ_10) fun σ_13 => bdI (FX1_fewestParts σ_13) fun r_15 σ_16 => if x2 = 0 then bdI (FJ6_bitCount_0f7a4 r_15 σ_16) fun r_19 σ_20 => some (r_19, σ_20) else some (r_15, σ_16)
set_option maxHeartbeats 4000000 in
set_option maxRecDepth 100000 in
theorem kX11_cover (l : Launch) (D : va_G) (ad : Nat → Nat) (κ : KC) {x1 : Int32} {x2 : Int32} {σ : HS} {R : (Int32 × HS)} (h : FX11_cover x1 x2 σ = some R) : MtI l 50 ceX D ad κ yX11_cover cX11_cover 4 (some .int) ({ frames := 4, cells := 0, slots := 0, locals := 97 } : Room) [.ref (ad 0), .int x1, .int x2] σ R := by
  refine open_ (by decide) (Nat.le_of_ble_eq_true rfl) (la := [(0, .ref (ad 0)), (1, .int x1), (2, .int x2)]) rfl ?_
  intro p e s m below meth c ls C hH hl
  replace C : Cx 50 D ad κ p s m _ meth c cX11_cover RX11 4 (some .int) := C
  have hx := C.1
  have hb := C.2.1
  have hown := C.2.2.2.1
  have hts := C.2.2.2.2.1
  rw [FX11_cover] at h
  refine lv_iload_n hx hb dX11_cover_0 rfl (lv_at hl 1 rfl) ?_
  obtain ⟨r_1, σ_2, hc_3, h⟩ := bdI_ex h
  refine g_ci (g_runS (rest := []) C hH hl.1 cS_X11_248 (kX11_isMatter l D ad κ hc_3) ⟨rfl, rfl⟩ ⟨(Nat.le_of_ble_eq_true rfl), (Nat.le_of_ble_eq_true rfl)⟩ rfl rfl (Nat.le_of_ble_eq_true rfl) dX11_cover_1 z00) hH (fun H locs hH => ?_)
  refine lv_if_eq (tgt := 16) hx hb dX11_cover_4 (by decide) (fun hq_4 => ?_) (fun hq_4 => ?_)
  · rw [if_pos hq_4] at h
    refine lv_iconst (v := (-1)) hx hb dX11_cover_16 (by decide) ?_
    exact g_ret C hH h dX11_cover_17
  · rw [if_neg hq_4] at h
    refine lv_iload_n hx hb dX11_cover_7 rfl (lv_at hl 2 rfl) ?_
    refine lv_iconst (v := 0) hx hb dX11_cover_8 (by decide) ?_
    refine lv_iconst (v := 1) hx hb dX11_cover_9 (by decide) ?_
    obtain ⟨r_5, σ_6, hc_7, h⟩ := bdI_ex h
    refine g_ci (g_runS (rest := []) C hH hl.1 cS_X11_105 (kX11_within l D ad κ hc_7) ⟨rfl, rfl⟩ ⟨(Nat.le_of_ble_eq_true rfl), (Nat.le_of_ble_eq_true rfl)⟩ rfl rfl (Nat.le_of_ble_eq_true rfl) dX11_cover_10 z00) hH (fun H locs hH => ?_)
    refine lv_if_ne (tgt := 18) hx hb dX11_cover_13 (by decide) (fun hq_8 => ?_) (fun hq_8 => ?_)
    · rw [if_neg hq_8] at h
      refine lv_aload_n hx hb dX11_cover_18 rfl (lv_at hl 0 rfl) ?_
      obtain ⟨r_9, σ_10, hc_11, h⟩ := bdI_ex h
      refine g_ci (g_runV (rest := []) C hH hl.1 cV_X11_258 0 (Nat.le_of_ble_eq_true rfl) rfl rfl (kX11_mattersThereAre l D ad κ hc_11) ⟨rfl, rfl⟩ ⟨(Nat.le_of_ble_eq_true rfl), (Nat.le_of_ble_eq_true rfl)⟩ rfl rfl (Nat.le_of_ble_eq_true rfl) dX11_cover_19 z00) hH (fun H locs hH => ?_)
      refine lv_iload_n hx hb dX11_cover_22 rfl (lv_at hl 1 rfl) ?_
      refine lv_ishr hx hb dX11_cover_23 ?_
      refine lv_iconst (v := 1) hx hb dX11_cover_24 (by decide) ?_
      refine lv_iand hx hb dX11_cover_25 ?_
      refine lv_if_ne (tgt := 32) hx hb dX11_cover_26 (by decide) (fun hq_12 => ?_) (fun hq_12 => ?_)
      · rw [if_neg hq_12] at h
        refine lv_aload_n hx hb dX11_cover_32 rfl (lv_at hl 0 rfl) ?_
        refine g_get C hH 0 (Nat.le_of_ble_eq_true rfl) rfl fl_X11_79 (v := .ref (ad 10)) rfl dX11_cover_33 ?_
        refine lv_aload_n hx hb dX11_cover_36 rfl (lv_at hl 0 rfl) ?_
        refine g_get C hH 0 (Nat.le_of_ble_eq_true rfl) rfl fl_X11_35 (v := .ref (ad 4)) rfl dX11_cover_37 ?_
        refine lv_iload_n hx hb dX11_cover_40 rfl (lv_at hl 1 rfl) ?_
        obtain ⟨σ_13, hc_14, h⟩ := bdV_ex h
        refine g_cv (g_runV (rest := []) C hH hl.1 cV_X11_251 10 (Nat.le_of_ble_eq_true rfl) rfl rfl (kX1_look l D ad κ hc_14) ⟨rfl, rfl⟩ ⟨(Nat.le_of_ble_eq_true rfl), (Nat.le_of_ble_eq_true rfl)⟩ rfl rfl (Nat.le_of_ble_eq_true rfl) dX11_cover_41 z00) hH (fun H locs hH => ?_)
        refine lv_aload_n hx hb dX11_cover_44 rfl (lv_at hl 0 rfl) ?_
        refine g_get C hH 0 (Nat.le_of_ble_eq_true rfl) rfl fl_X11_79 (v := .ref (ad 10)) rfl dX11_cover_45 ?_
        obtain ⟨r_15, σ_16, hc_17, h⟩ := bdI_ex h
        refine g_ci (g_runV (rest := []) C hH hl.1 cV_X11_261 10 (Nat.le_of_ble_eq_true rfl) rfl rfl (kX1_fewestParts l D ad κ hc_17) ⟨rfl, rfl⟩ ⟨(Nat.le_of_ble_eq_true rfl), (Nat.le_of_ble_eq_true rfl)⟩ rfl rfl (Nat.le_of_ble_eq_true rfl) dX11_cover_48 z00) hH (fun H locs hH => ?_)
        refine lv_istore_n (lv' := [(3, .int r_15), (0, .ref (ad 0)), (1, .int x1), (2, .int x2)]) hx hb dX11_cover_51 rfl hl (by decide) rfl (fun ls hl => ?_)
        refine lv_iload_n hx hb dX11_cover_52 rfl (lv_at hl 3 rfl) ?_
        refine lv_if_ne (tgt := 63) hx hb dX11_cover_53 (by decide) (fun hq_18 => ?_) (fun hq_18 => ?_)
        · rw [if_neg hq_18] at h
          refine lv_iload_n hx hb dX11_cover_63 rfl (lv_at hl 0 rfl) ?_
          exact g_ret C hH h dX11_cover_64
        · rw [if_pos hq_18] at h
          refine lv_iload_n hx hb dX11_cover_56 rfl (lv_at hl 0 rfl) ?_
          obtain ⟨r_19, σ_20, hc_21, h⟩ := bdI_ex h
          refine g_ci (g_runS (rest := []) C hH hl.1 cS_X11_264 (kJ6_bitCount_0f7a4 l D ad κ hc_21) ⟨rfl, rfl⟩ ⟨(Nat.le_of_ble_eq_true rfl), (Nat.le_of_ble_eq_true rfl)⟩ rfl rfl (Nat.le_of_ble_eq_true rfl) dX11_cover_57 z00) hH (fun H locs hH => ?_)
          refine lv_goto (tgt := 64) hx hb dX11_cover_60 (by decide) ?_
          exact g_ret C hH h dX11_cover_64
      · rw [if_pos hq_12] at h
        refine lv_bipush (v := (-2)) hx hb dX11_cover_29 (by decide) ?_
        exact g_ret C hH h dX11_cover_31
    · rw [if_pos hq_8] at h
      refine lv_iconst (v := (-1)) hx hb dX11_cover_16 (by decide) ?_
      exact g_ret C hH h dX11_cover_17
-- X11_gainByOneMore
def FX11_gainByOneMore (x1 : Int32) (x2 : Int32) (σ : HS) : Option (Int32 × HS) :=
  gd (ix x2 33) (if (σ.1 14 (x2.toNatClampNeg)) < (9 : Int32) then bdV (FX7_copyFrom σ) fun σ_3 => gd (ix x2 33) (gd (ix x2 33) (hl_ (pI σ_3 15 (x2.toNatClampNeg) ((σ_3.1 15 (x2.toNatClampNeg)) + (1 : Int32))) fun σ_7 => bdI (FX11_haveIn 5 x1 σ_7) fun r_8 σ_9 => bdI (FX11_haveIn 4 x1 σ_9) fun r_11 σ_12 => some ((r_8 - r_11), σ_12))) else some ((0 : Int32), σ))
set_option maxHeartbeats 4000000 in
set_option maxRecDepth 100000 in
theorem kX11_gainByOneMore (l : Launch) (D : va_G) (ad : Nat → Nat) (κ : KC) {x1 : Int32} {x2 : Int32} {σ : HS} {R : (Int32 × HS)} (h : FX11_gainByOneMore x1 x2 σ = some R) : MtI l 50 ceX D ad κ yX11_gainByOneMore cX11_gainByOneMore 3 (some .int) ({ frames := 4, cells := 0, slots := 0, locals := 101 } : Room) [.ref (ad 0), .int x1, .int x2] σ R := by
  refine open_ (by decide) (Nat.le_of_ble_eq_true rfl) (la := [(0, .ref (ad 0)), (1, .int x1), (2, .int x2)]) rfl ?_
  intro p e s m below meth c ls C hH hl
  replace C : Cx 50 D ad κ p s m _ meth c cX11_gainByOneMore RX11 3 (some .int) := C
  have hx := C.1
  have hb := C.2.1
  have hown := C.2.2.2.1
  have hts := C.2.2.2.2.1
  rw [FX11_gainByOneMore] at h
  refine lv_aload_n hx hb dX11_gainByOneMore_0 rfl (lv_at hl 0 rfl) ?_
  refine g_get C hH 0 (Nat.le_of_ble_eq_true rfl) rfl fl_X11_35 (v := .ref (ad 4)) rfl dX11_gainByOneMore_1 ?_
  refine g_get C hH 4 (Nat.le_of_ble_eq_true rfl) rfl fl_X11_203 (v := .ref (ad 14)) rfl dX11_gainByOneMore_4 ?_
  refine lv_iload_n hx hb dX11_gainByOneMore_7 rfl (lv_at hl 2 rfl) ?_
  obtain ⟨hi_1, h⟩ := gd_ex h
  refine g_iald C hH 14 (Nat.le_of_ble_eq_true rfl) rfl (k := (x2.toNatClampNeg)) rfl (ix_in hi_1) dX11_gainByOneMore_8 ?_
  refine lv_bipush (v := 9) hx hb dX11_gainByOneMore_9 (by decide) ?_
  refine lv_icmp_lt (tgt := 16) hx hb dX11_gainByOneMore_11 (by decide) (fun hq_2 => ?_) (fun hq_2 => ?_)
  · rw [if_pos hq_2] at h
    refine lv_aload_n hx hb dX11_gainByOneMore_16 rfl (lv_at hl 0 rfl) ?_
    refine g_get C hH 0 (Nat.le_of_ble_eq_true rfl) rfl fl_X11_39 (v := .ref (ad 5)) rfl dX11_gainByOneMore_17 ?_
    refine lv_aload_n hx hb dX11_gainByOneMore_20 rfl (lv_at hl 0 rfl) ?_
    refine g_get C hH 0 (Nat.le_of_ble_eq_true rfl) rfl fl_X11_35 (v := .ref (ad 4)) rfl dX11_gainByOneMore_21 ?_
    obtain ⟨σ_3, hc_4, h⟩ := bdV_ex h
    refine g_cv (g_runV (rest := []) C hH hl.1 cV_X11_347 5 (Nat.le_of_ble_eq_true rfl) rfl rfl (kX7_copyFrom l D ad κ hc_4) ⟨rfl, rfl⟩ ⟨(Nat.le_of_ble_eq_true rfl), (Nat.le_of_ble_eq_true rfl)⟩ rfl rfl (Nat.le_of_ble_eq_true rfl) dX11_gainByOneMore_24 z00) hH (fun H locs hH => ?_)
    refine lv_aload_n hx hb dX11_gainByOneMore_27 rfl (lv_at hl 0 rfl) ?_
    refine g_get C hH 0 (Nat.le_of_ble_eq_true rfl) rfl fl_X11_39 (v := .ref (ad 5)) rfl dX11_gainByOneMore_28 ?_
    refine g_get C hH 5 (Nat.le_of_ble_eq_true rfl) rfl fl_X11_203 (v := .ref (ad 15)) rfl dX11_gainByOneMore_31 ?_
    refine lv_iload_n hx hb dX11_gainByOneMore_34 rfl (lv_at hl 2 rfl) ?_
    refine lv_dup2_11 hx hb dX11_gainByOneMore_35 rfl rfl ?_
    obtain ⟨hi_5, h⟩ := gd_ex h
    refine g_iald C hH 15 (Nat.le_of_ble_eq_true rfl) rfl (k := (x2.toNatClampNeg)) rfl (ix_in hi_5) dX11_gainByOneMore_36 ?_
    refine lv_iconst (v := 1) hx hb dX11_gainByOneMore_37 (by decide) ?_
    refine lv_iadd hx hb dX11_gainByOneMore_38 ?_
    obtain ⟨hi_6, h⟩ := gd_ex h
    obtain ⟨σ_7, eσ_7, h⟩ := hl_ex h
    refine g_iast C hH 15 (Nat.le_of_ble_eq_true rfl) (fun _ _ => rfl) (k := (x2.toNatClampNeg)) rfl (ix_in hi_6) dX11_gainByOneMore_39 (fun H locs hH => ?_)
    rw [← eσ_7] at hH
    refine lv_aload_n hx hb dX11_gainByOneMore_40 rfl (lv_at hl 0 rfl) ?_
    refine lv_aload_n hx hb dX11_gainByOneMore_41 rfl (lv_at hl 0 rfl) ?_
    refine g_get C hH 0 (Nat.le_of_ble_eq_true rfl) rfl fl_X11_39 (v := .ref (ad 5)) rfl dX11_gainByOneMore_42 ?_
    refine lv_iload_n hx hb dX11_gainByOneMore_45 rfl (lv_at hl 1 rfl) ?_
    obtain ⟨r_8, σ_9, hc_10, h⟩ := bdI_ex h
    refine g_ci (g_runV (rest := []) C hH hl.1 cV_X11_224 0 (Nat.le_of_ble_eq_true rfl) rfl rfl (kX11_haveIn l D ad κ st_5 hc_10) ⟨rfl, rfl⟩ ⟨(Nat.le_of_ble_eq_true rfl), (Nat.le_of_ble_eq_true rfl)⟩ rfl rfl (Nat.le_of_ble_eq_true rfl) dX11_gainByOneMore_46 z00) hH (fun H locs hH => ?_)
    refine lv_aload_n hx hb dX11_gainByOneMore_49 rfl (lv_at hl 0 rfl) ?_
    refine lv_aload_n hx hb dX11_gainByOneMore_50 rfl (lv_at hl 0 rfl) ?_
    refine g_get C hH 0 (Nat.le_of_ble_eq_true rfl) rfl fl_X11_35 (v := .ref (ad 4)) rfl dX11_gainByOneMore_51 ?_
    refine lv_iload_n hx hb dX11_gainByOneMore_54 rfl (lv_at hl 1 rfl) ?_
    obtain ⟨r_11, σ_12, hc_13, h⟩ := bdI_ex h
    refine g_ci (g_runV (rest := [.int r_8]) C hH hl.1 cV_X11_224 0 (Nat.le_of_ble_eq_true rfl) rfl rfl (kX11_haveIn l D ad κ st_4 hc_13) ⟨rfl, rfl⟩ ⟨(Nat.le_of_ble_eq_true rfl), (Nat.le_of_ble_eq_true rfl)⟩ rfl rfl (Nat.le_of_ble_eq_true rfl) dX11_gainByOneMore_55 z00) hH (fun H locs hH => ?_)
    refine lv_isub hx hb dX11_gainByOneMore_58 ?_
    exact g_ret C hH h dX11_gainByOneMore_59
  · rw [if_neg hq_2] at h
    refine lv_iconst (v := 0) hx hb dX11_gainByOneMore_14 (by decide) ?_
    exact g_ret C hH h dX11_gainByOneMore_15
-- X11_pepper
def FX11_pepper (x1 : Int32) (σ : HS) : Option (Int32 × HS) :=
  bdI (FX11_isFamily x1 σ) fun r_1 σ_2 => if r_1 = 0 then some ((-100000000 : Int32), σ_2) else bdI (FX11_gainByOneMore x1 (28 : Int32) σ_2) fun r_5 σ_6 => some (r_5, σ_6)
set_option maxHeartbeats 4000000 in
set_option maxRecDepth 100000 in
theorem kX11_pepper (l : Launch) (D : va_G) (ad : Nat → Nat) (κ : KC) {x1 : Int32} {σ : HS} {R : (Int32 × HS)} (h : FX11_pepper x1 σ = some R) : MtI l 50 ceX D ad κ yX11_pepper cX11_pepper 2 (some .int) ({ frames := 5, cells := 0, slots := 0, locals := 123 } : Room) [.ref (ad 0), .int x1] σ R := by
  refine open_ (by decide) (Nat.le_of_ble_eq_true rfl) (la := [(0, .ref (ad 0)), (1, .int x1)]) rfl ?_
  intro p e s m below meth c ls C hH hl
  replace C : Cx 50 D ad κ p s m _ meth c cX11_pepper RX11 2 (some .int) := C
  have hx := C.1
  have hb := C.2.1
  have hown := C.2.2.2.1
  have hts := C.2.2.2.2.1
  rw [FX11_pepper] at h
  refine lv_aload_n hx hb dX11_pepper_0 rfl (lv_at hl 0 rfl) ?_
  refine lv_iload_n hx hb dX11_pepper_1 rfl (lv_at hl 1 rfl) ?_
  obtain ⟨r_1, σ_2, hc_3, h⟩ := bdI_ex h
  refine g_ci (g_runV (rest := []) C hH hl.1 cV_X11_149 0 (Nat.le_of_ble_eq_true rfl) rfl rfl (kX11_isFamily l D ad κ hc_3) ⟨rfl, rfl⟩ ⟨(Nat.le_of_ble_eq_true rfl), (Nat.le_of_ble_eq_true rfl)⟩ rfl rfl (Nat.le_of_ble_eq_true rfl) dX11_pepper_2 z00) hH (fun H locs hH => ?_)
  refine lv_if_eq (tgt := 18) hx hb dX11_pepper_5 (by decide) (fun hq_4 => ?_) (fun hq_4 => ?_)
  · rw [if_pos hq_4] at h
    refine lv_ldcw (v := (-100000000)) hx hb hown (hts _ kc_X11_272) dX11_pepper_18 ?_
    exact g_ret C hH h dX11_pepper_21
  · rw [if_neg hq_4] at h
    refine lv_aload_n hx hb dX11_pepper_8 rfl (lv_at hl 0 rfl) ?_
    refine lv_iload_n hx hb dX11_pepper_9 rfl (lv_at hl 1 rfl) ?_
    refine lv_bipush (v := 28) hx hb dX11_pepper_10 (by decide) ?_
    obtain ⟨r_5, σ_6, hc_7, h⟩ := bdI_ex h
    refine g_ci (g_runV (rest := []) C hH hl.1 cV_X11_269 0 (Nat.le_of_ble_eq_true rfl) rfl rfl (kX11_gainByOneMore l D ad κ hc_7) ⟨rfl, rfl⟩ ⟨(Nat.le_of_ble_eq_true rfl), (Nat.le_of_ble_eq_true rfl)⟩ rfl rfl (Nat.le_of_ble_eq_true rfl) dX11_pepper_12 z00) hH (fun H locs hH => ?_)
    refine lv_goto (tgt := 21) hx hb dX11_pepper_15 (by decide) ?_
    exact g_ret C hH h dX11_pepper_21
-- X11_soothes
def FX11_soothes (x1 : Int32) (σ : HS) : Option (Int32 × HS) :=
  bdI (FX11_isFamily x1 σ) fun r_1 σ_2 => if r_1 = 0 then some ((-100000000 : Int32), σ_2) else bdI (FX11_gainByOneMore x1 (29 : Int32) σ_2) fun r_5 σ_6 => some (r_5, σ_6)
set_option maxHeartbeats 4000000 in
set_option maxRecDepth 100000 in
theorem kX11_soothes (l : Launch) (D : va_G) (ad : Nat → Nat) (κ : KC) {x1 : Int32} {σ : HS} {R : (Int32 × HS)} (h : FX11_soothes x1 σ = some R) : MtI l 50 ceX D ad κ yX11_soothes cX11_soothes 2 (some .int) ({ frames := 5, cells := 0, slots := 0, locals := 123 } : Room) [.ref (ad 0), .int x1] σ R := by
  refine open_ (by decide) (Nat.le_of_ble_eq_true rfl) (la := [(0, .ref (ad 0)), (1, .int x1)]) rfl ?_
  intro p e s m below meth c ls C hH hl
  replace C : Cx 50 D ad κ p s m _ meth c cX11_soothes RX11 2 (some .int) := C
  have hx := C.1
  have hb := C.2.1
  have hown := C.2.2.2.1
  have hts := C.2.2.2.2.1
  rw [FX11_soothes] at h
  refine lv_aload_n hx hb dX11_soothes_0 rfl (lv_at hl 0 rfl) ?_
  refine lv_iload_n hx hb dX11_soothes_1 rfl (lv_at hl 1 rfl) ?_
  obtain ⟨r_1, σ_2, hc_3, h⟩ := bdI_ex h
  refine g_ci (g_runV (rest := []) C hH hl.1 cV_X11_149 0 (Nat.le_of_ble_eq_true rfl) rfl rfl (kX11_isFamily l D ad κ hc_3) ⟨rfl, rfl⟩ ⟨(Nat.le_of_ble_eq_true rfl), (Nat.le_of_ble_eq_true rfl)⟩ rfl rfl (Nat.le_of_ble_eq_true rfl) dX11_soothes_2 z00) hH (fun H locs hH => ?_)
  refine lv_if_eq (tgt := 18) hx hb dX11_soothes_5 (by decide) (fun hq_4 => ?_) (fun hq_4 => ?_)
  · rw [if_pos hq_4] at h
    refine lv_ldcw (v := (-100000000)) hx hb hown (hts _ kc_X11_272) dX11_soothes_18 ?_
    exact g_ret C hH h dX11_soothes_21
  · rw [if_neg hq_4] at h
    refine lv_aload_n hx hb dX11_soothes_8 rfl (lv_at hl 0 rfl) ?_
    refine lv_iload_n hx hb dX11_soothes_9 rfl (lv_at hl 1 rfl) ?_
    refine lv_bipush (v := 29) hx hb dX11_soothes_10 (by decide) ?_
    obtain ⟨r_5, σ_6, hc_7, h⟩ := bdI_ex h
    refine g_ci (g_runV (rest := []) C hH hl.1 cV_X11_269 0 (Nat.le_of_ble_eq_true rfl) rfl rfl (kX11_gainByOneMore l D ad κ hc_7) ⟨rfl, rfl⟩ ⟨(Nat.le_of_ble_eq_true rfl), (Nat.le_of_ble_eq_true rfl)⟩ rfl rfl (Nat.le_of_ble_eq_true rfl) dX11_soothes_12 z00) hH (fun H locs hH => ?_)
    refine lv_goto (tgt := 21) hx hb dX11_soothes_15 (by decide) ?_
    exact g_ret C hH h dX11_soothes_21
-- X11_choicesOf
def FX11_choicesOf (x1 : Int32) (σ : HS) : Option (Int32 × HS) :=
  gd (ix x1 33) (some ((minI (3 : Int32) ((9 : Int32) - (σ.1 14 (x1.toNatClampNeg)))), σ))
set_option maxHeartbeats 4000000 in
set_option maxRecDepth 100000 in
theorem kX11_choicesOf (l : Launch) (D : va_G) (ad : Nat → Nat) (κ : KC) {x1 : Int32} {σ : HS} {R : (Int32 × HS)} (h : FX11_choicesOf x1 σ = some R) : MtI l 50 ceX D ad κ yX11_choicesOf cX11_choicesOf 2 (some .int) ({ frames := 1, cells := 0, slots := 0, locals := 21 } : Room) [.ref (ad 0), .int x1] σ R := by
  refine open_ (by decide) (Nat.le_of_ble_eq_true rfl) (la := [(0, .ref (ad 0)), (1, .int x1)]) rfl ?_
  intro p e s m below meth c ls C hH hl
  replace C : Cx 50 D ad κ p s m _ meth c cX11_choicesOf RX11 2 (some .int) := C
  have hx := C.1
  have hb := C.2.1
  have hown := C.2.2.2.1
  have hts := C.2.2.2.2.1
  rw [FX11_choicesOf] at h
  refine lv_iconst (v := 3) hx hb dX11_choicesOf_0 (by decide) ?_
  refine lv_bipush (v := 9) hx hb dX11_choicesOf_1 (by decide) ?_
  refine lv_aload_n hx hb dX11_choicesOf_3 rfl (lv_at hl 0 rfl) ?_
  refine g_get C hH 0 (Nat.le_of_ble_eq_true rfl) rfl fl_X11_35 (v := .ref (ad 4)) rfl dX11_choicesOf_4 ?_
  refine g_get C hH 4 (Nat.le_of_ble_eq_true rfl) rfl fl_X11_203 (v := .ref (ad 14)) rfl dX11_choicesOf_7 ?_
  refine lv_iload_n hx hb dX11_choicesOf_10 rfl (lv_at hl 1 rfl) ?_
  obtain ⟨hi_1, h⟩ := gd_ex h
  refine g_iald C hH 14 (Nat.le_of_ble_eq_true rfl) rfl (k := (x1.toNatClampNeg)) rfl (ix_in hi_1) dX11_choicesOf_11 ?_
  refine lv_isub hx hb dX11_choicesOf_12 ?_
  refine g_min C hl.1 mmin_X11_227 (Nat.le_of_ble_eq_true rfl) (Nat.le_of_ble_eq_true rfl) z00 dX11_choicesOf_13 ?_
  exact g_ret C hH h dX11_choicesOf_16
-- X11_haveAfter
def FX11_haveAfter (x1 : Int32) (x2 : Int32) (x3 : Int32) (σ : HS) : Option (Int32 × HS) :=
  bdV (FX7_copyFrom σ) fun σ_1 => hl_ (pI σ_1 15 28 ((σ_1.1 15 28) + x2)) fun σ_3 => hl_ (pI σ_3 15 29 ((σ_3.1 15 29) + x3)) fun σ_4 => bdI (FX11_haveIn 5 x1 σ_4) fun r_5 σ_6 => some (r_5, σ_6)
set_option maxHeartbeats 4000000 in
set_option maxRecDepth 100000 in
theorem kX11_haveAfter (l : Launch) (D : va_G) (ad : Nat → Nat) (κ : KC) {x1 : Int32} {x2 : Int32} {x3 : Int32} {σ : HS} {R : (Int32 × HS)} (h : FX11_haveAfter x1 x2 x3 σ = some R) : MtI l 50 ceX D ad κ yX11_haveAfter cX11_haveAfter 4 (some .int) ({ frames := 4, cells := 0, slots := 0, locals := 101 } : Room) [.ref (ad 0), .int x1, .int x2, .int x3] σ R := by
  refine open_ (by decide) (Nat.le_of_ble_eq_true rfl) (la := [(0, .ref (ad 0)), (1, .int x1), (2, .int x2), (3, .int x3)]) rfl ?_
  intro p e s m below meth c ls C hH hl
  replace C : Cx 50 D ad κ p s m _ meth c cX11_haveAfter RX11 4 (some .int) := C
  have hx := C.1
  have hb := C.2.1
  have hown := C.2.2.2.1
  have hts := C.2.2.2.2.1
  rw [FX11_haveAfter] at h
  refine lv_aload_n hx hb dX11_haveAfter_0 rfl (lv_at hl 0 rfl) ?_
  refine g_get C hH 0 (Nat.le_of_ble_eq_true rfl) rfl fl_X11_39 (v := .ref (ad 5)) rfl dX11_haveAfter_1 ?_
  refine lv_aload_n hx hb dX11_haveAfter_4 rfl (lv_at hl 0 rfl) ?_
  refine g_get C hH 0 (Nat.le_of_ble_eq_true rfl) rfl fl_X11_35 (v := .ref (ad 4)) rfl dX11_haveAfter_5 ?_
  obtain ⟨σ_1, hc_2, h⟩ := bdV_ex h
  refine g_cv (g_runV (rest := []) C hH hl.1 cV_X11_347 5 (Nat.le_of_ble_eq_true rfl) rfl rfl (kX7_copyFrom l D ad κ hc_2) ⟨rfl, rfl⟩ ⟨(Nat.le_of_ble_eq_true rfl), (Nat.le_of_ble_eq_true rfl)⟩ rfl rfl (Nat.le_of_ble_eq_true rfl) dX11_haveAfter_8 z00) hH (fun H locs hH => ?_)
  refine lv_aload_n hx hb dX11_haveAfter_11 rfl (lv_at hl 0 rfl) ?_
  refine g_get C hH 0 (Nat.le_of_ble_eq_true rfl) rfl fl_X11_39 (v := .ref (ad 5)) rfl dX11_haveAfter_12 ?_
  refine g_get C hH 5 (Nat.le_of_ble_eq_true rfl) rfl fl_X11_203 (v := .ref (ad 15)) rfl dX11_haveAfter_15 ?_
  refine lv_bipush (v := 28) hx hb dX11_haveAfter_18 (by decide) ?_
  refine lv_dup2_11 hx hb dX11_haveAfter_20 rfl rfl ?_
  refine g_iald C hH 15 (Nat.le_of_ble_eq_true rfl) rfl (k := 28) (by decide) (ix_in rfl) dX11_haveAfter_21 ?_
  refine lv_iload_n hx hb dX11_haveAfter_22 rfl (lv_at hl 2 rfl) ?_
  refine lv_iadd hx hb dX11_haveAfter_23 ?_
  obtain ⟨σ_3, eσ_3, h⟩ := hl_ex h
  refine g_iast C hH 15 (Nat.le_of_ble_eq_true rfl) (fun _ _ => rfl) (k := 28) (by decide) (ix_in rfl) dX11_haveAfter_24 (fun H locs hH => ?_)
  rw [← eσ_3] at hH
  refine lv_aload_n hx hb dX11_haveAfter_25 rfl (lv_at hl 0 rfl) ?_
  refine g_get C hH 0 (Nat.le_of_ble_eq_true rfl) rfl fl_X11_39 (v := .ref (ad 5)) rfl dX11_haveAfter_26 ?_
  refine g_get C hH 5 (Nat.le_of_ble_eq_true rfl) rfl fl_X11_203 (v := .ref (ad 15)) rfl dX11_haveAfter_29 ?_
  refine lv_bipush (v := 29) hx hb dX11_haveAfter_32 (by decide) ?_
  refine lv_dup2_11 hx hb dX11_haveAfter_34 rfl rfl ?_
  refine g_iald C hH 15 (Nat.le_of_ble_eq_true rfl) rfl (k := 29) (by decide) (ix_in rfl) dX11_haveAfter_35 ?_
  refine lv_iload_n hx hb dX11_haveAfter_36 rfl (lv_at hl 3 rfl) ?_
  refine lv_iadd hx hb dX11_haveAfter_37 ?_
  obtain ⟨σ_4, eσ_4, h⟩ := hl_ex h
  refine g_iast C hH 15 (Nat.le_of_ble_eq_true rfl) (fun _ _ => rfl) (k := 29) (by decide) (ix_in rfl) dX11_haveAfter_38 (fun H locs hH => ?_)
  rw [← eσ_4] at hH
  refine lv_aload_n hx hb dX11_haveAfter_39 rfl (lv_at hl 0 rfl) ?_
  refine lv_aload_n hx hb dX11_haveAfter_40 rfl (lv_at hl 0 rfl) ?_
  refine g_get C hH 0 (Nat.le_of_ble_eq_true rfl) rfl fl_X11_39 (v := .ref (ad 5)) rfl dX11_haveAfter_41 ?_
  refine lv_iload_n hx hb dX11_haveAfter_44 rfl (lv_at hl 1 rfl) ?_
  obtain ⟨r_5, σ_6, hc_7, h⟩ := bdI_ex h
  refine g_ci (g_runV (rest := []) C hH hl.1 cV_X11_224 0 (Nat.le_of_ble_eq_true rfl) rfl rfl (kX11_haveIn l D ad κ st_5 hc_7) ⟨rfl, rfl⟩ ⟨(Nat.le_of_ble_eq_true rfl), (Nat.le_of_ble_eq_true rfl)⟩ rfl rfl (Nat.le_of_ble_eq_true rfl) dX11_haveAfter_45 z00) hH (fun H locs hH => ?_)
  exact g_ret C hH h dX11_haveAfter_48
-- X11_answerTo
def FX11_answerTo_8  : Nat → Int32 → Int32 → Int32 → Int32 → Int32 → HS → Option (Int32 × HS)
  | 0, _, _, _, _, _, _ => none
  | f + 1, x1, x2, x3, x4, x5, σ => bdI (FX11_choicesOf (29 : Int32) σ) fun r_1 σ_2 => if r_1 < x5 then some (x3, σ_2) else bdI (FX11_haveAfter x2 x1 x5 σ_2) fun r_5 σ_6 => if r_5 ≤ x4 then FX11_answerTo_8  f x1 x2 x3 x4 (x5 + 1) σ_6 else FX11_answerTo_8  f x1 x2 x5 r_5 (x5 + 1) σ_6
def FX11_answerTo (x1 : Int32) (x2 : Int32) (σ : HS) : Option (Int32 × HS) :=
  FX11_answerTo_8 fu x1 x2 (0 : Int32) (-1 : Int32) (0 : Int32) σ
set_option maxHeartbeats 4000000 in
set_option maxRecDepth 100000 in
theorem wX11_answerTo_8 (C : Cx 50 D ad κ p s m args meth c cX11_answerTo RX11 7 (some .int)) {R : (Int32 × HS)} : ∀ (f : Nat) (x1 : Int32) (x2 : Int32) (x3 : Int32) (x4 : Int32) (x5 : Int32) (σ : HS) (H : Heap) (locs : List Loc) (ls : Array Slot), FX11_answerTo_8  f x1 x2 x3 x4 x5 σ = some R → Hd 50 ceX D ad κ s σ H locs → lv_has ls 7 [(0, .ref (ad 0)), (1, .int x1), (2, .int x2), (3, .int x3), (4, .int x4), (5, .int x5)] → W p l e ({ frames := 5, cells := 0, slots := 0, locals := 124 } : Room) s m args below meth c H locs 0 0 (MQ below (QI 50 ceX D ad κ R) args s 0 0 (AX 50 ad)) (F0 m 8 ls []) := by
  have hx := C.1
  have hb := C.2.1
  have hown := C.2.2.2.1
  have hts := C.2.2.2.2.1
  intro f
  induction f with
  | zero =>
    intro x1 x2 x3 x4 x5 σ H locs ls h hH hl
    cases h
  | succ f ih =>
    intro x1 x2 x3 x4 x5 σ H locs ls h hH hl
    rw [FX11_answerTo_8] at h
    refine lv_iload hx hb dX11_answerTo_8 (lv_at hl 5 rfl) ?_
    refine lv_aload_n hx hb dX11_answerTo_10 rfl (lv_at hl 0 rfl) ?_
    refine lv_bipush (v := 29) hx hb dX11_answerTo_11 (by decide) ?_
    obtain ⟨r_1, σ_2, hc_3, h⟩ := bdI_ex h
    refine g_ci (g_runV (rest := [.int x5]) C hH hl.1 cV_X11_273 0 (Nat.le_of_ble_eq_true rfl) rfl rfl (kX11_choicesOf l D ad κ hc_3) ⟨rfl, rfl⟩ ⟨(Nat.le_of_ble_eq_true rfl), (Nat.le_of_ble_eq_true rfl)⟩ rfl rfl (Nat.le_of_ble_eq_true rfl) dX11_answerTo_13 z00) hH (fun H locs hH => ?_)
    refine lv_icmp_gt (tgt := 49) hx hb dX11_answerTo_16 (by decide) (fun hq_4 => ?_) (fun hq_4 => ?_)
    · rw [if_pos hq_4] at h
      refine lv_iload_n hx hb dX11_answerTo_49 rfl (lv_at hl 3 rfl) ?_
      exact g_ret C hH h dX11_answerTo_50
    · rw [if_neg hq_4] at h
      refine lv_aload_n hx hb dX11_answerTo_19 rfl (lv_at hl 0 rfl) ?_
      refine lv_iload_n hx hb dX11_answerTo_20 rfl (lv_at hl 2 rfl) ?_
      refine lv_iload_n hx hb dX11_answerTo_21 rfl (lv_at hl 1 rfl) ?_
      refine lv_iload hx hb dX11_answerTo_22 (lv_at hl 5 rfl) ?_
      obtain ⟨r_5, σ_6, hc_7, h⟩ := bdI_ex h
      refine g_ci (g_runV (rest := []) C hH hl.1 cV_X11_279 0 (Nat.le_of_ble_eq_true rfl) rfl rfl (kX11_haveAfter l D ad κ hc_7) ⟨rfl, rfl⟩ ⟨(Nat.le_of_ble_eq_true rfl), (Nat.le_of_ble_eq_true rfl)⟩ rfl rfl (Nat.le_of_ble_eq_true rfl) dX11_answerTo_24 z00) hH (fun H locs hH => ?_)
      refine lv_istore (lv' := [(6, .int r_5), (0, .ref (ad 0)), (1, .int x1), (2, .int x2), (3, .int x3), (4, .int x4), (5, .int x5)]) hx hb dX11_answerTo_27 hl (by decide) rfl (fun ls hl => ?_)
      refine lv_iload hx hb dX11_answerTo_29 (lv_at hl 0 rfl) ?_
      refine lv_iload hx hb dX11_answerTo_31 (lv_at hl 5 rfl) ?_
      refine lv_icmp_le (tgt := 43) hx hb dX11_answerTo_33 (by decide) (fun hq_8 => ?_) (fun hq_8 => ?_)
      · rw [if_pos hq_8] at h
        refine lv_iinc (v := (x5 + 1)) (lv' := [(5, .int (x5 + 1)), (6, .int r_5), (0, .ref (ad 0)), (1, .int x1), (2, .int x2), (3, .int x3), (4, .int x4)]) hx hb dX11_answerTo_43 hl (k := 6) rfl rfl (by decide) rfl (fun ls hl => ?_)
        refine lv_goto (tgt := 8) hx hb dX11_answerTo_46 (by decide) ?_
        exact ih _ _ _ _ _ _ _ _ _ h hH (lv_sub hl [2, 3, 4, 5, 6, 0] rfl)
      · rw [if_neg hq_8] at h
        refine lv_iload hx hb dX11_answerTo_36 (lv_at hl 6 rfl) ?_
        refine lv_istore_n (lv' := [(3, .int x5), (6, .int r_5), (0, .ref (ad 0)), (1, .int x1), (2, .int x2), (4, .int x4), (5, .int x5)]) hx hb dX11_answerTo_38 rfl hl (by decide) rfl (fun ls hl => ?_)
        refine lv_iload hx hb dX11_answerTo_39 (lv_at hl 1 rfl) ?_
        refine lv_istore (lv' := [(4, .int r_5), (3, .int x5), (6, .int r_5), (0, .ref (ad 0)), (1, .int x1), (2, .int x2), (5, .int x5)]) hx hb dX11_answerTo_41 hl (by decide) rfl (fun ls hl => ?_)
        refine lv_iinc (v := (x5 + 1)) (lv' := [(5, .int (x5 + 1)), (4, .int r_5), (3, .int x5), (6, .int r_5), (0, .ref (ad 0)), (1, .int x1), (2, .int x2)]) hx hb dX11_answerTo_43 hl (k := 6) rfl rfl (by decide) rfl (fun ls hl => ?_)
        refine lv_goto (tgt := 8) hx hb dX11_answerTo_46 (by decide) ?_
        exact ih _ _ _ _ _ _ _ _ _ h hH (lv_sub hl [4, 5, 6, 2, 1, 0] rfl)
set_option maxHeartbeats 4000000 in
set_option maxRecDepth 100000 in
theorem kX11_answerTo (l : Launch) (D : va_G) (ad : Nat → Nat) (κ : KC) {x1 : Int32} {x2 : Int32} {σ : HS} {R : (Int32 × HS)} (h : FX11_answerTo x1 x2 σ = some R) : MtI l 50 ceX D ad κ yX11_answerTo cX11_answerTo 7 (some .int) ({ frames := 5, cells := 0, slots := 0, locals := 124 } : Room) [.ref (ad 0), .int x1, .int x2] σ R := by
  refine open_ (by decide) (Nat.le_of_ble_eq_true rfl) (la := [(0, .ref (ad 0)), (1, .int x1), (2, .int x2)]) rfl ?_
  intro p e s m below meth c ls C hH hl
  replace C : Cx 50 D ad κ p s m _ meth c cX11_answerTo RX11 7 (some .int) := C
  have hx := C.1
  have hb := C.2.1
  have hown := C.2.2.2.1
  have hts := C.2.2.2.2.1
  rw [FX11_answerTo] at h
  refine lv_iconst (v := 0) hx hb dX11_answerTo_0 (by decide) ?_
  refine lv_istore_n (lv' := [(3, .int (0 : Int32)), (0, .ref (ad 0)), (1, .int x1), (2, .int x2)]) hx hb dX11_answerTo_1 rfl hl (by decide) rfl (fun ls hl => ?_)
  refine lv_iconst (v := (-1)) hx hb dX11_answerTo_2 (by decide) ?_
  refine lv_istore (lv' := [(4, .int (-1 : Int32)), (3, .int (0 : Int32)), (0, .ref (ad 0)), (1, .int x1), (2, .int x2)]) hx hb dX11_answerTo_3 hl (by decide) rfl (fun ls hl => ?_)
  refine lv_iconst (v := 0) hx hb dX11_answerTo_5 (by decide) ?_
  refine lv_istore (lv' := [(5, .int (0 : Int32)), (4, .int (-1 : Int32)), (3, .int (0 : Int32)), (0, .ref (ad 0)), (1, .int x1), (2, .int x2)]) hx hb dX11_answerTo_6 hl (by decide) rfl (fun ls hl => ?_)
  exact wX11_answerTo_8 C _ _ _ _ _ _ _ _ _ _ h hH (lv_sub hl [3, 4, 5, 2, 1, 0] rfl)
-- X11_game
def FX11_game_44  : Nat → Int32 → Int32 → Int32 → Int32 → Int32 → Int32 → Int32 → HS → Option (Int32 × HS)
  | 0, _, _, _, _, _, _, _, _ => none
  | f + 1, x1, x2, x3, x4, x5, x6, x7, σ => bdI (FX11_choicesOf (28 : Int32) σ) fun r_1 σ_2 => if r_1 < x7 then if x3 = 0 then some (x4, σ_2) else if x3 = (1 : Int32) then some (x5, σ_2) else some (x6, σ_2) else bdI (FX11_answerTo x7 x2 σ_2) fun r_7 σ_8 => bdI (FX11_haveAfter x1 x7 r_7 σ_8) fun r_10 σ_11 => if r_10 ≤ x6 then FX11_game_44  f x1 x2 x3 x4 x5 x6 (x7 + 1) σ_11 else FX11_game_44  f x1 x2 x3 x7 r_7 r_10 (x7 + 1) σ_11
def FX11_game (x1 : Int32) (x2 : Int32) (x3 : Int32) (σ : HS) : Option (Int32 × HS) :=
  bdI (FX11_isFamily x1 σ) fun r_14 σ_15 => if r_14 = 0 then some ((-1 : Int32), σ_15) else bdI (FX11_isFamily x2 σ_15) fun r_18 σ_19 => if r_18 = 0 then some ((-1 : Int32), σ_19) else if x1 = x2 then some ((-1 : Int32), σ_19) else bdI (FX11_within x3 (0 : Int32) (2 : Int32) σ_19) fun r_23 σ_24 => if r_23 = 0 then some ((-1 : Int32), σ_24) else FX11_game_44 fu x1 x2 x3 (0 : Int32) (0 : Int32) (-1 : Int32) (0 : Int32) σ_24
set_option maxHeartbeats 4000000 in
set_option maxRecDepth 100000 in
theorem wX11_game_44 (C : Cx 50 D ad κ p s m args meth c cX11_game RX11 10 (some .int)) {R : (Int32 × HS)} : ∀ (f : Nat) (x1 : Int32) (x2 : Int32) (x3 : Int32) (x4 : Int32) (x5 : Int32) (x6 : Int32) (x7 : Int32) (σ : HS) (H : Heap) (locs : List Loc) (ls : Array Slot), FX11_game_44  f x1 x2 x3 x4 x5 x6 x7 σ = some R → Hd 50 ceX D ad κ s σ H locs → lv_has ls 10 [(0, .ref (ad 0)), (1, .int x1), (2, .int x2), (3, .int x3), (4, .int x4), (5, .int x5), (6, .int x6), (7, .int x7)] → W p l e ({ frames := 6, cells := 0, slots := 0, locals := 150 } : Room) s m args below meth c H locs 0 0 (MQ below (QI 50 ceX D ad κ R) args s 0 0 (AX 50 ad)) (F0 m 44 ls []) := by
  have hx := C.1
  have hb := C.2.1
  have hown := C.2.2.2.1
  have hts := C.2.2.2.2.1
  intro f
  induction f with
  | zero =>
    intro x1 x2 x3 x4 x5 x6 x7 σ H locs ls h hH hl
    cases h
  | succ f ih =>
    intro x1 x2 x3 x4 x5 x6 x7 σ H locs ls h hH hl
    rw [FX11_game_44] at h
    refine lv_iload hx hb dX11_game_44 (lv_at hl 7 rfl) ?_
    refine lv_aload_n hx hb dX11_game_46 rfl (lv_at hl 0 rfl) ?_
    refine lv_bipush (v := 28) hx hb dX11_game_47 (by decide) ?_
    obtain ⟨r_1, σ_2, hc_3, h⟩ := bdI_ex h
    refine g_ci (g_runV (rest := [.int x7]) C hH hl.1 cV_X11_273 0 (Nat.le_of_ble_eq_true rfl) rfl rfl (kX11_choicesOf l D ad κ hc_3) ⟨rfl, rfl⟩ ⟨(Nat.le_of_ble_eq_true rfl), (Nat.le_of_ble_eq_true rfl)⟩ rfl rfl (Nat.le_of_ble_eq_true rfl) dX11_game_49 z00) hH (fun H locs hH => ?_)
    refine lv_icmp_gt (tgt := 100) hx hb dX11_game_52 (by decide) (fun hq_4 => ?_) (fun hq_4 => ?_)
    · rw [if_pos hq_4] at h
      refine lv_iload_n hx hb dX11_game_100 rfl (lv_at hl 3 rfl) ?_
      refine lv_if_ne (tgt := 107) hx hb dX11_game_101 (by decide) (fun hq_5 => ?_) (fun hq_5 => ?_)
      · rw [if_neg hq_5] at h
        refine lv_iload_n hx hb dX11_game_107 rfl (lv_at hl 3 rfl) ?_
        refine lv_iconst (v := 1) hx hb dX11_game_108 (by decide) ?_
        refine lv_icmp_ne (tgt := 117) hx hb dX11_game_109 (by decide) (fun hq_6 => ?_) (fun hq_6 => ?_)
        · rw [if_neg hq_6] at h
          refine lv_iload hx hb dX11_game_117 (lv_at hl 6 rfl) ?_
          exact g_ret C hH h dX11_game_119
        · rw [if_pos hq_6] at h
          refine lv_iload hx hb dX11_game_112 (lv_at hl 5 rfl) ?_
          refine lv_goto (tgt := 119) hx hb dX11_game_114 (by decide) ?_
          exact g_ret C hH h dX11_game_119
      · rw [if_pos hq_5] at h
        refine lv_iload hx hb dX11_game_104 (lv_at hl 4 rfl) ?_
        exact g_ret C hH h dX11_game_106
    · rw [if_neg hq_4] at h
      refine lv_aload_n hx hb dX11_game_55 rfl (lv_at hl 0 rfl) ?_
      refine lv_iload hx hb dX11_game_56 (lv_at hl 7 rfl) ?_
      refine lv_iload_n hx hb dX11_game_58 rfl (lv_at hl 2 rfl) ?_
      obtain ⟨r_7, σ_8, hc_9, h⟩ := bdI_ex h
      refine g_ci (g_runV (rest := []) C hH hl.1 cV_X11_276 0 (Nat.le_of_ble_eq_true rfl) rfl rfl (kX11_answerTo l D ad κ hc_9) ⟨rfl, rfl⟩ ⟨(Nat.le_of_ble_eq_true rfl), (Nat.le_of_ble_eq_true rfl)⟩ rfl rfl (Nat.le_of_ble_eq_true rfl) dX11_game_59 z00) hH (fun H locs hH => ?_)
      refine lv_istore (lv' := [(8, .int r_7), (0, .ref (ad 0)), (1, .int x1), (2, .int x2), (3, .int x3), (4, .int x4), (5, .int x5), (6, .int x6), (7, .int x7)]) hx hb dX11_game_62 hl (by decide) rfl (fun ls hl => ?_)
      refine lv_aload_n hx hb dX11_game_64 rfl (lv_at hl 1 rfl) ?_
      refine lv_iload_n hx hb dX11_game_65 rfl (lv_at hl 2 rfl) ?_
      refine lv_iload hx hb dX11_game_66 (lv_at hl 8 rfl) ?_
      refine lv_iload hx hb dX11_game_68 (lv_at hl 0 rfl) ?_
      obtain ⟨r_10, σ_11, hc_12, h⟩ := bdI_ex h
      refine g_ci (g_runV (rest := []) C hH hl.1 cV_X11_279 0 (Nat.le_of_ble_eq_true rfl) rfl rfl (kX11_haveAfter l D ad κ hc_12) ⟨rfl, rfl⟩ ⟨(Nat.le_of_ble_eq_true rfl), (Nat.le_of_ble_eq_true rfl)⟩ rfl rfl (Nat.le_of_ble_eq_true rfl) dX11_game_70 z00) hH (fun H locs hH => ?_)
      refine lv_istore (lv' := [(9, .int r_10), (8, .int r_7), (0, .ref (ad 0)), (1, .int x1), (2, .int x2), (3, .int x3), (4, .int x4), (5, .int x5), (6, .int x6), (7, .int x7)]) hx hb dX11_game_73 hl (by decide) rfl (fun ls hl => ?_)
      refine lv_iload hx hb dX11_game_75 (lv_at hl 0 rfl) ?_
      refine lv_iload hx hb dX11_game_77 (lv_at hl 8 rfl) ?_
      refine lv_icmp_le (tgt := 94) hx hb dX11_game_79 (by decide) (fun hq_13 => ?_) (fun hq_13 => ?_)
      · rw [if_pos hq_13] at h
        refine lv_iinc (v := (x7 + 1)) (lv' := [(7, .int (x7 + 1)), (9, .int r_10), (8, .int r_7), (0, .ref (ad 0)), (1, .int x1), (2, .int x2), (3, .int x3), (4, .int x4), (5, .int x5), (6, .int x6)]) hx hb dX11_game_94 hl (k := 9) rfl rfl (by decide) rfl (fun ls hl => ?_)
        refine lv_goto (tgt := 44) hx hb dX11_game_97 (by decide) ?_
        exact ih _ _ _ _ _ _ _ _ _ _ _ h hH (lv_sub hl [3, 4, 5, 6, 7, 8, 9, 0] rfl)
      · rw [if_neg hq_13] at h
        refine lv_iload hx hb dX11_game_82 (lv_at hl 9 rfl) ?_
        refine lv_istore (lv' := [(4, .int x7), (9, .int r_10), (8, .int r_7), (0, .ref (ad 0)), (1, .int x1), (2, .int x2), (3, .int x3), (5, .int x5), (6, .int x6), (7, .int x7)]) hx hb dX11_game_84 hl (by decide) rfl (fun ls hl => ?_)
        refine lv_iload hx hb dX11_game_86 (lv_at hl 2 rfl) ?_
        refine lv_istore (lv' := [(5, .int r_7), (4, .int x7), (9, .int r_10), (8, .int r_7), (0, .ref (ad 0)), (1, .int x1), (2, .int x2), (3, .int x3), (6, .int x6), (7, .int x7)]) hx hb dX11_game_88 hl (by decide) rfl (fun ls hl => ?_)
        refine lv_iload hx hb dX11_game_90 (lv_at hl 2 rfl) ?_
        refine lv_istore (lv' := [(6, .int r_10), (5, .int r_7), (4, .int x7), (9, .int r_10), (8, .int r_7), (0, .ref (ad 0)), (1, .int x1), (2, .int x2), (3, .int x3), (7, .int x7)]) hx hb dX11_game_92 hl (by decide) rfl (fun ls hl => ?_)
        refine lv_iinc (v := (x7 + 1)) (lv' := [(7, .int (x7 + 1)), (6, .int r_10), (5, .int r_7), (4, .int x7), (9, .int r_10), (8, .int r_7), (0, .ref (ad 0)), (1, .int x1), (2, .int x2), (3, .int x3)]) hx hb dX11_game_94 hl (k := 9) rfl rfl (by decide) rfl (fun ls hl => ?_)
        refine lv_goto (tgt := 44) hx hb dX11_game_97 (by decide) ?_
        exact ih _ _ _ _ _ _ _ _ _ _ _ h hH (lv_sub hl [6, 7, 8, 9, 3, 2, 1, 0] rfl)
set_option maxHeartbeats 4000000 in
set_option maxRecDepth 100000 in
theorem kX11_game (l : Launch) (D : va_G) (ad : Nat → Nat) (κ : KC) {x1 : Int32} {x2 : Int32} {x3 : Int32} {σ : HS} {R : (Int32 × HS)} (h : FX11_game x1 x2 x3 σ = some R) : MtI l 50 ceX D ad κ yX11_game cX11_game 10 (some .int) ({ frames := 6, cells := 0, slots := 0, locals := 150 } : Room) [.ref (ad 0), .int x1, .int x2, .int x3] σ R := by
  refine open_ (by decide) (Nat.le_of_ble_eq_true rfl) (la := [(0, .ref (ad 0)), (1, .int x1), (2, .int x2), (3, .int x3)]) rfl ?_
  intro p e s m below meth c ls C hH hl
  replace C : Cx 50 D ad κ p s m _ meth c cX11_game RX11 10 (some .int) := C
  have hx := C.1
  have hb := C.2.1
  have hown := C.2.2.2.1
  have hts := C.2.2.2.2.1
  rw [FX11_game] at h
  refine lv_aload_n hx hb dX11_game_0 rfl (lv_at hl 0 rfl) ?_
  refine lv_iload_n hx hb dX11_game_1 rfl (lv_at hl 1 rfl) ?_
  obtain ⟨r_14, σ_15, hc_16, h⟩ := bdI_ex h
  refine g_ci (g_runV (rest := []) C hH hl.1 cV_X11_149 0 (Nat.le_of_ble_eq_true rfl) rfl rfl (kX11_isFamily l D ad κ hc_16) ⟨rfl, rfl⟩ ⟨(Nat.le_of_ble_eq_true rfl), (Nat.le_of_ble_eq_true rfl)⟩ rfl rfl (Nat.le_of_ble_eq_true rfl) dX11_game_2 z00) hH (fun H locs hH => ?_)
  refine lv_if_eq (tgt := 30) hx hb dX11_game_5 (by decide) (fun hq_17 => ?_) (fun hq_17 => ?_)
  · rw [if_pos hq_17] at h
    refine lv_iconst (v := (-1)) hx hb dX11_game_30 (by decide) ?_
    exact g_ret C hH h dX11_game_31
  · rw [if_neg hq_17] at h
    refine lv_aload_n hx hb dX11_game_8 rfl (lv_at hl 0 rfl) ?_
    refine lv_iload_n hx hb dX11_game_9 rfl (lv_at hl 2 rfl) ?_
    obtain ⟨r_18, σ_19, hc_20, h⟩ := bdI_ex h
    refine g_ci (g_runV (rest := []) C hH hl.1 cV_X11_149 0 (Nat.le_of_ble_eq_true rfl) rfl rfl (kX11_isFamily l D ad κ hc_20) ⟨rfl, rfl⟩ ⟨(Nat.le_of_ble_eq_true rfl), (Nat.le_of_ble_eq_true rfl)⟩ rfl rfl (Nat.le_of_ble_eq_true rfl) dX11_game_10 z00) hH (fun H locs hH => ?_)
    refine lv_if_eq (tgt := 30) hx hb dX11_game_13 (by decide) (fun hq_21 => ?_) (fun hq_21 => ?_)
    · rw [if_pos hq_21] at h
      refine lv_iconst (v := (-1)) hx hb dX11_game_30 (by decide) ?_
      exact g_ret C hH h dX11_game_31
    · rw [if_neg hq_21] at h
      refine lv_iload_n hx hb dX11_game_16 rfl (lv_at hl 1 rfl) ?_
      refine lv_iload_n hx hb dX11_game_17 rfl (lv_at hl 2 rfl) ?_
      refine lv_icmp_eq (tgt := 30) hx hb dX11_game_18 (by decide) (fun hq_22 => ?_) (fun hq_22 => ?_)
      · rw [if_pos hq_22] at h
        refine lv_iconst (v := (-1)) hx hb dX11_game_30 (by decide) ?_
        exact g_ret C hH h dX11_game_31
      · rw [if_neg hq_22] at h
        refine lv_iload_n hx hb dX11_game_21 rfl (lv_at hl 3 rfl) ?_
        refine lv_iconst (v := 0) hx hb dX11_game_22 (by decide) ?_
        refine lv_iconst (v := 2) hx hb dX11_game_23 (by decide) ?_
        obtain ⟨r_23, σ_24, hc_25, h⟩ := bdI_ex h
        refine g_ci (g_runS (rest := []) C hH hl.1 cS_X11_105 (kX11_within l D ad κ hc_25) ⟨rfl, rfl⟩ ⟨(Nat.le_of_ble_eq_true rfl), (Nat.le_of_ble_eq_true rfl)⟩ rfl rfl (Nat.le_of_ble_eq_true rfl) dX11_game_24 z00) hH (fun H locs hH => ?_)
        refine lv_if_ne (tgt := 32) hx hb dX11_game_27 (by decide) (fun hq_26 => ?_) (fun hq_26 => ?_)
        · rw [if_neg hq_26] at h
          refine lv_iconst (v := 0) hx hb dX11_game_32 (by decide) ?_
          refine lv_istore (lv' := [(4, .int (0 : Int32)), (0, .ref (ad 0)), (1, .int x1), (2, .int x2), (3, .int x3)]) hx hb dX11_game_33 hl (by decide) rfl (fun ls hl => ?_)
          refine lv_iconst (v := 0) hx hb dX11_game_35 (by decide) ?_
          refine lv_istore (lv' := [(5, .int (0 : Int32)), (4, .int (0 : Int32)), (0, .ref (ad 0)), (1, .int x1), (2, .int x2), (3, .int x3)]) hx hb dX11_game_36 hl (by decide) rfl (fun ls hl => ?_)
          refine lv_iconst (v := (-1)) hx hb dX11_game_38 (by decide) ?_
          refine lv_istore (lv' := [(6, .int (-1 : Int32)), (5, .int (0 : Int32)), (4, .int (0 : Int32)), (0, .ref (ad 0)), (1, .int x1), (2, .int x2), (3, .int x3)]) hx hb dX11_game_39 hl (by decide) rfl (fun ls hl => ?_)
          refine lv_iconst (v := 0) hx hb dX11_game_41 (by decide) ?_
          refine lv_istore (lv' := [(7, .int (0 : Int32)), (6, .int (-1 : Int32)), (5, .int (0 : Int32)), (4, .int (0 : Int32)), (0, .ref (ad 0)), (1, .int x1), (2, .int x2), (3, .int x3)]) hx hb dX11_game_42 hl (by decide) rfl (fun ls hl => ?_)
          exact wX11_game_44 C _ _ _ _ _ _ _ _ _ _ _ _ h hH (lv_sub hl [4, 5, 6, 7, 3, 2, 1, 0] rfl)
        · rw [if_pos hq_26] at h
          refine lv_iconst (v := (-1)) hx hb dX11_game_30 (by decide) ?_
          exact g_ret C hH h dX11_game_31
-- X11_cure
def FX11_cure_15  : Nat → Int32 → Int32 → HS → Option (Int32 × HS)
  | 0, _, _, _ => none
  | f + 1, x1, x2, σ => if (σ.1 3 1) ≤ x2 then some (x1, σ) else bdI (FX0_haveOf 4 x2 σ) fun r_2 σ_3 => hl_ (r_2 >>> (((2 : Int32) * (σ_3.1 3 0)) &&& 31)) fun x3_5 => bdI (FX2_cureFor 4 x2 σ_3) fun r_6 σ_7 => if r_6 ≤ x3_5 then FX11_cure_15  f x1 (x2 + 1) σ_7 else hl_ (x1 ||| ((1 : Int32) <<< (x2 &&& 31))) fun x1_10 => FX11_cure_15  f x1_10 (x2 + 1) σ_7
def FX11_cure (σ : HS) : Option (Int32 × HS) :=
  bdV (FX0_weigh 4 σ) fun σ_11 => FX11_cure_15 fu (0 : Int32) (0 : Int32) σ_11
set_option maxHeartbeats 4000000 in
set_option maxRecDepth 100000 in
theorem wX11_cure_15 (C : Cx 50 D ad κ p s m args meth c cX11_cure RX11 4 (some .int)) {R : (Int32 × HS)} : ∀ (f : Nat) (x1 : Int32) (x2 : Int32) (σ : HS) (H : Heap) (locs : List Loc) (ls : Array Slot), FX11_cure_15  f x1 x2 σ = some R → Hd 50 ceX D ad κ s σ H locs → lv_has ls 4 [(0, .ref (ad 0)), (1, .int x1), (2, .int x2)] → W p l e ({ frames := 4, cells := 0, slots := 0, locals := 101 } : Room) s m args below meth c H locs 0 0 (MQ below (QI 50 ceX D ad κ R) args s 0 0 (AX 50 ad)) (F0 m 15 ls []) := by
  have hx := C.1
  have hb := C.2.1
  have hown := C.2.2.2.1
  have hts := C.2.2.2.2.1
  intro f
  induction f with
  | zero =>
    intro x1 x2 σ H locs ls h hH hl
    cases h
  | succ f ih =>
    intro x1 x2 σ H locs ls h hH hl
    rw [FX11_cure_15] at h
    refine lv_iload_n hx hb dX11_cure_15 rfl (lv_at hl 2 rfl) ?_
    refine lv_aload_n hx hb dX11_cure_16 rfl (lv_at hl 0 rfl) ?_
    refine g_get C hH 0 (Nat.le_of_ble_eq_true rfl) rfl fl_X11_28 (v := .ref (ad 3)) rfl dX11_cure_17 ?_
    refine g_get C hH 3 (Nat.le_of_ble_eq_true rfl) rfl fl_X11_282 (v := .int (σ.1 3 1)) rfl dX11_cure_20 ?_
    refine lv_icmp_ge (tgt := 77) hx hb dX11_cure_23 (by decide) (fun hq_1 => ?_) (fun hq_1 => ?_)
    · rw [if_pos hq_1] at h
      refine lv_iload_n hx hb dX11_cure_77 rfl (lv_at hl 1 rfl) ?_
      exact g_ret C hH h dX11_cure_78
    · rw [if_neg hq_1] at h
      refine lv_aload_n hx hb dX11_cure_26 rfl (lv_at hl 0 rfl) ?_
      refine g_get C hH 0 (Nat.le_of_ble_eq_true rfl) rfl fl_X11_63 (v := .ref (ad 8)) rfl dX11_cure_27 ?_
      refine lv_aload_n hx hb dX11_cure_30 rfl (lv_at hl 0 rfl) ?_
      refine g_get C hH 0 (Nat.le_of_ble_eq_true rfl) rfl fl_X11_35 (v := .ref (ad 4)) rfl dX11_cure_31 ?_
      refine lv_iload_n hx hb dX11_cure_34 rfl (lv_at hl 2 rfl) ?_
      obtain ⟨r_2, σ_3, hc_4, h⟩ := bdI_ex h
      refine g_ci (g_runV (rest := []) C hH hl.1 cV_X11_285 8 (Nat.le_of_ble_eq_true rfl) rfl rfl (kX0_haveOf l D ad κ st_4 hc_4) ⟨rfl, rfl⟩ ⟨(Nat.le_of_ble_eq_true rfl), (Nat.le_of_ble_eq_true rfl)⟩ rfl rfl (Nat.le_of_ble_eq_true rfl) dX11_cure_35 z00) hH (fun H locs hH => ?_)
      refine lv_iconst (v := 2) hx hb dX11_cure_38 (by decide) ?_
      refine lv_aload_n hx hb dX11_cure_39 rfl (lv_at hl 0 rfl) ?_
      refine g_get C hH 0 (Nat.le_of_ble_eq_true rfl) rfl fl_X11_28 (v := .ref (ad 3)) rfl dX11_cure_40 ?_
      refine g_get C hH 3 (Nat.le_of_ble_eq_true rfl) rfl fl_X11_241 (v := .int (σ_3.1 3 0)) rfl dX11_cure_43 ?_
      refine lv_imul hx hb dX11_cure_46 ?_
      refine lv_ishr hx hb dX11_cure_47 ?_
      obtain ⟨x3_5, ex3_5, h⟩ := hl_ex h
      refine lv_eqi ex3_5 ?_
      refine lv_istore_n (lv' := [(3, .int x3_5), (0, .ref (ad 0)), (1, .int x1), (2, .int x2)]) hx hb dX11_cure_48 rfl hl (by decide) rfl (fun ls hl => ?_)
      refine lv_aload_n hx hb dX11_cure_49 rfl (lv_at hl 1 rfl) ?_
      refine g_get C hH 0 (Nat.le_of_ble_eq_true rfl) rfl fl_X11_54 (v := .ref (ad 7)) rfl dX11_cure_50 ?_
      refine lv_aload_n hx hb dX11_cure_53 rfl (lv_at hl 1 rfl) ?_
      refine g_get C hH 0 (Nat.le_of_ble_eq_true rfl) rfl fl_X11_35 (v := .ref (ad 4)) rfl dX11_cure_54 ?_
      refine lv_iload_n hx hb dX11_cure_57 rfl (lv_at hl 3 rfl) ?_
      obtain ⟨r_6, σ_7, hc_8, h⟩ := bdI_ex h
      refine g_ci (g_runV (rest := []) C hH hl.1 cV_X11_171 7 (Nat.le_of_ble_eq_true rfl) rfl rfl (kX2_cureFor l D ad κ st_4 hc_8) ⟨rfl, rfl⟩ ⟨(Nat.le_of_ble_eq_true rfl), (Nat.le_of_ble_eq_true rfl)⟩ rfl rfl (Nat.le_of_ble_eq_true rfl) dX11_cure_58 z00) hH (fun H locs hH => ?_)
      refine lv_iload_n hx hb dX11_cure_61 rfl (lv_at hl 0 rfl) ?_
      refine lv_icmp_le (tgt := 71) hx hb dX11_cure_62 (by decide) (fun hq_9 => ?_) (fun hq_9 => ?_)
      · rw [if_pos hq_9] at h
        refine lv_iinc (v := (x2 + 1)) (lv' := [(2, .int (x2 + 1)), (3, .int x3_5), (0, .ref (ad 0)), (1, .int x1)]) hx hb dX11_cure_71 hl (k := 3) rfl rfl (by decide) rfl (fun ls hl => ?_)
        refine lv_goto (tgt := 15) hx hb dX11_cure_74 (by decide) ?_
        exact ih _ _ _ _ _ _ h hH (lv_sub hl [2, 3, 0] rfl)
      · rw [if_neg hq_9] at h
        refine lv_iload_n hx hb dX11_cure_65 rfl (lv_at hl 2 rfl) ?_
        refine lv_iconst (v := 1) hx hb dX11_cure_66 (by decide) ?_
        refine lv_iload_n hx hb dX11_cure_67 rfl (lv_at hl 3 rfl) ?_
        refine lv_ishl hx hb dX11_cure_68 ?_
        refine lv_ior hx hb dX11_cure_69 ?_
        obtain ⟨x1_10, ex1_10, h⟩ := hl_ex h
        refine lv_eqi ex1_10 ?_
        refine lv_istore_n (lv' := [(1, .int x1_10), (3, .int x3_5), (0, .ref (ad 0)), (2, .int x2)]) hx hb dX11_cure_70 rfl hl (by decide) rfl (fun ls hl => ?_)
        refine lv_iinc (v := (x2 + 1)) (lv' := [(2, .int (x2 + 1)), (1, .int x1_10), (3, .int x3_5), (0, .ref (ad 0))]) hx hb dX11_cure_71 hl (k := 3) rfl rfl (by decide) rfl (fun ls hl => ?_)
        refine lv_goto (tgt := 15) hx hb dX11_cure_74 (by decide) ?_
        exact ih _ _ _ _ _ _ h hH (lv_sub hl [3, 1, 0] rfl)
set_option maxHeartbeats 4000000 in
set_option maxRecDepth 100000 in
theorem kX11_cure (l : Launch) (D : va_G) (ad : Nat → Nat) (κ : KC) {σ : HS} {R : (Int32 × HS)} (h : FX11_cure σ = some R) : MtI l 50 ceX D ad κ yX11_cure cX11_cure 4 (some .int) ({ frames := 4, cells := 0, slots := 0, locals := 101 } : Room) [.ref (ad 0)] σ R := by
  refine open_ (by decide) (Nat.le_of_ble_eq_true rfl) (la := [(0, .ref (ad 0))]) rfl ?_
  intro p e s m below meth c ls C hH hl
  replace C : Cx 50 D ad κ p s m _ meth c cX11_cure RX11 4 (some .int) := C
  have hx := C.1
  have hb := C.2.1
  have hown := C.2.2.2.1
  have hts := C.2.2.2.2.1
  rw [FX11_cure] at h
  refine lv_aload_n hx hb dX11_cure_0 rfl (lv_at hl 0 rfl) ?_
  refine g_get C hH 0 (Nat.le_of_ble_eq_true rfl) rfl fl_X11_63 (v := .ref (ad 8)) rfl dX11_cure_1 ?_
  refine lv_aload_n hx hb dX11_cure_4 rfl (lv_at hl 0 rfl) ?_
  refine g_get C hH 0 (Nat.le_of_ble_eq_true rfl) rfl fl_X11_35 (v := .ref (ad 4)) rfl dX11_cure_5 ?_
  obtain ⟨σ_11, hc_12, h⟩ := bdV_ex h
  refine g_cv (g_runV (rest := []) C hH hl.1 cV_X11_210 8 (Nat.le_of_ble_eq_true rfl) rfl rfl (kX0_weigh l D ad κ st_4 hc_12) ⟨rfl, rfl⟩ ⟨(Nat.le_of_ble_eq_true rfl), (Nat.le_of_ble_eq_true rfl)⟩ rfl rfl (Nat.le_of_ble_eq_true rfl) dX11_cure_8 z00) hH (fun H locs hH => ?_)
  refine lv_iconst (v := 0) hx hb dX11_cure_11 (by decide) ?_
  refine lv_istore_n (lv' := [(1, .int (0 : Int32)), (0, .ref (ad 0))]) hx hb dX11_cure_12 rfl hl (by decide) rfl (fun ls hl => ?_)
  refine lv_iconst (v := 0) hx hb dX11_cure_13 (by decide) ?_
  refine lv_istore_n (lv' := [(2, .int (0 : Int32)), (1, .int (0 : Int32)), (0, .ref (ad 0))]) hx hb dX11_cure_14 rfl hl (by decide) rfl (fun ls hl => ?_)
  exact wX11_cure_15 C _ _ _ _ _ _ _ h hH (lv_sub hl [2, 1, 0] rfl)
end
