theorem dX8_hasRoomFor_0 : decode cX8_hasRoomFor 0 = .ok (.aload_n 0, 1) := by decide +kernel
theorem dX8_hasRoomFor_1 : decode cX8_hasRoomFor 1 = .ok (.getfield 15, 3) := by decide +kernel
theorem dX8_hasRoomFor_4 : decode cX8_hasRoomFor 4 = .ok (.iload_n 1, 1) := by decide +kernel
theorem dX8_hasRoomFor_5 : decode cX8_hasRoomFor 5 = .ok (.iadd, 1) := by decide +kernel
theorem dX8_hasRoomFor_6 : decode cX8_hasRoomFor 6 = .ok (.sipush 2000, 3) := by decide +kernel
theorem dX8_hasRoomFor_9 : decode cX8_hasRoomFor 9 = .ok (.if_icmp .gt 7, 3) := by decide +kernel
theorem dX8_hasRoomFor_12 : decode cX8_hasRoomFor 12 = .ok (.iconst 1, 1) := by decide +kernel
theorem dX8_hasRoomFor_13 : decode cX8_hasRoomFor 13 = .ok (.goto 4, 3) := by decide +kernel
theorem dX8_hasRoomFor_16 : decode cX8_hasRoomFor 16 = .ok (.iconst 0, 1) := by decide +kernel
theorem dX8_hasRoomFor_17 : decode cX8_hasRoomFor 17 = .ok (.ireturn, 1) := by decide +kernel
theorem dX8_putInt_0 : decode cX8_putInt 0 = .ok (.bipush 24, 2) := by decide +kernel
theorem dX8_putInt_2 : decode cX8_putInt 2 = .ok (.istore_n 2, 1) := by decide +kernel
theorem dX8_putInt_3 : decode cX8_putInt 3 = .ok (.iload_n 2, 1) := by decide +kernel
theorem dX8_putInt_4 : decode cX8_putInt 4 = .ok (.ifCond .lt 42, 3) := by decide +kernel
theorem dX8_putInt_7 : decode cX8_putInt 7 = .ok (.aload_n 0, 1) := by decide +kernel
theorem dX8_putInt_8 : decode cX8_putInt 8 = .ok (.getfield 15, 3) := by decide +kernel
theorem dX8_putInt_11 : decode cX8_putInt 11 = .ok (.sipush 2000, 3) := by decide +kernel
theorem dX8_putInt_14 : decode cX8_putInt 14 = .ok (.if_icmp .ge 26, 3) := by decide +kernel
theorem dX8_putInt_17 : decode cX8_putInt 17 = .ok (.aload_n 0, 1) := by decide +kernel
theorem dX8_putInt_18 : decode cX8_putInt 18 = .ok (.getfield 11, 3) := by decide +kernel
theorem dX8_putInt_21 : decode cX8_putInt 21 = .ok (.aload_n 0, 1) := by decide +kernel
theorem dX8_putInt_22 : decode cX8_putInt 22 = .ok (.getfield 15, 3) := by decide +kernel
theorem dX8_putInt_25 : decode cX8_putInt 25 = .ok (.iload_n 1, 1) := by decide +kernel
theorem dX8_putInt_26 : decode cX8_putInt 26 = .ok (.iload_n 2, 1) := by decide +kernel
theorem dX8_putInt_27 : decode cX8_putInt 27 = .ok (.ishr, 1) := by decide +kernel
theorem dX8_putInt_28 : decode cX8_putInt 28 = .ok (.i2b, 1) := by decide +kernel
theorem dX8_putInt_29 : decode cX8_putInt 29 = .ok (.bastore, 1) := by decide +kernel
theorem dX8_putInt_30 : decode cX8_putInt 30 = .ok (.aload_n 0, 1) := by decide +kernel
theorem dX8_putInt_31 : decode cX8_putInt 31 = .ok (.dup, 1) := by decide +kernel
theorem dX8_putInt_32 : decode cX8_putInt 32 = .ok (.getfield 15, 3) := by decide +kernel
theorem dX8_putInt_35 : decode cX8_putInt 35 = .ok (.iconst 1, 1) := by decide +kernel
theorem dX8_putInt_36 : decode cX8_putInt 36 = .ok (.iadd, 1) := by decide +kernel
theorem dX8_putInt_37 : decode cX8_putInt 37 = .ok (.putfield 15, 3) := by decide +kernel
theorem dX8_putInt_40 : decode cX8_putInt 40 = .ok (.iinc 2 (-8), 3) := by decide +kernel
theorem dX8_putInt_43 : decode cX8_putInt 43 = .ok (.goto (-40), 3) := by decide +kernel
theorem dX8_putInt_46 : decode cX8_putInt 46 = .ok (.return_, 1) := by decide +kernel
theorem dX8_byteAt_0 : decode cX8_byteAt 0 = .ok (.iconst 0, 1) := by decide +kernel
theorem dX8_byteAt_1 : decode cX8_byteAt 1 = .ok (.iload_n 1, 1) := by decide +kernel
theorem dX8_byteAt_2 : decode cX8_byteAt 2 = .ok (.if_icmp .gt 24, 3) := by decide +kernel
theorem dX8_byteAt_5 : decode cX8_byteAt 5 = .ok (.iload_n 1, 1) := by decide +kernel
theorem dX8_byteAt_6 : decode cX8_byteAt 6 = .ok (.aload_n 0, 1) := by decide +kernel
theorem dX8_byteAt_7 : decode cX8_byteAt 7 = .ok (.getfield 15, 3) := by decide +kernel
theorem dX8_byteAt_10 : decode cX8_byteAt 10 = .ok (.if_icmp .ge 16, 3) := by decide +kernel
theorem dX8_byteAt_13 : decode cX8_byteAt 13 = .ok (.aload_n 0, 1) := by decide +kernel
theorem dX8_byteAt_14 : decode cX8_byteAt 14 = .ok (.getfield 11, 3) := by decide +kernel
theorem dX8_byteAt_17 : decode cX8_byteAt 17 = .ok (.iload_n 1, 1) := by decide +kernel
theorem dX8_byteAt_18 : decode cX8_byteAt 18 = .ok (.baload, 1) := by decide +kernel
theorem dX8_byteAt_19 : decode cX8_byteAt 19 = .ok (.sipush 255, 3) := by decide +kernel
theorem dX8_byteAt_22 : decode cX8_byteAt 22 = .ok (.iand, 1) := by decide +kernel
theorem dX8_byteAt_23 : decode cX8_byteAt 23 = .ok (.goto 4, 3) := by decide +kernel
theorem dX8_byteAt_26 : decode cX8_byteAt 26 = .ok (.iconst (-1), 1) := by decide +kernel
theorem dX8_byteAt_27 : decode cX8_byteAt 27 = .ok (.ireturn, 1) := by decide +kernel
theorem dX9_startLaw_0 : decode cX9_startLaw 0 = .ok (.aload_n 0, 1) := by decide +kernel
theorem dX9_startLaw_1 : decode cX9_startLaw 1 = .ok (.getfield 26, 3) := by decide +kernel
theorem dX9_startLaw_4 : decode cX9_startLaw 4 = .ok (.iload_n 1, 1) := by decide +kernel
theorem dX9_startLaw_5 : decode cX9_startLaw 5 = .ok (.aload_n 0, 1) := by decide +kernel
theorem dX9_startLaw_6 : decode cX9_startLaw 6 = .ok (.getfield 54, 3) := by decide +kernel
theorem dX9_startLaw_9 : decode cX9_startLaw 9 = .ok (.iastore, 1) := by decide +kernel
theorem dX9_startLaw_10 : decode cX9_startLaw 10 = .ok (.return_, 1) := by decide +kernel
theorem dX9_putCode_0 : decode cX9_putCode 0 = .ok (.aload_n 0, 1) := by decide +kernel
theorem dX9_putCode_1 : decode cX9_putCode 1 = .ok (.getfield 54, 3) := by decide +kernel
theorem dX9_putCode_4 : decode cX9_putCode 4 = .ok (.sipush 408, 3) := by decide +kernel
theorem dX9_putCode_7 : decode cX9_putCode 7 = .ok (.if_icmp .ge 33, 3) := by decide +kernel
theorem dX9_putCode_10 : decode cX9_putCode 10 = .ok (.aload_n 0, 1) := by decide +kernel
theorem dX9_putCode_11 : decode cX9_putCode 11 = .ok (.getfield 29, 3) := by decide +kernel
theorem dX9_putCode_14 : decode cX9_putCode 14 = .ok (.aload_n 0, 1) := by decide +kernel
theorem dX9_putCode_15 : decode cX9_putCode 15 = .ok (.getfield 54, 3) := by decide +kernel
theorem dX9_putCode_18 : decode cX9_putCode 18 = .ok (.iload_n 1, 1) := by decide +kernel
theorem dX9_putCode_19 : decode cX9_putCode 19 = .ok (.iastore, 1) := by decide +kernel
theorem dX9_putCode_20 : decode cX9_putCode 20 = .ok (.aload_n 0, 1) := by decide +kernel
theorem dX9_putCode_21 : decode cX9_putCode 21 = .ok (.getfield 32, 3) := by decide +kernel
theorem dX9_putCode_24 : decode cX9_putCode 24 = .ok (.aload_n 0, 1) := by decide +kernel
theorem dX9_putCode_25 : decode cX9_putCode 25 = .ok (.getfield 54, 3) := by decide +kernel
theorem dX9_putCode_28 : decode cX9_putCode 28 = .ok (.iload_n 2, 1) := by decide +kernel
theorem dX9_putCode_29 : decode cX9_putCode 29 = .ok (.iastore, 1) := by decide +kernel
theorem dX9_putCode_30 : decode cX9_putCode 30 = .ok (.aload_n 0, 1) := by decide +kernel
theorem dX9_putCode_31 : decode cX9_putCode 31 = .ok (.dup, 1) := by decide +kernel
theorem dX9_putCode_32 : decode cX9_putCode 32 = .ok (.getfield 54, 3) := by decide +kernel
theorem dX9_putCode_35 : decode cX9_putCode 35 = .ok (.iconst 1, 1) := by decide +kernel
theorem dX9_putCode_36 : decode cX9_putCode 36 = .ok (.iadd, 1) := by decide +kernel
theorem dX9_putCode_37 : decode cX9_putCode 37 = .ok (.putfield 54, 3) := by decide +kernel
theorem dX9_putCode_40 : decode cX9_putCode 40 = .ok (.return_, 1) := by decide +kernel
theorem dX9_putPlainLaw_0 : decode cX9_putPlainLaw 0 = .ok (.aload_n 0, 1) := by decide +kernel
theorem dX9_putPlainLaw_1 : decode cX9_putPlainLaw 1 = .ok (.iload_n 1, 1) := by decide +kernel
theorem dX9_putPlainLaw_2 : decode cX9_putPlainLaw 2 = .ok (.invokevirtual 75, 3) := by decide +kernel
theorem dX9_putPlainLaw_5 : decode cX9_putPlainLaw 5 = .ok (.aload_n 0, 1) := by decide +kernel
theorem dX9_putPlainLaw_6 : decode cX9_putPlainLaw 6 = .ok (.iload_n 2, 1) := by decide +kernel
theorem dX9_putPlainLaw_7 : decode cX9_putPlainLaw 7 = .ok (.iload_n 3, 1) := by decide +kernel
theorem dX9_putPlainLaw_8 : decode cX9_putPlainLaw 8 = .ok (.invokevirtual 79, 3) := by decide +kernel
theorem dX9_putPlainLaw_11 : decode cX9_putPlainLaw 11 = .ok (.aload_n 0, 1) := by decide +kernel
theorem dX9_putPlainLaw_12 : decode cX9_putPlainLaw 12 = .ok (.iconst 3, 1) := by decide +kernel
theorem dX9_putPlainLaw_13 : decode cX9_putPlainLaw 13 = .ok (.iconst 0, 1) := by decide +kernel
theorem dX9_putPlainLaw_14 : decode cX9_putPlainLaw 14 = .ok (.invokevirtual 79, 3) := by decide +kernel
theorem dX9_putPlainLaw_17 : decode cX9_putPlainLaw 17 = .ok (.return_, 1) := by decide +kernel
theorem dX9_empty_0 : decode cX9_empty 0 = .ok (.aload_n 0, 1) := by decide +kernel
theorem dX9_empty_1 : decode cX9_empty 1 = .ok (.iconst 0, 1) := by decide +kernel
theorem dX9_empty_2 : decode cX9_empty 2 = .ok (.putfield 38, 3) := by decide +kernel
theorem dX9_empty_5 : decode cX9_empty 5 = .ok (.aload_n 0, 1) := by decide +kernel
theorem dX9_empty_6 : decode cX9_empty 6 = .ok (.iconst 0, 1) := by decide +kernel
theorem dX9_empty_7 : decode cX9_empty 7 = .ok (.putfield 42, 3) := by decide +kernel
theorem dX9_empty_10 : decode cX9_empty 10 = .ok (.aload_n 0, 1) := by decide +kernel
theorem dX9_empty_11 : decode cX9_empty 11 = .ok (.iconst 0, 1) := by decide +kernel
theorem dX9_empty_12 : decode cX9_empty 12 = .ok (.putfield 45, 3) := by decide +kernel
theorem dX9_empty_15 : decode cX9_empty 15 = .ok (.aload_n 0, 1) := by decide +kernel
theorem dX9_empty_16 : decode cX9_empty 16 = .ok (.iconst 0, 1) := by decide +kernel
theorem dX9_empty_17 : decode cX9_empty 17 = .ok (.putfield 48, 3) := by decide +kernel
theorem dX9_empty_20 : decode cX9_empty 20 = .ok (.aload_n 0, 1) := by decide +kernel
theorem dX9_empty_21 : decode cX9_empty 21 = .ok (.iconst 0, 1) := by decide +kernel
theorem dX9_empty_22 : decode cX9_empty 22 = .ok (.putfield 51, 3) := by decide +kernel
theorem dX9_empty_25 : decode cX9_empty 25 = .ok (.aload_n 0, 1) := by decide +kernel
theorem dX9_empty_26 : decode cX9_empty 26 = .ok (.iconst 0, 1) := by decide +kernel
theorem dX9_empty_27 : decode cX9_empty 27 = .ok (.putfield 54, 3) := by decide +kernel
theorem dX9_empty_30 : decode cX9_empty 30 = .ok (.aload_n 0, 1) := by decide +kernel
theorem dX9_empty_31 : decode cX9_empty 31 = .ok (.getfield 23, 3) := by decide +kernel
theorem dX9_empty_34 : decode cX9_empty 34 = .ok (.bipush (-2), 2) := by decide +kernel
theorem dX9_empty_36 : decode cX9_empty 36 = .ok (.invokestatic 57, 3) := by decide +kernel
theorem dX9_empty_39 : decode cX9_empty 39 = .ok (.aload_n 0, 1) := by decide +kernel
theorem dX9_empty_40 : decode cX9_empty 40 = .ok (.iconst 0, 1) := by decide +kernel
theorem dX9_empty_41 : decode cX9_empty 41 = .ok (.iconst 0, 1) := by decide +kernel
theorem dX9_empty_42 : decode cX9_empty 42 = .ok (.iconst 1, 1) := by decide +kernel
theorem dX9_empty_43 : decode cX9_empty 43 = .ok (.invokevirtual 65, 3) := by decide +kernel
theorem dX9_empty_46 : decode cX9_empty 46 = .ok (.aload_n 0, 1) := by decide +kernel
theorem dX9_empty_47 : decode cX9_empty 47 = .ok (.iconst 1, 1) := by decide +kernel
theorem dX9_empty_48 : decode cX9_empty 48 = .ok (.iconst 0, 1) := by decide +kernel
theorem dX9_empty_49 : decode cX9_empty 49 = .ok (.iconst 1, 1) := by decide +kernel
theorem dX9_empty_50 : decode cX9_empty 50 = .ok (.invokevirtual 65, 3) := by decide +kernel
theorem dX9_empty_53 : decode cX9_empty 53 = .ok (.aload_n 0, 1) := by decide +kernel
theorem dX9_empty_54 : decode cX9_empty 54 = .ok (.iconst 2, 1) := by decide +kernel
theorem dX9_empty_55 : decode cX9_empty 55 = .ok (.iconst 1, 1) := by decide +kernel
theorem dX9_empty_56 : decode cX9_empty 56 = .ok (.iconst 4, 1) := by decide +kernel
theorem dX9_empty_57 : decode cX9_empty 57 = .ok (.invokevirtual 65, 3) := by decide +kernel
theorem dX9_empty_60 : decode cX9_empty 60 = .ok (.aload_n 0, 1) := by decide +kernel
theorem dX9_empty_61 : decode cX9_empty 61 = .ok (.iconst 3, 1) := by decide +kernel
theorem dX9_empty_62 : decode cX9_empty 62 = .ok (.iconst 0, 1) := by decide +kernel
theorem dX9_empty_63 : decode cX9_empty 63 = .ok (.iconst 0, 1) := by decide +kernel
theorem dX9_empty_64 : decode cX9_empty 64 = .ok (.invokevirtual 65, 3) := by decide +kernel
theorem dX9_empty_67 : decode cX9_empty 67 = .ok (.return_, 1) := by decide +kernel
theorem dX9_copyFrom_0 : decode cX9_copyFrom 0 = .ok (.aload_n 0, 1) := by decide +kernel
theorem dX9_copyFrom_1 : decode cX9_copyFrom 1 = .ok (.aload_n 1, 1) := by decide +kernel
theorem dX9_copyFrom_2 : decode cX9_copyFrom 2 = .ok (.getfield 38, 3) := by decide +kernel
theorem dX9_copyFrom_5 : decode cX9_copyFrom 5 = .ok (.putfield 38, 3) := by decide +kernel
theorem dX9_copyFrom_8 : decode cX9_copyFrom 8 = .ok (.aload_n 0, 1) := by decide +kernel
theorem dX9_copyFrom_9 : decode cX9_copyFrom 9 = .ok (.aload_n 1, 1) := by decide +kernel
theorem dX9_copyFrom_10 : decode cX9_copyFrom 10 = .ok (.getfield 42, 3) := by decide +kernel
theorem dX9_copyFrom_13 : decode cX9_copyFrom 13 = .ok (.putfield 42, 3) := by decide +kernel
theorem dX9_copyFrom_16 : decode cX9_copyFrom 16 = .ok (.aload_n 0, 1) := by decide +kernel
theorem dX9_copyFrom_17 : decode cX9_copyFrom 17 = .ok (.aload_n 1, 1) := by decide +kernel
theorem dX9_copyFrom_18 : decode cX9_copyFrom 18 = .ok (.getfield 45, 3) := by decide +kernel
theorem dX9_copyFrom_21 : decode cX9_copyFrom 21 = .ok (.putfield 45, 3) := by decide +kernel
theorem dX9_copyFrom_24 : decode cX9_copyFrom 24 = .ok (.aload_n 0, 1) := by decide +kernel
theorem dX9_copyFrom_25 : decode cX9_copyFrom 25 = .ok (.aload_n 1, 1) := by decide +kernel
theorem dX9_copyFrom_26 : decode cX9_copyFrom 26 = .ok (.getfield 48, 3) := by decide +kernel
theorem dX9_copyFrom_29 : decode cX9_copyFrom 29 = .ok (.putfield 48, 3) := by decide +kernel
theorem dX9_copyFrom_32 : decode cX9_copyFrom 32 = .ok (.aload_n 0, 1) := by decide +kernel
theorem dX9_copyFrom_33 : decode cX9_copyFrom 33 = .ok (.aload_n 1, 1) := by decide +kernel
theorem dX9_copyFrom_34 : decode cX9_copyFrom 34 = .ok (.getfield 51, 3) := by decide +kernel
theorem dX9_copyFrom_37 : decode cX9_copyFrom 37 = .ok (.putfield 51, 3) := by decide +kernel
theorem dX9_copyFrom_40 : decode cX9_copyFrom 40 = .ok (.aload_n 0, 1) := by decide +kernel
theorem dX9_copyFrom_41 : decode cX9_copyFrom 41 = .ok (.aload_n 1, 1) := by decide +kernel
theorem dX9_copyFrom_42 : decode cX9_copyFrom 42 = .ok (.getfield 54, 3) := by decide +kernel
theorem dX9_copyFrom_45 : decode cX9_copyFrom 45 = .ok (.putfield 54, 3) := by decide +kernel
theorem dX9_copyFrom_48 : decode cX9_copyFrom 48 = .ok (.aload_n 1, 1) := by decide +kernel
theorem dX9_copyFrom_49 : decode cX9_copyFrom 49 = .ok (.getfield 13, 3) := by decide +kernel
theorem dX9_copyFrom_52 : decode cX9_copyFrom 52 = .ok (.iconst 0, 1) := by decide +kernel
theorem dX9_copyFrom_53 : decode cX9_copyFrom 53 = .ok (.aload_n 0, 1) := by decide +kernel
theorem dX9_copyFrom_54 : decode cX9_copyFrom 54 = .ok (.getfield 13, 3) := by decide +kernel
theorem dX9_copyFrom_57 : decode cX9_copyFrom 57 = .ok (.iconst 0, 1) := by decide +kernel
theorem dX9_copyFrom_58 : decode cX9_copyFrom 58 = .ok (.bipush 10, 2) := by decide +kernel
theorem dX9_copyFrom_60 : decode cX9_copyFrom 60 = .ok (.invokestatic 69, 3) := by decide +kernel
theorem dX9_copyFrom_63 : decode cX9_copyFrom 63 = .ok (.aload_n 1, 1) := by decide +kernel
theorem dX9_copyFrom_64 : decode cX9_copyFrom 64 = .ok (.getfield 17, 3) := by decide +kernel
theorem dX9_copyFrom_67 : decode cX9_copyFrom 67 = .ok (.iconst 0, 1) := by decide +kernel
theorem dX9_copyFrom_68 : decode cX9_copyFrom 68 = .ok (.aload_n 0, 1) := by decide +kernel
theorem dX9_copyFrom_69 : decode cX9_copyFrom 69 = .ok (.getfield 17, 3) := by decide +kernel
theorem dX9_copyFrom_72 : decode cX9_copyFrom 72 = .ok (.iconst 0, 1) := by decide +kernel
theorem dX9_copyFrom_73 : decode cX9_copyFrom 73 = .ok (.iconst 5, 1) := by decide +kernel
theorem dX9_copyFrom_74 : decode cX9_copyFrom 74 = .ok (.invokestatic 69, 3) := by decide +kernel
theorem dX9_copyFrom_77 : decode cX9_copyFrom 77 = .ok (.aload_n 1, 1) := by decide +kernel
theorem dX9_copyFrom_78 : decode cX9_copyFrom 78 = .ok (.getfield 20, 3) := by decide +kernel
theorem dX9_copyFrom_81 : decode cX9_copyFrom 81 = .ok (.iconst 0, 1) := by decide +kernel
theorem dX9_copyFrom_82 : decode cX9_copyFrom 82 = .ok (.aload_n 0, 1) := by decide +kernel
theorem dX9_copyFrom_83 : decode cX9_copyFrom 83 = .ok (.getfield 20, 3) := by decide +kernel
theorem dX9_copyFrom_86 : decode cX9_copyFrom 86 = .ok (.iconst 0, 1) := by decide +kernel
theorem dX9_copyFrom_87 : decode cX9_copyFrom 87 = .ok (.iconst 5, 1) := by decide +kernel
theorem dX9_copyFrom_88 : decode cX9_copyFrom 88 = .ok (.invokestatic 69, 3) := by decide +kernel
theorem dX9_copyFrom_91 : decode cX9_copyFrom 91 = .ok (.aload_n 1, 1) := by decide +kernel
theorem dX9_copyFrom_92 : decode cX9_copyFrom 92 = .ok (.getfield 23, 3) := by decide +kernel
theorem dX9_copyFrom_95 : decode cX9_copyFrom 95 = .ok (.iconst 0, 1) := by decide +kernel
theorem dX9_copyFrom_96 : decode cX9_copyFrom 96 = .ok (.aload_n 0, 1) := by decide +kernel
theorem dX9_copyFrom_97 : decode cX9_copyFrom 97 = .ok (.getfield 23, 3) := by decide +kernel
theorem dX9_copyFrom_100 : decode cX9_copyFrom 100 = .ok (.iconst 0, 1) := by decide +kernel
theorem dX9_copyFrom_101 : decode cX9_copyFrom 101 = .ok (.bipush 8, 2) := by decide +kernel
theorem dX9_copyFrom_103 : decode cX9_copyFrom 103 = .ok (.invokestatic 69, 3) := by decide +kernel
theorem dX9_copyFrom_106 : decode cX9_copyFrom 106 = .ok (.aload_n 1, 1) := by decide +kernel
theorem dX9_copyFrom_107 : decode cX9_copyFrom 107 = .ok (.getfield 26, 3) := by decide +kernel
theorem dX9_copyFrom_110 : decode cX9_copyFrom 110 = .ok (.iconst 0, 1) := by decide +kernel
theorem dX9_copyFrom_111 : decode cX9_copyFrom 111 = .ok (.aload_n 0, 1) := by decide +kernel
theorem dX9_copyFrom_112 : decode cX9_copyFrom 112 = .ok (.getfield 26, 3) := by decide +kernel
theorem dX9_copyFrom_115 : decode cX9_copyFrom 115 = .ok (.iconst 0, 1) := by decide +kernel
theorem dX9_copyFrom_116 : decode cX9_copyFrom 116 = .ok (.iconst 4, 1) := by decide +kernel
theorem dX9_copyFrom_117 : decode cX9_copyFrom 117 = .ok (.invokestatic 69, 3) := by decide +kernel
theorem dX9_copyFrom_120 : decode cX9_copyFrom 120 = .ok (.aload_n 1, 1) := by decide +kernel
theorem dX9_copyFrom_121 : decode cX9_copyFrom 121 = .ok (.getfield 29, 3) := by decide +kernel
theorem dX9_copyFrom_124 : decode cX9_copyFrom 124 = .ok (.iconst 0, 1) := by decide +kernel
theorem dX9_copyFrom_125 : decode cX9_copyFrom 125 = .ok (.aload_n 0, 1) := by decide +kernel
theorem dX9_copyFrom_126 : decode cX9_copyFrom 126 = .ok (.getfield 29, 3) := by decide +kernel
theorem dX9_copyFrom_129 : decode cX9_copyFrom 129 = .ok (.iconst 0, 1) := by decide +kernel
theorem dX9_copyFrom_130 : decode cX9_copyFrom 130 = .ok (.sipush 408, 3) := by decide +kernel
theorem dX9_copyFrom_133 : decode cX9_copyFrom 133 = .ok (.invokestatic 69, 3) := by decide +kernel
theorem dX9_copyFrom_136 : decode cX9_copyFrom 136 = .ok (.aload_n 1, 1) := by decide +kernel
theorem dX9_copyFrom_137 : decode cX9_copyFrom 137 = .ok (.getfield 32, 3) := by decide +kernel
theorem dX9_copyFrom_140 : decode cX9_copyFrom 140 = .ok (.iconst 0, 1) := by decide +kernel
theorem dX9_copyFrom_141 : decode cX9_copyFrom 141 = .ok (.aload_n 0, 1) := by decide +kernel
theorem dX9_copyFrom_142 : decode cX9_copyFrom 142 = .ok (.getfield 32, 3) := by decide +kernel
theorem dX9_copyFrom_145 : decode cX9_copyFrom 145 = .ok (.iconst 0, 1) := by decide +kernel
theorem dX9_copyFrom_146 : decode cX9_copyFrom 146 = .ok (.sipush 408, 3) := by decide +kernel
theorem dX9_copyFrom_149 : decode cX9_copyFrom 149 = .ok (.invokestatic 69, 3) := by decide +kernel
theorem dX9_copyFrom_152 : decode cX9_copyFrom 152 = .ok (.return_, 1) := by decide +kernel
theorem dX9_aimHere_0 : decode cX9_aimHere 0 = .ok (.iconst 0, 1) := by decide +kernel
theorem dX9_aimHere_1 : decode cX9_aimHere 1 = .ok (.iload_n 1, 1) := by decide +kernel
theorem dX9_aimHere_2 : decode cX9_aimHere 2 = .ok (.if_icmp .gt 21, 3) := by decide +kernel
theorem dX9_aimHere_5 : decode cX9_aimHere 5 = .ok (.iload_n 1, 1) := by decide +kernel
theorem dX9_aimHere_6 : decode cX9_aimHere 6 = .ok (.aload_n 0, 1) := by decide +kernel
theorem dX9_aimHere_7 : decode cX9_aimHere 7 = .ok (.getfield 54, 3) := by decide +kernel
theorem dX9_aimHere_10 : decode cX9_aimHere 10 = .ok (.if_icmp .ge 13, 3) := by decide +kernel
theorem dX9_aimHere_13 : decode cX9_aimHere 13 = .ok (.aload_n 0, 1) := by decide +kernel
theorem dX9_aimHere_14 : decode cX9_aimHere 14 = .ok (.getfield 32, 3) := by decide +kernel
theorem dX9_aimHere_17 : decode cX9_aimHere 17 = .ok (.iload_n 1, 1) := by decide +kernel
theorem dX9_aimHere_18 : decode cX9_aimHere 18 = .ok (.aload_n 0, 1) := by decide +kernel
theorem dX9_aimHere_19 : decode cX9_aimHere 19 = .ok (.getfield 54, 3) := by decide +kernel
theorem dX9_aimHere_22 : decode cX9_aimHere 22 = .ok (.iastore, 1) := by decide +kernel
theorem dX9_aimHere_23 : decode cX9_aimHere 23 = .ok (.return_, 1) := by decide +kernel
theorem fl_X8_11 : fl RX8 11 8 0 := ⟨RX8, TX8, 2, rfl, iw_X8, by decide, lg_at 37 (by decide +kernel) (by decide +kernel), rfl⟩
theorem fl_X8_15 : fl RX8 15 8 1 := ⟨RX8, TX8, 2, rfl, iw_X8, by decide, lg_at 38 (by decide +kernel) (by decide +kernel), rfl⟩
theorem fl_X9_13 : fl RX9 13 9 6 := ⟨RX9, TX9, 13, rfl, iw_X9, by decide, lg_at 101 (by decide +kernel) (by decide +kernel), rfl⟩
theorem fl_X9_17 : fl RX9 17 9 7 := ⟨RX9, TX9, 13, rfl, iw_X9, by decide, lg_at 104 (by decide +kernel) (by decide +kernel), rfl⟩
theorem fl_X9_20 : fl RX9 20 9 8 := ⟨RX9, TX9, 13, rfl, iw_X9, by decide, lg_at 108 (by decide +kernel) (by decide +kernel), rfl⟩
theorem fl_X9_23 : fl RX9 23 9 9 := ⟨RX9, TX9, 13, rfl, iw_X9, by decide, lg_at 112 (by decide +kernel) (by decide +kernel), rfl⟩
theorem fl_X9_26 : fl RX9 26 9 10 := ⟨RX9, TX9, 13, rfl, iw_X9, by decide, lg_at 115 (by decide +kernel) (by decide +kernel), rfl⟩
theorem fl_X9_29 : fl RX9 29 9 11 := ⟨RX9, TX9, 13, rfl, iw_X9, by decide, lg_at 117 (by decide +kernel) (by decide +kernel), rfl⟩
theorem fl_X9_32 : fl RX9 32 9 12 := ⟨RX9, TX9, 13, rfl, iw_X9, by decide, lg_at 119 (by decide +kernel) (by decide +kernel), rfl⟩
theorem fl_X9_38 : fl RX9 38 9 0 := ⟨RX9, TX9, 13, rfl, iw_X9, by decide, lg_at 78 (by decide +kernel) (by decide +kernel), rfl⟩
theorem fl_X9_42 : fl RX9 42 9 1 := ⟨RX9, TX9, 13, rfl, iw_X9, by decide, lg_at 85 (by decide +kernel) (by decide +kernel), rfl⟩
theorem fl_X9_45 : fl RX9 45 9 2 := ⟨RX9, TX9, 13, rfl, iw_X9, by decide, lg_at 89 (by decide +kernel) (by decide +kernel), rfl⟩
theorem fl_X9_48 : fl RX9 48 9 3 := ⟨RX9, TX9, 13, rfl, iw_X9, by decide, lg_at 92 (by decide +kernel) (by decide +kernel), rfl⟩
theorem fl_X9_51 : fl RX9 51 9 4 := ⟨RX9, TX9, 13, rfl, iw_X9, by decide, lg_at 95 (by decide +kernel) (by decide +kernel), rfl⟩
theorem fl_X9_54 : fl RX9 54 9 5 := ⟨RX9, TX9, 13, rfl, iw_X9, by decide, lg_at 98 (by decide +kernel) (by decide +kernel), rfl⟩
theorem fp_X8_15 : fp RX8 15 8 1 .int := ⟨RX8, TX8, 2, tyX8, rfl, iw_X8, by decide, lg_at 38 (by decide +kernel) (by decide +kernel), rfl, tyX8_ok, nmX8, rfl, by decide +kernel⟩
theorem fp_X9_38 : fp RX9 38 9 0 .int := ⟨RX9, TX9, 13, tyX9, rfl, iw_X9, by decide, lg_at 78 (by decide +kernel) (by decide +kernel), rfl, tyX9_ok, nmX9, rfl, by decide +kernel⟩
theorem fp_X9_42 : fp RX9 42 9 1 .int := ⟨RX9, TX9, 13, tyX9, rfl, iw_X9, by decide, lg_at 85 (by decide +kernel) (by decide +kernel), rfl, tyX9_ok, nmX9, rfl, by decide +kernel⟩
theorem fp_X9_45 : fp RX9 45 9 2 .int := ⟨RX9, TX9, 13, tyX9, rfl, iw_X9, by decide, lg_at 89 (by decide +kernel) (by decide +kernel), rfl, tyX9_ok, nmX9, rfl, by decide +kernel⟩
theorem fp_X9_48 : fp RX9 48 9 3 .int := ⟨RX9, TX9, 13, tyX9, rfl, iw_X9, by decide, lg_at 92 (by decide +kernel) (by decide +kernel), rfl, tyX9_ok, nmX9, rfl, by decide +kernel⟩
theorem fp_X9_51 : fp RX9 51 9 4 .int := ⟨RX9, TX9, 13, tyX9, rfl, iw_X9, by decide, lg_at 95 (by decide +kernel) (by decide +kernel), rfl, tyX9_ok, nmX9, rfl, by decide +kernel⟩
theorem fp_X9_54 : fp RX9 54 9 5 .int := ⟨RX9, TX9, 13, tyX9, rfl, iw_X9, by decide, lg_at 98 (by decide +kernel) (by decide +kernel), rfl, tyX9_ok, nmX9, rfl, by decide +kernel⟩
theorem cV_X9_65 : cV RX9 65 yX9_putPlainLaw cX9_putPlainLaw 4 none 3 := ⟨⟨lg_at 66 (by decide +kernel) (by decide +kernel), lg_at 68 (by decide +kernel) (by decide +kernel), lg_sel 0 (by decide +kernel) (by decide +kernel), lg_at 4 (by decide +kernel) (by decide +kernel), lg_at 69 (by decide +kernel) (by decide +kernel)⟩, by decide +kernel, by decide +kernel, by decide +kernel⟩
theorem cV_X9_75 : cV RX9 75 yX9_startLaw cX9_startLaw 2 none 1 := ⟨⟨lg_at 70 (by decide +kernel) (by decide +kernel), lg_at 71 (by decide +kernel) (by decide +kernel), lg_at 72 (by decide +kernel) (by decide +kernel), lg_at 4 (by decide +kernel) (by decide +kernel), lg_at 73 (by decide +kernel) (by decide +kernel)⟩, by decide +kernel, by decide +kernel, by decide +kernel⟩
theorem cV_X9_79 : cV RX9 79 yX9_putCode cX9_putCode 3 none 2 := ⟨⟨lg_at 74 (by decide +kernel) (by decide +kernel), lg_at 75 (by decide +kernel) (by decide +kernel), lg_at 76 (by decide +kernel) (by decide +kernel), lg_at 4 (by decide +kernel) (by decide +kernel), lg_at 77 (by decide +kernel) (by decide +kernel)⟩, by decide +kernel, by decide +kernel, by decide +kernel⟩
theorem cS_X9_57 : cS RX9 57 yJ7_fill_53178 cJ7_fill_53178 4 none 2 := ⟨⟨lg_at 63 (by decide +kernel) (by decide +kernel), lg_at 64 (by decide +kernel) (by decide +kernel), lg_at 5 (by decide +kernel) (by decide +kernel), lg_at 65 (by decide +kernel) (by decide +kernel)⟩, by decide +kernel, by decide +kernel, by decide +kernel⟩
theorem kcp_X9_69 : Cond.methodLink RX9 69 arraycopyName ∈ lg_tbl := lg_at 701 (by decide +kernel) (by decide +kernel)
section
variable {p : Program} {l : Launch} {e : Env} {s : State} {m : MethodId} {args : Array Value} {below : List Frame} {meth : Method} {c : Code} {D : va_G} {ad : Nat → Nat} {κ : KC}
-- X8_hasRoomFor
def FX8_hasRoomFor (x1 : Int32) (σ : HS) : Option (Int32 × HS) :=
  if (2000 : Int32) < ((σ.1 1 1) + x1) then some ((0 : Int32), σ) else some ((1 : Int32), σ)
set_option maxHeartbeats 4000000 in
set_option maxRecDepth 100000 in
theorem kX8_hasRoomFor (l : Launch) (D : va_G) (ad : Nat → Nat) (κ : KC) {x1 : Int32} {σ : HS} {R : (Int32 × HS)} (h : FX8_hasRoomFor x1 σ = some R) : MtI l 50 ceX D ad κ yX8_hasRoomFor cX8_hasRoomFor 2 (some .boolean) ({ frames := 0, cells := 0, slots := 0, locals := 0 } : Room) [.ref (ad 1), .int x1] σ R := by
  refine open_ (by decide) (Nat.le_of_ble_eq_true rfl) (la := [(0, .ref (ad 1)), (1, .int x1)]) rfl ?_
  intro p e s m below meth c ls C hH hl
  replace C : Cx 50 D ad κ p s m _ meth c cX8_hasRoomFor RX8 2 (some .boolean) := C
  have hx := C.1
  have hb := C.2.1
  have hown := C.2.2.2.1
  have hts := C.2.2.2.2.1
  rw [FX8_hasRoomFor] at h
  refine lv_aload_n hx hb dX8_hasRoomFor_0 rfl (lv_at hl 0 rfl) ?_
  refine g_get C hH 1 (Nat.le_of_ble_eq_true rfl) rfl fl_X8_15 (v := .int (σ.1 1 1)) rfl dX8_hasRoomFor_1 ?_
  refine lv_iload_n hx hb dX8_hasRoomFor_4 rfl (lv_at hl 1 rfl) ?_
  refine lv_iadd hx hb dX8_hasRoomFor_5 ?_
  refine lv_sipush (v := 2000) hx hb dX8_hasRoomFor_6 (by decide) ?_
  refine lv_icmp_gt (tgt := 16) hx hb dX8_hasRoomFor_9 (by decide) (fun hq_1 => ?_) (fun hq_1 => ?_)
  · rw [if_pos hq_1] at h
    refine lv_iconst (v := 0) hx hb dX8_hasRoomFor_16 (by decide) ?_
    exact g_retZ C hH rfl h dX8_hasRoomFor_17
  · rw [if_neg hq_1] at h
    refine lv_iconst (v := 1) hx hb dX8_hasRoomFor_12 (by decide) ?_
    refine lv_goto (tgt := 17) hx hb dX8_hasRoomFor_13 (by decide) ?_
    exact g_retZ C hH rfl h dX8_hasRoomFor_17
-- X8_putInt
def FX8_putInt_3  : Nat → Int32 → Int32 → HS → Option HS
  | 0, _, _, _ => none
  | f + 1, x1, x2, σ => if x2 < 0 then some σ else if (2000 : Int32) ≤ (σ.1 1 1) then FX8_putInt_3  f x1 (x2 + (-8)) σ else gd (ix (σ.1 1 1) 2000) (hl_ (pI σ 16 ((σ.1 1 1).toNatClampNeg) (vp_nar .byte ((x1 >>> (x2 &&& 31)).toInt8.toInt32))) fun σ_4 => hl_ (pI σ_4 1 1 ((σ_4.1 1 1) + (1 : Int32))) fun σ_5 => FX8_putInt_3  f x1 (x2 + (-8)) σ_5)
def FX8_putInt (x1 : Int32) (σ : HS) : Option HS :=
  FX8_putInt_3 fu x1 (24 : Int32) σ
set_option maxHeartbeats 4000000 in
set_option maxRecDepth 100000 in
theorem wX8_putInt_3 (C : Cx 50 D ad κ p s m args meth c cX8_putInt RX8 3 none) {R : HS} : ∀ (f : Nat) (x1 : Int32) (x2 : Int32) (σ : HS) (H : Heap) (locs : List Loc) (ls : Array Slot), FX8_putInt_3  f x1 x2 σ = some R → Hd 50 ceX D ad κ s σ H locs → lv_has ls 3 [(0, .ref (ad 1)), (1, .int x1), (2, .int x2)] → W p l e ({ frames := 0, cells := 0, slots := 0, locals := 0 } : Room) s m args below meth c H locs 0 0 (MQ below (QV 50 ceX D ad κ R) args s 0 0 (AX 50 ad)) (F0 m 3 ls []) := by
  have hx := C.1
  have hb := C.2.1
  have hown := C.2.2.2.1
  have hts := C.2.2.2.2.1
  intro f
  induction f with
  | zero =>
    intro x1 x2 σ H locs ls h hH hl
    cases h
  | succ f ih =>
    intro x1 x2 σ H locs ls h hH hl
    rw [FX8_putInt_3] at h
    refine lv_iload_n hx hb dX8_putInt_3 rfl (lv_at hl 2 rfl) ?_
    refine lv_if_lt (tgt := 46) hx hb dX8_putInt_4 (by decide) (fun hq_1 => ?_) (fun hq_1 => ?_)
    · rw [if_pos hq_1] at h
      exact g_retV C hH h dX8_putInt_46
    · rw [if_neg hq_1] at h
      refine lv_aload_n hx hb dX8_putInt_7 rfl (lv_at hl 0 rfl) ?_
      refine g_get C hH 1 (Nat.le_of_ble_eq_true rfl) rfl fl_X8_15 (v := .int (σ.1 1 1)) rfl dX8_putInt_8 ?_
      refine lv_sipush (v := 2000) hx hb dX8_putInt_11 (by decide) ?_
      refine lv_icmp_ge (tgt := 40) hx hb dX8_putInt_14 (by decide) (fun hq_2 => ?_) (fun hq_2 => ?_)
      · rw [if_pos hq_2] at h
        refine lv_iinc (v := (x2 + (-8))) (lv' := [(2, .int (x2 + (-8))), (0, .ref (ad 1)), (1, .int x1)]) hx hb dX8_putInt_40 hl (k := 2) rfl rfl (by decide) rfl (fun ls hl => ?_)
        refine lv_goto (tgt := 3) hx hb dX8_putInt_43 (by decide) ?_
        exact ih _ _ _ _ _ _ h hH (lv_sub hl [1, 2, 0] rfl)
      · rw [if_neg hq_2] at h
        refine lv_aload_n hx hb dX8_putInt_17 rfl (lv_at hl 0 rfl) ?_
        refine g_get C hH 1 (Nat.le_of_ble_eq_true rfl) rfl fl_X8_11 (v := .ref (ad 16)) rfl dX8_putInt_18 ?_
        refine lv_aload_n hx hb dX8_putInt_21 rfl (lv_at hl 0 rfl) ?_
        refine g_get C hH 1 (Nat.le_of_ble_eq_true rfl) rfl fl_X8_15 (v := .int (σ.1 1 1)) rfl dX8_putInt_22 ?_
        refine lv_iload_n hx hb dX8_putInt_25 rfl (lv_at hl 1 rfl) ?_
        refine lv_iload_n hx hb dX8_putInt_26 rfl (lv_at hl 2 rfl) ?_
        refine lv_ishr hx hb dX8_putInt_27 ?_
        refine lv_i2b (v := ((x1 >>> (x2 &&& 31)).toInt8.toInt32)) hx hb dX8_putInt_28 rfl ?_
        obtain ⟨hi_3, h⟩ := gd_ex h
        obtain ⟨σ_4, eσ_4, h⟩ := hl_ex h
        refine g_bast C hH 16 (Nat.le_of_ble_eq_true rfl) (fun _ _ => rfl) (k := ((σ.1 1 1).toNatClampNeg)) rfl (ix_in hi_3) dX8_putInt_29 (fun H locs hH => ?_)
        rw [← eσ_4] at hH
        refine lv_aload_n hx hb dX8_putInt_30 rfl (lv_at hl 0 rfl) ?_
        refine lv_dup hx hb dX8_putInt_31 rfl ?_
        refine g_get C hH 1 (Nat.le_of_ble_eq_true rfl) rfl fl_X8_15 (v := .int (σ_4.1 1 1)) rfl dX8_putInt_32 ?_
        refine lv_iconst (v := 1) hx hb dX8_putInt_35 (by decide) ?_
        refine lv_iadd hx hb dX8_putInt_36 ?_
        obtain ⟨σ_5, eσ_5, h⟩ := hl_ex h
        refine g_putI C hH 1 (Nat.le_of_ble_eq_true rfl) rfl fp_X8_15 rfl rfl (Nat.le_of_ble_eq_true rfl) rfl dX8_putInt_37 (fun H locs hH => ?_)
        rw [← eσ_5] at hH
        refine lv_iinc (v := (x2 + (-8))) (lv' := [(2, .int (x2 + (-8))), (0, .ref (ad 1)), (1, .int x1)]) hx hb dX8_putInt_40 hl (k := 2) rfl rfl (by decide) rfl (fun ls hl => ?_)
        refine lv_goto (tgt := 3) hx hb dX8_putInt_43 (by decide) ?_
        exact ih _ _ _ _ _ _ h hH (lv_sub hl [1, 2, 0] rfl)
set_option maxHeartbeats 4000000 in
set_option maxRecDepth 100000 in
theorem kX8_putInt (l : Launch) (D : va_G) (ad : Nat → Nat) (κ : KC) {x1 : Int32} {σ : HS} {R : HS} (h : FX8_putInt x1 σ = some R) : MtV l 50 ceX D ad κ yX8_putInt cX8_putInt 3 none ({ frames := 0, cells := 0, slots := 0, locals := 0 } : Room) [.ref (ad 1), .int x1] σ R := by
  refine open_ (by decide) (Nat.le_of_ble_eq_true rfl) (la := [(0, .ref (ad 1)), (1, .int x1)]) rfl ?_
  intro p e s m below meth c ls C hH hl
  replace C : Cx 50 D ad κ p s m _ meth c cX8_putInt RX8 3 none := C
  have hx := C.1
  have hb := C.2.1
  have hown := C.2.2.2.1
  have hts := C.2.2.2.2.1
  rw [FX8_putInt] at h
  refine lv_bipush (v := 24) hx hb dX8_putInt_0 (by decide) ?_
  refine lv_istore_n (lv' := [(2, .int (24 : Int32)), (0, .ref (ad 1)), (1, .int x1)]) hx hb dX8_putInt_2 rfl hl (by decide) rfl (fun ls hl => ?_)
  exact wX8_putInt_3 C _ _ _ _ _ _ _ h hH (lv_sub hl [1, 2, 0] rfl)
-- X8_byteAt
def FX8_byteAt (x1 : Int32) (σ : HS) : Option (Int32 × HS) :=
  if x1 < (0 : Int32) then some ((-1 : Int32), σ) else if (σ.1 1 1) ≤ x1 then some ((-1 : Int32), σ) else gd (ix x1 2000) (some (((σ.1 16 (x1.toNatClampNeg)) &&& (255 : Int32)), σ))
set_option maxHeartbeats 4000000 in
set_option maxRecDepth 100000 in
theorem kX8_byteAt (l : Launch) (D : va_G) (ad : Nat → Nat) (κ : KC) {x1 : Int32} {σ : HS} {R : (Int32 × HS)} (h : FX8_byteAt x1 σ = some R) : MtI l 50 ceX D ad κ yX8_byteAt cX8_byteAt 2 (some .int) ({ frames := 0, cells := 0, slots := 0, locals := 0 } : Room) [.ref (ad 1), .int x1] σ R := by
  refine open_ (by decide) (Nat.le_of_ble_eq_true rfl) (la := [(0, .ref (ad 1)), (1, .int x1)]) rfl ?_
  intro p e s m below meth c ls C hH hl
  replace C : Cx 50 D ad κ p s m _ meth c cX8_byteAt RX8 2 (some .int) := C
  have hx := C.1
  have hb := C.2.1
  have hown := C.2.2.2.1
  have hts := C.2.2.2.2.1
  rw [FX8_byteAt] at h
  refine lv_iconst (v := 0) hx hb dX8_byteAt_0 (by decide) ?_
  refine lv_iload_n hx hb dX8_byteAt_1 rfl (lv_at hl 1 rfl) ?_
  refine lv_icmp_gt (tgt := 26) hx hb dX8_byteAt_2 (by decide) (fun hq_1 => ?_) (fun hq_1 => ?_)
  · rw [if_pos hq_1] at h
    refine lv_iconst (v := (-1)) hx hb dX8_byteAt_26 (by decide) ?_
    exact g_ret C hH h dX8_byteAt_27
  · rw [if_neg hq_1] at h
    refine lv_iload_n hx hb dX8_byteAt_5 rfl (lv_at hl 1 rfl) ?_
    refine lv_aload_n hx hb dX8_byteAt_6 rfl (lv_at hl 0 rfl) ?_
    refine g_get C hH 1 (Nat.le_of_ble_eq_true rfl) rfl fl_X8_15 (v := .int (σ.1 1 1)) rfl dX8_byteAt_7 ?_
    refine lv_icmp_ge (tgt := 26) hx hb dX8_byteAt_10 (by decide) (fun hq_2 => ?_) (fun hq_2 => ?_)
    · rw [if_pos hq_2] at h
      refine lv_iconst (v := (-1)) hx hb dX8_byteAt_26 (by decide) ?_
      exact g_ret C hH h dX8_byteAt_27
    · rw [if_neg hq_2] at h
      refine lv_aload_n hx hb dX8_byteAt_13 rfl (lv_at hl 0 rfl) ?_
      refine g_get C hH 1 (Nat.le_of_ble_eq_true rfl) rfl fl_X8_11 (v := .ref (ad 16)) rfl dX8_byteAt_14 ?_
      refine lv_iload_n hx hb dX8_byteAt_17 rfl (lv_at hl 1 rfl) ?_
      obtain ⟨hi_3, h⟩ := gd_ex h
      refine g_bald C hH 16 (Nat.le_of_ble_eq_true rfl) rfl (k := (x1.toNatClampNeg)) rfl (ix_in hi_3) dX8_byteAt_18 ?_
      refine lv_sipush (v := 255) hx hb dX8_byteAt_19 (by decide) ?_
      refine lv_iand hx hb dX8_byteAt_22 ?_
      refine lv_goto (tgt := 27) hx hb dX8_byteAt_23 (by decide) ?_
      exact g_ret C hH h dX8_byteAt_27
-- X9_startLaw
def FX9_startLaw (x1 : Int32) (σ : HS) : Option HS :=
  gd (ix x1 4) (hl_ (pI σ 33 (x1.toNatClampNeg) (σ.1 12 5)) fun σ_2 => some σ_2)
set_option maxHeartbeats 4000000 in
set_option maxRecDepth 100000 in
theorem kX9_startLaw (l : Launch) (D : va_G) (ad : Nat → Nat) (κ : KC) {x1 : Int32} {σ : HS} {R : HS} (h : FX9_startLaw x1 σ = some R) : MtV l 50 ceX D ad κ yX9_startLaw cX9_startLaw 2 none ({ frames := 0, cells := 0, slots := 0, locals := 0 } : Room) [.ref (ad 12), .int x1] σ R := by
  refine open_ (by decide) (Nat.le_of_ble_eq_true rfl) (la := [(0, .ref (ad 12)), (1, .int x1)]) rfl ?_
  intro p e s m below meth c ls C hH hl
  replace C : Cx 50 D ad κ p s m _ meth c cX9_startLaw RX9 2 none := C
  have hx := C.1
  have hb := C.2.1
  have hown := C.2.2.2.1
  have hts := C.2.2.2.2.1
  rw [FX9_startLaw] at h
  refine lv_aload_n hx hb dX9_startLaw_0 rfl (lv_at hl 0 rfl) ?_
  refine g_get C hH 12 (Nat.le_of_ble_eq_true rfl) rfl fl_X9_26 (v := .ref (ad 33)) rfl dX9_startLaw_1 ?_
  refine lv_iload_n hx hb dX9_startLaw_4 rfl (lv_at hl 1 rfl) ?_
  refine lv_aload_n hx hb dX9_startLaw_5 rfl (lv_at hl 0 rfl) ?_
  refine g_get C hH 12 (Nat.le_of_ble_eq_true rfl) rfl fl_X9_54 (v := .int (σ.1 12 5)) rfl dX9_startLaw_6 ?_
  obtain ⟨hi_1, h⟩ := gd_ex h
  obtain ⟨σ_2, eσ_2, h⟩ := hl_ex h
  refine g_iast C hH 33 (Nat.le_of_ble_eq_true rfl) (fun _ _ => rfl) (k := (x1.toNatClampNeg)) rfl (ix_in hi_1) dX9_startLaw_9 (fun H locs hH => ?_)
  rw [← eσ_2] at hH
  exact g_retV C hH h dX9_startLaw_10
-- X9_putCode
def FX9_putCode (x1 : Int32) (x2 : Int32) (σ : HS) : Option HS :=
  if (408 : Int32) ≤ (σ.1 12 5) then some σ else gd (ix (σ.1 12 5) 408) (hl_ (pI σ 34 ((σ.1 12 5).toNatClampNeg) x1) fun σ_3 => gd (ix (σ_3.1 12 5) 408) (hl_ (pI σ_3 35 ((σ_3.1 12 5).toNatClampNeg) x2) fun σ_5 => hl_ (pI σ_5 12 5 ((σ_5.1 12 5) + (1 : Int32))) fun σ_6 => some σ_6))
set_option maxHeartbeats 4000000 in
set_option maxRecDepth 100000 in
theorem kX9_putCode (l : Launch) (D : va_G) (ad : Nat → Nat) (κ : KC) {x1 : Int32} {x2 : Int32} {σ : HS} {R : HS} (h : FX9_putCode x1 x2 σ = some R) : MtV l 50 ceX D ad κ yX9_putCode cX9_putCode 3 none ({ frames := 0, cells := 0, slots := 0, locals := 0 } : Room) [.ref (ad 12), .int x1, .int x2] σ R := by
  refine open_ (by decide) (Nat.le_of_ble_eq_true rfl) (la := [(0, .ref (ad 12)), (1, .int x1), (2, .int x2)]) rfl ?_
  intro p e s m below meth c ls C hH hl
  replace C : Cx 50 D ad κ p s m _ meth c cX9_putCode RX9 3 none := C
  have hx := C.1
  have hb := C.2.1
  have hown := C.2.2.2.1
  have hts := C.2.2.2.2.1
  rw [FX9_putCode] at h
  refine lv_aload_n hx hb dX9_putCode_0 rfl (lv_at hl 0 rfl) ?_
  refine g_get C hH 12 (Nat.le_of_ble_eq_true rfl) rfl fl_X9_54 (v := .int (σ.1 12 5)) rfl dX9_putCode_1 ?_
  refine lv_sipush (v := 408) hx hb dX9_putCode_4 (by decide) ?_
  refine lv_icmp_ge (tgt := 40) hx hb dX9_putCode_7 (by decide) (fun hq_1 => ?_) (fun hq_1 => ?_)
  · rw [if_pos hq_1] at h
    exact g_retV C hH h dX9_putCode_40
  · rw [if_neg hq_1] at h
    refine lv_aload_n hx hb dX9_putCode_10 rfl (lv_at hl 0 rfl) ?_
    refine g_get C hH 12 (Nat.le_of_ble_eq_true rfl) rfl fl_X9_29 (v := .ref (ad 34)) rfl dX9_putCode_11 ?_
    refine lv_aload_n hx hb dX9_putCode_14 rfl (lv_at hl 0 rfl) ?_
    refine g_get C hH 12 (Nat.le_of_ble_eq_true rfl) rfl fl_X9_54 (v := .int (σ.1 12 5)) rfl dX9_putCode_15 ?_
    refine lv_iload_n hx hb dX9_putCode_18 rfl (lv_at hl 1 rfl) ?_
    obtain ⟨hi_2, h⟩ := gd_ex h
    obtain ⟨σ_3, eσ_3, h⟩ := hl_ex h
    refine g_iast C hH 34 (Nat.le_of_ble_eq_true rfl) (fun _ _ => rfl) (k := ((σ.1 12 5).toNatClampNeg)) rfl (ix_in hi_2) dX9_putCode_19 (fun H locs hH => ?_)
    rw [← eσ_3] at hH
    refine lv_aload_n hx hb dX9_putCode_20 rfl (lv_at hl 0 rfl) ?_
    refine g_get C hH 12 (Nat.le_of_ble_eq_true rfl) rfl fl_X9_32 (v := .ref (ad 35)) rfl dX9_putCode_21 ?_
    refine lv_aload_n hx hb dX9_putCode_24 rfl (lv_at hl 0 rfl) ?_
    refine g_get C hH 12 (Nat.le_of_ble_eq_true rfl) rfl fl_X9_54 (v := .int (σ_3.1 12 5)) rfl dX9_putCode_25 ?_
    refine lv_iload_n hx hb dX9_putCode_28 rfl (lv_at hl 2 rfl) ?_
    obtain ⟨hi_4, h⟩ := gd_ex h
    obtain ⟨σ_5, eσ_5, h⟩ := hl_ex h
    refine g_iast C hH 35 (Nat.le_of_ble_eq_true rfl) (fun _ _ => rfl) (k := ((σ_3.1 12 5).toNatClampNeg)) rfl (ix_in hi_4) dX9_putCode_29 (fun H locs hH => ?_)
    rw [← eσ_5] at hH
    refine lv_aload_n hx hb dX9_putCode_30 rfl (lv_at hl 0 rfl) ?_
    refine lv_dup hx hb dX9_putCode_31 rfl ?_
    refine g_get C hH 12 (Nat.le_of_ble_eq_true rfl) rfl fl_X9_54 (v := .int (σ_5.1 12 5)) rfl dX9_putCode_32 ?_
    refine lv_iconst (v := 1) hx hb dX9_putCode_35 (by decide) ?_
    refine lv_iadd hx hb dX9_putCode_36 ?_
    obtain ⟨σ_6, eσ_6, h⟩ := hl_ex h
    refine g_putI C hH 12 (Nat.le_of_ble_eq_true rfl) rfl fp_X9_54 rfl rfl (Nat.le_of_ble_eq_true rfl) rfl dX9_putCode_37 (fun H locs hH => ?_)
    rw [← eσ_6] at hH
    exact g_retV C hH h dX9_putCode_40
-- X9_putPlainLaw
def FX9_putPlainLaw (x1 : Int32) (x2 : Int32) (x3 : Int32) (σ : HS) : Option HS :=
  bdV (FX9_startLaw x1 σ) fun σ_1 => bdV (FX9_putCode x2 x3 σ_1) fun σ_3 => bdV (FX9_putCode (3 : Int32) (0 : Int32) σ_3) fun σ_5 => some σ_5
set_option maxHeartbeats 4000000 in
set_option maxRecDepth 100000 in
theorem kX9_putPlainLaw (l : Launch) (D : va_G) (ad : Nat → Nat) (κ : KC) {x1 : Int32} {x2 : Int32} {x3 : Int32} {σ : HS} {R : HS} (h : FX9_putPlainLaw x1 x2 x3 σ = some R) : MtV l 50 ceX D ad κ yX9_putPlainLaw cX9_putPlainLaw 4 none ({ frames := 1, cells := 0, slots := 0, locals := 22 } : Room) [.ref (ad 12), .int x1, .int x2, .int x3] σ R := by
  refine open_ (by decide) (Nat.le_of_ble_eq_true rfl) (la := [(0, .ref (ad 12)), (1, .int x1), (2, .int x2), (3, .int x3)]) rfl ?_
  intro p e s m below meth c ls C hH hl
  replace C : Cx 50 D ad κ p s m _ meth c cX9_putPlainLaw RX9 4 none := C
  have hx := C.1
  have hb := C.2.1
  have hown := C.2.2.2.1
  have hts := C.2.2.2.2.1
  rw [FX9_putPlainLaw] at h
  refine lv_aload_n hx hb dX9_putPlainLaw_0 rfl (lv_at hl 0 rfl) ?_
  refine lv_iload_n hx hb dX9_putPlainLaw_1 rfl (lv_at hl 1 rfl) ?_
  obtain ⟨σ_1, hc_2, h⟩ := bdV_ex h
  refine g_cv (g_runV (rest := []) C hH hl.1 cV_X9_75 12 (Nat.le_of_ble_eq_true rfl) rfl rfl (kX9_startLaw l D ad κ hc_2) ⟨rfl, rfl⟩ ⟨(Nat.le_of_ble_eq_true rfl), (Nat.le_of_ble_eq_true rfl)⟩ rfl rfl (Nat.le_of_ble_eq_true rfl) dX9_putPlainLaw_2 z00) hH (fun H locs hH => ?_)
  refine lv_aload_n hx hb dX9_putPlainLaw_5 rfl (lv_at hl 0 rfl) ?_
  refine lv_iload_n hx hb dX9_putPlainLaw_6 rfl (lv_at hl 2 rfl) ?_
  refine lv_iload_n hx hb dX9_putPlainLaw_7 rfl (lv_at hl 3 rfl) ?_
  obtain ⟨σ_3, hc_4, h⟩ := bdV_ex h
  refine g_cv (g_runV (rest := []) C hH hl.1 cV_X9_79 12 (Nat.le_of_ble_eq_true rfl) rfl rfl (kX9_putCode l D ad κ hc_4) ⟨rfl, rfl⟩ ⟨(Nat.le_of_ble_eq_true rfl), (Nat.le_of_ble_eq_true rfl)⟩ rfl rfl (Nat.le_of_ble_eq_true rfl) dX9_putPlainLaw_8 z00) hH (fun H locs hH => ?_)
  refine lv_aload_n hx hb dX9_putPlainLaw_11 rfl (lv_at hl 0 rfl) ?_
  refine lv_iconst (v := 3) hx hb dX9_putPlainLaw_12 (by decide) ?_
  refine lv_iconst (v := 0) hx hb dX9_putPlainLaw_13 (by decide) ?_
  obtain ⟨σ_5, hc_6, h⟩ := bdV_ex h
  refine g_cv (g_runV (rest := []) C hH hl.1 cV_X9_79 12 (Nat.le_of_ble_eq_true rfl) rfl rfl (kX9_putCode l D ad κ hc_6) ⟨rfl, rfl⟩ ⟨(Nat.le_of_ble_eq_true rfl), (Nat.le_of_ble_eq_true rfl)⟩ rfl rfl (Nat.le_of_ble_eq_true rfl) dX9_putPlainLaw_14 z00) hH (fun H locs hH => ?_)
  exact g_retV C hH h dX9_putPlainLaw_17
-- X9_empty
def FX9_empty (σ : HS) : Option HS :=
  hl_ (pI σ 12 0 (0 : Int32)) fun σ_1 => hl_ (pI σ_1 12 1 (0 : Int32)) fun σ_2 => hl_ (pI σ_2 12 2 (0 : Int32)) fun σ_3 => hl_ (pI σ_3 12 3 (0 : Int32)) fun σ_4 => hl_ (pI σ_4 12 4 (0 : Int32)) fun σ_5 => hl_ (pI σ_5 12 5 (0 : Int32)) fun σ_6 => bdV (FJ7_fill_53178 32 8 (-2 : Int32) σ_6) fun σ_7 => bdV (FX9_putPlainLaw (0 : Int32) (0 : Int32) (1 : Int32) σ_7) fun σ_9 => bdV (FX9_putPlainLaw (1 : Int32) (0 : Int32) (1 : Int32) σ_9) fun σ_11 => bdV (FX9_putPlainLaw (2 : Int32) (1 : Int32) (4 : Int32) σ_11) fun σ_13 => bdV (FX9_putPlainLaw (3 : Int32) (0 : Int32) (0 : Int32) σ_13) fun σ_15 => some σ_15
set_option maxHeartbeats 4000000 in
set_option maxRecDepth 100000 in
theorem kX9_empty (l : Launch) (D : va_G) (ad : Nat → Nat) (κ : KC) {σ : HS} {R : HS} (h : FX9_empty σ = some R) : MtV l 50 ceX D ad κ yX9_empty cX9_empty 1 none ({ frames := 2, cells := 0, slots := 0, locals := 45 } : Room) [.ref (ad 12)] σ R := by
  refine open_ (by decide) (Nat.le_of_ble_eq_true rfl) (la := [(0, .ref (ad 12))]) rfl ?_
  intro p e s m below meth c ls C hH hl
  replace C : Cx 50 D ad κ p s m _ meth c cX9_empty RX9 1 none := C
  have hx := C.1
  have hb := C.2.1
  have hown := C.2.2.2.1
  have hts := C.2.2.2.2.1
  rw [FX9_empty] at h
  refine lv_aload_n hx hb dX9_empty_0 rfl (lv_at hl 0 rfl) ?_
  refine lv_iconst (v := 0) hx hb dX9_empty_1 (by decide) ?_
  obtain ⟨σ_1, eσ_1, h⟩ := hl_ex h
  refine g_putI C hH 12 (Nat.le_of_ble_eq_true rfl) rfl fp_X9_38 rfl rfl (Nat.le_of_ble_eq_true rfl) rfl dX9_empty_2 (fun H locs hH => ?_)
  rw [← eσ_1] at hH
  refine lv_aload_n hx hb dX9_empty_5 rfl (lv_at hl 0 rfl) ?_
  refine lv_iconst (v := 0) hx hb dX9_empty_6 (by decide) ?_
  obtain ⟨σ_2, eσ_2, h⟩ := hl_ex h
  refine g_putI C hH 12 (Nat.le_of_ble_eq_true rfl) rfl fp_X9_42 rfl rfl (Nat.le_of_ble_eq_true rfl) rfl dX9_empty_7 (fun H locs hH => ?_)
  rw [← eσ_2] at hH
  refine lv_aload_n hx hb dX9_empty_10 rfl (lv_at hl 0 rfl) ?_
  refine lv_iconst (v := 0) hx hb dX9_empty_11 (by decide) ?_
  obtain ⟨σ_3, eσ_3, h⟩ := hl_ex h
  refine g_putI C hH 12 (Nat.le_of_ble_eq_true rfl) rfl fp_X9_45 rfl rfl (Nat.le_of_ble_eq_true rfl) rfl dX9_empty_12 (fun H locs hH => ?_)
  rw [← eσ_3] at hH
  refine lv_aload_n hx hb dX9_empty_15 rfl (lv_at hl 0 rfl) ?_
  refine lv_iconst (v := 0) hx hb dX9_empty_16 (by decide) ?_
  obtain ⟨σ_4, eσ_4, h⟩ := hl_ex h
  refine g_putI C hH 12 (Nat.le_of_ble_eq_true rfl) rfl fp_X9_48 rfl rfl (Nat.le_of_ble_eq_true rfl) rfl dX9_empty_17 (fun H locs hH => ?_)
  rw [← eσ_4] at hH
  refine lv_aload_n hx hb dX9_empty_20 rfl (lv_at hl 0 rfl) ?_
  refine lv_iconst (v := 0) hx hb dX9_empty_21 (by decide) ?_
  obtain ⟨σ_5, eσ_5, h⟩ := hl_ex h
  refine g_putI C hH 12 (Nat.le_of_ble_eq_true rfl) rfl fp_X9_51 rfl rfl (Nat.le_of_ble_eq_true rfl) rfl dX9_empty_22 (fun H locs hH => ?_)
  rw [← eσ_5] at hH
  refine lv_aload_n hx hb dX9_empty_25 rfl (lv_at hl 0 rfl) ?_
  refine lv_iconst (v := 0) hx hb dX9_empty_26 (by decide) ?_
  obtain ⟨σ_6, eσ_6, h⟩ := hl_ex h
  refine g_putI C hH 12 (Nat.le_of_ble_eq_true rfl) rfl fp_X9_54 rfl rfl (Nat.le_of_ble_eq_true rfl) rfl dX9_empty_27 (fun H locs hH => ?_)
  rw [← eσ_6] at hH
  refine lv_aload_n hx hb dX9_empty_30 rfl (lv_at hl 0 rfl) ?_
  refine g_get C hH 12 (Nat.le_of_ble_eq_true rfl) rfl fl_X9_23 (v := .ref (ad 32)) rfl dX9_empty_31 ?_
  refine lv_bipush (v := (-2)) hx hb dX9_empty_34 (by decide) ?_
  obtain ⟨σ_7, hc_8, h⟩ := bdV_ex h
  refine g_cv (g_runS (rest := []) C hH hl.1 cS_X9_57 (kJ7_fill_53178 l D ad κ (Nat.le_of_ble_eq_true rfl) (fun _ _ => rfl) hc_8) ⟨rfl, rfl⟩ ⟨(Nat.le_of_ble_eq_true rfl), (Nat.le_of_ble_eq_true rfl)⟩ rfl rfl (Nat.le_of_ble_eq_true rfl) dX9_empty_36 z00) hH (fun H locs hH => ?_)
  refine lv_aload_n hx hb dX9_empty_39 rfl (lv_at hl 0 rfl) ?_
  refine lv_iconst (v := 0) hx hb dX9_empty_40 (by decide) ?_
  refine lv_iconst (v := 0) hx hb dX9_empty_41 (by decide) ?_
  refine lv_iconst (v := 1) hx hb dX9_empty_42 (by decide) ?_
  obtain ⟨σ_9, hc_10, h⟩ := bdV_ex h
  refine g_cv (g_runV (rest := []) C hH hl.1 cV_X9_65 12 (Nat.le_of_ble_eq_true rfl) rfl rfl (kX9_putPlainLaw l D ad κ hc_10) ⟨rfl, rfl⟩ ⟨(Nat.le_of_ble_eq_true rfl), (Nat.le_of_ble_eq_true rfl)⟩ rfl rfl (Nat.le_of_ble_eq_true rfl) dX9_empty_43 z00) hH (fun H locs hH => ?_)
  refine lv_aload_n hx hb dX9_empty_46 rfl (lv_at hl 0 rfl) ?_
  refine lv_iconst (v := 1) hx hb dX9_empty_47 (by decide) ?_
  refine lv_iconst (v := 0) hx hb dX9_empty_48 (by decide) ?_
  refine lv_iconst (v := 1) hx hb dX9_empty_49 (by decide) ?_
  obtain ⟨σ_11, hc_12, h⟩ := bdV_ex h
  refine g_cv (g_runV (rest := []) C hH hl.1 cV_X9_65 12 (Nat.le_of_ble_eq_true rfl) rfl rfl (kX9_putPlainLaw l D ad κ hc_12) ⟨rfl, rfl⟩ ⟨(Nat.le_of_ble_eq_true rfl), (Nat.le_of_ble_eq_true rfl)⟩ rfl rfl (Nat.le_of_ble_eq_true rfl) dX9_empty_50 z00) hH (fun H locs hH => ?_)
  refine lv_aload_n hx hb dX9_empty_53 rfl (lv_at hl 0 rfl) ?_
  refine lv_iconst (v := 2) hx hb dX9_empty_54 (by decide) ?_
  refine lv_iconst (v := 1) hx hb dX9_empty_55 (by decide) ?_
  refine lv_iconst (v := 4) hx hb dX9_empty_56 (by decide) ?_
  obtain ⟨σ_13, hc_14, h⟩ := bdV_ex h
  refine g_cv (g_runV (rest := []) C hH hl.1 cV_X9_65 12 (Nat.le_of_ble_eq_true rfl) rfl rfl (kX9_putPlainLaw l D ad κ hc_14) ⟨rfl, rfl⟩ ⟨(Nat.le_of_ble_eq_true rfl), (Nat.le_of_ble_eq_true rfl)⟩ rfl rfl (Nat.le_of_ble_eq_true rfl) dX9_empty_57 z00) hH (fun H locs hH => ?_)
  refine lv_aload_n hx hb dX9_empty_60 rfl (lv_at hl 0 rfl) ?_
  refine lv_iconst (v := 3) hx hb dX9_empty_61 (by decide) ?_
  refine lv_iconst (v := 0) hx hb dX9_empty_62 (by decide) ?_
  refine lv_iconst (v := 0) hx hb dX9_empty_63 (by decide) ?_
  obtain ⟨σ_15, hc_16, h⟩ := bdV_ex h
  refine g_cv (g_runV (rest := []) C hH hl.1 cV_X9_65 12 (Nat.le_of_ble_eq_true rfl) rfl rfl (kX9_putPlainLaw l D ad κ hc_16) ⟨rfl, rfl⟩ ⟨(Nat.le_of_ble_eq_true rfl), (Nat.le_of_ble_eq_true rfl)⟩ rfl rfl (Nat.le_of_ble_eq_true rfl) dX9_empty_64 z00) hH (fun H locs hH => ?_)
  exact g_retV C hH h dX9_empty_67
-- X9_copyFrom
def FX9_copyFrom (σ : HS) : Option HS :=
  hl_ (pI σ 3 0 (σ.1 12 0)) fun σ_1 => hl_ (pI σ_1 3 1 (σ_1.1 12 1)) fun σ_2 => hl_ (pI σ_2 3 2 (σ_2.1 12 2)) fun σ_3 => hl_ (pI σ_3 3 3 (σ_3.1 12 3)) fun σ_4 => hl_ (pI σ_4 3 4 (σ_4.1 12 4)) fun σ_5 => hl_ (pI σ_5 3 5 (σ_5.1 12 5)) fun σ_6 => hl_ (rI σ_6 22 (va_cpy (σ_6.1 29) (σ_6.1 22) 0 0 10)) fun σ_7 => hl_ (rI σ_7 23 (va_cpy (σ_7.1 30) (σ_7.1 23) 0 0 5)) fun σ_8 => hl_ (rI σ_8 24 (va_cpy (σ_8.1 31) (σ_8.1 24) 0 0 5)) fun σ_9 => hl_ (rI σ_9 25 (va_cpy (σ_9.1 32) (σ_9.1 25) 0 0 8)) fun σ_10 => hl_ (rI σ_10 26 (va_cpy (σ_10.1 33) (σ_10.1 26) 0 0 4)) fun σ_11 => hl_ (rI σ_11 27 (va_cpy (σ_11.1 34) (σ_11.1 27) 0 0 408)) fun σ_12 => hl_ (rI σ_12 28 (va_cpy (σ_12.1 35) (σ_12.1 28) 0 0 408)) fun σ_13 => some σ_13
set_option maxHeartbeats 4000000 in
set_option maxRecDepth 100000 in
theorem kX9_copyFrom (l : Launch) (D : va_G) (ad : Nat → Nat) (κ : KC) {σ : HS} {R : HS} (h : FX9_copyFrom σ = some R) : MtV l 50 ceX D ad κ yX9_copyFrom cX9_copyFrom 2 none ({ frames := 1, cells := 0, slots := 0, locals := 26 } : Room) [.ref (ad 3), .ref (ad 12)] σ R := by
  refine open_ (by decide) (Nat.le_of_ble_eq_true rfl) (la := [(0, .ref (ad 3)), (1, .ref (ad 12))]) rfl ?_
  intro p e s m below meth c ls C hH hl
  replace C : Cx 50 D ad κ p s m _ meth c cX9_copyFrom RX9 2 none := C
  have hx := C.1
  have hb := C.2.1
  have hown := C.2.2.2.1
  have hts := C.2.2.2.2.1
  rw [FX9_copyFrom] at h
  refine lv_aload_n hx hb dX9_copyFrom_0 rfl (lv_at hl 0 rfl) ?_
  refine lv_aload_n hx hb dX9_copyFrom_1 rfl (lv_at hl 1 rfl) ?_
  refine g_get C hH 12 (Nat.le_of_ble_eq_true rfl) rfl fl_X9_38 (v := .int (σ.1 12 0)) rfl dX9_copyFrom_2 ?_
  obtain ⟨σ_1, eσ_1, h⟩ := hl_ex h
  refine g_putI C hH 3 (Nat.le_of_ble_eq_true rfl) rfl fp_X9_38 rfl rfl (Nat.le_of_ble_eq_true rfl) rfl dX9_copyFrom_5 (fun H locs hH => ?_)
  rw [← eσ_1] at hH
  refine lv_aload_n hx hb dX9_copyFrom_8 rfl (lv_at hl 0 rfl) ?_
  refine lv_aload_n hx hb dX9_copyFrom_9 rfl (lv_at hl 1 rfl) ?_
  refine g_get C hH 12 (Nat.le_of_ble_eq_true rfl) rfl fl_X9_42 (v := .int (σ_1.1 12 1)) rfl dX9_copyFrom_10 ?_
  obtain ⟨σ_2, eσ_2, h⟩ := hl_ex h
  refine g_putI C hH 3 (Nat.le_of_ble_eq_true rfl) rfl fp_X9_42 rfl rfl (Nat.le_of_ble_eq_true rfl) rfl dX9_copyFrom_13 (fun H locs hH => ?_)
  rw [← eσ_2] at hH
  refine lv_aload_n hx hb dX9_copyFrom_16 rfl (lv_at hl 0 rfl) ?_
  refine lv_aload_n hx hb dX9_copyFrom_17 rfl (lv_at hl 1 rfl) ?_
  refine g_get C hH 12 (Nat.le_of_ble_eq_true rfl) rfl fl_X9_45 (v := .int (σ_2.1 12 2)) rfl dX9_copyFrom_18 ?_
  obtain ⟨σ_3, eσ_3, h⟩ := hl_ex h
  refine g_putI C hH 3 (Nat.le_of_ble_eq_true rfl) rfl fp_X9_45 rfl rfl (Nat.le_of_ble_eq_true rfl) rfl dX9_copyFrom_21 (fun H locs hH => ?_)
  rw [← eσ_3] at hH
  refine lv_aload_n hx hb dX9_copyFrom_24 rfl (lv_at hl 0 rfl) ?_
  refine lv_aload_n hx hb dX9_copyFrom_25 rfl (lv_at hl 1 rfl) ?_
  refine g_get C hH 12 (Nat.le_of_ble_eq_true rfl) rfl fl_X9_48 (v := .int (σ_3.1 12 3)) rfl dX9_copyFrom_26 ?_
  obtain ⟨σ_4, eσ_4, h⟩ := hl_ex h
  refine g_putI C hH 3 (Nat.le_of_ble_eq_true rfl) rfl fp_X9_48 rfl rfl (Nat.le_of_ble_eq_true rfl) rfl dX9_copyFrom_29 (fun H locs hH => ?_)
  rw [← eσ_4] at hH
  refine lv_aload_n hx hb dX9_copyFrom_32 rfl (lv_at hl 0 rfl) ?_
  refine lv_aload_n hx hb dX9_copyFrom_33 rfl (lv_at hl 1 rfl) ?_
  refine g_get C hH 12 (Nat.le_of_ble_eq_true rfl) rfl fl_X9_51 (v := .int (σ_4.1 12 4)) rfl dX9_copyFrom_34 ?_
  obtain ⟨σ_5, eσ_5, h⟩ := hl_ex h
  refine g_putI C hH 3 (Nat.le_of_ble_eq_true rfl) rfl fp_X9_51 rfl rfl (Nat.le_of_ble_eq_true rfl) rfl dX9_copyFrom_37 (fun H locs hH => ?_)
  rw [← eσ_5] at hH
  refine lv_aload_n hx hb dX9_copyFrom_40 rfl (lv_at hl 0 rfl) ?_
  refine lv_aload_n hx hb dX9_copyFrom_41 rfl (lv_at hl 1 rfl) ?_
  refine g_get C hH 12 (Nat.le_of_ble_eq_true rfl) rfl fl_X9_54 (v := .int (σ_5.1 12 5)) rfl dX9_copyFrom_42 ?_
  obtain ⟨σ_6, eσ_6, h⟩ := hl_ex h
  refine g_putI C hH 3 (Nat.le_of_ble_eq_true rfl) rfl fp_X9_54 rfl rfl (Nat.le_of_ble_eq_true rfl) rfl dX9_copyFrom_45 (fun H locs hH => ?_)
  rw [← eσ_6] at hH
  refine lv_aload_n hx hb dX9_copyFrom_48 rfl (lv_at hl 1 rfl) ?_
  refine g_get C hH 12 (Nat.le_of_ble_eq_true rfl) rfl fl_X9_13 (v := .ref (ad 29)) rfl dX9_copyFrom_49 ?_
  refine lv_iconst (v := 0) hx hb dX9_copyFrom_52 (by decide) ?_
  refine lv_aload_n hx hb dX9_copyFrom_53 rfl (lv_at hl 0 rfl) ?_
  refine g_get C hH 3 (Nat.le_of_ble_eq_true rfl) rfl fl_X9_13 (v := .ref (ad 22)) rfl dX9_copyFrom_54 ?_
  refine lv_iconst (v := 0) hx hb dX9_copyFrom_57 (by decide) ?_
  refine lv_bipush (v := 10) hx hb dX9_copyFrom_58 (by decide) ?_
  obtain ⟨σ_7, eσ_7, h⟩ := hl_ex h
  refine g_copy C hH hl.1 29 22 (Nat.le_of_ble_eq_true rfl) (Nat.le_of_ble_eq_true rfl) rfl (fun _ _ => rfl) kcp_X9_69 kcn kcs kci (a := 0) (b := 0) (d := 10) (by decide) (by decide) (by decide) (by decide) (by decide) (by decide) (Nat.le_of_ble_eq_true rfl) (Nat.le_of_ble_eq_true rfl) (Nat.le_of_ble_eq_true rfl) (Nat.le_of_ble_eq_true rfl) dX9_copyFrom_60 (fun H locs hH => ?_)
  rw [← eσ_7] at hH
  refine lv_aload_n hx hb dX9_copyFrom_63 rfl (lv_at hl 1 rfl) ?_
  refine g_get C hH 12 (Nat.le_of_ble_eq_true rfl) rfl fl_X9_17 (v := .ref (ad 30)) rfl dX9_copyFrom_64 ?_
  refine lv_iconst (v := 0) hx hb dX9_copyFrom_67 (by decide) ?_
  refine lv_aload_n hx hb dX9_copyFrom_68 rfl (lv_at hl 0 rfl) ?_
  refine g_get C hH 3 (Nat.le_of_ble_eq_true rfl) rfl fl_X9_17 (v := .ref (ad 23)) rfl dX9_copyFrom_69 ?_
  refine lv_iconst (v := 0) hx hb dX9_copyFrom_72 (by decide) ?_
  refine lv_iconst (v := 5) hx hb dX9_copyFrom_73 (by decide) ?_
  obtain ⟨σ_8, eσ_8, h⟩ := hl_ex h
  refine g_copy C hH hl.1 30 23 (Nat.le_of_ble_eq_true rfl) (Nat.le_of_ble_eq_true rfl) rfl (fun _ _ => rfl) kcp_X9_69 kcn kcs kci (a := 0) (b := 0) (d := 5) (by decide) (by decide) (by decide) (by decide) (by decide) (by decide) (Nat.le_of_ble_eq_true rfl) (Nat.le_of_ble_eq_true rfl) (Nat.le_of_ble_eq_true rfl) (Nat.le_of_ble_eq_true rfl) dX9_copyFrom_74 (fun H locs hH => ?_)
  rw [← eσ_8] at hH
  refine lv_aload_n hx hb dX9_copyFrom_77 rfl (lv_at hl 1 rfl) ?_
  refine g_get C hH 12 (Nat.le_of_ble_eq_true rfl) rfl fl_X9_20 (v := .ref (ad 31)) rfl dX9_copyFrom_78 ?_
  refine lv_iconst (v := 0) hx hb dX9_copyFrom_81 (by decide) ?_
  refine lv_aload_n hx hb dX9_copyFrom_82 rfl (lv_at hl 0 rfl) ?_
  refine g_get C hH 3 (Nat.le_of_ble_eq_true rfl) rfl fl_X9_20 (v := .ref (ad 24)) rfl dX9_copyFrom_83 ?_
  refine lv_iconst (v := 0) hx hb dX9_copyFrom_86 (by decide) ?_
  refine lv_iconst (v := 5) hx hb dX9_copyFrom_87 (by decide) ?_
  obtain ⟨σ_9, eσ_9, h⟩ := hl_ex h
  refine g_copy C hH hl.1 31 24 (Nat.le_of_ble_eq_true rfl) (Nat.le_of_ble_eq_true rfl) rfl (fun _ _ => rfl) kcp_X9_69 kcn kcs kci (a := 0) (b := 0) (d := 5) (by decide) (by decide) (by decide) (by decide) (by decide) (by decide) (Nat.le_of_ble_eq_true rfl) (Nat.le_of_ble_eq_true rfl) (Nat.le_of_ble_eq_true rfl) (Nat.le_of_ble_eq_true rfl) dX9_copyFrom_88 (fun H locs hH => ?_)
  rw [← eσ_9] at hH
  refine lv_aload_n hx hb dX9_copyFrom_91 rfl (lv_at hl 1 rfl) ?_
  refine g_get C hH 12 (Nat.le_of_ble_eq_true rfl) rfl fl_X9_23 (v := .ref (ad 32)) rfl dX9_copyFrom_92 ?_
  refine lv_iconst (v := 0) hx hb dX9_copyFrom_95 (by decide) ?_
  refine lv_aload_n hx hb dX9_copyFrom_96 rfl (lv_at hl 0 rfl) ?_
  refine g_get C hH 3 (Nat.le_of_ble_eq_true rfl) rfl fl_X9_23 (v := .ref (ad 25)) rfl dX9_copyFrom_97 ?_
  refine lv_iconst (v := 0) hx hb dX9_copyFrom_100 (by decide) ?_
  refine lv_bipush (v := 8) hx hb dX9_copyFrom_101 (by decide) ?_
  obtain ⟨σ_10, eσ_10, h⟩ := hl_ex h
  refine g_copy C hH hl.1 32 25 (Nat.le_of_ble_eq_true rfl) (Nat.le_of_ble_eq_true rfl) rfl (fun _ _ => rfl) kcp_X9_69 kcn kcs kci (a := 0) (b := 0) (d := 8) (by decide) (by decide) (by decide) (by decide) (by decide) (by decide) (Nat.le_of_ble_eq_true rfl) (Nat.le_of_ble_eq_true rfl) (Nat.le_of_ble_eq_true rfl) (Nat.le_of_ble_eq_true rfl) dX9_copyFrom_103 (fun H locs hH => ?_)
  rw [← eσ_10] at hH
  refine lv_aload_n hx hb dX9_copyFrom_106 rfl (lv_at hl 1 rfl) ?_
  refine g_get C hH 12 (Nat.le_of_ble_eq_true rfl) rfl fl_X9_26 (v := .ref (ad 33)) rfl dX9_copyFrom_107 ?_
  refine lv_iconst (v := 0) hx hb dX9_copyFrom_110 (by decide) ?_
  refine lv_aload_n hx hb dX9_copyFrom_111 rfl (lv_at hl 0 rfl) ?_
  refine g_get C hH 3 (Nat.le_of_ble_eq_true rfl) rfl fl_X9_26 (v := .ref (ad 26)) rfl dX9_copyFrom_112 ?_
  refine lv_iconst (v := 0) hx hb dX9_copyFrom_115 (by decide) ?_
  refine lv_iconst (v := 4) hx hb dX9_copyFrom_116 (by decide) ?_
  obtain ⟨σ_11, eσ_11, h⟩ := hl_ex h
  refine g_copy C hH hl.1 33 26 (Nat.le_of_ble_eq_true rfl) (Nat.le_of_ble_eq_true rfl) rfl (fun _ _ => rfl) kcp_X9_69 kcn kcs kci (a := 0) (b := 0) (d := 4) (by decide) (by decide) (by decide) (by decide) (by decide) (by decide) (Nat.le_of_ble_eq_true rfl) (Nat.le_of_ble_eq_true rfl) (Nat.le_of_ble_eq_true rfl) (Nat.le_of_ble_eq_true rfl) dX9_copyFrom_117 (fun H locs hH => ?_)
  rw [← eσ_11] at hH
  refine lv_aload_n hx hb dX9_copyFrom_120 rfl (lv_at hl 1 rfl) ?_
  refine g_get C hH 12 (Nat.le_of_ble_eq_true rfl) rfl fl_X9_29 (v := .ref (ad 34)) rfl dX9_copyFrom_121 ?_
  refine lv_iconst (v := 0) hx hb dX9_copyFrom_124 (by decide) ?_
  refine lv_aload_n hx hb dX9_copyFrom_125 rfl (lv_at hl 0 rfl) ?_
  refine g_get C hH 3 (Nat.le_of_ble_eq_true rfl) rfl fl_X9_29 (v := .ref (ad 27)) rfl dX9_copyFrom_126 ?_
  refine lv_iconst (v := 0) hx hb dX9_copyFrom_129 (by decide) ?_
  refine lv_sipush (v := 408) hx hb dX9_copyFrom_130 (by decide) ?_
  obtain ⟨σ_12, eσ_12, h⟩ := hl_ex h
  refine g_copy C hH hl.1 34 27 (Nat.le_of_ble_eq_true rfl) (Nat.le_of_ble_eq_true rfl) rfl (fun _ _ => rfl) kcp_X9_69 kcn kcs kci (a := 0) (b := 0) (d := 408) (by decide) (by decide) (by decide) (by decide) (by decide) (by decide) (Nat.le_of_ble_eq_true rfl) (Nat.le_of_ble_eq_true rfl) (Nat.le_of_ble_eq_true rfl) (Nat.le_of_ble_eq_true rfl) dX9_copyFrom_133 (fun H locs hH => ?_)
  rw [← eσ_12] at hH
  refine lv_aload_n hx hb dX9_copyFrom_136 rfl (lv_at hl 1 rfl) ?_
  refine g_get C hH 12 (Nat.le_of_ble_eq_true rfl) rfl fl_X9_32 (v := .ref (ad 35)) rfl dX9_copyFrom_137 ?_
  refine lv_iconst (v := 0) hx hb dX9_copyFrom_140 (by decide) ?_
  refine lv_aload_n hx hb dX9_copyFrom_141 rfl (lv_at hl 0 rfl) ?_
  refine g_get C hH 3 (Nat.le_of_ble_eq_true rfl) rfl fl_X9_32 (v := .ref (ad 28)) rfl dX9_copyFrom_142 ?_
  refine lv_iconst (v := 0) hx hb dX9_copyFrom_145 (by decide) ?_
  refine lv_sipush (v := 408) hx hb dX9_copyFrom_146 (by decide) ?_
  obtain ⟨σ_13, eσ_13, h⟩ := hl_ex h
  refine g_copy C hH hl.1 35 28 (Nat.le_of_ble_eq_true rfl) (Nat.le_of_ble_eq_true rfl) rfl (fun _ _ => rfl) kcp_X9_69 kcn kcs kci (a := 0) (b := 0) (d := 408) (by decide) (by decide) (by decide) (by decide) (by decide) (by decide) (Nat.le_of_ble_eq_true rfl) (Nat.le_of_ble_eq_true rfl) (Nat.le_of_ble_eq_true rfl) (Nat.le_of_ble_eq_true rfl) dX9_copyFrom_149 (fun H locs hH => ?_)
  rw [← eσ_13] at hH
  exact g_retV C hH h dX9_copyFrom_152
-- X9_aimHere
def FX9_aimHere (x1 : Int32) (σ : HS) : Option HS :=
  if x1 < (0 : Int32) then some σ else if (σ.1 12 5) ≤ x1 then some σ else gd (ix x1 408) (hl_ (pI σ 35 (x1.toNatClampNeg) (σ.1 12 5)) fun σ_4 => some σ_4)
set_option maxHeartbeats 4000000 in
set_option maxRecDepth 100000 in
theorem kX9_aimHere (l : Launch) (D : va_G) (ad : Nat → Nat) (κ : KC) {x1 : Int32} {σ : HS} {R : HS} (h : FX9_aimHere x1 σ = some R) : MtV l 50 ceX D ad κ yX9_aimHere cX9_aimHere 2 none ({ frames := 0, cells := 0, slots := 0, locals := 0 } : Room) [.ref (ad 12), .int x1] σ R := by
  refine open_ (by decide) (Nat.le_of_ble_eq_true rfl) (la := [(0, .ref (ad 12)), (1, .int x1)]) rfl ?_
  intro p e s m below meth c ls C hH hl
  replace C : Cx 50 D ad κ p s m _ meth c cX9_aimHere RX9 2 none := C
  have hx := C.1
  have hb := C.2.1
  have hown := C.2.2.2.1
  have hts := C.2.2.2.2.1
  rw [FX9_aimHere] at h
  refine lv_iconst (v := 0) hx hb dX9_aimHere_0 (by decide) ?_
  refine lv_iload_n hx hb dX9_aimHere_1 rfl (lv_at hl 1 rfl) ?_
  refine lv_icmp_gt (tgt := 23) hx hb dX9_aimHere_2 (by decide) (fun hq_1 => ?_) (fun hq_1 => ?_)
  · rw [if_pos hq_1] at h
    exact g_retV C hH h dX9_aimHere_23
  · rw [if_neg hq_1] at h
    refine lv_iload_n hx hb dX9_aimHere_5 rfl (lv_at hl 1 rfl) ?_
    refine lv_aload_n hx hb dX9_aimHere_6 rfl (lv_at hl 0 rfl) ?_
    refine g_get C hH 12 (Nat.le_of_ble_eq_true rfl) rfl fl_X9_54 (v := .int (σ.1 12 5)) rfl dX9_aimHere_7 ?_
    refine lv_icmp_ge (tgt := 23) hx hb dX9_aimHere_10 (by decide) (fun hq_2 => ?_) (fun hq_2 => ?_)
    · rw [if_pos hq_2] at h
      exact g_retV C hH h dX9_aimHere_23
    · rw [if_neg hq_2] at h
      refine lv_aload_n hx hb dX9_aimHere_13 rfl (lv_at hl 0 rfl) ?_
      refine g_get C hH 12 (Nat.le_of_ble_eq_true rfl) rfl fl_X9_32 (v := .ref (ad 35)) rfl dX9_aimHere_14 ?_
      refine lv_iload_n hx hb dX9_aimHere_17 rfl (lv_at hl 1 rfl) ?_
      refine lv_aload_n hx hb dX9_aimHere_18 rfl (lv_at hl 0 rfl) ?_
      refine g_get C hH 12 (Nat.le_of_ble_eq_true rfl) rfl fl_X9_54 (v := .int (σ.1 12 5)) rfl dX9_aimHere_19 ?_
      obtain ⟨hi_3, h⟩ := gd_ex h
      obtain ⟨σ_4, eσ_4, h⟩ := hl_ex h
      refine g_iast C hH 35 (Nat.le_of_ble_eq_true rfl) (fun _ _ => rfl) (k := (x1.toNatClampNeg)) rfl (ix_in hi_3) dX9_aimHere_22 (fun H locs hH => ?_)
      rw [← eσ_4] at hH
      exact g_retV C hH h dX9_aimHere_23
end
