def fu : Nat := 5000
theorem dJ6_bitCount_0f7a4_0 : decode cJ6_bitCount_0f7a4 0 = .ok (.iload_n 0, 1) := by decide +kernel
theorem dJ6_bitCount_0f7a4_1 : decode cJ6_bitCount_0f7a4 1 = .ok (.iload_n 0, 1) := by decide +kernel
theorem dJ6_bitCount_0f7a4_2 : decode cJ6_bitCount_0f7a4 2 = .ok (.iconst 1, 1) := by decide +kernel
theorem dJ6_bitCount_0f7a4_3 : decode cJ6_bitCount_0f7a4 3 = .ok (.iushr, 1) := by decide +kernel
theorem dJ6_bitCount_0f7a4_4 : decode cJ6_bitCount_0f7a4 4 = .ok (.ldc_w 265, 3) := by decide +kernel
theorem dJ6_bitCount_0f7a4_7 : decode cJ6_bitCount_0f7a4 7 = .ok (.iand, 1) := by decide +kernel
theorem dJ6_bitCount_0f7a4_8 : decode cJ6_bitCount_0f7a4 8 = .ok (.isub, 1) := by decide +kernel
theorem dJ6_bitCount_0f7a4_9 : decode cJ6_bitCount_0f7a4 9 = .ok (.istore_n 0, 1) := by decide +kernel
theorem dJ6_bitCount_0f7a4_10 : decode cJ6_bitCount_0f7a4 10 = .ok (.iload_n 0, 1) := by decide +kernel
theorem dJ6_bitCount_0f7a4_11 : decode cJ6_bitCount_0f7a4 11 = .ok (.ldc_w 266, 3) := by decide +kernel
theorem dJ6_bitCount_0f7a4_14 : decode cJ6_bitCount_0f7a4 14 = .ok (.iand, 1) := by decide +kernel
theorem dJ6_bitCount_0f7a4_15 : decode cJ6_bitCount_0f7a4 15 = .ok (.iload_n 0, 1) := by decide +kernel
theorem dJ6_bitCount_0f7a4_16 : decode cJ6_bitCount_0f7a4 16 = .ok (.iconst 2, 1) := by decide +kernel
theorem dJ6_bitCount_0f7a4_17 : decode cJ6_bitCount_0f7a4 17 = .ok (.iushr, 1) := by decide +kernel
theorem dJ6_bitCount_0f7a4_18 : decode cJ6_bitCount_0f7a4 18 = .ok (.ldc_w 266, 3) := by decide +kernel
theorem dJ6_bitCount_0f7a4_21 : decode cJ6_bitCount_0f7a4 21 = .ok (.iand, 1) := by decide +kernel
theorem dJ6_bitCount_0f7a4_22 : decode cJ6_bitCount_0f7a4 22 = .ok (.iadd, 1) := by decide +kernel
theorem dJ6_bitCount_0f7a4_23 : decode cJ6_bitCount_0f7a4 23 = .ok (.istore_n 0, 1) := by decide +kernel
theorem dJ6_bitCount_0f7a4_24 : decode cJ6_bitCount_0f7a4 24 = .ok (.iload_n 0, 1) := by decide +kernel
theorem dJ6_bitCount_0f7a4_25 : decode cJ6_bitCount_0f7a4 25 = .ok (.iload_n 0, 1) := by decide +kernel
theorem dJ6_bitCount_0f7a4_26 : decode cJ6_bitCount_0f7a4 26 = .ok (.iconst 4, 1) := by decide +kernel
theorem dJ6_bitCount_0f7a4_27 : decode cJ6_bitCount_0f7a4 27 = .ok (.iushr, 1) := by decide +kernel
theorem dJ6_bitCount_0f7a4_28 : decode cJ6_bitCount_0f7a4 28 = .ok (.iadd, 1) := by decide +kernel
theorem dJ6_bitCount_0f7a4_29 : decode cJ6_bitCount_0f7a4 29 = .ok (.ldc_w 267, 3) := by decide +kernel
theorem dJ6_bitCount_0f7a4_32 : decode cJ6_bitCount_0f7a4 32 = .ok (.iand, 1) := by decide +kernel
theorem dJ6_bitCount_0f7a4_33 : decode cJ6_bitCount_0f7a4 33 = .ok (.istore_n 0, 1) := by decide +kernel
theorem dJ6_bitCount_0f7a4_34 : decode cJ6_bitCount_0f7a4 34 = .ok (.iload_n 0, 1) := by decide +kernel
theorem dJ6_bitCount_0f7a4_35 : decode cJ6_bitCount_0f7a4 35 = .ok (.iload_n 0, 1) := by decide +kernel
theorem dJ6_bitCount_0f7a4_36 : decode cJ6_bitCount_0f7a4 36 = .ok (.bipush 8, 2) := by decide +kernel
theorem dJ6_bitCount_0f7a4_38 : decode cJ6_bitCount_0f7a4 38 = .ok (.iushr, 1) := by decide +kernel
theorem dJ6_bitCount_0f7a4_39 : decode cJ6_bitCount_0f7a4 39 = .ok (.iadd, 1) := by decide +kernel
theorem dJ6_bitCount_0f7a4_40 : decode cJ6_bitCount_0f7a4 40 = .ok (.istore_n 0, 1) := by decide +kernel
theorem dJ6_bitCount_0f7a4_41 : decode cJ6_bitCount_0f7a4 41 = .ok (.iload_n 0, 1) := by decide +kernel
theorem dJ6_bitCount_0f7a4_42 : decode cJ6_bitCount_0f7a4 42 = .ok (.iload_n 0, 1) := by decide +kernel
theorem dJ6_bitCount_0f7a4_43 : decode cJ6_bitCount_0f7a4 43 = .ok (.bipush 16, 2) := by decide +kernel
theorem dJ6_bitCount_0f7a4_45 : decode cJ6_bitCount_0f7a4 45 = .ok (.iushr, 1) := by decide +kernel
theorem dJ6_bitCount_0f7a4_46 : decode cJ6_bitCount_0f7a4 46 = .ok (.iadd, 1) := by decide +kernel
theorem dJ6_bitCount_0f7a4_47 : decode cJ6_bitCount_0f7a4 47 = .ok (.istore_n 0, 1) := by decide +kernel
theorem dJ6_bitCount_0f7a4_48 : decode cJ6_bitCount_0f7a4 48 = .ok (.iload_n 0, 1) := by decide +kernel
theorem dJ6_bitCount_0f7a4_49 : decode cJ6_bitCount_0f7a4 49 = .ok (.bipush 63, 2) := by decide +kernel
theorem dJ6_bitCount_0f7a4_51 : decode cJ6_bitCount_0f7a4 51 = .ok (.iand, 1) := by decide +kernel
theorem dJ6_bitCount_0f7a4_52 : decode cJ6_bitCount_0f7a4 52 = .ok (.ireturn, 1) := by decide +kernel
theorem dJ7_fill_53178_0 : decode cJ7_fill_53178 0 = .ok (.iconst 0, 1) := by decide +kernel
theorem dJ7_fill_53178_1 : decode cJ7_fill_53178 1 = .ok (.istore_n 2, 1) := by decide +kernel
theorem dJ7_fill_53178_2 : decode cJ7_fill_53178 2 = .ok (.aload_n 0, 1) := by decide +kernel
theorem dJ7_fill_53178_3 : decode cJ7_fill_53178 3 = .ok (.arraylength, 1) := by decide +kernel
theorem dJ7_fill_53178_4 : decode cJ7_fill_53178 4 = .ok (.istore_n 3, 1) := by decide +kernel
theorem dJ7_fill_53178_5 : decode cJ7_fill_53178 5 = .ok (.iload_n 2, 1) := by decide +kernel
theorem dJ7_fill_53178_6 : decode cJ7_fill_53178 6 = .ok (.iload_n 3, 1) := by decide +kernel
theorem dJ7_fill_53178_7 : decode cJ7_fill_53178 7 = .ok (.if_icmp .ge 13, 3) := by decide +kernel
theorem dJ7_fill_53178_10 : decode cJ7_fill_53178 10 = .ok (.aload_n 0, 1) := by decide +kernel
theorem dJ7_fill_53178_11 : decode cJ7_fill_53178 11 = .ok (.iload_n 2, 1) := by decide +kernel
theorem dJ7_fill_53178_12 : decode cJ7_fill_53178 12 = .ok (.iload_n 1, 1) := by decide +kernel
theorem dJ7_fill_53178_13 : decode cJ7_fill_53178 13 = .ok (.iastore, 1) := by decide +kernel
theorem dJ7_fill_53178_14 : decode cJ7_fill_53178 14 = .ok (.iinc 2 1, 3) := by decide +kernel
theorem dJ7_fill_53178_17 : decode cJ7_fill_53178 17 = .ok (.goto (-12), 3) := by decide +kernel
theorem dJ7_fill_53178_20 : decode cJ7_fill_53178 20 = .ok (.return_, 1) := by decide +kernel
theorem dX7_begin_0 : decode cX7_begin 0 = .ok (.aload_n 0, 1) := by decide +kernel
theorem dX7_begin_1 : decode cX7_begin 1 = .ok (.getfield 11, 3) := by decide +kernel
theorem dX7_begin_4 : decode cX7_begin 4 = .ok (.iconst 0, 1) := by decide +kernel
theorem dX7_begin_5 : decode cX7_begin 5 = .ok (.invokestatic 15, 3) := by decide +kernel
theorem dX7_begin_8 : decode cX7_begin 8 = .ok (.aload_n 1, 1) := by decide +kernel
theorem dX7_begin_9 : decode cX7_begin 9 = .ok (.getfield 21, 3) := by decide +kernel
theorem dX7_begin_12 : decode cX7_begin 12 = .ok (.iconst 0, 1) := by decide +kernel
theorem dX7_begin_13 : decode cX7_begin 13 = .ok (.aload_n 0, 1) := by decide +kernel
theorem dX7_begin_14 : decode cX7_begin 14 = .ok (.getfield 11, 3) := by decide +kernel
theorem dX7_begin_17 : decode cX7_begin 17 = .ok (.iconst 0, 1) := by decide +kernel
theorem dX7_begin_18 : decode cX7_begin 18 = .ok (.bipush 10, 2) := by decide +kernel
theorem dX7_begin_20 : decode cX7_begin 20 = .ok (.invokestatic 26, 3) := by decide +kernel
theorem dX7_begin_23 : decode cX7_begin 23 = .ok (.aload_n 1, 1) := by decide +kernel
theorem dX7_begin_24 : decode cX7_begin 24 = .ok (.getfield 32, 3) := by decide +kernel
theorem dX7_begin_27 : decode cX7_begin 27 = .ok (.iconst 0, 1) := by decide +kernel
theorem dX7_begin_28 : decode cX7_begin 28 = .ok (.aload_n 0, 1) := by decide +kernel
theorem dX7_begin_29 : decode cX7_begin 29 = .ok (.getfield 11, 3) := by decide +kernel
theorem dX7_begin_32 : decode cX7_begin 32 = .ok (.bipush 10, 2) := by decide +kernel
theorem dX7_begin_34 : decode cX7_begin 34 = .ok (.bipush 8, 2) := by decide +kernel
theorem dX7_begin_36 : decode cX7_begin 36 = .ok (.invokestatic 26, 3) := by decide +kernel
theorem dX7_begin_39 : decode cX7_begin 39 = .ok (.aload_n 0, 1) := by decide +kernel
theorem dX7_begin_40 : decode cX7_begin 40 = .ok (.getfield 11, 3) := by decide +kernel
theorem dX7_begin_43 : decode cX7_begin 43 = .ok (.bipush 28, 2) := by decide +kernel
theorem dX7_begin_45 : decode cX7_begin 45 = .ok (.aload_n 1, 1) := by decide +kernel
theorem dX7_begin_46 : decode cX7_begin 46 = .ok (.getfield 35, 3) := by decide +kernel
theorem dX7_begin_49 : decode cX7_begin 49 = .ok (.iastore, 1) := by decide +kernel
theorem dX7_begin_50 : decode cX7_begin 50 = .ok (.aload_n 0, 1) := by decide +kernel
theorem dX7_begin_51 : decode cX7_begin 51 = .ok (.getfield 11, 3) := by decide +kernel
theorem dX7_begin_54 : decode cX7_begin 54 = .ok (.bipush 29, 2) := by decide +kernel
theorem dX7_begin_56 : decode cX7_begin 56 = .ok (.aload_n 1, 1) := by decide +kernel
theorem dX7_begin_57 : decode cX7_begin 57 = .ok (.getfield 39, 3) := by decide +kernel
theorem dX7_begin_60 : decode cX7_begin 60 = .ok (.iastore, 1) := by decide +kernel
theorem dX7_begin_61 : decode cX7_begin 61 = .ok (.aload_n 0, 1) := by decide +kernel
theorem dX7_begin_62 : decode cX7_begin 62 = .ok (.getfield 11, 3) := by decide +kernel
theorem dX7_begin_65 : decode cX7_begin 65 = .ok (.bipush 32, 2) := by decide +kernel
theorem dX7_begin_67 : decode cX7_begin 67 = .ok (.bipush (-2), 2) := by decide +kernel
theorem dX7_begin_69 : decode cX7_begin 69 = .ok (.iastore, 1) := by decide +kernel
theorem dX7_begin_70 : decode cX7_begin 70 = .ok (.return_, 1) := by decide +kernel
theorem dX7_copyFrom_0 : decode cX7_copyFrom 0 = .ok (.aload_n 1, 1) := by decide +kernel
theorem dX7_copyFrom_1 : decode cX7_copyFrom 1 = .ok (.getfield 11, 3) := by decide +kernel
theorem dX7_copyFrom_4 : decode cX7_copyFrom 4 = .ok (.iconst 0, 1) := by decide +kernel
theorem dX7_copyFrom_5 : decode cX7_copyFrom 5 = .ok (.aload_n 0, 1) := by decide +kernel
theorem dX7_copyFrom_6 : decode cX7_copyFrom 6 = .ok (.getfield 11, 3) := by decide +kernel
theorem dX7_copyFrom_9 : decode cX7_copyFrom 9 = .ok (.iconst 0, 1) := by decide +kernel
theorem dX7_copyFrom_10 : decode cX7_copyFrom 10 = .ok (.bipush 33, 2) := by decide +kernel
theorem dX7_copyFrom_12 : decode cX7_copyFrom 12 = .ok (.invokestatic 26, 3) := by decide +kernel
theorem dX7_copyFrom_15 : decode cX7_copyFrom 15 = .ok (.return_, 1) := by decide +kernel
theorem dX7_matterOf_0 : decode cX7_matterOf 0 = .ok (.aload_n 0, 1) := by decide +kernel
theorem dX7_matterOf_1 : decode cX7_matterOf 1 = .ok (.getfield 11, 3) := by decide +kernel
theorem dX7_matterOf_4 : decode cX7_matterOf 4 = .ok (.iconst 0, 1) := by decide +kernel
theorem dX7_matterOf_5 : decode cX7_matterOf 5 = .ok (.iload_n 1, 1) := by decide +kernel
theorem dX7_matterOf_6 : decode cX7_matterOf 6 = .ok (.iadd, 1) := by decide +kernel
theorem dX7_matterOf_7 : decode cX7_matterOf 7 = .ok (.iaload, 1) := by decide +kernel
theorem dX7_matterOf_8 : decode cX7_matterOf 8 = .ok (.ireturn, 1) := by decide +kernel
theorem dX7_exchange_0 : decode cX7_exchange 0 = .ok (.aload_n 0, 1) := by decide +kernel
theorem dX7_exchange_1 : decode cX7_exchange 1 = .ok (.getfield 11, 3) := by decide +kernel
theorem dX7_exchange_4 : decode cX7_exchange 4 = .ok (.iconst 0, 1) := by decide +kernel
theorem dX7_exchange_5 : decode cX7_exchange 5 = .ok (.iload_n 1, 1) := by decide +kernel
theorem dX7_exchange_6 : decode cX7_exchange 6 = .ok (.iadd, 1) := by decide +kernel
theorem dX7_exchange_7 : decode cX7_exchange 7 = .ok (.iaload, 1) := by decide +kernel
theorem dX7_exchange_8 : decode cX7_exchange 8 = .ok (.istore_n 3, 1) := by decide +kernel
theorem dX7_exchange_9 : decode cX7_exchange 9 = .ok (.aload_n 0, 1) := by decide +kernel
theorem dX7_exchange_10 : decode cX7_exchange 10 = .ok (.getfield 11, 3) := by decide +kernel
theorem dX7_exchange_13 : decode cX7_exchange 13 = .ok (.iconst 0, 1) := by decide +kernel
theorem dX7_exchange_14 : decode cX7_exchange 14 = .ok (.iload_n 1, 1) := by decide +kernel
theorem dX7_exchange_15 : decode cX7_exchange 15 = .ok (.iadd, 1) := by decide +kernel
theorem dX7_exchange_16 : decode cX7_exchange 16 = .ok (.aload_n 0, 1) := by decide +kernel
theorem dX7_exchange_17 : decode cX7_exchange 17 = .ok (.getfield 11, 3) := by decide +kernel
theorem dX7_exchange_20 : decode cX7_exchange 20 = .ok (.iconst 0, 1) := by decide +kernel
theorem dX7_exchange_21 : decode cX7_exchange 21 = .ok (.iload_n 2, 1) := by decide +kernel
theorem dX7_exchange_22 : decode cX7_exchange 22 = .ok (.iadd, 1) := by decide +kernel
theorem dX7_exchange_23 : decode cX7_exchange 23 = .ok (.iaload, 1) := by decide +kernel
theorem dX7_exchange_24 : decode cX7_exchange 24 = .ok (.iastore, 1) := by decide +kernel
theorem dX7_exchange_25 : decode cX7_exchange 25 = .ok (.aload_n 0, 1) := by decide +kernel
theorem dX7_exchange_26 : decode cX7_exchange 26 = .ok (.getfield 11, 3) := by decide +kernel
theorem dX7_exchange_29 : decode cX7_exchange 29 = .ok (.iconst 0, 1) := by decide +kernel
theorem dX7_exchange_30 : decode cX7_exchange 30 = .ok (.iload_n 2, 1) := by decide +kernel
theorem dX7_exchange_31 : decode cX7_exchange 31 = .ok (.iadd, 1) := by decide +kernel
theorem dX7_exchange_32 : decode cX7_exchange 32 = .ok (.iload_n 3, 1) := by decide +kernel
theorem dX7_exchange_33 : decode cX7_exchange 33 = .ok (.iastore, 1) := by decide +kernel
theorem dX7_exchange_34 : decode cX7_exchange 34 = .ok (.return_, 1) := by decide +kernel
theorem dX7_ownerOf_0 : decode cX7_ownerOf 0 = .ok (.aload_n 0, 1) := by decide +kernel
theorem dX7_ownerOf_1 : decode cX7_ownerOf 1 = .ok (.getfield 11, 3) := by decide +kernel
theorem dX7_ownerOf_4 : decode cX7_ownerOf 4 = .ok (.bipush 10, 2) := by decide +kernel
theorem dX7_ownerOf_6 : decode cX7_ownerOf 6 = .ok (.iload_n 1, 1) := by decide +kernel
theorem dX7_ownerOf_7 : decode cX7_ownerOf 7 = .ok (.iadd, 1) := by decide +kernel
theorem dX7_ownerOf_8 : decode cX7_ownerOf 8 = .ok (.iaload, 1) := by decide +kernel
theorem dX7_ownerOf_9 : decode cX7_ownerOf 9 = .ok (.ireturn, 1) := by decide +kernel
theorem dX7_setOwner_0 : decode cX7_setOwner 0 = .ok (.aload_n 0, 1) := by decide +kernel
theorem dX7_setOwner_1 : decode cX7_setOwner 1 = .ok (.getfield 11, 3) := by decide +kernel
theorem dX7_setOwner_4 : decode cX7_setOwner 4 = .ok (.bipush 10, 2) := by decide +kernel
theorem dX7_setOwner_6 : decode cX7_setOwner 6 = .ok (.iload_n 1, 1) := by decide +kernel
theorem dX7_setOwner_7 : decode cX7_setOwner 7 = .ok (.iadd, 1) := by decide +kernel
theorem dX7_setOwner_8 : decode cX7_setOwner 8 = .ok (.iload_n 2, 1) := by decide +kernel
theorem dX7_setOwner_9 : decode cX7_setOwner 9 = .ok (.iastore, 1) := by decide +kernel
theorem dX7_setOwner_10 : decode cX7_setOwner 10 = .ok (.return_, 1) := by decide +kernel
theorem dX7_partsOf_0 : decode cX7_partsOf 0 = .ok (.iconst 0, 1) := by decide +kernel
theorem dX7_partsOf_1 : decode cX7_partsOf 1 = .ok (.istore_n 2, 1) := by decide +kernel
theorem dX7_partsOf_2 : decode cX7_partsOf 2 = .ok (.iconst 0, 1) := by decide +kernel
theorem dX7_partsOf_3 : decode cX7_partsOf 3 = .ok (.istore_n 3, 1) := by decide +kernel
theorem dX7_partsOf_4 : decode cX7_partsOf 4 = .ok (.iload_n 3, 1) := by decide +kernel
theorem dX7_partsOf_5 : decode cX7_partsOf 5 = .ok (.bipush 8, 2) := by decide +kernel
theorem dX7_partsOf_7 : decode cX7_partsOf 7 = .ok (.if_icmp .ge 24, 3) := by decide +kernel
theorem dX7_partsOf_10 : decode cX7_partsOf 10 = .ok (.aload_n 0, 1) := by decide +kernel
theorem dX7_partsOf_11 : decode cX7_partsOf 11 = .ok (.iload_n 3, 1) := by decide +kernel
theorem dX7_partsOf_12 : decode cX7_partsOf 12 = .ok (.invokevirtual 42, 3) := by decide +kernel
theorem dX7_partsOf_15 : decode cX7_partsOf 15 = .ok (.iload_n 1, 1) := by decide +kernel
theorem dX7_partsOf_16 : decode cX7_partsOf 16 = .ok (.if_icmp .ne 9, 3) := by decide +kernel
theorem dX7_partsOf_19 : decode cX7_partsOf 19 = .ok (.iload_n 2, 1) := by decide +kernel
theorem dX7_partsOf_20 : decode cX7_partsOf 20 = .ok (.iconst 1, 1) := by decide +kernel
theorem dX7_partsOf_21 : decode cX7_partsOf 21 = .ok (.iload_n 3, 1) := by decide +kernel
theorem dX7_partsOf_22 : decode cX7_partsOf 22 = .ok (.ishl, 1) := by decide +kernel
theorem dX7_partsOf_23 : decode cX7_partsOf 23 = .ok (.ior, 1) := by decide +kernel
theorem dX7_partsOf_24 : decode cX7_partsOf 24 = .ok (.istore_n 2, 1) := by decide +kernel
theorem dX7_partsOf_25 : decode cX7_partsOf 25 = .ok (.iinc 3 1, 3) := by decide +kernel
theorem dX7_partsOf_28 : decode cX7_partsOf 28 = .ok (.goto (-24), 3) := by decide +kernel
theorem dX7_partsOf_31 : decode cX7_partsOf 31 = .ok (.iload_n 2, 1) := by decide +kernel
theorem dX7_partsOf_32 : decode cX7_partsOf 32 = .ok (.ireturn, 1) := by decide +kernel
theorem dX7_gainedBy_0 : decode cX7_gainedBy 0 = .ok (.aload_n 0, 1) := by decide +kernel
theorem dX7_gainedBy_1 : decode cX7_gainedBy 1 = .ok (.getfield 11, 3) := by decide +kernel
theorem dX7_gainedBy_4 : decode cX7_gainedBy 4 = .ok (.bipush 18, 2) := by decide +kernel
theorem dX7_gainedBy_6 : decode cX7_gainedBy 6 = .ok (.iload_n 1, 1) := by decide +kernel
theorem dX7_gainedBy_7 : decode cX7_gainedBy 7 = .ok (.iadd, 1) := by decide +kernel
theorem dX7_gainedBy_8 : decode cX7_gainedBy 8 = .ok (.iaload, 1) := by decide +kernel
theorem dX7_gainedBy_9 : decode cX7_gainedBy 9 = .ok (.ireturn, 1) := by decide +kernel
theorem dX7_paidBy_0 : decode cX7_paidBy 0 = .ok (.aload_n 0, 1) := by decide +kernel
theorem dX7_paidBy_1 : decode cX7_paidBy 1 = .ok (.getfield 11, 3) := by decide +kernel
theorem dX7_paidBy_4 : decode cX7_paidBy 4 = .ok (.bipush 23, 2) := by decide +kernel
theorem dX7_paidBy_6 : decode cX7_paidBy 6 = .ok (.iload_n 1, 1) := by decide +kernel
theorem dX7_paidBy_7 : decode cX7_paidBy 7 = .ok (.iadd, 1) := by decide +kernel
theorem dX7_paidBy_8 : decode cX7_paidBy 8 = .ok (.iaload, 1) := by decide +kernel
theorem dX7_paidBy_9 : decode cX7_paidBy 9 = .ok (.ireturn, 1) := by decide +kernel
theorem dX7_profitOf_0 : decode cX7_profitOf 0 = .ok (.aload_n 0, 1) := by decide +kernel
theorem dX7_profitOf_1 : decode cX7_profitOf 1 = .ok (.iload_n 1, 1) := by decide +kernel
theorem dX7_profitOf_2 : decode cX7_profitOf 2 = .ok (.invokevirtual 46, 3) := by decide +kernel
theorem dX7_profitOf_5 : decode cX7_profitOf 5 = .ok (.aload_n 0, 1) := by decide +kernel
theorem dX7_profitOf_6 : decode cX7_profitOf 6 = .ok (.iload_n 1, 1) := by decide +kernel
theorem dX7_profitOf_7 : decode cX7_profitOf 7 = .ok (.invokevirtual 49, 3) := by decide +kernel
theorem dX7_profitOf_10 : decode cX7_profitOf 10 = .ok (.isub, 1) := by decide +kernel
theorem dX7_profitOf_11 : decode cX7_profitOf 11 = .ok (.ireturn, 1) := by decide +kernel
theorem dX7_sumFrom_0 : decode cX7_sumFrom 0 = .ok (.iconst 0, 1) := by decide +kernel
theorem dX7_sumFrom_1 : decode cX7_sumFrom 1 = .ok (.istore_n 2, 1) := by decide +kernel
theorem dX7_sumFrom_2 : decode cX7_sumFrom 2 = .ok (.iconst 0, 1) := by decide +kernel
theorem dX7_sumFrom_3 : decode cX7_sumFrom 3 = .ok (.istore_n 3, 1) := by decide +kernel
theorem dX7_sumFrom_4 : decode cX7_sumFrom 4 = .ok (.iload_n 3, 1) := by decide +kernel
theorem dX7_sumFrom_5 : decode cX7_sumFrom 5 = .ok (.iconst 5, 1) := by decide +kernel
theorem dX7_sumFrom_6 : decode cX7_sumFrom 6 = .ok (.if_icmp .ge 20, 3) := by decide +kernel
theorem dX7_sumFrom_9 : decode cX7_sumFrom 9 = .ok (.iload_n 2, 1) := by decide +kernel
theorem dX7_sumFrom_10 : decode cX7_sumFrom 10 = .ok (.aload_n 0, 1) := by decide +kernel
theorem dX7_sumFrom_11 : decode cX7_sumFrom 11 = .ok (.getfield 11, 3) := by decide +kernel
theorem dX7_sumFrom_14 : decode cX7_sumFrom 14 = .ok (.iload_n 1, 1) := by decide +kernel
theorem dX7_sumFrom_15 : decode cX7_sumFrom 15 = .ok (.iload_n 3, 1) := by decide +kernel
theorem dX7_sumFrom_16 : decode cX7_sumFrom 16 = .ok (.iadd, 1) := by decide +kernel
theorem dX7_sumFrom_17 : decode cX7_sumFrom 17 = .ok (.iaload, 1) := by decide +kernel
theorem dX7_sumFrom_18 : decode cX7_sumFrom 18 = .ok (.iadd, 1) := by decide +kernel
theorem dX7_sumFrom_19 : decode cX7_sumFrom 19 = .ok (.istore_n 2, 1) := by decide +kernel
theorem dX7_sumFrom_20 : decode cX7_sumFrom 20 = .ok (.iinc 3 1, 3) := by decide +kernel
theorem dX7_sumFrom_23 : decode cX7_sumFrom 23 = .ok (.goto (-19), 3) := by decide +kernel
theorem dX7_sumFrom_26 : decode cX7_sumFrom 26 = .ok (.iload_n 2, 1) := by decide +kernel
theorem dX7_sumFrom_27 : decode cX7_sumFrom 27 = .ok (.ireturn, 1) := by decide +kernel
theorem dX7_gainedByAll_0 : decode cX7_gainedByAll 0 = .ok (.aload_n 0, 1) := by decide +kernel
theorem dX7_gainedByAll_1 : decode cX7_gainedByAll 1 = .ok (.bipush 18, 2) := by decide +kernel
theorem dX7_gainedByAll_3 : decode cX7_gainedByAll 3 = .ok (.invokevirtual 52, 3) := by decide +kernel
theorem dX7_gainedByAll_6 : decode cX7_gainedByAll 6 = .ok (.ireturn, 1) := by decide +kernel
theorem dX7_paidByAll_0 : decode cX7_paidByAll 0 = .ok (.aload_n 0, 1) := by decide +kernel
theorem dX7_paidByAll_1 : decode cX7_paidByAll 1 = .ok (.bipush 23, 2) := by decide +kernel
theorem dX7_paidByAll_3 : decode cX7_paidByAll 3 = .ok (.invokevirtual 52, 3) := by decide +kernel
theorem dX7_paidByAll_6 : decode cX7_paidByAll 6 = .ok (.ireturn, 1) := by decide +kernel
theorem fl_X7_11 : fl RX7 11 7 0 := ⟨RX7, TX7, 1, rfl, iw_X7, by decide, lg_at 231 (by decide +kernel) (by decide +kernel), rfl⟩
theorem fl_X7_21 : fl RX7 21 9 6 := ⟨RX9, TX9, 13, rfl, iw_X9, by decide, lg_at 102 (by decide +kernel) (by decide +kernel), rfl⟩
theorem fl_X7_32 : fl RX7 32 9 9 := ⟨RX9, TX9, 13, rfl, iw_X9, by decide, lg_at 113 (by decide +kernel) (by decide +kernel), rfl⟩
theorem fl_X7_35 : fl RX7 35 9 2 := ⟨RX9, TX9, 13, rfl, iw_X9, by decide, lg_at 90 (by decide +kernel) (by decide +kernel), rfl⟩
theorem fl_X7_39 : fl RX7 39 9 3 := ⟨RX9, TX9, 13, rfl, iw_X9, by decide, lg_at 93 (by decide +kernel) (by decide +kernel), rfl⟩
theorem cV_X7_42 : cV RX7 42 yX7_ownerOf cX7_ownerOf 2 (some .int) 1 := ⟨⟨lg_at 764 (by decide +kernel) (by decide +kernel), lg_at 765 (by decide +kernel) (by decide +kernel), lg_at 766 (by decide +kernel) (by decide +kernel), lg_at 7 (by decide +kernel) (by decide +kernel), lg_at 767 (by decide +kernel) (by decide +kernel)⟩, by decide +kernel, by decide +kernel, by decide +kernel⟩
theorem cV_X7_46 : cV RX7 46 yX7_gainedBy cX7_gainedBy 2 (some .int) 1 := ⟨⟨lg_at 1062 (by decide +kernel) (by decide +kernel), lg_at 769 (by decide +kernel) (by decide +kernel), lg_at 770 (by decide +kernel) (by decide +kernel), lg_at 7 (by decide +kernel) (by decide +kernel), lg_at 771 (by decide +kernel) (by decide +kernel)⟩, by decide +kernel, by decide +kernel, by decide +kernel⟩
theorem cV_X7_49 : cV RX7 49 yX7_paidBy cX7_paidBy 2 (some .int) 1 := ⟨⟨lg_at 1063 (by decide +kernel) (by decide +kernel), lg_at 773 (by decide +kernel) (by decide +kernel), lg_at 774 (by decide +kernel) (by decide +kernel), lg_at 7 (by decide +kernel) (by decide +kernel), lg_at 775 (by decide +kernel) (by decide +kernel)⟩, by decide +kernel, by decide +kernel, by decide +kernel⟩
theorem cV_X7_52 : cV RX7 52 yX7_sumFrom cX7_sumFrom 4 (some .int) 1 := ⟨⟨lg_at 1142 (by decide +kernel) (by decide +kernel), lg_at 1144 (by decide +kernel) (by decide +kernel), lg_sel 42 (by decide +kernel) (by decide +kernel), lg_at 7 (by decide +kernel) (by decide +kernel), lg_at 1145 (by decide +kernel) (by decide +kernel)⟩, by decide +kernel, by decide +kernel, by decide +kernel⟩
theorem cS_X7_15 : cS RX7 15 yJ7_fill_53178 cJ7_fill_53178 4 none 2 := ⟨⟨lg_at 396 (by decide +kernel) (by decide +kernel), lg_at 64 (by decide +kernel) (by decide +kernel), lg_at 5 (by decide +kernel) (by decide +kernel), lg_at 65 (by decide +kernel) (by decide +kernel)⟩, by decide +kernel, by decide +kernel, by decide +kernel⟩
theorem kc_J6_265 : Cond.constant RJ6 265 (1431655765) ∈ lg_tbl := lg_at 784 (by decide +kernel) (by decide +kernel)
theorem kc_J6_266 : Cond.constant RJ6 266 (858993459) ∈ lg_tbl := lg_at 785 (by decide +kernel) (by decide +kernel)
theorem kc_J6_267 : Cond.constant RJ6 267 (252645135) ∈ lg_tbl := lg_at 786 (by decide +kernel) (by decide +kernel)
theorem kcn : Cond.native arraycopyName ∈ lg_tbl := lg_at 399 (by decide +kernel) (by decide +kernel)
theorem kcs : Cond.static arraycopyName ∈ lg_tbl := lg_at 398 (by decide +kernel) (by decide +kernel)
theorem kci : Cond.initialized "java/lang/System" ∈ lg_tbl := lg_at 14 (by decide +kernel) (by decide +kernel)
theorem kcp_X7_26 : Cond.methodLink RX7 26 arraycopyName ∈ lg_tbl := lg_at 397 (by decide +kernel) (by decide +kernel)
section
variable {p : Program} {l : Launch} {e : Env} {s : State} {m : MethodId} {args : Array Value} {below : List Frame} {meth : Method} {c : Code} {D : va_G} {ad : Nat → Nat} {κ : KC}
-- J6_bitCount_0f7a4
def FJ6_bitCount_0f7a4 (x0 : Int32) (σ : HS) : Option (Int32 × HS) :=
  hl_ (x0 - ((ushr x0 (1 : Int32)) &&& (1431655765 : Int32))) fun x0_1 => hl_ ((x0_1 &&& (858993459 : Int32)) + ((ushr x0_1 (2 : Int32)) &&& (858993459 : Int32))) fun x0_2 => hl_ ((x0_2 + (ushr x0_2 (4 : Int32))) &&& (252645135 : Int32)) fun x0_3 => hl_ (x0_3 + (ushr x0_3 (8 : Int32))) fun x0_4 => hl_ (x0_4 + (ushr x0_4 (16 : Int32))) fun x0_5 => some ((x0_5 &&& (63 : Int32)), σ)
set_option maxHeartbeats 4000000 in
set_option maxRecDepth 100000 in
theorem kJ6_bitCount_0f7a4 (l : Launch) (D : va_G) (ad : Nat → Nat) (κ : KC) {x0 : Int32} {σ : HS} {R : (Int32 × HS)} (h : FJ6_bitCount_0f7a4 x0 σ = some R) : MtI l 50 ceX D ad κ yJ6_bitCount_0f7a4 cJ6_bitCount_0f7a4 1 (some .int) ({ frames := 0, cells := 0, slots := 0, locals := 0 } : Room) [.int x0] σ R := by
  refine open_ (by decide) (Nat.le_of_ble_eq_true rfl) (la := [(0, .int x0)]) rfl ?_
  intro p e s m below meth c ls C hH hl
  replace C : Cx 50 D ad κ p s m _ meth c cJ6_bitCount_0f7a4 RJ6 1 (some .int) := C
  have hx := C.1
  have hb := C.2.1
  have hown := C.2.2.2.1
  have hts := C.2.2.2.2.1
  rw [FJ6_bitCount_0f7a4] at h
  refine lv_iload_n hx hb dJ6_bitCount_0f7a4_0 rfl (lv_at hl 0 rfl) ?_
  refine lv_iload_n hx hb dJ6_bitCount_0f7a4_1 rfl (lv_at hl 0 rfl) ?_
  refine lv_iconst (v := 1) hx hb dJ6_bitCount_0f7a4_2 (by decide) ?_
  refine lv_iushr (v := ushr x0 (1 : Int32)) hx hb dJ6_bitCount_0f7a4_3 rfl ?_
  refine lv_ldcw (v := 1431655765) hx hb hown (hts _ kc_J6_265) dJ6_bitCount_0f7a4_4 ?_
  refine lv_iand hx hb dJ6_bitCount_0f7a4_7 ?_
  refine lv_isub hx hb dJ6_bitCount_0f7a4_8 ?_
  obtain ⟨x0_1, ex0_1, h⟩ := hl_ex h
  refine lv_eqi ex0_1 ?_
  refine lv_istore_n (lv' := [(0, .int x0_1)]) hx hb dJ6_bitCount_0f7a4_9 rfl hl (by decide) rfl (fun ls hl => ?_)
  refine lv_iload_n hx hb dJ6_bitCount_0f7a4_10 rfl (lv_at hl 0 rfl) ?_
  refine lv_ldcw (v := 858993459) hx hb hown (hts _ kc_J6_266) dJ6_bitCount_0f7a4_11 ?_
  refine lv_iand hx hb dJ6_bitCount_0f7a4_14 ?_
  refine lv_iload_n hx hb dJ6_bitCount_0f7a4_15 rfl (lv_at hl 0 rfl) ?_
  refine lv_iconst (v := 2) hx hb dJ6_bitCount_0f7a4_16 (by decide) ?_
  refine lv_iushr (v := ushr x0_1 (2 : Int32)) hx hb dJ6_bitCount_0f7a4_17 rfl ?_
  refine lv_ldcw (v := 858993459) hx hb hown (hts _ kc_J6_266) dJ6_bitCount_0f7a4_18 ?_
  refine lv_iand hx hb dJ6_bitCount_0f7a4_21 ?_
  refine lv_iadd hx hb dJ6_bitCount_0f7a4_22 ?_
  obtain ⟨x0_2, ex0_2, h⟩ := hl_ex h
  refine lv_eqi ex0_2 ?_
  refine lv_istore_n (lv' := [(0, .int x0_2)]) hx hb dJ6_bitCount_0f7a4_23 rfl hl (by decide) rfl (fun ls hl => ?_)
  refine lv_iload_n hx hb dJ6_bitCount_0f7a4_24 rfl (lv_at hl 0 rfl) ?_
  refine lv_iload_n hx hb dJ6_bitCount_0f7a4_25 rfl (lv_at hl 0 rfl) ?_
  refine lv_iconst (v := 4) hx hb dJ6_bitCount_0f7a4_26 (by decide) ?_
  refine lv_iushr (v := ushr x0_2 (4 : Int32)) hx hb dJ6_bitCount_0f7a4_27 rfl ?_
  refine lv_iadd hx hb dJ6_bitCount_0f7a4_28 ?_
  refine lv_ldcw (v := 252645135) hx hb hown (hts _ kc_J6_267) dJ6_bitCount_0f7a4_29 ?_
  refine lv_iand hx hb dJ6_bitCount_0f7a4_32 ?_
  obtain ⟨x0_3, ex0_3, h⟩ := hl_ex h
  refine lv_eqi ex0_3 ?_
  refine lv_istore_n (lv' := [(0, .int x0_3)]) hx hb dJ6_bitCount_0f7a4_33 rfl hl (by decide) rfl (fun ls hl => ?_)
  refine lv_iload_n hx hb dJ6_bitCount_0f7a4_34 rfl (lv_at hl 0 rfl) ?_
  refine lv_iload_n hx hb dJ6_bitCount_0f7a4_35 rfl (lv_at hl 0 rfl) ?_
  refine lv_bipush (v := 8) hx hb dJ6_bitCount_0f7a4_36 (by decide) ?_
  refine lv_iushr (v := ushr x0_3 (8 : Int32)) hx hb dJ6_bitCount_0f7a4_38 rfl ?_
  refine lv_iadd hx hb dJ6_bitCount_0f7a4_39 ?_
  obtain ⟨x0_4, ex0_4, h⟩ := hl_ex h
  refine lv_eqi ex0_4 ?_
  refine lv_istore_n (lv' := [(0, .int x0_4)]) hx hb dJ6_bitCount_0f7a4_40 rfl hl (by decide) rfl (fun ls hl => ?_)
  refine lv_iload_n hx hb dJ6_bitCount_0f7a4_41 rfl (lv_at hl 0 rfl) ?_
  refine lv_iload_n hx hb dJ6_bitCount_0f7a4_42 rfl (lv_at hl 0 rfl) ?_
  refine lv_bipush (v := 16) hx hb dJ6_bitCount_0f7a4_43 (by decide) ?_
  refine lv_iushr (v := ushr x0_4 (16 : Int32)) hx hb dJ6_bitCount_0f7a4_45 rfl ?_
  refine lv_iadd hx hb dJ6_bitCount_0f7a4_46 ?_
  obtain ⟨x0_5, ex0_5, h⟩ := hl_ex h
  refine lv_eqi ex0_5 ?_
  refine lv_istore_n (lv' := [(0, .int x0_5)]) hx hb dJ6_bitCount_0f7a4_47 rfl hl (by decide) rfl (fun ls hl => ?_)
  refine lv_iload_n hx hb dJ6_bitCount_0f7a4_48 rfl (lv_at hl 0 rfl) ?_
  refine lv_bipush (v := 63) hx hb dJ6_bitCount_0f7a4_49 (by decide) ?_
  refine lv_iand hx hb dJ6_bitCount_0f7a4_51 ?_
  exact g_ret C hH h dJ6_bitCount_0f7a4_52
-- J7_fill_53178
def FJ7_fill_53178_5  (a N : Nat) : Nat → Int32 → Int32 → Int32 → HS → Option HS
  | 0, _, _, _, _ => none
  | f + 1, x1, x2, x3, σ => if x3 ≤ x2 then some σ else gd (ix x2 N) (hl_ (pI σ a (x2.toNatClampNeg) x1) fun σ_3 => FJ7_fill_53178_5 a N f x1 (x2 + 1) x3 σ_3)
def FJ7_fill_53178 (a N : Nat) (x1 : Int32) (σ : HS) : Option HS :=
  hl_ (Int32.ofNat N) fun x3_4 => FJ7_fill_53178_5 a N fu x1 (0 : Int32) x3_4 σ
set_option maxHeartbeats 4000000 in
set_option maxRecDepth 100000 in
theorem wJ7_fill_53178_5 (C : Cx 50 D ad κ p s m args meth c cJ7_fill_53178 RJ7 4 none) {a N : Nat} (ha : a < 50) (hca : ∀ f q, ceX ad κ f q a = .inl (κ.1, N, .inl f)) {R : HS} : ∀ (f : Nat) (x1 : Int32) (x2 : Int32) (x3 : Int32) (σ : HS) (H : Heap) (locs : List Loc) (ls : Array Slot), FJ7_fill_53178_5 a N f x1 x2 x3 σ = some R → Hd 50 ceX D ad κ s σ H locs → lv_has ls 4 [(0, .ref (ad a)), (1, .int x1), (2, .int x2), (3, .int x3)] → W p l e ({ frames := 0, cells := 0, slots := 0, locals := 0 } : Room) s m args below meth c H locs 0 0 (MQ below (QV 50 ceX D ad κ R) args s 0 0 (AX 50 ad)) (F0 m 5 ls []) := by
  have hx := C.1
  have hb := C.2.1
  have hown := C.2.2.2.1
  have hts := C.2.2.2.2.1
  intro f
  induction f with
  | zero =>
    intro x1 x2 x3 σ H locs ls h hH hl
    cases h
  | succ f ih =>
    intro x1 x2 x3 σ H locs ls h hH hl
    rw [FJ7_fill_53178_5] at h
    refine lv_iload_n hx hb dJ7_fill_53178_5 rfl (lv_at hl 2 rfl) ?_
    refine lv_iload_n hx hb dJ7_fill_53178_6 rfl (lv_at hl 3 rfl) ?_
    refine lv_icmp_ge (tgt := 20) hx hb dJ7_fill_53178_7 (by decide) (fun hq_1 => ?_) (fun hq_1 => ?_)
    · rw [if_pos hq_1] at h
      exact g_retV C hH h dJ7_fill_53178_20
    · rw [if_neg hq_1] at h
      refine lv_aload_n hx hb dJ7_fill_53178_10 rfl (lv_at hl 0 rfl) ?_
      refine lv_iload_n hx hb dJ7_fill_53178_11 rfl (lv_at hl 2 rfl) ?_
      refine lv_iload_n hx hb dJ7_fill_53178_12 rfl (lv_at hl 1 rfl) ?_
      obtain ⟨hi_2, h⟩ := gd_ex h
      obtain ⟨σ_3, eσ_3, h⟩ := hl_ex h
      refine g_iast C hH a ha (fun f q => hca f q) (k := (x2.toNatClampNeg)) rfl (ix_in hi_2) dJ7_fill_53178_13 (fun H locs hH => ?_)
      rw [← eσ_3] at hH
      refine lv_iinc (v := (x2 + 1)) (lv' := [(2, .int (x2 + 1)), (0, .ref (ad a)), (1, .int x1), (3, .int x3)]) hx hb dJ7_fill_53178_14 hl (k := 2) rfl rfl (by decide) rfl (fun ls hl => ?_)
      refine lv_goto (tgt := 5) hx hb dJ7_fill_53178_17 (by decide) ?_
      exact ih _ _ _ _ _ _ _ h hH (lv_sub hl [1, 2, 0, 3] rfl)
set_option maxHeartbeats 4000000 in
set_option maxRecDepth 100000 in
theorem kJ7_fill_53178 (l : Launch) (D : va_G) (ad : Nat → Nat) (κ : KC) {a N : Nat} (ha : a < 50) (hca : ∀ f q, ceX ad κ f q a = .inl (κ.1, N, .inl f)) {x1 : Int32} {σ : HS} {R : HS} (h : FJ7_fill_53178 a N x1 σ = some R) : MtV l 50 ceX D ad κ yJ7_fill_53178 cJ7_fill_53178 4 none ({ frames := 0, cells := 0, slots := 0, locals := 0 } : Room) [.ref (ad a), .int x1] σ R := by
  refine open_ (by decide) (Nat.le_of_ble_eq_true rfl) (la := [(0, .ref (ad a)), (1, .int x1)]) rfl ?_
  intro p e s m below meth c ls C hH hl
  replace C : Cx 50 D ad κ p s m _ meth c cJ7_fill_53178 RJ7 4 none := C
  have hx := C.1
  have hb := C.2.1
  have hown := C.2.2.2.1
  have hts := C.2.2.2.2.1
  rw [FJ7_fill_53178] at h
  refine lv_iconst (v := 0) hx hb dJ7_fill_53178_0 (by decide) ?_
  refine lv_istore_n (lv' := [(2, .int (0 : Int32)), (0, .ref (ad a)), (1, .int x1)]) hx hb dJ7_fill_53178_1 rfl hl (by decide) rfl (fun ls hl => ?_)
  refine lv_aload_n hx hb dJ7_fill_53178_2 rfl (lv_at hl 1 rfl) ?_
  refine g_alen C hH a 0 ha (hca _ _) rfl (v := (Int32.ofNat N)) rfl dJ7_fill_53178_3 ?_
  obtain ⟨x3_4, ex3_4, h⟩ := hl_ex h
  refine lv_eqi ex3_4 ?_
  refine lv_istore_n (lv' := [(3, .int x3_4), (2, .int (0 : Int32)), (0, .ref (ad a)), (1, .int x1)]) hx hb dJ7_fill_53178_4 rfl hl (by decide) rfl (fun ls hl => ?_)
  exact wJ7_fill_53178_5 C ha hca _ _ _ _ _ _ _ _ h hH (lv_sub hl [2, 3, 1, 0] rfl)
-- X7_begin
def FX7_begin (σ : HS) : Option HS :=
  bdV (FJ7_fill_53178 14 33 (0 : Int32) σ) fun σ_1 => hl_ (rI σ_1 14 (va_cpy (σ_1.1 22) (σ_1.1 14) 0 0 10)) fun σ_3 => hl_ (rI σ_3 14 (va_cpy (σ_3.1 25) (σ_3.1 14) 0 10 8)) fun σ_4 => hl_ (pI σ_4 14 28 (σ_4.1 3 2)) fun σ_5 => hl_ (pI σ_5 14 29 (σ_5.1 3 3)) fun σ_6 => hl_ (pI σ_6 14 32 (-2 : Int32)) fun σ_7 => some σ_7
set_option maxHeartbeats 4000000 in
set_option maxRecDepth 100000 in
theorem kX7_begin (l : Launch) (D : va_G) (ad : Nat → Nat) (κ : KC) {σ : HS} {R : HS} (h : FX7_begin σ = some R) : MtV l 50 ceX D ad κ yX7_begin cX7_begin 2 none ({ frames := 1, cells := 0, slots := 0, locals := 26 } : Room) [.ref (ad 4), .ref (ad 3)] σ R := by
  refine open_ (by decide) (Nat.le_of_ble_eq_true rfl) (la := [(0, .ref (ad 4)), (1, .ref (ad 3))]) rfl ?_
  intro p e s m below meth c ls C hH hl
  replace C : Cx 50 D ad κ p s m _ meth c cX7_begin RX7 2 none := C
  have hx := C.1
  have hb := C.2.1
  have hown := C.2.2.2.1
  have hts := C.2.2.2.2.1
  rw [FX7_begin] at h
  refine lv_aload_n hx hb dX7_begin_0 rfl (lv_at hl 0 rfl) ?_
  refine g_get C hH 4 (Nat.le_of_ble_eq_true rfl) rfl fl_X7_11 (v := .ref (ad 14)) rfl dX7_begin_1 ?_
  refine lv_iconst (v := 0) hx hb dX7_begin_4 (by decide) ?_
  obtain ⟨σ_1, hc_2, h⟩ := bdV_ex h
  refine g_cv (g_runS (rest := []) C hH hl.1 cS_X7_15 (kJ7_fill_53178 l D ad κ (Nat.le_of_ble_eq_true rfl) (fun _ _ => rfl) hc_2) ⟨rfl, rfl⟩ ⟨(Nat.le_of_ble_eq_true rfl), (Nat.le_of_ble_eq_true rfl)⟩ rfl rfl (Nat.le_of_ble_eq_true rfl) dX7_begin_5 z00) hH (fun H locs hH => ?_)
  refine lv_aload_n hx hb dX7_begin_8 rfl (lv_at hl 1 rfl) ?_
  refine g_get C hH 3 (Nat.le_of_ble_eq_true rfl) rfl fl_X7_21 (v := .ref (ad 22)) rfl dX7_begin_9 ?_
  refine lv_iconst (v := 0) hx hb dX7_begin_12 (by decide) ?_
  refine lv_aload_n hx hb dX7_begin_13 rfl (lv_at hl 0 rfl) ?_
  refine g_get C hH 4 (Nat.le_of_ble_eq_true rfl) rfl fl_X7_11 (v := .ref (ad 14)) rfl dX7_begin_14 ?_
  refine lv_iconst (v := 0) hx hb dX7_begin_17 (by decide) ?_
  refine lv_bipush (v := 10) hx hb dX7_begin_18 (by decide) ?_
  obtain ⟨σ_3, eσ_3, h⟩ := hl_ex h
  refine g_copy C hH hl.1 22 14 (Nat.le_of_ble_eq_true rfl) (Nat.le_of_ble_eq_true rfl) rfl (fun _ _ => rfl) kcp_X7_26 kcn kcs kci (a := 0) (b := 0) (d := 10) (by decide) (by decide) (by decide) (by decide) (by decide) (by decide) (Nat.le_of_ble_eq_true rfl) (Nat.le_of_ble_eq_true rfl) (Nat.le_of_ble_eq_true rfl) (Nat.le_of_ble_eq_true rfl) dX7_begin_20 (fun H locs hH => ?_)
  rw [← eσ_3] at hH
  refine lv_aload_n hx hb dX7_begin_23 rfl (lv_at hl 1 rfl) ?_
  refine g_get C hH 3 (Nat.le_of_ble_eq_true rfl) rfl fl_X7_32 (v := .ref (ad 25)) rfl dX7_begin_24 ?_
  refine lv_iconst (v := 0) hx hb dX7_begin_27 (by decide) ?_
  refine lv_aload_n hx hb dX7_begin_28 rfl (lv_at hl 0 rfl) ?_
  refine g_get C hH 4 (Nat.le_of_ble_eq_true rfl) rfl fl_X7_11 (v := .ref (ad 14)) rfl dX7_begin_29 ?_
  refine lv_bipush (v := 10) hx hb dX7_begin_32 (by decide) ?_
  refine lv_bipush (v := 8) hx hb dX7_begin_34 (by decide) ?_
  obtain ⟨σ_4, eσ_4, h⟩ := hl_ex h
  refine g_copy C hH hl.1 25 14 (Nat.le_of_ble_eq_true rfl) (Nat.le_of_ble_eq_true rfl) rfl (fun _ _ => rfl) kcp_X7_26 kcn kcs kci (a := 0) (b := 10) (d := 8) (by decide) (by decide) (by decide) (by decide) (by decide) (by decide) (Nat.le_of_ble_eq_true rfl) (Nat.le_of_ble_eq_true rfl) (Nat.le_of_ble_eq_true rfl) (Nat.le_of_ble_eq_true rfl) dX7_begin_36 (fun H locs hH => ?_)
  rw [← eσ_4] at hH
  refine lv_aload_n hx hb dX7_begin_39 rfl (lv_at hl 0 rfl) ?_
  refine g_get C hH 4 (Nat.le_of_ble_eq_true rfl) rfl fl_X7_11 (v := .ref (ad 14)) rfl dX7_begin_40 ?_
  refine lv_bipush (v := 28) hx hb dX7_begin_43 (by decide) ?_
  refine lv_aload_n hx hb dX7_begin_45 rfl (lv_at hl 1 rfl) ?_
  refine g_get C hH 3 (Nat.le_of_ble_eq_true rfl) rfl fl_X7_35 (v := .int (σ_4.1 3 2)) rfl dX7_begin_46 ?_
  obtain ⟨σ_5, eσ_5, h⟩ := hl_ex h
  refine g_iast C hH 14 (Nat.le_of_ble_eq_true rfl) (fun _ _ => rfl) (k := 28) (by decide) (ix_in rfl) dX7_begin_49 (fun H locs hH => ?_)
  rw [← eσ_5] at hH
  refine lv_aload_n hx hb dX7_begin_50 rfl (lv_at hl 0 rfl) ?_
  refine g_get C hH 4 (Nat.le_of_ble_eq_true rfl) rfl fl_X7_11 (v := .ref (ad 14)) rfl dX7_begin_51 ?_
  refine lv_bipush (v := 29) hx hb dX7_begin_54 (by decide) ?_
  refine lv_aload_n hx hb dX7_begin_56 rfl (lv_at hl 1 rfl) ?_
  refine g_get C hH 3 (Nat.le_of_ble_eq_true rfl) rfl fl_X7_39 (v := .int (σ_5.1 3 3)) rfl dX7_begin_57 ?_
  obtain ⟨σ_6, eσ_6, h⟩ := hl_ex h
  refine g_iast C hH 14 (Nat.le_of_ble_eq_true rfl) (fun _ _ => rfl) (k := 29) (by decide) (ix_in rfl) dX7_begin_60 (fun H locs hH => ?_)
  rw [← eσ_6] at hH
  refine lv_aload_n hx hb dX7_begin_61 rfl (lv_at hl 0 rfl) ?_
  refine g_get C hH 4 (Nat.le_of_ble_eq_true rfl) rfl fl_X7_11 (v := .ref (ad 14)) rfl dX7_begin_62 ?_
  refine lv_bipush (v := 32) hx hb dX7_begin_65 (by decide) ?_
  refine lv_bipush (v := (-2)) hx hb dX7_begin_67 (by decide) ?_
  obtain ⟨σ_7, eσ_7, h⟩ := hl_ex h
  refine g_iast C hH 14 (Nat.le_of_ble_eq_true rfl) (fun _ _ => rfl) (k := 32) (by decide) (ix_in rfl) dX7_begin_69 (fun H locs hH => ?_)
  rw [← eσ_7] at hH
  exact g_retV C hH h dX7_begin_70
-- X7_copyFrom
def FX7_copyFrom (σ : HS) : Option HS :=
  hl_ (rI σ 15 (va_cpy (σ.1 14) (σ.1 15) 0 0 33)) fun σ_1 => some σ_1
set_option maxHeartbeats 4000000 in
set_option maxRecDepth 100000 in
theorem kX7_copyFrom (l : Launch) (D : va_G) (ad : Nat → Nat) (κ : KC) {σ : HS} {R : HS} (h : FX7_copyFrom σ = some R) : MtV l 50 ceX D ad κ yX7_copyFrom cX7_copyFrom 2 none ({ frames := 1, cells := 0, slots := 0, locals := 26 } : Room) [.ref (ad 5), .ref (ad 4)] σ R := by
  refine open_ (by decide) (Nat.le_of_ble_eq_true rfl) (la := [(0, .ref (ad 5)), (1, .ref (ad 4))]) rfl ?_
  intro p e s m below meth c ls C hH hl
  replace C : Cx 50 D ad κ p s m _ meth c cX7_copyFrom RX7 2 none := C
  have hx := C.1
  have hb := C.2.1
  have hown := C.2.2.2.1
  have hts := C.2.2.2.2.1
  rw [FX7_copyFrom] at h
  refine lv_aload_n hx hb dX7_copyFrom_0 rfl (lv_at hl 1 rfl) ?_
  refine g_get C hH 4 (Nat.le_of_ble_eq_true rfl) rfl fl_X7_11 (v := .ref (ad 14)) rfl dX7_copyFrom_1 ?_
  refine lv_iconst (v := 0) hx hb dX7_copyFrom_4 (by decide) ?_
  refine lv_aload_n hx hb dX7_copyFrom_5 rfl (lv_at hl 0 rfl) ?_
  refine g_get C hH 5 (Nat.le_of_ble_eq_true rfl) rfl fl_X7_11 (v := .ref (ad 15)) rfl dX7_copyFrom_6 ?_
  refine lv_iconst (v := 0) hx hb dX7_copyFrom_9 (by decide) ?_
  refine lv_bipush (v := 33) hx hb dX7_copyFrom_10 (by decide) ?_
  obtain ⟨σ_1, eσ_1, h⟩ := hl_ex h
  refine g_copy C hH hl.1 14 15 (Nat.le_of_ble_eq_true rfl) (Nat.le_of_ble_eq_true rfl) rfl (fun _ _ => rfl) kcp_X7_26 kcn kcs kci (a := 0) (b := 0) (d := 33) (by decide) (by decide) (by decide) (by decide) (by decide) (by decide) (Nat.le_of_ble_eq_true rfl) (Nat.le_of_ble_eq_true rfl) (Nat.le_of_ble_eq_true rfl) (Nat.le_of_ble_eq_true rfl) dX7_copyFrom_12 (fun H locs hH => ?_)
  rw [← eσ_1] at hH
  exact g_retV C hH h dX7_copyFrom_15
-- X7_matterOf
def FX7_matterOf (st : Nat) (x1 : Int32) (σ : HS) : Option (Int32 × HS) :=
  gd (ix ((0 : Int32) + x1) 33) (some ((σ.1 (st + 10) (((0 : Int32) + x1).toNatClampNeg)), σ))
set_option maxHeartbeats 4000000 in
set_option maxRecDepth 100000 in
theorem kX7_matterOf (l : Launch) (D : va_G) (ad : Nat → Nat) (κ : KC) {st : Nat} (hst : isSt st) {x1 : Int32} {σ : HS} {R : (Int32 × HS)} (h : FX7_matterOf st x1 σ = some R) : MtI l 50 ceX D ad κ yX7_matterOf cX7_matterOf 2 (some .int) ({ frames := 0, cells := 0, slots := 0, locals := 0 } : Room) [.ref (ad st), .int x1] σ R := by
  refine open_ (by decide) (Nat.le_of_ble_eq_true rfl) (la := [(0, .ref (ad st)), (1, .int x1)]) rfl ?_
  intro p e s m below meth c ls C hH hl
  replace C : Cx 50 D ad κ p s m _ meth c cX7_matterOf RX7 2 (some .int) := C
  have hx := C.1
  have hb := C.2.1
  have hown := C.2.2.2.1
  have hts := C.2.2.2.2.1
  rw [FX7_matterOf] at h
  refine lv_aload_n hx hb dX7_matterOf_0 rfl (lv_at hl 0 rfl) ?_
  refine g_get C hH st (st_lt hst) (st_ce hst) fl_X7_11 (v := .ref (ad (st + 10))) rfl dX7_matterOf_1 ?_
  refine lv_iconst (v := 0) hx hb dX7_matterOf_4 (by decide) ?_
  refine lv_iload_n hx hb dX7_matterOf_5 rfl (lv_at hl 1 rfl) ?_
  refine lv_iadd hx hb dX7_matterOf_6 ?_
  obtain ⟨hi_1, h⟩ := gd_ex h
  refine g_iald C hH (st + 10) (st_lt2 hst) (st_ce2 hst _ _) (k := (((0 : Int32) + x1).toNatClampNeg)) rfl (ix_in hi_1) dX7_matterOf_7 ?_
  exact g_ret C hH h dX7_matterOf_8
-- X7_exchange
def FX7_exchange (st : Nat) (x1 : Int32) (x2 : Int32) (σ : HS) : Option HS :=
  gd (ix ((0 : Int32) + x1) 33) (hl_ (σ.1 (st + 10) (((0 : Int32) + x1).toNatClampNeg)) fun x3_2 => gd (ix ((0 : Int32) + x2) 33) (gd (ix ((0 : Int32) + x1) 33) (hl_ (pI σ (st + 10) (((0 : Int32) + x1).toNatClampNeg) (σ.1 (st + 10) (((0 : Int32) + x2).toNatClampNeg))) fun σ_5 => gd (ix ((0 : Int32) + x2) 33) (hl_ (pI σ_5 (st + 10) (((0 : Int32) + x2).toNatClampNeg) x3_2) fun σ_7 => some σ_7))))
set_option maxHeartbeats 4000000 in
set_option maxRecDepth 100000 in
theorem kX7_exchange (l : Launch) (D : va_G) (ad : Nat → Nat) (κ : KC) {st : Nat} (hst : isSt st) {x1 : Int32} {x2 : Int32} {σ : HS} {R : HS} (h : FX7_exchange st x1 x2 σ = some R) : MtV l 50 ceX D ad κ yX7_exchange cX7_exchange 4 none ({ frames := 0, cells := 0, slots := 0, locals := 0 } : Room) [.ref (ad st), .int x1, .int x2] σ R := by
  refine open_ (by decide) (Nat.le_of_ble_eq_true rfl) (la := [(0, .ref (ad st)), (1, .int x1), (2, .int x2)]) rfl ?_
  intro p e s m below meth c ls C hH hl
  replace C : Cx 50 D ad κ p s m _ meth c cX7_exchange RX7 4 none := C
  have hx := C.1
  have hb := C.2.1
  have hown := C.2.2.2.1
  have hts := C.2.2.2.2.1
  rw [FX7_exchange] at h
  refine lv_aload_n hx hb dX7_exchange_0 rfl (lv_at hl 0 rfl) ?_
  refine g_get C hH st (st_lt hst) (st_ce hst) fl_X7_11 (v := .ref (ad (st + 10))) rfl dX7_exchange_1 ?_
  refine lv_iconst (v := 0) hx hb dX7_exchange_4 (by decide) ?_
  refine lv_iload_n hx hb dX7_exchange_5 rfl (lv_at hl 1 rfl) ?_
  refine lv_iadd hx hb dX7_exchange_6 ?_
  obtain ⟨hi_1, h⟩ := gd_ex h
  refine g_iald C hH (st + 10) (st_lt2 hst) (st_ce2 hst _ _) (k := (((0 : Int32) + x1).toNatClampNeg)) rfl (ix_in hi_1) dX7_exchange_7 ?_
  obtain ⟨x3_2, ex3_2, h⟩ := hl_ex h
  refine lv_eqi ex3_2 ?_
  refine lv_istore_n (lv' := [(3, .int x3_2), (0, .ref (ad st)), (1, .int x1), (2, .int x2)]) hx hb dX7_exchange_8 rfl hl (by decide) rfl (fun ls hl => ?_)
  refine lv_aload_n hx hb dX7_exchange_9 rfl (lv_at hl 1 rfl) ?_
  refine g_get C hH st (st_lt hst) (st_ce hst) fl_X7_11 (v := .ref (ad (st + 10))) rfl dX7_exchange_10 ?_
  refine lv_iconst (v := 0) hx hb dX7_exchange_13 (by decide) ?_
  refine lv_iload_n hx hb dX7_exchange_14 rfl (lv_at hl 2 rfl) ?_
  refine lv_iadd hx hb dX7_exchange_15 ?_
  refine lv_aload_n hx hb dX7_exchange_16 rfl (lv_at hl 1 rfl) ?_
  refine g_get C hH st (st_lt hst) (st_ce hst) fl_X7_11 (v := .ref (ad (st + 10))) rfl dX7_exchange_17 ?_
  refine lv_iconst (v := 0) hx hb dX7_exchange_20 (by decide) ?_
  refine lv_iload_n hx hb dX7_exchange_21 rfl (lv_at hl 3 rfl) ?_
  refine lv_iadd hx hb dX7_exchange_22 ?_
  obtain ⟨hi_3, h⟩ := gd_ex h
  refine g_iald C hH (st + 10) (st_lt2 hst) (st_ce2 hst _ _) (k := (((0 : Int32) + x2).toNatClampNeg)) rfl (ix_in hi_3) dX7_exchange_23 ?_
  obtain ⟨hi_4, h⟩ := gd_ex h
  obtain ⟨σ_5, eσ_5, h⟩ := hl_ex h
  refine g_iast C hH (st + 10) (st_lt2 hst) (fun f q => st_ce2 hst f q) (k := (((0 : Int32) + x1).toNatClampNeg)) rfl (ix_in hi_4) dX7_exchange_24 (fun H locs hH => ?_)
  rw [← eσ_5] at hH
  refine lv_aload_n hx hb dX7_exchange_25 rfl (lv_at hl 1 rfl) ?_
  refine g_get C hH st (st_lt hst) (st_ce hst) fl_X7_11 (v := .ref (ad (st + 10))) rfl dX7_exchange_26 ?_
  refine lv_iconst (v := 0) hx hb dX7_exchange_29 (by decide) ?_
  refine lv_iload_n hx hb dX7_exchange_30 rfl (lv_at hl 3 rfl) ?_
  refine lv_iadd hx hb dX7_exchange_31 ?_
  refine lv_iload_n hx hb dX7_exchange_32 rfl (lv_at hl 0 rfl) ?_
  obtain ⟨hi_6, h⟩ := gd_ex h
  obtain ⟨σ_7, eσ_7, h⟩ := hl_ex h
  refine g_iast C hH (st + 10) (st_lt2 hst) (fun f q => st_ce2 hst f q) (k := (((0 : Int32) + x2).toNatClampNeg)) rfl (ix_in hi_6) dX7_exchange_33 (fun H locs hH => ?_)
  rw [← eσ_7] at hH
  exact g_retV C hH h dX7_exchange_34
-- X7_ownerOf
def FX7_ownerOf (st : Nat) (x1 : Int32) (σ : HS) : Option (Int32 × HS) :=
  gd (ix ((10 : Int32) + x1) 33) (some ((σ.1 (st + 10) (((10 : Int32) + x1).toNatClampNeg)), σ))
set_option maxHeartbeats 4000000 in
set_option maxRecDepth 100000 in
theorem kX7_ownerOf (l : Launch) (D : va_G) (ad : Nat → Nat) (κ : KC) {st : Nat} (hst : isSt st) {x1 : Int32} {σ : HS} {R : (Int32 × HS)} (h : FX7_ownerOf st x1 σ = some R) : MtI l 50 ceX D ad κ yX7_ownerOf cX7_ownerOf 2 (some .int) ({ frames := 0, cells := 0, slots := 0, locals := 0 } : Room) [.ref (ad st), .int x1] σ R := by
  refine open_ (by decide) (Nat.le_of_ble_eq_true rfl) (la := [(0, .ref (ad st)), (1, .int x1)]) rfl ?_
  intro p e s m below meth c ls C hH hl
  replace C : Cx 50 D ad κ p s m _ meth c cX7_ownerOf RX7 2 (some .int) := C
  have hx := C.1
  have hb := C.2.1
  have hown := C.2.2.2.1
  have hts := C.2.2.2.2.1
  rw [FX7_ownerOf] at h
  refine lv_aload_n hx hb dX7_ownerOf_0 rfl (lv_at hl 0 rfl) ?_
  refine g_get C hH st (st_lt hst) (st_ce hst) fl_X7_11 (v := .ref (ad (st + 10))) rfl dX7_ownerOf_1 ?_
  refine lv_bipush (v := 10) hx hb dX7_ownerOf_4 (by decide) ?_
  refine lv_iload_n hx hb dX7_ownerOf_6 rfl (lv_at hl 1 rfl) ?_
  refine lv_iadd hx hb dX7_ownerOf_7 ?_
  obtain ⟨hi_1, h⟩ := gd_ex h
  refine g_iald C hH (st + 10) (st_lt2 hst) (st_ce2 hst _ _) (k := (((10 : Int32) + x1).toNatClampNeg)) rfl (ix_in hi_1) dX7_ownerOf_8 ?_
  exact g_ret C hH h dX7_ownerOf_9
-- X7_setOwner
def FX7_setOwner (x1 : Int32) (x2 : Int32) (σ : HS) : Option HS :=
  gd (ix ((10 : Int32) + x1) 33) (hl_ (pI σ 14 (((10 : Int32) + x1).toNatClampNeg) x2) fun σ_2 => some σ_2)
set_option maxHeartbeats 4000000 in
set_option maxRecDepth 100000 in
theorem kX7_setOwner (l : Launch) (D : va_G) (ad : Nat → Nat) (κ : KC) {x1 : Int32} {x2 : Int32} {σ : HS} {R : HS} (h : FX7_setOwner x1 x2 σ = some R) : MtV l 50 ceX D ad κ yX7_setOwner cX7_setOwner 3 none ({ frames := 0, cells := 0, slots := 0, locals := 0 } : Room) [.ref (ad 4), .int x1, .int x2] σ R := by
  refine open_ (by decide) (Nat.le_of_ble_eq_true rfl) (la := [(0, .ref (ad 4)), (1, .int x1), (2, .int x2)]) rfl ?_
  intro p e s m below meth c ls C hH hl
  replace C : Cx 50 D ad κ p s m _ meth c cX7_setOwner RX7 3 none := C
  have hx := C.1
  have hb := C.2.1
  have hown := C.2.2.2.1
  have hts := C.2.2.2.2.1
  rw [FX7_setOwner] at h
  refine lv_aload_n hx hb dX7_setOwner_0 rfl (lv_at hl 0 rfl) ?_
  refine g_get C hH 4 (Nat.le_of_ble_eq_true rfl) rfl fl_X7_11 (v := .ref (ad 14)) rfl dX7_setOwner_1 ?_
  refine lv_bipush (v := 10) hx hb dX7_setOwner_4 (by decide) ?_
  refine lv_iload_n hx hb dX7_setOwner_6 rfl (lv_at hl 1 rfl) ?_
  refine lv_iadd hx hb dX7_setOwner_7 ?_
  refine lv_iload_n hx hb dX7_setOwner_8 rfl (lv_at hl 2 rfl) ?_
  obtain ⟨hi_1, h⟩ := gd_ex h
  obtain ⟨σ_2, eσ_2, h⟩ := hl_ex h
  refine g_iast C hH 14 (Nat.le_of_ble_eq_true rfl) (fun _ _ => rfl) (k := (((10 : Int32) + x1).toNatClampNeg)) rfl (ix_in hi_1) dX7_setOwner_9 (fun H locs hH => ?_)
  rw [← eσ_2] at hH
  exact g_retV C hH h dX7_setOwner_10
-- X7_partsOf
def FX7_partsOf_4  (st : Nat) : Nat → Int32 → Int32 → Int32 → HS → Option (Int32 × HS)
  | 0, _, _, _, _ => none
  | f + 1, x1, x2, x3, σ => if (8 : Int32) ≤ x3 then some (x2, σ) else bdI (FX7_ownerOf st x3 σ) fun r_2 σ_3 => if r_2 = x1 then hl_ (x2 ||| ((1 : Int32) <<< (x3 &&& 31))) fun x2_6 => FX7_partsOf_4 st f x1 x2_6 (x3 + 1) σ_3 else FX7_partsOf_4 st f x1 x2 (x3 + 1) σ_3
def FX7_partsOf (st : Nat) (x1 : Int32) (σ : HS) : Option (Int32 × HS) :=
  FX7_partsOf_4 st fu x1 (0 : Int32) (0 : Int32) σ
set_option maxHeartbeats 4000000 in
set_option maxRecDepth 100000 in
theorem wX7_partsOf_4 (C : Cx 50 D ad κ p s m args meth c cX7_partsOf RX7 4 (some .int)) {st : Nat} (hst : isSt st) {R : (Int32 × HS)} : ∀ (f : Nat) (x1 : Int32) (x2 : Int32) (x3 : Int32) (σ : HS) (H : Heap) (locs : List Loc) (ls : Array Slot), FX7_partsOf_4 st f x1 x2 x3 σ = some R → Hd 50 ceX D ad κ s σ H locs → lv_has ls 4 [(0, .ref (ad st)), (1, .int x1), (2, .int x2), (3, .int x3)] → W p l e ({ frames := 1, cells := 0, slots := 0, locals := 21 } : Room) s m args below meth c H locs 0 0 (MQ below (QI 50 ceX D ad κ R) args s 0 0 (AX 50 ad)) (F0 m 4 ls []) := by
  have hx := C.1
  have hb := C.2.1
  have hown := C.2.2.2.1
  have hts := C.2.2.2.2.1
  intro f
  induction f with
  | zero =>
    intro x1 x2 x3 σ H locs ls h hH hl
    cases h
  | succ f ih =>
    intro x1 x2 x3 σ H locs ls h hH hl
    rw [FX7_partsOf_4] at h
    refine lv_iload_n hx hb dX7_partsOf_4 rfl (lv_at hl 3 rfl) ?_
    refine lv_bipush (v := 8) hx hb dX7_partsOf_5 (by decide) ?_
    refine lv_icmp_ge (tgt := 31) hx hb dX7_partsOf_7 (by decide) (fun hq_1 => ?_) (fun hq_1 => ?_)
    · rw [if_pos hq_1] at h
      refine lv_iload_n hx hb dX7_partsOf_31 rfl (lv_at hl 2 rfl) ?_
      exact g_ret C hH h dX7_partsOf_32
    · rw [if_neg hq_1] at h
      refine lv_aload_n hx hb dX7_partsOf_10 rfl (lv_at hl 0 rfl) ?_
      refine lv_iload_n hx hb dX7_partsOf_11 rfl (lv_at hl 3 rfl) ?_
      obtain ⟨r_2, σ_3, hc_4, h⟩ := bdI_ex h
      refine g_ci (g_runV (rest := []) C hH hl.1 cV_X7_42 st (st_lt hst) (st_ce hst) rfl (kX7_ownerOf l D ad κ hst hc_4) ⟨rfl, rfl⟩ ⟨(Nat.le_of_ble_eq_true rfl), (Nat.le_of_ble_eq_true rfl)⟩ rfl rfl (Nat.le_of_ble_eq_true rfl) dX7_partsOf_12 z00) hH (fun H locs hH => ?_)
      refine lv_iload_n hx hb dX7_partsOf_15 rfl (lv_at hl 1 rfl) ?_
      refine lv_icmp_ne (tgt := 25) hx hb dX7_partsOf_16 (by decide) (fun hq_5 => ?_) (fun hq_5 => ?_)
      · rw [if_neg hq_5] at h
        refine lv_iinc (v := (x3 + 1)) (lv' := [(3, .int (x3 + 1)), (0, .ref (ad st)), (1, .int x1), (2, .int x2)]) hx hb dX7_partsOf_25 hl (k := 3) rfl rfl (by decide) rfl (fun ls hl => ?_)
        refine lv_goto (tgt := 4) hx hb dX7_partsOf_28 (by decide) ?_
        exact ih _ _ _ _ _ _ _ h hH (lv_sub hl [1, 2, 3, 0] rfl)
      · rw [if_pos hq_5] at h
        refine lv_iload_n hx hb dX7_partsOf_19 rfl (lv_at hl 2 rfl) ?_
        refine lv_iconst (v := 1) hx hb dX7_partsOf_20 (by decide) ?_
        refine lv_iload_n hx hb dX7_partsOf_21 rfl (lv_at hl 3 rfl) ?_
        refine lv_ishl hx hb dX7_partsOf_22 ?_
        refine lv_ior hx hb dX7_partsOf_23 ?_
        obtain ⟨x2_6, ex2_6, h⟩ := hl_ex h
        refine lv_eqi ex2_6 ?_
        refine lv_istore_n (lv' := [(2, .int x2_6), (0, .ref (ad st)), (1, .int x1), (3, .int x3)]) hx hb dX7_partsOf_24 rfl hl (by decide) rfl (fun ls hl => ?_)
        refine lv_iinc (v := (x3 + 1)) (lv' := [(3, .int (x3 + 1)), (2, .int x2_6), (0, .ref (ad st)), (1, .int x1)]) hx hb dX7_partsOf_25 hl (k := 3) rfl rfl (by decide) rfl (fun ls hl => ?_)
        refine lv_goto (tgt := 4) hx hb dX7_partsOf_28 (by decide) ?_
        exact ih _ _ _ _ _ _ _ h hH (lv_sub hl [2, 3, 1, 0] rfl)
set_option maxHeartbeats 4000000 in
set_option maxRecDepth 100000 in
theorem kX7_partsOf (l : Launch) (D : va_G) (ad : Nat → Nat) (κ : KC) {st : Nat} (hst : isSt st) {x1 : Int32} {σ : HS} {R : (Int32 × HS)} (h : FX7_partsOf st x1 σ = some R) : MtI l 50 ceX D ad κ yX7_partsOf cX7_partsOf 4 (some .int) ({ frames := 1, cells := 0, slots := 0, locals := 21 } : Room) [.ref (ad st), .int x1] σ R := by
  refine open_ (by decide) (Nat.le_of_ble_eq_true rfl) (la := [(0, .ref (ad st)), (1, .int x1)]) rfl ?_
  intro p e s m below meth c ls C hH hl
  replace C : Cx 50 D ad κ p s m _ meth c cX7_partsOf RX7 4 (some .int) := C
  have hx := C.1
  have hb := C.2.1
  have hown := C.2.2.2.1
  have hts := C.2.2.2.2.1
  rw [FX7_partsOf] at h
  refine lv_iconst (v := 0) hx hb dX7_partsOf_0 (by decide) ?_
  refine lv_istore_n (lv' := [(2, .int (0 : Int32)), (0, .ref (ad st)), (1, .int x1)]) hx hb dX7_partsOf_1 rfl hl (by decide) rfl (fun ls hl => ?_)
  refine lv_iconst (v := 0) hx hb dX7_partsOf_2 (by decide) ?_
  refine lv_istore_n (lv' := [(3, .int (0 : Int32)), (2, .int (0 : Int32)), (0, .ref (ad st)), (1, .int x1)]) hx hb dX7_partsOf_3 rfl hl (by decide) rfl (fun ls hl => ?_)
  exact wX7_partsOf_4 C hst _ _ _ _ _ _ _ _ h hH (lv_sub hl [2, 3, 1, 0] rfl)
-- X7_gainedBy
def FX7_gainedBy (st : Nat) (x1 : Int32) (σ : HS) : Option (Int32 × HS) :=
  gd (ix ((18 : Int32) + x1) 33) (some ((σ.1 (st + 10) (((18 : Int32) + x1).toNatClampNeg)), σ))
set_option maxHeartbeats 4000000 in
set_option maxRecDepth 100000 in
theorem kX7_gainedBy (l : Launch) (D : va_G) (ad : Nat → Nat) (κ : KC) {st : Nat} (hst : isSt st) {x1 : Int32} {σ : HS} {R : (Int32 × HS)} (h : FX7_gainedBy st x1 σ = some R) : MtI l 50 ceX D ad κ yX7_gainedBy cX7_gainedBy 2 (some .int) ({ frames := 0, cells := 0, slots := 0, locals := 0 } : Room) [.ref (ad st), .int x1] σ R := by
  refine open_ (by decide) (Nat.le_of_ble_eq_true rfl) (la := [(0, .ref (ad st)), (1, .int x1)]) rfl ?_
  intro p e s m below meth c ls C hH hl
  replace C : Cx 50 D ad κ p s m _ meth c cX7_gainedBy RX7 2 (some .int) := C
  have hx := C.1
  have hb := C.2.1
  have hown := C.2.2.2.1
  have hts := C.2.2.2.2.1
  rw [FX7_gainedBy] at h
  refine lv_aload_n hx hb dX7_gainedBy_0 rfl (lv_at hl 0 rfl) ?_
  refine g_get C hH st (st_lt hst) (st_ce hst) fl_X7_11 (v := .ref (ad (st + 10))) rfl dX7_gainedBy_1 ?_
  refine lv_bipush (v := 18) hx hb dX7_gainedBy_4 (by decide) ?_
  refine lv_iload_n hx hb dX7_gainedBy_6 rfl (lv_at hl 1 rfl) ?_
  refine lv_iadd hx hb dX7_gainedBy_7 ?_
  obtain ⟨hi_1, h⟩ := gd_ex h
  refine g_iald C hH (st + 10) (st_lt2 hst) (st_ce2 hst _ _) (k := (((18 : Int32) + x1).toNatClampNeg)) rfl (ix_in hi_1) dX7_gainedBy_8 ?_
  exact g_ret C hH h dX7_gainedBy_9
-- X7_paidBy
def FX7_paidBy (st : Nat) (x1 : Int32) (σ : HS) : Option (Int32 × HS) :=
  gd (ix ((23 : Int32) + x1) 33) (some ((σ.1 (st + 10) (((23 : Int32) + x1).toNatClampNeg)), σ))
set_option maxHeartbeats 4000000 in
set_option maxRecDepth 100000 in
theorem kX7_paidBy (l : Launch) (D : va_G) (ad : Nat → Nat) (κ : KC) {st : Nat} (hst : isSt st) {x1 : Int32} {σ : HS} {R : (Int32 × HS)} (h : FX7_paidBy st x1 σ = some R) : MtI l 50 ceX D ad κ yX7_paidBy cX7_paidBy 2 (some .int) ({ frames := 0, cells := 0, slots := 0, locals := 0 } : Room) [.ref (ad st), .int x1] σ R := by
  refine open_ (by decide) (Nat.le_of_ble_eq_true rfl) (la := [(0, .ref (ad st)), (1, .int x1)]) rfl ?_
  intro p e s m below meth c ls C hH hl
  replace C : Cx 50 D ad κ p s m _ meth c cX7_paidBy RX7 2 (some .int) := C
  have hx := C.1
  have hb := C.2.1
  have hown := C.2.2.2.1
  have hts := C.2.2.2.2.1
  rw [FX7_paidBy] at h
  refine lv_aload_n hx hb dX7_paidBy_0 rfl (lv_at hl 0 rfl) ?_
  refine g_get C hH st (st_lt hst) (st_ce hst) fl_X7_11 (v := .ref (ad (st + 10))) rfl dX7_paidBy_1 ?_
  refine lv_bipush (v := 23) hx hb dX7_paidBy_4 (by decide) ?_
  refine lv_iload_n hx hb dX7_paidBy_6 rfl (lv_at hl 1 rfl) ?_
  refine lv_iadd hx hb dX7_paidBy_7 ?_
  obtain ⟨hi_1, h⟩ := gd_ex h
  refine g_iald C hH (st + 10) (st_lt2 hst) (st_ce2 hst _ _) (k := (((23 : Int32) + x1).toNatClampNeg)) rfl (ix_in hi_1) dX7_paidBy_8 ?_
  exact g_ret C hH h dX7_paidBy_9
-- X7_profitOf
def FX7_profitOf (st : Nat) (x1 : Int32) (σ : HS) : Option (Int32 × HS) :=
  bdI (FX7_gainedBy st x1 σ) fun r_1 σ_2 => bdI (FX7_paidBy st x1 σ_2) fun r_4 σ_5 => some ((r_1 - r_4), σ_5)
set_option maxHeartbeats 4000000 in
set_option maxRecDepth 100000 in
theorem kX7_profitOf (l : Launch) (D : va_G) (ad : Nat → Nat) (κ : KC) {st : Nat} (hst : isSt st) {x1 : Int32} {σ : HS} {R : (Int32 × HS)} (h : FX7_profitOf st x1 σ = some R) : MtI l 50 ceX D ad κ yX7_profitOf cX7_profitOf 2 (some .int) ({ frames := 1, cells := 0, slots := 0, locals := 21 } : Room) [.ref (ad st), .int x1] σ R := by
  refine open_ (by decide) (Nat.le_of_ble_eq_true rfl) (la := [(0, .ref (ad st)), (1, .int x1)]) rfl ?_
  intro p e s m below meth c ls C hH hl
  replace C : Cx 50 D ad κ p s m _ meth c cX7_profitOf RX7 2 (some .int) := C
  have hx := C.1
  have hb := C.2.1
  have hown := C.2.2.2.1
  have hts := C.2.2.2.2.1
  rw [FX7_profitOf] at h
  refine lv_aload_n hx hb dX7_profitOf_0 rfl (lv_at hl 0 rfl) ?_
  refine lv_iload_n hx hb dX7_profitOf_1 rfl (lv_at hl 1 rfl) ?_
  obtain ⟨r_1, σ_2, hc_3, h⟩ := bdI_ex h
  refine g_ci (g_runV (rest := []) C hH hl.1 cV_X7_46 st (st_lt hst) (st_ce hst) rfl (kX7_gainedBy l D ad κ hst hc_3) ⟨rfl, rfl⟩ ⟨(Nat.le_of_ble_eq_true rfl), (Nat.le_of_ble_eq_true rfl)⟩ rfl rfl (Nat.le_of_ble_eq_true rfl) dX7_profitOf_2 z00) hH (fun H locs hH => ?_)
  refine lv_aload_n hx hb dX7_profitOf_5 rfl (lv_at hl 0 rfl) ?_
  refine lv_iload_n hx hb dX7_profitOf_6 rfl (lv_at hl 1 rfl) ?_
  obtain ⟨r_4, σ_5, hc_6, h⟩ := bdI_ex h
  refine g_ci (g_runV (rest := [.int r_1]) C hH hl.1 cV_X7_49 st (st_lt hst) (st_ce hst) rfl (kX7_paidBy l D ad κ hst hc_6) ⟨rfl, rfl⟩ ⟨(Nat.le_of_ble_eq_true rfl), (Nat.le_of_ble_eq_true rfl)⟩ rfl rfl (Nat.le_of_ble_eq_true rfl) dX7_profitOf_7 z00) hH (fun H locs hH => ?_)
  refine lv_isub hx hb dX7_profitOf_10 ?_
  exact g_ret C hH h dX7_profitOf_11
-- X7_sumFrom
def FX7_sumFrom_4  : Nat → Int32 → Int32 → Int32 → HS → Option (Int32 × HS)
  | 0, _, _, _, _ => none
  | f + 1, x1, x2, x3, σ => if (5 : Int32) ≤ x3 then some (x2, σ) else gd (ix (x1 + x3) 33) (hl_ (x2 + (σ.1 14 ((x1 + x3).toNatClampNeg))) fun x2_3 => FX7_sumFrom_4  f x1 x2_3 (x3 + 1) σ)
def FX7_sumFrom (x1 : Int32) (σ : HS) : Option (Int32 × HS) :=
  FX7_sumFrom_4 fu x1 (0 : Int32) (0 : Int32) σ
set_option maxHeartbeats 4000000 in
set_option maxRecDepth 100000 in
theorem wX7_sumFrom_4 (C : Cx 50 D ad κ p s m args meth c cX7_sumFrom RX7 4 (some .int)) {R : (Int32 × HS)} : ∀ (f : Nat) (x1 : Int32) (x2 : Int32) (x3 : Int32) (σ : HS) (H : Heap) (locs : List Loc) (ls : Array Slot), FX7_sumFrom_4  f x1 x2 x3 σ = some R → Hd 50 ceX D ad κ s σ H locs → lv_has ls 4 [(0, .ref (ad 4)), (1, .int x1), (2, .int x2), (3, .int x3)] → W p l e ({ frames := 0, cells := 0, slots := 0, locals := 0 } : Room) s m args below meth c H locs 0 0 (MQ below (QI 50 ceX D ad κ R) args s 0 0 (AX 50 ad)) (F0 m 4 ls []) := by
  have hx := C.1
  have hb := C.2.1
  have hown := C.2.2.2.1
  have hts := C.2.2.2.2.1
  intro f
  induction f with
  | zero =>
    intro x1 x2 x3 σ H locs ls h hH hl
    cases h
  | succ f ih =>
    intro x1 x2 x3 σ H locs ls h hH hl
    rw [FX7_sumFrom_4] at h
    refine lv_iload_n hx hb dX7_sumFrom_4 rfl (lv_at hl 3 rfl) ?_
    refine lv_iconst (v := 5) hx hb dX7_sumFrom_5 (by decide) ?_
    refine lv_icmp_ge (tgt := 26) hx hb dX7_sumFrom_6 (by decide) (fun hq_1 => ?_) (fun hq_1 => ?_)
    · rw [if_pos hq_1] at h
      refine lv_iload_n hx hb dX7_sumFrom_26 rfl (lv_at hl 2 rfl) ?_
      exact g_ret C hH h dX7_sumFrom_27
    · rw [if_neg hq_1] at h
      refine lv_iload_n hx hb dX7_sumFrom_9 rfl (lv_at hl 2 rfl) ?_
      refine lv_aload_n hx hb dX7_sumFrom_10 rfl (lv_at hl 0 rfl) ?_
      refine g_get C hH 4 (Nat.le_of_ble_eq_true rfl) rfl fl_X7_11 (v := .ref (ad 14)) rfl dX7_sumFrom_11 ?_
      refine lv_iload_n hx hb dX7_sumFrom_14 rfl (lv_at hl 1 rfl) ?_
      refine lv_iload_n hx hb dX7_sumFrom_15 rfl (lv_at hl 3 rfl) ?_
      refine lv_iadd hx hb dX7_sumFrom_16 ?_
      obtain ⟨hi_2, h⟩ := gd_ex h
      refine g_iald C hH 14 (Nat.le_of_ble_eq_true rfl) rfl (k := ((x1 + x3).toNatClampNeg)) rfl (ix_in hi_2) dX7_sumFrom_17 ?_
      refine lv_iadd hx hb dX7_sumFrom_18 ?_
      obtain ⟨x2_3, ex2_3, h⟩ := hl_ex h
      refine lv_eqi ex2_3 ?_
      refine lv_istore_n (lv' := [(2, .int x2_3), (0, .ref (ad 4)), (1, .int x1), (3, .int x3)]) hx hb dX7_sumFrom_19 rfl hl (by decide) rfl (fun ls hl => ?_)
      refine lv_iinc (v := (x3 + 1)) (lv' := [(3, .int (x3 + 1)), (2, .int x2_3), (0, .ref (ad 4)), (1, .int x1)]) hx hb dX7_sumFrom_20 hl (k := 3) rfl rfl (by decide) rfl (fun ls hl => ?_)
      refine lv_goto (tgt := 4) hx hb dX7_sumFrom_23 (by decide) ?_
      exact ih _ _ _ _ _ _ _ h hH (lv_sub hl [2, 3, 1, 0] rfl)
set_option maxHeartbeats 4000000 in
set_option maxRecDepth 100000 in
theorem kX7_sumFrom (l : Launch) (D : va_G) (ad : Nat → Nat) (κ : KC) {x1 : Int32} {σ : HS} {R : (Int32 × HS)} (h : FX7_sumFrom x1 σ = some R) : MtI l 50 ceX D ad κ yX7_sumFrom cX7_sumFrom 4 (some .int) ({ frames := 0, cells := 0, slots := 0, locals := 0 } : Room) [.ref (ad 4), .int x1] σ R := by
  refine open_ (by decide) (Nat.le_of_ble_eq_true rfl) (la := [(0, .ref (ad 4)), (1, .int x1)]) rfl ?_
  intro p e s m below meth c ls C hH hl
  replace C : Cx 50 D ad κ p s m _ meth c cX7_sumFrom RX7 4 (some .int) := C
  have hx := C.1
  have hb := C.2.1
  have hown := C.2.2.2.1
  have hts := C.2.2.2.2.1
  rw [FX7_sumFrom] at h
  refine lv_iconst (v := 0) hx hb dX7_sumFrom_0 (by decide) ?_
  refine lv_istore_n (lv' := [(2, .int (0 : Int32)), (0, .ref (ad 4)), (1, .int x1)]) hx hb dX7_sumFrom_1 rfl hl (by decide) rfl (fun ls hl => ?_)
  refine lv_iconst (v := 0) hx hb dX7_sumFrom_2 (by decide) ?_
  refine lv_istore_n (lv' := [(3, .int (0 : Int32)), (2, .int (0 : Int32)), (0, .ref (ad 4)), (1, .int x1)]) hx hb dX7_sumFrom_3 rfl hl (by decide) rfl (fun ls hl => ?_)
  exact wX7_sumFrom_4 C _ _ _ _ _ _ _ _ h hH (lv_sub hl [2, 3, 1, 0] rfl)
-- X7_gainedByAll
def FX7_gainedByAll (σ : HS) : Option (Int32 × HS) :=
  bdI (FX7_sumFrom (18 : Int32) σ) fun r_1 σ_2 => some (r_1, σ_2)
set_option maxHeartbeats 4000000 in
set_option maxRecDepth 100000 in
theorem kX7_gainedByAll (l : Launch) (D : va_G) (ad : Nat → Nat) (κ : KC) {σ : HS} {R : (Int32 × HS)} (h : FX7_gainedByAll σ = some R) : MtI l 50 ceX D ad κ yX7_gainedByAll cX7_gainedByAll 1 (some .int) ({ frames := 1, cells := 0, slots := 0, locals := 23 } : Room) [.ref (ad 4)] σ R := by
  refine open_ (by decide) (Nat.le_of_ble_eq_true rfl) (la := [(0, .ref (ad 4))]) rfl ?_
  intro p e s m below meth c ls C hH hl
  replace C : Cx 50 D ad κ p s m _ meth c cX7_gainedByAll RX7 1 (some .int) := C
  have hx := C.1
  have hb := C.2.1
  have hown := C.2.2.2.1
  have hts := C.2.2.2.2.1
  rw [FX7_gainedByAll] at h
  refine lv_aload_n hx hb dX7_gainedByAll_0 rfl (lv_at hl 0 rfl) ?_
  refine lv_bipush (v := 18) hx hb dX7_gainedByAll_1 (by decide) ?_
  obtain ⟨r_1, σ_2, hc_3, h⟩ := bdI_ex h
  refine g_ci (g_runV (rest := []) C hH hl.1 cV_X7_52 4 (Nat.le_of_ble_eq_true rfl) rfl rfl (kX7_sumFrom l D ad κ hc_3) ⟨rfl, rfl⟩ ⟨(Nat.le_of_ble_eq_true rfl), (Nat.le_of_ble_eq_true rfl)⟩ rfl rfl (Nat.le_of_ble_eq_true rfl) dX7_gainedByAll_3 z00) hH (fun H locs hH => ?_)
  exact g_ret C hH h dX7_gainedByAll_6
-- X7_paidByAll
def FX7_paidByAll (σ : HS) : Option (Int32 × HS) :=
  bdI (FX7_sumFrom (23 : Int32) σ) fun r_1 σ_2 => some (r_1, σ_2)
set_option maxHeartbeats 4000000 in
set_option maxRecDepth 100000 in
theorem kX7_paidByAll (l : Launch) (D : va_G) (ad : Nat → Nat) (κ : KC) {σ : HS} {R : (Int32 × HS)} (h : FX7_paidByAll σ = some R) : MtI l 50 ceX D ad κ yX7_paidByAll cX7_paidByAll 1 (some .int) ({ frames := 1, cells := 0, slots := 0, locals := 23 } : Room) [.ref (ad 4)] σ R := by
  refine open_ (by decide) (Nat.le_of_ble_eq_true rfl) (la := [(0, .ref (ad 4))]) rfl ?_
  intro p e s m below meth c ls C hH hl
  replace C : Cx 50 D ad κ p s m _ meth c cX7_paidByAll RX7 1 (some .int) := C
  have hx := C.1
  have hb := C.2.1
  have hown := C.2.2.2.1
  have hts := C.2.2.2.2.1
  rw [FX7_paidByAll] at h
  refine lv_aload_n hx hb dX7_paidByAll_0 rfl (lv_at hl 0 rfl) ?_
  refine lv_bipush (v := 23) hx hb dX7_paidByAll_1 (by decide) ?_
  obtain ⟨r_1, σ_2, hc_3, h⟩ := bdI_ex h
  refine g_ci (g_runV (rest := []) C hH hl.1 cV_X7_52 4 (Nat.le_of_ble_eq_true rfl) rfl rfl (kX7_sumFrom l D ad κ hc_3) ⟨rfl, rfl⟩ ⟨(Nat.le_of_ble_eq_true rfl), (Nat.le_of_ble_eq_true rfl)⟩ rfl rfl (Nat.le_of_ble_eq_true rfl) dX7_paidByAll_3 z00) hH (fun H locs hH => ?_)
  exact g_ret C hH h dX7_paidByAll_6
end
