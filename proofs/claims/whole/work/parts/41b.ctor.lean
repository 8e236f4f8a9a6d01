theorem dX5_init_0 : decode cX5_init 0 = .ok (.aload_n 0, 1) := by decide +kernel
theorem dX5_init_1 : decode cX5_init 1 = .ok (.invokespecial 5, 3) := by decide +kernel
theorem dX5_init_4 : decode cX5_init 4 = .ok (.aload_n 0, 1) := by decide +kernel
theorem dX5_init_5 : decode cX5_init 5 = .ok (.new 11, 3) := by decide +kernel
theorem dX5_init_8 : decode cX5_init 8 = .ok (.dup, 1) := by decide +kernel
theorem dX5_init_9 : decode cX5_init 9 = .ok (.invokespecial 13, 3) := by decide +kernel
theorem dX5_init_12 : decode cX5_init 12 = .ok (.putfield 14, 3) := by decide +kernel
theorem dX5_init_15 : decode cX5_init 15 = .ok (.aload_n 0, 1) := by decide +kernel
theorem dX5_init_16 : decode cX5_init 16 = .ok (.iconst (-1), 1) := by decide +kernel
theorem dX5_init_17 : decode cX5_init 17 = .ok (.putfield 18, 3) := by decide +kernel
theorem dX5_init_20 : decode cX5_init 20 = .ok (.aload_n 0, 1) := by decide +kernel
theorem dX5_init_21 : decode cX5_init 21 = .ok (.iconst 5, 1) := by decide +kernel
theorem dX5_init_22 : decode cX5_init 22 = .ok (.newarray .long, 2) := by decide +kernel
theorem dX5_init_24 : decode cX5_init 24 = .ok (.putfield 22, 3) := by decide +kernel
theorem dX5_init_27 : decode cX5_init 27 = .ok (.aload_n 0, 1) := by decide +kernel
theorem dX5_init_28 : decode cX5_init 28 = .ok (.bipush 21, 2) := by decide +kernel
theorem dX5_init_30 : decode cX5_init 30 = .ok (.newarray .int, 2) := by decide +kernel
theorem dX5_init_32 : decode cX5_init 32 = .ok (.putfield 26, 3) := by decide +kernel
theorem dX5_init_35 : decode cX5_init 35 = .ok (.aload_n 0, 1) := by decide +kernel
theorem dX5_init_36 : decode cX5_init 36 = .ok (.new 30, 3) := by decide +kernel
theorem dX5_init_39 : decode cX5_init 39 = .ok (.dup, 1) := by decide +kernel
theorem dX5_init_40 : decode cX5_init 40 = .ok (.aload_n 1, 1) := by decide +kernel
theorem dX5_init_41 : decode cX5_init 41 = .ok (.invokespecial 32, 3) := by decide +kernel
theorem dX5_init_44 : decode cX5_init 44 = .ok (.putfield 35, 3) := by decide +kernel
theorem dX5_init_47 : decode cX5_init 47 = .ok (.return_, 1) := by decide +kernel
theorem dX3_init_0 : decode cX3_init 0 = .ok (.aload_n 0, 1) := by decide +kernel
theorem dX3_init_1 : decode cX3_init 1 = .ok (.invokespecial 1, 3) := by decide +kernel
theorem dX3_init_4 : decode cX3_init 4 = .ok (.aload_n 0, 1) := by decide +kernel
theorem dX3_init_5 : decode cX3_init 5 = .ok (.sipush 1320, 3) := by decide +kernel
theorem dX3_init_8 : decode cX3_init 8 = .ok (.newarray .int, 2) := by decide +kernel
theorem dX3_init_10 : decode cX3_init 10 = .ok (.putfield 11, 3) := by decide +kernel
theorem dX3_init_13 : decode cX3_init 13 = .ok (.aload_n 0, 1) := by decide +kernel
theorem dX3_init_14 : decode cX3_init 14 = .ok (.bipush 99, 2) := by decide +kernel
theorem dX3_init_16 : decode cX3_init 16 = .ok (.newarray .int, 2) := by decide +kernel
theorem dX3_init_18 : decode cX3_init 18 = .ok (.putfield 15, 3) := by decide +kernel
theorem dX3_init_21 : decode cX3_init 21 = .ok (.aload_n 0, 1) := by decide +kernel
theorem dX3_init_22 : decode cX3_init 22 = .ok (.iconst 3, 1) := by decide +kernel
theorem dX3_init_23 : decode cX3_init 23 = .ok (.newarray .boolean, 2) := by decide +kernel
theorem dX3_init_25 : decode cX3_init 25 = .ok (.putfield 18, 3) := by decide +kernel
theorem dX3_init_28 : decode cX3_init 28 = .ok (.return_, 1) := by decide +kernel
theorem dX2_init_0 : decode cX2_init 0 = .ok (.aload_n 0, 1) := by decide +kernel
theorem dX2_init_1 : decode cX2_init 1 = .ok (.invokespecial 5, 3) := by decide +kernel
theorem dX2_init_4 : decode cX2_init 4 = .ok (.aload_n 0, 1) := by decide +kernel
theorem dX2_init_5 : decode cX2_init 5 = .ok (.bipush 9, 2) := by decide +kernel
theorem dX2_init_7 : decode cX2_init 7 = .ok (.newarray .int, 2) := by decide +kernel
theorem dX2_init_9 : decode cX2_init 9 = .ok (.putfield 13, 3) := by decide +kernel
theorem dX2_init_12 : decode cX2_init 12 = .ok (.aload_n 0, 1) := by decide +kernel
theorem dX2_init_13 : decode cX2_init 13 = .ok (.bipush 16, 2) := by decide +kernel
theorem dX2_init_15 : decode cX2_init 15 = .ok (.newarray .int, 2) := by decide +kernel
theorem dX2_init_17 : decode cX2_init 17 = .ok (.putfield 17, 3) := by decide +kernel
theorem dX2_init_20 : decode cX2_init 20 = .ok (.aload_n 0, 1) := by decide +kernel
theorem dX2_init_21 : decode cX2_init 21 = .ok (.aload_n 1, 1) := by decide +kernel
theorem dX2_init_22 : decode cX2_init 22 = .ok (.putfield 20, 3) := by decide +kernel
theorem dX2_init_25 : decode cX2_init 25 = .ok (.return_, 1) := by decide +kernel
theorem dX0_init_0 : decode cX0_init 0 = .ok (.aload_n 0, 1) := by decide +kernel
theorem dX0_init_1 : decode cX0_init 1 = .ok (.invokespecial 3, 3) := by decide +kernel
theorem dX0_init_4 : decode cX0_init 4 = .ok (.aload_n 0, 1) := by decide +kernel
theorem dX0_init_5 : decode cX0_init 5 = .ok (.bipush 10, 2) := by decide +kernel
theorem dX0_init_7 : decode cX0_init 7 = .ok (.newarray .int, 2) := by decide +kernel
theorem dX0_init_9 : decode cX0_init 9 = .ok (.putfield 9, 3) := by decide +kernel
theorem dX0_init_12 : decode cX0_init 12 = .ok (.aload_n 0, 1) := by decide +kernel
theorem dX0_init_13 : decode cX0_init 13 = .ok (.bipush 80, 2) := by decide +kernel
theorem dX0_init_15 : decode cX0_init 15 = .ok (.newarray .int, 2) := by decide +kernel
theorem dX0_init_17 : decode cX0_init 17 = .ok (.putfield 15, 3) := by decide +kernel
theorem dX0_init_20 : decode cX0_init 20 = .ok (.aload_n 0, 1) := by decide +kernel
theorem dX0_init_21 : decode cX0_init 21 = .ok (.bipush 88, 2) := by decide +kernel
theorem dX0_init_23 : decode cX0_init 23 = .ok (.newarray .int, 2) := by decide +kernel
theorem dX0_init_25 : decode cX0_init 25 = .ok (.putfield 18, 3) := by decide +kernel
theorem dX0_init_28 : decode cX0_init 28 = .ok (.aload_n 0, 1) := by decide +kernel
theorem dX0_init_29 : decode cX0_init 29 = .ok (.bipush 88, 2) := by decide +kernel
theorem dX0_init_31 : decode cX0_init 31 = .ok (.newarray .int, 2) := by decide +kernel
theorem dX0_init_33 : decode cX0_init 33 = .ok (.putfield 21, 3) := by decide +kernel
theorem dX0_init_36 : decode cX0_init 36 = .ok (.aload_n 0, 1) := by decide +kernel
theorem dX0_init_37 : decode cX0_init 37 = .ok (.aload_n 1, 1) := by decide +kernel
theorem dX0_init_38 : decode cX0_init 38 = .ok (.putfield 24, 3) := by decide +kernel
theorem dX0_init_41 : decode cX0_init 41 = .ok (.aload_n 0, 1) := by decide +kernel
theorem dX0_init_42 : decode cX0_init 42 = .ok (.aload_n 2, 1) := by decide +kernel
theorem dX0_init_43 : decode cX0_init 43 = .ok (.putfield 28, 3) := by decide +kernel
theorem dX0_init_46 : decode cX0_init 46 = .ok (.return_, 1) := by decide +kernel
theorem dX4_init_0 : decode cX4_init 0 = .ok (.aload_n 0, 1) := by decide +kernel
theorem dX4_init_1 : decode cX4_init 1 = .ok (.invokespecial 1, 3) := by decide +kernel
theorem dX4_init_4 : decode cX4_init 4 = .ok (.aload_n 0, 1) := by decide +kernel
theorem dX4_init_5 : decode cX4_init 5 = .ok (.aload_n 1, 1) := by decide +kernel
theorem dX4_init_6 : decode cX4_init 6 = .ok (.putfield 7, 3) := by decide +kernel
theorem dX4_init_9 : decode cX4_init 9 = .ok (.aload_n 0, 1) := by decide +kernel
theorem dX4_init_10 : decode cX4_init 10 = .ok (.aload_n 2, 1) := by decide +kernel
theorem dX4_init_11 : decode cX4_init 11 = .ok (.putfield 13, 3) := by decide +kernel
theorem dX4_init_14 : decode cX4_init 14 = .ok (.return_, 1) := by decide +kernel
theorem dX1_init_0 : decode cX1_init 0 = .ok (.aload_n 0, 1) := by decide +kernel
theorem dX1_init_1 : decode cX1_init 1 = .ok (.invokespecial 3, 3) := by decide +kernel
theorem dX1_init_4 : decode cX1_init 4 = .ok (.aload_n 0, 1) := by decide +kernel
theorem dX1_init_5 : decode cX1_init 5 = .ok (.sipush 256, 3) := by decide +kernel
theorem dX1_init_8 : decode cX1_init 8 = .ok (.newarray .boolean, 2) := by decide +kernel
theorem dX1_init_10 : decode cX1_init 10 = .ok (.putfield 9, 3) := by decide +kernel
theorem dX1_init_13 : decode cX1_init 13 = .ok (.aload_n 0, 1) := by decide +kernel
theorem dX1_init_14 : decode cX1_init 14 = .ok (.aload_n 1, 1) := by decide +kernel
theorem dX1_init_15 : decode cX1_init 15 = .ok (.putfield 15, 3) := by decide +kernel
theorem dX1_init_18 : decode cX1_init 18 = .ok (.aload_n 0, 1) := by decide +kernel
theorem dX1_init_19 : decode cX1_init 19 = .ok (.aload_n 2, 1) := by decide +kernel
theorem dX1_init_20 : decode cX1_init 20 = .ok (.putfield 19, 3) := by decide +kernel
theorem dX1_init_23 : decode cX1_init 23 = .ok (.return_, 1) := by decide +kernel
theorem dX10_init_0 : decode cX10_init 0 = .ok (.aload_n 0, 1) := by decide +kernel
theorem dX10_init_1 : decode cX10_init 1 = .ok (.invokespecial 3, 3) := by decide +kernel
theorem dX10_init_4 : decode cX10_init 4 = .ok (.aload_n 0, 1) := by decide +kernel
theorem dX10_init_5 : decode cX10_init 5 = .ok (.bipush 20, 2) := by decide +kernel
theorem dX10_init_7 : decode cX10_init 7 = .ok (.newarray .int, 2) := by decide +kernel
theorem dX10_init_9 : decode cX10_init 9 = .ok (.putfield 11, 3) := by decide +kernel
theorem dX10_init_12 : decode cX10_init 12 = .ok (.aload_n 0, 1) := by decide +kernel
theorem dX10_init_13 : decode cX10_init 13 = .ok (.bipush 20, 2) := by decide +kernel
theorem dX10_init_15 : decode cX10_init 15 = .ok (.newarray .int, 2) := by decide +kernel
theorem dX10_init_17 : decode cX10_init 17 = .ok (.putfield 15, 3) := by decide +kernel
theorem dX10_init_20 : decode cX10_init 20 = .ok (.aload_n 0, 1) := by decide +kernel
theorem dX10_init_21 : decode cX10_init 21 = .ok (.bipush 20, 2) := by decide +kernel
theorem dX10_init_23 : decode cX10_init 23 = .ok (.newarray .boolean, 2) := by decide +kernel
theorem dX10_init_25 : decode cX10_init 25 = .ok (.putfield 18, 3) := by decide +kernel
theorem dX10_init_28 : decode cX10_init 28 = .ok (.aload_n 0, 1) := by decide +kernel
theorem dX10_init_29 : decode cX10_init 29 = .ok (.bipush 10, 2) := by decide +kernel
theorem dX10_init_31 : decode cX10_init 31 = .ok (.newarray .int, 2) := by decide +kernel
theorem dX10_init_33 : decode cX10_init 33 = .ok (.putfield 22, 3) := by decide +kernel
theorem dX10_init_36 : decode cX10_init 36 = .ok (.aload_n 0, 1) := by decide +kernel
theorem dX10_init_37 : decode cX10_init 37 = .ok (.aload_n 1, 1) := by decide +kernel
theorem dX10_init_38 : decode cX10_init 38 = .ok (.putfield 25, 3) := by decide +kernel
theorem dX10_init_41 : decode cX10_init 41 = .ok (.aload_n 0, 1) := by decide +kernel
theorem dX10_init_42 : decode cX10_init 42 = .ok (.aload_n 2, 1) := by decide +kernel
theorem dX10_init_43 : decode cX10_init 43 = .ok (.putfield 29, 3) := by decide +kernel
theorem dX10_init_46 : decode cX10_init 46 = .ok (.return_, 1) := by decide +kernel
theorem fq_X0_9 : fq RX0 9 0 2 (.array .int) := ⟨TX0, 9, tyX0, rfl, iw_X0, by decide, lg_at 287 (by decide +kernel) (by decide +kernel), rfl, tyX0_ok, nmX0, rfl, by decide +kernel⟩
theorem fq_X0_15 : fq RX0 15 0 3 (.array .int) := ⟨TX0, 9, tyX0, rfl, iw_X0, by decide, lg_at 288 (by decide +kernel) (by decide +kernel), rfl, tyX0_ok, nmX0, rfl, by decide +kernel⟩
theorem fq_X0_18 : fq RX0 18 0 4 (.array .int) := ⟨TX0, 9, tyX0, rfl, iw_X0, by decide, lg_at 289 (by decide +kernel) (by decide +kernel), rfl, tyX0_ok, nmX0, rfl, by decide +kernel⟩
theorem fq_X0_21 : fq RX0 21 0 5 (.array .int) := ⟨TX0, 9, tyX0, rfl, iw_X0, by decide, lg_at 290 (by decide +kernel) (by decide +kernel), rfl, tyX0_ok, nmX0, rfl, by decide +kernel⟩
theorem fq_X0_24 : fq RX0 24 0 0 (.object "CoughParts$Text") := ⟨TX0, 9, tyX0, rfl, iw_X0, by decide, lg_at 285 (by decide +kernel) (by decide +kernel), rfl, tyX0_ok, nmX0, rfl, by decide +kernel⟩
theorem fq_X0_28 : fq RX0 28 0 1 (.object "CoughParts$Laws") := ⟨TX0, 9, tyX0, rfl, iw_X0, by decide, lg_at 286 (by decide +kernel) (by decide +kernel), rfl, tyX0_ok, nmX0, rfl, by decide +kernel⟩
theorem fq_X1_9 : fq RX1 9 1 2 (.array .boolean) := ⟨TX1, 3, tyX1, rfl, iw_X1, by decide, lg_at 339 (by decide +kernel) (by decide +kernel), rfl, tyX1_ok, nmX1, rfl, by decide +kernel⟩
theorem fq_X1_15 : fq RX1 15 1 0 (.object "CoughParts$Text") := ⟨TX1, 3, tyX1, rfl, iw_X1, by decide, lg_at 337 (by decide +kernel) (by decide +kernel), rfl, tyX1_ok, nmX1, rfl, by decide +kernel⟩
theorem fq_X1_19 : fq RX1 19 1 1 (.object "CoughParts$Chances") := ⟨TX1, 3, tyX1, rfl, iw_X1, by decide, lg_at 338 (by decide +kernel) (by decide +kernel), rfl, tyX1_ok, nmX1, rfl, by decide +kernel⟩
theorem fq_X2_13 : fq RX2 13 2 1 (.array .int) := ⟨TX2, 3, tyX2, rfl, iw_X2, by decide, lg_at 270 (by decide +kernel) (by decide +kernel), rfl, tyX2_ok, nmX2, rfl, by decide +kernel⟩
theorem fq_X2_17 : fq RX2 17 2 2 (.array .int) := ⟨TX2, 3, tyX2, rfl, iw_X2, by decide, lg_at 271 (by decide +kernel) (by decide +kernel), rfl, tyX2_ok, nmX2, rfl, by decide +kernel⟩
theorem fq_X2_20 : fq RX2 20 2 0 (.object "CoughParts$Text") := ⟨TX2, 3, tyX2, rfl, iw_X2, by decide, lg_at 269 (by decide +kernel) (by decide +kernel), rfl, tyX2_ok, nmX2, rfl, by decide +kernel⟩
theorem fq_X3_11 : fq RX3 11 3 0 (.array .int) := ⟨TX3, 5, tyX3, rfl, iw_X3, by decide, lg_at 245 (by decide +kernel) (by decide +kernel), rfl, tyX3_ok, nmX3, rfl, by decide +kernel⟩
theorem fq_X3_15 : fq RX3 15 3 1 (.array .int) := ⟨TX3, 5, tyX3, rfl, iw_X3, by decide, lg_at 246 (by decide +kernel) (by decide +kernel), rfl, tyX3_ok, nmX3, rfl, by decide +kernel⟩
theorem fq_X3_18 : fq RX3 18 3 2 (.array .boolean) := ⟨TX3, 5, tyX3, rfl, iw_X3, by decide, lg_at 247 (by decide +kernel) (by decide +kernel), rfl, tyX3_ok, nmX3, rfl, by decide +kernel⟩
theorem fq_X4_7 : fq RX4 7 4 0 (.object "CoughParts$Text") := ⟨TX4, 2, tyX4, rfl, iw_X4, by decide, lg_at 324 (by decide +kernel) (by decide +kernel), rfl, tyX4_ok, nmX4, rfl, by decide +kernel⟩
theorem fq_X4_13 : fq RX4 13 4 1 (.object "CoughParts$Laws") := ⟨TX4, 2, tyX4, rfl, iw_X4, by decide, lg_at 325 (by decide +kernel) (by decide +kernel), rfl, tyX4_ok, nmX4, rfl, by decide +kernel⟩
theorem fq_X5_14 : fq RX5 14 5 0 (.object "CoughParts$Text") := ⟨TX5, 14, tyX5, rfl, iw_X5, by decide, lg_at 178 (by decide +kernel) (by decide +kernel), rfl, tyX5_ok, nmX5, rfl, by decide +kernel⟩
theorem fq_X5_22 : fq RX5 22 5 3 (.array .long) := ⟨TX5, 14, tyX5, rfl, iw_X5, by decide, lg_at 183 (by decide +kernel) (by decide +kernel), rfl, tyX5_ok, nmX5, rfl, by decide +kernel⟩
theorem fq_X5_26 : fq RX5 26 5 4 (.array .int) := ⟨TX5, 14, tyX5, rfl, iw_X5, by decide, lg_at 184 (by decide +kernel) (by decide +kernel), rfl, tyX5_ok, nmX5, rfl, by decide +kernel⟩
theorem fq_X5_35 : fq RX5 35 5 2 (.object "CoughParts$Scanner") := ⟨TX5, 14, tyX5, rfl, iw_X5, by decide, lg_at 182 (by decide +kernel) (by decide +kernel), rfl, tyX5_ok, nmX5, rfl, by decide +kernel⟩
theorem fq_X10_11 : fq RX10 11 10 2 (.array .int) := ⟨TX10, 11, tyX10, rfl, iw_X10, by decide, lg_at 355 (by decide +kernel) (by decide +kernel), rfl, tyX10_ok, nmX10, rfl, by decide +kernel⟩
theorem fq_X10_15 : fq RX10 15 10 3 (.array .int) := ⟨TX10, 11, tyX10, rfl, iw_X10, by decide, lg_at 356 (by decide +kernel) (by decide +kernel), rfl, tyX10_ok, nmX10, rfl, by decide +kernel⟩
theorem fq_X10_18 : fq RX10 18 10 4 (.array .boolean) := ⟨TX10, 11, tyX10, rfl, iw_X10, by decide, lg_at 357 (by decide +kernel) (by decide +kernel), rfl, tyX10_ok, nmX10, rfl, by decide +kernel⟩
theorem fq_X10_22 : fq RX10 22 10 5 (.array .int) := ⟨TX10, 11, tyX10, rfl, iw_X10, by decide, lg_at 358 (by decide +kernel) (by decide +kernel), rfl, tyX10_ok, nmX10, rfl, by decide +kernel⟩
theorem fq_X10_25 : fq RX10 25 10 0 (.object "CoughParts$Text") := ⟨TX10, 11, tyX10, rfl, iw_X10, by decide, lg_at 353 (by decide +kernel) (by decide +kernel), rfl, tyX10_ok, nmX10, rfl, by decide +kernel⟩
theorem fq_X10_29 : fq RX10 29 10 1 (.object "CoughParts$Chances") := ⟨TX10, 11, tyX10, rfl, iw_X10, by decide, lg_at 354 (by decide +kernel) (by decide +kernel), rfl, tyX10_ok, nmX10, rfl, by decide +kernel⟩
theorem nw_X5_11 : nw RX5 11 9 [.int 0, .int 0, .int 0, .int 0, .int 0, .int 0, .null, .null, .null, .null, .null, .null, .null] := ⟨RX9, TX9, tyX9, rfl, iw_X9, tyX9_ok, lg_at 53 (by decide +kernel) (by decide +kernel), lg_at 54 (by decide +kernel) (by decide +kernel), lg_at 4 (by decide +kernel) (by decide +kernel), fun j hj => match j, hj with | 0, _ => rfl | 1, _ => rfl | 2, _ => rfl | 3, _ => rfl | 4, _ => rfl | 5, _ => rfl | 6, _ => rfl | 7, _ => rfl | 8, _ => rfl | 9, _ => rfl | 10, _ => rfl | 11, _ => rfl | 12, _ => rfl | n + 13, h => absurd h (by simp)⟩
theorem nw_X5_30 : nw RX5 30 6 [.null, .null, .null, .null, .int 0, .long 0] := ⟨RX6, TX6, tyX6, rfl, iw_X6, tyX6_ok, lg_at 149 (by decide +kernel) (by decide +kernel), lg_at 150 (by decide +kernel) (by decide +kernel), lg_at 6 (by decide +kernel) (by decide +kernel), fun j hj => match j, hj with | 0, _ => rfl | 1, _ => rfl | 2, _ => rfl | 3, _ => rfl | 4, _ => rfl | 5, _ => rfl | n + 6, h => absurd h (by simp)⟩
theorem cI_X5_13 : cI RX5 13 yX9_init cX9_init 1 0 := ⟨Or.inl (lg_at 55 (by decide +kernel) (by decide +kernel)), ⟨lg_at 56 (by decide +kernel) (by decide +kernel), lg_at 4 (by decide +kernel) (by decide +kernel), lg_at 57 (by decide +kernel) (by decide +kernel), rfl⟩, by decide +kernel, by decide +kernel, by decide +kernel⟩
theorem cI_X5_32 : cI RX5 32 yX6_init cX6_init 2 1 := ⟨Or.inl (lg_at 151 (by decide +kernel) (by decide +kernel)), ⟨lg_at 152 (by decide +kernel) (by decide +kernel), lg_at 6 (by decide +kernel) (by decide +kernel), lg_at 153 (by decide +kernel) (by decide +kernel), rfl⟩, by decide +kernel, by decide +kernel, by decide +kernel⟩
theorem ko_X0 : Cond.methodLink RX0 3 Lib.objectInit ∈ lg_tbl := lg_at 284 (by decide +kernel) (by decide +kernel)
theorem ko_X1 : Cond.methodLink RX1 3 Lib.objectInit ∈ lg_tbl := lg_at 336 (by decide +kernel) (by decide +kernel)
theorem ko_X2 : Cond.methodLink RX2 5 Lib.objectInit ∈ lg_tbl := lg_at 268 (by decide +kernel) (by decide +kernel)
theorem ko_X3 : Cond.methodLink RX3 1 Lib.objectInit ∈ lg_tbl := lg_at 244 (by decide +kernel) (by decide +kernel)
theorem ko_X4 : Cond.methodLink RX4 1 Lib.objectInit ∈ lg_tbl := lg_at 323 (by decide +kernel) (by decide +kernel)
theorem ko_X5 : Cond.methodLink RX5 5 Lib.objectInit ∈ lg_tbl := lg_at 52 (by decide +kernel) (by decide +kernel)
theorem ko_X10 : Cond.methodLink RX10 3 Lib.objectInit ∈ lg_tbl := lg_at 352 (by decide +kernel) (by decide +kernel)
set_option maxHeartbeats 4000000 in
set_option maxRecDepth 100000 in
theorem nX5 (l : Launch) (D : va_G) (κ : KC) (ad : Nat → Nat) (h0 sz : Nat) (a1 : Nat) : MtC l D κ ad yX5_init cX5_init 2 ({ frames := 4, cells := 14, slots := 2096, locals := 85 } : Room) [.ref h0, .ref a1] [(h0, .inr (5, [.null, .int 0, .null, .null, .null, .int 0, .int 0, .int 0, .int 0, .long 0, .int 0, .int 0, .int 0, .int 0]))] sz 14 2096 (fun w => ∃ q5 q7_9 q14_9 q21_9 q29_9 q36_9 q45_9 q54_9 q22 q30 q36 q8_41 q17_41 q26_41 : Nat, w = [(h0, .inr (5, [.ref q5, .int (-1), .ref q36, .ref q22, .ref q30, .int 0, .int 0, .int 0, .int 0, .long 0, .int 0, .int 0, .int 0, .int 0])), (q5, .inr (9, [.int (σT.1 0 0), .int (σT.1 0 1), .int (σT.1 0 2), .int (σT.1 0 3), .int (σT.1 0 4), .int (σT.1 0 5), .ref q7_9, .ref q14_9, .ref q21_9, .ref q29_9, .ref q36_9, .ref q45_9, .ref q54_9])), (q7_9, .inl (κ.1, 10, .inl (σT.1 1))), (q14_9, .inl (κ.1, 5, .inl (σT.1 2))), (q21_9, .inl (κ.1, 5, .inl (σT.1 3))), (q29_9, .inl (κ.1, 8, .inl (σT.1 4))), (q36_9, .inl (κ.1, 4, .inl (σT.1 5))), (q45_9, .inl (κ.1, 408, .inl (σT.1 6))), (q54_9, .inl (κ.1, 408, .inl (σT.1 7))), (q22, .inl (κ.2.2.2, 5, .inr (.inl (fun _ => 0)))), (q30, .inl (κ.1, 21, .inl (fun _ => 0))), (q36, .inr (6, [.ref q8_41, .ref q17_41, .ref q26_41, .ref a1, .int 0, .long 0])), (q8_41, .inl (κ.1, 401, .inl (fun _ => 0))), (q17_41, .inl (κ.1, 401, .inl (fun _ => 0))), (q26_41, .inl (κ.2.2.2, 401, .inr (.inl (fun _ => 0))))]) := by
  refine openC (by decide) rfl (Nat.le_of_ble_eq_true rfl) (la := [(0, .ref h0), (1, .ref a1)]) rfl ?_
  intro p e s m below meth c ls A C hP hD hS hsz hAe hl
  replace C : Cn D κ ad p s m _ meth c cX5_init RX5 2 A := C
  have hx := C.1
  have hb := C.2.1
  refine lv_aload_n hx hb dX5_init_0 rfl (lv_at hl 0 rfl) ?_
  refine n_obj C hl.1 ko_X5 ko_i ko_c dX5_init_1 (Nat.le_of_ble_eq_true rfl) (Nat.le_of_ble_eq_true rfl) ?_
  refine lv_aload_n hx hb dX5_init_4 rfl (lv_at hl 0 rfl) ?_
  refine n_new C hP hD hS nw_X5_11 (Nat.le_of_ble_eq_true rfl) (Nat.le_of_ble_eq_true rfl) dX5_init_5 (fun q5 H hP hD hS => ?_)
  replace hP : va_P D classes [(h0, .inr (5, [.null, .int 0, .null, .null, .null, .int 0, .int 0, .int 0, .int 0, .long 0, .int 0, .int 0, .int 0, .int 0])), (q5, .inr (9, [.int 0, .int 0, .int 0, .int 0, .int 0, .int 0, .null, .null, .null, .null, .null, .null, .null]))] H := hP
  replace hD : va_D A [(h0, .inr (5, [.null, .int 0, .null, .null, .null, .int 0, .int 0, .int 0, .int 0, .long 0, .int 0, .int 0, .int 0, .int 0])), (q5, .inr (9, [.int 0, .int 0, .int 0, .int 0, .int 0, .int 0, .null, .null, .null, .null, .null, .null, .null]))] := hD
  refine W.cs (cells' := 1) (slots' := 13) rfl rfl ?_
  refine lv_dup hx hb dX5_init_8 rfl ?_
  refine n_callI (rest := [.ref q5, .ref h0]) (wr := [(h0, .inr (5, [.null, .int 0, .null, .null, .null, .int 0, .int 0, .int 0, .int 0, .long 0, .int 0, .int 0, .int 0, .int 0]))]) C hP hD hS hl.1 cI_X5_13 [1] [0] rfl rfl (by decide) (by decide) (by decide) (nX9 l D κ ad q5 _) ⟨rfl, rfl⟩ ⟨(Nat.le_of_ble_eq_true rfl), (Nat.le_of_ble_eq_true rfl)⟩ rfl rfl (Nat.le_of_ble_eq_true rfl) dX5_init_9 ⟨(Nat.le_of_ble_eq_true rfl), (Nat.le_of_ble_eq_true rfl)⟩ (fun w H locs hw hP hD hS => ?_)
  obtain ⟨q7_9, q14_9, q21_9, q29_9, q36_9, q45_9, q54_9, rfl⟩ := hw
  replace hP : va_P D classes [(h0, .inr (5, [.null, .int 0, .null, .null, .null, .int 0, .int 0, .int 0, .int 0, .long 0, .int 0, .int 0, .int 0, .int 0])), (q5, .inr (9, [.int (σT.1 0 0), .int (σT.1 0 1), .int (σT.1 0 2), .int (σT.1 0 3), .int (σT.1 0 4), .int (σT.1 0 5), .ref q7_9, .ref q14_9, .ref q21_9, .ref q29_9, .ref q36_9, .ref q45_9, .ref q54_9])), (q7_9, .inl (κ.1, 10, .inl (σT.1 1))), (q14_9, .inl (κ.1, 5, .inl (σT.1 2))), (q21_9, .inl (κ.1, 5, .inl (σT.1 3))), (q29_9, .inl (κ.1, 8, .inl (σT.1 4))), (q36_9, .inl (κ.1, 4, .inl (σT.1 5))), (q45_9, .inl (κ.1, 408, .inl (σT.1 6))), (q54_9, .inl (κ.1, 408, .inl (σT.1 7)))] H := hP
  replace hD : va_D A [(h0, .inr (5, [.null, .int 0, .null, .null, .null, .int 0, .int 0, .int 0, .int 0, .long 0, .int 0, .int 0, .int 0, .int 0])), (q5, .inr (9, [.int (σT.1 0 0), .int (σT.1 0 1), .int (σT.1 0 2), .int (σT.1 0 3), .int (σT.1 0 4), .int (σT.1 0 5), .ref q7_9, .ref q14_9, .ref q21_9, .ref q29_9, .ref q36_9, .ref q45_9, .ref q54_9])), (q7_9, .inl (κ.1, 10, .inl (σT.1 1))), (q14_9, .inl (κ.1, 5, .inl (σT.1 2))), (q21_9, .inl (κ.1, 5, .inl (σT.1 3))), (q29_9, .inl (κ.1, 8, .inl (σT.1 4))), (q36_9, .inl (κ.1, 4, .inl (σT.1 5))), (q45_9, .inl (κ.1, 408, .inl (σT.1 6))), (q54_9, .inl (κ.1, 408, .inl (σT.1 7)))] := hD
  refine W.cs (cells' := 8) (slots' := 861) rfl rfl ?_
  refine n_putR C (by decide) hP hD hS 0 rfl fq_X5_14 rfl rfl (Nat.le_of_ble_eq_true rfl) dX5_init_12 (fun H locs hP hD hS => ?_)
  replace hP : va_P D classes [(h0, .inr (5, [.ref q5, .int 0, .null, .null, .null, .int 0, .int 0, .int 0, .int 0, .long 0, .int 0, .int 0, .int 0, .int 0])), (q5, .inr (9, [.int (σT.1 0 0), .int (σT.1 0 1), .int (σT.1 0 2), .int (σT.1 0 3), .int (σT.1 0 4), .int (σT.1 0 5), .ref q7_9, .ref q14_9, .ref q21_9, .ref q29_9, .ref q36_9, .ref q45_9, .ref q54_9])), (q7_9, .inl (κ.1, 10, .inl (σT.1 1))), (q14_9, .inl (κ.1, 5, .inl (σT.1 2))), (q21_9, .inl (κ.1, 5, .inl (σT.1 3))), (q29_9, .inl (κ.1, 8, .inl (σT.1 4))), (q36_9, .inl (κ.1, 4, .inl (σT.1 5))), (q45_9, .inl (κ.1, 408, .inl (σT.1 6))), (q54_9, .inl (κ.1, 408, .inl (σT.1 7)))] H := hP
  replace hD : va_D A [(h0, .inr (5, [.ref q5, .int 0, .null, .null, .null, .int 0, .int 0, .int 0, .int 0, .long 0, .int 0, .int 0, .int 0, .int 0])), (q5, .inr (9, [.int (σT.1 0 0), .int (σT.1 0 1), .int (σT.1 0 2), .int (σT.1 0 3), .int (σT.1 0 4), .int (σT.1 0 5), .ref q7_9, .ref q14_9, .ref q21_9, .ref q29_9, .ref q36_9, .ref q45_9, .ref q54_9])), (q7_9, .inl (κ.1, 10, .inl (σT.1 1))), (q14_9, .inl (κ.1, 5, .inl (σT.1 2))), (q21_9, .inl (κ.1, 5, .inl (σT.1 3))), (q29_9, .inl (κ.1, 8, .inl (σT.1 4))), (q36_9, .inl (κ.1, 4, .inl (σT.1 5))), (q45_9, .inl (κ.1, 408, .inl (σT.1 6))), (q54_9, .inl (κ.1, 408, .inl (σT.1 7)))] := hD
  refine lv_aload_n hx hb dX5_init_15 rfl (lv_at hl 0 rfl) ?_
  refine lv_iconst (v := (-1)) hx hb dX5_init_16 (by decide) ?_
  refine n_putI C hP hD hS 0 rfl fp_X5_18 (Nat.le_of_ble_eq_true rfl) dX5_init_17 (fun H locs hP hD hS => ?_)
  replace hP : va_P D classes [(h0, .inr (5, [.ref q5, .int (-1), .null, .null, .null, .int 0, .int 0, .int 0, .int 0, .long 0, .int 0, .int 0, .int 0, .int 0])), (q5, .inr (9, [.int (σT.1 0 0), .int (σT.1 0 1), .int (σT.1 0 2), .int (σT.1 0 3), .int (σT.1 0 4), .int (σT.1 0 5), .ref q7_9, .ref q14_9, .ref q21_9, .ref q29_9, .ref q36_9, .ref q45_9, .ref q54_9])), (q7_9, .inl (κ.1, 10, .inl (σT.1 1))), (q14_9, .inl (κ.1, 5, .inl (σT.1 2))), (q21_9, .inl (κ.1, 5, .inl (σT.1 3))), (q29_9, .inl (κ.1, 8, .inl (σT.1 4))), (q36_9, .inl (κ.1, 4, .inl (σT.1 5))), (q45_9, .inl (κ.1, 408, .inl (σT.1 6))), (q54_9, .inl (κ.1, 408, .inl (σT.1 7)))] H := hP
  replace hD : va_D A [(h0, .inr (5, [.ref q5, .int (-1), .null, .null, .null, .int 0, .int 0, .int 0, .int 0, .long 0, .int 0, .int 0, .int 0, .int 0])), (q5, .inr (9, [.int (σT.1 0 0), .int (σT.1 0 1), .int (σT.1 0 2), .int (σT.1 0 3), .int (σT.1 0 4), .int (σT.1 0 5), .ref q7_9, .ref q14_9, .ref q21_9, .ref q29_9, .ref q36_9, .ref q45_9, .ref q54_9])), (q7_9, .inl (κ.1, 10, .inl (σT.1 1))), (q14_9, .inl (κ.1, 5, .inl (σT.1 2))), (q21_9, .inl (κ.1, 5, .inl (σT.1 3))), (q29_9, .inl (κ.1, 8, .inl (σT.1 4))), (q36_9, .inl (κ.1, 4, .inl (σT.1 5))), (q45_9, .inl (κ.1, 408, .inl (σT.1 6))), (q54_9, .inl (κ.1, 408, .inl (σT.1 7)))] := hD
  refine lv_aload_n hx hb dX5_init_20 rfl (lv_at hl 0 rfl) ?_
  refine lv_iconst (v := 5) hx hb dX5_init_21 (by decide) ?_
  refine n_newJ C ka_J hP hD hS (N := 5) (by decide) (by decide) (by decide) (Nat.le_of_ble_eq_true rfl) (Nat.le_of_ble_eq_true rfl) dX5_init_22 (fun q22 H hP hD hS => ?_)
  replace hP : va_P D classes [(h0, .inr (5, [.ref q5, .int (-1), .null, .null, .null, .int 0, .int 0, .int 0, .int 0, .long 0, .int 0, .int 0, .int 0, .int 0])), (q5, .inr (9, [.int (σT.1 0 0), .int (σT.1 0 1), .int (σT.1 0 2), .int (σT.1 0 3), .int (σT.1 0 4), .int (σT.1 0 5), .ref q7_9, .ref q14_9, .ref q21_9, .ref q29_9, .ref q36_9, .ref q45_9, .ref q54_9])), (q7_9, .inl (κ.1, 10, .inl (σT.1 1))), (q14_9, .inl (κ.1, 5, .inl (σT.1 2))), (q21_9, .inl (κ.1, 5, .inl (σT.1 3))), (q29_9, .inl (κ.1, 8, .inl (σT.1 4))), (q36_9, .inl (κ.1, 4, .inl (σT.1 5))), (q45_9, .inl (κ.1, 408, .inl (σT.1 6))), (q54_9, .inl (κ.1, 408, .inl (σT.1 7))), (q22, .inl (κ.2.2.2, 5, .inr (.inl (fun _ => 0))))] H := hP
  replace hD : va_D A [(h0, .inr (5, [.ref q5, .int (-1), .null, .null, .null, .int 0, .int 0, .int 0, .int 0, .long 0, .int 0, .int 0, .int 0, .int 0])), (q5, .inr (9, [.int (σT.1 0 0), .int (σT.1 0 1), .int (σT.1 0 2), .int (σT.1 0 3), .int (σT.1 0 4), .int (σT.1 0 5), .ref q7_9, .ref q14_9, .ref q21_9, .ref q29_9, .ref q36_9, .ref q45_9, .ref q54_9])), (q7_9, .inl (κ.1, 10, .inl (σT.1 1))), (q14_9, .inl (κ.1, 5, .inl (σT.1 2))), (q21_9, .inl (κ.1, 5, .inl (σT.1 3))), (q29_9, .inl (κ.1, 8, .inl (σT.1 4))), (q36_9, .inl (κ.1, 4, .inl (σT.1 5))), (q45_9, .inl (κ.1, 408, .inl (σT.1 6))), (q54_9, .inl (κ.1, 408, .inl (σT.1 7))), (q22, .inl (κ.2.2.2, 5, .inr (.inl (fun _ => 0))))] := hD
  refine W.cs (cells' := 9) (slots' := 866) rfl rfl ?_
  refine n_putR C (by decide) hP hD hS 0 rfl fq_X5_22 rfl rfl (Nat.le_of_ble_eq_true rfl) dX5_init_24 (fun H locs hP hD hS => ?_)
  replace hP : va_P D classes [(h0, .inr (5, [.ref q5, .int (-1), .null, .ref q22, .null, .int 0, .int 0, .int 0, .int 0, .long 0, .int 0, .int 0, .int 0, .int 0])), (q5, .inr (9, [.int (σT.1 0 0), .int (σT.1 0 1), .int (σT.1 0 2), .int (σT.1 0 3), .int (σT.1 0 4), .int (σT.1 0 5), .ref q7_9, .ref q14_9, .ref q21_9, .ref q29_9, .ref q36_9, .ref q45_9, .ref q54_9])), (q7_9, .inl (κ.1, 10, .inl (σT.1 1))), (q14_9, .inl (κ.1, 5, .inl (σT.1 2))), (q21_9, .inl (κ.1, 5, .inl (σT.1 3))), (q29_9, .inl (κ.1, 8, .inl (σT.1 4))), (q36_9, .inl (κ.1, 4, .inl (σT.1 5))), (q45_9, .inl (κ.1, 408, .inl (σT.1 6))), (q54_9, .inl (κ.1, 408, .inl (σT.1 7))), (q22, .inl (κ.2.2.2, 5, .inr (.inl (fun _ => 0))))] H := hP
  replace hD : va_D A [(h0, .inr (5, [.ref q5, .int (-1), .null, .ref q22, .null, .int 0, .int 0, .int 0, .int 0, .long 0, .int 0, .int 0, .int 0, .int 0])), (q5, .inr (9, [.int (σT.1 0 0), .int (σT.1 0 1), .int (σT.1 0 2), .int (σT.1 0 3), .int (σT.1 0 4), .int (σT.1 0 5), .ref q7_9, .ref q14_9, .ref q21_9, .ref q29_9, .ref q36_9, .ref q45_9, .ref q54_9])), (q7_9, .inl (κ.1, 10, .inl (σT.1 1))), (q14_9, .inl (κ.1, 5, .inl (σT.1 2))), (q21_9, .inl (κ.1, 5, .inl (σT.1 3))), (q29_9, .inl (κ.1, 8, .inl (σT.1 4))), (q36_9, .inl (κ.1, 4, .inl (σT.1 5))), (q45_9, .inl (κ.1, 408, .inl (σT.1 6))), (q54_9, .inl (κ.1, 408, .inl (σT.1 7))), (q22, .inl (κ.2.2.2, 5, .inr (.inl (fun _ => 0))))] := hD
  refine lv_aload_n hx hb dX5_init_27 rfl (lv_at hl 0 rfl) ?_
  refine lv_bipush (v := 21) hx hb dX5_init_28 (by decide) ?_
  refine n_newI C ka_I hP hD hS (N := 21) (by decide) (by decide) (by decide) (Nat.le_of_ble_eq_true rfl) (Nat.le_of_ble_eq_true rfl) dX5_init_30 (fun q30 H hP hD hS => ?_)
  replace hP : va_P D classes [(h0, .inr (5, [.ref q5, .int (-1), .null, .ref q22, .null, .int 0, .int 0, .int 0, .int 0, .long 0, .int 0, .int 0, .int 0, .int 0])), (q5, .inr (9, [.int (σT.1 0 0), .int (σT.1 0 1), .int (σT.1 0 2), .int (σT.1 0 3), .int (σT.1 0 4), .int (σT.1 0 5), .ref q7_9, .ref q14_9, .ref q21_9, .ref q29_9, .ref q36_9, .ref q45_9, .ref q54_9])), (q7_9, .inl (κ.1, 10, .inl (σT.1 1))), (q14_9, .inl (κ.1, 5, .inl (σT.1 2))), (q21_9, .inl (κ.1, 5, .inl (σT.1 3))), (q29_9, .inl (κ.1, 8, .inl (σT.1 4))), (q36_9, .inl (κ.1, 4, .inl (σT.1 5))), (q45_9, .inl (κ.1, 408, .inl (σT.1 6))), (q54_9, .inl (κ.1, 408, .inl (σT.1 7))), (q22, .inl (κ.2.2.2, 5, .inr (.inl (fun _ => 0)))), (q30, .inl (κ.1, 21, .inl (fun _ => 0)))] H := hP
  replace hD : va_D A [(h0, .inr (5, [.ref q5, .int (-1), .null, .ref q22, .null, .int 0, .int 0, .int 0, .int 0, .long 0, .int 0, .int 0, .int 0, .int 0])), (q5, .inr (9, [.int (σT.1 0 0), .int (σT.1 0 1), .int (σT.1 0 2), .int (σT.1 0 3), .int (σT.1 0 4), .int (σT.1 0 5), .ref q7_9, .ref q14_9, .ref q21_9, .ref q29_9, .ref q36_9, .ref q45_9, .ref q54_9])), (q7_9, .inl (κ.1, 10, .inl (σT.1 1))), (q14_9, .inl (κ.1, 5, .inl (σT.1 2))), (q21_9, .inl (κ.1, 5, .inl (σT.1 3))), (q29_9, .inl (κ.1, 8, .inl (σT.1 4))), (q36_9, .inl (κ.1, 4, .inl (σT.1 5))), (q45_9, .inl (κ.1, 408, .inl (σT.1 6))), (q54_9, .inl (κ.1, 408, .inl (σT.1 7))), (q22, .inl (κ.2.2.2, 5, .inr (.inl (fun _ => 0)))), (q30, .inl (κ.1, 21, .inl (fun _ => 0)))] := hD
  refine W.cs (cells' := 10) (slots' := 887) rfl rfl ?_
  refine n_putR C (by decide) hP hD hS 0 rfl fq_X5_26 rfl rfl (Nat.le_of_ble_eq_true rfl) dX5_init_32 (fun H locs hP hD hS => ?_)
  replace hP : va_P D classes [(h0, .inr (5, [.ref q5, .int (-1), .null, .ref q22, .ref q30, .int 0, .int 0, .int 0, .int 0, .long 0, .int 0, .int 0, .int 0, .int 0])), (q5, .inr (9, [.int (σT.1 0 0), .int (σT.1 0 1), .int (σT.1 0 2), .int (σT.1 0 3), .int (σT.1 0 4), .int (σT.1 0 5), .ref q7_9, .ref q14_9, .ref q21_9, .ref q29_9, .ref q36_9, .ref q45_9, .ref q54_9])), (q7_9, .inl (κ.1, 10, .inl (σT.1 1))), (q14_9, .inl (κ.1, 5, .inl (σT.1 2))), (q21_9, .inl (κ.1, 5, .inl (σT.1 3))), (q29_9, .inl (κ.1, 8, .inl (σT.1 4))), (q36_9, .inl (κ.1, 4, .inl (σT.1 5))), (q45_9, .inl (κ.1, 408, .inl (σT.1 6))), (q54_9, .inl (κ.1, 408, .inl (σT.1 7))), (q22, .inl (κ.2.2.2, 5, .inr (.inl (fun _ => 0)))), (q30, .inl (κ.1, 21, .inl (fun _ => 0)))] H := hP
  replace hD : va_D A [(h0, .inr (5, [.ref q5, .int (-1), .null, .ref q22, .ref q30, .int 0, .int 0, .int 0, .int 0, .long 0, .int 0, .int 0, .int 0, .int 0])), (q5, .inr (9, [.int (σT.1 0 0), .int (σT.1 0 1), .int (σT.1 0 2), .int (σT.1 0 3), .int (σT.1 0 4), .int (σT.1 0 5), .ref q7_9, .ref q14_9, .ref q21_9, .ref q29_9, .ref q36_9, .ref q45_9, .ref q54_9])), (q7_9, .inl (κ.1, 10, .inl (σT.1 1))), (q14_9, .inl (κ.1, 5, .inl (σT.1 2))), (q21_9, .inl (κ.1, 5, .inl (σT.1 3))), (q29_9, .inl (κ.1, 8, .inl (σT.1 4))), (q36_9, .inl (κ.1, 4, .inl (σT.1 5))), (q45_9, .inl (κ.1, 408, .inl (σT.1 6))), (q54_9, .inl (κ.1, 408, .inl (σT.1 7))), (q22, .inl (κ.2.2.2, 5, .inr (.inl (fun _ => 0)))), (q30, .inl (κ.1, 21, .inl (fun _ => 0)))] := hD
  refine lv_aload_n hx hb dX5_init_35 rfl (lv_at hl 0 rfl) ?_
  refine n_new C hP hD hS nw_X5_30 (Nat.le_of_ble_eq_true rfl) (Nat.le_of_ble_eq_true rfl) dX5_init_36 (fun q36 H hP hD hS => ?_)
  replace hP : va_P D classes [(h0, .inr (5, [.ref q5, .int (-1), .null, .ref q22, .ref q30, .int 0, .int 0, .int 0, .int 0, .long 0, .int 0, .int 0, .int 0, .int 0])), (q5, .inr (9, [.int (σT.1 0 0), .int (σT.1 0 1), .int (σT.1 0 2), .int (σT.1 0 3), .int (σT.1 0 4), .int (σT.1 0 5), .ref q7_9, .ref q14_9, .ref q21_9, .ref q29_9, .ref q36_9, .ref q45_9, .ref q54_9])), (q7_9, .inl (κ.1, 10, .inl (σT.1 1))), (q14_9, .inl (κ.1, 5, .inl (σT.1 2))), (q21_9, .inl (κ.1, 5, .inl (σT.1 3))), (q29_9, .inl (κ.1, 8, .inl (σT.1 4))), (q36_9, .inl (κ.1, 4, .inl (σT.1 5))), (q45_9, .inl (κ.1, 408, .inl (σT.1 6))), (q54_9, .inl (κ.1, 408, .inl (σT.1 7))), (q22, .inl (κ.2.2.2, 5, .inr (.inl (fun _ => 0)))), (q30, .inl (κ.1, 21, .inl (fun _ => 0))), (q36, .inr (6, [.null, .null, .null, .null, .int 0, .long 0]))] H := hP
  replace hD : va_D A [(h0, .inr (5, [.ref q5, .int (-1), .null, .ref q22, .ref q30, .int 0, .int 0, .int 0, .int 0, .long 0, .int 0, .int 0, .int 0, .int 0])), (q5, .inr (9, [.int (σT.1 0 0), .int (σT.1 0 1), .int (σT.1 0 2), .int (σT.1 0 3), .int (σT.1 0 4), .int (σT.1 0 5), .ref q7_9, .ref q14_9, .ref q21_9, .ref q29_9, .ref q36_9, .ref q45_9, .ref q54_9])), (q7_9, .inl (κ.1, 10, .inl (σT.1 1))), (q14_9, .inl (κ.1, 5, .inl (σT.1 2))), (q21_9, .inl (κ.1, 5, .inl (σT.1 3))), (q29_9, .inl (κ.1, 8, .inl (σT.1 4))), (q36_9, .inl (κ.1, 4, .inl (σT.1 5))), (q45_9, .inl (κ.1, 408, .inl (σT.1 6))), (q54_9, .inl (κ.1, 408, .inl (σT.1 7))), (q22, .inl (κ.2.2.2, 5, .inr (.inl (fun _ => 0)))), (q30, .inl (κ.1, 21, .inl (fun _ => 0))), (q36, .inr (6, [.null, .null, .null, .null, .int 0, .long 0]))] := hD
  refine W.cs (cells' := 11) (slots' := 893) rfl rfl ?_
  refine lv_dup hx hb dX5_init_39 rfl ?_
  refine lv_aload_n hx hb dX5_init_40 rfl (lv_at hl 1 rfl) ?_
  refine n_callI (rest := [.ref q36, .ref h0]) (wr := [(h0, .inr (5, [.ref q5, .int (-1), .null, .ref q22, .ref q30, .int 0, .int 0, .int 0, .int 0, .long 0, .int 0, .int 0, .int 0, .int 0])), (q5, .inr (9, [.int (σT.1 0 0), .int (σT.1 0 1), .int (σT.1 0 2), .int (σT.1 0 3), .int (σT.1 0 4), .int (σT.1 0 5), .ref q7_9, .ref q14_9, .ref q21_9, .ref q29_9, .ref q36_9, .ref q45_9, .ref q54_9])), (q7_9, .inl (κ.1, 10, .inl (σT.1 1))), (q14_9, .inl (κ.1, 5, .inl (σT.1 2))), (q21_9, .inl (κ.1, 5, .inl (σT.1 3))), (q29_9, .inl (κ.1, 8, .inl (σT.1 4))), (q36_9, .inl (κ.1, 4, .inl (σT.1 5))), (q45_9, .inl (κ.1, 408, .inl (σT.1 6))), (q54_9, .inl (κ.1, 408, .inl (σT.1 7))), (q22, .inl (κ.2.2.2, 5, .inr (.inl (fun _ => 0)))), (q30, .inl (κ.1, 21, .inl (fun _ => 0)))]) C hP hD hS hl.1 cI_X5_32 [11] [0, 1, 2, 3, 4, 5, 6, 7, 8, 9, 10] rfl rfl (by decide) (by decide) (by decide) (nX6 l D κ ad q36 _ a1) ⟨rfl, rfl⟩ ⟨(Nat.le_of_ble_eq_true rfl), (Nat.le_of_ble_eq_true rfl)⟩ rfl rfl (Nat.le_of_ble_eq_true rfl) dX5_init_41 ⟨(Nat.le_of_ble_eq_true rfl), (Nat.le_of_ble_eq_true rfl)⟩ (fun w H locs hw hP hD hS => ?_)
  obtain ⟨q8_41, q17_41, q26_41, rfl⟩ := hw
  replace hP : va_P D classes [(h0, .inr (5, [.ref q5, .int (-1), .null, .ref q22, .ref q30, .int 0, .int 0, .int 0, .int 0, .long 0, .int 0, .int 0, .int 0, .int 0])), (q5, .inr (9, [.int (σT.1 0 0), .int (σT.1 0 1), .int (σT.1 0 2), .int (σT.1 0 3), .int (σT.1 0 4), .int (σT.1 0 5), .ref q7_9, .ref q14_9, .ref q21_9, .ref q29_9, .ref q36_9, .ref q45_9, .ref q54_9])), (q7_9, .inl (κ.1, 10, .inl (σT.1 1))), (q14_9, .inl (κ.1, 5, .inl (σT.1 2))), (q21_9, .inl (κ.1, 5, .inl (σT.1 3))), (q29_9, .inl (κ.1, 8, .inl (σT.1 4))), (q36_9, .inl (κ.1, 4, .inl (σT.1 5))), (q45_9, .inl (κ.1, 408, .inl (σT.1 6))), (q54_9, .inl (κ.1, 408, .inl (σT.1 7))), (q22, .inl (κ.2.2.2, 5, .inr (.inl (fun _ => 0)))), (q30, .inl (κ.1, 21, .inl (fun _ => 0))), (q36, .inr (6, [.ref q8_41, .ref q17_41, .ref q26_41, .ref a1, .int 0, .long 0])), (q8_41, .inl (κ.1, 401, .inl (fun _ => 0))), (q17_41, .inl (κ.1, 401, .inl (fun _ => 0))), (q26_41, .inl (κ.2.2.2, 401, .inr (.inl (fun _ => 0))))] H := hP
  replace hD : va_D A [(h0, .inr (5, [.ref q5, .int (-1), .null, .ref q22, .ref q30, .int 0, .int 0, .int 0, .int 0, .long 0, .int 0, .int 0, .int 0, .int 0])), (q5, .inr (9, [.int (σT.1 0 0), .int (σT.1 0 1), .int (σT.1 0 2), .int (σT.1 0 3), .int (σT.1 0 4), .int (σT.1 0 5), .ref q7_9, .ref q14_9, .ref q21_9, .ref q29_9, .ref q36_9, .ref q45_9, .ref q54_9])), (q7_9, .inl (κ.1, 10, .inl (σT.1 1))), (q14_9, .inl (κ.1, 5, .inl (σT.1 2))), (q21_9, .inl (κ.1, 5, .inl (σT.1 3))), (q29_9, .inl (κ.1, 8, .inl (σT.1 4))), (q36_9, .inl (κ.1, 4, .inl (σT.1 5))), (q45_9, .inl (κ.1, 408, .inl (σT.1 6))), (q54_9, .inl (κ.1, 408, .inl (σT.1 7))), (q22, .inl (κ.2.2.2, 5, .inr (.inl (fun _ => 0)))), (q30, .inl (κ.1, 21, .inl (fun _ => 0))), (q36, .inr (6, [.ref q8_41, .ref q17_41, .ref q26_41, .ref a1, .int 0, .long 0])), (q8_41, .inl (κ.1, 401, .inl (fun _ => 0))), (q17_41, .inl (κ.1, 401, .inl (fun _ => 0))), (q26_41, .inl (κ.2.2.2, 401, .inr (.inl (fun _ => 0))))] := hD
  refine W.cs (cells' := 14) (slots' := 2096) rfl rfl ?_
  refine n_putR C (by decide) hP hD hS 0 rfl fq_X5_35 rfl rfl (Nat.le_of_ble_eq_true rfl) dX5_init_44 (fun H locs hP hD hS => ?_)
  replace hP : va_P D classes [(h0, .inr (5, [.ref q5, .int (-1), .ref q36, .ref q22, .ref q30, .int 0, .int 0, .int 0, .int 0, .long 0, .int 0, .int 0, .int 0, .int 0])), (q5, .inr (9, [.int (σT.1 0 0), .int (σT.1 0 1), .int (σT.1 0 2), .int (σT.1 0 3), .int (σT.1 0 4), .int (σT.1 0 5), .ref q7_9, .ref q14_9, .ref q21_9, .ref q29_9, .ref q36_9, .ref q45_9, .ref q54_9])), (q7_9, .inl (κ.1, 10, .inl (σT.1 1))), (q14_9, .inl (κ.1, 5, .inl (σT.1 2))), (q21_9, .inl (κ.1, 5, .inl (σT.1 3))), (q29_9, .inl (κ.1, 8, .inl (σT.1 4))), (q36_9, .inl (κ.1, 4, .inl (σT.1 5))), (q45_9, .inl (κ.1, 408, .inl (σT.1 6))), (q54_9, .inl (κ.1, 408, .inl (σT.1 7))), (q22, .inl (κ.2.2.2, 5, .inr (.inl (fun _ => 0)))), (q30, .inl (κ.1, 21, .inl (fun _ => 0))), (q36, .inr (6, [.ref q8_41, .ref q17_41, .ref q26_41, .ref a1, .int 0, .long 0])), (q8_41, .inl (κ.1, 401, .inl (fun _ => 0))), (q17_41, .inl (κ.1, 401, .inl (fun _ => 0))), (q26_41, .inl (κ.2.2.2, 401, .inr (.inl (fun _ => 0))))] H := hP
  replace hD : va_D A [(h0, .inr (5, [.ref q5, .int (-1), .ref q36, .ref q22, .ref q30, .int 0, .int 0, .int 0, .int 0, .long 0, .int 0, .int 0, .int 0, .int 0])), (q5, .inr (9, [.int (σT.1 0 0), .int (σT.1 0 1), .int (σT.1 0 2), .int (σT.1 0 3), .int (σT.1 0 4), .int (σT.1 0 5), .ref q7_9, .ref q14_9, .ref q21_9, .ref q29_9, .ref q36_9, .ref q45_9, .ref q54_9])), (q7_9, .inl (κ.1, 10, .inl (σT.1 1))), (q14_9, .inl (κ.1, 5, .inl (σT.1 2))), (q21_9, .inl (κ.1, 5, .inl (σT.1 3))), (q29_9, .inl (κ.1, 8, .inl (σT.1 4))), (q36_9, .inl (κ.1, 4, .inl (σT.1 5))), (q45_9, .inl (κ.1, 408, .inl (σT.1 6))), (q54_9, .inl (κ.1, 408, .inl (σT.1 7))), (q22, .inl (κ.2.2.2, 5, .inr (.inl (fun _ => 0)))), (q30, .inl (κ.1, 21, .inl (fun _ => 0))), (q36, .inr (6, [.ref q8_41, .ref q17_41, .ref q26_41, .ref a1, .int 0, .long 0])), (q8_41, .inl (κ.1, 401, .inl (fun _ => 0))), (q17_41, .inl (κ.1, 401, .inl (fun _ => 0))), (q26_41, .inl (κ.2.2.2, 401, .inr (.inl (fun _ => 0))))] := hD
  exact n_ret C (by decide) hP hD hS ⟨q5, q7_9, q14_9, q21_9, q29_9, q36_9, q45_9, q54_9, q22, q30, q36, q8_41, q17_41, q26_41, rfl⟩ dX5_init_47
set_option maxHeartbeats 4000000 in
set_option maxRecDepth 100000 in
theorem nX3 (l : Launch) (D : va_G) (κ : KC) (ad : Nat → Nat) (h0 sz : Nat) : MtC l D κ ad yX3_init cX3_init 1 ({ frames := 1, cells := 3, slots := 1422, locals := 12 } : Room) [.ref h0] [(h0, .inr (3, [.null, .null, .null, .int 0, .int 0]))] sz 3 1422 (fun w => ∃ q8 q16 q23 : Nat, w = [(h0, .inr (3, [.ref q8, .ref q16, .ref q23, .int 0, .int 0])), (q8, .inl (κ.1, 1320, .inl (fun _ => 0))), (q16, .inl (κ.1, 99, .inl (fun _ => 0))), (q23, .inl (κ.2.2.1, 3, .inl (fun _ => 0)))]) := by
  refine openC (by decide) rfl (Nat.le_of_ble_eq_true rfl) (la := [(0, .ref h0)]) rfl ?_
  intro p e s m below meth c ls A C hP hD hS hsz hAe hl
  replace C : Cn D κ ad p s m _ meth c cX3_init RX3 1 A := C
  have hx := C.1
  have hb := C.2.1
  refine lv_aload_n hx hb dX3_init_0 rfl (lv_at hl 0 rfl) ?_
  refine n_obj C hl.1 ko_X3 ko_i ko_c dX3_init_1 (Nat.le_of_ble_eq_true rfl) (Nat.le_of_ble_eq_true rfl) ?_
  refine lv_aload_n hx hb dX3_init_4 rfl (lv_at hl 0 rfl) ?_
  refine lv_sipush (v := 1320) hx hb dX3_init_5 (by decide) ?_
  refine n_newI C ka_I hP hD hS (N := 1320) (by decide) (by decide) (by decide) (Nat.le_of_ble_eq_true rfl) (Nat.le_of_ble_eq_true rfl) dX3_init_8 (fun q8 H hP hD hS => ?_)
  replace hP : va_P D classes [(h0, .inr (3, [.null, .null, .null, .int 0, .int 0])), (q8, .inl (κ.1, 1320, .inl (fun _ => 0)))] H := hP
  replace hD : va_D A [(h0, .inr (3, [.null, .null, .null, .int 0, .int 0])), (q8, .inl (κ.1, 1320, .inl (fun _ => 0)))] := hD
  refine W.cs (cells' := 1) (slots' := 1320) rfl rfl ?_
  refine n_putR C (by decide) hP hD hS 0 rfl fq_X3_11 rfl rfl (Nat.le_of_ble_eq_true rfl) dX3_init_10 (fun H locs hP hD hS => ?_)
  replace hP : va_P D classes [(h0, .inr (3, [.ref q8, .null, .null, .int 0, .int 0])), (q8, .inl (κ.1, 1320, .inl (fun _ => 0)))] H := hP
  replace hD : va_D A [(h0, .inr (3, [.ref q8, .null, .null, .int 0, .int 0])), (q8, .inl (κ.1, 1320, .inl (fun _ => 0)))] := hD
  refine lv_aload_n hx hb dX3_init_13 rfl (lv_at hl 0 rfl) ?_
  refine lv_bipush (v := 99) hx hb dX3_init_14 (by decide) ?_
  refine n_newI C ka_I hP hD hS (N := 99) (by decide) (by decide) (by decide) (Nat.le_of_ble_eq_true rfl) (Nat.le_of_ble_eq_true rfl) dX3_init_16 (fun q16 H hP hD hS => ?_)
  replace hP : va_P D classes [(h0, .inr (3, [.ref q8, .null, .null, .int 0, .int 0])), (q8, .inl (κ.1, 1320, .inl (fun _ => 0))), (q16, .inl (κ.1, 99, .inl (fun _ => 0)))] H := hP
  replace hD : va_D A [(h0, .inr (3, [.ref q8, .null, .null, .int 0, .int 0])), (q8, .inl (κ.1, 1320, .inl (fun _ => 0))), (q16, .inl (κ.1, 99, .inl (fun _ => 0)))] := hD
  refine W.cs (cells' := 2) (slots' := 1419) rfl rfl ?_
  refine n_putR C (by decide) hP hD hS 0 rfl fq_X3_15 rfl rfl (Nat.le_of_ble_eq_true rfl) dX3_init_18 (fun H locs hP hD hS => ?_)
  replace hP : va_P D classes [(h0, .inr (3, [.ref q8, .ref q16, .null, .int 0, .int 0])), (q8, .inl (κ.1, 1320, .inl (fun _ => 0))), (q16, .inl (κ.1, 99, .inl (fun _ => 0)))] H := hP
  replace hD : va_D A [(h0, .inr (3, [.ref q8, .ref q16, .null, .int 0, .int 0])), (q8, .inl (κ.1, 1320, .inl (fun _ => 0))), (q16, .inl (κ.1, 99, .inl (fun _ => 0)))] := hD
  refine lv_aload_n hx hb dX3_init_21 rfl (lv_at hl 0 rfl) ?_
  refine lv_iconst (v := 3) hx hb dX3_init_22 (by decide) ?_
  refine n_newZ C ka_Z hP hD hS (N := 3) (by decide) (by decide) (by decide) (Nat.le_of_ble_eq_true rfl) (Nat.le_of_ble_eq_true rfl) dX3_init_23 (fun q23 H hP hD hS => ?_)
  replace hP : va_P D classes [(h0, .inr (3, [.ref q8, .ref q16, .null, .int 0, .int 0])), (q8, .inl (κ.1, 1320, .inl (fun _ => 0))), (q16, .inl (κ.1, 99, .inl (fun _ => 0))), (q23, .inl (κ.2.2.1, 3, .inl (fun _ => 0)))] H := hP
  replace hD : va_D A [(h0, .inr (3, [.ref q8, .ref q16, .null, .int 0, .int 0])), (q8, .inl (κ.1, 1320, .inl (fun _ => 0))), (q16, .inl (κ.1, 99, .inl (fun _ => 0))), (q23, .inl (κ.2.2.1, 3, .inl (fun _ => 0)))] := hD
  refine W.cs (cells' := 3) (slots' := 1422) rfl rfl ?_
  refine n_putR C (by decide) hP hD hS 0 rfl fq_X3_18 rfl rfl (Nat.le_of_ble_eq_true rfl) dX3_init_25 (fun H locs hP hD hS => ?_)
  replace hP : va_P D classes [(h0, .inr (3, [.ref q8, .ref q16, .ref q23, .int 0, .int 0])), (q8, .inl (κ.1, 1320, .inl (fun _ => 0))), (q16, .inl (κ.1, 99, .inl (fun _ => 0))), (q23, .inl (κ.2.2.1, 3, .inl (fun _ => 0)))] H := hP
  replace hD : va_D A [(h0, .inr (3, [.ref q8, .ref q16, .ref q23, .int 0, .int 0])), (q8, .inl (κ.1, 1320, .inl (fun _ => 0))), (q16, .inl (κ.1, 99, .inl (fun _ => 0))), (q23, .inl (κ.2.2.1, 3, .inl (fun _ => 0)))] := hD
  exact n_ret C (by decide) hP hD hS ⟨q8, q16, q23, rfl⟩ dX3_init_28
set_option maxHeartbeats 4000000 in
set_option maxRecDepth 100000 in
theorem nX2 (l : Launch) (D : va_G) (κ : KC) (ad : Nat → Nat) (h0 sz : Nat) (a1 : Nat) : MtC l D κ ad yX2_init cX2_init 2 ({ frames := 1, cells := 2, slots := 25, locals := 12 } : Room) [.ref h0, .ref a1] [(h0, .inr (2, [.null, .null, .null]))] sz 2 25 (fun w => ∃ q7 q15 : Nat, w = [(h0, .inr (2, [.ref a1, .ref q7, .ref q15])), (q7, .inl (κ.1, 9, .inl (fun _ => 0))), (q15, .inl (κ.1, 16, .inl (fun _ => 0)))]) := by
  refine openC (by decide) rfl (Nat.le_of_ble_eq_true rfl) (la := [(0, .ref h0), (1, .ref a1)]) rfl ?_
  intro p e s m below meth c ls A C hP hD hS hsz hAe hl
  replace C : Cn D κ ad p s m _ meth c cX2_init RX2 2 A := C
  have hx := C.1
  have hb := C.2.1
  refine lv_aload_n hx hb dX2_init_0 rfl (lv_at hl 0 rfl) ?_
  refine n_obj C hl.1 ko_X2 ko_i ko_c dX2_init_1 (Nat.le_of_ble_eq_true rfl) (Nat.le_of_ble_eq_true rfl) ?_
  refine lv_aload_n hx hb dX2_init_4 rfl (lv_at hl 0 rfl) ?_
  refine lv_bipush (v := 9) hx hb dX2_init_5 (by decide) ?_
  refine n_newI C ka_I hP hD hS (N := 9) (by decide) (by decide) (by decide) (Nat.le_of_ble_eq_true rfl) (Nat.le_of_ble_eq_true rfl) dX2_init_7 (fun q7 H hP hD hS => ?_)
  replace hP : va_P D classes [(h0, .inr (2, [.null, .null, .null])), (q7, .inl (κ.1, 9, .inl (fun _ => 0)))] H := hP
  replace hD : va_D A [(h0, .inr (2, [.null, .null, .null])), (q7, .inl (κ.1, 9, .inl (fun _ => 0)))] := hD
  refine W.cs (cells' := 1) (slots' := 9) rfl rfl ?_
  refine n_putR C (by decide) hP hD hS 0 rfl fq_X2_13 rfl rfl (Nat.le_of_ble_eq_true rfl) dX2_init_9 (fun H locs hP hD hS => ?_)
  replace hP : va_P D classes [(h0, .inr (2, [.null, .ref q7, .null])), (q7, .inl (κ.1, 9, .inl (fun _ => 0)))] H := hP
  replace hD : va_D A [(h0, .inr (2, [.null, .ref q7, .null])), (q7, .inl (κ.1, 9, .inl (fun _ => 0)))] := hD
  refine lv_aload_n hx hb dX2_init_12 rfl (lv_at hl 0 rfl) ?_
  refine lv_bipush (v := 16) hx hb dX2_init_13 (by decide) ?_
  refine n_newI C ka_I hP hD hS (N := 16) (by decide) (by decide) (by decide) (Nat.le_of_ble_eq_true rfl) (Nat.le_of_ble_eq_true rfl) dX2_init_15 (fun q15 H hP hD hS => ?_)
  replace hP : va_P D classes [(h0, .inr (2, [.null, .ref q7, .null])), (q7, .inl (κ.1, 9, .inl (fun _ => 0))), (q15, .inl (κ.1, 16, .inl (fun _ => 0)))] H := hP
  replace hD : va_D A [(h0, .inr (2, [.null, .ref q7, .null])), (q7, .inl (κ.1, 9, .inl (fun _ => 0))), (q15, .inl (κ.1, 16, .inl (fun _ => 0)))] := hD
  refine W.cs (cells' := 2) (slots' := 25) rfl rfl ?_
  refine n_putR C (by decide) hP hD hS 0 rfl fq_X2_17 rfl rfl (Nat.le_of_ble_eq_true rfl) dX2_init_17 (fun H locs hP hD hS => ?_)
  replace hP : va_P D classes [(h0, .inr (2, [.null, .ref q7, .ref q15])), (q7, .inl (κ.1, 9, .inl (fun _ => 0))), (q15, .inl (κ.1, 16, .inl (fun _ => 0)))] H := hP
  replace hD : va_D A [(h0, .inr (2, [.null, .ref q7, .ref q15])), (q7, .inl (κ.1, 9, .inl (fun _ => 0))), (q15, .inl (κ.1, 16, .inl (fun _ => 0)))] := hD
  refine lv_aload_n hx hb dX2_init_20 rfl (lv_at hl 0 rfl) ?_
  refine lv_aload_n hx hb dX2_init_21 rfl (lv_at hl 1 rfl) ?_
  refine n_putR C (by decide) hP hD hS 0 rfl fq_X2_20 rfl rfl (Nat.le_of_ble_eq_true rfl) dX2_init_22 (fun H locs hP hD hS => ?_)
  replace hP : va_P D classes [(h0, .inr (2, [.ref a1, .ref q7, .ref q15])), (q7, .inl (κ.1, 9, .inl (fun _ => 0))), (q15, .inl (κ.1, 16, .inl (fun _ => 0)))] H := hP
  replace hD : va_D A [(h0, .inr (2, [.ref a1, .ref q7, .ref q15])), (q7, .inl (κ.1, 9, .inl (fun _ => 0))), (q15, .inl (κ.1, 16, .inl (fun _ => 0)))] := hD
  exact n_ret C (by decide) hP hD hS ⟨q7, q15, rfl⟩ dX2_init_25
set_option maxHeartbeats 4000000 in
set_option maxRecDepth 100000 in
theorem nX0 (l : Launch) (D : va_G) (κ : KC) (ad : Nat → Nat) (h0 sz : Nat) (a1 : Nat) (a2 : Nat) : MtC l D κ ad yX0_init cX0_init 3 ({ frames := 1, cells := 4, slots := 266, locals := 12 } : Room) [.ref h0, .ref a1, .ref a2] [(h0, .inr (0, [.null, .null, .null, .null, .null, .null, .int 0, .int 0, .int 0]))] sz 4 266 (fun w => ∃ q7 q15 q23 q31 : Nat, w = [(h0, .inr (0, [.ref a1, .ref a2, .ref q7, .ref q15, .ref q23, .ref q31, .int 0, .int 0, .int 0])), (q7, .inl (κ.1, 10, .inl (fun _ => 0))), (q15, .inl (κ.1, 80, .inl (fun _ => 0))), (q23, .inl (κ.1, 88, .inl (fun _ => 0))), (q31, .inl (κ.1, 88, .inl (fun _ => 0)))]) := by
  refine openC (by decide) rfl (Nat.le_of_ble_eq_true rfl) (la := [(0, .ref h0), (1, .ref a1), (2, .ref a2)]) rfl ?_
  intro p e s m below meth c ls A C hP hD hS hsz hAe hl
  replace C : Cn D κ ad p s m _ meth c cX0_init RX0 3 A := C
  have hx := C.1
  have hb := C.2.1
  refine lv_aload_n hx hb dX0_init_0 rfl (lv_at hl 0 rfl) ?_
  refine n_obj C hl.1 ko_X0 ko_i ko_c dX0_init_1 (Nat.le_of_ble_eq_true rfl) (Nat.le_of_ble_eq_true rfl) ?_
  refine lv_aload_n hx hb dX0_init_4 rfl (lv_at hl 0 rfl) ?_
  refine lv_bipush (v := 10) hx hb dX0_init_5 (by decide) ?_
  refine n_newI C ka_I hP hD hS (N := 10) (by decide) (by decide) (by decide) (Nat.le_of_ble_eq_true rfl) (Nat.le_of_ble_eq_true rfl) dX0_init_7 (fun q7 H hP hD hS => ?_)
  replace hP : va_P D classes [(h0, .inr (0, [.null, .null, .null, .null, .null, .null, .int 0, .int 0, .int 0])), (q7, .inl (κ.1, 10, .inl (fun _ => 0)))] H := hP
  replace hD : va_D A [(h0, .inr (0, [.null, .null, .null, .null, .null, .null, .int 0, .int 0, .int 0])), (q7, .inl (κ.1, 10, .inl (fun _ => 0)))] := hD
  refine W.cs (cells' := 1) (slots' := 10) rfl rfl ?_
  refine n_putR C (by decide) hP hD hS 0 rfl fq_X0_9 rfl rfl (Nat.le_of_ble_eq_true rfl) dX0_init_9 (fun H locs hP hD hS => ?_)
  replace hP : va_P D classes [(h0, .inr (0, [.null, .null, .ref q7, .null, .null, .null, .int 0, .int 0, .int 0])), (q7, .inl (κ.1, 10, .inl (fun _ => 0)))] H := hP
  replace hD : va_D A [(h0, .inr (0, [.null, .null, .ref q7, .null, .null, .null, .int 0, .int 0, .int 0])), (q7, .inl (κ.1, 10, .inl (fun _ => 0)))] := hD
  refine lv_aload_n hx hb dX0_init_12 rfl (lv_at hl 0 rfl) ?_
  refine lv_bipush (v := 80) hx hb dX0_init_13 (by decide) ?_
  refine n_newI C ka_I hP hD hS (N := 80) (by decide) (by decide) (by decide) (Nat.le_of_ble_eq_true rfl) (Nat.le_of_ble_eq_true rfl) dX0_init_15 (fun q15 H hP hD hS => ?_)
  replace hP : va_P D classes [(h0, .inr (0, [.null, .null, .ref q7, .null, .null, .null, .int 0, .int 0, .int 0])), (q7, .inl (κ.1, 10, .inl (fun _ => 0))), (q15, .inl (κ.1, 80, .inl (fun _ => 0)))] H := hP
  replace hD : va_D A [(h0, .inr (0, [.null, .null, .ref q7, .null, .null, .null, .int 0, .int 0, .int 0])), (q7, .inl (κ.1, 10, .inl (fun _ => 0))), (q15, .inl (κ.1, 80, .inl (fun _ => 0)))] := hD
  refine W.cs (cells' := 2) (slots' := 90) rfl rfl ?_
  refine n_putR C (by decide) hP hD hS 0 rfl fq_X0_15 rfl rfl (Nat.le_of_ble_eq_true rfl) dX0_init_17 (fun H locs hP hD hS => ?_)
  replace hP : va_P D classes [(h0, .inr (0, [.null, .null, .ref q7, .ref q15, .null, .null, .int 0, .int 0, .int 0])), (q7, .inl (κ.1, 10, .inl (fun _ => 0))), (q15, .inl (κ.1, 80, .inl (fun _ => 0)))] H := hP
  replace hD : va_D A [(h0, .inr (0, [.null, .null, .ref q7, .ref q15, .null, .null, .int 0, .int 0, .int 0])), (q7, .inl (κ.1, 10, .inl (fun _ => 0))), (q15, .inl (κ.1, 80, .inl (fun _ => 0)))] := hD
  refine lv_aload_n hx hb dX0_init_20 rfl (lv_at hl 0 rfl) ?_
  refine lv_bipush (v := 88) hx hb dX0_init_21 (by decide) ?_
  refine n_newI C ka_I hP hD hS (N := 88) (by decide) (by decide) (by decide) (Nat.le_of_ble_eq_true rfl) (Nat.le_of_ble_eq_true rfl) dX0_init_23 (fun q23 H hP hD hS => ?_)
  replace hP : va_P D classes [(h0, .inr (0, [.null, .null, .ref q7, .ref q15, .null, .null, .int 0, .int 0, .int 0])), (q7, .inl (κ.1, 10, .inl (fun _ => 0))), (q15, .inl (κ.1, 80, .inl (fun _ => 0))), (q23, .inl (κ.1, 88, .inl (fun _ => 0)))] H := hP
  replace hD : va_D A [(h0, .inr (0, [.null, .null, .ref q7, .ref q15, .null, .null, .int 0, .int 0, .int 0])), (q7, .inl (κ.1, 10, .inl (fun _ => 0))), (q15, .inl (κ.1, 80, .inl (fun _ => 0))), (q23, .inl (κ.1, 88, .inl (fun _ => 0)))] := hD
  refine W.cs (cells' := 3) (slots' := 178) rfl rfl ?_
  refine n_putR C (by decide) hP hD hS 0 rfl fq_X0_18 rfl rfl (Nat.le_of_ble_eq_true rfl) dX0_init_25 (fun H locs hP hD hS => ?_)
  replace hP : va_P D classes [(h0, .inr (0, [.null, .null, .ref q7, .ref q15, .ref q23, .null, .int 0, .int 0, .int 0])), (q7, .inl (κ.1, 10, .inl (fun _ => 0))), (q15, .inl (κ.1, 80, .inl (fun _ => 0))), (q23, .inl (κ.1, 88, .inl (fun _ => 0)))] H := hP
  replace hD : va_D A [(h0, .inr (0, [.null, .null, .ref q7, .ref q15, .ref q23, .null, .int 0, .int 0, .int 0])), (q7, .inl (κ.1, 10, .inl (fun _ => 0))), (q15, .inl (κ.1, 80, .inl (fun _ => 0))), (q23, .inl (κ.1, 88, .inl (fun _ => 0)))] := hD
  refine lv_aload_n hx hb dX0_init_28 rfl (lv_at hl 0 rfl) ?_
  refine lv_bipush (v := 88) hx hb dX0_init_29 (by decide) ?_
  refine n_newI C ka_I hP hD hS (N := 88) (by decide) (by decide) (by decide) (Nat.le_of_ble_eq_true rfl) (Nat.le_of_ble_eq_true rfl) dX0_init_31 (fun q31 H hP hD hS => ?_)
  replace hP : va_P D classes [(h0, .inr (0, [.null, .null, .ref q7, .ref q15, .ref q23, .null, .int 0, .int 0, .int 0])), (q7, .inl (κ.1, 10, .inl (fun _ => 0))), (q15, .inl (κ.1, 80, .inl (fun _ => 0))), (q23, .inl (κ.1, 88, .inl (fun _ => 0))), (q31, .inl (κ.1, 88, .inl (fun _ => 0)))] H := hP
  replace hD : va_D A [(h0, .inr (0, [.null, .null, .ref q7, .ref q15, .ref q23, .null, .int 0, .int 0, .int 0])), (q7, .inl (κ.1, 10, .inl (fun _ => 0))), (q15, .inl (κ.1, 80, .inl (fun _ => 0))), (q23, .inl (κ.1, 88, .inl (fun _ => 0))), (q31, .inl (κ.1, 88, .inl (fun _ => 0)))] := hD
  refine W.cs (cells' := 4) (slots' := 266) rfl rfl ?_
  refine n_putR C (by decide) hP hD hS 0 rfl fq_X0_21 rfl rfl (Nat.le_of_ble_eq_true rfl) dX0_init_33 (fun H locs hP hD hS => ?_)
  replace hP : va_P D classes [(h0, .inr (0, [.null, .null, .ref q7, .ref q15, .ref q23, .ref q31, .int 0, .int 0, .int 0])), (q7, .inl (κ.1, 10, .inl (fun _ => 0))), (q15, .inl (κ.1, 80, .inl (fun _ => 0))), (q23, .inl (κ.1, 88, .inl (fun _ => 0))), (q31, .inl (κ.1, 88, .inl (fun _ => 0)))] H := hP
  replace hD : va_D A [(h0, .inr (0, [.null, .null, .ref q7, .ref q15, .ref q23, .ref q31, .int 0, .int 0, .int 0])), (q7, .inl (κ.1, 10, .inl (fun _ => 0))), (q15, .inl (κ.1, 80, .inl (fun _ => 0))), (q23, .inl (κ.1, 88, .inl (fun _ => 0))), (q31, .inl (κ.1, 88, .inl (fun _ => 0)))] := hD
  refine lv_aload_n hx hb dX0_init_36 rfl (lv_at hl 0 rfl) ?_
  refine lv_aload_n hx hb dX0_init_37 rfl (lv_at hl 1 rfl) ?_
  refine n_putR C (by decide) hP hD hS 0 rfl fq_X0_24 rfl rfl (Nat.le_of_ble_eq_true rfl) dX0_init_38 (fun H locs hP hD hS => ?_)
  replace hP : va_P D classes [(h0, .inr (0, [.ref a1, .null, .ref q7, .ref q15, .ref q23, .ref q31, .int 0, .int 0, .int 0])), (q7, .inl (κ.1, 10, .inl (fun _ => 0))), (q15, .inl (κ.1, 80, .inl (fun _ => 0))), (q23, .inl (κ.1, 88, .inl (fun _ => 0))), (q31, .inl (κ.1, 88, .inl (fun _ => 0)))] H := hP
  replace hD : va_D A [(h0, .inr (0, [.ref a1, .null, .ref q7, .ref q15, .ref q23, .ref q31, .int 0, .int 0, .int 0])), (q7, .inl (κ.1, 10, .inl (fun _ => 0))), (q15, .inl (κ.1, 80, .inl (fun _ => 0))), (q23, .inl (κ.1, 88, .inl (fun _ => 0))), (q31, .inl (κ.1, 88, .inl (fun _ => 0)))] := hD
  refine lv_aload_n hx hb dX0_init_41 rfl (lv_at hl 0 rfl) ?_
  refine lv_aload_n hx hb dX0_init_42 rfl (lv_at hl 2 rfl) ?_
  refine n_putR C (by decide) hP hD hS 0 rfl fq_X0_28 rfl rfl (Nat.le_of_ble_eq_true rfl) dX0_init_43 (fun H locs hP hD hS => ?_)
  replace hP : va_P D classes [(h0, .inr (0, [.ref a1, .ref a2, .ref q7, .ref q15, .ref q23, .ref q31, .int 0, .int 0, .int 0])), (q7, .inl (κ.1, 10, .inl (fun _ => 0))), (q15, .inl (κ.1, 80, .inl (fun _ => 0))), (q23, .inl (κ.1, 88, .inl (fun _ => 0))), (q31, .inl (κ.1, 88, .inl (fun _ => 0)))] H := hP
  replace hD : va_D A [(h0, .inr (0, [.ref a1, .ref a2, .ref q7, .ref q15, .ref q23, .ref q31, .int 0, .int 0, .int 0])), (q7, .inl (κ.1, 10, .inl (fun _ => 0))), (q15, .inl (κ.1, 80, .inl (fun _ => 0))), (q23, .inl (κ.1, 88, .inl (fun _ => 0))), (q31, .inl (κ.1, 88, .inl (fun _ => 0)))] := hD
  exact n_ret C (by decide) hP hD hS ⟨q7, q15, q23, q31, rfl⟩ dX0_init_46
set_option maxHeartbeats 4000000 in
set_option maxRecDepth 100000 in
theorem nX4 (l : Launch) (D : va_G) (κ : KC) (ad : Nat → Nat) (h0 sz : Nat) (a1 : Nat) (a2 : Nat) : MtC l D κ ad yX4_init cX4_init 3 ({ frames := 1, cells := 0, slots := 0, locals := 12 } : Room) [.ref h0, .ref a1, .ref a2] [(h0, .inr (4, [.null, .null]))] sz 0 0 (fun w => w = [(h0, .inr (4, [.ref a1, .ref a2]))]) := by
  refine openC (by decide) rfl (Nat.le_of_ble_eq_true rfl) (la := [(0, .ref h0), (1, .ref a1), (2, .ref a2)]) rfl ?_
  intro p e s m below meth c ls A C hP hD hS hsz hAe hl
  replace C : Cn D κ ad p s m _ meth c cX4_init RX4 3 A := C
  have hx := C.1
  have hb := C.2.1
  refine lv_aload_n hx hb dX4_init_0 rfl (lv_at hl 0 rfl) ?_
  refine n_obj C hl.1 ko_X4 ko_i ko_c dX4_init_1 (Nat.le_of_ble_eq_true rfl) (Nat.le_of_ble_eq_true rfl) ?_
  refine lv_aload_n hx hb dX4_init_4 rfl (lv_at hl 0 rfl) ?_
  refine lv_aload_n hx hb dX4_init_5 rfl (lv_at hl 1 rfl) ?_
  refine n_putR C (by decide) hP hD hS 0 rfl fq_X4_7 rfl rfl (Nat.le_of_ble_eq_true rfl) dX4_init_6 (fun H locs hP hD hS => ?_)
  replace hP : va_P D classes [(h0, .inr (4, [.ref a1, .null]))] H := hP
  replace hD : va_D A [(h0, .inr (4, [.ref a1, .null]))] := hD
  refine lv_aload_n hx hb dX4_init_9 rfl (lv_at hl 0 rfl) ?_
  refine lv_aload_n hx hb dX4_init_10 rfl (lv_at hl 2 rfl) ?_
  refine n_putR C (by decide) hP hD hS 0 rfl fq_X4_13 rfl rfl (Nat.le_of_ble_eq_true rfl) dX4_init_11 (fun H locs hP hD hS => ?_)
  replace hP : va_P D classes [(h0, .inr (4, [.ref a1, .ref a2]))] H := hP
  replace hD : va_D A [(h0, .inr (4, [.ref a1, .ref a2]))] := hD
  exact n_ret C (by decide) hP hD hS rfl dX4_init_14
set_option maxHeartbeats 4000000 in
set_option maxRecDepth 100000 in
theorem nX1 (l : Launch) (D : va_G) (κ : KC) (ad : Nat → Nat) (h0 sz : Nat) (a1 : Nat) (a2 : Nat) : MtC l D κ ad yX1_init cX1_init 3 ({ frames := 1, cells := 1, slots := 256, locals := 12 } : Room) [.ref h0, .ref a1, .ref a2] [(h0, .inr (1, [.null, .null, .null]))] sz 1 256 (fun w => ∃ q8 : Nat, w = [(h0, .inr (1, [.ref a1, .ref a2, .ref q8])), (q8, .inl (κ.2.2.1, 256, .inl (fun _ => 0)))]) := by
  refine openC (by decide) rfl (Nat.le_of_ble_eq_true rfl) (la := [(0, .ref h0), (1, .ref a1), (2, .ref a2)]) rfl ?_
  intro p e s m below meth c ls A C hP hD hS hsz hAe hl
  replace C : Cn D κ ad p s m _ meth c cX1_init RX1 3 A := C
  have hx := C.1
  have hb := C.2.1
  refine lv_aload_n hx hb dX1_init_0 rfl (lv_at hl 0 rfl) ?_
  refine n_obj C hl.1 ko_X1 ko_i ko_c dX1_init_1 (Nat.le_of_ble_eq_true rfl) (Nat.le_of_ble_eq_true rfl) ?_
  refine lv_aload_n hx hb dX1_init_4 rfl (lv_at hl 0 rfl) ?_
  refine lv_sipush (v := 256) hx hb dX1_init_5 (by decide) ?_
  refine n_newZ C ka_Z hP hD hS (N := 256) (by decide) (by decide) (by decide) (Nat.le_of_ble_eq_true rfl) (Nat.le_of_ble_eq_true rfl) dX1_init_8 (fun q8 H hP hD hS => ?_)
  replace hP : va_P D classes [(h0, .inr (1, [.null, .null, .null])), (q8, .inl (κ.2.2.1, 256, .inl (fun _ => 0)))] H := hP
  replace hD : va_D A [(h0, .inr (1, [.null, .null, .null])), (q8, .inl (κ.2.2.1, 256, .inl (fun _ => 0)))] := hD
  refine W.cs (cells' := 1) (slots' := 256) rfl rfl ?_
  refine n_putR C (by decide) hP hD hS 0 rfl fq_X1_9 rfl rfl (Nat.le_of_ble_eq_true rfl) dX1_init_10 (fun H locs hP hD hS => ?_)
  replace hP : va_P D classes [(h0, .inr (1, [.null, .null, .ref q8])), (q8, .inl (κ.2.2.1, 256, .inl (fun _ => 0)))] H := hP
  replace hD : va_D A [(h0, .inr (1, [.null, .null, .ref q8])), (q8, .inl (κ.2.2.1, 256, .inl (fun _ => 0)))] := hD
  refine lv_aload_n hx hb dX1_init_13 rfl (lv_at hl 0 rfl) ?_
  refine lv_aload_n hx hb dX1_init_14 rfl (lv_at hl 1 rfl) ?_
  refine n_putR C (by decide) hP hD hS 0 rfl fq_X1_15 rfl rfl (Nat.le_of_ble_eq_true rfl) dX1_init_15 (fun H locs hP hD hS => ?_)
  replace hP : va_P D classes [(h0, .inr (1, [.ref a1, .null, .ref q8])), (q8, .inl (κ.2.2.1, 256, .inl (fun _ => 0)))] H := hP
  replace hD : va_D A [(h0, .inr (1, [.ref a1, .null, .ref q8])), (q8, .inl (κ.2.2.1, 256, .inl (fun _ => 0)))] := hD
  refine lv_aload_n hx hb dX1_init_18 rfl (lv_at hl 0 rfl) ?_
  refine lv_aload_n hx hb dX1_init_19 rfl (lv_at hl 2 rfl) ?_
  refine n_putR C (by decide) hP hD hS 0 rfl fq_X1_19 rfl rfl (Nat.le_of_ble_eq_true rfl) dX1_init_20 (fun H locs hP hD hS => ?_)
  replace hP : va_P D classes [(h0, .inr (1, [.ref a1, .ref a2, .ref q8])), (q8, .inl (κ.2.2.1, 256, .inl (fun _ => 0)))] H := hP
  replace hD : va_D A [(h0, .inr (1, [.ref a1, .ref a2, .ref q8])), (q8, .inl (κ.2.2.1, 256, .inl (fun _ => 0)))] := hD
  exact n_ret C (by decide) hP hD hS ⟨q8, rfl⟩ dX1_init_23
set_option maxHeartbeats 4000000 in
set_option maxRecDepth 100000 in
theorem nX10 (l : Launch) (D : va_G) (κ : KC) (ad : Nat → Nat) (h0 sz : Nat) (a1 : Nat) (a2 : Nat) : MtC l D κ ad yX10_init cX10_init 3 ({ frames := 1, cells := 4, slots := 70, locals := 12 } : Room) [.ref h0, .ref a1, .ref a2] [(h0, .inr (10, [.null, .null, .null, .null, .null, .null, .int 0, .int 0, .int 0, .int 0, .int 0]))] sz 4 70 (fun w => ∃ q7 q15 q23 q31 : Nat, w = [(h0, .inr (10, [.ref a1, .ref a2, .ref q7, .ref q15, .ref q23, .ref q31, .int 0, .int 0, .int 0, .int 0, .int 0])), (q7, .inl (κ.1, 20, .inl (fun _ => 0))), (q15, .inl (κ.1, 20, .inl (fun _ => 0))), (q23, .inl (κ.2.2.1, 20, .inl (fun _ => 0))), (q31, .inl (κ.1, 10, .inl (fun _ => 0)))]) := by
  refine openC (by decide) rfl (Nat.le_of_ble_eq_true rfl) (la := [(0, .ref h0), (1, .ref a1), (2, .ref a2)]) rfl ?_
  intro p e s m below meth c ls A C hP hD hS hsz hAe hl
  replace C : Cn D κ ad p s m _ meth c cX10_init RX10 3 A := C
  have hx := C.1
  have hb := C.2.1
  refine lv_aload_n hx hb dX10_init_0 rfl (lv_at hl 0 rfl) ?_
  refine n_obj C hl.1 ko_X10 ko_i ko_c dX10_init_1 (Nat.le_of_ble_eq_true rfl) (Nat.le_of_ble_eq_true rfl) ?_
  refine lv_aload_n hx hb dX10_init_4 rfl (lv_at hl 0 rfl) ?_
  refine lv_bipush (v := 20) hx hb dX10_init_5 (by decide) ?_
  refine n_newI C ka_I hP hD hS (N := 20) (by decide) (by decide) (by decide) (Nat.le_of_ble_eq_true rfl) (Nat.le_of_ble_eq_true rfl) dX10_init_7 (fun q7 H hP hD hS => ?_)
  replace hP : va_P D classes [(h0, .inr (10, [.null, .null, .null, .null, .null, .null, .int 0, .int 0, .int 0, .int 0, .int 0])), (q7, .inl (κ.1, 20, .inl (fun _ => 0)))] H := hP
  replace hD : va_D A [(h0, .inr (10, [.null, .null, .null, .null, .null, .null, .int 0, .int 0, .int 0, .int 0, .int 0])), (q7, .inl (κ.1, 20, .inl (fun _ => 0)))] := hD
  refine W.cs (cells' := 1) (slots' := 20) rfl rfl ?_
  refine n_putR C (by decide) hP hD hS 0 rfl fq_X10_11 rfl rfl (Nat.le_of_ble_eq_true rfl) dX10_init_9 (fun H locs hP hD hS => ?_)
  replace hP : va_P D classes [(h0, .inr (10, [.null, .null, .ref q7, .null, .null, .null, .int 0, .int 0, .int 0, .int 0, .int 0])), (q7, .inl (κ.1, 20, .inl (fun _ => 0)))] H := hP
  replace hD : va_D A [(h0, .inr (10, [.null, .null, .ref q7, .null, .null, .null, .int 0, .int 0, .int 0, .int 0, .int 0])), (q7, .inl (κ.1, 20, .inl (fun _ => 0)))] := hD
  refine lv_aload_n hx hb dX10_init_12 rfl (lv_at hl 0 rfl) ?_
  refine lv_bipush (v := 20) hx hb dX10_init_13 (by decide) ?_
  refine n_newI C ka_I hP hD hS (N := 20) (by decide) (by decide) (by decide) (Nat.le_of_ble_eq_true rfl) (Nat.le_of_ble_eq_true rfl) dX10_init_15 (fun q15 H hP hD hS => ?_)
  replace hP : va_P D classes [(h0, .inr (10, [.null, .null, .ref q7, .null, .null, .null, .int 0, .int 0, .int 0, .int 0, .int 0])), (q7, .inl (κ.1, 20, .inl (fun _ => 0))), (q15, .inl (κ.1, 20, .inl (fun _ => 0)))] H := hP
  replace hD : va_D A [(h0, .inr (10, [.null, .null, .ref q7, .null, .null, .null, .int 0, .int 0, .int 0, .int 0, .int 0])), (q7, .inl (κ.1, 20, .inl (fun _ => 0))), (q15, .inl (κ.1, 20, .inl (fun _ => 0)))] := hD
  refine W.cs (cells' := 2) (slots' := 40) rfl rfl ?_
  refine n_putR C (by decide) hP hD hS 0 rfl fq_X10_15 rfl rfl (Nat.le_of_ble_eq_true rfl) dX10_init_17 (fun H locs hP hD hS => ?_)
  replace hP : va_P D classes [(h0, .inr (10, [.null, .null, .ref q7, .ref q15, .null, .null, .int 0, .int 0, .int 0, .int 0, .int 0])), (q7, .inl (κ.1, 20, .inl (fun _ => 0))), (q15, .inl (κ.1, 20, .inl (fun _ => 0)))] H := hP
  replace hD : va_D A [(h0, .inr (10, [.null, .null, .ref q7, .ref q15, .null, .null, .int 0, .int 0, .int 0, .int 0, .int 0])), (q7, .inl (κ.1, 20, .inl (fun _ => 0))), (q15, .inl (κ.1, 20, .inl (fun _ => 0)))] := hD
  refine lv_aload_n hx hb dX10_init_20 rfl (lv_at hl 0 rfl) ?_
  refine lv_bipush (v := 20) hx hb dX10_init_21 (by decide) ?_
  refine n_newZ C ka_Z hP hD hS (N := 20) (by decide) (by decide) (by decide) (Nat.le_of_ble_eq_true rfl) (Nat.le_of_ble_eq_true rfl) dX10_init_23 (fun q23 H hP hD hS => ?_)
  replace hP : va_P D classes [(h0, .inr (10, [.null, .null, .ref q7, .ref q15, .null, .null, .int 0, .int 0, .int 0, .int 0, .int 0])), (q7, .inl (κ.1, 20, .inl (fun _ => 0))), (q15, .inl (κ.1, 20, .inl (fun _ => 0))), (q23, .inl (κ.2.2.1, 20, .inl (fun _ => 0)))] H := hP
  replace hD : va_D A [(h0, .inr (10, [.null, .null, .ref q7, .ref q15, .null, .null, .int 0, .int 0, .int 0, .int 0, .int 0])), (q7, .inl (κ.1, 20, .inl (fun _ => 0))), (q15, .inl (κ.1, 20, .inl (fun _ => 0))), (q23, .inl (κ.2.2.1, 20, .inl (fun _ => 0)))] := hD
  refine W.cs (cells' := 3) (slots' := 60) rfl rfl ?_
  refine n_putR C (by decide) hP hD hS 0 rfl fq_X10_18 rfl rfl (Nat.le_of_ble_eq_true rfl) dX10_init_25 (fun H locs hP hD hS => ?_)
  replace hP : va_P D classes [(h0, .inr (10, [.null, .null, .ref q7, .ref q15, .ref q23, .null, .int 0, .int 0, .int 0, .int 0, .int 0])), (q7, .inl (κ.1, 20, .inl (fun _ => 0))), (q15, .inl (κ.1, 20, .inl (fun _ => 0))), (q23, .inl (κ.2.2.1, 20, .inl (fun _ => 0)))] H := hP
  replace hD : va_D A [(h0, .inr (10, [.null, .null, .ref q7, .ref q15, .ref q23, .null, .int 0, .int 0, .int 0, .int 0, .int 0])), (q7, .inl (κ.1, 20, .inl (fun _ => 0))), (q15, .inl (κ.1, 20, .inl (fun _ => 0))), (q23, .inl (κ.2.2.1, 20, .inl (fun _ => 0)))] := hD
  refine lv_aload_n hx hb dX10_init_28 rfl (lv_at hl 0 rfl) ?_
  refine lv_bipush (v := 10) hx hb dX10_init_29 (by decide) ?_
  refine n_newI C ka_I hP hD hS (N := 10) (by decide) (by decide) (by decide) (Nat.le_of_ble_eq_true rfl) (Nat.le_of_ble_eq_true rfl) dX10_init_31 (fun q31 H hP hD hS => ?_)
  replace hP : va_P D classes [(h0, .inr (10, [.null, .null, .ref q7, .ref q15, .ref q23, .null, .int 0, .int 0, .int 0, .int 0, .int 0])), (q7, .inl (κ.1, 20, .inl (fun _ => 0))), (q15, .inl (κ.1, 20, .inl (fun _ => 0))), (q23, .inl (κ.2.2.1, 20, .inl (fun _ => 0))), (q31, .inl (κ.1, 10, .inl (fun _ => 0)))] H := hP
  replace hD : va_D A [(h0, .inr (10, [.null, .null, .ref q7, .ref q15, .ref q23, .null, .int 0, .int 0, .int 0, .int 0, .int 0])), (q7, .inl (κ.1, 20, .inl (fun _ => 0))), (q15, .inl (κ.1, 20, .inl (fun _ => 0))), (q23, .inl (κ.2.2.1, 20, .inl (fun _ => 0))), (q31, .inl (κ.1, 10, .inl (fun _ => 0)))] := hD
  refine W.cs (cells' := 4) (slots' := 70) rfl rfl ?_
  refine n_putR C (by decide) hP hD hS 0 rfl fq_X10_22 rfl rfl (Nat.le_of_ble_eq_true rfl) dX10_init_33 (fun H locs hP hD hS => ?_)
  replace hP : va_P D classes [(h0, .inr (10, [.null, .null, .ref q7, .ref q15, .ref q23, .ref q31, .int 0, .int 0, .int 0, .int 0, .int 0])), (q7, .inl (κ.1, 20, .inl (fun _ => 0))), (q15, .inl (κ.1, 20, .inl (fun _ => 0))), (q23, .inl (κ.2.2.1, 20, .inl (fun _ => 0))), (q31, .inl (κ.1, 10, .inl (fun _ => 0)))] H := hP
  replace hD : va_D A [(h0, .inr (10, [.null, .null, .ref q7, .ref q15, .ref q23, .ref q31, .int 0, .int 0, .int 0, .int 0, .int 0])), (q7, .inl (κ.1, 20, .inl (fun _ => 0))), (q15, .inl (κ.1, 20, .inl (fun _ => 0))), (q23, .inl (κ.2.2.1, 20, .inl (fun _ => 0))), (q31, .inl (κ.1, 10, .inl (fun _ => 0)))] := hD
  refine lv_aload_n hx hb dX10_init_36 rfl (lv_at hl 0 rfl) ?_
  refine lv_aload_n hx hb dX10_init_37 rfl (lv_at hl 1 rfl) ?_
  refine n_putR C (by decide) hP hD hS 0 rfl fq_X10_25 rfl rfl (Nat.le_of_ble_eq_true rfl) dX10_init_38 (fun H locs hP hD hS => ?_)
  replace hP : va_P D classes [(h0, .inr (10, [.ref a1, .null, .ref q7, .ref q15, .ref q23, .ref q31, .int 0, .int 0, .int 0, .int 0, .int 0])), (q7, .inl (κ.1, 20, .inl (fun _ => 0))), (q15, .inl (κ.1, 20, .inl (fun _ => 0))), (q23, .inl (κ.2.2.1, 20, .inl (fun _ => 0))), (q31, .inl (κ.1, 10, .inl (fun _ => 0)))] H := hP
  replace hD : va_D A [(h0, .inr (10, [.ref a1, .null, .ref q7, .ref q15, .ref q23, .ref q31, .int 0, .int 0, .int 0, .int 0, .int 0])), (q7, .inl (κ.1, 20, .inl (fun _ => 0))), (q15, .inl (κ.1, 20, .inl (fun _ => 0))), (q23, .inl (κ.2.2.1, 20, .inl (fun _ => 0))), (q31, .inl (κ.1, 10, .inl (fun _ => 0)))] := hD
  refine lv_aload_n hx hb dX10_init_41 rfl (lv_at hl 0 rfl) ?_
  refine lv_aload_n hx hb dX10_init_42 rfl (lv_at hl 2 rfl) ?_
  refine n_putR C (by decide) hP hD hS 0 rfl fq_X10_29 rfl rfl (Nat.le_of_ble_eq_true rfl) dX10_init_43 (fun H locs hP hD hS => ?_)
  replace hP : va_P D classes [(h0, .inr (10, [.ref a1, .ref a2, .ref q7, .ref q15, .ref q23, .ref q31, .int 0, .int 0, .int 0, .int 0, .int 0])), (q7, .inl (κ.1, 20, .inl (fun _ => 0))), (q15, .inl (κ.1, 20, .inl (fun _ => 0))), (q23, .inl (κ.2.2.1, 20, .inl (fun _ => 0))), (q31, .inl (κ.1, 10, .inl (fun _ => 0)))] H := hP
  replace hD : va_D A [(h0, .inr (10, [.ref a1, .ref a2, .ref q7, .ref q15, .ref q23, .ref q31, .int 0, .int 0, .int 0, .int 0, .int 0])), (q7, .inl (κ.1, 20, .inl (fun _ => 0))), (q15, .inl (κ.1, 20, .inl (fun _ => 0))), (q23, .inl (κ.2.2.1, 20, .inl (fun _ => 0))), (q31, .inl (κ.1, 10, .inl (fun _ => 0)))] := hD
  exact n_ret C (by decide) hP hD hS ⟨q7, q15, q23, q31, rfl⟩ dX10_init_46
