theorem dX6_isBlank_0 : decode cX6_isBlank 0 = .ok (.iload_n 0, 1) := by decide +kernel
theorem dX6_isBlank_1 : decode cX6_isBlank 1 = .ok (.bipush 9, 2) := by decide +kernel
theorem dX6_isBlank_3 : decode cX6_isBlank 3 = .ok (.if_icmp .eq 21, 3) := by decide +kernel
theorem dX6_isBlank_6 : decode cX6_isBlank 6 = .ok (.iload_n 0, 1) := by decide +kernel
theorem dX6_isBlank_7 : decode cX6_isBlank 7 = .ok (.bipush 10, 2) := by decide +kernel
theorem dX6_isBlank_9 : decode cX6_isBlank 9 = .ok (.if_icmp .eq 15, 3) := by decide +kernel
theorem dX6_isBlank_12 : decode cX6_isBlank 12 = .ok (.iload_n 0, 1) := by decide +kernel
theorem dX6_isBlank_13 : decode cX6_isBlank 13 = .ok (.bipush 13, 2) := by decide +kernel
theorem dX6_isBlank_15 : decode cX6_isBlank 15 = .ok (.if_icmp .eq 9, 3) := by decide +kernel
theorem dX6_isBlank_18 : decode cX6_isBlank 18 = .ok (.iload_n 0, 1) := by decide +kernel
theorem dX6_isBlank_19 : decode cX6_isBlank 19 = .ok (.bipush 32, 2) := by decide +kernel
theorem dX6_isBlank_21 : decode cX6_isBlank 21 = .ok (.if_icmp .ne 7, 3) := by decide +kernel
theorem dX6_isBlank_24 : decode cX6_isBlank 24 = .ok (.iconst 1, 1) := by decide +kernel
theorem dX6_isBlank_25 : decode cX6_isBlank 25 = .ok (.goto 4, 3) := by decide +kernel
theorem dX6_isBlank_28 : decode cX6_isBlank 28 = .ok (.iconst 0, 1) := by decide +kernel
theorem dX6_isBlank_29 : decode cX6_isBlank 29 = .ok (.ireturn, 1) := by decide +kernel
theorem dX6_skipBlanks_0 : decode cX6_skipBlanks 0 = .ok (.aload_n 0, 1) := by decide +kernel
theorem dX6_skipBlanks_1 : decode cX6_skipBlanks 1 = .ok (.getfield 26, 3) := by decide +kernel
theorem dX6_skipBlanks_4 : decode cX6_skipBlanks 4 = .ok (.aload_n 0, 1) := by decide +kernel
theorem dX6_skipBlanks_5 : decode cX6_skipBlanks 5 = .ok (.getfield 22, 3) := by decide +kernel
theorem dX6_skipBlanks_8 : decode cX6_skipBlanks 8 = .ok (.getfield 41, 3) := by decide +kernel
theorem dX6_skipBlanks_11 : decode cX6_skipBlanks 11 = .ok (.if_icmp .ge 33, 3) := by decide +kernel
theorem dX6_skipBlanks_14 : decode cX6_skipBlanks 14 = .ok (.aload_n 0, 1) := by decide +kernel
theorem dX6_skipBlanks_15 : decode cX6_skipBlanks 15 = .ok (.getfield 22, 3) := by decide +kernel
theorem dX6_skipBlanks_18 : decode cX6_skipBlanks 18 = .ok (.aload_n 0, 1) := by decide +kernel
theorem dX6_skipBlanks_19 : decode cX6_skipBlanks 19 = .ok (.getfield 26, 3) := by decide +kernel
theorem dX6_skipBlanks_22 : decode cX6_skipBlanks 22 = .ok (.invokevirtual 46, 3) := by decide +kernel
theorem dX6_skipBlanks_25 : decode cX6_skipBlanks 25 = .ok (.invokestatic 50, 3) := by decide +kernel
theorem dX6_skipBlanks_28 : decode cX6_skipBlanks 28 = .ok (.ifCond .eq 16, 3) := by decide +kernel
theorem dX6_skipBlanks_31 : decode cX6_skipBlanks 31 = .ok (.aload_n 0, 1) := by decide +kernel
theorem dX6_skipBlanks_32 : decode cX6_skipBlanks 32 = .ok (.dup, 1) := by decide +kernel
theorem dX6_skipBlanks_33 : decode cX6_skipBlanks 33 = .ok (.getfield 26, 3) := by decide +kernel
theorem dX6_skipBlanks_36 : decode cX6_skipBlanks 36 = .ok (.iconst 1, 1) := by decide +kernel
theorem dX6_skipBlanks_37 : decode cX6_skipBlanks 37 = .ok (.iadd, 1) := by decide +kernel
theorem dX6_skipBlanks_38 : decode cX6_skipBlanks 38 = .ok (.putfield 26, 3) := by decide +kernel
theorem dX6_skipBlanks_41 : decode cX6_skipBlanks 41 = .ok (.goto (-41), 3) := by decide +kernel
theorem dX6_skipBlanks_44 : decode cX6_skipBlanks 44 = .ok (.return_, 1) := by decide +kernel
theorem dX6_isDigit_0 : decode cX6_isDigit 0 = .ok (.bipush 48, 2) := by decide +kernel
theorem dX6_isDigit_2 : decode cX6_isDigit 2 = .ok (.iload_n 0, 1) := by decide +kernel
theorem dX6_isDigit_3 : decode cX6_isDigit 3 = .ok (.if_icmp .gt 13, 3) := by decide +kernel
theorem dX6_isDigit_6 : decode cX6_isDigit 6 = .ok (.iload_n 0, 1) := by decide +kernel
theorem dX6_isDigit_7 : decode cX6_isDigit 7 = .ok (.bipush 57, 2) := by decide +kernel
theorem dX6_isDigit_9 : decode cX6_isDigit 9 = .ok (.if_icmp .gt 7, 3) := by decide +kernel
theorem dX6_isDigit_12 : decode cX6_isDigit 12 = .ok (.iconst 1, 1) := by decide +kernel
theorem dX6_isDigit_13 : decode cX6_isDigit 13 = .ok (.goto 4, 3) := by decide +kernel
theorem dX6_isDigit_16 : decode cX6_isDigit 16 = .ok (.iconst 0, 1) := by decide +kernel
theorem dX6_isDigit_17 : decode cX6_isDigit 17 = .ok (.ireturn, 1) := by decide +kernel
theorem dX6_scanDigits_0 : decode cX6_scanDigits 0 = .ok (.aload_n 0, 1) := by decide +kernel
theorem dX6_scanDigits_1 : decode cX6_scanDigits 1 = .ok (.getfield 26, 3) := by decide +kernel
theorem dX6_scanDigits_4 : decode cX6_scanDigits 4 = .ok (.istore_n 1, 1) := by decide +kernel
theorem dX6_scanDigits_5 : decode cX6_scanDigits 5 = .ok (.aload_n 0, 1) := by decide +kernel
theorem dX6_scanDigits_6 : decode cX6_scanDigits 6 = .ok (.getfield 26, 3) := by decide +kernel
theorem dX6_scanDigits_9 : decode cX6_scanDigits 9 = .ok (.aload_n 0, 1) := by decide +kernel
theorem dX6_scanDigits_10 : decode cX6_scanDigits 10 = .ok (.getfield 22, 3) := by decide +kernel
theorem dX6_scanDigits_13 : decode cX6_scanDigits 13 = .ok (.getfield 41, 3) := by decide +kernel
theorem dX6_scanDigits_16 : decode cX6_scanDigits 16 = .ok (.if_icmp .ge 62, 3) := by decide +kernel
theorem dX6_scanDigits_19 : decode cX6_scanDigits 19 = .ok (.aload_n 0, 1) := by decide +kernel
theorem dX6_scanDigits_20 : decode cX6_scanDigits 20 = .ok (.getfield 22, 3) := by decide +kernel
theorem dX6_scanDigits_23 : decode cX6_scanDigits 23 = .ok (.aload_n 0, 1) := by decide +kernel
theorem dX6_scanDigits_24 : decode cX6_scanDigits 24 = .ok (.getfield 26, 3) := by decide +kernel
theorem dX6_scanDigits_27 : decode cX6_scanDigits 27 = .ok (.invokevirtual 46, 3) := by decide +kernel
theorem dX6_scanDigits_30 : decode cX6_scanDigits 30 = .ok (.invokestatic 60, 3) := by decide +kernel
theorem dX6_scanDigits_33 : decode cX6_scanDigits 33 = .ok (.ifCond .eq 45, 3) := by decide +kernel
theorem dX6_scanDigits_36 : decode cX6_scanDigits 36 = .ok (.aload_n 0, 1) := by decide +kernel
theorem dX6_scanDigits_37 : decode cX6_scanDigits 37 = .ok (.aload_n 0, 1) := by decide +kernel
theorem dX6_scanDigits_38 : decode cX6_scanDigits 38 = .ok (.getfield 37, 3) := by decide +kernel
theorem dX6_scanDigits_41 : decode cX6_scanDigits 41 = .ok (.ldc2_w 81, 3) := by decide +kernel
theorem dX6_scanDigits_44 : decode cX6_scanDigits 44 = .ok (.lmul, 1) := by decide +kernel
theorem dX6_scanDigits_45 : decode cX6_scanDigits 45 = .ok (.aload_n 0, 1) := by decide +kernel
theorem dX6_scanDigits_46 : decode cX6_scanDigits 46 = .ok (.getfield 22, 3) := by decide +kernel
theorem dX6_scanDigits_49 : decode cX6_scanDigits 49 = .ok (.aload_n 0, 1) := by decide +kernel
theorem dX6_scanDigits_50 : decode cX6_scanDigits 50 = .ok (.getfield 26, 3) := by decide +kernel
theorem dX6_scanDigits_53 : decode cX6_scanDigits 53 = .ok (.invokevirtual 46, 3) := by decide +kernel
theorem dX6_scanDigits_56 : decode cX6_scanDigits 56 = .ok (.i2l, 1) := by decide +kernel
theorem dX6_scanDigits_57 : decode cX6_scanDigits 57 = .ok (.ladd, 1) := by decide +kernel
theorem dX6_scanDigits_58 : decode cX6_scanDigits 58 = .ok (.ldc2_w 83, 3) := by decide +kernel
theorem dX6_scanDigits_61 : decode cX6_scanDigits 61 = .ok (.lsub, 1) := by decide +kernel
theorem dX6_scanDigits_62 : decode cX6_scanDigits 62 = .ok (.putfield 37, 3) := by decide +kernel
theorem dX6_scanDigits_65 : decode cX6_scanDigits 65 = .ok (.aload_n 0, 1) := by decide +kernel
theorem dX6_scanDigits_66 : decode cX6_scanDigits 66 = .ok (.dup, 1) := by decide +kernel
theorem dX6_scanDigits_67 : decode cX6_scanDigits 67 = .ok (.getfield 26, 3) := by decide +kernel
theorem dX6_scanDigits_70 : decode cX6_scanDigits 70 = .ok (.iconst 1, 1) := by decide +kernel
theorem dX6_scanDigits_71 : decode cX6_scanDigits 71 = .ok (.iadd, 1) := by decide +kernel
theorem dX6_scanDigits_72 : decode cX6_scanDigits 72 = .ok (.putfield 26, 3) := by decide +kernel
theorem dX6_scanDigits_75 : decode cX6_scanDigits 75 = .ok (.goto (-70), 3) := by decide +kernel
theorem dX6_scanDigits_78 : decode cX6_scanDigits 78 = .ok (.aload_n 0, 1) := by decide +kernel
theorem dX6_scanDigits_79 : decode cX6_scanDigits 79 = .ok (.getfield 26, 3) := by decide +kernel
theorem dX6_scanDigits_82 : decode cX6_scanDigits 82 = .ok (.iload_n 1, 1) := by decide +kernel
theorem dX6_scanDigits_83 : decode cX6_scanDigits 83 = .ok (.isub, 1) := by decide +kernel
theorem dX6_scanDigits_84 : decode cX6_scanDigits 84 = .ok (.iconst 4, 1) := by decide +kernel
theorem dX6_scanDigits_85 : decode cX6_scanDigits 85 = .ok (.if_icmp .le 8, 3) := by decide +kernel
theorem dX6_scanDigits_88 : decode cX6_scanDigits 88 = .ok (.bipush 25, 2) := by decide +kernel
theorem dX6_scanDigits_90 : decode cX6_scanDigits 90 = .ok (.goto 5, 3) := by decide +kernel
theorem dX6_scanDigits_93 : decode cX6_scanDigits 93 = .ok (.bipush 23, 2) := by decide +kernel
theorem dX6_scanDigits_95 : decode cX6_scanDigits 95 = .ok (.ireturn, 1) := by decide +kernel
theorem dX6_withLetter_0 : decode cX6_withLetter 0 = .ok (.lload_n 0, 1) := by decide +kernel
theorem dX6_withLetter_1 : decode cX6_withLetter 1 = .ok (.ldc2_w 93, 3) := by decide +kernel
theorem dX6_withLetter_4 : decode cX6_withLetter 4 = .ok (.lmul, 1) := by decide +kernel
theorem dX6_withLetter_5 : decode cX6_withLetter 5 = .ok (.iload_n 2, 1) := by decide +kernel
theorem dX6_withLetter_6 : decode cX6_withLetter 6 = .ok (.bipush 97, 2) := by decide +kernel
theorem dX6_withLetter_8 : decode cX6_withLetter 8 = .ok (.isub, 1) := by decide +kernel
theorem dX6_withLetter_9 : decode cX6_withLetter 9 = .ok (.iconst 1, 1) := by decide +kernel
theorem dX6_withLetter_10 : decode cX6_withLetter 10 = .ok (.iadd, 1) := by decide +kernel
theorem dX6_withLetter_11 : decode cX6_withLetter 11 = .ok (.i2l, 1) := by decide +kernel
theorem dX6_withLetter_12 : decode cX6_withLetter 12 = .ok (.ladd, 1) := by decide +kernel
theorem dX6_withLetter_13 : decode cX6_withLetter 13 = .ok (.lreturn, 1) := by decide +kernel
theorem dX6_isLetter_0 : decode cX6_isLetter 0 = .ok (.bipush 97, 2) := by decide +kernel
theorem dX6_isLetter_2 : decode cX6_isLetter 2 = .ok (.iload_n 0, 1) := by decide +kernel
theorem dX6_isLetter_3 : decode cX6_isLetter 3 = .ok (.if_icmp .gt 13, 3) := by decide +kernel
theorem dX6_isLetter_6 : decode cX6_isLetter 6 = .ok (.iload_n 0, 1) := by decide +kernel
theorem dX6_isLetter_7 : decode cX6_isLetter 7 = .ok (.bipush 122, 2) := by decide +kernel
theorem dX6_isLetter_9 : decode cX6_isLetter 9 = .ok (.if_icmp .gt 7, 3) := by decide +kernel
theorem dX6_isLetter_12 : decode cX6_isLetter 12 = .ok (.iconst 1, 1) := by decide +kernel
theorem dX6_isLetter_13 : decode cX6_isLetter 13 = .ok (.goto 4, 3) := by decide +kernel
theorem dX6_isLetter_16 : decode cX6_isLetter 16 = .ok (.iconst 0, 1) := by decide +kernel
theorem dX6_isLetter_17 : decode cX6_isLetter 17 = .ok (.ireturn, 1) := by decide +kernel
theorem fl_X6_22 : fl RX6 22 6 3 := ⟨RX6, TX6, 6, rfl, iw_X6, by decide, lg_at 161 (by decide +kernel) (by decide +kernel), rfl⟩
theorem fl_X6_26 : fl RX6 26 6 4 := ⟨RX6, TX6, 6, rfl, iw_X6, by decide, lg_at 162 (by decide +kernel) (by decide +kernel), rfl⟩
theorem fl_X6_37 : fl RX6 37 6 5 := ⟨RX6, TX6, 6, rfl, iw_X6, by decide, lg_at 163 (by decide +kernel) (by decide +kernel), rfl⟩
theorem fl_X6_41 : fl RX6 41 8 1 := ⟨RX8, TX8, 2, rfl, iw_X8, by decide, lg_at 40 (by decide +kernel) (by decide +kernel), rfl⟩
theorem fp_X6_26 : fp RX6 26 6 4 .int := ⟨RX6, TX6, 6, tyX6, rfl, iw_X6, by decide, lg_at 162 (by decide +kernel) (by decide +kernel), rfl, tyX6_ok, nmX6, rfl, by decide +kernel⟩
theorem fp_X6_37 : fp RX6 37 6 5 .long := ⟨RX6, TX6, 6, tyX6, rfl, iw_X6, by decide, lg_at 163 (by decide +kernel) (by decide +kernel), rfl, tyX6_ok, nmX6, rfl, by decide +kernel⟩
theorem cV_X6_46 : cV RX6 46 yX8_byteAt cX8_byteAt 2 (some .int) 1 := ⟨⟨lg_at 469 (by decide +kernel) (by decide +kernel), lg_at 470 (by decide +kernel) (by decide +kernel), lg_at 471 (by decide +kernel) (by decide +kernel), lg_at 2 (by decide +kernel) (by decide +kernel), lg_at 472 (by decide +kernel) (by decide +kernel)⟩, by decide +kernel, by decide +kernel, by decide +kernel⟩
theorem cS_X6_50 : cS RX6 50 yX6_isBlank cX6_isBlank 1 (some .boolean) 1 := ⟨⟨lg_at 473 (by decide +kernel) (by decide +kernel), lg_at 474 (by decide +kernel) (by decide +kernel), lg_at 6 (by decide +kernel) (by decide +kernel), lg_at 475 (by decide +kernel) (by decide +kernel)⟩, by decide +kernel, by decide +kernel, by decide +kernel⟩
theorem cS_X6_60 : cS RX6 60 yX6_isDigit cX6_isDigit 1 (some .boolean) 1 := ⟨⟨lg_at 543 (by decide +kernel) (by decide +kernel), lg_at 544 (by decide +kernel) (by decide +kernel), lg_at 6 (by decide +kernel) (by decide +kernel), lg_at 545 (by decide +kernel) (by decide +kernel)⟩, by decide +kernel, by decide +kernel, by decide +kernel⟩
theorem kl_X6_81 : Cond.constantLong RX6 81 (10) ∈ lg_tbl := lg_at 550 (by decide +kernel) (by decide +kernel)
theorem kl_X6_83 : Cond.constantLong RX6 83 (48) ∈ lg_tbl := lg_at 551 (by decide +kernel) (by decide +kernel)
theorem kl_X6_93 : Cond.constantLong RX6 93 (27) ∈ lg_tbl := lg_at 490 (by decide +kernel) (by decide +kernel)
section
variable {p : Program} {l : Launch} {e : Env} {s : State} {m : MethodId} {args : Array Value} {below : List Frame} {meth : Method} {c : Code} {D : va_G} {ad : Nat → Nat} {κ : KC}
-- X6_isBlank
def FX6_isBlank (x0 : Int32) (σ : HS) : Option (Int32 × HS) :=
  if x0 = (9 : Int32) then some ((1 : Int32), σ) else if x0 = (10 : Int32) then some ((1 : Int32), σ) else if x0 = (13 : Int32) then some ((1 : Int32), σ) else if x0 = (32 : Int32) then some ((1 : Int32), σ) else some ((0 : Int32), σ)
set_option maxHeartbeats 4000000 in
set_option maxRecDepth 100000 in
theorem kX6_isBlank (l : Launch) (D : va_G) (ad : Nat → Nat) (κ : KC) {x0 : Int32} {σ : HS} {R : (Int32 × HS)} (h : FX6_isBlank x0 σ = some R) : MtI l 50 ceX D ad κ yX6_isBlank cX6_isBlank 1 (some .boolean) ({ frames := 0, cells := 0, slots := 0, locals := 0 } : Room) [.int x0] σ R := by
  refine open_ (by decide) (Nat.le_of_ble_eq_true rfl) (la := [(0, .int x0)]) rfl ?_
  intro p e s m below meth c ls C hH hl
  replace C : Cx 50 D ad κ p s m _ meth c cX6_isBlank RX6 1 (some .boolean) := C
  have hx := C.1
  have hb := C.2.1
  have hown := C.2.2.2.1
  have hts := C.2.2.2.2.1
  rw [FX6_isBlank] at h
  refine lv_iload_n hx hb dX6_isBlank_0 rfl (lv_at hl 0 rfl) ?_
  refine lv_bipush (v := 9) hx hb dX6_isBlank_1 (by decide) ?_
  refine lv_icmp_eq (tgt := 24) hx hb dX6_isBlank_3 (by decide) (fun hq_1 => ?_) (fun hq_1 => ?_)
  · rw [if_pos hq_1] at h
    refine lv_iconst (v := 1) hx hb dX6_isBlank_24 (by decide) ?_
    refine lv_goto (tgt := 29) hx hb dX6_isBlank_25 (by decide) ?_
    exact g_retZ C hH rfl h dX6_isBlank_29
  · rw [if_neg hq_1] at h
    refine lv_iload_n hx hb dX6_isBlank_6 rfl (lv_at hl 0 rfl) ?_
    refine lv_bipush (v := 10) hx hb dX6_isBlank_7 (by decide) ?_
    refine lv_icmp_eq (tgt := 24) hx hb dX6_isBlank_9 (by decide) (fun hq_2 => ?_) (fun hq_2 => ?_)
    · rw [if_pos hq_2] at h
      refine lv_iconst (v := 1) hx hb dX6_isBlank_24 (by decide) ?_
      refine lv_goto (tgt := 29) hx hb dX6_isBlank_25 (by decide) ?_
      exact g_retZ C hH rfl h dX6_isBlank_29
    · rw [if_neg hq_2] at h
      refine lv_iload_n hx hb dX6_isBlank_12 rfl (lv_at hl 0 rfl) ?_
      refine lv_bipush (v := 13) hx hb dX6_isBlank_13 (by decide) ?_
      refine lv_icmp_eq (tgt := 24) hx hb dX6_isBlank_15 (by decide) (fun hq_3 => ?_) (fun hq_3 => ?_)
      · rw [if_pos hq_3] at h
        refine lv_iconst (v := 1) hx hb dX6_isBlank_24 (by decide) ?_
        refine lv_goto (tgt := 29) hx hb dX6_isBlank_25 (by decide) ?_
        exact g_retZ C hH rfl h dX6_isBlank_29
      · rw [if_neg hq_3] at h
        refine lv_iload_n hx hb dX6_isBlank_18 rfl (lv_at hl 0 rfl) ?_
        refine lv_bipush (v := 32) hx hb dX6_isBlank_19 (by decide) ?_
        refine lv_icmp_ne (tgt := 28) hx hb dX6_isBlank_21 (by decide) (fun hq_4 => ?_) (fun hq_4 => ?_)
        · rw [if_neg hq_4] at h
          refine lv_iconst (v := 0) hx hb dX6_isBlank_28 (by decide) ?_
          exact g_retZ C hH rfl h dX6_isBlank_29
        · rw [if_pos hq_4] at h
          refine lv_iconst (v := 1) hx hb dX6_isBlank_24 (by decide) ?_
          refine lv_goto (tgt := 29) hx hb dX6_isBlank_25 (by decide) ?_
          exact g_retZ C hH rfl h dX6_isBlank_29
-- X6_skipBlanks
def FX6_skipBlanks_0  : Nat → HS → Option HS
  | 0, _ => none
  | f + 1, σ => if (σ.1 1 1) ≤ (σ.1 13 4) then some σ else bdI (FX8_byteAt (σ.1 13 4) σ) fun r_2 σ_3 => bdI (FX6_isBlank r_2 σ_3) fun r_5 σ_6 => if r_5 = 0 then some σ_6 else hl_ (pI σ_6 13 4 ((σ_6.1 13 4) + (1 : Int32))) fun σ_9 => FX6_skipBlanks_0  f σ_9
def FX6_skipBlanks (σ : HS) : Option HS :=
  FX6_skipBlanks_0 fu σ
set_option maxHeartbeats 4000000 in
set_option maxRecDepth 100000 in
theorem wX6_skipBlanks_0 (C : Cx 50 D ad κ p s m args meth c cX6_skipBlanks RX6 1 none) {R : HS} : ∀ (f : Nat)  (σ : HS) (H : Heap) (locs : List Loc) (ls : Array Slot), FX6_skipBlanks_0  f σ = some R → Hd 50 ceX D ad κ s σ H locs → lv_has ls 1 [(0, .ref (ad 13))] → W p l e ({ frames := 1, cells := 0, slots := 0, locals := 21 } : Room) s m args below meth c H locs 0 0 (MQ below (QV 50 ceX D ad κ R) args s 0 0 (AX 50 ad)) (F0 m 0 ls []) := by
  have hx := C.1
  have hb := C.2.1
  have hown := C.2.2.2.1
  have hts := C.2.2.2.2.1
  intro f
  induction f with
  | zero =>
    intro  σ H locs ls h hH hl
    cases h
  | succ f ih =>
    intro  σ H locs ls h hH hl
    rw [FX6_skipBlanks_0] at h
    refine lv_aload_n hx hb dX6_skipBlanks_0 rfl (lv_at hl 0 rfl) ?_
    refine g_get C hH 13 (Nat.le_of_ble_eq_true rfl) rfl fl_X6_26 (v := .int (σ.1 13 4)) rfl dX6_skipBlanks_1 ?_
    refine lv_aload_n hx hb dX6_skipBlanks_4 rfl (lv_at hl 0 rfl) ?_
    refine g_get C hH 13 (Nat.le_of_ble_eq_true rfl) rfl fl_X6_22 (v := .ref (ad 1)) rfl dX6_skipBlanks_5 ?_
    refine g_get C hH 1 (Nat.le_of_ble_eq_true rfl) rfl fl_X6_41 (v := .int (σ.1 1 1)) rfl dX6_skipBlanks_8 ?_
    refine lv_icmp_ge (tgt := 44) hx hb dX6_skipBlanks_11 (by decide) (fun hq_1 => ?_) (fun hq_1 => ?_)
    · rw [if_pos hq_1] at h
      exact g_retV C hH h dX6_skipBlanks_44
    · rw [if_neg hq_1] at h
      refine lv_aload_n hx hb dX6_skipBlanks_14 rfl (lv_at hl 0 rfl) ?_
      refine g_get C hH 13 (Nat.le_of_ble_eq_true rfl) rfl fl_X6_22 (v := .ref (ad 1)) rfl dX6_skipBlanks_15 ?_
      refine lv_aload_n hx hb dX6_skipBlanks_18 rfl (lv_at hl 0 rfl) ?_
      refine g_get C hH 13 (Nat.le_of_ble_eq_true rfl) rfl fl_X6_26 (v := .int (σ.1 13 4)) rfl dX6_skipBlanks_19 ?_
      obtain ⟨r_2, σ_3, hc_4, h⟩ := bdI_ex h
      refine g_ci (g_runV (rest := []) C hH hl.1 cV_X6_46 1 (Nat.le_of_ble_eq_true rfl) rfl rfl (kX8_byteAt l D ad κ hc_4) ⟨rfl, rfl⟩ ⟨(Nat.le_of_ble_eq_true rfl), (Nat.le_of_ble_eq_true rfl)⟩ rfl rfl (Nat.le_of_ble_eq_true rfl) dX6_skipBlanks_22) hH (fun H locs hH => ?_)
      obtain ⟨r_5, σ_6, hc_7, h⟩ := bdI_ex h
      refine g_ci (g_runS (rest := []) C hH hl.1 cS_X6_50 (kX6_isBlank l D ad κ hc_7) ⟨rfl, rfl⟩ ⟨(Nat.le_of_ble_eq_true rfl), (Nat.le_of_ble_eq_true rfl)⟩ rfl rfl (Nat.le_of_ble_eq_true rfl) dX6_skipBlanks_25) hH (fun H locs hH => ?_)
      refine lv_if_eq (tgt := 44) hx hb dX6_skipBlanks_28 (by decide) (fun hq_8 => ?_) (fun hq_8 => ?_)
      · rw [if_pos hq_8] at h
        exact g_retV C hH h dX6_skipBlanks_44
      · rw [if_neg hq_8] at h
        refine lv_aload_n hx hb dX6_skipBlanks_31 rfl (lv_at hl 0 rfl) ?_
        refine lv_dup hx hb dX6_skipBlanks_32 rfl ?_
        refine g_get C hH 13 (Nat.le_of_ble_eq_true rfl) rfl fl_X6_26 (v := .int (σ_6.1 13 4)) rfl dX6_skipBlanks_33 ?_
        refine lv_iconst (v := 1) hx hb dX6_skipBlanks_36 (by decide) ?_
        refine lv_iadd hx hb dX6_skipBlanks_37 ?_
        obtain ⟨σ_9, eσ_9, h⟩ := hl_ex h
        refine g_putI C hH 13 (Nat.le_of_ble_eq_true rfl) rfl fp_X6_26 rfl rfl (Nat.le_of_ble_eq_true rfl) rfl dX6_skipBlanks_38 (fun H locs hH => ?_)
        rw [← eσ_9] at hH
        refine lv_goto (tgt := 0) hx hb dX6_skipBlanks_41 (by decide) ?_
        exact ih _ _ _ _ h hH (lv_sub hl [0] rfl)
set_option maxHeartbeats 4000000 in
set_option maxRecDepth 100000 in
theorem kX6_skipBlanks (l : Launch) (D : va_G) (ad : Nat → Nat) (κ : KC) {σ : HS} {R : HS} (h : FX6_skipBlanks σ = some R) : MtV l 50 ceX D ad κ yX6_skipBlanks cX6_skipBlanks 1 none ({ frames := 1, cells := 0, slots := 0, locals := 21 } : Room) [.ref (ad 13)] σ R := by
  refine open_ (by decide) (Nat.le_of_ble_eq_true rfl) (la := [(0, .ref (ad 13))]) rfl ?_
  intro p e s m below meth c ls C hH hl
  replace C : Cx 50 D ad κ p s m _ meth c cX6_skipBlanks RX6 1 none := C
  have hx := C.1
  have hb := C.2.1
  have hown := C.2.2.2.1
  have hts := C.2.2.2.2.1
  rw [FX6_skipBlanks] at h
  exact wX6_skipBlanks_0 C _ _ _ _ _ h hH (lv_sub hl [0] rfl)
-- X6_isDigit
def FX6_isDigit (x0 : Int32) (σ : HS) : Option (Int32 × HS) :=
  if x0 < (48 : Int32) then some ((0 : Int32), σ) else if (57 : Int32) < x0 then some ((0 : Int32), σ) else some ((1 : Int32), σ)
set_option maxHeartbeats 4000000 in
set_option maxRecDepth 100000 in
theorem kX6_isDigit (l : Launch) (D : va_G) (ad : Nat → Nat) (κ : KC) {x0 : Int32} {σ : HS} {R : (Int32 × HS)} (h : FX6_isDigit x0 σ = some R) : MtI l 50 ceX D ad κ yX6_isDigit cX6_isDigit 1 (some .boolean) ({ frames := 0, cells := 0, slots := 0, locals := 0 } : Room) [.int x0] σ R := by
  refine open_ (by decide) (Nat.le_of_ble_eq_true rfl) (la := [(0, .int x0)]) rfl ?_
  intro p e s m below meth c ls C hH hl
  replace C : Cx 50 D ad κ p s m _ meth c cX6_isDigit RX6 1 (some .boolean) := C
  have hx := C.1
  have hb := C.2.1
  have hown := C.2.2.2.1
  have hts := C.2.2.2.2.1
  rw [FX6_isDigit] at h
  refine lv_bipush (v := 48) hx hb dX6_isDigit_0 (by decide) ?_
  refine lv_iload_n hx hb dX6_isDigit_2 rfl (lv_at hl 0 rfl) ?_
  refine lv_icmp_gt (tgt := 16) hx hb dX6_isDigit_3 (by decide) (fun hq_1 => ?_) (fun hq_1 => ?_)
  · rw [if_pos hq_1] at h
    refine lv_iconst (v := 0) hx hb dX6_isDigit_16 (by decide) ?_
    exact g_retZ C hH rfl h dX6_isDigit_17
  · rw [if_neg hq_1] at h
    refine lv_iload_n hx hb dX6_isDigit_6 rfl (lv_at hl 0 rfl) ?_
    refine lv_bipush (v := 57) hx hb dX6_isDigit_7 (by decide) ?_
    refine lv_icmp_gt (tgt := 16) hx hb dX6_isDigit_9 (by decide) (fun hq_2 => ?_) (fun hq_2 => ?_)
    · rw [if_pos hq_2] at h
      refine lv_iconst (v := 0) hx hb dX6_isDigit_16 (by decide) ?_
      exact g_retZ C hH rfl h dX6_isDigit_17
    · rw [if_neg hq_2] at h
      refine lv_iconst (v := 1) hx hb dX6_isDigit_12 (by decide) ?_
      refine lv_goto (tgt := 17) hx hb dX6_isDigit_13 (by decide) ?_
      exact g_retZ C hH rfl h dX6_isDigit_17
-- X6_scanDigits
def FX6_scanDigits_78  (x1 : Int32) (σ : HS) : Option (Int32 × HS) :=
  if ((σ.1 13 4) - x1) ≤ (4 : Int32) then some ((23 : Int32), σ) else some ((25 : Int32), σ)
def FX6_scanDigits_5  : Nat → Int32 → HS → Option (Int32 × HS)
  | 0, _, _ => none
  | f + 1, x1, σ => if (σ.1 1 1) ≤ (σ.1 13 4) then FX6_scanDigits_78 x1 σ else bdI (FX8_byteAt (σ.1 13 4) σ) fun r_3 σ_4 => bdI (FX6_isDigit r_3 σ_4) fun r_6 σ_7 => if r_6 = 0 then FX6_scanDigits_78 x1 σ_7 else bdI (FX8_byteAt (σ_7.1 13 4) σ_7) fun r_10 σ_11 => hl_ (pL σ_11 13 5 ((((σ_7.2 13 5) * (10 : Int64)) + (r_10.toInt64)) - (48 : Int64))) fun σ_13 => hl_ (pI σ_13 13 4 ((σ_13.1 13 4) + (1 : Int32))) fun σ_14 => FX6_scanDigits_5  f x1 σ_14
def FX6_scanDigits (σ : HS) : Option (Int32 × HS) :=
  hl_ (σ.1 13 4) fun x1_15 => FX6_scanDigits_5 fu x1_15 σ
set_option maxHeartbeats 4000000 in
set_option maxRecDepth 100000 in
theorem wX6_scanDigits_78 (C : Cx 50 D ad κ p s m args meth c cX6_scanDigits RX6 2 (some .int)) {R : (Int32 × HS)} : ∀ (x1 : Int32) (σ : HS) (H : Heap) (locs : List Loc) (ls : Array Slot), FX6_scanDigits_78  x1 σ = some R → Hd 50 ceX D ad κ s σ H locs → lv_has ls 2 [(0, .ref (ad 13)), (1, .int x1)] → W p l e ({ frames := 1, cells := 0, slots := 0, locals := 21 } : Room) s m args below meth c H locs 0 0 (MQ below (QI 50 ceX D ad κ R) args s 0 0 (AX 50 ad)) (F0 m 78 ls []) := by
  have hx := C.1
  have hb := C.2.1
  have hown := C.2.2.2.1
  have hts := C.2.2.2.2.1
  intro x1 σ H locs ls h hH hl
  rw [FX6_scanDigits_78] at h
  refine lv_aload_n hx hb dX6_scanDigits_78 rfl (lv_at hl 0 rfl) ?_
  refine g_get C hH 13 (Nat.le_of_ble_eq_true rfl) rfl fl_X6_26 (v := .int (σ.1 13 4)) rfl dX6_scanDigits_79 ?_
  refine lv_iload_n hx hb dX6_scanDigits_82 rfl (lv_at hl 1 rfl) ?_
  refine lv_isub hx hb dX6_scanDigits_83 ?_
  refine lv_iconst (v := 4) hx hb dX6_scanDigits_84 (by decide) ?_
  refine lv_icmp_le (tgt := 93) hx hb dX6_scanDigits_85 (by decide) (fun hq_1 => ?_) (fun hq_1 => ?_)
  · rw [if_pos hq_1] at h
    refine lv_bipush (v := 23) hx hb dX6_scanDigits_93 (by decide) ?_
    exact g_ret C hH h dX6_scanDigits_95
  · rw [if_neg hq_1] at h
    refine lv_bipush (v := 25) hx hb dX6_scanDigits_88 (by decide) ?_
    refine lv_goto (tgt := 95) hx hb dX6_scanDigits_90 (by decide) ?_
    exact g_ret C hH h dX6_scanDigits_95
set_option maxHeartbeats 4000000 in
set_option maxRecDepth 100000 in
theorem wX6_scanDigits_5 (C : Cx 50 D ad κ p s m args meth c cX6_scanDigits RX6 2 (some .int)) {R : (Int32 × HS)} : ∀ (f : Nat) (x1 : Int32) (σ : HS) (H : Heap) (locs : List Loc) (ls : Array Slot), FX6_scanDigits_5  f x1 σ = some R → Hd 50 ceX D ad κ s σ H locs → lv_has ls 2 [(0, .ref (ad 13)), (1, .int x1)] → W p l e ({ frames := 1, cells := 0, slots := 0, locals := 21 } : Room) s m args below meth c H locs 0 0 (MQ below (QI 50 ceX D ad κ R) args s 0 0 (AX 50 ad)) (F0 m 5 ls []) := by
  have hx := C.1
  have hb := C.2.1
  have hown := C.2.2.2.1
  have hts := C.2.2.2.2.1
  intro f
  induction f with
  | zero =>
    intro x1 σ H locs ls h hH hl
    cases h
  | succ f ih =>
    intro x1 σ H locs ls h hH hl
    rw [FX6_scanDigits_5] at h
    refine lv_aload_n hx hb dX6_scanDigits_5 rfl (lv_at hl 0 rfl) ?_
    refine g_get C hH 13 (Nat.le_of_ble_eq_true rfl) rfl fl_X6_26 (v := .int (σ.1 13 4)) rfl dX6_scanDigits_6 ?_
    refine lv_aload_n hx hb dX6_scanDigits_9 rfl (lv_at hl 0 rfl) ?_
    refine g_get C hH 13 (Nat.le_of_ble_eq_true rfl) rfl fl_X6_22 (v := .ref (ad 1)) rfl dX6_scanDigits_10 ?_
    refine g_get C hH 1 (Nat.le_of_ble_eq_true rfl) rfl fl_X6_41 (v := .int (σ.1 1 1)) rfl dX6_scanDigits_13 ?_
    refine lv_icmp_ge (tgt := 78) hx hb dX6_scanDigits_16 (by decide) (fun hq_2 => ?_) (fun hq_2 => ?_)
    · rw [if_pos hq_2] at h
      exact wX6_scanDigits_78 C  _ _ _ _ _ h hH (lv_sub hl [0, 1] rfl)
    · rw [if_neg hq_2] at h
      refine lv_aload_n hx hb dX6_scanDigits_19 rfl (lv_at hl 0 rfl) ?_
      refine g_get C hH 13 (Nat.le_of_ble_eq_true rfl) rfl fl_X6_22 (v := .ref (ad 1)) rfl dX6_scanDigits_20 ?_
      refine lv_aload_n hx hb dX6_scanDigits_23 rfl (lv_at hl 0 rfl) ?_
      refine g_get C hH 13 (Nat.le_of_ble_eq_true rfl) rfl fl_X6_26 (v := .int (σ.1 13 4)) rfl dX6_scanDigits_24 ?_
      obtain ⟨r_3, σ_4, hc_5, h⟩ := bdI_ex h
      refine g_ci (g_runV (rest := []) C hH hl.1 cV_X6_46 1 (Nat.le_of_ble_eq_true rfl) rfl rfl (kX8_byteAt l D ad κ hc_5) ⟨rfl, rfl⟩ ⟨(Nat.le_of_ble_eq_true rfl), (Nat.le_of_ble_eq_true rfl)⟩ rfl rfl (Nat.le_of_ble_eq_true rfl) dX6_scanDigits_27) hH (fun H locs hH => ?_)
      obtain ⟨r_6, σ_7, hc_8, h⟩ := bdI_ex h
      refine g_ci (g_runS (rest := []) C hH hl.1 cS_X6_60 (kX6_isDigit l D ad κ hc_8) ⟨rfl, rfl⟩ ⟨(Nat.le_of_ble_eq_true rfl), (Nat.le_of_ble_eq_true rfl)⟩ rfl rfl (Nat.le_of_ble_eq_true rfl) dX6_scanDigits_30) hH (fun H locs hH => ?_)
      refine lv_if_eq (tgt := 78) hx hb dX6_scanDigits_33 (by decide) (fun hq_9 => ?_) (fun hq_9 => ?_)
      · rw [if_pos hq_9] at h
        exact wX6_scanDigits_78 C  _ _ _ _ _ h hH (lv_sub hl [0, 1] rfl)
      · rw [if_neg hq_9] at h
        refine lv_aload_n hx hb dX6_scanDigits_36 rfl (lv_at hl 0 rfl) ?_
        refine lv_aload_n hx hb dX6_scanDigits_37 rfl (lv_at hl 0 rfl) ?_
        refine g_get C hH 13 (Nat.le_of_ble_eq_true rfl) rfl fl_X6_37 (v := .long (σ_7.2 13 5)) rfl dX6_scanDigits_38 ?_
        refine lv_ldc2 (v := 10) hx hb hown (hts _ kl_X6_81) dX6_scanDigits_41 ?_
        refine lv_lmul hx hb dX6_scanDigits_44 ?_
        refine lv_aload_n hx hb dX6_scanDigits_45 rfl (lv_at hl 0 rfl) ?_
        refine g_get C hH 13 (Nat.le_of_ble_eq_true rfl) rfl fl_X6_22 (v := .ref (ad 1)) rfl dX6_scanDigits_46 ?_
        refine lv_aload_n hx hb dX6_scanDigits_49 rfl (lv_at hl 0 rfl) ?_
        refine g_get C hH 13 (Nat.le_of_ble_eq_true rfl) rfl fl_X6_26 (v := .int (σ_7.1 13 4)) rfl dX6_scanDigits_50 ?_
        obtain ⟨r_10, σ_11, hc_12, h⟩ := bdI_ex h
        refine g_ci (g_runV (rest := [.long ((σ_7.2 13 5) * (10 : Int64)), .ref (ad 13)]) C hH hl.1 cV_X6_46 1 (Nat.le_of_ble_eq_true rfl) rfl rfl (kX8_byteAt l D ad κ hc_12) ⟨rfl, rfl⟩ ⟨(Nat.le_of_ble_eq_true rfl), (Nat.le_of_ble_eq_true rfl)⟩ rfl rfl (Nat.le_of_ble_eq_true rfl) dX6_scanDigits_53) hH (fun H locs hH => ?_)
        refine lv_i2l (v := (r_10.toInt64)) hx hb dX6_scanDigits_56 rfl ?_
        refine lv_ladd hx hb dX6_scanDigits_57 ?_
        refine lv_ldc2 (v := 48) hx hb hown (hts _ kl_X6_83) dX6_scanDigits_58 ?_
        refine lv_lsub hx hb dX6_scanDigits_61 ?_
        obtain ⟨σ_13, eσ_13, h⟩ := hl_ex h
        refine g_putL C hH 13 (Nat.le_of_ble_eq_true rfl) rfl fp_X6_37 (Nat.le_of_ble_eq_true rfl) rfl dX6_scanDigits_62 (fun H locs hH => ?_)
        rw [← eσ_13] at hH
        refine lv_aload_n hx hb dX6_scanDigits_65 rfl (lv_at hl 0 rfl) ?_
        refine lv_dup hx hb dX6_scanDigits_66 rfl ?_
        refine g_get C hH 13 (Nat.le_of_ble_eq_true rfl) rfl fl_X6_26 (v := .int (σ_13.1 13 4)) rfl dX6_scanDigits_67 ?_
        refine lv_iconst (v := 1) hx hb dX6_scanDigits_70 (by decide) ?_
        refine lv_iadd hx hb dX6_scanDigits_71 ?_
        obtain ⟨σ_14, eσ_14, h⟩ := hl_ex h
        refine g_putI C hH 13 (Nat.le_of_ble_eq_true rfl) rfl fp_X6_26 rfl rfl (Nat.le_of_ble_eq_true rfl) rfl dX6_scanDigits_72 (fun H locs hH => ?_)
        rw [← eσ_14] at hH
        refine lv_goto (tgt := 5) hx hb dX6_scanDigits_75 (by decide) ?_
        exact ih _ _ _ _ _ h hH (lv_sub hl [0, 1] rfl)
set_option maxHeartbeats 4000000 in
set_option maxRecDepth 100000 in
theorem kX6_scanDigits (l : Launch) (D : va_G) (ad : Nat → Nat) (κ : KC) {σ : HS} {R : (Int32 × HS)} (h : FX6_scanDigits σ = some R) : MtI l 50 ceX D ad κ yX6_scanDigits cX6_scanDigits 2 (some .int) ({ frames := 1, cells := 0, slots := 0, locals := 21 } : Room) [.ref (ad 13)] σ R := by
  refine open_ (by decide) (Nat.le_of_ble_eq_true rfl) (la := [(0, .ref (ad 13))]) rfl ?_
  intro p e s m below meth c ls C hH hl
  replace C : Cx 50 D ad κ p s m _ meth c cX6_scanDigits RX6 2 (some .int) := C
  have hx := C.1
  have hb := C.2.1
  have hown := C.2.2.2.1
  have hts := C.2.2.2.2.1
  rw [FX6_scanDigits] at h
  refine lv_aload_n hx hb dX6_scanDigits_0 rfl (lv_at hl 0 rfl) ?_
  refine g_get C hH 13 (Nat.le_of_ble_eq_true rfl) rfl fl_X6_26 (v := .int (σ.1 13 4)) rfl dX6_scanDigits_1 ?_
  obtain ⟨x1_15, ex1_15, h⟩ := hl_ex h
  refine lv_eqi ex1_15 ?_
  refine lv_istore_n (lv' := [(1, .int x1_15), (0, .ref (ad 13))]) hx hb dX6_scanDigits_4 rfl hl (by decide) rfl (fun ls hl => ?_)
  exact wX6_scanDigits_5 C _ _ _ _ _ _ h hH (lv_sub hl [1, 0] rfl)
-- X6_withLetter
def FX6_withLetter (x0 : Int64) (x2 : Int32) (σ : HS) : Option (Int64 × HS) :=
  some (((x0 * (27 : Int64)) + (((x2 - (97 : Int32)) + (1 : Int32)).toInt64)), σ)
set_option maxHeartbeats 4000000 in
set_option maxRecDepth 100000 in
theorem kX6_withLetter (l : Launch) (D : va_G) (ad : Nat → Nat) (κ : KC) {x0 : Int64} {x2 : Int32} {σ : HS} {R : (Int64 × HS)} (h : FX6_withLetter x0 x2 σ = some R) : MtL l 50 ceX D ad κ yX6_withLetter cX6_withLetter 3 (some .long) ({ frames := 0, cells := 0, slots := 0, locals := 0 } : Room) [.long x0, .int x2] σ R := by
  refine open_ (by decide) (Nat.le_of_ble_eq_true rfl) (la := [(0, .long x0), (2, .int x2)]) rfl ?_
  intro p e s m below meth c ls C hH hl
  replace C : Cx 50 D ad κ p s m _ meth c cX6_withLetter RX6 3 (some .long) := C
  have hx := C.1
  have hb := C.2.1
  have hown := C.2.2.2.1
  have hts := C.2.2.2.2.1
  rw [FX6_withLetter] at h
  refine lv_lload_n hx hb dX6_withLetter_0 rfl (lv_at hl 0 rfl) ?_
  refine lv_ldc2 (v := 27) hx hb hown (hts _ kl_X6_93) dX6_withLetter_1 ?_
  refine lv_lmul hx hb dX6_withLetter_4 ?_
  refine lv_iload_n hx hb dX6_withLetter_5 rfl (lv_at hl 1 rfl) ?_
  refine lv_bipush (v := 97) hx hb dX6_withLetter_6 (by decide) ?_
  refine lv_isub hx hb dX6_withLetter_8 ?_
  refine lv_iconst (v := 1) hx hb dX6_withLetter_9 (by decide) ?_
  refine lv_iadd hx hb dX6_withLetter_10 ?_
  refine lv_i2l (v := (((x2 - (97 : Int32)) + (1 : Int32)).toInt64)) hx hb dX6_withLetter_11 rfl ?_
  refine lv_ladd hx hb dX6_withLetter_12 ?_
  exact g_retL C hH h dX6_withLetter_13
-- X6_isLetter
def FX6_isLetter (x0 : Int32) (σ : HS) : Option (Int32 × HS) :=
  if x0 < (97 : Int32) then some ((0 : Int32), σ) else if (122 : Int32) < x0 then some ((0 : Int32), σ) else some ((1 : Int32), σ)
set_option maxHeartbeats 4000000 in
set_option maxRecDepth 100000 in
theorem kX6_isLetter (l : Launch) (D : va_G) (ad : Nat → Nat) (κ : KC) {x0 : Int32} {σ : HS} {R : (Int32 × HS)} (h : FX6_isLetter x0 σ = some R) : MtI l 50 ceX D ad κ yX6_isLetter cX6_isLetter 1 (some .boolean) ({ frames := 0, cells := 0, slots := 0, locals := 0 } : Room) [.int x0] σ R := by
  refine open_ (by decide) (Nat.le_of_ble_eq_true rfl) (la := [(0, .int x0)]) rfl ?_
  intro p e s m below meth c ls C hH hl
  replace C : Cx 50 D ad κ p s m _ meth c cX6_isLetter RX6 1 (some .boolean) := C
  have hx := C.1
  have hb := C.2.1
  have hown := C.2.2.2.1
  have hts := C.2.2.2.2.1
  rw [FX6_isLetter] at h
  refine lv_bipush (v := 97) hx hb dX6_isLetter_0 (by decide) ?_
  refine lv_iload_n hx hb dX6_isLetter_2 rfl (lv_at hl 0 rfl) ?_
  refine lv_icmp_gt (tgt := 16) hx hb dX6_isLetter_3 (by decide) (fun hq_1 => ?_) (fun hq_1 => ?_)
  · rw [if_pos hq_1] at h
    refine lv_iconst (v := 0) hx hb dX6_isLetter_16 (by decide) ?_
    exact g_retZ C hH rfl h dX6_isLetter_17
  · rw [if_neg hq_1] at h
    refine lv_iload_n hx hb dX6_isLetter_6 rfl (lv_at hl 0 rfl) ?_
    refine lv_bipush (v := 122) hx hb dX6_isLetter_7 (by decide) ?_
    refine lv_icmp_gt (tgt := 16) hx hb dX6_isLetter_9 (by decide) (fun hq_2 => ?_) (fun hq_2 => ?_)
    · rw [if_pos hq_2] at h
      refine lv_iconst (v := 0) hx hb dX6_isLetter_16 (by decide) ?_
      exact g_retZ C hH rfl h dX6_isLetter_17
    · rw [if_neg hq_2] at h
      refine lv_iconst (v := 1) hx hb dX6_isLetter_12 (by decide) ?_
      refine lv_goto (tgt := 17) hx hb dX6_isLetter_13 (by decide) ?_
      exact g_retZ C hH rfl h dX6_isLetter_17
end
