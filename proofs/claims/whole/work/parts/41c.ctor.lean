theorem dX11_init_0 : decode cX11_init 0 = .ok (.aload_n 0, 1) := by decide +kernel
theorem dX11_init_1 : decode cX11_init 1 = .ok (.invokespecial 3, 3) := by decide +kernel
theorem dX11_init_4 : decode cX11_init 4 = .ok (.aload_n 0, 1) := by decide +kernel
theorem dX11_init_5 : decode cX11_init 5 = .ok (.new 9, 3) := by decide +kernel
theorem dX11_init_8 : decode cX11_init 8 = .ok (.dup, 1) := by decide +kernel
theorem dX11_init_9 : decode cX11_init 9 = .ok (.invokespecial 11, 3) := by decide +kernel
theorem dX11_init_12 : decode cX11_init 12 = .ok (.putfield 12, 3) := by decide +kernel
theorem dX11_init_15 : decode cX11_init 15 = .ok (.aload_n 0, 1) := by decide +kernel
theorem dX11_init_16 : decode cX11_init 16 = .ok (.new 16, 3) := by decide +kernel
theorem dX11_init_19 : decode cX11_init 19 = .ok (.dup, 1) := by decide +kernel
theorem dX11_init_20 : decode cX11_init 20 = .ok (.aload_n 0, 1) := by decide +kernel
theorem dX11_init_21 : decode cX11_init 21 = .ok (.getfield 12, 3) := by decide +kernel
theorem dX11_init_24 : decode cX11_init 24 = .ok (.invokespecial 18, 3) := by decide +kernel
theorem dX11_init_27 : decode cX11_init 27 = .ok (.putfield 21, 3) := by decide +kernel
theorem dX11_init_30 : decode cX11_init 30 = .ok (.aload_n 0, 1) := by decide +kernel
theorem dX11_init_31 : decode cX11_init 31 = .ok (.new 25, 3) := by decide +kernel
theorem dX11_init_34 : decode cX11_init 34 = .ok (.dup, 1) := by decide +kernel
theorem dX11_init_35 : decode cX11_init 35 = .ok (.invokespecial 27, 3) := by decide +kernel
theorem dX11_init_38 : decode cX11_init 38 = .ok (.putfield 28, 3) := by decide +kernel
theorem dX11_init_41 : decode cX11_init 41 = .ok (.aload_n 0, 1) := by decide +kernel
theorem dX11_init_42 : decode cX11_init 42 = .ok (.new 32, 3) := by decide +kernel
theorem dX11_init_45 : decode cX11_init 45 = .ok (.dup, 1) := by decide +kernel
theorem dX11_init_46 : decode cX11_init 46 = .ok (.invokespecial 34, 3) := by decide +kernel
theorem dX11_init_49 : decode cX11_init 49 = .ok (.putfield 35, 3) := by decide +kernel
theorem dX11_init_52 : decode cX11_init 52 = .ok (.aload_n 0, 1) := by decide +kernel
theorem dX11_init_53 : decode cX11_init 53 = .ok (.new 32, 3) := by decide +kernel
theorem dX11_init_56 : decode cX11_init 56 = .ok (.dup, 1) := by decide +kernel
theorem dX11_init_57 : decode cX11_init 57 = .ok (.invokespecial 34, 3) := by decide +kernel
theorem dX11_init_60 : decode cX11_init 60 = .ok (.putfield 39, 3) := by decide +kernel
theorem dX11_init_63 : decode cX11_init 63 = .ok (.aload_n 0, 1) := by decide +kernel
theorem dX11_init_64 : decode cX11_init 64 = .ok (.new 42, 3) := by decide +kernel
theorem dX11_init_67 : decode cX11_init 67 = .ok (.dup, 1) := by decide +kernel
theorem dX11_init_68 : decode cX11_init 68 = .ok (.invokespecial 44, 3) := by decide +kernel
theorem dX11_init_71 : decode cX11_init 71 = .ok (.putfield 45, 3) := by decide +kernel
theorem dX11_init_74 : decode cX11_init 74 = .ok (.aload_n 0, 1) := by decide +kernel
theorem dX11_init_75 : decode cX11_init 75 = .ok (.new 49, 3) := by decide +kernel
theorem dX11_init_78 : decode cX11_init 78 = .ok (.dup, 1) := by decide +kernel
theorem dX11_init_79 : decode cX11_init 79 = .ok (.aload_n 0, 1) := by decide +kernel
theorem dX11_init_80 : decode cX11_init 80 = .ok (.getfield 28, 3) := by decide +kernel
theorem dX11_init_83 : decode cX11_init 83 = .ok (.invokespecial 51, 3) := by decide +kernel
theorem dX11_init_86 : decode cX11_init 86 = .ok (.putfield 54, 3) := by decide +kernel
theorem dX11_init_89 : decode cX11_init 89 = .ok (.aload_n 0, 1) := by decide +kernel
theorem dX11_init_90 : decode cX11_init 90 = .ok (.new 58, 3) := by decide +kernel
theorem dX11_init_93 : decode cX11_init 93 = .ok (.dup, 1) := by decide +kernel
theorem dX11_init_94 : decode cX11_init 94 = .ok (.aload_n 0, 1) := by decide +kernel
theorem dX11_init_95 : decode cX11_init 95 = .ok (.getfield 28, 3) := by decide +kernel
theorem dX11_init_98 : decode cX11_init 98 = .ok (.aload_n 0, 1) := by decide +kernel
theorem dX11_init_99 : decode cX11_init 99 = .ok (.getfield 54, 3) := by decide +kernel
theorem dX11_init_102 : decode cX11_init 102 = .ok (.invokespecial 60, 3) := by decide +kernel
theorem dX11_init_105 : decode cX11_init 105 = .ok (.putfield 63, 3) := by decide +kernel
theorem dX11_init_108 : decode cX11_init 108 = .ok (.aload_n 0, 1) := by decide +kernel
theorem dX11_init_109 : decode cX11_init 109 = .ok (.new 67, 3) := by decide +kernel
theorem dX11_init_112 : decode cX11_init 112 = .ok (.dup, 1) := by decide +kernel
theorem dX11_init_113 : decode cX11_init 113 = .ok (.aload_n 0, 1) := by decide +kernel
theorem dX11_init_114 : decode cX11_init 114 = .ok (.getfield 28, 3) := by decide +kernel
theorem dX11_init_117 : decode cX11_init 117 = .ok (.aload_n 0, 1) := by decide +kernel
theorem dX11_init_118 : decode cX11_init 118 = .ok (.getfield 54, 3) := by decide +kernel
theorem dX11_init_121 : decode cX11_init 121 = .ok (.invokespecial 69, 3) := by decide +kernel
theorem dX11_init_124 : decode cX11_init 124 = .ok (.putfield 70, 3) := by decide +kernel
theorem dX11_init_127 : decode cX11_init 127 = .ok (.aload_n 0, 1) := by decide +kernel
theorem dX11_init_128 : decode cX11_init 128 = .ok (.new 74, 3) := by decide +kernel
theorem dX11_init_131 : decode cX11_init 131 = .ok (.dup, 1) := by decide +kernel
theorem dX11_init_132 : decode cX11_init 132 = .ok (.aload_n 0, 1) := by decide +kernel
theorem dX11_init_133 : decode cX11_init 133 = .ok (.getfield 28, 3) := by decide +kernel
theorem dX11_init_136 : decode cX11_init 136 = .ok (.aload_n 0, 1) := by decide +kernel
theorem dX11_init_137 : decode cX11_init 137 = .ok (.getfield 63, 3) := by decide +kernel
theorem dX11_init_140 : decode cX11_init 140 = .ok (.invokespecial 76, 3) := by decide +kernel
theorem dX11_init_143 : decode cX11_init 143 = .ok (.putfield 79, 3) := by decide +kernel
theorem dX11_init_146 : decode cX11_init 146 = .ok (.aload_n 0, 1) := by decide +kernel
theorem dX11_init_147 : decode cX11_init 147 = .ok (.new 83, 3) := by decide +kernel
theorem dX11_init_150 : decode cX11_init 150 = .ok (.dup, 1) := by decide +kernel
theorem dX11_init_151 : decode cX11_init 151 = .ok (.aload_n 0, 1) := by decide +kernel
theorem dX11_init_152 : decode cX11_init 152 = .ok (.getfield 28, 3) := by decide +kernel
theorem dX11_init_155 : decode cX11_init 155 = .ok (.aload_n 0, 1) := by decide +kernel
theorem dX11_init_156 : decode cX11_init 156 = .ok (.getfield 63, 3) := by decide +kernel
theorem dX11_init_159 : decode cX11_init 159 = .ok (.invokespecial 85, 3) := by decide +kernel
theorem dX11_init_162 : decode cX11_init 162 = .ok (.putfield 86, 3) := by decide +kernel
theorem dX11_init_165 : decode cX11_init 165 = .ok (.aload_n 0, 1) := by decide +kernel
theorem dX11_init_166 : decode cX11_init 166 = .ok (.getfield 35, 3) := by decide +kernel
theorem dX11_init_169 : decode cX11_init 169 = .ok (.aload_n 0, 1) := by decide +kernel
theorem dX11_init_170 : decode cX11_init 170 = .ok (.getfield 28, 3) := by decide +kernel
theorem dX11_init_173 : decode cX11_init 173 = .ok (.invokevirtual 90, 3) := by decide +kernel
theorem dX11_init_176 : decode cX11_init 176 = .ok (.return_, 1) := by decide +kernel
theorem fq_X11_12 : fq RX11 12 11 0 (.object "CoughParts$Tape") := ⟨TX11, 11, tyX11, rfl, iw_X11, by decide, lg_at 400 (by decide +kernel) (by decide +kernel), rfl, tyX11_ok, nmX11, rfl, by decide +kernel⟩
theorem fq_X11_21 : fq RX11 21 11 1 (.object "CoughParts$Reader") := ⟨TX11, 11, tyX11, rfl, iw_X11, by decide, lg_at 401 (by decide +kernel) (by decide +kernel), rfl, tyX11_ok, nmX11, rfl, by decide +kernel⟩
theorem fq_X11_28 : fq RX11 28 11 2 (.object "CoughParts$Text") := ⟨TX11, 11, tyX11, rfl, iw_X11, by decide, lg_at 402 (by decide +kernel) (by decide +kernel), rfl, tyX11_ok, nmX11, rfl, by decide +kernel⟩
theorem fq_X11_35 : fq RX11 35 11 3 (.object "CoughParts$State") := ⟨TX11, 11, tyX11, rfl, iw_X11, by decide, lg_at 403 (by decide +kernel) (by decide +kernel), rfl, tyX11_ok, nmX11, rfl, by decide +kernel⟩
theorem fq_X11_39 : fq RX11 39 11 4 (.object "CoughParts$State") := ⟨TX11, 11, tyX11, rfl, iw_X11, by decide, lg_at 404 (by decide +kernel) (by decide +kernel), rfl, tyX11_ok, nmX11, rfl, by decide +kernel⟩
theorem fq_X11_45 : fq RX11 45 11 5 (.object "CoughParts$Past") := ⟨TX11, 11, tyX11, rfl, iw_X11, by decide, lg_at 405 (by decide +kernel) (by decide +kernel), rfl, tyX11_ok, nmX11, rfl, by decide +kernel⟩
theorem fq_X11_54 : fq RX11 54 11 6 (.object "CoughParts$Laws") := ⟨TX11, 11, tyX11, rfl, iw_X11, by decide, lg_at 406 (by decide +kernel) (by decide +kernel), rfl, tyX11_ok, nmX11, rfl, by decide +kernel⟩
theorem fq_X11_63 : fq RX11 63 11 7 (.object "CoughParts$Chances") := ⟨TX11, 11, tyX11, rfl, iw_X11, by decide, lg_at 407 (by decide +kernel) (by decide +kernel), rfl, tyX11_ok, nmX11, rfl, by decide +kernel⟩
theorem fq_X11_70 : fq RX11 70 11 8 (.object "CoughParts$Preacher") := ⟨TX11, 11, tyX11, rfl, iw_X11, by decide, lg_at 408 (by decide +kernel) (by decide +kernel), rfl, tyX11_ok, nmX11, rfl, by decide +kernel⟩
theorem fq_X11_79 : fq RX11 79 11 9 (.object "CoughParts$Coverage") := ⟨TX11, 11, tyX11, rfl, iw_X11, by decide, lg_at 409 (by decide +kernel) (by decide +kernel), rfl, tyX11_ok, nmX11, rfl, by decide +kernel⟩
theorem fq_X11_86 : fq RX11 86 11 10 (.object "CoughParts$Witness") := ⟨TX11, 11, tyX11, rfl, iw_X11, by decide, lg_at 410 (by decide +kernel) (by decide +kernel), rfl, tyX11_ok, nmX11, rfl, by decide +kernel⟩
theorem nw_X11_9 : nw RX11 9 8 [.null, .int 0] := ⟨RX8, TX8, tyX8, rfl, iw_X8, tyX8_ok, lg_at 31 (by decide +kernel) (by decide +kernel), lg_at 32 (by decide +kernel) (by decide +kernel), lg_at 2 (by decide +kernel) (by decide +kernel), fun j hj => match j, hj with | 0, _ => rfl | 1, _ => rfl | n + 2, h => absurd h (by simp)⟩
theorem nw_X11_16 : nw RX11 16 5 [.null, .int 0, .null, .null, .null, .int 0, .int 0, .int 0, .int 0, .long 0, .int 0, .int 0, .int 0, .int 0] := ⟨RX5, TX5, tyX5, rfl, iw_X5, tyX5_ok, lg_at 47 (by decide +kernel) (by decide +kernel), lg_at 48 (by decide +kernel) (by decide +kernel), lg_at 3 (by decide +kernel) (by decide +kernel), fun j hj => match j, hj with | 0, _ => rfl | 1, _ => rfl | 2, _ => rfl | 3, _ => rfl | 4, _ => rfl | 5, _ => rfl | 6, _ => rfl | 7, _ => rfl | 8, _ => rfl | 9, _ => rfl | 10, _ => rfl | 11, _ => rfl | 12, _ => rfl | 13, _ => rfl | n + 14, h => absurd h (by simp)⟩
theorem nw_X11_25 : nw RX11 25 9 [.int 0, .int 0, .int 0, .int 0, .int 0, .int 0, .null, .null, .null, .null, .null, .null, .null] := ⟨RX9, TX9, tyX9, rfl, iw_X9, tyX9_ok, lg_at 223 (by decide +kernel) (by decide +kernel), lg_at 54 (by decide +kernel) (by decide +kernel), lg_at 4 (by decide +kernel) (by decide +kernel), fun j hj => match j, hj with | 0, _ => rfl | 1, _ => rfl | 2, _ => rfl | 3, _ => rfl | 4, _ => rfl | 5, _ => rfl | 6, _ => rfl | 7, _ => rfl | 8, _ => rfl | 9, _ => rfl | 10, _ => rfl | 11, _ => rfl | 12, _ => rfl | n + 13, h => absurd h (by simp)⟩
theorem nw_X11_32 : nw RX11 32 7 [.null] := ⟨RX7, TX7, tyX7, rfl, iw_X7, tyX7_ok, lg_at 225 (by decide +kernel) (by decide +kernel), lg_at 226 (by decide +kernel) (by decide +kernel), lg_at 7 (by decide +kernel) (by decide +kernel), fun j hj => match j, hj with | 0, _ => rfl | n + 1, h => absurd h (by simp)⟩
theorem nw_X11_42 : nw RX11 42 3 [.null, .null, .null, .int 0, .int 0] := ⟨RX3, TX3, tyX3, rfl, iw_X3, tyX3_ok, lg_at 239 (by decide +kernel) (by decide +kernel), lg_at 240 (by decide +kernel) (by decide +kernel), lg_at 8 (by decide +kernel) (by decide +kernel), fun j hj => match j, hj with | 0, _ => rfl | 1, _ => rfl | 2, _ => rfl | 3, _ => rfl | 4, _ => rfl | n + 5, h => absurd h (by simp)⟩
theorem nw_X11_49 : nw RX11 49 2 [.null, .null, .null] := ⟨RX2, TX2, tyX2, rfl, iw_X2, tyX2_ok, lg_at 263 (by decide +kernel) (by decide +kernel), lg_at 264 (by decide +kernel) (by decide +kernel), lg_at 9 (by decide +kernel) (by decide +kernel), fun j hj => match j, hj with | 0, _ => rfl | 1, _ => rfl | 2, _ => rfl | n + 3, h => absurd h (by simp)⟩
theorem nw_X11_58 : nw RX11 58 0 [.null, .null, .null, .null, .null, .null, .int 0, .int 0, .int 0] := ⟨RX0, TX0, tyX0, rfl, iw_X0, tyX0_ok, lg_at 279 (by decide +kernel) (by decide +kernel), lg_at 280 (by decide +kernel) (by decide +kernel), lg_at 10 (by decide +kernel) (by decide +kernel), fun j hj => match j, hj with | 0, _ => rfl | 1, _ => rfl | 2, _ => rfl | 3, _ => rfl | 4, _ => rfl | 5, _ => rfl | 6, _ => rfl | 7, _ => rfl | 8, _ => rfl | n + 9, h => absurd h (by simp)⟩
theorem nw_X11_67 : nw RX11 67 4 [.null, .null] := ⟨RX4, TX4, tyX4, rfl, iw_X4, tyX4_ok, lg_at 318 (by decide +kernel) (by decide +kernel), lg_at 319 (by decide +kernel) (by decide +kernel), lg_at 11 (by decide +kernel) (by decide +kernel), fun j hj => match j, hj with | 0, _ => rfl | 1, _ => rfl | n + 2, h => absurd h (by simp)⟩
theorem nw_X11_74 : nw RX11 74 1 [.null, .null, .null] := ⟨RX1, TX1, tyX1, rfl, iw_X1, tyX1_ok, lg_at 331 (by decide +kernel) (by decide +kernel), lg_at 332 (by decide +kernel) (by decide +kernel), lg_at 12 (by decide +kernel) (by decide +kernel), fun j hj => match j, hj with | 0, _ => rfl | 1, _ => rfl | 2, _ => rfl | n + 3, h => absurd h (by simp)⟩
theorem nw_X11_83 : nw RX11 83 10 [.null, .null, .null, .null, .null, .null, .int 0, .int 0, .int 0, .int 0, .int 0] := ⟨RX10, TX10, tyX10, rfl, iw_X10, tyX10_ok, lg_at 347 (by decide +kernel) (by decide +kernel), lg_at 348 (by decide +kernel) (by decide +kernel), lg_at 13 (by decide +kernel) (by decide +kernel), fun j hj => match j, hj with | 0, _ => rfl | 1, _ => rfl | 2, _ => rfl | 3, _ => rfl | 4, _ => rfl | 5, _ => rfl | 6, _ => rfl | 7, _ => rfl | 8, _ => rfl | 9, _ => rfl | 10, _ => rfl | n + 11, h => absurd h (by simp)⟩
theorem cI_X11_11 : cI RX11 11 yX8_init cX8_init 1 0 := ⟨Or.inr (List.mem_of_getElem? (i := 2) rfl), ⟨lg_at 34 (by decide +kernel) (by decide +kernel), lg_at 2 (by decide +kernel) (by decide +kernel), lg_at 35 (by decide +kernel) (by decide +kernel), rfl⟩, by decide +kernel, by decide +kernel, by decide +kernel⟩
theorem cI_X11_18 : cI RX11 18 yX5_init cX5_init 2 1 := ⟨Or.inl (lg_at 49 (by decide +kernel) (by decide +kernel)), ⟨lg_at 50 (by decide +kernel) (by decide +kernel), lg_at 3 (by decide +kernel) (by decide +kernel), lg_at 51 (by decide +kernel) (by decide +kernel), rfl⟩, by decide +kernel, by decide +kernel, by decide +kernel⟩
theorem cI_X11_27 : cI RX11 27 yX9_init cX9_init 1 0 := ⟨Or.inl (lg_at 224 (by decide +kernel) (by decide +kernel)), ⟨lg_at 56 (by decide +kernel) (by decide +kernel), lg_at 4 (by decide +kernel) (by decide +kernel), lg_at 57 (by decide +kernel) (by decide +kernel), rfl⟩, by decide +kernel, by decide +kernel, by decide +kernel⟩
theorem cI_X11_34 : cI RX11 34 yX7_init cX7_init 1 0 := ⟨Or.inr (List.mem_of_getElem? (i := 3) rfl), ⟨lg_at 228 (by decide +kernel) (by decide +kernel), lg_at 7 (by decide +kernel) (by decide +kernel), lg_at 229 (by decide +kernel) (by decide +kernel), rfl⟩, by decide +kernel, by decide +kernel, by decide +kernel⟩
theorem cI_X11_44 : cI RX11 44 yX3_init cX3_init 1 0 := ⟨Or.inr (List.mem_of_getElem? (i := 4) rfl), ⟨lg_at 242 (by decide +kernel) (by decide +kernel), lg_at 8 (by decide +kernel) (by decide +kernel), lg_at 243 (by decide +kernel) (by decide +kernel), rfl⟩, by decide +kernel, by decide +kernel, by decide +kernel⟩
theorem cI_X11_51 : cI RX11 51 yX2_init cX2_init 2 1 := ⟨Or.inl (lg_at 265 (by decide +kernel) (by decide +kernel)), ⟨lg_at 266 (by decide +kernel) (by decide +kernel), lg_at 9 (by decide +kernel) (by decide +kernel), lg_at 267 (by decide +kernel) (by decide +kernel), rfl⟩, by decide +kernel, by decide +kernel, by decide +kernel⟩
theorem cI_X11_60 : cI RX11 60 yX0_init cX0_init 3 2 := ⟨Or.inl (lg_at 281 (by decide +kernel) (by decide +kernel)), ⟨lg_at 282 (by decide +kernel) (by decide +kernel), lg_at 10 (by decide +kernel) (by decide +kernel), lg_at 283 (by decide +kernel) (by decide +kernel), rfl⟩, by decide +kernel, by decide +kernel, by decide +kernel⟩
theorem cI_X11_69 : cI RX11 69 yX4_init cX4_init 3 2 := ⟨Or.inl (lg_at 320 (by decide +kernel) (by decide +kernel)), ⟨lg_at 321 (by decide +kernel) (by decide +kernel), lg_at 11 (by decide +kernel) (by decide +kernel), lg_at 322 (by decide +kernel) (by decide +kernel), rfl⟩, by decide +kernel, by decide +kernel, by decide +kernel⟩
theorem cI_X11_76 : cI RX11 76 yX1_init cX1_init 3 2 := ⟨Or.inl (lg_at 333 (by decide +kernel) (by decide +kernel)), ⟨lg_at 334 (by decide +kernel) (by decide +kernel), lg_at 12 (by decide +kernel) (by decide +kernel), lg_at 335 (by decide +kernel) (by decide +kernel), rfl⟩, by decide +kernel, by decide +kernel, by decide +kernel⟩
theorem cI_X11_85 : cI RX11 85 yX10_init cX10_init 3 2 := ⟨Or.inl (lg_at 349 (by decide +kernel) (by decide +kernel)), ⟨lg_at 350 (by decide +kernel) (by decide +kernel), lg_at 13 (by decide +kernel) (by decide +kernel), lg_at 351 (by decide +kernel) (by decide +kernel), rfl⟩, by decide +kernel, by decide +kernel, by decide +kernel⟩
theorem ko_X11 : Cond.methodLink RX11 3 Lib.objectInit ∈ lg_tbl := lg_at 28 (by decide +kernel) (by decide +kernel)
section
variable {p : Program} {l : Launch} {e : Env} {s : State} {m : MethodId} {args : Array Value} {below : List Frame} {meth : Method} {c : Code} {D : va_G} {ad : Nat → Nat} {κ : KC}
def FX11_init_tail (σ : HS) : Option HS :=
  bdV (FX7_begin σ) fun σ_1 => some σ_1
set_option maxHeartbeats 4000000 in
set_option maxRecDepth 100000 in
theorem wX11_init_tail {Q : State → Prop} {cells slots : Nat} (C : Cx 50 D ad κ p s m args meth c cX11_init RX11 1 none) (hcs : cells ≤ ({ frames := 5, cells := 49, slots := 7113, locals := 106 } : Room).cells ∧ slots ≤ ({ frames := 5, cells := 49, slots := 7113, locals := 106 } : Room).slots) {R : HS} (hE : ∀ (H : Heap) (locs : List Loc) (ls : Array Slot), Hd 50 ceX D ad κ s R H locs → lv_has ls 1 [(0, .ref (ad 0))] → W p l e ({ frames := 5, cells := 49, slots := 7113, locals := 106 } : Room) s m args below meth c H locs cells slots Q (F0 m 176 ls [])) : ∀ (σ : HS) (H : Heap) (locs : List Loc) (ls : Array Slot), FX11_init_tail σ = some R → Hd 50 ceX D ad κ s σ H locs → lv_has ls 1 [(0, .ref (ad 0))] → W p l e ({ frames := 5, cells := 49, slots := 7113, locals := 106 } : Room) s m args below meth c H locs cells slots Q (F0 m 165 ls []) := by
  have hx := C.1
  have hb := C.2.1
  have hown := C.2.2.2.1
  have hts := C.2.2.2.2.1
  intro σ H locs ls h hH hl
  rw [FX11_init_tail] at h
  refine lv_aload_n hx hb dX11_init_165 rfl (lv_at hl 0 rfl) ?_
  refine g_get C hH 0 (Nat.le_of_ble_eq_true rfl) rfl fl_X11_35 (v := .ref (ad 4)) rfl dX11_init_166 ?_
  refine lv_aload_n hx hb dX11_init_169 rfl (lv_at hl 0 rfl) ?_
  refine g_get C hH 0 (Nat.le_of_ble_eq_true rfl) rfl fl_X11_28 (v := .ref (ad 3)) rfl dX11_init_170 ?_
  obtain ⟨σ_1, hc_2, h⟩ := bdV_ex h
  refine g_cv (g_runV (rest := []) C hH hl.1 cV_X11_90 4 (Nat.le_of_ble_eq_true rfl) rfl rfl (kX7_begin l D ad κ hc_2) ⟨rfl, rfl⟩ ⟨(Nat.le_of_ble_eq_true rfl), (Nat.le_of_ble_eq_true rfl)⟩ rfl rfl (Nat.le_of_ble_eq_true rfl) dX11_init_173 hcs) hH (fun H locs hH => ?_)
  cases h
  exact hE _ _ _ hH hl
end
def σXof (τ : HS) : HS := (fun h => match h with | 2 => upd (fun _ => 0) 1 (-1) | 3 => τ.1 0 | 12 => τ.1 0 | 22 => τ.1 1 | 23 => τ.1 2 | 24 => τ.1 3 | 25 => τ.1 4 | 26 => τ.1 5 | 27 => τ.1 6 | 28 => τ.1 7 | 29 => τ.1 1 | 30 => τ.1 2 | 31 => τ.1 3 | 32 => τ.1 4 | 33 => τ.1 5 | 34 => τ.1 6 | 35 => τ.1 7 | _ => fun _ => 0, fun _ _ => 0)
theorem wX11_init_eq (τ : HS) (ad : Nat → Nat) (κ : KC) (sz : Nat) (a0 a1 a2 a3 a4 a5 a6 a7 a8 a9 a10 a11 a12 a13 a14 a15 a16 a17 a18 a19 a20 a21 a22 a23 a24 a25 a26 a27 a28 a29 a30 a31 a32 a33 a34 a35 a36 a37 a38 a39 a40 a41 a42 a43 a44 a45 a46 a47 a48 a49 : Nat) : ([(a0, .inr (11, [.ref a1, .ref a2, .ref a3, .ref a4, .ref a5, .ref a6, .ref a7, .ref a8, .ref a9, .ref a10, .ref a11])), (a1, .inr (8, [.ref a16, .int 0])), (a2, .inr (5, [.ref a12, .int (-1), .ref a13, .ref a17, .ref a18, .int 0, .int 0, .int 0, .int 0, .long 0, .int 0, .int 0, .int 0, .int 0])), (a3, .inr (9, [.int (τ.1 0 0), .int (τ.1 0 1), .int (τ.1 0 2), .int (τ.1 0 3), .int (τ.1 0 4), .int (τ.1 0 5), .ref a22, .ref a23, .ref a24, .ref a25, .ref a26, .ref a27, .ref a28])), (a4, .inr (7, [.ref a14])), (a5, .inr (7, [.ref a15])), (a6, .inr (3, [.ref a36, .ref a37, .ref a38, .int 0, .int 0])), (a7, .inr (2, [.ref a3, .ref a39, .ref a40])), (a8, .inr (0, [.ref a3, .ref a7, .ref a41, .ref a42, .ref a43, .ref a44, .int 0, .int 0, .int 0])), (a9, .inr (4, [.ref a3, .ref a7])), (a10, .inr (1, [.ref a3, .ref a8, .ref a45])), (a11, .inr (10, [.ref a3, .ref a8, .ref a46, .ref a47, .ref a48, .ref a49, .int 0, .int 0, .int 0, .int 0, .int 0])), (a12, .inr (9, [.int (τ.1 0 0), .int (τ.1 0 1), .int (τ.1 0 2), .int (τ.1 0 3), .int (τ.1 0 4), .int (τ.1 0 5), .ref a29, .ref a30, .ref a31, .ref a32, .ref a33, .ref a34, .ref a35])), (a13, .inr (6, [.ref a19, .ref a20, .ref a21, .ref a1, .int 0, .long 0])), (a14, .inl (κ.1, 33, .inl (fun _ => 0))), (a15, .inl (κ.1, 33, .inl (fun _ => 0))), (a16, .inl (κ.2.1, 2000, .inl (fun _ => 0))), (a17, .inl (κ.2.2.2, 5, .inr (.inl (fun _ => 0)))), (a18, .inl (κ.1, 21, .inl (fun _ => 0))), (a19, .inl (κ.1, 401, .inl (fun _ => 0))), (a20, .inl (κ.1, 401, .inl (fun _ => 0))), (a21, .inl (κ.2.2.2, 401, .inr (.inl (fun _ => 0)))), (a22, .inl (κ.1, 10, .inl (τ.1 1))), (a23, .inl (κ.1, 5, .inl (τ.1 2))), (a24, .inl (κ.1, 5, .inl (τ.1 3))), (a25, .inl (κ.1, 8, .inl (τ.1 4))), (a26, .inl (κ.1, 4, .inl (τ.1 5))), (a27, .inl (κ.1, 408, .inl (τ.1 6))), (a28, .inl (κ.1, 408, .inl (τ.1 7))), (a29, .inl (κ.1, 10, .inl (τ.1 1))), (a30, .inl (κ.1, 5, .inl (τ.1 2))), (a31, .inl (κ.1, 5, .inl (τ.1 3))), (a32, .inl (κ.1, 8, .inl (τ.1 4))), (a33, .inl (κ.1, 4, .inl (τ.1 5))), (a34, .inl (κ.1, 408, .inl (τ.1 6))), (a35, .inl (κ.1, 408, .inl (τ.1 7))), (a36, .inl (κ.1, 1320, .inl (fun _ => 0))), (a37, .inl (κ.1, 99, .inl (fun _ => 0))), (a38, .inl (κ.2.2.1, 3, .inl (fun _ => 0))), (a39, .inl (κ.1, 9, .inl (fun _ => 0))), (a40, .inl (κ.1, 16, .inl (fun _ => 0))), (a41, .inl (κ.1, 10, .inl (fun _ => 0))), (a42, .inl (κ.1, 80, .inl (fun _ => 0))), (a43, .inl (κ.1, 88, .inl (fun _ => 0))), (a44, .inl (κ.1, 88, .inl (fun _ => 0))), (a45, .inl (κ.2.2.1, 256, .inl (fun _ => 0))), (a46, .inl (κ.1, 20, .inl (fun _ => 0))), (a47, .inl (κ.1, 20, .inl (fun _ => 0))), (a48, .inl (κ.2.2.1, 20, .inl (fun _ => 0))), (a49, .inl (κ.1, 10, .inl (fun _ => 0)))] : va_W) = wG 50 ceX (adL [a0, a1, a2, a3, a4, a5, a6, a7, a8, a9, a10, a11, a12, a13, a14, a15, a16, a17, a18, a19, a20, a21, a22, a23, a24, a25, a26, a27, a28, a29, a30, a31, a32, a33, a34, a35, a36, a37, a38, a39, a40, a41, a42, a43, a44, a45, a46, a47, a48, a49] ad sz) κ (σXof τ) := by
  refine wG_of rfl (fun i hi => ?_)
  match i, hi with
  | 0, _ => rfl
  | 1, _ => rfl
  | 2, _ => rfl
  | 3, _ => rfl
  | 4, _ => rfl
  | 5, _ => rfl
  | 6, _ => rfl
  | 7, _ => rfl
  | 8, _ => rfl
  | 9, _ => rfl
  | 10, _ => rfl
  | 11, _ => rfl
  | 12, _ => rfl
  | 13, _ => rfl
  | 14, _ => rfl
  | 15, _ => rfl
  | 16, _ => rfl
  | 17, _ => rfl
  | 18, _ => rfl
  | 19, _ => rfl
  | 20, _ => rfl
  | 21, _ => rfl
  | 22, _ => rfl
  | 23, _ => rfl
  | 24, _ => rfl
  | 25, _ => rfl
  | 26, _ => rfl
  | 27, _ => rfl
  | 28, _ => rfl
  | 29, _ => rfl
  | 30, _ => rfl
  | 31, _ => rfl
  | 32, _ => rfl
  | 33, _ => rfl
  | 34, _ => rfl
  | 35, _ => rfl
  | 36, _ => rfl
  | 37, _ => rfl
  | 38, _ => rfl
  | 39, _ => rfl
  | 40, _ => rfl
  | 41, _ => rfl
  | 42, _ => rfl
  | 43, _ => rfl
  | 44, _ => rfl
  | 45, _ => rfl
  | 46, _ => rfl
  | 47, _ => rfl
  | 48, _ => rfl
  | 49, _ => rfl
  | i + 50, hi => exact absurd hi (by omega)
def σX0 : HS := σXof σT
theorem σX1_s : (FX11_init_tail σX0).isSome = true := by decide +kernel
def σX1 : HS := (FX11_init_tail σX0).get σX1_s
theorem σX1_ok : FX11_init_tail σX0 = some σX1 := (Option.some_get σX1_s).symm
set_option maxHeartbeats 4000000 in
set_option maxRecDepth 100000 in
theorem nX11 (l : Launch) (D : va_G) (κ : KC) (ad : Nat → Nat) (h0 sz : Nat) : MtC l D κ ad yX11_init cX11_init 1 ({ frames := 5, cells := 49, slots := 7113, locals := 106 } : Room) [.ref h0] [(h0, .inr (11, [.null, .null, .null, .null, .null, .null, .null, .null, .null, .null, .null]))] sz 49 7113 (fun w => ∃ ad' : Nat → Nat, ad' 0 = h0 ∧ (∀ i, 100 ≤ i → i ≤ 300 → ad' i = ad i) ∧ inj 50 ad' ∧ w = wG 50 ceX ad' κ σX1) := by
  refine openC (by decide) rfl (Nat.le_of_ble_eq_true rfl) (la := [(0, .ref h0)]) rfl ?_
  intro p e s m below meth c ls A C hP hD hS hsz hAe hl
  replace C : Cn D κ ad p s m _ meth c cX11_init RX11 1 A := C
  have hx := C.1
  have hb := C.2.1
  refine lv_aload_n hx hb dX11_init_0 rfl (lv_at hl 0 rfl) ?_
  refine n_obj C hl.1 ko_X11 ko_i ko_c dX11_init_1 (Nat.le_of_ble_eq_true rfl) (Nat.le_of_ble_eq_true rfl) ?_
  refine lv_aload_n hx hb dX11_init_4 rfl (lv_at hl 0 rfl) ?_
  refine n_new C hP hD hS nw_X11_9 (Nat.le_of_ble_eq_true rfl) (Nat.le_of_ble_eq_true rfl) dX11_init_5 (fun q5 H hP hD hS => ?_)
  refine W.cs (cells' := 1) (slots' := 2) rfl rfl ?_
  refine lv_dup hx hb dX11_init_8 rfl ?_
  refine n_callL (rest := [.ref q5, .ref h0]) C hP hD hS hl.1 cI_X11_11 (nX8 l D κ ad q5 _) ⟨rfl, rfl⟩ ⟨(Nat.le_of_ble_eq_true rfl), (Nat.le_of_ble_eq_true rfl)⟩ rfl rfl (Nat.le_of_ble_eq_true rfl) dX11_init_9 ⟨(Nat.le_of_ble_eq_true rfl), (Nat.le_of_ble_eq_true rfl)⟩ (fun w H locs hw hP hD hS => ?_)
  obtain ⟨q8_9, rfl⟩ := hw
  obtain ⟨w1, ew1⟩ : ∃ w : va_W, w = ([] : va_W) ++ [(q5, .inr (8, [.ref q8_9, .int 0])), (q8_9, .inl (κ.2.1, 2000, .inl (fun _ => 0)))] := ⟨_, rfl⟩
  replace hP : va_P D classes ((h0, .inr (11, [.null, .null, .null, .null, .null, .null, .null, .null, .null, .null, .null])) :: w1) H := by rw [ew1]; exact hP
  replace hD : va_D A ((h0, .inr (11, [.null, .null, .null, .null, .null, .null, .null, .null, .null, .null, .null])) :: w1) := by rw [ew1]; exact hD
  refine W.cs (cells' := 2) (slots' := 2002) rfl rfl ?_
  refine n_putR C (by decide) hP hD hS 0 rfl fq_X11_12 rfl rfl (Nat.le_of_ble_eq_true rfl) dX11_init_12 (fun H locs hP hD hS => ?_)
  replace hP : va_P D classes ((h0, .inr (11, [.ref q5, .null, .null, .null, .null, .null, .null, .null, .null, .null, .null])) :: w1) H := by exact hP
  replace hD : va_D A ((h0, .inr (11, [.ref q5, .null, .null, .null, .null, .null, .null, .null, .null, .null, .null])) :: w1) := by exact hD
  refine lv_aload_n hx hb dX11_init_15 rfl (lv_at hl 0 rfl) ?_
  refine n_new C hP hD hS nw_X11_16 (Nat.le_of_ble_eq_true rfl) (Nat.le_of_ble_eq_true rfl) dX11_init_16 (fun q16 H hP hD hS => ?_)
  refine W.cs (cells' := 3) (slots' := 2016) rfl rfl ?_
  refine lv_dup hx hb dX11_init_19 rfl ?_
  refine lv_aload_n hx hb dX11_init_20 rfl (lv_at hl 0 rfl) ?_
  refine n_get C hP 0 rfl fl_X11_12 (v := .ref q5) rfl dX11_init_21 ?_
  refine n_callL (rest := [.ref q16, .ref h0]) C hP hD hS hl.1 cI_X11_18 (nX5 l D κ ad q16 _ q5) ⟨rfl, rfl⟩ ⟨(Nat.le_of_ble_eq_true rfl), (Nat.le_of_ble_eq_true rfl)⟩ rfl rfl (Nat.le_of_ble_eq_true rfl) dX11_init_24 ⟨(Nat.le_of_ble_eq_true rfl), (Nat.le_of_ble_eq_true rfl)⟩ (fun w H locs hw hP hD hS => ?_)
  obtain ⟨q5_24, q7_9_24, q14_9_24, q21_9_24, q29_9_24, q36_9_24, q45_9_24, q54_9_24, q22_24, q30_24, q36_24, q8_41_24, q17_41_24, q26_41_24, rfl⟩ := hw
  obtain ⟨w2, ew2⟩ : ∃ w : va_W, w = w1 ++ [(q16, .inr (5, [.ref q5_24, .int (-1), .ref q36_24, .ref q22_24, .ref q30_24, .int 0, .int 0, .int 0, .int 0, .long 0, .int 0, .int 0, .int 0, .int 0])), (q5_24, .inr (9, [.int (σT.1 0 0), .int (σT.1 0 1), .int (σT.1 0 2), .int (σT.1 0 3), .int (σT.1 0 4), .int (σT.1 0 5), .ref q7_9_24, .ref q14_9_24, .ref q21_9_24, .ref q29_9_24, .ref q36_9_24, .ref q45_9_24, .ref q54_9_24])), (q7_9_24, .inl (κ.1, 10, .inl (σT.1 1))), (q14_9_24, .inl (κ.1, 5, .inl (σT.1 2))), (q21_9_24, .inl (κ.1, 5, .inl (σT.1 3))), (q29_9_24, .inl (κ.1, 8, .inl (σT.1 4))), (q36_9_24, .inl (κ.1, 4, .inl (σT.1 5))), (q45_9_24, .inl (κ.1, 408, .inl (σT.1 6))), (q54_9_24, .inl (κ.1, 408, .inl (σT.1 7))), (q22_24, .inl (κ.2.2.2, 5, .inr (.inl (fun _ => 0)))), (q30_24, .inl (κ.1, 21, .inl (fun _ => 0))), (q36_24, .inr (6, [.ref q8_41_24, .ref q17_41_24, .ref q26_41_24, .ref q5, .int 0, .long 0])), (q8_41_24, .inl (κ.1, 401, .inl (fun _ => 0))), (q17_41_24, .inl (κ.1, 401, .inl (fun _ => 0))), (q26_41_24, .inl (κ.2.2.2, 401, .inr (.inl (fun _ => 0))))] := ⟨_, rfl⟩
  replace hP : va_P D classes ((h0, .inr (11, [.ref q5, .null, .null, .null, .null, .null, .null, .null, .null, .null, .null])) :: w2) H := by rw [ew2]; exact hP
  replace hD : va_D A ((h0, .inr (11, [.ref q5, .null, .null, .null, .null, .null, .null, .null, .null, .null, .null])) :: w2) := by rw [ew2]; exact hD
  refine W.cs (cells' := 17) (slots' := 4112) rfl rfl ?_
  refine n_putR C (by decide) hP hD hS 0 rfl fq_X11_21 rfl rfl (Nat.le_of_ble_eq_true rfl) dX11_init_27 (fun H locs hP hD hS => ?_)
  replace hP : va_P D classes ((h0, .inr (11, [.ref q5, .ref q16, .null, .null, .null, .null, .null, .null, .null, .null, .null])) :: w2) H := by exact hP
  replace hD : va_D A ((h0, .inr (11, [.ref q5, .ref q16, .null, .null, .null, .null, .null, .null, .null, .null, .null])) :: w2) := by exact hD
  refine lv_aload_n hx hb dX11_init_30 rfl (lv_at hl 0 rfl) ?_
  refine n_new C hP hD hS nw_X11_25 (Nat.le_of_ble_eq_true rfl) (Nat.le_of_ble_eq_true rfl) dX11_init_31 (fun q31 H hP hD hS => ?_)
  refine W.cs (cells' := 18) (slots' := 4125) rfl rfl ?_
  refine lv_dup hx hb dX11_init_34 rfl ?_
  refine n_callL (rest := [.ref q31, .ref h0]) C hP hD hS hl.1 cI_X11_27 (nX9 l D κ ad q31 _) ⟨rfl, rfl⟩ ⟨(Nat.le_of_ble_eq_true rfl), (Nat.le_of_ble_eq_true rfl)⟩ rfl rfl (Nat.le_of_ble_eq_true rfl) dX11_init_35 ⟨(Nat.le_of_ble_eq_true rfl), (Nat.le_of_ble_eq_true rfl)⟩ (fun w H locs hw hP hD hS => ?_)
  obtain ⟨q7_35, q14_35, q21_35, q29_35, q36_35, q45_35, q54_35, rfl⟩ := hw
  obtain ⟨w3, ew3⟩ : ∃ w : va_W, w = w2 ++ [(q31, .inr (9, [.int (σT.1 0 0), .int (σT.1 0 1), .int (σT.1 0 2), .int (σT.1 0 3), .int (σT.1 0 4), .int (σT.1 0 5), .ref q7_35, .ref q14_35, .ref q21_35, .ref q29_35, .ref q36_35, .ref q45_35, .ref q54_35])), (q7_35, .inl (κ.1, 10, .inl (σT.1 1))), (q14_35, .inl (κ.1, 5, .inl (σT.1 2))), (q21_35, .inl (κ.1, 5, .inl (σT.1 3))), (q29_35, .inl (κ.1, 8, .inl (σT.1 4))), (q36_35, .inl (κ.1, 4, .inl (σT.1 5))), (q45_35, .inl (κ.1, 408, .inl (σT.1 6))), (q54_35, .inl (κ.1, 408, .inl (σT.1 7)))] := ⟨_, rfl⟩
  replace hP : va_P D classes ((h0, .inr (11, [.ref q5, .ref q16, .null, .null, .null, .null, .null, .null, .null, .null, .null])) :: w3) H := by rw [ew3]; exact hP
  replace hD : va_D A ((h0, .inr (11, [.ref q5, .ref q16, .null, .null, .null, .null, .null, .null, .null, .null, .null])) :: w3) := by rw [ew3]; exact hD
  refine W.cs (cells' := 25) (slots' := 4973) rfl rfl ?_
  refine n_putR C (by decide) hP hD hS 0 rfl fq_X11_28 rfl rfl (Nat.le_of_ble_eq_true rfl) dX11_init_38 (fun H locs hP hD hS => ?_)
  replace hP : va_P D classes ((h0, .inr (11, [.ref q5, .ref q16, .ref q31, .null, .null, .null, .null, .null, .null, .null, .null])) :: w3) H := by exact hP
  replace hD : va_D A ((h0, .inr (11, [.ref q5, .ref q16, .ref q31, .null, .null, .null, .null, .null, .null, .null, .null])) :: w3) := by exact hD
  refine lv_aload_n hx hb dX11_init_41 rfl (lv_at hl 0 rfl) ?_
  refine n_new C hP hD hS nw_X11_32 (Nat.le_of_ble_eq_true rfl) (Nat.le_of_ble_eq_true rfl) dX11_init_42 (fun q42 H hP hD hS => ?_)
  refine W.cs (cells' := 26) (slots' := 4974) rfl rfl ?_
  refine lv_dup hx hb dX11_init_45 rfl ?_
  refine n_callL (rest := [.ref q42, .ref h0]) C hP hD hS hl.1 cI_X11_34 (nX7 l D κ ad q42 _) ⟨rfl, rfl⟩ ⟨(Nat.le_of_ble_eq_true rfl), (Nat.le_of_ble_eq_true rfl)⟩ rfl rfl (Nat.le_of_ble_eq_true rfl) dX11_init_46 ⟨(Nat.le_of_ble_eq_true rfl), (Nat.le_of_ble_eq_true rfl)⟩ (fun w H locs hw hP hD hS => ?_)
  obtain ⟨q7_46, rfl⟩ := hw
  obtain ⟨w4, ew4⟩ : ∃ w : va_W, w = w3 ++ [(q42, .inr (7, [.ref q7_46])), (q7_46, .inl (κ.1, 33, .inl (fun _ => 0)))] := ⟨_, rfl⟩
  replace hP : va_P D classes ((h0, .inr (11, [.ref q5, .ref q16, .ref q31, .null, .null, .null, .null, .null, .null, .null, .null])) :: w4) H := by rw [ew4]; exact hP
  replace hD : va_D A ((h0, .inr (11, [.ref q5, .ref q16, .ref q31, .null, .null, .null, .null, .null, .null, .null, .null])) :: w4) := by rw [ew4]; exact hD
  refine W.cs (cells' := 27) (slots' := 5007) rfl rfl ?_
  refine n_putR C (by decide) hP hD hS 0 rfl fq_X11_35 rfl rfl (Nat.le_of_ble_eq_true rfl) dX11_init_49 (fun H locs hP hD hS => ?_)
  replace hP : va_P D classes ((h0, .inr (11, [.ref q5, .ref q16, .ref q31, .ref q42, .null, .null, .null, .null, .null, .null, .null])) :: w4) H := by exact hP
  replace hD : va_D A ((h0, .inr (11, [.ref q5, .ref q16, .ref q31, .ref q42, .null, .null, .null, .null, .null, .null, .null])) :: w4) := by exact hD
  refine lv_aload_n hx hb dX11_init_52 rfl (lv_at hl 0 rfl) ?_
  refine n_new C hP hD hS nw_X11_32 (Nat.le_of_ble_eq_true rfl) (Nat.le_of_ble_eq_true rfl) dX11_init_53 (fun q53 H hP hD hS => ?_)
  refine W.cs (cells' := 28) (slots' := 5008) rfl rfl ?_
  refine lv_dup hx hb dX11_init_56 rfl ?_
  refine n_callL (rest := [.ref q53, .ref h0]) C hP hD hS hl.1 cI_X11_34 (nX7 l D κ ad q53 _) ⟨rfl, rfl⟩ ⟨(Nat.le_of_ble_eq_true rfl), (Nat.le_of_ble_eq_true rfl)⟩ rfl rfl (Nat.le_of_ble_eq_true rfl) dX11_init_57 ⟨(Nat.le_of_ble_eq_true rfl), (Nat.le_of_ble_eq_true rfl)⟩ (fun w H locs hw hP hD hS => ?_)
  obtain ⟨q7_57, rfl⟩ := hw
  obtain ⟨w5, ew5⟩ : ∃ w : va_W, w = w4 ++ [(q53, .inr (7, [.ref q7_57])), (q7_57, .inl (κ.1, 33, .inl (fun _ => 0)))] := ⟨_, rfl⟩
  replace hP : va_P D classes ((h0, .inr (11, [.ref q5, .ref q16, .ref q31, .ref q42, .null, .null, .null, .null, .null, .null, .null])) :: w5) H := by rw [ew5]; exact hP
  replace hD : va_D A ((h0, .inr (11, [.ref q5, .ref q16, .ref q31, .ref q42, .null, .null, .null, .null, .null, .null, .null])) :: w5) := by rw [ew5]; exact hD
  refine W.cs (cells' := 29) (slots' := 5041) rfl rfl ?_
  refine n_putR C (by decide) hP hD hS 0 rfl fq_X11_39 rfl rfl (Nat.le_of_ble_eq_true rfl) dX11_init_60 (fun H locs hP hD hS => ?_)
  replace hP : va_P D classes ((h0, .inr (11, [.ref q5, .ref q16, .ref q31, .ref q42, .ref q53, .null, .null, .null, .null, .null, .null])) :: w5) H := by exact hP
  replace hD : va_D A ((h0, .inr (11, [.ref q5, .ref q16, .ref q31, .ref q42, .ref q53, .null, .null, .null, .null, .null, .null])) :: w5) := by exact hD
  refine lv_aload_n hx hb dX11_init_63 rfl (lv_at hl 0 rfl) ?_
  refine n_new C hP hD hS nw_X11_42 (Nat.le_of_ble_eq_true rfl) (Nat.le_of_ble_eq_true rfl) dX11_init_64 (fun q64 H hP hD hS => ?_)
  refine W.cs (cells' := 30) (slots' := 5046) rfl rfl ?_
  refine lv_dup hx hb dX11_init_67 rfl ?_
  refine n_callL (rest := [.ref q64, .ref h0]) C hP hD hS hl.1 cI_X11_44 (nX3 l D κ ad q64 _) ⟨rfl, rfl⟩ ⟨(Nat.le_of_ble_eq_true rfl), (Nat.le_of_ble_eq_true rfl)⟩ rfl rfl (Nat.le_of_ble_eq_true rfl) dX11_init_68 ⟨(Nat.le_of_ble_eq_true rfl), (Nat.le_of_ble_eq_true rfl)⟩ (fun w H locs hw hP hD hS => ?_)
  obtain ⟨q8_68, q16_68, q23_68, rfl⟩ := hw
  obtain ⟨w6, ew6⟩ : ∃ w : va_W, w = w5 ++ [(q64, .inr (3, [.ref q8_68, .ref q16_68, .ref q23_68, .int 0, .int 0])), (q8_68, .inl (κ.1, 1320, .inl (fun _ => 0))), (q16_68, .inl (κ.1, 99, .inl (fun _ => 0))), (q23_68, .inl (κ.2.2.1, 3, .inl (fun _ => 0)))] := ⟨_, rfl⟩
  replace hP : va_P D classes ((h0, .inr (11, [.ref q5, .ref q16, .ref q31, .ref q42, .ref q53, .null, .null, .null, .null, .null, .null])) :: w6) H := by rw [ew6]; exact hP
  replace hD : va_D A ((h0, .inr (11, [.ref q5, .ref q16, .ref q31, .ref q42, .ref q53, .null, .null, .null, .null, .null, .null])) :: w6) := by rw [ew6]; exact hD
  refine W.cs (cells' := 33) (slots' := 6468) rfl rfl ?_
  refine n_putR C (by decide) hP hD hS 0 rfl fq_X11_45 rfl rfl (Nat.le_of_ble_eq_true rfl) dX11_init_71 (fun H locs hP hD hS => ?_)
  replace hP : va_P D classes ((h0, .inr (11, [.ref q5, .ref q16, .ref q31, .ref q42, .ref q53, .ref q64, .null, .null, .null, .null, .null])) :: w6) H := by exact hP
  replace hD : va_D A ((h0, .inr (11, [.ref q5, .ref q16, .ref q31, .ref q42, .ref q53, .ref q64, .null, .null, .null, .null, .null])) :: w6) := by exact hD
  refine lv_aload_n hx hb dX11_init_74 rfl (lv_at hl 0 rfl) ?_
  refine n_new C hP hD hS nw_X11_49 (Nat.le_of_ble_eq_true rfl) (Nat.le_of_ble_eq_true rfl) dX11_init_75 (fun q75 H hP hD hS => ?_)
  refine W.cs (cells' := 34) (slots' := 6471) rfl rfl ?_
  refine lv_dup hx hb dX11_init_78 rfl ?_
  refine lv_aload_n hx hb dX11_init_79 rfl (lv_at hl 0 rfl) ?_
  refine n_get C hP 0 rfl fl_X11_28 (v := .ref q31) rfl dX11_init_80 ?_
  refine n_callL (rest := [.ref q75, .ref h0]) C hP hD hS hl.1 cI_X11_51 (nX2 l D κ ad q75 _ q31) ⟨rfl, rfl⟩ ⟨(Nat.le_of_ble_eq_true rfl), (Nat.le_of_ble_eq_true rfl)⟩ rfl rfl (Nat.le_of_ble_eq_true rfl) dX11_init_83 ⟨(Nat.le_of_ble_eq_true rfl), (Nat.le_of_ble_eq_true rfl)⟩ (fun w H locs hw hP hD hS => ?_)
  obtain ⟨q7_83, q15_83, rfl⟩ := hw
  obtain ⟨w7, ew7⟩ : ∃ w : va_W, w = w6 ++ [(q75, .inr (2, [.ref q31, .ref q7_83, .ref q15_83])), (q7_83, .inl (κ.1, 9, .inl (fun _ => 0))), (q15_83, .inl (κ.1, 16, .inl (fun _ => 0)))] := ⟨_, rfl⟩
  replace hP : va_P D classes ((h0, .inr (11, [.ref q5, .ref q16, .ref q31, .ref q42, .ref q53, .ref q64, .null, .null, .null, .null, .null])) :: w7) H := by rw [ew7]; exact hP
  replace hD : va_D A ((h0, .inr (11, [.ref q5, .ref q16, .ref q31, .ref q42, .ref q53, .ref q64, .null, .null, .null, .null, .null])) :: w7) := by rw [ew7]; exact hD
  refine W.cs (cells' := 36) (slots' := 6496) rfl rfl ?_
  refine n_putR C (by decide) hP hD hS 0 rfl fq_X11_54 rfl rfl (Nat.le_of_ble_eq_true rfl) dX11_init_86 (fun H locs hP hD hS => ?_)
  replace hP : va_P D classes ((h0, .inr (11, [.ref q5, .ref q16, .ref q31, .ref q42, .ref q53, .ref q64, .ref q75, .null, .null, .null, .null])) :: w7) H := by exact hP
  replace hD : va_D A ((h0, .inr (11, [.ref q5, .ref q16, .ref q31, .ref q42, .ref q53, .ref q64, .ref q75, .null, .null, .null, .null])) :: w7) := by exact hD
  refine lv_aload_n hx hb dX11_init_89 rfl (lv_at hl 0 rfl) ?_
  refine n_new C hP hD hS nw_X11_58 (Nat.le_of_ble_eq_true rfl) (Nat.le_of_ble_eq_true rfl) dX11_init_90 (fun q90 H hP hD hS => ?_)
  refine W.cs (cells' := 37) (slots' := 6505) rfl rfl ?_
  refine lv_dup hx hb dX11_init_93 rfl ?_
  refine lv_aload_n hx hb dX11_init_94 rfl (lv_at hl 0 rfl) ?_
  refine n_get C hP 0 rfl fl_X11_28 (v := .ref q31) rfl dX11_init_95 ?_
  refine lv_aload_n hx hb dX11_init_98 rfl (lv_at hl 0 rfl) ?_
  refine n_get C hP 0 rfl fl_X11_54 (v := .ref q75) rfl dX11_init_99 ?_
  refine n_callL (rest := [.ref q90, .ref h0]) C hP hD hS hl.1 cI_X11_60 (nX0 l D κ ad q90 _ q31 q75) ⟨rfl, rfl⟩ ⟨(Nat.le_of_ble_eq_true rfl), (Nat.le_of_ble_eq_true rfl)⟩ rfl rfl (Nat.le_of_ble_eq_true rfl) dX11_init_102 ⟨(Nat.le_of_ble_eq_true rfl), (Nat.le_of_ble_eq_true rfl)⟩ (fun w H locs hw hP hD hS => ?_)
  obtain ⟨q7_102, q15_102, q23_102, q31_102, rfl⟩ := hw
  obtain ⟨w8, ew8⟩ : ∃ w : va_W, w = w7 ++ [(q90, .inr (0, [.ref q31, .ref q75, .ref q7_102, .ref q15_102, .ref q23_102, .ref q31_102, .int 0, .int 0, .int 0])), (q7_102, .inl (κ.1, 10, .inl (fun _ => 0))), (q15_102, .inl (κ.1, 80, .inl (fun _ => 0))), (q23_102, .inl (κ.1, 88, .inl (fun _ => 0))), (q31_102, .inl (κ.1, 88, .inl (fun _ => 0)))] := ⟨_, rfl⟩
  replace hP : va_P D classes ((h0, .inr (11, [.ref q5, .ref q16, .ref q31, .ref q42, .ref q53, .ref q64, .ref q75, .null, .null, .null, .null])) :: w8) H := by rw [ew8]; exact hP
  replace hD : va_D A ((h0, .inr (11, [.ref q5, .ref q16, .ref q31, .ref q42, .ref q53, .ref q64, .ref q75, .null, .null, .null, .null])) :: w8) := by rw [ew8]; exact hD
  refine W.cs (cells' := 41) (slots' := 6771) rfl rfl ?_
  refine n_putR C (by decide) hP hD hS 0 rfl fq_X11_63 rfl rfl (Nat.le_of_ble_eq_true rfl) dX11_init_105 (fun H locs hP hD hS => ?_)
  replace hP : va_P D classes ((h0, .inr (11, [.ref q5, .ref q16, .ref q31, .ref q42, .ref q53, .ref q64, .ref q75, .ref q90, .null, .null, .null])) :: w8) H := by exact hP
  replace hD : va_D A ((h0, .inr (11, [.ref q5, .ref q16, .ref q31, .ref q42, .ref q53, .ref q64, .ref q75, .ref q90, .null, .null, .null])) :: w8) := by exact hD
  refine lv_aload_n hx hb dX11_init_108 rfl (lv_at hl 0 rfl) ?_
  refine n_new C hP hD hS nw_X11_67 (Nat.le_of_ble_eq_true rfl) (Nat.le_of_ble_eq_true rfl) dX11_init_109 (fun q109 H hP hD hS => ?_)
  refine W.cs (cells' := 42) (slots' := 6773) rfl rfl ?_
  refine lv_dup hx hb dX11_init_112 rfl ?_
  refine lv_aload_n hx hb dX11_init_113 rfl (lv_at hl 0 rfl) ?_
  refine n_get C hP 0 rfl fl_X11_28 (v := .ref q31) rfl dX11_init_114 ?_
  refine lv_aload_n hx hb dX11_init_117 rfl (lv_at hl 0 rfl) ?_
  refine n_get C hP 0 rfl fl_X11_54 (v := .ref q75) rfl dX11_init_118 ?_
  refine n_callL (rest := [.ref q109, .ref h0]) C hP hD hS hl.1 cI_X11_69 (nX4 l D κ ad q109 _ q31 q75) ⟨rfl, rfl⟩ ⟨(Nat.le_of_ble_eq_true rfl), (Nat.le_of_ble_eq_true rfl)⟩ rfl rfl (Nat.le_of_ble_eq_true rfl) dX11_init_121 ⟨(Nat.le_of_ble_eq_true rfl), (Nat.le_of_ble_eq_true rfl)⟩ (fun w H locs hw hP hD hS => ?_)
  subst hw
  obtain ⟨w9, ew9⟩ : ∃ w : va_W, w = w8 ++ [(q109, .inr (4, [.ref q31, .ref q75]))] := ⟨_, rfl⟩
  replace hP : va_P D classes ((h0, .inr (11, [.ref q5, .ref q16, .ref q31, .ref q42, .ref q53, .ref q64, .ref q75, .ref q90, .null, .null, .null])) :: w9) H := by rw [ew9]; exact hP
  replace hD : va_D A ((h0, .inr (11, [.ref q5, .ref q16, .ref q31, .ref q42, .ref q53, .ref q64, .ref q75, .ref q90, .null, .null, .null])) :: w9) := by rw [ew9]; exact hD
  refine W.cs (cells' := 42) (slots' := 6773) rfl rfl ?_
  refine n_putR C (by decide) hP hD hS 0 rfl fq_X11_70 rfl rfl (Nat.le_of_ble_eq_true rfl) dX11_init_124 (fun H locs hP hD hS => ?_)
  replace hP : va_P D classes ((h0, .inr (11, [.ref q5, .ref q16, .ref q31, .ref q42, .ref q53, .ref q64, .ref q75, .ref q90, .ref q109, .null, .null])) :: w9) H := by exact hP
  replace hD : va_D A ((h0, .inr (11, [.ref q5, .ref q16, .ref q31, .ref q42, .ref q53, .ref q64, .ref q75, .ref q90, .ref q109, .null, .null])) :: w9) := by exact hD
  refine lv_aload_n hx hb dX11_init_127 rfl (lv_at hl 0 rfl) ?_
  refine n_new C hP hD hS nw_X11_74 (Nat.le_of_ble_eq_true rfl) (Nat.le_of_ble_eq_true rfl) dX11_init_128 (fun q128 H hP hD hS => ?_)
  refine W.cs (cells' := 43) (slots' := 6776) rfl rfl ?_
  refine lv_dup hx hb dX11_init_131 rfl ?_
  refine lv_aload_n hx hb dX11_init_132 rfl (lv_at hl 0 rfl) ?_
  refine n_get C hP 0 rfl fl_X11_28 (v := .ref q31) rfl dX11_init_133 ?_
  refine lv_aload_n hx hb dX11_init_136 rfl (lv_at hl 0 rfl) ?_
  refine n_get C hP 0 rfl fl_X11_63 (v := .ref q90) rfl dX11_init_137 ?_
  refine n_callL (rest := [.ref q128, .ref h0]) C hP hD hS hl.1 cI_X11_76 (nX1 l D κ ad q128 _ q31 q90) ⟨rfl, rfl⟩ ⟨(Nat.le_of_ble_eq_true rfl), (Nat.le_of_ble_eq_true rfl)⟩ rfl rfl (Nat.le_of_ble_eq_true rfl) dX11_init_140 ⟨(Nat.le_of_ble_eq_true rfl), (Nat.le_of_ble_eq_true rfl)⟩ (fun w H locs hw hP hD hS => ?_)
  obtain ⟨q8_140, rfl⟩ := hw
  obtain ⟨w10, ew10⟩ : ∃ w : va_W, w = w9 ++ [(q128, .inr (1, [.ref q31, .ref q90, .ref q8_140])), (q8_140, .inl (κ.2.2.1, 256, .inl (fun _ => 0)))] := ⟨_, rfl⟩
  replace hP : va_P D classes ((h0, .inr (11, [.ref q5, .ref q16, .ref q31, .ref q42, .ref q53, .ref q64, .ref q75, .ref q90, .ref q109, .null, .null])) :: w10) H := by rw [ew10]; exact hP
  replace hD : va_D A ((h0, .inr (11, [.ref q5, .ref q16, .ref q31, .ref q42, .ref q53, .ref q64, .ref q75, .ref q90, .ref q109, .null, .null])) :: w10) := by rw [ew10]; exact hD
  refine W.cs (cells' := 44) (slots' := 7032) rfl rfl ?_
  refine n_putR C (by decide) hP hD hS 0 rfl fq_X11_79 rfl rfl (Nat.le_of_ble_eq_true rfl) dX11_init_143 (fun H locs hP hD hS => ?_)
  replace hP : va_P D classes ((h0, .inr (11, [.ref q5, .ref q16, .ref q31, .ref q42, .ref q53, .ref q64, .ref q75, .ref q90, .ref q109, .ref q128, .null])) :: w10) H := by exact hP
  replace hD : va_D A ((h0, .inr (11, [.ref q5, .ref q16, .ref q31, .ref q42, .ref q53, .ref q64, .ref q75, .ref q90, .ref q109, .ref q128, .null])) :: w10) := by exact hD
  refine lv_aload_n hx hb dX11_init_146 rfl (lv_at hl 0 rfl) ?_
  refine n_new C hP hD hS nw_X11_83 (Nat.le_of_ble_eq_true rfl) (Nat.le_of_ble_eq_true rfl) dX11_init_147 (fun q147 H hP hD hS => ?_)
  refine W.cs (cells' := 45) (slots' := 7043) rfl rfl ?_
  refine lv_dup hx hb dX11_init_150 rfl ?_
  refine lv_aload_n hx hb dX11_init_151 rfl (lv_at hl 0 rfl) ?_
  refine n_get C hP 0 rfl fl_X11_28 (v := .ref q31) rfl dX11_init_152 ?_
  refine lv_aload_n hx hb dX11_init_155 rfl (lv_at hl 0 rfl) ?_
  refine n_get C hP 0 rfl fl_X11_63 (v := .ref q90) rfl dX11_init_156 ?_
  refine n_callL (rest := [.ref q147, .ref h0]) C hP hD hS hl.1 cI_X11_85 (nX10 l D κ ad q147 _ q31 q90) ⟨rfl, rfl⟩ ⟨(Nat.le_of_ble_eq_true rfl), (Nat.le_of_ble_eq_true rfl)⟩ rfl rfl (Nat.le_of_ble_eq_true rfl) dX11_init_159 ⟨(Nat.le_of_ble_eq_true rfl), (Nat.le_of_ble_eq_true rfl)⟩ (fun w H locs hw hP hD hS => ?_)
  obtain ⟨q7_159, q15_159, q23_159, q31_159, rfl⟩ := hw
  obtain ⟨w11, ew11⟩ : ∃ w : va_W, w = w10 ++ [(q147, .inr (10, [.ref q31, .ref q90, .ref q7_159, .ref q15_159, .ref q23_159, .ref q31_159, .int 0, .int 0, .int 0, .int 0, .int 0])), (q7_159, .inl (κ.1, 20, .inl (fun _ => 0))), (q15_159, .inl (κ.1, 20, .inl (fun _ => 0))), (q23_159, .inl (κ.2.2.1, 20, .inl (fun _ => 0))), (q31_159, .inl (κ.1, 10, .inl (fun _ => 0)))] := ⟨_, rfl⟩
  replace hP : va_P D classes ((h0, .inr (11, [.ref q5, .ref q16, .ref q31, .ref q42, .ref q53, .ref q64, .ref q75, .ref q90, .ref q109, .ref q128, .null])) :: w11) H := by rw [ew11]; exact hP
  replace hD : va_D A ((h0, .inr (11, [.ref q5, .ref q16, .ref q31, .ref q42, .ref q53, .ref q64, .ref q75, .ref q90, .ref q109, .ref q128, .null])) :: w11) := by rw [ew11]; exact hD
  refine W.cs (cells' := 49) (slots' := 7113) rfl rfl ?_
  refine n_putR C (by decide) hP hD hS 0 rfl fq_X11_86 rfl rfl (Nat.le_of_ble_eq_true rfl) dX11_init_162 (fun H locs hP hD hS => ?_)
  replace hP : va_P D classes ((h0, .inr (11, [.ref q5, .ref q16, .ref q31, .ref q42, .ref q53, .ref q64, .ref q75, .ref q90, .ref q109, .ref q128, .ref q147])) :: w11) H := by exact hP
  replace hD : va_D A ((h0, .inr (11, [.ref q5, .ref q16, .ref q31, .ref q42, .ref q53, .ref q64, .ref q75, .ref q90, .ref q109, .ref q128, .ref q147])) :: w11) := by exact hD
  subst ew1 ew2 ew3 ew4 ew5 ew6 ew7 ew8 ew9 ew10 ew11
  replace hP : va_P D classes [(h0, .inr (11, [.ref q5, .ref q16, .ref q31, .ref q42, .ref q53, .ref q64, .ref q75, .ref q90, .ref q109, .ref q128, .ref q147])), (q5, .inr (8, [.ref q8_9, .int 0])), (q8_9, .inl (κ.2.1, 2000, .inl (fun _ => 0))), (q16, .inr (5, [.ref q5_24, .int (-1), .ref q36_24, .ref q22_24, .ref q30_24, .int 0, .int 0, .int 0, .int 0, .long 0, .int 0, .int 0, .int 0, .int 0])), (q5_24, .inr (9, [.int (σT.1 0 0), .int (σT.1 0 1), .int (σT.1 0 2), .int (σT.1 0 3), .int (σT.1 0 4), .int (σT.1 0 5), .ref q7_9_24, .ref q14_9_24, .ref q21_9_24, .ref q29_9_24, .ref q36_9_24, .ref q45_9_24, .ref q54_9_24])), (q7_9_24, .inl (κ.1, 10, .inl (σT.1 1))), (q14_9_24, .inl (κ.1, 5, .inl (σT.1 2))), (q21_9_24, .inl (κ.1, 5, .inl (σT.1 3))), (q29_9_24, .inl (κ.1, 8, .inl (σT.1 4))), (q36_9_24, .inl (κ.1, 4, .inl (σT.1 5))), (q45_9_24, .inl (κ.1, 408, .inl (σT.1 6))), (q54_9_24, .inl (κ.1, 408, .inl (σT.1 7))), (q22_24, .inl (κ.2.2.2, 5, .inr (.inl (fun _ => 0)))), (q30_24, .inl (κ.1, 21, .inl (fun _ => 0))), (q36_24, .inr (6, [.ref q8_41_24, .ref q17_41_24, .ref q26_41_24, .ref q5, .int 0, .long 0])), (q8_41_24, .inl (κ.1, 401, .inl (fun _ => 0))), (q17_41_24, .inl (κ.1, 401, .inl (fun _ => 0))), (q26_41_24, .inl (κ.2.2.2, 401, .inr (.inl (fun _ => 0)))), (q31, .inr (9, [.int (σT.1 0 0), .int (σT.1 0 1), .int (σT.1 0 2), .int (σT.1 0 3), .int (σT.1 0 4), .int (σT.1 0 5), .ref q7_35, .ref q14_35, .ref q21_35, .ref q29_35, .ref q36_35, .ref q45_35, .ref q54_35])), (q7_35, .inl (κ.1, 10, .inl (σT.1 1))), (q14_35, .inl (κ.1, 5, .inl (σT.1 2))), (q21_35, .inl (κ.1, 5, .inl (σT.1 3))), (q29_35, .inl (κ.1, 8, .inl (σT.1 4))), (q36_35, .inl (κ.1, 4, .inl (σT.1 5))), (q45_35, .inl (κ.1, 408, .inl (σT.1 6))), (q54_35, .inl (κ.1, 408, .inl (σT.1 7))), (q42, .inr (7, [.ref q7_46])), (q7_46, .inl (κ.1, 33, .inl (fun _ => 0))), (q53, .inr (7, [.ref q7_57])), (q7_57, .inl (κ.1, 33, .inl (fun _ => 0))), (q64, .inr (3, [.ref q8_68, .ref q16_68, .ref q23_68, .int 0, .int 0])), (q8_68, .inl (κ.1, 1320, .inl (fun _ => 0))), (q16_68, .inl (κ.1, 99, .inl (fun _ => 0))), (q23_68, .inl (κ.2.2.1, 3, .inl (fun _ => 0))), (q75, .inr (2, [.ref q31, .ref q7_83, .ref q15_83])), (q7_83, .inl (κ.1, 9, .inl (fun _ => 0))), (q15_83, .inl (κ.1, 16, .inl (fun _ => 0))), (q90, .inr (0, [.ref q31, .ref q75, .ref q7_102, .ref q15_102, .ref q23_102, .ref q31_102, .int 0, .int 0, .int 0])), (q7_102, .inl (κ.1, 10, .inl (fun _ => 0))), (q15_102, .inl (κ.1, 80, .inl (fun _ => 0))), (q23_102, .inl (κ.1, 88, .inl (fun _ => 0))), (q31_102, .inl (κ.1, 88, .inl (fun _ => 0))), (q109, .inr (4, [.ref q31, .ref q75])), (q128, .inr (1, [.ref q31, .ref q90, .ref q8_140])), (q8_140, .inl (κ.2.2.1, 256, .inl (fun _ => 0))), (q147, .inr (10, [.ref q31, .ref q90, .ref q7_159, .ref q15_159, .ref q23_159, .ref q31_159, .int 0, .int 0, .int 0, .int 0, .int 0])), (q7_159, .inl (κ.1, 20, .inl (fun _ => 0))), (q15_159, .inl (κ.1, 20, .inl (fun _ => 0))), (q23_159, .inl (κ.2.2.1, 20, .inl (fun _ => 0))), (q31_159, .inl (κ.1, 10, .inl (fun _ => 0)))] H := by simpa only [List.nil_append, List.cons_append] using hP
  replace hD : va_D A [(h0, .inr (11, [.ref q5, .ref q16, .ref q31, .ref q42, .ref q53, .ref q64, .ref q75, .ref q90, .ref q109, .ref q128, .ref q147])), (q5, .inr (8, [.ref q8_9, .int 0])), (q8_9, .inl (κ.2.1, 2000, .inl (fun _ => 0))), (q16, .inr (5, [.ref q5_24, .int (-1), .ref q36_24, .ref q22_24, .ref q30_24, .int 0, .int 0, .int 0, .int 0, .long 0, .int 0, .int 0, .int 0, .int 0])), (q5_24, .inr (9, [.int (σT.1 0 0), .int (σT.1 0 1), .int (σT.1 0 2), .int (σT.1 0 3), .int (σT.1 0 4), .int (σT.1 0 5), .ref q7_9_24, .ref q14_9_24, .ref q21_9_24, .ref q29_9_24, .ref q36_9_24, .ref q45_9_24, .ref q54_9_24])), (q7_9_24, .inl (κ.1, 10, .inl (σT.1 1))), (q14_9_24, .inl (κ.1, 5, .inl (σT.1 2))), (q21_9_24, .inl (κ.1, 5, .inl (σT.1 3))), (q29_9_24, .inl (κ.1, 8, .inl (σT.1 4))), (q36_9_24, .inl (κ.1, 4, .inl (σT.1 5))), (q45_9_24, .inl (κ.1, 408, .inl (σT.1 6))), (q54_9_24, .inl (κ.1, 408, .inl (σT.1 7))), (q22_24, .inl (κ.2.2.2, 5, .inr (.inl (fun _ => 0)))), (q30_24, .inl (κ.1, 21, .inl (fun _ => 0))), (q36_24, .inr (6, [.ref q8_41_24, .ref q17_41_24, .ref q26_41_24, .ref q5, .int 0, .long 0])), (q8_41_24, .inl (κ.1, 401, .inl (fun _ => 0))), (q17_41_24, .inl (κ.1, 401, .inl (fun _ => 0))), (q26_41_24, .inl (κ.2.2.2, 401, .inr (.inl (fun _ => 0)))), (q31, .inr (9, [.int (σT.1 0 0), .int (σT.1 0 1), .int (σT.1 0 2), .int (σT.1 0 3), .int (σT.1 0 4), .int (σT.1 0 5), .ref q7_35, .ref q14_35, .ref q21_35, .ref q29_35, .ref q36_35, .ref q45_35, .ref q54_35])), (q7_35, .inl (κ.1, 10, .inl (σT.1 1))), (q14_35, .inl (κ.1, 5, .inl (σT.1 2))), (q21_35, .inl (κ.1, 5, .inl (σT.1 3))), (q29_35, .inl (κ.1, 8, .inl (σT.1 4))), (q36_35, .inl (κ.1, 4, .inl (σT.1 5))), (q45_35, .inl (κ.1, 408, .inl (σT.1 6))), (q54_35, .inl (κ.1, 408, .inl (σT.1 7))), (q42, .inr (7, [.ref q7_46])), (q7_46, .inl (κ.1, 33, .inl (fun _ => 0))), (q53, .inr (7, [.ref q7_57])), (q7_57, .inl (κ.1, 33, .inl (fun _ => 0))), (q64, .inr (3, [.ref q8_68, .ref q16_68, .ref q23_68, .int 0, .int 0])), (q8_68, .inl (κ.1, 1320, .inl (fun _ => 0))), (q16_68, .inl (κ.1, 99, .inl (fun _ => 0))), (q23_68, .inl (κ.2.2.1, 3, .inl (fun _ => 0))), (q75, .inr (2, [.ref q31, .ref q7_83, .ref q15_83])), (q7_83, .inl (κ.1, 9, .inl (fun _ => 0))), (q15_83, .inl (κ.1, 16, .inl (fun _ => 0))), (q90, .inr (0, [.ref q31, .ref q75, .ref q7_102, .ref q15_102, .ref q23_102, .ref q31_102, .int 0, .int 0, .int 0])), (q7_102, .inl (κ.1, 10, .inl (fun _ => 0))), (q15_102, .inl (κ.1, 80, .inl (fun _ => 0))), (q23_102, .inl (κ.1, 88, .inl (fun _ => 0))), (q31_102, .inl (κ.1, 88, .inl (fun _ => 0))), (q109, .inr (4, [.ref q31, .ref q75])), (q128, .inr (1, [.ref q31, .ref q90, .ref q8_140])), (q8_140, .inl (κ.2.2.1, 256, .inl (fun _ => 0))), (q147, .inr (10, [.ref q31, .ref q90, .ref q7_159, .ref q15_159, .ref q23_159, .ref q31_159, .int 0, .int 0, .int 0, .int 0, .int 0])), (q7_159, .inl (κ.1, 20, .inl (fun _ => 0))), (q15_159, .inl (κ.1, 20, .inl (fun _ => 0))), (q23_159, .inl (κ.2.2.1, 20, .inl (fun _ => 0))), (q31_159, .inl (κ.1, 10, .inl (fun _ => 0)))] := by simpa only [List.nil_append, List.cons_append] using hD
  have hP1 : va_P D classes (wG 50 ceX (adL [h0, q5, q16, q31, q42, q53, q64, q75, q90, q109, q128, q147, q5_24, q36_24, q7_46, q7_57, q8_9, q22_24, q30_24, q8_41_24, q17_41_24, q26_41_24, q7_35, q14_35, q21_35, q29_35, q36_35, q45_35, q54_35, q7_9_24, q14_9_24, q21_9_24, q29_9_24, q36_9_24, q45_9_24, q54_9_24, q8_68, q16_68, q23_68, q7_83, q15_83, q7_102, q15_102, q23_102, q31_102, q8_140, q7_159, q15_159, q23_159, q31_159] ad s.heap.size) κ σX0) H := by rw [σX0, ← wX11_init_eq σT]; exact hP.sub [0, 1, 3, 18, 26, 28, 30, 34, 37, 42, 43, 45, 4, 14, 27, 29, 2, 12, 13, 15, 16, 17, 19, 20, 21, 22, 23, 24, 25, 5, 6, 7, 8, 9, 10, 11, 31, 32, 33, 35, 36, 38, 39, 40, 41, 44, 46, 47, 48, 49] rfl
  have hD1 : va_D A (wG 50 ceX (adL [h0, q5, q16, q31, q42, q53, q64, q75, q90, q109, q128, q147, q5_24, q36_24, q7_46, q7_57, q8_9, q22_24, q30_24, q8_41_24, q17_41_24, q26_41_24, q7_35, q14_35, q21_35, q29_35, q36_35, q45_35, q54_35, q7_9_24, q14_9_24, q21_9_24, q29_9_24, q36_9_24, q45_9_24, q54_9_24, q8_68, q16_68, q23_68, q7_83, q15_83, q7_102, q15_102, q23_102, q31_102, q8_140, q7_159, q15_159, q23_159, q31_159] ad s.heap.size) κ σX0) := by rw [σX0, ← wX11_init_eq σT]; exact hD.sub [0, 1, 3, 18, 26, 28, 30, 34, 37, 42, 43, 45, 4, 14, 27, 29, 2, 12, 13, 15, 16, 17, 19, 20, 21, 22, 23, 24, 25, 5, 6, 7, 8, 9, 10, 11, 31, 32, 33, 35, 36, 38, 39, 40, 41, 44, 46, 47, 48, 49] (by decide) rfl
  have hi := wG_inj hD1
  have hsub : ∀ q, AX 50 (adL [h0, q5, q16, q31, q42, q53, q64, q75, q90, q109, q128, q147, q5_24, q36_24, q7_46, q7_57, q8_9, q22_24, q30_24, q8_41_24, q17_41_24, q26_41_24, q7_35, q14_35, q21_35, q29_35, q36_35, q45_35, q54_35, q7_9_24, q14_9_24, q21_9_24, q29_9_24, q36_9_24, q45_9_24, q54_9_24, q8_68, q16_68, q23_68, q7_83, q15_83, q7_102, q15_102, q23_102, q31_102, q8_140, q7_159, q15_159, q23_159, q31_159] ad s.heap.size) q → A q := n_sub hD1 C.2.2.2.2.2.2.2.2.2.2 rfl
  have hsup : ∀ q, A q → AX 50 (adL [h0, q5, q16, q31, q42, q53, q64, q75, q90, q109, q128, q147, q5_24, q36_24, q7_46, q7_57, q8_9, q22_24, q30_24, q8_41_24, q17_41_24, q26_41_24, q7_35, q14_35, q21_35, q29_35, q36_35, q45_35, q54_35, q7_9_24, q14_9_24, q21_9_24, q29_9_24, q36_9_24, q45_9_24, q54_9_24, q8_68, q16_68, q23_68, q7_83, q15_83, q7_102, q15_102, q23_102, q31_102, q8_140, q7_159, q15_159, q23_159, q31_159] ad s.heap.size) q := n_sup hAe hsz rfl rfl
  have C1 := n_Cx C (by decide) hi (adL_ge _ _ _) hsub
  refine wX11_init_tail (R := σX1) C1 ⟨(Nat.le_of_ble_eq_true rfl), (Nat.le_of_ble_eq_true rfl)⟩ (fun H locs ls hH hl => ?_) _ _ _ _ σX1_ok ⟨hP1, va_S_sub hS hsup⟩ hl
  have hD2 := (wG_D (ce := ceX) (κ := κ) (σ := σX1) hi).weaken (fun _ q _ h => hsub q.1 h)
  exact n_ret C (by decide) hH.1 hD2 (va_S_sub hH.2 hsub) ⟨_, rfl, adL_ge _ _ _, hi, rfl⟩ dX11_init_176
