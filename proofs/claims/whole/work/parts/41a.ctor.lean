theorem wG_of {n : Nat} {ce : CE} {ad : Nat → Nat} {κ : KC} {σ : HS} {l : va_W} (hl : l.length = n) (h : ∀ i, i < n → l[i]? = some (ad i, ce ad κ (σ.1 i) (σ.2 i) i)) : l = wG n ce ad κ σ := by
  apply List.ext_getElem?
  intro i
  by_cases hi : i < n
  · rw [h i hi, wG_at hi]
  · rw [List.getElem?_eq_none (by omega), List.getElem?_eq_none (by rw [wG_len]; omega)]
theorem wG_inj {A : Nat → Prop} {n : Nat} {ce : CE} {ad : Nat → Nat} {κ : KC} {σ : HS} (h : va_D A (wG n ce ad κ σ)) : inj n ad := fun i j hi hj e => h.1 i j _ _ (wG_at hi) (wG_at hj) e
theorem n_sub {A : Nat → Prop} {n sz : Nat} {ce : CE} {ad : Nat → Nat} {κ : KC} {σ : HS} (h : va_D A (wG n ce ad κ σ)) (hA : ∀ q : Nat, sz ≤ q → A q) (h4 : ad 400 = sz) : ∀ q, AX n ad q → A q := by
  intro q hq
  rcases hq with ⟨i, hi, rfl⟩ | hq
  · exact h.2 i _ (wG_at hi)
  · exact hA q (by omega)
theorem n_sup {A : Nat → Prop} {n sz sz' h0 : Nat} {e0 : va_E} {ad : Nat → Nat} (hA : va_A [(h0, e0)] sz = A) (hs : sz' = sz) (h4 : ad 400 = sz') (h0' : ad 0 = h0) : ∀ q, A q → AX (n + 1) ad q := by
  intro q hq
  rw [← hA] at hq
  rcases hq with ⟨k, e, hk⟩ | hq
  · cases k with
    | zero => cases hk; exact Or.inl ⟨0, Nat.succ_pos n, h0'.symm⟩
    | succ k => simp at hk
  · exact Or.inr (by omega)
theorem va_S_sub {A B : Nat → Prop} {H0 H : Heap} {locs : List Loc} (h : va_S A H0 H locs) (hs : ∀ q, A q → B q) : va_S B H0 H locs := ⟨h.1, fun q h1 h2 => h.2.1 q h1 (fun z => h2 (hs q z)), fun q hq => hs _ (h.2.2 q hq)⟩
theorem adL_ge (as : List Nat) (ad : Nat → Nat) (sz : Nat) : ∀ i, 100 ≤ i → i ≤ 300 → adL as ad sz i = ad i := fun i h1 h2 => by
  unfold adL
  rw [if_neg (by omega), if_neg (by omega)]
theorem dX8_init_0 : decode cX8_init 0 = .ok (.aload_n 0, 1) := by decide +kernel
theorem dX8_init_1 : decode cX8_init 1 = .ok (.invokespecial 3, 3) := by decide +kernel
theorem dX8_init_4 : decode cX8_init 4 = .ok (.aload_n 0, 1) := by decide +kernel
theorem dX8_init_5 : decode cX8_init 5 = .ok (.sipush 2000, 3) := by decide +kernel
theorem dX8_init_8 : decode cX8_init 8 = .ok (.newarray .byte, 2) := by decide +kernel
theorem dX8_init_10 : decode cX8_init 10 = .ok (.putfield 11, 3) := by decide +kernel
theorem dX8_init_13 : decode cX8_init 13 = .ok (.return_, 1) := by decide +kernel
theorem dX7_init_0 : decode cX7_init 0 = .ok (.aload_n 0, 1) := by decide +kernel
theorem dX7_init_1 : decode cX7_init 1 = .ok (.invokespecial 5, 3) := by decide +kernel
theorem dX7_init_4 : decode cX7_init 4 = .ok (.aload_n 0, 1) := by decide +kernel
theorem dX7_init_5 : decode cX7_init 5 = .ok (.bipush 33, 2) := by decide +kernel
theorem dX7_init_7 : decode cX7_init 7 = .ok (.newarray .int, 2) := by decide +kernel
theorem dX7_init_9 : decode cX7_init 9 = .ok (.putfield 11, 3) := by decide +kernel
theorem dX7_init_12 : decode cX7_init 12 = .ok (.return_, 1) := by decide +kernel
theorem dX9_init_0 : decode cX9_init 0 = .ok (.aload_n 0, 1) := by decide +kernel
theorem dX9_init_1 : decode cX9_init 1 = .ok (.invokespecial 7, 3) := by decide +kernel
theorem dX9_init_4 : decode cX9_init 4 = .ok (.aload_n 0, 1) := by decide +kernel
theorem dX9_init_5 : decode cX9_init 5 = .ok (.bipush 10, 2) := by decide +kernel
theorem dX9_init_7 : decode cX9_init 7 = .ok (.newarray .int, 2) := by decide +kernel
theorem dX9_init_9 : decode cX9_init 9 = .ok (.putfield 13, 3) := by decide +kernel
theorem dX9_init_12 : decode cX9_init 12 = .ok (.aload_n 0, 1) := by decide +kernel
theorem dX9_init_13 : decode cX9_init 13 = .ok (.iconst 5, 1) := by decide +kernel
theorem dX9_init_14 : decode cX9_init 14 = .ok (.newarray .int, 2) := by decide +kernel
theorem dX9_init_16 : decode cX9_init 16 = .ok (.putfield 17, 3) := by decide +kernel
theorem dX9_init_19 : decode cX9_init 19 = .ok (.aload_n 0, 1) := by decide +kernel
theorem dX9_init_20 : decode cX9_init 20 = .ok (.iconst 5, 1) := by decide +kernel
theorem dX9_init_21 : decode cX9_init 21 = .ok (.newarray .int, 2) := by decide +kernel
theorem dX9_init_23 : decode cX9_init 23 = .ok (.putfield 20, 3) := by decide +kernel
theorem dX9_init_26 : decode cX9_init 26 = .ok (.aload_n 0, 1) := by decide +kernel
theorem dX9_init_27 : decode cX9_init 27 = .ok (.bipush 8, 2) := by decide +kernel
theorem dX9_init_29 : decode cX9_init 29 = .ok (.newarray .int, 2) := by decide +kernel
theorem dX9_init_31 : decode cX9_init 31 = .ok (.putfield 23, 3) := by decide +kernel
theorem dX9_init_34 : decode cX9_init 34 = .ok (.aload_n 0, 1) := by decide +kernel
theorem dX9_init_35 : decode cX9_init 35 = .ok (.iconst 4, 1) := by decide +kernel
theorem dX9_init_36 : decode cX9_init 36 = .ok (.newarray .int, 2) := by decide +kernel
theorem dX9_init_38 : decode cX9_init 38 = .ok (.putfield 26, 3) := by decide +kernel
theorem dX9_init_41 : decode cX9_init 41 = .ok (.aload_n 0, 1) := by decide +kernel
theorem dX9_init_42 : decode cX9_init 42 = .ok (.sipush 408, 3) := by decide +kernel
theorem dX9_init_45 : decode cX9_init 45 = .ok (.newarray .int, 2) := by decide +kernel
theorem dX9_init_47 : decode cX9_init 47 = .ok (.putfield 29, 3) := by decide +kernel
theorem dX9_init_50 : decode cX9_init 50 = .ok (.aload_n 0, 1) := by decide +kernel
theorem dX9_init_51 : decode cX9_init 51 = .ok (.sipush 408, 3) := by decide +kernel
theorem dX9_init_54 : decode cX9_init 54 = .ok (.newarray .int, 2) := by decide +kernel
theorem dX9_init_56 : decode cX9_init 56 = .ok (.putfield 32, 3) := by decide +kernel
theorem dX9_init_59 : decode cX9_init 59 = .ok (.aload_n 0, 1) := by decide +kernel
theorem dX9_init_60 : decode cX9_init 60 = .ok (.invokevirtual 35, 3) := by decide +kernel
theorem dX9_init_63 : decode cX9_init 63 = .ok (.return_, 1) := by decide +kernel
theorem dX6_init_0 : decode cX6_init 0 = .ok (.aload_n 0, 1) := by decide +kernel
theorem dX6_init_1 : decode cX6_init 1 = .ok (.invokespecial 3, 3) := by decide +kernel
theorem dX6_init_4 : decode cX6_init 4 = .ok (.aload_n 0, 1) := by decide +kernel
theorem dX6_init_5 : decode cX6_init 5 = .ok (.sipush 401, 3) := by decide +kernel
theorem dX6_init_8 : decode cX6_init 8 = .ok (.newarray .int, 2) := by decide +kernel
theorem dX6_init_10 : decode cX6_init 10 = .ok (.putfield 11, 3) := by decide +kernel
theorem dX6_init_13 : decode cX6_init 13 = .ok (.aload_n 0, 1) := by decide +kernel
theorem dX6_init_14 : decode cX6_init 14 = .ok (.sipush 401, 3) := by decide +kernel
theorem dX6_init_17 : decode cX6_init 17 = .ok (.newarray .int, 2) := by decide +kernel
theorem dX6_init_19 : decode cX6_init 19 = .ok (.putfield 15, 3) := by decide +kernel
theorem dX6_init_22 : decode cX6_init 22 = .ok (.aload_n 0, 1) := by decide +kernel
theorem dX6_init_23 : decode cX6_init 23 = .ok (.sipush 401, 3) := by decide +kernel
theorem dX6_init_26 : decode cX6_init 26 = .ok (.newarray .long, 2) := by decide +kernel
theorem dX6_init_28 : decode cX6_init 28 = .ok (.putfield 18, 3) := by decide +kernel
theorem dX6_init_31 : decode cX6_init 31 = .ok (.aload_n 0, 1) := by decide +kernel
theorem dX6_init_32 : decode cX6_init 32 = .ok (.aload_n 1, 1) := by decide +kernel
theorem dX6_init_33 : decode cX6_init 33 = .ok (.putfield 22, 3) := by decide +kernel
theorem dX6_init_36 : decode cX6_init 36 = .ok (.return_, 1) := by decide +kernel
theorem cV_X9_35 : cV RX9 35 yX9_empty cX9_empty 1 none 0 := ⟨⟨lg_at 59 (by decide +kernel) (by decide +kernel), lg_at 60 (by decide +kernel) (by decide +kernel), lg_at 61 (by decide +kernel) (by decide +kernel), lg_at 4 (by decide +kernel) (by decide +kernel), lg_at 62 (by decide +kernel) (by decide +kernel)⟩, by decide +kernel, by decide +kernel, by decide +kernel⟩
theorem fq_X6_11 : fq RX6 11 6 0 (.array .int) := ⟨TX6, 6, tyX6, rfl, iw_X6, by decide, lg_at 155 (by decide +kernel) (by decide +kernel), rfl, tyX6_ok, nmX6, rfl, by decide +kernel⟩
theorem fq_X6_15 : fq RX6 15 6 1 (.array .int) := ⟨TX6, 6, tyX6, rfl, iw_X6, by decide, lg_at 157 (by decide +kernel) (by decide +kernel), rfl, tyX6_ok, nmX6, rfl, by decide +kernel⟩
theorem fq_X6_18 : fq RX6 18 6 2 (.array .long) := ⟨TX6, 6, tyX6, rfl, iw_X6, by decide, lg_at 159 (by decide +kernel) (by decide +kernel), rfl, tyX6_ok, nmX6, rfl, by decide +kernel⟩
theorem fq_X6_22 : fq RX6 22 6 3 (.object "CoughParts$Tape") := ⟨TX6, 6, tyX6, rfl, iw_X6, by decide, lg_at 161 (by decide +kernel) (by decide +kernel), rfl, tyX6_ok, nmX6, rfl, by decide +kernel⟩
theorem fq_X7_11 : fq RX7 11 7 0 (.array .int) := ⟨TX7, 1, tyX7, rfl, iw_X7, by decide, lg_at 231 (by decide +kernel) (by decide +kernel), rfl, tyX7_ok, nmX7, rfl, by decide +kernel⟩
theorem fq_X8_11 : fq RX8 11 8 0 (.array .byte) := ⟨TX8, 2, tyX8, rfl, iw_X8, by decide, lg_at 37 (by decide +kernel) (by decide +kernel), rfl, tyX8_ok, nmX8, rfl, by decide +kernel⟩
theorem fq_X9_13 : fq RX9 13 9 6 (.array .int) := ⟨TX9, 13, tyX9, rfl, iw_X9, by decide, lg_at 101 (by decide +kernel) (by decide +kernel), rfl, tyX9_ok, nmX9, rfl, by decide +kernel⟩
theorem fq_X9_17 : fq RX9 17 9 7 (.array .int) := ⟨TX9, 13, tyX9, rfl, iw_X9, by decide, lg_at 104 (by decide +kernel) (by decide +kernel), rfl, tyX9_ok, nmX9, rfl, by decide +kernel⟩
theorem fq_X9_20 : fq RX9 20 9 8 (.array .int) := ⟨TX9, 13, tyX9, rfl, iw_X9, by decide, lg_at 108 (by decide +kernel) (by decide +kernel), rfl, tyX9_ok, nmX9, rfl, by decide +kernel⟩
theorem fq_X9_23 : fq RX9 23 9 9 (.array .int) := ⟨TX9, 13, tyX9, rfl, iw_X9, by decide, lg_at 112 (by decide +kernel) (by decide +kernel), rfl, tyX9_ok, nmX9, rfl, by decide +kernel⟩
theorem fq_X9_26 : fq RX9 26 9 10 (.array .int) := ⟨TX9, 13, tyX9, rfl, iw_X9, by decide, lg_at 115 (by decide +kernel) (by decide +kernel), rfl, tyX9_ok, nmX9, rfl, by decide +kernel⟩
theorem fq_X9_29 : fq RX9 29 9 11 (.array .int) := ⟨TX9, 13, tyX9, rfl, iw_X9, by decide, lg_at 117 (by decide +kernel) (by decide +kernel), rfl, tyX9_ok, nmX9, rfl, by decide +kernel⟩
theorem fq_X9_32 : fq RX9 32 9 12 (.array .int) := ⟨TX9, 13, tyX9, rfl, iw_X9, by decide, lg_at 119 (by decide +kernel) (by decide +kernel), rfl, tyX9_ok, nmX9, rfl, by decide +kernel⟩
theorem ko_i : Cond.instanceMethod Lib.objectInit ∈ lg_tbl := lg_at 29 (by decide +kernel) (by decide +kernel)
theorem ko_c : Cond.code Lib.objectInit ⟨#[0xb1]⟩ 1 none ∈ lg_tbl := lg_at 30 (by decide +kernel) (by decide +kernel)
theorem ko_X6 : Cond.methodLink RX6 3 Lib.objectInit ∈ lg_tbl := lg_at 154 (by decide +kernel) (by decide +kernel)
theorem ko_X7 : Cond.methodLink RX7 5 Lib.objectInit ∈ lg_tbl := lg_at 230 (by decide +kernel) (by decide +kernel)
theorem ko_X8 : Cond.methodLink RX8 3 Lib.objectInit ∈ lg_tbl := lg_at 36 (by decide +kernel) (by decide +kernel)
theorem ko_X9 : Cond.methodLink RX9 7 Lib.objectInit ∈ lg_tbl := lg_at 58 (by decide +kernel) (by decide +kernel)
theorem ka_I : Cond.arrayClass .int ∈ lg_tbl := lg_at 148 (by decide +kernel) (by decide +kernel)
theorem ka_B : Cond.arrayClass .byte ∈ lg_tbl := lg_at 46 (by decide +kernel) (by decide +kernel)
theorem ka_Z : Cond.arrayClass .boolean ∈ lg_tbl := lg_at 262 (by decide +kernel) (by decide +kernel)
theorem ka_J : Cond.arrayClass .long ∈ lg_tbl := lg_at 177 (by decide +kernel) (by decide +kernel)
set_option maxHeartbeats 4000000 in
set_option maxRecDepth 100000 in
theorem nX8 (l : Launch) (D : va_G) (κ : KC) (ad : Nat → Nat) (h0 sz : Nat) : MtC l D κ ad yX8_init cX8_init 1 ({ frames := 1, cells := 1, slots := 2000, locals := 12 } : Room) [.ref h0] [(h0, .inr (8, [.null, .int 0]))] sz 1 2000 (fun w => ∃ q8 : Nat, w = [(h0, .inr (8, [.ref q8, .int 0])), (q8, .inl (κ.2.1, 2000, .inl (fun _ => 0)))]) := by
  refine openC (by decide) rfl (Nat.le_of_ble_eq_true rfl) (la := [(0, .ref h0)]) rfl ?_
  intro p e s m below meth c ls A C hP hD hS hsz hAe hl
  replace C : Cn D κ ad p s m _ meth c cX8_init RX8 1 A := C
  have hx := C.1
  have hb := C.2.1
  refine lv_aload_n hx hb dX8_init_0 rfl (lv_at hl 0 rfl) ?_
  refine n_obj C hl.1 ko_X8 ko_i ko_c dX8_init_1 (Nat.le_of_ble_eq_true rfl) (Nat.le_of_ble_eq_true rfl) ?_
  refine lv_aload_n hx hb dX8_init_4 rfl (lv_at hl 0 rfl) ?_
  refine lv_sipush (v := 2000) hx hb dX8_init_5 (by decide) ?_
  refine n_newB C ka_B hP hD hS (N := 2000) (by decide) (by decide) (by decide) (Nat.le_of_ble_eq_true rfl) (Nat.le_of_ble_eq_true rfl) dX8_init_8 (fun q8 H hP hD hS => ?_)
  replace hP : va_P D classes [(h0, .inr (8, [.null, .int 0])), (q8, .inl (κ.2.1, 2000, .inl (fun _ => 0)))] H := hP
  replace hD : va_D A [(h0, .inr (8, [.null, .int 0])), (q8, .inl (κ.2.1, 2000, .inl (fun _ => 0)))] := hD
  refine W.cs (cells' := 1) (slots' := 2000) rfl rfl ?_
  refine n_putR C (by decide) hP hD hS 0 rfl fq_X8_11 rfl rfl (Nat.le_of_ble_eq_true rfl) dX8_init_10 (fun H locs hP hD hS => ?_)
  replace hP : va_P D classes [(h0, .inr (8, [.ref q8, .int 0])), (q8, .inl (κ.2.1, 2000, .inl (fun _ => 0)))] H := hP
  replace hD : va_D A [(h0, .inr (8, [.ref q8, .int 0])), (q8, .inl (κ.2.1, 2000, .inl (fun _ => 0)))] := hD
  exact n_ret C (by decide) hP hD hS ⟨q8, rfl⟩ dX8_init_13
set_option maxHeartbeats 4000000 in
set_option maxRecDepth 100000 in
theorem nX7 (l : Launch) (D : va_G) (κ : KC) (ad : Nat → Nat) (h0 sz : Nat) : MtC l D κ ad yX7_init cX7_init 1 ({ frames := 1, cells := 1, slots := 33, locals := 12 } : Room) [.ref h0] [(h0, .inr (7, [.null]))] sz 1 33 (fun w => ∃ q7 : Nat, w = [(h0, .inr (7, [.ref q7])), (q7, .inl (κ.1, 33, .inl (fun _ => 0)))]) := by
  refine openC (by decide) rfl (Nat.le_of_ble_eq_true rfl) (la := [(0, .ref h0)]) rfl ?_
  intro p e s m below meth c ls A C hP hD hS hsz hAe hl
  replace C : Cn D κ ad p s m _ meth c cX7_init RX7 1 A := C
  have hx := C.1
  have hb := C.2.1
  refine lv_aload_n hx hb dX7_init_0 rfl (lv_at hl 0 rfl) ?_
  refine n_obj C hl.1 ko_X7 ko_i ko_c dX7_init_1 (Nat.le_of_ble_eq_true rfl) (Nat.le_of_ble_eq_true rfl) ?_
  refine lv_aload_n hx hb dX7_init_4 rfl (lv_at hl 0 rfl) ?_
  refine lv_bipush (v := 33) hx hb dX7_init_5 (by decide) ?_
  refine n_newI C ka_I hP hD hS (N := 33) (by decide) (by decide) (by decide) (Nat.le_of_ble_eq_true rfl) (Nat.le_of_ble_eq_true rfl) dX7_init_7 (fun q7 H hP hD hS => ?_)
  replace hP : va_P D classes [(h0, .inr (7, [.null])), (q7, .inl (κ.1, 33, .inl (fun _ => 0)))] H := hP
  replace hD : va_D A [(h0, .inr (7, [.null])), (q7, .inl (κ.1, 33, .inl (fun _ => 0)))] := hD
  refine W.cs (cells' := 1) (slots' := 33) rfl rfl ?_
  refine n_putR C (by decide) hP hD hS 0 rfl fq_X7_11 rfl rfl (Nat.le_of_ble_eq_true rfl) dX7_init_9 (fun H locs hP hD hS => ?_)
  replace hP : va_P D classes [(h0, .inr (7, [.ref q7])), (q7, .inl (κ.1, 33, .inl (fun _ => 0)))] H := hP
  replace hD : va_D A [(h0, .inr (7, [.ref q7])), (q7, .inl (κ.1, 33, .inl (fun _ => 0)))] := hD
  exact n_ret C (by decide) hP hD hS ⟨q7, rfl⟩ dX7_init_12
section
variable {p : Program} {l : Launch} {e : Env} {s : State} {m : MethodId} {args : Array Value} {below : List Frame} {meth : Method} {c : Code} {D : va_G} {ad : Nat → Nat} {κ : KC}
def FX9_init_tail (σ : HS) : Option HS :=
  bdV (FX9_emptyT σ) fun σ_1 => some σ_1
set_option maxHeartbeats 4000000 in
set_option maxRecDepth 100000 in
theorem wX9_init_tail {Q : State → Prop} {cells slots : Nat} (C : Cx 8 D ad κ p s m args meth c cX9_init RX9 1 none) (hcs : cells ≤ ({ frames := 3, cells := 7, slots := 848, locals := 65 } : Room).cells ∧ slots ≤ ({ frames := 3, cells := 7, slots := 848, locals := 65 } : Room).slots) {R : HS} (hE : ∀ (H : Heap) (locs : List Loc) (ls : Array Slot), Hd 8 ceT D ad κ s R H locs → lv_has ls 1 [(0, .ref (ad 0))] → W p l e ({ frames := 3, cells := 7, slots := 848, locals := 65 } : Room) s m args below meth c H locs cells slots Q (F0 m 63 ls [])) : ∀ (σ : HS) (H : Heap) (locs : List Loc) (ls : Array Slot), FX9_init_tail σ = some R → Hd 8 ceT D ad κ s σ H locs → lv_has ls 1 [(0, .ref (ad 0))] → W p l e ({ frames := 3, cells := 7, slots := 848, locals := 65 } : Room) s m args below meth c H locs cells slots Q (F0 m 59 ls []) := by
  have hx := C.1
  have hb := C.2.1
  have hown := C.2.2.2.1
  have hts := C.2.2.2.2.1
  intro σ H locs ls h hH hl
  rw [FX9_init_tail] at h
  refine lv_aload_n hx hb dX9_init_59 rfl (lv_at hl 0 rfl) ?_
  obtain ⟨σ_1, hc_2, h⟩ := bdV_ex h
  refine g_cv (g_runV (rest := []) C hH hl.1 cV_X9_35 0 (Nat.le_of_ble_eq_true rfl) rfl rfl (kX9_emptyT l D ad κ hc_2) ⟨rfl, rfl⟩ ⟨(Nat.le_of_ble_eq_true rfl), (Nat.le_of_ble_eq_true rfl)⟩ rfl rfl (Nat.le_of_ble_eq_true rfl) dX9_init_60 hcs) hH (fun H locs hH => ?_)
  cases h
  exact hE _ _ _ hH hl
end
theorem σT_s : (FX9_init_tail σz).isSome = true := by decide +kernel
def σT : HS := (FX9_init_tail σz).get σT_s
theorem σT_ok : FX9_init_tail σz = some σT := (Option.some_get σT_s).symm
set_option maxHeartbeats 4000000 in
set_option maxRecDepth 100000 in
theorem nX9 (l : Launch) (D : va_G) (κ : KC) (ad : Nat → Nat) (h0 sz : Nat) : MtC l D κ ad yX9_init cX9_init 1 ({ frames := 3, cells := 7, slots := 848, locals := 65 } : Room) [.ref h0] [(h0, .inr (9, [.int 0, .int 0, .int 0, .int 0, .int 0, .int 0, .null, .null, .null, .null, .null, .null, .null]))] sz 7 848 (fun w => ∃ q7 q14 q21 q29 q36 q45 q54 : Nat, w = [(h0, .inr (9, [.int (σT.1 0 0), .int (σT.1 0 1), .int (σT.1 0 2), .int (σT.1 0 3), .int (σT.1 0 4), .int (σT.1 0 5), .ref q7, .ref q14, .ref q21, .ref q29, .ref q36, .ref q45, .ref q54])), (q7, .inl (κ.1, 10, .inl (σT.1 1))), (q14, .inl (κ.1, 5, .inl (σT.1 2))), (q21, .inl (κ.1, 5, .inl (σT.1 3))), (q29, .inl (κ.1, 8, .inl (σT.1 4))), (q36, .inl (κ.1, 4, .inl (σT.1 5))), (q45, .inl (κ.1, 408, .inl (σT.1 6))), (q54, .inl (κ.1, 408, .inl (σT.1 7)))]) := by
  refine openC (by decide) rfl (Nat.le_of_ble_eq_true rfl) (la := [(0, .ref h0)]) rfl ?_
  intro p e s m below meth c ls A C hP hD hS hsz hAe hl
  replace C : Cn D κ ad p s m _ meth c cX9_init RX9 1 A := C
  have hx := C.1
  have hb := C.2.1
  refine lv_aload_n hx hb dX9_init_0 rfl (lv_at hl 0 rfl) ?_
  refine n_obj C hl.1 ko_X9 ko_i ko_c dX9_init_1 (Nat.le_of_ble_eq_true rfl) (Nat.le_of_ble_eq_true rfl) ?_
  refine lv_aload_n hx hb dX9_init_4 rfl (lv_at hl 0 rfl) ?_
  refine lv_bipush (v := 10) hx hb dX9_init_5 (by decide) ?_
  refine n_newI C ka_I hP hD hS (N := 10) (by decide) (by decide) (by decide) (Nat.le_of_ble_eq_true rfl) (Nat.le_of_ble_eq_true rfl) dX9_init_7 (fun q7 H hP hD hS => ?_)
  replace hP : va_P D classes [(h0, .inr (9, [.int 0, .int 0, .int 0, .int 0, .int 0, .int 0, .null, .null, .null, .null, .null, .null, .null])), (q7, .inl (κ.1, 10, .inl (fun _ => 0)))] H := hP
  replace hD : va_D A [(h0, .inr (9, [.int 0, .int 0, .int 0, .int 0, .int 0, .int 0, .null, .null, .null, .null, .null, .null, .null])), (q7, .inl (κ.1, 10, .inl (fun _ => 0)))] := hD
  refine W.cs (cells' := 1) (slots' := 10) rfl rfl ?_
  refine n_putR C (by decide) hP hD hS 0 rfl fq_X9_13 rfl rfl (Nat.le_of_ble_eq_true rfl) dX9_init_9 (fun H locs hP hD hS => ?_)
  replace hP : va_P D classes [(h0, .inr (9, [.int 0, .int 0, .int 0, .int 0, .int 0, .int 0, .ref q7, .null, .null, .null, .null, .null, .null])), (q7, .inl (κ.1, 10, .inl (fun _ => 0)))] H := hP
  replace hD : va_D A [(h0, .inr (9, [.int 0, .int 0, .int 0, .int 0, .int 0, .int 0, .ref q7, .null, .null, .null, .null, .null, .null])), (q7, .inl (κ.1, 10, .inl (fun _ => 0)))] := hD
  refine lv_aload_n hx hb dX9_init_12 rfl (lv_at hl 0 rfl) ?_
  refine lv_iconst (v := 5) hx hb dX9_init_13 (by decide) ?_
  refine n_newI C ka_I hP hD hS (N := 5) (by decide) (by decide) (by decide) (Nat.le_of_ble_eq_true rfl) (Nat.le_of_ble_eq_true rfl) dX9_init_14 (fun q14 H hP hD hS => ?_)
  replace hP : va_P D classes [(h0, .inr (9, [.int 0, .int 0, .int 0, .int 0, .int 0, .int 0, .ref q7, .null, .null, .null, .null, .null, .null])), (q7, .inl (κ.1, 10, .inl (fun _ => 0))), (q14, .inl (κ.1, 5, .inl (fun _ => 0)))] H := hP
  replace hD : va_D A [(h0, .inr (9, [.int 0, .int 0, .int 0, .int 0, .int 0, .int 0, .ref q7, .null, .null, .null, .null, .null, .null])), (q7, .inl (κ.1, 10, .inl (fun _ => 0))), (q14, .inl (κ.1, 5, .inl (fun _ => 0)))] := hD
  refine W.cs (cells' := 2) (slots' := 15) rfl rfl ?_
  refine n_putR C (by decide) hP hD hS 0 rfl fq_X9_17 rfl rfl (Nat.le_of_ble_eq_true rfl) dX9_init_16 (fun H locs hP hD hS => ?_)
  replace hP : va_P D classes [(h0, .inr (9, [.int 0, .int 0, .int 0, .int 0, .int 0, .int 0, .ref q7, .ref q14, .null, .null, .null, .null, .null])), (q7, .inl (κ.1, 10, .inl (fun _ => 0))), (q14, .inl (κ.1, 5, .inl (fun _ => 0)))] H := hP
  replace hD : va_D A [(h0, .inr (9, [.int 0, .int 0, .int 0, .int 0, .int 0, .int 0, .ref q7, .ref q14, .null, .null, .null, .null, .null])), (q7, .inl (κ.1, 10, .inl (fun _ => 0))), (q14, .inl (κ.1, 5, .inl (fun _ => 0)))] := hD
  refine lv_aload_n hx hb dX9_init_19 rfl (lv_at hl 0 rfl) ?_
  refine lv_iconst (v := 5) hx hb dX9_init_20 (by decide) ?_
  refine n_newI C ka_I hP hD hS (N := 5) (by decide) (by decide) (by decide) (Nat.le_of_ble_eq_true rfl) (Nat.le_of_ble_eq_true rfl) dX9_init_21 (fun q21 H hP hD hS => ?_)
  replace hP : va_P D classes [(h0, .inr (9, [.int 0, .int 0, .int 0, .int 0, .int 0, .int 0, .ref q7, .ref q14, .null, .null, .null, .null, .null])), (q7, .inl (κ.1, 10, .inl (fun _ => 0))), (q14, .inl (κ.1, 5, .inl (fun _ => 0))), (q21, .inl (κ.1, 5, .inl (fun _ => 0)))] H := hP
  replace hD : va_D A [(h0, .inr (9, [.int 0, .int 0, .int 0, .int 0, .int 0, .int 0, .ref q7, .ref q14, .null, .null, .null, .null, .null])), (q7, .inl (κ.1, 10, .inl (fun _ => 0))), (q14, .inl (κ.1, 5, .inl (fun _ => 0))), (q21, .inl (κ.1, 5, .inl (fun _ => 0)))] := hD
  refine W.cs (cells' := 3) (slots' := 20) rfl rfl ?_
  refine n_putR C (by decide) hP hD hS 0 rfl fq_X9_20 rfl rfl (Nat.le_of_ble_eq_true rfl) dX9_init_23 (fun H locs hP hD hS => ?_)
  replace hP : va_P D classes [(h0, .inr (9, [.int 0, .int 0, .int 0, .int 0, .int 0, .int 0, .ref q7, .ref q14, .ref q21, .null, .null, .null, .null])), (q7, .inl (κ.1, 10, .inl (fun _ => 0))), (q14, .inl (κ.1, 5, .inl (fun _ => 0))), (q21, .inl (κ.1, 5, .inl (fun _ => 0)))] H := hP
  replace hD : va_D A [(h0, .inr (9, [.int 0, .int 0, .int 0, .int 0, .int 0, .int 0, .ref q7, .ref q14, .ref q21, .null, .null, .null, .null])), (q7, .inl (κ.1, 10, .inl (fun _ => 0))), (q14, .inl (κ.1, 5, .inl (fun _ => 0))), (q21, .inl (κ.1, 5, .inl (fun _ => 0)))] := hD
  refine lv_aload_n hx hb dX9_init_26 rfl (lv_at hl 0 rfl) ?_
  refine lv_bipush (v := 8) hx hb dX9_init_27 (by decide) ?_
  refine n_newI C ka_I hP hD hS (N := 8) (by decide) (by decide) (by decide) (Nat.le_of_ble_eq_true rfl) (Nat.le_of_ble_eq_true rfl) dX9_init_29 (fun q29 H hP hD hS => ?_)
  replace hP : va_P D classes [(h0, .inr (9, [.int 0, .int 0, .int 0, .int 0, .int 0, .int 0, .ref q7, .ref q14, .ref q21, .null, .null, .null, .null])), (q7, .inl (κ.1, 10, .inl (fun _ => 0))), (q14, .inl (κ.1, 5, .inl (fun _ => 0))), (q21, .inl (κ.1, 5, .inl (fun _ => 0))), (q29, .inl (κ.1, 8, .inl (fun _ => 0)))] H := hP
  replace hD : va_D A [(h0, .inr (9, [.int 0, .int 0, .int 0, .int 0, .int 0, .int 0, .ref q7, .ref q14, .ref q21, .null, .null, .null, .null])), (q7, .inl (κ.1, 10, .inl (fun _ => 0))), (q14, .inl (κ.1, 5, .inl (fun _ => 0))), (q21, .inl (κ.1, 5, .inl (fun _ => 0))), (q29, .inl (κ.1, 8, .inl (fun _ => 0)))] := hD
  refine W.cs (cells' := 4) (slots' := 28) rfl rfl ?_
  refine n_putR C (by decide) hP hD hS 0 rfl fq_X9_23 rfl rfl (Nat.le_of_ble_eq_true rfl) dX9_init_31 (fun H locs hP hD hS => ?_)
  replace hP : va_P D classes [(h0, .inr (9, [.int 0, .int 0, .int 0, .int 0, .int 0, .int 0, .ref q7, .ref q14, .ref q21, .ref q29, .null, .null, .null])), (q7, .inl (κ.1, 10, .inl (fun _ => 0))), (q14, .inl (κ.1, 5, .inl (fun _ => 0))), (q21, .inl (κ.1, 5, .inl (fun _ => 0))), (q29, .inl (κ.1, 8, .inl (fun _ => 0)))] H := hP
  replace hD : va_D A [(h0, .inr (9, [.int 0, .int 0, .int 0, .int 0, .int 0, .int 0, .ref q7, .ref q14, .ref q21, .ref q29, .null, .null, .null])), (q7, .inl (κ.1, 10, .inl (fun _ => 0))), (q14, .inl (κ.1, 5, .inl (fun _ => 0))), (q21, .inl (κ.1, 5, .inl (fun _ => 0))), (q29, .inl (κ.1, 8, .inl (fun _ => 0)))] := hD
  refine lv_aload_n hx hb dX9_init_34 rfl (lv_at hl 0 rfl) ?_
  refine lv_iconst (v := 4) hx hb dX9_init_35 (by decide) ?_
  refine n_newI C ka_I hP hD hS (N := 4) (by decide) (by decide) (by decide) (Nat.le_of_ble_eq_true rfl) (Nat.le_of_ble_eq_true rfl) dX9_init_36 (fun q36 H hP hD hS => ?_)
  replace hP : va_P D classes [(h0, .inr (9, [.int 0, .int 0, .int 0, .int 0, .int 0, .int 0, .ref q7, .ref q14, .ref q21, .ref q29, .null, .null, .null])), (q7, .inl (κ.1, 10, .inl (fun _ => 0))), (q14, .inl (κ.1, 5, .inl (fun _ => 0))), (q21, .inl (κ.1, 5, .inl (fun _ => 0))), (q29, .inl (κ.1, 8, .inl (fun _ => 0))), (q36, .inl (κ.1, 4, .inl (fun _ => 0)))] H := hP
  replace hD : va_D A [(h0, .inr (9, [.int 0, .int 0, .int 0, .int 0, .int 0, .int 0, .ref q7, .ref q14, .ref q21, .ref q29, .null, .null, .null])), (q7, .inl (κ.1, 10, .inl (fun _ => 0))), (q14, .inl (κ.1, 5, .inl (fun _ => 0))), (q21, .inl (κ.1, 5, .inl (fun _ => 0))), (q29, .inl (κ.1, 8, .inl (fun _ => 0))), (q36, .inl (κ.1, 4, .inl (fun _ => 0)))] := hD
  refine W.cs (cells' := 5) (slots' := 32) rfl rfl ?_
  refine n_putR C (by decide) hP hD hS 0 rfl fq_X9_26 rfl rfl (Nat.le_of_ble_eq_true rfl) dX9_init_38 (fun H locs hP hD hS => ?_)
  replace hP : va_P D classes [(h0, .inr (9, [.int 0, .int 0, .int 0, .int 0, .int 0, .int 0, .ref q7, .ref q14, .ref q21, .ref q29, .ref q36, .null, .null])), (q7, .inl (κ.1, 10, .inl (fun _ => 0))), (q14, .inl (κ.1, 5, .inl (fun _ => 0))), (q21, .inl (κ.1, 5, .inl (fun _ => 0))), (q29, .inl (κ.1, 8, .inl (fun _ => 0))), (q36, .inl (κ.1, 4, .inl (fun _ => 0)))] H := hP
  replace hD : va_D A [(h0, .inr (9, [.int 0, .int 0, .int 0, .int 0, .int 0, .int 0, .ref q7, .ref q14, .ref q21, .ref q29, .ref q36, .null, .null])), (q7, .inl (κ.1, 10, .inl (fun _ => 0))), (q14, .inl (κ.1, 5, .inl (fun _ => 0))), (q21, .inl (κ.1, 5, .inl (fun _ => 0))), (q29, .inl (κ.1, 8, .inl (fun _ => 0))), (q36, .inl (κ.1, 4, .inl (fun _ => 0)))] := hD
  refine lv_aload_n hx hb dX9_init_41 rfl (lv_at hl 0 rfl) ?_
  refine lv_sipush (v := 408) hx hb dX9_init_42 (by decide) ?_
  refine n_newI C ka_I hP hD hS (N := 408) (by decide) (by decide) (by decide) (Nat.le_of_ble_eq_true rfl) (Nat.le_of_ble_eq_true rfl) dX9_init_45 (fun q45 H hP hD hS => ?_)
  replace hP : va_P D classes [(h0, .inr (9, [.int 0, .int 0, .int 0, .int 0, .int 0, .int 0, .ref q7, .ref q14, .ref q21, .ref q29, .ref q36, .null, .null])), (q7, .inl (κ.1, 10, .inl (fun _ => 0))), (q14, .inl (κ.1, 5, .inl (fun _ => 0))), (q21, .inl (κ.1, 5, .inl (fun _ => 0))), (q29, .inl (κ.1, 8, .inl (fun _ => 0))), (q36, .inl (κ.1, 4, .inl (fun _ => 0))), (q45, .inl (κ.1, 408, .inl (fun _ => 0)))] H := hP
  replace hD : va_D A [(h0, .inr (9, [.int 0, .int 0, .int 0, .int 0, .int 0, .int 0, .ref q7, .ref q14, .ref q21, .ref q29, .ref q36, .null, .null])), (q7, .inl (κ.1, 10, .inl (fun _ => 0))), (q14, .inl (κ.1, 5, .inl (fun _ => 0))), (q21, .inl (κ.1, 5, .inl (fun _ => 0))), (q29, .inl (κ.1, 8, .inl (fun _ => 0))), (q36, .inl (κ.1, 4, .inl (fun _ => 0))), (q45, .inl (κ.1, 408, .inl (fun _ => 0)))] := hD
  refine W.cs (cells' := 6) (slots' := 440) rfl rfl ?_
  refine n_putR C (by decide) hP hD hS 0 rfl fq_X9_29 rfl rfl (Nat.le_of_ble_eq_true rfl) dX9_init_47 (fun H locs hP hD hS => ?_)
  replace hP : va_P D classes [(h0, .inr (9, [.int 0, .int 0, .int 0, .int 0, .int 0, .int 0, .ref q7, .ref q14, .ref q21, .ref q29, .ref q36, .ref q45, .null])), (q7, .inl (κ.1, 10, .inl (fun _ => 0))), (q14, .inl (κ.1, 5, .inl (fun _ => 0))), (q21, .inl (κ.1, 5, .inl (fun _ => 0))), (q29, .inl (κ.1, 8, .inl (fun _ => 0))), (q36, .inl (κ.1, 4, .inl (fun _ => 0))), (q45, .inl (κ.1, 408, .inl (fun _ => 0)))] H := hP
  replace hD : va_D A [(h0, .inr (9, [.int 0, .int 0, .int 0, .int 0, .int 0, .int 0, .ref q7, .ref q14, .ref q21, .ref q29, .ref q36, .ref q45, .null])), (q7, .inl (κ.1, 10, .inl (fun _ => 0))), (q14, .inl (κ.1, 5, .inl (fun _ => 0))), (q21, .inl (κ.1, 5, .inl (fun _ => 0))), (q29, .inl (κ.1, 8, .inl (fun _ => 0))), (q36, .inl (κ.1, 4, .inl (fun _ => 0))), (q45, .inl (κ.1, 408, .inl (fun _ => 0)))] := hD
  refine lv_aload_n hx hb dX9_init_50 rfl (lv_at hl 0 rfl) ?_
  refine lv_sipush (v := 408) hx hb dX9_init_51 (by decide) ?_
  refine n_newI C ka_I hP hD hS (N := 408) (by decide) (by decide) (by decide) (Nat.le_of_ble_eq_true rfl) (Nat.le_of_ble_eq_true rfl) dX9_init_54 (fun q54 H hP hD hS => ?_)
  replace hP : va_P D classes [(h0, .inr (9, [.int 0, .int 0, .int 0, .int 0, .int 0, .int 0, .ref q7, .ref q14, .ref q21, .ref q29, .ref q36, .ref q45, .null])), (q7, .inl (κ.1, 10, .inl (fun _ => 0))), (q14, .inl (κ.1, 5, .inl (fun _ => 0))), (q21, .inl (κ.1, 5, .inl (fun _ => 0))), (q29, .inl (κ.1, 8, .inl (fun _ => 0))), (q36, .inl (κ.1, 4, .inl (fun _ => 0))), (q45, .inl (κ.1, 408, .inl (fun _ => 0))), (q54, .inl (κ.1, 408, .inl (fun _ => 0)))] H := hP
  replace hD : va_D A [(h0, .inr (9, [.int 0, .int 0, .int 0, .int 0, .int 0, .int 0, .ref q7, .ref q14, .ref q21, .ref q29, .ref q36, .ref q45, .null])), (q7, .inl (κ.1, 10, .inl (fun _ => 0))), (q14, .inl (κ.1, 5, .inl (fun _ => 0))), (q21, .inl (κ.1, 5, .inl (fun _ => 0))), (q29, .inl (κ.1, 8, .inl (fun _ => 0))), (q36, .inl (κ.1, 4, .inl (fun _ => 0))), (q45, .inl (κ.1, 408, .inl (fun _ => 0))), (q54, .inl (κ.1, 408, .inl (fun _ => 0)))] := hD
  refine W.cs (cells' := 7) (slots' := 848) rfl rfl ?_
  refine n_putR C (by decide) hP hD hS 0 rfl fq_X9_32 rfl rfl (Nat.le_of_ble_eq_true rfl) dX9_init_56 (fun H locs hP hD hS => ?_)
  replace hP : va_P D classes [(h0, .inr (9, [.int 0, .int 0, .int 0, .int 0, .int 0, .int 0, .ref q7, .ref q14, .ref q21, .ref q29, .ref q36, .ref q45, .ref q54])), (q7, .inl (κ.1, 10, .inl (fun _ => 0))), (q14, .inl (κ.1, 5, .inl (fun _ => 0))), (q21, .inl (κ.1, 5, .inl (fun _ => 0))), (q29, .inl (κ.1, 8, .inl (fun _ => 0))), (q36, .inl (κ.1, 4, .inl (fun _ => 0))), (q45, .inl (κ.1, 408, .inl (fun _ => 0))), (q54, .inl (κ.1, 408, .inl (fun _ => 0)))] H := hP
  replace hD : va_D A [(h0, .inr (9, [.int 0, .int 0, .int 0, .int 0, .int 0, .int 0, .ref q7, .ref q14, .ref q21, .ref q29, .ref q36, .ref q45, .ref q54])), (q7, .inl (κ.1, 10, .inl (fun _ => 0))), (q14, .inl (κ.1, 5, .inl (fun _ => 0))), (q21, .inl (κ.1, 5, .inl (fun _ => 0))), (q29, .inl (κ.1, 8, .inl (fun _ => 0))), (q36, .inl (κ.1, 4, .inl (fun _ => 0))), (q45, .inl (κ.1, 408, .inl (fun _ => 0))), (q54, .inl (κ.1, 408, .inl (fun _ => 0)))] := hD
  have hP1 : va_P D classes (wG 8 ceT (adL [h0, q7, q14, q21, q29, q36, q45, q54] ad s.heap.size) κ σz) H := hP.sub [0, 1, 2, 3, 4, 5, 6, 7] rfl
  have hD1 : va_D A (wG 8 ceT (adL [h0, q7, q14, q21, q29, q36, q45, q54] ad s.heap.size) κ σz) := hD.sub [0, 1, 2, 3, 4, 5, 6, 7] (by decide) rfl
  have hi := wG_inj hD1
  have hsub : ∀ q, AX 8 (adL [h0, q7, q14, q21, q29, q36, q45, q54] ad s.heap.size) q → A q := n_sub hD1 C.2.2.2.2.2.2.2.2.2.2 rfl
  have hsup : ∀ q, A q → AX 8 (adL [h0, q7, q14, q21, q29, q36, q45, q54] ad s.heap.size) q := n_sup hAe hsz rfl rfl
  have C1 := n_Cx C (by decide) hi (adL_ge _ _ _) hsub
  refine wX9_init_tail (R := σT) C1 ⟨(Nat.le_of_ble_eq_true rfl), (Nat.le_of_ble_eq_true rfl)⟩ (fun H locs ls hH hl => ?_) _ _ _ _ σT_ok ⟨hP1, va_S_sub hS hsup⟩ hl
  have hD2 := (wG_D (ce := ceT) (κ := κ) (σ := σT) hi).weaken (fun _ q _ h => hsub q.1 h)
  exact n_ret C (by decide) hH.1 hD2 (va_S_sub hH.2 hsub) ⟨q7, q14, q21, q29, q36, q45, q54, rfl⟩ dX9_init_63
set_option maxHeartbeats 4000000 in
set_option maxRecDepth 100000 in
theorem nX6 (l : Launch) (D : va_G) (κ : KC) (ad : Nat → Nat) (h0 sz : Nat) (a1 : Nat) : MtC l D κ ad yX6_init cX6_init 2 ({ frames := 1, cells := 3, slots := 1203, locals := 12 } : Room) [.ref h0, .ref a1] [(h0, .inr (6, [.null, .null, .null, .null, .int 0, .long 0]))] sz 3 1203 (fun w => ∃ q8 q17 q26 : Nat, w = [(h0, .inr (6, [.ref q8, .ref q17, .ref q26, .ref a1, .int 0, .long 0])), (q8, .inl (κ.1, 401, .inl (fun _ => 0))), (q17, .inl (κ.1, 401, .inl (fun _ => 0))), (q26, .inl (κ.2.2.2, 401, .inr (.inl (fun _ => 0))))]) := by
  refine openC (by decide) rfl (Nat.le_of_ble_eq_true rfl) (la := [(0, .ref h0), (1, .ref a1)]) rfl ?_
  intro p e s m below meth c ls A C hP hD hS hsz hAe hl
  replace C : Cn D κ ad p s m _ meth c cX6_init RX6 2 A := C
  have hx := C.1
  have hb := C.2.1
  refine lv_aload_n hx hb dX6_init_0 rfl (lv_at hl 0 rfl) ?_
  refine n_obj C hl.1 ko_X6 ko_i ko_c dX6_init_1 (Nat.le_of_ble_eq_true rfl) (Nat.le_of_ble_eq_true rfl) ?_
  refine lv_aload_n hx hb dX6_init_4 rfl (lv_at hl 0 rfl) ?_
  refine lv_sipush (v := 401) hx hb dX6_init_5 (by decide) ?_
  refine n_newI C ka_I hP hD hS (N := 401) (by decide) (by decide) (by decide) (Nat.le_of_ble_eq_true rfl) (Nat.le_of_ble_eq_true rfl) dX6_init_8 (fun q8 H hP hD hS => ?_)
  replace hP : va_P D classes [(h0, .inr (6, [.null, .null, .null, .null, .int 0, .long 0])), (q8, .inl (κ.1, 401, .inl (fun _ => 0)))] H := hP
  replace hD : va_D A [(h0, .inr (6, [.null, .null, .null, .null, .int 0, .long 0])), (q8, .inl (κ.1, 401, .inl (fun _ => 0)))] := hD
  refine W.cs (cells' := 1) (slots' := 401) rfl rfl ?_
  refine n_putR C (by decide) hP hD hS 0 rfl fq_X6_11 rfl rfl (Nat.le_of_ble_eq_true rfl) dX6_init_10 (fun H locs hP hD hS => ?_)
  replace hP : va_P D classes [(h0, .inr (6, [.ref q8, .null, .null, .null, .int 0, .long 0])), (q8, .inl (κ.1, 401, .inl (fun _ => 0)))] H := hP
  replace hD : va_D A [(h0, .inr (6, [.ref q8, .null, .null, .null, .int 0, .long 0])), (q8, .inl (κ.1, 401, .inl (fun _ => 0)))] := hD
  refine lv_aload_n hx hb dX6_init_13 rfl (lv_at hl 0 rfl) ?_
  refine lv_sipush (v := 401) hx hb dX6_init_14 (by decide) ?_
  refine n_newI C ka_I hP hD hS (N := 401) (by decide) (by decide) (by decide) (Nat.le_of_ble_eq_true rfl) (Nat.le_of_ble_eq_true rfl) dX6_init_17 (fun q17 H hP hD hS => ?_)
  replace hP : va_P D classes [(h0, .inr (6, [.ref q8, .null, .null, .null, .int 0, .long 0])), (q8, .inl (κ.1, 401, .inl (fun _ => 0))), (q17, .inl (κ.1, 401, .inl (fun _ => 0)))] H := hP
  replace hD : va_D A [(h0, .inr (6, [.ref q8, .null, .null, .null, .int 0, .long 0])), (q8, .inl (κ.1, 401, .inl (fun _ => 0))), (q17, .inl (κ.1, 401, .inl (fun _ => 0)))] := hD
  refine W.cs (cells' := 2) (slots' := 802) rfl rfl ?_
  refine n_putR C (by decide) hP hD hS 0 rfl fq_X6_15 rfl rfl (Nat.le_of_ble_eq_true rfl) dX6_init_19 (fun H locs hP hD hS => ?_)
  replace hP : va_P D classes [(h0, .inr (6, [.ref q8, .ref q17, .null, .null, .int 0, .long 0])), (q8, .inl (κ.1, 401, .inl (fun _ => 0))), (q17, .inl (κ.1, 401, .inl (fun _ => 0)))] H := hP
  replace hD : va_D A [(h0, .inr (6, [.ref q8, .ref q17, .null, .null, .int 0, .long 0])), (q8, .inl (κ.1, 401, .inl (fun _ => 0))), (q17, .inl (κ.1, 401, .inl (fun _ => 0)))] := hD
  refine lv_aload_n hx hb dX6_init_22 rfl (lv_at hl 0 rfl) ?_
  refine lv_sipush (v := 401) hx hb dX6_init_23 (by decide) ?_
  refine n_newJ C ka_J hP hD hS (N := 401) (by decide) (by decide) (by decide) (Nat.le_of_ble_eq_true rfl) (Nat.le_of_ble_eq_true rfl) dX6_init_26 (fun q26 H hP hD hS => ?_)
  replace hP : va_P D classes [(h0, .inr (6, [.ref q8, .ref q17, .null, .null, .int 0, .long 0])), (q8, .inl (κ.1, 401, .inl (fun _ => 0))), (q17, .inl (κ.1, 401, .inl (fun _ => 0))), (q26, .inl (κ.2.2.2, 401, .inr (.inl (fun _ => 0))))] H := hP
  replace hD : va_D A [(h0, .inr (6, [.ref q8, .ref q17, .null, .null, .int 0, .long 0])), (q8, .inl (κ.1, 401, .inl (fun _ => 0))), (q17, .inl (κ.1, 401, .inl (fun _ => 0))), (q26, .inl (κ.2.2.2, 401, .inr (.inl (fun _ => 0))))] := hD
  refine W.cs (cells' := 3) (slots' := 1203) rfl rfl ?_
  refine n_putR C (by decide) hP hD hS 0 rfl fq_X6_18 rfl rfl (Nat.le_of_ble_eq_true rfl) dX6_init_28 (fun H locs hP hD hS => ?_)
  replace hP : va_P D classes [(h0, .inr (6, [.ref q8, .ref q17, .ref q26, .null, .int 0, .long 0])), (q8, .inl (κ.1, 401, .inl (fun _ => 0))), (q17, .inl (κ.1, 401, .inl (fun _ => 0))), (q26, .inl (κ.2.2.2, 401, .inr (.inl (fun _ => 0))))] H := hP
  replace hD : va_D A [(h0, .inr (6, [.ref q8, .ref q17, .ref q26, .null, .int 0, .long 0])), (q8, .inl (κ.1, 401, .inl (fun _ => 0))), (q17, .inl (κ.1, 401, .inl (fun _ => 0))), (q26, .inl (κ.2.2.2, 401, .inr (.inl (fun _ => 0))))] := hD
  refine lv_aload_n hx hb dX6_init_31 rfl (lv_at hl 0 rfl) ?_
  refine lv_aload_n hx hb dX6_init_32 rfl (lv_at hl 1 rfl) ?_
  refine n_putR C (by decide) hP hD hS 0 rfl fq_X6_22 rfl rfl (Nat.le_of_ble_eq_true rfl) dX6_init_33 (fun H locs hP hD hS => ?_)
  replace hP : va_P D classes [(h0, .inr (6, [.ref q8, .ref q17, .ref q26, .ref a1, .int 0, .long 0])), (q8, .inl (κ.1, 401, .inl (fun _ => 0))), (q17, .inl (κ.1, 401, .inl (fun _ => 0))), (q26, .inl (κ.2.2.2, 401, .inr (.inl (fun _ => 0))))] H := hP
  replace hD : va_D A [(h0, .inr (6, [.ref q8, .ref q17, .ref q26, .ref a1, .int 0, .long 0])), (q8, .inl (κ.1, 401, .inl (fun _ => 0))), (q17, .inl (κ.1, 401, .inl (fun _ => 0))), (q26, .inl (κ.2.2.2, 401, .inr (.inl (fun _ => 0))))] := hD
  exact n_ret C (by decide) hP hD hS ⟨q8, q17, q26, rfl⟩ dX6_init_36
