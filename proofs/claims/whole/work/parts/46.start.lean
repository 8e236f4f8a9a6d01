theorem nw_L_7 : nw RL 7 11 [.null, .null, .null, .null, .null, .null, .null, .null, .null, .null, .null] := ⟨RX11, TX11, tyX11, rfl, iw_X11, tyX11_ok, lg_at 23 (by decide +kernel) (by decide +kernel), lg_at 24 (by decide +kernel) (by decide +kernel), lg_at 1 (by decide +kernel) (by decide +kernel), fun j hj => match j, hj with | 0, _ => rfl | 1, _ => rfl | 2, _ => rfl | 3, _ => rfl | 4, _ => rfl | 5, _ => rfl | 6, _ => rfl | 7, _ => rfl | 8, _ => rfl | 9, _ => rfl | 10, _ => rfl | n + 11, h => absurd h (by simp)⟩
theorem nw_L_10 : nw RL 10 12 [.int 0, .null, .int 0, .null, .int 0, .null, .null, .null, .null, .null, .int 0, .int 0, .int 0, .int 0, .int 0, .int 0, .int 0, .int 0, .int 0, .int 0, .null, .null, .null, .null, .null, .null, .null, .null, .null, .null, .null, .null, .null, .int 0, .null, .null, .null, .null, .null, .int 0, .null, .null, .null, .int 0, .null, .null, .int 0, .null, .null, .int 0, .int 0, .null, .null, .null, .null, .null, .null, .int 0, .null, .null, .null, .null, .null, .null] := ⟨RX12, TX12, tyX12, rfl, iw_X12, tyX12_ok, lg_at 1166 (by decide +kernel) (by decide +kernel), lg_at 1167 (by decide +kernel) (by decide +kernel), lg_at 15 (by decide +kernel) (by decide +kernel), fun j hj => match j, hj with | 0, _ => rfl | 1, _ => rfl | 2, _ => rfl | 3, _ => rfl | 4, _ => rfl | 5, _ => rfl | 6, _ => rfl | 7, _ => rfl | 8, _ => rfl | 9, _ => rfl | 10, _ => rfl | 11, _ => rfl | 12, _ => rfl | 13, _ => rfl | 14, _ => rfl | 15, _ => rfl | 16, _ => rfl | 17, _ => rfl | 18, _ => rfl | 19, _ => rfl | 20, _ => rfl | 21, _ => rfl | 22, _ => rfl | 23, _ => rfl | 24, _ => rfl | 25, _ => rfl | 26, _ => rfl | 27, _ => rfl | 28, _ => rfl | 29, _ => rfl | 30, _ => rfl | 31, _ => rfl | 32, _ => rfl | 33, _ => rfl | 34, _ => rfl | 35, _ => rfl | 36, _ => rfl | 37, _ => rfl | 38, _ => rfl | 39, _ => rfl | 40, _ => rfl | 41, _ => rfl | 42, _ => rfl | 43, _ => rfl | 44, _ => rfl | 45, _ => rfl | 46, _ => rfl | 47, _ => rfl | 48, _ => rfl | 49, _ => rfl | 50, _ => rfl | 51, _ => rfl | 52, _ => rfl | 53, _ => rfl | 54, _ => rfl | 55, _ => rfl | 56, _ => rfl | 57, _ => rfl | 58, _ => rfl | 59, _ => rfl | 60, _ => rfl | 61, _ => rfl | 62, _ => rfl | 63, _ => rfl | n + 64, h => absurd h (by simp)⟩
theorem cI_L_9 : cI RL 9 yX11_init cX11_init 1 0 := ⟨Or.inl (lg_at 25 (by decide +kernel) (by decide +kernel)), ⟨lg_at 26 (by decide +kernel) (by decide +kernel), lg_at 1 (by decide +kernel) (by decide +kernel), lg_at 27 (by decide +kernel) (by decide +kernel), rfl⟩, by decide +kernel, by decide +kernel, by decide +kernel⟩
set_option maxRecDepth 100000 in
theorem kc_init : Cond.code yX12_init cX12_init 1 none ∈ lg_tbl := lg_at 1170 rfl rfl
theorem cI_L_12 : cI RL 12 yX12_init cX12_init 1 0 := ⟨Or.inl (lg_at 1168 (by decide +kernel) (by decide +kernel)), ⟨lg_at 1169 (by decide +kernel) (by decide +kernel), lg_at 15 (by decide +kernel) (by decide +kernel), kc_init, rfl⟩, by decide +kernel, by decide +kernel, by decide +kernel⟩
set_option maxHeartbeats 4000000 in
theorem ceX_ad {ad ad' : Nat → Nat} (e : ∀ i, i < 50 → ad i = ad' i) (κ : KC) (f : Nat → Int32) (q : Nat → Int64) (h : Nat) : ceX ad κ f q h = ceX ad' κ f q h := by
  unfold ceX
  split <;> first | rfl | simp only [e 0 (by decide), e 1 (by decide), e 2 (by decide), e 3 (by decide), e 4 (by decide), e 5 (by decide), e 6 (by decide), e 7 (by decide), e 8 (by decide), e 9 (by decide), e 10 (by decide), e 11 (by decide), e 12 (by decide), e 13 (by decide), e 14 (by decide), e 15 (by decide), e 16 (by decide), e 17 (by decide), e 18 (by decide), e 19 (by decide), e 20 (by decide), e 21 (by decide), e 22 (by decide), e 23 (by decide), e 24 (by decide), e 25 (by decide), e 26 (by decide), e 27 (by decide), e 28 (by decide), e 29 (by decide), e 30 (by decide), e 31 (by decide), e 32 (by decide), e 33 (by decide), e 34 (by decide), e 35 (by decide), e 36 (by decide), e 37 (by decide), e 38 (by decide), e 39 (by decide), e 40 (by decide), e 41 (by decide), e 42 (by decide), e 43 (by decide), e 44 (by decide), e 45 (by decide), e 46 (by decide), e 47 (by decide), e 48 (by decide), e 49 (by decide)]
theorem wceX_ad {ad ad' : Nat → Nat} (e : ∀ i, i < 50 → ad i = ad' i) (κ : KC) (σ : HS) : wG 50 ceX ad κ σ = wG 50 ceX ad' κ σ := by
  unfold wG
  apply List.map_congr_left
  intro h hh
  rw [e h (List.mem_range.mp hh), ceX_ad e]
set_option maxHeartbeats 4000000 in
theorem ceM_ad {ad ad' : Nat → Nat} (e : ∀ i, i < 45 → ad i = ad' i) (κ : KC) (f : Nat → Int32) (q : Nat → Int64) (h : Nat) : ceM ad κ f q h = ceM ad' κ f q h := by
  unfold ceM
  split <;> first | rfl | simp only [e 0 (by decide), e 1 (by decide), e 2 (by decide), e 3 (by decide), e 4 (by decide), e 5 (by decide), e 6 (by decide), e 7 (by decide), e 8 (by decide), e 9 (by decide), e 10 (by decide), e 11 (by decide), e 12 (by decide), e 13 (by decide), e 14 (by decide), e 15 (by decide), e 16 (by decide), e 17 (by decide), e 18 (by decide), e 19 (by decide), e 20 (by decide), e 21 (by decide), e 22 (by decide), e 23 (by decide), e 24 (by decide), e 25 (by decide), e 26 (by decide), e 27 (by decide), e 28 (by decide), e 29 (by decide), e 30 (by decide), e 31 (by decide), e 32 (by decide), e 33 (by decide), e 34 (by decide), e 35 (by decide), e 36 (by decide), e 37 (by decide), e 38 (by decide), e 39 (by decide), e 40 (by decide), e 41 (by decide), e 42 (by decide), e 43 (by decide), e 44 (by decide)]
theorem wceM_ad {ad ad' : Nat → Nat} (e : ∀ i, i < 45 → ad i = ad' i) (κ : KC) (σ : HS) : wG 45 ceM ad κ σ = wG 45 ceM ad' κ σ := by
  unfold wG
  apply List.map_congr_left
  intro h hh
  rw [e h (List.mem_range.mp hh), ceM_ad e]
theorem va_P_l {D : va_G} {cl : List vw_C} {w z : va_W} {H : Heap} (h : va_P D cl (w ++ z) H) : va_P D cl w H := fun k q hq => h k q (by rw [List.getElem?_append_left (List.getElem?_eq_some_iff.mp hq).1]; exact hq)
theorem va_P_r {D : va_G} {cl : List vw_C} {w z : va_W} {H : Heap} (h : va_P D cl (w ++ z) H) : va_P D cl z H := fun k q hq => h (w.length + k) q (by rw [List.getElem?_append_right (by omega)]; simpa using hq)
theorem arr_of {args : Array Value} {s : State} {ty : FieldType} (hp : ∀ C, ty ≠ .object C) (h : (Cond.arrayClass ty).before args s = true) : ∃ cA : ClassId, ArrOfT s cA ty ∧ va_RA s cA ty := by
  obtain ⟨cA, kA, comp, h1, h2, h3⟩ := Cond.arrayClass_spec h
  refine ⟨cA, fun n z => ⟨fun k h => (by cases h), kA, h2, comp, h3⟩, ?_⟩
  cases ty <;> first | exact h1 | exact absurd rfl (hp _)
theorem ki_X0 : Cond.instantiable RX0 9 ∈ lg_tbl := lg_at 280 (by decide +kernel) (by decide +kernel)
theorem ki_X1 : Cond.instantiable RX1 3 ∈ lg_tbl := lg_at 332 (by decide +kernel) (by decide +kernel)
theorem ki_X2 : Cond.instantiable RX2 3 ∈ lg_tbl := lg_at 264 (by decide +kernel) (by decide +kernel)
theorem ki_X3 : Cond.instantiable RX3 5 ∈ lg_tbl := lg_at 240 (by decide +kernel) (by decide +kernel)
theorem ki_X4 : Cond.instantiable RX4 2 ∈ lg_tbl := lg_at 319 (by decide +kernel) (by decide +kernel)
theorem ki_X5 : Cond.instantiable RX5 14 ∈ lg_tbl := lg_at 48 (by decide +kernel) (by decide +kernel)
theorem ki_X6 : Cond.instantiable RX6 6 ∈ lg_tbl := lg_at 150 (by decide +kernel) (by decide +kernel)
theorem ki_X7 : Cond.instantiable RX7 1 ∈ lg_tbl := lg_at 226 (by decide +kernel) (by decide +kernel)
theorem ki_X8 : Cond.instantiable RX8 2 ∈ lg_tbl := lg_at 32 (by decide +kernel) (by decide +kernel)
theorem ki_X9 : Cond.instantiable RX9 13 ∈ lg_tbl := lg_at 54 (by decide +kernel) (by decide +kernel)
theorem ki_X10 : Cond.instantiable RX10 11 ∈ lg_tbl := lg_at 348 (by decide +kernel) (by decide +kernel)
theorem ki_X11 : Cond.instantiable RX11 11 ∈ lg_tbl := lg_at 24 (by decide +kernel) (by decide +kernel)
theorem ki_X12 : Cond.instantiable RX12 64 ∈ lg_tbl := lg_at 1167 (by decide +kernel) (by decide +kernel)
theorem nest_in : ∀ w ∈ nestW, w ∈ tables_1 := by
  intro w hw
  simp only [nestW, List.mem_cons, List.not_mem_nil, or_false] at hw
  rcases hw with rfl | rfl | rfl | rfl | rfl
  · exact List.mem_of_getElem? (i := 653) (by decide +kernel)
  · exact List.mem_of_getElem? (i := 1121) (by decide +kernel)
  · exact List.mem_of_getElem? (i := 33) (by decide +kernel)
  · exact List.mem_of_getElem? (i := 227) (by decide +kernel)
  · exact List.mem_of_getElem? (i := 241) (by decide +kernel)
def tmS (i : Nat) : Term := .string RX6 (if i = 0 then 85 else 66)
abbrev flN : List Cond := flatC (Jvm.Cond.and given_1 narrow_1)
theorem st_1 : ∀ i, i < 2 → Cond.exactly (tmS i) "java/lang/String" ∈ flN := by decide +kernel
theorem st_2 : ∀ i, i < 2 → Cond.eq (.field (tmS i) "java/lang/String" "coder" "B") (.int 0) ∈ flN := by decide +kernel
theorem st_3 : ∀ i, i < 2 → Cond.arrayOf (.field (tmS i) "java/lang/String" "value" "[B") .byte ∈ flN := by decide +kernel
theorem st_4' : ∀ i, i < 2 → Cond.eq (.length (.field (tmS i) "java/lang/String" "value" "[B")) (.int (Int32.ofNat (lenJS.getD i 0))) ∈ flN := by decide +kernel
theorem st_5' : ∀ i, i < 2 → ∀ j, j < lenJS.getD i 0 → Cond.eq (.elem (.field (tmS i) "java/lang/String" "value" "[B") (.int (Int32.ofNat j))) (.int ((bytJS.getD i []).getD j 0)) ∈ flN := by decide +kernel
theorem st_6 : ∀ i, i < 2 → ∀ j, j < 2 → i ≠ j → (Cond.not (Cond.eq (tmS i) (tmS j)) ∈ flN ∨ Cond.not (Cond.eq (tmS j) (tmS i)) ∈ flN) := by decide +kernel
set_option maxHeartbeats 4000000 in
/-- the String constants and the statics, as the Statement gives them -/
theorem Zx_start {b : Nat} {s : State} (hts0 : ∀ w ∈ lw_tbl, w.before #[Value.ref b] s = true) (hgv : (Jvm.Cond.and given_1 narrow_1).before #[Value.ref b] s = true) : ∃ ad : Nat → Nat, Zx ad (fun q => s.heap.size ≤ q) s := by
  have ht1 : ∀ w ∈ tables_1, w.before #[Value.ref b] s = true := fun w hw => hts0 w (List.mem_append_right _ hw)
  have hf := flat_of_before _ hgv
  have hA : ∀ a : Nat, a < s.heap.size → ¬ (fun q => s.heap.size ≤ q) a := fun a h => Nat.not_le.mpr h
  obtain ⟨adK, adV, hS, hE⟩ := vk_Sof (args := #[Value.ref b]) (s := s) (N := 2) (tm := tmS) (len := lenJS) (byt := bytJS) (A := fun q => s.heap.size ≤ q) (by decide) (fun i hi => hf _ (st_1 i hi)) (fun i hi => hf _ (st_2 i hi)) (fun i hi => hf _ (st_3 i hi)) (fun i hi => hf _ (st_4' i hi)) (fun i hi j hj => hf _ (st_5' i hi j hj)) (fun i j hi hj hn => (st_6 i hi j hj hn).imp (hf _) (hf _)) hA
  obtain ⟨v, hv, hvr⟩ := Cond.isRef_spec (show (Cond.isRef (.static "jdk/internal/util/Preconditions" "SIOOBE_FORMATTER" "Ljava/util/function/BiFunction;")).before #[Value.ref b] s = true from hf _ (by decide +kernel))
  have hz2 := va_Zof (A := fun q => s.heap.size ≤ q) (ht1 (.laysStatic "jdk/internal/util/Preconditions" "SIOOBE_FORMATTER" "Ljava/util/function/BiFunction;") (List.mem_of_getElem? (i := 520) (by decide +kernel))) (ht1 (.initialized "jdk/internal/util/Preconditions") (List.mem_of_getElem? (i := 18) (by decide +kernel))) hv hA
  have hz1 := va_Zof (A := fun q => s.heap.size ≤ q) (ht1 (.laysStatic "java/lang/String" "COMPACT_STRINGS" "Z") (List.mem_of_getElem? (i := 504) (by decide +kernel))) (ht1 (.initialized "java/lang/String") (List.mem_of_getElem? (i := 16) (by decide +kernel))) (va_eqi (hf (Cond.eq (.static "java/lang/String" "COMPACT_STRINGS" "Z") (.int 1)) (by decide +kernel))) hA
  have hr0 : vk_R RX6 85 "minute family lease coughs worth rents cures dust syrup seed if then else now matter dusty sweet zeal love week part which " (adK 0) s := vk_R.of (ht1 _ (List.mem_of_getElem? (i := 494) (by decide +kernel))) (hE 0 (by decide))
  have hr1 : vk_R RX6 66 ";=+-*/<()" (adK 1) s := vk_R.of (ht1 _ (List.mem_of_getElem? (i := 552) (by decide +kernel))) (hE 1 (by decide))
  obtain ⟨z, hz⟩ : ∃ z : Nat, v = .ref z ∨ v = .null := by
    cases v <;> simp [Value.isRef] at hvr
    · exact ⟨0, Or.inr rfl⟩
    · exact ⟨_, Or.inl rfl⟩
  refine ⟨fun i => if i = 300 then z else if 200 ≤ i then adV (i - 200) else adK (i - 100), fun w hw => ?_, hz1, ?_, hr0, hr1, fun i hi => ?_, fun i j hi hj q => hS.2 i j hi hj ?_⟩
  · obtain ⟨a, i, x, h, rfl⟩ := nestW_k w hw
    exact va_Nw.of rfl (ht1 _ (nest_in _ hw))
  · rcases hz with rfl | rfl
    · exact Or.inl hz2
    · exact Or.inr hz2
  · have := hS.1 i hi
    have e1 : (100 + i = 300) = False := eq_false (by omega)
    have e2 : (200 ≤ 100 + i) = False := eq_false (by omega)
    have e3 : (200 + i = 300) = False := eq_false (by omega)
    have e4 : (200 ≤ 200 + i) = True := eq_true (by omega)
    simp only [e1, e2, e3, e4, if_false, if_true, Nat.add_sub_cancel_left]
    exact this
  · have e1 : (100 + i = 300) = False := eq_false (by omega)
    have e2 : (200 ≤ 100 + i) = False := eq_false (by omega)
    have e3 : (100 + j = 300) = False := eq_false (by omega)
    have e4 : (200 ≤ 100 + j) = False := eq_false (by omega)
    simp only [e1, e2, e3, e4, if_false, Nat.add_sub_cancel_left] at q
    exact q
set_option maxHeartbeats 4000000 in
/-- classes and array classes, by number -/
theorem K_start {b : Nat} {s : State} (hts : ∀ w ∈ lg_tbl, w.before #[Value.ref b] s = true) : ∃ (D : va_G) (κ : KC), va_K D classes (tyL κ) s := by
  obtain ⟨c0, i0, k0⟩ := u_known (C := RX0) (T := TX0) (N := 9) (n := 9) hts iw_X0 (hts _ ki_X0)
  obtain ⟨c1, i1, k1⟩ := u_known (C := RX1) (T := TX1) (N := 3) (n := 3) hts iw_X1 (hts _ ki_X1)
  obtain ⟨c2, i2, k2⟩ := u_known (C := RX2) (T := TX2) (N := 3) (n := 3) hts iw_X2 (hts _ ki_X2)
  obtain ⟨c3, i3, k3⟩ := u_known (C := RX3) (T := TX3) (N := 5) (n := 5) hts iw_X3 (hts _ ki_X3)
  obtain ⟨c4, i4, k4⟩ := u_known (C := RX4) (T := TX4) (N := 2) (n := 2) hts iw_X4 (hts _ ki_X4)
  obtain ⟨c5, i5, k5⟩ := u_known (C := RX5) (T := TX5) (N := 14) (n := 14) hts iw_X5 (hts _ ki_X5)
  obtain ⟨c6, i6, k6⟩ := u_known (C := RX6) (T := TX6) (N := 6) (n := 6) hts iw_X6 (hts _ ki_X6)
  obtain ⟨c7, i7, k7⟩ := u_known (C := RX7) (T := TX7) (N := 1) (n := 1) hts iw_X7 (hts _ ki_X7)
  obtain ⟨c8, i8, k8⟩ := u_known (C := RX8) (T := TX8) (N := 2) (n := 2) hts iw_X8 (hts _ ki_X8)
  obtain ⟨c9, i9, k9⟩ := u_known (C := RX9) (T := TX9) (N := 13) (n := 13) hts iw_X9 (hts _ ki_X9)
  obtain ⟨c10, i10, k10⟩ := u_known (C := RX10) (T := TX10) (N := 11) (n := 11) hts iw_X10 (hts _ ki_X10)
  obtain ⟨c11, i11, k11⟩ := u_known (C := RX11) (T := TX11) (N := 11) (n := 11) hts iw_X11 (hts _ ki_X11)
  obtain ⟨c12, i12, k12⟩ := u_known (C := RX12) (T := TX12) (N := 64) (n := 64) hts iw_X12 (hts _ ki_X12)
  obtain ⟨aI, rI⟩ := arr_of (ty := .int) (fun _ h => by cases h) (hts _ ka_I)
  obtain ⟨aB, rB⟩ := arr_of (ty := .byte) (fun _ h => by cases h) (hts _ ka_B)
  obtain ⟨aZ, rZ⟩ := arr_of (ty := .boolean) (fun _ h => by cases h) (hts _ ka_Z)
  obtain ⟨aJ, rJ⟩ := arr_of (ty := .long) (fun _ h => by cases h) (hts _ ka_J)
  refine ⟨(fun k => match k with | 0 => c0 | 1 => c1 | 2 => c2 | 3 => c3 | 4 => c4 | 5 => c5 | 6 => c6 | 7 => c7 | 8 => c8 | 9 => c9 | 10 => c10 | 11 => c11 | _ => c12, fun k => match k with | 0 => i0 | 1 => i1 | 2 => i2 | 3 => i3 | 4 => i4 | 5 => i5 | 6 => i6 | 7 => i7 | 8 => i8 | 9 => i9 | 10 => i10 | 11 => i11 | _ => i12), (aI, aB, aZ, aJ), fun k q hq => ?_, fun k q hq => ?_⟩
  · match k, hq with
    | 0, hq => cases hq; exact k0
    | 1, hq => cases hq; exact k1
    | 2, hq => cases hq; exact k2
    | 3, hq => cases hq; exact k3
    | 4, hq => cases hq; exact k4
    | 5, hq => cases hq; exact k5
    | 6, hq => cases hq; exact k6
    | 7, hq => cases hq; exact k7
    | 8, hq => cases hq; exact k8
    | 9, hq => cases hq; exact k9
    | 10, hq => cases hq; exact k10
    | 11, hq => cases hq; exact k11
    | 12, hq => cases hq; exact k12
    | k + 13, hq => simp [classes] at hq
  · match k, hq with
    | 0, hq => cases hq; exact rI
    | 1, hq => cases hq; exact rB
    | 2, hq => cases hq; exact rZ
    | 3, hq => cases hq; exact rJ
    | k + 4, hq => simp [tyL] at hq
set_option maxHeartbeats 4000000 in
set_option maxRecDepth 100000 in
theorem law_start {Rel : Nat → HS → HS → Prop} (S0 : St_0 Rel) (S1 : St_1 Rel) (S2 : St_2 Rel) (S3 : St_3 Rel) (S4 : St_4 Rel) (S5 : St_5 Rel) (S6 : St_6 Rel) (S7 : St_7 Rel) (S8 : St_8 Rel) (S9 : St_9 Rel) (S10 : St_10 Rel) (S11 : St_11 Rel) (S12 : St_12 Rel) (S13 : St_13 Rel) (S14 : St_14 Rel) (S15 : St_15 Rel) (S16 : St_16 Rel) (S17 : St_17 Rel) (S18 : St_18 Rel) (S19 : St_19 Rel) (S20 : St_20 Rel) (S21 : St_21 Rel) (S22 : St_22 Rel) (S23 : St_23 Rel) (S24 : St_24 Rel) (S25 : St_25 Rel) (S26 : St_26 Rel) (S27 : St_27 Rel) (S28 : St_28 Rel) (S29 : St_29 Rel) (S30 : St_30 Rel) (S31 : St_31 Rel) (S32 : St_32 Rel) (S33 : St_33 Rel) (S34 : St_34 Rel) (S35 : St_35 Rel) (S36 : St_36 Rel) (S37 : St_37 Rel) (S38 : St_38 Rel) (S39 : St_39 Rel) (S40 : St_40 Rel) (S41 : St_41 Rel) (mono : ∀ n σX σM, Rel n σX σM → Rel (n + 1) σX σM) (hinit : Rel 0 σX1 σM1) {p : Program} {e : Env} {s : State} {m : MethodId} {below : List Frame} {meth : Method} {c : Code} (l : Launch) {b L : Nat} {xs : Nat → Int32} (hL : L ≤ 3072) (C0 : lw_At p s m meth c b L xs) : W p l e room_1 s m #[Value.ref b] below meth c s.heap [] 0 0 (lw_Z below #[Value.ref b] s) (entryFrame m ([Value.ref b] : List Value).toArray 4) := by
  obtain ⟨hx, hb, hr, hml, hown, hts0, hX, hbl, hlocks, hgv⟩ := C0
  have hts : ∀ w ∈ lg_tbl, w.before #[Value.ref b] s = true := fun w hw => hts0 w (List.mem_filter.mp hw).1
  obtain ⟨D, κ, hK⟩ := K_start hts
  obtain ⟨ad, hZ⟩ := Zx_start hts0 hgv
  have C : Cn D κ ad p s m #[Value.ref b] meth c code RL 4 (fun q => s.heap.size ≤ q) := ⟨hx, hb, hml, hown, hts, hK, hZ, fun h => absurd rfl h, hlocks, fun h => absurd rfl h, fun _ h => h⟩
  have hS : va_S (fun q : Nat => s.heap.size ≤ q) s.heap s.heap [] := va_S.rf
  have hP : va_P D classes [] s.heap := fun k q h => by simp at h
  have hD : va_D (fun q : Nat => s.heap.size ≤ q) [] := ⟨fun i j p q h => by simp at h, fun k q h => by simp at h⟩
  have hl := lv_entry ([.ref b]) (n := 4) (Nat.le_of_ble_eq_true rfl)
  rw [lg_entry_eq]
  generalize (lg_sl ([.ref b]) ++ List.replicate (4 - (lg_sl ([.ref b])).length) Slot.unset).toArray = ls at hl ⊢
  have hl : lv_has ls 4 [(0, .ref b)] := hl
  refine n_new C hP hD hS nw_L_7 (Nat.le_of_ble_eq_true rfl) (Nat.le_of_ble_eq_true rfl) dL_law_0 (fun q0 H hP hD hS => ?_)
  replace hP : va_P D classes [(q0, .inr (11, [.null, .null, .null, .null, .null, .null, .null, .null, .null, .null, .null]))] H := hP
  replace hD : va_D (fun q : Nat => s.heap.size ≤ q) [(q0, .inr (11, [.null, .null, .null, .null, .null, .null, .null, .null, .null, .null, .null]))] := hD
  refine W.cs (cells' := 1) (slots' := 11) rfl rfl ?_
  refine lv_dup hx hb dL_law_3 rfl ?_
  refine n_callI (rest := [.ref q0]) (wr := []) C hP hD hS hl.1 cI_L_9 [0] [] rfl rfl (by decide) (by decide) (by decide) (nX11 l D κ ad q0 _) ⟨rfl, rfl⟩ ⟨Nat.le_of_ble_eq_true rfl, Nat.le_of_ble_eq_true rfl⟩ rfl rfl (Nat.le_of_ble_eq_true rfl) dL_law_4 ⟨Nat.le_of_ble_eq_true rfl, Nat.le_of_ble_eq_true rfl⟩ (fun w H locs hw hP hD hS => ?_)
  obtain ⟨adX, eX0, eXs, hiX, rfl⟩ := hw
  rw [List.nil_append] at hP hD
  refine W.cs (cells' := 50) (slots' := 7124) rfl rfl ?_
  refine lv_astore_n (lv' := [(1, .ref q0), (0, .ref b)]) hx hb dL_law_7 rfl hl (by decide) rfl (fun ls hl => ?_)
  refine n_new C hP hD hS nw_L_10 (Nat.le_of_ble_eq_true rfl) (Nat.le_of_ble_eq_true rfl) dL_law_8 (fun q8 H hP hD hS => ?_)
  refine W.cs (cells' := 51) (slots' := 7188) rfl rfl ?_
  refine lv_dup hx hb dL_law_11 rfl ?_
  have hlen : (wG 50 ceX adX κ σX1).length = 50 := wG_len
  refine n_callI (rest := [.ref q8]) (wr := wG 50 ceX adX κ σX1) (wc := [(q8, .inr (12, [.int 0, .null, .int 0, .null, .int 0, .null, .null, .null, .null, .null, .int 0, .int 0, .int 0, .int 0, .int 0, .int 0, .int 0, .int 0, .int 0, .int 0, .null, .null, .null, .null, .null, .null, .null, .null, .null, .null, .null, .null, .null, .int 0, .null, .null, .null, .null, .null, .int 0, .null, .null, .null, .int 0, .null, .null, .int 0, .null, .null, .int 0, .int 0, .null, .null, .null, .null, .null, .null, .int 0, .null, .null, .null, .null, .null, .null]))]) C hP hD hS hl.1 cI_L_12 [50] (List.range 50) ?_ ?_ (by decide) (by decide) (by decide) (nX12 l D κ ad q8 _) ⟨rfl, rfl⟩ ⟨Nat.le_of_ble_eq_true rfl, Nat.le_of_ble_eq_true rfl⟩ rfl rfl (Nat.le_of_ble_eq_true rfl) dL_law_12 ⟨Nat.le_of_ble_eq_true rfl, Nat.le_of_ble_eq_true rfl⟩ (fun w H locs hw hP hD hS => ?_)
  · rw [List.map_cons, List.map_nil, List.getElem?_append_right (by rw [hlen]; exact Nat.le_refl _), hlen]
    rfl
  · have := lw_isR (wG 50 ceX adX κ σX1) [(q8, .inr (12, [.int 0, .null, .int 0, .null, .int 0, .null, .null, .null, .null, .null, .int 0, .int 0, .int 0, .int 0, .int 0, .int 0, .int 0, .int 0, .int 0, .int 0, .null, .null, .null, .null, .null, .null, .null, .null, .null, .null, .null, .null, .null, .int 0, .null, .null, .null, .null, .null, .int 0, .null, .null, .null, .int 0, .null, .null, .int 0, .null, .null, .int 0, .int 0, .null, .null, .null, .null, .null, .null, .int 0, .null, .null, .null, .null, .null, .null]))]
    rw [hlen] at this
    exact this
  obtain ⟨adM, eM0, eMs, hiM, rfl⟩ := hw
  refine W.cs (cells' := 95) (slots' := 19212) rfl rfl ?_
  refine lv_astore_n (lv' := [(2, .ref q8), (1, .ref q0), (0, .ref b)]) hx hb dL_law_15 rfl hl (by decide) rfl (fun ls hl => ?_)
  refine lv_iconst (v := 0) hx hb dL_law_16 (by decide) ?_
  refine lv_istore_n (lv' := [(3, .int 0), (2, .ref q8), (1, .ref q0), (0, .ref b)]) hx hb dL_law_17 rfl hl (by decide) rfl (fun ls hl => ?_)
  have hPX := va_P_l hP
  have hPM := va_P_r hP
  have hatX : ∀ i, i < 50 → ((wG 50 ceX adX κ σX1) ++ (wG 45 ceM adM κ σM1))[i]? = some (adX i, ceX adX κ (σX1.1 i) (σX1.2 i) i) := fun i hi => by rw [List.getElem?_append_left (by rw [hlen]; exact hi), wG_at hi]
  have hatM : ∀ i, i < 45 → ((wG 50 ceX adX κ σX1) ++ (wG 45 ceM adM κ σM1))[50 + i]? = some (adM i, ceM adM κ (σM1.1 i) (σM1.2 i) i) := fun i hi => by rw [List.getElem?_append_right (by rw [hlen]; omega), hlen, Nat.add_sub_cancel_left, wG_at hi]
  have hgeX : ∀ i, i < 50 → s.heap.size ≤ adX i := fun i hi => hD.2 i _ (hatX i hi)
  have hgeM : ∀ i, i < 45 → s.heap.size ≤ adM i := fun i hi => hD.2 (50 + i) _ (hatM i hi)
  have hltX : ∀ i, i < 50 → adX i < H.size := fun i hi => (hPX i _ (wG_at hi)).lt
  have hltM : ∀ i, i < 45 → adM i < H.size := fun i hi => (hPM i _ (wG_at hi)).lt
  have hneq : ∀ i, i < 50 → ∀ j, j < 45 → adX i ≠ adM j := fun i hi j hj q => by
    have := hD.1 i (50 + j) _ _ (hatX i hi) (hatM j hj) q
    omega
  obtain ⟨bX, ebX⟩ : ∃ f : Nat → Nat, f = fun i => if i = 400 then H.size else adX i := ⟨_, rfl⟩
  obtain ⟨bM, ebM⟩ : ∃ f : Nat → Nat, f = fun i => if i = 400 then H.size else adM i := ⟨_, rfl⟩
  have fX : ∀ i, i ≠ 400 → bX i = adX i := fun i hi => by rw [ebX]; exact if_neg hi
  have fM : ∀ i, i ≠ 400 → bM i = adM i := fun i hi => by rw [ebM]; exact if_neg hi
  have gX : bX 400 = H.size := by rw [ebX]; exact if_pos rfl
  have gM : bM 400 = H.size := by rw [ebM]; exact if_pos rfl
  have hszH : s.heap.size ≤ H.size := hS.1
  have hAX : ∀ q, AX 50 bX q → s.heap.size ≤ q := by
    intro q hq
    rcases hq with ⟨i, hi, rfl⟩ | hq
    · rw [fX i (by omega)]; exact hgeX i hi
    · rw [gX] at hq; omega
  have hAM : ∀ q, AX 45 bM q → s.heap.size ≤ q := by
    intro q hq
    rcases hq with ⟨i, hi, rfl⟩ | hq
    · rw [fM i (by omega)]; exact hgeM i hi
    · rw [gM] at hq; omega
  have C1 : LC D κ bX bM p s m meth c b L xs := by
    refine ⟨hx, hb, hml, hown, hts, hK, ⟨fun i j hi hj q => hiX i j hi hj (by rw [← fX i (by omega), ← fX j (by omega)]; exact q), fun i j hi hj q => hiM i j hi hj (by rw [← fM i (by omega), ← fM j (by omega)]; exact q)⟩, ⟨(hZ.narrow hAX).ads (fun i h1 h2 => by rw [fX i (by omega)]; exact eXs i h1 h2), (hZ.narrow hAM).ads (fun i h1 h2 => by rw [fM i (by omega)]; exact eMs i h1 h2)⟩, ⟨hAX, hAM⟩, ⟨fun i hi hq => ?_, fun i hi hq => ?_⟩, hX, hbl, hr, hlocks⟩
    · rw [fM i (by omega)] at hq
      rcases hq with ⟨j, hj, hq⟩ | hq
      · rw [fX j (by omega)] at hq
        exact hneq j hj i hi hq.symm
      · rw [gX] at hq
        have := hltM i hi
        omega
    · rw [fX i (by omega)] at hq
      rcases hq with ⟨j, hj, hq⟩ | hq
      · rw [fM j (by omega)] at hq
        exact hneq i hi j hj hq
      · rw [gM] at hq
        have := hltX i hi
        omega
  rw [wceX_ad (ad' := bX) (fun i hi => (fX i (by omega)).symm)] at hPX
  rw [wceM_ad (ad' := bM) (fun i hi => (fM i (by omega)).symm)] at hPM
  have hb0 : bX 0 = q0 := (fX 0 (by decide)).trans eX0
  have hb8 : bM 0 = q8 := (fM 0 (by decide)).trans eM0
  rw [← hb0, ← hb8] at hl
  exact law_loop S0 S1 S2 S3 S4 S5 S6 S7 S8 S9 S10 S11 S12 S13 S14 S15 S16 S17 S18 S19 S20 S21 S22 S23 S24 S25 S26 S27 S28 S29 S30 S31 S32 S33 S34 S35 S36 S37 S38 S39 S40 S41 mono C1 hL (L + 7) 0 0 σX1 σM1 H _ ls (by omega) (by omega) rfl hinit ⟨hPX, hPM, hS⟩ (lv_sub hl [3, 2, 1, 0] rfl)
