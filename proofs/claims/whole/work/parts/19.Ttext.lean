def ceT : CE := fun ad κ f q h => match h with
  | 0 => .inr (9, [.int (f 0), .int (f 1), .int (f 2), .int (f 3), .int (f 4), .int (f 5), .ref (ad 1), .ref (ad 2), .ref (ad 3), .ref (ad 4), .ref (ad 5), .ref (ad 6), .ref (ad 7)])
  | 1 => .inl (κ.1, 10, .inl f)
  | 2 => .inl (κ.1, 5, .inl f)
  | 3 => .inl (κ.1, 5, .inl f)
  | 4 => .inl (κ.1, 8, .inl f)
  | 5 => .inl (κ.1, 4, .inl f)
  | 6 => .inl (κ.1, 408, .inl f)
  | 7 => .inl (κ.1, 408, .inl f)
  | _ => .inl (κ.1, 0, .inl f)
section
variable {p : Program} {l : Launch} {e : Env} {s : State} {m : MethodId} {args : Array Value} {below : List Frame} {meth : Method} {c : Code} {D : va_G} {ad : Nat → Nat} {κ : KC}
-- J7_fill_53178
def FJ7_fill_53178T_5  (a N : Nat) : Nat → Int32 → Int32 → Int32 → HS → Option HS
  | 0, _, _, _, _ => none
  | f + 1, x1, x2, x3, σ => if x3 ≤ x2 then some σ else gd (ix x2 N) (hl_ (pI σ a (x2.toNatClampNeg) x1) fun σ_3 => FJ7_fill_53178T_5 a N f x1 (x2 + 1) x3 σ_3)
def FJ7_fill_53178T (a N : Nat) (x1 : Int32) (σ : HS) : Option HS :=
  hl_ (Int32.ofNat N) fun x3_4 => FJ7_fill_53178T_5 a N fu x1 (0 : Int32) x3_4 σ
set_option maxHeartbeats 4000000 in
set_option maxRecDepth 100000 in
theorem wJ7_fill_53178T_5 (C : Cx 8 D ad κ p s m args meth c cJ7_fill_53178 RJ7 4 none) {a N : Nat} (ha : a < 8) (hca : ∀ f q, ceT ad κ f q a = .inl (κ.1, N, .inl f)) {R : HS} : ∀ (f : Nat) (x1 : Int32) (x2 : Int32) (x3 : Int32) (σ : HS) (H : Heap) (locs : List Loc) (ls : Array Slot), FJ7_fill_53178T_5 a N f x1 x2 x3 σ = some R → Hd 8 ceT D ad κ s σ H locs → lv_has ls 4 [(0, .ref (ad a)), (1, .int x1), (2, .int x2), (3, .int x3)] → W p l e ({ frames := 0, cells := 0, slots := 0, locals := 0 } : Room) s m args below meth c H locs 0 0 (MQ below (QV 8 ceT D ad κ R) args s 0 0 (AX 8 ad)) (F0 m 5 ls []) := by
  have hx := C.1
  have hb := C.2.1
  have hown := C.2.2.2.1
  have hts := C.2.2.2.2.1
  intro f
  induction f with
  | zero =>
    intro x1 x2 x3 σ H locs ls h hH hl
    cases h
  | succ f ih =>
    intro x1 x2 x3 σ H locs ls h hH hl
    rw [FJ7_fill_53178T_5] at h
    refine lv_iload_n hx hb dJ7_fill_53178_5 rfl (lv_at hl 2 rfl) ?_
    refine lv_iload_n hx hb dJ7_fill_53178_6 rfl (lv_at hl 3 rfl) ?_
    refine lv_icmp_ge (tgt := 20) hx hb dJ7_fill_53178_7 (by decide) (fun hq_1 => ?_) (fun hq_1 => ?_)
    · rw [if_pos hq_1] at h
      exact g_retV C hH h dJ7_fill_53178_20
    · rw [if_neg hq_1] at h
      refine lv_aload_n hx hb dJ7_fill_53178_10 rfl (lv_at hl 0 rfl) ?_
      refine lv_iload_n hx hb dJ7_fill_53178_11 rfl (lv_at hl 2 rfl) ?_
      refine lv_iload_n hx hb dJ7_fill_53178_12 rfl (lv_at hl 1 rfl) ?_
      obtain ⟨hi_2, h⟩ := gd_ex h
      obtain ⟨σ_3, eσ_3, h⟩ := hl_ex h
      refine g_iast C hH a ha (fun f q => hca f q) (k := (x2.toNatClampNeg)) rfl (ix_in hi_2) dJ7_fill_53178_13 (fun H locs hH => ?_)
      rw [← eσ_3] at hH
      refine lv_iinc (v := (x2 + 1)) (lv' := [(2, .int (x2 + 1)), (0, .ref (ad a)), (1, .int x1), (3, .int x3)]) hx hb dJ7_fill_53178_14 hl (k := 2) rfl rfl (by decide) rfl (fun ls hl => ?_)
      refine lv_goto (tgt := 5) hx hb dJ7_fill_53178_17 (by decide) ?_
      exact ih _ _ _ _ _ _ _ h hH (lv_sub hl [1, 2, 0, 3] rfl)
set_option maxHeartbeats 4000000 in
set_option maxRecDepth 100000 in
theorem kJ7_fill_53178T (l : Launch) (D : va_G) (ad : Nat → Nat) (κ : KC) {a N : Nat} (ha : a < 8) (hca : ∀ f q, ceT ad κ f q a = .inl (κ.1, N, .inl f)) {x1 : Int32} {σ : HS} {R : HS} (h : FJ7_fill_53178T a N x1 σ = some R) : MtV l 8 ceT D ad κ yJ7_fill_53178 cJ7_fill_53178 4 none ({ frames := 0, cells := 0, slots := 0, locals := 0 } : Room) [.ref (ad a), .int x1] σ R := by
  refine open_ (by decide) (Nat.le_of_ble_eq_true rfl) (la := [(0, .ref (ad a)), (1, .int x1)]) rfl ?_
  intro p e s m below meth c ls C hH hl
  replace C : Cx 8 D ad κ p s m _ meth c cJ7_fill_53178 RJ7 4 none := C
  have hx := C.1
  have hb := C.2.1
  have hown := C.2.2.2.1
  have hts := C.2.2.2.2.1
  rw [FJ7_fill_53178T] at h
  refine lv_iconst (v := 0) hx hb dJ7_fill_53178_0 (by decide) ?_
  refine lv_istore_n (lv' := [(2, .int (0 : Int32)), (0, .ref (ad a)), (1, .int x1)]) hx hb dJ7_fill_53178_1 rfl hl (by decide) rfl (fun ls hl => ?_)
  refine lv_aload_n hx hb dJ7_fill_53178_2 rfl (lv_at hl 1 rfl) ?_
  refine g_alen C hH a 0 ha (hca _ _) rfl (v := (Int32.ofNat N)) rfl dJ7_fill_53178_3 ?_
  obtain ⟨x3_4, ex3_4, h⟩ := hl_ex h
  refine lv_eqi ex3_4 ?_
  refine lv_istore_n (lv' := [(3, .int x3_4), (2, .int (0 : Int32)), (0, .ref (ad a)), (1, .int x1)]) hx hb dJ7_fill_53178_4 rfl hl (by decide) rfl (fun ls hl => ?_)
  exact wJ7_fill_53178T_5 C ha hca _ _ _ _ _ _ _ _ h hH (lv_sub hl [2, 3, 1, 0] rfl)
-- X9_startLaw
def FX9_startLawT (x1 : Int32) (σ : HS) : Option HS :=
  gd (ix x1 4) (hl_ (pI σ 5 (x1.toNatClampNeg) (σ.1 0 5)) fun σ_2 => some σ_2)
set_option maxHeartbeats 4000000 in
set_option maxRecDepth 100000 in
theorem kX9_startLawT (l : Launch) (D : va_G) (ad : Nat → Nat) (κ : KC) {x1 : Int32} {σ : HS} {R : HS} (h : FX9_startLawT x1 σ = some R) : MtV l 8 ceT D ad κ yX9_startLaw cX9_startLaw 2 none ({ frames := 0, cells := 0, slots := 0, locals := 0 } : Room) [.ref (ad 0), .int x1] σ R := by
  refine open_ (by decide) (Nat.le_of_ble_eq_true rfl) (la := [(0, .ref (ad 0)), (1, .int x1)]) rfl ?_
  intro p e s m below meth c ls C hH hl
  replace C : Cx 8 D ad κ p s m _ meth c cX9_startLaw RX9 2 none := C
  have hx := C.1
  have hb := C.2.1
  have hown := C.2.2.2.1
  have hts := C.2.2.2.2.1
  rw [FX9_startLawT] at h
  refine lv_aload_n hx hb dX9_startLaw_0 rfl (lv_at hl 0 rfl) ?_
  refine g_get C hH 0 (Nat.le_of_ble_eq_true rfl) rfl fl_X9_26 (v := .ref (ad 5)) rfl dX9_startLaw_1 ?_
  refine lv_iload_n hx hb dX9_startLaw_4 rfl (lv_at hl 1 rfl) ?_
  refine lv_aload_n hx hb dX9_startLaw_5 rfl (lv_at hl 0 rfl) ?_
  refine g_get C hH 0 (Nat.le_of_ble_eq_true rfl) rfl fl_X9_54 (v := .int (σ.1 0 5)) rfl dX9_startLaw_6 ?_
  obtain ⟨hi_1, h⟩ := gd_ex h
  obtain ⟨σ_2, eσ_2, h⟩ := hl_ex h
  refine g_iast C hH 5 (Nat.le_of_ble_eq_true rfl) (fun _ _ => rfl) (k := (x1.toNatClampNeg)) rfl (ix_in hi_1) dX9_startLaw_9 (fun H locs hH => ?_)
  rw [← eσ_2] at hH
  exact g_retV C hH h dX9_startLaw_10
-- X9_putCode
def FX9_putCodeT (x1 : Int32) (x2 : Int32) (σ : HS) : Option HS :=
  if (408 : Int32) ≤ (σ.1 0 5) then some σ else gd (ix (σ.1 0 5) 408) (hl_ (pI σ 6 ((σ.1 0 5).toNatClampNeg) x1) fun σ_3 => gd (ix (σ_3.1 0 5) 408) (hl_ (pI σ_3 7 ((σ_3.1 0 5).toNatClampNeg) x2) fun σ_5 => hl_ (pI σ_5 0 5 ((σ_5.1 0 5) + (1 : Int32))) fun σ_6 => some σ_6))
set_option maxHeartbeats 4000000 in
set_option maxRecDepth 100000 in
theorem kX9_putCodeT (l : Launch) (D : va_G) (ad : Nat → Nat) (κ : KC) {x1 : Int32} {x2 : Int32} {σ : HS} {R : HS} (h : FX9_putCodeT x1 x2 σ = some R) : MtV l 8 ceT D ad κ yX9_putCode cX9_putCode 3 none ({ frames := 0, cells := 0, slots := 0, locals := 0 } : Room) [.ref (ad 0), .int x1, .int x2] σ R := by
  refine open_ (by decide) (Nat.le_of_ble_eq_true rfl) (la := [(0, .ref (ad 0)), (1, .int x1), (2, .int x2)]) rfl ?_
  intro p e s m below meth c ls C hH hl
  replace C : Cx 8 D ad κ p s m _ meth c cX9_putCode RX9 3 none := C
  have hx := C.1
  have hb := C.2.1
  have hown := C.2.2.2.1
  have hts := C.2.2.2.2.1
  rw [FX9_putCodeT] at h
  refine lv_aload_n hx hb dX9_putCode_0 rfl (lv_at hl 0 rfl) ?_
  refine g_get C hH 0 (Nat.le_of_ble_eq_true rfl) rfl fl_X9_54 (v := .int (σ.1 0 5)) rfl dX9_putCode_1 ?_
  refine lv_sipush (v := 408) hx hb dX9_putCode_4 (by decide) ?_
  refine lv_icmp_ge (tgt := 40) hx hb dX9_putCode_7 (by decide) (fun hq_1 => ?_) (fun hq_1 => ?_)
  · rw [if_pos hq_1] at h
    exact g_retV C hH h dX9_putCode_40
  · rw [if_neg hq_1] at h
    refine lv_aload_n hx hb dX9_putCode_10 rfl (lv_at hl 0 rfl) ?_
    refine g_get C hH 0 (Nat.le_of_ble_eq_true rfl) rfl fl_X9_29 (v := .ref (ad 6)) rfl dX9_putCode_11 ?_
    refine lv_aload_n hx hb dX9_putCode_14 rfl (lv_at hl 0 rfl) ?_
    refine g_get C hH 0 (Nat.le_of_ble_eq_true rfl) rfl fl_X9_54 (v := .int (σ.1 0 5)) rfl dX9_putCode_15 ?_
    refine lv_iload_n hx hb dX9_putCode_18 rfl (lv_at hl 1 rfl) ?_
    obtain ⟨hi_2, h⟩ := gd_ex h
    obtain ⟨σ_3, eσ_3, h⟩ := hl_ex h
    refine g_iast C hH 6 (Nat.le_of_ble_eq_true rfl) (fun _ _ => rfl) (k := ((σ.1 0 5).toNatClampNeg)) rfl (ix_in hi_2) dX9_putCode_19 (fun H locs hH => ?_)
    rw [← eσ_3] at hH
    refine lv_aload_n hx hb dX9_putCode_20 rfl (lv_at hl 0 rfl) ?_
    refine g_get C hH 0 (Nat.le_of_ble_eq_true rfl) rfl fl_X9_32 (v := .ref (ad 7)) rfl dX9_putCode_21 ?_
    refine lv_aload_n hx hb dX9_putCode_24 rfl (lv_at hl 0 rfl) ?_
    refine g_get C hH 0 (Nat.le_of_ble_eq_true rfl) rfl fl_X9_54 (v := .int (σ_3.1 0 5)) rfl dX9_putCode_25 ?_
    refine lv_iload_n hx hb dX9_putCode_28 rfl (lv_at hl 2 rfl) ?_
    obtain ⟨hi_4, h⟩ := gd_ex h
    obtain ⟨σ_5, eσ_5, h⟩ := hl_ex h
    refine g_iast C hH 7 (Nat.le_of_ble_eq_true rfl) (fun _ _ => rfl) (k := ((σ_3.1 0 5).toNatClampNeg)) rfl (ix_in hi_4) dX9_putCode_29 (fun H locs hH => ?_)
    rw [← eσ_5] at hH
    refine lv_aload_n hx hb dX9_putCode_30 rfl (lv_at hl 0 rfl) ?_
    refine lv_dup hx hb dX9_putCode_31 rfl ?_
    refine g_get C hH 0 (Nat.le_of_ble_eq_true rfl) rfl fl_X9_54 (v := .int (σ_5.1 0 5)) rfl dX9_putCode_32 ?_
    refine lv_iconst (v := 1) hx hb dX9_putCode_35 (by decide) ?_
    refine lv_iadd hx hb dX9_putCode_36 ?_
    obtain ⟨σ_6, eσ_6, h⟩ := hl_ex h
    refine g_putI C hH 0 (Nat.le_of_ble_eq_true rfl) rfl fp_X9_54 rfl rfl (Nat.le_of_ble_eq_true rfl) rfl dX9_putCode_37 (fun H locs hH => ?_)
    rw [← eσ_6] at hH
    exact g_retV C hH h dX9_putCode_40
-- X9_putPlainLaw
def FX9_putPlainLawT (x1 : Int32) (x2 : Int32) (x3 : Int32) (σ : HS) : Option HS :=
  bdV (FX9_startLawT x1 σ) fun σ_1 => bdV (FX9_putCodeT x2 x3 σ_1) fun σ_3 => bdV (FX9_putCodeT (3 : Int32) (0 : Int32) σ_3) fun σ_5 => some σ_5
set_option maxHeartbeats 4000000 in
set_option maxRecDepth 100000 in
theorem kX9_putPlainLawT (l : Launch) (D : va_G) (ad : Nat → Nat) (κ : KC) {x1 : Int32} {x2 : Int32} {x3 : Int32} {σ : HS} {R : HS} (h : FX9_putPlainLawT x1 x2 x3 σ = some R) : MtV l 8 ceT D ad κ yX9_putPlainLaw cX9_putPlainLaw 4 none ({ frames := 1, cells := 0, slots := 0, locals := 22 } : Room) [.ref (ad 0), .int x1, .int x2, .int x3] σ R := by
  refine open_ (by decide) (Nat.le_of_ble_eq_true rfl) (la := [(0, .ref (ad 0)), (1, .int x1), (2, .int x2), (3, .int x3)]) rfl ?_
  intro p e s m below meth c ls C hH hl
  replace C : Cx 8 D ad κ p s m _ meth c cX9_putPlainLaw RX9 4 none := C
  have hx := C.1
  have hb := C.2.1
  have hown := C.2.2.2.1
  have hts := C.2.2.2.2.1
  rw [FX9_putPlainLawT] at h
  refine lv_aload_n hx hb dX9_putPlainLaw_0 rfl (lv_at hl 0 rfl) ?_
  refine lv_iload_n hx hb dX9_putPlainLaw_1 rfl (lv_at hl 1 rfl) ?_
  obtain ⟨σ_1, hc_2, h⟩ := bdV_ex h
  refine g_cv (g_runV (rest := []) C hH hl.1 cV_X9_75 0 (Nat.le_of_ble_eq_true rfl) rfl rfl (kX9_startLawT l D ad κ hc_2) ⟨rfl, rfl⟩ ⟨(Nat.le_of_ble_eq_true rfl), (Nat.le_of_ble_eq_true rfl)⟩ rfl rfl (Nat.le_of_ble_eq_true rfl) dX9_putPlainLaw_2 z00) hH (fun H locs hH => ?_)
  refine lv_aload_n hx hb dX9_putPlainLaw_5 rfl (lv_at hl 0 rfl) ?_
  refine lv_iload_n hx hb dX9_putPlainLaw_6 rfl (lv_at hl 2 rfl) ?_
  refine lv_iload_n hx hb dX9_putPlainLaw_7 rfl (lv_at hl 3 rfl) ?_
  obtain ⟨σ_3, hc_4, h⟩ := bdV_ex h
  refine g_cv (g_runV (rest := []) C hH hl.1 cV_X9_79 0 (Nat.le_of_ble_eq_true rfl) rfl rfl (kX9_putCodeT l D ad κ hc_4) ⟨rfl, rfl⟩ ⟨(Nat.le_of_ble_eq_true rfl), (Nat.le_of_ble_eq_true rfl)⟩ rfl rfl (Nat.le_of_ble_eq_true rfl) dX9_putPlainLaw_8 z00) hH (fun H locs hH => ?_)
  refine lv_aload_n hx hb dX9_putPlainLaw_11 rfl (lv_at hl 0 rfl) ?_
  refine lv_iconst (v := 3) hx hb dX9_putPlainLaw_12 (by decide) ?_
  refine lv_iconst (v := 0) hx hb dX9_putPlainLaw_13 (by decide) ?_
  obtain ⟨σ_5, hc_6, h⟩ := bdV_ex h
  refine g_cv (g_runV (rest := []) C hH hl.1 cV_X9_79 0 (Nat.le_of_ble_eq_true rfl) rfl rfl (kX9_putCodeT l D ad κ hc_6) ⟨rfl, rfl⟩ ⟨(Nat.le_of_ble_eq_true rfl), (Nat.le_of_ble_eq_true rfl)⟩ rfl rfl (Nat.le_of_ble_eq_true rfl) dX9_putPlainLaw_14 z00) hH (fun H locs hH => ?_)
  exact g_retV C hH h dX9_putPlainLaw_17
-- X9_empty
def FX9_emptyT (σ : HS) : Option HS :=
  hl_ (pI σ 0 0 (0 : Int32)) fun σ_1 => hl_ (pI σ_1 0 1 (0 : Int32)) fun σ_2 => hl_ (pI σ_2 0 2 (0 : Int32)) fun σ_3 => hl_ (pI σ_3 0 3 (0 : Int32)) fun σ_4 => hl_ (pI σ_4 0 4 (0 : Int32)) fun σ_5 => hl_ (pI σ_5 0 5 (0 : Int32)) fun σ_6 => bdV (FJ7_fill_53178T 4 8 (-2 : Int32) σ_6) fun σ_7 => bdV (FX9_putPlainLawT (0 : Int32) (0 : Int32) (1 : Int32) σ_7) fun σ_9 => bdV (FX9_putPlainLawT (1 : Int32) (0 : Int32) (1 : Int32) σ_9) fun σ_11 => bdV (FX9_putPlainLawT (2 : Int32) (1 : Int32) (4 : Int32) σ_11) fun σ_13 => bdV (FX9_putPlainLawT (3 : Int32) (0 : Int32) (0 : Int32) σ_13) fun σ_15 => some σ_15
set_option maxHeartbeats 4000000 in
set_option maxRecDepth 100000 in
theorem kX9_emptyT (l : Launch) (D : va_G) (ad : Nat → Nat) (κ : KC) {σ : HS} {R : HS} (h : FX9_emptyT σ = some R) : MtV l 8 ceT D ad κ yX9_empty cX9_empty 1 none ({ frames := 2, cells := 0, slots := 0, locals := 45 } : Room) [.ref (ad 0)] σ R := by
  refine open_ (by decide) (Nat.le_of_ble_eq_true rfl) (la := [(0, .ref (ad 0))]) rfl ?_
  intro p e s m below meth c ls C hH hl
  replace C : Cx 8 D ad κ p s m _ meth c cX9_empty RX9 1 none := C
  have hx := C.1
  have hb := C.2.1
  have hown := C.2.2.2.1
  have hts := C.2.2.2.2.1
  rw [FX9_emptyT] at h
  refine lv_aload_n hx hb dX9_empty_0 rfl (lv_at hl 0 rfl) ?_
  refine lv_iconst (v := 0) hx hb dX9_empty_1 (by decide) ?_
  obtain ⟨σ_1, eσ_1, h⟩ := hl_ex h
  refine g_putI C hH 0 (Nat.le_of_ble_eq_true rfl) rfl fp_X9_38 rfl rfl (Nat.le_of_ble_eq_true rfl) rfl dX9_empty_2 (fun H locs hH => ?_)
  rw [← eσ_1] at hH
  refine lv_aload_n hx hb dX9_empty_5 rfl (lv_at hl 0 rfl) ?_
  refine lv_iconst (v := 0) hx hb dX9_empty_6 (by decide) ?_
  obtain ⟨σ_2, eσ_2, h⟩ := hl_ex h
  refine g_putI C hH 0 (Nat.le_of_ble_eq_true rfl) rfl fp_X9_42 rfl rfl (Nat.le_of_ble_eq_true rfl) rfl dX9_empty_7 (fun H locs hH => ?_)
  rw [← eσ_2] at hH
  refine lv_aload_n hx hb dX9_empty_10 rfl (lv_at hl 0 rfl) ?_
  refine lv_iconst (v := 0) hx hb dX9_empty_11 (by decide) ?_
  obtain ⟨σ_3, eσ_3, h⟩ := hl_ex h
  refine g_putI C hH 0 (Nat.le_of_ble_eq_true rfl) rfl fp_X9_45 rfl rfl (Nat.le_of_ble_eq_true rfl) rfl dX9_empty_12 (fun H locs hH => ?_)
  rw [← eσ_3] at hH
  refine lv_aload_n hx hb dX9_empty_15 rfl (lv_at hl 0 rfl) ?_
  refine lv_iconst (v := 0) hx hb dX9_empty_16 (by decide) ?_
  obtain ⟨σ_4, eσ_4, h⟩ := hl_ex h
  refine g_putI C hH 0 (Nat.le_of_ble_eq_true rfl) rfl fp_X9_48 rfl rfl (Nat.le_of_ble_eq_true rfl) rfl dX9_empty_17 (fun H locs hH => ?_)
  rw [← eσ_4] at hH
  refine lv_aload_n hx hb dX9_empty_20 rfl (lv_at hl 0 rfl) ?_
  refine lv_iconst (v := 0) hx hb dX9_empty_21 (by decide) ?_
  obtain ⟨σ_5, eσ_5, h⟩ := hl_ex h
  refine g_putI C hH 0 (Nat.le_of_ble_eq_true rfl) rfl fp_X9_51 rfl rfl (Nat.le_of_ble_eq_true rfl) rfl dX9_empty_22 (fun H locs hH => ?_)
  rw [← eσ_5] at hH
  refine lv_aload_n hx hb dX9_empty_25 rfl (lv_at hl 0 rfl) ?_
  refine lv_iconst (v := 0) hx hb dX9_empty_26 (by decide) ?_
  obtain ⟨σ_6, eσ_6, h⟩ := hl_ex h
  refine g_putI C hH 0 (Nat.le_of_ble_eq_true rfl) rfl fp_X9_54 rfl rfl (Nat.le_of_ble_eq_true rfl) rfl dX9_empty_27 (fun H locs hH => ?_)
  rw [← eσ_6] at hH
  refine lv_aload_n hx hb dX9_empty_30 rfl (lv_at hl 0 rfl) ?_
  refine g_get C hH 0 (Nat.le_of_ble_eq_true rfl) rfl fl_X9_23 (v := .ref (ad 4)) rfl dX9_empty_31 ?_
  refine lv_bipush (v := (-2)) hx hb dX9_empty_34 (by decide) ?_
  obtain ⟨σ_7, hc_8, h⟩ := bdV_ex h
  refine g_cv (g_runS (rest := []) C hH hl.1 cS_X9_57 (kJ7_fill_53178T l D ad κ (Nat.le_of_ble_eq_true rfl) (fun _ _ => rfl) hc_8) ⟨rfl, rfl⟩ ⟨(Nat.le_of_ble_eq_true rfl), (Nat.le_of_ble_eq_true rfl)⟩ rfl rfl (Nat.le_of_ble_eq_true rfl) dX9_empty_36 z00) hH (fun H locs hH => ?_)
  refine lv_aload_n hx hb dX9_empty_39 rfl (lv_at hl 0 rfl) ?_
  refine lv_iconst (v := 0) hx hb dX9_empty_40 (by decide) ?_
  refine lv_iconst (v := 0) hx hb dX9_empty_41 (by decide) ?_
  refine lv_iconst (v := 1) hx hb dX9_empty_42 (by decide) ?_
  obtain ⟨σ_9, hc_10, h⟩ := bdV_ex h
  refine g_cv (g_runV (rest := []) C hH hl.1 cV_X9_65 0 (Nat.le_of_ble_eq_true rfl) rfl rfl (kX9_putPlainLawT l D ad κ hc_10) ⟨rfl, rfl⟩ ⟨(Nat.le_of_ble_eq_true rfl), (Nat.le_of_ble_eq_true rfl)⟩ rfl rfl (Nat.le_of_ble_eq_true rfl) dX9_empty_43 z00) hH (fun H locs hH => ?_)
  refine lv_aload_n hx hb dX9_empty_46 rfl (lv_at hl 0 rfl) ?_
  refine lv_iconst (v := 1) hx hb dX9_empty_47 (by decide) ?_
  refine lv_iconst (v := 0) hx hb dX9_empty_48 (by decide) ?_
  refine lv_iconst (v := 1) hx hb dX9_empty_49 (by decide) ?_
  obtain ⟨σ_11, hc_12, h⟩ := bdV_ex h
  refine g_cv (g_runV (rest := []) C hH hl.1 cV_X9_65 0 (Nat.le_of_ble_eq_true rfl) rfl rfl (kX9_putPlainLawT l D ad κ hc_12) ⟨rfl, rfl⟩ ⟨(Nat.le_of_ble_eq_true rfl), (Nat.le_of_ble_eq_true rfl)⟩ rfl rfl (Nat.le_of_ble_eq_true rfl) dX9_empty_50 z00) hH (fun H locs hH => ?_)
  refine lv_aload_n hx hb dX9_empty_53 rfl (lv_at hl 0 rfl) ?_
  refine lv_iconst (v := 2) hx hb dX9_empty_54 (by decide) ?_
  refine lv_iconst (v := 1) hx hb dX9_empty_55 (by decide) ?_
  refine lv_iconst (v := 4) hx hb dX9_empty_56 (by decide) ?_
  obtain ⟨σ_13, hc_14, h⟩ := bdV_ex h
  refine g_cv (g_runV (rest := []) C hH hl.1 cV_X9_65 0 (Nat.le_of_ble_eq_true rfl) rfl rfl (kX9_putPlainLawT l D ad κ hc_14) ⟨rfl, rfl⟩ ⟨(Nat.le_of_ble_eq_true rfl), (Nat.le_of_ble_eq_true rfl)⟩ rfl rfl (Nat.le_of_ble_eq_true rfl) dX9_empty_57 z00) hH (fun H locs hH => ?_)
  refine lv_aload_n hx hb dX9_empty_60 rfl (lv_at hl 0 rfl) ?_
  refine lv_iconst (v := 3) hx hb dX9_empty_61 (by decide) ?_
  refine lv_iconst (v := 0) hx hb dX9_empty_62 (by decide) ?_
  refine lv_iconst (v := 0) hx hb dX9_empty_63 (by decide) ?_
  obtain ⟨σ_15, hc_16, h⟩ := bdV_ex h
  refine g_cv (g_runV (rest := []) C hH hl.1 cV_X9_65 0 (Nat.le_of_ble_eq_true rfl) rfl rfl (kX9_putPlainLawT l D ad κ hc_16) ⟨rfl, rfl⟩ ⟨(Nat.le_of_ble_eq_true rfl), (Nat.le_of_ble_eq_true rfl)⟩ rfl rfl (Nat.le_of_ble_eq_true rfl) dX9_empty_64 z00) hH (fun H locs hH => ?_)
  exact g_retV C hH h dX9_empty_67
end
