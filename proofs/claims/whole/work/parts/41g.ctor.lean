set_option maxHeartbeats 4000000 in
set_option maxRecDepth 100000 in
theorem nX12 (l : Launch) (D : va_G) (κ : KC) (ad : Nat → Nat) (h0 sz : Nat) : MtC l D κ ad yX12_init cX12_init 1 ({ frames := 2, cells := 44, slots := 12024, locals := 48 } : Room) [.ref h0] [(h0, .inr (12, [.int 0, .null, .int 0, .null, .int 0, .null, .null, .null, .null, .null, .int 0, .int 0, .int 0, .int 0, .int 0, .int 0, .int 0, .int 0, .int 0, .int 0, .null, .null, .null, .null, .null, .null, .null, .null, .null, .null, .null, .null, .null, .int 0, .null, .null, .null, .null, .null, .int 0, .null, .null, .null, .int 0, .null, .null, .int 0, .null, .null, .int 0, .int 0, .null, .null, .null, .null, .null, .null, .int 0, .null, .null, .null, .null, .null, .null]))] sz 44 12024 (fun w => ∃ ad' : Nat → Nat, ad' 0 = h0 ∧ (∀ i, 100 ≤ i → i ≤ 300 → ad' i = ad i) ∧ inj 45 ad' ∧ w = wG 45 ceM ad' κ σM1) := by
  refine openC (by decide) rfl (Nat.le_of_ble_eq_true rfl) (la := [(0, .ref h0)]) rfl ?_
  intro p e s m below meth c ls A C hP hD hS hsz hAe hl
  replace C : Cn D κ ad p s m _ meth c cX12_init RX12 1 A := C
  have hx := C.1
  have hb := C.2.1
  obtain ⟨f0, ef0⟩ : ∃ f : List Value, f = [.int 0, .null, .int 0, .null, .int 0, .null, .null, .null, .null, .null, .int 0, .int 0, .int 0, .int 0, .int 0, .int 0, .int 0, .int 0, .int 0, .int 0, .null, .null, .null, .null, .null, .null, .null, .null, .null, .null, .null, .null, .null, .int 0, .null, .null, .null, .null, .null, .int 0, .null, .null, .null, .int 0, .null, .null, .int 0, .null, .null, .int 0, .int 0, .null, .null, .null, .null, .null, .null, .int 0, .null, .null, .null, .null, .null, .null] := ⟨_, rfl⟩
  obtain ⟨w0, ew0⟩ : ∃ w : va_W, w = [] := ⟨_, rfl⟩
  replace hP : va_P D classes ((h0, .inr (12, f0)) :: w0) s.heap := by rw [ef0, ew0]; exact hP
  replace hD : va_D A ((h0, .inr (12, f0)) :: w0) := by rw [ef0, ew0]; exact hD
  have ln0 : f0.length = 64 := by rw [ef0]; rfl
  refine lv_aload_n hx hb dX12_init_0 rfl (lv_at hl 0 rfl) ?_
  refine n_obj C hl.1 ko_X12 ko_i ko_c dX12_init_1 (Nat.le_of_ble_eq_true rfl) (Nat.le_of_ble_eq_true rfl) ?_
  refine lv_aload_n hx hb dX12_init_4 rfl (lv_at hl 0 rfl) ?_
  refine lv_sipush (v := 2000) hx hb dX12_init_5 (by decide) ?_
  refine n_stB C (by decide) ka_B hP hD hS fq_X12_13 ln0 (Nat.le_of_ble_eq_true rfl) (N := 2000) (by decide) (by decide) (by decide) (Nat.le_of_ble_eq_true rfl) (Nat.le_of_ble_eq_true rfl) dX12_init_8 dX12_init_10 (fun q8 H locs hP hD hS => ?_)
  obtain ⟨f1, ef1⟩ : ∃ f : List Value, f = [.int 0, .ref q8, .int 0, .null, .int 0, .null, .null, .null, .null, .null, .int 0, .int 0, .int 0, .int 0, .int 0, .int 0, .int 0, .int 0, .int 0, .int 0, .null, .null, .null, .null, .null, .null, .null, .null, .null, .null, .null, .null, .null, .int 0, .null, .null, .null, .null, .null, .int 0, .null, .null, .null, .int 0, .null, .null, .int 0, .null, .null, .int 0, .int 0, .null, .null, .null, .null, .null, .null, .int 0, .null, .null, .null, .null, .null, .null] := ⟨_, rfl⟩
  have es1 : f0.set 1 (.ref q8) = f1 := by rw [ef0, ef1]; rfl
  obtain ⟨w1, ew1⟩ : ∃ w : va_W, w = w0 ++ [(q8, .inl (κ.2.1, 2000, .inl (fun _ => 0)))] := ⟨_, rfl⟩
  rw [es1, ← ew1] at hP hD
  have ln1 : f1.length = 64 := by rw [ef1]; rfl
  refine W.cs (cells' := 1) (slots' := 2000) rfl rfl ?_
  refine lv_aload_n hx hb dX12_init_13 rfl (lv_at hl 0 rfl) ?_
  refine lv_sipush (v := 2000) hx hb dX12_init_14 (by decide) ?_
  refine n_stB C (by decide) ka_B hP hD hS fq_X12_17 ln1 (Nat.le_of_ble_eq_true rfl) (N := 2000) (by decide) (by decide) (by decide) (Nat.le_of_ble_eq_true rfl) (Nat.le_of_ble_eq_true rfl) dX12_init_17 dX12_init_19 (fun q17 H locs hP hD hS => ?_)
  obtain ⟨f2, ef2⟩ : ∃ f : List Value, f = [.int 0, .ref q8, .int 0, .ref q17, .int 0, .null, .null, .null, .null, .null, .int 0, .int 0, .int 0, .int 0, .int 0, .int 0, .int 0, .int 0, .int 0, .int 0, .null, .null, .null, .null, .null, .null, .null, .null, .null, .null, .null, .null, .null, .int 0, .null, .null, .null, .null, .null, .int 0, .null, .null, .null, .int 0, .null, .null, .int 0, .null, .null, .int 0, .int 0, .null, .null, .null, .null, .null, .null, .int 0, .null, .null, .null, .null, .null, .null] := ⟨_, rfl⟩
  have es2 : f1.set 3 (.ref q17) = f2 := by rw [ef1, ef2]; rfl
  obtain ⟨w2, ew2⟩ : ∃ w : va_W, w = w1 ++ [(q17, .inl (κ.2.1, 2000, .inl (fun _ => 0)))] := ⟨_, rfl⟩
  rw [es2, ← ew2] at hP hD
  have ln2 : f2.length = 64 := by rw [ef2]; rfl
  refine W.cs (cells' := 2) (slots' := 4000) rfl rfl ?_
  refine lv_aload_n hx hb dX12_init_22 rfl (lv_at hl 0 rfl) ?_
  refine lv_sipush (v := 403) hx hb dX12_init_23 (by decide) ?_
  refine n_stI C (by decide) ka_I hP hD hS fq_X12_20 ln2 (Nat.le_of_ble_eq_true rfl) (N := 403) (by decide) (by decide) (by decide) (Nat.le_of_ble_eq_true rfl) (Nat.le_of_ble_eq_true rfl) dX12_init_26 dX12_init_28 (fun q26 H locs hP hD hS => ?_)
  obtain ⟨f3, ef3⟩ : ∃ f : List Value, f = [.int 0, .ref q8, .int 0, .ref q17, .int 0, .ref q26, .null, .null, .null, .null, .int 0, .int 0, .int 0, .int 0, .int 0, .int 0, .int 0, .int 0, .int 0, .int 0, .null, .null, .null, .null, .null, .null, .null, .null, .null, .null, .null, .null, .null, .int 0, .null, .null, .null, .null, .null, .int 0, .null, .null, .null, .int 0, .null, .null, .int 0, .null, .null, .int 0, .int 0, .null, .null, .null, .null, .null, .null, .int 0, .null, .null, .null, .null, .null, .null] := ⟨_, rfl⟩
  have es3 : f2.set 5 (.ref q26) = f3 := by rw [ef2, ef3]; rfl
  obtain ⟨w3, ew3⟩ : ∃ w : va_W, w = w2 ++ [(q26, .inl (κ.1, 403, .inl (fun _ => 0)))] := ⟨_, rfl⟩
  rw [es3, ← ew3] at hP hD
  have ln3 : f3.length = 64 := by rw [ef3]; rfl
  refine W.cs (cells' := 3) (slots' := 4403) rfl rfl ?_
  refine lv_aload_n hx hb dX12_init_31 rfl (lv_at hl 0 rfl) ?_
  refine lv_sipush (v := 403) hx hb dX12_init_32 (by decide) ?_
  refine n_stI C (by decide) ka_I hP hD hS fq_X12_24 ln3 (Nat.le_of_ble_eq_true rfl) (N := 403) (by decide) (by decide) (by decide) (Nat.le_of_ble_eq_true rfl) (Nat.le_of_ble_eq_true rfl) dX12_init_35 dX12_init_37 (fun q35 H locs hP hD hS => ?_)
  obtain ⟨f4, ef4⟩ : ∃ f : List Value, f = [.int 0, .ref q8, .int 0, .ref q17, .int 0, .ref q26, .ref q35, .null, .null, .null, .int 0, .int 0, .int 0, .int 0, .int 0, .int 0, .int 0, .int 0, .int 0, .int 0, .null, .null, .null, .null, .null, .null, .null, .null, .null, .null, .null, .null, .null, .int 0, .null, .null, .null, .null, .null, .int 0, .null, .null, .null, .int 0, .null, .null, .int 0, .null, .null, .int 0, .int 0, .null, .null, .null, .null, .null, .null, .int 0, .null, .null, .null, .null, .null, .null] := ⟨_, rfl⟩
  have es4 : f3.set 6 (.ref q35) = f4 := by rw [ef3, ef4]; rfl
  obtain ⟨w4, ew4⟩ : ∃ w : va_W, w = w3 ++ [(q35, .inl (κ.1, 403, .inl (fun _ => 0)))] := ⟨_, rfl⟩
  rw [es4, ← ew4] at hP hD
  have ln4 : f4.length = 64 := by rw [ef4]; rfl
  refine W.cs (cells' := 4) (slots' := 4806) rfl rfl ?_
  refine lv_aload_n hx hb dX12_init_40 rfl (lv_at hl 0 rfl) ?_
  refine lv_sipush (v := 403) hx hb dX12_init_41 (by decide) ?_
  refine n_stI C (by decide) ka_I hP hD hS fq_X12_27 ln4 (Nat.le_of_ble_eq_true rfl) (N := 403) (by decide) (by decide) (by decide) (Nat.le_of_ble_eq_true rfl) (Nat.le_of_ble_eq_true rfl) dX12_init_44 dX12_init_46 (fun q44 H locs hP hD hS => ?_)
  obtain ⟨f5, ef5⟩ : ∃ f : List Value, f = [.int 0, .ref q8, .int 0, .ref q17, .int 0, .ref q26, .ref q35, .ref q44, .null, .null, .int 0, .int 0, .int 0, .int 0, .int 0, .int 0, .int 0, .int 0, .int 0, .int 0, .null, .null, .null, .null, .null, .null, .null, .null, .null, .null, .null, .null, .null, .int 0, .null, .null, .null, .null, .null, .int 0, .null, .null, .null, .int 0, .null, .null, .int 0, .null, .null, .int 0, .int 0, .null, .null, .null, .null, .null, .null, .int 0, .null, .null, .null, .null, .null, .null] := ⟨_, rfl⟩
  have es5 : f4.set 7 (.ref q44) = f5 := by rw [ef4, ef5]; rfl
  obtain ⟨w5, ew5⟩ : ∃ w : va_W, w = w4 ++ [(q44, .inl (κ.1, 403, .inl (fun _ => 0)))] := ⟨_, rfl⟩
  rw [es5, ← ew5] at hP hD
  have ln5 : f5.length = 64 := by rw [ef5]; rfl
  refine W.cs (cells' := 5) (slots' := 5209) rfl rfl ?_
  refine lv_aload_n hx hb dX12_init_49 rfl (lv_at hl 0 rfl) ?_
  refine lv_sipush (v := 403) hx hb dX12_init_50 (by decide) ?_
  refine n_stJ C (by decide) ka_J hP hD hS fq_X12_30 ln5 (Nat.le_of_ble_eq_true rfl) (N := 403) (by decide) (by decide) (by decide) (Nat.le_of_ble_eq_true rfl) (Nat.le_of_ble_eq_true rfl) dX12_init_53 dX12_init_55 (fun q53 H locs hP hD hS => ?_)
  obtain ⟨f6, ef6⟩ : ∃ f : List Value, f = [.int 0, .ref q8, .int 0, .ref q17, .int 0, .ref q26, .ref q35, .ref q44, .ref q53, .null, .int 0, .int 0, .int 0, .int 0, .int 0, .int 0, .int 0, .int 0, .int 0, .int 0, .null, .null, .null, .null, .null, .null, .null, .null, .null, .null, .null, .null, .null, .int 0, .null, .null, .null, .null, .null, .int 0, .null, .null, .null, .int 0, .null, .null, .int 0, .null, .null, .int 0, .int 0, .null, .null, .null, .null, .null, .null, .int 0, .null, .null, .null, .null, .null, .null] := ⟨_, rfl⟩
  have es6 : f5.set 8 (.ref q53) = f6 := by rw [ef5, ef6]; rfl
  obtain ⟨w6, ew6⟩ : ∃ w : va_W, w = w5 ++ [(q53, .inl (κ.2.2.2, 403, .inr (.inl (fun _ => 0))))] := ⟨_, rfl⟩
  rw [es6, ← ew6] at hP hD
  have ln6 : f6.length = 64 := by rw [ef6]; rfl
  refine W.cs (cells' := 6) (slots' := 5612) rfl rfl ?_
  refine lv_aload_n hx hb dX12_init_58 rfl (lv_at hl 0 rfl) ?_
  refine lv_bipush (v := 22) hx hb dX12_init_59 (by decide) ?_
  refine n_stJ C (by decide) ka_J hP hD hS fq_X12_34 ln6 (Nat.le_of_ble_eq_true rfl) (N := 22) (by decide) (by decide) (by decide) (Nat.le_of_ble_eq_true rfl) (Nat.le_of_ble_eq_true rfl) dX12_init_61 dX12_init_63 (fun q61 H locs hP hD hS => ?_)
  obtain ⟨f7, ef7⟩ : ∃ f : List Value, f = [.int 0, .ref q8, .int 0, .ref q17, .int 0, .ref q26, .ref q35, .ref q44, .ref q53, .ref q61, .int 0, .int 0, .int 0, .int 0, .int 0, .int 0, .int 0, .int 0, .int 0, .int 0, .null, .null, .null, .null, .null, .null, .null, .null, .null, .null, .null, .null, .null, .int 0, .null, .null, .null, .null, .null, .int 0, .null, .null, .null, .int 0, .null, .null, .int 0, .null, .null, .int 0, .int 0, .null, .null, .null, .null, .null, .null, .int 0, .null, .null, .null, .null, .null, .null] := ⟨_, rfl⟩
  have es7 : f6.set 9 (.ref q61) = f7 := by rw [ef6, ef7]; rfl
  obtain ⟨w7, ew7⟩ : ∃ w : va_W, w = w6 ++ [(q61, .inl (κ.2.2.2, 22, .inr (.inl (fun _ => 0))))] := ⟨_, rfl⟩
  rw [es7, ← ew7] at hP hD
  have ln7 : f7.length = 64 := by rw [ef7]; rfl
  refine W.cs (cells' := 7) (slots' := 5634) rfl rfl ?_
  refine lv_aload_n hx hb dX12_init_66 rfl (lv_at hl 0 rfl) ?_
  refine lv_iconst (v := (-1)) hx hb dX12_init_67 (by decide) ?_
  refine n_putI C hP hD hS 0 rfl fp_X12_37 (by rw [ln7]; exact (Nat.le_of_ble_eq_true rfl)) dX12_init_68 (fun H locs hP hD hS => ?_)
  obtain ⟨f8, ef8⟩ : ∃ f : List Value, f = [.int 0, .ref q8, .int 0, .ref q17, .int 0, .ref q26, .ref q35, .ref q44, .ref q53, .ref q61, .int 0, .int 0, .int 0, .int 0, .int 0, .int 0, .int 0, .int (-1), .int 0, .int 0, .null, .null, .null, .null, .null, .null, .null, .null, .null, .null, .null, .null, .null, .int 0, .null, .null, .null, .null, .null, .int 0, .null, .null, .null, .int 0, .null, .null, .int 0, .null, .null, .int 0, .int 0, .null, .null, .null, .null, .null, .null, .int 0, .null, .null, .null, .null, .null, .null] := ⟨_, rfl⟩
  have es8 : f7.set 17 (.int (-1)) = f8 := by rw [ef7, ef8]; rfl
  replace hP : va_P D classes ((h0, .inr (12, f8)) :: w7) H := by rw [← es8]; exact hP
  replace hD : va_D A ((h0, .inr (12, f8)) :: w7) := by rw [← es8]; exact hD
  have ln8 : f8.length = 64 := by rw [ef8]; rfl
  refine lv_aload_n hx hb dX12_init_71 rfl (lv_at hl 0 rfl) ?_
  refine lv_iconst (v := 2) hx hb dX12_init_72 (by decide) ?_
  refine n_stI C (by decide) ka_I hP hD hS fq_X12_40 ln8 (Nat.le_of_ble_eq_true rfl) (N := 2) (by decide) (by decide) (by decide) (Nat.le_of_ble_eq_true rfl) (Nat.le_of_ble_eq_true rfl) dX12_init_73 dX12_init_75 (fun q73 H locs hP hD hS => ?_)
  obtain ⟨f9, ef9⟩ : ∃ f : List Value, f = [.int 0, .ref q8, .int 0, .ref q17, .int 0, .ref q26, .ref q35, .ref q44, .ref q53, .ref q61, .int 0, .int 0, .int 0, .int 0, .int 0, .int 0, .int 0, .int (-1), .int 0, .int 0, .ref q73, .null, .null, .null, .null, .null, .null, .null, .null, .null, .null, .null, .null, .int 0, .null, .null, .null, .null, .null, .int 0, .null, .null, .null, .int 0, .null, .null, .int 0, .null, .null, .int 0, .int 0, .null, .null, .null, .null, .null, .null, .int 0, .null, .null, .null, .null, .null, .null] := ⟨_, rfl⟩
  have es9 : f8.set 20 (.ref q73) = f9 := by rw [ef8, ef9]; rfl
  obtain ⟨w8, ew8⟩ : ∃ w : va_W, w = w7 ++ [(q73, .inl (κ.1, 2, .inl (fun _ => 0)))] := ⟨_, rfl⟩
  rw [es9, ← ew8] at hP hD
  have ln9 : f9.length = 64 := by rw [ef9]; rfl
  refine W.cs (cells' := 8) (slots' := 5636) rfl rfl ?_
  refine lv_aload_n hx hb dX12_init_78 rfl (lv_at hl 0 rfl) ?_
  refine lv_bipush (v := 20) hx hb dX12_init_79 (by decide) ?_
  refine n_stI C (by decide) ka_I hP hD hS fq_X12_43 ln9 (Nat.le_of_ble_eq_true rfl) (N := 20) (by decide) (by decide) (by decide) (Nat.le_of_ble_eq_true rfl) (Nat.le_of_ble_eq_true rfl) dX12_init_81 dX12_init_83 (fun q81 H locs hP hD hS => ?_)
  obtain ⟨f10, ef10⟩ : ∃ f : List Value, f = [.int 0, .ref q8, .int 0, .ref q17, .int 0, .ref q26, .ref q35, .ref q44, .ref q53, .ref q61, .int 0, .int 0, .int 0, .int 0, .int 0, .int 0, .int 0, .int (-1), .int 0, .int 0, .ref q73, .ref q81, .null, .null, .null, .null, .null, .null, .null, .null, .null, .null, .null, .int 0, .null, .null, .null, .null, .null, .int 0, .null, .null, .null, .int 0, .null, .null, .int 0, .null, .null, .int 0, .int 0, .null, .null, .null, .null, .null, .null, .int 0, .null, .null, .null, .null, .null, .null] := ⟨_, rfl⟩
  have es10 : f9.set 21 (.ref q81) = f10 := by rw [ef9, ef10]; rfl
  obtain ⟨w9, ew9⟩ : ∃ w : va_W, w = w8 ++ [(q81, .inl (κ.1, 20, .inl (fun _ => 0)))] := ⟨_, rfl⟩
  rw [es10, ← ew9] at hP hD
  have ln10 : f10.length = 64 := by rw [ef10]; rfl
  refine W.cs (cells' := 9) (slots' := 5656) rfl rfl ?_
  refine lv_aload_n hx hb dX12_init_86 rfl (lv_at hl 0 rfl) ?_
  refine lv_iconst (v := 5) hx hb dX12_init_87 (by decide) ?_
  refine n_stJ C (by decide) ka_J hP hD hS fq_X12_46 ln10 (Nat.le_of_ble_eq_true rfl) (N := 5) (by decide) (by decide) (by decide) (Nat.le_of_ble_eq_true rfl) (Nat.le_of_ble_eq_true rfl) dX12_init_88 dX12_init_90 (fun q88 H locs hP hD hS => ?_)
  obtain ⟨f11, ef11⟩ : ∃ f : List Value, f = [.int 0, .ref q8, .int 0, .ref q17, .int 0, .ref q26, .ref q35, .ref q44, .ref q53, .ref q61, .int 0, .int 0, .int 0, .int 0, .int 0, .int 0, .int 0, .int (-1), .int 0, .int 0, .ref q73, .ref q81, .ref q88, .null, .null, .null, .null, .null, .null, .null, .null, .null, .null, .int 0, .null, .null, .null, .null, .null, .int 0, .null, .null, .null, .int 0, .null, .null, .int 0, .null, .null, .int 0, .int 0, .null, .null, .null, .null, .null, .null, .int 0, .null, .null, .null, .null, .null, .null] := ⟨_, rfl⟩
  have es11 : f10.set 22 (.ref q88) = f11 := by rw [ef10, ef11]; rfl
  obtain ⟨w10, ew10⟩ : ∃ w : va_W, w = w9 ++ [(q88, .inl (κ.2.2.2, 5, .inr (.inl (fun _ => 0))))] := ⟨_, rfl⟩
  rw [es11, ← ew10] at hP hD
  have ln11 : f11.length = 64 := by rw [ef11]; rfl
  refine W.cs (cells' := 10) (slots' := 5661) rfl rfl ?_
  refine lv_aload_n hx hb dX12_init_93 rfl (lv_at hl 0 rfl) ?_
  refine lv_iconst (v := 2) hx hb dX12_init_94 (by decide) ?_
  refine n_stI C (by decide) ka_I hP hD hS fq_X12_49 ln11 (Nat.le_of_ble_eq_true rfl) (N := 2) (by decide) (by decide) (by decide) (Nat.le_of_ble_eq_true rfl) (Nat.le_of_ble_eq_true rfl) dX12_init_95 dX12_init_97 (fun q95 H locs hP hD hS => ?_)
  obtain ⟨f12, ef12⟩ : ∃ f : List Value, f = [.int 0, .ref q8, .int 0, .ref q17, .int 0, .ref q26, .ref q35, .ref q44, .ref q53, .ref q61, .int 0, .int 0, .int 0, .int 0, .int 0, .int 0, .int 0, .int (-1), .int 0, .int 0, .ref q73, .ref q81, .ref q88, .ref q95, .null, .null, .null, .null, .null, .null, .null, .null, .null, .int 0, .null, .null, .null, .null, .null, .int 0, .null, .null, .null, .int 0, .null, .null, .int 0, .null, .null, .int 0, .int 0, .null, .null, .null, .null, .null, .null, .int 0, .null, .null, .null, .null, .null, .null] := ⟨_, rfl⟩
  have es12 : f11.set 23 (.ref q95) = f12 := by rw [ef11, ef12]; rfl
  obtain ⟨w11, ew11⟩ : ∃ w : va_W, w = w10 ++ [(q95, .inl (κ.1, 2, .inl (fun _ => 0)))] := ⟨_, rfl⟩
  rw [es12, ← ew11] at hP hD
  have ln12 : f12.length = 64 := by rw [ef12]; rfl
  refine W.cs (cells' := 11) (slots' := 5663) rfl rfl ?_
  refine lv_aload_n hx hb dX12_init_100 rfl (lv_at hl 0 rfl) ?_
  refine lv_bipush (v := 10) hx hb dX12_init_101 (by decide) ?_
  refine n_stI C (by decide) ka_I hP hD hS fq_X12_52 ln12 (Nat.le_of_ble_eq_true rfl) (N := 10) (by decide) (by decide) (by decide) (Nat.le_of_ble_eq_true rfl) (Nat.le_of_ble_eq_true rfl) dX12_init_103 dX12_init_105 (fun q103 H locs hP hD hS => ?_)
  obtain ⟨f13, ef13⟩ : ∃ f : List Value, f = [.int 0, .ref q8, .int 0, .ref q17, .int 0, .ref q26, .ref q35, .ref q44, .ref q53, .ref q61, .int 0, .int 0, .int 0, .int 0, .int 0, .int 0, .int 0, .int (-1), .int 0, .int 0, .ref q73, .ref q81, .ref q88, .ref q95, .ref q103, .null, .null, .null, .null, .null, .null, .null, .null, .int 0, .null, .null, .null, .null, .null, .int 0, .null, .null, .null, .int 0, .null, .null, .int 0, .null, .null, .int 0, .int 0, .null, .null, .null, .null, .null, .null, .int 0, .null, .null, .null, .null, .null, .null] := ⟨_, rfl⟩
  have es13 : f12.set 24 (.ref q103) = f13 := by rw [ef12, ef13]; rfl
  obtain ⟨w12, ew12⟩ : ∃ w : va_W, w = w11 ++ [(q103, .inl (κ.1, 10, .inl (fun _ => 0)))] := ⟨_, rfl⟩
  rw [es13, ← ew12] at hP hD
  have ln13 : f13.length = 64 := by rw [ef13]; rfl
  refine W.cs (cells' := 12) (slots' := 5673) rfl rfl ?_
  refine lv_aload_n hx hb dX12_init_108 rfl (lv_at hl 0 rfl) ?_
  refine lv_bipush (v := 10) hx hb dX12_init_109 (by decide) ?_
  refine n_stI C (by decide) ka_I hP hD hS fq_X12_55 ln13 (Nat.le_of_ble_eq_true rfl) (N := 10) (by decide) (by decide) (by decide) (Nat.le_of_ble_eq_true rfl) (Nat.le_of_ble_eq_true rfl) dX12_init_111 dX12_init_113 (fun q111 H locs hP hD hS => ?_)
  obtain ⟨f14, ef14⟩ : ∃ f : List Value, f = [.int 0, .ref q8, .int 0, .ref q17, .int 0, .ref q26, .ref q35, .ref q44, .ref q53, .ref q61, .int 0, .int 0, .int 0, .int 0, .int 0, .int 0, .int 0, .int (-1), .int 0, .int 0, .ref q73, .ref q81, .ref q88, .ref q95, .ref q103, .ref q111, .null, .null, .null, .null, .null, .null, .null, .int 0, .null, .null, .null, .null, .null, .int 0, .null, .null, .null, .int 0, .null, .null, .int 0, .null, .null, .int 0, .int 0, .null, .null, .null, .null, .null, .null, .int 0, .null, .null, .null, .null, .null, .null] := ⟨_, rfl⟩
  have es14 : f13.set 25 (.ref q111) = f14 := by rw [ef13, ef14]; rfl
  obtain ⟨w13, ew13⟩ : ∃ w : va_W, w = w12 ++ [(q111, .inl (κ.1, 10, .inl (fun _ => 0)))] := ⟨_, rfl⟩
  rw [es14, ← ew13] at hP hD
  have ln14 : f14.length = 64 := by rw [ef14]; rfl
  refine W.cs (cells' := 13) (slots' := 5683) rfl rfl ?_
  refine lv_aload_n hx hb dX12_init_116 rfl (lv_at hl 0 rfl) ?_
  refine lv_bipush (v := 16) hx hb dX12_init_117 (by decide) ?_
  refine n_stI C (by decide) ka_I hP hD hS fq_X12_58 ln14 (Nat.le_of_ble_eq_true rfl) (N := 16) (by decide) (by decide) (by decide) (Nat.le_of_ble_eq_true rfl) (Nat.le_of_ble_eq_true rfl) dX12_init_119 dX12_init_121 (fun q119 H locs hP hD hS => ?_)
  obtain ⟨f15, ef15⟩ : ∃ f : List Value, f = [.int 0, .ref q8, .int 0, .ref q17, .int 0, .ref q26, .ref q35, .ref q44, .ref q53, .ref q61, .int 0, .int 0, .int 0, .int 0, .int 0, .int 0, .int 0, .int (-1), .int 0, .int 0, .ref q73, .ref q81, .ref q88, .ref q95, .ref q103, .ref q111, .ref q119, .null, .null, .null, .null, .null, .null, .int 0, .null, .null, .null, .null, .null, .int 0, .null, .null, .null, .int 0, .null, .null, .int 0, .null, .null, .int 0, .int 0, .null, .null, .null, .null, .null, .null, .int 0, .null, .null, .null, .null, .null, .null] := ⟨_, rfl⟩
  have es15 : f14.set 26 (.ref q119) = f15 := by rw [ef14, ef15]; rfl
  obtain ⟨w14, ew14⟩ : ∃ w : va_W, w = w13 ++ [(q119, .inl (κ.1, 16, .inl (fun _ => 0)))] := ⟨_, rfl⟩
  rw [es15, ← ew14] at hP hD
  have ln15 : f15.length = 64 := by rw [ef15]; rfl
  refine W.cs (cells' := 14) (slots' := 5699) rfl rfl ?_
  refine lv_aload_n hx hb dX12_init_124 rfl (lv_at hl 0 rfl) ?_
  refine lv_iconst (v := 2) hx hb dX12_init_125 (by decide) ?_
  refine n_stI C (by decide) ka_I hP hD hS fq_X12_61 ln15 (Nat.le_of_ble_eq_true rfl) (N := 2) (by decide) (by decide) (by decide) (Nat.le_of_ble_eq_true rfl) (Nat.le_of_ble_eq_true rfl) dX12_init_126 dX12_init_128 (fun q126 H locs hP hD hS => ?_)
  obtain ⟨f16, ef16⟩ : ∃ f : List Value, f = [.int 0, .ref q8, .int 0, .ref q17, .int 0, .ref q26, .ref q35, .ref q44, .ref q53, .ref q61, .int 0, .int 0, .int 0, .int 0, .int 0, .int 0, .int 0, .int (-1), .int 0, .int 0, .ref q73, .ref q81, .ref q88, .ref q95, .ref q103, .ref q111, .ref q119, .ref q126, .null, .null, .null, .null, .null, .int 0, .null, .null, .null, .null, .null, .int 0, .null, .null, .null, .int 0, .null, .null, .int 0, .null, .null, .int 0, .int 0, .null, .null, .null, .null, .null, .null, .int 0, .null, .null, .null, .null, .null, .null] := ⟨_, rfl⟩
  have es16 : f15.set 27 (.ref q126) = f16 := by rw [ef15, ef16]; rfl
  obtain ⟨w15, ew15⟩ : ∃ w : va_W, w = w14 ++ [(q126, .inl (κ.1, 2, .inl (fun _ => 0)))] := ⟨_, rfl⟩
  rw [es16, ← ew15] at hP hD
  have ln16 : f16.length = 64 := by rw [ef16]; rfl
  refine W.cs (cells' := 15) (slots' := 5701) rfl rfl ?_
  refine lv_aload_n hx hb dX12_init_131 rfl (lv_at hl 0 rfl) ?_
  refine lv_iconst (v := 2) hx hb dX12_init_132 (by decide) ?_
  refine n_stI C (by decide) ka_I hP hD hS fq_X12_64 ln16 (Nat.le_of_ble_eq_true rfl) (N := 2) (by decide) (by decide) (by decide) (Nat.le_of_ble_eq_true rfl) (Nat.le_of_ble_eq_true rfl) dX12_init_133 dX12_init_135 (fun q133 H locs hP hD hS => ?_)
  obtain ⟨f17, ef17⟩ : ∃ f : List Value, f = [.int 0, .ref q8, .int 0, .ref q17, .int 0, .ref q26, .ref q35, .ref q44, .ref q53, .ref q61, .int 0, .int 0, .int 0, .int 0, .int 0, .int 0, .int 0, .int (-1), .int 0, .int 0, .ref q73, .ref q81, .ref q88, .ref q95, .ref q103, .ref q111, .ref q119, .ref q126, .ref q133, .null, .null, .null, .null, .int 0, .null, .null, .null, .null, .null, .int 0, .null, .null, .null, .int 0, .null, .null, .int 0, .null, .null, .int 0, .int 0, .null, .null, .null, .null, .null, .null, .int 0, .null, .null, .null, .null, .null, .null] := ⟨_, rfl⟩
  have es17 : f16.set 28 (.ref q133) = f17 := by rw [ef16, ef17]; rfl
  obtain ⟨w16, ew16⟩ : ∃ w : va_W, w = w15 ++ [(q133, .inl (κ.1, 2, .inl (fun _ => 0)))] := ⟨_, rfl⟩
  rw [es17, ← ew16] at hP hD
  have ln17 : f17.length = 64 := by rw [ef17]; rfl
  refine W.cs (cells' := 16) (slots' := 5703) rfl rfl ?_
  refine lv_aload_n hx hb dX12_init_138 rfl (lv_at hl 0 rfl) ?_
  refine lv_iconst (v := 2) hx hb dX12_init_139 (by decide) ?_
  refine n_stI C (by decide) ka_I hP hD hS fq_X12_67 ln17 (Nat.le_of_ble_eq_true rfl) (N := 2) (by decide) (by decide) (by decide) (Nat.le_of_ble_eq_true rfl) (Nat.le_of_ble_eq_true rfl) dX12_init_140 dX12_init_142 (fun q140 H locs hP hD hS => ?_)
  obtain ⟨f18, ef18⟩ : ∃ f : List Value, f = [.int 0, .ref q8, .int 0, .ref q17, .int 0, .ref q26, .ref q35, .ref q44, .ref q53, .ref q61, .int 0, .int 0, .int 0, .int 0, .int 0, .int 0, .int 0, .int (-1), .int 0, .int 0, .ref q73, .ref q81, .ref q88, .ref q95, .ref q103, .ref q111, .ref q119, .ref q126, .ref q133, .ref q140, .null, .null, .null, .int 0, .null, .null, .null, .null, .null, .int 0, .null, .null, .null, .int 0, .null, .null, .int 0, .null, .null, .int 0, .int 0, .null, .null, .null, .null, .null, .null, .int 0, .null, .null, .null, .null, .null, .null] := ⟨_, rfl⟩
  have es18 : f17.set 29 (.ref q140) = f18 := by rw [ef17, ef18]; rfl
  obtain ⟨w17, ew17⟩ : ∃ w : va_W, w = w16 ++ [(q140, .inl (κ.1, 2, .inl (fun _ => 0)))] := ⟨_, rfl⟩
  rw [es18, ← ew17] at hP hD
  have ln18 : f18.length = 64 := by rw [ef18]; rfl
  refine W.cs (cells' := 17) (slots' := 5705) rfl rfl ?_
  refine lv_aload_n hx hb dX12_init_145 rfl (lv_at hl 0 rfl) ?_
  refine lv_iconst (v := 2) hx hb dX12_init_146 (by decide) ?_
  refine n_stI C (by decide) ka_I hP hD hS fq_X12_70 ln18 (Nat.le_of_ble_eq_true rfl) (N := 2) (by decide) (by decide) (by decide) (Nat.le_of_ble_eq_true rfl) (Nat.le_of_ble_eq_true rfl) dX12_init_147 dX12_init_149 (fun q147 H locs hP hD hS => ?_)
  obtain ⟨f19, ef19⟩ : ∃ f : List Value, f = [.int 0, .ref q8, .int 0, .ref q17, .int 0, .ref q26, .ref q35, .ref q44, .ref q53, .ref q61, .int 0, .int 0, .int 0, .int 0, .int 0, .int 0, .int 0, .int (-1), .int 0, .int 0, .ref q73, .ref q81, .ref q88, .ref q95, .ref q103, .ref q111, .ref q119, .ref q126, .ref q133, .ref q140, .ref q147, .null, .null, .int 0, .null, .null, .null, .null, .null, .int 0, .null, .null, .null, .int 0, .null, .null, .int 0, .null, .null, .int 0, .int 0, .null, .null, .null, .null, .null, .null, .int 0, .null, .null, .null, .null, .null, .null] := ⟨_, rfl⟩
  have es19 : f18.set 30 (.ref q147) = f19 := by rw [ef18, ef19]; rfl
  obtain ⟨w18, ew18⟩ : ∃ w : va_W, w = w17 ++ [(q147, .inl (κ.1, 2, .inl (fun _ => 0)))] := ⟨_, rfl⟩
  rw [es19, ← ew18] at hP hD
  have ln19 : f19.length = 64 := by rw [ef19]; rfl
  refine W.cs (cells' := 18) (slots' := 5707) rfl rfl ?_
  refine lv_aload_n hx hb dX12_init_152 rfl (lv_at hl 0 rfl) ?_
  refine lv_bipush (v := 8) hx hb dX12_init_153 (by decide) ?_
  refine n_stI C (by decide) ka_I hP hD hS fq_X12_73 ln19 (Nat.le_of_ble_eq_true rfl) (N := 8) (by decide) (by decide) (by decide) (Nat.le_of_ble_eq_true rfl) (Nat.le_of_ble_eq_true rfl) dX12_init_155 dX12_init_157 (fun q155 H locs hP hD hS => ?_)
  obtain ⟨f20, ef20⟩ : ∃ f : List Value, f = [.int 0, .ref q8, .int 0, .ref q17, .int 0, .ref q26, .ref q35, .ref q44, .ref q53, .ref q61, .int 0, .int 0, .int 0, .int 0, .int 0, .int 0, .int 0, .int (-1), .int 0, .int 0, .ref q73, .ref q81, .ref q88, .ref q95, .ref q103, .ref q111, .ref q119, .ref q126, .ref q133, .ref q140, .ref q147, .ref q155, .null, .int 0, .null, .null, .null, .null, .null, .int 0, .null, .null, .null, .int 0, .null, .null, .int 0, .null, .null, .int 0, .int 0, .null, .null, .null, .null, .null, .null, .int 0, .null, .null, .null, .null, .null, .null] := ⟨_, rfl⟩
  have es20 : f19.set 31 (.ref q155) = f20 := by rw [ef19, ef20]; rfl
  obtain ⟨w19, ew19⟩ : ∃ w : va_W, w = w18 ++ [(q155, .inl (κ.1, 8, .inl (fun _ => 0)))] := ⟨_, rfl⟩
  rw [es20, ← ew19] at hP hD
  have ln20 : f20.length = 64 := by rw [ef20]; rfl
  refine W.cs (cells' := 19) (slots' := 5715) rfl rfl ?_
  refine lv_aload_n hx hb dX12_init_160 rfl (lv_at hl 0 rfl) ?_
  refine lv_bipush (v := 8) hx hb dX12_init_161 (by decide) ?_
  refine n_stI C (by decide) ka_I hP hD hS fq_X12_76 ln20 (Nat.le_of_ble_eq_true rfl) (N := 8) (by decide) (by decide) (by decide) (Nat.le_of_ble_eq_true rfl) (Nat.le_of_ble_eq_true rfl) dX12_init_163 dX12_init_165 (fun q163 H locs hP hD hS => ?_)
  obtain ⟨f21, ef21⟩ : ∃ f : List Value, f = [.int 0, .ref q8, .int 0, .ref q17, .int 0, .ref q26, .ref q35, .ref q44, .ref q53, .ref q61, .int 0, .int 0, .int 0, .int 0, .int 0, .int 0, .int 0, .int (-1), .int 0, .int 0, .ref q73, .ref q81, .ref q88, .ref q95, .ref q103, .ref q111, .ref q119, .ref q126, .ref q133, .ref q140, .ref q147, .ref q155, .ref q163, .int 0, .null, .null, .null, .null, .null, .int 0, .null, .null, .null, .int 0, .null, .null, .int 0, .null, .null, .int 0, .int 0, .null, .null, .null, .null, .null, .null, .int 0, .null, .null, .null, .null, .null, .null] := ⟨_, rfl⟩
  have es21 : f20.set 32 (.ref q163) = f21 := by rw [ef20, ef21]; rfl
  obtain ⟨w20, ew20⟩ : ∃ w : va_W, w = w19 ++ [(q163, .inl (κ.1, 8, .inl (fun _ => 0)))] := ⟨_, rfl⟩
  rw [es21, ← ew20] at hP hD
  have ln21 : f21.length = 64 := by rw [ef21]; rfl
  refine W.cs (cells' := 20) (slots' := 5723) rfl rfl ?_
  refine lv_aload_n hx hb dX12_init_168 rfl (lv_at hl 0 rfl) ?_
  refine lv_sipush (v := 260) hx hb dX12_init_169 (by decide) ?_
  refine n_stZ C (by decide) ka_Z hP hD hS fq_X12_79 ln21 (Nat.le_of_ble_eq_true rfl) (N := 260) (by decide) (by decide) (by decide) (Nat.le_of_ble_eq_true rfl) (Nat.le_of_ble_eq_true rfl) dX12_init_172 dX12_init_174 (fun q172 H locs hP hD hS => ?_)
  obtain ⟨f22, ef22⟩ : ∃ f : List Value, f = [.int 0, .ref q8, .int 0, .ref q17, .int 0, .ref q26, .ref q35, .ref q44, .ref q53, .ref q61, .int 0, .int 0, .int 0, .int 0, .int 0, .int 0, .int 0, .int (-1), .int 0, .int 0, .ref q73, .ref q81, .ref q88, .ref q95, .ref q103, .ref q111, .ref q119, .ref q126, .ref q133, .ref q140, .ref q147, .ref q155, .ref q163, .int 0, .ref q172, .null, .null, .null, .null, .int 0, .null, .null, .null, .int 0, .null, .null, .int 0, .null, .null, .int 0, .int 0, .null, .null, .null, .null, .null, .null, .int 0, .null, .null, .null, .null, .null, .null] := ⟨_, rfl⟩
  have es22 : f21.set 34 (.ref q172) = f22 := by rw [ef21, ef22]; rfl
  obtain ⟨w21, ew21⟩ : ∃ w : va_W, w = w20 ++ [(q172, .inl (κ.2.2.1, 260, .inl (fun _ => 0)))] := ⟨_, rfl⟩
  rw [es22, ← ew21] at hP hD
  have ln22 : f22.length = 64 := by rw [ef22]; rfl
  refine W.cs (cells' := 21) (slots' := 5983) rfl rfl ?_
  refine lv_aload_n hx hb dX12_init_177 rfl (lv_at hl 0 rfl) ?_
  refine lv_sipush (v := 260) hx hb dX12_init_178 (by decide) ?_
  refine n_stI C (by decide) ka_I hP hD hS fq_X12_83 ln22 (Nat.le_of_ble_eq_true rfl) (N := 260) (by decide) (by decide) (by decide) (Nat.le_of_ble_eq_true rfl) (Nat.le_of_ble_eq_true rfl) dX12_init_181 dX12_init_183 (fun q181 H locs hP hD hS => ?_)
  obtain ⟨f23, ef23⟩ : ∃ f : List Value, f = [.int 0, .ref q8, .int 0, .ref q17, .int 0, .ref q26, .ref q35, .ref q44, .ref q53, .ref q61, .int 0, .int 0, .int 0, .int 0, .int 0, .int 0, .int 0, .int (-1), .int 0, .int 0, .ref q73, .ref q81, .ref q88, .ref q95, .ref q103, .ref q111, .ref q119, .ref q126, .ref q133, .ref q140, .ref q147, .ref q155, .ref q163, .int 0, .ref q172, .ref q181, .null, .null, .null, .int 0, .null, .null, .null, .int 0, .null, .null, .int 0, .null, .null, .int 0, .int 0, .null, .null, .null, .null, .null, .null, .int 0, .null, .null, .null, .null, .null, .null] := ⟨_, rfl⟩
  have es23 : f22.set 35 (.ref q181) = f23 := by rw [ef22, ef23]; rfl
  obtain ⟨w22, ew22⟩ : ∃ w : va_W, w = w21 ++ [(q181, .inl (κ.1, 260, .inl (fun _ => 0)))] := ⟨_, rfl⟩
  rw [es23, ← ew22] at hP hD
  have ln23 : f23.length = 64 := by rw [ef23]; rfl
  refine W.cs (cells' := 22) (slots' := 6243) rfl rfl ?_
  refine lv_aload_n hx hb dX12_init_186 rfl (lv_at hl 0 rfl) ?_
  refine lv_sipush (v := 260) hx hb dX12_init_187 (by decide) ?_
  refine n_stI C (by decide) ka_I hP hD hS fq_X12_86 ln23 (Nat.le_of_ble_eq_true rfl) (N := 260) (by decide) (by decide) (by decide) (Nat.le_of_ble_eq_true rfl) (Nat.le_of_ble_eq_true rfl) dX12_init_190 dX12_init_192 (fun q190 H locs hP hD hS => ?_)
  obtain ⟨f24, ef24⟩ : ∃ f : List Value, f = [.int 0, .ref q8, .int 0, .ref q17, .int 0, .ref q26, .ref q35, .ref q44, .ref q53, .ref q61, .int 0, .int 0, .int 0, .int 0, .int 0, .int 0, .int 0, .int (-1), .int 0, .int 0, .ref q73, .ref q81, .ref q88, .ref q95, .ref q103, .ref q111, .ref q119, .ref q126, .ref q133, .ref q140, .ref q147, .ref q155, .ref q163, .int 0, .ref q172, .ref q181, .ref q190, .null, .null, .int 0, .null, .null, .null, .int 0, .null, .null, .int 0, .null, .null, .int 0, .int 0, .null, .null, .null, .null, .null, .null, .int 0, .null, .null, .null, .null, .null, .null] := ⟨_, rfl⟩
  have es24 : f23.set 36 (.ref q190) = f24 := by rw [ef23, ef24]; rfl
  obtain ⟨w23, ew23⟩ : ∃ w : va_W, w = w22 ++ [(q190, .inl (κ.1, 260, .inl (fun _ => 0)))] := ⟨_, rfl⟩
  rw [es24, ← ew23] at hP hD
  have ln24 : f24.length = 64 := by rw [ef24]; rfl
  refine W.cs (cells' := 23) (slots' := 6503) rfl rfl ?_
  refine lv_aload_n hx hb dX12_init_195 rfl (lv_at hl 0 rfl) ?_
  refine lv_sipush (v := 260) hx hb dX12_init_196 (by decide) ?_
  refine n_stI C (by decide) ka_I hP hD hS fq_X12_89 ln24 (Nat.le_of_ble_eq_true rfl) (N := 260) (by decide) (by decide) (by decide) (Nat.le_of_ble_eq_true rfl) (Nat.le_of_ble_eq_true rfl) dX12_init_199 dX12_init_201 (fun q199 H locs hP hD hS => ?_)
  obtain ⟨f25, ef25⟩ : ∃ f : List Value, f = [.int 0, .ref q8, .int 0, .ref q17, .int 0, .ref q26, .ref q35, .ref q44, .ref q53, .ref q61, .int 0, .int 0, .int 0, .int 0, .int 0, .int 0, .int 0, .int (-1), .int 0, .int 0, .ref q73, .ref q81, .ref q88, .ref q95, .ref q103, .ref q111, .ref q119, .ref q126, .ref q133, .ref q140, .ref q147, .ref q155, .ref q163, .int 0, .ref q172, .ref q181, .ref q190, .ref q199, .null, .int 0, .null, .null, .null, .int 0, .null, .null, .int 0, .null, .null, .int 0, .int 0, .null, .null, .null, .null, .null, .null, .int 0, .null, .null, .null, .null, .null, .null] := ⟨_, rfl⟩
  have es25 : f24.set 37 (.ref q199) = f25 := by rw [ef24, ef25]; rfl
  obtain ⟨w24, ew24⟩ : ∃ w : va_W, w = w23 ++ [(q199, .inl (κ.1, 260, .inl (fun _ => 0)))] := ⟨_, rfl⟩
  rw [es25, ← ew24] at hP hD
  have ln25 : f25.length = 64 := by rw [ef25]; rfl
  refine W.cs (cells' := 24) (slots' := 6763) rfl rfl ?_
  refine lv_aload_n hx hb dX12_init_204 rfl (lv_at hl 0 rfl) ?_
  refine lv_sipush (v := 260) hx hb dX12_init_205 (by decide) ?_
  refine n_stI C (by decide) ka_I hP hD hS fq_X12_92 ln25 (Nat.le_of_ble_eq_true rfl) (N := 260) (by decide) (by decide) (by decide) (Nat.le_of_ble_eq_true rfl) (Nat.le_of_ble_eq_true rfl) dX12_init_208 dX12_init_210 (fun q208 H locs hP hD hS => ?_)
  obtain ⟨f26, ef26⟩ : ∃ f : List Value, f = [.int 0, .ref q8, .int 0, .ref q17, .int 0, .ref q26, .ref q35, .ref q44, .ref q53, .ref q61, .int 0, .int 0, .int 0, .int 0, .int 0, .int 0, .int 0, .int (-1), .int 0, .int 0, .ref q73, .ref q81, .ref q88, .ref q95, .ref q103, .ref q111, .ref q119, .ref q126, .ref q133, .ref q140, .ref q147, .ref q155, .ref q163, .int 0, .ref q172, .ref q181, .ref q190, .ref q199, .ref q208, .int 0, .null, .null, .null, .int 0, .null, .null, .int 0, .null, .null, .int 0, .int 0, .null, .null, .null, .null, .null, .null, .int 0, .null, .null, .null, .null, .null, .null] := ⟨_, rfl⟩
  have es26 : f25.set 38 (.ref q208) = f26 := by rw [ef25, ef26]; rfl
  obtain ⟨w25, ew25⟩ : ∃ w : va_W, w = w24 ++ [(q208, .inl (κ.1, 260, .inl (fun _ => 0)))] := ⟨_, rfl⟩
  rw [es26, ← ew25] at hP hD
  have ln26 : f26.length = 64 := by rw [ef26]; rfl
  refine W.cs (cells' := 25) (slots' := 7023) rfl rfl ?_
  refine lv_aload_n hx hb dX12_init_213 rfl (lv_at hl 0 rfl) ?_
  refine lv_sipush (v := 840) hx hb dX12_init_214 (by decide) ?_
  refine n_stI C (by decide) ka_I hP hD hS fq_X12_95 ln26 (Nat.le_of_ble_eq_true rfl) (N := 840) (by decide) (by decide) (by decide) (Nat.le_of_ble_eq_true rfl) (Nat.le_of_ble_eq_true rfl) dX12_init_217 dX12_init_219 (fun q217 H locs hP hD hS => ?_)
  obtain ⟨f27, ef27⟩ : ∃ f : List Value, f = [.int 0, .ref q8, .int 0, .ref q17, .int 0, .ref q26, .ref q35, .ref q44, .ref q53, .ref q61, .int 0, .int 0, .int 0, .int 0, .int 0, .int 0, .int 0, .int (-1), .int 0, .int 0, .ref q73, .ref q81, .ref q88, .ref q95, .ref q103, .ref q111, .ref q119, .ref q126, .ref q133, .ref q140, .ref q147, .ref q155, .ref q163, .int 0, .ref q172, .ref q181, .ref q190, .ref q199, .ref q208, .int 0, .ref q217, .null, .null, .int 0, .null, .null, .int 0, .null, .null, .int 0, .int 0, .null, .null, .null, .null, .null, .null, .int 0, .null, .null, .null, .null, .null, .null] := ⟨_, rfl⟩
  have es27 : f26.set 40 (.ref q217) = f27 := by rw [ef26, ef27]; rfl
  obtain ⟨w26, ew26⟩ : ∃ w : va_W, w = w25 ++ [(q217, .inl (κ.1, 840, .inl (fun _ => 0)))] := ⟨_, rfl⟩
  rw [es27, ← ew26] at hP hD
  have ln27 : f27.length = 64 := by rw [ef27]; rfl
  refine W.cs (cells' := 26) (slots' := 7863) rfl rfl ?_
  refine lv_aload_n hx hb dX12_init_222 rfl (lv_at hl 0 rfl) ?_
  refine lv_sipush (v := 840) hx hb dX12_init_223 (by decide) ?_
  refine n_stI C (by decide) ka_I hP hD hS fq_X12_98 ln27 (Nat.le_of_ble_eq_true rfl) (N := 840) (by decide) (by decide) (by decide) (Nat.le_of_ble_eq_true rfl) (Nat.le_of_ble_eq_true rfl) dX12_init_226 dX12_init_228 (fun q226 H locs hP hD hS => ?_)
  obtain ⟨f28, ef28⟩ : ∃ f : List Value, f = [.int 0, .ref q8, .int 0, .ref q17, .int 0, .ref q26, .ref q35, .ref q44, .ref q53, .ref q61, .int 0, .int 0, .int 0, .int 0, .int 0, .int 0, .int 0, .int (-1), .int 0, .int 0, .ref q73, .ref q81, .ref q88, .ref q95, .ref q103, .ref q111, .ref q119, .ref q126, .ref q133, .ref q140, .ref q147, .ref q155, .ref q163, .int 0, .ref q172, .ref q181, .ref q190, .ref q199, .ref q208, .int 0, .ref q217, .ref q226, .null, .int 0, .null, .null, .int 0, .null, .null, .int 0, .int 0, .null, .null, .null, .null, .null, .null, .int 0, .null, .null, .null, .null, .null, .null] := ⟨_, rfl⟩
  have es28 : f27.set 41 (.ref q226) = f28 := by rw [ef27, ef28]; rfl
  obtain ⟨w27, ew27⟩ : ∃ w : va_W, w = w26 ++ [(q226, .inl (κ.1, 840, .inl (fun _ => 0)))] := ⟨_, rfl⟩
  rw [es28, ← ew27] at hP hD
  have ln28 : f28.length = 64 := by rw [ef28]; rfl
  refine W.cs (cells' := 27) (slots' := 8703) rfl rfl ?_
  refine lv_aload_n hx hb dX12_init_231 rfl (lv_at hl 0 rfl) ?_
  refine lv_bipush (v := 64) hx hb dX12_init_232 (by decide) ?_
  refine n_stI C (by decide) ka_I hP hD hS fq_X12_101 ln28 (Nat.le_of_ble_eq_true rfl) (N := 64) (by decide) (by decide) (by decide) (Nat.le_of_ble_eq_true rfl) (Nat.le_of_ble_eq_true rfl) dX12_init_234 dX12_init_236 (fun q234 H locs hP hD hS => ?_)
  obtain ⟨f29, ef29⟩ : ∃ f : List Value, f = [.int 0, .ref q8, .int 0, .ref q17, .int 0, .ref q26, .ref q35, .ref q44, .ref q53, .ref q61, .int 0, .int 0, .int 0, .int 0, .int 0, .int 0, .int 0, .int (-1), .int 0, .int 0, .ref q73, .ref q81, .ref q88, .ref q95, .ref q103, .ref q111, .ref q119, .ref q126, .ref q133, .ref q140, .ref q147, .ref q155, .ref q163, .int 0, .ref q172, .ref q181, .ref q190, .ref q199, .ref q208, .int 0, .ref q217, .ref q226, .ref q234, .int 0, .null, .null, .int 0, .null, .null, .int 0, .int 0, .null, .null, .null, .null, .null, .null, .int 0, .null, .null, .null, .null, .null, .null] := ⟨_, rfl⟩
  have es29 : f28.set 42 (.ref q234) = f29 := by rw [ef28, ef29]; rfl
  obtain ⟨w28, ew28⟩ : ∃ w : va_W, w = w27 ++ [(q234, .inl (κ.1, 64, .inl (fun _ => 0)))] := ⟨_, rfl⟩
  rw [es29, ← ew28] at hP hD
  have ln29 : f29.length = 64 := by rw [ef29]; rfl
  refine W.cs (cells' := 28) (slots' := 8767) rfl rfl ?_
  refine lv_aload_n hx hb dX12_init_239 rfl (lv_at hl 0 rfl) ?_
  refine lv_bipush (v := 9) hx hb dX12_init_240 (by decide) ?_
  refine n_stI C (by decide) ka_I hP hD hS fq_X12_104 ln29 (Nat.le_of_ble_eq_true rfl) (N := 9) (by decide) (by decide) (by decide) (Nat.le_of_ble_eq_true rfl) (Nat.le_of_ble_eq_true rfl) dX12_init_242 dX12_init_244 (fun q242 H locs hP hD hS => ?_)
  obtain ⟨f30, ef30⟩ : ∃ f : List Value, f = [.int 0, .ref q8, .int 0, .ref q17, .int 0, .ref q26, .ref q35, .ref q44, .ref q53, .ref q61, .int 0, .int 0, .int 0, .int 0, .int 0, .int 0, .int 0, .int (-1), .int 0, .int 0, .ref q73, .ref q81, .ref q88, .ref q95, .ref q103, .ref q111, .ref q119, .ref q126, .ref q133, .ref q140, .ref q147, .ref q155, .ref q163, .int 0, .ref q172, .ref q181, .ref q190, .ref q199, .ref q208, .int 0, .ref q217, .ref q226, .ref q234, .int 0, .ref q242, .null, .int 0, .null, .null, .int 0, .int 0, .null, .null, .null, .null, .null, .null, .int 0, .null, .null, .null, .null, .null, .null] := ⟨_, rfl⟩
  have es30 : f29.set 44 (.ref q242) = f30 := by rw [ef29, ef30]; rfl
  obtain ⟨w29, ew29⟩ : ∃ w : va_W, w = w28 ++ [(q242, .inl (κ.1, 9, .inl (fun _ => 0)))] := ⟨_, rfl⟩
  rw [es30, ← ew29] at hP hD
  have ln30 : f30.length = 64 := by rw [ef30]; rfl
  refine W.cs (cells' := 29) (slots' := 8776) rfl rfl ?_
  refine lv_aload_n hx hb dX12_init_247 rfl (lv_at hl 0 rfl) ?_
  refine lv_sipush (v := 400) hx hb dX12_init_248 (by decide) ?_
  refine n_stI C (by decide) ka_I hP hD hS fq_X12_107 ln30 (Nat.le_of_ble_eq_true rfl) (N := 400) (by decide) (by decide) (by decide) (Nat.le_of_ble_eq_true rfl) (Nat.le_of_ble_eq_true rfl) dX12_init_251 dX12_init_253 (fun q251 H locs hP hD hS => ?_)
  obtain ⟨f31, ef31⟩ : ∃ f : List Value, f = [.int 0, .ref q8, .int 0, .ref q17, .int 0, .ref q26, .ref q35, .ref q44, .ref q53, .ref q61, .int 0, .int 0, .int 0, .int 0, .int 0, .int 0, .int 0, .int (-1), .int 0, .int 0, .ref q73, .ref q81, .ref q88, .ref q95, .ref q103, .ref q111, .ref q119, .ref q126, .ref q133, .ref q140, .ref q147, .ref q155, .ref q163, .int 0, .ref q172, .ref q181, .ref q190, .ref q199, .ref q208, .int 0, .ref q217, .ref q226, .ref q234, .int 0, .ref q242, .ref q251, .int 0, .null, .null, .int 0, .int 0, .null, .null, .null, .null, .null, .null, .int 0, .null, .null, .null, .null, .null, .null] := ⟨_, rfl⟩
  have es31 : f30.set 45 (.ref q251) = f31 := by rw [ef30, ef31]; rfl
  obtain ⟨w30, ew30⟩ : ∃ w : va_W, w = w29 ++ [(q251, .inl (κ.1, 400, .inl (fun _ => 0)))] := ⟨_, rfl⟩
  rw [es31, ← ew30] at hP hD
  have ln31 : f31.length = 64 := by rw [ef31]; rfl
  refine W.cs (cells' := 30) (slots' := 9176) rfl rfl ?_
  refine lv_aload_n hx hb dX12_init_256 rfl (lv_at hl 0 rfl) ?_
  refine lv_bipush (v := 33) hx hb dX12_init_257 (by decide) ?_
  refine n_stI C (by decide) ka_I hP hD hS fq_X12_110 ln31 (Nat.le_of_ble_eq_true rfl) (N := 33) (by decide) (by decide) (by decide) (Nat.le_of_ble_eq_true rfl) (Nat.le_of_ble_eq_true rfl) dX12_init_259 dX12_init_261 (fun q259 H locs hP hD hS => ?_)
  obtain ⟨f32, ef32⟩ : ∃ f : List Value, f = [.int 0, .ref q8, .int 0, .ref q17, .int 0, .ref q26, .ref q35, .ref q44, .ref q53, .ref q61, .int 0, .int 0, .int 0, .int 0, .int 0, .int 0, .int 0, .int (-1), .int 0, .int 0, .ref q73, .ref q81, .ref q88, .ref q95, .ref q103, .ref q111, .ref q119, .ref q126, .ref q133, .ref q140, .ref q147, .ref q155, .ref q163, .int 0, .ref q172, .ref q181, .ref q190, .ref q199, .ref q208, .int 0, .ref q217, .ref q226, .ref q234, .int 0, .ref q242, .ref q251, .int 0, .ref q259, .null, .int 0, .int 0, .null, .null, .null, .null, .null, .null, .int 0, .null, .null, .null, .null, .null, .null] := ⟨_, rfl⟩
  have es32 : f31.set 47 (.ref q259) = f32 := by rw [ef31, ef32]; rfl
  obtain ⟨w31, ew31⟩ : ∃ w : va_W, w = w30 ++ [(q259, .inl (κ.1, 33, .inl (fun _ => 0)))] := ⟨_, rfl⟩
  rw [es32, ← ew31] at hP hD
  have ln32 : f32.length = 64 := by rw [ef32]; rfl
  refine W.cs (cells' := 31) (slots' := 9209) rfl rfl ?_
  refine lv_aload_n hx hb dX12_init_264 rfl (lv_at hl 0 rfl) ?_
  refine lv_bipush (v := 33) hx hb dX12_init_265 (by decide) ?_
  refine n_stI C (by decide) ka_I hP hD hS fq_X12_113 ln32 (Nat.le_of_ble_eq_true rfl) (N := 33) (by decide) (by decide) (by decide) (Nat.le_of_ble_eq_true rfl) (Nat.le_of_ble_eq_true rfl) dX12_init_267 dX12_init_269 (fun q267 H locs hP hD hS => ?_)
  obtain ⟨f33, ef33⟩ : ∃ f : List Value, f = [.int 0, .ref q8, .int 0, .ref q17, .int 0, .ref q26, .ref q35, .ref q44, .ref q53, .ref q61, .int 0, .int 0, .int 0, .int 0, .int 0, .int 0, .int 0, .int (-1), .int 0, .int 0, .ref q73, .ref q81, .ref q88, .ref q95, .ref q103, .ref q111, .ref q119, .ref q126, .ref q133, .ref q140, .ref q147, .ref q155, .ref q163, .int 0, .ref q172, .ref q181, .ref q190, .ref q199, .ref q208, .int 0, .ref q217, .ref q226, .ref q234, .int 0, .ref q242, .ref q251, .int 0, .ref q259, .ref q267, .int 0, .int 0, .null, .null, .null, .null, .null, .null, .int 0, .null, .null, .null, .null, .null, .null] := ⟨_, rfl⟩
  have es33 : f32.set 48 (.ref q267) = f33 := by rw [ef32, ef33]; rfl
  obtain ⟨w32, ew32⟩ : ∃ w : va_W, w = w31 ++ [(q267, .inl (κ.1, 33, .inl (fun _ => 0)))] := ⟨_, rfl⟩
  rw [es33, ← ew32] at hP hD
  have ln33 : f33.length = 64 := by rw [ef33]; rfl
  refine W.cs (cells' := 32) (slots' := 9242) rfl rfl ?_
  refine lv_aload_n hx hb dX12_init_272 rfl (lv_at hl 0 rfl) ?_
  refine lv_sipush (v := 1320) hx hb dX12_init_273 (by decide) ?_
  refine n_stI C (by decide) ka_I hP hD hS fq_X12_116 ln33 (Nat.le_of_ble_eq_true rfl) (N := 1320) (by decide) (by decide) (by decide) (Nat.le_of_ble_eq_true rfl) (Nat.le_of_ble_eq_true rfl) dX12_init_276 dX12_init_278 (fun q276 H locs hP hD hS => ?_)
  obtain ⟨f34, ef34⟩ : ∃ f : List Value, f = [.int 0, .ref q8, .int 0, .ref q17, .int 0, .ref q26, .ref q35, .ref q44, .ref q53, .ref q61, .int 0, .int 0, .int 0, .int 0, .int 0, .int 0, .int 0, .int (-1), .int 0, .int 0, .ref q73, .ref q81, .ref q88, .ref q95, .ref q103, .ref q111, .ref q119, .ref q126, .ref q133, .ref q140, .ref q147, .ref q155, .ref q163, .int 0, .ref q172, .ref q181, .ref q190, .ref q199, .ref q208, .int 0, .ref q217, .ref q226, .ref q234, .int 0, .ref q242, .ref q251, .int 0, .ref q259, .ref q267, .int 0, .int 0, .ref q276, .null, .null, .null, .null, .null, .int 0, .null, .null, .null, .null, .null, .null] := ⟨_, rfl⟩
  have es34 : f33.set 51 (.ref q276) = f34 := by rw [ef33, ef34]; rfl
  obtain ⟨w33, ew33⟩ : ∃ w : va_W, w = w32 ++ [(q276, .inl (κ.1, 1320, .inl (fun _ => 0)))] := ⟨_, rfl⟩
  rw [es34, ← ew33] at hP hD
  have ln34 : f34.length = 64 := by rw [ef34]; rfl
  refine W.cs (cells' := 33) (slots' := 10562) rfl rfl ?_
  refine lv_aload_n hx hb dX12_init_281 rfl (lv_at hl 0 rfl) ?_
  refine lv_bipush (v := 10) hx hb dX12_init_282 (by decide) ?_
  refine n_stI C (by decide) ka_I hP hD hS fq_X12_119 ln34 (Nat.le_of_ble_eq_true rfl) (N := 10) (by decide) (by decide) (by decide) (Nat.le_of_ble_eq_true rfl) (Nat.le_of_ble_eq_true rfl) dX12_init_284 dX12_init_286 (fun q284 H locs hP hD hS => ?_)
  obtain ⟨f35, ef35⟩ : ∃ f : List Value, f = [.int 0, .ref q8, .int 0, .ref q17, .int 0, .ref q26, .ref q35, .ref q44, .ref q53, .ref q61, .int 0, .int 0, .int 0, .int 0, .int 0, .int 0, .int 0, .int (-1), .int 0, .int 0, .ref q73, .ref q81, .ref q88, .ref q95, .ref q103, .ref q111, .ref q119, .ref q126, .ref q133, .ref q140, .ref q147, .ref q155, .ref q163, .int 0, .ref q172, .ref q181, .ref q190, .ref q199, .ref q208, .int 0, .ref q217, .ref q226, .ref q234, .int 0, .ref q242, .ref q251, .int 0, .ref q259, .ref q267, .int 0, .int 0, .ref q276, .ref q284, .null, .null, .null, .null, .int 0, .null, .null, .null, .null, .null, .null] := ⟨_, rfl⟩
  have es35 : f34.set 52 (.ref q284) = f35 := by rw [ef34, ef35]; rfl
  obtain ⟨w34, ew34⟩ : ∃ w : va_W, w = w33 ++ [(q284, .inl (κ.1, 10, .inl (fun _ => 0)))] := ⟨_, rfl⟩
  rw [es35, ← ew34] at hP hD
  have ln35 : f35.length = 64 := by rw [ef35]; rfl
  refine W.cs (cells' := 34) (slots' := 10572) rfl rfl ?_
  refine lv_aload_n hx hb dX12_init_289 rfl (lv_at hl 0 rfl) ?_
  refine lv_bipush (v := 80) hx hb dX12_init_290 (by decide) ?_
  refine n_stI C (by decide) ka_I hP hD hS fq_X12_122 ln35 (Nat.le_of_ble_eq_true rfl) (N := 80) (by decide) (by decide) (by decide) (Nat.le_of_ble_eq_true rfl) (Nat.le_of_ble_eq_true rfl) dX12_init_292 dX12_init_294 (fun q292 H locs hP hD hS => ?_)
  obtain ⟨f36, ef36⟩ : ∃ f : List Value, f = [.int 0, .ref q8, .int 0, .ref q17, .int 0, .ref q26, .ref q35, .ref q44, .ref q53, .ref q61, .int 0, .int 0, .int 0, .int 0, .int 0, .int 0, .int 0, .int (-1), .int 0, .int 0, .ref q73, .ref q81, .ref q88, .ref q95, .ref q103, .ref q111, .ref q119, .ref q126, .ref q133, .ref q140, .ref q147, .ref q155, .ref q163, .int 0, .ref q172, .ref q181, .ref q190, .ref q199, .ref q208, .int 0, .ref q217, .ref q226, .ref q234, .int 0, .ref q242, .ref q251, .int 0, .ref q259, .ref q267, .int 0, .int 0, .ref q276, .ref q284, .ref q292, .null, .null, .null, .int 0, .null, .null, .null, .null, .null, .null] := ⟨_, rfl⟩
  have es36 : f35.set 53 (.ref q292) = f36 := by rw [ef35, ef36]; rfl
  obtain ⟨w35, ew35⟩ : ∃ w : va_W, w = w34 ++ [(q292, .inl (κ.1, 80, .inl (fun _ => 0)))] := ⟨_, rfl⟩
  rw [es36, ← ew35] at hP hD
  have ln36 : f36.length = 64 := by rw [ef36]; rfl
  refine W.cs (cells' := 35) (slots' := 10652) rfl rfl ?_
  refine lv_aload_n hx hb dX12_init_297 rfl (lv_at hl 0 rfl) ?_
  refine lv_bipush (v := 88) hx hb dX12_init_298 (by decide) ?_
  refine n_stI C (by decide) ka_I hP hD hS fq_X12_125 ln36 (Nat.le_of_ble_eq_true rfl) (N := 88) (by decide) (by decide) (by decide) (Nat.le_of_ble_eq_true rfl) (Nat.le_of_ble_eq_true rfl) dX12_init_300 dX12_init_302 (fun q300 H locs hP hD hS => ?_)
  obtain ⟨f37, ef37⟩ : ∃ f : List Value, f = [.int 0, .ref q8, .int 0, .ref q17, .int 0, .ref q26, .ref q35, .ref q44, .ref q53, .ref q61, .int 0, .int 0, .int 0, .int 0, .int 0, .int 0, .int 0, .int (-1), .int 0, .int 0, .ref q73, .ref q81, .ref q88, .ref q95, .ref q103, .ref q111, .ref q119, .ref q126, .ref q133, .ref q140, .ref q147, .ref q155, .ref q163, .int 0, .ref q172, .ref q181, .ref q190, .ref q199, .ref q208, .int 0, .ref q217, .ref q226, .ref q234, .int 0, .ref q242, .ref q251, .int 0, .ref q259, .ref q267, .int 0, .int 0, .ref q276, .ref q284, .ref q292, .ref q300, .null, .null, .int 0, .null, .null, .null, .null, .null, .null] := ⟨_, rfl⟩
  have es37 : f36.set 54 (.ref q300) = f37 := by rw [ef36, ef37]; rfl
  obtain ⟨w36, ew36⟩ : ∃ w : va_W, w = w35 ++ [(q300, .inl (κ.1, 88, .inl (fun _ => 0)))] := ⟨_, rfl⟩
  rw [es37, ← ew36] at hP hD
  have ln37 : f37.length = 64 := by rw [ef37]; rfl
  refine W.cs (cells' := 36) (slots' := 10740) rfl rfl ?_
  refine lv_aload_n hx hb dX12_init_305 rfl (lv_at hl 0 rfl) ?_
  refine lv_bipush (v := 88) hx hb dX12_init_306 (by decide) ?_
  refine n_stI C (by decide) ka_I hP hD hS fq_X12_128 ln37 (Nat.le_of_ble_eq_true rfl) (N := 88) (by decide) (by decide) (by decide) (Nat.le_of_ble_eq_true rfl) (Nat.le_of_ble_eq_true rfl) dX12_init_308 dX12_init_310 (fun q308 H locs hP hD hS => ?_)
  obtain ⟨f38, ef38⟩ : ∃ f : List Value, f = [.int 0, .ref q8, .int 0, .ref q17, .int 0, .ref q26, .ref q35, .ref q44, .ref q53, .ref q61, .int 0, .int 0, .int 0, .int 0, .int 0, .int 0, .int 0, .int (-1), .int 0, .int 0, .ref q73, .ref q81, .ref q88, .ref q95, .ref q103, .ref q111, .ref q119, .ref q126, .ref q133, .ref q140, .ref q147, .ref q155, .ref q163, .int 0, .ref q172, .ref q181, .ref q190, .ref q199, .ref q208, .int 0, .ref q217, .ref q226, .ref q234, .int 0, .ref q242, .ref q251, .int 0, .ref q259, .ref q267, .int 0, .int 0, .ref q276, .ref q284, .ref q292, .ref q300, .ref q308, .null, .int 0, .null, .null, .null, .null, .null, .null] := ⟨_, rfl⟩
  have es38 : f37.set 55 (.ref q308) = f38 := by rw [ef37, ef38]; rfl
  obtain ⟨w37, ew37⟩ : ∃ w : va_W, w = w36 ++ [(q308, .inl (κ.1, 88, .inl (fun _ => 0)))] := ⟨_, rfl⟩
  rw [es38, ← ew37] at hP hD
  have ln38 : f38.length = 64 := by rw [ef38]; rfl
  refine W.cs (cells' := 37) (slots' := 10828) rfl rfl ?_
  refine lv_aload_n hx hb dX12_init_313 rfl (lv_at hl 0 rfl) ?_
  refine lv_sipush (v := 1024) hx hb dX12_init_314 (by decide) ?_
  refine n_stI C (by decide) ka_I hP hD hS fq_X12_131 ln38 (Nat.le_of_ble_eq_true rfl) (N := 1024) (by decide) (by decide) (by decide) (Nat.le_of_ble_eq_true rfl) (Nat.le_of_ble_eq_true rfl) dX12_init_317 dX12_init_319 (fun q317 H locs hP hD hS => ?_)
  obtain ⟨f39, ef39⟩ : ∃ f : List Value, f = [.int 0, .ref q8, .int 0, .ref q17, .int 0, .ref q26, .ref q35, .ref q44, .ref q53, .ref q61, .int 0, .int 0, .int 0, .int 0, .int 0, .int 0, .int 0, .int (-1), .int 0, .int 0, .ref q73, .ref q81, .ref q88, .ref q95, .ref q103, .ref q111, .ref q119, .ref q126, .ref q133, .ref q140, .ref q147, .ref q155, .ref q163, .int 0, .ref q172, .ref q181, .ref q190, .ref q199, .ref q208, .int 0, .ref q217, .ref q226, .ref q234, .int 0, .ref q242, .ref q251, .int 0, .ref q259, .ref q267, .int 0, .int 0, .ref q276, .ref q284, .ref q292, .ref q300, .ref q308, .ref q317, .int 0, .null, .null, .null, .null, .null, .null] := ⟨_, rfl⟩
  have es39 : f38.set 56 (.ref q317) = f39 := by rw [ef38, ef39]; rfl
  obtain ⟨w38, ew38⟩ : ∃ w : va_W, w = w37 ++ [(q317, .inl (κ.1, 1024, .inl (fun _ => 0)))] := ⟨_, rfl⟩
  rw [es39, ← ew38] at hP hD
  have ln39 : f39.length = 64 := by rw [ef39]; rfl
  refine W.cs (cells' := 38) (slots' := 11852) rfl rfl ?_
  refine lv_aload_n hx hb dX12_init_322 rfl (lv_at hl 0 rfl) ?_
  refine lv_bipush (v := 20) hx hb dX12_init_323 (by decide) ?_
  refine n_stI C (by decide) ka_I hP hD hS fq_X12_134 ln39 (Nat.le_of_ble_eq_true rfl) (N := 20) (by decide) (by decide) (by decide) (Nat.le_of_ble_eq_true rfl) (Nat.le_of_ble_eq_true rfl) dX12_init_325 dX12_init_327 (fun q325 H locs hP hD hS => ?_)
  obtain ⟨f40, ef40⟩ : ∃ f : List Value, f = [.int 0, .ref q8, .int 0, .ref q17, .int 0, .ref q26, .ref q35, .ref q44, .ref q53, .ref q61, .int 0, .int 0, .int 0, .int 0, .int 0, .int 0, .int 0, .int (-1), .int 0, .int 0, .ref q73, .ref q81, .ref q88, .ref q95, .ref q103, .ref q111, .ref q119, .ref q126, .ref q133, .ref q140, .ref q147, .ref q155, .ref q163, .int 0, .ref q172, .ref q181, .ref q190, .ref q199, .ref q208, .int 0, .ref q217, .ref q226, .ref q234, .int 0, .ref q242, .ref q251, .int 0, .ref q259, .ref q267, .int 0, .int 0, .ref q276, .ref q284, .ref q292, .ref q300, .ref q308, .ref q317, .int 0, .ref q325, .null, .null, .null, .null, .null] := ⟨_, rfl⟩
  have es40 : f39.set 58 (.ref q325) = f40 := by rw [ef39, ef40]; rfl
  obtain ⟨w39, ew39⟩ : ∃ w : va_W, w = w38 ++ [(q325, .inl (κ.1, 20, .inl (fun _ => 0)))] := ⟨_, rfl⟩
  rw [es40, ← ew39] at hP hD
  have ln40 : f40.length = 64 := by rw [ef40]; rfl
  refine W.cs (cells' := 39) (slots' := 11872) rfl rfl ?_
  refine lv_aload_n hx hb dX12_init_330 rfl (lv_at hl 0 rfl) ?_
  refine lv_bipush (v := 20) hx hb dX12_init_331 (by decide) ?_
  refine n_stI C (by decide) ka_I hP hD hS fq_X12_137 ln40 (Nat.le_of_ble_eq_true rfl) (N := 20) (by decide) (by decide) (by decide) (Nat.le_of_ble_eq_true rfl) (Nat.le_of_ble_eq_true rfl) dX12_init_333 dX12_init_335 (fun q333 H locs hP hD hS => ?_)
  obtain ⟨f41, ef41⟩ : ∃ f : List Value, f = [.int 0, .ref q8, .int 0, .ref q17, .int 0, .ref q26, .ref q35, .ref q44, .ref q53, .ref q61, .int 0, .int 0, .int 0, .int 0, .int 0, .int 0, .int 0, .int (-1), .int 0, .int 0, .ref q73, .ref q81, .ref q88, .ref q95, .ref q103, .ref q111, .ref q119, .ref q126, .ref q133, .ref q140, .ref q147, .ref q155, .ref q163, .int 0, .ref q172, .ref q181, .ref q190, .ref q199, .ref q208, .int 0, .ref q217, .ref q226, .ref q234, .int 0, .ref q242, .ref q251, .int 0, .ref q259, .ref q267, .int 0, .int 0, .ref q276, .ref q284, .ref q292, .ref q300, .ref q308, .ref q317, .int 0, .ref q325, .ref q333, .null, .null, .null, .null] := ⟨_, rfl⟩
  have es41 : f40.set 59 (.ref q333) = f41 := by rw [ef40, ef41]; rfl
  obtain ⟨w40, ew40⟩ : ∃ w : va_W, w = w39 ++ [(q333, .inl (κ.1, 20, .inl (fun _ => 0)))] := ⟨_, rfl⟩
  rw [es41, ← ew40] at hP hD
  have ln41 : f41.length = 64 := by rw [ef41]; rfl
  refine W.cs (cells' := 40) (slots' := 11892) rfl rfl ?_
  refine lv_aload_n hx hb dX12_init_338 rfl (lv_at hl 0 rfl) ?_
  refine lv_bipush (v := 20) hx hb dX12_init_339 (by decide) ?_
  refine n_stZ C (by decide) ka_Z hP hD hS fq_X12_140 ln41 (Nat.le_of_ble_eq_true rfl) (N := 20) (by decide) (by decide) (by decide) (Nat.le_of_ble_eq_true rfl) (Nat.le_of_ble_eq_true rfl) dX12_init_341 dX12_init_343 (fun q341 H locs hP hD hS => ?_)
  obtain ⟨f42, ef42⟩ : ∃ f : List Value, f = [.int 0, .ref q8, .int 0, .ref q17, .int 0, .ref q26, .ref q35, .ref q44, .ref q53, .ref q61, .int 0, .int 0, .int 0, .int 0, .int 0, .int 0, .int 0, .int (-1), .int 0, .int 0, .ref q73, .ref q81, .ref q88, .ref q95, .ref q103, .ref q111, .ref q119, .ref q126, .ref q133, .ref q140, .ref q147, .ref q155, .ref q163, .int 0, .ref q172, .ref q181, .ref q190, .ref q199, .ref q208, .int 0, .ref q217, .ref q226, .ref q234, .int 0, .ref q242, .ref q251, .int 0, .ref q259, .ref q267, .int 0, .int 0, .ref q276, .ref q284, .ref q292, .ref q300, .ref q308, .ref q317, .int 0, .ref q325, .ref q333, .ref q341, .null, .null, .null] := ⟨_, rfl⟩
  have es42 : f41.set 60 (.ref q341) = f42 := by rw [ef41, ef42]; rfl
  obtain ⟨w41, ew41⟩ : ∃ w : va_W, w = w40 ++ [(q341, .inl (κ.2.2.1, 20, .inl (fun _ => 0)))] := ⟨_, rfl⟩
  rw [es42, ← ew41] at hP hD
  have ln42 : f42.length = 64 := by rw [ef42]; rfl
  refine W.cs (cells' := 41) (slots' := 11912) rfl rfl ?_
  refine lv_aload_n hx hb dX12_init_346 rfl (lv_at hl 0 rfl) ?_
  refine lv_bipush (v := 10) hx hb dX12_init_347 (by decide) ?_
  refine n_stI C (by decide) ka_I hP hD hS fq_X12_143 ln42 (Nat.le_of_ble_eq_true rfl) (N := 10) (by decide) (by decide) (by decide) (Nat.le_of_ble_eq_true rfl) (Nat.le_of_ble_eq_true rfl) dX12_init_349 dX12_init_351 (fun q349 H locs hP hD hS => ?_)
  obtain ⟨f43, ef43⟩ : ∃ f : List Value, f = [.int 0, .ref q8, .int 0, .ref q17, .int 0, .ref q26, .ref q35, .ref q44, .ref q53, .ref q61, .int 0, .int 0, .int 0, .int 0, .int 0, .int 0, .int 0, .int (-1), .int 0, .int 0, .ref q73, .ref q81, .ref q88, .ref q95, .ref q103, .ref q111, .ref q119, .ref q126, .ref q133, .ref q140, .ref q147, .ref q155, .ref q163, .int 0, .ref q172, .ref q181, .ref q190, .ref q199, .ref q208, .int 0, .ref q217, .ref q226, .ref q234, .int 0, .ref q242, .ref q251, .int 0, .ref q259, .ref q267, .int 0, .int 0, .ref q276, .ref q284, .ref q292, .ref q300, .ref q308, .ref q317, .int 0, .ref q325, .ref q333, .ref q341, .ref q349, .null, .null] := ⟨_, rfl⟩
  have es43 : f42.set 61 (.ref q349) = f43 := by rw [ef42, ef43]; rfl
  obtain ⟨w42, ew42⟩ : ∃ w : va_W, w = w41 ++ [(q349, .inl (κ.1, 10, .inl (fun _ => 0)))] := ⟨_, rfl⟩
  rw [es43, ← ew42] at hP hD
  have ln43 : f43.length = 64 := by rw [ef43]; rfl
  refine W.cs (cells' := 42) (slots' := 11922) rfl rfl ?_
  refine lv_aload_n hx hb dX12_init_354 rfl (lv_at hl 0 rfl) ?_
  refine lv_iconst (v := 3) hx hb dX12_init_355 (by decide) ?_
  refine n_stZ C (by decide) ka_Z hP hD hS fq_X12_146 ln43 (Nat.le_of_ble_eq_true rfl) (N := 3) (by decide) (by decide) (by decide) (Nat.le_of_ble_eq_true rfl) (Nat.le_of_ble_eq_true rfl) dX12_init_356 dX12_init_358 (fun q356 H locs hP hD hS => ?_)
  obtain ⟨f44, ef44⟩ : ∃ f : List Value, f = [.int 0, .ref q8, .int 0, .ref q17, .int 0, .ref q26, .ref q35, .ref q44, .ref q53, .ref q61, .int 0, .int 0, .int 0, .int 0, .int 0, .int 0, .int 0, .int (-1), .int 0, .int 0, .ref q73, .ref q81, .ref q88, .ref q95, .ref q103, .ref q111, .ref q119, .ref q126, .ref q133, .ref q140, .ref q147, .ref q155, .ref q163, .int 0, .ref q172, .ref q181, .ref q190, .ref q199, .ref q208, .int 0, .ref q217, .ref q226, .ref q234, .int 0, .ref q242, .ref q251, .int 0, .ref q259, .ref q267, .int 0, .int 0, .ref q276, .ref q284, .ref q292, .ref q300, .ref q308, .ref q317, .int 0, .ref q325, .ref q333, .ref q341, .ref q349, .ref q356, .null] := ⟨_, rfl⟩
  have es44 : f43.set 62 (.ref q356) = f44 := by rw [ef43, ef44]; rfl
  obtain ⟨w43, ew43⟩ : ∃ w : va_W, w = w42 ++ [(q356, .inl (κ.2.2.1, 3, .inl (fun _ => 0)))] := ⟨_, rfl⟩
  rw [es44, ← ew43] at hP hD
  have ln44 : f44.length = 64 := by rw [ef44]; rfl
  refine W.cs (cells' := 43) (slots' := 11925) rfl rfl ?_
  refine lv_aload_n hx hb dX12_init_361 rfl (lv_at hl 0 rfl) ?_
  refine lv_bipush (v := 99) hx hb dX12_init_362 (by decide) ?_
  refine n_stI C (by decide) ka_I hP hD hS fq_X12_149 ln44 (Nat.le_of_ble_eq_true rfl) (N := 99) (by decide) (by decide) (by decide) (Nat.le_of_ble_eq_true rfl) (Nat.le_of_ble_eq_true rfl) dX12_init_364 dX12_init_366 (fun q364 H locs hP hD hS => ?_)
  obtain ⟨f45, ef45⟩ : ∃ f : List Value, f = [.int 0, .ref q8, .int 0, .ref q17, .int 0, .ref q26, .ref q35, .ref q44, .ref q53, .ref q61, .int 0, .int 0, .int 0, .int 0, .int 0, .int 0, .int 0, .int (-1), .int 0, .int 0, .ref q73, .ref q81, .ref q88, .ref q95, .ref q103, .ref q111, .ref q119, .ref q126, .ref q133, .ref q140, .ref q147, .ref q155, .ref q163, .int 0, .ref q172, .ref q181, .ref q190, .ref q199, .ref q208, .int 0, .ref q217, .ref q226, .ref q234, .int 0, .ref q242, .ref q251, .int 0, .ref q259, .ref q267, .int 0, .int 0, .ref q276, .ref q284, .ref q292, .ref q300, .ref q308, .ref q317, .int 0, .ref q325, .ref q333, .ref q341, .ref q349, .ref q356, .ref q364] := ⟨_, rfl⟩
  have es45 : f44.set 63 (.ref q364) = f45 := by rw [ef44, ef45]; rfl
  obtain ⟨w44, ew44⟩ : ∃ w : va_W, w = w43 ++ [(q364, .inl (κ.1, 99, .inl (fun _ => 0)))] := ⟨_, rfl⟩
  rw [es45, ← ew44] at hP hD
  have ln45 : f45.length = 64 := by rw [ef45]; rfl
  refine W.cs (cells' := 44) (slots' := 12024) rfl rfl ?_
  rw [ew44, ew43, ew42, ew41, ew40, ew39, ew38, ew37, ew36, ew35, ew34, ew33, ew32, ew31, ew30, ew29, ew28, ew27, ew26, ew25, ew24, ew23, ew22, ew21, ew20, ew19, ew18, ew17, ew16, ew15, ew14, ew13, ew12, ew11, ew10, ew9, ew8, ew7, ew6, ew5, ew4, ew3, ew2, ew1, ew0, ef45] at hP hD
  simp only [List.nil_append, List.cons_append] at hP hD
  rw [wX12_init_eq ad κ s.heap.size] at hP hD
  have hP1 := hP
  have hD1 := hD
  have hi := wG_inj hD1
  have hsub : ∀ q, AX 45 (adL [h0, q8, q17, q26, q35, q44, q53, q61, q73, q81, q88, q95, q103, q111, q119, q126, q133, q140, q147, q155, q163, q172, q181, q190, q199, q208, q217, q226, q234, q242, q251, q259, q267, q276, q284, q292, q300, q308, q317, q325, q333, q341, q349, q356, q364] ad s.heap.size) q → A q := n_sub hD1 C.2.2.2.2.2.2.2.2.2.2 rfl
  have hsup : ∀ q, A q → AX 45 (adL [h0, q8, q17, q26, q35, q44, q53, q61, q73, q81, q88, q95, q103, q111, q119, q126, q133, q140, q147, q155, q163, q172, q181, q190, q199, q208, q217, q226, q234, q242, q251, q259, q267, q276, q284, q292, q300, q308, q317, q325, q333, q341, q349, q356, q364] ad s.heap.size) q := n_sup hAe hsz rfl rfl
  have C1 := n_Cx C (by decide) hi (adL_ge _ _ _) hsub
  refine wX12_init_tail (R := σM1) C1 ⟨(Nat.le_of_ble_eq_true rfl), (Nat.le_of_ble_eq_true rfl)⟩ (fun H locs ls hH hl => ?_) _ _ _ _ σM1_ok ⟨hP1, va_S_sub hS hsup⟩ hl
  have hD2 := (wG_D (ce := ceM) (κ := κ) (σ := σM1) hi).weaken (fun _ q _ h => hsub q.1 h)
  exact n_ret C (by decide) hH.1 hD2 (va_S_sub hH.2 hsub) ⟨_, rfl, adL_ge _ _ _, hi, rfl⟩ dX12_init_856
