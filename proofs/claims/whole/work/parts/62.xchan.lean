/-! The class: chances. -/
def bS (b : Nat → Bool) : Nat → Nat
  | 0 => 0
  | n + 1 => bS b n + (if b n then 2 ^ n else 0)
theorem bS_lt (b : Nat → Bool) : ∀ n, bS b n < 2 ^ n := by
  intro n
  induction n with
  | zero => exact Nat.one_pos
  | succ n ih =>
    simp only [bS]
    have e : 2 ^ (n + 1) = 2 ^ n + 2 ^ n := by rw [Nat.pow_succ]; omega
    split <;> omega
theorem bS_bit (b : Nat → Bool) : ∀ (n p : Nat), p < n → bS b n / 2 ^ p % 2 = if b p then 1 else 0 := by
  intro n
  induction n with
  | zero => intro p h; omega
  | succ n ih =>
    intro p h
    simp only [bS]
    by_cases hp : p = n
    · subst hp
      have hl := bS_lt b p
      have h0 : 0 < 2 ^ p := Nat.two_pow_pos p
      by_cases hb : b p = true
      · rw [if_pos hb, if_pos hb, Nat.add_div_right _ h0, Nat.div_eq_of_lt hl]
      · rw [if_neg hb, if_neg hb, Nat.add_zero, Nat.div_eq_of_lt hl]
    · have h1 := ih p (by omega)
      by_cases hb : b n = true
      · rw [if_pos hb]
        have e : 2 ^ n = 2 ^ p * (2 * 2 ^ (n - p - 1)) := by
          rw [← Nat.pow_succ', ← Nat.pow_add]
          congr 1
          omega
        rw [e, Nat.add_mul_div_left _ _ (Nat.two_pow_pos p), Nat.add_mul_mod_self_left]
        exact h1
      · rw [if_neg hb, Nat.add_zero]; exact h1
theorem bS_congr {b b' : Nat → Bool} : ∀ n, (∀ p, p < n → b p = b' p) → bS b n = bS b' n := by
  intro n
  induction n with
  | zero => intro _; rfl
  | succ n ih =>
    intro h
    simp only [bS]
    rw [ih (fun p hp => h p (by omega)), h n (by omega)]
theorem bS_low (b : Nat → Bool) (n : Nat) : ∀ k, k ≤ n → bS b n % 2 ^ k = bS b k := by
  induction n with
  | zero => intro k hk; obtain rfl : k = 0 := by omega
            rfl
  | succ n ih =>
    intro k hk
    by_cases he : k = n + 1
    · subst he; exact Nat.mod_eq_of_lt (bS_lt b _)
    · have h1 := ih k (by omega)
      simp only [bS]
      by_cases hb : b n = true
      · rw [if_pos hb]
        have e : 2 ^ n = 2 ^ k * 2 ^ (n - k) := by rw [← Nat.pow_add]; congr 1; omega
        rw [e, Nat.add_mul_mod_self_left, h1]
      · rw [if_neg hb, Nat.add_zero, h1]
theorem pbG_bS (o : Nat → Int32) (x : Int32) : ∀ (n p : Nat), p + n ≤ 10 → pbG o x n p (nI (bS (fun i => decide (o i = x)) p)) = nI (bS (fun i => decide (o i = x)) (p + n)) := by
  intro n
  induction n with
  | zero => intro p _; rfl
  | succ n ih =>
    intro p hp
    simp only [pbG]
    have e : (if o p = x then nI (bS (fun i => decide (o i = x)) p) ||| ((1 : Int32) <<< (nI p &&& 31)) else nI (bS (fun i => decide (o i = x)) p)) = nI (bS (fun i => decide (o i = x)) (p + 1)) := by
      simp only [bS]
      by_cases h : o p = x
      · rw [if_pos h, if_pos (decide_eq_true h), or_bit p (by omega) _ (bS_lt _ p)]
      · rw [if_neg h, if_neg (by simpa using h), Nat.add_zero]
    rw [e, ih (p + 1) (by omega)]
    congr 2
    omega
def partsN (g : Nat → Int32) (x : Int32) : Nat := bS (fun p => decide (g (10 + p) = x)) 8
theorem partsF_N (g : Nat → Int32) (x : Int32) : partsF g x = nI (partsN g x) := pbG_bS (fun p => g (10 + p)) x 8 0 (by omega)
theorem partsN_lt (g : Nat → Int32) (x : Int32) : partsN g x < 256 := bS_lt _ 8
theorem X_fill_5 {a N : Nat} (x : Int32) (hN : N < 5000) : ∀ (n k f : Nat) (σ : HS), (∀ j, j < k → σ.1 a j = x) → k + n = N → n < f → ∃ σ', FJ7_fill_53178_5 a N f x (nI k) (nI N) σ = some σ' ∧ kX [a] σ σ' ∧ ∀ j, j < N → σ'.1 a j = x := by
  intro n
  induction n with
  | zero =>
    intro k f σ h hk hf
    obtain ⟨f, rfl⟩ : ∃ z, f = z + 1 := ⟨f - 1, by omega⟩
    rw [FJ7_fill_53178_5]
    simp (disch := omega) only [gdx, cl_nI, ↓reduceIte, if_true, if_false, ple_t, ple_f, plt_t, plt_f, peq_t, peq_f, nI_add, pk_mul, pk_sub, m1c, m2c, nlt_p, nle_p, nge_p, ngt_p, neq_p, neq_q, pI_o, pI_s, pk_us, pk_un, bdI_s, bdL_s, bdV_s, hl_, li_0, li_1, li_2, li_3, li_4, li_5, li_6, li_7, li_8, li_9, li_10, li_11, li_12, li_13, li_15, li_16, li_18, li_19, li_20, li_21, li_22, li_23, li_24, li_25, li_26, li_28, li_29, li_30, li_31, li_32, li_33, li_39, li_40, li_41, li_42, li_43, li_44, li_45, li_47, li_48, li_57, li_59, li_60, li_61, li_80, li_88, li_97, li_99, li_122, li_130, li_167, li_255, li_256, li_400, li_408, li_420, li_1287, li_2000, li_9999]
    exact ⟨σ, rfl, kX.rf, fun j hj => h j (by omega)⟩
  | succ n ih =>
    intro k f σ h hk hf
    obtain ⟨f, rfl⟩ : ∃ z, f = z + 1 := ⟨f - 1, by omega⟩
    rw [FJ7_fill_53178_5]
    simp (disch := omega) only [gdx, cl_nI, ↓reduceIte, if_true, if_false, ple_t, ple_f, plt_t, plt_f, peq_t, peq_f, nI_add, pk_mul, pk_sub, m1c, m2c, nlt_p, nle_p, nge_p, ngt_p, neq_p, neq_q, pI_o, pI_s, pk_us, pk_un, bdI_s, bdL_s, bdV_s, hl_, li_0, li_1, li_2, li_3, li_4, li_5, li_6, li_7, li_8, li_9, li_10, li_11, li_12, li_13, li_15, li_16, li_18, li_19, li_20, li_21, li_22, li_23, li_24, li_25, li_26, li_28, li_29, li_30, li_31, li_32, li_33, li_39, li_40, li_41, li_42, li_43, li_44, li_45, li_47, li_48, li_57, li_59, li_60, li_61, li_80, li_88, li_97, li_99, li_122, li_130, li_167, li_255, li_256, li_400, li_408, li_420, li_1287, li_2000, li_9999]
    obtain ⟨σ', h1, k1, r1⟩ := ih (k + 1) f (pI σ a k x) (by rw [pI_s]; exact upd_lt (P := fun _ => x) h rfl) (by omega) (by omega)
    exact ⟨σ', h1, (kX.p (by simp)).tr k1, r1⟩
theorem X_fill {a N : Nat} (x : Int32) (hN : N < 5000) (σ : HS) : ∃ σ', FJ7_fill_53178 a N x σ = some σ' ∧ kX [a] σ σ' ∧ ∀ j, j < N → σ'.1 a j = x :=
  X_fill_5 x hN N 0 fu σ (fun j hj => by omega) (by omega) (by show N < 5000; omega)
theorem X_wf46 {q : Nat → Nat} (hq : ∀ m, q m ≤ 4) {nm mp : Nat} {k20 : Int32 → HS → Option HS} (hnm : nm ≤ 10) (hm : mp + 1 < nm) : ∀ (n P f : Nat) (σ : HS), fAt q nm (mp + 1) P (σ.1 42) → (∀ i, i < nm → σ.1 41 i = nI (q i)) → P + n = 8 → n < f → ∃ σ', FX0_weighFalls_46 k20 f (nI mp) (nI (8 * mp)) (nI (8 * (mp + 1))) (nI P) σ = k20 (nI (mp + 1)) σ' ∧ kX [42] σ σ' ∧ fAt q nm (mp + 1) 8 (σ'.1 42) := by
  intro n
  induction n with
  | zero =>
    intro P f σ hA hch hP hf
    obtain ⟨f, rfl⟩ : ∃ z, f = z + 1 := ⟨f - 1, by omega⟩
    obtain rfl : P = 8 := by omega
    rw [FX0_weighFalls_46]
    simp (disch := omega) only [gdx, cl_nI, ↓reduceIte, if_true, if_false, ple_t, ple_f, plt_t, plt_f, peq_t, peq_f, nI_add, pk_mul, pk_sub, m1c, m2c, nlt_p, nle_p, nge_p, ngt_p, neq_p, neq_q, pI_o, pI_s, pk_us, pk_un, bdI_s, bdL_s, bdV_s, hl_, li_0, li_1, li_2, li_3, li_4, li_5, li_6, li_7, li_8, li_9, li_10, li_11, li_12, li_13, li_15, li_16, li_18, li_19, li_20, li_21, li_22, li_23, li_24, li_25, li_26, li_28, li_29, li_30, li_31, li_32, li_33, li_39, li_40, li_41, li_42, li_43, li_44, li_45, li_47, li_48, li_57, li_59, li_60, li_61, li_80, li_88, li_97, li_99, li_122, li_130, li_167, li_255, li_256, li_400, li_408, li_420, li_1287, li_2000, li_9999]
    exact ⟨σ, rfl, kX.rf, hA⟩
  | succ n ih =>
    intro P f σ hA hch hP hf
    obtain ⟨f, rfl⟩ : ∃ z, f = z + 1 := ⟨f - 1, by omega⟩
    have hval := hA mp P (by omega) (by omega)
    rw [if_pos (show mp < mp + 1 by omega)] at hval
    have hle := fwN_le hq nm mp P (by omega)
    have h4 := p4_lt hnm
    have hqm := hq mp
    have hc := hch mp (by omega)
    have fin : ∀ a, a = (if P < 7 then P + 1 else 7) → ∃ σ', FX0_weighFalls_46 k20 f (nI mp) (nI (8 * mp)) (nI (8 * (mp + 1))) (nI (P + 1)) (pI (pI σ 42 (8 * (mp + 1) + P) (σ.1 42 (8 * (mp + 1) + P) + nI (stN q nm (mp + 1) P))) 42 (8 * (mp + 1) + a) ((pI σ 42 (8 * (mp + 1) + P) (σ.1 42 (8 * (mp + 1) + P) + nI (stN q nm (mp + 1) P))).1 42 (8 * (mp + 1) + a) + nI (mvN q nm (mp + 1) P))) = k20 (nI (mp + 1)) σ' ∧ kX [42] σ σ' ∧ fAt q nm (mp + 1) 8 (σ'.1 42) := by
      intro a ha
      have hA2 := fAt_step hA (by omega) (by omega) ha
      obtain ⟨σ1, es1⟩ : ∃ y, y = pI (pI σ 42 (8 * (mp + 1) + P) (σ.1 42 (8 * (mp + 1) + P) + nI (stN q nm (mp + 1) P))) 42 (8 * (mp + 1) + a) ((pI σ 42 (8 * (mp + 1) + P) (σ.1 42 (8 * (mp + 1) + P) + nI (stN q nm (mp + 1) P))).1 42 (8 * (mp + 1) + a) + nI (mvN q nm (mp + 1) P)) := ⟨_, rfl⟩
      rw [← es1]
      have k1 : kX [42] σ σ1 := by rw [es1]; exact (kX.rf.pp (by decide)).pp (by decide)
      have r1 : fAt q nm (mp + 1) (P + 1) (σ1.1 42) := by rw [es1, pI_1, if_pos rfl, pI_1, if_pos rfl]; exact hA2
      obtain ⟨σ', h1, k3, h2⟩ := ih (P + 1) f σ1 r1 (fun i hi => by rw [k1.1 41 (by decide)]; exact hch i hi) (by omega) (by omega)
      exact ⟨σ', h1, k1.tr k3, h2⟩
    have f1 : fwN q nm mp P / 4 * (4 - q mp) = stN q nm (mp + 1) P := rfl
    have f2 : fwN q nm mp P / 4 * q mp = mvN q nm (mp + 1) P := rfl
    rw [FX0_weighFalls_46]
    by_cases hp7 : 7 ≤ P
    · have hf := fin 7 (by rw [if_neg (by omega)])
      simp (disch := omega) only [gdx, cl_nI, ↓reduceIte, if_true, if_false, ple_t, ple_f, plt_t, plt_f, peq_t, peq_f, nI_add, pk_mul, pk_sub, m1c, m2c, nlt_p, nle_p, nge_p, ngt_p, neq_p, neq_q, pI_o, bdI_s, bdL_s, bdV_s, hl_, li_0, li_1, li_2, li_3, li_4, li_5, li_6, li_7, li_8, li_9, li_10, li_11, li_12, li_13, li_15, li_16, li_18, li_19, li_20, li_21, li_22, li_23, li_24, li_25, li_26, li_28, li_29, li_30, li_31, li_32, li_33, li_39, li_40, li_41, li_42, li_43, li_44, li_45, li_47, li_48, li_57, li_59, li_60, li_61, li_80, li_88, li_97, li_99, li_122, li_130, li_167, li_255, li_256, li_400, li_408, li_420, li_1287, li_2000, li_9999, hval, hc, pk_div, FX0_partBehind, f1, f2]
      exact hf
    · have hf := fin (P + 1) (by rw [if_pos (by omega)])
      simp (disch := omega) only [gdx, cl_nI, ↓reduceIte, if_true, if_false, ple_t, ple_f, plt_t, plt_f, peq_t, peq_f, nI_add, pk_mul, pk_sub, m1c, m2c, nlt_p, nle_p, nge_p, ngt_p, neq_p, neq_q, pI_o, bdI_s, bdL_s, bdV_s, hl_, li_0, li_1, li_2, li_3, li_4, li_5, li_6, li_7, li_8, li_9, li_10, li_11, li_12, li_13, li_15, li_16, li_18, li_19, li_20, li_21, li_22, li_23, li_24, li_25, li_26, li_28, li_29, li_30, li_31, li_32, li_33, li_39, li_40, li_41, li_42, li_43, li_44, li_45, li_47, li_48, li_57, li_59, li_60, li_61, li_80, li_88, li_97, li_99, li_122, li_130, li_167, li_255, li_256, li_400, li_408, li_420, li_1287, li_2000, li_9999, hval, hc, pk_div, FX0_partBehind, f1, f2]
      exact hf
theorem X_wf20 {q : Nat → Nat} (hq : ∀ m, q m ≤ 4) {nm : Nat} (hnm : nm ≤ 10) : ∀ (n m f : Nat) (σ : HS), σ.1 3 0 = nI nm → fOk q nm (m + 1) (σ.1 42) → (∀ i, i < nm → σ.1 41 i = nI (q i)) → (m + 1 + n = nm ∨ (n = 0 ∧ nm ≤ m + 1)) → m ≤ 10 → n < f → ∃ σ', FX0_weighFalls_20 f (nI m) σ = some σ' ∧ kX [42] σ σ' ∧ (1 ≤ nm → m + 1 ≤ nm → fOk q nm nm (σ'.1 42)) := by
  intro n
  induction n with
  | zero =>
    intro m f σ h3 hA hch hm hm10 hf
    obtain ⟨f, rfl⟩ : ∃ z, f = z + 1 := ⟨f - 1, by omega⟩
    rw [FX0_weighFalls_20]
    simp (disch := omega) only [gdx, cl_nI, ↓reduceIte, if_true, if_false, ple_t, ple_f, plt_t, plt_f, peq_t, peq_f, nI_add, pk_mul, pk_sub, m1c, m2c, nlt_p, nle_p, nge_p, ngt_p, neq_p, neq_q, pI_o, pI_s, pk_us, pk_un, bdI_s, bdL_s, bdV_s, hl_, li_0, li_1, li_2, li_3, li_4, li_5, li_6, li_7, li_8, li_9, li_10, li_11, li_12, li_13, li_15, li_16, li_18, li_19, li_20, li_21, li_22, li_23, li_24, li_25, li_26, li_28, li_29, li_30, li_31, li_32, li_33, li_39, li_40, li_41, li_42, li_43, li_44, li_45, li_47, li_48, li_57, li_59, li_60, li_61, li_80, li_88, li_97, li_99, li_122, li_130, li_167, li_255, li_256, li_400, li_408, li_420, li_1287, li_2000, li_9999, h3]
    refine ⟨σ, rfl, kX.rf, fun _ h1 => ?_⟩
    obtain rfl : m + 1 = nm := by omega
    exact hA
  | succ n ih =>
    intro m f σ h3 hA hch hm hm10 hf
    obtain ⟨f, rfl⟩ : ∃ z, f = z + 1 := ⟨f - 1, by omega⟩
    have hA0 : fAt q nm (m + 1) 0 (σ.1 42) := by
      intro m' j h1 h2
      rw [hA m' j h1 h2]
      by_cases hlt : m' < m + 1
      · rw [if_pos hlt, if_pos hlt]
      · rw [if_neg hlt, if_neg hlt, ptN_0]
        split <;> rfl
    rw [FX0_weighFalls_20]
    simp (disch := omega) only [gdx, cl_nI, ↓reduceIte, if_true, if_false, ple_t, ple_f, plt_t, plt_f, peq_t, peq_f, nI_add, pk_mul, pk_sub, m1c, m2c, nlt_p, nle_p, nge_p, ngt_p, neq_p, neq_q, pI_o, pI_s, pk_us, pk_un, bdI_s, bdL_s, bdV_s, hl_, li_0, li_1, li_2, li_3, li_4, li_5, li_6, li_7, li_8, li_9, li_10, li_11, li_12, li_13, li_15, li_16, li_18, li_19, li_20, li_21, li_22, li_23, li_24, li_25, li_26, li_28, li_29, li_30, li_31, li_32, li_33, li_39, li_40, li_41, li_42, li_43, li_44, li_45, li_47, li_48, li_57, li_59, li_60, li_61, li_80, li_88, li_97, li_99, li_122, li_130, li_167, li_255, li_256, li_400, li_408, li_420, li_1287, li_2000, li_9999, h3]
    rw [show m * 8 + 8 = 8 * (m + 1) by omega, show m * 8 = 8 * m by omega]
    obtain ⟨σ1, h1, k1, a1⟩ := X_wf46 (k20 := FX0_weighFalls_20 f) hq hnm (show m + 1 < nm by omega) 8 0 fu σ hA0 hch (by omega) (by show 8 < 5000; omega)
    rw [h1]
    have hA1 : fOk q nm (m + 1 + 1) (σ1.1 42) := by
      intro m' j h1 h2
      rw [a1 m' j h1 h2]
      by_cases hlt : m' < m + 1
      · rw [if_pos hlt, if_pos (by omega)]
      · rw [if_neg hlt]
        by_cases he : m' = m + 1
        · rw [if_pos he, if_pos (by omega), ptN_8 q nm (m + 1) j (by omega) h2, he]
        · rw [if_neg he, if_neg (by omega)]
    obtain ⟨σ2, h2, k2, r2⟩ := ih (m + 1) f σ1 (by rw [k1.1 3 (by decide)]; exact h3) hA1 (fun i hi => by rw [k1.1 41 (by decide)]; exact hch i hi) (by omega) (by omega) (by omega)
    exact ⟨σ2, h2, k1.tr k2, fun a b => r2 a (by omega)⟩
theorem X_weighFalls {q : Nat → Nat} (hq : ∀ m, q m ≤ 4) {nm : Nat} (hnm : nm ≤ 10) (σ : HS) (h3 : σ.1 3 0 = nI nm) (h6 : σ.1 8 6 = nI (4 ^ nm)) (hch : ∀ i, i < nm → σ.1 41 i = nI (q i)) : ∃ σ', FX0_weighFalls σ = some σ' ∧ kX [42] σ σ' ∧ (1 ≤ nm → fOk q nm nm (σ'.1 42)) := by
  obtain ⟨σ1, h1, k1, r1⟩ := X_fill (a := 42) (N := 80) 0 (by omega) σ
  unfold FX0_weighFalls
  rw [h1, bdV_s]
  simp only [hl_]
  rw [k1.1 8 (by decide), h6]
  have k2 : kX [42] σ (pI σ1 42 0 (nI (4 ^ nm))) := k1.pp (by decide)
  have hA : fOk q nm 1 ((pI σ1 42 0 (nI (4 ^ nm))).1 42) := by
    intro m' j h1 h2
    rw [pI_1, if_pos rfl, upd_a]
    by_cases h0 : 8 * m' + j = 0
    · rw [if_pos h0, if_pos (by omega), show m' = 0 by omega, show j = 0 by omega]
      rfl
    · rw [if_neg h0, r1 _ (by omega)]
      by_cases hm : m' < 1
      · rw [if_pos hm, show m' = 0 by omega]
        simp only [fwN]
        rw [if_neg (by omega)]
        rfl
      · rw [if_neg hm]; rfl
  obtain ⟨σ2, h2, k3, r2⟩ := X_wf20 hq hnm (nm - 1) 0 fu (pI σ1 42 0 (nI (4 ^ nm))) (by rw [k2.1 3 (by decide)]; exact h3) hA (fun i hi => by rw [k2.1 41 (by decide)]; exact hch i hi) (by omega) (by omega) (by show nm - 1 < 5000; omega)
  exact ⟨σ2, h2, k2.tr k3, fun h => r2 h (by omega)⟩
def alN (q : Nat → Nat) (n : Nat) : Nat := bS (fun m => decide (q m = 4)) n
def mbN (q : Nat → Nat) (n : Nat) : Nat := bS (fun m => decide (0 < q m ∧ q m < 4)) n
/-- what stands behind weigh -/
def WX (σ : HS) (q : Nat → Nat) (nm : Nat) : Prop := σ.1 8 6 = nI (4 ^ nm) ∧ σ.1 8 7 = nI (alN q nm) ∧ σ.1 8 8 = nI (mbN q nm) ∧ (∀ i, i < nm → σ.1 41 i = nI (q i)) ∧ (1 ≤ nm → fOk q nm nm (σ.1 42))
theorem WX_k {S : List Nat} {σ σ' : HS} {q : Nat → Nat} {nm : Nat} (k : kX S σ σ') (h8 : 8 ∉ S) (h41 : 41 ∉ S) (h42 : 42 ∉ S) (h : WX σ q nm) : WX σ' q nm := by
  unfold WX at h ⊢
  rw [k.1 8 h8, k.1 41 h41, k.1 42 h42]
  exact h
theorem tX_w : tX [8, 39, 40, 41, 42] := by unfold tX; decide
theorem st_nw {st : Nat} (hst : isSt st) : st + 10 ∉ [8, 39, 40, 41, 42] := by rcases hst with rfl | rfl <;> decide
theorem or_bit' {p : Nat} (hp : p < 10) {j : Nat} (hj : j < 2 ^ p) : nI j ||| (nI 1 <<< (nI p &&& nI 31)) = nI (j + 2 ^ p) := or_bit p hp j hj
theorem X_weigh_27 {nm nf st : Nat} {z l : Nat → Int32} {Ls : Nat → Lawt} (hst : isSt st) (c : Nat → Int32) : ∀ (n m f : Nat) (σ : HS), TX σ nm nf z l Ls → σ.1 (st + 10) = c → σ.1 8 6 = nI (4 ^ nm) → σ.1 8 7 = nI (alN (qF (Ls 0) (rowC nm c)) m) → σ.1 8 8 = nI (mbN (qF (Ls 0) (rowC nm c)) m) → (∀ i, i < m → σ.1 41 i = nI (qF (Ls 0) (rowC nm c) i)) → m + n = nm → n < f → ∃ σ', FX0_weigh_27 st f (nI m) σ = some σ' ∧ kX [8, 39, 40, 41, 42] σ σ' ∧ WX σ' (qF (Ls 0) (rowC nm c)) nm := by
  intro n
  induction n with
  | zero =>
    intro m f σ hT hc h6 h7 h8 hch hm hf
    obtain ⟨f, rfl⟩ : ∃ z, f = z + 1 := ⟨f - 1, by omega⟩
    obtain rfl : m = nm := by omega
    have hnm := hT.1
    have h3 := hT.2.2.1
    rw [FX0_weigh_27]
    simp (disch := omega) only [gdx, cl_nI, ↓reduceIte, if_true, if_false, ple_t, ple_f, plt_t, plt_f, peq_t, peq_f, nI_add, pk_mul, pk_sub, m1c, m2c, nlt_p, nle_p, nge_p, ngt_p, neq_p, neq_q, pI_o, pI_s, pk_us, pk_un, bdI_s, bdL_s, bdV_s, hl_, li_0, li_1, li_2, li_3, li_4, li_5, li_6, li_7, li_8, li_9, li_10, li_11, li_12, li_13, li_15, li_16, li_18, li_19, li_20, li_21, li_22, li_23, li_24, li_25, li_26, li_28, li_29, li_30, li_31, li_32, li_33, li_39, li_40, li_41, li_42, li_43, li_44, li_45, li_47, li_48, li_57, li_59, li_60, li_61, li_80, li_88, li_97, li_99, li_122, li_130, li_167, li_255, li_256, li_400, li_408, li_420, li_1287, li_2000, li_9999, h3]
    obtain ⟨σ1, h1, k1, r1⟩ := X_weighFalls (fun i => (qF_ok (Ls 0) (rowC m c) i).1) hnm σ h3 h6 hch
    rw [h1, bdV_s]
    refine ⟨σ1, rfl, k1.up (by simp), ?_⟩
    refine ⟨by rw [k1.1 8 (by decide)]; exact h6, by rw [k1.1 8 (by decide)]; exact h7, by rw [k1.1 8 (by decide)]; exact h8, fun i hi => by rw [k1.1 41 (by decide)]; exact hch i hi, r1⟩
  | succ n ih =>
    intro m f σ hT hc h6 h7 h8 hch hm hf
    obtain ⟨f, rfl⟩ : ∃ z, f = z + 1 := ⟨f - 1, by omega⟩
    have hnm := hT.1
    have h3 := hT.2.2.1
    obtain ⟨σ1, h1, k1⟩ := X_quartersOf hT hst (show m < nm by omega)
    rw [hc] at h1
    obtain ⟨q4, qe⟩ := qF_ok (Ls 0) (rowC nm c) m
    rw [qe] at h1
    rw [FX0_weigh_27]
    have e8 : σ1.1 8 = σ.1 8 := k1.1 8 (by decide)
    have e41 : σ1.1 41 = σ.1 41 := k1.1 41 (by decide)
    have a1 : alN (qF (Ls 0) (rowC nm c)) m < 2 ^ m := bS_lt _ m
    have b1 : mbN (qF (Ls 0) (rowC nm c)) m < 2 ^ m := bS_lt _ m
    have go : ∀ σ2 : HS, kX [8, 39, 40, 41, 42] σ1 σ2 → σ2.1 8 6 = nI (4 ^ nm) → σ2.1 8 7 = nI (alN (qF (Ls 0) (rowC nm c)) (m + 1)) → σ2.1 8 8 = nI (mbN (qF (Ls 0) (rowC nm c)) (m + 1)) → σ2.1 41 = upd (σ.1 41) m (nI (qF (Ls 0) (rowC nm c) m)) → ∃ σ', FX0_weigh_27 st f (nI (m + 1)) σ2 = some σ' ∧ kX [8, 39, 40, 41, 42] σ σ' ∧ WX σ' (qF (Ls 0) (rowC nm c)) nm := by
      intro σ2 k2 e6 e7 e8 e41
      have k12 : kX [8, 39, 40, 41, 42] σ σ2 := (k1.up (by simp)).tr k2
      obtain ⟨σ3, h3, k3, r3⟩ := ih (m + 1) f σ2 (TX_k hT k12 tX_w) (by rw [k12.1 _ (st_nw hst)]; exact hc) e6 e7 e8 (by rw [e41]; exact upd_lt (P := fun i => nI (qF (Ls 0) (rowC nm c) i)) hch rfl) (by omega) (by omega)
      exact ⟨σ3, h3, k12.tr k3, r3⟩
    by_cases q_4 : qF (Ls 0) (rowC nm c) m = 4
    · have al : alN (qF (Ls 0) (rowC nm c)) (m + 1) = alN (qF (Ls 0) (rowC nm c)) m + 2 ^ m := by unfold alN; simp only [bS, q_4, decide_true, if_true]
      have mb : mbN (qF (Ls 0) (rowC nm c)) (m + 1) = mbN (qF (Ls 0) (rowC nm c)) m := by unfold mbN; simp only [bS, q_4]; simp
      rw [q_4] at h1
      simp (disch := omega) only [gdx, cl_nI, ↓reduceIte, if_true, if_false, ple_t, ple_f, plt_t, plt_f, peq_t, peq_f, nI_add, pk_mul, pk_sub, m1c, m2c, nlt_p, nle_p, nge_p, ngt_p, neq_p, neq_q, pI_o, pI_s, pk_us, pk_un, bdI_s, bdL_s, bdV_s, hl_, li_0, li_1, li_2, li_3, li_4, li_5, li_6, li_7, li_8, li_9, li_10, li_11, li_12, li_13, li_15, li_16, li_18, li_19, li_20, li_21, li_22, li_23, li_24, li_25, li_26, li_28, li_29, li_30, li_31, li_32, li_33, li_39, li_40, li_41, li_42, li_43, li_44, li_45, li_47, li_48, li_57, li_59, li_60, li_61, li_80, li_88, li_97, li_99, li_122, li_130, li_167, li_255, li_256, li_400, li_408, li_420, li_1287, li_2000, li_9999, h3, h1, e8, h7, or_bit']
      refine go _ ((kX.rf.pp (by decide)).pp (by decide)) ?_ ?_ ?_ ?_
      · simp (disch := omega) only [gdx, cl_nI, ↓reduceIte, if_true, if_false, ple_t, ple_f, plt_t, plt_f, peq_t, peq_f, nI_add, pk_mul, pk_sub, m1c, m2c, nlt_p, nle_p, nge_p, ngt_p, neq_p, neq_q, pI_o, pI_s, pk_us, pk_un, bdI_s, bdL_s, bdV_s, hl_, li_0, li_1, li_2, li_3, li_4, li_5, li_6, li_7, li_8, li_9, li_10, li_11, li_12, li_13, li_15, li_16, li_18, li_19, li_20, li_21, li_22, li_23, li_24, li_25, li_26, li_28, li_29, li_30, li_31, li_32, li_33, li_39, li_40, li_41, li_42, li_43, li_44, li_45, li_47, li_48, li_57, li_59, li_60, li_61, li_80, li_88, li_97, li_99, li_122, li_130, li_167, li_255, li_256, li_400, li_408, li_420, li_1287, li_2000, li_9999, e8, h6]
      · simp (disch := omega) only [gdx, cl_nI, ↓reduceIte, if_true, if_false, ple_t, ple_f, plt_t, plt_f, peq_t, peq_f, nI_add, pk_mul, pk_sub, m1c, m2c, nlt_p, nle_p, nge_p, ngt_p, neq_p, neq_q, pI_o, pI_s, pk_us, pk_un, bdI_s, bdL_s, bdV_s, hl_, li_0, li_1, li_2, li_3, li_4, li_5, li_6, li_7, li_8, li_9, li_10, li_11, li_12, li_13, li_15, li_16, li_18, li_19, li_20, li_21, li_22, li_23, li_24, li_25, li_26, li_28, li_29, li_30, li_31, li_32, li_33, li_39, li_40, li_41, li_42, li_43, li_44, li_45, li_47, li_48, li_57, li_59, li_60, li_61, li_80, li_88, li_97, li_99, li_122, li_130, li_167, li_255, li_256, li_400, li_408, li_420, li_1287, li_2000, li_9999, e8, al]
      · simp (disch := omega) only [gdx, cl_nI, ↓reduceIte, if_true, if_false, ple_t, ple_f, plt_t, plt_f, peq_t, peq_f, nI_add, pk_mul, pk_sub, m1c, m2c, nlt_p, nle_p, nge_p, ngt_p, neq_p, neq_q, pI_o, pI_s, pk_us, pk_un, bdI_s, bdL_s, bdV_s, hl_, li_0, li_1, li_2, li_3, li_4, li_5, li_6, li_7, li_8, li_9, li_10, li_11, li_12, li_13, li_15, li_16, li_18, li_19, li_20, li_21, li_22, li_23, li_24, li_25, li_26, li_28, li_29, li_30, li_31, li_32, li_33, li_39, li_40, li_41, li_42, li_43, li_44, li_45, li_47, li_48, li_57, li_59, li_60, li_61, li_80, li_88, li_97, li_99, li_122, li_130, li_167, li_255, li_256, li_400, li_408, li_420, li_1287, li_2000, li_9999, e8, h8, mb]
      · simp (disch := omega) only [gdx, cl_nI, ↓reduceIte, if_true, if_false, ple_t, ple_f, plt_t, plt_f, peq_t, peq_f, nI_add, pk_mul, pk_sub, m1c, m2c, nlt_p, nle_p, nge_p, ngt_p, neq_p, neq_q, pI_o, pI_s, pk_us, pk_un, bdI_s, bdL_s, bdV_s, hl_, li_0, li_1, li_2, li_3, li_4, li_5, li_6, li_7, li_8, li_9, li_10, li_11, li_12, li_13, li_15, li_16, li_18, li_19, li_20, li_21, li_22, li_23, li_24, li_25, li_26, li_28, li_29, li_30, li_31, li_32, li_33, li_39, li_40, li_41, li_42, li_43, li_44, li_45, li_47, li_48, li_57, li_59, li_60, li_61, li_80, li_88, li_97, li_99, li_122, li_130, li_167, li_255, li_256, li_400, li_408, li_420, li_1287, li_2000, li_9999, e41, q_4]
    · by_cases q_0 : qF (Ls 0) (rowC nm c) m = 0
      · have al : alN (qF (Ls 0) (rowC nm c)) (m + 1) = alN (qF (Ls 0) (rowC nm c)) m := by unfold alN; simp only [bS, q_0]; simp
        have mb : mbN (qF (Ls 0) (rowC nm c)) (m + 1) = mbN (qF (Ls 0) (rowC nm c)) m := by unfold mbN; simp only [bS, q_0]; simp
        rw [q_0] at h1
        simp (disch := omega) only [gdx, cl_nI, ↓reduceIte, if_true, if_false, ple_t, ple_f, plt_t, plt_f, peq_t, peq_f, nI_add, pk_mul, pk_sub, m1c, m2c, nlt_p, nle_p, nge_p, ngt_p, neq_p, neq_q, pI_o, pI_s, pk_us, pk_un, bdI_s, bdL_s, bdV_s, hl_, li_0, li_1, li_2, li_3, li_4, li_5, li_6, li_7, li_8, li_9, li_10, li_11, li_12, li_13, li_15, li_16, li_18, li_19, li_20, li_21, li_22, li_23, li_24, li_25, li_26, li_28, li_29, li_30, li_31, li_32, li_33, li_39, li_40, li_41, li_42, li_43, li_44, li_45, li_47, li_48, li_57, li_59, li_60, li_61, li_80, li_88, li_97, li_99, li_122, li_130, li_167, li_255, li_256, li_400, li_408, li_420, li_1287, li_2000, li_9999, h3, h1, e8, h7, or_bit']
        refine go _ (kX.rf.pp (by decide)) ?_ ?_ ?_ ?_
        · simp (disch := omega) only [gdx, cl_nI, ↓reduceIte, if_true, if_false, ple_t, ple_f, plt_t, plt_f, peq_t, peq_f, nI_add, pk_mul, pk_sub, m1c, m2c, nlt_p, nle_p, nge_p, ngt_p, neq_p, neq_q, pI_o, pI_s, pk_us, pk_un, bdI_s, bdL_s, bdV_s, hl_, li_0, li_1, li_2, li_3, li_4, li_5, li_6, li_7, li_8, li_9, li_10, li_11, li_12, li_13, li_15, li_16, li_18, li_19, li_20, li_21, li_22, li_23, li_24, li_25, li_26, li_28, li_29, li_30, li_31, li_32, li_33, li_39, li_40, li_41, li_42, li_43, li_44, li_45, li_47, li_48, li_57, li_59, li_60, li_61, li_80, li_88, li_97, li_99, li_122, li_130, li_167, li_255, li_256, li_400, li_408, li_420, li_1287, li_2000, li_9999, e8, h6]
        · simp (disch := omega) only [gdx, cl_nI, ↓reduceIte, if_true, if_false, ple_t, ple_f, plt_t, plt_f, peq_t, peq_f, nI_add, pk_mul, pk_sub, m1c, m2c, nlt_p, nle_p, nge_p, ngt_p, neq_p, neq_q, pI_o, pI_s, pk_us, pk_un, bdI_s, bdL_s, bdV_s, hl_, li_0, li_1, li_2, li_3, li_4, li_5, li_6, li_7, li_8, li_9, li_10, li_11, li_12, li_13, li_15, li_16, li_18, li_19, li_20, li_21, li_22, li_23, li_24, li_25, li_26, li_28, li_29, li_30, li_31, li_32, li_33, li_39, li_40, li_41, li_42, li_43, li_44, li_45, li_47, li_48, li_57, li_59, li_60, li_61, li_80, li_88, li_97, li_99, li_122, li_130, li_167, li_255, li_256, li_400, li_408, li_420, li_1287, li_2000, li_9999, e8, h7, al]
        · simp (disch := omega) only [gdx, cl_nI, ↓reduceIte, if_true, if_false, ple_t, ple_f, plt_t, plt_f, peq_t, peq_f, nI_add, pk_mul, pk_sub, m1c, m2c, nlt_p, nle_p, nge_p, ngt_p, neq_p, neq_q, pI_o, pI_s, pk_us, pk_un, bdI_s, bdL_s, bdV_s, hl_, li_0, li_1, li_2, li_3, li_4, li_5, li_6, li_7, li_8, li_9, li_10, li_11, li_12, li_13, li_15, li_16, li_18, li_19, li_20, li_21, li_22, li_23, li_24, li_25, li_26, li_28, li_29, li_30, li_31, li_32, li_33, li_39, li_40, li_41, li_42, li_43, li_44, li_45, li_47, li_48, li_57, li_59, li_60, li_61, li_80, li_88, li_97, li_99, li_122, li_130, li_167, li_255, li_256, li_400, li_408, li_420, li_1287, li_2000, li_9999, e8, h8, mb]
        · simp (disch := omega) only [gdx, cl_nI, ↓reduceIte, if_true, if_false, ple_t, ple_f, plt_t, plt_f, peq_t, peq_f, nI_add, pk_mul, pk_sub, m1c, m2c, nlt_p, nle_p, nge_p, ngt_p, neq_p, neq_q, pI_o, pI_s, pk_us, pk_un, bdI_s, bdL_s, bdV_s, hl_, li_0, li_1, li_2, li_3, li_4, li_5, li_6, li_7, li_8, li_9, li_10, li_11, li_12, li_13, li_15, li_16, li_18, li_19, li_20, li_21, li_22, li_23, li_24, li_25, li_26, li_28, li_29, li_30, li_31, li_32, li_33, li_39, li_40, li_41, li_42, li_43, li_44, li_45, li_47, li_48, li_57, li_59, li_60, li_61, li_80, li_88, li_97, li_99, li_122, li_130, li_167, li_255, li_256, li_400, li_408, li_420, li_1287, li_2000, li_9999, e41, q_0]
      · have al : alN (qF (Ls 0) (rowC nm c)) (m + 1) = alN (qF (Ls 0) (rowC nm c)) m := by unfold alN; simp only [bS]; rw [if_neg (by simpa using q_4)]; rfl
        have mb : mbN (qF (Ls 0) (rowC nm c)) (m + 1) = mbN (qF (Ls 0) (rowC nm c)) m + 2 ^ m := by unfold mbN; simp only [bS]; rw [if_pos (decide_eq_true (by omega))]
        simp (disch := omega) only [gdx, cl_nI, ↓reduceIte, if_true, if_false, ple_t, ple_f, plt_t, plt_f, peq_t, peq_f, nI_add, pk_mul, pk_sub, m1c, m2c, nlt_p, nle_p, nge_p, ngt_p, neq_p, neq_q, pI_o, pI_s, pk_us, pk_un, bdI_s, bdL_s, bdV_s, hl_, li_0, li_1, li_2, li_3, li_4, li_5, li_6, li_7, li_8, li_9, li_10, li_11, li_12, li_13, li_15, li_16, li_18, li_19, li_20, li_21, li_22, li_23, li_24, li_25, li_26, li_28, li_29, li_30, li_31, li_32, li_33, li_39, li_40, li_41, li_42, li_43, li_44, li_45, li_47, li_48, li_57, li_59, li_60, li_61, li_80, li_88, li_97, li_99, li_122, li_130, li_167, li_255, li_256, li_400, li_408, li_420, li_1287, li_2000, li_9999, h3, h1, e8, h8, or_bit']
        refine go _ ((kX.rf.pp (by decide)).pp (by decide)) ?_ ?_ ?_ ?_
        · simp (disch := omega) only [gdx, cl_nI, ↓reduceIte, if_true, if_false, ple_t, ple_f, plt_t, plt_f, peq_t, peq_f, nI_add, pk_mul, pk_sub, m1c, m2c, nlt_p, nle_p, nge_p, ngt_p, neq_p, neq_q, pI_o, pI_s, pk_us, pk_un, bdI_s, bdL_s, bdV_s, hl_, li_0, li_1, li_2, li_3, li_4, li_5, li_6, li_7, li_8, li_9, li_10, li_11, li_12, li_13, li_15, li_16, li_18, li_19, li_20, li_21, li_22, li_23, li_24, li_25, li_26, li_28, li_29, li_30, li_31, li_32, li_33, li_39, li_40, li_41, li_42, li_43, li_44, li_45, li_47, li_48, li_57, li_59, li_60, li_61, li_80, li_88, li_97, li_99, li_122, li_130, li_167, li_255, li_256, li_400, li_408, li_420, li_1287, li_2000, li_9999, e8, h6]
        · simp (disch := omega) only [gdx, cl_nI, ↓reduceIte, if_true, if_false, ple_t, ple_f, plt_t, plt_f, peq_t, peq_f, nI_add, pk_mul, pk_sub, m1c, m2c, nlt_p, nle_p, nge_p, ngt_p, neq_p, neq_q, pI_o, pI_s, pk_us, pk_un, bdI_s, bdL_s, bdV_s, hl_, li_0, li_1, li_2, li_3, li_4, li_5, li_6, li_7, li_8, li_9, li_10, li_11, li_12, li_13, li_15, li_16, li_18, li_19, li_20, li_21, li_22, li_23, li_24, li_25, li_26, li_28, li_29, li_30, li_31, li_32, li_33, li_39, li_40, li_41, li_42, li_43, li_44, li_45, li_47, li_48, li_57, li_59, li_60, li_61, li_80, li_88, li_97, li_99, li_122, li_130, li_167, li_255, li_256, li_400, li_408, li_420, li_1287, li_2000, li_9999, e8, h7, al]
        · simp (disch := omega) only [gdx, cl_nI, ↓reduceIte, if_true, if_false, ple_t, ple_f, plt_t, plt_f, peq_t, peq_f, nI_add, pk_mul, pk_sub, m1c, m2c, nlt_p, nle_p, nge_p, ngt_p, neq_p, neq_q, pI_o, pI_s, pk_us, pk_un, bdI_s, bdL_s, bdV_s, hl_, li_0, li_1, li_2, li_3, li_4, li_5, li_6, li_7, li_8, li_9, li_10, li_11, li_12, li_13, li_15, li_16, li_18, li_19, li_20, li_21, li_22, li_23, li_24, li_25, li_26, li_28, li_29, li_30, li_31, li_32, li_33, li_39, li_40, li_41, li_42, li_43, li_44, li_45, li_47, li_48, li_57, li_59, li_60, li_61, li_80, li_88, li_97, li_99, li_122, li_130, li_167, li_255, li_256, li_400, li_408, li_420, li_1287, li_2000, li_9999, e8, mb]
        · simp (disch := omega) only [gdx, cl_nI, ↓reduceIte, if_true, if_false, ple_t, ple_f, plt_t, plt_f, peq_t, peq_f, nI_add, pk_mul, pk_sub, m1c, m2c, nlt_p, nle_p, nge_p, ngt_p, neq_p, neq_q, pI_o, pI_s, pk_us, pk_un, bdI_s, bdL_s, bdV_s, hl_, li_0, li_1, li_2, li_3, li_4, li_5, li_6, li_7, li_8, li_9, li_10, li_11, li_12, li_13, li_15, li_16, li_18, li_19, li_20, li_21, li_22, li_23, li_24, li_25, li_26, li_28, li_29, li_30, li_31, li_32, li_33, li_39, li_40, li_41, li_42, li_43, li_44, li_45, li_47, li_48, li_57, li_59, li_60, li_61, li_80, li_88, li_97, li_99, li_122, li_130, li_167, li_255, li_256, li_400, li_408, li_420, li_1287, li_2000, li_9999, e41]
theorem X_weigh {σ : HS} {nm nf st : Nat} {z l : Nat → Int32} {Ls : Nat → Lawt} (hT : TX σ nm nf z l Ls) (hst : isSt st) : ∃ σ', FX0_weigh st σ = some σ' ∧ kX [8, 39, 40, 41, 42] σ σ' ∧ WX σ' (qF (Ls 0) (rowC nm (σ.1 (st + 10)))) nm := by
  have hnm := hT.1
  have p4 : ∀ n, n ≤ 10 → (1 : Int32) <<< (((2 : Int32) * nI n) &&& 31) = nI (4 ^ n) := by decide +kernel
  unfold FX0_weigh
  simp only [hl_]
  rw [hT.2.2.1, p4 nm hnm]
  obtain ⟨σ1, es⟩ : ∃ y, y = pI (pI (pI σ 8 6 (nI (4 ^ nm))) 8 7 0) 8 8 0 := ⟨_, rfl⟩
  rw [← es]
  have k1 : kX [8, 39, 40, 41, 42] σ σ1 := by rw [es]; exact ((kX.rf.pp (by decide)).pp (by decide)).pp (by decide)
  have e := k1.1 _ (st_nw hst)
  obtain ⟨σ2, h2, k2, r2⟩ := X_weigh_27 (nm := nm) (nf := nf) (z := z) (l := l) (Ls := Ls) hst (σ.1 (st + 10)) nm 0 fu σ1 (TX_k hT k1 tX_w) e (by rw [es]; rfl) (by rw [es]; rfl) (by rw [es]; rfl) (fun i hi => by omega) (by omega) (by show nm < 5000; omega)
  exact ⟨σ2, h2, k1.tr k2, r2⟩
theorem X_casesIn {σ : HS} {q : Nat → Nat} {nm m p : Nat} (hW : WX σ q nm) (hm : m < nm) (hnm : nm ≤ 10) (hp : p < 8) : FX0_casesIn (nI m) (nI p) σ = some (nI (fwN q nm m p), σ) := by
  have h := hW.2.2.2.2 (by omega) m p (by omega) hp
  rw [if_pos hm] at h
  unfold FX0_casesIn
  simp (disch := omega) only [gdx, cl_nI, ↓reduceIte, if_true, if_false, ple_t, ple_f, plt_t, plt_f, peq_t, peq_f, nI_add, pk_mul, pk_sub, m1c, m2c, nlt_p, nle_p, nge_p, ngt_p, neq_p, neq_q, pI_o, pI_s, pk_us, pk_un, bdI_s, bdL_s, bdV_s, hl_, li_0, li_1, li_2, li_3, li_4, li_5, li_6, li_7, li_8, li_9, li_10, li_11, li_12, li_13, li_15, li_16, li_18, li_19, li_20, li_21, li_22, li_23, li_24, li_25, li_26, li_28, li_29, li_30, li_31, li_32, li_33, li_39, li_40, li_41, li_42, li_43, li_44, li_45, li_47, li_48, li_57, li_59, li_60, li_61, li_80, li_88, li_97, li_99, li_122, li_130, li_167, li_255, li_256, li_400, li_408, li_420, li_1287, li_2000, li_9999]
  rw [show m * 8 + p = 8 * m + p by omega, h]
def odN (q : Nat → Nat) (nm p : Nat) : Nat := if nm = 0 then (if p = 0 then 1 else 0) else if p = 0 then 0 else fwN q nm (nm - 1) (p - 1)
theorem X_casesOfParts {σ : HS} {q : Nat → Nat} {nm p : Nat} (hW : WX σ q nm) (h3 : σ.1 3 0 = nI nm) (hnm : nm ≤ 10) (hp : p ≤ 8) : FX0_casesOfParts (nI p) σ = some (nI (odN q nm p), σ) := by
  unfold FX0_casesOfParts odN
  by_cases h0 : nm = 0
  · subst h0
    by_cases hp0 : p = 0
    · subst hp0; simp (disch := omega) only [gdx, cl_nI, ↓reduceIte, if_true, if_false, ple_t, ple_f, plt_t, plt_f, peq_t, peq_f, nI_add, pk_mul, pk_sub, m1c, m2c, nlt_p, nle_p, nge_p, ngt_p, neq_p, neq_q, pI_o, pI_s, pk_us, pk_un, bdI_s, bdL_s, bdV_s, hl_, li_0, li_1, li_2, li_3, li_4, li_5, li_6, li_7, li_8, li_9, li_10, li_11, li_12, li_13, li_15, li_16, li_18, li_19, li_20, li_21, li_22, li_23, li_24, li_25, li_26, li_28, li_29, li_30, li_31, li_32, li_33, li_39, li_40, li_41, li_42, li_43, li_44, li_45, li_47, li_48, li_57, li_59, li_60, li_61, li_80, li_88, li_97, li_99, li_122, li_130, li_167, li_255, li_256, li_400, li_408, li_420, li_1287, li_2000, li_9999, h3, hW.1]
    · simp (disch := omega) only [gdx, cl_nI, ↓reduceIte, if_true, if_false, ple_t, ple_f, plt_t, plt_f, peq_t, peq_f, nI_add, pk_mul, pk_sub, m1c, m2c, nlt_p, nle_p, nge_p, ngt_p, neq_p, neq_q, pI_o, pI_s, pk_us, pk_un, bdI_s, bdL_s, bdV_s, hl_, li_0, li_1, li_2, li_3, li_4, li_5, li_6, li_7, li_8, li_9, li_10, li_11, li_12, li_13, li_15, li_16, li_18, li_19, li_20, li_21, li_22, li_23, li_24, li_25, li_26, li_28, li_29, li_30, li_31, li_32, li_33, li_39, li_40, li_41, li_42, li_43, li_44, li_45, li_47, li_48, li_57, li_59, li_60, li_61, li_80, li_88, li_97, li_99, li_122, li_130, li_167, li_255, li_256, li_400, li_408, li_420, li_1287, li_2000, li_9999, h3, if_neg hp0]
  · by_cases hp0 : p = 0
    · subst hp0; simp (disch := omega) only [gdx, cl_nI, ↓reduceIte, if_true, if_false, ple_t, ple_f, plt_t, plt_f, peq_t, peq_f, nI_add, pk_mul, pk_sub, m1c, m2c, nlt_p, nle_p, nge_p, ngt_p, neq_p, neq_q, pI_o, pI_s, pk_us, pk_un, bdI_s, bdL_s, bdV_s, hl_, li_0, li_1, li_2, li_3, li_4, li_5, li_6, li_7, li_8, li_9, li_10, li_11, li_12, li_13, li_15, li_16, li_18, li_19, li_20, li_21, li_22, li_23, li_24, li_25, li_26, li_28, li_29, li_30, li_31, li_32, li_33, li_39, li_40, li_41, li_42, li_43, li_44, li_45, li_47, li_48, li_57, li_59, li_60, li_61, li_80, li_88, li_97, li_99, li_122, li_130, li_167, li_255, li_256, li_400, li_408, li_420, li_1287, li_2000, li_9999, h3, if_neg h0]
    · rw [if_neg h0, if_neg hp0]
      simp (disch := omega) only [gdx, cl_nI, ↓reduceIte, if_true, if_false, ple_t, ple_f, plt_t, plt_f, peq_t, peq_f, nI_add, pk_mul, pk_sub, m1c, m2c, nlt_p, nle_p, nge_p, ngt_p, neq_p, neq_q, pI_o, pI_s, pk_us, pk_un, bdI_s, bdL_s, bdV_s, hl_, li_0, li_1, li_2, li_3, li_4, li_5, li_6, li_7, li_8, li_9, li_10, li_11, li_12, li_13, li_15, li_16, li_18, li_19, li_20, li_21, li_22, li_23, li_24, li_25, li_26, li_28, li_29, li_30, li_31, li_32, li_33, li_39, li_40, li_41, li_42, li_43, li_44, li_45, li_47, li_48, li_57, li_59, li_60, li_61, li_80, li_88, li_97, li_99, li_122, li_130, li_167, li_255, li_256, li_400, li_408, li_420, li_1287, li_2000, li_9999, h3]
      rw [X_casesIn hW (by omega) hnm (by omega), bdI_s]
theorem bit_I {p x : Nat} (hp : p < 10) (hx : x < 1024) : ((nI x) >>> (nI p &&& nI 31)) &&& nI 1 = nI (x / 2 ^ p % 2) := bit_at p hp x hx
/-- VALUES of the parts of a mask -/
def vmG (L : Lawt) (q : Nat → Nat) (g : Nat → Int32) (z l : Int32) (nm f x : Nat) : Nat → Nat → Int32 → Int32
  | 0, _, a => a
  | n + 1, p, a => vmG L q g z l nm f x n (p + 1) (if x / 2 ^ p % 2 = 0 then a else a + vaF L q g z l nm f p nm)
theorem X_val16 {nm nf st f p x : Nat} {z l : Nat → Int32} {Ls : Nat → Lawt} (hst : isSt st) (hf : f < nf) (hp : p < 8) (hx : x < 1024) (hb : x / 2 ^ p % 2 = 1) (c : Nat → Int32) (a : Int32) (k6 : Int32 → Int32 → Int32 → Int32 → HS → Option (Int32 × HS)) : ∀ (n m fl : Nat) (σ : HS), TX σ nm nf z l Ls → σ.1 (st + 10) = c → WX σ (qF (Ls 0) (rowC nm c)) nm → m + n = nm → n < fl → ∃ σ', FX0_valueOf_16 k6 st fl (nI f) (nI x) (a + vaF (Ls 1) (qF (Ls 0) (rowC nm c)) (rowC nm c) (z f) (l f) nm f p m) (nI p) (nI m) σ = k6 (nI f) (nI x) (a + vaF (Ls 1) (qF (Ls 0) (rowC nm c)) (rowC nm c) (z f) (l f) nm f p nm) (nI (p + 1)) σ' ∧ kX [39, 40] σ σ' := by
  intro n
  induction n with
  | zero =>
    intro m fl σ hT hc hW hm hfl
    obtain ⟨fl, rfl⟩ : ∃ z, fl = z + 1 := ⟨fl - 1, by omega⟩
    obtain rfl : m = nm := by omega
    have hnm := hT.1
    rw [FX0_valueOf_16]
    simp (disch := omega) only [gdx, cl_nI, ↓reduceIte, if_true, if_false, ple_t, ple_f, plt_t, plt_f, peq_t, peq_f, nI_add, pk_mul, pk_sub, m1c, m2c, nlt_p, nle_p, nge_p, ngt_p, neq_p, neq_q, pI_o, pI_s, pk_us, pk_un, bdI_s, bdL_s, bdV_s, hl_, li_0, li_1, li_2, li_3, li_4, li_5, li_6, li_7, li_8, li_9, li_10, li_11, li_12, li_13, li_15, li_16, li_18, li_19, li_20, li_21, li_22, li_23, li_24, li_25, li_26, li_28, li_29, li_30, li_31, li_32, li_33, li_39, li_40, li_41, li_42, li_43, li_44, li_45, li_47, li_48, li_57, li_59, li_60, li_61, li_80, li_88, li_97, li_99, li_122, li_130, li_167, li_255, li_256, li_400, li_408, li_420, li_1287, li_2000, li_9999, hT.2.2.1]
    exact ⟨σ, rfl, kX.rf⟩
  | succ n ih =>
    intro m fl σ hT hc hW hm hfl
    obtain ⟨fl, rfl⟩ : ∃ z, fl = z + 1 := ⟨fl - 1, by omega⟩
    have hnm := hT.1
    have hba : ((nI x) >>> (nI p &&& nI 31)) &&& nI 1 = nI 1 := by rw [bit_I (by omega) hx, hb]
    have hv := hW.2.2.2.2 (by omega) m p (by omega) hp
    rw [if_pos (show m < nm by omega), show 8 * m + p = m * 8 + p by omega] at hv
    have hle := fwN_le (fun i => (qF_ok (Ls 0) (rowC nm c) i).1) nm m p hp
    have h4 := p4_lt hnm
    rw [FX0_valueOf_16]
    by_cases hz : fwN (qF (Ls 0) (rowC nm c)) nm m p = 0
    · rw [hz] at hv
      simp (disch := omega) only [gdx, cl_nI, ↓reduceIte, if_true, if_false, ple_t, ple_f, plt_t, plt_f, peq_t, peq_f, nI_add, pk_mul, pk_sub, m1c, m2c, nlt_p, nle_p, nge_p, ngt_p, neq_p, neq_q, pI_o, pI_s, pk_us, pk_un, bdI_s, bdL_s, bdV_s, hl_, li_0, li_1, li_2, li_3, li_4, li_5, li_6, li_7, li_8, li_9, li_10, li_11, li_12, li_13, li_15, li_16, li_18, li_19, li_20, li_21, li_22, li_23, li_24, li_25, li_26, li_28, li_29, li_30, li_31, li_32, li_33, li_39, li_40, li_41, li_42, li_43, li_44, li_45, li_47, li_48, li_57, li_59, li_60, li_61, li_80, li_88, li_97, li_99, li_122, li_130, li_167, li_255, li_256, li_400, li_408, li_420, li_1287, li_2000, li_9999, hT.2.2.1, hba, hv]
      obtain ⟨σ', h1, k1⟩ := ih (m + 1) fl σ hT hc hW (by omega) (by omega)
      refine ⟨σ', ?_, k1⟩
      rw [← h1]
      simp only [vaF, hz]
      rw [show nI 0 = (0 : Int32) from rfl, Int32.zero_mul, Int32.add_zero]
    · simp (disch := omega) only [gdx, cl_nI, ↓reduceIte, if_true, if_false, ple_t, ple_f, plt_t, plt_f, peq_t, peq_f, nI_add, pk_mul, pk_sub, m1c, m2c, nlt_p, nle_p, nge_p, ngt_p, neq_p, neq_q, pI_o, pI_s, pk_us, pk_un, bdI_s, bdL_s, bdV_s, hl_, li_0, li_1, li_2, li_3, li_4, li_5, li_6, li_7, li_8, li_9, li_10, li_11, li_12, li_13, li_15, li_16, li_18, li_19, li_20, li_21, li_22, li_23, li_24, li_25, li_26, li_28, li_29, li_30, li_31, li_32, li_33, li_39, li_40, li_41, li_42, li_43, li_44, li_45, li_47, li_48, li_57, li_59, li_60, li_61, li_80, li_88, li_97, li_99, li_122, li_130, li_167, li_255, li_256, li_400, li_408, li_420, li_1287, li_2000, li_9999, hT.2.2.1, hba, hv]
      obtain ⟨σ1, h1, k1⟩ := X_worthTo (m := m) (p := p) hT hst (by omega) hf
      rw [hc] at h1
      rw [h1, bdI_s]
      obtain ⟨σ', h2, k2⟩ := ih (m + 1) fl σ1 (TX_k hT k1 tX_v) (by rw [k1.1 _ (st_nin hst)]; exact hc) (WX_k k1 (by decide) (by decide) (by decide) hW) (by omega) (by omega)
      refine ⟨σ', ?_, k1.tr k2⟩
      rw [← h2]
      simp only [vaF]
      rw [Int32.add_assoc]
theorem X_val6 {nm nf st f x : Nat} {z l : Nat → Int32} {Ls : Nat → Lawt} (hst : isSt st) (hf : f < nf) (hx : x < 1024) (c : Nat → Int32) : ∀ (n p fl : Nat) (a : Int32) (σ : HS), TX σ nm nf z l Ls → σ.1 (st + 10) = c → WX σ (qF (Ls 0) (rowC nm c)) nm → p + n = 8 → n < fl → ∃ σ', FX0_valueOf_6 st fl (nI f) (nI x) a (nI p) σ = some (vmG (Ls 1) (qF (Ls 0) (rowC nm c)) (rowC nm c) (z f) (l f) nm f x n p a, σ') ∧ kX [39, 40] σ σ' := by
  intro n
  induction n with
  | zero =>
    intro p fl a σ hT hc hW hp hfl
    obtain ⟨fl, rfl⟩ : ∃ z, fl = z + 1 := ⟨fl - 1, by omega⟩
    rw [FX0_valueOf_6]
    simp (disch := omega) only [gdx, cl_nI, ↓reduceIte, if_true, if_false, ple_t, ple_f, plt_t, plt_f, peq_t, peq_f, nI_add, pk_mul, pk_sub, m1c, m2c, nlt_p, nle_p, nge_p, ngt_p, neq_p, neq_q, pI_o, pI_s, pk_us, pk_un, bdI_s, bdL_s, bdV_s, hl_, li_0, li_1, li_2, li_3, li_4, li_5, li_6, li_7, li_8, li_9, li_10, li_11, li_12, li_13, li_15, li_16, li_18, li_19, li_20, li_21, li_22, li_23, li_24, li_25, li_26, li_28, li_29, li_30, li_31, li_32, li_33, li_39, li_40, li_41, li_42, li_43, li_44, li_45, li_47, li_48, li_57, li_59, li_60, li_61, li_80, li_88, li_97, li_99, li_122, li_130, li_167, li_255, li_256, li_400, li_408, li_420, li_1287, li_2000, li_9999]
    exact ⟨σ, rfl, kX.rf⟩
  | succ n ih =>
    intro p fl a σ hT hc hW hp hfl
    obtain ⟨fl, rfl⟩ : ∃ z, fl = z + 1 := ⟨fl - 1, by omega⟩
    have hnm := hT.1
    rw [FX0_valueOf_6]
    simp (disch := omega) only [gdx, cl_nI, ↓reduceIte, if_true, if_false, ple_t, ple_f, plt_t, plt_f, peq_t, peq_f, nI_add, pk_mul, pk_sub, m1c, m2c, nlt_p, nle_p, nge_p, ngt_p, neq_p, neq_q, pI_o, pI_s, pk_us, pk_un, bdI_s, bdL_s, bdV_s, hl_, li_0, li_1, li_2, li_3, li_4, li_5, li_6, li_7, li_8, li_9, li_10, li_11, li_12, li_13, li_15, li_16, li_18, li_19, li_20, li_21, li_22, li_23, li_24, li_25, li_26, li_28, li_29, li_30, li_31, li_32, li_33, li_39, li_40, li_41, li_42, li_43, li_44, li_45, li_47, li_48, li_57, li_59, li_60, li_61, li_80, li_88, li_97, li_99, li_122, li_130, li_167, li_255, li_256, li_400, li_408, li_420, li_1287, li_2000, li_9999]
    by_cases hb : x / 2 ^ p % 2 = 0
    · have hba : ((nI x) >>> (nI p &&& nI 31)) &&& nI 1 = nI 0 := by rw [bit_I (by omega) hx, hb]
      have e : FX0_valueOf_16 (FX0_valueOf_6 st fl) st fu (nI f) (nI x) a (nI p) (nI 0) σ = FX0_valueOf_6 st fl (nI f) (nI x) a (nI (p + 1)) σ := by
        rw [show fu = 4999 + 1 from rfl, FX0_valueOf_16]
        by_cases h0 : nm = 0
        · simp (disch := omega) only [gdx, cl_nI, ↓reduceIte, if_true, if_false, ple_t, ple_f, plt_t, plt_f, peq_t, peq_f, nI_add, pk_mul, pk_sub, m1c, m2c, nlt_p, nle_p, nge_p, ngt_p, neq_p, neq_q, pI_o, pI_s, pk_us, pk_un, bdI_s, bdL_s, bdV_s, hl_, li_0, li_1, li_2, li_3, li_4, li_5, li_6, li_7, li_8, li_9, li_10, li_11, li_12, li_13, li_15, li_16, li_18, li_19, li_20, li_21, li_22, li_23, li_24, li_25, li_26, li_28, li_29, li_30, li_31, li_32, li_33, li_39, li_40, li_41, li_42, li_43, li_44, li_45, li_47, li_48, li_57, li_59, li_60, li_61, li_80, li_88, li_97, li_99, li_122, li_130, li_167, li_255, li_256, li_400, li_408, li_420, li_1287, li_2000, li_9999, hT.2.2.1]
        · simp (disch := omega) only [gdx, cl_nI, ↓reduceIte, if_true, if_false, ple_t, ple_f, plt_t, plt_f, peq_t, peq_f, nI_add, pk_mul, pk_sub, m1c, m2c, nlt_p, nle_p, nge_p, ngt_p, neq_p, neq_q, pI_o, pI_s, pk_us, pk_un, bdI_s, bdL_s, bdV_s, hl_, li_0, li_1, li_2, li_3, li_4, li_5, li_6, li_7, li_8, li_9, li_10, li_11, li_12, li_13, li_15, li_16, li_18, li_19, li_20, li_21, li_22, li_23, li_24, li_25, li_26, li_28, li_29, li_30, li_31, li_32, li_33, li_39, li_40, li_41, li_42, li_43, li_44, li_45, li_47, li_48, li_57, li_59, li_60, li_61, li_80, li_88, li_97, li_99, li_122, li_130, li_167, li_255, li_256, li_400, li_408, li_420, li_1287, li_2000, li_9999, hT.2.2.1, hba]
      rw [e]
      obtain ⟨σ', h1, k1⟩ := ih (p + 1) fl a σ hT hc hW (by omega) (by omega)
      refine ⟨σ', ?_, k1⟩
      rw [h1]
      simp only [vmG, if_pos hb]
    · have hb1 : x / 2 ^ p % 2 = 1 := by omega
      obtain ⟨σ1, h1, k1⟩ := X_val16 hst hf (show p < 8 by omega) hx hb1 c a (FX0_valueOf_6 st fl) nm 0 fu σ hT hc hW (by omega) (by show nm < 5000; omega)
      simp only [vaF, Int32.add_zero] at h1
      rw [h1]
      obtain ⟨σ', h2, k2⟩ := ih (p + 1) fl _ σ1 (TX_k hT k1 tX_v) (by rw [k1.1 _ (st_nin hst)]; exact hc) (WX_k k1 (by decide) (by decide) (by decide) hW) (by omega) (by omega)
      refine ⟨σ', ?_, k1.tr k2⟩
      rw [h2]
      simp only [vmG, if_neg hb]
theorem X_valueOf {σ : HS} {nm nf st f x : Nat} {z l : Nat → Int32} {Ls : Nat → Lawt} (hst : isSt st) (hf : f < nf) (hx : x < 1024) (hT : TX σ nm nf z l Ls) (hW : WX σ (qF (Ls 0) (rowC nm (σ.1 (st + 10)))) nm) : ∃ σ', FX0_valueOf st (nI f) (nI x) σ = some (vmG (Ls 1) (qF (Ls 0) (rowC nm (σ.1 (st + 10)))) (rowC nm (σ.1 (st + 10))) (z f) (l f) nm f x 8 0 0, σ') ∧ kX [39, 40] σ σ' :=
  X_val6 hst hf hx (σ.1 (st + 10)) 8 0 fu 0 σ hT rfl hW (by omega) (by show 8 < 5000; omega)
theorem vmG_ha (L : Lawt) (q : Nat → Nat) (g : Nat → Int32) (z l : Int32) (nm f : Nat) : ∀ (n p : Nat) (a : Int32), p + n = 8 → vmG L q g z l nm f (partsN g (nI f)) n p a = haG L q g z l nm f n p a := by
  intro n
  induction n with
  | zero => intro p a _; rfl
  | succ n ih =>
    intro p a hp
    simp only [vmG, haG]
    have h := bS_bit (fun p => decide (g (10 + p) = nI f)) 8 p (by omega)
    have h' : partsN g (nI f) / 2 ^ p % 2 = if decide (g (10 + p) = nI f) then 1 else 0 := h
    rw [ih (p + 1) _ (by omega)]
    congr 1
    by_cases hg : g (10 + p) = nI f
    · rw [if_pos hg, if_neg (by rw [h', if_pos (decide_eq_true hg)]; decide)]
    · rw [if_neg hg, if_pos (by rw [h', if_neg (by simpa using hg)])]
theorem X_haveOf {σ : HS} {nm nf st f : Nat} {z l : Nat → Int32} {Ls : Nat → Lawt} (hst : isSt st) (hf : f < nf) (hT : TX σ nm nf z l Ls) (hW : WX σ (qF (Ls 0) (rowC nm (σ.1 (st + 10)))) nm) : ∃ σ', (bdI (FX7_partsOf st (nI f) σ) fun r σ1 => FX0_valueOf st (nI f) r σ1) = some (haF Ls (rowC nm (σ.1 (st + 10))) (z f) (l f) nm f, σ') ∧ kX [39, 40] σ σ' := by
  rw [X_partsOf hst nm, bdI_s, partsF_N]
  obtain ⟨σ', h1, k1⟩ := X_valueOf hst hf (show partsN (rowC nm (σ.1 (st + 10))) (nI f) < 1024 by have := partsN_lt (rowC nm (σ.1 (st + 10))) (nI f); omega) hT hW
  refine ⟨σ', ?_, k1⟩
  rw [h1, vmG_ha _ _ _ _ _ _ _ _ _ _ (by omega)]
  rfl
