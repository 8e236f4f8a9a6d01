/-! The class: variables of a law; COUGHS, WORTH, RENTS, CURES. -/
/-- the class's row of cells as the reference has it; minutes that there are not: 0 -/
def rowC (nm : Nat) (c : Nat → Int32) : Nat → Int32 := fun k => if k < 10 then (if k < nm then c k else 0) else if k < 18 then c k else if k < 23 then c (k + 10) else c (k - 5)
theorem rowC_m {nm : Nat} {c : Nat → Int32} {k : Nat} (h : k < nm) (h10 : nm ≤ 10) : rowC nm c k = c k := by
  unfold rowC; rw [if_pos (by omega), if_pos h]
theorem rowC_z {nm : Nat} {c : Nat → Int32} {k : Nat} (h : ¬ k < nm) (h10 : k < 10) : rowC nm c k = 0 := by
  unfold rowC; rw [if_pos (by omega), if_neg h]
theorem rowC_p {nm : Nat} {c : Nat → Int32} {k : Nat} (h : 10 ≤ k) (h18 : k < 18) : rowC nm c k = c k := by
  unfold rowC; rw [if_neg (by omega), if_pos h18]
theorem rowC_d {nm : Nat} {c : Nat → Int32} {k : Nat} (h : 18 ≤ k) (h23 : k < 23) : rowC nm c k = c (k + 10) := by
  unfold rowC; rw [if_neg (by omega), if_neg (by omega), if_pos h23]
theorem rowC_f {nm : Nat} {c : Nat → Int32} {k : Nat} (h : 23 ≤ k) : rowC nm c k = c (k - 5) := by
  unfold rowC; rw [if_neg (by omega), if_neg (by omega), if_neg (by omega)]
theorem rowC_18 {nm : Nat} {c : Nat → Int32} : rowC nm c 18 = c 28 := rowC_d (by omega) (by omega)
theorem rowC_19 {nm : Nat} {c : Nat → Int32} : rowC nm c 19 = c 29 := rowC_d (by omega) (by omega)
theorem rowC_20 {nm : Nat} {c : Nat → Int32} : rowC nm c 20 = c 30 := rowC_d (by omega) (by omega)
theorem rowC_21 {nm : Nat} {c : Nat → Int32} : rowC nm c 21 = c 31 := rowC_d (by omega) (by omega)
theorem rowC_22 {nm : Nat} {c : Nat → Int32} : rowC nm c 22 = c 32 := rowC_d (by omega) (by omega)
/-- the class's text in place -/
def TX (σ : HS) (nm nf : Nat) (z l : Nat → Int32) (Ls : Nat → Lawt) : Prop := nm ≤ 10 ∧ nf ≤ 5 ∧ σ.1 3 0 = nI nm ∧ σ.1 3 1 = nI nf ∧ (∀ f, f < nf → σ.1 23 f = z f ∧ σ.1 24 f = l f) ∧ ∃ C, C ≤ 408 ∧ σ.1 3 5 = nI C ∧ ∀ k, k < 4 → ∃ i, σ.1 26 k = nI i ∧ LawX (σ.1 27) (σ.1 28) C (Ls k).1 (Ls k).2 i
theorem TX_eq {σ σ' : HS} {nm nf : Nat} {z l : Nat → Int32} {Ls : Nat → Lawt} (h : TX σ nm nf z l Ls) (e3 : σ'.1 3 = σ.1 3) (e23 : σ'.1 23 = σ.1 23) (e24 : σ'.1 24 = σ.1 24) (e26 : σ'.1 26 = σ.1 26) (e27 : σ'.1 27 = σ.1 27) (e28 : σ'.1 28 = σ.1 28) : TX σ' nm nf z l Ls := by
  unfold TX at h ⊢
  rw [e3, e23, e24, e26, e27, e28]
  exact h
def tX (S : List Nat) : Prop := 3 ∉ S ∧ 23 ∉ S ∧ 24 ∉ S ∧ 26 ∉ S ∧ 27 ∉ S ∧ 28 ∉ S
theorem TX_k {S : List Nat} {σ σ' : HS} {nm nf : Nat} {z l : Nat → Int32} {Ls : Nat → Lawt} (h : TX σ nm nf z l Ls) (k : kX S σ σ') (t : tX S) : TX σ' nm nf z l Ls :=
  TX_eq h (k.1 _ t.1) (k.1 _ t.2.1) (k.1 _ t.2.2.1) (k.1 _ t.2.2.2.1) (k.1 _ t.2.2.2.2.1) (k.1 _ t.2.2.2.2.2)
theorem LawX_wf {ops num : Nat → Int32} {C : Nat} : ∀ (r : List (Pg × Pg × Pg)) (f : Pg) (i : Nat), LawX ops num C r f i → wfL r f := by
  intro r
  induction r with
  | nil => intro f i h; exact h.2.1
  | cons q r ih =>
    obtain ⟨a, c, t⟩ := q
    intro f i h
    exact ⟨h.2.1, ih _ _ h.2.2.2⟩
theorem TX_wf {σ : HS} {nm nf : Nat} {z l : Nat → Int32} {Ls : Nat → Lawt} (h : TX σ nm nf z l Ls) {k : Nat} (hk : k < 4) : wfL (Ls k).1 (Ls k).2 := by
  obtain ⟨-, -, -, -, -, C, -, -, h⟩ := h
  obtain ⟨i, -, h⟩ := h k hk
  exact LawX_wf _ _ _ h
theorem X_resultOf {σ : HS} {nm nf k : Nat} {z l : Nat → Int32} {Ls : Nat → Lawt} {w : Nat → Int32} (h : TX σ nm nf z l Ls) (hk : k < 4) (hw : ∀ j, j < 9 → σ.1 39 j = w j) : ∃ σ', FX2_resultOf (nI k) σ = some (lawV w (Ls k).1 (Ls k).2, σ') ∧ kX [40] σ σ' := by
  have hwf := TX_wf h hk
  obtain ⟨-, -, -, -, -, C, hC, h5, h⟩ := h
  obtain ⟨i, hi, hL⟩ := h k hk
  obtain ⟨σ', h1, h2⟩ := X_lawGo (nI k) (v := σ.1 39) hC (Ls k).1 (Ls k).2 i 0 fu σ rfl h5 hL (by omega) rfl
  refine ⟨σ', ?_, h2⟩
  unfold FX2_resultOf
  simp (disch := omega) only [gdx, cl_nI, ↓reduceIte, if_true, if_false, ple_t, ple_f, plt_t, plt_f, peq_t, peq_f, nI_add, pk_mul, pk_sub, m1c, m2c, nlt_p, nle_p, nge_p, ngt_p, neq_p, neq_q, pI_o, pI_s, pk_us, pk_un, bdI_s, bdL_s, bdV_s, hl_, li_0, li_1, li_2, li_3, li_4, li_5, li_6, li_7, li_8, li_9, li_10, li_11, li_12, li_13, li_15, li_16, li_18, li_19, li_20, li_21, li_22, li_23, li_24, li_25, li_26, li_28, li_29, li_30, li_31, li_32, li_33, li_39, li_40, li_41, li_42, li_43, li_44, li_45, li_47, li_48, li_57, li_59, li_60, li_61, li_80, li_88, li_97, li_99, li_122, li_130, li_167, li_255, li_256, li_400, li_408, li_420, li_1287, li_2000, li_9999, hi]
  rw [← lawV_congr hw _ _ hwf]
  exact h1
theorem max_min {n : Nat} (hn : n < 2 ^ 30) (x : Int32) : maxI 0 (minI (nI n) x) = clI (nI n) x := by
  have e0 : (0 : Int32).toInt = 0 := rfl
  have en : (nI n).toInt = n := nI_toInt (by omega)
  unfold maxI minI clI
  simp only [Int32.lt_iff_toInt_lt, Int32.le_iff_toInt_le, e0, en]
  by_cases h1 : x.toInt < n
  · rw [if_pos h1]
    by_cases h2 : 0 < x.toInt
    · rw [if_pos h2, if_pos (by omega), if_pos (by omega)]
    · rw [if_neg h2]
      by_cases h3 : 0 ≤ x.toInt
      · rw [if_pos h3, if_pos (by omega)]
        exact (Int32.toInt_inj.mp (by rw [e0]; omega))
      · rw [if_neg h3]
  · rw [if_neg h1]
    by_cases hz : n = 0
    · subst hz
      rw [if_neg (by rw [en]; omega)]
      by_cases h4 : 0 ≤ x.toInt
      · rw [if_pos h4]
        by_cases h5 : x.toInt ≤ (0 : Nat)
        · rw [if_pos h5]; exact (Int32.toInt_inj.mp (by rw [e0]; omega))
        · rw [if_neg h5]; rfl
      · rw [if_neg h4]
    · rw [if_pos (by rw [en]; omega), if_pos (by omega)]
      by_cases h5 : x.toInt ≤ n
      · rw [if_pos h5]; exact (Int32.toInt_inj.mp (by rw [en]; omega))
      · rw [if_neg h5]
theorem X_setVarsA {st m : Nat} (hst : isSt st) (hm : m < 10) (σ : HS) : ∃ σ', FX2_setVars st (nI m) (-1) 0 σ = some σ' ∧ kX [39] σ σ' ∧ ∀ j, j < 9 → σ'.1 39 j = vN [nI m, σ.1 (st + 10) m, σ.1 (st + 10) 28, σ.1 (st + 10) 29, 0, 0, σ.1 (st + 10) 30, 0, 0] j := by
  have hst' : st = 4 ∨ st = 5 := hst
  have e : FX2_setVars st (nI m) (-1) 0 σ = some (pI (pI (pI (pI (pI (pI (pI (pI (pI σ 39 0 (nI m)) 39 1 (σ.1 (st + 10) m)) 39 2 (σ.1 (st + 10) 28)) 39 3 (σ.1 (st + 10) 29)) 39 4 0) 39 5 0) 39 6 (σ.1 (st + 10) 30)) 39 7 0) 39 8 0) := by
    unfold FX2_setVars
    simp (disch := omega) only [gdx, cl_nI, ↓reduceIte, if_true, if_false, ple_t, ple_f, plt_t, plt_f, peq_t, peq_f, nI_add, pk_mul, pk_sub, m1c, m2c, nlt_p, nle_p, nge_p, ngt_p, neq_p, neq_q, pI_o, pI_s, pk_us, pk_un, bdI_s, bdL_s, bdV_s, hl_, li_0, li_1, li_2, li_3, li_4, li_5, li_6, li_7, li_8, li_9, li_10, li_11, li_12, li_13, li_15, li_16, li_18, li_19, li_20, li_21, li_22, li_23, li_24, li_25, li_26, li_28, li_29, li_30, li_31, li_32, li_33, li_39, li_40, li_41, li_42, li_43, li_44, li_45, li_47, li_48, li_57, li_59, li_60, li_61, li_80, li_88, li_97, li_99, li_122, li_130, li_167, li_255, li_256, li_400, li_408, li_420, li_1287, li_2000, li_9999, FX2_setVars_15, FX2_setVars_16, FX2_setVars_32, FX2_setVars_33, FX2_setVars_50, FX2_setVars_73, FX2_setVars_123, FX2_setVars_147, Nat.zero_add]
  refine ⟨_, e, ?_, ?_⟩
  · repeat (first | exact kX.rf | refine kX.pp ?_ (by decide))
  · intro j hj
    match j, hj with
    | 0, _ => rfl
    | 1, _ => rfl
    | 2, _ => rfl
    | 3, _ => rfl
    | 4, _ => rfl
    | 5, _ => rfl
    | 6, _ => rfl
    | 7, _ => rfl
    | 8, _ => rfl
    | j + 9, h => omega
theorem X_setVarsB {st m f : Nat} (hst : isSt st) (hm : m < 10) (hf : f < 5) (p : Int32) (σ : HS) : ∃ σ', FX2_setVars st (nI m) (nI f) p σ = some σ' ∧ kX [39] σ σ' ∧ ∀ j, j < 9 → σ'.1 39 j = vN [nI m, σ.1 (st + 10) m, σ.1 (st + 10) 28, σ.1 (st + 10) 29, σ.1 23 f, σ.1 24 f, σ.1 (st + 10) 30, p, nI f] j := by
  have hst' : st = 4 ∨ st = 5 := hst
  have e : FX2_setVars st (nI m) (nI f) p σ = some (pI (pI (pI (pI (pI (pI (pI (pI (pI σ 39 0 (nI m)) 39 1 (σ.1 (st + 10) m)) 39 2 (σ.1 (st + 10) 28)) 39 3 (σ.1 (st + 10) 29)) 39 4 (σ.1 23 f)) 39 5 (σ.1 24 f)) 39 6 (σ.1 (st + 10) 30)) 39 7 p) 39 8 (nI f)) := by
    unfold FX2_setVars
    simp (disch := omega) only [gdx, cl_nI, ↓reduceIte, if_true, if_false, ple_t, ple_f, plt_t, plt_f, peq_t, peq_f, nI_add, pk_mul, pk_sub, m1c, m2c, nlt_p, nle_p, nge_p, ngt_p, neq_p, neq_q, pI_o, pI_s, pk_us, pk_un, bdI_s, bdL_s, bdV_s, hl_, li_0, li_1, li_2, li_3, li_4, li_5, li_6, li_7, li_8, li_9, li_10, li_11, li_12, li_13, li_15, li_16, li_18, li_19, li_20, li_21, li_22, li_23, li_24, li_25, li_26, li_28, li_29, li_30, li_31, li_32, li_33, li_39, li_40, li_41, li_42, li_43, li_44, li_45, li_47, li_48, li_57, li_59, li_60, li_61, li_80, li_88, li_97, li_99, li_122, li_130, li_167, li_255, li_256, li_400, li_408, li_420, li_1287, li_2000, li_9999, FX2_setVars_15, FX2_setVars_16, FX2_setVars_32, FX2_setVars_33, FX2_setVars_50, FX2_setVars_73, FX2_setVars_123, FX2_setVars_147, Nat.zero_add]
  refine ⟨_, e, ?_, ?_⟩
  · repeat (first | exact kX.rf | refine kX.pp ?_ (by decide))
  · intro j hj
    match j, hj with
    | 0, _ => rfl
    | 1, _ => rfl
    | 2, _ => rfl
    | 3, _ => rfl
    | 4, _ => rfl
    | 5, _ => rfl
    | 6, _ => rfl
    | 7, _ => rfl
    | 8, _ => rfl
    | j + 9, h => omega
theorem X_setVarsC {st f : Nat} (hst : isSt st) (hf : f < 5) (p : Int32) (σ : HS) : ∃ σ', FX2_setVars st (-1) (nI f) p σ = some σ' ∧ kX [39] σ σ' ∧ ∀ j, j < 9 → σ'.1 39 j = vN [0, 0, σ.1 (st + 10) 28, σ.1 (st + 10) 29, σ.1 23 f, σ.1 24 f, σ.1 (st + 10) 30, p, nI f] j := by
  have hst' : st = 4 ∨ st = 5 := hst
  have e : FX2_setVars st (-1) (nI f) p σ = some (pI (pI (pI (pI (pI (pI (pI (pI (pI σ 39 0 0) 39 1 0) 39 2 (σ.1 (st + 10) 28)) 39 3 (σ.1 (st + 10) 29)) 39 4 (σ.1 23 f)) 39 5 (σ.1 24 f)) 39 6 (σ.1 (st + 10) 30)) 39 7 p) 39 8 (nI f)) := by
    unfold FX2_setVars
    simp (disch := omega) only [gdx, cl_nI, ↓reduceIte, if_true, if_false, ple_t, ple_f, plt_t, plt_f, peq_t, peq_f, nI_add, pk_mul, pk_sub, m1c, m2c, nlt_p, nle_p, nge_p, ngt_p, neq_p, neq_q, pI_o, pI_s, pk_us, pk_un, bdI_s, bdL_s, bdV_s, hl_, li_0, li_1, li_2, li_3, li_4, li_5, li_6, li_7, li_8, li_9, li_10, li_11, li_12, li_13, li_15, li_16, li_18, li_19, li_20, li_21, li_22, li_23, li_24, li_25, li_26, li_28, li_29, li_30, li_31, li_32, li_33, li_39, li_40, li_41, li_42, li_43, li_44, li_45, li_47, li_48, li_57, li_59, li_60, li_61, li_80, li_88, li_97, li_99, li_122, li_130, li_167, li_255, li_256, li_400, li_408, li_420, li_1287, li_2000, li_9999, FX2_setVars_15, FX2_setVars_16, FX2_setVars_32, FX2_setVars_33, FX2_setVars_50, FX2_setVars_73, FX2_setVars_123, FX2_setVars_147, Nat.zero_add]
  refine ⟨_, e, ?_, ?_⟩
  · repeat (first | exact kX.rf | refine kX.pp ?_ (by decide))
  · intro j hj
    match j, hj with
    | 0, _ => rfl
    | 1, _ => rfl
    | 2, _ => rfl
    | 3, _ => rfl
    | 4, _ => rfl
    | 5, _ => rfl
    | 6, _ => rfl
    | 7, _ => rfl
    | 8, _ => rfl
    | j + 9, h => omega
theorem st_ne {st k : Nat} (hst : isSt st) (h : k < 14 ∨ 15 < k) : st + 10 ≠ k := by rcases hst with rfl | rfl <;> omega
theorem st_nin {st : Nat} (hst : isSt st) : st + 10 ∉ [39, 40] := by rcases hst with rfl | rfl <;> decide
theorem tX_v : tX [39, 40] := by unfold tX; decide
theorem X_quartersOf {σ : HS} {nm nf st m : Nat} {z l : Nat → Int32} {Ls : Nat → Lawt} (h : TX σ nm nf z l Ls) (hst : isSt st) (hm : m < nm) : ∃ σ', FX2_quartersOf st (nI m) σ = some (cghF (Ls 0) (rowC nm (σ.1 (st + 10))) m, σ') ∧ kX [39, 40] σ σ' := by
  have hnm := h.1
  obtain ⟨σ1, h1, k1, v1⟩ := X_setVarsA hst (show m < 10 by omega) σ
  have k1' : kX [39, 40] σ σ1 := k1.up (by simp)
  obtain ⟨σ2, h2, k2⟩ := X_resultOf (k := 0) (TX_k h k1' tX_v) (by decide) v1
  unfold FX2_quartersOf
  rw [h1, bdV_s, show (0 : Int32) = nI 0 from rfl, h2, bdI_s]
  refine ⟨σ2, ?_, k1'.tr (k2.up (by simp))⟩
  rw [show (4 : Int32) = nI 4 from rfl, show nI 0 = (0 : Int32) from rfl, max_min (by omega)]
  unfold cghF
  rw [rowC_m hm hnm, rowC_18, rowC_19, rowC_20]
  rfl
theorem X_worthTo {σ : HS} {nm nf st m f p : Nat} {z l : Nat → Int32} {Ls : Nat → Lawt} (h : TX σ nm nf z l Ls) (hst : isSt st) (hm : m < nm) (hf : f < nf) : ∃ σ', FX2_worthTo st (nI f) (nI m) (nI p) σ = some (wthF (Ls 1) (rowC nm (σ.1 (st + 10))) (z f) (l f) f m p, σ') ∧ kX [39, 40] σ σ' := by
  have hnm := h.1
  have hnf := h.2.1
  obtain ⟨ez, el⟩ := h.2.2.2.2.1 f hf
  obtain ⟨σ1, h1, k1, v1⟩ := X_setVarsB hst (show m < 10 by omega) (show f < 5 by omega) (nI p) σ
  have k1' : kX [39, 40] σ σ1 := k1.up (by simp)
  obtain ⟨σ2, h2, k2⟩ := X_resultOf (k := 1) (TX_k h k1' tX_v) (by decide) v1
  unfold FX2_worthTo
  rw [h1, bdV_s, show (1 : Int32) = nI 1 from rfl, h2, bdI_s]
  refine ⟨σ2, ?_, k1'.tr (k2.up (by simp))⟩
  rw [show (9 : Int32) = nI 9 from rfl, max_min (by omega)]
  unfold wthF
  rw [rowC_m hm hnm, rowC_18, rowC_19, rowC_20, ez, el]
  rfl
theorem X_partsOf_4 {st : Nat} (hst : isSt st) (x : Int32) : ∀ (n p f : Nat) (a : Int32) (σ : HS), p + n = 8 → n < f → FX7_partsOf_4 st f x a (nI p) σ = some (pbG (fun p => σ.1 (st + 10) (10 + p)) x n p a, σ) := by
  intro n
  induction n with
  | zero =>
    intro p f a σ hp hf
    obtain ⟨f, rfl⟩ : ∃ z, f = z + 1 := ⟨f - 1, by omega⟩
    rw [FX7_partsOf_4]
    simp (disch := omega) only [gdx, cl_nI, ↓reduceIte, if_true, if_false, ple_t, ple_f, plt_t, plt_f, peq_t, peq_f, nI_add, pk_mul, pk_sub, m1c, m2c, nlt_p, nle_p, nge_p, ngt_p, neq_p, neq_q, pI_o, pI_s, pk_us, pk_un, bdI_s, bdL_s, bdV_s, hl_, li_0, li_1, li_2, li_3, li_4, li_5, li_6, li_7, li_8, li_9, li_10, li_11, li_12, li_13, li_15, li_16, li_18, li_19, li_20, li_21, li_22, li_23, li_24, li_25, li_26, li_28, li_29, li_30, li_31, li_32, li_33, li_39, li_40, li_41, li_42, li_43, li_44, li_45, li_47, li_48, li_57, li_59, li_60, li_61, li_80, li_88, li_97, li_99, li_122, li_130, li_167, li_255, li_256, li_400, li_408, li_420, li_1287, li_2000, li_9999]
    rfl
  | succ n ih =>
    intro p f a σ hp hf
    obtain ⟨f, rfl⟩ : ∃ z, f = z + 1 := ⟨f - 1, by omega⟩
    rw [FX7_partsOf_4]
    simp (disch := omega) only [gdx, cl_nI, ↓reduceIte, if_true, if_false, ple_t, ple_f, plt_t, plt_f, peq_t, peq_f, nI_add, pk_mul, pk_sub, m1c, m2c, nlt_p, nle_p, nge_p, ngt_p, neq_p, neq_q, pI_o, pI_s, pk_us, pk_un, bdI_s, bdL_s, bdV_s, hl_, li_0, li_1, li_2, li_3, li_4, li_5, li_6, li_7, li_8, li_9, li_10, li_11, li_12, li_13, li_15, li_16, li_18, li_19, li_20, li_21, li_22, li_23, li_24, li_25, li_26, li_28, li_29, li_30, li_31, li_32, li_33, li_39, li_40, li_41, li_42, li_43, li_44, li_45, li_47, li_48, li_57, li_59, li_60, li_61, li_80, li_88, li_97, li_99, li_122, li_130, li_167, li_255, li_256, li_400, li_408, li_420, li_1287, li_2000, li_9999, FX7_ownerOf]
    by_cases h : σ.1 (st + 10) (10 + p) = x
    · rw [if_pos h, ih _ _ _ _ (by omega) (by omega)]
      simp only [pbG, if_pos h]
      rfl
    · rw [if_neg h, ih _ _ _ _ (by omega) (by omega)]
      simp only [pbG, if_neg h]
theorem X_partsOf {st : Nat} (hst : isSt st) (nm : Nat) (x : Int32) (σ : HS) : FX7_partsOf st x σ = some (partsF (rowC nm (σ.1 (st + 10))) x, σ) := by
  have h := X_partsOf_4 hst x 8 0 fu 0 σ (by omega) (by show 8 < 5000; omega)
  unfold FX7_partsOf
  refine Eq.trans h ?_
  unfold partsF
  rw [pbG_congr 8 0 0 (fun q hq => (rowC_p (nm := nm) (c := σ.1 (st + 10)) (k := 10 + q) (by omega) (by omega)).symm)]
def bcI (x0 : Int32) : Int32 :=
  let x1 := x0 - ((ushr x0 1) &&& 1431655765)
  let x2 := (x1 &&& 858993459) + ((ushr x1 2) &&& 858993459)
  let x3 := (x2 + (ushr x2 4)) &&& 252645135
  let x4 := x3 + (ushr x3 8)
  let x5 := x4 + (ushr x4 16)
  x5 &&& 63
theorem bcI_n : ∀ c, c < 1024 → bcI (nI c) = nI (cntN c 10) := by decide +kernel
theorem X_bitCount {c : Nat} (hc : c < 1024) (σ : HS) : FJ6_bitCount_0f7a4 (nI c) σ = some (nI (cntN c 10), σ) := by
  rw [← bcI_n c hc]
  rfl
theorem X_num {st : Nat} (hst : isSt st) (nm f : Nat) (σ : HS) : bdI (FX7_partsOf st (nI f) σ) (fun r σ1 => FJ6_bitCount_0f7a4 r σ1) = some (numF (rowC nm (σ.1 (st + 10))) f, σ) := by
  rw [X_partsOf hst nm, bdI_s]
  obtain ⟨k, hk, e⟩ := partsF_lt (rowC nm (σ.1 (st + 10))) (nI f)
  unfold numF
  rw [e, X_bitCount (by omega), cl_nI (by omega)]
theorem X_fam {σ : HS} {nm nf st f k : Nat} {z l : Nat → Int32} {Ls : Nat → Lawt} (h : TX σ nm nf z l Ls) (hst : isSt st) (hf : f < nf) (hk : k < 4) : ∃ σ', (bdI (FX7_partsOf st (nI f) σ) fun r_1 σ_2 => bdI (FJ6_bitCount_0f7a4 r_1 σ_2) fun r_4 σ_5 => bdV (FX2_setVars st (-1 : Int32) (nI f) r_4 σ_5) fun σ_7 => bdI (FX2_resultOf (nI k) σ_7) fun r_9 σ_10 => some ((maxI (0 : Int32) (minI (99 : Int32) r_9)), σ_10)) = some (famF (Ls k) (rowC nm (σ.1 (st + 10))) (z f) (l f) f (numF (rowC nm (σ.1 (st + 10))) f), σ') ∧ kX [39, 40] σ σ' := by
  have hnf := h.2.1
  obtain ⟨ez, el⟩ := h.2.2.2.2.1 f hf
  have hn := X_num hst nm f σ
  rw [X_partsOf hst nm, bdI_s] at hn ⊢
  rw [hn, bdI_s]
  obtain ⟨σ1, h1, k1, v1⟩ := X_setVarsC hst (show f < 5 by omega) (numF (rowC nm (σ.1 (st + 10))) f) σ
  have k1' : kX [39, 40] σ σ1 := k1.up (by simp)
  obtain ⟨σ2, h2, k2⟩ := X_resultOf (k := k) (TX_k h k1' tX_v) hk v1
  rw [h1, bdV_s, h2, bdI_s]
  refine ⟨σ2, ?_, k1'.tr (k2.up (by simp))⟩
  rw [show (99 : Int32) = nI 99 from rfl, max_min (by omega)]
  unfold famF
  rw [rowC_18, rowC_19, rowC_20, ez, el]
  rfl
theorem X_rentOf {σ : HS} {nm nf st f : Nat} {z l : Nat → Int32} {Ls : Nat → Lawt} (h : TX σ nm nf z l Ls) (hst : isSt st) (hf : f < nf) : ∃ σ', FX2_rentOf st (nI f) σ = some (famF (Ls 2) (rowC nm (σ.1 (st + 10))) (z f) (l f) f (numF (rowC nm (σ.1 (st + 10))) f), σ') ∧ kX [39, 40] σ σ' := X_fam (k := 2) h hst hf (by decide)
theorem X_cureFor {σ : HS} {nm nf st f : Nat} {z l : Nat → Int32} {Ls : Nat → Lawt} (h : TX σ nm nf z l Ls) (hst : isSt st) (hf : f < nf) : ∃ σ', FX2_cureFor st (nI f) σ = some (famF (Ls 3) (rowC nm (σ.1 (st + 10))) (z f) (l f) f (numF (rowC nm (σ.1 (st + 10))) f), σ') ∧ kX [39, 40] σ σ' := X_fam (k := 3) h hst hf (by decide)
