/-! The class: a week. -/
theorem csN_bS (sd : Int32) (L : Lawt) (g : Nat → Int32) : ∀ n, csN sd L g n = bS (fun m => !decide (cghF L g m ≤ lotF sd (16 * g 20 + nI m))) n := by
  intro n
  induction n with
  | zero => rfl
  | succ n ih =>
    simp only [csN, bS, ih]
    congr 1
    by_cases h : cghF L g n ≤ lotF sd (16 * g 20 + nI n)
    · rw [if_pos h, if_neg (by simpa using h)]
    · rw [if_neg h, if_pos (by simpa using h)]
theorem ptF_step (sd : Int32) (L : Lawt) (g : Nat → Int32) {nm m : Nat} (hm : m < nm) : ptF (csN sd L g nm) (m + 1) = if cghF L g m ≤ lotF sd (16 * g 20 + nI m) then ptF (csN sd L g nm) m else if 7 ≤ ptF (csN sd L g nm) m then 7 else ptF (csN sd L g nm) m + 1 := by
  have h := bS_bit (fun m => !decide (cghF L g m ≤ lotF sd (16 * g 20 + nI m))) nm m hm
  rw [← csN_bS] at h
  unfold ptF
  simp only [cntN]
  by_cases hc : cghF L g m ≤ lotF sd (16 * g 20 + nI m)
  · rw [if_neg (by simpa using hc)] at h
    rw [if_pos hc, h, Nat.add_zero]
  · rw [if_pos (by simpa using hc)] at h
    rw [if_neg hc, h]
    split <;> omega
/-- leases are nobody's, or a family's -/
def OW (g : Nat → Int32) (nf : Nat) : Prop := ∀ p, p < 8 → g (10 + p) = -2 ∨ ∃ f, f < nf ∧ g (10 + p) = nI f
theorem neg2_ne {f : Nat} (hf : f < 2 ^ 30) : ¬ (-2 : Int32) = nI f := by
  intro e
  have := congrArg Int32.toInt e
  rw [nI_I hf, show (-2 : Int32).toInt = -2 from rfl] at this
  omega
theorem nin3 {st h : Nat} (hst : isSt st) (h39 : h ≠ 39) (h40 : h ≠ 40) (h1 : h < 14 ∨ 15 < h) : h ∉ [39, 40, st + 10] := by
  intro hm
  simp only [List.mem_cons, List.not_mem_nil, or_false] at hm
  rcases hst with rfl | rfl <;> omega
theorem tX_3 {st : Nat} (hst : isSt st) : tX [39, 40, st + 10] := by rcases hst with rfl | rfl <;> (unfold tX; decide)
theorem X_lot (sd w : Int32) (σ : HS) : FX4_lotOfFour sd w σ = some (lotF sd w, σ) := rfl
theorem X_coughsBehind {σ : HS} {nm nf st m : Nat} {z l : Nat → Int32} {Ls : Nat → Lawt} {g : Nat → Int32} (hst : isSt st) (hT : TX σ nm nf z l Ls) (hm : m < nm) (sd : Int32) (hg : ∀ k, k < 23 → rowC nm (σ.1 (st + 10)) k = g k) : ∃ σ', FX4_coughsBehind st (nI m) sd σ = some (if cghF (Ls 0) g m ≤ lotF sd (16 * g 20 + nI m) then 0 else 1, σ') ∧ kX [39, 40] σ σ' := by
  have hnm := hT.1
  obtain ⟨σ1, h1, k1⟩ := X_quartersOf hT hst hm
  have e20 : σ.1 (st + 10) 30 = g 20 := by rw [← hg 20 (by omega), rowC_20]
  unfold FX4_coughsBehind
  simp only [hl_]
  rw [e20, X_lot, bdI_s, h1, bdI_s, cghF_congr hg (show m < 10 by omega)]
  refine ⟨σ1, ?_, k1⟩
  by_cases h : cghF (Ls 0) g m ≤ lotF sd (16 * g 20 + nI m)
  · rw [if_pos h, if_pos h]
  · rw [if_neg h, if_neg h]
theorem X_payWorth {σ : HS} {nm nf st m p : Nat} {z l : Nat → Int32} {Ls : Nat → Lawt} {g : Nat → Int32} (hst : isSt st) (hT : TX σ nm nf z l Ls) (hm : m < nm) (hp : p < 8) (hg : ∀ k, k < 23 → rowC nm (σ.1 (st + 10)) k = g k) (hO : OW g nf) : ∃ σ', FX4_payWorth st (nI m) (nI p) σ = some σ' ∧ kX [39, 40, st + 10] σ σ' ∧ (∀ k, k < 18 ∨ 23 ≤ k → σ'.1 (st + 10) k = σ.1 (st + 10) k) ∧ ∀ f, f < 5 → σ'.1 (st + 10) (18 + f) = if g (10 + p) = nI f then σ.1 (st + 10) (18 + f) + wthF (Ls 1) g (z f) (l f) f m p else σ.1 (st + 10) (18 + f) := by
  have hnm := hT.1
  have hnf := hT.2.1
  have eo : σ.1 (st + 10) (10 + p) = g (10 + p) := by rw [← hg (10 + p) (by omega), rowC_p (by omega) (by omega)]
  rcases hO p hp with h2 | ⟨f0, hf0, h2⟩
  · have h2' : g (10 + p) = -nI 2 := h2
    have e : FX4_payWorth st (nI m) (nI p) σ = some σ := by
      unfold FX4_payWorth
      simp (disch := omega) only [gdx, cl_nI, ↓reduceIte, if_true, if_false, ple_t, ple_f, plt_t, plt_f, peq_t, peq_f, nI_add, pk_mul, pk_sub, m1c, m2c, nlt_p, nle_p, nge_p, ngt_p, neq_p, neq_q, pI_o, pI_s, pk_us, pk_un, bdI_s, bdL_s, bdV_s, hl_, li_0, li_1, li_2, li_3, li_4, li_5, li_6, li_7, li_8, li_9, li_10, li_11, li_12, li_13, li_15, li_16, li_18, li_19, li_20, li_21, li_22, li_23, li_24, li_25, li_26, li_28, li_29, li_30, li_31, li_32, li_33, li_39, li_40, li_41, li_42, li_43, li_44, li_45, li_47, li_48, li_57, li_59, li_60, li_61, li_80, li_88, li_97, li_99, li_122, li_130, li_167, li_255, li_256, li_400, li_408, li_420, li_1287, li_2000, li_9999, FX7_ownerOf, eo, h2']
    exact ⟨σ, e, kX.rf, fun _ _ => rfl, fun f hf => by rw [h2, if_neg (neg2_ne (by omega))]⟩
  · obtain ⟨σ1, h1, k1⟩ := X_worthTo (p := p) hT hst hm hf0
    rw [wthF_congr hg (show m < 10 by omega)] at h1
    have e : FX4_payWorth st (nI m) (nI p) σ = some (pI σ1 (st + 10) (18 + f0) (σ.1 (st + 10) (18 + f0) + wthF (Ls 1) g (z f0) (l f0) f0 m p)) := by
      unfold FX4_payWorth
      simp (disch := omega) only [gdx, cl_nI, ↓reduceIte, if_true, if_false, ple_t, ple_f, plt_t, plt_f, peq_t, peq_f, nI_add, pk_mul, pk_sub, m1c, m2c, nlt_p, nle_p, nge_p, ngt_p, neq_p, neq_q, pI_o, pI_s, pk_us, pk_un, bdI_s, bdL_s, bdV_s, hl_, li_0, li_1, li_2, li_3, li_4, li_5, li_6, li_7, li_8, li_9, li_10, li_11, li_12, li_13, li_15, li_16, li_18, li_19, li_20, li_21, li_22, li_23, li_24, li_25, li_26, li_28, li_29, li_30, li_31, li_32, li_33, li_39, li_40, li_41, li_42, li_43, li_44, li_45, li_47, li_48, li_57, li_59, li_60, li_61, li_80, li_88, li_97, li_99, li_122, li_130, li_167, li_255, li_256, li_400, li_408, li_420, li_1287, li_2000, li_9999, FX7_ownerOf, eo, h2, h1]
    have e1 : σ1.1 (st + 10) = σ.1 (st + 10) := k1.1 _ (st_nin hst)
    refine ⟨_, e, (k1.up (by simp)).pp (by simp), fun k hk => ?_, fun f hf => ?_⟩
    · rw [pI_1, if_pos rfl, upd_a, if_neg (by omega), e1]
    · rw [pI_1, if_pos rfl, upd_a, e1, h2]
      by_cases hff : f = f0
      · subst hff
        rw [if_pos rfl, if_pos rfl]
      · rw [if_neg (by omega), if_neg (fun e => hff (((nI_eq (by omega) (by omega)).mp e).symm))]
/-- the rents, and the week's end -/
theorem X_pw72 {nm nf st : Nat} {z l : Nat → Int32} {Ls : Nat → Lawt} (hst : isSt st) (g : Nat → Int32) (x2 x3 x4 x5 : Int32) : ∀ (n j f : Nat) (σ : HS), TX σ nm nf z l Ls → (∀ k, k < 23 → rowC nm (σ.1 (st + 10)) k = g k) → j + n = nf → n < f → ∃ σ', FX4_preachWeek_72 st f x2 x3 x4 x5 (nI j) σ = some σ' ∧ kX [39, 40, st + 10] σ σ' ∧ (∀ k, k < 23 → σ'.1 (st + 10) k = σ.1 (st + 10) k) ∧ (∀ i, i < 5 → σ'.1 (st + 10) (23 + i) = if j ≤ i ∧ i < nf then σ.1 (st + 10) (23 + i) + famF (Ls 2) g (z i) (l i) i (numF g i) else σ.1 (st + 10) (23 + i)) ∧ (∀ k, 28 ≤ k → k < 30 → σ'.1 (st + 10) k = σ.1 (st + 10) k) ∧ σ'.1 (st + 10) 30 = g 20 + 1 ∧ σ'.1 (st + 10) 31 = x3 ∧ σ'.1 (st + 10) 32 = x5 := by
  intro n
  induction n with
  | zero =>
    intro j f σ hT hg hj hf
    obtain ⟨f, rfl⟩ : ∃ z, f = z + 1 := ⟨f - 1, by omega⟩
    have hnf := hT.2.1
    have e20 : σ.1 (st + 10) 30 = g 20 := by rw [← hg 20 (by omega), rowC_20]
    rw [FX4_preachWeek_72]
    simp (disch := omega) only [gdx, cl_nI, ↓reduceIte, if_true, if_false, ple_t, ple_f, plt_t, plt_f, peq_t, peq_f, nI_add, pk_mul, pk_sub, m1c, m2c, nlt_p, nle_p, nge_p, ngt_p, neq_p, neq_q, pI_o, pI_s, pk_us, pk_un, bdI_s, bdL_s, bdV_s, hl_, li_0, li_1, li_2, li_3, li_4, li_5, li_6, li_7, li_8, li_9, li_10, li_11, li_12, li_13, li_15, li_16, li_18, li_19, li_20, li_21, li_22, li_23, li_24, li_25, li_26, li_28, li_29, li_30, li_31, li_32, li_33, li_39, li_40, li_41, li_42, li_43, li_44, li_45, li_47, li_48, li_57, li_59, li_60, li_61, li_80, li_88, li_97, li_99, li_122, li_130, li_167, li_255, li_256, li_400, li_408, li_420, li_1287, li_2000, li_9999, hT.2.2.2.1, e20]
    refine ⟨_, rfl, ((kX.rf.pp (by simp)).pp (by simp)).pp (by simp), fun k hk => ?_, fun i hi => ?_, fun k h1 h2 => ?_, ?_, ?_, ?_⟩
    · simp (disch := omega) only [gdx, cl_nI, ↓reduceIte, if_true, if_false, ple_t, ple_f, plt_t, plt_f, peq_t, peq_f, nI_add, pk_mul, pk_sub, m1c, m2c, nlt_p, nle_p, nge_p, ngt_p, neq_p, neq_q, pI_o, pI_s, pk_us, pk_un, bdI_s, bdL_s, bdV_s, hl_, li_0, li_1, li_2, li_3, li_4, li_5, li_6, li_7, li_8, li_9, li_10, li_11, li_12, li_13, li_15, li_16, li_18, li_19, li_20, li_21, li_22, li_23, li_24, li_25, li_26, li_28, li_29, li_30, li_31, li_32, li_33, li_39, li_40, li_41, li_42, li_43, li_44, li_45, li_47, li_48, li_57, li_59, li_60, li_61, li_80, li_88, li_97, li_99, li_122, li_130, li_167, li_255, li_256, li_400, li_408, li_420, li_1287, li_2000, li_9999]
    · rw [if_neg (by omega)]; simp (disch := omega) only [gdx, cl_nI, ↓reduceIte, if_true, if_false, ple_t, ple_f, plt_t, plt_f, peq_t, peq_f, nI_add, pk_mul, pk_sub, m1c, m2c, nlt_p, nle_p, nge_p, ngt_p, neq_p, neq_q, pI_o, pI_s, pk_us, pk_un, bdI_s, bdL_s, bdV_s, hl_, li_0, li_1, li_2, li_3, li_4, li_5, li_6, li_7, li_8, li_9, li_10, li_11, li_12, li_13, li_15, li_16, li_18, li_19, li_20, li_21, li_22, li_23, li_24, li_25, li_26, li_28, li_29, li_30, li_31, li_32, li_33, li_39, li_40, li_41, li_42, li_43, li_44, li_45, li_47, li_48, li_57, li_59, li_60, li_61, li_80, li_88, li_97, li_99, li_122, li_130, li_167, li_255, li_256, li_400, li_408, li_420, li_1287, li_2000, li_9999]
    · simp (disch := omega) only [gdx, cl_nI, ↓reduceIte, if_true, if_false, ple_t, ple_f, plt_t, plt_f, peq_t, peq_f, nI_add, pk_mul, pk_sub, m1c, m2c, nlt_p, nle_p, nge_p, ngt_p, neq_p, neq_q, pI_o, pI_s, pk_us, pk_un, bdI_s, bdL_s, bdV_s, hl_, li_0, li_1, li_2, li_3, li_4, li_5, li_6, li_7, li_8, li_9, li_10, li_11, li_12, li_13, li_15, li_16, li_18, li_19, li_20, li_21, li_22, li_23, li_24, li_25, li_26, li_28, li_29, li_30, li_31, li_32, li_33, li_39, li_40, li_41, li_42, li_43, li_44, li_45, li_47, li_48, li_57, li_59, li_60, li_61, li_80, li_88, li_97, li_99, li_122, li_130, li_167, li_255, li_256, li_400, li_408, li_420, li_1287, li_2000, li_9999]
    · simp (disch := omega) only [gdx, cl_nI, ↓reduceIte, if_true, if_false, ple_t, ple_f, plt_t, plt_f, peq_t, peq_f, nI_add, pk_mul, pk_sub, m1c, m2c, nlt_p, nle_p, nge_p, ngt_p, neq_p, neq_q, pI_o, pI_s, pk_us, pk_un, bdI_s, bdL_s, bdV_s, hl_, li_0, li_1, li_2, li_3, li_4, li_5, li_6, li_7, li_8, li_9, li_10, li_11, li_12, li_13, li_15, li_16, li_18, li_19, li_20, li_21, li_22, li_23, li_24, li_25, li_26, li_28, li_29, li_30, li_31, li_32, li_33, li_39, li_40, li_41, li_42, li_43, li_44, li_45, li_47, li_48, li_57, li_59, li_60, li_61, li_80, li_88, li_97, li_99, li_122, li_130, li_167, li_255, li_256, li_400, li_408, li_420, li_1287, li_2000, li_9999]
    · simp (disch := omega) only [gdx, cl_nI, ↓reduceIte, if_true, if_false, ple_t, ple_f, plt_t, plt_f, peq_t, peq_f, nI_add, pk_mul, pk_sub, m1c, m2c, nlt_p, nle_p, nge_p, ngt_p, neq_p, neq_q, pI_o, pI_s, pk_us, pk_un, bdI_s, bdL_s, bdV_s, hl_, li_0, li_1, li_2, li_3, li_4, li_5, li_6, li_7, li_8, li_9, li_10, li_11, li_12, li_13, li_15, li_16, li_18, li_19, li_20, li_21, li_22, li_23, li_24, li_25, li_26, li_28, li_29, li_30, li_31, li_32, li_33, li_39, li_40, li_41, li_42, li_43, li_44, li_45, li_47, li_48, li_57, li_59, li_60, li_61, li_80, li_88, li_97, li_99, li_122, li_130, li_167, li_255, li_256, li_400, li_408, li_420, li_1287, li_2000, li_9999]
    · simp (disch := omega) only [gdx, cl_nI, ↓reduceIte, if_true, if_false, ple_t, ple_f, plt_t, plt_f, peq_t, peq_f, nI_add, pk_mul, pk_sub, m1c, m2c, nlt_p, nle_p, nge_p, ngt_p, neq_p, neq_q, pI_o, pI_s, pk_us, pk_un, bdI_s, bdL_s, bdV_s, hl_, li_0, li_1, li_2, li_3, li_4, li_5, li_6, li_7, li_8, li_9, li_10, li_11, li_12, li_13, li_15, li_16, li_18, li_19, li_20, li_21, li_22, li_23, li_24, li_25, li_26, li_28, li_29, li_30, li_31, li_32, li_33, li_39, li_40, li_41, li_42, li_43, li_44, li_45, li_47, li_48, li_57, li_59, li_60, li_61, li_80, li_88, li_97, li_99, li_122, li_130, li_167, li_255, li_256, li_400, li_408, li_420, li_1287, li_2000, li_9999]
  | succ n ih =>
    intro j f σ hT hg hj hf
    obtain ⟨f, rfl⟩ : ∃ z, f = z + 1 := ⟨f - 1, by omega⟩
    have hnf := hT.2.1
    obtain ⟨σ1, h1, k1⟩ := X_rentOf (f := j) hT hst (by omega)
    rw [famF_congr hg, numF_congr hg] at h1
    have e1 : σ1.1 (st + 10) = σ.1 (st + 10) := k1.1 _ (st_nin hst)
    rw [FX4_preachWeek_72]
    simp (disch := omega) only [gdx, cl_nI, ↓reduceIte, if_true, if_false, ple_t, ple_f, plt_t, plt_f, peq_t, peq_f, nI_add, pk_mul, pk_sub, m1c, m2c, nlt_p, nle_p, nge_p, ngt_p, neq_p, neq_q, pI_o, pI_s, pk_us, pk_un, bdI_s, bdL_s, bdV_s, hl_, li_0, li_1, li_2, li_3, li_4, li_5, li_6, li_7, li_8, li_9, li_10, li_11, li_12, li_13, li_15, li_16, li_18, li_19, li_20, li_21, li_22, li_23, li_24, li_25, li_26, li_28, li_29, li_30, li_31, li_32, li_33, li_39, li_40, li_41, li_42, li_43, li_44, li_45, li_47, li_48, li_57, li_59, li_60, li_61, li_80, li_88, li_97, li_99, li_122, li_130, li_167, li_255, li_256, li_400, li_408, li_420, li_1287, li_2000, li_9999, hT.2.2.2.1, h1]
    obtain ⟨σ2, es⟩ : ∃ y, y = pI σ1 (st + 10) (23 + j) (σ.1 (st + 10) (23 + j) + famF (Ls 2) g (z j) (l j) j (numF g j)) := ⟨_, rfl⟩
    rw [← es]
    have k2 : kX [39, 40, st + 10] σ σ2 := by rw [es]; exact (k1.up (by simp)).pp (by simp)
    have v2 : ∀ k, k ≠ 23 + j → σ2.1 (st + 10) k = σ.1 (st + 10) k := by
      intro k hk
      rw [es, pI_1, if_pos rfl, upd_a, if_neg hk, e1]
    have w2 : σ2.1 (st + 10) (23 + j) = σ.1 (st + 10) (23 + j) + famF (Ls 2) g (z j) (l j) j (numF g j) := by
      rw [es, pI_1, if_pos rfl, upd_a, if_pos rfl]
    have hg2 : ∀ k, k < 23 → rowC nm (σ2.1 (st + 10)) k = g k := by
      intro k hk
      rw [← hg k hk]
      unfold rowC
      by_cases h18 : k < 18
      · rw [v2 k (by omega), if_pos h18, if_pos h18]
      · rw [if_neg (by omega), if_neg h18, if_pos hk, if_neg (by omega), if_neg h18, if_pos hk, v2 (k + 10) (by omega)]
    obtain ⟨σ', h2, k3, r1, r2, r3, r4, r5, r6⟩ := ih (j + 1) f σ2 (TX_k hT k2 (tX_3 hst)) hg2 (by omega) (by omega)
    refine ⟨σ', h2, k2.tr k3, fun k hk => ?_, fun i hi => ?_, fun k a b => ?_, r4, r5, r6⟩
    · rw [r1 k hk, v2 k (by omega)]
    · rw [r2 i hi]
      by_cases hij : i = j
      · subst hij
        rw [if_neg (by omega), if_pos (by omega), w2]
      · rw [v2 (23 + i) (by omega)]
        by_cases hc : j ≤ i ∧ i < nf
        · rw [if_pos hc, if_pos (by omega)]
        · rw [if_neg hc, if_neg (by omega)]
    · rw [r3 k a b, v2 k (by omega)]
theorem csN_1024 {sd : Int32} {L : Lawt} {g : Nat → Int32} {n : Nat} (h : n ≤ 10) : csN sd L g n < 1024 := Nat.lt_of_lt_of_le (csN_lt sd L g n) (Nat.pow_le_pow_right (n := 2) (by decide) h)
/-- the minutes -/
theorem X_pw11 {nm nf st : Nat} {z l : Nat → Int32} {Ls : Nat → Lawt} (hst : isSt st) (g : Nat → Int32) (sd : Int32) (hO : OW g nf) : ∀ (n m f : Nat) (σ : HS), TX σ nm nf z l Ls → (∀ k, k < 23 → rowC nm (σ.1 (st + 10)) k = g k) → (∀ i, i < nf → σ.1 (st + 10) (18 + i) = gnF (Ls 1) g (z i) (l i) (csN sd (Ls 0) g nm) i m) → m + n = nm → n < f → ∃ σ', FX4_preachWeek_11 st f sd (nI (csN sd (Ls 0) g m)) (nI (ptF (csN sd (Ls 0) g nm) m)) (psF m (csN sd (Ls 0) g nm)) (nI m) σ = FX4_preachWeek_72 st fu sd (nI (csN sd (Ls 0) g nm)) (nI (ptF (csN sd (Ls 0) g nm) nm)) (psF nm (csN sd (Ls 0) g nm)) (nI 0) σ' ∧ kX [39, 40, st + 10] σ σ' ∧ (∀ k, k < 18 ∨ 23 ≤ k → σ'.1 (st + 10) k = σ.1 (st + 10) k) ∧ (∀ i, i < nf → σ'.1 (st + 10) (18 + i) = gnF (Ls 1) g (z i) (l i) (csN sd (Ls 0) g nm) i nm) ∧ ∀ i, nf ≤ i → i < 5 → σ'.1 (st + 10) (18 + i) = σ.1 (st + 10) (18 + i) := by
  intro n
  induction n with
  | zero =>
    intro m f σ hT hg hG hm hf
    obtain ⟨f, rfl⟩ : ∃ z, f = z + 1 := ⟨f - 1, by omega⟩
    obtain rfl : m = nm := by omega
    have hnm := hT.1
    rw [FX4_preachWeek_11]
    simp (disch := omega) only [gdx, cl_nI, ↓reduceIte, if_true, if_false, ple_t, ple_f, plt_t, plt_f, peq_t, peq_f, nI_add, pk_mul, pk_sub, m1c, m2c, nlt_p, nle_p, nge_p, ngt_p, neq_p, neq_q, pI_o, pI_s, pk_us, pk_un, bdI_s, bdL_s, bdV_s, hl_, li_0, li_1, li_2, li_3, li_4, li_5, li_6, li_7, li_8, li_9, li_10, li_11, li_12, li_13, li_15, li_16, li_18, li_19, li_20, li_21, li_22, li_23, li_24, li_25, li_26, li_28, li_29, li_30, li_31, li_32, li_33, li_39, li_40, li_41, li_42, li_43, li_44, li_45, li_47, li_48, li_57, li_59, li_60, li_61, li_80, li_88, li_97, li_99, li_122, li_130, li_167, li_255, li_256, li_400, li_408, li_420, li_1287, li_2000, li_9999, hT.2.2.1]
    exact ⟨σ, rfl, kX.rf, fun _ _ => rfl, hG, fun _ _ _ => rfl⟩
  | succ n ih =>
    intro m f σ hT hg hG hm hf
    obtain ⟨f, rfl⟩ : ∃ z, f = z + 1 := ⟨f - 1, by omega⟩
    have hnm := hT.1
    have hnf := hT.2.1
    obtain ⟨C, hC⟩ : ∃ y, y = csN sd (Ls 0) g nm := ⟨_, rfl⟩
    have hp8 := ptF_lt C m
    obtain ⟨σ1, h1, k1, r1, s1⟩ := X_payWorth hst hT (show m < nm by omega) hp8 hg hO
    have hT1 := TX_k hT k1 (tX_3 hst)
    have hg1 : ∀ k, k < 23 → rowC nm (σ1.1 (st + 10)) k = g k := by
      intro k hk
      rw [← hg k hk]
      unfold rowC
      by_cases h18 : k < 18
      · rw [r1 k (by omega), if_pos h18, if_pos h18]
      · rw [if_neg (by omega), if_neg h18, if_pos hk, if_neg (by omega), if_neg h18, if_pos hk, r1 (k + 10) (by omega)]
    obtain ⟨σ2, h2, k2⟩ := X_coughsBehind hst hT1 (show m < nm by omega) sd hg1
    have e2 : σ2.1 (st + 10) = σ1.1 (st + 10) := k2.1 _ (st_nin hst)
    have k12 : kX [39, 40, st + 10] σ σ2 := k1.tr (k2.up (by simp))
    have hps : psF (m + 1) C = nI (ptF C m + 1) := by unfold psF; rw [if_neg (by omega)]; rfl
    have hG2 : ∀ i, i < nf → σ2.1 (st + 10) (18 + i) = gnF (Ls 1) g (z i) (l i) C i (m + 1) := by
      intro i hi
      rw [e2, s1 i (by omega), hG i hi, ← hC]
      rfl
    have hst1 := ptF_step sd (Ls 0) g (show m < nm by omega)
    have hcs : csN sd (Ls 0) g (m + 1) = csN sd (Ls 0) g m + (if cghF (Ls 0) g m ≤ lotF sd (16 * g 20 + nI m) then 0 else 2 ^ m) := rfl
    obtain ⟨σ', h3, k3, r3, s3, t3⟩ := ih (m + 1) f σ2 (TX_k hT k12 (tX_3 hst)) (by rw [e2]; exact hg1) (by rw [← hC]; exact hG2) (by omega) (by omega)
    rw [← hC] at h3 hst1 s3 ⊢
    refine ⟨σ', ?_, k12.tr k3, fun k hk => ?_, s3, fun i a b => ?_⟩
    · rw [FX4_preachWeek_11]
      simp (disch := omega) only [gdx, cl_nI, ↓reduceIte, if_true, if_false, ple_t, ple_f, plt_t, plt_f, peq_t, peq_f, nI_add, pk_mul, pk_sub, m1c, m2c, nlt_p, nle_p, nge_p, ngt_p, neq_p, neq_q, pI_o, pI_s, pk_us, pk_un, bdI_s, bdL_s, bdV_s, hl_, li_0, li_1, li_2, li_3, li_4, li_5, li_6, li_7, li_8, li_9, li_10, li_11, li_12, li_13, li_15, li_16, li_18, li_19, li_20, li_21, li_22, li_23, li_24, li_25, li_26, li_28, li_29, li_30, li_31, li_32, li_33, li_39, li_40, li_41, li_42, li_43, li_44, li_45, li_47, li_48, li_57, li_59, li_60, li_61, li_80, li_88, li_97, li_99, li_122, li_130, li_167, li_255, li_256, li_400, li_408, li_420, li_1287, li_2000, li_9999, hT.2.2.1, h1]
      rw [h2, bdI_s, ← h3, hps]
      by_cases hq : cghF (Ls 0) g m ≤ lotF sd (16 * g 20 + nI m)
      · rw [if_pos hq] at hst1 hcs
        rw [if_pos hq, hst1, hcs, Nat.add_zero]
        rfl
      · rw [if_neg hq] at hst1 hcs
        rw [if_neg hq, if_neg (show ¬ (1 : Int32) = nI 0 by decide), or_bit' (by omega) (csN_lt sd (Ls 0) g m), hst1, hcs]
        unfold FX0_partBehind
        by_cases h7 : 7 ≤ ptF C m
        · rw [if_pos h7]; simp (disch := omega) only [gdx, cl_nI, ↓reduceIte, if_true, if_false, ple_t, ple_f, plt_t, plt_f, peq_t, peq_f, nI_add, pk_mul, pk_sub, m1c, m2c, nlt_p, nle_p, nge_p, ngt_p, neq_p, neq_q, pI_o, pI_s, pk_us, pk_un, bdI_s, bdL_s, bdV_s, hl_, li_0, li_1, li_2, li_3, li_4, li_5, li_6, li_7, li_8, li_9, li_10, li_11, li_12, li_13, li_15, li_16, li_18, li_19, li_20, li_21, li_22, li_23, li_24, li_25, li_26, li_28, li_29, li_30, li_31, li_32, li_33, li_39, li_40, li_41, li_42, li_43, li_44, li_45, li_47, li_48, li_57, li_59, li_60, li_61, li_80, li_88, li_97, li_99, li_122, li_130, li_167, li_255, li_256, li_400, li_408, li_420, li_1287, li_2000, li_9999]
        · rw [if_neg h7]; simp (disch := omega) only [gdx, cl_nI, ↓reduceIte, if_true, if_false, ple_t, ple_f, plt_t, plt_f, peq_t, peq_f, nI_add, pk_mul, pk_sub, m1c, m2c, nlt_p, nle_p, nge_p, ngt_p, neq_p, neq_q, pI_o, pI_s, pk_us, pk_un, bdI_s, bdL_s, bdV_s, hl_, li_0, li_1, li_2, li_3, li_4, li_5, li_6, li_7, li_8, li_9, li_10, li_11, li_12, li_13, li_15, li_16, li_18, li_19, li_20, li_21, li_22, li_23, li_24, li_25, li_26, li_28, li_29, li_30, li_31, li_32, li_33, li_39, li_40, li_41, li_42, li_43, li_44, li_45, li_47, li_48, li_57, li_59, li_60, li_61, li_80, li_88, li_97, li_99, li_122, li_130, li_167, li_255, li_256, li_400, li_408, li_420, li_1287, li_2000, li_9999]
    · rw [r3 k hk, e2, r1 k hk]
    · rw [t3 i a b, e2, s1 i b]
      rcases hO (ptF C m) hp8 with h | ⟨f0, hf0, h⟩
      · rw [h, if_neg (neg2_ne (by omega))]
      · rw [h, if_neg (fun e => by have := (nI_eq (by omega) (by omega)).mp e; omega)]
theorem X_preachWeek {σ : HS} {nm nf st : Nat} {z l : Nat → Int32} {Ls : Nat → Lawt} (hst : isSt st) (sd : Int32) (hT : TX σ nm nf z l Ls) (hO : OW (rowC nm (σ.1 (st + 10))) nf) : ∃ σ', FX4_preachWeek st sd σ = some σ' ∧ kX [39, 40, st + 10] σ σ' ∧ ∀ k, k < 33 → rowC nm (σ'.1 (st + 10)) k = wkF Ls z l nm nf (csN sd (Ls 0) (rowC nm (σ.1 (st + 10))) nm) (rowC nm (σ.1 (st + 10))) k := by
  have hnm := hT.1
  have hnf := hT.2.1
  obtain ⟨c, hc⟩ : ∃ y, y = σ.1 (st + 10) := ⟨_, rfl⟩
  obtain ⟨g, hgg⟩ : ∃ y, y = rowC nm c := ⟨_, rfl⟩
  obtain ⟨C, hC⟩ : ∃ y, y = csN sd (Ls 0) g nm := ⟨_, rfl⟩
  rw [← hc, ← hgg] at hO ⊢
  rw [← hC]
  obtain ⟨σ1, h1, k1, r1, s1, t1⟩ := X_pw11 (nm := nm) (nf := nf) (z := z) (l := l) (Ls := Ls) hst g sd hO nm 0 fu σ hT (fun k _ => by rw [← hc, hgg]) (fun i hi => by
    show _ = g (23 + i)
    rw [hgg, rowC_f (by omega), ← hc]
    congr 1
    omega) (by omega) (by show nm < 5000; omega)
  rw [← hC] at h1 s1
  have hg1 : ∀ k, k < 23 → rowC nm (σ1.1 (st + 10)) k = g k := by
    intro k hk
    rw [hgg, hc]
    unfold rowC
    by_cases h18 : k < 18
    · rw [r1 k (by omega), if_pos h18, if_pos h18]
    · rw [if_neg (by omega), if_neg h18, if_pos hk, if_neg (by omega), if_neg h18, if_pos hk, r1 (k + 10) (by omega)]
  obtain ⟨σ2, h2, k2, q1, q2, q3, q4, q5, q6⟩ := X_pw72 (nm := nm) (nf := nf) (z := z) (l := l) (Ls := Ls) hst g sd (nI C) (nI (ptF C nm)) (psF nm C) nf 0 fu σ1 (TX_k hT k1 (tX_3 hst)) hg1 (by omega) (by show nf < 5000; omega)
  refine ⟨σ2, ?_, k1.tr k2, fun k hk => ?_⟩
  · have e : FX4_preachWeek st sd σ = FX4_preachWeek_11 st fu sd (nI (csN sd (Ls 0) g 0)) (nI (ptF C 0)) (psF 0 C) (nI 0) σ := rfl
    rw [e, h1, h2]
  · unfold wkF
    by_cases h20 : k = 20
    · subst h20; rw [if_pos rfl, rowC_20, q4]
    · rw [if_neg h20]
      by_cases h21 : k = 21
      · subst h21; rw [if_pos rfl, rowC_21, q5]
      · rw [if_neg h21]
        by_cases h22 : k = 22
        · subst h22; rw [if_pos rfl, rowC_22, q6]
        · rw [if_neg h22]
          by_cases h23 : k < 23
          · rw [if_neg (by omega), if_neg (by omega), ← hg1 k h23]
            unfold rowC
            by_cases h18 : k < 18
            · rw [q1 k (by omega), if_pos h18, if_pos h18]
            · rw [if_neg (by omega), if_neg h18, if_pos h23, if_neg (by omega), if_neg h18, if_pos h23, q3 (k + 10) (by omega) (by omega)]
          · rw [rowC_f (by omega)]
            by_cases h28 : k < 28
            · obtain ⟨i, rfl⟩ : ∃ i, k = 23 + i := ⟨k - 23, by omega⟩
              rw [show 23 + i - 5 = 18 + i by omega, q1 (18 + i) (by omega), show 23 + i - 23 = i by omega]
              by_cases hi : i < nf
              · rw [if_pos (by omega), s1 i hi]
              · rw [if_neg (by omega), if_neg (by omega), t1 i (by omega) (by omega), hgg, rowC_f (by omega), ← hc]
                congr 1
                omega
            · obtain ⟨i, rfl⟩ : ∃ i, k = 28 + i := ⟨k - 28, by omega⟩
              rw [show 28 + i - 5 = 23 + i by omega, q2 i (by omega), show 28 + i - 28 = i by omega]
              have e5 : σ1.1 (st + 10) (23 + i) = g (28 + i) := by
                rw [r1 (23 + i) (by omega), hgg, rowC_f (by omega), ← hc]
                congr 1
                omega
              rw [if_neg (show ¬ (23 ≤ 28 + i ∧ 28 + i < 23 + nf) by omega)]
              by_cases hi : i < nf
              · rw [if_pos (show 0 ≤ i ∧ i < nf by omega), if_pos (by omega), e5]
              · rw [if_neg (show ¬ (0 ≤ i ∧ i < nf) by omega), if_neg (by omega), e5]
theorem OW_wk {Ls : Nat → Lawt} {z l : Nat → Int32} {nm nf c : Nat} {g : Nat → Int32} (h : OW g nf) : OW (wkF Ls z l nm nf c g) nf := by
  intro p hp
  have e : wkF Ls z l nm nf c g (10 + p) = g (10 + p) := by
    unfold wkF
    rw [if_neg (by omega), if_neg (by omega), if_neg (by omega), if_neg (by omega), if_neg (by omega)]
  rw [e]
  exact h p hp
theorem OW_congr {g g' : Nat → Int32} {nf : Nat} (h : ∀ k, k < 33 → g k = g' k) (hO : OW g nf) : OW g' nf := fun p hp => by rw [← h (10 + p) (by omega)]; exact hO p hp
theorem X_weeks_3 {nm nf st : Nat} {z l : Nat → Int32} {Ls : Nat → Lawt} (hst : isSt st) (sd : Int32) {N : Nat} (hN : N ≤ 40) : ∀ (n i f : Nat) (σ : HS), TX σ nm nf z l Ls → OW (rowC nm (σ.1 (st + 10))) nf → i + n = N → n < f → ∃ σ', FX4_preachWeeks_3 st f (nI N) sd (nI i) σ = some σ' ∧ kX [39, 40, st + 10] σ σ' ∧ ∀ k, k < 33 → rowC nm (σ'.1 (st + 10)) k = wkI sd Ls z l nm nf n (rowC nm (σ.1 (st + 10))) k := by
  intro n
  induction n with
  | zero =>
    intro i f σ hT hO hi hf
    obtain ⟨f, rfl⟩ : ∃ z, f = z + 1 := ⟨f - 1, by omega⟩
    rw [FX4_preachWeeks_3]
    simp (disch := omega) only [gdx, cl_nI, ↓reduceIte, if_true, if_false, ple_t, ple_f, plt_t, plt_f, peq_t, peq_f, nI_add, pk_mul, pk_sub, m1c, m2c, nlt_p, nle_p, nge_p, ngt_p, neq_p, neq_q, pI_o, pI_s, pk_us, pk_un, bdI_s, bdL_s, bdV_s, hl_, li_0, li_1, li_2, li_3, li_4, li_5, li_6, li_7, li_8, li_9, li_10, li_11, li_12, li_13, li_15, li_16, li_18, li_19, li_20, li_21, li_22, li_23, li_24, li_25, li_26, li_28, li_29, li_30, li_31, li_32, li_33, li_39, li_40, li_41, li_42, li_43, li_44, li_45, li_47, li_48, li_57, li_59, li_60, li_61, li_80, li_88, li_97, li_99, li_122, li_130, li_167, li_255, li_256, li_400, li_408, li_420, li_1287, li_2000, li_9999]
    exact ⟨σ, rfl, kX.rf, fun _ _ => rfl⟩
  | succ n ih =>
    intro i f σ hT hO hi hf
    obtain ⟨f, rfl⟩ : ∃ z, f = z + 1 := ⟨f - 1, by omega⟩
    obtain ⟨σ1, h1, k1, r1⟩ := X_preachWeek hst sd hT hO
    rw [FX4_preachWeeks_3]
    simp (disch := omega) only [gdx, cl_nI, ↓reduceIte, if_true, if_false, ple_t, ple_f, plt_t, plt_f, peq_t, peq_f, nI_add, pk_mul, pk_sub, m1c, m2c, nlt_p, nle_p, nge_p, ngt_p, neq_p, neq_q, pI_o, pI_s, pk_us, pk_un, bdI_s, bdL_s, bdV_s, hl_, li_0, li_1, li_2, li_3, li_4, li_5, li_6, li_7, li_8, li_9, li_10, li_11, li_12, li_13, li_15, li_16, li_18, li_19, li_20, li_21, li_22, li_23, li_24, li_25, li_26, li_28, li_29, li_30, li_31, li_32, li_33, li_39, li_40, li_41, li_42, li_43, li_44, li_45, li_47, li_48, li_57, li_59, li_60, li_61, li_80, li_88, li_97, li_99, li_122, li_130, li_167, li_255, li_256, li_400, li_408, li_420, li_1287, li_2000, li_9999, h1]
    obtain ⟨σ2, h2, k2, r2⟩ := ih (i + 1) f σ1 (TX_k hT k1 (tX_3 hst)) (OW_congr (fun k hk => (r1 k hk).symm) (OW_wk hO)) (by omega) (by omega)
    refine ⟨σ2, h2, k1.tr k2, fun k hk => ?_⟩
    rw [r2 k hk]
    simp only [wkI]
    exact wkI_congr hT.1 hT.2.1 n _ _ r1 k hk
theorem X_preachWeeks {σ : HS} {nm nf st N : Nat} {z l : Nat → Int32} {Ls : Nat → Lawt} (hst : isSt st) (sd : Int32) (hN : N ≤ 40) (hT : TX σ nm nf z l Ls) (hO : OW (rowC nm (σ.1 (st + 10))) nf) : ∃ σ', FX4_preachWeeks st (nI N) sd σ = some σ' ∧ kX [39, 40, st + 10] σ σ' ∧ ∀ k, k < 33 → rowC nm (σ'.1 (st + 10)) k = wkI sd Ls z l nm nf N (rowC nm (σ.1 (st + 10))) k :=
  X_weeks_3 hst sd hN N 0 fu σ hT hO (by omega) (by show N < 5000; omega)
