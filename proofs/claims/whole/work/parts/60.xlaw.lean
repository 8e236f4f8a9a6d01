/-! The class's laws. -/
def opX (k : Nat) : Nat := if k = 0 then 0 else if k = 1 then 1 else if k = 2 then 43 else if k = 3 then 45 else if k = 4 then 42 else 47
/-- how the class keeps a term -/
def XM (ops num : Nat → Int32) : Pg → Nat → Prop
  | [], _ => True
  | (k, n) :: p, i => ops i = nI (opX k) ∧ (k < 2 → num i = n) ∧ XM ops num p (i + 1)
theorem X_unit0 {x1 n : Int32} {C c t st f : Nat} {σ : HS} (hC : C ≤ 408) (h5 : σ.1 3 5 = nI C) (hc : c < C) (hst : st ≤ c) (ht : t < 16) (h27 : σ.1 27 c = nI 0) (h28 : σ.1 28 c = n) :
    FX2_resultOf_15 (f + 1) x1 (nI c) (nI t) (nI st) σ = FX2_resultOf_15 f x1 (nI (c + 1)) (nI (t + 1)) (nI (st + 1)) (pI σ 40 t n) := by
  rw [FX2_resultOf_15]
  simp (disch := omega) only [gdx, cl_nI, ↓reduceIte, if_true, if_false, ple_t, ple_f, plt_t, plt_f, peq_t, peq_f, nI_add, pk_mul, pk_sub, m1c, m2c, nlt_p, nle_p, nge_p, ngt_p, neq_p, neq_q, pI_o, pI_s, pk_us, pk_un, bdI_s, bdL_s, bdV_s, hl_, li_0, li_1, li_2, li_3, li_4, li_5, li_6, li_7, li_8, li_9, li_10, li_11, li_12, li_13, li_15, li_16, li_18, li_19, li_20, li_21, li_22, li_23, li_24, li_25, li_26, li_28, li_29, li_30, li_31, li_32, li_33, li_39, li_40, li_41, li_42, li_43, li_44, li_45, li_47, li_48, li_57, li_59, li_60, li_61, li_80, li_88, li_97, li_99, li_122, li_130, li_167, li_255, li_256, li_400, li_408, li_420, li_1287, li_2000, li_9999, h5, h27, h28, FX2_resultOf_70, FX2_resultOf_75, FX2_resultOf_90]
theorem X_unit1 {x1 : Int32} {C c t st f j : Nat} {σ : HS} (hC : C ≤ 408) (h5 : σ.1 3 5 = nI C) (hc : c < C) (hst : st ≤ c) (ht : t < 16) (h27 : σ.1 27 c = nI 1) (h28 : σ.1 28 c = nI j) (hj : j < 9) :
    FX2_resultOf_15 (f + 1) x1 (nI c) (nI t) (nI st) σ = FX2_resultOf_15 f x1 (nI (c + 1)) (nI (t + 1)) (nI (st + 1)) (pI σ 40 t (σ.1 39 j)) := by
  rw [FX2_resultOf_15]
  simp (disch := omega) only [gdx, cl_nI, ↓reduceIte, if_true, if_false, ple_t, ple_f, plt_t, plt_f, peq_t, peq_f, nI_add, pk_mul, pk_sub, m1c, m2c, nlt_p, nle_p, nge_p, ngt_p, neq_p, neq_q, pI_o, pI_s, pk_us, pk_un, bdI_s, bdL_s, bdV_s, hl_, li_0, li_1, li_2, li_3, li_4, li_5, li_6, li_7, li_8, li_9, li_10, li_11, li_12, li_13, li_15, li_16, li_18, li_19, li_20, li_21, li_22, li_23, li_24, li_25, li_26, li_28, li_29, li_30, li_31, li_32, li_33, li_39, li_40, li_41, li_42, li_43, li_44, li_45, li_47, li_48, li_57, li_59, li_60, li_61, li_80, li_88, li_97, li_99, li_122, li_130, li_167, li_255, li_256, li_400, li_408, li_420, li_1287, li_2000, li_9999, h5, h27, h28, FX2_resultOf_70, FX2_resultOf_75, FX2_resultOf_90]
theorem X_op {x1 a b : Int32} {C c t st f k : Nat} {σ : HS} (hC : C ≤ 408) (h5 : σ.1 3 5 = nI C) (hc : c < C) (hst : st ≤ c) (ht : t + 2 ≤ 16) (h2 : 2 ≤ k) (h6 : k < 6) (h27 : σ.1 27 c = nI (opX k)) (ha : σ.1 40 t = a) (hb : σ.1 40 (t + 1) = b) :
    FX2_resultOf_15 (f + 1) x1 (nI c) (nI (t + 2)) (nI st) σ = if k = 5 ∧ b = 0 then some (0, σ) else FX2_resultOf_15 f x1 (nI (c + 1)) (nI (t + 1)) (nI (st + 1)) (pI σ 40 t (op2 k a b)) := by
  have e1 : t + 2 - 1 = t + 1 := rfl
  have e2 : t + 1 - 1 = t := rfl
  have hk : k = 2 ∨ k = 3 ∨ k = 4 ∨ k = 5 := by omega
  rw [FX2_resultOf_15]
  rcases hk with rfl | rfl | rfl | rfl
  · rw [show opX 2 = 43 from rfl] at h27
    rw [if_neg (show ¬ (2 = 5 ∧ b = 0) from fun h => absurd h.1 (by decide))]
    simp (disch := omega) only [gdx, cl_nI, ↓reduceIte, if_true, if_false, ple_t, ple_f, plt_t, plt_f, peq_t, peq_f, nI_add, pk_mul, pk_sub, m1c, m2c, nlt_p, nle_p, nge_p, ngt_p, neq_p, neq_q, pI_o, pI_s, pk_us, pk_un, bdI_s, bdL_s, bdV_s, hl_, li_0, li_1, li_2, li_3, li_4, li_5, li_6, li_7, li_8, li_9, li_10, li_11, li_12, li_13, li_15, li_16, li_18, li_19, li_20, li_21, li_22, li_23, li_24, li_25, li_26, li_28, li_29, li_30, li_31, li_32, li_33, li_39, li_40, li_41, li_42, li_43, li_44, li_45, li_47, li_48, li_57, li_59, li_60, li_61, li_80, li_88, li_97, li_99, li_122, li_130, li_167, li_255, li_256, li_400, li_408, li_420, li_1287, li_2000, li_9999, h5, h27, FX2_resultOf_75, FX2_resultOf_90, FX2_resultOf_186, e1, e2, ha, hb, show op2 2 a b = a + b from rfl]
  · rw [show opX 3 = 45 from rfl] at h27
    rw [if_neg (show ¬ (3 = 5 ∧ b = 0) from fun h => absurd h.1 (by decide))]
    simp (disch := omega) only [gdx, cl_nI, ↓reduceIte, if_true, if_false, ple_t, ple_f, plt_t, plt_f, peq_t, peq_f, nI_add, pk_mul, pk_sub, m1c, m2c, nlt_p, nle_p, nge_p, ngt_p, neq_p, neq_q, pI_o, pI_s, pk_us, pk_un, bdI_s, bdL_s, bdV_s, hl_, li_0, li_1, li_2, li_3, li_4, li_5, li_6, li_7, li_8, li_9, li_10, li_11, li_12, li_13, li_15, li_16, li_18, li_19, li_20, li_21, li_22, li_23, li_24, li_25, li_26, li_28, li_29, li_30, li_31, li_32, li_33, li_39, li_40, li_41, li_42, li_43, li_44, li_45, li_47, li_48, li_57, li_59, li_60, li_61, li_80, li_88, li_97, li_99, li_122, li_130, li_167, li_255, li_256, li_400, li_408, li_420, li_1287, li_2000, li_9999, h5, h27, FX2_resultOf_75, FX2_resultOf_90, FX2_resultOf_186, e1, e2, ha, hb, show op2 3 a b = a - b from rfl]
  · rw [show opX 4 = 42 from rfl] at h27
    rw [if_neg (show ¬ (4 = 5 ∧ b = 0) from fun h => absurd h.1 (by decide))]
    simp (disch := omega) only [gdx, cl_nI, ↓reduceIte, if_true, if_false, ple_t, ple_f, plt_t, plt_f, peq_t, peq_f, nI_add, pk_mul, pk_sub, m1c, m2c, nlt_p, nle_p, nge_p, ngt_p, neq_p, neq_q, pI_o, pI_s, pk_us, pk_un, bdI_s, bdL_s, bdV_s, hl_, li_0, li_1, li_2, li_3, li_4, li_5, li_6, li_7, li_8, li_9, li_10, li_11, li_12, li_13, li_15, li_16, li_18, li_19, li_20, li_21, li_22, li_23, li_24, li_25, li_26, li_28, li_29, li_30, li_31, li_32, li_33, li_39, li_40, li_41, li_42, li_43, li_44, li_45, li_47, li_48, li_57, li_59, li_60, li_61, li_80, li_88, li_97, li_99, li_122, li_130, li_167, li_255, li_256, li_400, li_408, li_420, li_1287, li_2000, li_9999, h5, h27, FX2_resultOf_75, FX2_resultOf_90, FX2_resultOf_186, e1, e2, ha, hb, show op2 4 a b = a * b from rfl]
  · rw [show opX 5 = 47 from rfl] at h27
    by_cases hz : b = 0
    · rw [if_pos (show 5 = 5 ∧ b = 0 from ⟨rfl, hz⟩)]
      have hz' : (b = nI 0) = True := eq_true hz
      simp (disch := omega) only [gdx, cl_nI, ↓reduceIte, if_true, if_false, ple_t, ple_f, plt_t, plt_f, peq_t, peq_f, nI_add, pk_mul, pk_sub, m1c, m2c, nlt_p, nle_p, nge_p, ngt_p, neq_p, neq_q, pI_o, pI_s, pk_us, pk_un, bdI_s, bdL_s, bdV_s, hl_, li_0, li_1, li_2, li_3, li_4, li_5, li_6, li_7, li_8, li_9, li_10, li_11, li_12, li_13, li_15, li_16, li_18, li_19, li_20, li_21, li_22, li_23, li_24, li_25, li_26, li_28, li_29, li_30, li_31, li_32, li_33, li_39, li_40, li_41, li_42, li_43, li_44, li_45, li_47, li_48, li_57, li_59, li_60, li_61, li_80, li_88, li_97, li_99, li_122, li_130, li_167, li_255, li_256, li_400, li_408, li_420, li_1287, li_2000, li_9999, h5, h27, FX2_resultOf_75, FX2_resultOf_90, e1, e2, ha, hb, hz']
    · rw [if_neg (show ¬ (5 = 5 ∧ b = 0) from fun h => hz h.2)]
      have hz' : ¬ b = nI 0 := hz
      simp (disch := omega) only [gdx, cl_nI, ↓reduceIte, if_true, if_false, ple_t, ple_f, plt_t, plt_f, peq_t, peq_f, nI_add, pk_mul, pk_sub, m1c, m2c, nlt_p, nle_p, nge_p, ngt_p, neq_p, neq_q, pI_o, pI_s, pk_us, pk_un, bdI_s, bdL_s, bdV_s, hl_, li_0, li_1, li_2, li_3, li_4, li_5, li_6, li_7, li_8, li_9, li_10, li_11, li_12, li_13, li_15, li_16, li_18, li_19, li_20, li_21, li_22, li_23, li_24, li_25, li_26, li_28, li_29, li_30, li_31, li_32, li_33, li_39, li_40, li_41, li_42, li_43, li_44, li_45, li_47, li_48, li_57, li_59, li_60, li_61, li_80, li_88, li_97, li_99, li_122, li_130, li_167, li_255, li_256, li_400, li_408, li_420, li_1287, li_2000, li_9999, h5, h27, FX2_resultOf_75, FX2_resultOf_90, FX2_resultOf_186, e1, e2, ha, hb, if_neg hz', gd_t (show nz b = true from decide_eq_true hz), show op2 5 a b = a / b from rfl]
theorem X_term (v : Nat → Int32) (x1 : Int32) {C : Nat} (hC : C ≤ 408) (z : List Int32) (hz : z.length ≤ 1) : ∀ (p : Pg) (s : List Int32) (c d st f : Nat) (σ : HS), v = σ.1 39 → σ.1 3 5 = nI C → XM (σ.1 27) (σ.1 28) p c → dpP p s.length d → PM (σ.1 40) (s ++ z) → s.length ≤ 15 → c + p.length ≤ C → st ≤ c →
    ∃ σ', kX [40] σ σ' ∧ (match evP v p s with
      | some s' => FX2_resultOf_15 (f + p.length) x1 (nI c) (nI (s.length + z.length)) (nI st) σ = FX2_resultOf_15 f x1 (nI (c + p.length)) (nI (s'.length + z.length)) (nI (st + p.length)) σ' ∧ PM (σ'.1 40) (s' ++ z)
      | none => FX2_resultOf_15 (f + p.length) x1 (nI c) (nI (s.length + z.length)) (nI st) σ = some (0, σ')) := by
  intro p
  induction p with
  | nil => intro s c d st f σ hv h5 hX hd hP h15 hc hst; exact ⟨σ, kX.rf, rfl, hP⟩
  | cons q p ih =>
    obtain ⟨k, n⟩ := q
    intro s c d st f σ hv h5 hX hd hP h15 hc hst
    obtain ⟨hX1, hX2, hX3⟩ := hX
    simp only [List.length_cons] at hc
    have key : ∀ (s1 : List Int32) (σ1 : HS), kX [40] σ σ1 → FX2_resultOf_15 (f + p.length + 1) x1 (nI c) (nI (s.length + z.length)) (nI st) σ = FX2_resultOf_15 (f + p.length) x1 (nI (c + 1)) (nI (s1.length + z.length)) (nI (st + 1)) σ1 → evP v ((k, n) :: p) s = evP v p s1 → dpP p s1.length d → PM (σ1.1 40) (s1 ++ z) → s1.length ≤ 15 → ∃ σ', kX [40] σ σ' ∧ (match evP v ((k, n) :: p) s with
        | some s' => FX2_resultOf_15 (f + ((k, n) :: p).length) x1 (nI c) (nI (s.length + z.length)) (nI st) σ = FX2_resultOf_15 f x1 (nI (c + ((k, n) :: p).length)) (nI (s'.length + z.length)) (nI (st + ((k, n) :: p).length)) σ' ∧ PM (σ'.1 40) (s' ++ z)
        | none => FX2_resultOf_15 (f + ((k, n) :: p).length) x1 (nI c) (nI (s.length + z.length)) (nI st) σ = some (0, σ')) := by
      intro s1 σ1 k1 he hev hd1 hP1 hl1
      have e28 : σ1.1 28 = σ.1 28 := k1.1 28 (by decide)
      obtain ⟨σ', k2, h2⟩ := ih s1 (c + 1) d (st + 1) f σ1 (by rw [k1.1 39 (by decide)]; exact hv) (by rw [k1.1 3 (by decide)]; exact h5) (by rw [k1.1 27 (by decide), e28]; exact hX3) hd1 hP1 hl1 (by omega) (by omega)
      refine ⟨σ', k1.tr k2, ?_⟩
      rw [hev]
      simp only [List.length_cons]
      have e1 : f + (p.length + 1) = f + p.length + 1 := by omega
      have e2 : c + (p.length + 1) = c + 1 + p.length := by omega
      have e3 : st + (p.length + 1) = st + 1 + p.length := by omega
      rw [e1, e2, e3, he]
      exact h2
    by_cases k0 : k = 0
    · subst k0
      simp only [dpP, if_true] at hd
      refine key (n :: s) (pI σ 40 (s.length + z.length) n) (kX.p (by decide)) ?_ (by simp only [evP, if_true]) (by simpa using hd.2) ?_ (by simp; omega)
      · rw [X_unit0 hC h5 (by omega) hst (by omega) hX1 (hX2 (by omega))]
        congr 2
        simp only [List.length_cons]
        omega
      · rw [pI_1, if_pos rfl, List.cons_append, ← List.length_append]
        exact PM_push hP n
    · by_cases k1 : k = 1
      · subst k1
        simp only [dpP, if_true, Nat.one_ne_zero, if_false] at hd
        obtain ⟨hd1, ⟨j, hj, rfl⟩, hd2⟩ := hd
        have hcj : (nI j).toNatClampNeg = j := cl_nI (by omega)
        refine key (v j :: s) (pI σ 40 (s.length + z.length) (v j)) (kX.p (by decide)) ?_ (by simp only [evP, if_true, if_false, Nat.one_ne_zero, hcj]) (by simpa using hd2) ?_ (by simp; omega)
        · rw [X_unit1 hC h5 (by omega) hst (by omega) hX1 (hX2 (by omega)) hj, hv]
          congr 2
          simp only [List.length_cons]
          omega
        · rw [pI_1, if_pos rfl, List.cons_append, ← List.length_append]
          exact PM_push hP _
      · simp only [dpP, k0, k1, if_false] at hd
        obtain ⟨hk6, hd2, hd3⟩ := hd
        match s, hd2, hd3, hP, h15, key with
        | [], hd2, _, _, _, _ => simp at hd2
        | [a], hd2, _, _, _, _ => simp at hd2
        | b :: a :: s0, hd2, hd3, hP, h15, key =>
          have hP' : PM (σ.1 40) (b :: a :: (s0 ++ z)) := by simpa using hP
          obtain ⟨hb, ha⟩ := PM_0 hP'
          rw [List.length_append] at ha hb
          simp only [List.length_cons] at h15 hd3
          have ho := X_op (x1 := x1) (f := f + p.length) hC h5 (show c < C by omega) hst (t := s0.length + z.length) (by omega) (by omega) hk6 hX1 ha hb
          have el : s0.length + z.length + 2 = (b :: a :: s0).length + z.length := by simp only [List.length_cons]; omega
          rw [el] at ho
          by_cases hz0 : k = 5 ∧ b = 0
          · rw [if_pos hz0] at ho
            refine ⟨σ, kX.rf, ?_⟩
            have e9 : evP v ((k, n) :: p) (b :: a :: s0) = none := by
              simp only [evP, k0, k1, if_false]
              rw [if_pos hz0]
            rw [e9]
            exact ho
          · rw [if_neg hz0] at ho
            refine key (op2 k a b :: s0) (pI σ 40 (s0.length + z.length) (op2 k a b)) (kX.p (by decide)) ?_ ?_ (by simpa using hd3) ?_ (by simp; omega)
            · rw [ho]
              congr 2
              simp only [List.length_cons]
              omega
            · simp only [evP, k0, k1, if_false]
              rw [if_neg hz0]
            · rw [pI_1, if_pos rfl, List.cons_append, ← List.length_append]
              exact PM_pop hP' _
/-- a term from an empty pile, or on one number -/
theorem X_tm (x1 : Int32) {v : Nat → Int32} {C : Nat} (hC : C ≤ 408) {z : List Int32} (hz : z.length ≤ 1) {p : Pg} {c st f : Nat} {σ : HS} (hv : v = σ.1 39) (h5 : σ.1 3 5 = nI C) (hX : XM (σ.1 27) (σ.1 28) p c) (hd : dpP p 0 1) (hP : PM (σ.1 40) z) (hc : c + p.length ≤ C) (hst : st ≤ c) :
    ∃ σ', kX [40] σ σ' ∧ (match tmV v p with
      | some w => FX2_resultOf_15 (f + p.length) x1 (nI c) (nI z.length) (nI st) σ = FX2_resultOf_15 f x1 (nI (c + p.length)) (nI (z.length + 1)) (nI (st + p.length)) σ' ∧ PM (σ'.1 40) (w :: z)
      | none => FX2_resultOf_15 (f + p.length) x1 (nI c) (nI z.length) (nI st) σ = some (0, σ')) := by
  obtain ⟨σ', h1, h2⟩ := X_term v x1 hC z hz p [] c 1 st f σ hv h5 hX hd hP (by simp) hc hst
  refine ⟨σ', h1, ?_⟩
  simp only [List.length_nil, Nat.zero_add] at h2
  unfold tmV
  cases hE : evP v p [] with
  | none => rw [hE] at h2; exact h2
  | some s' =>
    rw [hE] at h2
    have hl := evP_len v p [] s' 1 hd hE
    match s', hl, h2 with
    | [w], _, h2 =>
      refine ⟨?_, h2.2⟩
      rw [h2.1]
      congr 2
      simp only [List.length_cons, List.length_nil]
      omega
theorem X_answer {x1 : Int32} {C c t st f : Nat} {σ : HS} (hC : C ≤ 408) (h5 : σ.1 3 5 = nI C) (hc : c < C) (hst : st ≤ c) (ht : t < 16) (h27 : σ.1 27 c = nI 3) :
    FX2_resultOf_15 (f + 1) x1 (nI c) (nI (t + 1)) (nI st) σ = some (σ.1 40 t, σ) := by
  have e2 : t + 1 - 1 = t := rfl
  rw [FX2_resultOf_15]
  simp (disch := omega) only [gdx, cl_nI, ↓reduceIte, if_true, if_false, ple_t, ple_f, plt_t, plt_f, peq_t, peq_f, nI_add, pk_mul, pk_sub, m1c, m2c, nlt_p, nle_p, nge_p, ngt_p, neq_p, neq_q, pI_o, pI_s, pk_us, pk_un, bdI_s, bdL_s, bdV_s, hl_, li_0, li_1, li_2, li_3, li_4, li_5, li_6, li_7, li_8, li_9, li_10, li_11, li_12, li_13, li_15, li_16, li_18, li_19, li_20, li_21, li_22, li_23, li_24, li_25, li_26, li_28, li_29, li_30, li_31, li_32, li_33, li_39, li_40, li_41, li_42, li_43, li_44, li_45, li_47, li_48, li_57, li_59, li_60, li_61, li_80, li_88, li_97, li_99, li_122, li_130, li_167, li_255, li_256, li_400, li_408, li_420, li_1287, li_2000, li_9999, h5, h27, FX2_resultOf_75, FX2_resultOf_90, e2]
theorem X_test {x1 : Int32} {C c st f g : Nat} {σ : HS} (hC : C ≤ 408) (h5 : σ.1 3 5 = nI C) (hc : c < C) (hst : st ≤ c) (h27 : σ.1 27 c = nI 2) (h28 : σ.1 28 c = nI g) (hg : c < g) (hg2 : g ≤ C) :
    FX2_resultOf_15 (f + 1) x1 (nI c) (nI 2) (nI st) σ = FX2_resultOf_15 f x1 (nI (if σ.1 40 0 < σ.1 40 1 then c + 1 else g)) (nI 0) (nI (st + 1)) σ := by
  rw [FX2_resultOf_15]
  simp (disch := omega) only [gdx, cl_nI, ↓reduceIte, if_true, if_false, ple_t, ple_f, plt_t, plt_f, peq_t, peq_f, nI_add, pk_mul, pk_sub, m1c, m2c, nlt_p, nle_p, nge_p, ngt_p, neq_p, neq_q, pI_o, pI_s, pk_us, pk_un, bdI_s, bdL_s, bdV_s, hl_, li_0, li_1, li_2, li_3, li_4, li_5, li_6, li_7, li_8, li_9, li_10, li_11, li_12, li_13, li_15, li_16, li_18, li_19, li_20, li_21, li_22, li_23, li_24, li_25, li_26, li_28, li_29, li_30, li_31, li_32, li_33, li_39, li_40, li_41, li_42, li_43, li_44, li_45, li_47, li_48, li_57, li_59, li_60, li_61, li_80, li_88, li_97, li_99, li_122, li_130, li_167, li_255, li_256, li_400, li_408, li_420, li_1287, li_2000, li_9999, h5, h27, h28, FX2_resultOf_75, FX2_resultOf_90, FX2_resultOf_186, Nat.reduceSub, Nat.reduceAdd]
  by_cases hlt : σ.1 40 0 < σ.1 40 1
  · rw [if_pos hlt, if_pos hlt]
  · rw [if_neg hlt, if_neg hlt]
/-- how the class keeps a law, from code i on; C: all codes -/
def LawX (ops num : Nat → Int32) (C : Nat) : List (Pg × Pg × Pg) → Pg → Nat → Prop
  | [], f, i => XM ops num f i ∧ dpP f 0 1 ∧ ops (i + f.length) = nI 3 ∧ i + f.length < C
  | (a, b, t) :: r, f, i => (XM ops num a i ∧ XM ops num b (i + a.length) ∧ ops (i + a.length + b.length) = nI 2 ∧ num (i + a.length + b.length) = nI (i + a.length + b.length + 1 + t.length + 1) ∧ XM ops num t (i + a.length + b.length + 1) ∧ ops (i + a.length + b.length + 1 + t.length) = nI 3) ∧ (dpP a 0 1 ∧ dpP b 0 1 ∧ dpP t 0 1) ∧ i + a.length + b.length + 1 + t.length < C ∧ LawX ops num C r f (i + a.length + b.length + 1 + t.length + 1)
theorem LawX_lt {ops num : Nat → Int32} {C : Nat} : ∀ (r : List (Pg × Pg × Pg)) (g : Pg) (i : Nat), LawX ops num C r g i → i < C := by
  intro r g i h
  cases r with
  | nil => have := h.2.2.2; omega
  | cons q r => obtain ⟨a, b, t⟩ := q; have := h.2.2.1; omega
theorem X_lawGo (x1 : Int32) {v : Nat → Int32} {C : Nat} (hC : C ≤ 408) : ∀ (r : List (Pg × Pg × Pg)) (g : Pg) (i st f : Nat) (σ : HS), v = σ.1 39 → σ.1 3 5 = nI C → LawX (σ.1 27) (σ.1 28) C r g i → st ≤ i → f + st = 5000 →
    ∃ σ', FX2_resultOf_15 f x1 (nI i) (nI 0) (nI st) σ = some (lawV v r g, σ') ∧ kX [40] σ σ' := by
  intro r
  induction r with
  | nil =>
    intro g i st f σ hv h5 hL hst hf
    obtain ⟨l1, l2, l3, l4⟩ := hL
    obtain ⟨f, rfl⟩ : ∃ z, f = z + 1 + g.length := ⟨f - 1 - g.length, by omega⟩
    obtain ⟨σ1, k1, h1⟩ := X_tm x1 (v := v) hC (z := []) (by simp) (st := st) (f := f + 1) hv h5 l1 l2 (fun j hj => by simp at hj) (by omega) hst
    simp only [lawV]
    simp only [List.length_nil] at h1
    cases hE : tmV v g with
    | none => rw [hE] at h1; exact ⟨σ1, h1, k1⟩
    | some w =>
      rw [hE] at h1
      rw [h1.1, X_answer hC (by rw [k1.1 3 (by decide)]; exact h5) (by omega) (by omega) (by omega) (by rw [k1.1 27 (by decide)]; exact l3)]
      refine ⟨σ1, ?_, k1⟩
      have := h1.2 0 (by simp)
      simp at this
      rw [this]
      rfl
  | cons q r ih =>
    obtain ⟨a, b, t⟩ := q
    intro g i st f σ hv h5 hL hst hf
    obtain ⟨⟨l1, l2, l3, l4, l5, l6⟩, ⟨d1, d2, d3⟩, l7, l8⟩ := hL
    have l9 := LawX_lt _ _ _ l8
    obtain ⟨f1, rfl⟩ : ∃ z, f = z + a.length := ⟨f - a.length, by omega⟩
    obtain ⟨σ1, k1, h1⟩ := X_tm x1 (v := v) hC (z := []) (by simp) (st := st) (f := f1) hv h5 l1 d1 (fun j hj => by simp at hj) (by omega) hst
    simp only [lawV]
    simp only [List.length_nil] at h1
    cases hE : tmV v a with
    | none => rw [hE] at h1; exact ⟨σ1, h1, k1⟩
    | some x =>
      rw [hE] at h1
      obtain ⟨h1, p1⟩ := h1
      rw [h1]
      obtain ⟨f2, rfl⟩ : ∃ z, f1 = z + 1 + b.length := ⟨f1 - 1 - b.length, by omega⟩
      obtain ⟨σ2, k2, h2⟩ := X_tm x1 (v := v) hC (z := [x]) (by simp) (σ := σ1) (st := st + a.length) (f := f2 + 1) (by rw [k1.1 39 (by decide)]; exact hv) (by rw [k1.1 3 (by decide)]; exact h5) (by rw [k1.1 27 (by decide), k1.1 28 (by decide)]; exact l2) d2 p1 (by omega) (by omega)
      simp only [List.length_cons, List.length_nil] at h2
      cases hE2 : tmV v b with
      | none => rw [hE2] at h2; exact ⟨σ2, h2, k1.tr k2⟩
      | some y =>
        rw [hE2] at h2
        obtain ⟨h2, p2⟩ := h2
        have k12 := k1.tr k2
        rw [h2]
        have ht := X_test (x1 := x1) (σ := σ2) (st := st + a.length + b.length) (f := f2) hC (by rw [k12.1 3 (by decide)]; exact h5) (show i + a.length + b.length < C by omega) (by omega) (by rw [k12.1 27 (by decide)]; exact l3) (by rw [k12.1 28 (by decide)]; exact l4) (by omega) (by omega)
        have q0 := p2 0 (by simp)
        have q1 := p2 1 (by simp)
        simp at q0 q1
        rw [q0, q1] at ht
        rw [show (0 + 1 + 1 : Nat) = 2 from rfl, ht]
        dsimp only
        by_cases hxy : x < y
        · rw [if_pos hxy, if_pos hxy]
          obtain ⟨f3, rfl⟩ : ∃ z, f2 = z + 1 + t.length := ⟨f2 - 1 - t.length, by omega⟩
          obtain ⟨σ3, k3, h3⟩ := X_tm x1 (v := v) hC (z := []) (by simp) (σ := σ2) (st := st + a.length + b.length + 1) (f := f3 + 1) (by rw [k12.1 39 (by decide)]; exact hv) (by rw [k12.1 3 (by decide)]; exact h5) (by rw [k12.1 27 (by decide), k12.1 28 (by decide)]; exact l5) d3 (fun j hj => by simp at hj) (by omega) (by omega)
          simp only [List.length_nil] at h3
          cases hE3 : tmV v t with
          | none => rw [hE3] at h3; exact ⟨σ3, h3, k12.tr k3⟩
          | some w =>
            rw [hE3] at h3
            have k13 := k12.tr k3
            rw [h3.1, X_answer hC (by rw [k13.1 3 (by decide)]; exact h5) (by omega) (by omega) (by omega) (by rw [k13.1 27 (by decide)]; exact l6)]
            refine ⟨σ3, ?_, k13⟩
            have := h3.2 0 (by simp)
            simp at this
            rw [this]
            rfl
        · rw [if_neg hxy, if_neg hxy]
          obtain ⟨σ3, h3, k3⟩ := ih g _ (st + a.length + b.length + 1) f2 σ2 (by rw [k12.1 39 (by decide)]; exact hv) (by rw [k12.1 3 (by decide)]; exact h5) (by rw [k12.1 27 (by decide), k12.1 28 (by decide)]; exact l8) (by omega) (by omega)
          exact ⟨σ3, h3, k12.tr k3⟩
