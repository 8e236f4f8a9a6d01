/-- the row copied, falls filled: both sides ready for a question -/
theorem ready {n : Nat} {σX σM : HS} {side nm nf : Nat} {z l : Nat → Int32} {Ls : Nat → Lawt} (hT : TX σX nm nf z l Ls) (hM : MM σM side nm nf Ls) (r : RR nm (σX.1 14) (σM.1 31)) (hR : Rel n σX σM) : ∃ σa σb, FX0_weigh 4 σX = some σa ∧ FX12_copiesFalls σM = some σb ∧ qX σX σa ∧ qM σM σb ∧ kX [8, 39, 40, 41, 42] σX σa ∧ WX σa (qF (Ls 0) (σM.1 31)) nm ∧ MQs σb side nm nf Ls (σM.1 31) ∧ TX σa nm nf z l Ls ∧ RR nm (σa.1 14) (σM.1 31) ∧ σb.1 12 = σM.1 12 ∧ σb.1 13 = σM.1 13 := by
  obtain ⟨σa, ha, ka, wa⟩ := X_weighG (st := 4) (G := σM.1 31) hT st_4 r
  obtain ⟨σb, hb, kb, qb, -⟩ := M_copiesFalls hM
  exact ⟨σa, σb, ha, hb, qX.of ka (by decide), kb.up (by decide) (by decide), ka, wa, qb, TX_k hT ka tX_w, by rw [ka.1 14 (by decide)]; exact r, kb.1 12 (by decide) (by decide), kb.1 13 (by decide) (by decide)⟩
theorem M_oddsOf {σ : HS} {side nm nf p : Nat} {Ls : Nat → Lawt} {G : Nat → Int32} (hQ : MQs σ side nm nf Ls G) (hp : p ≤ 8) : FX12_oddsOf (nI p) σ = some (nI (odN (qF (Ls 0) G) nm p), σ) := by
  have hnm := hQ.1.2.2.1
  unfold FX12_oddsOf odN
  rw [M_many hQ.1, bdI_s]
  by_cases h0 : nm = 0
  · subst h0
    by_cases hp0 : p = 0
    · subst hp0; simp (disch := omega) only [gdx, cl_nI, ↓reduceIte, if_true, if_false, ple_t, ple_f, plt_t, plt_f, peq_t, peq_f, nI_add, pk_mul, pk_sub, m1c, m2c, nlt_p, nle_p, nge_p, ngt_p, neq_p, neq_q, pI_o, pI_s, pk_us, pk_un, bdI_s, bdL_s, bdV_s, hl_, li_0, li_1, li_2, li_3, li_4, li_5, li_6, li_7, li_8, li_9, li_10, li_11, li_12, li_13, li_15, li_16, li_18, li_19, li_20, li_21, li_22, li_23, li_24, li_25, li_26, li_28, li_29, li_30, li_31, li_32, li_33, li_39, li_40, li_41, li_42, li_43, li_44, li_45, li_47, li_48, li_57, li_59, li_60, li_61, li_80, li_88, li_97, li_99, li_122, li_130, li_167, li_255, li_256, li_400, li_408, li_420, li_1287, li_2000, li_9999]
    · simp (disch := omega) only [gdx, cl_nI, ↓reduceIte, if_true, if_false, ple_t, ple_f, plt_t, plt_f, peq_t, peq_f, nI_add, pk_mul, pk_sub, m1c, m2c, nlt_p, nle_p, nge_p, ngt_p, neq_p, neq_q, pI_o, pI_s, pk_us, pk_un, bdI_s, bdL_s, bdV_s, hl_, li_0, li_1, li_2, li_3, li_4, li_5, li_6, li_7, li_8, li_9, li_10, li_11, li_12, li_13, li_15, li_16, li_18, li_19, li_20, li_21, li_22, li_23, li_24, li_25, li_26, li_28, li_29, li_30, li_31, li_32, li_33, li_39, li_40, li_41, li_42, li_43, li_44, li_45, li_47, li_48, li_57, li_59, li_60, li_61, li_80, li_88, li_97, li_99, li_122, li_130, li_167, li_255, li_256, li_400, li_408, li_420, li_1287, li_2000, li_9999, if_neg hp0]
  · by_cases hp0 : p = 0
    · subst hp0; simp (disch := omega) only [gdx, cl_nI, ↓reduceIte, if_true, if_false, ple_t, ple_f, plt_t, plt_f, peq_t, peq_f, nI_add, pk_mul, pk_sub, m1c, m2c, nlt_p, nle_p, nge_p, ngt_p, neq_p, neq_q, pI_o, pI_s, pk_us, pk_un, bdI_s, bdL_s, bdV_s, hl_, li_0, li_1, li_2, li_3, li_4, li_5, li_6, li_7, li_8, li_9, li_10, li_11, li_12, li_13, li_15, li_16, li_18, li_19, li_20, li_21, li_22, li_23, li_24, li_25, li_26, li_28, li_29, li_30, li_31, li_32, li_33, li_39, li_40, li_41, li_42, li_43, li_44, li_45, li_47, li_48, li_57, li_59, li_60, li_61, li_80, li_88, li_97, li_99, li_122, li_130, li_167, li_255, li_256, li_400, li_408, li_420, li_1287, li_2000, li_9999, if_neg h0]
    · rw [if_neg h0, if_neg hp0]
      have h := hQ.2.2.2 (by omega) (nm - 1) (p - 1) (by omega) (by omega)
      rw [if_pos (by omega)] at h
      simp (disch := omega) only [gdx, cl_nI, ↓reduceIte, if_true, if_false, ple_t, ple_f, plt_t, plt_f, peq_t, peq_f, nI_add, pk_mul, pk_sub, m1c, m2c, nlt_p, nle_p, nge_p, ngt_p, neq_p, neq_q, pI_o, pI_s, pk_us, pk_un, bdI_s, bdL_s, bdV_s, hl_, li_0, li_1, li_2, li_3, li_4, li_5, li_6, li_7, li_8, li_9, li_10, li_11, li_12, li_13, li_15, li_16, li_18, li_19, li_20, li_21, li_22, li_23, li_24, li_25, li_26, li_28, li_29, li_30, li_31, li_32, li_33, li_39, li_40, li_41, li_42, li_43, li_44, li_45, li_47, li_48, li_57, li_59, li_60, li_61, li_80, li_88, li_97, li_99, li_122, li_130, li_167, li_255, li_256, li_400, li_408, li_420, li_1287, li_2000, li_9999, M_many hQ.1]
      rw [show 8 * nm - 8 + p - 1 = 8 * (nm - 1) + (p - 1) by omega, h]
theorem sT_14 : St_14 Rel := by
  intro n σX σM hn hR x1
  obtain ⟨side, nm, nf, z, l, sd, Ls, t, r, v, p, s, w, e, pl, ky⟩ := id hR
  obtain ⟨hT, hsd, hM, hzl, hsM⟩ := t
  have hnm := hT.1
  have hnf := hT.2.1
  have h30 := hT.2.2.1
  have h31 := hT.2.2.2.1
  rcases rngT x1 8 (by omega) with ⟨q, hq, rfl⟩ | ho
  · obtain ⟨σa, σb, ha, hb, qa, qb, ka, wa, Qb, Ta, ra, e12, e13⟩ := ready hT hM r hR
    refine ⟨nI (odN (qF (Ls 0) (σM.1 31)) nm q), σa, σb, ?_, ?_, Rel_q hR qa qb⟩
    · simp only [FX11_odds, show FX11_within (nI q) 0 8 σX = some (1, σX) from X_wi_i (n := 8) (by omega) hq, bdI_s, one_ne, if_false, ha, bdV_s, X_casesOfParts wa Ta.2.2.1 hnm hq]
    · simp only [FX12_odds, show FX12_in (nI q) 0 8 σM = some (1, σM) from M_in_i (n := 8) (by omega) hq, bdI_s, one_ne, if_false, hb, bdV_s, M_oddsOf Qb hq]
  · exact ⟨-1, σX, σM, by simp only [FX11_odds, show FX11_within x1 0 8 σX = some (0, σX) from X_wi_o ho, bdI_s, if_true], by simp only [FX12_odds, show FX12_in x1 0 8 σM = some (0, σM) from M_in_o ho, bdI_s, if_true], Rel_q hR qX.rf kM.rf⟩
theorem sT_15 : St_15 Rel := by
  intro n σX σM hn hR x1 x2
  obtain ⟨side, nm, nf, z, l, sd, Ls, t, r, v, p, s, w, e, pl, ky⟩ := id hR
  obtain ⟨hT, hsd, hM, hzl, hsM⟩ := t
  have hnm := hT.1
  have hnf := hT.2.1
  have h30 := hT.2.2.1
  have h31 := hT.2.2.2.1
  rcases rng x1 nm (by omega) with ⟨m, hm, rfl⟩ | ho
  · have XJ := X_isMinute_i h30 hnm hm
    have MJ := M_isMinute_i hM hm
    rcases rng x2 8 (by omega) with ⟨q, hq, rfl⟩ | ho
    · obtain ⟨σa, σb, ha, hb, qa, qb, ka, wa, Qb, Ta, ra, e12, e13⟩ := ready hT hM r hR
      have h := Qb.2.2.2 (by omega) m q (by omega) hq
      rw [if_pos hm] at h
      refine ⟨nI (fwN (qF (Ls 0) (σM.1 31)) nm m q), σa, σb, ?_, ?_, Rel_q hR qa qb⟩
      · simp only [FX11_falls, XJ, X_isPart_i hq, bdI_s, one_ne, if_false, ha, bdV_s, X_casesIn wa hm hnm hq]
      · simp only [FX12_falls, MJ, M_isPart_i hq, bdI_s, one_ne, if_false, hb, bdV_s]
        simp (disch := omega) only [gdx, cl_nI, ↓reduceIte, if_true, if_false, ple_t, ple_f, plt_t, plt_f, peq_t, peq_f, nI_add, pk_mul, pk_sub, m1c, m2c, nlt_p, nle_p, nge_p, ngt_p, neq_p, neq_q, pI_o, pI_s, pk_us, pk_un, bdI_s, bdL_s, bdV_s, hl_, li_0, li_1, li_2, li_3, li_4, li_5, li_6, li_7, li_8, li_9, li_10, li_11, li_12, li_13, li_15, li_16, li_18, li_19, li_20, li_21, li_22, li_23, li_24, li_25, li_26, li_28, li_29, li_30, li_31, li_32, li_33, li_39, li_40, li_41, li_42, li_43, li_44, li_45, li_47, li_48, li_57, li_59, li_60, li_61, li_80, li_88, li_97, li_99, li_122, li_130, li_167, li_255, li_256, li_400, li_408, li_420, li_1287, li_2000, li_9999, h]
    · exact ⟨-1, σX, σM, by simp only [FX11_falls, XJ, X_isPart_o ho, bdI_s, one_ne, if_false, if_true], by simp only [FX12_falls, MJ, M_isPart_o ho, bdI_s, one_ne, if_false, if_true], Rel_q hR qX.rf kM.rf⟩
  · exact ⟨-1, σX, σM, by simp only [FX11_falls, X_isMinute_o h30 ho, bdI_s, if_true], by simp only [FX12_falls, M_isMinute_o hM ho, bdI_s, if_true], Rel_q hR qX.rf kM.rf⟩
theorem sT_16 : St_16 Rel := by
  intro n σX σM hn hR x1 x2
  obtain ⟨side, nm, nf, z, l, sd, Ls, t, r, v, p, s, w, e, pl, ky⟩ := id hR
  obtain ⟨hT, hsd, hM, hzl, hsM⟩ := t
  have hnm := hT.1
  have hnf := hT.2.1
  have h30 := hT.2.2.1
  have h31 := hT.2.2.2.1
  rcases rng x1 nf (by omega) with ⟨f, hf, rfl⟩ | ho
  · have XI := X_isFamily_i h31 hnf hf
    have MI := M_isFamily_i hM hf
    rcases rng x2 8 (by omega) with ⟨q, hq, rfl⟩ | ho
    · obtain ⟨σa, σb, ha, hb, qa, qb, ka, wa, Qb, Ta, ra, e12, e13⟩ := ready hT hM r hR
      obtain ⟨σc, hc, kc⟩ := X_value1 (st := 4) st_4 hf hq Ta ra wa
      obtain ⟨σd, hd, kd⟩ := M_valueOf hf hq Qb
      rw [e12, e13, (hzl f hf).1, (hzl f hf).2] at hd
      refine ⟨_, σc, σd, Eq.trans ?_ hc, Eq.trans ?_ hd, Rel_q hR (qa.tr (qX.of kc (by decide))) (qb.tr (kd.up (by decide) (by decide)))⟩
      · simp only [FX11_value, XI, X_isPart_i hq, bdI_s, one_ne, if_false, ha, bdV_s, bdI_id]
      · simp only [FX12_value, MI, M_isPart_i hq, bdI_s, one_ne, if_false, hb, bdV_s, bdI_id]
    · exact ⟨-1, σX, σM, by simp only [FX11_value, XI, X_isPart_o ho, bdI_s, one_ne, if_false, if_true], by simp only [FX12_value, MI, M_isPart_o ho, bdI_s, one_ne, if_false, if_true], Rel_q hR qX.rf kM.rf⟩
  · exact ⟨-1, σX, σM, by simp only [FX11_value, X_isFamily_o h31 ho, bdI_s, if_true], by simp only [FX12_value, M_isFamily_o hM ho, bdI_s, if_true], Rel_q hR qX.rf kM.rf⟩
/-- haveIn of the class -/
theorem X_haveIn {σ : HS} {nm nf st f : Nat} {z l : Nat → Int32} {Ls : Nat → Lawt} {G : Nat → Int32} (hT : TX σ nm nf z l Ls) (hst : isSt st) (hf : f < nf) (hG : RR nm (σ.1 (st + 10)) G) : ∃ σ', FX11_haveIn st (nI f) σ = some (haF Ls G (z f) (l f) nm f, σ') ∧ kX [8, 39, 40, 41, 42] σ σ' := by
  obtain ⟨σ1, h1, k1, w1⟩ := X_weighG hT hst hG
  obtain ⟨σ2, h2, k2⟩ := X_haveG hst hf (TX_k hT k1 tX_w) (by rw [k1.1 _ (st_nw hst)]; exact hG) w1
  refine ⟨σ2, ?_, k1.tr (k2.up (by decide))⟩
  unfold FX11_haveIn
  rw [h1, bdV_s]
  simp only [bdI_id]
  exact h2
theorem sT_17 : St_17 Rel := by
  intro n σX σM hn hR x1
  obtain ⟨side, nm, nf, z, l, sd, Ls, t, r, v, p, s, w, e, pl, ky⟩ := id hR
  obtain ⟨hT, hsd, hM, hzl, hsM⟩ := t
  have hnm := hT.1
  have hnf := hT.2.1
  have h30 := hT.2.2.1
  have h31 := hT.2.2.2.1
  rcases rng x1 nf (by omega) with ⟨f, hf, rfl⟩ | ho
  · have XI := X_isFamily_i h31 hnf hf
    have MI := M_isFamily_i hM hf
    obtain ⟨σa, ha, ka⟩ := X_haveIn (st := 4) hT st_4 hf r
    obtain ⟨σb, hb, kb, Qb, -⟩ := M_copiesFalls hM
    obtain ⟨σd, hd, kd⟩ := M_haveOf hf Qb
    rw [kb.1 12 (by decide) (by decide), kb.1 13 (by decide) (by decide), (hzl f hf).1, (hzl f hf).2] at hd
    refine ⟨_, σa, σd, Eq.trans ?_ ha, Eq.trans ?_ hd, Rel_q hR (qX.of ka (by decide)) (kM.tr (kb.up (by decide) (by decide)) (kd.up (by decide) (by decide)))⟩
    · simp only [FX11_have, XI, bdI_s, one_ne, if_false, bdI_id]
    · simp only [FX12_have, MI, bdI_s, one_ne, if_false, hb, bdV_s, bdI_id]
  · exact ⟨-1, σX, σM, by simp only [FX11_have, X_isFamily_o h31 ho, bdI_s, if_true], by simp only [FX12_have, M_isFamily_o hM ho, bdI_s, if_true], Rel_q hR qX.rf kM.rf⟩
theorem mode_go {σa σb : HS} {side nm nf m : Nat} {Ls : Nat → Lawt} {G : Nat → Int32} (x2 : Int32) (hnm : nm ≤ 10) (hm : m < nm) (wa : WX σa (qF (Ls 0) G) nm) (Qb : MQs σb side nm nf Ls G) : ∀ (n p b f : Nat), p + n = 8 → b < 8 → n < f → ∃ v, FX11_mode_35 f (nI m) x2 (nI b) (nI p) σa = some (v, σa) ∧ FX12_mode_28 f (nI m) x2 (nI b) (nI p) σb = some (v, σb) := by
  intro n
  have hv : ∀ p, p < 8 → σb.1 35 (8 * m + p) = nI (fwN (qF (Ls 0) G) nm m p) := by
    intro p hp
    have h := Qb.2.2.2 (by omega) m p (by omega) hp
    rw [if_pos hm] at h
    exact h
  induction n with
  | zero =>
    intro p b f hp hb hf
    obtain ⟨f, rfl⟩ : ∃ z, f = z + 1 := ⟨f - 1, by omega⟩
    rw [FX11_mode_35, FX12_mode_28]
    simp (disch := omega) only [gdx, cl_nI, ↓reduceIte, if_true, if_false, ple_t, ple_f, plt_t, plt_f, peq_t, peq_f, nI_add, pk_mul, pk_sub, m1c, m2c, nlt_p, nle_p, nge_p, ngt_p, neq_p, neq_q, pI_o, pI_s, pk_us, pk_un, bdI_s, bdL_s, bdV_s, hl_, li_0, li_1, li_2, li_3, li_4, li_5, li_6, li_7, li_8, li_9, li_10, li_11, li_12, li_13, li_15, li_16, li_18, li_19, li_20, li_21, li_22, li_23, li_24, li_25, li_26, li_28, li_29, li_30, li_31, li_32, li_33, li_39, li_40, li_41, li_42, li_43, li_44, li_45, li_47, li_48, li_57, li_59, li_60, li_61, li_80, li_88, li_97, li_99, li_122, li_130, li_167, li_255, li_256, li_400, li_408, li_420, li_1287, li_2000, li_9999, hv, X_casesIn wa hm hnm hb]
    by_cases h0 : x2 = nI 0
    · simp only [h0, if_true]; exact ⟨_, rfl, rfl⟩
    · simp only [h0, if_false]; exact ⟨_, rfl, rfl⟩
  | succ n ih =>
    intro p b f hp hb hf
    obtain ⟨f, rfl⟩ : ∃ z, f = z + 1 := ⟨f - 1, by omega⟩
    rw [FX11_mode_35, FX12_mode_28]
    simp (disch := omega) only [gdx, cl_nI, ↓reduceIte, if_true, if_false, ple_t, ple_f, plt_t, plt_f, peq_t, peq_f, nI_add, pk_mul, pk_sub, m1c, m2c, nlt_p, nle_p, nge_p, ngt_p, neq_p, neq_q, pI_o, pI_s, pk_us, pk_un, bdI_s, bdL_s, bdV_s, hl_, li_0, li_1, li_2, li_3, li_4, li_5, li_6, li_7, li_8, li_9, li_10, li_11, li_12, li_13, li_15, li_16, li_18, li_19, li_20, li_21, li_22, li_23, li_24, li_25, li_26, li_28, li_29, li_30, li_31, li_32, li_33, li_39, li_40, li_41, li_42, li_43, li_44, li_45, li_47, li_48, li_57, li_59, li_60, li_61, li_80, li_88, li_97, li_99, li_122, li_130, li_167, li_255, li_256, li_400, li_408, li_420, li_1287, li_2000, li_9999, hv, X_casesIn wa hm hnm hb, X_casesIn wa hm hnm (show p < 8 by omega)]
    by_cases h0 : nI (fwN (qF (Ls 0) G) nm m p) ≤ nI (fwN (qF (Ls 0) G) nm m b)
    · simp only [h0, if_true]; exact ih (p + 1) b f (by omega) hb (by omega)
    · simp only [h0, if_false]; exact ih (p + 1) p f (by omega) (by omega) (by omega)
theorem sT_18 : St_18 Rel := by
  intro n σX σM hn hR x1 x2
  obtain ⟨side, nm, nf, z, l, sd, Ls, t, r, v, p, s, w, e, pl, ky⟩ := id hR
  obtain ⟨hT, hsd, hM, hzl, hsM⟩ := t
  have hnm := hT.1
  have hnf := hT.2.1
  have h30 := hT.2.2.1
  have h31 := hT.2.2.2.1
  rcases rng x1 nm (by omega) with ⟨m, hm, rfl⟩ | ho
  · have XJ := X_isMinute_i h30 hnm hm
    have MJ := M_isMinute_i hM hm
    rcases rngT x2 1 (by omega) with ⟨q, hq, rfl⟩ | ho
    · obtain ⟨σa, σb, ha, hb, qa, qb, ka, wa, Qb, Ta, ra, e12, e13⟩ := ready hT hM r hR
      obtain ⟨y, h1, h2⟩ := mode_go (nI q) hnm hm wa Qb 7 1 0 fu (by omega) (by omega) (by show 7 < 5000; omega)
      refine ⟨y, σa, σb, ?_, ?_, Rel_q hR qa qb⟩
      · simp only [FX11_mode, XJ, show FX11_within (nI q) 0 1 σX = some (1, σX) from X_wi_i (n := 1) (by omega) hq, bdI_s, one_ne, if_false, ha, bdV_s]
        exact h1
      · simp only [FX12_mode, MJ, show FX12_in (nI q) 0 1 σM = some (1, σM) from M_in_i (n := 1) (by omega) hq, bdI_s, one_ne, if_false, hb, bdV_s]
        exact h2
    · exact ⟨-1, σX, σM, by simp only [FX11_mode, XJ, show FX11_within x2 0 1 σX = some (0, σX) from X_wi_o ho, bdI_s, one_ne, if_false, if_true], by simp only [FX12_mode, MJ, show FX12_in x2 0 1 σM = some (0, σM) from M_in_o ho, bdI_s, one_ne, if_false, if_true], Rel_q hR qX.rf kM.rf⟩
  · exact ⟨-1, σX, σM, by simp only [FX11_mode, X_isMinute_o h30 ho, bdI_s, if_true], by simp only [FX12_mode, M_isMinute_o hM ho, bdI_s, if_true], Rel_q hR qX.rf kM.rf⟩
theorem mean_go {σa σb : HS} {side nm nf : Nat} {z l : Nat → Int32} {Ls : Nat → Lawt} {G : Nat → Int32} (Ta : TX σa nm nf z l Ls) (wa : WX σa (qF (Ls 0) G) nm) (Qb : MQs σb side nm nf Ls G) : ∀ (n p f : Nat) (a : Int32), p + n = 9 → n < f → ∃ v, FX11_mean_15 f a (nI p) σa = some (v, σa) ∧ FX12_mean_8 f a (nI p) σb = some (v, σb) := by
  intro n
  induction n with
  | zero =>
    intro p f a hp hf
    obtain ⟨f, rfl⟩ : ∃ z, f = z + 1 := ⟨f - 1, by omega⟩
    rw [FX11_mean_15, FX12_mean_8]
    simp (disch := omega) only [gdx, cl_nI, ↓reduceIte, if_true, if_false, ple_t, ple_f, plt_t, plt_f, peq_t, peq_f, nI_add, pk_mul, pk_sub, m1c, m2c, nlt_p, nle_p, nge_p, ngt_p, neq_p, neq_q, pI_o, pI_s, pk_us, pk_un, bdI_s, bdL_s, bdV_s, hl_, li_0, li_1, li_2, li_3, li_4, li_5, li_6, li_7, li_8, li_9, li_10, li_11, li_12, li_13, li_15, li_16, li_18, li_19, li_20, li_21, li_22, li_23, li_24, li_25, li_26, li_28, li_29, li_30, li_31, li_32, li_33, li_39, li_40, li_41, li_42, li_43, li_44, li_45, li_47, li_48, li_57, li_59, li_60, li_61, li_80, li_88, li_97, li_99, li_122, li_130, li_167, li_255, li_256, li_400, li_408, li_420, li_1287, li_2000, li_9999]
    exact ⟨a, rfl, rfl⟩
  | succ n ih =>
    intro p f a hp hf
    obtain ⟨f, rfl⟩ : ∃ z, f = z + 1 := ⟨f - 1, by omega⟩
    rw [FX11_mean_15, FX12_mean_8]
    simp (disch := omega) only [gdx, cl_nI, ↓reduceIte, if_true, if_false, ple_t, ple_f, plt_t, plt_f, peq_t, peq_f, nI_add, pk_mul, pk_sub, m1c, m2c, nlt_p, nle_p, nge_p, ngt_p, neq_p, neq_q, pI_o, pI_s, pk_us, pk_un, bdI_s, bdL_s, bdV_s, hl_, li_0, li_1, li_2, li_3, li_4, li_5, li_6, li_7, li_8, li_9, li_10, li_11, li_12, li_13, li_15, li_16, li_18, li_19, li_20, li_21, li_22, li_23, li_24, li_25, li_26, li_28, li_29, li_30, li_31, li_32, li_33, li_39, li_40, li_41, li_42, li_43, li_44, li_45, li_47, li_48, li_57, li_59, li_60, li_61, li_80, li_88, li_97, li_99, li_122, li_130, li_167, li_255, li_256, li_400, li_408, li_420, li_1287, li_2000, li_9999, X_casesOfParts wa Ta.2.2.1 Ta.1 (show p ≤ 8 by omega), M_oddsOf Qb (show p ≤ 8 by omega)]
    exact ih (p + 1) f _ (by omega) (by omega)
theorem sT_19 : St_19 Rel := by
  intro n σX σM hn hR
  obtain ⟨side, nm, nf, z, l, sd, Ls, t, r, v, p, s, w, e, pl, ky⟩ := id hR
  obtain ⟨hT, hsd, hM, hzl, hsM⟩ := t
  have hnm := hT.1
  have hnf := hT.2.1
  have h30 := hT.2.2.1
  have h31 := hT.2.2.2.1
  obtain ⟨σa, σb, ha, hb, qa, qb, ka, wa, Qb, Ta, ra, e12, e13⟩ := ready hT hM r hR
  obtain ⟨y, h1, h2⟩ := mean_go Ta wa Qb 8 1 fu 0 (by omega) (by show 8 < 5000; omega)
  refine ⟨y, σa, σb, ?_, ?_, Rel_q hR qa qb⟩
  · simp only [FX11_mean, ha, bdV_s]
    exact h1
  · simp only [FX12_mean, hb, bdV_s]
    exact h2
