/-! Questions, one by one: class and reference answer alike. -/
theorem w_0 (k n : Nat) (hn : n < 2 ^ 30) (hk : k ≤ n) (σ : HS) : FX11_within (nI k) 0 (nI n) σ = some (1, σ) ∧ FX12_in (nI k) 0 (nI n) σ = some (1, σ) := ⟨X_wi_i hn hk, M_in_i hn hk⟩
theorem bdI_id {o : Option (Int32 × HS)} : (bdI o fun r σ => some (r, σ)) = o := by cases o <;> rfl
theorem M_copiesG {σ : HS} {side nm nf : Nat} {Ls : Nat → Lawt} (hM : MM σ side nm nf Ls) : ∃ σ', FX12_copies σ = some σ' ∧ kM [32] [49] σ σ' ∧ (∀ j, j < 33 → σ'.1 32 j = σ.1 31 j) ∧ σ'.1 0 49 = σ.1 18 side ∧ MM σ' side nm nf Ls := by
  obtain ⟨σ', h1, k1, r1, s1⟩ := M_copies hM.1.1 hM.1.2.1
  exact ⟨σ', h1, k1, r1, s1, MM_kM k1 (by intro x a b h; simp at h; omega) (by decide) (by decide) (by decide) hM⟩
theorem sT_3 : St_3 Rel := by
  intro n σX σM hn hR
  obtain ⟨side, nm, nf, z, l, sd, Ls, t, r, v, p, s, w, e, pl, ky⟩ := id hR
  exact ⟨σX.1 2 1, σX, σM, rfl, by unfold FX12_place; rw [pl], Rel_q hR qX.rf kM.rf⟩
theorem minute2 {n : Nat} {σX σM : HS} {side nm nf m : Nat} {z l : Nat → Int32} {sd : Int32} {Ls : Nat → Lawt} (hT : TX σX nm nf z l Ls) (hM : MM σM side nm nf Ls) (r : RR nm (σX.1 14) (σM.1 31)) (hsd : σX.1 3 4 = sd) (hsM : σM.1 18 side = sd) (hR : Rel n σX σM) (hm : m < nm) : ∃ (r : Int32) (σX' σM' : HS), FX11_minute (nI m) 2 σX = some (r, σX') ∧ FX12_minute (nI m) 2 σM = some (r, σM') ∧ Rel (n + 1) σX' σM' := by
  have hnm := hT.1
  have h30 := hT.2.2.1
  obtain ⟨σ5, c1, k5, r5, s5, hM5⟩ := M_copiesG hM
  have hq5 : qM σM σ5 := k5.up (by decide) (by decide)
  have hrow : ∀ k, k < 33 → rowC nm (σX.1 14) k = σ5.1 32 k := fun k hk => (r k hk).trans (r5 k hk).symm
  obtain ⟨σa, ha, ka⟩ := X_coughsBehind (st := 4) (g := σ5.1 32) st_4 hT hm sd (fun k hk => hrow k (by omega))
  obtain ⟨σb, hb, kb⟩ := M_coughsNow hM5
  rw [s5, hsM] at hb
  obtain ⟨P, hP⟩ : ∃ P : Prop, P = (cghF (Ls 0) (σ5.1 32) m ≤ lotF sd (16 * (σ5.1 32) 20 + nI m)) := ⟨_, rfl⟩
  have hbit : csN sd (Ls 0) (σ5.1 32) nm / 2 ^ m % 2 = if cghF (Ls 0) (σ5.1 32) m ≤ lotF sd (16 * (σ5.1 32) 20 + nI m) then 0 else 1 := by
    rw [csN_bS, bS_bit _ nm m hm]
    by_cases hc : cghF (Ls 0) (σ5.1 32) m ≤ lotF sd (16 * σ5.1 32 20 + nI m)
    · rw [if_pos hc, if_neg (by simpa using hc)]
    · rw [if_neg hc, if_pos (by simpa using hc)]
  have hX : FX11_minute (nI m) 2 σX = bdI (FX4_coughsBehind 4 (nI m) sd σX) fun r_14 σ_15 => if r_14 = 0 then some ((0 : Int32), σ_15) else some ((1 : Int32), σ_15) := by
    simp only [FX11_minute, X_isMinute_i h30 hnm hm, bdI_s, one_ne, if_false, if_true, hsd, show ¬ (2 : Int32) = 0 by decide, show ¬ (2 : Int32) = 1 by decide]
  have hMm : FX12_minute (nI m) 2 σM = some (((nI (csN sd (Ls 0) (σ5.1 32) nm)) >>> (nI m &&& 31)) &&& 1, σb) := by
    simp only [FX12_minute, M_isMinute_i hM hm, bdI_s, one_ne, if_false, if_true, c1, bdV_s, hb, show ¬ (2 : Int32) = 0 by decide, show ¬ (2 : Int32) = 1 by decide]
  rw [bit_at m (by omega) _ (csN_1024 hnm), hbit] at hMm
  rw [ha, bdI_s] at hX
  by_cases hc : cghF (Ls 0) (σ5.1 32) m ≤ lotF sd (16 * σ5.1 32 20 + nI m)
  · rw [if_pos hc] at hMm
    rw [if_pos hc, if_pos rfl] at hX
    exact ⟨0, σa, σb, hX, hMm, Rel_q hR (qX.of ka (by decide)) (hq5.tr (kb.up (by decide) (by decide)))⟩
  · rw [if_neg hc] at hMm
    rw [if_neg hc, if_neg one_ne] at hX
    exact ⟨1, σa, σb, hX, hMm, Rel_q hR (qX.of ka (by decide)) (hq5.tr (kb.up (by decide) (by decide)))⟩
theorem minute0 {n : Nat} {σX σM : HS} {side nm nf m : Nat} {z l : Nat → Int32} {sd : Int32} {Ls : Nat → Lawt} (hT : TX σX nm nf z l Ls) (hM : MM σM side nm nf Ls) (r : RR nm (σX.1 14) (σM.1 31)) (hsd : σX.1 3 4 = sd) (hsM : σM.1 18 side = sd) (hR : Rel n σX σM) (hm : m < nm) : ∃ (r : Int32) (σX' σM' : HS), FX11_minute (nI m) 0 σX = some (r, σX') ∧ FX12_minute (nI m) 0 σM = some (r, σM') ∧ Rel (n + 1) σX' σM' := by
  have hnm := hT.1
  have h30 := hT.2.2.1
  obtain ⟨σ5, c1, k5, r5, s5, hM5⟩ := M_copiesG hM
  have hq5 : qM σM σ5 := k5.up (by decide) (by decide)
  have e : σM.1 31 m = σX.1 14 m := by rw [← r m (by omega), rowC_m hm hnm]
  have hX : FX11_minute (nI m) 0 σX = some (σX.1 14 m, σX) := by
    simp only [FX11_minute, X_isMinute_i h30 hnm hm, bdI_s, one_ne, if_false, if_true]
    simp (disch := omega) only [gdx, cl_nI, ↓reduceIte, if_true, if_false, ple_t, ple_f, plt_t, plt_f, peq_t, peq_f, nI_add, pk_mul, pk_sub, m1c, m2c, nlt_p, nle_p, nge_p, ngt_p, neq_p, neq_q, pI_o, pI_s, pk_us, pk_un, bdI_s, bdL_s, bdV_s, hl_, li_0, li_1, li_2, li_3, li_4, li_5, li_6, li_7, li_8, li_9, li_10, li_11, li_12, li_13, li_15, li_16, li_18, li_19, li_20, li_21, li_22, li_23, li_24, li_25, li_26, li_28, li_29, li_30, li_31, li_32, li_33, li_39, li_40, li_41, li_42, li_43, li_44, li_45, li_47, li_48, li_57, li_59, li_60, li_61, li_80, li_88, li_97, li_99, li_122, li_130, li_167, li_255, li_256, li_400, li_408, li_420, li_1287, li_2000, li_9999, FX7_matterOf, Nat.zero_add]
  have hMm : FX12_minute (nI m) 0 σM = some (σX.1 14 m, σ5) := by
    simp only [FX12_minute, M_isMinute_i hM hm, bdI_s, one_ne, if_false, if_true, c1, bdV_s]
    simp (disch := omega) only [gdx, cl_nI, ↓reduceIte, if_true, if_false, ple_t, ple_f, plt_t, plt_f, peq_t, peq_f, nI_add, pk_mul, pk_sub, m1c, m2c, nlt_p, nle_p, nge_p, ngt_p, neq_p, neq_q, pI_o, pI_s, pk_us, pk_un, bdI_s, bdL_s, bdV_s, hl_, li_0, li_1, li_2, li_3, li_4, li_5, li_6, li_7, li_8, li_9, li_10, li_11, li_12, li_13, li_15, li_16, li_18, li_19, li_20, li_21, li_22, li_23, li_24, li_25, li_26, li_28, li_29, li_30, li_31, li_32, li_33, li_39, li_40, li_41, li_42, li_43, li_44, li_45, li_47, li_48, li_57, li_59, li_60, li_61, li_80, li_88, li_97, li_99, li_122, li_130, li_167, li_255, li_256, li_400, li_408, li_420, li_1287, li_2000, li_9999, r5, e]
  exact ⟨σX.1 14 m, σX, σ5, hX, hMm, Rel_q hR qX.rf hq5⟩
theorem minute1x {n : Nat} {σX σM : HS} {side nm nf m : Nat} {z l : Nat → Int32} {sd : Int32} {Ls : Nat → Lawt} (hT : TX σX nm nf z l Ls) (hM : MM σM side nm nf Ls) (r : RR nm (σX.1 14) (σM.1 31)) (hsd : σX.1 3 4 = sd) (hsM : σM.1 18 side = sd) (hR : Rel n σX σM) (hm : m < nm) : FX11_minute (nI m) 1 σX = FX2_quartersOf 4 (nI m) σX := by
  have hnm := hT.1
  have h30 := hT.2.2.1
  simp only [FX11_minute, X_isMinute_i h30 hnm hm, bdI_s, one_ne, if_false, if_true, bdI_id]
theorem minute1m {n : Nat} {σX σM : HS} {side nm nf m : Nat} {z l : Nat → Int32} {sd : Int32} {Ls : Nat → Lawt} (hT : TX σX nm nf z l Ls) (hM : MM σM side nm nf Ls) (r : RR nm (σX.1 14) (σM.1 31)) (hsd : σX.1 3 4 = sd) (hsM : σM.1 18 side = sd) (hR : Rel n σX σM) (hm : m < nm) {σ5 : HS} (c1 : FX12_copies σM = some σ5) : FX12_minute (nI m) 1 σM = FX12_coughsOf (nI m) σ5 := by
  unfold FX12_minute
  rw [M_isMinute_i hM hm, bdI_s, if_neg one_ne, c1, bdV_s, if_neg one_ne, if_pos rfl, bdI_id]
theorem minute1c {n : Nat} {σX σM : HS} {side nm nf m : Nat} {z l : Nat → Int32} {sd : Int32} {Ls : Nat → Lawt} (hT : TX σX nm nf z l Ls) (hM : MM σM side nm nf Ls) (r : RR nm (σX.1 14) (σM.1 31)) (hsd : σX.1 3 4 = sd) (hsM : σM.1 18 side = sd) (hR : Rel n σX σM) (hm : m < nm) {σ5 : HS} (hM5 : MM σ5 side nm nf Ls) (r5 : ∀ j, j < 33 → σ5.1 32 j = σM.1 31 j) : ∃ σb, FX12_coughsOf (nI m) σ5 = some (cghF (Ls 0) (rowC nm (σX.1 14)) m, σb) ∧ kM [29, 30] [46] σ5 σb := by
  have hnm := hT.1
  obtain ⟨σb, hb, kb⟩ := M_coughsOf (m := m) hM5.1 (by omega)
  have e : cghF (Ls 0) (σ5.1 32) m = cghF (Ls 0) (rowC nm (σX.1 14)) m := cghF_congr (fun k hk => (r5 k (by omega)).trans (r k (by omega)).symm) (by omega)
  rw [e] at hb
  exact ⟨σb, hb, kb⟩
theorem minute1 {n : Nat} {σX σM : HS} {side nm nf m : Nat} {z l : Nat → Int32} {sd : Int32} {Ls : Nat → Lawt} (hT : TX σX nm nf z l Ls) (hM : MM σM side nm nf Ls) (r : RR nm (σX.1 14) (σM.1 31)) (hsd : σX.1 3 4 = sd) (hsM : σM.1 18 side = sd) (hR : Rel n σX σM) (hm : m < nm) : ∃ (r : Int32) (σX' σM' : HS), FX11_minute (nI m) 1 σX = some (r, σX') ∧ FX12_minute (nI m) 1 σM = some (r, σM') ∧ Rel (n + 1) σX' σM' := by
  have hnm := hT.1
  have h30 := hT.2.2.1
  obtain ⟨σ5, c1, k5, r5, s5, hM5⟩ := M_copiesG hM
  have hq5 : qM σM σ5 := k5.up (by decide) (by decide)
  obtain ⟨σa, ha, ka⟩ := X_quartersOf (st := 4) hT st_4 hm
  simp only [Nat.reduceAdd] at ha
  obtain ⟨σb, hb, kb⟩ := M_coughsOf (m := m) hM5.1 (by omega)
  rw [cghF_congr (fun k hk => (r5 k (by omega)).trans (r k (by omega)).symm) (show m < 10 by omega)] at hb
  have hX : FX11_minute (nI m) 1 σX = FX2_quartersOf 4 (nI m) σX := by
    simp only [FX11_minute, X_isMinute_i h30 hnm hm, bdI_s, one_ne, if_false, if_true, bdI_id]
  have hMm : FX12_minute (nI m) 1 σM = FX12_coughsOf (nI m) σ5 := minute1m hT hM r hsd hsM hR hm c1
  exact ⟨_, σa, σb, hX.trans ha, hMm.trans hb, Rel_q hR (qX.of ka (by decide)) (hq5.tr (kb.up (by decide) (by decide)))⟩
theorem minute3 {n : Nat} {σX σM : HS} {side nm nf m : Nat} {z l : Nat → Int32} {sd : Int32} {Ls : Nat → Lawt} (hT : TX σX nm nf z l Ls) (hM : MM σM side nm nf Ls) (r : RR nm (σX.1 14) (σM.1 31)) (hsd : σX.1 3 4 = sd) (hsM : σM.1 18 side = sd) (hR : Rel n σX σM) (hm : m < nm) {x2 : Int32} (h0 : ¬ x2 = 0) (h1 : ¬ x2 = 1) (h2 : ¬ x2 = 2) : ∃ (r : Int32) (σX' σM' : HS), FX11_minute (nI m) x2 σX = some (r, σX') ∧ FX12_minute (nI m) x2 σM = some (r, σM') ∧ Rel (n + 1) σX' σM' := by
  have hnm := hT.1
  have h30 := hT.2.2.1
  obtain ⟨σ5, c1, k5, r5, s5, hM5⟩ := M_copiesG hM
  have hq5 : qM σM σ5 := k5.up (by decide) (by decide)
  have hX : FX11_minute (nI m) x2 σX = some (-1, σX) := by
    simp only [FX11_minute, X_isMinute_i h30 hnm hm, bdI_s, one_ne, if_false, h0, h1, h2]
  have hMm : FX12_minute (nI m) x2 σM = some (-1, σ5) := by
    simp only [FX12_minute, M_isMinute_i hM hm, bdI_s, one_ne, if_false, c1, bdV_s, h0, h1, h2]
  exact ⟨-1, σX, σ5, hX, hMm, Rel_q hR qX.rf hq5⟩
theorem sT_4 : St_4 Rel := by
  intro n σX σM hn hR x1 x2
  obtain ⟨side, nm, nf, z, l, sd, Ls, t, r, v, p, s, w, e, pl, ky⟩ := id hR
  obtain ⟨hT, hsd, hM, hzl, hsM⟩ := t
  have hnm := hT.1
  have hnf := hT.2.1
  have h30 := hT.2.2.1
  have h31 := hT.2.2.2.1
  rcases rng x1 nm (by omega) with ⟨m, hm, rfl⟩ | ho
  · by_cases h0 : x2 = 0
    · rw [h0]; exact minute0 hT hM r hsd hsM hR hm
    · by_cases h1 : x2 = 1
      · rw [h1]; exact minute1 hT hM r hsd hsM hR hm
      · by_cases h2 : x2 = 2
        · rw [h2]; exact minute2 hT hM r hsd hsM hR hm
        · exact minute3 hT hM r hsd hsM hR hm h0 h1 h2
  · exact ⟨-1, σX, σM, by simp only [FX11_minute, X_isMinute_o h30 ho, bdI_s, if_true], by simp only [FX12_minute, M_isMinute_o hM ho, bdI_s, if_true], Rel_q hR qX.rf kM.rf⟩
theorem sT_5 : St_5 Rel := by
  intro n σX σM hn hR x1 x2
  obtain ⟨side, nm, nf, z, l, sd, Ls, t, r, v, p, s, w, e, pl, ky⟩ := id hR
  obtain ⟨hT, hsd, hM, hzl, hsM⟩ := t
  have hnm := hT.1
  have hnf := hT.2.1
  have h30 := hT.2.2.1
  have h31 := hT.2.2.2.1
  have hside := hM.1.1
  rcases rng x1 nf (by omega) with ⟨f, hf, rfl⟩ | ho
  · obtain ⟨σ5, c1, k5, r5, s5, hM5⟩ := M_copiesG hM
    have hq5 : qM σM σ5 := k5.up (by decide) (by decide)
    have hrow : ∀ k, k < 33 → σ5.1 32 k = rowC nm (σX.1 14) k := fun k hk => (r5 k hk).trans (r k hk).symm
    have e12 : σ5.1 12 = σM.1 12 := k5.1 12 (by decide) (by decide)
    have e13 : σ5.1 13 = σM.1 13 := k5.1 13 (by decide) (by decide)
    have i10 : ix ((5 : Int32) * nI side + nI f) 10 = true := by
      rw [show (5 : Int32) = nI 5 from rfl, pk_mul, nI_add]; exact ix_nI (by omega) (by omega)
    have c10 : ((5 : Int32) * nI side + nI f).toNatClampNeg = 5 * side + f := by
      rw [show (5 : Int32) = nI 5 from rfl, pk_mul, nI_add]; exact cl_nI (by omega)
    have XI := X_isFamily_i h31 hnf hf
    have MI := M_isFamily_i hM hf
    by_cases h0 : x2 = 0
    · subst h0
      refine ⟨z f, σX, σ5, ?_, ?_, Rel_q hR qX.rf hq5⟩
      · simp only [FX11_family, XI, bdI_s, one_ne, if_false, if_true]
        simp (disch := omega) only [gdx, cl_nI, ↓reduceIte, if_true, if_false, ple_t, ple_f, plt_t, plt_f, peq_t, peq_f, nI_add, pk_mul, pk_sub, m1c, m2c, nlt_p, nle_p, nge_p, ngt_p, neq_p, neq_q, pI_o, pI_s, pk_us, pk_un, bdI_s, bdL_s, bdV_s, hl_, li_0, li_1, li_2, li_3, li_4, li_5, li_6, li_7, li_8, li_9, li_10, li_11, li_12, li_13, li_15, li_16, li_18, li_19, li_20, li_21, li_22, li_23, li_24, li_25, li_26, li_28, li_29, li_30, li_31, li_32, li_33, li_39, li_40, li_41, li_42, li_43, li_44, li_45, li_47, li_48, li_57, li_59, li_60, li_61, li_80, li_88, li_97, li_99, li_122, li_130, li_167, li_255, li_256, li_400, li_408, li_420, li_1287, li_2000, li_9999, (hT.2.2.2.2.1 f hf).1]
      · simp only [FX12_family, MI, bdI_s, one_ne, if_false, if_true, c1, bdV_s, hM5.1.2.1]
        rw [gd_t i10, c10, e12, (hzl f hf).1]
    · by_cases h1 : x2 = 1
      · subst h1
        refine ⟨l f, σX, σ5, ?_, ?_, Rel_q hR qX.rf hq5⟩
        · simp only [FX11_family, XI, bdI_s, one_ne, if_false, if_true]
          simp (disch := omega) only [gdx, cl_nI, ↓reduceIte, if_true, if_false, ple_t, ple_f, plt_t, plt_f, peq_t, peq_f, nI_add, pk_mul, pk_sub, m1c, m2c, nlt_p, nle_p, nge_p, ngt_p, neq_p, neq_q, pI_o, pI_s, pk_us, pk_un, bdI_s, bdL_s, bdV_s, hl_, li_0, li_1, li_2, li_3, li_4, li_5, li_6, li_7, li_8, li_9, li_10, li_11, li_12, li_13, li_15, li_16, li_18, li_19, li_20, li_21, li_22, li_23, li_24, li_25, li_26, li_28, li_29, li_30, li_31, li_32, li_33, li_39, li_40, li_41, li_42, li_43, li_44, li_45, li_47, li_48, li_57, li_59, li_60, li_61, li_80, li_88, li_97, li_99, li_122, li_130, li_167, li_255, li_256, li_400, li_408, li_420, li_1287, li_2000, li_9999, (hT.2.2.2.2.1 f hf).2]
        · simp only [FX12_family, MI, bdI_s, one_ne, if_false, if_true, c1, bdV_s, hM5.1.2.1]
          rw [gd_t i10, c10, e13, (hzl f hf).2]
      · by_cases h2 : x2 = 2
        · subst h2
          refine ⟨partsF (rowC nm (σX.1 14)) (nI f), σX, σ5, ?_, ?_, Rel_q hR qX.rf hq5⟩
          · simp only [FX11_family, XI, bdI_s, one_ne, if_false, h0, h1, if_true, X_partsOf st_4 nm]
          · simp only [FX12_family, MI, bdI_s, one_ne, if_false, h0, h1, if_true, c1, bdV_s, M_partBits]
            rw [partsF_congr (fun p hp => hrow (10 + p) (by omega))]
        · by_cases h3 : x2 = 3
          · subst h3
            refine ⟨σX.1 14 (18 + f), σX, σ5, ?_, ?_, Rel_q hR qX.rf hq5⟩
            · simp only [FX11_family, XI, bdI_s, one_ne, if_false, h0, h1, h2, if_true, FX7_gainedBy]
              simp (disch := omega) only [gdx, cl_nI, ↓reduceIte, if_true, if_false, ple_t, ple_f, plt_t, plt_f, peq_t, peq_f, nI_add, pk_mul, pk_sub, m1c, m2c, nlt_p, nle_p, nge_p, ngt_p, neq_p, neq_q, pI_o, pI_s, pk_us, pk_un, bdI_s, bdL_s, bdV_s, hl_, li_0, li_1, li_2, li_3, li_4, li_5, li_6, li_7, li_8, li_9, li_10, li_11, li_12, li_13, li_15, li_16, li_18, li_19, li_20, li_21, li_22, li_23, li_24, li_25, li_26, li_28, li_29, li_30, li_31, li_32, li_33, li_39, li_40, li_41, li_42, li_43, li_44, li_45, li_47, li_48, li_57, li_59, li_60, li_61, li_80, li_88, li_97, li_99, li_122, li_130, li_167, li_255, li_256, li_400, li_408, li_420, li_1287, li_2000, li_9999]
            · simp only [FX12_family, MI, bdI_s, one_ne, if_false, h0, h1, h2, if_true, c1, bdV_s]
              simp (disch := omega) only [gdx, cl_nI, ↓reduceIte, if_true, if_false, ple_t, ple_f, plt_t, plt_f, peq_t, peq_f, nI_add, pk_mul, pk_sub, m1c, m2c, nlt_p, nle_p, nge_p, ngt_p, neq_p, neq_q, pI_o, pI_s, pk_us, pk_un, bdI_s, bdL_s, bdV_s, hl_, li_0, li_1, li_2, li_3, li_4, li_5, li_6, li_7, li_8, li_9, li_10, li_11, li_12, li_13, li_15, li_16, li_18, li_19, li_20, li_21, li_22, li_23, li_24, li_25, li_26, li_28, li_29, li_30, li_31, li_32, li_33, li_39, li_40, li_41, li_42, li_43, li_44, li_45, li_47, li_48, li_57, li_59, li_60, li_61, li_80, li_88, li_97, li_99, li_122, li_130, li_167, li_255, li_256, li_400, li_408, li_420, li_1287, li_2000, li_9999]
              rw [hrow (23 + f) (by omega), rowC_f (by omega), show 23 + f - 5 = 18 + f by omega]
          · by_cases h4 : x2 = 4
            · subst h4
              refine ⟨σX.1 14 (23 + f), σX, σ5, ?_, ?_, Rel_q hR qX.rf hq5⟩
              · simp only [FX11_family, XI, bdI_s, one_ne, if_false, h0, h1, h2, h3, if_true, FX7_paidBy]
                simp (disch := omega) only [gdx, cl_nI, ↓reduceIte, if_true, if_false, ple_t, ple_f, plt_t, plt_f, peq_t, peq_f, nI_add, pk_mul, pk_sub, m1c, m2c, nlt_p, nle_p, nge_p, ngt_p, neq_p, neq_q, pI_o, pI_s, pk_us, pk_un, bdI_s, bdL_s, bdV_s, hl_, li_0, li_1, li_2, li_3, li_4, li_5, li_6, li_7, li_8, li_9, li_10, li_11, li_12, li_13, li_15, li_16, li_18, li_19, li_20, li_21, li_22, li_23, li_24, li_25, li_26, li_28, li_29, li_30, li_31, li_32, li_33, li_39, li_40, li_41, li_42, li_43, li_44, li_45, li_47, li_48, li_57, li_59, li_60, li_61, li_80, li_88, li_97, li_99, li_122, li_130, li_167, li_255, li_256, li_400, li_408, li_420, li_1287, li_2000, li_9999]
              · simp only [FX12_family, MI, bdI_s, one_ne, if_false, h0, h1, h2, h3, if_true, c1, bdV_s]
                simp (disch := omega) only [gdx, cl_nI, ↓reduceIte, if_true, if_false, ple_t, ple_f, plt_t, plt_f, peq_t, peq_f, nI_add, pk_mul, pk_sub, m1c, m2c, nlt_p, nle_p, nge_p, ngt_p, neq_p, neq_q, pI_o, pI_s, pk_us, pk_un, bdI_s, bdL_s, bdV_s, hl_, li_0, li_1, li_2, li_3, li_4, li_5, li_6, li_7, li_8, li_9, li_10, li_11, li_12, li_13, li_15, li_16, li_18, li_19, li_20, li_21, li_22, li_23, li_24, li_25, li_26, li_28, li_29, li_30, li_31, li_32, li_33, li_39, li_40, li_41, li_42, li_43, li_44, li_45, li_47, li_48, li_57, li_59, li_60, li_61, li_80, li_88, li_97, li_99, li_122, li_130, li_167, li_255, li_256, li_400, li_408, li_420, li_1287, li_2000, li_9999]
                rw [hrow (28 + f) (by omega), rowC_f (by omega), show 28 + f - 5 = 23 + f by omega]
            · have ez : σ5.1 12 (5 * side + f) = z f := by rw [e12]; exact (hzl f hf).1
              have el : σ5.1 13 (5 * side + f) = l f := by rw [e13]; exact (hzl f hf).2
              by_cases h5 : x2 = 5
              · subst h5
                obtain ⟨σa, ha, ka⟩ := X_rentOf (st := 4) hT st_4 hf
                simp only [Nat.reduceAdd] at ha
                obtain ⟨σb, hb, kb⟩ := M_rentsOf hM5.1 hf
                rw [ez, el, famF_congr (fun k hk => hrow k (by omega)), numF_congr (fun k hk => hrow k (by omega))] at hb
                refine ⟨_, σa, σb, Eq.trans ?_ ha, Eq.trans ?_ hb, Rel_q hR (qX.of ka (by decide)) (hq5.tr (kb.up (by decide) (by decide)))⟩
                · simp only [FX11_family, XI, bdI_s, one_ne, if_false, h0, h1, h2, h3, h4, if_true, bdI_id]
                · simp only [FX12_family, MI, bdI_s, one_ne, if_false, h0, h1, h2, h3, h4, if_true, c1, bdV_s, bdI_id]
              · by_cases h6 : x2 = 6
                · subst h6
                  obtain ⟨σa, ha, ka⟩ := X_cureFor (st := 4) hT st_4 hf
                  simp only [Nat.reduceAdd] at ha
                  obtain ⟨σb, hb, kb⟩ := M_curesOf hM5.1 hf
                  rw [ez, el, famF_congr (fun k hk => hrow k (by omega)), numF_congr (fun k hk => hrow k (by omega))] at hb
                  refine ⟨_, σa, σb, Eq.trans ?_ ha, Eq.trans ?_ hb, Rel_q hR (qX.of ka (by decide)) (hq5.tr (kb.up (by decide) (by decide)))⟩
                  · simp only [FX11_family, XI, bdI_s, one_ne, if_false, h0, h1, h2, h3, h4, h5, if_true, bdI_id]
                  · simp only [FX12_family, MI, bdI_s, one_ne, if_false, h0, h1, h2, h3, h4, h5, if_true, c1, bdV_s, bdI_id]
                · refine ⟨-1, σX, σ5, ?_, ?_, Rel_q hR qX.rf hq5⟩
                  · simp only [FX11_family, XI, bdI_s, one_ne, if_false, h0, h1, h2, h3, h4, h5, h6]
                  · simp only [FX12_family, MI, bdI_s, one_ne, if_false, h0, h1, h2, h3, h4, h5, h6, c1, bdV_s]
  · exact ⟨-1, σX, σM, by simp only [FX11_family, X_isFamily_o h31 ho, bdI_s, if_true], by simp only [FX12_family, M_isFamily_o hM ho, bdI_s, if_true], Rel_q hR qX.rf kM.rf⟩
theorem sT_6 : St_6 Rel := by
  intro n σX σM hn hR x1
  obtain ⟨side, nm, nf, z, l, sd, Ls, t, r, v, p, s, w, e, pl, ky⟩ := id hR
  obtain ⟨hT, hsd, hM, hzl, hsM⟩ := t
  have hnm := hT.1
  have hnf := hT.2.1
  have h30 := hT.2.2.1
  have h31 := hT.2.2.2.1
  rcases rng x1 8 (by omega) with ⟨q, hq, rfl⟩ | ho
  · refine ⟨σX.1 14 (10 + q), σX, σM, ?_, ?_, Rel_q hR qX.rf kM.rf⟩
    · simp only [FX11_lease, X_isPart_i hq, bdI_s, one_ne, if_false, FX7_ownerOf]
      simp (disch := omega) only [gdx, cl_nI, ↓reduceIte, if_true, if_false, ple_t, ple_f, plt_t, plt_f, peq_t, peq_f, nI_add, pk_mul, pk_sub, m1c, m2c, nlt_p, nle_p, nge_p, ngt_p, neq_p, neq_q, pI_o, pI_s, pk_us, pk_un, bdI_s, bdL_s, bdV_s, hl_, li_0, li_1, li_2, li_3, li_4, li_5, li_6, li_7, li_8, li_9, li_10, li_11, li_12, li_13, li_15, li_16, li_18, li_19, li_20, li_21, li_22, li_23, li_24, li_25, li_26, li_28, li_29, li_30, li_31, li_32, li_33, li_39, li_40, li_41, li_42, li_43, li_44, li_45, li_47, li_48, li_57, li_59, li_60, li_61, li_80, li_88, li_97, li_99, li_122, li_130, li_167, li_255, li_256, li_400, li_408, li_420, li_1287, li_2000, li_9999]
    · simp only [FX12_lease, M_isPart_i hq, bdI_s, one_ne, if_false]
      simp (disch := omega) only [gdx, cl_nI, ↓reduceIte, if_true, if_false, ple_t, ple_f, plt_t, plt_f, peq_t, peq_f, nI_add, pk_mul, pk_sub, m1c, m2c, nlt_p, nle_p, nge_p, ngt_p, neq_p, neq_q, pI_o, pI_s, pk_us, pk_un, bdI_s, bdL_s, bdV_s, hl_, li_0, li_1, li_2, li_3, li_4, li_5, li_6, li_7, li_8, li_9, li_10, li_11, li_12, li_13, li_15, li_16, li_18, li_19, li_20, li_21, li_22, li_23, li_24, li_25, li_26, li_28, li_29, li_30, li_31, li_32, li_33, li_39, li_40, li_41, li_42, li_43, li_44, li_45, li_47, li_48, li_57, li_59, li_60, li_61, li_80, li_88, li_97, li_99, li_122, li_130, li_167, li_255, li_256, li_400, li_408, li_420, li_1287, li_2000, li_9999]
      rw [← r (10 + q) (by omega), rowC_p (by omega) (by omega)]
  · exact ⟨-1, σX, σM, by simp only [FX11_lease, X_isPart_o ho, bdI_s, if_true], by simp only [FX12_lease, M_isPart_o ho, bdI_s, if_true], Rel_q hR qX.rf kM.rf⟩
theorem sT_7 : St_7 Rel := by
  intro n σX σM hn hR x1 x2 x3
  obtain ⟨side, nm, nf, z, l, sd, Ls, t, r, v, p, s, w, e, pl, ky⟩ := id hR
  obtain ⟨hT, hsd, hM, hzl, hsM⟩ := t
  have hnm := hT.1
  have hnf := hT.2.1
  have h30 := hT.2.2.1
  have h31 := hT.2.2.2.1
  rcases rng x1 nf (by omega) with ⟨f, hf, rfl⟩ | ho
  · have XI := X_isFamily_i h31 hnf hf
    have MI := M_isFamily_i hM hf
    rcases rng x2 nm (by omega) with ⟨m, hm, rfl⟩ | ho
    · have XJ := X_isMinute_i h30 hnm hm
      have MJ := M_isMinute_i hM hm
      rcases rng x3 8 (by omega) with ⟨q, hq, rfl⟩ | ho
      · obtain ⟨σ5, c1, k5, r5, s5, hM5⟩ := M_copiesG hM
        have hq5 : qM σM σ5 := k5.up (by decide) (by decide)
        have hrow : ∀ k, k < 33 → σ5.1 32 k = rowC nm (σX.1 14) k := fun k hk => (r5 k hk).trans (r k hk).symm
        obtain ⟨σa, ha, ka⟩ := X_worthTo (st := 4) (p := q) hT st_4 hm hf
        simp only [Nat.reduceAdd] at ha
        obtain ⟨σb, hb, kb⟩ := M_worthOf (m := m) (p := q) hM5.1 hf (by omega)
        rw [k5.1 12 (by decide) (by decide), k5.1 13 (by decide) (by decide), (hzl f hf).1, (hzl f hf).2, wthF_congr (fun k hk => hrow k (by omega)) (show m < 10 by omega)] at hb
        refine ⟨_, σa, σb, Eq.trans ?_ ha, Eq.trans ?_ hb, Rel_q hR (qX.of ka (by decide)) (hq5.tr (kb.up (by decide) (by decide)))⟩
        · simp only [FX11_worth, XI, XJ, X_isPart_i hq, bdI_s, one_ne, if_false, bdI_id]
        · simp only [FX12_worth, MI, MJ, M_isPart_i hq, bdI_s, one_ne, if_false, c1, bdV_s, bdI_id]
      · exact ⟨-1, σX, σM, by simp only [FX11_worth, XI, XJ, X_isPart_o ho, bdI_s, one_ne, if_false, if_true], by simp only [FX12_worth, MI, MJ, M_isPart_o ho, bdI_s, one_ne, if_false, if_true], Rel_q hR qX.rf kM.rf⟩
    · exact ⟨-1, σX, σM, by simp only [FX11_worth, XI, X_isMinute_o h30 ho, bdI_s, one_ne, if_false, if_true], by simp only [FX12_worth, MI, M_isMinute_o hM ho, bdI_s, one_ne, if_false, if_true], Rel_q hR qX.rf kM.rf⟩
  · exact ⟨-1, σX, σM, by simp only [FX11_worth, X_isFamily_o h31 ho, bdI_s, if_true], by simp only [FX12_worth, M_isFamily_o hM ho, bdI_s, if_true], Rel_q hR qX.rf kM.rf⟩
