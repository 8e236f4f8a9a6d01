/-! The tape; what is told. -/
theorem Rel_E {n : Nat} {σX σM σX' σM' : HS} (hR : Rel n σX σM) (kx : kX [1, 16] σX σX') (km : kM [1] [2] σM σM') (hE : ER σX' σM') : Rel (n + 1) σX' σM' := by
  obtain ⟨side, nm, nf, z, l, sd, Ls, t, r, v, p, s, w, e, pl, ky⟩ := hR
  refine ⟨side, nm, nf, z, l, sd, Ls, TR_q (kx.1 3 (by decide)) (kx.1 23 (by decide)) (kx.1 24 (by decide)) (kx.1 26 (by decide)) (kx.1 27 (by decide)) (kx.1 28 (by decide)) km (by intro x h1 h2 h; simp at h; omega) (by decide) (by decide) (by decide) (by decide) (by decide) (by decide) t, ?_, ?_, ?_, ?_, ?_, hE, ?_, ?_⟩
  · rw [kx.1 14 (by decide), km.1 31 (by decide) (by decide)]; exact r
  · rw [km.1 31 (by decide) (by decide)]; exact RV_mono (by omega) v
  · exact PR_mono (by omega) (PR_eq (kx.1 6 (by decide)) (kx.1 36 (by decide)) (km.2.1 50 (by decide)) (km.1 33 (by decide) (by decide)) p)
  · exact SR_mono (by omega) (SR_eq (kx.1 37 (by decide)) (kx.1 38 (by decide)) (km.1 43 (by decide) (by decide)) (km.1 44 (by decide) (by decide)) s)
  · exact WR_eq (by rw [kx.1 11 (by decide)]) (kx.1 46 (by decide)) (kx.1 47 (by decide)) (kx.1 48 (by decide)) (km.2.1 57 (by decide)) (km.1 39 (by decide) (by decide)) (km.1 40 (by decide) (by decide)) (km.1 41 (by decide) (by decide)) w
  · rw [kx.1 2 (by decide), km.2.1 17 (by decide)]; exact pl
  · rw [km.2.2]; exact ky
theorem m8 (n : Nat) : nI (8 * (n + 1)) + (-8) = nI (8 * n) := by
  show nI (8 * (n + 1)) + -nI 8 = nI (8 * n)
  rw [← Int32.sub_eq_add_neg, pk_sub (by omega)]
  congr 1
theorem upd_bb {f g : Nat → Int32} {L : Nat} {x : Int32} (h : ∀ j, j < L → f j = g j) : ∀ j, j < L + 1 → upd f L x j = upd g L x j := by
  intro j hj
  rw [upd_a, upd_a]
  by_cases e : j = L
  · rw [if_pos e, if_pos e]
  · rw [if_neg e, if_neg e]; exact h j (by omega)
theorem put_go (x : Int32) : ∀ (n f L : Nat) (σX σM : HS), σX.1 1 1 = nI L → σM.1 0 2 = nI L → (∀ j, j < L → σX.1 16 j = σM.1 1 j) → L + n ≤ 2000 → n ≤ 4 → n < f → ∃ σX' σM', FX8_putInt_3 f x (nI (8 * n) + (-8)) σX = some σX' ∧ FX12_put_3 f x (nI (8 * n) + (-8)) σM = some σM' ∧ kX [1, 16] σX σX' ∧ kM [1] [2] σM σM' ∧ σX'.1 1 1 = nI (L + n) ∧ σM'.1 0 2 = nI (L + n) ∧ ∀ j, j < L + n → σX'.1 16 j = σM'.1 1 j := by
  intro n
  induction n with
  | zero =>
    intro f L σX σM h1 h2 hb hL hn hf
    obtain ⟨f, rfl⟩ : ∃ z, f = z + 1 := ⟨f - 1, by omega⟩
    have hneg : nI (8 * 0) + (-8) < 0 := by decide
    rw [FX8_putInt_3, FX12_put_3, if_pos hneg, if_pos hneg]
    exact ⟨σX, σM, rfl, rfl, kX.rf, kM.rf, h1, h2, hb⟩
  | succ n ih =>
    intro f L σX σM h1 h2 hb hL hn hf
    obtain ⟨f, rfl⟩ : ∃ z, f = z + 1 := ⟨f - 1, by omega⟩
    have hpos : ¬ nI (8 * n) < 0 := nI_pos (by omega)
    have hlen : ¬ (2000 : Int32) ≤ nI L := nI_ge (b := 2000) (by omega) (by omega)
    rw [m8, FX8_putInt_3, FX12_put_3, if_neg hpos, if_neg hpos, h1, h2, if_neg hlen, gd_t (ix_nI (by omega) (by omega)), gd_t (ix_nI (by omega) (by omega)), cl_nI (by omega)]
    simp only [hl_]
    obtain ⟨y, hy⟩ : ∃ y, y = vp_nar .byte ((x >>> (nI (8 * n) &&& 31)).toInt8.toInt32) := ⟨_, rfl⟩
    rw [← hy]
    have eX : (pI σX 16 L y).1 1 1 = nI L := by rw [pI_o (by omega)]; exact h1
    have eM : (pI σM 1 L y).1 0 2 = nI L := by rw [pI_o (by omega)]; exact h2
    rw [eX, eM, nI_1]
    obtain ⟨σX', σM', r1, r2, r3, r4, r5, r6, r7⟩ := ih f (L + 1) (pI (pI σX 16 L y) 1 1 (nI (L + 1))) (pI (pI σM 1 L y) 0 2 (nI (L + 1))) (by rw [pI_s, pk_us]) (by rw [pI_s, pk_us]) (by rw [pI_o (by omega), pI_s, pI_o (by omega), pI_s]; exact upd_bb hb) (by omega) (by omega) (by omega)
    refine ⟨σX', σM', r1, r2, ((kX.rf.pp (by decide)).pp (by decide)).tr r3, kM.tr (kM.tr (kM.pR (by decide) (by decide)) (kM.pF (by decide))) r4, ?_, ?_, ?_⟩
    · rw [r5]; congr 1; omega
    · rw [r6]; congr 1; omega
    · intro j hj; exact r7 j (by omega)
theorem put_1 (x : Int32) {L : Nat} {σX σM : HS} (h1 : σX.1 1 1 = nI L) (h2 : σM.1 0 2 = nI L) (hb : ∀ j, j < L → σX.1 16 j = σM.1 1 j) (hL : L + 4 ≤ 2000) : ∃ σX' σM', FX8_putInt x σX = some σX' ∧ FX12_put x σM = some σM' ∧ kX [1, 16] σX σX' ∧ kM [1] [2] σM σM' ∧ σX'.1 1 1 = nI (L + 4) ∧ σM'.1 0 2 = nI (L + 4) ∧ ∀ j, j < L + 4 → σX'.1 16 j = σM'.1 1 j :=
  put_go x 4 fu L σX σM h1 h2 hb hL (by omega) (by show 4 < 5000; omega)
theorem sT_0 : St_0 Rel := by
  intro n σX σM hn hR x1 x2 x3 x4 x5
  obtain ⟨side, nm, nf, z, l, sd, Ls, t, r, v, p, s, w, ⟨L, hL, h1, h2, hb⟩, pl, ky⟩ := id hR
  by_cases hlt : L + 20 ≤ 2000
  · obtain ⟨a1, b1, c1, d1, k1, m1, e1, f1, g1⟩ := put_1 x1 h1 h2 hb (by omega)
    obtain ⟨a2, b2, c2, d2, k2, m2, e2, f2, g2⟩ := put_1 x2 e1 f1 g1 (by omega)
    obtain ⟨a3, b3, c3, d3, k3, m3, e3, f3, g3⟩ := put_1 x3 e2 f2 g2 (by omega)
    obtain ⟨a4, b4, c4, d4, k4, m4, e4, f4, g4⟩ := put_1 x4 e3 f3 g3 (by omega)
    obtain ⟨a5, b5, c5, d5, k5, m5, e5, f5, g5⟩ := put_1 x5 e4 f4 g4 (by omega)
    refine ⟨nI (L + 4 + 4 + 4 + 4 + 4), a5, b5, ?_, ?_, Rel_E hR (((((k1).tr k2).tr k3).tr k4).tr k5) (((((m1).tr m2).tr m3).tr m4).tr m5) ⟨_, by omega, e5, f5, g5⟩⟩
    · unfold FX11_feed FX8_hasRoomFor
      rw [h1, show (20 : Int32) = nI 20 from rfl, nI_add, if_neg (show ¬ (2000 : Int32) < nI (L + 20) from nI_nlt (a := 2000) (by omega) (by omega)), bdI_s, if_neg one_ne, c1, bdV_s, c2, bdV_s, c3, bdV_s, c4, bdV_s, c5, bdV_s, e5]
    · unfold FX12_feed
      rw [h2, show (20 : Int32) = nI 20 from rfl, nI_add, if_pos (show nI (L + 20) ≤ (2000 : Int32) from nI_le (b := 2000) (by omega) (by omega)), d1, bdV_s, d2, bdV_s, d3, bdV_s, d4, bdV_s, d5, bdV_s, f5]
  · refine ⟨-1, σX, σM, ?_, ?_, Rel_q hR qX.rf kM.rf⟩
    · unfold FX11_feed FX8_hasRoomFor
      rw [h1, show (20 : Int32) = nI 20 from rfl, nI_add, if_pos (show (2000 : Int32) < nI (L + 20) from nI_lt (a := 2000) (by omega) (by omega)), bdI_s, if_pos rfl]
    · unfold FX12_feed
      rw [h2, show (20 : Int32) = nI 20 from rfl, nI_add, if_neg (show ¬ nI (L + 20) ≤ (2000 : Int32) from nI_ge (a := 2000) (by omega) (by omega))]
theorem sT_1 : St_1 Rel := by
  intro n σX σM hn hR x1
  obtain ⟨side, nm, nf, z, l, sd, Ls, t, r, v, p, s, w, ⟨L, hL, h1, h2, hb⟩, pl, ky⟩ := id hR
  rcases rngT x1 L (by omega) with ⟨k, hk, rfl⟩ | ho
  · refine ⟨nI (L - k), pI σX 1 1 (nI (L - k)), pI σM 0 2 (nI (L - k)), ?_, ?_, Rel_E hR (kX.p (by decide)) (kM.pF (by decide)) ⟨L - k, by omega, by rw [pI_s, pk_us], by rw [pI_s, pk_us], fun j hj => by rw [pI_o (by omega), pI_o (by omega)]; exact hb j (by omega)⟩⟩
    · unfold FX11_back
      rw [h1, X_wi_i (by omega) hk, bdI_s, if_neg one_ne]
      simp only [hl_]
      rw [h1, pk_sub hk, pI_s, pk_us]
    · unfold FX12_back
      simp only [hl_]
      rw [if_neg (nI_pos (by omega)), h2, if_pos (nI_le hk (by omega)), pk_sub hk, pI_s, pk_us]
  · refine ⟨-1, σX, σM, ?_, ?_, Rel_q hR qX.rf kM.rf⟩
    · unfold FX11_back
      rw [h1, X_wi_o ho, bdI_s, if_pos rfl]
    · unfold FX12_back
      rw [h2]
      by_cases hneg : x1 < 0
      · rw [if_pos hneg]
      · rw [if_neg hneg, if_neg (Int32.not_le.mpr (ho.resolve_left hneg))]
theorem Rel_W {n : Nat} {σX σM σX' σM' : HS} {side nm nf : Nat} {z l : Nat → Int32} {sd : Int32} {Ls : Nat → Lawt} (t : TR σX σM side nm nf z l sd Ls) (r : RR nm (σX.1 14) (σM.1 31)) (v : RV nm nf n (σM.1 31)) (p : PR σX σM nm nf n) (s : SR σX σM nm nf n) (e : ER σX σM) (pl : σX.1 2 1 = σM.1 0 17) (ky : ∀ k, k < 22 → σM.2 7 k = keyV k) (kx : kX [11, 46, 47, 48] σX σX') (km : kM [39, 40, 41] [57] σM σM') (hW : WR σX' σM' nm) : Rel (n + 1) σX' σM' := by
  refine ⟨side, nm, nf, z, l, sd, Ls, TR_q (kx.1 3 (by decide)) (kx.1 23 (by decide)) (kx.1 24 (by decide)) (kx.1 26 (by decide)) (kx.1 27 (by decide)) (kx.1 28 (by decide)) km (by intro x h1 h2 h; simp at h; omega) (by decide) (by decide) (by decide) (by decide) (by decide) (by decide) t, ?_, ?_, ?_, ?_, hW, ?_, ?_, ?_⟩
  · rw [kx.1 14 (by decide), km.1 31 (by decide) (by decide)]; exact r
  · rw [km.1 31 (by decide) (by decide)]; exact RV_mono (by omega) v
  · exact PR_mono (by omega) (PR_eq (kx.1 6 (by decide)) (kx.1 36 (by decide)) (km.2.1 50 (by decide)) (km.1 33 (by decide) (by decide)) p)
  · exact SR_mono (by omega) (SR_eq (kx.1 37 (by decide)) (kx.1 38 (by decide)) (km.1 43 (by decide) (by decide)) (km.1 44 (by decide) (by decide)) s)
  · exact ER_eq (kx.1 1 (by decide)) (kx.1 16 (by decide)) (km.2.1 2 (by decide)) (km.1 1 (by decide) (by decide)) e
  · rw [kx.1 2 (by decide), km.2.1 17 (by decide)]; exact pl
  · rw [km.2.2]; exact ky
theorem sT_36 : St_36 Rel := by
  intro n σX σM hn hR
  obtain ⟨side, nm, nf, z, l, sd, Ls, t, r, v, p, s, ⟨k, hk, h1, h2, hw⟩, e, pl, ky⟩ := hR
  refine ⟨nI k, pI σX 11 6 0, pI σM 0 57 0, ?_, ?_, Rel_W t r v p s e pl ky (kX.p (by decide)) (kM.pF (by decide)) ⟨0, by omega, by rw [pI_s, pk_us]; rfl, by rw [pI_s, pk_us]; rfl, fun i hi => by omega⟩⟩
  · unfold FX11_forget; simp only [hl_]; rw [h1]
  · unfold FX12_forget; simp only [hl_]; rw [h2]
theorem nar_b {b : Nat} (h : b < 2) : vp_nar .boolean (nI b) = nI b := by
  rcases (show b = 0 ∨ b = 1 by omega) with rfl | rfl <;> rfl
theorem sT_35 : St_35 Rel := by
  intro n σX σM hn hR x1 x2 x3 h3
  obtain ⟨b, hb, rfl⟩ : ∃ b, b < 2 ∧ x3 = nI b := by
    rcases h3 with rfl | rfl
    · exact ⟨0, by omega, rfl⟩
    · exact ⟨1, by omega, rfl⟩
  obtain ⟨side, nm, nf, z, l, sd, Ls, t, r, v, p, s, ⟨k, hk, h1, h2, hw⟩, e, pl, ky⟩ := id hR
  obtain ⟨hT, hsd, hM, hzl, hsM⟩ := id t
  have hnm := hT.1
  have h30 := hT.2.2.1
  by_cases hk20 : k = 20
  · subst hk20
    have hM20 : FX12_tell x1 x2 (nI b) σM = some (-1, σM) := by
      unfold FX12_tell
      rw [h2, if_pos (show nI 20 = (20 : Int32) from rfl)]
    refine ⟨-1, σX, σM, ?_, hM20, Rel_q hR qX.rf kM.rf⟩
    have ha : FX10_add x1 x2 (nI b) σX = some (-1, σX) := by
      unfold FX10_add
      rw [h1, if_neg (show ¬ nI 20 < (20 : Int32) by decide)]
    unfold FX11_tell
    rcases rng x1 nm (by omega) with ⟨m, hm, rfl⟩ | ho
    · rw [X_isMinute_i h30 hnm hm, bdI_s, if_neg one_ne]
      rcases rng x2 8 (by omega) with ⟨q, hq, rfl⟩ | ho
      · rw [X_isPart_i hq, bdI_s, if_neg one_ne, ha, bdI_s]
      · rw [X_isPart_o ho, bdI_s, if_pos rfl]
    · rw [X_isMinute_o h30 ho, bdI_s, if_pos rfl]
  · have hne : ¬ nI k = (20 : Int32) := fun e => hk20 ((nI_eq (b := 20) (by omega) (by omega)).mp e)
    rcases rng x1 nm (by omega) with ⟨m, hm, rfl⟩ | ho
    · rcases rng x2 8 (by omega) with ⟨q, hq, rfl⟩ | ho
      · have nb := nar_b hb
        have eX : FX11_tell (nI m) (nI q) (nI b) σX = some (nI k, pI (pI (pI (pI σX 46 k (nI m)) 47 k (nI q)) 48 k (nI b)) 11 6 (nI (k + 1))) := by
          unfold FX11_tell
          rw [X_isMinute_i h30 hnm hm, bdI_s, if_neg one_ne, X_isPart_i hq, bdI_s, if_neg one_ne]
          unfold FX10_add
          simp (disch := omega) only [gdx, cl_nI, ↓reduceIte, if_true, if_false, ple_t, ple_f, plt_t, plt_f, peq_t, peq_f, nI_add, pk_mul, pk_sub, m1c, m2c, nlt_p, nle_p, nge_p, ngt_p, neq_p, neq_q, pI_o, pI_s, pk_us, pk_un, bdI_s, bdL_s, bdV_s, hl_, li_0, li_1, li_2, li_3, li_4, li_5, li_6, li_7, li_8, li_9, li_10, li_11, li_12, li_13, li_15, li_16, li_18, li_19, li_20, li_21, li_22, li_23, li_24, li_25, li_26, li_28, li_29, li_30, li_31, li_32, li_33, li_39, li_40, li_41, li_42, li_43, li_44, li_45, li_47, li_48, li_57, li_59, li_60, li_61, li_80, li_88, li_97, li_99, li_122, li_130, li_167, li_255, li_256, li_400, li_408, li_420, li_1287, li_2000, li_9999, h1, nb, Nat.add_sub_cancel]
        have eM : FX12_tell (nI m) (nI q) (nI b) σM = some (nI k, pI (pI (pI (pI σM 39 k (nI m)) 40 k (nI q)) 41 k (nI b)) 0 57 (nI (k + 1))) := by
          unfold FX12_tell
          rw [h2, if_neg hne, M_isMinute_i hM hm, bdI_s, if_neg one_ne, M_isPart_i hq, bdI_s, if_neg one_ne]
          simp (disch := omega) only [gdx, cl_nI, ↓reduceIte, if_true, if_false, ple_t, ple_f, plt_t, plt_f, peq_t, peq_f, nI_add, pk_mul, pk_sub, m1c, m2c, nlt_p, nle_p, nge_p, ngt_p, neq_p, neq_q, pI_o, pI_s, pk_us, pk_un, bdI_s, bdL_s, bdV_s, hl_, li_0, li_1, li_2, li_3, li_4, li_5, li_6, li_7, li_8, li_9, li_10, li_11, li_12, li_13, li_15, li_16, li_18, li_19, li_20, li_21, li_22, li_23, li_24, li_25, li_26, li_28, li_29, li_30, li_31, li_32, li_33, li_39, li_40, li_41, li_42, li_43, li_44, li_45, li_47, li_48, li_57, li_59, li_60, li_61, li_80, li_88, li_97, li_99, li_122, li_130, li_167, li_255, li_256, li_400, li_408, li_420, li_1287, li_2000, li_9999, h2, nb, Nat.add_sub_cancel]
        refine ⟨nI k, _, _, eX, eM, Rel_W t r v p s e pl ky ((((kX.rf.pp (by decide)).pp (by decide)).pp (by decide)).pp (by decide)) (kM.tr (kM.tr (kM.tr (kM.pR (by decide) (by decide)) (kM.pR (by decide) (by decide))) (kM.pR (by decide) (by decide))) (kM.pF (by decide))) ⟨k + 1, by omega, ?_, ?_, fun i hi => ?_⟩⟩
        · simp (disch := omega) only [gdx, cl_nI, ↓reduceIte, if_true, if_false, ple_t, ple_f, plt_t, plt_f, peq_t, peq_f, nI_add, pk_mul, pk_sub, m1c, m2c, nlt_p, nle_p, nge_p, ngt_p, neq_p, neq_q, pI_o, pI_s, pk_us, pk_un, bdI_s, bdL_s, bdV_s, hl_, li_0, li_1, li_2, li_3, li_4, li_5, li_6, li_7, li_8, li_9, li_10, li_11, li_12, li_13, li_15, li_16, li_18, li_19, li_20, li_21, li_22, li_23, li_24, li_25, li_26, li_28, li_29, li_30, li_31, li_32, li_33, li_39, li_40, li_41, li_42, li_43, li_44, li_45, li_47, li_48, li_57, li_59, li_60, li_61, li_80, li_88, li_97, li_99, li_122, li_130, li_167, li_255, li_256, li_400, li_408, li_420, li_1287, li_2000, li_9999]
        · simp (disch := omega) only [gdx, cl_nI, ↓reduceIte, if_true, if_false, ple_t, ple_f, plt_t, plt_f, peq_t, peq_f, nI_add, pk_mul, pk_sub, m1c, m2c, nlt_p, nle_p, nge_p, ngt_p, neq_p, neq_q, pI_o, pI_s, pk_us, pk_un, bdI_s, bdL_s, bdV_s, hl_, li_0, li_1, li_2, li_3, li_4, li_5, li_6, li_7, li_8, li_9, li_10, li_11, li_12, li_13, li_15, li_16, li_18, li_19, li_20, li_21, li_22, li_23, li_24, li_25, li_26, li_28, li_29, li_30, li_31, li_32, li_33, li_39, li_40, li_41, li_42, li_43, li_44, li_45, li_47, li_48, li_57, li_59, li_60, li_61, li_80, li_88, li_97, li_99, li_122, li_130, li_167, li_255, li_256, li_400, li_408, li_420, li_1287, li_2000, li_9999]
        · by_cases hik : i = k
          · subst hik
            refine ⟨⟨m, hm, ?_, ?_⟩, ⟨q, hq, ?_, ?_⟩, ⟨b, hb, ?_, ?_⟩⟩ <;> simp (disch := omega) only [gdx, cl_nI, ↓reduceIte, if_true, if_false, ple_t, ple_f, plt_t, plt_f, peq_t, peq_f, nI_add, pk_mul, pk_sub, m1c, m2c, nlt_p, nle_p, nge_p, ngt_p, neq_p, neq_q, pI_o, pI_s, pk_us, pk_un, bdI_s, bdL_s, bdV_s, hl_, li_0, li_1, li_2, li_3, li_4, li_5, li_6, li_7, li_8, li_9, li_10, li_11, li_12, li_13, li_15, li_16, li_18, li_19, li_20, li_21, li_22, li_23, li_24, li_25, li_26, li_28, li_29, li_30, li_31, li_32, li_33, li_39, li_40, li_41, li_42, li_43, li_44, li_45, li_47, li_48, li_57, li_59, li_60, li_61, li_80, li_88, li_97, li_99, li_122, li_130, li_167, li_255, li_256, li_400, li_408, li_420, li_1287, li_2000, li_9999]
          · have hw' := hw i (by omega)
            simp (disch := omega) only [gdx, cl_nI, ↓reduceIte, if_true, if_false, ple_t, ple_f, plt_t, plt_f, peq_t, peq_f, nI_add, pk_mul, pk_sub, m1c, m2c, nlt_p, nle_p, nge_p, ngt_p, neq_p, neq_q, pI_o, pI_s, pk_us, pk_un, bdI_s, bdL_s, bdV_s, hl_, li_0, li_1, li_2, li_3, li_4, li_5, li_6, li_7, li_8, li_9, li_10, li_11, li_12, li_13, li_15, li_16, li_18, li_19, li_20, li_21, li_22, li_23, li_24, li_25, li_26, li_28, li_29, li_30, li_31, li_32, li_33, li_39, li_40, li_41, li_42, li_43, li_44, li_45, li_47, li_48, li_57, li_59, li_60, li_61, li_80, li_88, li_97, li_99, li_122, li_130, li_167, li_255, li_256, li_400, li_408, li_420, li_1287, li_2000, li_9999, hw']
            exact ⟨trivial, trivial, trivial⟩
      · refine ⟨-1, σX, σM, ?_, ?_, Rel_q hR qX.rf kM.rf⟩
        · unfold FX11_tell
          rw [X_isMinute_i h30 hnm hm, bdI_s, if_neg one_ne, X_isPart_o ho, bdI_s, if_pos rfl]
        · unfold FX12_tell
          rw [h2, if_neg hne, M_isMinute_i hM hm, bdI_s, if_neg one_ne, M_isPart_o ho, bdI_s, if_pos rfl]
    · refine ⟨-1, σX, σM, ?_, ?_, Rel_q hR qX.rf kM.rf⟩
      · unfold FX11_tell
        rw [X_isMinute_o h30 ho, bdI_s, if_pos rfl]
      · unfold FX12_tell
        rw [h2, if_neg hne, M_isMinute_o hM ho, bdI_s, if_pos rfl]
