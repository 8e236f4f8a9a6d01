/-! A lease: from its number on. -/
theorem N_SYV {K P V W : Nat → Nat} {N a hi w : Nat} {σX σM : HS} (hS : TS K P V N) (h : SY K P V W N a σX σM) (dw : DW σX σM P a w) (hhi : hi ≤ 9999) : (V a ≤ hi ∧ FX5_takeNumber (nI hi) σX = some (1, tkS σX P a) ∧ FX12_bounded 0 (nI hi) σM = some (nI (V a), pI σM 0 11 (nI (a + 1))) ∧ (tkS σX P a).2 2 9 = lN (V a) ∧ SY K P V W N (a + 1) (tkS σX P a) (pI σM 0 11 (nI (a + 1)))) ∨ ∃ σX' σM' r, FR okNX olX σX σX' ∧ FR okNM olM σM σM' ∧ FX12_bounded 0 (nI hi) σM = some (r, σM') ∧ ((∃ w', FX5_takeNumber (nI hi) σX = some (1, σX') ∧ r = nI (V a) ∧ hi < V a ∧ V a ≤ 9999 ∧ σX'.2 2 9 = lN (V a) ∧ SY K P V W N (a + 1) σX' σM' ∧ DW σX' σM' P (a + 1) w' ∧ w' ≠ 0) ∨ ∃ ft fp, FX5_takeNumber (nI hi) σX = some (0, σX') ∧ σX'.1 2 11 = nI ft ∧ σX'.1 2 1 = nI fp ∧ FL σM' ft fp) := by
  by_cases hv : V a ≤ hi
  · by_cases hK : K a = 2 ∧ a < 400
    · left
      obtain ⟨hK, h4⟩ := hK
      obtain ⟨h1, h2, ha, x8, x11, m11, m12, m13⟩ := id h
      have hV := (hS.2.1 a ha).2.2
      have t9 : (tkS σX P a).2 2 9 = lN (V a) := tk_9.trans ((h1 a ha).2.2.1 hK)
      have e2 : FX12_is (2 : Int32) σM = some (bI (decide (K a = 2)), σM) := M_is (k := 2) hS h2 m11 m13 ha (by omega)
      refine ⟨hv, ?_, ?_, t9, tk_SY hS h h4 (by omega) (by omega)⟩
      · unfold FX5_takeNumber
        rw [show (23 : Int32) = nI (xkN 2) from rfl, X_take (k := 2) hS h1 x8 ha (by unfold vk; omega), if_pos hK, if_pos h4, bdI_s, if_neg one_ne, t9, nI_l (by omega), if_pos ((lg_cmp_le _ _).mpr ((lN_le (by omega) (by omega)).mpr hv))]
      · unfold FX12_bounded
        rw [m13, if_neg (show ¬ (0 : Int32) < 0 by decide), e2, bdI_s, show decide (K a = 2) = true from decide_eq_true hK, bI_t, if_neg one_ne, m11, gd_t (ix_nI (by omega) (by omega))]
        simp only [hl_]
        rw [cl_nI (by omega), (h2 a ha).2.2.1 hK, if_neg (show ¬ nI (V a) < (0 : Int32) from nI_nlt (b := 0) (by omega) (by omega)), if_pos (nI_le hv (by omega))]
        unfold FX12_bounded_51
        rw [M_goesOn hS h2 m11 m13 ha, if_pos h4, bdV_s]
    · right
      obtain ⟨σX', σM', r, f1, f2, eB, hh⟩ := N_SY hS h dw hhi
      refine ⟨σX', σM', r, f1, f2, eB, ?_⟩
      rcases hh with ⟨w', eN, -⟩ | hh
      · exfalso
        have e := eN
        unfold FX5_takeNumber at e
        rw [show (23 : Int32) = nI (xkN 2) from rfl, X_take (k := 2) hS h.1 h.2.2.2.1 h.2.2.1 (by unfold vk; omega)] at e
        by_cases h2 : K a = 2
        · rw [if_pos h2, if_neg (fun q => hK ⟨h2, q⟩), bdI_s, if_pos rfl] at e
          exact absurd (congrArg Prod.fst (Option.some.inj e)) (by show ¬ (0 : Int32) = 1; decide)
        · rw [if_neg h2, bdI_s, if_pos rfl] at e
          exact absurd (congrArg Prod.fst (Option.some.inj e)) (by show ¬ (0 : Int32) = 1; decide)
      · exact Or.inr hh
  · right
    obtain ⟨σX', σM', r, f1, f2, eB, hh⟩ := N_SY hS h dw hhi
    refine ⟨σX', σM', r, f1, f2, eB, ?_⟩
    rcases hh with ⟨w', eN, hr, hV, t9, S2, dw2, hw2⟩ | hh
    · exact Or.inl ⟨w', eN, hr, by omega, hV, t9, S2, dw2, fun q => hv (hw2 q).2⟩
    · exact Or.inr hh
theorem EA_tr {K P V W : Nat → Nat} {N s nl c c' w w1 : Nat} {x1 : Int32} {rX : Option (Int32 × HS)} {rM : Option HS} {σX σM τX τM : HS} (fX : FR okNX olX σX τX) (fM : FR okNM olM σM τM) (hc : c ≤ c') (hw : w1 = 0 → w = 0) (h : EA K P V W N s nl c' w1 x1 rX rM τX τM) : EA K P V W N s nl c w x1 rX rM σX σM := by
  obtain ⟨σX', σM', g1, g2, e, hh⟩ := h
  refine ⟨σX', σM', (fX.up nX_E (fun _ _ h => h)).tr g1, (fM.up nM_E (fun _ _ h => h)).tr g2, e, ?_⟩
  rcases hh with ⟨a', w', e1, e2, e3, e4, e5, ⟨e6, e7⟩, e8, e9⟩ | hh
  · exact Or.inl ⟨a', w', e1, by omega, e3, e4, fun q => hw (e5 q), ⟨by rw [e6, fX.1 2 5 (by unfold okNX; omega)], e7⟩, e8, fun j hj => by rw [← fM.1 14 _ (by unfold okNM; omega)]; exact e9 j hj⟩
  · exact Or.inr hh
/-- nothing is stored -/
theorem L_116 {K P V W : Nat → Nat} {N s nl c w : Nat} {σX σM : HS} (y x1 x2 x3 : Int32) (hS : TS K P V N) (hs : s < 2) (h : SY K P V W N c σX σM) (dw : DW σX σM P c w) (m19 : σM.1 0 19 = nI s) (c2 : σM.1 15 s = nI nl) (g : ∀ j, j < 8 → σX.1 32 j = σM.1 14 (8 * s + j)) : EA K P V W N s nl c w x1 (FX5_readLease_116 x1 x2 σX) (FX12_tellLease_107 y x1 x3 0 σM) σX σM := by
  unfold FX5_readLease_116
  rcases L_107 (p := 0) y x1 hS hs (by omega) h m19 c2 with ⟨e3, S2, e4, -⟩ | ⟨σX3, σM3, e3, B, e4⟩
  · rw [e3, bdI_s, e4]
    refine ⟨_, _, tk_f.up (fun h j hh => nX_E h j (okT_N h j hh)) (fun _ _ h => h), (FR.rf.p (by unfold okEM okNM; omega)).p (by unfold okEM; omega), rfl, Or.inl ⟨c + 1, w, rfl, by omega, S2, ?_, id, ⟨?_, ?_⟩, fun j hj => ?_, fun j hj => ?_⟩⟩
    · exact DW_f tk_f (((FR.rf (ok := fun h j => (h = 0 ∧ j = 11) ∨ h = 15) (okl := olM)).p (Or.inl ⟨rfl, rfl⟩)).p (Or.inr rfl)) (by unfold okT; omega) (by unfold okT; omega) (by omega) (by omega) (by omega) dw
    · rw [tk_f.1 2 5 (by unfold okT; omega)]
    · rw [pI_s, pk_us]
    · rw [tk_f.1 32 j (by unfold okT; omega), pI_o (by omega), pI_o (by omega)]; exact g j hj
    · left; rw [pI_o (by omega), pI_o (by omega)]
  · obtain ⟨ft, fp, b11, b1, L⟩ := BF_2 B
    rw [e3, bdI_s, e4]
    exact ⟨σX3, σM3, (BF_n B).up nX_E (fun _ _ h => h), (BF_M B).up bM_E (fun _ _ h => h), rfl, Or.inr ⟨ft, fp, rfl, b11, b1, L⟩⟩
theorem L_63 {K P V W : Nat → Nat} {N s nl c w : Nat} {σX σM : HS} (y x1 : Int32) (hS : TS K P V N) (hs : s < 2) (h : SY K P V W N c σX σM) (dw : DW σX σM P c w) (m19 : σM.1 0 19 = nI s) (c2 : σM.1 15 s = nI nl) (g : ∀ j, j < 8 → σX.1 32 j = σM.1 14 (8 * s + j)) : EA K P V W N s nl c w x1 (FX5_readLease_63 x1 σX) (FX12_tellLease_44 y x1 σM) σX σM := by
  have hN := hS.1
  have hc := h.2.2.1
  unfold FX5_readLease_63 FX12_tellLease_44
  simp only [hl_]
  rw [h.2.2.2.2.2.1]
  rcases N_SYV (hi := 7) hS h dw (by omega) with ⟨hv, eN, eB, t9, S2⟩ | ⟨σX2, σM2, r, fX2, fM2, eB, hh⟩
  · obtain ⟨σX2, hX2⟩ : ∃ τ, τ = tkS σX P c := ⟨_, rfl⟩
    obtain ⟨σM2, hM2⟩ : ∃ τ, τ = pI σM 0 11 (nI (c + 1)) := ⟨_, rfl⟩
    have v10 : σX2.1 2 10 = nI (P c) := by rw [hX2]; exact tk_10
    have dwc : DW σX2 σM2 P c w := by rw [hX2, hM2]; exact DW_f tk_f (FR.rf.p (ok := okPt 0 11) (okl := olM) ⟨rfl, rfl⟩) (by unfold okT; omega) (by unfold okT; omega) (by unfold okPt; omega) (by unfold okPt; omega) (Nat.le_refl _) dw
    have fX2 : FR okNX olX σX σX2 := by rw [hX2]; exact tk_f.up okT_N (fun _ _ h => h)
    have fM2 : FR okNM olM σM σM2 := by rw [hM2]; exact FR.rf.p (by unfold okNM; omega)
    rw [← hX2, ← hM2] at S2
    rw [← hX2] at eN t9
    rw [← hM2] at eB
    have u19 : σM2.1 0 19 = nI s := by rw [fM2.1 0 19 (by unfold okNM; omega)]; exact m19
    have u15 : σM2.1 15 s = nI nl := by rw [fM2.1 15 s (by unfold okNM; omega)]; exact c2
    have u14 : ∀ j, j < 8 → σX2.1 32 j = σM2.1 14 (8 * s + j) := fun j hj => by rw [fX2.1 32 j (by unfold okNX; omega), fM2.1 14 _ (by unfold okNM; omega)]; exact g j hj
    have h8 : V c < 8 := by omega
    have e8 : (8 : Int32) * nI s + nI (V c) = nI (8 * s + V c) := by rw [show (8 : Int32) = nI 8 from rfl, pk_mul, nI_add]
    rw [show FX12_bounded (0 : Int32) (7 : Int32) σM = some (nI (V c), σM2) from eB, bdI_s, show FX5_takeNumber (7 : Int32) σX = some (1, σX2) from eN, bdI_s, if_neg one_ne, t9, lN_i, S2.2.2.2.2.2.2.2, if_pos rfl, X_isPart_i h8, bdI_s, if_neg one_ne, gd_t (ix_nI h8 (by omega)), cl_nI (by omega), u14 _ h8, if_neg (show ¬ (8 : Int32) ≤ nI (V c) from nI_ge (b := 8) h8 (by omega))]
    unfold FX12_tellLease_75
    rw [if_neg one_ne, u19, e8, gd_t (ix_nI (by omega) (by omega)), cl_nI (by omega)]
    by_cases h2 : σM2.1 14 (8 * s + V c) = -2
    · rw [if_pos h2, if_pos h2]
      exact EA_tr fX2 fM2 (by omega) id (L_106 _ x1 hS hs h8 S2 (DW_f (FR.rf (ok := okPt 0 11) (okl := olM)) (FR.rf (ok := okPt 0 11) (okl := olM)) (by unfold okPt; omega) (by unfold okPt; omega) (by unfold okPt; omega) (by unfold okPt; omega) (by omega) dwc) u19 u15 u14)
    · rw [if_neg h2, if_neg h2, show (3 : Int32) = nI 3 from rfl, X_later dwc.1 dwc.2.2.1 v10, bdV_s, M_wrong hS S2.2.1 hc S2.2.2.2.2.2.2.2 dwc.2.1 dwc.2.2.1 (fun hw => (dwc.2.2.2.2 hw).imp (fun t q => ⟨q.1, q.2.2⟩)), bdV_s]
      have dwb := DW_rec (c := 3) (by omega) (by omega) dwc
      obtain ⟨ωX, hωX⟩ : ∃ τ, τ = (if w = 0 then pI (pI σX2 2 12 (nI 3)) 2 13 (nI (P c)) else σX2) := ⟨_, rfl⟩
      obtain ⟨ωM, hωM⟩ : ∃ τ, τ = (if w = 0 then pI (pI σM2 0 15 (nI 3)) 0 16 (nI (P c)) else σM2) := ⟨_, rfl⟩
      rw [← hωX, ← hωM] at dwb ⊢
      have S3 : SY K P V W N (c + 1) ωX ωM := by rw [hωX, hωM]; exact rec_SM (rec_SY S2)
      have oX : FR okNX olX σX2 ωX := by rw [hωX]; exact rec_fX
      have oM : FR okNM olM σM2 ωM := by rw [hωM]; exact rec_fM
      refine EA_tr (fX2.tr oX) (fM2.tr oM) (Nat.le_succ c) (fun q => ?_) (L_106 _ x1 hS hs h8 S3 dwb (by rw [oM.1 0 19 (by unfold okNM; omega)]; exact u19) (by rw [oM.1 15 s (by unfold okNM; omega)]; exact u15) (fun j hj => by rw [oX.1 32 j (by unfold okNX; omega), oM.1 14 _ (by unfold okNM; omega)]; exact u14 j hj))
      by_cases hw : w = 0
      · exact hw
      · rw [if_neg hw] at q; exact q
  · rw [show FX12_bounded (0 : Int32) (7 : Int32) σM = some (r, σM2) from eB, bdI_s]
    rcases hh with ⟨w2, eN, hr, hV7, hV, t9, S2, dw2, hw2⟩ | ⟨ft, fp, eN, z11, z1, L⟩
    · have u19 : σM2.1 0 19 = nI s := by rw [fM2.1 0 19 (by unfold okNM; omega)]; exact m19
      have u15 : σM2.1 15 s = nI nl := by rw [fM2.1 15 s (by unfold okNM; omega)]; exact c2
      have u14 : ∀ j, j < 8 → σX2.1 32 j = σM2.1 14 (8 * s + j) := fun j hj => by rw [fX2.1 32 j (by unfold okNX; omega), fM2.1 14 _ (by unfold okNM; omega)]; exact g j hj
      have ho : nI (V c) < 0 ∨ nI 8 - 1 < nI (V c) := Or.inr (show (7 : Int32) < nI (V c) from nI_lt (a := 7) hV7 (by omega))
      rw [show FX5_takeNumber (7 : Int32) σX = some (1, σX2) from eN, bdI_s, if_neg one_ne, t9, lN_i, S2.2.2.2.2.2.2.2, if_pos rfl, hr, X_isPart_o ho, bdI_s, if_pos rfl, if_pos (show (8 : Int32) ≤ nI (V c) from nI_le (a := 8) (by omega) (by omega))]
      unfold FX12_tellLease_74 FX12_tellLease_75
      rw [if_pos rfl]
      exact EA_tr fX2 fM2 (by omega) (fun q => absurd q hw2) (L_116 _ x1 _ _ hS hs S2 dw2 u19 u15 u14)
    · rw [show FX5_takeNumber (7 : Int32) σX = some (0, σX2) from eN, bdI_s, if_pos rfl, if_neg (nz13 L).1, M_74F _ _ _ L]
      exact ⟨σX2, σM2, fX2.up nX_E (fun _ _ h => h), fM2.up nM_E (fun _ _ h => h), rfl, Or.inr ⟨ft, fp, rfl, z11, z1, L⟩⟩
