/-! An if of a law, and a law. -/
theorem L_A {K P V W : Nat → Nat} {N s k a cx cm b f g : Nat} {σX σM : HS} {rX : Option (Int32 × HS)} {rM : Option HS} (x1 x2 y1 y2 y3 : Int32) (hS : TS K P V N) (hs : s < 2) (h : SY K P V W N a σX σM) (hcm : cm ≤ 420 * s + a) (hcm0 : 420 * s ≤ cm) (hcx : cx ≤ 8 + a) (hb : b + 1 < 130 * s + 130) (hb0 : 130 * s ≤ b) (x5 : σX.1 12 5 = nI cx) (m39 : σM.1 0 39 = nI cm) (m33 : σM.1 0 33 = nI b) (hK : K a = 30) (eX0 : rX = xA f x1 x2 σX) (eM0 : rM = bdV (FX12_goesOn σM) fun σ => mA (FX12_tellLaw_12 (g + 1)) y1 y2 y3 σ) : (∃ a' A σX' σM', rX = xB f x1 x2 σX' ∧ rM = mB (FX12_tellLaw_12 (g + 1)) y1 y2 y3 σM' ∧ FR (okX cx) olX σX σX' ∧ FR (okL s k cm b) olM σM σM' ∧ SY K P V W N a' σX' σM' ∧ (σX'.1 12 5 = nI (cx + A.length) ∧ XM (σX'.1 34) (σX'.1 35) A cx) ∧ (σM'.1 0 39 = nI (cm + A.length) ∧ LM (σM'.1 26) (σM'.1 27) A cm) ∧ (σM'.1 0 33 = nI b ∧ σM'.1 21 b = 1 ∧ σM'.1 22 b = nI cm) ∧ dpP A 0 1 ∧ 1 ≤ A.length ∧ a + A.length + 2 ≤ a') ∨ FO s k cx cm b rX rM σX σM := by
  have hN := hS.1
  have ha := h.2.2.1
  have i1 : ix (nI b) 260 = true := ix_nI (by omega) (by omega)
  unfold xA at eX0
  rw [show (10 : Int32) = nI (xkN (K a)) by rw [hK]; rfl] at eX0
  rcases SY_go hS h (by omega) (by omega) with ⟨h4, eX, eM, S1⟩ | ⟨σX', σM', eX, eM, B⟩
  · rw [eX, bdI_s, if_neg one_ne] at eX0
    rw [eM, bdV_s] at eM0
    obtain ⟨τX, hτX⟩ : ∃ τ, τ = tkS σX P a := ⟨_, rfl⟩
    obtain ⟨τ0, hτ0⟩ : ∃ τ, τ = pI σM 0 11 (nI (a + 1)) := ⟨_, rfl⟩
    rw [← hτX] at eX0 S1
    rw [← hτ0] at eM0 S1
    have t33 : τ0.1 0 33 = nI b := by rw [hτ0, pI_s, pk_un (by omega)]; exact m33
    have t39 : τ0.1 0 39 = nI cm := by rw [hτ0, pI_s, pk_un (by omega)]; exact m39
    have t5 : τX.1 12 5 = nI cx := by rw [hτX, tk_f.1 12 5 (by unfold okT; omega)]; exact x5
    have fX0 : FR (okX cx) olX σX τX := by rw [hτX]; exact tk_f.up tk_X (fun _ _ h => h)
    obtain ⟨τ1, hτ1⟩ : ∃ τ, τ = pI (pI τ0 21 b 1) 22 b (nI cm) := ⟨_, rfl⟩
    have fM1 : FR (okL s k cm b) olM σM τ1 := by rw [hτ1, hτ0]; exact ((FR.rf.p (by unfold okL; omega)).p (by unfold okL; omega)).p (by unfold okL; omega)
    have S2 : SY K P V W N (a + 1) τX τ1 := by rw [hτ1]; exact SY_pM (SY_pM S1 (by omega) (by omega)) (by omega) (by omega)
    have u39 : τ1.1 0 39 = nI cm := by rw [hτ1, pI_o (by omega), pI_o (by omega)]; exact t39
    have u33 : τ1.1 0 33 = nI b := by rw [hτ1, pI_o (by omega), pI_o (by omega)]; exact t33
    have eM1 : rM = bdV (FX12_expression τ1) fun σ => mA' (FX12_tellLaw_12 (g + 1)) y1 y2 y3 σ := by
      rw [eM0]
      unfold mA
      rw [t33, gd_t i1]
      simp only [hl_]
      rw [cl_nI (by omega), show vp_nar .boolean (1 : Int32) = 1 from rfl, pI_o (show (0 : Nat) ≠ 21 by omega), t33, t39, gd_t i1, cl_nI (by omega), ← hτ1]
    obtain ⟨σX2, σM2, fX2, fM2, e2, hh⟩ := E_SY hS hs S2 (by omega) hcm0 (by omega) t5 u39
    rw [e2, bdV_s] at eM1
    have v33 : σM2.1 0 33 = nI b := by rw [fM2.1 0 33 (by unfold okM; omega)]; exact u33
    have v21 : σM2.1 21 b = 1 := by rw [fM2.1 21 b (by unfold okM; omega), hτ1, pI_o (by omega), pI_s, pk_us]
    have v22 : σM2.1 22 b = nI cm := by rw [fM2.1 22 b (by unfold okM; omega), hτ1, pI_s, pk_us]
    have fM12 : FR (okL s k cm b) olM σM σM2 := fM1.tr (fM2.up (okM_L (Nat.le_refl cm)) (fun _ _ h => h))
    rcases hh with ⟨a2, A, eA, S3, ⟨z5, zA⟩, ⟨w39, wA⟩, hd, hl1, hl2⟩ | ⟨ft, fp, eA, z11, z1, L⟩
    · rw [eA, bdI_s, if_neg one_ne, show (60 : Int32) = nI (xkN 13) from rfl] at eX0
      unfold mA' at eM1
      rw [show (13 : Int32) = nI 13 from rfl] at eM1
      rcases SY_must (k := 13) hS S3 (by unfold vk; omega) (by omega) (by omega) with ⟨hk13, e3, e4, S4⟩ | ⟨σX3, σM3, e3, e4, B⟩
      · rw [e3, bdI_s, if_neg one_ne] at eX0
        rw [e4, bdV_s] at eM1
        refine Or.inl ⟨a2 + 1, A, _, _, eX0, eM1, ?_, ?_, S4, ⟨?_, ?_⟩, ⟨?_, ?_⟩, ⟨?_, ?_, ?_⟩, hd, hl1, by omega⟩
        · exact (fX0.tr fX2).tr (tk_f.up tk_X (fun _ _ h => h))
        · exact fM12.p (by unfold okL; omega)
        · rw [tk_f.1 12 5 (by unfold okT; omega)]; exact z5
        · exact XM_eq A cx (fun j _ _ => ⟨tk_f.1 34 j (by unfold okT; omega), tk_f.1 35 j (by unfold okT; omega)⟩) zA
        · rw [pI_s, pk_un (by omega)]; exact w39
        · rw [pI_o (by omega), pI_o (by omega)]; exact wA
        · rw [pI_s, pk_un (by omega)]; exact v33
        · rw [pI_o (by omega)]; exact v21
        · rw [pI_o (by omega)]; exact v22
      · rw [e3, bdI_s, if_pos rfl] at eX0
        rw [e4, bdV_s] at eM1
        obtain ⟨ft, fp, b11, b1, L⟩ := BF_2 B
        obtain ⟨σM4, e5, f5, L5⟩ := M_mBF (k := k) (cm := cm) (br := b) (b := b) (f := g) y1 y2 y3 hs L (by rw [(BF_M B).1 0 33 (by unfold okBF; omega)]; exact v33) (Nat.le_refl _) (by omega)
        exact Or.inr ⟨σX3, σM4, ft, fp, (fX0.tr fX2).tr (BF_X B), (fM12.tr ((BF_M B).up okB_L (fun _ _ h => h))).tr f5, eX0, eM1.trans e5, b11, b1, L5⟩
    · rw [eA, bdI_s, if_pos rfl] at eX0
      obtain ⟨σM4, e5, f5, L5⟩ := M_mA'F (k := k) (cm := cm) (br := b) (b := b) (f := g) y1 y2 y3 hs L v33 (Nat.le_refl _) (by omega)
      exact Or.inr ⟨σX2, σM4, ft, fp, fX0.tr fX2, fM12.tr f5, eX0, eM1.trans e5, z11, z1, L5⟩
  · rw [eX, bdI_s, if_pos rfl] at eX0
    rw [eM, bdV_s] at eM0
    obtain ⟨ft, fp, b11, b1, L⟩ := BF_2 B
    obtain ⟨σM4, e5, f5, L5⟩ := M_mAF (k := k) (cm := cm) (br := b) (b := b) (f := g) y1 y2 y3 hs L (by rw [(BF_M B).1 0 33 (by unfold okBF; omega)]; exact m33) (Nat.le_refl _) (by omega)
    exact Or.inr ⟨σX', σM4, ft, fp, BF_X B, ((BF_M B).up okB_L (fun _ _ h => h)).tr f5, eX0, eM0.trans e5, b11, b1, L5⟩
def okb (s cm b h j : Nat) : Prop := okM cm (420 * s + 420) h j ∨ (h = 23 ∧ j = b)
theorem okb_L {s k cm cm' br b : Nat} (hc : cm ≤ cm') (hb : br ≤ b) (hb2 : b < 130 * s + 130) : ∀ h j, okb s cm' b h j → okL s k cm br h j := by intro h j; unfold okb okM okL; omega
theorem L_B {K P V W : Nat → Nat} {N s k a cx cm b f g : Nat} {σX σM : HS} {rX : Option (Int32 × HS)} {rM : Option HS} (x1 x2 y1 y2 y3 : Int32) (hS : TS K P V N) (hs : s < 2) (h : SY K P V W N a σX σM) (hcm : cm ≤ 420 * s + a) (hcm0 : 420 * s ≤ cm) (hcx : cx ≤ 8 + a) (hb : b + 1 < 130 * s + 130) (hb0 : 130 * s ≤ b) (x5 : σX.1 12 5 = nI cx) (m39 : σM.1 0 39 = nI cm) (m33 : σM.1 0 33 = nI b) (eX0 : rX = xB f x1 x2 σX) (eM0 : rM = mB (FX12_tellLaw_12 (g + 1)) y1 y2 y3 σM) : (∃ a' B σX' σM', rX = xC f x1 x2 (nI (cx + B.length)) σX' ∧ rM = mC (FX12_tellLaw_12 (g + 1)) y1 y2 (y3 + 1) σM' ∧ FR (okX cx) olX σX σX' ∧ FR (okb s cm b) olM σM σM' ∧ SY K P V W N a' σX' σM' ∧ (σX'.1 12 5 = nI (cx + B.length + 1) ∧ XM (σX'.1 34) (σX'.1 35) B cx ∧ σX'.1 34 (cx + B.length) = nI 2) ∧ (σM'.1 0 39 = nI (cm + B.length) ∧ LM (σM'.1 26) (σM'.1 27) B cm) ∧ (σM'.1 0 33 = nI b ∧ σM'.1 23 b = nI cm) ∧ dpP B 0 1 ∧ 1 ≤ B.length ∧ a + B.length + 1 ≤ a') ∨ FO s k cx cm b rX rM σX σM := by
  have hN := hS.1
  have ha := h.2.2.1
  have i1 : ix (nI b) 260 = true := ix_nI (by omega) (by omega)
  obtain ⟨τ1, hτ1⟩ : ∃ τ, τ = pI σM 23 b (nI cm) := ⟨_, rfl⟩
  have S1 : SY K P V W N a σX τ1 := by rw [hτ1]; exact SY_pM h (by omega) (by omega)
  have u39 : τ1.1 0 39 = nI cm := by rw [hτ1, pI_o (by omega)]; exact m39
  have u33 : τ1.1 0 33 = nI b := by rw [hτ1, pI_o (by omega)]; exact m33
  have fM1 : FR (okb s cm b) olM σM τ1 := by rw [hτ1]; exact FR.rf.p (by unfold okb; omega)
  have eM1 : rM = bdV (FX12_expression τ1) fun σ => FX12_tellLaw_110 (FX12_tellLaw_12 (g + 1)) y1 y2 (y3 + 1) σ := by
    rw [eM0]
    unfold mB
    rw [m33, gd_t i1]
    simp only [hl_]
    rw [cl_nI (by omega), m39, ← hτ1, S1.2.2.2.2.2.2.2, if_pos rfl]
  obtain ⟨σX2, σM2, fX2, fM2, e2, hh⟩ := E_SY hS hs S1 hcm hcm0 hcx x5 u39
  rw [e2, bdV_s] at eM1
  unfold xB at eX0
  have v33 : σM2.1 0 33 = nI b := by rw [fM2.1 0 33 (by unfold okM; omega)]; exact u33
  have v23 : σM2.1 23 b = nI cm := by rw [fM2.1 23 b (by unfold okM; omega), hτ1, pI_s, pk_us]
  have fM12 : FR (okb s cm b) olM σM σM2 := fM1.tr (fM2.up (fun _ _ h => Or.inl h) (fun _ _ h => h))
  have fL : FR (okL s k cm b) olM σM σM2 := fM12.up (okb_L (Nat.le_refl _) (Nat.le_refl _) (by omega)) (fun _ _ h => h)
  rcases hh with ⟨a2, B, eA, S3, ⟨z5, zA⟩, ⟨w39, wA⟩, hd, hl1, hl2⟩ | ⟨ft, fp, eA, z11, z1, L⟩
  · rw [eA, bdI_s, if_neg one_ne, show (11 : Int32) = nI (xkN 31) from rfl] at eX0
    unfold FX12_tellLaw_110 at eM1
    rw [show (31 : Int32) = nI 31 from rfl] at eM1
    rcases SY_must (k := 31) hS S3 (by unfold vk; omega) (by omega) (by omega) with ⟨hk31, e3, e4, S4⟩ | ⟨σX3, σM3, e3, e4, B⟩
    · obtain ⟨τX, hτX⟩ : ∃ τ, τ = tkS σX2 P a2 := ⟨_, rfl⟩
      rw [e3, bdI_s, if_neg one_ne] at eX0
      rw [e4, bdV_s] at eM1
      rw [← hτX] at eX0 S4
      have t5 : τX.1 12 5 = nI (cx + B.length) := by rw [hτX, tk_f.1 12 5 (by unfold okT; omega)]; exact z5
      have ha4 := S4.2.2.1
      simp only [hl_] at eX0
      rw [t5, X_putCode (c := cx + B.length) _ _ t5 (by omega), bdV_s] at eX0
      refine Or.inl ⟨a2 + 1, B, _, _, eX0, eM1, ?_, ?_, SY_pX (SY_pX (SY_pX S4 (by omega) (by omega)) (by omega) (by omega)) (by omega) (by omega), ⟨?_, ?_, ?_⟩, ⟨?_, ?_⟩, ⟨?_, ?_⟩, hd, hl1, by omega⟩
      · have fx : FR (okX cx) olX σX τX := by rw [hτX]; exact fX2.tr (tk_f.up tk_X (fun _ _ h => h))
        exact ((fx.p (by unfold okX; omega)).p (by unfold okX; omega)).p (by unfold okX; omega)
      · exact fM12.p (by unfold okb okM; omega)
      · rw [pI_s, pk_us]
      · refine XM_eq B cx (fun j _ hj => ⟨?_, ?_⟩) zA
        · rw [pI_o (by omega), pI_o (by omega), pI_s, pk_un (by omega), hτX, tk_f.1 34 j (by unfold okT; omega)]
        · rw [pI_o (by omega), pI_s, pk_un (by omega), pI_o (by omega), hτX, tk_f.1 35 j (by unfold okT; omega)]
      · rw [pI_o (by omega), pI_o (by omega), pI_s, pk_us]; rfl
      · rw [pI_s, pk_un (by omega)]; exact w39
      · rw [pI_o (by omega), pI_o (by omega)]; exact wA
      · rw [pI_s, pk_un (by omega)]; exact v33
      · rw [pI_o (by omega)]; exact v23
    · rw [e3, bdI_s, if_pos rfl] at eX0
      rw [e4, bdV_s] at eM1
      obtain ⟨ft, fp, b11, b1, L⟩ := BF_2 B
      obtain ⟨σM4, e5, f5, L5⟩ := M_mCF (k := k) (cm := cm) (br := b) (b := b) (f := g) y1 y2 (y3 + 1) hs L (by rw [(BF_M B).1 0 33 (by unfold okBF; omega)]; exact v33) (Nat.le_refl _) (by omega)
      exact Or.inr ⟨σX3, σM4, ft, fp, fX2.tr (BF_X B), (fL.tr ((BF_M B).up okB_L (fun _ _ h => h))).tr f5, eX0, eM1.trans e5, b11, b1, L5⟩
  · rw [eA, bdI_s, if_pos rfl] at eX0
    obtain ⟨σM4, e5, f5, L5⟩ := M_tl110F (k := k) (cm := cm) (br := b) (b := b) (f := g) y1 y2 (y3 + 1) hs L v33 (Nat.le_refl _) (by omega)
    exact Or.inr ⟨σX2, σM4, ft, fp, fX2, fL.tr f5, eX0, eM1.trans e5, z11, z1, L5⟩
def okc (cx t h j : Nat) : Prop := okX cx h j ∨ (h = 35 ∧ j = t)
theorem L_C {t : Nat} {K P V W : Nat → Nat} {N s k a cx cm b f g : Nat} {σX σM : HS} {rX : Option (Int32 × HS)} {rM : Option HS} (x1 x2 y1 y2 y3 : Int32) (hS : TS K P V N) (hs : s < 2) (h : SY K P V W N a σX σM) (hcm : cm ≤ 420 * s + a) (hcm0 : 420 * s ≤ cm) (hcx : cx ≤ 8 + a) (hb : b + 1 < 130 * s + 130) (hb0 : 130 * s ≤ b) (x5 : σX.1 12 5 = nI cx) (m39 : σM.1 0 39 = nI cm) (m33 : σM.1 0 33 = nI b) (ht : t < cx) (eX0 : rX = xC f x1 x2 (nI t) σX) (eM0 : rM = mC (FX12_tellLaw_12 (g + 1)) y1 y2 y3 σM) : (∃ a' T σX' σM', rX = FX5_readLaw_32 f x1 (x2 + 1) σX' ∧ rM = FX12_tellLaw_12 (g + 1) y1 y2 y3 σM' ∧ FR (okc cx t) olX σX σX' ∧ FR (okt s cm b) olM σM σM' ∧ SY K P V W N a' σX' σM' ∧ (σX'.1 12 5 = nI (cx + T.length + 1) ∧ XM (σX'.1 34) (σX'.1 35) T cx ∧ σX'.1 34 (cx + T.length) = nI 3 ∧ σX'.1 35 t = nI (cx + T.length + 1)) ∧ (σM'.1 0 39 = nI (cm + T.length) ∧ LM (σM'.1 26) (σM'.1 27) T cm) ∧ (σM'.1 0 33 = nI (b + 1) ∧ σM'.1 24 b = nI cm ∧ σM'.1 25 b = nI (cm + T.length)) ∧ dpP T 0 1 ∧ 1 ≤ T.length ∧ a + T.length + 1 ≤ a') ∨ FO s k cx cm b rX rM σX σM := by
  have hN := hS.1
  have ha := h.2.2.1
  obtain ⟨σX2, σM2, fX2, fM2, e2, v33, hh⟩ := T_SY hS hs h hcm hcm0 hcx x5 m39 m33 (by omega)
  unfold mC at eM0
  unfold xC at eX0
  rw [e2, bdV_s] at eM0
  have fL : FR (okL s k cm b) olM σM σM2 := fM2.up (okt_L (Nat.le_refl _) (Nat.le_refl _) (by omega)) (fun _ _ h => h)
  rcases hh with ⟨a2, T, eA, S3, ⟨z5, zA⟩, ⟨w39, wA⟩, ⟨w24, w25⟩, hd, hl1, hl2⟩ | ⟨ft, fp, eA, z11, z1, L⟩
  · rw [eA, bdI_s, if_neg one_ne, show (12 : Int32) = nI (xkN 32) from rfl] at eX0
    rw [show (32 : Int32) = nI 32 from rfl] at eM0
    rcases SY_must (k := 32) hS S3 (by unfold vk; omega) (by omega) (by omega) with ⟨hk32, e3, e4, S4⟩ | ⟨σX3, σM3, e3, e4, B⟩
    · obtain ⟨τX, hτX⟩ : ∃ τ, τ = tkS σX2 P a2 := ⟨_, rfl⟩
      rw [e3, bdI_s, if_neg one_ne] at eX0
      rw [e4, bdV_s] at eM0
      rw [← hτX] at eX0 S4
      have t5 : τX.1 12 5 = nI (cx + T.length) := by rw [hτX, tk_f.1 12 5 (by unfold okT; omega)]; exact z5
      have ha4 := S4.2.2.1
      rw [X_putCode (c := cx + T.length) _ _ t5 (by omega), bdV_s, X_aim (c := cx + T.length + 1) (by rw [pI_s, pk_us]) (by omega) (by omega), bdV_s] at eX0
      refine Or.inl ⟨a2 + 1, T, _, _, eX0, eM0, ?_, ?_, SY_pX (SY_pX (SY_pX (SY_pX S4 (by omega) (by omega)) (by omega) (by omega)) (by omega) (by omega)) (by omega) (by omega), ⟨?_, ?_, ?_, ?_⟩, ⟨?_, ?_⟩, ⟨?_, ?_, ?_⟩, hd, hl1, by omega⟩
      · have fx : FR (okX cx) olX σX τX := by rw [hτX]; exact fX2.tr (tk_f.up tk_X (fun _ _ h => h))
        have fy : FR (okc cx t) olX σX τX := fx.up (fun _ _ h => Or.inl h) (fun _ _ h => h)
        exact (((fy.p (by unfold okc okX; omega)).p (by unfold okc okX; omega)).p (by unfold okc okX; omega)).p (by unfold okc okX; omega)
      · exact fM2.p (by unfold okt okM; omega)
      · rw [pI_o (by omega), pI_s, pk_us]
      · refine XM_eq T cx (fun j hj0 hj => ⟨?_, ?_⟩) zA
        · rw [pI_o (by omega), pI_o (by omega), pI_o (by omega), pI_s, pk_un (by omega), hτX, tk_f.1 34 j (by unfold okT; omega)]
        · rw [pI_s, pk_un (by omega), pI_o (by omega), pI_s, pk_un (by omega), pI_o (by omega), hτX, tk_f.1 35 j (by unfold okT; omega)]
      · rw [pI_o (by omega), pI_o (by omega), pI_o (by omega), pI_s, pk_us]; rfl
      · rw [pI_s, pk_us]
      · rw [pI_s, pk_un (by omega)]; exact w39
      · rw [pI_o (by omega), pI_o (by omega)]; exact wA
      · rw [pI_s, pk_un (by omega)]; exact v33
      · rw [pI_o (by omega)]; exact w24
      · rw [pI_o (by omega)]; exact w25
    · rw [e3, bdI_s, if_pos rfl] at eX0
      rw [e4, bdV_s] at eM0
      obtain ⟨ft, fp, b11, b1, L⟩ := BF_2 B
      obtain ⟨σM4, e5, f5, L5⟩ := M_tl12F (k := k) (cm := cm) (br := b) (b := b + 1) (f := g) y1 y2 y3 hs L (by rw [(BF_M B).1 0 33 (by unfold okBF; omega)]; exact v33) (by omega) (by omega)
      exact Or.inr ⟨σX3, σM4, ft, fp, fX2.tr (BF_X B), (fL.tr ((BF_M B).up okB_L (fun _ _ h => h))).tr f5, eX0, eM0.trans e5, b11, b1, L5⟩
  · rw [eA, bdI_s, if_pos rfl] at eX0
    rw [M_mustF _ L.2.1 L.1, bdV_s] at eM0
    obtain ⟨σM4, e5, f5, L5⟩ := M_tl12F (k := k) (cm := cm) (br := b) (b := b + 1) (f := g) y1 y2 y3 hs L v33 (by omega) (by omega)
    exact Or.inr ⟨σX2, σM4, ft, fp, fX2, fL.tr f5, eX0, eM0.trans e5, z11, z1, L5⟩
theorem L_if {K P V W : Nat → Nat} {N s k a cx cm b f g : Nat} {σX σM : HS} {rX : Option (Int32 × HS)} {rM : Option HS} (x1 x2 y1 y2 y3 : Int32) (hS : TS K P V N) (hs : s < 2) (h : SY K P V W N a σX σM) (hcm : cm ≤ 420 * s + a) (hcm0 : 420 * s ≤ cm) (hcx : cx ≤ 8 + a) (hb : b + 1 < 130 * s + 130) (hb0 : 130 * s ≤ b) (x5 : σX.1 12 5 = nI cx) (m39 : σM.1 0 39 = nI cm) (m33 : σM.1 0 33 = nI b) (hK : K a = 30) (eX0 : rX = xA f x1 x2 σX) (eM0 : rM = bdV (FX12_goesOn σM) fun σ => mA (FX12_tellLaw_12 (g + 1)) y1 y2 y3 σ) : (∃ a' A B T σX' σM', rX = FX5_readLaw_32 f x1 (x2 + 1) σX' ∧ rM = FX12_tellLaw_12 (g + 1) y1 y2 (y3 + 1) σM' ∧ FR (okX cx) olX σX σX' ∧ FR (okL s k cm b) olM σM σM' ∧ SY K P V W N a' σX' σM' ∧ (σX'.1 12 5 = nI (cx + A.length + B.length + 1 + T.length + 1) ∧ XM (σX'.1 34) (σX'.1 35) A cx ∧ XM (σX'.1 34) (σX'.1 35) B (cx + A.length) ∧ σX'.1 34 (cx + A.length + B.length) = nI 2 ∧ σX'.1 35 (cx + A.length + B.length) = nI (cx + A.length + B.length + 1 + T.length + 1) ∧ XM (σX'.1 34) (σX'.1 35) T (cx + A.length + B.length + 1) ∧ σX'.1 34 (cx + A.length + B.length + 1 + T.length) = nI 3) ∧ (σM'.1 0 39 = nI (cm + A.length + B.length + T.length) ∧ LM (σM'.1 26) (σM'.1 27) A cm ∧ LM (σM'.1 26) (σM'.1 27) B (cm + A.length) ∧ LM (σM'.1 26) (σM'.1 27) T (cm + A.length + B.length)) ∧ (σM'.1 0 33 = nI (b + 1) ∧ σM'.1 21 b = 1 ∧ σM'.1 22 b = nI cm ∧ σM'.1 23 b = nI (cm + A.length) ∧ σM'.1 24 b = nI (cm + A.length + B.length) ∧ σM'.1 25 b = nI (cm + A.length + B.length + T.length)) ∧ (dpP A 0 1 ∧ dpP B 0 1 ∧ dpP T 0 1) ∧ a + A.length + B.length + T.length + 4 ≤ a' ∧ 3 ≤ A.length + B.length + T.length) ∨ FO s k cx cm b rX rM σX σM := by
  have hN := hS.1
  rcases L_A (k := k) x1 x2 y1 y2 y3 hS hs h hcm hcm0 hcx hb hb0 x5 m39 m33 hK eX0 eM0 with ⟨a1, A, σX1, σM1, e1, g1, fx1, fm1, S1, ⟨p5, pA⟩, ⟨q39, qA⟩, ⟨q33, q21, q22⟩, dA, lA, aA⟩ | F
  · rcases L_B (k := k) x1 x2 y1 y2 y3 hS hs S1 (by omega) (by omega) (by omega) hb hb0 p5 q39 q33 e1 g1 with ⟨a2, B, σX2, σM2, e2, g2, fx2, fm2, S2, ⟨r5, rB, r34⟩, ⟨s39, sB⟩, ⟨s33, s23⟩, dB, lB, aB⟩ | F
    · have fxl : FR (okX cx) olX σX σX2 := fx1.tr (fx2.up (okX_up (by omega)) (fun _ _ h => h))
      have fml : FR (okL s k cm b) olM σM σM2 := fm1.tr (fm2.up (okb_L (by omega) (Nat.le_refl _) (by omega)) (fun _ _ h => h))
      rcases L_C (k := k) (t := cx + A.length + B.length) x1 x2 y1 y2 (y3 + 1) hS hs S2 (by omega) (by omega) (by omega) hb hb0 r5 s39 s33 (by omega) e2 g2 with ⟨a3, T, σX3, σM3, e3, g3, fx3, fm3, S3, ⟨t5, tT, t34, t35⟩, ⟨u39, uT⟩, ⟨u33, u24, u25⟩, dT, lT, aT⟩ | F
      · refine Or.inl ⟨a3, A, B, T, σX3, σM3, e3, g3, fxl.tr (fx3.up (fun h j hh => ?_) (fun _ _ h => h)), fml.tr (fm3.up (okt_L (by omega) (Nat.le_refl _) (by omega)) (fun _ _ h => h)), S3, ⟨t5, ?_, ?_, ?_, t35, tT, t34⟩, ⟨u39, ?_, ?_, uT⟩, ⟨u33, ?_, ?_, ?_, u24, u25⟩, ⟨dA, dB, dT⟩, by omega, by omega⟩
        · unfold okc okX at hh; unfold okX; omega
        · refine XM_eq A cx (fun j _ hj => ⟨?_, ?_⟩) pA
          · rw [fx3.1 34 j (by unfold okc okX; omega), fx2.1 34 j (by unfold okX; omega)]
          · rw [fx3.1 35 j (by unfold okc okX; omega), fx2.1 35 j (by unfold okX; omega)]
        · refine XM_eq B _ (fun j _ hj => ⟨?_, ?_⟩) rB
          · rw [fx3.1 34 j (by unfold okc okX; omega)]
          · rw [fx3.1 35 j (by unfold okc okX; omega)]
        · rw [fx3.1 34 _ (by unfold okc okX; omega)]; exact r34
        · refine LM_eq A cm (fun j _ hj => ⟨?_, ?_⟩) qA
          · rw [fm3.1 26 j (by unfold okt okM; omega), fm2.1 26 j (by unfold okb okM; omega)]
          · rw [fm3.1 27 j (by unfold okt okM; omega), fm2.1 27 j (by unfold okb okM; omega)]
        · refine LM_eq B _ (fun j _ hj => ⟨?_, ?_⟩) sB
          · rw [fm3.1 26 j (by unfold okt okM; omega)]
          · rw [fm3.1 27 j (by unfold okt okM; omega)]
        · rw [fm3.1 21 b (by unfold okt okM; omega), fm2.1 21 b (by unfold okb okM; omega)]; exact q21
        · rw [fm3.1 22 b (by unfold okt okM; omega), fm2.1 22 b (by unfold okb okM; omega)]; exact q22
        · rw [fm3.1 23 b (by unfold okt okM; omega)]; exact s23
      · exact Or.inr (FO_tr fxl fml (by omega) (by omega) (Nat.le_refl _) F)
    · exact Or.inr (FO_tr fx1 fm1 (by omega) (by omega) (Nat.le_refl _) F)
  · exact Or.inr F
theorem FO_LO {N a0 s k first cx cm br n : Nat} {rX : Option (Int32 × HS)} {rM : Option HS} {σX σM : HS} (h : FO s k cx cm br rX rM σX σM) : LO N a0 s k first cx cm br n rX rM σX σM := by
  obtain ⟨σX', σM', ft, fp, f1, f2, e1, e2, g1, g2, L⟩ := h
  exact ⟨σX', σM', f1, f2, e2, Or.inr ⟨ft, fp, e1, g1, g2, L⟩⟩
