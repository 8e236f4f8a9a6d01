/-! The end of a law; a law. -/
theorem four_k {s k : Nat} : (4 : Int32) * nI s + nI k = nI (4 * s + k) := by rw [show (4 : Int32) = nI 4 from rfl, pk_mul, nI_add]
theorem L_end {K P V W : Nat → Nat} {N s k first a cx cm b n : Nat} {σX σM : HS} (x1 x2 y3 : Int32) (hS : TS K P V N) (hs : s < 2) (hk : k < 4) (h : SY K P V W N a σX σM) (hcm : cm ≤ 420 * s + a) (hcm0 : 420 * s ≤ cm) (hcx : cx ≤ 8 + a) (hb : 4 * b + 2 ≤ 520 * s + a) (hb0 : 130 * s ≤ b) (x5 : σX.1 12 5 = nI cx) (m39 : σM.1 0 39 = nI cm) (m33 : σM.1 0 33 = nI b) (m19 : σM.1 0 19 = nI s) : LO N a s k first cx cm b n (FX5_readLaw_158 x1 x2 σX) (FX12_tellLaw_129 (nI k) (nI first) y3 σM) σX σM := by
  have hN := hS.1
  have ha := h.2.2.1
  have i1 : ix (nI b) 260 = true := ix_nI (by omega) (by omega)
  have i8 : ix (nI (4 * s + k)) 8 = true := ix_nI (by omega) (by omega)
  obtain ⟨τ1, hτ1⟩ : ∃ τ, τ = pI σM 21 b 0 := ⟨_, rfl⟩
  have S1 : SY K P V W N a σX τ1 := by rw [hτ1]; exact SY_pM h (by omega) (by omega)
  have u39 : τ1.1 0 39 = nI cm := by rw [hτ1, pI_o (by omega)]; exact m39
  have u33 : τ1.1 0 33 = nI b := by rw [hτ1, pI_o (by omega)]; exact m33
  have u19 : τ1.1 0 19 = nI s := by rw [hτ1, pI_o (by omega)]; exact m19
  have fM1 : FR (okL s k cm b) olM σM τ1 := by rw [hτ1]; exact FR.rf.p (by unfold okL; omega)
  obtain ⟨σX2, σM2, fX2, fM2, e2, v33, hh⟩ := T_SY hS hs S1 hcm hcm0 hcx x5 u39 u33 (by omega)
  have v19 : σM2.1 0 19 = nI s := by rw [fM2.1 0 19 (by unfold okt okM; omega)]; exact u19
  have v21 : σM2.1 21 b = 0 := by rw [fM2.1 21 b (by unfold okt okM; omega), hτ1, pI_s, pk_us]
  have fL : FR (okL s k cm b) olM σM σM2 := fM1.tr (fM2.up (okt_L (Nat.le_refl _) (Nat.le_refl _) (by omega)) (fun _ _ h => h))
  have eM : FX12_tellLaw_129 (nI k) (nI first) y3 σM = bdV (FX12_must (4 : Int32) σM2) fun σ_27 => if (σ_27.1 0 13) ≤ 0 then gd (ix (((4 : Int32) * (σ_27.1 0 19)) + nI k) 8) (hl_ (pI σ_27 19 ((((4 : Int32) * (σ_27.1 0 19)) + nI k).toNatClampNeg) (nI first)) fun σ_31 => gd (ix (((4 : Int32) * (σ_31.1 0 19)) + nI k) 8) (hl_ (pI σ_31 20 ((((4 : Int32) * (σ_31.1 0 19)) + nI k).toNatClampNeg) (σ_31.1 0 33)) fun σ_33 => some σ_33)) else some σ_27 := by
    unfold FX12_tellLaw_129
    rw [m33, gd_t i1]
    rw [show hl_ (pI σM 21 (nI b).toNatClampNeg (vp_nar .boolean (0 : Int32))) = hl_ τ1 by rw [cl_nI (by omega), hτ1]; rfl]
    rw [show hl_ τ1 = fun (g : HS → Option HS) => g τ1 from rfl]
    show bdV (FX12_term τ1) _ = _
    rw [e2, bdV_s]
  rw [eM]
  unfold FX5_readLaw_158
  rcases hh with ⟨a2, p, eA, S3, ⟨z5, zA⟩, ⟨w39, wA⟩, ⟨w24, w25⟩, hd, hl1, hl2⟩ | ⟨ft, fp, eA, z11, z1, L⟩
  · rw [eA, bdI_s, if_neg one_ne, show (59 : Int32) = nI (xkN 4) from rfl, show FX12_must (4 : Int32) σM2 = FX12_must (nI 4) σM2 from rfl]
    rcases SY_must (k := 4) hS S3 (by unfold vk; omega) (by omega) (by omega) with ⟨hk4, e3, e4, S4⟩ | ⟨σX3, σM3, e3, e4, B⟩
    · obtain ⟨τX, hτX⟩ : ∃ τ, τ = tkS σX2 P a2 := ⟨_, rfl⟩
      obtain ⟨τ2, hτ2⟩ : ∃ τ, τ = pI σM2 0 11 (nI (a2 + 1)) := ⟨_, rfl⟩
      rw [e3, bdI_s, if_neg one_ne, e4, bdV_s]
      rw [← hτX, ← hτ2] at S4 ⊢
      have t5 : τX.1 12 5 = nI (cx + p.length) := by rw [hτX, tk_f.1 12 5 (by unfold okT; omega)]; exact z5
      have ha4 := S4.2.2.1
      have t19 : τ2.1 0 19 = nI s := by rw [hτ2, pI_s, pk_un (by omega)]; exact v19
      have t33 : τ2.1 0 33 = nI (b + 1) := by rw [hτ2, pI_s, pk_un (by omega)]; exact v33
      have t39 : τ2.1 0 39 = nI (cm + p.length) := by rw [hτ2, pI_s, pk_un (by omega)]; exact w39
      rw [X_putCode (c := cx + p.length) _ _ t5 (by omega), bdV_s, S4.2.2.2.2.2.2.2, if_pos (show (0 : Int32) ≤ 0 by decide), t19, four_k, gd_t i8]
      simp only [hl_]
      rw [cl_nI (by omega), pI_o (show (0 : Nat) ≠ 19 by omega), t19, four_k, gd_t i8, cl_nI (by omega), t33]
      have fx : FR (okX cx) olX σX τX := by rw [hτX]; exact fX2.tr (tk_f.up tk_X (fun _ _ h => h))
      have fm : FR (okL s k cm b) olM σM τ2 := by rw [hτ2]; exact fL.p (by unfold okL; omega)
      obtain ⟨-, -, -, y8, y11, r11, r12, r13⟩ := S4
      refine ⟨_, _, ((fx.p (by unfold okX; omega)).p (by unfold okX; omega)).p (by unfold okX; omega), (fm.p (by unfold okL; omega)).p (by unfold okL; omega), rfl, Or.inl ⟨a2 + 1, [], p, cx + p.length + 1, b + 1, rfl, ha4, by omega, ⟨?_, ?_, ?_, ?_⟩, ⟨?_, ?_, ?_, ?_, ?_, ?_, ?_, ?_⟩, Nat.zero_le _, by omega, by omega, ?_, by omega⟩⟩
      · rw [pI_o (by omega), pI_o (by omega), pI_o (by omega)]; exact y8
      · rw [pI_o (by omega), pI_o (by omega), pI_o (by omega)]; exact y11
      · rw [pI_s, pk_us]
      · simp only [LawX]
        refine ⟨XM_eq p cx (fun j _ hj => ⟨?_, ?_⟩) zA, hd, ?_, by omega⟩
        · rw [pI_o (by omega), pI_o (by omega), pI_s, pk_un (by omega), hτX, tk_f.1 34 j (by unfold okT; omega)]
        · rw [pI_o (by omega), pI_s, pk_un (by omega), pI_o (by omega), hτX, tk_f.1 35 j (by unfold okT; omega)]
        · rw [pI_o (by omega), pI_o (by omega), pI_s, pk_us]; rfl
      · rw [pI_o (by omega), pI_o (by omega)]; exact r11
      · rw [pI_o (by omega), pI_o (by omega)]; exact r12
      · rw [pI_o (by omega), pI_o (by omega)]; exact r13
      · simp only [lmE]; rw [pI_o (by omega), pI_o (by omega)]; exact t39
      · rw [pI_o (by omega), pI_o (by omega)]; exact t33
      · simp only [LawM]
        refine ⟨trivial, by omega, ?_, ?_, ?_, ?_, hd, by omega⟩
        · rw [pI_o (by omega), pI_o (by omega), hτ2, pI_o (by omega)]; exact v21
        · rw [pI_o (by omega), pI_o (by omega), hτ2, pI_o (by omega)]; exact w24
        · rw [pI_o (by omega), pI_o (by omega), hτ2, pI_o (by omega)]; exact w25
        · rw [pI_o (by omega), pI_o (by omega), hτ2, pI_o (by omega), pI_o (by omega), pI_o (by omega), pI_o (by omega)]; exact wA
      · rw [pI_o (by omega), pI_s, pk_us]
      · rw [pI_s, pk_us]
      · simp only [lmE]; omega
    · rw [e3, bdI_s, if_pos rfl, e4, bdV_s]
      obtain ⟨ft, fp, b11, b1, L⟩ := BF_2 B
      rw [if_neg (nz13 L).2]
      exact LO_f (fX2.tr (BF_X B)) (fL.tr ((BF_M B).up okB_L (fun _ _ h => h))) rfl b11 b1 L
  · rw [eA, bdI_s, if_pos rfl, M_mustF _ L.2.1 L.1, bdV_s, if_neg (nz13 L).2]
    exact LO_f fX2 fL rfl z11 z1 L
theorem L_hd {K P V W : Nat → Nat} {N s k a cx cm b f g i : Nat} {σX σM : HS} (x1 y1 y2 : Int32) (hS : TS K P V N) (h : SY K P V W N a σX σM) (hi : i ≤ 4) : (K a ≠ 30 → FX5_readLaw_32 (f + 1) x1 (nI i) σX = FX5_readLaw_158 x1 (nI i) σX ∧ FX12_tellLaw_12 (g + 1) y1 y2 (nI i) σM = FX12_tellLaw_129 y1 y2 (nI i) σM) ∧ (K a = 30 → i < 4 → FX5_readLaw_32 (f + 1) x1 (nI i) σX = xA f x1 (nI i) σX ∧ FX12_tellLaw_12 (g + 1) y1 y2 (nI i) σM = bdV (FX12_goesOn σM) fun σ => mA (FX12_tellLaw_12 g) y1 y2 (nI i) σ) ∧ (K a = 30 → i = 4 → FO s k cx cm b (FX5_readLaw_32 (f + 1) x1 (nI i) σX) (FX12_tellLaw_12 (g + 1) y1 y2 (nI i) σM) σX σM) := by
  have hN := hS.1
  obtain ⟨h1, h2, ha, x8, x11, m11, m12, m13⟩ := id h
  have hv := (hS.2.1 a ha).1
  have i30 : FX12_is (30 : Int32) σM = some (bI (decide (K a = 30)), σM) := M_is (k := 30) hS h2 m11 m13 ha (by omega)
  have eX : FX5_readLaw_32 (f + 1) x1 (nI i) σX = if nI (xkN (K a)) = (10 : Int32) then if nI i = (4 : Int32) then bdI (FX5_fail (2 : Int32) σX) fun r_52 σ_53 => gd (isB r_52) (some (r_52, σ_53)) else xA f x1 (nI i) σX else FX5_readLaw_158 x1 (nI i) σX := by
    rw [FX5_readLaw_32, if_neg (show ¬ (4 : Int32) < nI i from nI_nlt (a := 4) (by omega) (by omega)), X_kindNow hS h1 x8 ha, bdI_s]
    rfl
  have eM : FX12_tellLaw_12 (g + 1) y1 y2 (nI i) σM = if bI (decide (K a = 30)) = 0 then FX12_tellLaw_129 y1 y2 (nI i) σM else if nI i = (4 : Int32) then bdV (FX12_fail (2 : Int32) σM) fun σ_40 => FX12_tellLaw_38 (FX12_tellLaw_12 g) y1 y2 (nI i) σ_40 else FX12_tellLaw_38 (FX12_tellLaw_12 g) y1 y2 (nI i) σM := by
    rw [FX12_tellLaw_12, m13, if_pos rfl, i30, bdI_s]
  have k10 : nI (xkN (K a)) = (10 : Int32) ↔ K a = 30 := xk_eq hv (show vk 30 by unfold vk; omega)
  refine ⟨fun hK => ?_, fun hK hi4 => ?_, fun hK hi4 => ?_⟩
  · rw [eX, eM, if_neg (fun e => hK (k10.mp e)), show decide (K a = 30) = false from decide_eq_false hK, bI_f, if_pos rfl]
    exact ⟨rfl, rfl⟩
  · have n4 : ¬ nI i = (4 : Int32) := ne_I (b := 4) (by omega) (by omega) (by omega)
    rw [eX, eM, if_pos (k10.mpr hK), show decide (K a = 30) = true from decide_eq_true hK, bI_t, if_neg one_ne, if_neg n4, if_neg n4, M_38, m13, if_pos (show (0 : Int32) ≤ 0 by decide)]
    exact ⟨rfl, rfl⟩
  · have e4 : nI i = (4 : Int32) := by rw [hi4]; rfl
    have L0 : FL (pI (pI σM 0 13 2) 0 14 (nI (P a))) 2 (P a) := FLs 2 (Or.inr rfl) (by omega) m11
    rw [eX, eM, if_pos (k10.mpr hK), show decide (K a = 30) = true from decide_eq_true hK, bI_t, if_neg one_ne, if_pos e4, if_pos e4, X_fail 2 hS h1 x8 ha, bdI_s, M_fail 2 hS h2 m11 m13 ha, bdV_s, M_38, if_neg (nz13 L0).2]
    exact ⟨_, _, 2, P a, (FR.rf.p (by unfold okX; omega)).p (by unfold okX; omega), (FR.rf.p (by unfold okL; omega)).p (by unfold okL; omega), rfl, rfl, by rw [pI_s, pk_un (by omega), pI_s, pk_us]; rfl, by rw [pI_s, pk_us], L0⟩
theorem L_go {K P V W : Nat → Nat} {N s k first : Nat} (x1 : Int32) (hS : TS K P V N) (hs : s < 2) (hk : k < 4) : ∀ n i, i + n = 4 → ∀ (a cx cm b : Nat) (σX σM : HS) (f g : Nat), n < f → n < g → SY K P V W N a σX σM → cm ≤ 420 * s + a → 420 * s ≤ cm → cx ≤ 8 + a → 4 * b + 2 ≤ 520 * s + a → 130 * s ≤ b → σX.1 12 5 = nI cx → σM.1 0 39 = nI cm → σM.1 0 33 = nI b → σM.1 0 19 = nI s → LO N a s k first cx cm b n (FX5_readLaw_32 f x1 (nI i) σX) (FX12_tellLaw_12 g (nI k) (nI first) (nI i) σM) σX σM := by
  intro n
  induction n with
  | zero =>
    intro i hi a cx cm b σX σM f g hf hg h hcm hcm0 hcx hb hb0 x5 m39 m33 m19
    obtain ⟨f, rfl⟩ : ∃ z, f = z + 1 := ⟨f - 1, by omega⟩
    obtain ⟨g, rfl⟩ : ∃ z, g = z + 1 := ⟨g - 1, by omega⟩
    obtain ⟨d1, d2, d3⟩ := L_hd (s := s) (k := k) (cx := cx) (cm := cm) (b := b) (f := f) (g := g) (i := i) x1 (nI k) (nI first) hS h (by omega)
    by_cases hK : K a = 30
    · exact FO_LO (d3 hK (by omega))
    · rw [(d1 hK).1, (d1 hK).2]
      exact L_end x1 (nI i) (nI i) hS hs hk h hcm hcm0 hcx hb hb0 x5 m39 m33 m19
  | succ n ih =>
    intro i hi a cx cm b σX σM f g hf hg h hcm hcm0 hcx hb hb0 x5 m39 m33 m19
    have hN := hS.1
    have ha := h.2.2.1
    obtain ⟨f, rfl⟩ : ∃ z, f = z + 1 := ⟨f - 1, by omega⟩
    obtain ⟨g, rfl⟩ : ∃ z, g = z + 1 + 1 := ⟨g - 2, by omega⟩
    obtain ⟨d1, d2, d3⟩ := L_hd (s := s) (k := k) (cx := cx) (cm := cm) (b := b) (f := f) (g := g + 1) (i := i) x1 (nI k) (nI first) hS h (by omega)
    by_cases hK : K a = 30
    · obtain ⟨eX, eM⟩ := d2 hK (by omega)
      rcases L_if (k := k) (g := g) x1 (nI i) (nI k) (nI first) (nI i) hS hs h hcm hcm0 hcx (by omega) hb0 x5 m39 m33 hK eX eM with ⟨a', A, B, T, σX1, σM1, e1, g1, fx, fm, S1, ⟨p5, pA, pB, p34, p35, pT, p34'⟩, ⟨q39, qA, qB, qT⟩, ⟨q33, q21, q22, q23, q24, q25⟩, ⟨dA, dB, dT⟩, l1, l2⟩ | F
      · have ha' := S1.2.2.1
        have n19 : σM1.1 0 19 = nI s := by rw [fm.1 0 19 (by unfold okL; omega)]; exact m19
        rw [e1, g1, nI_1]
        obtain ⟨σX2, σM2, fx2, fm2, eM2, hh⟩ := ih (i + 1) (by omega) a' _ _ _ σX1 σM1 f (g + 1) (by omega) (by omega) S1 (by omega) (by omega) (by omega) (by omega) (by omega) p5 q39 q33 n19
        have fxx : FR (okX cx) olX σX σX2 := fx.tr (fx2.up (okX_up (by omega)) (fun _ _ h => h))
        have fmm : FR (okL s k cm b) olM σM σM2 := fm.tr (fm2.up (okL_L (by omega) (by omega)) (fun _ _ h => h))
        refine ⟨σX2, σM2, fxx, fmm, eM2, ?_⟩
        rcases hh with ⟨a2, r, fl, cx2, br2, eX2, ha2, ha3, ⟨y8, y11, y5, lx⟩, ⟨z11, z12, z13, z39, z33, lm, z19, z20⟩, hr, hb2, c1, c2, c3⟩ | hh
        · have hlt := LawX_lt r fl _ lx
          have hle := lmE_le r fl (cm + A.length + B.length + T.length)
          refine Or.inl ⟨a2, (A, B, T) :: r, fl, cx2, br2, eX2, ha2, by omega, ⟨y8, y11, y5, ?_⟩, ⟨z11, z12, z13, z39, z33, ?_, z19, z20⟩, by simp only [List.length_cons]; omega, by omega, c1, c2, c3⟩
          · simp only [LawX]
            refine ⟨⟨XM_eq A _ (fun j _ hj => ⟨fx2.1 34 j (by unfold okX; omega), fx2.1 35 j (by unfold okX; omega)⟩) pA, XM_eq B _ (fun j _ hj => ⟨fx2.1 34 j (by unfold okX; omega), fx2.1 35 j (by unfold okX; omega)⟩) pB, ?_, ?_, XM_eq T _ (fun j _ hj => ⟨fx2.1 34 j (by unfold okX; omega), fx2.1 35 j (by unfold okX; omega)⟩) pT, ?_⟩, ⟨dA, dB, dT⟩, by omega, lx⟩
            · rw [fx2.1 34 _ (by unfold okX; omega)]; exact p34
            · rw [fx2.1 35 _ (by unfold okX; omega)]; exact p35
            · rw [fx2.1 34 _ (by unfold okX; omega)]; exact p34'
          · simp only [LawM]
            refine ⟨⟨by omega, by omega, ?_, ?_, ?_, ?_, ?_⟩, ⟨LM_eq A _ (fun j _ hj => ⟨fm2.1 26 j (by unfold okL; omega), fm2.1 27 j (by unfold okL; omega)⟩) qA, LM_eq B _ (fun j _ hj => ⟨fm2.1 26 j (by unfold okL; omega), fm2.1 27 j (by unfold okL; omega)⟩) qB, LM_eq T _ (fun j _ hj => ⟨fm2.1 26 j (by unfold okL; omega), fm2.1 27 j (by unfold okL; omega)⟩) qT⟩, ⟨dA, dB, dT⟩, by omega, lm⟩
            · rw [fm2.1 21 b (by unfold okL; omega)]; exact q21
            · rw [fm2.1 22 b (by unfold okL; omega)]; exact q22
            · rw [fm2.1 23 b (by unfold okL; omega)]; exact q23
            · rw [fm2.1 24 b (by unfold okL; omega)]; exact q24
            · rw [fm2.1 25 b (by unfold okL; omega)]; exact q25
        · exact Or.inr hh
      · exact FO_LO F
    · rw [(d1 hK).1, (d1 hK).2]
      exact L_end x1 (nI i) (nI i) hS hs hk h hcm hcm0 hcx hb hb0 x5 m39 m33 m19
