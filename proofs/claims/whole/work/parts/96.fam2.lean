/-! A family's two numbers. -/
def FA (K P V W : Nat → Nat) (N s nf c w : Nat) (rX : Option (Int32 × HS)) (rM : Option HS) (σX σM : HS) : Prop := ∃ σX' σM', FR (okFX nf) (olFX nf) σX σX' ∧ FR (okFM s nf) (olFM nf) σM σM' ∧ rM = some σM' ∧ ((∃ a' w', rX = some (1, σX') ∧ c < a' ∧ SY K P V W N a' σX' σM' ∧ DW σX' σM' P a' w' ∧ (w' = 0 → w = 0) ∧ (σX'.1 12 1 = nI (nf + 1) ∧ σM'.1 11 s = nI (nf + 1)) ∧ (σX'.1 30 nf = σM'.1 12 (5 * s + nf) ∧ σX'.1 31 nf = σM'.1 13 (5 * s + nf) ∧ σX'.2 17 nf = σM'.2 10 nf)) ∨ ∃ ft fp, rX = some (0, σX') ∧ σX'.1 2 11 = nI ft ∧ σX'.1 2 1 = nI fp ∧ FL σM' ft fp)
theorem nX_F {nf : Nat} : ∀ h j, okNX h j → okFX nf h j := fun _ _ h => Or.inl h
theorem nM_F {s nf : Nat} : ∀ h j, okNM h j → okFM s nf h j := fun _ _ h => Or.inl h
theorem lX_F {nf : Nat} : ∀ h j, olX h j → olFX nf h j := fun _ _ h => Or.inl h
theorem lM_F {nf : Nat} : ∀ h j, olM h j → olFM nf h j := fun _ _ h => h.elim
theorem xX_F {s nf : Nat} : ∀ h j, okBF h j → okFM s nf h j := by intro h j hh; unfold okBF at hh; exact Or.inl ⟨hh.1, by omega⟩
theorem DW_p {σX σM : HS} {P : Nat → Nat} {a w h0 j0 h1 j1 : Nat} {u v : Int32} (dw : DW σX σM P a w) (hx : h0 ≠ 2) (hm : h1 ≠ 0) : DW (pI σX h0 j0 u) (pI σM h1 j1 v) P a w := DW_f (FR.rf.p (ok := okPt h0 j0) (okl := olM) ⟨rfl, rfl⟩) (FR.rf.p (ok := okPt h1 j1) (okl := olM) ⟨rfl, rfl⟩) (by unfold okPt; omega) (by unfold okPt; omega) (by unfold okPt; omega) (by unfold okPt; omega) (Nat.le_refl _) dw
theorem BF_n {σX σM σX' σM' : HS} (h : BF σX σM σX' σM') : FR okNX olX σX σX' := by
  obtain ⟨ft, fp, rfl, -⟩ := h
  exact (FR.rf.p (by unfold okNX; omega)).p (by unfold okNX; omega)
theorem F_55 {K P V W : Nat → Nat} {N s nf c a w : Nat} {v : Int64} {σX σM : HS} (hS : TS K P V N) (hs : s < 2) (hn : nf < 5) (h : SY K P V W N c σX σM) (dw : DW σX σM P c w) (b1 : σX.1 12 1 = nI nf) (b2 : σM.1 11 s = nI nf) (m19 : σM.1 0 19 = nI s) (hx : σX.2 2 9 = v) (ha : a ≤ N) (h6 : σM.2 6 a = v) : FA K P V W N s nf c w (FX5_readFamily_55 (nI nf) σX) (FX12_tellFamily_48 (nI (5 * s + nf)) (nI a) σM) σX σM := by
  have hN := hS.1
  have is : ix (nI s) 2 = true := ix_nI hs (by omega)
  have i5 : ix (nI nf) 5 = true := ix_nI hn (by omega)
  have i10 : ix (nI (5 * s + nf)) 10 = true := ix_nI (by omega) (by omega)
  obtain ⟨τ1, hτ1⟩ : ∃ τ, τ = pL σX 17 nf v := ⟨_, rfl⟩
  have S1 : SY K P V W N c τ1 σM := by rw [hτ1]; exact SY_lX h (by omega)
  have dw1 : DW τ1 σM P c w := by rw [hτ1]; exact dw
  have f1 : FR (okFX nf) (olFX nf) σX τ1 := by rw [hτ1]; exact FR.rf.l (by unfold olFX; omega)
  have n1 : τ1.2 17 nf = v := by rw [hτ1, pL_s]
  have y1 : τ1.1 12 1 = nI nf := by rw [hτ1]; exact b1
  obtain ⟨σX2, σM2, r, fX2, fM2, eB, hh⟩ := N_SY (hi := 9) hS S1 dw1 (by omega)
  have gX2 : FR (okFX nf) (olFX nf) σX σX2 := f1.tr (fX2.up nX_F lX_F)
  have gM2 : FR (okFM s nf) (olFM nf) σM σM2 := fM2.up nM_F lM_F
  unfold FX5_readFamily_55 FX12_tellFamily_48
  rw [gd_t i5, show FX12_bounded (0 : Int32) (9 : Int32) σM = some (r, σM2) from eB, bdI_s, gd_t i10]
  simp only [hl_]
  rw [cl_nI (show nf < 2 ^ 31 by omega), cl_nI (show 5 * s + nf < 2 ^ 31 by omega), hx, ← hτ1]
  rcases hh with ⟨w2, eN, hr, hV, t9, S2, dw2, hw2⟩ | ⟨ft, fp, eN, z11, z1, L⟩
  · rw [show FX5_takeNumber (9 : Int32) τ1 = some (1, σX2) from eN, bdI_s, if_neg one_ne, gd_t i5, t9, lN_i, hr]
    obtain ⟨τ3, hτ3⟩ : ∃ τ, τ = pI σX2 30 nf (nI (V c)) := ⟨_, rfl⟩
    obtain ⟨τ4, hτ4⟩ : ∃ τ, τ = pI σM2 12 (5 * s + nf) (nI (V c)) := ⟨_, rfl⟩
    have S3 : SY K P V W N (c + 1) τ3 τ4 := by rw [hτ3, hτ4]; exact SY_pM (SY_pX S2 (by omega) (by omega)) (by omega) (by omega)
    have dw3 : DW τ3 τ4 P (c + 1) w2 := by rw [hτ3, hτ4]; exact DW_p dw2 (by omega) (by omega)
    have g3 : FR (okFX nf) (olFX nf) σX τ3 := by rw [hτ3]; exact gX2.p (by unfold okFX; omega)
    have g4 : FR (okFM s nf) (olFM nf) σM τ4 := by rw [hτ4]; exact gM2.p (by unfold okFM; omega)
    rw [← hτ3, ← hτ4]
    obtain ⟨σX5, σM5, r5, fX5, fM5, eB5, hh⟩ := N_SY (hi := 5) hS S3 dw3 (by omega)
    have g5X : FR (okFX nf) (olFX nf) σX σX5 := g3.tr (fX5.up nX_F lX_F)
    have g5M : FR (okFM s nf) (olFM nf) σM σM5 := g4.tr (fM5.up nM_F lM_F)
    rw [show FX12_bounded (0 : Int32) (5 : Int32) τ4 = some (r5, σM5) from eB5, bdI_s, gd_t i10]
    rcases hh with ⟨w5, eN5, hr5, hV5, t95, S5, dw5, hw5⟩ | ⟨ft, fp, eN5, z11, z1, L⟩
    · have y5 : σX5.1 12 1 = nI nf := by rw [fX5.1 12 1 (by unfold okNX; omega), hτ3, pI_o (by omega), fX2.1 12 1 (by unfold okNX; omega)]; exact y1
      rw [show FX5_takeNumber (5 : Int32) τ3 = some (1, σX5) from eN5, bdI_s, if_neg one_ne, gd_t i5, t95, lN_i, hr5, pI_o (show (12 : Nat) ≠ 31 by omega), y5, nI_1]
      obtain ⟨τ6, hτ6⟩ : ∃ τ, τ = pI (pI σX5 31 nf (nI (V (c + 1)))) 12 1 (nI (nf + 1)) := ⟨_, rfl⟩
      obtain ⟨τ7, hτ7⟩ : ∃ τ, τ = pI σM5 13 (5 * s + nf) (nI (V (c + 1))) := ⟨_, rfl⟩
      have S6 : SY K P V W N (c + 1 + 1) τ6 τ7 := by rw [hτ6, hτ7]; exact SY_pM (SY_pX (SY_pX S5 (by omega) (by omega)) (by omega) (by omega)) (by omega) (by omega)
      have dw6 : DW τ6 τ7 P (c + 1 + 1) w5 := by
        rw [hτ6, hτ7]
        exact DW_f (((FR.rf (ok := fun h _ => h = 31 ∨ h = 12) (okl := olM)).p (Or.inl rfl)).p (Or.inr rfl)) (FR.rf.p (ok := okPt 13 (5 * s + nf)) (okl := olM) ⟨rfl, rfl⟩) (by omega) (by omega) (by unfold okPt; omega) (by unfold okPt; omega) (Nat.le_refl _) dw5
      have g6 : FR (okFX nf) (olFX nf) σX τ6 := by rw [hτ6]; exact (g5X.p (by unfold okFX; omega)).p (by unfold okFX; omega)
      have g7 : FR (okFM s nf) (olFM nf) σM τ7 := by rw [hτ7]; exact g5M.p (by unfold okFM; omega)
      rw [← hτ6, ← hτ7, show (59 : Int32) = nI (xkN 4) from rfl, show FX12_must (4 : Int32) τ7 = FX12_must (nI 4) τ7 from rfl]
      rcases SY_must (k := 4) hS S6 (by unfold vk; omega) (by omega) (by omega) with ⟨hk4, e3, e4, S8⟩ | ⟨σX8, σM8, e3, e4, B⟩
      · obtain ⟨ξX, hξX⟩ : ∃ τ, τ = tkS τ6 P (c + 1 + 1) := ⟨_, rfl⟩
        obtain ⟨ξ0, hξ0⟩ : ∃ τ, τ = pI τ7 0 11 (nI (c + 1 + 1 + 1)) := ⟨_, rfl⟩
        rw [e3, bdI_s, e4, bdV_s]
        rw [← hξX, ← hξ0] at S8 ⊢
        have g8 : FR (okFM s nf) (olFM nf) σM ξ0 := by rw [hξ0]; exact g7.p (by unfold okFM okNM; omega)
        have u19 : ξ0.1 0 19 = nI s := by rw [g8.1 0 19 (by unfold okFM okNM; omega)]; exact m19
        have u11 : ξ0.1 11 s = nI nf := by rw [hξ0, pI_o (by omega), hτ7, pI_o (by omega), fM5.1 11 s (by unfold okNM; omega), hτ4, pI_o (by omega), fM2.1 11 s (by unfold okNM; omega)]; exact b2
        have u6 : ξ0.2 6 a = v := by rw [g8.2 6 a (by unfold olFM; omega)]; exact h6
        rw [S8.2.2.2.2.2.2.2, if_pos (show (0 : Int32) ≤ 0 by decide), u19, gd_t is, gd_t (ix_nI (show a < 403 by omega) (by omega)), cl_nI (show s < 2 ^ 31 by omega), u11, gd_t i5, cl_nI (show a < 2 ^ 31 by omega), u6, cl_nI (show nf < 2 ^ 31 by omega), pL_1, u19, gd_t is, gd_t is, cl_nI (show s < 2 ^ 31 by omega), u11, nI_1]
        obtain ⟨ξM, hξM⟩ : ∃ τ, τ = pI (pL ξ0 10 nf v) 11 s (nI (nf + 1)) := ⟨_, rfl⟩
        rw [← hξM]
        refine ⟨ξX, ξM, ?_, ?_, rfl, Or.inl ⟨c + 1 + 1 + 1, w5, rfl, by omega, ?_, ?_, fun e => (hw2 (hw5 e).1).1, ⟨?_, ?_⟩, ?_, ?_, ?_⟩⟩
        · rw [hξX]; exact g6.tr (tk_f.up (fun h j hh => nX_F h j (okT_N h j hh)) lX_F)
        · rw [hξM]; exact (g8.l (by unfold olFM; omega)).p (by unfold okFM; omega)
        · rw [hξM]; exact SY_pM (SY_lM S8 (by omega)) (by omega) (by omega)
        · rw [hξX, hξM]
          have d0 : DW (tkS τ6 P (c + 1 + 1)) ξ0 P (c + 1 + 1 + 1) w5 := by rw [hξ0]; exact DW_f tk_f (FR.rf.p (ok := okPt 0 11) (okl := olM) ⟨rfl, rfl⟩) (by unfold okT; omega) (by unfold okT; omega) (by unfold okPt; omega) (by unfold okPt; omega) (by omega) dw6
          exact DW_f (FR.rf (ok := okPt 0 11) (okl := olM)) (FR.rf.p (ok := okPt 11 s) (okl := olM) ⟨rfl, rfl⟩) (by unfold okPt; omega) (by unfold okPt; omega) (by unfold okPt; omega) (by unfold okPt; omega) (Nat.le_refl _) (show DW (tkS τ6 P (c + 1 + 1)) (pL ξ0 10 nf v) P (c + 1 + 1 + 1) w5 from d0)
        · rw [hξX, tk_f.1 12 1 (by unfold okT; omega), hτ6, pI_s, pk_us]
        · rw [hξM, pI_s, pk_us]
        · rw [hξX, tk_f.1 30 nf (by unfold okT; omega), hτ6, pI_o (by omega), pI_o (by omega), fX5.1 30 nf (by unfold okNX; omega), hτ3, pI_s, pk_us, hξM, pI_o (by omega), pL_1, hξ0, pI_o (by omega), hτ7, pI_o (by omega), fM5.1 12 _ (by unfold okNM; omega), hτ4, pI_s, pk_us]
        · rw [hξX, tk_f.1 31 nf (by unfold okT; omega), hτ6, pI_o (by omega), pI_s, pk_us, hξM, pI_o (by omega), pL_1, hξ0, pI_o (by omega), hτ7, pI_s, pk_us]
        · rw [hξX, tk_f.2 17 nf (by unfold olX; omega), hτ6, pI_2, pI_2, fX5.2 17 nf (by unfold olX; omega), hτ3, pI_2, fX2.2 17 nf (by unfold olX; omega), n1, hξM, pI_2, pL_s]
      · obtain ⟨ft, fp, c11, c1, L⟩ := BF_2 B
        rw [e3, bdI_s, e4, bdV_s, if_neg (nz13 L).2]
        exact ⟨σX8, σM8, g6.tr ((BF_n B).up nX_F lX_F), g7.tr ((BF_M B).up xX_F lM_F), rfl, Or.inr ⟨ft, fp, rfl, c11, c1, L⟩⟩
    · have L7 : FL (pI σM5 13 (5 * s + nf) r5) ft fp := FL_p L (by omega)
      rw [show FX5_takeNumber (5 : Int32) τ3 = some (0, σX5) from eN5, bdI_s, if_pos rfl, M_mustF _ L7.2.1 L7.1, bdV_s, if_neg (nz13 L7).2]
      exact ⟨σX5, _, g5X, g5M.p (by unfold okFM; omega), rfl, Or.inr ⟨ft, fp, rfl, z11, z1, L7⟩⟩
  · have L4 : FL (pI σM2 12 (5 * s + nf) r) ft fp := FL_p L (by omega)
    have L5 : FL (pI (pI σM2 12 (5 * s + nf) r) 13 (5 * s + nf) 0) ft fp := FL_p L4 (by omega)
    rw [show FX5_takeNumber (9 : Int32) τ1 = some (0, σX2) from eN, bdI_s, if_pos rfl, M_boundedF _ _ L4, bdI_s, gd_t i10, M_mustF _ L5.2.1 L5.1, bdV_s, if_neg (nz13 L5).2]
    exact ⟨σX2, _, gX2, (gM2.p (by unfold okFM; omega)).p (by unfold okFM; omega), rfl, Or.inr ⟨ft, fp, rfl, z11, z1, L5⟩⟩
