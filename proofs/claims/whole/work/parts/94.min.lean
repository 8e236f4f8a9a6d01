/-! A minute. -/
theorem bdV_id (x : Option HS) : (bdV x fun σ => some σ) = x := by cases x <;> rfl
theorem M_room {K P V W : Nat → Nat} {N a x y : Nat} {σ : HS} (hS : TS K P V N) (hT : TM_ σ K P V W N) (h11 : σ.1 0 11 = nI a) (h13 : σ.1 0 13 = 0) (ha : a ≤ N) (hx : x ≤ 10) (hy : y ≤ 10) : FX12_roomFor (nI x) (nI y) σ = if x = y then some (pI (pI σ 0 13 2) 0 14 (nI (P a))) else FX12_goesOn σ := by
  have hN := hS.1
  unfold FX12_roomFor FX12_roomFor_10
  by_cases h : x = y
  · have L0 : FL (pI (pI σ 0 13 2) 0 14 (nI (P a))) 2 (P a) := FLs 2 (Or.inr rfl) (by omega) h11
    rw [if_pos (show nI x = nI y by rw [h]), if_pos h, M_fail 2 hS hT h11 h13 ha, bdV_s, if_neg (nz13 L0).1]
  · rw [if_neg (ne_I h (by omega) (by omega)), if_neg h, h13, if_pos rfl, bdV_id]
def mMt (σ_21 : HS) : Option HS := gd (ix (σ_21.1 0 19) 2) (gd (ix (σ_21.1 0 19) 2) (hl_ (pI σ_21 8 ((σ_21.1 0 19).toNatClampNeg) ((σ_21.1 8 ((σ_21.1 0 19).toNatClampNeg)) + (1 : Int32))) fun σ_25 => some σ_25))
def mMiT (σ : HS) : Option HS := gd (ix (σ.1 0 19) 2) (bdV (FX12_roomFor (σ.1 8 ((σ.1 0 19).toNatClampNeg)) (10 : Int32) σ) fun σ_12 => if (σ_12.1 0 13) ≤ 0 then gd (ix (σ_12.1 0 19) 2) (bdI (FX12_bounded (0 : Int32) (5 : Int32) σ_12) fun r_16 σ_17 => gd (ix (((10 : Int32) * (σ_12.1 0 19)) + (σ_12.1 8 ((σ_12.1 0 19).toNatClampNeg))) 20) (hl_ (pI σ_17 9 ((((10 : Int32) * (σ_12.1 0 19)) + (σ_12.1 8 ((σ_12.1 0 19).toNatClampNeg))).toNatClampNeg) r_16) fun σ_20 => bdV (FX12_must (4 : Int32) σ_20) fun σ_21 => mMt σ_21)) else some σ_12)
theorem M_minT {σ : HS} {s nm : Nat} (hs : s < 2) (h19 : σ.1 0 19 = nI s) (h8 : σ.1 8 s = nI nm) : mMt σ = some (pI σ 8 s (nI (nm + 1))) := by
  have is : ix (nI s) 2 = true := ix_nI hs (by omega)
  unfold mMt
  rw [h19, gd_t is, gd_t is, cl_nI (by omega), h8, nI_1]
def okIX (nm h j : Nat) : Prop := okNX h j ∨ (h = 12 ∧ j = 0) ∨ (h = 29 ∧ j = nm)
def okIM (s nm h j : Nat) : Prop := okNM h j ∨ (h = 9 ∧ j = 10 * s + nm) ∨ (h = 8 ∧ j = s)
theorem okIX_T {nm : Nat} : ∀ h j, okIX nm h j → okTX h j := by intro h j; unfold okIX okNX okTX; omega
theorem okIM_T {s nm : Nat} (hn : nm < 10) : ∀ h j, okIM s nm h j → okTM s h j := by
  intro h j hh
  rcases hh with hh | ⟨h1, h2⟩ | ⟨h1, h2⟩
  · exact okNM_T h j hh
  · exact Or.inr (Or.inr (Or.inr (Or.inr (Or.inr (Or.inr (Or.inl ⟨h1, by omega, by omega⟩))))))
  · exact Or.inr (Or.inr (Or.inr (Or.inr (Or.inr (Or.inl ⟨Or.inl h1, h2⟩)))))
theorem T_min {K P V W : Nat → Nat} {N s a : Nat} {σX σM : HS} (hS : TS K P V N) (hT : TI K P V W N s a σX σM) (hK : K a = 20) : TO K P V W N s a (FX5_readMinute σX) (mMiT σM) σX σM := by
  obtain ⟨nm, nf, nl, cx, cm, br, w, Ls, S0, dx, dv, dl, dw, hs, m19, q1, q2, q3, q4, q5⟩ := hT
  have hN := hS.1
  obtain ⟨h1, h2, ha, x8, x11, m11, m12, m13⟩ := id S0
  obtain ⟨⟨a1, a2, a3⟩, ⟨b1, b2, b3⟩, ⟨c1, c2, c3⟩, ⟨d1, d2, d3⟩, e, f, g⟩ := dx
  have is : ix (nI s) 2 = true := ix_nI hs (by omega)
  have eM0 : mMiT σM = bdV (if nm = 10 then some (pI (pI σM 0 13 2) 0 14 (nI (P a))) else FX12_goesOn σM) fun σ_12 => if (σ_12.1 0 13) ≤ 0 then gd (ix (σ_12.1 0 19) 2) (bdI (FX12_bounded (0 : Int32) (5 : Int32) σ_12) fun r_16 σ_17 => gd (ix (((10 : Int32) * (σ_12.1 0 19)) + (σ_12.1 8 ((σ_12.1 0 19).toNatClampNeg))) 20) (hl_ (pI σ_17 9 ((((10 : Int32) * (σ_12.1 0 19)) + (σ_12.1 8 ((σ_12.1 0 19).toNatClampNeg))).toNatClampNeg) r_16) fun σ_20 => bdV (FX12_must (4 : Int32) σ_20) fun σ_21 => mMt σ_21)) else some σ_12 := by
    unfold mMiT
    rw [m19, gd_t is, cl_nI (by omega), a2, show (10 : Int32) = nI 10 from rfl, M_room hS h2 m11 m13 ha a3 (by omega)]
  rw [eM0]
  unfold FX5_readMinute
  rw [a1]
  by_cases h10 : nm = 10
  · have L0 : FL (pI (pI σM 0 13 2) 0 14 (nI (P a))) 2 (P a) := FLs 2 (Or.inr rfl) (by omega) m11
    rw [if_neg (show ¬ nI nm < (10 : Int32) from nI_nlt (b := 10) (by omega) (by omega)), X_fail 2 hS h1 x8 ha, bdI_s, if_pos h10, bdV_s, if_neg (nz13 L0).2]
    exact ⟨_, _, (FR.rf.p (by unfold okTX; omega)).p (by unfold okTX; omega), (FR.rf.p (Or.inl ⟨rfl, by omega⟩)).p (Or.inl ⟨rfl, by omega⟩), rfl, Or.inr ⟨2, P a, rfl, by rw [pI_s, pk_un (by omega), pI_s, pk_us]; rfl, by rw [pI_s, pk_us], L0⟩⟩
  have hn : nm < 10 := by omega
  have i20 : ix (nI (10 * s + nm)) 20 = true := ix_nI (by omega) (by omega)
  have e10 : (10 : Int32) * nI s + nI nm = nI (10 * s + nm) := by rw [show (10 : Int32) = nI 10 from rfl, pk_mul, nI_add]
  rw [if_pos (show nI nm < (10 : Int32) from nI_lt (b := 10) hn (by omega)), if_neg h10, show FX5_take (0 : Int32) σX = FX5_take (nI (xkN (K a))) σX by rw [hK]; rfl]
  rcases SY_go hS S0 (by omega) (by omega) with ⟨h4, eX, eM, S1⟩ | ⟨σX', σM', eX, eM, B⟩
  · obtain ⟨τX, hτX⟩ : ∃ τ, τ = tkS σX P a := ⟨_, rfl⟩
    obtain ⟨τM, hτM⟩ : ∃ τ, τ = pI σM 0 11 (nI (a + 1)) := ⟨_, rfl⟩
    rw [eX, bdI_s, if_neg one_ne, eM, bdV_s]
    rw [← hτX, ← hτM] at S1 ⊢
    have fX1 : FR (okIX nm) olX σX τX := by rw [hτX]; exact tk_f.up (fun h j hh => Or.inl (okT_N h j hh)) (fun _ _ h => h)
    have fM1 : FR (okIM s nm) olM σM τM := by rw [hτM]; exact FR.rf.p (by unfold okIM okNM; omega)
    have dw1 : DW τX τM P (a + 1) w := by rw [hτX, hτM]; exact DW_f tk_f (FR.rf.p (ok := okPt 0 11) (okl := olM) ⟨rfl, rfl⟩) (by unfold okT; omega) (by unfold okT; omega) (by unfold okPt; omega) (by unfold okPt; omega) (by omega) dw
    have t19 : τM.1 0 19 = nI s := by rw [hτM, pI_s, pk_un (by omega)]; exact m19
    have t8 : τM.1 8 s = nI nm := by rw [hτM, pI_o (by omega)]; exact a2
    obtain ⟨σX2, σM2, r, fX2, fM2, eB, hh⟩ := N_SY (hi := 5) hS S1 dw1 (by omega)
    have fX12 : FR (okIX nm) olX σX σX2 := fX1.tr (fX2.up (fun _ _ h => Or.inl h) (fun _ _ h => h))
    have fM12 : FR (okIM s nm) olM σM σM2 := fM1.tr (fM2.up (fun _ _ h => Or.inl h) (fun _ _ h => h))
    rw [S1.2.2.2.2.2.2.2, if_pos (show (0 : Int32) ≤ 0 by decide), t19, gd_t is, show FX12_bounded (0 : Int32) (5 : Int32) τM = some (r, σM2) from eB, bdI_s, cl_nI (by omega), t8, e10, gd_t i20]
    simp only [hl_]
    rw [cl_nI (by omega)]
    obtain ⟨τ3, hτ3⟩ : ∃ τ, τ = pI σM2 9 (10 * s + nm) r := ⟨_, rfl⟩
    have fM3 : FR (okIM s nm) olM σM τ3 := by rw [hτ3]; exact fM12.p (by unfold okIM; omega)
    have u19 : τ3.1 0 19 = nI s := by rw [fM3.1 0 19 (by unfold okIM okNM; omega)]; exact m19
    have u8 : τ3.1 8 s = nI nm := by rw [hτ3, pI_o (by omega), fM2.1 8 s (by unfold okNM; omega)]; exact t8
    rw [← hτ3]
    rcases hh with ⟨w', eN, hr, hV, t9, S2, dw2, hw'⟩ | ⟨ft, fp, eN, z11, z1, L⟩
    · have y0 : σX2.1 12 0 = nI nm := by rw [fX2.1 12 0 (by unfold okNX; omega), hτX, tk_f.1 12 0 (by unfold okT; omega)]; exact a1
      rw [show FX5_takeNumber (5 : Int32) τX = some (1, σX2) from eN, bdI_s, if_neg one_ne, y0, gd_t (ix_nI hn (by omega)), cl_nI (by omega), t9, lN_i, pI_o (show (12 : Nat) ≠ 29 by omega), y0, nI_1]
      obtain ⟨τ4, hτ4⟩ : ∃ τ, τ = pI (pI σX2 29 nm (nI (V (a + 1)))) 12 0 (nI (nm + 1)) := ⟨_, rfl⟩
      have S3 : SY K P V W N (a + 1 + 1) τ4 τ3 := by rw [hτ4, hτ3]; exact SY_pM (SY_pX (SY_pX S2 (by omega) (by omega)) (by omega) (by omega)) (by omega) (by omega)
      have fX3 : FR (okIX nm) olX σX τ4 := by rw [hτ4]; exact (fX12.p (by unfold okIX; omega)).p (by unfold okIX; omega)
      have dw3 : DW τ4 τ3 P (a + 1 + 1) w' := by rw [hτ4, hτ3]; exact DW_f (((FR.rf (ok := fun h _ => h = 29 ∨ h = 12) (okl := olM)).p (Or.inl rfl)).p (Or.inr rfl)) (FR.rf.p (ok := okPt 9 (10 * s + nm)) (okl := olM) ⟨rfl, rfl⟩) (by omega) (by omega) (by unfold okPt; omega) (by unfold okPt; omega) (Nat.le_refl _) dw2
      rw [← hτ4, show (59 : Int32) = nI (xkN 4) from rfl, show FX12_must (4 : Int32) τ3 = FX12_must (nI 4) τ3 from rfl]
      rcases SY_must (k := 4) hS S3 (by unfold vk; omega) (by omega) (by omega) with ⟨hk4, e3, e4, S4⟩ | ⟨σX3, σM3, e3, e4, B⟩
      · rw [e3, bdI_s, e4, bdV_s, M_minT hs (by rw [pI_s, pk_un (by omega)]; exact u19) (by rw [pI_o (by omega)]; exact u8)]
        obtain ⟨ξX, hξX⟩ : ∃ τ, τ = tkS τ4 P (a + 1 + 1) := ⟨_, rfl⟩
        obtain ⟨ξM, hξM⟩ : ∃ τ, τ = pI (pI τ3 0 11 (nI (a + 1 + 1 + 1))) 8 s (nI (nm + 1)) := ⟨_, rfl⟩
        rw [← hξX, ← hξM]
        rw [← hξX] at S4
        have fX : FR (okIX nm) olX σX ξX := by rw [hξX]; exact fX3.tr (tk_f.up (fun h j hh => Or.inl (okT_N h j hh)) (fun _ _ h => h))
        have fM : FR (okIM s nm) olM σM ξM := by rw [hξM]; exact (fM3.p (by unfold okIM okNM; omega)).p (by unfold okIM; omega)
        have S5 : SY K P V W N (a + 1 + 1 + 1) ξX ξM := by rw [hξM]; exact SY_pM S4 (by omega) (by omega)
        have dw5 : DW ξX ξM P (a + 1 + 1 + 1) w' := by rw [hξX, hξM]; exact DW_f tk_f (((FR.rf (ok := fun h j => (h = 0 ∧ j = 11) ∨ h = 8) (okl := olM)).p (Or.inl ⟨rfl, rfl⟩)).p (Or.inr rfl)) (by unfold okT; omega) (by unfold okT; omega) (by omega) (by omega) (by omega) dw3
        have sX : ξX.1 29 nm = nI (V (a + 1)) := by rw [hξX, tk_f.1 29 _ (by unfold okT; omega), hτ4, pI_o (by omega), pI_s, pk_us]
        have sM : ξM.1 9 (10 * s + nm) = nI (V (a + 1)) := by rw [hξM, pI_o (by omega), pI_o (by omega), hτ3, pI_s, pk_us, hr]
        refine ⟨ξX, ξM, fX.up okIX_T olX_T, fM.up (okIM_T hn) olM_T, rfl, Or.inl ⟨a + 1 + 1 + 1, rfl, by omega, nm + 1, nf, nl, cx, cm, br, w', Ls, S5, ?_, fun hw => ?_, DL_f fX fM (by unfold okIX okNX; omega) (fun h j _ _ => by unfold okIX okNX; omega) (by unfold okIM okNM; omega) (by unfold okIM okNM; omega) (fun h j _ _ => by unfold okIM okNM; omega) dl, dw5, hs, by rw [fM.1 0 19 (by unfold okIM okNM; omega)]; exact m19, by omega, q2, by omega, q4, by omega⟩⟩
        · refine ⟨⟨?_, ?_, by omega⟩, ⟨?_, ?_, b3⟩, ⟨?_, ?_, c3⟩, ⟨?_, ?_, ?_⟩, fun j hj => ?_, fun j hj => ⟨?_, ?_, ?_⟩, fun j hj => ?_⟩
          · rw [hξX, tk_f.1 12 0 (by unfold okT; omega), hτ4, pI_s, pk_us]
          · rw [hξM, pI_s, pk_us]
          · rw [fX.1 12 1 (by unfold okIX okNX; omega)]; exact b1
          · rw [fM.1 11 s (by unfold okIM okNM; omega)]; exact b2
          · rw [fX.1 2 5 (by unfold okIX okNX; omega)]; exact c1
          · rw [fM.1 15 s (by unfold okIM okNM; omega)]; exact c2
          · rw [fX.1 12 2 (by unfold okIX okNX; omega), fM.1 16 s (by unfold okIM okNM; omega)]; exact d1
          · rw [fX.1 12 3 (by unfold okIX okNX; omega), fM.1 17 s (by unfold okIM okNM; omega)]; exact d2
          · rw [fX.1 12 4 (by unfold okIX okNX; omega), fM.1 18 s (by unfold okIM okNM; omega)]; exact d3
          · by_cases hj' : j = nm
            · rw [hj', sX, sM]
            · rw [fX.1 29 j (by unfold okIX okNX; omega), fM.1 9 _ (by unfold okIM okNM; omega)]; exact e j (by omega)
          · rw [fX.1 30 j (by unfold okIX okNX; omega), fM.1 12 _ (by unfold okIM okNM; omega)]; exact (f j hj).1
          · rw [fX.1 31 j (by unfold okIX okNX; omega), fM.1 13 _ (by unfold okIM okNM; omega)]; exact (f j hj).2.1
          · rw [fX.2 17 j (by unfold olX; omega), fM.2 10 j (by unfold olM; exact id)]; exact (f j hj).2.2
          · rw [fX.1 32 j (by unfold okIX okNX; omega), fM.1 14 _ (by unfold okIM okNM; omega)]; exact g j hj
        · obtain ⟨hw0, hvi⟩ := hw' hw
          obtain ⟨v1, v2, v3, v4⟩ := dv hw0
          refine ⟨fun j hj => ?_, ?_, ?_, fun j hj => ?_⟩
          · by_cases hj' : j = nm
            · exact ⟨V (a + 1), hvi, by rw [hj', sM]⟩
            · rw [fM.1 9 _ (by unfold okIM okNM; omega)]; exact v1 j (by omega)
          · rw [fM.1 16 s (by unfold okIM okNM; omega)]; exact v2
          · rw [fM.1 17 s (by unfold okIM okNM; omega)]; exact v3
          · rw [fM.1 14 _ (by unfold okIM okNM; omega)]; exact v4 j hj
      · obtain ⟨ft, fp, b11, b1, L⟩ := BF_2 B
        rw [e3, bdI_s, e4, bdV_s, M_minT hs (by rw [(BF_M B).1 0 19 (by unfold okBF; omega)]; exact u19) (by rw [(BF_M B).1 8 s (by unfold okBF; omega)]; exact u8)]
        exact ⟨σX3, _, (fX3.up okIX_T olX_T).tr ((BF_X (c := 0) B).up okX_T olX_T), ((fM3.up (okIM_T hn) olM_T).tr ((BF_M B).up okBF_T olM_T)).p (okIM_T hn _ _ (Or.inr (Or.inr ⟨rfl, rfl⟩))), rfl, Or.inr ⟨ft, fp, rfl, b11, b1, FL_p L (by omega)⟩⟩
    · have L3 : FL τ3 ft fp := by rw [hτ3]; exact FL_p L (by omega)
      rw [show FX5_takeNumber (5 : Int32) τX = some (0, σX2) from eN, bdI_s, if_pos rfl, M_mustF _ L3.2.1 L3.1, bdV_s, M_minT hs u19 u8]
      exact ⟨σX2, _, fX12.up okIX_T olX_T, (fM3.up (okIM_T hn) olM_T).p (okIM_T hn _ _ (Or.inr (Or.inr ⟨rfl, rfl⟩))), rfl, Or.inr ⟨ft, fp, rfl, z11, z1, FL_p L3 (by omega)⟩⟩
  · obtain ⟨ft, fp, b11, b1', L⟩ := BF_2 B
    rw [eX, bdI_s, if_pos rfl, eM, bdV_s, if_neg (nz13 L).2]
    exact ⟨σX', σM', (BF_X (c := 0) B).up okX_T olX_T, (BF_M B).up okBF_T olM_T, rfl, Or.inr ⟨ft, fp, rfl, b11, b1', L⟩⟩
