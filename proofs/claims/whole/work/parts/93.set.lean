/-! dust, syrup, seed. -/
theorem DL_f {okx olx okm olm : Nat → Nat → Prop} {σX σM σX' σM' : HS} {s cx cm br : Nat} {Ls : Nat → Lawt} (fx : FR okx olx σX σX') (fm : FR okm olm σM σM') (h1 : ¬ okx 12 5) (h2 : ∀ h j, 33 ≤ h → h ≤ 35 → ¬ okx h j) (m1 : ¬ okm 0 39) (m2 : ¬ okm 0 33) (m3 : ∀ h j, 19 ≤ h → h ≤ 27 → ¬ okm h j) (h : DL σX σM s cx cm br Ls) : DL σX' σM' s cx cm br Ls := by
  obtain ⟨a1, a2, a3, a4⟩ := h
  refine ⟨by rw [fx.1 12 5 h1]; exact a1, by rw [fm.1 0 39 m1]; exact a2, by rw [fm.1 0 33 m2]; exact a3, fun k hk => ?_⟩
  obtain ⟨⟨i, b1, b2⟩, b3⟩ := a4 k hk
  exact ⟨⟨i, by rw [fx.1 33 k (h2 33 k (by omega) (by omega))]; exact b1, LawX_eq _ _ _ (fun j _ _ => ⟨fx.1 34 j (h2 34 j (by omega) (by omega)), fx.1 35 j (h2 35 j (by omega) (by omega))⟩) b2⟩, LB_f fm (m3 19 _ (by omega) (by omega)) (m3 20 _ (by omega) (by omega)) (fun h j q1 q2 _ => m3 h j (by omega) (by omega)) (fun h j q1 q2 _ => m3 h j (by omega) (by omega)) (Nat.le_refl _) (Nat.le_refl _) b3⟩
theorem okNX_T : ∀ h j, okNX h j → okTX h j := by intro h j; unfold okNX okTX; omega
theorem okNM_T {s : Nat} : ∀ h j, okNM h j → okTM s h j := by
  intro h j hh
  unfold okNM at hh
  exact Or.inl ⟨hh.1, by omega⟩
theorem X_set {q : Nat} (hq : q < 3) (σ : HS) : (if nI (7 + q) = (7 : Int32) then hl_ (pI σ 12 2 ((σ.2 2 9).toInt32)) fun σ_13 => FX5_readSetting_85 (nI (7 + q)) σ_13 else if nI (7 + q) = (8 : Int32) then hl_ (pI σ 12 3 ((σ.2 2 9).toInt32)) fun σ_12 => FX5_readSetting_85 (nI (7 + q)) σ_12 else hl_ (pI σ 12 4 ((σ.2 2 9).toInt32)) fun σ_11 => FX5_readSetting_85 (nI (7 + q)) σ_11) = FX5_readSetting_85 (nI (7 + q)) (pI σ 12 (2 + q) ((σ.2 2 9).toInt32)) := by
  have h3 : q = 0 ∨ q = 1 ∨ q = 2 := by omega
  rcases h3 with rfl | rfl | rfl
  · rw [if_pos (show nI (7 + 0) = (7 : Int32) from rfl)]
  · rw [if_neg (show ¬ nI (7 + 1) = (7 : Int32) by decide), if_pos (show nI (7 + 1) = (8 : Int32) from rfl)]
  · rw [if_neg (show ¬ nI (7 + 2) = (7 : Int32) by decide), if_neg (show ¬ nI (7 + 2) = (8 : Int32) by decide)]
theorem X_set0 {q : Nat} (hq : q < 3) (σ : HS) : (if nI (7 + q) = (9 : Int32) then FX5_readSetting_23 (nI (7 + q)) (9999 : Int32) σ else FX5_readSetting_23 (nI (7 + q)) (9 : Int32) σ) = FX5_readSetting_23 (nI (7 + q)) (nI (if q = 2 then 9999 else 9)) σ := by
  have h3 : q = 0 ∨ q = 1 ∨ q = 2 := by omega
  rcases h3 with rfl | rfl | rfl
  · rw [if_neg (show ¬ nI (7 + 0) = (9 : Int32) by decide)]; rfl
  · rw [if_neg (show ¬ nI (7 + 1) = (9 : Int32) by decide)]; rfl
  · rw [if_pos (show nI (7 + 2) = (9 : Int32) from rfl)]; rfl
def mSet (q hi : Nat) (σ : HS) : Option HS := bdI (FX12_toldInt (nI hi) σ) fun r_65 σ_66 => gd (ix (σ.1 0 19) 2) (hl_ (pI σ_66 (16 + q) ((σ.1 0 19).toNatClampNeg) r_65) fun σ_69 => some σ_69)
def okSX (q h j : Nat) : Prop := okNX h j ∨ (h = 12 ∧ j = 2 + q)
def okSM (q s h j : Nat) : Prop := okNM h j ∨ (h = 16 + q ∧ j = s)
theorem okSX_T {q : Nat} : ∀ h j, okSX q h j → okTX h j := by intro h j; unfold okSX okNX okTX; omega
theorem okSM_T {q s : Nat} (hq : q < 3) : ∀ h j, okSM q s h j → okTM s h j := by
  intro h j hh
  rcases hh with hh | ⟨h1, h2⟩
  · exact okNM_T h j hh
  · exact Or.inr (Or.inr (Or.inr (Or.inr (Or.inr (Or.inl ⟨by omega, h2⟩)))))
theorem FL_p {σ : HS} {ft fp h j : Nat} {v : Int32} (hh : FL σ ft fp) (h0 : h ≠ 0) : FL (pI σ h j v) ft fp := FL_f (ok := okPt h j) (okl := olM) (FR.rf.p ⟨rfl, rfl⟩) (by unfold okPt; omega) (by unfold okPt; omega) (by unfold okPt; omega) hh
theorem T_set {K P V W : Nat → Nat} {N s q a : Nat} {σX σM : HS} (hS : TS K P V N) (hq : q < 3) (hT : TI K P V W N s a σX σM) (hK : K a = 27 + q) : TO K P V W N s a (FX5_readSetting (nI (7 + q)) σX) (mSet q (if q = 2 then 9999 else 9) σM) σX σM := by
  obtain ⟨nm, nf, nl, cx, cm, br, w, Ls, S0, dx, dv, dl, dw, hs, m19, q1, q2, q3, q4, q5⟩ := hT
  have hN := hS.1
  have ha := S0.2.2.1
  have hx : xkN (K a) = 7 + q := by
    have h3 : q = 0 ∨ q = 1 ∨ q = 2 := by omega
    rw [hK]
    rcases h3 with rfl | rfl | rfl <;> rfl
  have is : ix (nI s) 2 = true := ix_nI hs (by omega)
  have i0 : FR (okSM q s) olM σM σM := FR.rf
  obtain ⟨hi, hhi⟩ : ∃ hi, hi = (if q = 2 then 9999 else 9) := ⟨_, rfl⟩
  have hi9 : hi ≤ 9999 := by rw [hhi]; split <;> omega
  have hiq : q < 2 → hi ≤ 9 := fun h => by
    have e := hhi
    rw [if_neg (by omega)] at e
    omega
  unfold FX5_readSetting mSet FX12_toldInt
  rw [← hhi]
  rcases SY_go hS S0 (by omega) (by omega) with ⟨h4, eX, eM, S1⟩ | ⟨σX', σM', eX, eM, B⟩
  · obtain ⟨τX, hτX⟩ : ∃ τ, τ = tkS σX P a := ⟨_, rfl⟩
    obtain ⟨τM, hτM⟩ : ∃ τ, τ = pI σM 0 11 (nI (a + 1)) := ⟨_, rfl⟩
    rw [hx] at eX
    rw [eX, bdI_s, if_neg one_ne, X_set0 hq, ← hhi, eM, bdV_s]
    rw [← hτX, ← hτM] at S1 ⊢
    have fX1 : FR (okSX q) olX σX τX := by rw [hτX]; exact tk_f.up (fun h j hh => Or.inl (okT_N h j hh)) (fun _ _ h => h)
    have fM1 : FR (okSM q s) olM σM τM := by rw [hτM]; exact FR.rf.p (by unfold okSM okNM; omega)
    have dw1 : DW τX τM P (a + 1) w := by rw [hτX, hτM]; exact DW_f tk_f (FR.rf.p (ok := okPt 0 11) (okl := olM) ⟨rfl, rfl⟩) (by unfold okT; omega) (by unfold okT; omega) (by unfold okPt; omega) (by unfold okPt; omega) (by omega) dw
    obtain ⟨σX2, σM2, r, fX2, fM2, eB, hh⟩ := N_SY hS S1 dw1 hi9
    have fX12 : FR (okSX q) olX σX σX2 := fX1.tr (fX2.up (fun _ _ h => Or.inl h) (fun _ _ h => h))
    have fM12 : FR (okSM q s) olM σM σM2 := fM1.tr (fM2.up (fun _ _ h => Or.inl h) (fun _ _ h => h))
    unfold FX5_readSetting_23
    rw [eB, bdI_s]
    rcases hh with ⟨w', eN, hr, hV, t9, S2, dw2, hw'⟩ | ⟨ft, fp, eN, z11, z1, L⟩
    · rw [eN, bdI_s, if_neg one_ne, X_set hq, t9, lN_i]
      unfold FX5_readSetting_85
      obtain ⟨τ3, hτ3⟩ : ∃ τ, τ = pI σX2 12 (2 + q) (nI (V (a + 1))) := ⟨_, rfl⟩
      have S3 : SY K P V W N (a + 1 + 1) τ3 σM2 := by rw [hτ3]; exact SY_pX S2 (by omega) (by omega)
      have fX3 : FR (okSX q) olX σX τ3 := by rw [hτ3]; exact fX12.p (by unfold okSX; omega)
      have dw3 : DW τ3 σM2 P (a + 1 + 1) w' := by rw [hτ3]; exact DW_f (FR.rf.p (ok := okPt 12 (2 + q)) (okl := olM) ⟨rfl, rfl⟩) (FR.rf (ok := okPt 0 11) (okl := olM)) (by unfold okPt; omega) (by unfold okPt; omega) (by unfold okPt; omega) (by unfold okPt; omega) (Nat.le_refl _) dw2
      rw [← hτ3, show (59 : Int32) = nI (xkN 4) from rfl, show FX12_must (4 : Int32) σM2 = FX12_must (nI 4) σM2 from rfl]
      rcases SY_must (k := 4) hS S3 (by unfold vk; omega) (by omega) (by omega) with ⟨hk4, e3, e4, S4⟩ | ⟨σX3, σM3, e3, e4, B⟩
      · rw [e3, bdI_s, e4, bdV_s, bdI_s, m19, gd_t is]
        simp only [hl_]
        rw [cl_nI (by omega)]
        obtain ⟨ξX, hξX⟩ : ∃ τ, τ = tkS τ3 P (a + 1 + 1) := ⟨_, rfl⟩
        obtain ⟨ξM, hξM⟩ : ∃ τ, τ = pI (pI σM2 0 11 (nI (a + 1 + 1 + 1))) (16 + q) s r := ⟨_, rfl⟩
        rw [← hξX, ← hξM]
        rw [← hξX] at S4
        have fX : FR (okSX q) olX σX ξX := by rw [hξX]; exact fX3.tr (tk_f.up (fun h j hh => Or.inl (okT_N h j hh)) (fun _ _ h => h))
        have fM : FR (okSM q s) olM σM ξM := by rw [hξM]; exact (fM12.p (by unfold okSM okNM; omega)).p (by unfold okSM; omega)
        have S5 : SY K P V W N (a + 1 + 1 + 1) ξX ξM := by rw [hξM]; exact SY_pM S4 (by omega) (by omega)
        have dw5 : DW ξX ξM P (a + 1 + 1 + 1) w' := by rw [hξX, hξM]; exact DW_f tk_f (((FR.rf (ok := fun h j => (h = 0 ∧ j = 11) ∨ h = 16 + q) (okl := olM)).p (Or.inl ⟨rfl, rfl⟩)).p (Or.inr rfl)) (by unfold okT; omega) (by unfold okT; omega) (by omega) (by omega) (by omega) dw3
        have sX : ξX.1 12 (2 + q) = nI (V (a + 1)) := by rw [hξX, tk_f.1 12 _ (by unfold okT; omega), hτ3, pI_s, pk_us]
        have sM : ξM.1 (16 + q) s = nI (V (a + 1)) := by rw [hξM, pI_s, pk_us, hr]
        have st : ∀ i, i < 3 → σX.1 12 (2 + i) = σM.1 (16 + i) s → ξX.1 12 (2 + i) = ξM.1 (16 + i) s := by
          intro i hi e
          by_cases h : i = q
          · rw [h, sX, sM]
          · rw [fX.1 12 (2 + i) (by unfold okSX okNX; omega), fM.1 (16 + i) s (by unfold okSM okNM; omega)]; exact e
        refine ⟨ξX, ξM, fX.up okSX_T olX_T, fM.up (okSM_T hq) olM_T, rfl, Or.inl ⟨a + 1 + 1 + 1, rfl, by omega, nm, nf, nl, cx, cm, br, w', Ls, S5, ?_, fun hw => ?_, DL_f fX fM (by unfold okSX okNX; omega) (fun h j _ _ => by unfold okSX okNX; omega) (by unfold okSM okNM; omega) (by unfold okSM okNM; omega) (fun h j _ _ => by unfold okSM okNM; omega) dl, dw5, hs, by rw [fM.1 0 19 (by unfold okSM okNM; omega)]; exact m19, by omega, q2, by omega, q4, by omega⟩⟩
        · obtain ⟨⟨a1, a2, a3⟩, ⟨b1, b2, b3⟩, ⟨c1, c2, c3⟩, ⟨d1, d2, d3⟩, e, f, g⟩ := dx
          refine ⟨⟨?_, ?_, a3⟩, ⟨?_, ?_, b3⟩, ⟨?_, ?_, c3⟩, ⟨st 0 (by omega) d1, st 1 (by omega) d2, st 2 (by omega) d3⟩, fun j hj => ?_, fun j hj => ⟨?_, ?_, ?_⟩, fun j hj => ?_⟩
          · rw [fX.1 12 0 (by unfold okSX okNX; omega)]; exact a1
          · rw [fM.1 8 s (by unfold okSM okNM; omega)]; exact a2
          · rw [fX.1 12 1 (by unfold okSX okNX; omega)]; exact b1
          · rw [fM.1 11 s (by unfold okSM okNM; omega)]; exact b2
          · rw [fX.1 2 5 (by unfold okSX okNX; omega)]; exact c1
          · rw [fM.1 15 s (by unfold okSM okNM; omega)]; exact c2
          · rw [fX.1 29 j (by unfold okSX okNX; omega), fM.1 9 _ (by unfold okSM okNM; omega)]; exact e j hj
          · rw [fX.1 30 j (by unfold okSX okNX; omega), fM.1 12 _ (by unfold okSM okNM; omega)]; exact (f j hj).1
          · rw [fX.1 31 j (by unfold okSX okNX; omega), fM.1 13 _ (by unfold okSM okNM; omega)]; exact (f j hj).2.1
          · rw [fX.2 17 j (by unfold olX; omega), fM.2 10 j (by unfold olM; exact id)]; exact (f j hj).2.2
          · rw [fX.1 32 j (by unfold okSX okNX; omega), fM.1 14 _ (by unfold okSM okNM; omega)]; exact g j hj
        · obtain ⟨hw0, hvi⟩ := hw' hw
          obtain ⟨v1, v2, v3, v4⟩ := dv hw0
          refine ⟨fun j hj => ?_, ?_, ?_, fun j hj => ?_⟩
          · rw [fM.1 9 _ (by unfold okSM okNM; omega)]; exact v1 j hj
          · by_cases h : q = 0
            · have := hiq (by omega)
              exact ⟨V (a + 1), by omega, by rw [← sM, h]⟩
            · rw [fM.1 16 s (by unfold okSM okNM; omega)]; exact v2
          · by_cases h : q = 1
            · have := hiq (by omega)
              exact ⟨V (a + 1), by omega, by rw [← sM, h]⟩
            · rw [fM.1 17 s (by unfold okSM okNM; omega)]; exact v3
          · rw [fM.1 14 _ (by unfold okSM okNM; omega)]; exact v4 j hj
      · rw [e3, bdI_s, e4, bdV_s, bdI_s, m19, gd_t is]
        simp only [hl_]
        rw [cl_nI (by omega)]
        obtain ⟨ft, fp, b11, b1, L⟩ := BF_2 B
        exact ⟨σX3, _, (fX3.up okSX_T olX_T).tr ((BF_X (c := 0) B).up okX_T olX_T), ((fM12.up (okSM_T hq) olM_T).tr ((BF_M B).up okBF_T olM_T)).p (okSM_T hq _ _ (Or.inr ⟨rfl, rfl⟩)), rfl, Or.inr ⟨ft, fp, rfl, b11, b1, FL_p L (by omega)⟩⟩
    · rw [eN, bdI_s, if_pos rfl, M_mustF _ L.2.1 L.1, bdV_s, bdI_s, m19, gd_t is]
      simp only [hl_]
      rw [cl_nI (by omega)]
      exact ⟨σX2, _, fX12.up okSX_T olX_T, (fM12.up (okSM_T hq) olM_T).p (okSM_T hq _ _ (Or.inr ⟨rfl, rfl⟩)), rfl, Or.inr ⟨ft, fp, rfl, z11, z1, FL_p L (by omega)⟩⟩
  · rw [hx] at eX
    obtain ⟨ft, fp, b11, b1, L⟩ := BF_2 B
    rw [eX, bdI_s, if_pos rfl, eM, bdV_s, M_boundedF _ _ L, bdI_s, M_mustF _ L.2.1 L.1, bdV_s, bdI_s, m19, gd_t is]
    simp only [hl_]
    rw [cl_nI (by omega)]
    exact ⟨σX', _, (BF_X (c := 0) B).up okX_T olX_T, ((BF_M B).up okBF_T olM_T).p (okSM_T hq _ _ (Or.inr ⟨rfl, rfl⟩)), rfl, Or.inr ⟨ft, fp, rfl, b11, b1, FL_p L (by omega)⟩⟩
