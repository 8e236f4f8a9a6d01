/-! A family is told. -/
def mFam (σ : HS) : Option HS := gd (ix (σ.1 0 19) 2) (bdV (FX12_roomFor (σ.1 11 ((σ.1 0 19).toNatClampNeg)) (5 : Int32) σ) fun σ_28 => if (σ_28.1 0 13) = 0 then bdV (FX12_tellFamily σ_28) fun σ_31 => some σ_31 else some σ_28)
theorem fam_end {K P V W : Nat → Nat} {N s a a' nm nf nl cx cm br w w' : Nat} {Ls : Nat → Lawt} {σX σM σX' σM' : HS} (hn : nf < 5) (dx : DX σX σM s nm nf nl) (dv : w = 0 → DV σM s nm nf) (dl : DL σX σM s cx cm br Ls) (hs : s < 2) (m19 : σM.1 0 19 = nI s) (q1 : cx ≤ 8 + a) (q2 : 420 * s ≤ cm) (q3 : cm ≤ 420 * s + a) (q4 : 130 * s ≤ br) (q5 : 4 * br ≤ 520 * s + a) (fX : FR (okFX nf) (olFX nf) σX σX') (fM : FR (okFM s nf) (olFM nf) σM σM') (haa : a < a') (S : SY K P V W N a' σX' σM') (dw : DW σX' σM' P a' w') (hw : w' = 0 → w = 0) (e1 : σX'.1 12 1 = nI (nf + 1) ∧ σM'.1 11 s = nI (nf + 1)) (e2 : σX'.1 30 nf = σM'.1 12 (5 * s + nf) ∧ σX'.1 31 nf = σM'.1 13 (5 * s + nf) ∧ σX'.2 17 nf = σM'.2 10 nf) : TI K P V W N s a' σX' σM' := by
  obtain ⟨⟨a1, a2, a3⟩, ⟨b1, b2, b3⟩, ⟨c1, c2, c3⟩, ⟨d1, d2, d3⟩, e, f, g⟩ := dx
  refine ⟨nm, nf + 1, nl, cx, cm, br, w', Ls, S, ?_, fun h0 => ?_, DL_f fX fM (by unfold okFX okNX; omega) (fun h j _ _ => by unfold okFX okNX; omega) (by unfold okFM okNM; omega) (by unfold okFM okNM; omega) (fun h j _ _ => by unfold okFM okNM; omega) dl, dw, hs, by rw [fM.1 0 19 (by unfold okFM okNM; omega)]; exact m19, by omega, q2, by omega, q4, by omega⟩
  · refine ⟨⟨?_, ?_, a3⟩, ⟨e1.1, e1.2, by omega⟩, ⟨?_, ?_, c3⟩, ⟨?_, ?_, ?_⟩, fun j hj => ?_, fun j hj => ?_, fun j hj => ?_⟩
    · rw [fX.1 12 0 (by unfold okFX okNX; omega)]; exact a1
    · rw [fM.1 8 s (by unfold okFM okNM; omega)]; exact a2
    · rw [fX.1 2 5 (by unfold okFX okNX; omega)]; exact c1
    · rw [fM.1 15 s (by unfold okFM okNM; omega)]; exact c2
    · rw [fX.1 12 2 (by unfold okFX okNX; omega), fM.1 16 s (by unfold okFM okNM; omega)]; exact d1
    · rw [fX.1 12 3 (by unfold okFX okNX; omega), fM.1 17 s (by unfold okFM okNM; omega)]; exact d2
    · rw [fX.1 12 4 (by unfold okFX okNX; omega), fM.1 18 s (by unfold okFM okNM; omega)]; exact d3
    · rw [fX.1 29 j (by unfold okFX okNX; omega), fM.1 9 _ (by unfold okFM okNM; omega)]; exact e j hj
    · by_cases hj' : j = nf
      · rw [hj']; exact e2
      · refine ⟨?_, ?_, ?_⟩
        · rw [fX.1 30 j (by unfold okFX okNX; omega), fM.1 12 _ (by unfold okFM okNM; omega)]; exact (f j (by omega)).1
        · rw [fX.1 31 j (by unfold okFX okNX; omega), fM.1 13 _ (by unfold okFM okNM; omega)]; exact (f j (by omega)).2.1
        · rw [fX.2 17 j (by unfold olFX olX; omega), fM.2 10 j (by unfold olFM; omega)]; exact (f j (by omega)).2.2
    · rw [fX.1 32 j (by unfold okFX okNX; omega), fM.1 14 _ (by unfold okFM okNM; omega)]; exact g j hj
  · obtain ⟨v1, v2, v3, v4⟩ := dv (hw h0)
    refine ⟨fun j hj => ?_, ?_, ?_, fun j hj => ?_⟩
    · rw [fM.1 9 _ (by unfold okFM okNM; omega)]; exact v1 j hj
    · rw [fM.1 16 s (by unfold okFM okNM; omega)]; exact v2
    · rw [fM.1 17 s (by unfold okFM okNM; omega)]; exact v3
    · rw [fM.1 14 _ (by unfold okFM okNM; omega)]
      exact (v4 j hj).imp id (fun ⟨f, q1, q2⟩ => ⟨f, by omega, q2⟩)
theorem T_fam {K P V W : Nat → Nat} {N s a : Nat} {σX σM : HS} (hS : TS K P V N) (hT : TI K P V W N s a σX σM) (hK : K a = 21) : TO K P V W N s a (FX5_readFamily σX) (mFam σM) σX σM := by
  obtain ⟨nm, nf, nl, cx, cm, br, w, Ls, S0, dx, dv, dl, dw, hs, m19, q1, q2, q3, q4, q5⟩ := hT
  have hN := hS.1
  obtain ⟨h1, h2, ha, x8, x11, m11, m12, m13⟩ := id S0
  obtain ⟨⟨a1, a2, a3⟩, ⟨b1, b2, b3⟩, ⟨c1, c2, c3⟩, ⟨d1, d2, d3⟩, e, f, g⟩ := id dx
  have is : ix (nI s) 2 = true := ix_nI hs (by omega)
  have eM0 : mFam σM = bdV (if nf = 5 then some (pI (pI σM 0 13 2) 0 14 (nI (P a))) else FX12_goesOn σM) fun σ_28 => if (σ_28.1 0 13) = 0 then bdV (FX12_tellFamily σ_28) fun σ_31 => some σ_31 else some σ_28 := by
    unfold mFam
    rw [m19, gd_t is, cl_nI (by omega), b2, show (5 : Int32) = nI 5 from rfl, M_room hS h2 m11 m13 ha (by omega) (by omega)]
  rw [eM0]
  unfold FX5_readFamily
  simp only [hl_]
  rw [b1]
  by_cases h5 : nf = 5
  · have L0 : FL (pI (pI σM 0 13 2) 0 14 (nI (P a))) 2 (P a) := FLs 2 (Or.inr rfl) (by omega) m11
    rw [if_neg (show ¬ nI nf < (5 : Int32) from nI_nlt (b := 5) (by omega) (by omega)), X_fail 2 hS h1 x8 ha, bdI_s, if_pos h5, bdV_s, if_neg (nz13 L0).1]
    exact ⟨_, _, (FR.rf.p (by unfold okTX; omega)).p (by unfold okTX; omega), (FR.rf.p (Or.inl ⟨rfl, by omega⟩)).p (Or.inl ⟨rfl, by omega⟩), rfl, Or.inr ⟨2, P a, rfl, by rw [pI_s, pk_un (by omega), pI_s, pk_us]; rfl, by rw [pI_s, pk_us], L0⟩⟩
  have hn : nf < 5 := by omega
  have e5 : (5 : Int32) * nI s + nI nf = nI (5 * s + nf) := by rw [show (5 : Int32) = nI 5 from rfl, pk_mul, nI_add]
  rw [if_pos (show nI nf < (5 : Int32) from nI_lt (b := 5) hn (by omega)), if_neg h5, show FX5_take (1 : Int32) σX = FX5_take (nI (xkN (K a))) σX by rw [hK]; rfl]
  rcases SY_go hS S0 (by omega) (by omega) with ⟨h4, eX, eM, S1⟩ | ⟨σX', σM', eX, eM, B⟩
  · obtain ⟨τX, hτX⟩ : ∃ τ, τ = tkS σX P a := ⟨_, rfl⟩
    obtain ⟨τM, hτM⟩ : ∃ τ, τ = pI σM 0 11 (nI (a + 1)) := ⟨_, rfl⟩
    rw [eX, bdI_s, if_neg one_ne, eM, bdV_s]
    rw [← hτX, ← hτM] at S1 ⊢
    have ha1 := S1.2.2.1
    have fX1 : FR (okFX nf) (olFX nf) σX τX := by rw [hτX]; exact tk_f.up (fun h j hh => nX_F h j (okT_N h j hh)) lX_F
    have fM1 : FR (okFM s nf) (olFM nf) σM τM := by rw [hτM]; exact FR.rf.p (by unfold okFM okNM; omega)
    have t19 : τM.1 0 19 = nI s := by rw [hτM, pI_s, pk_un (by omega)]; exact m19
    have t11 : τM.1 11 s = nI nf := by rw [hτM, pI_o (by omega)]; exact b2
    rw [S1.2.2.2.2.2.2.2, if_pos rfl]
    unfold FX12_tellFamily
    rw [t19, gd_t is]
    simp only [hl_]
    rw [cl_nI (by omega), t11, e5, S1.2.2.2.2.2.1, show (22 : Int32) = nI (xkN 1) from rfl, show FX12_must (1 : Int32) τM = FX12_must (nI 1) τM from rfl]
    rcases SY_must (k := 1) hS S1 (by unfold vk; omega) (by omega) (by omega) with ⟨hk1, e3, e4, S2⟩ | ⟨σX3, σM3, e3, e4, B⟩
    · obtain ⟨υX, hυX⟩ : ∃ τ, τ = tkS τX P (a + 1) := ⟨_, rfl⟩
      obtain ⟨υM, hυM⟩ : ∃ τ, τ = pI τM 0 11 (nI (a + 1 + 1)) := ⟨_, rfl⟩
      rw [e3, bdI_s, if_neg one_ne, e4, bdV_s]
      rw [← hυX, ← hυM] at S2 ⊢
      have fX2 : FR (okFX nf) (olFX nf) σX υX := by rw [hυX]; exact fX1.tr (tk_f.up (fun h j hh => nX_F h j (okT_N h j hh)) lX_F)
      have fM2 : FR (okFM s nf) (olFM nf) σM υM := by rw [hυM]; exact fM1.p (by unfold okFM okNM; omega)
      have v1 : υX.2 2 9 = lN (W (a + 1)) := by rw [hυX]; exact tk_9.trans ((S1.1 (a + 1) ha1).2.2.2 hk1)
      have v10 : υX.1 2 10 = nI (P (a + 1)) := by rw [hυX]; exact tk_10
      have v6 : υM.2 6 (a + 1) = lN (W (a + 1)) := by rw [hυM, pI_2]; exact (S1.2.1 (a + 1) ha1).2.2.2 hk1
      have w1 : υX.1 12 1 = nI nf := by rw [hυX, tk_f.1 12 1 (by unfold okT; omega), hτX, tk_f.1 12 1 (by unfold okT; omega)]; exact b1
      have w11 : υM.1 11 s = nI nf := by rw [hυM, pI_o (by omega)]; exact t11
      have w19 : υM.1 0 19 = nI s := by rw [hυM, pI_s, pk_un (by omega)]; exact t19
      have dwa : DW υX υM P (a + 1) w := by
        rw [hυX, hυM, hτX, hτM]
        exact DW_f (tk_f.tr tk_f) (((FR.rf (ok := okPt 0 11) (okl := olM)).p ⟨rfl, rfl⟩).p ⟨rfl, rfl⟩) (by unfold okT; omega) (by unfold okT; omega) (by unfold okPt; omega) (by unfold okPt; omega) (by omega) dw
      obtain ⟨r, r1, r2, r3⟩ := nm_go hs b3 (by omega) w1 w11 w19 v6 (fun j hj => by rw [fX2.2 17 j (by unfold olFX olX; omega), fM2.2 10 j (by unfold olFM; omega)]; exact (f j hj).2.2) nf 0 fu fu (by omega) (by show nf < 5000; omega) (by show nf < 5000; omega)
      unfold FX5_familyNamed FX12_numberOf
      rw [v1, show FX5_familyNamed_2 fu (lN (W (a + 1))) (0 : Int32) υX = some (r, υX) from r1, bdI_s, S2.2.2.2.2.2.2.2, if_pos rfl, show FX12_numberOf_2 fu (nI (a + 1)) (0 : Int32) υM = some (r, υM) from r2, bdI_s]
      rcases r3 with rfl | ⟨i, hi, rfl⟩
      · rw [if_pos rfl, if_pos (show (-1 : Int32) < 0 by decide), bdV_id]
        obtain ⟨σX', σM', gX, gM, eM', hh⟩ := F_55 (a := a + 1) hS hs hn S2 (DW_f (FR.rf (ok := okPt 0 11) (okl := olM)) (FR.rf (ok := okPt 0 11) (okl := olM)) (by unfold okPt; omega) (by unfold okPt; omega) (by unfold okPt; omega) (by unfold okPt; omega) (by omega) dwa) w1 w11 w19 v1 ha1 v6
        rw [eM']
        refine ⟨σX', σM', (fX2.tr gX).up okFX_T olFX_T, (fM2.tr gM).up (okFM_T hn) olFM_T, rfl, ?_⟩
        rcases hh with ⟨a', w', eX', haa, S', dw', hw', e1, e2⟩ | hh
        · exact Or.inl ⟨a', eX', by omega, fam_end hn dx dv dl hs m19 q1 q2 q3 q4 q5 (fX2.tr gX) (fM2.tr gM) (by omega) S' dw' hw' e1 e2⟩
        · exact Or.inr hh
      · have hne : ¬ nI i = (-1 : Int32) := by
          have h5 : i = 0 ∨ i = 1 ∨ i = 2 ∨ i = 3 ∨ i = 4 := by omega
          rcases h5 with h5 | h5 | h5 | h5 | h5 <;> rw [h5] <;> decide
        rw [if_neg hne, if_neg (show ¬ nI i < (0 : Int32) from nI_nlt (b := 0) (by omega) (by omega)), show (3 : Int32) = nI 3 from rfl, X_later dwa.1 dwa.2.2.1 v10, bdV_s, M_wrong hS S2.2.1 ha1 S2.2.2.2.2.2.2.2 dwa.2.1 dwa.2.2.1 (fun hw => (dwa.2.2.2.2 hw).imp (fun t q => ⟨q.1, q.2.2⟩)), bdV_s, bdV_id]
        have dwb := DW_rec (c := 3) (by omega) (by omega) dwa
        obtain ⟨ωX, hωX⟩ : ∃ τ, τ = (if w = 0 then pI (pI υX 2 12 (nI 3)) 2 13 (nI (P (a + 1))) else υX) := ⟨_, rfl⟩
        obtain ⟨ωM, hωM⟩ : ∃ τ, τ = (if w = 0 then pI (pI υM 0 15 (nI 3)) 0 16 (nI (P (a + 1))) else υM) := ⟨_, rfl⟩
        rw [← hωX, ← hωM] at dwb ⊢
        have S3 : SY K P V W N (a + 1 + 1) ωX ωM := by rw [hωX, hωM]; exact rec_SM (rec_SY S2)
        have oX : FR okNX olX υX ωX := by rw [hωX]; exact rec_fX
        have oM : FR okNM olM υM ωM := by rw [hωM]; exact rec_fM
        have fX3 : FR (okFX nf) (olFX nf) σX ωX := fX2.tr (oX.up nX_F lX_F)
        have fM3 : FR (okFM s nf) (olFM nf) σM ωM := fM2.tr (oM.up nM_F lM_F)
        obtain ⟨σX', σM', gX, gM, eM', hh⟩ := F_55 (a := a + 1) (v := lN (W (a + 1))) hS hs hn S3 dwb (by rw [oX.1 12 1 (by unfold okNX; omega)]; exact w1) (by rw [oM.1 11 s (by unfold okNM; omega)]; exact w11) (by rw [oM.1 0 19 (by unfold okNM; omega)]; exact w19) (by rw [hωX]; exact rec_9.trans v1) ha1 (by rw [oM.2 6 _ (by unfold olM; exact id)]; exact v6)
        rw [eM']
        refine ⟨σX', σM', (fX3.tr gX).up okFX_T olFX_T, (fM3.tr gM).up (okFM_T hn) olFM_T, rfl, ?_⟩
        rcases hh with ⟨a', w', eX', haa, S', dw', hw', e1, e2⟩ | hh
        · refine Or.inl ⟨a', eX', by omega, fam_end hn dx dv dl hs m19 q1 q2 q3 q4 q5 (fX3.tr gX) (fM3.tr gM) (by omega) S' dw' (fun e => ?_) e1 e2⟩
          by_cases hw : w = 0
          · exact hw
          · have := hw' e
            rw [if_neg hw] at this
            exact this
        · exact Or.inr hh
    · obtain ⟨ft, fp, c11', c1', L⟩ := BF_2 B
      obtain ⟨σM4, e6, f6, L6⟩ := M_48F (s := s) (nf := nf) (nI (a + 1)) hs hn L
      rw [e3, bdI_s, if_pos rfl, e4, bdV_s, if_neg (nz13 L).1, e6, bdV_s]
      exact ⟨σX3, σM4, (fX1.tr ((BF_n B).up nX_F lX_F)).up okFX_T olFX_T, ((fM1.tr ((BF_M B).up xX_F lM_F)).tr f6).up (okFM_T hn) olFM_T, rfl, Or.inr ⟨ft, fp, rfl, c11', c1', L6⟩⟩
  · obtain ⟨ft, fp, b11, b1', L⟩ := BF_2 B
    rw [eX, bdI_s, if_pos rfl, eM, bdV_s, if_neg (nz13 L).1]
    exact ⟨σX', σM', (BF_X (c := 0) B).up okX_T olX_T, (BF_M B).up okBF_T olM_T, rfl, Or.inr ⟨ft, fp, rfl, b11, b1', L⟩⟩
