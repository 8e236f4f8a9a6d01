/-! A lease is told. -/
def mLea (σ : HS) : Option HS := gd (ix (σ.1 0 19) 2) (bdV (FX12_roomFor (σ.1 15 ((σ.1 0 19).toNatClampNeg)) (8 : Int32) σ) fun σ_35 => if (σ_35.1 0 13) = 0 then bdV (FX12_tellLease σ_35) fun σ_38 => some σ_38 else some σ_35)
theorem olE_M : ∀ h j, olM h j → olTM h j := fun _ _ hh => hh.elim
theorem lea_end {K P V W : Nat → Nat} {N s a a' nm nf nl cx cm br w w' : Nat} {Ls : Nat → Lawt} {x1 : Int32} {σX σM σX' σM' : HS} (hn : nl < 8) (dx : DX σX σM s nm nf nl) (dv : w = 0 → DV σM s nm nf) (dl : DL σX σM s cx cm br Ls) (hs : s < 2) (m19 : σM.1 0 19 = nI s) (q1 : cx ≤ 8 + a) (q2 : 420 * s ≤ cm) (q3 : cm ≤ 420 * s + a) (q4 : 130 * s ≤ br) (q5 : 4 * br ≤ 520 * s + a) (fX : FR okEX olX σX σX') (fM : FR (okEM s) olM σM σM') (haa : a < a') (S : SY K P V W N a' σX' σM') (dw : DW σX' σM' P a' w') (hw : w' = 0 → w = 0 ∧ ∃ f, f < nf ∧ x1 = nI f) (e1 : σX'.1 2 5 = nI (nl + 1) ∧ σM'.1 15 s = nI (nl + 1)) (e2 : ∀ j, j < 8 → σX'.1 32 j = σM'.1 14 (8 * s + j)) (e3 : ∀ j, j < 8 → σM'.1 14 (8 * s + j) = σM.1 14 (8 * s + j) ∨ σM'.1 14 (8 * s + j) = x1) : TI K P V W N s a' σX' σM' := by
  obtain ⟨⟨a1, a2, a3⟩, ⟨b1, b2, b3⟩, ⟨c1, c2, c3⟩, ⟨d1, d2, d3⟩, e, f, g⟩ := dx
  refine ⟨nm, nf, nl + 1, cx, cm, br, w', Ls, S, ?_, fun h0 => ?_, DL_f fX fM (by unfold okEX okNX; omega) (fun h j _ _ => by unfold okEX okNX; omega) (by unfold okEM okNM; omega) (by unfold okEM okNM; omega) (fun h j _ _ => by unfold okEM okNM; omega) dl, dw, hs, by rw [fM.1 0 19 (by unfold okEM okNM; omega)]; exact m19, by omega, q2, by omega, q4, by omega⟩
  · refine ⟨⟨?_, ?_, a3⟩, ⟨?_, ?_, b3⟩, ⟨e1.1, e1.2, by omega⟩, ⟨?_, ?_, ?_⟩, fun j hj => ?_, fun j hj => ⟨?_, ?_, ?_⟩, e2⟩
    · rw [fX.1 12 0 (by unfold okEX okNX; omega)]; exact a1
    · rw [fM.1 8 s (by unfold okEM okNM; omega)]; exact a2
    · rw [fX.1 12 1 (by unfold okEX okNX; omega)]; exact b1
    · rw [fM.1 11 s (by unfold okEM okNM; omega)]; exact b2
    · rw [fX.1 12 2 (by unfold okEX okNX; omega), fM.1 16 s (by unfold okEM okNM; omega)]; exact d1
    · rw [fX.1 12 3 (by unfold okEX okNX; omega), fM.1 17 s (by unfold okEM okNM; omega)]; exact d2
    · rw [fX.1 12 4 (by unfold okEX okNX; omega), fM.1 18 s (by unfold okEM okNM; omega)]; exact d3
    · rw [fX.1 29 j (by unfold okEX okNX; omega), fM.1 9 _ (by unfold okEM okNM; omega)]; exact e j hj
    · rw [fX.1 30 j (by unfold okEX okNX; omega), fM.1 12 _ (by unfold okEM okNM; omega)]; exact (f j hj).1
    · rw [fX.1 31 j (by unfold okEX okNX; omega), fM.1 13 _ (by unfold okEM okNM; omega)]; exact (f j hj).2.1
    · rw [fX.2 17 j (by unfold olX; omega), fM.2 10 j (by unfold olM; exact id)]; exact (f j hj).2.2
  · obtain ⟨hw0, f0, hf0, hx⟩ := hw h0
    obtain ⟨v1, v2, v3, v4⟩ := dv hw0
    refine ⟨fun j hj => ?_, ?_, ?_, fun j hj => ?_⟩
    · rw [fM.1 9 _ (by unfold okEM okNM; omega)]; exact v1 j hj
    · rw [fM.1 16 s (by unfold okEM okNM; omega)]; exact v2
    · rw [fM.1 17 s (by unfold okEM okNM; omega)]; exact v3
    · rcases e3 j hj with h3 | h3
      · rw [h3]; exact v4 j hj
      · right; exact ⟨f0, hf0, by rw [h3]; exact hx⟩
theorem T_lease {K P V W : Nat → Nat} {N s a : Nat} {σX σM : HS} (hS : TS K P V N) (hT : TI K P V W N s a σX σM) (hK : K a = 22) : TO K P V W N s a (FX5_readLease σX) (mLea σM) σX σM := by
  obtain ⟨nm, nf, nl, cx, cm, br, w, Ls, S0, dx, dv, dl, dw, hs, m19, q1, q2, q3, q4, q5⟩ := hT
  have hN := hS.1
  obtain ⟨h1, h2, ha, x8, x11, m11, m12, m13⟩ := id S0
  obtain ⟨⟨a1, a2, a3⟩, ⟨b1, b2, b3⟩, ⟨c1, c2, c3⟩, ⟨d1, d2, d3⟩, e, f, g⟩ := id dx
  have is : ix (nI s) 2 = true := ix_nI hs (by omega)
  have eM0 : mLea σM = bdV (if nl = 8 then some (pI (pI σM 0 13 2) 0 14 (nI (P a))) else FX12_goesOn σM) fun σ_28 => if (σ_28.1 0 13) = 0 then bdV (FX12_tellLease σ_28) fun σ_31 => some σ_31 else some σ_28 := by
    unfold mLea
    rw [m19, gd_t is, cl_nI (by omega), c2, show (8 : Int32) = nI 8 from rfl, M_room hS h2 m11 m13 ha (by omega) (by omega)]
  rw [eM0]
  unfold FX5_readLease
  simp only [hl_]
  rw [c1]
  by_cases h8 : nl = 8
  · have L0 : FL (pI (pI σM 0 13 2) 0 14 (nI (P a))) 2 (P a) := FLs 2 (Or.inr rfl) (by omega) m11
    rw [if_neg (show ¬ nI nl < (8 : Int32) from nI_nlt (b := 8) (by omega) (by omega)), X_fail 2 hS h1 x8 ha, bdI_s, if_pos h8, bdV_s, if_neg (nz13 L0).1]
    exact ⟨_, _, (FR.rf.p (by unfold okTX; omega)).p (by unfold okTX; omega), (FR.rf.p (Or.inl ⟨rfl, by omega⟩)).p (Or.inl ⟨rfl, by omega⟩), rfl, Or.inr ⟨2, P a, rfl, by rw [pI_s, pk_un (by omega), pI_s, pk_us]; rfl, by rw [pI_s, pk_us], L0⟩⟩
  have hn : nl < 8 := by omega
  obtain ⟨ζ, hζ⟩ : ∃ τ, τ = pI σX 2 5 (nI (nl + 1)) := ⟨_, rfl⟩
  have Sζ : SY K P V W N a ζ σM := by rw [hζ]; exact SY_pX S0 (by omega) (by omega)
  have fζ : FR okEX olX σX ζ := by rw [hζ]; exact FR.rf.p (by unfold okEX; omega)
  have dwζ : DW ζ σM P a w := by rw [hζ]; exact DW_f (FR.rf.p (ok := okPt 2 5) (okl := olM) ⟨rfl, rfl⟩) (FR.rf (ok := okPt 0 11) (okl := olM)) (by unfold okPt; omega) (by unfold okPt; omega) (by unfold okPt; omega) (by unfold okPt; omega) (Nat.le_refl _) dw
  have z5 : ζ.1 2 5 = nI (nl + 1) := by rw [hζ, pI_s, pk_us]
  rw [if_pos (show nI nl < (8 : Int32) from nI_lt (b := 8) hn (by omega)), if_neg h8, nI_1, ← hζ, show FX5_take (2 : Int32) ζ = FX5_take (nI (xkN (K a))) ζ by rw [hK]; rfl]
  rcases SY_go hS Sζ (by omega) (by omega) with ⟨h4, eX, eM, S1⟩ | ⟨σX', σM', eX, eM, B⟩
  · obtain ⟨τX, hτX⟩ : ∃ τ, τ = tkS ζ P a := ⟨_, rfl⟩
    obtain ⟨τM, hτM⟩ : ∃ τ, τ = pI σM 0 11 (nI (a + 1)) := ⟨_, rfl⟩
    rw [eX, bdI_s, if_neg one_ne, eM, bdV_s]
    rw [← hτX, ← hτM] at S1 ⊢
    have ha1 := S1.2.2.1
    have gX1 : FR okNX olX ζ τX := by rw [hτX]; exact tk_f.up okT_N (fun _ _ h => h)
    have gM1 : FR okNM olM σM τM := by rw [hτM]; exact FR.rf.p (by unfold okNM; omega)
    have t19 : τM.1 0 19 = nI s := by rw [hτM, pI_s, pk_un (by omega)]; exact m19
    rw [S1.2.2.2.2.2.2.2, if_pos rfl]
    unfold FX12_tellLease
    simp only [hl_]
    rw [S1.2.2.2.2.2.1, show (22 : Int32) = nI (xkN 1) from rfl, show FX12_must (1 : Int32) τM = FX12_must (nI 1) τM from rfl]
    rcases SY_must (k := 1) hS S1 (by unfold vk; omega) (by omega) (by omega) with ⟨hk1, e3, e4, S2⟩ | ⟨σX3, σM3, e3, e4, B⟩
    · obtain ⟨υX, hυX⟩ : ∃ τ, τ = tkS τX P (a + 1) := ⟨_, rfl⟩
      obtain ⟨υM, hυM⟩ : ∃ τ, τ = pI τM 0 11 (nI (a + 1 + 1)) := ⟨_, rfl⟩
      rw [e3, bdI_s, if_neg one_ne, e4, bdV_s]
      rw [← hυX, ← hυM] at S2 ⊢
      have gX2 : FR okNX olX ζ υX := by rw [hυX]; exact gX1.tr (tk_f.up okT_N (fun _ _ h => h))
      have gM2 : FR okNM olM σM υM := by rw [hυM]; exact gM1.p (by unfold okNM; omega)
      have v1 : υX.2 2 9 = lN (W (a + 1)) := by rw [hυX]; exact tk_9.trans ((S1.1 (a + 1) ha1).2.2.2 hk1)
      have v10 : υX.1 2 10 = nI (P (a + 1)) := by rw [hυX]; exact tk_10
      have v6 : υM.2 6 (a + 1) = lN (W (a + 1)) := by rw [hυM, pI_2]; exact (S1.2.1 (a + 1) ha1).2.2.2 hk1
      have w1 : υX.1 12 1 = nI nf := by rw [gX2.1 12 1 (by unfold okNX; omega), hζ, pI_o (by omega)]; exact b1
      have w11 : υM.1 11 s = nI nf := by rw [gM2.1 11 s (by unfold okNM; omega)]; exact b2
      have w15 : υM.1 15 s = nI nl := by rw [gM2.1 15 s (by unfold okNM; omega)]; exact c2
      have w19 : υM.1 0 19 = nI s := by rw [gM2.1 0 19 (by unfold okNM; omega)]; exact m19
      have w5 : υX.1 2 5 = nI (nl + 1) := by rw [gX2.1 2 5 (by unfold okNX; omega)]; exact z5
      have w14 : ∀ j, j < 8 → υX.1 32 j = υM.1 14 (8 * s + j) := fun j hj => by rw [gX2.1 32 j (by unfold okNX; omega), hζ, pI_o (by omega), gM2.1 14 _ (by unfold okNM; omega)]; exact g j hj
      have dwa : DW υX υM P (a + 1) w := by
        rw [hυX, hυM, hτX, hτM]
        exact DW_f (tk_f.tr tk_f) (((FR.rf (ok := okPt 0 11) (okl := olM)).p ⟨rfl, rfl⟩).p ⟨rfl, rfl⟩) (by unfold okT; omega) (by unfold okT; omega) (by unfold okPt; omega) (by unfold okPt; omega) (by omega) dwζ
      obtain ⟨r, r1, r2, r3⟩ := nm_go hs b3 (by omega) w1 w11 w19 v6 (fun j hj => by rw [gX2.2 17 j (by unfold olX; omega), hζ, pI_2, gM2.2 10 j (by unfold olM; exact id)]; exact (f j hj).2.2) nf 0 fu fu (by omega) (by show nf < 5000; omega) (by show nf < 5000; omega)
      unfold FX5_familyNamed FX12_numberOf
      rw [v1, show FX5_familyNamed_2 fu (lN (W (a + 1))) (0 : Int32) υX = some (r, υX) from r1, bdI_s, S2.2.2.2.2.2.2.2, if_pos (show (0 : Int32) ≤ 0 by decide), show FX12_numberOf_2 fu (nI (a + 1)) (0 : Int32) υM = some (r, υM) from r2, bdI_s]
      unfold FX12_tellLease_26
      rw [S2.2.2.2.2.2.2.2, if_pos rfl]
      rcases r3 with rfl | ⟨i, hi, rfl⟩
      · rw [if_pos rfl, if_neg (show ¬ (0 : Int32) ≤ -1 by decide), show (4 : Int32) = nI 4 from rfl, X_later dwa.1 dwa.2.2.1 v10, bdV_s, M_wrong hS S2.2.1 ha1 S2.2.2.2.2.2.2.2 dwa.2.1 dwa.2.2.1 (fun hw => (dwa.2.2.2.2 hw).imp (fun t q => ⟨q.1, q.2.2⟩)), bdV_s, bdV_id]
        have dwb := DW_rec (c := 4) (by omega) (by omega) dwa
        obtain ⟨ωX, hωX⟩ : ∃ τ, τ = (if w = 0 then pI (pI υX 2 12 (nI 4)) 2 13 (nI (P (a + 1))) else υX) := ⟨_, rfl⟩
        obtain ⟨ωM, hωM⟩ : ∃ τ, τ = (if w = 0 then pI (pI υM 0 15 (nI 4)) 0 16 (nI (P (a + 1))) else υM) := ⟨_, rfl⟩
        rw [← hωX, ← hωM] at dwb ⊢
        have S3 : SY K P V W N (a + 1 + 1) ωX ωM := by rw [hωX, hωM]; exact rec_SM (rec_SY S2)
        have oX : FR okNX olX υX ωX := by rw [hωX]; exact rec_fX
        have oM : FR okNM olM υM ωM := by rw [hωM]; exact rec_fM
        obtain ⟨σX', σM', gX, gM, eM', hh⟩ := L_63 (nI (a + 1)) (-1) hS hs S3 dwb (by rw [oM.1 0 19 (by unfold okNM; omega)]; exact w19) (by rw [oM.1 15 s (by unfold okNM; omega)]; exact w15) (fun j hj => by rw [oX.1 32 j (by unfold okNX; omega), oM.1 14 _ (by unfold okNM; omega)]; exact w14 j hj)
        rw [eM']
        have fX3 : FR okEX olX σX σX' := (fζ.tr ((gX2.tr oX).up nX_E (fun _ _ h => h))).tr gX
        have fM3 : FR (okEM s) olM σM σM' := ((gM2.tr oM).up nM_E (fun _ _ h => h)).tr gM
        refine ⟨σX', σM', fX3.up okEX_T olX_T, fM3.up okEM_T olE_M, rfl, ?_⟩
        rcases hh with ⟨a', w', eX', haa, S', dw', hw', ⟨y1, y2⟩, y3, y4⟩ | hh
        · refine Or.inl ⟨a', eX', by omega, lea_end (x1 := -1) hn dx dv dl hs m19 q1 q2 q3 q4 q5 fX3 fM3 (by omega) S' dw' (fun q => ?_) ⟨by rw [y1, oX.1 2 5 (by unfold okNX; omega)]; exact w5, y2⟩ y3 (fun j hj => by rw [← (gM2.tr oM).1 14 _ (by unfold okNM; omega)]; exact y4 j hj)⟩
          have q' := hw' q
          by_cases hw0 : w = 0
          · rw [if_pos hw0] at q'; omega
          · rw [if_neg hw0] at q'; exact absurd q' hw0
        · exact Or.inr hh
      · have hne : ¬ nI i = (-1 : Int32) := by
          have h5 : i = 0 ∨ i = 1 ∨ i = 2 ∨ i = 3 ∨ i = 4 := by omega
          rcases h5 with h5 | h5 | h5 | h5 | h5 <;> rw [h5] <;> decide
        rw [if_neg hne, if_pos (show (0 : Int32) ≤ nI i from nI_le (a := 0) (by omega) (by omega)), bdV_id]
        obtain ⟨σX', σM', gX, gM, eM', hh⟩ := L_63 (nI (a + 1)) (nI i) hS hs S2 (DW_f (FR.rf (ok := okPt 0 11) (okl := olM)) (FR.rf (ok := okPt 0 11) (okl := olM)) (by unfold okPt; omega) (by unfold okPt; omega) (by unfold okPt; omega) (by unfold okPt; omega) (Nat.le_succ _) dwa) w19 w15 w14
        rw [eM']
        have fX3 : FR okEX olX σX σX' := (fζ.tr (gX2.up nX_E (fun _ _ h => h))).tr gX
        have fM3 : FR (okEM s) olM σM σM' := (gM2.up nM_E (fun _ _ h => h)).tr gM
        refine ⟨σX', σM', fX3.up okEX_T olX_T, fM3.up okEM_T olE_M, rfl, ?_⟩
        rcases hh with ⟨a', w', eX', haa, S', dw', hw', ⟨y1, y2⟩, y3, y4⟩ | hh
        · exact Or.inl ⟨a', eX', by omega, lea_end (x1 := nI i) hn dx dv dl hs m19 q1 q2 q3 q4 q5 fX3 fM3 (by omega) S' dw' (fun q => ⟨hw' q, i, hi, rfl⟩) ⟨by rw [y1]; exact w5, y2⟩ y3 (fun j hj => by rw [← gM2.1 14 _ (by unfold okNM; omega)]; exact y4 j hj)⟩
        · exact Or.inr hh
    · obtain ⟨ft, fp, c11', c1', L⟩ := BF_2 B
      rw [e3, bdI_s, if_pos rfl, e4, bdV_s, if_neg (nz13 L).2, M_26F _ _ L, bdV_s]
      exact ⟨σX3, σM3, ((fζ.tr (gX1.up nX_E (fun _ _ h => h))).tr ((BF_n B).up nX_E (fun _ _ h => h))).up okEX_T olX_T, ((gM1.up nM_E (fun _ _ h => h)).tr ((BF_M B).up bM_E (fun _ _ h => h))).up okEM_T olE_M, rfl, Or.inr ⟨ft, fp, rfl, c11', c1', L⟩⟩
  · obtain ⟨ft, fp, b11, b1', L⟩ := BF_2 B
    rw [eX, bdI_s, if_pos rfl, eM, bdV_s, if_neg (nz13 L).1]
    exact ⟨σX', σM', (fζ.up okEX_T olX_T).tr ((BF_X (c := 0) B).up okX_T olX_T), (BF_M B).up okBF_T olM_T, rfl, Or.inr ⟨ft, fp, rfl, b11, b1', L⟩⟩
