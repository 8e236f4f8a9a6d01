/-! A law, if by if. -/
theorem dp_pos {p : Pg} (h : dpP p 0 1) : 1 ≤ p.length := by
  cases p with
  | nil => have h' : dpP [] 0 1 := h; unfold dpP at h'; omega
  | cons q p => simp only [List.length_cons]; omega
theorem okX_up {c c' : Nat} (hc : c ≤ c') : ∀ h j, okX c' h j → okX c h j := by intro h j; unfold okX; omega
def okPt (h0 j0 h j : Nat) : Prop := h = h0 ∧ j = j0
theorem SY_pM {K P V W : Nat → Nat} {N a h0 j0 : Nat} {v : Int32} {σX σM : HS} (hh : SY K P V W N a σX σM) (h1 : ¬ (h0 = 0 ∧ (j0 = 11 ∨ j0 = 12 ∨ j0 = 13))) (h2 : h0 ≠ 3 ∧ h0 ≠ 4 ∧ h0 ≠ 5) : SY K P V W N a σX (pI σM h0 j0 v) := by
  obtain ⟨t1, t2, ha, x8, x11, m11, m12, m13⟩ := hh
  have f : FR (okPt h0 j0) olM σM (pI σM h0 j0 v) := FR.rf.p ⟨rfl, rfl⟩
  exact ⟨t1, TM_f f (fun j => by unfold okPt; omega) (fun j => by unfold okPt; omega) (fun j => by unfold okPt; omega) (fun j => by unfold olM; exact id) t2, ha, x8, x11, by rw [f.1 0 11 (by unfold okPt; omega)]; exact m11, by rw [f.1 0 12 (by unfold okPt; omega)]; exact m12, by rw [f.1 0 13 (by unfold okPt; omega)]; exact m13⟩
theorem SY_pX {K P V W : Nat → Nat} {N a h0 j0 : Nat} {v : Int32} {σX σM : HS} (hh : SY K P V W N a σX σM) (h1 : ¬ (h0 = 2 ∧ (j0 = 8 ∨ j0 = 11))) (h2 : h0 ≠ 19 ∧ h0 ≠ 20) : SY K P V W N a (pI σX h0 j0 v) σM := by
  obtain ⟨t1, t2, ha, x8, x11, m11, m12, m13⟩ := hh
  have f : FR (okPt h0 j0) olM σX (pI σX h0 j0 v) := FR.rf.p ⟨rfl, rfl⟩
  exact ⟨TX_f f (fun j => by unfold okPt; omega) (fun j => by unfold okPt; omega) (fun j => by unfold olM; exact id) t1, t2, ha, by rw [f.1 2 8 (by unfold okPt; omega)]; exact x8, by rw [f.1 2 11 (by unfold okPt; omega)]; exact x11, m11, m12, m13⟩
theorem E_SY {K P V W : Nat → Nat} {N cx cm s a : Nat} {σX σM : HS} (hS : TS K P V N) (hs : s < 2) (h : SY K P V W N a σX σM) (hcm : cm ≤ 420 * s + a) (hcm0 : 420 * s ≤ cm) (hcx : cx ≤ 8 + a) (x5 : σX.1 12 5 = nI cx) (m39 : σM.1 0 39 = nI cm) : ∃ σX' σM', FR (okX cx) olX σX σX' ∧ FR (okM cm (420 * s + 420)) olM σM σM' ∧ FX12_expression σM = some σM' ∧ ((∃ a' p, FX5_readSum σX = some (1, σX') ∧ SY K P V W N a' σX' σM' ∧ (σX'.1 12 5 = nI (cx + p.length) ∧ XM (σX'.1 34) (σX'.1 35) p cx) ∧ (σM'.1 0 39 = nI (cm + p.length) ∧ LM (σM'.1 26) (σM'.1 27) p cm) ∧ dpP p 0 1 ∧ 1 ≤ p.length ∧ a + p.length ≤ a') ∨ ∃ ft fp, FX5_readSum σX = some (0, σX') ∧ σX'.1 2 11 = nI ft ∧ σX'.1 2 1 = nI fp ∧ FL σM' ft fp) := by
  obtain ⟨h1, h2, ha, x8, x11, m11, m12, m13⟩ := id h
  obtain ⟨σX', σM', fX, fM, eM, hh⟩ := E_sim hS hs hcm hcm0 hcx ha h1 h2 x8 x11 x5 m11 m12 m13 m39
  refine ⟨σX', σM', fX, fM, eM, ?_⟩
  rcases hh with ⟨a', p, eX, ha', ⟨⟨-, -, p5, p34⟩, y8, y11⟩, ⟨⟨-, -, q39, q26⟩, z11, z12, z13⟩, hd, hl⟩ | hh
  · exact Or.inl ⟨a', p, eX, ⟨TX_e fX h1, TM_e fM h2, ha', y8, y11, z11, z12, z13⟩, ⟨p5, p34⟩, ⟨q39, q26⟩, hd, dp_pos hd, hl⟩
  · exact Or.inr hh
def okt (s cm b h j : Nat) : Prop := okM cm (420 * s + 420) h j ∨ ((h = 24 ∨ h = 25) ∧ j = b) ∨ (h = 0 ∧ j = 33)
theorem okt_L {s k cm cm' br b : Nat} (hc : cm ≤ cm') (hb : br ≤ b) (hb2 : b < 130 * s + 130) : ∀ h j, okt s cm' b h j → okL s k cm br h j := by intro h j; unfold okt okM okL; omega
theorem T_SY {b : Nat} {K P V W : Nat → Nat} {N cx cm s a : Nat} {σX σM : HS} (hS : TS K P V N) (hs : s < 2) (h : SY K P V W N a σX σM) (hcm : cm ≤ 420 * s + a) (hcm0 : 420 * s ≤ cm) (hcx : cx ≤ 8 + a) (x5 : σX.1 12 5 = nI cx) (m39 : σM.1 0 39 = nI cm) (m33 : σM.1 0 33 = nI b) (hb : b < 260) : ∃ σX' σM', FR (okX cx) olX σX σX' ∧ FR (okt s cm b) olM σM σM' ∧ FX12_term σM = some σM' ∧ σM'.1 0 33 = nI (b + 1) ∧ ((∃ a' p, FX5_readSum σX = some (1, σX') ∧ SY K P V W N a' σX' σM' ∧ (σX'.1 12 5 = nI (cx + p.length) ∧ XM (σX'.1 34) (σX'.1 35) p cx) ∧ (σM'.1 0 39 = nI (cm + p.length) ∧ LM (σM'.1 26) (σM'.1 27) p cm) ∧ (σM'.1 24 b = nI cm ∧ σM'.1 25 b = nI (cm + p.length)) ∧ dpP p 0 1 ∧ 1 ≤ p.length ∧ a + p.length ≤ a') ∨ ∃ ft fp, FX5_readSum σX = some (0, σX') ∧ σX'.1 2 11 = nI ft ∧ σX'.1 2 1 = nI fp ∧ FL σM' ft fp) := by
  have i1 : ix (nI b) 260 = true := ix_nI hb (by omega)
  obtain ⟨σ1, hσ1⟩ : ∃ σ1, σ1 = pI σM 24 b (nI cm) := ⟨_, rfl⟩
  have S1 : SY K P V W N a σX σ1 := by rw [hσ1]; exact SY_pM h (by omega) (by omega)
  have q33 : σ1.1 0 33 = nI b := by rw [hσ1, pI_o (by omega)]; exact m33
  have q39 : σ1.1 0 39 = nI cm := by rw [hσ1, pI_o (by omega)]; exact m39
  obtain ⟨σX', σ2, fX, fM, eM, hh⟩ := E_SY hS hs S1 hcm hcm0 hcx x5 q39
  have r33 : σ2.1 0 33 = nI b := by rw [fM.1 0 33 (by unfold okM; omega)]; exact q33
  have f01 : FR (okt s cm b) olM σM σ1 := by rw [hσ1]; exact FR.rf.p (by unfold okt okM; omega)
  have f12 : FR (okt s cm b) olM σ1 σ2 := fM.up (fun h j hh => Or.inl hh) (fun _ _ h => h)
  obtain ⟨σ3, hσ3⟩ : ∃ σ3, σ3 = pI (pI σ2 25 b (σ2.1 0 39)) 0 33 (nI (b + 1)) := ⟨_, rfl⟩
  have f23 : FR (okt s cm b) olM σ2 σ3 := by rw [hσ3]; exact (FR.rf.p (by unfold okt okM; omega)).p (by unfold okt okM; omega)
  refine ⟨σX', σ3, fX, (f01.tr f12).tr f23, ?_, by rw [hσ3, pI_s, pk_us], ?_⟩
  · unfold FX12_term FX12_term_24
    rw [m33, gd_t i1]
    simp only [hl_]
    rw [cl_nI (by omega), m39, ← hσ1, S1.2.2.2.2.2.2.2, if_pos rfl, eM, bdV_s, r33, gd_t i1, cl_nI (by omega), pI_o (show (0 : Nat) ≠ 25 by omega), r33, nI_1, ← hσ3]
  · rcases hh with ⟨a', p, eX, S2, X2, ⟨y39, y26⟩, hd, hl, hl2⟩ | ⟨ft, fp, eX, y11, y1, L⟩
    · refine Or.inl ⟨a', p, eX, ?_, X2, ⟨?_, ?_⟩, ⟨?_, ?_⟩, hd, hl, hl2⟩
      · rw [hσ3]; exact SY_pM (SY_pM S2 (by omega) (by omega)) (by omega) (by omega)
      · rw [hσ3, pI_s, pk_un (by omega), pI_o (by omega)]; exact y39
      · rw [hσ3, pI_o (by omega), pI_o (by omega), pI_o (by omega), pI_o (by omega)]; exact y26
      · rw [hσ3, pI_o (by omega), pI_o (by omega), fM.1 24 b (by unfold okM; omega), hσ1, pI_s, pk_us]
      · rw [hσ3, pI_o (by omega), pI_s, pk_us, y39]
    · exact Or.inr ⟨ft, fp, eX, y11, y1, by rw [hσ3]; exact FL_f (ok := fun h j => h = 25 ∨ (h = 0 ∧ j = 33)) (okl := olM) ((FR.rf.p (Or.inl rfl)).p (Or.inr ⟨rfl, rfl⟩)) (by omega) (by omega) (by omega) L⟩
/-- both fail in a law -/
def FO (s k cx cm br : Nat) (rX : Option (Int32 × HS)) (rM : Option HS) (σX σM : HS) : Prop := ∃ σX' σM' ft fp, FR (okX cx) olX σX σX' ∧ FR (okL s k cm br) olM σM σM' ∧ rX = some (0, σX') ∧ rM = some σM' ∧ σX'.1 2 11 = nI ft ∧ σX'.1 2 1 = nI fp ∧ FL σM' ft fp
theorem FO_tr {s k cx cm br cx' cm' br' : Nat} {rX : Option (Int32 × HS)} {rM : Option HS} {σX σM σX1 σM1 : HS} (f1 : FR (okX cx) olX σX σX1) (f2 : FR (okL s k cm br) olM σM σM1) (hc : cx ≤ cx') (hc2 : cm ≤ cm') (hb : br ≤ br') (h : FO s k cx' cm' br' rX rM σX1 σM1) : FO s k cx cm br rX rM σX σM := by
  obtain ⟨σX', σM', ft, fp, g1, g2, g3⟩ := h
  exact ⟨σX', σM', ft, fp, f1.tr (g1.up (okX_up hc) (fun _ _ h => h)), f2.tr (g2.up (okL_L hc2 hb) (fun _ _ h => h)), g3⟩
def mC (k12 : Int32 → Int32 → Int32 → HS → Option HS) (x1 x2 x3 : Int32) (σ : HS) : Option HS := bdV (FX12_term σ) fun σ_3 => bdV (FX12_must (32 : Int32) σ_3) fun σ_5 => k12 x1 x2 x3 σ_5
def mB (k12 : Int32 → Int32 → Int32 → HS → Option HS) (x1 x2 x3 : Int32) (σ : HS) : Option HS := gd (ix (σ.1 0 33) 260) (hl_ (pI σ 23 ((σ.1 0 33).toNatClampNeg) (σ.1 0 39)) fun σ_19 => if (σ_19.1 0 13) = 0 then bdV (FX12_expression σ_19) fun σ_21 => FX12_tellLaw_110 k12 x1 x2 (x3 + 1) σ_21 else FX12_tellLaw_110 k12 x1 x2 (x3 + 1) σ_19)
def mA' (k12 : Int32 → Int32 → Int32 → HS → Option HS) (x1 x2 x3 : Int32) (σ : HS) : Option HS := bdV (FX12_must (13 : Int32) σ) fun σ_16 => mB k12 x1 x2 x3 σ_16
def mA (k12 : Int32 → Int32 → Int32 → HS → Option HS) (x1 x2 x3 : Int32) (σ : HS) : Option HS := gd (ix (σ.1 0 33) 260) (hl_ (pI σ 21 ((σ.1 0 33).toNatClampNeg) (vp_nar .boolean (1 : Int32))) fun σ_11 => gd (ix (σ_11.1 0 33) 260) (hl_ (pI σ_11 22 ((σ_11.1 0 33).toNatClampNeg) (σ_11.1 0 39)) fun σ_13 => bdV (FX12_expression σ_13) fun σ_14 => mA' k12 x1 x2 x3 σ_14))
theorem M_38 (k12 : Int32 → Int32 → Int32 → HS → Option HS) (x1 x2 x3 : Int32) (σ : HS) : FX12_tellLaw_38 k12 x1 x2 x3 σ = if (σ.1 0 13) ≤ 0 then bdV (FX12_goesOn σ) fun σ => mA k12 x1 x2 x3 σ else some σ := rfl
def xC (f : Nat) (x1 x2 x3 : Int32) (σ : HS) : Option (Int32 × HS) := bdI (FX5_readSum σ) fun r_40 σ_41 => if r_40 = 0 then some ((0 : Int32), σ_41) else bdI (FX5_take (12 : Int32) σ_41) fun r_44 σ_45 => if r_44 = 0 then some ((0 : Int32), σ_45) else bdV (FX9_putCode (3 : Int32) (0 : Int32) σ_45) fun σ_48 => bdV (FX9_aimHere x3 σ_48) fun σ_50 => FX5_readLaw_32 f x1 (x2 + 1) σ_50
def xB (f : Nat) (x1 x2 : Int32) (σ : HS) : Option (Int32 × HS) := bdI (FX5_readSum σ) fun r_29 σ_30 => if r_29 = 0 then some ((0 : Int32), σ_30) else bdI (FX5_take (11 : Int32) σ_30) fun r_33 σ_34 => if r_33 = 0 then some ((0 : Int32), σ_34) else hl_ (σ_34.1 12 5) fun x3_37 => bdV (FX9_putCode (2 : Int32) (0 : Int32) σ_34) fun σ_38 => xC f x1 x2 x3_37 σ_38
def xA (f : Nat) (x1 x2 : Int32) (σ : HS) : Option (Int32 × HS) := bdI (FX5_take (10 : Int32) σ) fun r_17 σ_18 => if r_17 = 0 then some ((0 : Int32), σ_18) else bdI (FX5_readSum σ_18) fun r_21 σ_22 => if r_21 = 0 then some ((0 : Int32), σ_22) else bdI (FX5_take (60 : Int32) σ_22) fun r_25 σ_26 => if r_25 = 0 then some ((0 : Int32), σ_26) else xB f x1 x2 σ_26
theorem M_mCF {σ : HS} {ft fp s k cm br b f : Nat} (x1 x2 x3 : Int32) (hs : s < 2) (h : FL σ ft fp) (h33 : σ.1 0 33 = nI b) (hb : br ≤ b) (hb2 : b + 1 < 130 * s + 130) : ∃ σ', mC (FX12_tellLaw_12 (f + 1)) x1 x2 x3 σ = some σ' ∧ FR (okL s k cm br) olM σ σ' ∧ FL σ' ft fp := by
  obtain ⟨σ2, e2, f2, L2, h2⟩ := M_termF (k := k) (cm := cm) (br := br) (b := b) hs h h33 hb (by omega)
  obtain ⟨σ3, e3, f3, L3⟩ := M_tl12F (k := k) (cm := cm) (br := br) (b := b + 1) (f := f) x1 x2 x3 hs L2 h2 (by omega) hb2
  refine ⟨σ3, ?_, f2.tr f3, L3⟩
  unfold mC
  rw [e2, bdV_s, M_mustF _ L2.2.1 L2.1, bdV_s, e3]
theorem M_mBF {σ : HS} {ft fp s k cm br b f : Nat} (x1 x2 x3 : Int32) (hs : s < 2) (h : FL σ ft fp) (h33 : σ.1 0 33 = nI b) (hb : br ≤ b) (hb2 : b + 1 < 130 * s + 130) : ∃ σ', mB (FX12_tellLaw_12 (f + 1)) x1 x2 x3 σ = some σ' ∧ FR (okL s k cm br) olM σ σ' ∧ FL σ' ft fp := by
  have i1 : ix (nI b) 260 = true := ix_nI (by omega) (by omega)
  obtain ⟨σ1, hσ1⟩ : ∃ σ1, σ1 = pI σ 23 b (σ.1 0 39) := ⟨_, rfl⟩
  have L1 : FL σ1 ft fp := FL_f (ok := fun h _ => h = 23) (okl := olM) (by rw [hσ1]; exact FR.rf.p rfl) (by omega) (by omega) (by omega) h
  obtain ⟨σ2, e2, f2, L2⟩ := M_tl110F (k := k) (cm := cm) (br := br) (b := b) (f := f) x1 x2 (x3 + 1) hs L1 (by rw [hσ1, pI_o (by omega)]; exact h33) hb hb2
  refine ⟨σ2, ?_, FR.tr (by rw [hσ1]; exact FR.rf.p (by unfold okL; omega)) f2, L2⟩
  unfold mB
  rw [h33, gd_t i1]
  simp only [hl_]
  rw [cl_nI (by omega), ← hσ1, if_neg (nz13 L1).1]
  exact e2
theorem M_mA'F {σ : HS} {ft fp s k cm br b f : Nat} (x1 x2 x3 : Int32) (hs : s < 2) (h : FL σ ft fp) (h33 : σ.1 0 33 = nI b) (hb : br ≤ b) (hb2 : b + 1 < 130 * s + 130) : ∃ σ', mA' (FX12_tellLaw_12 (f + 1)) x1 x2 x3 σ = some σ' ∧ FR (okL s k cm br) olM σ σ' ∧ FL σ' ft fp := by
  unfold mA'
  rw [M_mustF _ h.2.1 h.1, bdV_s]
  exact M_mBF x1 x2 x3 hs h h33 hb hb2
theorem M_mAF {σ : HS} {ft fp s k cm br b f : Nat} (x1 x2 x3 : Int32) (hs : s < 2) (h : FL σ ft fp) (h33 : σ.1 0 33 = nI b) (hb : br ≤ b) (hb2 : b + 1 < 130 * s + 130) : ∃ σ', mA (FX12_tellLaw_12 (f + 1)) x1 x2 x3 σ = some σ' ∧ FR (okL s k cm br) olM σ σ' ∧ FL σ' ft fp := by
  have i1 : ix (nI b) 260 = true := ix_nI (by omega) (by omega)
  obtain ⟨σ1, hσ1⟩ : ∃ σ1, σ1 = pI (pI σ 21 b 1) 22 b (σ.1 0 39) := ⟨_, rfl⟩
  have L1 : FL σ1 ft fp := FL_f (ok := fun h _ => h = 21 ∨ h = 22) (okl := olM) (by rw [hσ1]; exact (FR.rf.p (Or.inl rfl)).p (Or.inr rfl)) (by omega) (by omega) (by omega) h
  have L2 : FL (pI σ1 0 43 0) ft fp := FL_f (ok := okPt 0 43) (okl := olM) (FR.rf.p ⟨rfl, rfl⟩) (by unfold okPt; omega) (by unfold okPt; omega) (by unfold okPt; omega) L1
  obtain ⟨σ2, e2, f2, L3⟩ := M_mA'F (k := k) (cm := cm) (br := br) (b := b) (f := f) x1 x2 x3 hs L2 (by rw [pI_s, pk_un (by omega), hσ1, pI_o (by omega), pI_o (by omega)]; exact h33) hb hb2
  refine ⟨σ2, ?_, FR.tr (by rw [hσ1]; exact ((FR.rf.p (by unfold okL; omega)).p (by unfold okL; omega)).p (by unfold okL; omega)) f2, L3⟩
  unfold mA
  rw [h33, gd_t i1]
  simp only [hl_]
  rw [cl_nI (by omega), show vp_nar .boolean (1 : Int32) = 1 from rfl, pI_o (show (0 : Nat) ≠ 21 by omega), h33, gd_t i1, cl_nI (by omega), ← hσ1, M_exprF L1, bdV_s]
  exact e2
theorem X_aim {σ : HS} {c t : Nat} (h5 : σ.1 12 5 = nI c) (ht : t < c) (hc : c ≤ 408) : FX9_aimHere (nI t) σ = some (pI σ 35 t (nI c)) := by
  unfold FX9_aimHere
  rw [if_neg (show ¬ nI t < (0 : Int32) from nI_nlt (b := 0) (by omega) (by omega)), h5, if_neg (show ¬ nI c ≤ nI t from nI_ge ht (by omega)), gd_t (ix_nI (by omega) (by omega))]
  simp only [hl_]
  rw [cl_nI (by omega)]
