/-! A lease: its number. -/
def EA (K P V W : Nat → Nat) (N s nl c w : Nat) (x1 : Int32) (rX : Option (Int32 × HS)) (rM : Option HS) (σX σM : HS) : Prop := ∃ σX' σM', FR okEX olX σX σX' ∧ FR (okEM s) olM σM σM' ∧ rM = some σM' ∧ ((∃ a' w', rX = some (1, σX') ∧ c < a' ∧ SY K P V W N a' σX' σM' ∧ DW σX' σM' P a' w' ∧ (w' = 0 → w = 0) ∧ (σX'.1 2 5 = σX.1 2 5 ∧ σM'.1 15 s = nI (nl + 1)) ∧ (∀ j, j < 8 → σX'.1 32 j = σM'.1 14 (8 * s + j)) ∧ ∀ j, j < 8 → σM'.1 14 (8 * s + j) = σM.1 14 (8 * s + j) ∨ σM'.1 14 (8 * s + j) = x1) ∨ ∃ ft fp, rX = some (0, σX') ∧ σX'.1 2 11 = nI ft ∧ σX'.1 2 1 = nI fp ∧ FL σM' ft fp)
theorem nX_E : ∀ h j, okNX h j → okEX h j := fun _ _ h => Or.inl h
theorem nM_E {s : Nat} : ∀ h j, okNM h j → okEM s h j := fun _ _ h => Or.inl h
theorem bM_E {s : Nat} : ∀ h j, okBF h j → okEM s h j := by intro h j hh; unfold okBF at hh; exact Or.inl ⟨hh.1, by omega⟩
/-- the storing end of a lease -/
theorem L_106 {K P V W : Nat → Nat} {N s nl c w p : Nat} {σX σM : HS} (y x1 : Int32) (hS : TS K P V N) (hs : s < 2) (hp : p < 8) (h : SY K P V W N c σX σM) (dw : DW σX σM P c w) (m19 : σM.1 0 19 = nI s) (c2 : σM.1 15 s = nI nl) (g : ∀ j, j < 8 → σX.1 32 j = σM.1 14 (8 * s + j)) : EA K P V W N s nl c w x1 (FX5_readLease_106 x1 (nI p) σX) (FX12_tellLease_107 y x1 (nI p) 1 σM) σX σM := by
  obtain ⟨τ, hτ⟩ : ∃ τ, τ = pI σX 32 p x1 := ⟨_, rfl⟩
  have S1 : SY K P V W N c τ σM := by rw [hτ]; exact SY_pX h (by omega) (by omega)
  have f1 : FR okEX olX σX τ := by rw [hτ]; exact FR.rf.p (by unfold okEX; omega)
  have eX : FX5_readLease_106 x1 (nI p) σX = bdI (FX5_take (59 : Int32) τ) fun r_1 σ_2 => gd (isB r_1) (some (r_1, σ_2)) := by
    unfold FX5_readLease_106 FX5_readLease_116
    rw [gd_t (ix_nI hp (by omega))]
    simp only [hl_]
    rw [cl_nI (by omega), hτ]
  rw [eX]
  rcases L_107 (p := p) y x1 hS hs hp S1 m19 c2 with ⟨e3, S2, -, e4⟩ | ⟨σX3, σM3, e3, B, e4⟩
  · rw [e3, bdI_s, e4]
    refine ⟨_, _, f1.tr (tk_f.up (fun h j hh => nX_E h j (okT_N h j hh)) (fun _ _ h => h)), ((FR.rf.p (by unfold okEM okNM; omega)).p (by unfold okEM; omega)).p (by unfold okEM; omega), rfl, Or.inl ⟨c + 1, w, rfl, by omega, SY_pM S2 (by omega) (by omega), ?_, id, ⟨?_, ?_⟩, fun j hj => ?_, fun j hj => ?_⟩⟩
    · have d0 : DW τ σM P c w := by rw [hτ]; exact DW_f (FR.rf.p (ok := okPt 32 p) (okl := olM) ⟨rfl, rfl⟩) (FR.rf (ok := okPt 0 11) (okl := olM)) (by unfold okPt; omega) (by unfold okPt; omega) (by unfold okPt; omega) (by unfold okPt; omega) (Nat.le_refl _) dw
      exact DW_f tk_f ((((FR.rf (ok := fun h j => (h = 0 ∧ j = 11) ∨ h = 15 ∨ h = 14) (okl := olM)).p (Or.inl ⟨rfl, rfl⟩)).p (Or.inr (Or.inl rfl))).p (Or.inr (Or.inr rfl))) (by unfold okT; omega) (by unfold okT; omega) (by omega) (by omega) (by omega) d0
    · rw [tk_f.1 2 5 (by unfold okT; omega), hτ, pI_o (by omega)]
    · rw [pI_o (by omega), pI_s, pk_us]
    · rw [tk_f.1 32 j (by unfold okT; omega), hτ, pI_s, pI_s]
      by_cases hj' : j = p
      · rw [hj', pk_us, pk_us]
      · rw [pk_un hj', pk_un (by omega), pI_o (by omega), pI_o (by omega)]; exact g j hj
    · by_cases hj' : j = p
      · right; rw [hj', pI_s, pk_us]
      · left; rw [pI_s, pk_un (by omega), pI_o (by omega), pI_o (by omega)]
  · obtain ⟨ft, fp, b11, b1, L⟩ := BF_2 B
    rw [e3, bdI_s, e4]
    exact ⟨σX3, σM3, f1.tr ((BF_n B).up nX_E (fun _ _ h => h)), (BF_M B).up bM_E (fun _ _ h => h), rfl, Or.inr ⟨ft, fp, rfl, b11, b1, L⟩⟩
