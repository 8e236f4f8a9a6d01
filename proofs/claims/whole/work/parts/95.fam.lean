/-! A family. -/
theorem nm_go {σX σM : HS} {s nf a : Nat} {v : Int64} (hs : s < 2) (hn : nf ≤ 5) (ha : a < 403) (b1 : σX.1 12 1 = nI nf) (b2 : σM.1 11 s = nI nf) (m19 : σM.1 0 19 = nI s) (h6 : σM.2 6 a = v) (hnm : ∀ j, j < nf → σX.2 17 j = σM.2 10 j) : ∀ n j f g, j + n = nf → n < f → n < g → ∃ r, FX5_familyNamed_2 f v (nI j) σX = some (r, σX) ∧ FX12_numberOf_2 g (nI a) (nI j) σM = some (r, σM) ∧ (r = -1 ∨ ∃ i, i < nf ∧ r = nI i) := by
  have is : ix (nI s) 2 = true := ix_nI hs (by omega)
  intro n
  induction n with
  | zero =>
    intro j f g hj hf hg
    obtain ⟨f, rfl⟩ : ∃ z, f = z + 1 := ⟨f - 1, by omega⟩
    obtain ⟨g, rfl⟩ : ∃ z, g = z + 1 := ⟨g - 1, by omega⟩
    refine ⟨-1, ?_, ?_, Or.inl rfl⟩
    · rw [FX5_familyNamed_2, b1, if_pos (nI_le (by omega) (by omega))]
    · rw [FX12_numberOf_2, m19, gd_t is, cl_nI (by omega), b2, if_pos (nI_le (by omega) (by omega))]
  | succ n ih =>
    intro j f g hj hf hg
    obtain ⟨f, rfl⟩ : ∃ z, f = z + 1 := ⟨f - 1, by omega⟩
    obtain ⟨g, rfl⟩ : ∃ z, g = z + 1 := ⟨g - 1, by omega⟩
    have e1 : FX5_familyNamed_2 (f + 1) v (nI j) σX = if lg_cmp (σM.2 10 j) v = 0 then some (nI j, σX) else FX5_familyNamed_2 f v (nI (j + 1)) σX := by
      rw [FX5_familyNamed_2, b1, if_neg (show ¬ nI nf ≤ nI j from nI_ge (by omega) (by omega)), gd_t (ix_nI (by omega) (by omega)), cl_nI (by omega), hnm j (by omega), nI_1]
    have e2 : FX12_numberOf_2 (g + 1) (nI a) (nI j) σM = if lg_cmp (σM.2 10 j) v = 0 then some (nI j, σM) else FX12_numberOf_2 g (nI a) (nI (j + 1)) σM := by
      rw [FX12_numberOf_2, m19, gd_t is, cl_nI (by omega), b2, if_neg (show ¬ nI nf ≤ nI j from nI_ge (by omega) (by omega)), gd_t (ix_nI (by omega) (by omega)), gd_t (ix_nI (by omega) (by omega)), cl_nI (by omega), cl_nI (by omega), h6, nI_1]
    rw [e1, e2]
    by_cases h : lg_cmp (σM.2 10 j) v = 0
    · rw [if_pos h, if_pos h]; exact ⟨nI j, rfl, rfl, Or.inr ⟨j, by omega, rfl⟩⟩
    · rw [if_neg h, if_neg h]; exact ih (j + 1) f g (by omega) (by omega) (by omega)
theorem SY_lX {K P V W : Nat → Nat} {N a h0 j0 : Nat} {v : Int64} {σX σM : HS} (hh : SY K P V W N a σX σM) (h2 : h0 ≠ 21) : SY K P V W N a (pL σX h0 j0 v) σM := by
  obtain ⟨t1, t2, ha, x8, x11, m11, m12, m13⟩ := hh
  have f : FR olM (okPt h0 j0) σX (pL σX h0 j0 v) := FR.rf.l ⟨rfl, rfl⟩
  exact ⟨TX_f f (fun j => by unfold olM; exact id) (fun j => by unfold olM; exact id) (fun j => by unfold okPt; omega) t1, t2, ha, x8, x11, m11, m12, m13⟩
theorem SY_lM {K P V W : Nat → Nat} {N a h0 j0 : Nat} {v : Int64} {σX σM : HS} (hh : SY K P V W N a σX σM) (h2 : h0 ≠ 6) : SY K P V W N a σX (pL σM h0 j0 v) := by
  obtain ⟨t1, t2, ha, x8, x11, m11, m12, m13⟩ := hh
  have f : FR olM (okPt h0 j0) σM (pL σM h0 j0 v) := FR.rf.l ⟨rfl, rfl⟩
  exact ⟨t1, TM_f f (fun j => by unfold olM; exact id) (fun j => by unfold olM; exact id) (fun j => by unfold olM; exact id) (fun j => by unfold okPt; omega) t2, ha, x8, x11, m11, m12, m13⟩
def okFX (nf h j : Nat) : Prop := okNX h j ∨ (h = 12 ∧ j = 1) ∨ ((h = 30 ∨ h = 31) ∧ j = nf)
def olFX (nf h j : Nat) : Prop := olX h j ∨ (h = 17 ∧ j = nf)
def okFM (s nf h j : Nat) : Prop := okNM h j ∨ ((h = 12 ∨ h = 13) ∧ j = 5 * s + nf) ∨ (h = 11 ∧ j = s)
def olFM (nf h j : Nat) : Prop := h = 10 ∧ j = nf
theorem okFX_T {nf : Nat} : ∀ h j, okFX nf h j → okTX h j := by intro h j; unfold okFX okNX okTX; omega
theorem olFX_T {nf : Nat} : ∀ h j, olFX nf h j → olTX h j := by intro h j; unfold olFX olX olTX; omega
theorem olFM_T {nf : Nat} : ∀ h j, olFM nf h j → olTM h j := by intro h j; unfold olFM olTM; omega
theorem okFM_T {s nf : Nat} (hn : nf < 5) : ∀ h j, okFM s nf h j → okTM s h j := by
  intro h j hh
  rcases hh with hh | ⟨h1, h2⟩ | ⟨h1, h2⟩
  · exact okNM_T h j hh
  · exact Or.inr (Or.inr (Or.inr (Or.inr (Or.inr (Or.inr (Or.inr (Or.inl ⟨h1, by omega, by omega⟩)))))))
  · exact Or.inr (Or.inr (Or.inr (Or.inr (Or.inr (Or.inl ⟨Or.inr (Or.inl h1), h2⟩)))))
theorem M_48F {σ : HS} {s nf ft fp : Nat} (x2 : Int32) (hs : s < 2) (hn : nf < 5) (h : FL σ ft fp) : ∃ σ', FX12_tellFamily_48 (nI (5 * s + nf)) x2 σ = some σ' ∧ FR (okFM s nf) (olFM nf) σ σ' ∧ FL σ' ft fp := by
  have i10 : ix (nI (5 * s + nf)) 10 = true := ix_nI (by omega) (by omega)
  have L1 : FL (pI σ 12 (5 * s + nf) 0) ft fp := FL_p h (by omega)
  have L2 : FL (pI (pI σ 12 (5 * s + nf) 0) 13 (5 * s + nf) 0) ft fp := FL_p L1 (by omega)
  refine ⟨_, ?_, (FR.rf.p (by unfold okFM; omega)).p (by unfold okFM; omega), L2⟩
  unfold FX12_tellFamily_48
  rw [M_boundedF _ _ h, bdI_s, gd_t i10]
  simp only [hl_]
  rw [cl_nI (by omega), M_boundedF _ _ L1, bdI_s, gd_t i10, M_mustF _ L2.2.1 L2.1, bdV_s, if_neg (nz13 L2).2]
