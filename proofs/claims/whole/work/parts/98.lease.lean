/-! A lease: the reference once it has failed. -/
theorem M_107F {σ : HS} {ft fp : Nat} (x1 x2 x3 x4 : Int32) (h : FL σ ft fp) : FX12_tellLease_107 x1 x2 x3 x4 σ = some σ := by
  unfold FX12_tellLease_107
  rw [M_mustF _ h.2.1 h.1, bdV_s, if_neg (nz13 h).2]
theorem M_74F {σ : HS} {ft fp : Nat} (x1 x2 x3 : Int32) (h : FL σ ft fp) : FX12_tellLease_74 x1 x2 x3 σ = some σ := by
  unfold FX12_tellLease_74 FX12_tellLease_75
  rw [if_pos rfl, M_107F _ _ _ _ h]
theorem M_44F {σ : HS} {ft fp : Nat} (x1 x2 : Int32) (h : FL σ ft fp) : FX12_tellLease_44 x1 x2 σ = some σ := by
  unfold FX12_tellLease_44
  simp only [hl_]
  rw [M_boundedF _ _ h, bdI_s, if_neg (nz13 h).1, M_74F _ _ _ h]
theorem M_26F {σ : HS} {ft fp : Nat} (x1 y0 : Int32) (h : FL σ ft fp) : FX12_tellLease_26 x1 y0 σ = some σ := by
  unfold FX12_tellLease_26
  rw [if_neg (nz13 h).1, M_44F _ _ h]
def okEX (h j : Nat) : Prop := okNX h j ∨ (h = 2 ∧ j = 5) ∨ h = 32
def okEM (s h j : Nat) : Prop := okNM h j ∨ (h = 15 ∧ j = s) ∨ (h = 14 ∧ 8 * s ≤ j ∧ j < 8 * s + 8)
theorem okEX_T : ∀ h j, okEX h j → okTX h j := by intro h j; unfold okEX okNX okTX; omega
theorem okEM_T {s : Nat} : ∀ h j, okEM s h j → okTM s h j := by
  intro h j hh
  rcases hh with hh | ⟨h1, h2⟩ | hh
  · exact okNM_T h j hh
  · exact Or.inr (Or.inr (Or.inr (Or.inr (Or.inr (Or.inl ⟨by omega, h2⟩)))))
  · exact Or.inr (Or.inr (Or.inr (Or.inr (Or.inr (Or.inr (Or.inr (Or.inr hh)))))))
