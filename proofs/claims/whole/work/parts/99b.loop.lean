/-! All tells. -/
def LOO (K P V W : Nat → Nat) (N s : Nat) (x1 : Int32) (rX rM : Option (Int32 × HS)) (σX σM : HS) : Prop := ∃ σX' σM', FR okTX olTX σX σX' ∧ FR (okTM s) olTM σM σM' ∧ rX = FX5_readAll_79 0 0 σX' ∧ rM = FX12_read_129 x1 σM' ∧ ((∃ a, TI K P V W N s a σX' σM') ∨ ∃ ft fp, σX'.1 2 11 = nI ft ∧ σX'.1 2 1 = nI fp ∧ FL σM' ft fp)
theorem R_loop {K P V W : Nat → Nat} {N s : Nat} (x1 : Int32) (hS : TS K P V N) : ∀ (n a i f g : Nat) (σX σM : HS), TI K P V W N s a σX σM → i ≤ a → N + 1 ≤ a + n → n < f → n < g → LOO K P V W N s x1 (FX5_readAll_48 f 1 (nI i) σX) (FX12_read_107 g x1 σM) σX σM := by
  intro n
  induction n with
  | zero =>
    intro a i f g σX σM hT hi hn hf hg
    obtain ⟨nm, nf, nl, cx, cm, br, w, Ls, S0, -⟩ := hT
    have := S0.2.2.1
    omega
  | succ n ih =>
    intro a i f g σX σM hT hi hn hf hg
    have h : SY K P V W N a σX σM := by
      obtain ⟨nm, nf, nl, cx, cm, br, w, Ls, S0, -⟩ := hT
      exact S0
    have hN := hS.1
    obtain ⟨h1, h2, ha, x8, x11, m11, m12, m13⟩ := id h
    have hv := (hS.2.1 a ha).1
    have ek : FX5_kindNow σX = some (nI (xkN (K a)), σX) := X_kindNow hS h1 x8 ha
    have ei : FX12_is (0 : Int32) σM = some (bI (decide (K a = 0)), σM) := M_is (k := 0) hS h2 m11 m13 ha (by omega)
    obtain ⟨f, rfl⟩ : ∃ z, f = z + 1 + 1 := ⟨f - 2, by omega⟩
    obtain ⟨g, rfl⟩ : ∃ z, g = z + 1 + 1 := ⟨g - 2, by omega⟩
    rw [FX5_readAll_48, FX12_read_107, if_neg (show ¬ (400 : Int32) < nI i from nI_nlt (a := 400) (by omega) (by omega)), if_neg one_ne, ek, bdI_s, m13, if_pos rfl, ei, bdI_s]
    by_cases h0 : K a = 0
    · rw [if_pos (show nI (xkN (K a)) = (24 : Int32) by rw [h0]; rfl), show decide (K a = 0) = true from decide_eq_true h0, bI_t, if_neg one_ne]
      exact ⟨σX, σM, FR.rf, FR.rf, rfl, rfl, Or.inl ⟨a, hT⟩⟩
    · obtain ⟨σX', σM', g1, g2, eM, hh⟩ := T_tell hS hT
      have ne : ¬ nI (xkN (K a)) = (24 : Int32) := fun e => h0 ((xk_eq hv (show vk 0 by unfold vk; omega)).mp (show nI (xkN (K a)) = nI (xkN 0) from e))
      rw [if_neg ne, show decide (K a = 0) = false from decide_eq_false h0, bI_f, if_pos rfl, eM, bdV_s]
      rcases hh with ⟨a', eX, haa, hT'⟩ | ⟨ft, fp, eX, z11, z1, L⟩
      · rw [eX, bdI_s, nI_1]
        obtain ⟨σX2, σM2, k1, k2, e1, e2, hh⟩ := ih a' (i + 1) (f + 1) (g + 1) σX' σM' hT' (by omega) (by omega) (by omega) (by omega)
        exact ⟨σX2, σM2, g1.tr k1, g2.tr k2, e1, e2, hh⟩
      · rw [eX, bdI_s, FX5_readAll_48, FX12_read_107, if_neg (nz13 L).1]
        refine ⟨σX', σM', g1, g2, ?_, rfl, Or.inr ⟨ft, fp, z11, z1, L⟩⟩
        by_cases h4 : (400 : Int32) < nI i + 1
        · rw [if_pos h4]; rfl
        · rw [if_neg h4, if_pos rfl]; rfl
