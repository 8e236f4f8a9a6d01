/-! A lease: its end. -/
theorem L_107 {K P V W : Nat → Nat} {N s c nl p : Nat} {σX σM : HS} (x1 x2 : Int32) (hS : TS K P V N) (hs : s < 2) (hp : p < 8) (h : SY K P V W N c σX σM) (m19 : σM.1 0 19 = nI s) (c2 : σM.1 15 s = nI nl) : (FX5_take (59 : Int32) σX = some (1, tkS σX P c) ∧ SY K P V W N (c + 1) (tkS σX P c) (pI (pI σM 0 11 (nI (c + 1))) 15 s (nI (nl + 1))) ∧ (∀ x3, FX12_tellLease_107 x1 x2 x3 0 σM = some (pI (pI σM 0 11 (nI (c + 1))) 15 s (nI (nl + 1)))) ∧ FX12_tellLease_107 x1 x2 (nI p) 1 σM = some (pI (pI (pI σM 0 11 (nI (c + 1))) 15 s (nI (nl + 1))) 14 (8 * s + p) x2)) ∨ ∃ σX' σM', FX5_take (59 : Int32) σX = some (0, σX') ∧ BF σX σM σX' σM' ∧ ∀ x3 x4, FX12_tellLease_107 x1 x2 x3 x4 σM = some σM' := by
  have is : ix (nI s) 2 = true := ix_nI hs (by omega)
  have i16 : ix (nI (8 * s + p)) 16 = true := ix_nI (by omega) (by omega)
  have e8 : (8 : Int32) * nI s + nI p = nI (8 * s + p) := by rw [show (8 : Int32) = nI 8 from rfl, pk_mul, nI_add]
  unfold FX12_tellLease_107
  rw [show (59 : Int32) = nI (xkN 4) from rfl, show FX12_must (4 : Int32) σM = FX12_must (nI 4) σM from rfl]
  rcases SY_must (k := 4) hS h (by unfold vk; omega) (by omega) (by omega) with ⟨-, e3, e4, S4⟩ | ⟨σX3, σM3, e3, e4, B⟩
  · obtain ⟨ξ, hξ⟩ : ∃ τ, τ = pI σM 0 11 (nI (c + 1)) := ⟨_, rfl⟩
    have u19 : ξ.1 0 19 = nI s := by rw [hξ, pI_s, pk_un (by omega)]; exact m19
    have u15 : ξ.1 15 s = nI nl := by rw [hξ, pI_o (by omega)]; exact c2
    rw [e4, bdV_s, ← hξ]
    rw [← hξ] at S4
    refine Or.inl ⟨e3, SY_pM S4 (by omega) (by omega), fun x3 => ?_, ?_⟩
    · rw [bdV_s, S4.2.2.2.2.2.2.2, if_pos (show (0 : Int32) ≤ 0 by decide), u19, gd_t is, gd_t is]
      simp only [hl_]
      rw [cl_nI (by omega), u15, nI_1, if_pos trivial]
    · rw [S4.2.2.2.2.2.2.2, if_pos (show (0 : Int32) ≤ 0 by decide), u19, gd_t is, gd_t is]
      simp only [hl_]
      rw [cl_nI (by omega), u15, nI_1, if_neg one_ne, pI_o (show (0 : Nat) ≠ 15 by omega), u19, e8, gd_t i16, cl_nI (by omega)]
  · obtain ⟨ft, fp, b11, b1, L⟩ := BF_2 B
    refine Or.inr ⟨σX3, σM3, e3, B, fun x3 x4 => ?_⟩
    rw [e4, bdV_s, if_neg (nz13 L).2]
