/-! Any tell. -/
theorem TO_b {K P V W : Nat → Nat} {N s a : Nat} {rX : Option (Int32 × HS)} {rM : Option HS} {σX σM : HS} (h : TO K P V W N s a rX rM σX σM) : TO K P V W N s a (bdI rX fun r σ => gd (isB r) (some (r, σ))) rM σX σM := by
  obtain ⟨σX', σM', g1, g2, e, hh⟩ := h
  refine ⟨σX', σM', g1, g2, e, ?_⟩
  rcases hh with ⟨a', e1, e2⟩ | ⟨ft, fp, e1, e2⟩
  · exact Or.inl ⟨a', by rw [e1]; rfl, e2⟩
  · exact Or.inr ⟨ft, fp, by rw [e1]; rfl, e2⟩
/-- the reference's choice by the kind at hand -/
theorem M_kind {K P V W : Nat → Nat} {N a : Nat} {σX σM : HS} (hS : TS K P V N) (h : SY K P V W N a σX σM) : σM.1 0 11 = nI a ∧ σM.1 3 a = nI (K a) ∧ (∀ {β : Type} (x : Option β), gd (ix (nI a) 403) x = x) ∧ (nI a).toNatClampNeg = a := by
  have hN := hS.1
  obtain ⟨h1, h2, ha, x8, x11, m11, m12, m13⟩ := h
  exact ⟨m11, (h2 a ha).1, fun x => gd_t (ix_nI (by omega) (by omega)), cl_nI (by omega)⟩
theorem tl_20 {K P V W : Nat → Nat} {N a : Nat} {σX σM : HS} (hS : TS K P V N) (h : SY K P V W N a σX σM) (hK : K a = 20) : FX12_tellOne σM = mMiT σM := by
  obtain ⟨e1, e2, e3, e4⟩ := M_kind hS h
  unfold FX12_tellOne
  rw [e1, e3, e4, e2, hK]
  simp only [hl_]
  rw [if_pos (show nI 20 = (20 : Int32) from rfl)]
  rfl
theorem tl_21 {K P V W : Nat → Nat} {N a : Nat} {σX σM : HS} (hS : TS K P V N) (h : SY K P V W N a σX σM) (hK : K a = 21) : FX12_tellOne σM = mFam σM := by
  obtain ⟨e1, e2, e3, e4⟩ := M_kind hS h
  unfold FX12_tellOne
  rw [e1, e3, e4, e2, hK]
  simp only [hl_]
  rw [if_neg (show ¬ nI 21 = (20 : Int32) by decide), if_pos (show nI 21 = (21 : Int32) from rfl)]
  rfl
theorem tl_22 {K P V W : Nat → Nat} {N a : Nat} {σX σM : HS} (hS : TS K P V N) (h : SY K P V W N a σX σM) (hK : K a = 22) : FX12_tellOne σM = mLea σM := by
  obtain ⟨e1, e2, e3, e4⟩ := M_kind hS h
  unfold FX12_tellOne
  rw [e1, e3, e4, e2, hK]
  simp only [hl_]
  rw [if_neg (show ¬ nI 22 = (20 : Int32) by decide), if_neg (show ¬ nI 22 = (21 : Int32) by decide), if_pos (show nI 22 = (22 : Int32) from rfl)]
  rfl
theorem tl_law {K P V W : Nat → Nat} {N a k : Nat} {σX σM : HS} (hS : TS K P V N) (h : SY K P V W N a σX σM) (hk : k < 4) (hK : K a = 23 + k) : FX12_tellOne σM = FX12_tellOne_284 (nI k) σM := by
  obtain ⟨e1, e2, e3, e4⟩ := M_kind hS h
  unfold FX12_tellOne
  rw [e1, e3, e4, e2, hK]
  simp only [hl_]
  have h4 : k = 0 ∨ k = 1 ∨ k = 2 ∨ k = 3 := by omega
  rcases h4 with rfl | rfl | rfl | rfl
  · rw [if_neg (show ¬ nI (23 + 0) = (20 : Int32) by decide), if_neg (show ¬ nI (23 + 0) = (21 : Int32) by decide), if_neg (show ¬ nI (23 + 0) = (22 : Int32) by decide), if_pos (show nI (23 + 0) = (23 : Int32) from rfl), e3, show nI (23 + 0) - 23 = nI 0 from rfl, if_neg (show ¬ nI 0 < 0 by decide), e3, if_pos (show nI (23 + 0) ≤ 26 by decide)]
  · rw [if_neg (show ¬ nI (23 + 1) = (20 : Int32) by decide), if_neg (show ¬ nI (23 + 1) = (21 : Int32) by decide), if_neg (show ¬ nI (23 + 1) = (22 : Int32) by decide), if_neg (show ¬ nI (23 + 1) = (23 : Int32) by decide), if_pos (show nI (23 + 1) = (24 : Int32) from rfl), e3, show nI (23 + 1) - 23 = nI 1 from rfl, if_neg (show ¬ nI 1 < 0 by decide), e3, if_pos (show nI (23 + 1) ≤ 26 by decide)]
  · rw [if_neg (show ¬ nI (23 + 2) = (20 : Int32) by decide), if_neg (show ¬ nI (23 + 2) = (21 : Int32) by decide), if_neg (show ¬ nI (23 + 2) = (22 : Int32) by decide), if_neg (show ¬ nI (23 + 2) = (23 : Int32) by decide), if_neg (show ¬ nI (23 + 2) = (24 : Int32) by decide), if_pos (show nI (23 + 2) = (25 : Int32) from rfl), e3, show nI (23 + 2) - 23 = nI 2 from rfl, if_neg (show ¬ nI 2 < 0 by decide), e3, if_pos (show nI (23 + 2) ≤ 26 by decide)]
  · rw [if_neg (show ¬ nI (23 + 3) = (20 : Int32) by decide), if_neg (show ¬ nI (23 + 3) = (21 : Int32) by decide), if_neg (show ¬ nI (23 + 3) = (22 : Int32) by decide), if_neg (show ¬ nI (23 + 3) = (23 : Int32) by decide), if_neg (show ¬ nI (23 + 3) = (24 : Int32) by decide), if_neg (show ¬ nI (23 + 3) = (25 : Int32) by decide), if_pos (show nI (23 + 3) = (26 : Int32) from rfl), e3, show nI (23 + 3) - 23 = nI 3 from rfl, if_neg (show ¬ nI 3 < 0 by decide), e3, if_pos (show nI (23 + 3) ≤ 26 by decide)]
theorem tl_set {K P V W : Nat → Nat} {N a q : Nat} {σX σM : HS} (hS : TS K P V N) (h : SY K P V W N a σX σM) (hq : q < 3) (hK : K a = 27 + q) : FX12_tellOne σM = mSet q (if q = 2 then 9999 else 9) σM := by
  obtain ⟨e1, e2, e3, e4⟩ := M_kind hS h
  unfold FX12_tellOne
  rw [e1, e3, e4, e2, hK]
  simp only [hl_]
  have h3 : q = 0 ∨ q = 1 ∨ q = 2 := by omega
  rcases h3 with rfl | rfl | rfl
  · rw [if_neg (show ¬ nI (27 + 0) = (20 : Int32) by decide), if_neg (show ¬ nI (27 + 0) = (21 : Int32) by decide), if_neg (show ¬ nI (27 + 0) = (22 : Int32) by decide), if_neg (show ¬ nI (27 + 0) = (23 : Int32) by decide), if_neg (show ¬ nI (27 + 0) = (24 : Int32) by decide), if_neg (show ¬ nI (27 + 0) = (25 : Int32) by decide), if_neg (show ¬ nI (27 + 0) = (26 : Int32) by decide), if_pos (show nI (27 + 0) = (27 : Int32) from rfl)]
    rfl
  · rw [if_neg (show ¬ nI (27 + 1) = (20 : Int32) by decide), if_neg (show ¬ nI (27 + 1) = (21 : Int32) by decide), if_neg (show ¬ nI (27 + 1) = (22 : Int32) by decide), if_neg (show ¬ nI (27 + 1) = (23 : Int32) by decide), if_neg (show ¬ nI (27 + 1) = (24 : Int32) by decide), if_neg (show ¬ nI (27 + 1) = (25 : Int32) by decide), if_neg (show ¬ nI (27 + 1) = (26 : Int32) by decide), if_neg (show ¬ nI (27 + 1) = (27 : Int32) by decide), if_pos (show nI (27 + 1) = (28 : Int32) from rfl)]
    rfl
  · rw [if_neg (show ¬ nI (27 + 2) = (20 : Int32) by decide), if_neg (show ¬ nI (27 + 2) = (21 : Int32) by decide), if_neg (show ¬ nI (27 + 2) = (22 : Int32) by decide), if_neg (show ¬ nI (27 + 2) = (23 : Int32) by decide), if_neg (show ¬ nI (27 + 2) = (24 : Int32) by decide), if_neg (show ¬ nI (27 + 2) = (25 : Int32) by decide), if_neg (show ¬ nI (27 + 2) = (26 : Int32) by decide), if_neg (show ¬ nI (27 + 2) = (27 : Int32) by decide), if_neg (show ¬ nI (27 + 2) = (28 : Int32) by decide), if_pos (show nI (27 + 2) = (29 : Int32) from rfl)]
    rfl
/-- no tell begins so -/
theorem tl_oth {K P V W : Nat → Nat} {N a : Nat} {σX σM : HS} (hS : TS K P V N) (h : SY K P V W N a σX σM) (hK : K a < 20 ∨ 29 < K a) : FX12_tellOne σM = some (pI (pI σM 0 13 1) 0 14 (nI (P a))) := by
  obtain ⟨e1, e2, e3, e4⟩ := M_kind hS h
  have hN := hS.1
  obtain ⟨h1, h2, ha, x8, x11, m11, m12, m13⟩ := id h
  have hv := vk_lt (hS.2.1 a ha).1
  have L0 : FL (pI (pI σM 0 13 1) 0 14 (nI (P a))) 1 (P a) := FLs 1 (Or.inl rfl) (by omega) m11
  have e9 : ∀ x, FX12_tellOne_279 x σM = some (pI (pI σM 0 13 1) 0 14 (nI (P a))) := by
    intro x
    unfold FX12_tellOne_279 FX12_tellOne_284
    rw [M_fail 1 hS h2 m11 m13 ha, bdV_s, if_neg (nz13 L0).2]
  have ne : ∀ b, 20 ≤ b → b ≤ 29 → ¬ nI (K a) = nI b := fun b q1 q2 => ne_I (by omega) (by omega) (by omega)
  unfold FX12_tellOne
  rw [e1, e3, e4, e2]
  simp only [hl_]
  rw [if_neg (show ¬ nI (K a) = (20 : Int32) from ne 20 (by omega) (by omega)), if_neg (show ¬ nI (K a) = (21 : Int32) from ne 21 (by omega) (by omega)), if_neg (show ¬ nI (K a) = (22 : Int32) from ne 22 (by omega) (by omega)), if_neg (show ¬ nI (K a) = (23 : Int32) from ne 23 (by omega) (by omega)), if_neg (show ¬ nI (K a) = (24 : Int32) from ne 24 (by omega) (by omega)), if_neg (show ¬ nI (K a) = (25 : Int32) from ne 25 (by omega) (by omega)), if_neg (show ¬ nI (K a) = (26 : Int32) from ne 26 (by omega) (by omega)), if_neg (show ¬ nI (K a) = (27 : Int32) from ne 27 (by omega) (by omega)), if_neg (show ¬ nI (K a) = (28 : Int32) from ne 28 (by omega) (by omega)), if_neg (show ¬ nI (K a) = (29 : Int32) from ne 29 (by omega) (by omega)), e3, e9]
  by_cases h0 : nI (K a) - 23 < 0
  · rw [if_pos h0]
  · rw [if_neg h0, e3]
    by_cases h26 : nI (K a) ≤ 26
    · exfalso
      have h3 : K a ≤ 26 := by
        rcases Nat.lt_or_ge 26 (K a) with q | q
        · exact absurd (show nI (K a) ≤ nI 26 from h26) (nI_ge q (by omega))
        · exact q
      have h4 : K a < 20 := by omega
      apply h0
      have e : (nI (K a) - nI 23).toInt = (K a : Int) - 23 := pk_sub_toInt (by omega) (by omega)
      show nI (K a) - nI 23 < 0
      rw [Int32.lt_iff_toInt_lt, e]
      show (K a : Int) - 23 < 0
      omega
    · rw [if_neg h26]
theorem T_tell {K P V W : Nat → Nat} {N s a : Nat} {σX σM : HS} (hS : TS K P V N) (hT : TI K P V W N s a σX σM) : TO K P V W N s a (FX5_readTell σX) (FX12_tellOne σM) σX σM := by
  have h : SY K P V W N a σX σM := by
    obtain ⟨nm, nf, nl, cx, cm, br, w, Ls, S0, -⟩ := hT
    exact S0
  have hN := hS.1
  obtain ⟨h1, h2, ha, x8, x11, m11, m12, m13⟩ := id h
  have hv := (hS.2.1 a ha).1
  have ek : FX5_kindNow σX = some (nI (xkN (K a)), σX) := X_kindNow hS h1 x8 ha
  unfold FX5_readTell
  rw [ek, bdI_s]
  by_cases hr : 20 ≤ K a ∧ K a ≤ 29
  · have hc : K a = 20 ∨ K a = 21 ∨ K a = 22 ∨ K a = 23 + 0 ∨ K a = 23 + 1 ∨ K a = 23 + 2 ∨ K a = 23 + 3 ∨ K a = 27 + 0 ∨ K a = 27 + 1 ∨ K a = 27 + 2 := by omega
    rcases hc with hK | hK | hK | hK | hK | hK | hK | hK | hK | hK
    · rw [tl_20 hS h hK, show nI (xkN (K a)) = (0 : Int32) by rw [hK]; rfl, if_pos rfl]
      exact TO_b (T_min hS hT hK)
    · rw [tl_21 hS h hK, show nI (xkN (K a)) = (1 : Int32) by rw [hK]; rfl, if_neg (show ¬ (1 : Int32) = 0 by decide), if_pos rfl]
      exact TO_b (T_fam hS hT hK)
    · rw [tl_22 hS h hK, show nI (xkN (K a)) = (2 : Int32) by rw [hK]; rfl, if_neg (show ¬ (2 : Int32) = 0 by decide), if_neg (show ¬ (2 : Int32) = 1 by decide), if_pos rfl]
      exact TO_b (T_lease hS hT hK)
    · rw [tl_law hS h (by omega) hK, show nI (xkN (K a)) = (3 : Int32) by rw [hK]; rfl, if_neg (show ¬ (3 : Int32) = 0 by decide), if_neg (show ¬ (3 : Int32) = 1 by decide), if_neg (show ¬ (3 : Int32) = 2 by decide), if_pos rfl]
      exact TO_b (T_law (k := 0) hS (by omega) hT hK)
    · rw [tl_law hS h (by omega) hK, show nI (xkN (K a)) = (4 : Int32) by rw [hK]; rfl, if_neg (show ¬ (4 : Int32) = 0 by decide), if_neg (show ¬ (4 : Int32) = 1 by decide), if_neg (show ¬ (4 : Int32) = 2 by decide), if_neg (show ¬ (4 : Int32) = 3 by decide), if_pos rfl]
      exact TO_b (T_law (k := 1) hS (by omega) hT hK)
    · rw [tl_law hS h (by omega) hK, show nI (xkN (K a)) = (5 : Int32) by rw [hK]; rfl, if_neg (show ¬ (5 : Int32) = 0 by decide), if_neg (show ¬ (5 : Int32) = 1 by decide), if_neg (show ¬ (5 : Int32) = 2 by decide), if_neg (show ¬ (5 : Int32) = 3 by decide), if_neg (show ¬ (5 : Int32) = 4 by decide), if_pos rfl]
      exact TO_b (T_law (k := 2) hS (by omega) hT hK)
    · rw [tl_law hS h (by omega) hK, show nI (xkN (K a)) = (6 : Int32) by rw [hK]; rfl, if_neg (show ¬ (6 : Int32) = 0 by decide), if_neg (show ¬ (6 : Int32) = 1 by decide), if_neg (show ¬ (6 : Int32) = 2 by decide), if_neg (show ¬ (6 : Int32) = 3 by decide), if_neg (show ¬ (6 : Int32) = 4 by decide), if_neg (show ¬ (6 : Int32) = 5 by decide), if_pos rfl]
      exact TO_b (T_law (k := 3) hS (by omega) hT hK)
    · rw [tl_set hS h (by omega) hK, show nI (xkN (K a)) = (7 : Int32) by rw [hK]; rfl, if_neg (show ¬ (7 : Int32) = 0 by decide), if_neg (show ¬ (7 : Int32) = 1 by decide), if_neg (show ¬ (7 : Int32) = 2 by decide), if_neg (show ¬ (7 : Int32) = 3 by decide), if_neg (show ¬ (7 : Int32) = 4 by decide), if_neg (show ¬ (7 : Int32) = 5 by decide), if_neg (show ¬ (7 : Int32) = 6 by decide), if_pos rfl]
      exact TO_b (T_set (q := 0) hS (by omega) hT hK)
    · rw [tl_set hS h (by omega) hK, show nI (xkN (K a)) = (8 : Int32) by rw [hK]; rfl, if_neg (show ¬ (8 : Int32) = 0 by decide), if_neg (show ¬ (8 : Int32) = 1 by decide), if_neg (show ¬ (8 : Int32) = 2 by decide), if_neg (show ¬ (8 : Int32) = 3 by decide), if_neg (show ¬ (8 : Int32) = 4 by decide), if_neg (show ¬ (8 : Int32) = 5 by decide), if_neg (show ¬ (8 : Int32) = 6 by decide), if_neg (show ¬ (8 : Int32) = 7 by decide), if_pos rfl]
      exact TO_b (T_set (q := 1) hS (by omega) hT hK)
    · rw [tl_set hS h (by omega) hK, show nI (xkN (K a)) = (9 : Int32) by rw [hK]; rfl, if_neg (show ¬ (9 : Int32) = 0 by decide), if_neg (show ¬ (9 : Int32) = 1 by decide), if_neg (show ¬ (9 : Int32) = 2 by decide), if_neg (show ¬ (9 : Int32) = 3 by decide), if_neg (show ¬ (9 : Int32) = 4 by decide), if_neg (show ¬ (9 : Int32) = 5 by decide), if_neg (show ¬ (9 : Int32) = 6 by decide), if_neg (show ¬ (9 : Int32) = 7 by decide), if_neg (show ¬ (9 : Int32) = 8 by decide), if_pos rfl]
      exact TO_b (T_set (q := 2) hS (by omega) hT hK)
  · have hx := vk_x hv
    have ne : ∀ b, b ≤ 9 → ¬ nI (xkN (K a)) = nI b := by
      intro b hb e
      have hb' : nI b = nI (xkN (20 + b)) := by
        have : b = 0 ∨ b = 1 ∨ b = 2 ∨ b = 3 ∨ b = 4 ∨ b = 5 ∨ b = 6 ∨ b = 7 ∨ b = 8 ∨ b = 9 := by omega
        rcases this with rfl | rfl | rfl | rfl | rfl | rfl | rfl | rfl | rfl | rfl <;> rfl
      have := (xk_eq hv (show vk (20 + b) by unfold vk; omega)).mp (e.trans hb')
      omega
    rw [tl_oth hS h (by omega), if_neg (show ¬ nI (xkN (K a)) = (0 : Int32) from ne 0 (by omega)), if_neg (show ¬ nI (xkN (K a)) = (1 : Int32) from ne 1 (by omega)), if_neg (show ¬ nI (xkN (K a)) = (2 : Int32) from ne 2 (by omega)), if_neg (show ¬ nI (xkN (K a)) = (3 : Int32) from ne 3 (by omega)), if_neg (show ¬ nI (xkN (K a)) = (4 : Int32) from ne 4 (by omega)), if_neg (show ¬ nI (xkN (K a)) = (5 : Int32) from ne 5 (by omega)), if_neg (show ¬ nI (xkN (K a)) = (6 : Int32) from ne 6 (by omega)), if_neg (show ¬ nI (xkN (K a)) = (7 : Int32) from ne 7 (by omega)), if_neg (show ¬ nI (xkN (K a)) = (8 : Int32) from ne 8 (by omega)), if_neg (show ¬ nI (xkN (K a)) = (9 : Int32) from ne 9 (by omega)), X_fail 1 hS h1 x8 ha, bdI_s]
    exact ⟨_, _, (FR.rf.p (by unfold okTX; omega)).p (by unfold okTX; omega), (FR.rf.p (Or.inl ⟨rfl, by omega⟩)).p (Or.inl ⟨rfl, by omega⟩), rfl, Or.inr ⟨1, P a, rfl, by rw [pI_s, pk_un (by omega), pI_s, pk_us]; rfl, by rw [pI_s, pk_us], FLs 1 (Or.inl rfl) (by omega) m11⟩⟩
