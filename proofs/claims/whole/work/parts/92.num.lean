/-! A number that is told; what is wrong, but not yet. -/
theorem X_later {σ : HS} {w p c : Nat} (h12 : σ.1 2 12 = nI w) (hw : w ≤ 5) (h10 : σ.1 2 10 = nI p) : FX5_failLater (nI c) σ = some (if w = 0 then pI (pI σ 2 12 (nI c)) 2 13 (nI p) else σ) := by
  unfold FX5_failLater
  by_cases hw0 : w = 0
  · rw [h12, if_pos (show nI w = (0 : Int32) by rw [hw0]; rfl), if_pos hw0]
    simp only [hl_]
    rw [pI_s, pk_un (by omega), h10]
  · rw [h12, if_neg (show ¬ nI w = (0 : Int32) from ne_I (b := 0) hw0 (by omega) (by omega)), if_neg hw0]
theorem M_wrong {σ : HS} {K P V W : Nat → Nat} {N a c w : Nat} (hS : TS K P V N) (hT : TM_ σ K P V W N) (ha : a ≤ N) (h13 : σ.1 0 13 = 0) (h15 : σ.1 0 15 = nI w) (hw : w ≤ 5) (h16 : w ≠ 0 → ∃ t, t < a ∧ σ.1 0 16 = nI (P t)) : FX12_wrong (nI c) (nI a) σ = some (if w = 0 then pI (pI σ 0 15 (nI c)) 0 16 (nI (P a)) else σ) := by
  have hN := hS.1
  have hP := (hS.2.1 a ha).2.1
  unfold FX12_wrong
  rw [gd_t (ix_nI (by omega) (by omega))]
  simp only [hl_]
  rw [cl_nI (by omega), (hT a ha).2.1, h13, if_neg (show ¬ (0 : Int32) < 0 by decide), h15]
  by_cases hw0 : w = 0
  · rw [if_pos (show nI w = (0 : Int32) by rw [hw0]; rfl), if_pos hw0]
  · obtain ⟨t, ht, h⟩ := h16 hw0
    rw [if_neg (show ¬ nI w = (0 : Int32) from ne_I (b := 0) hw0 (by omega) (by omega)), if_neg hw0, h, if_pos (nI_lt (hS.2.2.2.2 t a ht ha) (by omega))]
theorem DW_rec {σX σM : HS} {P : Nat → Nat} {a w c : Nat} (hc : 1 ≤ c) (hc5 : c ≤ 5) (h : DW σX σM P a w) : DW (if w = 0 then pI (pI σX 2 12 (nI c)) 2 13 (nI (P a)) else σX) (if w = 0 then pI (pI σM 0 15 (nI c)) 0 16 (nI (P a)) else σM) P (a + 1) (if w = 0 then c else w) := by
  by_cases hw : w = 0
  · rw [if_pos hw, if_pos hw, if_pos hw]
    exact ⟨by rw [pI_s, pk_un (by omega), pI_s, pk_us], by rw [pI_s, pk_un (by omega), pI_s, pk_us], hc5, fun h => by omega, fun _ => ⟨a, by omega, by rw [pI_s, pk_us], by rw [pI_s, pk_us]⟩⟩
  · rw [if_neg hw, if_neg hw, if_neg hw]
    obtain ⟨b1, b2, b3, b4, b5⟩ := h
    refine ⟨b1, b2, b3, b4, fun h => ?_⟩
    obtain ⟨t, ht, c⟩ := b5 h
    exact ⟨t, by omega, c⟩
def okNX (h j : Nat) : Prop := h = 2 ∧ (j = 1 ∨ j = 8 ∨ (10 ≤ j ∧ j ≤ 13))
def okNM (h j : Nat) : Prop := h = 0 ∧ (j = 11 ∨ (13 ≤ j ∧ j ≤ 16))
theorem okT_N : ∀ h j, okT h j → okNX h j := by intro h j; unfold okT okNX; omega
/-- what is recorded changes little -/
theorem rec_fX {σ : HS} {w c p : Nat} : FR okNX olX σ (if w = 0 then pI (pI σ 2 12 (nI c)) 2 13 (nI p) else σ) := by
  by_cases hw : w = 0
  · rw [if_pos hw]; exact (FR.rf.p (by unfold okNX; omega)).p (by unfold okNX; omega)
  · rw [if_neg hw]; exact FR.rf
theorem rec_fM {σ : HS} {w c p : Nat} : FR okNM olM σ (if w = 0 then pI (pI σ 0 15 (nI c)) 0 16 (nI p) else σ) := by
  by_cases hw : w = 0
  · rw [if_pos hw]; exact (FR.rf.p (by unfold okNM; omega)).p (by unfold okNM; omega)
  · rw [if_neg hw]; exact FR.rf
theorem rec_SY {K P V W : Nat → Nat} {N a w c p : Nat} {σX σM : HS} (h : SY K P V W N a σX σM) : SY K P V W N a (if w = 0 then pI (pI σX 2 12 (nI c)) 2 13 (nI p) else σX) σM := by
  by_cases hw : w = 0
  · rw [if_pos hw]; exact SY_pX (SY_pX h (by omega) (by omega)) (by omega) (by omega)
  · rw [if_neg hw]; exact h
theorem rec_SM {K P V W : Nat → Nat} {N a w c p : Nat} {σX σM : HS} (h : SY K P V W N a σX σM) : SY K P V W N a σX (if w = 0 then pI (pI σM 0 15 (nI c)) 0 16 (nI p) else σM) := by
  by_cases hw : w = 0
  · rw [if_pos hw]; exact SY_pM (SY_pM h (by omega) (by omega)) (by omega) (by omega)
  · rw [if_neg hw]; exact h
theorem rec_9 {σ : HS} {w c p : Nat} : (if w = 0 then pI (pI σ 2 12 (nI c)) 2 13 (nI p) else σ).2 2 9 = σ.2 2 9 := by
  by_cases hw : w = 0
  · rw [if_pos hw]; rfl
  · rw [if_neg hw]
theorem M_boundedF {σ : HS} {ft fp : Nat} (x1 x2 : Int32) (h : FL σ ft fp) : FX12_bounded x1 x2 σ = some (x1, σ) := by
  unfold FX12_bounded FX12_bounded_15
  have h0 : (0 : Int32) < σ.1 0 13 := by rw [h.2.1]; exact nI_lt (a := 0) (by have := h.1; omega) (by have := h.1; omega)
  rw [if_pos h0, M_failF 1 h.2.1 h.1, bdV_s]
/-- a number: taken, or both fail -/
theorem N_SY {K P V W : Nat → Nat} {N a hi w : Nat} {σX σM : HS} (hS : TS K P V N) (h : SY K P V W N a σX σM) (dw : DW σX σM P a w) (hhi : hi ≤ 9999) : ∃ σX' σM' r, FR okNX olX σX σX' ∧ FR okNM olM σM σM' ∧ FX12_bounded 0 (nI hi) σM = some (r, σM') ∧ ((∃ w', FX5_takeNumber (nI hi) σX = some (1, σX') ∧ r = nI (V a) ∧ V a ≤ 9999 ∧ σX'.2 2 9 = lN (V a) ∧ SY K P V W N (a + 1) σX' σM' ∧ DW σX' σM' P (a + 1) w' ∧ (w' = 0 → w = 0 ∧ V a ≤ hi)) ∨ ∃ ft fp, FX5_takeNumber (nI hi) σX = some (0, σX') ∧ σX'.1 2 11 = nI ft ∧ σX'.1 2 1 = nI fp ∧ FL σM' ft fp) := by
  have hN := hS.1
  obtain ⟨h1, h2, ha, x8, x11, m11, m12, m13⟩ := id h
  obtain ⟨w12, w15, w5, w13, w16⟩ := id dw
  have hV := (hS.2.1 a ha).2.2
  have e2 : FX12_is (2 : Int32) σM = some (bI (decide (K a = 2)), σM) := M_is (k := 2) hS h2 m11 m13 ha (by omega)
  unfold FX5_takeNumber FX12_bounded
  rw [m13, if_neg (show ¬ (0 : Int32) < 0 by decide), e2, bdI_s, show (23 : Int32) = nI (xkN 2) from rfl, X_take (k := 2) hS h1 x8 ha (by unfold vk; omega)]
  by_cases hK : K a = 2
  · rw [if_pos hK, show decide (K a = 2) = true from decide_eq_true hK, bI_t, if_neg one_ne, m11, gd_t (ix_nI (by omega) (by omega))]
    simp only [hl_]
    rw [cl_nI (by omega), (h2 a ha).2.2.1 hK, if_neg (show ¬ nI (V a) < (0 : Int32) from nI_nlt (b := 0) (by omega) (by omega))]
    have t9 : (tkS σX P a).2 2 9 = lN (V a) := tk_9.trans ((h1 a ha).2.2.1 hK)
    have t10 : (tkS σX P a).1 2 10 = nI (P a) := tk_10
    have t12 : (tkS σX P a).1 2 12 = nI w := by rw [tk_f.1 2 12 (by unfold okT; omega)]; exact w12
    by_cases hv : V a ≤ hi
    · rw [if_pos (nI_le hv (by omega))]
      unfold FX12_bounded_51
      rw [M_goesOn hS h2 m11 m13 ha]
      by_cases h4 : a < 400
      · rw [if_pos h4, if_pos h4, bdI_s, if_neg one_ne, bdV_s, t9, nI_l (by omega), if_pos ((lg_cmp_le _ _).mpr ((lN_le (by omega) (by omega)).mpr hv))]
        exact ⟨_, _, _, tk_f.up okT_N (fun _ _ h => h), FR.rf.p (by unfold okNM; omega), rfl, Or.inl ⟨w, rfl, rfl, hV, t9, tk_SY hS h h4 (by omega) (by omega), DW_f tk_f (FR.rf.p (ok := okPt 0 11) (okl := olM) ⟨rfl, rfl⟩) (by unfold okT; omega) (by unfold okT; omega) (by unfold okPt; omega) (by unfold okPt; omega) (by omega) dw, fun e => ⟨e, hv⟩⟩⟩
      · rw [if_neg h4, if_neg h4, bdI_s, if_pos rfl, bdV_s]
        exact ⟨_, _, _, (FR.rf.p (by unfold okNX; omega)).p (by unfold okNX; omega), (FR.rf.p (by unfold okNM; omega)).p (by unfold okNM; omega), rfl, Or.inr ⟨2, P a, rfl, by rw [pI_s, pk_un (by omega), pI_s, pk_us]; rfl, by rw [pI_s, pk_us], FLs 2 (Or.inr rfl) (by omega) m11⟩⟩
    · rw [if_neg (show ¬ nI (V a) ≤ nI hi from nI_ge (by omega) (by omega))]
      unfold FX12_bounded_42 FX12_bounded_51
      rw [m11, show (5 : Int32) = nI 5 from rfl, M_wrong hS h2 ha m13 w15 w5 (fun hw => (w16 hw).imp (fun t q => ⟨q.1, q.2.2⟩)), bdV_s]
      obtain ⟨τM, hτM⟩ : ∃ τ, τ = (if w = 0 then pI (pI σM 0 15 (nI 5)) 0 16 (nI (P a)) else σM) := ⟨_, rfl⟩
      have fM : FR okNM olM σM τM := by rw [hτM]; exact rec_fM
      have S1 : SY K P V W N a σX τM := by rw [hτM]; exact rec_SM h
      rw [← hτM, M_goesOn hS S1.2.1 S1.2.2.2.2.2.1 S1.2.2.2.2.2.2.2 ha]
      by_cases h4 : a < 400
      · rw [if_pos h4, if_pos h4, bdI_s, if_neg one_ne, bdV_s, t9, nI_l (by omega), if_neg (fun e => hv ((lN_le (by omega) (by omega)).mp ((lg_cmp_le _ _).mp e))), X_later t12 w5 t10, bdV_s]
        have dw1 : DW (tkS σX P a) σM P a w := DW_f tk_f (FR.rf (ok := okPt 0 11) (okl := olM)) (by unfold okT; omega) (by unfold okT; omega) (by unfold okPt; omega) (by unfold okPt; omega) (Nat.le_refl _) dw
        have dw2 := DW_rec (c := 5) (by omega) (by omega) dw1
        rw [← hτM] at dw2
        refine ⟨_, _, _, (tk_f.up okT_N (fun _ _ h => h)).tr rec_fX, fM.p (by unfold okNM; omega), rfl, Or.inl ⟨_, rfl, rfl, hV, rec_9.trans t9, rec_SY (tk_SY hS S1 h4 (by omega) (by omega)), DW_f (FR.rf (ok := okPt 0 11) (okl := olM)) (FR.rf.p (ok := okPt 0 11) (okl := olM) ⟨rfl, rfl⟩) (by unfold okPt; omega) (by unfold okPt; omega) (by unfold okPt; omega) (by unfold okPt; omega) (Nat.le_refl _) dw2, fun e => ?_⟩⟩
        by_cases hw : w = 0
        · rw [if_pos hw] at e; omega
        · rw [if_neg hw] at e; omega
      · rw [if_neg h4, if_neg h4, bdI_s, if_pos rfl, bdV_s]
        exact ⟨_, _, _, (FR.rf.p (by unfold okNX; omega)).p (by unfold okNX; omega), (fM.p (by unfold okNM; omega)).p (by unfold okNM; omega), rfl, Or.inr ⟨2, P a, rfl, by rw [pI_s, pk_un (by omega), pI_s, pk_us]; rfl, by rw [pI_s, pk_us], FLs 2 (Or.inr rfl) (by omega) S1.2.2.2.2.2.1⟩⟩
  · rw [if_neg hK, bdI_s, if_pos rfl, show decide (K a = 2) = false from decide_eq_false hK, bI_f, if_pos rfl]
    unfold FX12_bounded_15
    rw [M_fail 1 hS h2 m11 m13 ha, bdV_s]
    exact ⟨_, _, _, (FR.rf.p (by unfold okNX; omega)).p (by unfold okNX; omega), (FR.rf.p (by unfold okNM; omega)).p (by unfold okNM; omega), rfl, Or.inr ⟨1, P a, rfl, by rw [pI_s, pk_un (by omega), pI_s, pk_us]; rfl, by rw [pI_s, pk_us], FLs 1 (Or.inl rfl) (by omega) m11⟩⟩
