/-! An E, step by step on both sides. -/
theorem opc_W {k : Nat} (hk : k = 8 ∨ k = 9 ∨ k = 10 ∨ k = 15) : isW k ∧ k ≠ 6 ∧ rkK k = rkN k ∧ (rkN k = 1 ∨ rkN k = 2) := by
  rcases hk with rfl | rfl | rfl | rfl <;> refine ⟨by unfold isW; omega, by omega, by decide, by decide⟩
theorem M_145o {σ : HS} {K P V W : Nat → Nat} {N a : Nat} {k12 : Int32 → Int32 → HS → Option HS} (x1 x2 : Int32) (hS : TS K P V N) (hT : TM_ σ K P V W N) (h11 : σ.1 0 11 = nI a) (h13 : σ.1 0 13 = 0) (ha : a ≤ N) : FX12_expression_145 k12 x1 x2 σ = if K a = 8 ∨ K a = 9 then FX12_expression_234 k12 x1 1 0 σ else if K a = 10 ∨ K a = 15 then FX12_expression_234 k12 x1 1 1 σ else FX12_expression_186 k12 x1 x2 0 σ := by
  have i : ∀ k, k < 42 → FX12_is (nI k) σ = some (bI (decide (K a = k)), σ) := fun k hk => M_is hS hT h11 h13 ha hk
  have i8 : FX12_is (8 : Int32) σ = some (bI (decide (K a = 8)), σ) := i 8 (by omega)
  have i9 : FX12_is (9 : Int32) σ = some (bI (decide (K a = 9)), σ) := i 9 (by omega)
  have i10 : FX12_is (10 : Int32) σ = some (bI (decide (K a = 10)), σ) := i 10 (by omega)
  have i15 : FX12_is (15 : Int32) σ = some (bI (decide (K a = 15)), σ) := i 15 (by omega)
  have e86 : FX12_expression_186 k12 x1 x2 1 σ = if K a = 10 ∨ K a = 15 then FX12_expression_234 k12 x1 1 1 σ else FX12_expression_234 k12 x1 1 0 σ := by
    unfold FX12_expression_186 FX12_expression_229
    rw [if_neg one_ne, i10, bdI_s]
    by_cases h10 : K a = 10
    · rw [show decide (K a = 10) = true from decide_eq_true h10, bI_t, if_neg one_ne, if_pos (Or.inl h10)]
    · rw [show decide (K a = 10) = false from decide_eq_false h10, bI_f, if_pos rfl, i15, bdI_s]
      by_cases h15 : K a = 15
      · rw [show decide (K a = 15) = true from decide_eq_true h15, bI_t, if_neg one_ne, if_pos (Or.inr h15)]
      · rw [show decide (K a = 15) = false from decide_eq_false h15, bI_f, if_pos rfl, if_neg (fun h => h.elim h10 h15)]
  unfold FX12_expression_145 FX12_expression_181
  rw [i8, bdI_s]
  by_cases h8 : K a = 8
  · rw [show decide (K a = 8) = true from decide_eq_true h8, bI_t, if_neg one_ne, e86, if_neg (by omega), if_pos (Or.inl h8)]
  rw [show decide (K a = 8) = false from decide_eq_false h8, bI_f, if_pos rfl, i9, bdI_s]
  by_cases h9 : K a = 9
  · rw [show decide (K a = 9) = true from decide_eq_true h9, bI_t, if_neg one_ne, e86, if_neg (by omega), if_pos (Or.inr h9)]
  rw [show decide (K a = 9) = false from decide_eq_false h9, bI_f, if_pos rfl, i10, bdI_s, if_neg (show ¬ (K a = 8 ∨ K a = 9) from fun h => h.elim h8 h9)]
  by_cases h10 : K a = 10
  · rw [show decide (K a = 10) = true from decide_eq_true h10, bI_t, if_neg one_ne, e86, if_pos (Or.inl h10), if_pos (Or.inl h10)]
  rw [show decide (K a = 10) = false from decide_eq_false h10, bI_f, if_pos rfl, i15, bdI_s]
  by_cases h15 : K a = 15
  · rw [show decide (K a = 15) = true from decide_eq_true h15, bI_t, if_neg one_ne, e86, if_pos (Or.inr h15), if_pos (Or.inr h15)]
  rw [show decide (K a = 15) = false from decide_eq_false h15, bI_f, if_pos rfl, if_neg (fun h => h.elim h10 h15)]
def J1 (K P V W : Nat → Nat) (N cx cm s a0 n : Nat) : Prop := ∀ (a : Nat) (w : List Nat) (p : Pg) (σX σM : HS) (i fX fM gM : Nat) (x2 : Int32), a + n = N → ES K P V W N cx cm a w p σX σM → dpP p 0 (opN w) → a0 + p.length + opN w ≤ a → i ≤ a → n + 1 < fX → n + 1 < fM → n + 1 < gM → EO N a0 cx cm (420 * s + 420) (FX5_readSum_14 fX 1 (nI i) σX) (FX12_expression_23 (FX12_expression_12 gM) fM (nI 0) x2 σM) σX σM
def J0 (K P V W : Nat → Nat) (N cx cm s a0 n : Nat) : Prop := ∀ (a : Nat) (w : List Nat) (p : Pg) (σX σM : HS) (i fX fM gM : Nat) (x2 : Int32), a + n = N → ES K P V W N cx cm a w p σX σM → dpP p 0 (opN w + 1) → a0 + p.length + opN w ≤ a → i ≤ a → n + 1 < fX → n + 1 < fM → n + 1 < gM → EO N a0 cx cm (420 * s + 420) (FX5_readSum_14 fX 0 (nI i) σX) (FX12_expression_96 (FX12_expression_12 gM) fM (nI 0) x2 σM) σX σM
theorem lt_N {K P V : Nat → Nat} {N a : Nat} (hS : TS K P V N) (ha : a ≤ N) (h4 : a < 400) (h0 : K a ≠ 0) (h3 : K a ≠ 3) : a < N := by
  by_cases h : a = N
  · subst h
    have := hS.2.2.2.1
    omega
  · omega
theorem FLs {σ : HS} {P : Nat → Nat} {a : Nat} (ft : Nat) (hf : ft = 1 ∨ ft = 2) (ha : a ≤ 400) (h11 : σ.1 0 11 = nI a) : FL (pI (pI σ 0 13 (nI ft)) 0 14 (nI (P a))) ft (P a) := ⟨hf, by rw [pI_s, pk_un (by omega), pI_s, pk_us], by rw [pI_s, pk_us], a, ha, by rw [pI_s, pk_un (by omega), pI_s, pk_un (by omega)]; exact h11⟩
/-- a unit of the reference -/
theorem M_unit {σ : HS} {K P V W : Nat → Nat} {N a c k : Nat} {v : Int32} (hS : TS K P V N) (hT : TM_ σ K P V W N) (ha : a ≤ N) (h11 : σ.1 0 11 = nI a) (h13 : σ.1 0 13 = 0) (h39 : σ.1 0 39 = nI c) (hc : c < 840) (hu : (K a = 2 ∧ k = 0 ∧ v = nI (V a)) ∨ (33 ≤ K a ∧ k = 1 ∧ v = nI (K a - 33))) : FX12_unit σ = if a < 400 then some (pI (pI (pI (pI σ 26 c (nI k)) 27 c v) 0 39 (nI (c + 1))) 0 11 (nI (a + 1))) else some (pI (pI (pI (pI (pI σ 26 c (nI k)) 27 c v) 0 39 (nI (c + 1))) 0 13 2) 0 14 (nI (P a))) := by
  have h400 := hS.1
  have hkl := vk_lt (hS.2.1 a ha).1
  have i2 : FX12_is (2 : Int32) σ = some (bI (decide (K a = 2)), σ) := M_is (k := 2) hS hT h11 h13 ha (by omega)
  have i1 : ix (nI a) 403 = true := ix_nI (by omega) (by omega)
  have fe : FR (okM c (c + 1)) olM σ (pI (pI (pI σ 26 c (nI k)) 27 c v) 0 39 (nI (c + 1))) := ((FR.rf.p (by unfold okM; omega)).p (by unfold okM; omega)).p (by unfold okM; omega)
  have g := M_goesOn hS (TM_e fe hT) (a := a) (by rw [pI_s, pk_un (by omega), pI_o (by omega), pI_o (by omega)]; exact h11) (by rw [pI_s, pk_un (by omega), pI_o (by omega), pI_o (by omega)]; exact h13) ha
  have fin : (bdV (FX12_emit (nI k) v σ) fun σ_18 => bdV (FX12_goesOn σ_18) fun σ_20 => some σ_20) = if a < 400 then some (pI (pI (pI (pI σ 26 c (nI k)) 27 c v) 0 39 (nI (c + 1))) 0 11 (nI (a + 1))) else some (pI (pI (pI (pI (pI σ 26 c (nI k)) 27 c v) 0 39 (nI (c + 1))) 0 13 2) 0 14 (nI (P a))) := by
    rw [M_emit _ _ h39 hc, bdV_s, g]
    by_cases h4 : a < 400
    · rw [if_pos h4, bdV_s]
    · rw [if_neg h4, bdV_s]
  rw [← fin]
  unfold FX12_unit
  rw [i2, bdI_s]
  rcases hu with ⟨hk, rfl, rfl⟩ | ⟨hk, rfl, rfl⟩
  · rw [show decide (K a = 2) = true from decide_eq_true hk, bI_t, if_neg one_ne, h11, gd_t i1, cl_nI (by omega), (hT a ha).2.2.1 hk]
    rfl
  · rw [show decide (K a = 2) = false from decide_eq_false (by omega), bI_f, if_pos rfl, h13, if_pos rfl, h11, gd_t i1, gd_t i1, gd_t i1, cl_nI (by omega), (hT a ha).1, if_neg (show ¬ nI (K a) < (33 : Int32) from nI_nlt (b := 33) hk (by omega)), if_neg (show ¬ (41 : Int32) < nI (K a) from nI_nlt (a := 41) (by omega) (by omega)), show (33 : Int32) = nI 33 from rfl, pk_sub hk]
    rfl
theorem J1_step {K P V W : Nat → Nat} {N cx cm s a0 n : Nat} (hS : TS K P V N) (hs : s < 2) (hcm : cm ≤ 420 * s + a0) (hcm0 : 420 * s ≤ cm) (hcx : cx ≤ 8 + a0) (i1 : ∀ m, m + 1 = n → J1 K P V W N cx cm s a0 m) (i0 : ∀ m, m + 1 = n → J0 K P V W N cx cm s a0 m) : J1 K P V W N cx cm s a0 n := by
  intro a w p σX σM i fX fM gM x2 han hE hd hb hi hfX hfM hgM
  obtain ⟨hTX, hTM, ha, ⟨hPX, x8, x7, x11⟩, ⟨hPM, m11, m12, m13⟩, hR, hc6⟩ := id hE
  obtain ⟨fX, rfl⟩ : ∃ z, fX = z + 1 := ⟨fX - 1, by omega⟩
  obtain ⟨fM, rfl⟩ : ∃ z, fM = z + 1 := ⟨fM - 1, by omega⟩
  have hN := hS.1
  have hlen := okR_len w 3 (by omega) hR
  have hv := (hS.2.1 a ha).1
  have hkl := vk_lt hv
  have hX : FX5_readSum_14 (fX + 1) 1 (nI i) σX = if (K a = 6 ∨ K a = 2 ∨ 33 ≤ K a) then (if K a = 6 ∧ ¬ c6 w < 6 then some (0, pI (pI σX 2 11 2) 2 1 (nI (P a))) else FX5_readSum_80 (FX5_readSum_14 fX) 1 (nI i) (nI (xkN (K a))) σX) else some (0, pI (pI σX 2 11 1) 2 1 (nI (P a))) := by
    rw [FX5_readSum_14, if_neg (show ¬ (400 : Int32) < nI i from nI_nlt (a := 400) (by omega) (by omega)), X_kindNow hS hTX x8 ha, bdI_s, X_goes1, bdI_s, g1_k _ hkl]
    by_cases hg : K a = 6 ∨ K a = 2 ∨ 33 ≤ K a
    · rw [show decide (K a = 6 ∨ K a = 2 ∨ 33 ≤ K a) = true from decide_eq_true hg, bI_t, if_neg one_ne, if_pos hg]
      by_cases h6 : K a = 6
      · rw [if_pos (show nI (xkN (K a)) = (40 : Int32) by rw [h6]; rfl), x7]
        by_cases hc : c6 w < 6
        · rw [if_pos (show nI (c6 w) < (6 : Int32) from nI_lt (b := 6) hc (by omega)), if_neg (fun h => h.2 hc)]
        · rw [if_neg (show ¬ nI (c6 w) < (6 : Int32) from nI_nlt (b := 6) (by omega) (by omega)), if_pos ⟨h6, hc⟩, X_fail 2 hS hTX x8 ha, bdI_s]; rfl
      · rw [if_neg (show ¬ nI (xkN (K a)) = (40 : Int32) from fun e => h6 ((xk_eq hv (show vk 6 by unfold vk; omega)).mp e)), if_neg (fun h => h6 h.1)]
    · rw [show decide (K a = 6 ∨ K a = 2 ∨ 33 ≤ K a) = false from decide_eq_false hg, bI_f, if_pos rfl, if_neg hg, if_neg one_ne]
      unfold FX5_readSum_46
      rw [X_fail 1 hS hTX x8 ha, bdI_s]; rfl
  have j6 : FX12_is (6 : Int32) σM = some (bI (decide (K a = 6)), σM) := M_is (k := 6) hS hTM m11 m13 ha (by omega)
  rw [hX, FX12_expression_23, j6, bdI_s]
  by_cases h6 : K a = 6
  · rw [if_pos (Or.inl h6), show decide (K a = 6) = true from decide_eq_true h6, bI_t, if_neg one_ne, m12]
    by_cases hc : c6 w < 6
    · rw [if_neg (fun h => h.2 hc), if_neg (show ¬ nI (c6 w) = (6 : Int32) from ne_I (b := 6) (by omega) (by omega) (by omega))]
      obtain ⟨g1, g2⟩ := M_46 (c := cm) (e := 420 * s + 420) (k12 := FX12_expression_12 gM) (k23 := FX12_expression_23 (FX12_expression_12 gM) fM) (nI 0) x2 hS hTM ha m11 m12 hPM.1 m13 (show w.length < 64 by omega)
      unfold FX5_readSum_80
      rw [X_take hS hTX x8 ha hv, if_pos rfl]
      by_cases h4 : a < 400
      · rw [if_pos h4, bdI_s, if_neg one_ne, if_pos (show nI (xkN (K a)) = (40 : Int32) by rw [h6]; rfl), g1 h4]
        simp only [hl_]
        have t7 : (tkS σX P a).1 2 7 = nI (c6 w) := by rw [tk_f.1 2 7 (by unfold okT; omega)]; exact x7
        rw [t7, nI_1, show nI (xkN (K a)) = nI (xkN 6) by rw [h6]]
        have P7 : PXw (pI (tkS σX P a) 2 7 (nI (c6 w + 1))) w p cx := PX_e (ok := fun h j => h = 2 ∧ j = 7) (okl := olM) (FR.rf.p ⟨rfl, rfl⟩) (by omega) (fun j => by omega) (by omega) (fun j => by omega) (fun j => by omega) (tk_P hPX)
        obtain ⟨e1, P8⟩ := X_push (k := 6) P7 (by omega)
        rw [e1, bdV_s, nI_1]
        have haN := lt_N hS ha h4 (by omega) (by omega)
        obtain ⟨m, rfl⟩ : ∃ m, n = m + 1 := ⟨n - 1, by omega⟩
        obtain ⟨σX', hσX'⟩ : ∃ σX', σX' = pI (pI (pI (tkS σX P a) 2 7 (nI (c6 w + 1))) 18 w.length (nI (xkN 6))) 2 6 (nI (w.length + 1)) := ⟨_, rfl⟩
        obtain ⟨σM', hσM'⟩ : ∃ σM', σM' = pI (pI (pI (pI σM 0 12 (nI (c6 w + 1))) 0 11 (nI (a + 1))) 28 w.length 6) 0 43 (nI (w.length + 1)) := ⟨_, rfl⟩
        have fX' : FR (okX cx) olX σX σX' := by rw [hσX']; exact FR.p (FR.p (FR.p (tk_f.up tk_X (fun _ _ h => h)) (by unfold okX; omega)) (by unfold okX; omega)) (by unfold okX; omega)
        have fM' : FR (okM cm (420 * s + 420)) olM σM σM' := by rw [hσM']; exact (((FR.rf.p (by unfold okM; omega)).p (by unfold okM; omega)).p (by unfold okM; omega)).p (by unfold okM; omega)
        have PM' : PMw σM' (6 :: w) p cm := by
          rw [hσM']
          exact PMw_push (PM_e (ok := fun h j => h = 0 ∧ (j = 11 ∨ j = 12)) (okl := olM) ((FR.rf.p ⟨rfl, Or.inr rfl⟩).p ⟨rfl, Or.inl rfl⟩) (by omega) (fun j => by omega) (by omega) (fun j => by omega) (fun j => by omega) hPM)
        rw [← hσX', ← hσM']
        rw [← hσX'] at P8
        refine EO_tr fX' fM' (i1 m rfl (a + 1) (6 :: w) p σX' σM' (i + 1) fX fM gM x2 (by omega) ⟨TX_e fX' hTX, TM_e fM' hTM, by omega, ⟨P8, ?_, ?_, ?_⟩, ⟨PM', ?_, ?_, ?_⟩, ?_, ?_⟩ ?_ ?_ (by omega) (by omega) (by omega) (by omega))
        · rw [hσX', pI_s, pk_un (by omega), pI_o (by omega), pI_s, pk_un (by omega)]; exact tk_8
        · rw [hσX', pI_s, pk_un (by omega), pI_o (by omega), pI_s, pk_us]; rfl
        · rw [hσX', pI_s, pk_un (by omega), pI_o (by omega), pI_s, pk_un (by omega), tk_f.1 2 11 (by unfold okT; omega)]; exact x11
        · rw [hσM', pI_s, pk_un (by omega), pI_o (by omega), pI_s, pk_us]
        · rw [hσM', pI_s, pk_un (by omega), pI_o (by omega), pI_s, pk_un (by omega), pI_s, pk_us]; rfl
        · rw [hσM', pI_s, pk_un (by omega), pI_o (by omega), pI_s, pk_un (by omega), pI_s, pk_un (by omega)]; exact m13
        · simp only [okR]; rw [if_pos trivial]; exact ⟨by unfold isW; omega, hR⟩
        · simp only [c6]; rw [if_pos trivial]; omega
        · simp only [opN]; rw [if_pos trivial]; exact hd
        · simp only [opN]; rw [if_pos trivial]; omega
      · rw [if_neg h4, bdI_s, if_pos rfl]
        obtain ⟨σM', e1, f1, L1⟩ := g2 h4
        obtain ⟨fM, rfl⟩ : ∃ z, fM = z + 1 := ⟨fM - 1, by omega⟩
        rw [e1, M_23F _ _ L1]
        exact EO_fail 2 2 (P a) f1 rfl L1 rfl
    · rw [if_pos ⟨h6, hc⟩, if_pos (show nI (c6 w) = (6 : Int32) by rw [show c6 w = 6 by omega]; rfl), M_fail 2 hS hTM m11 m13 ha, bdV_s]
      have L0 : FL (pI (pI σM 0 13 2) 0 14 (nI (P a))) 2 (P a) := FLs 2 (Or.inr rfl) (by omega) m11
      obtain ⟨σM', e1, f1, L1⟩ := M_46F (c := cm) (e := 420 * s + 420) (k12 := FX12_expression_12 gM) (k23 := FX12_expression_23 (FX12_expression_12 gM) fM) (nI 0) x2 L0 (o := c6 w) (m := w.length) (by rw [pI_s, pk_un (by omega), pI_s, pk_un (by omega)]; exact m12) (by rw [pI_s, pk_un (by omega), pI_s, pk_un (by omega)]; exact hPM.1) (by omega)
      obtain ⟨fM, rfl⟩ : ∃ z, fM = z + 1 := ⟨fM - 1, by omega⟩
      rw [e1, M_23F _ _ L1]
      exact EO_fail 2 2 (P a) (((FR.rf.p (by unfold okM; omega)).p (by unfold okM; omega)).tr f1) rfl L1 rfl
  · rw [show decide (K a = 6) = false from decide_eq_false h6, bI_f, if_pos rfl, if_neg (show ¬ (K a = 6 ∧ ¬ c6 w < 6) from fun h => h6 h.1)]
    by_cases hu : K a = 2 ∨ 33 ≤ K a
    · rw [if_pos (Or.inr hu)]
      have hcl : cm + p.length < 840 := by omega
      obtain ⟨k, v, hkv⟩ : ∃ k v, (K a = 2 ∧ k = 0 ∧ v = nI (V a)) ∨ (33 ≤ K a ∧ k = 1 ∧ v = nI (K a - 33)) := by
        rcases hu with h | h
        · exact ⟨0, _, Or.inl ⟨h, rfl, rfl⟩⟩
        · exact ⟨1, _, Or.inr ⟨h, rfl, rfl⟩⟩
      have hk2 : k < 2 := by omega
      rw [M_unit hS hTM ha m11 m13 hPM.2.2.1 hcl hkv]
      unfold FX5_readSum_80
      rw [X_take hS hTX x8 ha hv, if_pos rfl]
      by_cases h4 : a < 400
      · have t12 : (tkS σX P a).1 12 5 = nI (cx + p.length) := by rw [tk_f.1 12 5 (by unfold okT; omega)]; exact hPX.2.2.1
        have eu : FX5_putUnit (nI (xkN (K a))) (tkS σX P a) = some (pI (pI (pI (tkS σX P a) 34 (cx + p.length) (nI (opX k))) 35 (cx + p.length) v) 12 5 (nI (cx + p.length + 1))) := by
          unfold FX5_putUnit
          rcases hkv with ⟨hk, rfl, rfl⟩ | ⟨hk, rfl, rfl⟩
          · rw [if_pos (show nI (xkN (K a)) = (23 : Int32) by rw [hk]; rfl), tk_9, (hTX a ha).2.2.1 hk, lN_i, X_putCode _ _ t12 (by omega), bdV_s]; rfl
          · have hxk : xkN (K a) = K a - 20 := by unfold xkN; rw [if_neg (by omega), if_neg (by omega), if_neg (by omega), if_neg (by omega), if_neg (by omega), if_neg (by omega), if_neg (by omega), if_neg (by omega), if_neg (by omega), if_neg (by omega), if_neg (by omega), if_neg (by omega), if_neg (by omega)]
            rw [if_neg (show ¬ nI (xkN (K a)) = (23 : Int32) by rw [hxk]; exact ne_I (b := 23) (by omega) (by omega) (by omega)), hxk, show (13 : Int32) = nI 13 from rfl, pk_sub (by omega), X_putCode _ _ t12 (by omega), bdV_s, show K a - 20 - 13 = K a - 33 by omega]; rfl
        have hrk : rkK (K a) = 0 := by unfold rkK; rw [if_neg (by omega), if_neg (by omega)]
        rw [if_pos h4, if_pos h4, bdI_s, if_neg one_ne, if_neg (show ¬ nI (xkN (K a)) = (40 : Int32) from fun e => h6 ((xk_eq hv (show vk 6 by unfold vk; omega)).mp e)), if_neg (show ¬ nI (xkN (K a)) = (41 : Int32) from fun e => by have := (xk_eq hv (show vk 7 by unfold vk; omega)).mp e; omega), X_rankOf, bdI_s, rk_k _ hkl, hrk, if_pos (show nI 0 ≤ (0 : Int32) by decide), eu, bdV_s, bdV_s, nI_1]
        have haN := lt_N hS ha h4 (by omega) (by omega)
        obtain ⟨m, rfl⟩ : ∃ m, n = m + 1 := ⟨n - 1, by omega⟩
        obtain ⟨σX', hσX'⟩ : ∃ σX', σX' = pI (pI (pI (tkS σX P a) 34 (cx + p.length) (nI (opX k))) 35 (cx + p.length) v) 12 5 (nI (cx + p.length + 1)) := ⟨_, rfl⟩
        obtain ⟨σM', hσM'⟩ : ∃ σM', σM' = pI (pI (pI (pI σM 26 (cm + p.length) (nI k)) 27 (cm + p.length) v) 0 39 (nI (cm + p.length + 1))) 0 11 (nI (a + 1)) := ⟨_, rfl⟩
        have fX' : FR (okX cx) olX σX σX' := by rw [hσX']; exact FR.p (FR.p (FR.p (tk_f.up tk_X (fun _ _ h => h)) (by unfold okX; omega)) (by unfold okX; omega)) (by unfold okX; omega)
        have fM' : FR (okM cm (420 * s + 420)) olM σM σM' := by rw [hσM']; exact (((FR.rf.p (by unfold okM; omega)).p (by unfold okM; omega)).p (by unfold okM; omega)).p (by unfold okM; omega)
        have PX' : PXw σX' w (p ++ [(k, v)]) cx := by rw [hσX']; exact PX_put k v _ v (tk_P hPX) rfl (fun _ => rfl)
        have PM' : PMw σM' w (p ++ [(k, v)]) cm := by
          rw [hσM']
          exact PM_e (ok := fun h j => h = 0 ∧ j = 11) (okl := olM) (FR.rf.p ⟨rfl, rfl⟩) (by omega) (fun j => by omega) (by omega) (fun j => by omega) (fun j => by omega) (PM_put k v _ v hPM rfl (fun _ => rfl))
        have m13' : σM'.1 0 13 = 0 := by rw [hσM', pI_s, pk_un (by omega), pI_s, pk_un (by omega), pI_o (by omega), pI_o (by omega)]; exact m13
        rw [← hσX', ← hσM', m13', if_pos (show (0 : Int32) ≤ 0 by decide)]
        refine EO_tr fX' fM' (i0 m rfl (a + 1) w (p ++ [(k, v)]) σX' σM' (i + 1) fX fu gM x2 (by omega) ⟨TX_e fX' hTX, TM_e fM' hTM, by omega, ⟨PX', ?_, ?_, ?_⟩, ⟨PM', ?_, ?_, m13'⟩, hR, hc6⟩ (dp_app p 0 (opN w) _ _ hd ?_) (by rw [List.length_append]; show a0 + (p.length + 1) + opN w ≤ a + 1; omega) (by omega) (by omega) (by show m + 1 < 5000; omega) (by omega))
        · rw [hσX', pI_o (by omega), pI_o (by omega), pI_o (by omega)]; exact tk_8
        · rw [hσX', pI_o (by omega), pI_o (by omega), pI_o (by omega), tk_f.1 2 7 (by unfold okT; omega)]; exact x7
        · rw [hσX', pI_o (by omega), pI_o (by omega), pI_o (by omega), tk_f.1 2 11 (by unfold okT; omega)]; exact x11
        · rw [hσM', pI_s, pk_us]
        · rw [hσM', pI_s, pk_un (by omega), pI_s, pk_un (by omega), pI_o (by omega), pI_o (by omega)]; exact m12
        · simp only [dpP]
          rcases hkv with ⟨hk, rfl, rfl⟩ | ⟨hk, rfl, rfl⟩
          · rw [if_pos rfl]; exact ⟨by omega, trivial⟩
          · rw [if_neg (by omega), if_pos rfl]; exact ⟨by omega, ⟨K a - 33, by omega, rfl⟩, trivial⟩
      · rw [if_neg h4, if_neg h4, bdI_s, if_pos rfl, bdV_s]
        have L0 : FL (pI (pI (pI (pI (pI σM 26 (cm + p.length) (nI k)) 27 (cm + p.length) v) 0 39 (nI (cm + p.length + 1))) 0 13 2) 0 14 (nI (P a))) 2 (P a) := FLs 2 (Or.inr rfl) (by omega) (by rw [pI_s, pk_un (by omega), pI_o (by omega), pI_o (by omega)]; exact m11)
        rw [if_neg (nz13 L0).2]
        exact EO_fail 2 2 (P a) (((((FR.rf.p (by unfold okM; omega)).p (by unfold okM; omega)).p (by unfold okM; omega)).p (by unfold okM; omega)).p (by unfold okM; omega)) rfl L0 rfl
    · rw [if_neg (show ¬ (K a = 6 ∨ K a = 2 ∨ 33 ≤ K a) from fun h => h.elim h6 hu)]
      have j2 : FX12_is (2 : Int32) σM = some (bI (decide (K a = 2)), σM) := M_is (k := 2) hS hTM m11 m13 ha (by omega)
      have i403 : ix (nI a) 403 = true := ix_nI (by omega) (by omega)
      have eu : FX12_unit σM = some (pI (pI σM 0 13 1) 0 14 (nI (P a))) := by
        unfold FX12_unit FX12_unit_88
        rw [j2, bdI_s, show decide (K a = 2) = false from decide_eq_false (by omega), bI_f, if_pos rfl, m13, if_pos rfl, m11, gd_t i403, cl_nI (by omega), (hTM a ha).1, if_pos (show nI (K a) < (33 : Int32) from nI_lt (b := 33) (by omega) (by omega)), M_fail 1 hS hTM m11 m13 ha, bdV_s]
      have L0 : FL (pI (pI σM 0 13 1) 0 14 (nI (P a))) 1 (P a) := FLs 1 (Or.inl rfl) (by omega) m11
      rw [eu, bdV_s, if_neg (nz13 L0).2]
      exact EO_fail 1 1 (P a) ((FR.rf.p (by unfold okM; omega)).p (by unfold okM; omega)) rfl L0 rfl
