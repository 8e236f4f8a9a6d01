/-! An E behind a unit; a whole E. -/
theorem J0_step {K P V W : Nat → Nat} {N cx cm s a0 n : Nat} (hS : TS K P V N) (hs : s < 2) (hcm : cm ≤ 420 * s + a0) (hcm0 : 420 * s ≤ cm) (hcx : cx ≤ 8 + a0) (i1 : ∀ m, m + 1 = n → J1 K P V W N cx cm s a0 m) (i0 : ∀ m, m + 1 = n → J0 K P V W N cx cm s a0 m) : J0 K P V W N cx cm s a0 n := by
  intro a w p σX σM i fX fM gM x2 han hE hd hb hi hfX hfM hgM
  obtain ⟨hTX, hTM, ha, ⟨hPX, x8, x7, x11⟩, ⟨hPM, m11, m12, m13⟩, hR, hc6⟩ := id hE
  obtain ⟨fX, rfl⟩ : ∃ z, fX = z + 1 := ⟨fX - 1, by omega⟩
  obtain ⟨fM, rfl⟩ : ∃ z, fM = z + 1 := ⟨fM - 1, by omega⟩
  obtain ⟨gM, rfl⟩ : ∃ z, gM = z + 1 := ⟨gM - 1, by omega⟩
  have hN := hS.1
  have hlen := okR_len w 3 (by omega) hR
  have hv := (hS.2.1 a ha).1
  have hkl := vk_lt hv
  have hX : FX5_readSum_14 (fX + 1) 0 (nI i) σX = if (0 < rkK (K a) ∨ (K a = 7 ∧ 0 < c6 w)) then FX5_readSum_80 (FX5_readSum_14 fX) 0 (nI i) (nI (xkN (K a))) σX else if c6 w = 0 then (bdV (FX5_putPending (1 : Int32) σX) fun σ_51 => some ((1 : Int32), σ_51)) else some (0, pI (pI σX 2 11 1) 2 1 (nI (P a))) := by
    rw [FX5_readSum_14, if_neg (show ¬ (400 : Int32) < nI i from nI_nlt (a := 400) (by omega) (by omega)), X_kindNow hS hTX x8 ha, bdI_s, X_goes0 hv x7 hc6, bdI_s]
    by_cases hg : 0 < rkK (K a) ∨ (K a = 7 ∧ 0 < c6 w)
    · have h6 : K a ≠ 6 := by
        intro e
        rw [e] at hg
        exact hg.elim (fun h => absurd h (by decide)) (fun h => by omega)
      rw [show decide (0 < rkK (K a) ∨ (K a = 7 ∧ 0 < c6 w)) = true from decide_eq_true hg, bI_t, if_neg one_ne, if_pos hg, if_neg (show ¬ nI (xkN (K a)) = (40 : Int32) from fun e => h6 ((xk_eq hv (show vk 6 by unfold vk; omega)).mp e))]
    · rw [show decide (0 < rkK (K a) ∨ (K a = 7 ∧ 0 < c6 w)) = false from decide_eq_false hg, bI_f, if_pos rfl, if_neg hg, if_pos rfl, x7]
      by_cases hc : c6 w = 0
      · rw [if_pos (show nI (c6 w) ≤ (0 : Int32) by rw [hc]; decide), if_pos hc]
      · rw [if_neg (show ¬ nI (c6 w) ≤ (0 : Int32) from nI_ge (a := 0) (by omega) (by omega)), if_neg hc]
        unfold FX5_readSum_46
        rw [X_fail 1 hS hTX x8 ha, bdI_s]; rfl
  have j7 : FX12_is (7 : Int32) σM = some (bI (decide (K a = 7)), σM) := M_is (k := 7) hS hTM m11 m13 ha (by omega)
  have he : 420 * s + 420 ≤ 840 := by omega
  rw [hX, FX12_expression_96, j7, bdI_s]
  by_cases hop : 0 < rkK (K a)
  · have hk4 : K a = 8 ∨ K a = 9 ∨ K a = 10 ∨ K a = 15 := by
      unfold rkK at hop
      by_cases h1 : K a = 8 ∨ K a = 9
      · omega
      · rw [if_neg h1] at hop
        by_cases h2 : K a = 10 ∨ K a = 15
        · omega
        · rw [if_neg h2] at hop; omega
    obtain ⟨oW, o6, oR, oR2⟩ := opc_W hk4
    have h7 : K a ≠ 7 := by omega
    obtain ⟨r, hr⟩ : ∃ r, r = rkN (K a) := ⟨_, rfl⟩
    rw [← hr] at oR oR2
    rw [if_pos (Or.inl hop), show decide (K a = 7) = false from decide_eq_false h7, bI_f, if_pos rfl, M_145o (nI 0) x2 hS hTM m11 m13 ha]
    obtain ⟨y, hy, e145⟩ : ∃ y : Int32, ((r = 1 ∧ y = 0) ∨ (r = 2 ∧ y = 1)) ∧ (if K a = 8 ∨ K a = 9 then FX12_expression_234 (FX12_expression_12 (gM + 1)) (nI 0) 1 0 σM else if K a = 10 ∨ K a = 15 then FX12_expression_234 (FX12_expression_12 (gM + 1)) (nI 0) 1 1 σM else FX12_expression_186 (FX12_expression_12 (gM + 1)) (nI 0) x2 0 σM) = FX12_expression_234 (FX12_expression_12 (gM + 1)) (nI 0) 1 y σM := by
      by_cases h1 : K a = 8 ∨ K a = 9
      · exact ⟨0, Or.inl ⟨by rw [hr]; unfold rkN; rw [if_pos h1], rfl⟩, by rw [if_pos h1]⟩
      · have h2 : K a = 10 ∨ K a = 15 := by omega
        exact ⟨1, Or.inr ⟨by rw [hr]; unfold rkN; rw [if_neg h1], rfl⟩, by rw [if_neg h1, if_pos h2]⟩
    rw [e145]
    obtain ⟨σ1, c1, f1, P1⟩ := M_comes (c := cm) he hy w p fu 3 σM hR hPM (by omega) (by omega) (by show w.length < 5000; omega)
    have pl := pw_len r w
    obtain ⟨pc6, pop⟩ := pw_c6 r w
    have q11 : σ1.1 0 11 = nI a := by rw [f1.1 0 11 (by unfold okQ; omega)]; exact m11
    have q13 : σ1.1 0 13 = 0 := by rw [f1.1 0 13 (by unfold okQ; omega)]; exact m13
    have q12 : σ1.1 0 12 = nI (c6 w) := by rw [f1.1 0 12 (by unfold okQ; omega)]; exact m12
    have f1M : FR (okM cm (420 * s + 420)) olM σM σ1 := f1.up okQ_M (fun _ _ h => h)
    have T1 := TM_e f1M hTM
    obtain ⟨σ2, hσ2⟩ : ∃ σ2, σ2 = pI (pI σ1 28 (pwW r w).length (nI (K a))) 0 43 (nI ((pwW r w).length + 1)) := ⟨_, rfl⟩
    have f2M : FR (okM cm (420 * s + 420)) olM σM σ2 := by rw [hσ2]; exact (f1M.p (by unfold okM; omega)).p (by unfold okM; omega)
    have P2 : PMw σ2 (K a :: pwW r w) (p ++ pwP r w) cm := by rw [hσ2]; exact PMw_push P1
    have q211 : σ2.1 0 11 = nI a := by rw [hσ2, pI_s, pk_un (by omega), pI_o (by omega)]; exact q11
    have q213 : σ2.1 0 13 = 0 := by rw [hσ2, pI_s, pk_un (by omega), pI_o (by omega)]; exact q13
    have q212 : σ2.1 0 12 = nI (c6 w) := by rw [hσ2, pI_s, pk_un (by omega), pI_o (by omega)]; exact q12
    have e234 : FX12_expression_234 (FX12_expression_12 (gM + 1)) (nI 0) 1 y σM = bdV (FX12_goesOn σ2) fun σ_15 => FX12_expression_12 (gM + 1) (nI 0) 1 σ_15 := by
      unfold FX12_expression_234 FX12_comesOut
      rw [c1, bdV_s, q11, gd_t (ix_nI (by omega) (by omega)), P1.1, gd_t (ix_nI (by omega) (by omega))]
      simp only [hl_]
      rw [cl_nI (by omega), cl_nI (by omega), (T1 a ha).1, pI_o (show 0 ≠ 28 by omega), P1.1, nI_1, ← hσ2]
    have T2 := TM_e f2M hTM
    rw [e234, M_goesOn hS T2 q211 q213 ha]
    unfold FX5_readSum_80
    rw [X_take hS hTX x8 ha hv, if_pos rfl]
    by_cases h4 : a < 400
    · rw [if_pos h4, if_pos h4, bdI_s, if_neg one_ne, bdV_s, if_neg (show ¬ nI (xkN (K a)) = (40 : Int32) from fun e => o6 ((xk_eq hv (show vk 6 by unfold vk; omega)).mp e)), if_neg (show ¬ nI (xkN (K a)) = (41 : Int32) from fun e => h7 ((xk_eq hv (show vk 7 by unfold vk; omega)).mp e)), X_rankOf, bdI_s, rk_k _ hkl, oR, if_neg (show ¬ nI r ≤ (0 : Int32) from nI_ge (a := 0) (by omega) (by omega)), X_rankOf, bdI_s, rk_k _ hkl, oR]
      obtain ⟨σ3, c3, f3, P3⟩ := X_pend (c := cx) oR2 w p fu 3 (tkS σX P a) hR (tk_P hPX) (by omega) (by omega) (by show w.length < 5000; omega)
      obtain ⟨e5, P5⟩ := X_push (k := K a) P3 (by omega)
      unfold FX5_putPending
      rw [c3, bdV_s, e5, bdV_s, nI_1]
      have haN := lt_N hS ha h4 (by omega) (by omega)
      obtain ⟨m, rfl⟩ : ∃ m, n = m + 1 := ⟨n - 1, by omega⟩
      obtain ⟨σX', hσX'⟩ : ∃ σX', σX' = pI (pI σ3 18 (pwW r w).length (nI (xkN (K a)))) 2 6 (nI ((pwW r w).length + 1)) := ⟨_, rfl⟩
      obtain ⟨σM', hσM'⟩ : ∃ σM', σM' = pI σ2 0 11 (nI (a + 1)) := ⟨_, rfl⟩
      have f3X : FR (okX cx) olX σX σ3 := (tk_f.up tk_X (fun _ _ h => h)).tr (f3.up okP_X ol0)
      have fX' : FR (okX cx) olX σX σX' := by rw [hσX']; exact (f3X.p (by unfold okX; omega)).p (by unfold okX; omega)
      have fM' : FR (okM cm (420 * s + 420)) olM σM σM' := by rw [hσM']; exact f2M.p (by unfold okM; omega)
      have PM' : PMw σM' (K a :: pwW r w) (p ++ pwP r w) cm := by
        rw [hσM']
        exact PM_e (ok := fun h j => h = 0 ∧ j = 11) (okl := olM) (FR.rf.p ⟨rfl, rfl⟩) (by omega) (fun j => by omega) (by omega) (fun j => by omega) (fun j => by omega) P2
      have m13' : σM'.1 0 13 = 0 := by rw [hσM', pI_s, pk_un (by omega)]; exact q213
      rw [← hσX', ← hσM', FX12_expression_12, if_neg one_ne, m13', if_pos rfl]
      rw [← hσX'] at P5
      have hop1 : opN (K a :: pwW r w) = opN (pwW r w) + 1 := by simp only [opN]; rw [if_neg o6]
      have hc1 : c6 (K a :: pwW r w) = c6 w := by simp only [c6]; rw [if_neg o6, pc6]; rfl
      have x3 : ∀ j, j = 7 ∨ j = 11 → σX'.1 2 j = σX.1 2 j := by
        intro j hj
        rw [hσX', pI_s, pk_un (by omega), pI_o (by omega), f3.1 2 j (by unfold okP; omega), tk_f.1 2 j (by unfold okT; omega)]
      refine EO_tr fX' fM' (i1 m rfl (a + 1) (K a :: pwW r w) (p ++ pwP r w) σX' σM' (i + 1) fX fu gM 1 (by omega) ⟨TX_e fX' hTX, TM_e fM' hTM, by omega, ⟨P5, ?_, ?_, ?_⟩, ⟨PM', ?_, ?_, m13'⟩, ?_, by rw [hc1]; exact hc6⟩ ?_ ?_ (by omega) (by omega) (by show m + 1 < 5000; omega) (by omega))
      · rw [hσX', pI_s, pk_un (by omega), pI_o (by omega), f3.1 2 8 (by unfold okP; omega)]; exact tk_8
      · rw [x3 7 (Or.inl rfl), hc1]; exact x7
      · rw [x3 11 (Or.inr rfl)]; exact x11
      · rw [hσM', pI_s, pk_us]
      · rw [hσM', pI_s, pk_un (by omega), hc1]; exact q212
      · simp only [okR]; rw [if_neg o6, ← hr]; exact ⟨oW, by omega, pw_okR r (by omega) w 3 hR⟩
      · rw [hop1]; exact dp_app p 0 (opN w + 1) _ _ hd (dp_pw r w)
      · rw [hop1, List.length_append]; omega
    · rw [if_neg h4, if_neg h4, bdI_s, if_pos rfl, bdV_s]
      have L0 : FL (pI (pI σ2 0 13 2) 0 14 (nI (P a))) 2 (P a) := FLs 2 (Or.inr rfl) (by omega) q211
      rw [M_12F _ L0]
      exact EO_fail 2 2 (P a) ((f2M.p (by unfold okM; omega)).p (by unfold okM; omega)) rfl L0 rfl
  · have hk4 : ¬ (K a = 8 ∨ K a = 9) ∧ ¬ (K a = 10 ∨ K a = 15) := by
      constructor
      · intro h; exact hop (by unfold rkK; rw [if_pos h]; omega)
      · intro h; exact hop (by unfold rkK; rw [if_neg (by omega), if_pos h]; omega)
    by_cases h7 : K a = 7 ∧ 0 < c6 w
    · rw [if_pos (Or.inr h7), show decide (K a = 7) = true from decide_eq_true h7.1, bI_t, if_neg one_ne, m12, if_neg (show ¬ nI (c6 w) ≤ nI 0 from nI_ge (by omega) (by omega))]
      obtain ⟨σ1, c1, f1, P1⟩ := M_comes (c := cm) (r := 1) (x1 := 0) he (Or.inl ⟨rfl, rfl⟩) w p fu 3 σM hR hPM (by omega) (by omega) (by show w.length < 5000; omega)
      have pl := pw_len 1 w
      obtain ⟨pc6, pop⟩ := pw_c6 1 w
      obtain ⟨v, hwv, hRv⟩ : ∃ v, pwW 1 w = 6 :: v ∧ okR v 3 := by
        rcases pw_1 w 3 hR with h | h
        · rw [h] at pc6; simp only [c6] at pc6; omega
        · exact h
      have hdp := dp_pw 1 w
      rw [hwv] at P1 pl pc6 pop hdp
      have hc1 : c6 w = c6 v + 1 := by rw [← pc6]; simp only [c6]; rw [if_pos trivial]
      have ho1 : opN (6 :: v) = opN v := by simp only [opN]; rw [if_pos trivial]; rfl
      rw [ho1] at pop hdp
      simp only [List.length_cons] at pl
      have q11 : σ1.1 0 11 = nI a := by rw [f1.1 0 11 (by unfold okQ; omega)]; exact m11
      have q13 : σ1.1 0 13 = 0 := by rw [f1.1 0 13 (by unfold okQ; omega)]; exact m13
      have q12 : σ1.1 0 12 = nI (c6 w) := by rw [f1.1 0 12 (by unfold okQ; omega)]; exact m12
      have f1M : FR (okM cm (420 * s + 420)) olM σM σ1 := f1.up okQ_M (fun _ _ h => h)
      obtain ⟨σ2, hσ2⟩ : ∃ σ2, σ2 = pI (pI σ1 0 43 (nI v.length)) 0 12 (nI (c6 v)) := ⟨_, rfl⟩
      have f2M : FR (okM cm (420 * s + 420)) olM σM σ2 := by rw [hσ2]; exact (f1M.p (by unfold okM; omega)).p (by unfold okM; omega)
      have P2 : PMw σ2 v (p ++ pwP 1 w) cm := by
        obtain ⟨a1, a2, a3, a4⟩ := P1
        rw [hσ2]
        refine ⟨by rw [pI_s, pk_un (by omega), pI_s, pk_us], fun j hj => ?_, by rw [pI_s, pk_un (by omega), pI_s, pk_un (by omega)]; exact a3, by rw [pI_o (by omega), pI_o (by omega), pI_o (by omega), pI_o (by omega)]; exact a4⟩
        have := a2 (j + 1) (by simp only [List.length_cons]; omega)
        simp only [List.length_cons] at this
        rw [pI_o (by omega), pI_o (by omega), show v.length - 1 - j = v.length + 1 - 1 - (j + 1) by omega, this]
        rfl
      have q211 : σ2.1 0 11 = nI a := by rw [hσ2, pI_s, pk_un (by omega), pI_s, pk_un (by omega)]; exact q11
      have q213 : σ2.1 0 13 = 0 := by rw [hσ2, pI_s, pk_un (by omega), pI_s, pk_un (by omega)]; exact q13
      have eM : (bdV (FX12_comesOut (0 : Int32) σM) fun σ_50 => hl_ (pI σ_50 0 43 ((σ_50.1 0 43) - (1 : Int32))) fun σ_52 => hl_ (pI σ_52 0 12 ((σ_52.1 0 12) - (1 : Int32))) fun σ_53 => bdV (FX12_goesOn σ_53) fun σ_54 => FX12_expression_96 (FX12_expression_12 (gM + 1)) fM (nI 0) x2 σ_54) = bdV (FX12_goesOn σ2) fun σ_54 => FX12_expression_96 (FX12_expression_12 (gM + 1)) fM (nI 0) x2 σ_54 := by
        unfold FX12_comesOut
        rw [c1, bdV_s]
        simp only [hl_]
        rw [show σ1.1 0 43 = nI (v.length + 1) from P1.1, s1I, pI_s, pk_un (show (12 : Nat) ≠ 43 by omega), q12, hc1, s1I, ← hσ2]
      have T2 := TM_e f2M hTM
      rw [eM, M_goesOn hS T2 q211 q213 ha]
      unfold FX5_readSum_80
      rw [X_take hS hTX x8 ha hv, if_pos rfl]
      by_cases h4 : a < 400
      · have hx7 : nI (xkN (K a)) = (41 : Int32) := by rw [h7.1]; rfl
        rw [if_pos h4, if_pos h4, bdI_s, if_neg one_ne, bdV_s, if_neg (show ¬ nI (xkN (K a)) = (40 : Int32) from fun e => by have := (xk_eq hv (show vk 6 by unfold vk; omega)).mp e; omega), if_pos hx7]
        simp only [hl_]
        have t7 : (tkS σX P a).1 2 7 = nI (c6 v + 1) := by rw [tk_f.1 2 7 (by unfold okT; omega), ← hc1]; exact x7
        rw [t7, s1I]
        have P7 : PXw (pI (tkS σX P a) 2 7 (nI (c6 v))) w p cx := PX_e (ok := fun h j => h = 2 ∧ j = 7) (okl := olM) (FR.rf.p ⟨rfl, rfl⟩) (by omega) (fun j => by omega) (by omega) (fun j => by omega) (fun j => by omega) (tk_P hPX)
        obtain ⟨σ3, c3, f3, P3⟩ := X_pend (c := cx) (r := 1) (Or.inl rfl) w p fu 3 _ hR P7 (by omega) (by omega) (by show w.length < 5000; omega)
        rw [hwv] at P3
        unfold FX5_putPending
        rw [show (1 : Int32) = nI 1 from rfl, c3, bdV_s, P3.1]
        simp only [List.length_cons]
        rw [pk_sub (show 1 ≤ v.length + 1 by omega), show v.length + 1 - 1 = v.length by omega, show maxI (0 : Int32) (nI v.length) = nI v.length from (max_I (a := 0) (b := v.length) (by omega) (by omega)).trans (congrArg nI (Nat.zero_max _)), nI_add]
        have haN := lt_N hS ha h4 (by omega) (by omega)
        obtain ⟨m, rfl⟩ : ∃ m, n = m + 1 := ⟨n - 1, by omega⟩
        obtain ⟨σX', hσX'⟩ : ∃ σX', σX' = pI σ3 2 6 (nI v.length) := ⟨_, rfl⟩
        obtain ⟨σM', hσM'⟩ : ∃ σM', σM' = pI σ2 0 11 (nI (a + 1)) := ⟨_, rfl⟩
        have f3X : FR (okX cx) olX σX σ3 := (FR.p (tk_f.up tk_X (fun _ _ h => h)) (by unfold okX; omega)).tr (f3.up okP_X ol0)
        have fX' : FR (okX cx) olX σX σX' := by rw [hσX']; exact f3X.p (by unfold okX; omega)
        have fM' : FR (okM cm (420 * s + 420)) olM σM σM' := by rw [hσM']; exact f2M.p (by unfold okM; omega)
        have PX' : PXw σX' v (p ++ pwP 1 w) cx := by
          obtain ⟨a1, a2, a3, a4⟩ := P3
          rw [hσX']
          refine ⟨by rw [pI_s, pk_us], fun j hj => ?_, by rw [pI_o (by omega)]; exact a3, by rw [pI_o (by omega), pI_o (by omega)]; exact a4⟩
          have := a2 (j + 1) (by simp only [List.length_cons]; omega)
          simp only [List.length_cons] at this
          rw [pI_o (by omega), show v.length - 1 - j = v.length + 1 - 1 - (j + 1) by omega, this]
          rfl
        have PM' : PMw σM' v (p ++ pwP 1 w) cm := by
          rw [hσM']
          exact PM_e (ok := fun h j => h = 0 ∧ j = 11) (okl := olM) (FR.rf.p ⟨rfl, rfl⟩) (by omega) (fun j => by omega) (by omega) (fun j => by omega) (fun j => by omega) P2
        rw [← hσX', ← hσM']
        refine EO_tr fX' fM' (i0 m rfl (a + 1) v (p ++ pwP 1 w) σX' σM' (i + 1) fX fM (gM + 1) x2 (by omega) ⟨TX_e fX' hTX, TM_e fM' hTM, by omega, ⟨PX', ?_, ?_, ?_⟩, ⟨PM', ?_, ?_, ?_⟩, hRv, by omega⟩ (dp_app p 0 (opN w + 1) _ _ hd hdp) (by rw [List.length_append]; omega) (by omega) (by omega) (by omega) (by omega))
        · rw [hσX', pI_s, pk_un (by omega), f3.1 2 8 (by unfold okP; omega), pI_s, pk_un (by omega)]; exact tk_8
        · rw [hσX', pI_s, pk_un (by omega), f3.1 2 7 (by unfold okP; omega), pI_s, pk_us]
        · rw [hσX', pI_s, pk_un (by omega), f3.1 2 11 (by unfold okP; omega), pI_s, pk_un (by omega), tk_f.1 2 11 (by unfold okT; omega)]; exact x11
        · rw [hσM', pI_s, pk_us]
        · rw [hσM', pI_s, pk_un (by omega), hσ2, pI_s, pk_us]
        · rw [hσM', pI_s, pk_un (by omega)]; exact q213
      · rw [if_neg h4, if_neg h4, bdI_s, if_pos rfl, bdV_s]
        have L0 : FL (pI (pI σ2 0 13 2) 0 14 (nI (P a))) 2 (P a) := FLs 2 (Or.inr rfl) (by omega) q211
        have P0 : PMw (pI (pI σ2 0 13 2) 0 14 (nI (P a))) v (p ++ pwP 1 w) cm := PM_e (ok := fun h j => h = 0 ∧ (j = 13 ∨ j = 14)) (okl := olM) ((FR.rf.p ⟨rfl, Or.inl rfl⟩).p ⟨rfl, Or.inr rfl⟩) (by omega) (fun j => by omega) (by omega) (fun j => by omega) (fun j => by omega) P2
        obtain ⟨fM, rfl⟩ : ∃ z, fM = z + 1 := ⟨fM - 1, by omega⟩
        obtain ⟨σM', e9, f9, L9⟩ := M_96F (f := fM) (k12 := FX12_expression_12 (gM + 1)) (nI 0) x2 he hRv P0 (by rw [List.length_append]; omega) (by omega) L0
        rw [e9]
        exact EO_fail 2 2 (P a) (((f2M.p (by unfold okM; omega)).p (by unfold okM; omega)).tr (f9.up okQ_M (fun _ _ h => h))) rfl L9 rfl
    · have hg : ¬ (0 < rkK (K a) ∨ (K a = 7 ∧ 0 < c6 w)) := fun h => h.elim hop h7
      rw [if_neg hg]
      have eM : (if bI (decide (K a = 7)) = 0 then FX12_expression_145 (FX12_expression_12 (gM + 1)) (nI 0) x2 σM else if (σM.1 0 12) ≤ nI 0 then FX12_expression_145 (FX12_expression_12 (gM + 1)) (nI 0) x2 σM else bdV (FX12_comesOut (0 : Int32) σM) fun σ_50 => hl_ (pI σ_50 0 43 ((σ_50.1 0 43) - (1 : Int32))) fun σ_52 => hl_ (pI σ_52 0 12 ((σ_52.1 0 12) - (1 : Int32))) fun σ_53 => bdV (FX12_goesOn σ_53) fun σ_54 => FX12_expression_96 (FX12_expression_12 (gM + 1)) fM (nI 0) x2 σ_54) = FX12_expression_186 (FX12_expression_12 (gM + 1)) (nI 0) x2 0 σM := by
        have e145 := M_145o (k12 := FX12_expression_12 (gM + 1)) (nI 0) x2 hS hTM m11 m13 ha
        rw [if_neg hk4.1, if_neg hk4.2] at e145
        by_cases k7 : K a = 7
        · have hc0 : c6 w = 0 := by omega
          rw [show decide (K a = 7) = true from decide_eq_true k7, bI_t, if_neg one_ne, m12, if_pos (show nI (c6 w) ≤ nI 0 by rw [hc0]; decide), e145]
        · rw [show decide (K a = 7) = false from decide_eq_false k7, bI_f, if_pos rfl, e145]
      rw [eM]
      unfold FX12_expression_186 FX12_expression_204 FX12_comesOut
      rw [if_pos rfl, m12]
      by_cases hc0 : c6 w = 0
      · rw [if_pos hc0, if_pos (show nI (c6 w) ≤ nI 0 by rw [hc0]; decide)]
        obtain ⟨σ1, c1, f1, P1⟩ := M_comes (c := cm) (r := 1) (x1 := 0) he (Or.inl ⟨rfl, rfl⟩) w p fu 3 σM hR hPM (by omega) (by omega) (by show w.length < 5000; omega)
        obtain ⟨σ3, c3, f3, P3⟩ := X_pend (c := cx) (r := 1) (Or.inl rfl) w p fu 3 σX hR hPX (by omega) (by omega) (by show w.length < 5000; omega)
        obtain ⟨pc6, pop⟩ := pw_c6 1 w
        have hw0 : pwW 1 w = [] := by
          rcases pw_1 w 3 hR with h | ⟨v, h, -⟩
          · exact h
          · rw [h] at pc6; simp only [c6] at pc6; rw [if_pos trivial] at pc6; omega
        have hdp := dp_pw 1 w
        rw [hw0] at P1 P3 pop hdp
        unfold FX5_putPending
        rw [c1, bdV_s, show (1 : Int32) = nI 1 from rfl, c3, bdV_s]
        refine ⟨σ3, σ1, f3.up okP_X ol0, f1.up okQ_M (fun _ _ h => h), rfl, Or.inl ⟨a, p ++ pwP 1 w, rfl, ha, ⟨P3, ?_, ?_⟩, ⟨P1, ?_, ?_, ?_⟩, dp_app p 0 (opN w + 1) _ _ hd hdp, ?_⟩⟩
        · rw [f3.1 2 8 (by unfold okP; omega)]; exact x8
        · rw [f3.1 2 11 (by unfold okP; omega)]; exact x11
        · rw [f1.1 0 11 (by unfold okQ; omega)]; exact m11
        · rw [f1.1 0 12 (by unfold okQ; omega), m12, hc0]
        · rw [f1.1 0 13 (by unfold okQ; omega)]; exact m13
        · rw [List.length_append]; simp only [opN] at pop; omega
      · rw [if_neg hc0, if_neg (show ¬ nI (c6 w) ≤ nI 0 from nI_ge (by omega) (by omega)), M_fail 1 hS hTM m11 m13 ha, bdV_s]
        have L0 : FL (pI (pI σM 0 13 1) 0 14 (nI (P a))) 1 (P a) := FLs 1 (Or.inl rfl) (by omega) m11
        have P0 : PMw (pI (pI σM 0 13 1) 0 14 (nI (P a))) w p cm := PM_e (ok := fun h j => h = 0 ∧ (j = 13 ∨ j = 14)) (okl := olM) ((FR.rf.p ⟨rfl, Or.inl rfl⟩).p ⟨rfl, Or.inr rfl⟩) (by omega) (fun j => by omega) (by omega) (fun j => by omega) (fun j => by omega) hPM
        obtain ⟨σ1, c1, f1, -⟩ := M_comes (c := cm) (r := 1) (x1 := 0) he (Or.inl ⟨rfl, rfl⟩) w p fu 3 _ hR P0 (by omega) (by omega) (by show w.length < 5000; omega)
        rw [c1, bdV_s]
        exact EO_fail 1 1 (P a) (((FR.rf.p (by unfold okM; omega)).p (by unfold okM; omega)).tr (f1.up okQ_M (fun _ _ h => h))) rfl (FL_f f1 (by unfold okQ; omega) (by unfold okQ; omega) (by unfold okQ; omega) L0) rfl
theorem E_go {K P V W : Nat → Nat} {N cx cm s a0 : Nat} (hS : TS K P V N) (hs : s < 2) (hcm : cm ≤ 420 * s + a0) (hcm0 : 420 * s ≤ cm) (hcx : cx ≤ 8 + a0) : ∀ n, J1 K P V W N cx cm s a0 n ∧ J0 K P V W N cx cm s a0 n := by
  intro n
  induction n with
  | zero => exact ⟨J1_step hS hs hcm hcm0 hcx (fun m h => by omega) (fun m h => by omega), J0_step hS hs hcm hcm0 hcx (fun m h => by omega) (fun m h => by omega)⟩
  | succ n ih =>
    have g1 : ∀ m, m + 1 = n + 1 → J1 K P V W N cx cm s a0 m := fun m h => by
      have e : m = n := by omega
      rw [e]; exact ih.1
    have g0 : ∀ m, m + 1 = n + 1 → J0 K P V W N cx cm s a0 m := fun m h => by
      have e : m = n := by omega
      rw [e]; exact ih.2
    exact ⟨J1_step hS hs hcm hcm0 hcx g1 g0, J0_step hS hs hcm hcm0 hcx g1 g0⟩
/-- a whole E: from token a on, both sides ready -/
theorem E_sim {K P V W : Nat → Nat} {N cx cm s a : Nat} {σX σM : HS} (hS : TS K P V N) (hs : s < 2) (hcm : cm ≤ 420 * s + a) (hcm0 : 420 * s ≤ cm) (hcx : cx ≤ 8 + a) (ha : a ≤ N) (hTX : TX_ σX K P V W N) (hTM : TM_ σM K P V W N) (x8 : σX.1 2 8 = nI a) (x11 : σX.1 2 11 = 0) (x5 : σX.1 12 5 = nI cx) (m11 : σM.1 0 11 = nI a) (m12 : σM.1 0 12 = nI 0) (m13 : σM.1 0 13 = 0) (m39 : σM.1 0 39 = nI cm) : EO N a cx cm (420 * s + 420) (FX5_readSum σX) (FX12_expression σM) σX σM := by
  have hN := hS.1
  obtain ⟨τX, hτX⟩ : ∃ τ, τ = pI (pI σX 2 6 0) 2 7 0 := ⟨_, rfl⟩
  obtain ⟨τM, hτM⟩ : ∃ τ, τ = pI σM 0 43 0 := ⟨_, rfl⟩
  have fX : FR (okX cx) olX σX τX := by rw [hτX]; exact (FR.rf.p (by unfold okX; omega)).p (by unfold okX; omega)
  have fM : FR (okM cm (420 * s + 420)) olM σM τM := by rw [hτM]; exact FR.rf.p (by unfold okM; omega)
  have eX : FX5_readSum σX = FX5_readSum_14 fu 1 (nI 0) τX := by rw [hτX]; rfl
  have t13 : τM.1 0 13 = 0 := by rw [hτM, pI_s, pk_un (by omega)]; exact m13
  have eM : FX12_expression σM = FX12_expression_23 (FX12_expression_12 4999) fu (nI 0) 1 τM := by
    unfold FX12_expression
    simp only [hl_]
    rw [← hτM, show τM.1 0 12 = nI 0 by rw [hτM, pI_s, pk_un (by omega)]; exact m12, show fu = 4999 + 1 from rfl, FX12_expression_12, if_neg one_ne, t13, if_pos rfl]
    rfl
  rw [eX, eM]
  refine EO_tr fX fM ((E_go hS hs hcm hcm0 hcx (N - a)).1 a [] [] τX τM 0 fu fu 4999 1 (by omega) ⟨TX_e fX hTX, TM_e fM hTM, ha, ⟨⟨?_, fun j hj => absurd hj (Nat.not_lt_zero _), ?_, trivial⟩, ?_, ?_, ?_⟩, ⟨⟨?_, fun j hj => absurd hj (Nat.not_lt_zero _), ?_, trivial⟩, ?_, ?_, t13⟩, trivial, by decide⟩ rfl (by simp only [opN, List.length_nil]; omega) (by omega) (by show N - a + 1 < 5000; omega) (by show N - a + 1 < 5000; omega) (by omega))
  · rw [hτX, pI_s, pk_un (by omega), pI_s, pk_us]; rfl
  · rw [hτX, pI_o (by omega), pI_o (by omega)]; exact x5
  · rw [hτX, pI_s, pk_un (by omega), pI_s, pk_un (by omega)]; exact x8
  · rw [hτX, pI_s, pk_us]; rfl
  · rw [hτX, pI_s, pk_un (by omega), pI_s, pk_un (by omega)]; exact x11
  · rw [hτM, pI_s, pk_us]; rfl
  · rw [hτM, pI_s, pk_un (by omega)]; exact m39
  · rw [hτM, pI_s, pk_un (by omega)]; exact m11
  · rw [hτM, pI_s, pk_un (by omega)]; exact m12
