/-! The class's scanner; the reference's. -/
theorem run_pos {P : Nat → Bool} {b : Nat → Nat} {n i : Nat} (h : P (b i) = true) (hn : 1 ≤ n) : 1 ≤ runN P b n i := by
  obtain ⟨m, rfl⟩ : ∃ m, n = m + 1 := ⟨n - 1, by omega⟩
  simp only [runN]
  rw [if_pos h]; omega
theorem isLD {c : Nat} (h : isL c = true) : isD c = false := by
  have h' : 97 ≤ c ∧ c ≤ 122 := of_decide_eq_true h
  exact decide_eq_false (by omega)
theorem X_scanToken {b : Nat → Nat} {L p : Nat} {σ : HS} (hB : BX σ b L) (h4 : σ.1 13 4 = nI p) (hp : p ≤ L) : ∃ σ', FX6_scanToken σ = some (nI (xkN (kdN b L p)), σ') ∧ kY [13] [13] σ σ' ∧ (p < L → σ'.1 13 4 = nI (p + lnN b L p)) ∧ (kdN b L p = 2 → σ'.2 13 5 = lN (vlN b L p)) ∧ (kdN b L p = 1 → σ'.2 13 5 = lN (nvN b L p)) := by
  have hL := hB.2.1
  obtain ⟨τ, hτ⟩ : ∃ τ, τ = pL σ 13 5 0 := ⟨_, rfl⟩
  have kτ : kY [13] [13] σ τ := by rw [hτ]; exact kY.rf.l (by decide)
  have Bτ := BX_k kτ (by decide) (by decide) hB
  have τ4 : τ.1 13 4 = nI p := by rw [hτ]; exact h4
  have τ5 : τ.2 13 5 = lN 0 := by rw [hτ, pL_s]; rfl
  have e0 : FX6_scanToken σ = bdI (FX8_byteAt (nI p) τ) fun r_2 σ_3 => if r_2 = (-1 : Int32) then some ((24 : Int32), σ_3) else bdI (FX6_isLetter r_2 σ_3) fun r_6 σ_7 => if r_6 = 0 then bdI (FX6_isDigit r_2 σ_7) fun r_10 σ_11 => if r_10 = 0 then hl_ (pI σ_11 13 4 ((σ_11.1 13 4) + (1 : Int32))) fun σ_14 => bdI (FJ0_indexOf_0f7a4 1 ((r_2.toUInt32 % 65536).toInt32) σ_14) fun r_15 σ_16 => if r_15 < 0 then some ((25 : Int32), σ_16) else some (r_2, σ_16) else bdI (FX6_scanDigits σ_11) fun r_19 σ_20 => some (r_19, σ_20) else bdI (FX6_scanLetters σ_7) fun r_22 σ_23 => some (r_22, σ_23) := by
    unfold FX6_scanToken
    simp only [hl_]
    rw [← hτ, τ4]
  rw [e0]
  by_cases hpl : p < L
  · have hb := (hB.2.2 p hpl).2
    rw [X_byteAt Bτ hpl, bdI_s, if_neg (n1_ne (by omega)), X_isLetter hb, bdI_s]
    by_cases hlt : isL (b p) = true
    · have hr := run_le isL b (L - p) p
      have hln : lnN b L p = runN isL b (L - p) p := by unfold lnN; rw [if_pos hlt]
      obtain ⟨σ1, e1, k1, r1, r2⟩ := X_letters (nI p) (L - p) p fu 0 τ Bτ τ4 τ5 (by omega) (by show L - p < 5000; omega)
      have e2 : FX6_scanLetters τ = FX6_scanLetters_71 (nI p) σ1 := by
        unfold FX6_scanLetters
        simp only [hl_]
        rw [τ4]; exact e1
      rw [hlt, bI_t, if_neg one_ne, bdI_id, e2]
      unfold FX6_scanLetters_71
      rw [r1, pk_sub (by omega), Nat.add_sub_cancel_left, r2, X_kindOf, bdI_s]
      by_cases h8 : runN isL b (L - p) p ≤ 8
      · rw [if_pos (show nI (runN isL b (L - p) p) ≤ (8 : Int32) from nI_le (b := 8) h8 (by omega))]
        have hk : kdN b L p = if kwI (lN (nmF b (runN isL b (L - p) p) 0 p)) 22 0 < 22 then 20 + kwI (lN (nmF b (runN isL b (L - p) p) 0 p)) 22 0 else 1 := by
          unfold kdN
          rw [if_neg (by omega), if_pos hlt, if_pos h8]
        have hwl := kwI_le (lN (nmF b (runN isL b (L - p) p) 0 p)) 22 0 (by omega)
        obtain ⟨w, hw⟩ : ∃ w, w = kwI (lN (nmF b (runN isL b (L - p) p) 0 p)) 22 0 := ⟨_, rfl⟩
        rw [← hw] at hk hwl ⊢
        refine ⟨σ1, ?_, kτ.tr k1, fun _ => by rw [hln]; exact r1, fun h2 => ?_, fun _ => r2⟩
        · by_cases h22 : w < 22
          · rw [hk, if_pos h22, show xkN (20 + w) = w by unfold xkN; rw [if_neg (by omega), if_neg (by omega), if_neg (by omega), if_neg (by omega), if_neg (by omega), if_neg (by omega), if_neg (by omega), if_neg (by omega), if_neg (by omega), if_neg (by omega), if_neg (by omega), if_neg (by omega), if_neg (by omega)]; omega]
          · rw [hk, if_neg h22, show xkN 1 = 22 from rfl, show w = 22 by omega]
        · rw [hk] at h2
          by_cases h22 : w < 22
          · rw [if_pos h22] at h2; omega
          · rw [if_neg h22] at h2; omega
      · rw [if_neg (show ¬ nI (runN isL b (L - p) p) ≤ (8 : Int32) from nI_ge (a := 8) (by omega) (by omega))]
        have hk : kdN b L p = 3 := by
          unfold kdN
          rw [if_neg (by omega), if_pos hlt, if_neg h8]
        refine ⟨σ1, by rw [hk]; rfl, kτ.tr k1, fun _ => by rw [hln]; exact r1, fun h => by omega, fun h => by omega⟩
    · have hlf : isL (b p) = false := by simpa using hlt
      rw [hlf, bI_f, if_pos rfl, X_isDigit hb, bdI_s]
      by_cases hdt : isD (b p) = true
      · have hr := run_le isD b (L - p) p
        have hln : lnN b L p = runN isD b (L - p) p := by unfold lnN; rw [if_neg hlt, if_pos hdt]
        obtain ⟨σ1, e1, k1, r1, r2⟩ := X_digits (nI p) (L - p) p fu 0 τ Bτ τ4 τ5 (by omega) (by show L - p < 5000; omega)
        have e2 : FX6_scanDigits τ = FX6_scanDigits_78 (nI p) σ1 := by
          unfold FX6_scanDigits
          simp only [hl_]
          rw [τ4]; exact e1
        rw [hdt, bI_t, if_neg one_ne, bdI_id, e2]
        unfold FX6_scanDigits_78
        rw [r1, pk_sub (by omega), Nat.add_sub_cancel_left]
        by_cases h4' : runN isD b (L - p) p ≤ 4
        · rw [if_pos (show nI (runN isD b (L - p) p) ≤ (4 : Int32) from nI_le (b := 4) h4' (by omega))]
          have hk : kdN b L p = 2 := by
            unfold kdN
            rw [if_neg (by omega), if_neg hlt, if_pos hdt, if_pos h4']
          exact ⟨σ1, by rw [hk]; rfl, kτ.tr k1, fun _ => by rw [hln]; exact r1, fun _ => r2, fun h => by omega⟩
        · rw [if_neg (show ¬ nI (runN isD b (L - p) p) ≤ (4 : Int32) from nI_ge (a := 4) (by omega) (by omega))]
          have hk : kdN b L p = 3 := by
            unfold kdN
            rw [if_neg (by omega), if_neg hlt, if_pos hdt, if_neg h4']
          exact ⟨σ1, by rw [hk]; rfl, kτ.tr k1, fun _ => by rw [hln]; exact r1, fun h => by omega, fun h => by omega⟩
      · have hdf : isD (b p) = false := by simpa using hdt
        have hln : lnN b L p = 1 := by unfold lnN; rw [if_neg hlt, if_neg hdt]
        have hk : kdN b L p = skd (b p) := by
          unfold kdN
          rw [if_neg (by omega), if_neg hlt, if_neg hdt]
        have hks : skd (b p) ≠ 2 ∧ skd (b p) ≠ 1 := by
          unfold skd
          constructor <;> (repeat' split) <;> omega
        rw [hdf, bI_f, if_pos rfl]
        simp only [hl_]
        rw [τ4, nI_1]
        obtain ⟨y, e1, hy⟩ := X_sign hb (pI τ 13 4 (nI (p + 1)))
        rw [e1, bdI_s]
        have kp : kY [13] [13] σ (pI τ 13 4 (nI (p + 1))) := kτ.p (by decide)
        by_cases h3 : skd (b p) = 3
        · rw [if_pos (hy.mpr h3)]
          exact ⟨_, by rw [hk, h3]; rfl, kp, fun _ => by rw [hln, pI_s, pk_us], fun h => by omega, fun h => by omega⟩
        · rw [if_neg (fun e => h3 (hy.mp e))]
          exact ⟨_, by rw [hk, (sg_dec _ hb).2.2 h3], kp, fun _ => by rw [hln, pI_s, pk_us], fun h => by omega, fun h => by omega⟩
  · obtain rfl : p = L := by omega
    have hk : kdN b p p = 0 := by unfold kdN; rw [if_pos (Nat.le_refl _)]
    rw [X_byteE Bτ, bdI_s, if_pos rfl]
    exact ⟨τ, by rw [hk]; rfl, kτ, fun h => by omega, fun h => by omega, fun h => by omega⟩
/-- what the class's rows of tokens hold -/
def TKX (σ : HS) (b : Nat → Nat) (L K : Nat) : Prop := ∀ j, j < K → (∀ i, i < j → kdN b L (psN b L i) ≠ 0 ∧ kdN b L (psN b L i) ≠ 3) → σ.1 19 j = nI (xkN (kdN b L (psN b L j))) ∧ σ.1 20 j = nI (psN b L j) ∧ (kdN b L (psN b L j) = 2 → σ.2 21 j = lN (vlN b L (psN b L j))) ∧ (kdN b L (psN b L j) = 1 → σ.2 21 j = lN (nvN b L (psN b L j)))
def TKM (σ : HS) (b : Nat → Nat) (L K : Nat) : Prop := ∀ j, j < K → (∀ i, i < j → kdN b L (psN b L i) ≠ 0) → σ.1 3 j = nI (kdN b L (psN b L j)) ∧ σ.1 4 j = nI (psN b L j) ∧ (kdN b L (psN b L j) = 2 → σ.1 5 j = nI (vlN b L (psN b L j))) ∧ (kdN b L (psN b L j) = 1 → σ.2 6 j = lN (nvN b L (psN b L j)))
theorem sk_le (b : Nat → Nat) (L : Nat) {p : Nat} (h : p ≤ L) : p ≤ skN b L p ∧ skN b L p ≤ L := by
  have := run_le isBl b (L - p) p
  unfold skN; omega
theorem ln_le (b : Nat → Nat) (L : Nat) {p : Nat} (h : p < L) : 1 ≤ lnN b L p ∧ p + lnN b L p ≤ L := by
  unfold lnN
  by_cases h1 : isL (b p) = true
  · rw [if_pos h1]
    have := run_le isL b (L - p) p
    have := run_pos (n := L - p) h1 (by omega)
    omega
  · rw [if_neg h1]
    by_cases h2 : isD (b p) = true
    · rw [if_pos h2]
      have := run_le isD b (L - p) p
      have := run_pos (n := L - p) h2 (by omega)
      omega
    · rw [if_neg h2]; omega
theorem kd_0 {b : Nat → Nat} {L p : Nat} : kdN b L p = 0 ↔ L ≤ p := by
  constructor
  · intro h
    by_cases hp : L ≤ p
    · exact hp
    · exfalso
      unfold kdN at h
      rw [if_neg hp] at h
      by_cases h1 : isL (b p) = true
      · rw [if_pos h1] at h
        by_cases h2 : runN isL b (L - p) p ≤ 8
        · rw [if_pos h2] at h
          by_cases h3 : kwI (lN (nmF b (runN isL b (L - p) p) 0 p)) 22 0 < 22
          · rw [if_pos h3] at h; omega
          · rw [if_neg h3] at h; omega
        · rw [if_neg h2] at h; omega
      · rw [if_neg h1] at h
        by_cases h2 : isD (b p) = true
        · rw [if_pos h2] at h
          by_cases h3 : runN isD b (L - p) p ≤ 4
          · rw [if_pos h3] at h; omega
          · rw [if_neg h3] at h; omega
        · rw [if_neg h2] at h
          unfold skd at h
          (repeat' split at h) <;> omega
  · intro h; unfold kdN; rw [if_pos h]
theorem kd_lt (b : Nat → Nat) (L p : Nat) : kdN b L p < 42 := by
  have hwl := kwI_le (lN (nmF b (runN isL b (L - p) p) 0 p)) 22 0 (by omega)
  unfold kdN skd
  (repeat' split) <;> omega
theorem xk_st : ∀ k, k < 42 → (xkN k = 24 ↔ k = 0) ∧ (xkN k = 25 ↔ k = 3 ∨ k = 45) ∧ xkN k < 64 := by decide +kernel
theorem X_scan_10 {b : Nat → Nat} {L : Nat} : ∀ (n k f x p : Nat) (σ : HS), BX σ b L → σ.1 13 4 = nI p → p ≤ L → skN b L p = psN b L k → x ≠ 24 → x ≠ 25 → x < 64 → (∀ i, i < k → kdN b L (psN b L i) ≠ 0 ∧ kdN b L (psN b L i) ≠ 3) → TKX σ b L k → k + n = 401 → n < f → ∃ σ', FX6_scan_10 f (nI x) (nI k) σ = some σ' ∧ kY [13, 19, 20] [13, 21] σ σ' ∧ TKX σ' b L 401 := by
  intro n
  induction n with
  | zero =>
    intro k f x p σ hB h4 hp hs h24 h25 hx hg hT hk hf
    obtain ⟨f, rfl⟩ : ∃ z, f = z + 1 := ⟨f - 1, by omega⟩
    obtain rfl : k = 401 := by omega
    rw [FX6_scan_10, if_pos (show (400 : Int32) < nI 401 by decide)]
    exact ⟨σ, rfl, kY.rf, hT⟩
  | succ n ih =>
    intro k f x p σ hB h4 hp hs h24 h25 hx hg hT hk hf
    obtain ⟨f, rfl⟩ : ∃ z, f = z + 1 := ⟨f - 1, by omega⟩
    have hL := hB.2.1
    have i1 : ix (nI k) 401 = true := ix_nI (by omega) (by omega)
    obtain ⟨σ1, e1, k1, r1⟩ := X_skip (L - p) p fu σ hB h4 (by omega) (by show L - p < 5000; omega)
    rw [show p + runN isBl b (L - p) p = psN b L k from hs] at r1
    have hpk : psN b L k ≤ L := by rw [← hs]; exact (sk_le b L hp).2
    obtain ⟨τ, hτ⟩ : ∃ τ, τ = pI σ1 20 k (nI (psN b L k)) := ⟨_, rfl⟩
    have kτ : kY [13, 19, 20] [13, 21] σ τ := by rw [hτ]; exact (k1.up (by decide) (by decide)).p (by decide)
    obtain ⟨σ2, e2, k2, r2, v2, n2⟩ := X_scanToken (BX_k kτ (by decide) (by decide) hB) (p := psN b L k) (by rw [hτ, pI_o (by omega)]; exact r1) hpk
    obtain ⟨kd, hkd⟩ : ∃ kd, kd = kdN b L (psN b L k) := ⟨_, rfl⟩
    have hkl := kd_lt b L (psN b L k)
    rw [← hkd] at e2 v2 n2 hkl
    obtain ⟨x1, x2, x3⟩ := xk_st kd hkl
    obtain ⟨υ, hυ⟩ : ∃ υ, υ = pL (pI σ2 19 k (nI (xkN kd))) 21 k (σ2.2 13 5) := ⟨_, rfl⟩
    have k2' : kY [13, 19, 20] [13, 21] σ σ2 := kτ.tr (k2.up (by decide) (by decide))
    have kυ : kY [13, 19, 20] [13, 21] σ υ := by rw [hυ]; exact (k2'.p (by decide)).l (by decide)
    have hTυ : TKX υ b L (k + 1) := by
      intro j hj hgj
      by_cases ej : j = k
      · subst ej
        rw [← hkd]
        refine ⟨?_, ?_, fun h => ?_, fun h => ?_⟩
        · rw [hυ, pL_1, pI_s, pk_us]
        · rw [hυ, pL_1, pI_o (by omega), k2.1 20 (by decide), hτ, pI_s, pk_us]
        · rw [hυ, pL_s]; exact v2 h
        · rw [hυ, pL_s]; exact n2 h
      · obtain ⟨t1, t2, t3, t4⟩ := hT j (by omega) hgj
        have e19 : υ.1 19 j = σ.1 19 j := by rw [hυ, pL_1, pI_s, pk_un ej, k2.1 19 (by decide), hτ, pI_o (by omega), k1.1 19 (by decide)]
        have e20 : υ.1 20 j = σ.1 20 j := by rw [hυ, pL_1, pI_o (by omega), k2.1 20 (by decide), hτ, pI_s, pk_un ej, k1.1 20 (by decide)]
        have e21 : υ.2 21 j = σ.2 21 j := by rw [hυ, pL_2, if_pos rfl, updL_a, if_neg ej, pI_2, k2.2 21 (by decide), hτ, pI_2, k1.2 21 (by decide)]
        rw [e19, e20, e21]
        exact ⟨t1, t2, t3, t4⟩
    have e3 : FX6_scan_10 (f + 1) (nI x) (nI k) σ = FX6_scan_10 f (nI (xkN kd)) (nI (k + 1)) υ := by
      rw [FX6_scan_10, if_neg (show ¬ (400 : Int32) < nI k from nI_nlt (a := 400) (by omega) (by omega)), if_neg (show ¬ nI x = (24 : Int32) from ne_I (b := 24) h24 (by omega) (by omega)), if_neg (show ¬ nI x = (25 : Int32) from ne_I (b := 25) h25 (by omega) (by omega))]
      unfold FX6_skipBlanks
      rw [e1, bdV_s, gd_t i1]
      simp only [hl_]
      rw [cl_nI (by omega), r1, ← hτ, e2, bdI_s, gd_t i1, gd_t i1, pI_2, ← hυ, nI_1]
    rw [e3]
    by_cases h0 : kd = 0 ∨ kd = 3
    · refine ⟨υ, ?_, kυ, ?_⟩
      · obtain ⟨f, rfl⟩ : ∃ z, f = z + 1 := ⟨f - 1, by omega⟩
        rw [FX6_scan_10]
        by_cases h400 : (400 : Int32) < nI (k + 1)
        · rw [if_pos h400]
        · rw [if_neg h400]
          rcases h0 with h0 | h0
          · rw [if_pos (show nI (xkN kd) = (24 : Int32) by rw [h0]; rfl)]
          · rw [if_neg (show ¬ nI (xkN kd) = (24 : Int32) by rw [h0]; decide), if_pos (show nI (xkN kd) = (25 : Int32) by rw [h0]; rfl)]
      · intro j hj hgj
        by_cases ej : j < k + 1
        · exact hTυ j ej hgj
        · have := hgj k (by omega)
          rw [← hkd] at this
          rcases h0 with h0 | h0
          · exact absurd h0 this.1
          · exact absurd h0 this.2
    · have hlt : psN b L k < L := by
        by_cases h : L ≤ psN b L k
        · exact absurd (Or.inl (by rw [hkd]; exact kd_0.mpr h)) h0
        · omega
      have hll := ln_le b L hlt
      obtain ⟨σ', e4, k4, t4⟩ := ih (k + 1) f (xkN kd) (psN b L k + lnN b L (psN b L k)) υ (BX_k kυ (by decide) (by decide) hB) (by rw [hυ, pL_1, pI_o (by omega)]; exact r2 hlt) hll.2 rfl (fun e => h0 (Or.inl (x1.mp e))) (fun e => h0 (by have := x2.mp e; omega)) x3 (fun i hi => by
        by_cases ei : i = k
        · subst ei; rw [← hkd]; exact ⟨fun e => h0 (Or.inl e), fun e => h0 (Or.inr e)⟩
        · exact hg i (by omega)) hTυ (by omega) (by omega)
      exact ⟨σ', e4, kυ.tr k4, t4⟩
theorem X_scan {b : Nat → Nat} {L : Nat} {σ : HS} (hB : BX σ b L) : ∃ σ', FX6_scan σ = some σ' ∧ kY [13, 19, 20] [13, 21] σ σ' ∧ TKX σ' b L 401 := by
  have kp : kY [13, 19, 20] [13, 21] σ (pI σ 13 4 0) := kY.rf.p (by decide)
  obtain ⟨σ', e1, k1, t1⟩ := X_scan_10 401 0 fu 22 0 (pI σ 13 4 0) (BX_k kp (by decide) (by decide) hB) (by rw [pI_s, pk_us]; rfl) (by omega) rfl (by omega) (by omega) (by omega) (fun i hi => by omega) (fun j hj => by omega) (by omega) (by show 401 < 5000; omega)
  exact ⟨σ', e1, kp.tr k1, t1⟩
