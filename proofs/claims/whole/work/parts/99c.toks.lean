/-! The tokens of a tape, as the readers want them. -/
theorem dg_lt (b : Nat → Nat) : ∀ r v p, (∀ j, j < r → isD (b (p + j)) = true) → dgF b r v p < (v + 1) * 10 ^ r := by
  intro r
  induction r with
  | zero => intro v p _; simp only [dgF, Nat.pow_zero]; omega
  | succ r ih =>
    intro v p h
    have h0 : 48 ≤ b (p + 0) ∧ b (p + 0) ≤ 57 := of_decide_eq_true (h 0 (by omega))
    rw [Nat.add_zero] at h0
    have h1 := ih (10 * v + (b p - 48)) (p + 1) (fun j hj => by rw [show p + 1 + j = p + (j + 1) by omega]; exact h (j + 1) (by omega))
    have h2 : (10 * v + (b p - 48) + 1) * 10 ^ r ≤ 10 * (v + 1) * 10 ^ r := Nat.mul_le_mul_right _ (by omega)
    have h3 : (v + 1) * 10 ^ (r + 1) = 10 * (v + 1) * 10 ^ r := by rw [Nat.pow_succ, Nat.mul_comm (10 ^ r) 10, ← Nat.mul_assoc, Nat.mul_comm (v + 1) 10]
    simp only [dgF]
    rw [h3]
    exact Nat.lt_of_lt_of_le h1 h2
theorem kd_2 {b : Nat → Nat} {L p : Nat} (h : kdN b L p = 2) : runN isD b (L - p) p ≤ 4 := by
  unfold kdN at h
  by_cases h0 : L ≤ p
  · rw [if_pos h0] at h; omega
  rw [if_neg h0] at h
  by_cases h1 : isL (b p) = true
  · rw [if_pos h1] at h
    exfalso
    by_cases h2 : runN isL b (L - p) p ≤ 8
    · rw [if_pos h2] at h
      by_cases h3 : kwI (lN (nmF b (runN isL b (L - p) p) 0 p)) 22 0 < 22
      · rw [if_pos h3] at h; omega
      · rw [if_neg h3] at h; omega
    · rw [if_neg h2] at h; omega
  · rw [if_neg h1] at h
    by_cases h2 : isD (b p) = true
    · rw [if_pos h2] at h
      by_cases h3 : runN isD b (L - p) p ≤ 4
      · exact h3
      · rw [if_neg h3] at h; omega
    · rw [if_neg h2] at h
      exfalso
      unfold skd at h
      (repeat' split at h) <;> omega
theorem vl_le {b : Nat → Nat} {L p : Nat} (h : kdN b L p = 2) : vlN b L p ≤ 9999 := by
  have h1 := kd_2 h
  have h2 := dg_lt b (runN isD b (L - p) p) 0 p (fun j hj => run_in isD b (L - p) p j hj)
  have h3 : 10 ^ runN isD b (L - p) p ≤ 10 ^ 4 := Nat.pow_le_pow_right (by omega) h1
  unfold vlN
  omega
theorem kd_vk (b : Nat → Nat) (L p : Nat) : vk (kdN b L p) := by
  have hwl := kwI_le (lN (nmF b (runN isL b (L - p) p) 0 p)) 22 0 (by omega)
  unfold vk kdN skd
  (repeat' split) <;> omega
def tK (b : Nat → Nat) (L j : Nat) : Nat := kdN b L (psN b L j)
def tP (b : Nat → Nat) (L j : Nat) : Nat := psN b L j
def tV (b : Nat → Nat) (L j : Nat) : Nat := if kdN b L (psN b L j) = 2 then vlN b L (psN b L j) else 0
def tW (b : Nat → Nat) (L j : Nat) : Nat := nvN b L (psN b L j)
theorem first_end (K : Nat → Nat) : ∀ n, ∃ N, N ≤ n ∧ (∀ j, j < N → K j ≠ 0 ∧ K j ≠ 3) ∧ (K N = 0 ∨ K N = 3 ∨ N = n) := by
  intro n
  induction n with
  | zero => exact ⟨0, Nat.le_refl _, fun j hj => by omega, Or.inr (Or.inr rfl)⟩
  | succ n ih =>
    obtain ⟨N, h1, h2, h3⟩ := ih
    by_cases h0 : K N = 0
    · exact ⟨N, by omega, h2, Or.inl h0⟩
    by_cases h5 : K N = 3
    · exact ⟨N, by omega, h2, Or.inr (Or.inl h5)⟩
    have hN : N = n := by omega
    subst hN
    refine ⟨N + 1, by omega, fun j hj => ?_, Or.inr (Or.inr rfl)⟩
    by_cases hj' : j = N
    · rw [hj']; exact ⟨h0, h5⟩
    · exact h2 j (by omega)
theorem ps_le {b : Nat → Nat} {L : Nat} : ∀ k, (∀ i, i < k → tK b L i ≠ 0) → psN b L k ≤ L := by
  intro k
  induction k with
  | zero => intro _; exact (sk_le b L (Nat.zero_le _)).2
  | succ k ih =>
    intro h
    have h1 := ih (fun i hi => h i (by omega))
    have h2 : ¬ L ≤ psN b L k := fun e => h k (by omega) (kd_0.mpr e)
    have h3 := ln_le b L (show psN b L k < L by omega)
    exact (sk_le b L h3.2).2
theorem ps_lt {b : Nat → Nat} {L k : Nat} (h : ∀ i, i < k + 1 → tK b L i ≠ 0) : psN b L k < psN b L (k + 1) := by
  have h2 : ¬ L ≤ psN b L k := fun e => h k (by omega) (kd_0.mpr e)
  have h3 := ln_le b L (show psN b L k < L by omega)
  have h4 := (sk_le b L h3.2).1
  show psN b L k < skN b L (psN b L k + lnN b L (psN b L k))
  omega
theorem TS_of (b : Nat → Nat) (L : Nat) (hL : L ≤ 2000) : ∃ N, TS (tK b L) (tP b L) (tV b L) N := by
  obtain ⟨N, h1, h2, h3⟩ := first_end (tK b L) 400
  refine ⟨N, h1, fun j hj => ⟨kd_vk b L _, ?_, ?_⟩, h2, h3, ?_⟩
  · have := ps_le (b := b) (L := L) j (fun i hi => (h2 i (by omega)).1)
    unfold tP; omega
  · unfold tV
    by_cases h : kdN b L (psN b L j) = 2
    · rw [if_pos h]; exact vl_le h
    · rw [if_neg h]; omega
  · intro i j
    induction j with
    | zero => intro h _; omega
    | succ j ih =>
      intro hi hj
      have h4 : psN b L j < psN b L (j + 1) := ps_lt (fun i hi => (h2 i (by omega)).1)
      by_cases he : i = j
      · subst he; exact h4
      · have := ih (by omega) (by omega)
        unfold tP at this ⊢
        omega
theorem TX_of {σ : HS} {b : Nat → Nat} {L N : Nat} (hS : TS (tK b L) (tP b L) (tV b L) N) (h : TKX σ b L 401) : TX_ σ (tK b L) (tP b L) (tV b L) (tW b L) N := by
  have hN := hS.1
  intro j hj
  obtain ⟨a1, a2, a3, a4⟩ := h j (by omega) (fun i hi => hS.2.2.1 i (by omega))
  exact ⟨a1, a2, fun h2 => by unfold tV; rw [if_pos (show kdN b L (psN b L j) = 2 from h2)]; exact a3 h2, a4⟩
theorem TM_of {σ : HS} {b : Nat → Nat} {L N : Nat} (hS : TS (tK b L) (tP b L) (tV b L) N) (h : TKM σ b L 401) : TM_ σ (tK b L) (tP b L) (tV b L) (tW b L) N := by
  have hN := hS.1
  intro j hj
  obtain ⟨a1, a2, a3, a4⟩ := h j (by omega) (fun i hi => (hS.2.2.1 i (by omega)).1)
  exact ⟨a1, a2, fun h2 => by unfold tV; rw [if_pos (show kdN b L (psN b L j) = 2 from h2)]; exact a3 h2, a4⟩
theorem and255 (x : Int32) : ∃ k, k < 256 ∧ x &&& 255 = nI k := by
  refine ⟨x.toBitVec.toNat % 256, Nat.mod_lt _ (by omega), ?_⟩
  apply Int32.toBitVec_inj.mp
  rw [Int32.toBitVec_and]
  apply BitVec.eq_of_toNat_eq
  rw [BitVec.toNat_and]
  show x.toBitVec.toNat &&& 255 = (BitVec.ofNat 32 (x.toBitVec.toNat % 256)).toNat
  rw [BitVec.toNat_ofNat, show (255 : Nat) = 2 ^ 8 - 1 from rfl, Nat.and_two_pow_sub_one_eq_mod, show (2 ^ 8 : Nat) = 256 from rfl]
  have := Nat.mod_lt x.toBitVec.toNat (show 0 < 256 by omega)
  rw [Nat.mod_eq_of_lt (a := x.toBitVec.toNat % 256) (by omega)]
theorem nar_255 (x : Int32) : vp_nar .byte x &&& 255 = x &&& 255 := by
  rw [vp_nar_byte]
  apply Int32.toBitVec_inj.mp
  rw [Int32.toBitVec_and, Int32.toBitVec_and, Int8.toBitVec_toInt32, Int32.toBitVec_toInt8]
  apply BitVec.eq_of_getLsbD_eq
  intro i hi
  rw [BitVec.getLsbD_and, BitVec.getLsbD_and]
  have hm : ∀ i < 32, 8 ≤ i → (255 : Int32).toBitVec.getLsbD i = false := by decide
  rcases Nat.lt_or_ge i 8 with z | z
  · rw [BitVec.getLsbD_signExtend, BitVec.getLsbD_signExtend, if_pos z, if_pos hi]
    simp only [z, hi, decide_true, Bool.true_and]
  · rw [hm i hi z]; simp
