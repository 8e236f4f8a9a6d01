/-! Sets of coughs, in their order. -/
def SLn (mb : Nat) : Nat → List Nat
  | 0 => [0]
  | n + 1 => if mb / 2 ^ n % 2 = 1 then SLn mb n ++ (SLn mb n).map (fun s => s + 2 ^ n) else SLn mb n
def nxS (s mb : Nat) : Nat := ((s + 1024 - mb) % 1024) &&& mb
def chk (mb : Nat) : List Nat → Nat → Bool
  | [], _ => true
  | x :: xs, s => Nat.beq x s && chk mb xs (nxS s mb)
set_option maxRecDepth 100000 in
theorem chk_all : (List.range 1024).all (fun mb => chk mb (SLn mb 10) 0) = true := by decide +kernel
theorem chk_mb {mb : Nat} (h : mb < 1024) : chk mb (SLn mb 10) 0 = true := List.all_eq_true.mp chk_all mb (List.mem_range.mpr h)
theorem nI_or (a b : Nat) : nI a ||| nI b = nI (a ||| b) := Int32.toBitVec_inj.mp (by show BitVec.ofNat 32 a ||| BitVec.ofNat 32 b = BitVec.ofNat 32 (a ||| b); rw [BitVec.ofNat_or])
theorem nI_and (a b : Nat) : nI a &&& nI b = nI (a &&& b) := Int32.toBitVec_inj.mp (by show BitVec.ofNat 32 a &&& BitVec.ofNat 32 b = BitVec.ofNat 32 (a &&& b); rw [BitVec.ofNat_and])
theorem and_low {x mb : Nat} (h : mb < 1024) : x &&& mb = (x % 1024) &&& mb := by
  have h1 : x &&& mb < 2 ^ 10 := Nat.and_lt_two_pow x h
  have h2 := Nat.and_mod_two_pow (a := x) (b := mb) (n := 10)
  rw [Nat.mod_eq_of_lt h1, Nat.mod_eq_of_lt (show mb < 2 ^ 10 from h)] at h2
  exact h2
theorem nx_I {s mb : Nat} (hs : s < 1024) (hm : mb < 1024) : (nI s - nI mb) &&& nI mb = nI (nxS s mb) := by
  have e : nI s - nI mb = nI (2 ^ 32 - mb + s) := by
    apply Int32.toBitVec_inj.mp
    apply BitVec.eq_of_toNat_eq
    show (BitVec.ofNat 32 s - BitVec.ofNat 32 mb).toNat = (BitVec.ofNat 32 (2 ^ 32 - mb + s)).toNat
    rw [BitVec.toNat_sub, BitVec.toNat_ofNat, BitVec.toNat_ofNat, BitVec.toNat_ofNat, Nat.mod_eq_of_lt (show s < 2 ^ 32 by omega), Nat.mod_eq_of_lt (show mb < 2 ^ 32 by omega)]
  rw [e, nI_and]
  congr 1
  unfold nxS
  rw [and_low hm]
  congr 1
  omega
theorem SLn_lt (mb : Nat) : ∀ n, ∀ x ∈ SLn mb n, x < 2 ^ n := by
  intro n
  induction n with
  | zero => intro x hx; simp only [SLn, List.mem_cons, List.not_mem_nil, or_false] at hx; subst hx; decide
  | succ n ih =>
    intro x hx
    have e : 2 ^ (n + 1) = 2 ^ n + 2 ^ n := by rw [Nat.pow_succ]; omega
    simp only [SLn] at hx
    by_cases hb : mb / 2 ^ n % 2 = 1
    · rw [if_pos hb, List.mem_append] at hx
      rcases hx with hx | hx
      · have := ih x hx; omega
      · obtain ⟨y, hy, rfl⟩ := List.mem_map.mp hx
        have := ih y hy; omega
    · rw [if_neg hb] at hx
      have := ih x hx; omega
theorem SLn_stop {mb n : Nat} (h : mb < 2 ^ n) : ∀ k, SLn mb (n + k) = SLn mb n := by
  intro k
  induction k with
  | zero => rfl
  | succ k ih =>
    rw [show n + (k + 1) = n + k + 1 from rfl]
    have e : mb / 2 ^ (n + k) = 0 := Nat.div_eq_of_lt (Nat.lt_of_lt_of_le h (Nat.pow_le_pow_right (by decide) (by omega)))
    rw [SLn, e, if_neg (by decide), ih]
theorem SLn_len (mb : Nat) : ∀ n, (SLn mb n).length = 2 ^ cntN mb n := by
  intro n
  induction n with
  | zero => rfl
  | succ n ih =>
    simp only [SLn, cntN]
    by_cases hb : mb / 2 ^ n % 2 = 1
    · rw [if_pos hb, hb, List.length_append, List.length_map, ih, Nat.pow_succ]; omega
    · have h0 : mb / 2 ^ n % 2 = 0 := by omega
      rw [if_neg hb, h0, ih, Nat.add_zero]
theorem or_hi {a b n : Nat} (ha : a < 2 ^ n) (hb : b < 2 ^ n) : (a + 2 ^ n) ||| b = (a ||| b) + 2 ^ n := by
  have h1 := Nat.two_pow_add_eq_or_of_lt ha 1
  have h2 := Nat.two_pow_add_eq_or_of_lt (Nat.or_lt_two_pow ha hb) 1
  rw [Nat.mul_one] at h1 h2
  rw [Nat.add_comm a, h1, Nat.add_comm (a ||| b), h2, Nat.or_assoc]
theorem or_hi2 {a b n : Nat} (ha : a < 2 ^ n) (hb : b < 2 ^ n) : a ||| (b + 2 ^ n) = (a ||| b) + 2 ^ n := by
  rw [Nat.or_comm, or_hi hb ha, Nat.or_comm b]
/-- the sets that may be -/
def setsL (q : Nat → Nat) : Nat → List Nat
  | 0 => [0]
  | n + 1 => (if q n = 4 then [] else setsL q n) ++ (if q n = 0 then [] else (setsL q n).map (fun c => c + 2 ^ n))
theorem setsL_lt (q : Nat → Nat) : ∀ n, ∀ x ∈ setsL q n, x < 2 ^ n := by
  intro n
  induction n with
  | zero => intro x hx; simp only [setsL, List.mem_cons, List.not_mem_nil, or_false] at hx; subst hx; decide
  | succ n ih =>
    intro x hx
    have e : 2 ^ (n + 1) = 2 ^ n + 2 ^ n := by rw [Nat.pow_succ]; omega
    simp only [setsL, List.mem_append] at hx
    rcases hx with hx | hx
    · by_cases h4 : q n = 4
      · rw [if_pos h4] at hx; simp at hx
      · rw [if_neg h4] at hx; have := ih x hx; omega
    · by_cases h0 : q n = 0
      · rw [if_pos h0] at hx; simp at hx
      · rw [if_neg h0] at hx
        obtain ⟨y, hy, rfl⟩ := List.mem_map.mp hx
        have := ih y hy; omega
theorem setsL_ne {q : Nat → Nat} : ∀ n, setsL q n ≠ [] := by
  intro n
  induction n with
  | zero => simp [setsL]
  | succ n ih =>
    simp only [setsL]
    by_cases h4 : q n = 4
    · rw [if_pos h4, if_neg (by omega)]
      simpa using ih
    · rw [if_neg h4]
      intro h
      exact ih (List.append_eq_nil_iff.mp h).1
theorem SL_sets {q : Nat → Nat} (hq : ∀ m, q m ≤ 4) (N : Nat) : ∀ n, n ≤ N → (SLn (mbN q N) n).map (fun s => alN q n ||| s) = setsL q n := by
  intro n
  induction n with
  | zero => intro _; simp [SLn, setsL, alN, bS]
  | succ n ih =>
    intro hn
    have ih := ih (by omega)
    have hb := bS_bit (fun m => decide (0 < q m ∧ q m < 4)) N n (by omega)
    have hb' : mbN q N / 2 ^ n % 2 = if decide (0 < q n ∧ q n < 4) = true then 1 else 0 := hb
    have ha : alN q n < 2 ^ n := bS_lt _ n
    simp only [SLn, setsL]
    by_cases h4 : q n = 4
    · have e : alN q (n + 1) = alN q n + 2 ^ n := by unfold alN; simp only [bS, h4, decide_true, if_true]
      rw [if_neg (by rw [hb']; simp [h4]), if_pos h4, if_neg (by omega), List.nil_append, ← ih, e, List.map_map]
      apply List.map_congr_left
      intro s hs
      exact or_hi ha (SLn_lt _ _ _ hs)
    · have e : alN q (n + 1) = alN q n := by unfold alN; simp only [bS]; rw [if_neg (by simpa using h4)]; rfl
      rw [if_neg h4, e]
      by_cases h0 : q n = 0
      · rw [if_neg (by rw [hb']; simp [h0]), if_pos h0, List.append_nil, ih]
      · have := hq n
        rw [if_pos (by rw [hb', if_pos (decide_eq_true (by omega))]), if_neg h0, List.map_append, ih, ← ih, List.map_map, List.map_map]
        congr 1
        apply List.map_congr_left
        intro s hs
        exact or_hi2 ha (SLn_lt _ _ _ hs)
def canB (q : Nat → Nat) : Nat → Nat → Bool
  | 0, _ => true
  | n + 1, c => canB q n c && !decide (q n = if c / 2 ^ n % 2 = 1 then 0 else 4)
theorem canB_hi (q : Nat → Nat) {c n : Nat} : ∀ k, k ≤ n → canB q k (c + 2 ^ n) = canB q k c := by
  intro k
  induction k with
  | zero => intro _; rfl
  | succ k ih =>
    intro hk
    have e : (c + 2 ^ n) / 2 ^ k % 2 = c / 2 ^ k % 2 := by
      have e : 2 ^ n = 2 ^ k * (2 * 2 ^ (n - k - 1)) := by
        rw [← Nat.pow_succ', ← Nat.pow_add]
        congr 1
        omega
      rw [e, Nat.add_mul_div_left _ _ (Nat.two_pow_pos k), Nat.add_mul_mod_self_left]
    simp only [canB]
    rw [ih (by omega), e]
theorem can_sets (q : Nat → Nat) : ∀ n, (List.range (2 ^ n)).filter (canB q n) = setsL q n := by
  intro n
  induction n with
  | zero => rfl
  | succ n ih =>
    have e : 2 ^ (n + 1) = 2 ^ n + 2 ^ n := by rw [Nat.pow_succ]; omega
    rw [e, List.range_add, List.filter_append, List.filter_map, setsL, ← ih]
    congr 1
    · have h : ∀ c ∈ List.range (2 ^ n), canB q (n + 1) c = (canB q n c && !decide (q n = 4)) := by
        intro c hc
        have := List.mem_range.mp hc
        simp only [canB]
        rw [Nat.div_eq_of_lt this, if_neg (by decide)]
      rw [List.filter_congr h]
      by_cases h4 : q n = 4
      · rw [if_pos h4]; simp [h4]
      · rw [if_neg h4]; simp [h4]
    · have h : ∀ c ∈ List.range (2 ^ n), (canB q (n + 1) ∘ fun x => 2 ^ n + x) c = (canB q n c && !decide (q n = 0)) := by
        intro c hc
        have hl := List.mem_range.mp hc
        show (canB q n (2 ^ n + c) && !decide (q n = if (2 ^ n + c) / 2 ^ n % 2 = 1 then 0 else 4)) = _
        rw [Nat.add_comm (2 ^ n) c, canB_hi q n (Nat.le_refl _), Nat.add_div_right _ (Nat.two_pow_pos n), Nat.div_eq_of_lt hl, if_pos (by decide)]
      rw [List.filter_congr h]
      by_cases h0 : q n = 0
      · rw [if_pos h0]; simp [h0]
      · rw [if_neg h0]
        simp only [h0, decide_false, Bool.not_false, Bool.and_true]
        apply List.map_congr_left
        intro c _
        exact Nat.add_comm _ _
theorem cnt_low (c m : Nat) : ∀ k, k ≤ m → cntN (c % 2 ^ m) k = cntN c k := by
  intro k
  induction k with
  | zero => intro _; rfl
  | succ k ih =>
    intro hk
    simp only [cntN]
    rw [ih (by omega)]
    congr 1
    have e : 2 ^ m = 2 ^ k * (2 * 2 ^ (m - k - 1)) := by
      rw [← Nat.pow_succ', ← Nat.pow_add]
      congr 1
      omega
    rw [e, Nat.mod_mul_right_div_self, Nat.mod_mul_right_mod]
theorem cnt_top {c m : Nat} (h : c < 2 ^ m) : ∀ k, cntN c (m + k) = cntN c m := by
  intro k
  induction k with
  | zero => rfl
  | succ k ih =>
    rw [show m + (k + 1) = m + k + 1 from rfl]
    simp only [cntN]
    rw [ih, Nat.div_eq_of_lt (Nat.lt_of_lt_of_le h (Nat.pow_le_pow_right (by decide) (by omega))), Nat.zero_mod, Nat.add_zero]
theorem X_partIn {c m : Nat} (hc : c < 1024) (hm : m < 10) (σ : HS) : FX0_partIn (nI c) (nI m) σ = some (nI (ptF c m), σ) := by
  have e1 : ∀ m, m < 10 → ((1 : Int32) <<< (nI m &&& 31)) - (1 : Int32) = nI (2 ^ m - 1) := by decide +kernel
  have hp : 2 ^ m ≤ 2 ^ 10 := Nat.pow_le_pow_right (by decide) (by omega)
  have e2 : nI c &&& nI (2 ^ m - 1) = nI (c % 2 ^ m) := pk_andN (by omega) m (pk_tn (by omega))
  have hl : c % 2 ^ m < 2 ^ m := Nat.mod_lt _ (Nat.two_pow_pos m)
  unfold FX0_partIn
  rw [e1 m hm, e2, X_bitCount (by omega), bdI_s]
  obtain ⟨k, hk⟩ : ∃ k, 10 = m + k := ⟨10 - m, by omega⟩
  have e3 : cntN (c % 2 ^ m) 10 = cntN c m := by
    rw [hk, cnt_top hl, cnt_low c m m (Nat.le_refl _)]
  rw [e3]
  have := cntN_le c m
  unfold minI ptF
  by_cases h7 : cntN c m < 7
  · simp (disch := omega) only [gdx, cl_nI, ↓reduceIte, if_true, if_false, ple_t, ple_f, plt_t, plt_f, peq_t, peq_f, nI_add, pk_mul, pk_sub, m1c, m2c, nlt_p, nle_p, nge_p, ngt_p, neq_p, neq_q, pI_o, pI_s, pk_us, pk_un, bdI_s, bdL_s, bdV_s, hl_, li_0, li_1, li_2, li_3, li_4, li_5, li_6, li_7, li_8, li_9, li_10, li_11, li_12, li_13, li_15, li_16, li_18, li_19, li_20, li_21, li_22, li_23, li_24, li_25, li_26, li_28, li_29, li_30, li_31, li_32, li_33, li_39, li_40, li_41, li_42, li_43, li_44, li_45, li_47, li_48, li_57, li_59, li_60, li_61, li_80, li_88, li_97, li_99, li_122, li_130, li_167, li_255, li_256, li_400, li_408, li_420, li_1287, li_2000, li_9999, Nat.min_eq_right, Nat.le_of_lt h7]
  · simp (disch := omega) only [gdx, cl_nI, ↓reduceIte, if_true, if_false, ple_t, ple_f, plt_t, plt_f, peq_t, peq_f, nI_add, pk_mul, pk_sub, m1c, m2c, nlt_p, nle_p, nge_p, ngt_p, neq_p, neq_q, pI_o, pI_s, pk_us, pk_un, bdI_s, bdL_s, bdV_s, hl_, li_0, li_1, li_2, li_3, li_4, li_5, li_6, li_7, li_8, li_9, li_10, li_11, li_12, li_13, li_15, li_16, li_18, li_19, li_20, li_21, li_22, li_23, li_24, li_25, li_26, li_28, li_29, li_30, li_31, li_32, li_33, li_39, li_40, li_41, li_42, li_43, li_44, li_45, li_47, li_48, li_57, li_59, li_60, li_61, li_80, li_88, li_97, li_99, li_122, li_130, li_167, li_255, li_256, li_400, li_408, li_420, li_1287, li_2000, li_9999, Nat.min_eq_left]
