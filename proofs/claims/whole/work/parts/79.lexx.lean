/-! Tokens: what they are; the class's scanner. -/
def isL (c : Nat) : Bool := decide (97 ≤ c ∧ c ≤ 122)
def isD (c : Nat) : Bool := decide (48 ≤ c ∧ c ≤ 57)
def isBl (c : Nat) : Bool := decide (c = 9 ∨ c = 10 ∨ c = 13 ∨ c = 32)
def runN (P : Nat → Bool) (b : Nat → Nat) : Nat → Nat → Nat
  | 0, _ => 0
  | n + 1, i => if P (b i) = true then runN P b n (i + 1) + 1 else 0
theorem run_le (P : Nat → Bool) (b : Nat → Nat) : ∀ n i, runN P b n i ≤ n := by
  intro n
  induction n with
  | zero => intro i; exact Nat.le_refl _
  | succ n ih =>
    intro i
    simp only [runN]
    have := ih (i + 1)
    by_cases h : P (b i) = true
    · rw [if_pos h]; omega
    · rw [if_neg h]; omega
theorem run_in (P : Nat → Bool) (b : Nat → Nat) : ∀ n i j, j < runN P b n i → P (b (i + j)) = true := by
  intro n
  induction n with
  | zero => intro i j h; simp only [runN] at h; omega
  | succ n ih =>
    intro i j h
    simp only [runN] at h
    by_cases hp : P (b i) = true
    · rw [if_pos hp] at h
      cases j with
      | zero => exact hp
      | succ j => have := ih (i + 1) j (by omega); rw [show i + (j + 1) = i + 1 + j by omega]; exact this
    · rw [if_neg hp] at h; omega
def nmF (b : Nat → Nat) : Nat → Nat → Nat → Nat
  | 0, v, _ => v
  | r + 1, v, p => nmF b r (v * 27 + (b p - 96)) (p + 1)
def dgF (b : Nat → Nat) : Nat → Nat → Nat → Nat
  | 0, v, _ => v
  | r + 1, v, p => dgF b r (10 * v + (b p - 48)) (p + 1)
def skd (c : Nat) : Nat := if c = 59 then 4 else if c = 61 then 5 else if c = 40 then 6 else if c = 41 then 7 else if c = 43 then 8 else if c = 45 then 9 else if c = 42 then 10 else if c = 47 then 15 else if c = 60 then 13 else 3
def kwI (v : Int64) : Nat → Nat → Nat
  | 0, _ => 22
  | n + 1, k => if keyV k = v then k else kwI v n (k + 1)
theorem kwI_le (v : Int64) : ∀ n k, k + n = 22 → kwI v n k ≤ 22 := by
  intro n
  induction n with
  | zero => intro k _; exact Nat.le_refl _
  | succ n ih =>
    intro k hk
    simp only [kwI]
    by_cases h : keyV k = v
    · rw [if_pos h]; omega
    · rw [if_neg h]; exact ih (k + 1) (by omega)
/-- the kind of the token at p, as the reference numbers them -/
def kdN (b : Nat → Nat) (L p : Nat) : Nat := if L ≤ p then 0 else if isL (b p) = true then (if runN isL b (L - p) p ≤ 8 then (if kwI (lN (nmF b (runN isL b (L - p) p) 0 p)) 22 0 < 22 then 20 + kwI (lN (nmF b (runN isL b (L - p) p) 0 p)) 22 0 else 1) else 3) else if isD (b p) = true then (if runN isD b (L - p) p ≤ 4 then 2 else 3) else skd (b p)
def lnN (b : Nat → Nat) (L p : Nat) : Nat := if isL (b p) = true then runN isL b (L - p) p else if isD (b p) = true then runN isD b (L - p) p else 1
def vlN (b : Nat → Nat) (L p : Nat) : Nat := dgF b (runN isD b (L - p) p) 0 p
def nvN (b : Nat → Nat) (L p : Nat) : Nat := nmF b (runN isL b (L - p) p) 0 p
def skN (b : Nat → Nat) (L p : Nat) : Nat := p + runN isBl b (L - p) p
def psN (b : Nat → Nat) (L : Nat) : Nat → Nat
  | 0 => skN b L 0
  | k + 1 => skN b L (psN b L k + lnN b L (psN b L k))
/-- the class's number of a kind -/
def xkN (k : Nat) : Nat := if k = 0 then 24 else if k = 1 then 22 else if k = 2 then 23 else if k = 3 then 25 else if k = 4 then 59 else if k = 5 then 61 else if k = 6 then 40 else if k = 7 then 41 else if k = 8 then 43 else if k = 9 then 45 else if k = 10 then 42 else if k = 13 then 60 else if k = 15 then 47 else k - 20
def kY (S T : List Nat) (σ σ' : HS) : Prop := (∀ h, h ∉ S → σ'.1 h = σ.1 h) ∧ ∀ h, h ∉ T → σ'.2 h = σ.2 h
theorem kY.rf {S T : List Nat} {σ : HS} : kY S T σ σ := ⟨fun _ _ => rfl, fun _ _ => rfl⟩
theorem kY.tr {S T : List Nat} {σ σ1 σ2 : HS} (h1 : kY S T σ σ1) (h2 : kY S T σ1 σ2) : kY S T σ σ2 := ⟨fun h a => (h2.1 h a).trans (h1.1 h a), fun h a => (h2.2 h a).trans (h1.2 h a)⟩
theorem kY.up {S T S' T' : List Nat} {σ σ' : HS} (h : kY S T σ σ') (hS : ∀ x ∈ S, x ∈ S') (hT : ∀ x ∈ T, x ∈ T') : kY S' T' σ σ' := ⟨fun x b => h.1 x (fun c => b (hS x c)), fun x b => h.2 x (fun c => b (hT x c))⟩
theorem kY.p {S T : List Nat} {σ σ1 : HS} {h k : Nat} {v : Int32} (h1 : kY S T σ σ1) (hS : h ∈ S) : kY S T σ (pI σ1 h k v) := ⟨fun x b => by rw [pI_o (fun e => b (by rw [e]; exact hS))]; exact h1.1 x b, fun x b => by rw [pI_2]; exact h1.2 x b⟩
theorem kY.l {S T : List Nat} {σ σ1 : HS} {h k : Nat} {v : Int64} (h1 : kY S T σ σ1) (hT : h ∈ T) : kY S T σ (pL σ1 h k v) := ⟨fun x b => h1.1 x b, fun x b => by rw [pL_2, if_neg (fun e => b (by rw [e]; exact hT))]; exact h1.2 x b⟩
theorem kY.of {S : List Nat} {σ σ' : HS} (h : kX S σ σ') : kY S [] σ σ' := ⟨h.1, fun x _ => by rw [h.2]⟩
theorem pL_s {σ : HS} {h k : Nat} {v : Int64} : (pL σ h k v).2 h k = v := by rw [pL_2, if_pos rfl, updL_a, if_pos rfl]
def BX (σ : HS) (b : Nat → Nat) (L : Nat) : Prop := σ.1 1 1 = nI L ∧ L ≤ 2000 ∧ ∀ j, j < L → σ.1 16 j &&& 255 = nI (b j) ∧ b j < 256
theorem BX_k {S T : List Nat} {σ σ' : HS} {b : Nat → Nat} {L : Nat} (k : kY S T σ σ') (h1 : 1 ∉ S) (h16 : 16 ∉ S) (h : BX σ b L) : BX σ' b L := ⟨by rw [k.1 1 h1]; exact h.1, h.2.1, fun j hj => by rw [k.1 16 h16]; exact h.2.2 j hj⟩
theorem X_byteAt {σ : HS} {b : Nat → Nat} {L p : Nat} (hB : BX σ b L) (hp : p < L) : FX8_byteAt (nI p) σ = some (nI (b p), σ) := by
  have := hB.2.1
  unfold FX8_byteAt
  rw [if_neg (show ¬ nI p < (0 : Int32) from nI_pos (by omega)), hB.1, if_neg (nI_ge hp (by omega)), gd_t (ix_nI (by omega) (by omega)), cl_nI (by omega), (hB.2.2 p hp).1]
theorem X_byteE {σ : HS} {b : Nat → Nat} {L : Nat} (hB : BX σ b L) : FX8_byteAt (nI L) σ = some (-1, σ) := by
  have := hB.2.1
  unfold FX8_byteAt
  rw [if_neg (show ¬ nI L < (0 : Int32) from nI_pos (by omega)), hB.1, if_pos (nI_le (by omega) (by omega))]
theorem X_isLetter {c : Nat} (hc : c < 256) (σ : HS) : FX6_isLetter (nI c) σ = some (bI (isL c), σ) := by
  unfold FX6_isLetter
  by_cases h1 : c < 97
  · rw [if_pos (show nI c < (97 : Int32) from nI_lt (b := 97) h1 (by omega)), show isL c = false from decide_eq_false (by omega)]; rfl
  · rw [if_neg (show ¬ nI c < (97 : Int32) from nI_nlt (b := 97) (by omega) (by omega))]
    by_cases h2 : 122 < c
    · rw [if_pos (show (122 : Int32) < nI c from nI_lt (a := 122) h2 (by omega)), show isL c = false from decide_eq_false (by omega)]; rfl
    · rw [if_neg (show ¬ (122 : Int32) < nI c from nI_nlt (a := 122) (by omega) (by omega)), show isL c = true from decide_eq_true (by omega)]; rfl
theorem X_isDigit {c : Nat} (hc : c < 256) (σ : HS) : FX6_isDigit (nI c) σ = some (bI (isD c), σ) := by
  unfold FX6_isDigit
  by_cases h1 : c < 48
  · rw [if_pos (show nI c < (48 : Int32) from nI_lt (b := 48) h1 (by omega)), show isD c = false from decide_eq_false (by omega)]; rfl
  · rw [if_neg (show ¬ nI c < (48 : Int32) from nI_nlt (b := 48) (by omega) (by omega))]
    by_cases h2 : 57 < c
    · rw [if_pos (show (57 : Int32) < nI c from nI_lt (a := 57) h2 (by omega)), show isD c = false from decide_eq_false (by omega)]; rfl
    · rw [if_neg (show ¬ (57 : Int32) < nI c from nI_nlt (a := 57) (by omega) (by omega)), show isD c = true from decide_eq_true (by omega)]; rfl
theorem ne_I {a b : Nat} (h : a ≠ b) (ha : a < 2 ^ 31) (hb : b < 2 ^ 31) : ¬ nI a = nI b := fun e => h ((nI_eq ha hb).mp e)
theorem X_isBlank {c : Nat} (hc : c < 256) (σ : HS) : FX6_isBlank (nI c) σ = some (bI (isBl c), σ) := by
  unfold FX6_isBlank
  by_cases h1 : c = 9
  · subst h1; rfl
  rw [if_neg (show ¬ nI c = (9 : Int32) from ne_I (b := 9) h1 (by omega) (by omega))]
  by_cases h2 : c = 10
  · subst h2; rfl
  rw [if_neg (show ¬ nI c = (10 : Int32) from ne_I (b := 10) h2 (by omega) (by omega))]
  by_cases h3 : c = 13
  · subst h3; rfl
  rw [if_neg (show ¬ nI c = (13 : Int32) from ne_I (b := 13) h3 (by omega) (by omega))]
  by_cases h4 : c = 32
  · subst h4; rfl
  rw [if_neg (show ¬ nI c = (32 : Int32) from ne_I (b := 32) h4 (by omega) (by omega)), show isBl c = false from decide_eq_false (by omega)]; rfl
theorem X_skip {b : Nat → Nat} {L : Nat} : ∀ (n p f : Nat) (σ : HS), BX σ b L → σ.1 13 4 = nI p → p + n = L → n < f → ∃ σ', FX6_skipBlanks_0 f σ = some σ' ∧ kY [13] [] σ σ' ∧ σ'.1 13 4 = nI (p + runN isBl b n p) := by
  intro n
  induction n with
  | zero =>
    intro p f σ hB h4 hp hf
    have := hB.2.1
    obtain ⟨f, rfl⟩ : ∃ z, f = z + 1 := ⟨f - 1, by omega⟩
    rw [FX6_skipBlanks_0, hB.1, h4, if_pos (nI_le (by omega) (by omega))]
    exact ⟨σ, rfl, kY.rf, h4⟩
  | succ n ih =>
    intro p f σ hB h4 hp hf
    have := hB.2.1
    obtain ⟨f, rfl⟩ : ∃ z, f = z + 1 := ⟨f - 1, by omega⟩
    have hb := (hB.2.2 p (by omega)).2
    simp only [runN]
    rw [FX6_skipBlanks_0, hB.1, h4, if_neg (nI_ge (by omega) (by omega)), X_byteAt hB (by omega), bdI_s, X_isBlank hb, bdI_s]
    by_cases h : isBl (b p) = true
    · rw [h, bI_t, if_neg one_ne, if_pos rfl]
      simp only [hl_]
      rw [h4, nI_1]
      have kp : kY [13] [] σ (pI σ 13 4 (nI (p + 1))) := kY.rf.p (by decide)
      obtain ⟨σ', e1, k1, r1⟩ := ih (p + 1) f (pI σ 13 4 (nI (p + 1))) (BX_k kp (by decide) (by decide) hB) (by rw [pI_s, pk_us]) (by omega) (by omega)
      exact ⟨σ', e1, kp.tr k1, by rw [r1]; congr 1; omega⟩
    · rw [show isBl (b p) = false by simpa using h, bI_f, if_pos rfl, if_neg (by decide)]
      exact ⟨σ, rfl, kY.rf, h4⟩
theorem let_I {c : Nat} (h : isL c = true) : (nI c - (97 : Int32) + (1 : Int32)).toInt64 = lN (c - 96) := by
  have h' : 97 ≤ c ∧ c ≤ 122 := of_decide_eq_true h
  rw [show (97 : Int32) = nI 97 from rfl, pk_sub h'.1, nI_1, nI_l (by omega)]
  congr 1; omega
theorem X_letters {b : Nat → Nat} {L : Nat} (x1 : Int32) : ∀ (n p f v : Nat) (σ : HS), BX σ b L → σ.1 13 4 = nI p → σ.2 13 5 = lN v → p + n = L → n < f → ∃ σ', FX6_scanLetters_5 f x1 σ = FX6_scanLetters_71 x1 σ' ∧ kY [13] [13] σ σ' ∧ σ'.1 13 4 = nI (p + runN isL b n p) ∧ σ'.2 13 5 = lN (nmF b (runN isL b n p) v p) := by
  intro n
  induction n with
  | zero =>
    intro p f v σ hB h4 h5 hp hf
    have := hB.2.1
    obtain ⟨f, rfl⟩ : ∃ z, f = z + 1 := ⟨f - 1, by omega⟩
    rw [FX6_scanLetters_5, hB.1, h4, if_pos (nI_le (by omega) (by omega))]
    exact ⟨σ, rfl, kY.rf, h4, h5⟩
  | succ n ih =>
    intro p f v σ hB h4 h5 hp hf
    have := hB.2.1
    obtain ⟨f, rfl⟩ : ∃ z, f = z + 1 := ⟨f - 1, by omega⟩
    have hb := (hB.2.2 p (by omega)).2
    simp only [runN]
    rw [FX6_scanLetters_5, hB.1, h4, if_neg (nI_ge (by omega) (by omega)), X_byteAt hB (by omega), bdI_s, X_isLetter hb, bdI_s]
    by_cases h : isL (b p) = true
    · rw [h, bI_t, if_neg one_ne, if_pos rfl, h4, X_byteAt hB (by omega), bdI_s]
      unfold FX6_withLetter
      rw [bdL_s, let_I h, h5, show (27 : Int64) = lN 27 from rfl, lN_mul, lN_add]
      simp only [hl_]
      rw [show (pL σ 13 5 (lN (v * 27 + (b p - 96)))).1 13 4 = nI p from h4, nI_1]
      have kp : kY [13] [13] σ (pI (pL σ 13 5 (lN (v * 27 + (b p - 96)))) 13 4 (nI (p + 1))) := (kY.rf.l (by decide)).p (by decide)
      obtain ⟨σ', e1, k1, r1, r2⟩ := ih (p + 1) f (v * 27 + (b p - 96)) _ (BX_k kp (by decide) (by decide) hB) (by rw [pI_s, pk_us]) (by rw [pI_2, pL_s]) (by omega) (by omega)
      exact ⟨σ', e1, kp.tr k1, by rw [r1]; congr 1; omega, by rw [r2]; rfl⟩
    · rw [show isL (b p) = false by simpa using h, bI_f, if_pos rfl, if_neg (by decide)]
      exact ⟨σ, rfl, kY.rf, h4, h5⟩
theorem X_digits {b : Nat → Nat} {L : Nat} (x1 : Int32) : ∀ (n p f v : Nat) (σ : HS), BX σ b L → σ.1 13 4 = nI p → σ.2 13 5 = lN v → p + n = L → n < f → ∃ σ', FX6_scanDigits_5 f x1 σ = FX6_scanDigits_78 x1 σ' ∧ kY [13] [13] σ σ' ∧ σ'.1 13 4 = nI (p + runN isD b n p) ∧ σ'.2 13 5 = lN (dgF b (runN isD b n p) v p) := by
  intro n
  induction n with
  | zero =>
    intro p f v σ hB h4 h5 hp hf
    have := hB.2.1
    obtain ⟨f, rfl⟩ : ∃ z, f = z + 1 := ⟨f - 1, by omega⟩
    rw [FX6_scanDigits_5, hB.1, h4, if_pos (nI_le (by omega) (by omega))]
    exact ⟨σ, rfl, kY.rf, h4, h5⟩
  | succ n ih =>
    intro p f v σ hB h4 h5 hp hf
    have := hB.2.1
    obtain ⟨f, rfl⟩ : ∃ z, f = z + 1 := ⟨f - 1, by omega⟩
    have hb := (hB.2.2 p (by omega)).2
    simp only [runN]
    rw [FX6_scanDigits_5, hB.1, h4, if_neg (nI_ge (by omega) (by omega)), X_byteAt hB (by omega), bdI_s, X_isDigit hb, bdI_s]
    by_cases h : isD (b p) = true
    · have h' : 48 ≤ b p ∧ b p ≤ 57 := of_decide_eq_true h
      rw [h, bI_t, if_neg one_ne, if_pos rfl, h4, X_byteAt hB (by omega), bdI_s]
      simp only [hl_]
      rw [h5, show (10 : Int64) = lN 10 from rfl, lN_mul, nI_l (by omega), lN_add, show (48 : Int64) = lN 48 from rfl, lN_sub (by omega), show (pL σ 13 5 (lN (v * 10 + b p - 48))).1 13 4 = nI p from h4, nI_1, show v * 10 + b p - 48 = 10 * v + (b p - 48) by omega]
      have kp : kY [13] [13] σ (pI (pL σ 13 5 (lN (10 * v + (b p - 48)))) 13 4 (nI (p + 1))) := (kY.rf.l (by decide)).p (by decide)
      obtain ⟨σ', e1, k1, r1, r2⟩ := ih (p + 1) f (10 * v + (b p - 48)) _ (BX_k kp (by decide) (by decide) hB) (by rw [pI_s, pk_us]) (by rw [pI_2, pL_s]) (by omega) (by omega)
      exact ⟨σ', e1, kp.tr k1, by rw [r1]; congr 1; omega, by rw [r2]; rfl⟩
    · rw [show isD (b p) = false by simpa using h, bI_f, if_pos rfl, if_neg (by decide)]
      exact ⟨σ, rfl, kY.rf, h4, h5⟩
/-! the class's words -/
def wl : List Nat := (kyL.map (fun k => k ++ [32])).flatten
theorem wl_len : wl.length = 123 := by decide +kernel
theorem wl_at : ∀ i, i < 123 → (((((bytJS.getD 0 []).getD i 0) &&& (255 : Int32)).toUInt32 % 65536).toInt32) = nI (wl.getD i 0) ∧ isT .char (nI (wl.getD i 0)) = true ∧ wl.getD i 0 < 128 := by decide +kernel
theorem X_len (σ : HS) : FJ0_length_8abf5 0 σ = some (nI 123, σ) := by
  unfold FJ0_length_8abf5 FJ0_coder_7d493
  rw [if_neg one_ne, gd_t (show isT .byte (0 : Int32) = true by decide), bdI_s, show Int32.ofNat (lenJS.getD 0 0) >>> ((0 : Int32) &&& 31) = nI 123 by decide +kernel]
theorem X_len1 (σ : HS) : FJ0_length_8abf5 1 σ = some (nI 9, σ) := by
  unfold FJ0_length_8abf5 FJ0_coder_7d493
  rw [if_neg one_ne, gd_t (show isT .byte (0 : Int32) = true by decide), bdI_s, show Int32.ofNat (lenJS.getD 1 0) >>> ((0 : Int32) &&& 31) = nI 9 by decide +kernel]
theorem X_charAt {i : Nat} (hi : i < 123) (σ : HS) : FJ0_charAt_5068e 0 (nI i) σ = some (nI (wl.getD i 0), σ) := by
  obtain ⟨h1, h2, h3⟩ := wl_at i hi
  have e0 : FJ0_isLatin1_aae02 0 σ = some (1, σ) := rfl
  have e1 : FJ3_checkIndex_8e157 (nI i) (Int32.ofNat (lenJS.getD 0 0)) σ = some (nI i, σ) := by
    unfold FJ3_checkIndex_8e157
    rw [if_neg (nI_pos (by omega)), if_pos (show nI i < Int32.ofNat (lenJS.getD 0 0) from nI_lt (b := 123) hi (by omega))]
  have e2 : FJ1_charAt_3b067 0 (nI i) σ = some (nI (wl.getD i 0), σ) := by
    unfold FJ1_charAt_3b067 FJ0_checkIndex_df160
    rw [e1, bdI_s, bdV_s, cl_nI (by omega), h1, gd_t (show ix (nI i) (lenJS.getD 0 0) = true from ix_nI (n := 123) hi (by omega)), gd_t h2]
  unfold FJ0_charAt_5068e
  rw [e0, bdI_s, if_neg one_ne, e2, bdI_s, gd_t h2]
def kof (v : Int64) : List Nat → Nat → Int64 → Nat
  | [], _, _ => 22
  | c :: l, w, s => if c = 32 then (if s = v then w else kof v l (w + 1) 0) else kof v l w (s * 27 + (nI c - (97 : Int32) + (1 : Int32)).toInt64)
theorem X_kind (v : Int64) (σ : HS) : ∀ (l : List Nat) (i f w : Nat) (s : Int64), wl.drop i = l → i + l.length = 123 → l.length < f → FX6_kindOf_7 f v (nI w) s (nI i) σ = some (nI (kof v l w s), σ) := by
  intro l
  induction l with
  | nil =>
    intro i f w s hd hi hf
    obtain ⟨f, rfl⟩ : ∃ z, f = z + 1 := ⟨f - 1, by simp at hf; omega⟩
    rw [FX6_kindOf_7, X_len, bdI_s, if_pos (nI_le (by simp at hi; omega) (by simp at hi; omega))]
    rfl
  | cons c l ih =>
    intro i f w s hd hi hf
    obtain ⟨f, rfl⟩ : ∃ z, f = z + 1 := ⟨f - 1, by simp at hf; omega⟩
    simp only [List.length_cons] at hi hf
    have hc : wl.getD i 0 = c := by
      have := congrArg (fun x => x.getD 0 0) hd
      simpa [List.getD_eq_getElem?_getD, List.getElem?_drop] using this
    have hd' : wl.drop (i + 1) = l := by
      rw [← List.drop_drop, hd]; rfl
    have hlt := (wl_at i (by omega)).2.2
    rw [hc] at hlt
    simp only [kof]
    rw [FX6_kindOf_7, X_len, bdI_s, if_neg (nI_ge (by omega) (by omega)), X_charAt (by omega), bdI_s, hc, nI_1 w, nI_1 i]
    by_cases h : c = 32
    · rw [if_pos (show nI c = (32 : Int32) by rw [h]; rfl), if_pos h]
      by_cases hs : s = v
      · rw [if_pos ((lg_cmp_eq _ _).mpr hs), if_pos hs]
      · rw [if_neg (fun e => hs ((lg_cmp_eq _ _).mp e)), if_neg hs]
        exact ih (i + 1) f (w + 1) 0 hd' (by omega) (by omega)
    · rw [if_neg (show ¬ nI c = (32 : Int32) from ne_I (b := 32) h (by omega) (by omega)), if_neg h]
      unfold FX6_withLetter
      rw [bdL_s]
      exact ih (i + 1) f w _ hd' (by omega) (by omega)
theorem kof_word (v : Int64) (rest : List Nat) (w : Nat) : ∀ (l : List Nat) (a : Nat), (∀ c ∈ l, isL c = true) → kof v (l ++ 32 :: rest) w (lN a) = if lN (l.foldl (fun a c => a * 27 + (c - 96)) a) = v then w else kof v rest (w + 1) 0 := by
  intro l
  induction l with
  | nil =>
    intro a _
    rw [List.nil_append, List.foldl_nil, kof, if_pos rfl]
  | cons c l ih =>
    intro a h
    have hc := h c List.mem_cons_self
    have h' : 97 ≤ c ∧ c ≤ 122 := of_decide_eq_true hc
    simp only [List.cons_append, kof, List.foldl_cons]
    rw [if_neg (by omega), let_I hc, show (27 : Int64) = lN 27 from rfl, lN_mul, lN_add]
    exact ih _ (fun x hx => h x (List.mem_cons_of_mem _ hx))
def kwL (v : Int64) : List (List Nat) → Nat → Nat
  | [], _ => 22
  | k :: ks, w => if lN (kvl k) = v then w else kwL v ks (w + 1)
theorem kof_all (v : Int64) : ∀ (ks : List (List Nat)) (w : Nat), (∀ k ∈ ks, ∀ c ∈ k, isL c = true) → kof v ((ks.map (fun k => k ++ [32])).flatten) w 0 = kwL v ks w := by
  intro ks
  induction ks with
  | nil => intro w _; rfl
  | cons k ks ih =>
    intro w h
    simp only [List.map_cons, List.flatten_cons, kwL, List.append_assoc, List.cons_append, List.nil_append]
    have := kof_word v ((ks.map (fun k => k ++ [32])).flatten) w k 0 (h k List.mem_cons_self)
    rw [show lN 0 = (0 : Int64) from rfl] at this
    rw [this, ih (w + 1) (fun x hx => h x (List.mem_cons_of_mem _ hx))]
    rfl
theorem kwL_kwI (v : Int64) : ∀ (ks : List (List Nat)) (k : Nat), kyL.drop k = ks → k + ks.length = 22 → kwL v ks k = kwI v ks.length k := by
  intro ks
  induction ks with
  | nil => intro k _ _; rfl
  | cons a ks ih =>
    intro k hd hk
    have hc : kyL.getD k [] = a := by
      have := congrArg (fun x => x.getD 0 []) hd
      simpa [List.getD_eq_getElem?_getD, List.getElem?_drop] using this
    simp only [List.length_cons] at hk ⊢
    have e : keyV k = lN (kvl a) := by unfold keyV; rw [hc]
    simp only [kwL, kwI]
    rw [e, ih (k + 1) (by rw [← List.drop_drop, hd]; rfl) (by omega)]
theorem X_kindOf (v : Int64) (σ : HS) : FX6_kindOf v σ = some (nI (kwI v 22 0), σ) := by
  have h1 := X_kind v σ wl 0 fu 0 0 rfl (by rw [wl_len]) (by rw [wl_len]; show 123 < 5000; omega)
  have h2 := kof_all v kyL 0 (by decide +kernel)
  have h3 := kwL_kwI v kyL 0 rfl rfl
  rw [show kof v wl 0 0 = kwI v 22 0 from h2.trans h3] at h1
  exact h1
/-! the class's signs -/
def sgG (c : Int32) : List Int32 → Nat → Int32
  | [], _ => -1
  | x :: l, k => if x = c then nI k else sgG c l (k + 1)
theorem X_ioc (x1 x2 c : Int32) (σ : HS) : ∀ (l : List Int32) (i f : Nat), (bytJS.getD 1 []).drop i = l → i + l.length = 9 → l.length < f → FJ1_indexOfChar_4cfef_7 1 f x1 x2 (nI 9) c (nI i) σ = some (sgG c l i, σ) := by
  intro l
  induction l with
  | nil =>
    intro i f hd hi hf
    obtain ⟨f, rfl⟩ : ∃ z, f = z + 1 := ⟨f - 1, by simp at hf; omega⟩
    rw [FJ1_indexOfChar_4cfef_7, if_pos (nI_le (by simp at hi; omega) (by simp at hi; omega))]
    rfl
  | cons x l ih =>
    intro i f hd hi hf
    obtain ⟨f, rfl⟩ : ∃ z, f = z + 1 := ⟨f - 1, by simp at hf; omega⟩
    simp only [List.length_cons] at hi hf
    have hc : (bytJS.getD 1 []).getD i 0 = x := by
      have := congrArg (fun x => x.getD 0 0) hd
      simpa [List.getD_eq_getElem?_getD, List.getElem?_drop] using this
    simp only [sgG]
    rw [FJ1_indexOfChar_4cfef_7, if_neg (nI_ge (by omega) (by omega)), gd_t (show ix (nI i) (lenJS.getD 1 0) = true from ix_nI (n := 9) (by omega) (by omega)), cl_nI (by omega), hc, nI_1]
    by_cases h : x = c
    · rw [if_pos h, if_pos h]
    · rw [if_neg h, if_neg h]
      exact ih (i + 1) f (by rw [← List.drop_drop, hd]; rfl) (by omega) (by omega)
theorem sg_dec : ∀ c, c < 256 → ((nI c).toUInt32 % 65536).toInt32 = nI c ∧ (sgG ((nI c).toInt8.toInt32) (bytJS.getD 1 []) 0 < 0 ↔ skd c = 3) ∧ (skd c ≠ 3 → xkN (skd c) = c) := by decide +kernel
theorem X_sign {c : Nat} (hc : c < 256) (σ : HS) : ∃ r, FJ0_indexOf_0f7a4 1 (((nI c).toUInt32 % 65536).toInt32) σ = some (r, σ) ∧ (r < 0 ↔ skd c = 3) := by
  obtain ⟨h1, h2, -⟩ := sg_dec c hc
  refine ⟨sgG ((nI c).toInt8.toInt32) (bytJS.getD 1 []) 0, ?_, h2⟩
  rw [h1]
  have e0 : FJ0_isLatin1_aae02 1 σ = some (1, σ) := rfl
  have e1 := X_len1 σ
  have e2 : FJ1_canEncode_9a6ad (nI c) σ = some (1, σ) := by
    unfold FJ1_canEncode_9a6ad
    rw [if_neg (nI_pos (by omega)), if_neg (show ¬ (255 : Int32) < nI c from nI_nlt (a := 255) (by omega) (by omega))]
  have e3 := X_ioc (nI c) 0 ((nI c).toInt8.toInt32) σ (bytJS.getD 1 []) 0 fu rfl rfl (by show 9 < 5000; omega)
  unfold FJ0_indexOf_0f7a4 FJ0_indexOf_7cf53 FJ1_indexOf_4cfef FJ1_indexOfChar_4cfef
  rw [e0, bdI_s, if_neg one_ne, e1, bdI_s, e2, bdI_s, if_neg one_ne]
  simp only [hl_]
  rw [show maxI (0 : Int32) (0 : Int32) = 0 from rfl, show minI (nI 9) (Int32.ofNat (lenJS.getD 1 0)) = nI 9 from rfl, if_pos (show (0 : Int32) < nI 9 by decide), show (0 : Int32) = nI 0 from rfl]
  rw [show (0 : Int32) = nI 0 from rfl] at e3
  rw [e3, bdI_s, bdI_s, bdI_s]
