theorem M_looksAt {σ : HS} {side nf f : Nat} {Ls : Nat → Lawt} (ht : TM σ side nf Ls) (hf : f < nf) (part : Int32) : ∃ σ', FX12_looksAt (nI f) part σ = some σ' ∧ kM [29] [] σ σ' ∧ ∀ j, j < 9 → σ'.1 29 j = vN [0, 0, σ.1 32 18, σ.1 32 19, σ.1 12 (5 * side + f), σ.1 13 (5 * side + f), σ.1 32 20, part, nI f] j := by
  obtain ⟨σ1, h1, k1, v0, v1, v2, v3, v4, v5, v6, v7, v8⟩ := M_looks σ
  obtain ⟨hs, hs2, hnf, -⟩ := ht
  unfold FX12_looksAt
  rw [h1, bdV_s]
  have e18 : σ1.1 0 18 = nI side := by rw [k1.2.1 18 (by decide)]; exact hs2
  have e0 : (5 : Int32) * nI side + nI f = nI (5 * side + f) := by rw [show (5 : Int32) = nI 5 from rfl, pk_mul, nI_add]
  have i10 : ix (nI (5 * side + f)) 10 = true := ix_nI (by omega) (by omega)
  have c10 : (nI (5 * side + f)).toNatClampNeg = 5 * side + f := cl_nI (by omega)
  simp only [hl_, e18, e0, pI_1, i10, c10, show ((0 : Nat) = 29) = False from eq_false (by decide), show ((13 : Nat) = 29) = False from eq_false (by decide), if_false, gd_t]
  refine ⟨_, rfl, ?_, ?_⟩
  · exact (((k1.tr (kM.pR (by decide) (by decide))).tr (kM.pR (by decide) (by decide))).tr (kM.pR (by decide) (by decide))).tr (kM.pR (by decide) (by decide))
  · have e12 : σ1.1 12 = σ.1 12 := k1.1 12 (by decide) (by decide)
    have e13 : σ1.1 13 = σ.1 13 := k1.1 13 (by decide) (by decide)
    intro j hj
    match j, hj with
    | 0, _ => exact v0
    | 1, _ => exact v1
    | 2, _ => exact v2
    | 3, _ => exact v3
    | 4, _ => show σ1.1 12 _ = _; rw [e12]; rfl
    | 5, _ => show σ1.1 13 _ = _; rw [e13]; rfl
    | 6, _ => exact v6
    | 7, _ => rfl
    | 8, _ => rfl
    | j + 9, h => omega
theorem M_worthOf {σ : HS} {side nf f m p : Nat} {Ls : Nat → Lawt} (ht : TM σ side nf Ls) (hf : f < nf) (hm : m < 10) : ∃ σ', FX12_worthOf (nI f) (nI m) (nI p) σ = some (wthF (Ls 1) (σ.1 32) (σ.1 12 (5 * side + f)) (σ.1 13 (5 * side + f)) f m p, σ') ∧ kM [29, 30] [46] σ σ' := by
  obtain ⟨σ1, h1, k1, v⟩ := M_looksAt ht hf (nI p)
  unfold FX12_worthOf
  rw [h1, bdV_s]
  simp only [hl_]
  rw [gd_t (ix_nI (show m < 33 by omega) (by omega)), cl_nI (by omega)]
  obtain ⟨σ2, e2⟩ : ∃ z, z = pI (pI σ1 29 0 (nI m)) 29 1 ((pI σ1 29 0 (nI m)).1 32 m) := ⟨_, rfl⟩
  rw [← e2]
  have k2 : kM [29, 30] [46] σ σ2 := by
    rw [e2]
    exact ((k1.up (by simp) (by simp)).tr (kM.pR (by decide) (by decide))).tr (kM.pR (by decide) (by decide))
  have ht2 := TM_kM k2 s29 (by decide) ht
  have hv : ∀ j, j < 9 → σ2.1 29 j = vN [nI m, σ.1 32 m, σ.1 32 18, σ.1 32 19, σ.1 12 (5 * side + f), σ.1 13 (5 * side + f), σ.1 32 20, nI p, nI f] j := by
    have e32 : σ1.1 32 = σ.1 32 := k1.1 32 (by decide) (by decide)
    intro j hj
    rw [e2]
    match j, hj with
    | 0, _ => rfl
    | 1, _ => show σ1.1 32 m = σ.1 32 m; rw [e32]
    | 2, _ => exact v 2 (by decide)
    | 3, _ => exact v 3 (by decide)
    | 4, _ => exact v 4 (by decide)
    | 5, _ => exact v 5 (by decide)
    | 6, _ => exact v 6 (by decide)
    | 7, _ => exact v 7 (by decide)
    | 8, _ => exact v 8 (by decide)
    | j + 9, h => omega
  obtain ⟨σ3, h3, k3⟩ := M_law (σ := σ2) (k := 1) (x2 := 1) ht2.1 (by decide) ht2.2.1 rfl ht2.2.2.2.2.1 rfl
  rw [show FX12_lawTells (1 : Int32) 1 σ2 = _ from h3, bdI_s, M_within, bdI_s]
  refine ⟨σ3, ?_, k2.tr (k3.up (by simp) (by simp))⟩
  unfold wthF
  rw [lawV_congr hv _ _ (lawOf_wf dp_p.1 ht.2.2.2.2.1)]
/-- bits: those p from p on, n of them, whose number in o is x -/
def pbG (o : Nat → Int32) (x : Int32) : Nat → Nat → Int32 → Int32
  | 0, _, a => a
  | n + 1, p, a => pbG o x n (p + 1) (if o p = x then a ||| ((1 : Int32) <<< (nI p &&& 31)) else a)
def partsF (g : Nat → Int32) (x : Int32) : Int32 := pbG (fun p => g (10 + p)) x 8 0 0
theorem M_partBits_4 (x : Int32) : ∀ (n p f : Nat) (a : Int32) (σ : HS), p + n = 8 → n < f → FX12_partBits_4 f x a (nI p) σ = some (pbG (fun p => σ.1 32 (10 + p)) x n p a, σ) := by
  intro n
  induction n with
  | zero =>
    intro p f a σ hp hf
    obtain ⟨f, rfl⟩ : ∃ z, f = z + 1 := ⟨f - 1, by omega⟩
    rw [FX12_partBits_4, if_pos (show (8 : Int32) ≤ nI p from nI_le (show 8 ≤ p by omega) (by omega))]
    rfl
  | succ n ih =>
    intro p f a σ hp hf
    obtain ⟨f, rfl⟩ : ∃ z, f = z + 1 := ⟨f - 1, by omega⟩
    have e0 : (10 : Int32) + nI p = nI (10 + p) := nI_add 10 p
    rw [FX12_partBits_4, if_neg (show ¬ (8 : Int32) ≤ nI p from nI_ge (b := 8) (by omega) (by omega)), e0, gd_t (ix_nI (by omega) (by omega)), cl_nI (by omega), nI_1]
    simp only [hl_, pbG]
    by_cases h : σ.1 32 (10 + p) = x
    · rw [if_pos h, if_pos h, ih _ _ _ _ (by omega) (by omega)]
    · rw [if_neg h, if_neg h, ih _ _ _ _ (by omega) (by omega)]
theorem M_partBits (x : Int32) (σ : HS) : FX12_partBits x σ = some (partsF (σ.1 32) x, σ) := M_partBits_4 x 8 0 fu 0 σ (by omega) (by show 8 < 5000; omega)
/-- one bit more -/
theorem or_bit : ∀ p, p < 10 → ∀ j, j < 2 ^ p → nI j ||| ((1 : Int32) <<< (nI p &&& 31)) = nI (j + 2 ^ p) := by decide +kernel
theorem pbG_lt (o : Nat → Int32) (x : Int32) : ∀ (n p j : Nat), p + n ≤ 10 → j < 2 ^ p → ∃ k, k < 2 ^ (p + n) ∧ pbG o x n p (nI j) = nI k := by
  intro n
  induction n with
  | zero => intro p j _ hj; exact ⟨j, hj, rfl⟩
  | succ n ih =>
    intro p j hp hj
    have e2 : 2 ^ (p + 1) = 2 ^ p + 2 ^ p := by rw [Nat.pow_succ]; omega
    simp only [pbG]
    by_cases h : o p = x
    · rw [if_pos h, or_bit p (by omega) j hj]
      obtain ⟨k, h1, h2⟩ := ih (p + 1) (j + 2 ^ p) (by omega) (by omega)
      exact ⟨k, by rw [show p + (n + 1) = p + 1 + n by omega]; exact h1, h2⟩
    · rw [if_neg h]
      obtain ⟨k, h1, h2⟩ := ih (p + 1) j (by omega) (by omega)
      exact ⟨k, by rw [show p + (n + 1) = p + 1 + n by omega]; exact h1, h2⟩
theorem partsF_lt (g : Nat → Int32) (x : Int32) : ∃ k, k < 256 ∧ partsF g x = nI k := by
  obtain ⟨k, h1, h2⟩ := pbG_lt (fun p => g (10 + p)) x 8 0 0 (by omega) (by decide)
  exact ⟨k, h1, h2⟩
/-- how many bits a number below 1024 has -/
def cntN (c : Nat) : Nat → Nat
  | 0 => 0
  | n + 1 => cntN c n + c / 2 ^ n % 2
theorem bit_at : ∀ k, k < 10 → ∀ c, c < 1024 → ((nI c) >>> (nI k &&& 31)) &&& (1 : Int32) = nI (c / 2 ^ k % 2) := by decide +kernel
theorem cntN_le (c : Nat) : ∀ n, cntN c n ≤ n := by
  intro n
  induction n with
  | zero => exact Nat.le_refl _
  | succ n ih => simp only [cntN]; have := Nat.mod_lt (c / 2 ^ n) (show 2 > 0 by decide); omega
theorem M_bits_4 {c : Nat} (hc : c < 1024) : ∀ (n k f : Nat) (σ : HS), k + n = 10 → n < f → FX12_bits_4 f (nI c) (nI (cntN c k)) (nI k) σ = some (nI (cntN c 10), σ) := by
  intro n
  induction n with
  | zero =>
    intro k f σ hk hf
    obtain ⟨f, rfl⟩ : ∃ z, f = z + 1 := ⟨f - 1, by omega⟩
    obtain rfl : k = 10 := by omega
    rw [FX12_bits_4, if_pos (show (10 : Int32) ≤ nI 10 by decide)]
  | succ n ih =>
    intro k f σ hk hf
    obtain ⟨f, rfl⟩ : ∃ z, f = z + 1 := ⟨f - 1, by omega⟩
    rw [FX12_bits_4, if_neg (show ¬ (10 : Int32) ≤ nI k from nI_ge (b := 10) (by omega) (by omega)), bit_at k (by omega) c hc]
    simp only [hl_]
    rw [nI_add, nI_1]
    exact ih (k + 1) f σ (by omega) (by omega)
theorem M_bits {c : Nat} (hc : c < 1024) (σ : HS) : FX12_bits (nI c) σ = some (nI (cntN c 10), σ) := M_bits_4 hc 10 0 fu σ (by omega) (by show 10 < 5000; omega)
/-- how many leases: the number of bits, of a row -/
def numF (g : Nat → Int32) (f : Nat) : Int32 := nI (cntN (partsF g (nI f)).toNatClampNeg 10)
theorem M_num (σ : HS) (f : Nat) : bdI (FX12_partBits (nI f) σ) (fun r σ1 => FX12_bits r σ1) = some (numF (σ.1 32) f, σ) := by
  rw [M_partBits, bdI_s]
  obtain ⟨k, h1, h2⟩ := partsF_lt (σ.1 32) (nI f)
  unfold numF
  rw [h2, cl_nI (by omega)]
  exact M_bits (by omega) σ
theorem M_rentsOf {σ : HS} {side nf f : Nat} {Ls : Nat → Lawt} (ht : TM σ side nf Ls) (hf : f < nf) : ∃ σ', FX12_rentsOf (nI f) σ = some (famF (Ls 2) (σ.1 32) (σ.1 12 (5 * side + f)) (σ.1 13 (5 * side + f)) f (numF (σ.1 32) f), σ') ∧ kM [29, 30] [46] σ σ' := by
  unfold FX12_rentsOf
  have hn := M_num σ f
  rw [M_partBits, bdI_s] at hn ⊢
  rw [hn, bdI_s]
  obtain ⟨σ1, h1, k1, v⟩ := M_looksAt ht hf (numF (σ.1 32) f)
  rw [h1, bdV_s]
  have k2 : kM [29, 30] [46] σ σ1 := k1.up (by simp) (by simp)
  have ht2 := TM_kM k2 s29 (by decide) ht
  obtain ⟨σ3, h3, k3⟩ := M_law (σ := σ1) (k := 2) (x2 := σ1.1 29 4) ht2.1 (by decide) ht2.2.1 rfl ht2.2.2.2.2.2.1 rfl
  rw [show FX12_lawTells (2 : Int32) (σ1.1 29 4) σ1 = _ from h3, bdI_s, M_within, bdI_s]
  refine ⟨σ3, ?_, k2.tr (k3.up (by simp) (by simp))⟩
  unfold famF
  rw [lawV_congr v _ _ (lawOf_wf dp_p.2.2 ht.2.2.2.2.2.1)]
theorem M_curesOf {σ : HS} {side nf f : Nat} {Ls : Nat → Lawt} (ht : TM σ side nf Ls) (hf : f < nf) : ∃ σ', FX12_curesOf (nI f) σ = some (famF (Ls 3) (σ.1 32) (σ.1 12 (5 * side + f)) (σ.1 13 (5 * side + f)) f (numF (σ.1 32) f), σ') ∧ kM [29, 30] [46] σ σ' := by
  unfold FX12_curesOf
  have hn := M_num σ f
  rw [M_partBits, bdI_s] at hn ⊢
  rw [hn, bdI_s]
  obtain ⟨σ1, h1, k1, v⟩ := M_looksAt ht hf (numF (σ.1 32) f)
  rw [h1, bdV_s]
  have k2 : kM [29, 30] [46] σ σ1 := k1.up (by simp) (by simp)
  have ht2 := TM_kM k2 s29 (by decide) ht
  obtain ⟨σ3, h3, k3⟩ := M_law (σ := σ1) (k := 3) (x2 := 0) ht2.1 (by decide) ht2.2.1 rfl ht2.2.2.2.2.2.2 rfl
  rw [show FX12_lawTells (3 : Int32) 0 σ1 = _ from h3, bdI_s, M_within, bdI_s]
  refine ⟨σ3, ?_, k2.tr (k3.up (by simp) (by simp))⟩
  unfold famF
  rw [lawV_congr v _ _ (lawOf_wf dp_p.2.1 ht.2.2.2.2.2.2)]
