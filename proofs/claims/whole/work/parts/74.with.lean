/-! Face: with. -/
def exN (a k : Nat) : Nat := if k / 11 = a then 1 else 0
def nxN (p : Nat) : Nat := if p < 7 then p + 1 else 7
def t1N (a k : Nat) : Nat := 11 * (k / 11) + (k % 11 + exN a k)
def t2N (a k : Nat) : Nat := 11 * nxN (k / 11) + (k % 11 + exN a k)
/-- the ways behind a minute, out of those ahead of it (W), the first k of them done -/
def scN (W : Nat → Nat) (c a : Nat) : Nat → Nat → Nat
  | 0 => fun _ => 0
  | k + 1 => fun i => scN W c a k i + (if i = t1N a k then W k * (4 - c) else 0) + (if i = t2N a k then W k * c else 0)
def waN (q : Nat → Nat) (a : Nat) : Nat → Nat → Nat
  | 0 => fun i => if i = 0 then 1 else 0
  | m + 1 => scN (waN q a m) (q m) a 88
theorem scN_z {W : Nat → Nat} {c a k : Nat} (h : W k = 0) : scN W c a (k + 1) = scN W c a k := by
  funext i
  simp only [scN, h, Nat.zero_mul, ite_self, Nat.add_zero]
def suN (f : Nat → Nat) : Nat → Nat
  | 0 => 0
  | n + 1 => suN f n + f n
theorem suN_le (f : Nat → Nat) : ∀ n k, k < n → f k ≤ suN f n := by
  intro n
  induction n with
  | zero => intro k hk; omega
  | succ n ih =>
    intro k hk
    simp only [suN]
    by_cases e : k = n
    · rw [e]; omega
    · have := ih k (by omega); omega
theorem suN_add (f : Nat → Nat) (j x : Nat) : ∀ n, suN (fun i => f i + (if i = j then x else 0)) n = suN f n + (if j < n then x else 0) := by
  intro n
  induction n with
  | zero => simp [suN]
  | succ n ih =>
    simp only [suN]
    rw [ih]
    by_cases e : n = j
    · rw [if_pos e, if_neg (by omega), if_pos (by omega)]; omega
    · rw [if_neg e]
      by_cases h : j < n
      · rw [if_pos h, if_pos (by omega)]; omega
      · rw [if_neg h, if_neg (by omega)]; omega
theorem suN_z : ∀ n, suN (fun _ => 0) n = 0 := by
  intro n
  induction n with
  | zero => rfl
  | succ n ih => simp only [suN]; rw [ih]
theorem tN_lt {a k : Nat} (hk : k < 88) (h : k % 11 ≤ 9) : t1N a k < 88 ∧ t2N a k < 88 := by
  have hx : exN a k ≤ 1 := by unfold exN; split <;> omega
  have hn : nxN (k / 11) ≤ 7 := by unfold nxN; split <;> omega
  unfold t1N t2N
  constructor <;> omega
theorem tN_mod {a k : Nat} (h : k % 11 ≤ 9) : t1N a k % 11 ≤ k % 11 + 1 ∧ t2N a k % 11 ≤ k % 11 + 1 := by
  have hx : exN a k ≤ 1 := by unfold exN; split <;> omega
  unfold t1N t2N
  constructor <;> omega
def spN (W : Nat → Nat) (m : Nat) : Prop := ∀ i, m < i % 11 → W i = 0
theorem sc_sum {W : Nat → Nat} {c a m : Nat} (hc : c ≤ 4) (hm : m ≤ 9) (hs : spN W m) : ∀ k, k ≤ 88 → suN (scN W c a k) 88 = 4 * suN W k := by
  intro k
  induction k with
  | zero => intro _; exact suN_z 88
  | succ k ih =>
    intro hk
    have ih := ih (by omega)
    by_cases h0 : W k = 0
    · rw [scN_z h0, ih]; simp only [suN]; rw [h0]; rfl
    · have hm9 : k % 11 ≤ 9 := by
        by_cases h : m < k % 11
        · exact absurd (hs k h) h0
        · omega
      obtain ⟨l1, l2⟩ := tN_lt (a := a) (show k < 88 by omega) hm9
      have e := suN_add (fun i => scN W c a k i + (if i = t1N a k then W k * (4 - c) else 0)) (t2N a k) (W k * c) 88
      have e2 := suN_add (scN W c a k) (t1N a k) (W k * (4 - c)) 88
      have es : scN W c a (k + 1) = fun i => scN W c a k i + (if i = t1N a k then W k * (4 - c) else 0) + (if i = t2N a k then W k * c else 0) := rfl
      rw [es, e, e2, ih, if_pos l1, if_pos l2, show suN W (k + 1) = suN W k + W k from rfl]
      have := four (W k) c hc
      omega
theorem sc_sup {W : Nat → Nat} {c a m : Nat} (hm : m ≤ 9) (hs : spN W m) : ∀ k, k ≤ 88 → spN (scN W c a k) (m + 1) := by
  intro k
  induction k with
  | zero => intro _ i _; rfl
  | succ k ih =>
    intro hk
    by_cases h0 : W k = 0
    · rw [scN_z h0]; exact ih (by omega)
    · have hkm : k % 11 ≤ m := by
        by_cases h : m < k % 11
        · exact absurd (hs k h) h0
        · omega
      obtain ⟨l1, l2⟩ := tN_mod (a := a) (show k % 11 ≤ 9 by omega)
      intro i hi
      simp only [scN]
      rw [ih (by omega) i hi, if_neg (fun e => by rw [e] at hi; omega), if_neg (fun e => by rw [e] at hi; omega)]
theorem wa_ok {q : Nat → Nat} (hq : ∀ m, q m ≤ 4) (a : Nat) : ∀ m, m ≤ 10 → spN (waN q a m) m ∧ suN (waN q a m) 88 = 4 ^ m := by
  intro m
  induction m with
  | zero =>
    intro _
    refine ⟨fun i hi => ?_, ?_⟩
    · simp only [waN]; rw [if_neg (by omega)]
    · have := suN_add (fun _ => 0) 0 1 88
      simp only [Nat.zero_add] at this
      rw [suN_z, if_pos (by omega)] at this
      exact this
  | succ m ih =>
    intro hm
    obtain ⟨h1, h2⟩ := ih (by omega)
    refine ⟨sc_sup (show m ≤ 9 by omega) h1 88 (by omega), ?_⟩
    simp only [waN]
    rw [sc_sum (hq m) (show m ≤ 9 by omega) h1 88 (by omega), h2, Nat.pow_succ, Nat.mul_comm]
theorem upd2 {g : Nat → Int32} {A : Nat → Nat} (h : ∀ i, i < 88 → g i = nI (A i)) {j1 j2 : Nat} (x y : Nat) (h1 : j1 < 88) (h2 : j2 < 88) : ∀ i, i < 88 → upd (upd g j1 (g j1 + nI x)) j2 (upd g j1 (g j1 + nI x) j2 + nI y) i = nI (A i + (if i = j1 then x else 0) + (if i = j2 then y else 0)) := by
  intro i hi
  have e1 : ∀ i, i < 88 → upd g j1 (g j1 + nI x) i = nI (A i + (if i = j1 then x else 0)) := by
    intro i hi
    by_cases e : i = j1
    · rw [e, pk_us, if_pos rfl, h _ h1, nI_add]
    · rw [pk_un e, if_neg e, h i hi, Nat.add_zero]
  by_cases e : i = j2
  · rw [e, pk_us, if_pos rfl, e1 _ h2, nI_add]
  · rw [pk_un e, if_neg e, e1 i hi, Nat.add_zero]
/-! the reference -/
theorem M_gw147 {x1 x2 : Int32} : ∀ (n k f : Nat) (σ : HS), (∀ j, j < k → σ.1 36 j = σ.1 37 j) → k + n = 88 → n < f → ∃ σ', FX12_goesWith_147 f x1 x2 (nI k) σ = some σ' ∧ kM [36, 37] [] σ σ' ∧ ∀ j, j < 88 → σ'.1 36 j = σ.1 37 j := by
  intro n
  induction n with
  | zero =>
    intro k f σ hj hk hf
    obtain ⟨f, rfl⟩ : ∃ z, f = z + 1 := ⟨f - 1, by omega⟩
    obtain rfl : k = 88 := by omega
    rw [FX12_goesWith_147, if_pos (show (88 : Int32) ≤ nI 88 by decide)]
    exact ⟨_, rfl, kM.rf, hj⟩
  | succ n ih =>
    intro k f σ hj hk hf
    obtain ⟨f, rfl⟩ : ∃ z, f = z + 1 := ⟨f - 1, by omega⟩
    have i1 : ix (nI k) 88 = true := ix_nI (by omega) (by omega)
    obtain ⟨σ', h1, k1, r1⟩ := ih (k + 1) f (pI σ 36 k (σ.1 37 k)) (fun j hj' => by
      rw [pI_s, pI_o (by omega)]
      by_cases ej : j = k
      · rw [ej, pk_us]
      · rw [pk_un (by omega)]; exact hj j (by omega)) (by omega) (by omega)
    refine ⟨σ', ?_, kM.tr (kM.pR (by decide) (by decide)) k1, fun j hj' => by rw [r1 j hj', pI_o (by omega)]⟩
    rw [FX12_goesWith_147, if_neg (show ¬ (88 : Int32) ≤ nI k from nI_ge (b := 88) (by omega) (by omega)), gd_t i1, gd_t i1, cl_nI (by omega), nI_1]
    exact h1
theorem M_gw23 {a m c : Nat} {W : Nat → Nat} (ha : a < 8) (hm : m ≤ 9) (hc : c ≤ 4) (hs : spN W m) (hW : ∀ k, k < 88 → W k < 2 ^ 30) : ∀ (n k f : Nat) (σ : HS), (∀ i, i < 88 → σ.1 36 i = nI (W i)) → (∀ i, i < 88 → σ.1 37 i = nI (scN W c a k i)) → σ.1 34 m = nI c → k + n = 88 → n < f → ∃ σ', FX12_goesWith_23 f (nI a) (nI m) (nI k) σ = some σ' ∧ kM [36, 37] [] σ σ' ∧ ∀ i, i < 88 → σ'.1 36 i = nI (scN W c a 88 i) := by
  intro n
  induction n with
  | zero =>
    intro k f σ h36 h37 h34 hk hf
    obtain ⟨f, rfl⟩ : ∃ z, f = z + 1 := ⟨f - 1, by omega⟩
    obtain rfl : k = 88 := by omega
    obtain ⟨σ', h1, k1, r1⟩ := M_gw147 (x1 := nI a) (x2 := nI m) 88 0 fu σ (fun j hj => by omega) (by omega) (by show 88 < 5000; omega)
    refine ⟨σ', ?_, k1, fun i hi => by rw [r1 i hi]; exact h37 i hi⟩
    rw [FX12_goesWith_23, if_pos (show (88 : Int32) ≤ nI 88 by decide)]
    exact h1
  | succ n ih =>
    intro k f σ h36 h37 h34 hk hf
    obtain ⟨f, rfl⟩ : ∃ z, f = z + 1 := ⟨f - 1, by omega⟩
    have hk88 : k < 88 := by omega
    have i1 : ix (nI k) 88 = true := ix_nI (by omega) (by omega)
    have hWk := hW k hk88
    rw [FX12_goesWith_23, if_neg (show ¬ (88 : Int32) ≤ nI k from nI_ge (b := 88) (by omega) (by omega)), gd_t i1, cl_nI (by omega), h36 k hk88]
    by_cases h0 : W k = 0
    · rw [h0, if_pos (show nI 0 = (0 : Int32) from rfl), nI_1]
      exact ih (k + 1) f σ h36 (by rw [scN_z h0]; exact h37) h34 (by omega) (by omega)
    · have hm9 : k % 11 ≤ 9 := by
        by_cases h : m < k % 11
        · exact absurd (hs k h) h0
        · omega
      obtain ⟨l1, l2⟩ := tN_lt (a := a) hk88 hm9
      obtain ⟨σ', h1, k1, r1⟩ := ih (k + 1) f (pI (pI σ 37 (t1N a k) (σ.1 37 (t1N a k) + nI (W k * (4 - c)))) 37 (t2N a k) (upd (σ.1 37) (t1N a k) (σ.1 37 (t1N a k) + nI (W k * (4 - c))) (t2N a k) + nI (W k * c))) (fun i hi => by rw [pI_o (by omega), pI_o (by omega)]; exact h36 i hi) (fun i hi => by
        rw [pI_s, pI_s]
        exact upd2 h37 (W k * (4 - c)) (W k * c) l1 l2 i hi) (by rw [pI_o (by omega), pI_o (by omega)]; exact h34) (by omega) (by omega)
      refine ⟨σ', ?_, kM.tr (kM.tr (kM.pR (by decide) (by decide)) (kM.pR (by decide) (by decide))) k1, r1⟩
      have e11 : nI k / (11 : Int32) = nI (k / 11) := pk_div (d := 11) (by omega) (by omega) (by omega)
      have er : nI k - nI k / (11 : Int32) * (11 : Int32) = nI (k % 11) := pk_rem (d := 11) (by omega) (by omega) (by omega)
      have eb : (if nI (k / 11) = nI a then FX12_goesWith_62 (FX12_goesWith_23 f) (nI a) (nI m) (nI k) (nI (k / 11)) (nI (k % 11)) (1 : Int32) σ else FX12_goesWith_62 (FX12_goesWith_23 f) (nI a) (nI m) (nI k) (nI (k / 11)) (nI (k % 11)) (0 : Int32) σ) = FX12_goesWith_62 (FX12_goesWith_23 f) (nI a) (nI m) (nI k) (nI (k / 11)) (nI (k % 11)) (nI (exN a k)) σ := by
        unfold exN
        by_cases hp : k / 11 = a
        · rw [if_pos (by rw [hp]), if_pos hp]; rfl
        · rw [if_neg (fun e => hp ((nI_eq (by omega) (by omega)).mp e)), if_neg hp]; rfl
      rw [if_neg (show ¬ nI (W k) = (0 : Int32) from fun e => h0 ((nI_eq (b := 0) (by omega) (by omega)).mp e))]
      simp only [hl_]
      rw [er, e11, eb]
      have ht1 : (11 : Int32) * nI (k / 11) + nI (k % 11 + exN a k) = nI (t1N a k) := by rw [show (11 : Int32) = nI 11 from rfl, pk_mul, nI_add]; rfl
      have ht2 : (11 : Int32) * nI (nxN (k / 11)) + nI (k % 11 + exN a k) = nI (t2N a k) := by rw [show (11 : Int32) = nI 11 from rfl, pk_mul, nI_add]; rfl
      have j1 : ix (nI (t1N a k)) 88 = true := ix_nI l1 (by omega)
      have j2 : ix (nI (t2N a k)) 88 = true := ix_nI l2 (by omega)
      have im : ix (nI m) 10 = true := ix_nI (by omega) (by omega)
      unfold FX12_goesWith_62
      simp only [hl_]
      rw [nI_add, ht1, gd_t j1, gd_t i1, gd_t im, gd_t j1, cl_nI (by omega), cl_nI (by omega), cl_nI (by omega), h36 k hk88, h34, sub4 hc, pk_mul]
      have ec : ∀ τ : HS, (if (7 : Int32) ≤ nI (k / 11) then FX12_goesWith_118 (FX12_goesWith_23 f) (nI a) (nI m) (nI k) (nI (k / 11)) (nI (k % 11 + exN a k)) (7 : Int32) τ else FX12_goesWith_118 (FX12_goesWith_23 f) (nI a) (nI m) (nI k) (nI (k / 11)) (nI (k % 11 + exN a k)) (nI (k / 11) + 1) τ) = FX12_goesWith_118 (FX12_goesWith_23 f) (nI a) (nI m) (nI k) (nI (k / 11)) (nI (k % 11 + exN a k)) (nI (nxN (k / 11))) τ := by
        intro τ
        unfold nxN
        by_cases h7 : k / 11 < 7
        · rw [if_neg (show ¬ (7 : Int32) ≤ nI (k / 11) from nI_ge (b := 7) (by omega) (by omega)), if_pos h7, nI_1]
        · rw [if_pos (show (7 : Int32) ≤ nI (k / 11) from nI_le (a := 7) (by omega) (by omega)), if_neg h7]; rfl
      rw [ec]
      unfold FX12_goesWith_118
      simp only [hl_]
      rw [ht2, gd_t j2, gd_t i1, gd_t im, gd_t j2, cl_nI (by omega), cl_nI (by omega), cl_nI (by omega), pI_s, pI_o (show 36 ≠ 37 by omega), pI_o (show 34 ≠ 37 by omega), h36 k hk88, h34, pk_mul, nI_1]
      exact h1
theorem M_gw2 {a m c : Nat} {W : Nat → Nat} (ha : a < 8) (hm : m ≤ 9) (hc : c ≤ 4) (hs : spN W m) (hW : ∀ k, k < 88 → W k < 2 ^ 30) : ∀ (n k f : Nat) (σ : HS), (∀ i, i < 88 → σ.1 36 i = nI (W i)) → (∀ i, i < k → σ.1 37 i = nI 0) → σ.1 34 m = nI c → k + n = 88 → n < f → ∃ σ', FX12_goesWith_2 f (nI a) (nI m) (nI k) σ = some σ' ∧ kM [36, 37] [] σ σ' ∧ ∀ i, i < 88 → σ'.1 36 i = nI (scN W c a 88 i) := by
  intro n
  induction n with
  | zero =>
    intro k f σ h36 h37 h34 hk hf
    obtain ⟨f, rfl⟩ : ∃ z, f = z + 1 := ⟨f - 1, by omega⟩
    obtain rfl : k = 88 := by omega
    rw [FX12_goesWith_2, if_pos (show (88 : Int32) ≤ nI 88 by decide)]
    exact M_gw23 ha hm hc hs hW 88 0 fu σ h36 (fun i hi => h37 i hi) h34 (by omega) (by show 88 < 5000; omega)
  | succ n ih =>
    intro k f σ h36 h37 h34 hk hf
    obtain ⟨f, rfl⟩ : ∃ z, f = z + 1 := ⟨f - 1, by omega⟩
    have i1 : ix (nI k) 88 = true := ix_nI (by omega) (by omega)
    obtain ⟨σ', h1, k1, r1⟩ := ih (k + 1) f (pI σ 37 k 0) (fun i hi => by rw [pI_o (by omega)]; exact h36 i hi) (fun j hj' => by
      rw [pI_s]
      by_cases ej : j = k
      · rw [ej, pk_us]; rfl
      · rw [pk_un (by omega)]; exact h37 j (by omega)) (by rw [pI_o (by omega)]; exact h34) (by omega) (by omega)
    refine ⟨σ', ?_, kM.tr (kM.pR (by decide) (by decide)) k1, r1⟩
    rw [FX12_goesWith_2, if_neg (show ¬ (88 : Int32) ≤ nI k from nI_ge (b := 88) (by omega) (by omega)), gd_t i1, cl_nI (by omega), nI_1]
    exact h1
def wsN (W : Nat → Nat) (y : Nat) : Nat → Nat
  | 0 => 0
  | p + 1 => wsN W y p + W (11 * p + y)
theorem M_wi78 {y : Nat} {W : Nat → Nat} (x1 : Int32) (hy : y ≤ 10) {σ : HS} (h36 : ∀ i, i < 88 → σ.1 36 i = nI (W i)) : ∀ (n p f : Nat), p + n = 8 → n < f → FX12_with_78 f x1 (nI y) (nI (wsN W y p)) (nI p) σ = some (nI (wsN W y 8), σ) := by
  intro n
  induction n with
  | zero =>
    intro p f hp hf
    obtain ⟨f, rfl⟩ : ∃ z, f = z + 1 := ⟨f - 1, by omega⟩
    obtain rfl : p = 8 := by omega
    rw [FX12_with_78, if_pos (show (8 : Int32) ≤ nI 8 by decide)]
  | succ n ih =>
    intro p f hp hf
    obtain ⟨f, rfl⟩ : ∃ z, f = z + 1 := ⟨f - 1, by omega⟩
    have e : (11 : Int32) * nI p + nI y = nI (11 * p + y) := by rw [show (11 : Int32) = nI 11 from rfl, pk_mul, nI_add]
    rw [FX12_with_78, if_neg (show ¬ (8 : Int32) ≤ nI p from nI_ge (b := 8) (by omega) (by omega)), e, gd_t (ix_nI (by omega) (by omega))]
    simp only [hl_]
    rw [cl_nI (by omega), h36 _ (by omega), nI_add, nI_1]
    exact ih (p + 1) f (by omega) (by omega)
theorem s_wi : ∀ x, 19 ≤ x → x ≤ 27 → x ∉ [36, 37] := by intro x h1 h2 h; simp at h; omega
theorem M_wi53 {side nm nf a y : Nat} {Ls : Nat → Lawt} {G : Nat → Int32} (hnm : nm ≤ 10) (ha : a < 8) (hy : y ≤ 10) : ∀ (n m f : Nat) (σ : HS), MQs σ side nm nf Ls G → (∀ i, i < 88 → σ.1 36 i = nI (waN (qF (Ls 0) G) a m i)) → m + n = nm → n < f → ∃ σ', FX12_with_53 f (nI a) (nI y) (nI m) σ = some (nI (wsN (waN (qF (Ls 0) G) a nm) y 8), σ') ∧ kM [36, 37] [] σ σ' := by
  have hq : ∀ m, qF (Ls 0) G m ≤ 4 := fun m => (qF_ok (Ls 0) G m).1
  intro n
  induction n with
  | zero =>
    intro m f σ Q h36 hk hf
    obtain ⟨f, rfl⟩ : ∃ z, f = z + 1 := ⟨f - 1, by omega⟩
    obtain rfl : m = nm := by omega
    rw [FX12_with_53, M_many Q.1, bdI_s, if_pos (nI_le (by omega) (by omega))]
    exact ⟨σ, M_wi78 (nI a) hy h36 8 0 fu (by omega) (by show 8 < 5000; omega), kM.rf⟩
  | succ n ih =>
    intro m f σ Q h36 hk hf
    obtain ⟨f, rfl⟩ : ∃ z, f = z + 1 := ⟨f - 1, by omega⟩
    obtain ⟨w1, w2⟩ := wa_ok hq a m (by omega)
    have p4 := p4_lt (show m ≤ 10 by omega)
    obtain ⟨σ1, h1, k1, r1⟩ := M_gw2 ha (show m ≤ 9 by omega) (hq m) w1 (fun k hk => by have := suN_le (waN (qF (Ls 0) G) a m) 88 k hk; omega) 88 0 fu σ h36 (fun i hi => by omega) (Q.2.2.1 m (by omega)) (by omega) (by show 88 < 5000; omega)
    obtain ⟨σ2, h2, k2⟩ := ih (m + 1) f σ1 (MQs_kM k1 s_wi (by decide) (by decide) (by decide) (by decide) (by decide) (by decide) Q) r1 (by omega) (by omega)
    refine ⟨σ2, ?_, kM.tr k1 k2⟩
    rw [FX12_with_53, M_many Q.1, bdI_s, if_neg (nI_ge (by omega) (by omega))]
    unfold FX12_goesWith
    rw [show (0 : Int32) = nI 0 from rfl, h1, bdV_s, nI_1]
    exact h2
theorem M_wi25 {side nm nf a y : Nat} {Ls : Nat → Lawt} {G : Nat → Int32} (hnm : nm ≤ 10) (ha : a < 8) (hy : y ≤ 10) : ∀ (n k f : Nat) (σ : HS), MQs σ side nm nf Ls G → (∀ i, i < k → σ.1 36 i = 0) → k + n = 88 → n < f → ∃ σ', FX12_with_25 f (nI a) (nI y) (nI k) σ = some (nI (wsN (waN (qF (Ls 0) G) a nm) y 8), σ') ∧ kM [36, 37] [] σ σ' := by
  intro n
  induction n with
  | zero =>
    intro k f σ Q h36 hk hf
    obtain ⟨f, rfl⟩ : ∃ z, f = z + 1 := ⟨f - 1, by omega⟩
    obtain rfl : k = 88 := by omega
    have kp : kM [36, 37] [] σ (pI σ 36 0 1) := kM.pR (by decide) (by decide)
    obtain ⟨σ', h1, k1⟩ := M_wi53 (y := y) hnm ha hy nm 0 fu (pI σ 36 0 1) (MQs_kM kp s_wi (by decide) (by decide) (by decide) (by decide) (by decide) (by decide) Q) (fun i hi => by
      rw [pI_s]
      simp only [waN]
      by_cases e : i = 0
      · rw [e, pk_us, if_pos rfl]; rfl
      · rw [pk_un e, if_neg e]; exact h36 i hi) (by omega) (by show nm < 5000; omega)
    refine ⟨σ', ?_, kM.tr kp k1⟩
    rw [FX12_with_25, if_pos (show (88 : Int32) ≤ nI 88 by decide)]
    exact h1
  | succ n ih =>
    intro k f σ Q h36 hk hf
    obtain ⟨f, rfl⟩ : ∃ z, f = z + 1 := ⟨f - 1, by omega⟩
    have i1 : ix (nI k) 88 = true := ix_nI (by omega) (by omega)
    have kp : kM [36, 37] [] σ (pI σ 36 k 0) := kM.pR (by decide) (by decide)
    obtain ⟨σ', h1, k1⟩ := ih (k + 1) f (pI σ 36 k 0) (MQs_kM kp s_wi (by decide) (by decide) (by decide) (by decide) (by decide) (by decide) Q) (fun j hj' => by
      rw [pI_s]
      by_cases ej : j = k
      · rw [ej, pk_us]
      · rw [pk_un (by omega)]; exact h36 j (by omega)) (by omega) (by omega)
    refine ⟨σ', ?_, kM.tr kp k1⟩
    rw [FX12_with_25, if_neg (show ¬ (88 : Int32) ≤ nI k from nI_ge (b := 88) (by omega) (by omega)), gd_t i1, cl_nI (by omega), nI_1]
    exact h1
/-! the class -/
theorem mul_if {c a x y : Nat} {P Q : Prop} [Decidable P] [Decidable Q] : c * (a + (if P then x else 0) + (if Q then y else 0)) = c * a + (if P then c * x else 0) + (if Q then c * y else 0) := by
  by_cases h1 : P <;> by_cases h2 : Q <;> simp [h1, h2, Nat.mul_add]
theorem X_cw18 {q : Nat → Nat} {nm a m p R : Nat} {W : Nat → Nat} (hnm : nm ≤ 10) (ha : a < 8) (hm : m ≤ 9) (hmn : m < nm) (hp : p < 8) (hc : q m ≤ 4) (hs : spN W m) (hW : ∀ k, k < 88 → 4 * R * W k < 2 ^ 30) {mo : Nat} (hmo : mo = if p = a then 1 else 0) : ∀ (n y f : Nat) (σ : HS), (∀ i, i < 88 → σ.1 43 i = nI (4 * R * W i)) → (∀ i, i < 88 → σ.1 44 i = nI (R * scN W (q m) a (11 * p + y) i)) → (∀ i, i < nm → σ.1 41 i = nI (q i)) → y + mo + n = 11 → n < f → ∃ σ', FX0_carryWays_18 f (nI m) (nI p) (nI mo) (nI (11 * p)) (nI (11 * nxN p)) (nI y) σ = some σ' ∧ kX [44] σ σ' ∧ ∀ i, i < 88 → σ'.1 44 i = nI (R * scN W (q m) a (11 * (p + 1)) i) := by
  have hmo1 : mo ≤ 1 := by rw [hmo]; split <;> omega
  have hn7 : nxN p ≤ 7 := by unfold nxN; split <;> omega
  intro n
  induction n with
  | zero =>
    intro y f σ h43 h44 h41 hy hf
    obtain ⟨f, rfl⟩ : ∃ z, f = z + 1 := ⟨f - 1, by omega⟩
    rw [FX0_carryWays_18, nI_add, if_pos (show (11 : Int32) ≤ nI (y + mo) from nI_le (a := 11) (by omega) (by omega))]
    refine ⟨σ, rfl, kX.rf, fun i hi => ?_⟩
    rw [h44 i hi]
    by_cases h : mo = 0
    · rw [show 11 * (p + 1) = 11 * p + y by omega]
    · have hz : W (11 * p + y) = 0 := hs _ (by omega)
      rw [show 11 * (p + 1) = 11 * p + y + 1 by omega, scN_z hz]
  | succ n ih =>
    intro y f σ h43 h44 h41 hy hf
    obtain ⟨f, rfl⟩ : ∃ z, f = z + 1 := ⟨f - 1, by omega⟩
    have hk88 : 11 * p + y < 88 := by omega
    have hd : (11 * p + y) / 11 = p := by omega
    have hr : (11 * p + y) % 11 = y := by omega
    have hex : exN a (11 * p + y) = mo := by unfold exN; rw [hd, hmo]
    have ht1 : t1N a (11 * p + y) = 11 * p + y + mo := by unfold t1N; rw [hex, hd, hr]; omega
    have ht2 : t2N a (11 * p + y) = 11 * nxN p + y + mo := by unfold t2N; rw [hex, hd, hr]; omega
    have l1 : 11 * p + y + mo < 88 := by omega
    have l2 : 11 * nxN p + y + mo < 88 := by omega
    have hWk := hW _ hk88
    have im : ix (nI m) 10 = true := ix_nI (by omega) (by omega)
    have j1 : ix (nI (11 * p + y + mo)) 88 = true := ix_nI l1 (by omega)
    have j2 : ix (nI (11 * nxN p + y + mo)) 88 = true := ix_nI l2 (by omega)
    have eq4 : nI (4 * R * W (11 * p + y)) / (4 : Int32) = nI (R * W (11 * p + y)) := by
      rw [show (4 : Int32) = nI 4 from rfl, pk_div (by omega) (by omega) (by omega), Nat.mul_assoc, Nat.mul_div_cancel_left _ (by omega)]
    obtain ⟨σ', h1, k1, r1⟩ := ih (y + 1) f (pI (pI σ 44 (11 * p + y + mo) (σ.1 44 (11 * p + y + mo) + nI (R * W (11 * p + y) * (4 - q m)))) 44 (11 * nxN p + y + mo) (upd (σ.1 44) (11 * p + y + mo) (σ.1 44 (11 * p + y + mo) + nI (R * W (11 * p + y) * (4 - q m))) (11 * nxN p + y + mo) + nI (R * W (11 * p + y) * q m))) (fun i hi => by rw [pI_o (by omega), pI_o (by omega)]; exact h43 i hi) (fun i hi => by
      rw [pI_s, pI_s, upd2 h44 _ _ l1 l2 i hi, show 11 * p + (y + 1) = 11 * p + y + 1 by omega]
      simp only [scN]
      rw [mul_if, ht1, ht2, Nat.mul_assoc, Nat.mul_assoc]) (fun i hi => by rw [pI_o (by omega), pI_o (by omega)]; exact h41 i hi) (by omega) (by omega)
    refine ⟨σ', ?_, ((kX.rf.pp (by decide)).pp (by decide)).tr k1, r1⟩
    rw [FX0_carryWays_18, nI_add, if_neg (show ¬ (11 : Int32) ≤ nI (y + mo) from nI_ge (b := 11) (by omega) (by omega)), nI_add, gd_t (ix_nI hk88 (by omega))]
    simp only [hl_]
    rw [cl_nI (by omega), h43 _ hk88, eq4, nI_add, gd_t j1, gd_t im, gd_t j1, cl_nI (by omega), cl_nI (by omega), h41 m hmn, sub4 hc, pk_mul, nI_add, nI_add, gd_t j2, gd_t im, gd_t j2, cl_nI (by omega), pI_s, pI_o (show 41 ≠ 44 by omega), h41 m hmn, pk_mul, nI_1]
    exact h1
theorem X_ch42 {q : Nat → Nat} {nm a m y R : Nat} {W : Nat → Nat} {k20 : Int32 → Int32 → Int32 → HS → Option (Int32 × HS)} (hnm : nm ≤ 10) (ha : a < 8) (hm : m ≤ 9) (hmn : m < nm) (hc : q m ≤ 4) (hs : spN W m) (hW : ∀ k, k < 88 → 4 * R * W k < 2 ^ 30) : ∀ (n p f : Nat) (σ : HS), (∀ i, i < 88 → σ.1 43 i = nI (4 * R * W i)) → (∀ i, i < 88 → σ.1 44 i = nI (R * scN W (q m) a (11 * p) i)) → (∀ i, i < nm → σ.1 41 i = nI (q i)) → p + n = 8 → n < f → ∃ σ', FX0_casesHolding_42 k20 f (nI a) (nI y) (nI m) (nI p) σ = k20 (nI a) (nI y) (nI (m + 1)) σ' ∧ kX [43, 44] σ σ' ∧ ∀ i, i < 88 → σ'.1 43 i = nI (R * scN W (q m) a 88 i) := by
  intro n
  induction n with
  | zero =>
    intro p f σ h43 h44 h41 hp hf
    obtain ⟨f, rfl⟩ : ∃ z, f = z + 1 := ⟨f - 1, by omega⟩
    obtain rfl : p = 8 := by omega
    rw [FX0_casesHolding_42, if_pos (show (8 : Int32) ≤ nI 8 by decide), nI_1]
    refine ⟨rI σ 43 (va_cpy (σ.1 44) (σ.1 43) 0 0 88), rfl, kX.r (by decide), fun i hi => ?_⟩
    rw [rI_eq, cpy_a, if_pos (by omega), Nat.zero_add, Nat.sub_zero]
    exact h44 i hi
  | succ n ih =>
    intro p f σ h43 h44 h41 hp hf
    obtain ⟨f, rfl⟩ : ∃ z, f = z + 1 := ⟨f - 1, by omega⟩
    obtain ⟨mo, hmo⟩ : ∃ mo, mo = if p = a then 1 else 0 := ⟨_, rfl⟩
    have hmo1 : mo ≤ 1 := by rw [hmo]; split <;> omega
    obtain ⟨σ1, h1, k1, r1⟩ := X_cw18 hnm ha hm hmn (show p < 8 by omega) hc hs hW hmo (11 - mo) 0 fu σ h43 (by rw [Nat.add_zero]; exact h44) h41 (by omega) (by show 11 - mo < 5000; omega)
    obtain ⟨σ2, h2, k2, r2⟩ := ih (p + 1) f σ1 (fun i hi => by rw [k1.1 43 (by decide)]; exact h43 i hi) r1 (fun i hi => by rw [k1.1 41 (by decide)]; exact h41 i hi) (by omega) (by omega)
    refine ⟨σ2, ?_, (k1.up (by decide)).tr k2, r2⟩
    have e64 : FX0_casesHolding_64 k20 (FX0_casesHolding_42 k20 f) (nI a) (nI y) (nI m) (nI p) (nI m) (nI p) (nI mo) σ = FX0_casesHolding_42 k20 f (nI a) (nI y) (nI m) (nI (p + 1)) σ1 := by
      unfold FX0_casesHolding_64 FX0_carryWays
      simp only [hl_]
      have eb : FX0_partBehind (nI p) σ = some (nI (nxN p), σ) := by
        unfold FX0_partBehind nxN
        by_cases h7 : p < 7
        · rw [if_neg (show ¬ (7 : Int32) ≤ nI p from nI_ge (b := 7) (by omega) (by omega)), if_pos h7, nI_1]
        · rw [if_pos (show (7 : Int32) ≤ nI p from nI_le (a := 7) (by omega) (by omega)), if_neg h7]; rfl
      rw [eb, bdI_s, show (11 : Int32) = nI 11 from rfl, pk_mul, pk_mul, Nat.mul_comm p 11, Nat.mul_comm (nxN p) 11, show (0 : Int32) = nI 0 from rfl, h1, bdV_s, nI_1]
    rw [FX0_casesHolding_42, if_neg (show ¬ (8 : Int32) ≤ nI p from nI_ge (b := 8) (by omega) (by omega))]
    by_cases hpa : p = a
    · rw [if_pos (by rw [hpa]), ← h2, ← e64, hmo, if_pos hpa]; rfl
    · rw [if_neg (fun e => hpa ((nI_eq (by omega) (by omega)).mp e)), ← h2, ← e64, hmo, if_neg hpa]; rfl
theorem X_ch102 {y : Nat} {W : Nat → Nat} (x1 : Int32) (hy : y ≤ 10) {σ : HS} (h43 : ∀ i, i < 88 → σ.1 43 i = nI (W i)) : ∀ (n p f : Nat), p + n = 8 → n < f → FX0_casesHolding_102 f x1 (nI y) (nI (wsN W y p)) (nI p) σ = some (nI (wsN W y 8), σ) := by
  intro n
  induction n with
  | zero =>
    intro p f hp hf
    obtain ⟨f, rfl⟩ : ∃ z, f = z + 1 := ⟨f - 1, by omega⟩
    obtain rfl : p = 8 := by omega
    rw [FX0_casesHolding_102, if_pos (show (8 : Int32) ≤ nI 8 by decide)]
  | succ n ih =>
    intro p f hp hf
    obtain ⟨f, rfl⟩ : ∃ z, f = z + 1 := ⟨f - 1, by omega⟩
    have e : nI p * (11 : Int32) + nI y = nI (11 * p + y) := by rw [show (11 : Int32) = nI 11 from rfl, pk_mul, nI_add, Nat.mul_comm]
    rw [FX0_casesHolding_102, if_neg (show ¬ (8 : Int32) ≤ nI p from nI_ge (b := 8) (by omega) (by omega)), e, gd_t (ix_nI (by omega) (by omega))]
    simp only [hl_]
    rw [cl_nI (by omega), h43 _ (by omega), nI_add, nI_1]
    exact ih (p + 1) f (by omega) (by omega)
theorem X_ch20 {q : Nat → Nat} {nm a y : Nat} (hq : ∀ m, q m ≤ 4) (hnm : nm ≤ 10) (ha : a < 8) (hy : y ≤ 10) : ∀ (n m f : Nat) (σ : HS), σ.1 3 0 = nI nm → (∀ i, i < 88 → σ.1 43 i = nI (4 ^ n * waN q a m i)) → (∀ i, i < nm → σ.1 41 i = nI (q i)) → m + n = nm → n < f → ∃ σ', FX0_casesHolding_20 f (nI a) (nI y) (nI m) σ = some (nI (wsN (waN q a nm) y 8), σ') ∧ kX [43, 44] σ σ' := by
  intro n
  induction n with
  | zero =>
    intro m f σ h3 h43 h41 hk hf
    obtain ⟨f, rfl⟩ : ∃ z, f = z + 1 := ⟨f - 1, by omega⟩
    obtain rfl : m = nm := by omega
    rw [FX0_casesHolding_20, h3, if_pos (nI_le (by omega) (by omega))]
    exact ⟨σ, X_ch102 (nI a) hy (fun i hi => by rw [h43 i hi, Nat.pow_zero, Nat.one_mul]) 8 0 fu (by omega) (by show 8 < 5000; omega), kX.rf⟩
  | succ n ih =>
    intro m f σ h3 h43 h41 hk hf
    obtain ⟨f, rfl⟩ : ∃ z, f = z + 1 := ⟨f - 1, by omega⟩
    obtain ⟨w1, w2⟩ := wa_ok hq a m (by omega)
    have e4 : ∀ i, 4 ^ (n + 1) * waN q a m i = 4 * 4 ^ n * waN q a m i := fun i => by rw [Nat.pow_succ, Nat.mul_comm (4 ^ n) 4]
    have hW : ∀ k, k < 88 → 4 * 4 ^ n * waN q a m k < 2 ^ 30 := fun k hk => by
      have h1 := suN_le (waN q a m) 88 k hk
      rw [w2] at h1
      have h2 : 4 * 4 ^ n * waN q a m k ≤ 4 * 4 ^ n * 4 ^ m := Nat.mul_le_mul_left _ h1
      have h3 : 4 * 4 ^ n * 4 ^ m = 4 ^ nm := by rw [Nat.mul_comm 4, ← Nat.pow_succ, ← Nat.pow_add, show n + 1 + m = nm by omega]
      have := p4_lt hnm
      omega
    obtain ⟨σ1, h1, k1, r1⟩ := X_fill (a := 44) (N := 88) (0 : Int32) (by omega) σ
    obtain ⟨σ2, h2, k2, r2⟩ := X_ch42 (y := y) (k20 := FX0_casesHolding_20 f) hnm ha (show m ≤ 9 by omega) (show m < nm by omega) (hq m) w1 hW 8 0 fu σ1 (fun i hi => by rw [k1.1 43 (by decide), h43 i hi, e4]) (fun i hi => by rw [r1 i hi]; simp only [Nat.mul_zero, scN]; rfl) (fun i hi => by rw [k1.1 41 (by decide)]; exact h41 i hi) (by omega) (by show 8 < 5000; omega)
    have k12 : kX [43, 44] σ σ2 := (k1.up (by decide)).tr k2
    obtain ⟨σ3, h3', k3⟩ := ih (m + 1) f σ2 (by rw [k12.1 3 (by decide)]; exact h3) r2 (fun i hi => by rw [k12.1 41 (by decide)]; exact h41 i hi) (by omega) (by omega)
    refine ⟨σ3, ?_, k12.tr k3⟩
    rw [FX0_casesHolding_20, h3, if_neg (nI_ge (by omega) (by omega)), h1, bdV_s, show (0 : Int32) = nI 0 from rfl, h2]
    exact h3'
theorem X_casesHolding {σ : HS} {q : Nat → Nat} {nm a y : Nat} (hq : ∀ m, q m ≤ 4) (hnm : nm ≤ 10) (ha : a < 8) (hy : y ≤ 10) (h3 : σ.1 3 0 = nI nm) (hW : WX σ q nm) : ∃ σ', FX0_casesHolding (nI a) (nI y) σ = some (nI (wsN (waN q a nm) y 8), σ') ∧ kX [43, 44] σ σ' := by
  obtain ⟨σ1, h1, k1, r1⟩ := X_fill (a := 43) (N := 88) (0 : Int32) (by omega) σ
  have kp : kX [43, 44] σ (pI σ1 43 0 (nI (4 ^ nm))) := (k1.up (by decide)).pp (by decide)
  obtain ⟨σ2, h2, k2⟩ := X_ch20 hq hnm ha hy nm 0 fu (pI σ1 43 0 (nI (4 ^ nm))) (by rw [kp.1 3 (by decide)]; exact h3) (fun i hi => by
    rw [pI_s]
    simp only [waN]
    by_cases e : i = 0
    · rw [e, pk_us, if_pos rfl, Nat.mul_one]
    · rw [pk_un e, if_neg e, r1 i hi, Nat.mul_zero]; rfl) (fun i hi => by rw [kp.1 41 (by decide)]; exact hW.2.2.2.1 i hi) (by omega) (by show nm < 5000; omega)
  refine ⟨σ2, ?_, kp.tr k2⟩
  unfold FX0_casesHolding
  rw [h1, bdV_s]
  simp only [hl_]
  rw [k1.1 8 (by decide), hW.1]
  exact h2
theorem sT_21 : St_21 Rel := by
  intro n σX σM hn hR x1 x2
  obtain ⟨side, nm, nf, z, l, sd, Ls, t, r, v, p, s, w, e, pl, ky⟩ := id hR
  obtain ⟨hT, hsd, hM, hzl, hsM⟩ := t
  have hnm := hT.1
  have hnf := hT.2.1
  have h30 := hT.2.2.1
  have h31 := hT.2.2.2.1
  rcases rng x1 8 (by omega) with ⟨a, ha', rfl⟩ | ho
  · rcases rngT x2 10 (by omega) with ⟨y, hy, rfl⟩ | ho
    · obtain ⟨σa, σb, ha, hb, qa, qb, ka, wa, Qb, Ta, ra, e12, e13⟩ := ready hT hM r hR
      obtain ⟨σc, hc, kc⟩ := X_casesHolding (y := y) (fun m => (qF_ok (Ls 0) (σM.1 31) m).1) hnm ha' hy Ta.2.2.1 wa
      obtain ⟨σd, hd, kd⟩ := M_wi25 (y := y) hnm ha' hy 88 0 fu σb Qb (fun i hi => by omega) (by omega) (by show 88 < 5000; omega)
      refine ⟨_, σc, σd, Eq.trans ?_ hc, Eq.trans ?_ hd, Rel_q hR (qa.tr (qX.of kc (by decide))) (qb.tr (kd.up (by decide) (by decide)))⟩
      · unfold FX11_with
        rw [X_isPart_i ha', bdI_s, if_neg one_ne, show FX11_within (nI y) 0 10 σX = some (1, σX) from X_wi_i (n := 10) (by omega) hy, bdI_s, if_neg one_ne, ha, bdV_s, bdI_id]
      · unfold FX12_with
        rw [M_isPart_i ha', bdI_s, if_neg one_ne, show FX12_in (nI y) 0 10 σM = some (1, σM) from M_in_i (n := 10) (by omega) hy, bdI_s, if_neg one_ne, hb, bdV_s]
        rfl
    · exact ⟨-1, σX, σM, by simp only [FX11_with, X_isPart_i ha', show FX11_within x2 0 10 σX = some (0, σX) from X_wi_o ho, bdI_s, one_ne, if_false, if_true], by simp only [FX12_with, M_isPart_i ha', show FX12_in x2 0 10 σM = some (0, σM) from M_in_o ho, bdI_s, one_ne, if_false, if_true], Rel_q hR qX.rf kM.rf⟩
  · exact ⟨-1, σX, σM, by simp only [FX11_with, X_isPart_o ho, bdI_s, if_true], by simp only [FX12_with, M_isPart_o ho, bdI_s, if_true], Rel_q hR qX.rf kM.rf⟩
