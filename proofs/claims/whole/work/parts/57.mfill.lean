/-! Chances: the reference's rows. -/
def stN (q : Nat → Nat) (nm m j : Nat) : Nat := fwN q nm (m - 1) j / 4 * (4 - q (m - 1))
def mvN (q : Nat → Nat) (nm m j : Nat) : Nat := fwN q nm (m - 1) j / 4 * q (m - 1)
def ptN (q : Nat → Nat) (nm m P j : Nat) : Nat := (if j < P then stN q nm m j else 0) + (if 1 ≤ j ∧ j - 1 < P then mvN q nm m (j - 1) else 0) + (if j = 7 ∧ 7 < P then mvN q nm m 7 else 0)
theorem ptN_0 (q : Nat → Nat) (nm m j : Nat) : ptN q nm m 0 j = 0 := by
  unfold ptN
  rw [if_neg (by omega), if_neg (by omega), if_neg (by omega)]
theorem ptN_8 (q : Nat → Nat) (nm m j : Nat) (hm : 1 ≤ m) (hj : j < 8) : ptN q nm m 8 j = fwN q nm m j := by
  obtain ⟨k, rfl⟩ : ∃ k, m = k + 1 := ⟨m - 1, by omega⟩
  unfold ptN stN mvN
  simp only [fwN, Nat.add_sub_cancel]
  rw [if_pos hj]
  by_cases h0 : j = 0
  · rw [if_neg (by omega), if_pos h0, if_neg (by omega), if_neg (by omega)]
  · rw [if_pos (by omega), if_neg h0]
    by_cases h7 : j = 7
    · rw [if_pos (by omega), if_pos h7]
    · rw [if_neg (by omega), if_neg h7]
def fAt (q : Nat → Nat) (nm m P : Nat) (g : Nat → Int32) : Prop := ∀ m' j, m' < 10 → j < 8 → g (8 * m' + j) = nI (if m' < m then fwN q nm m' j else if m' = m then ptN q nm m P j else 0)
/-- two places of the row get more -/
theorem fAt_step {q : Nat → Nat} {nm m P a : Nat} {g : Nat → Int32} (h : fAt q nm m P g) (hm : m < 10) (hP : P < 8) (ha : a = if P < 7 then P + 1 else 7) :
    fAt q nm m (P + 1) (upd (upd g (8 * m + P) (g (8 * m + P) + nI (stN q nm m P))) (8 * m + a) ((upd g (8 * m + P) (g (8 * m + P) + nI (stN q nm m P))) (8 * m + a) + nI (mvN q nm m P))) := by
  have ha8 : a < 8 := by rw [ha]; split <;> omega
  intro m' j h1 h2
  have hx := h m' j h1 h2
  by_cases hmm : m' = m
  · subst hmm
    rw [if_neg (by omega), if_pos rfl] at hx ⊢
    have hPx := h m' P h1 hP
    rw [if_neg (by omega), if_pos rfl] at hPx
    by_cases hp7 : P < 7
    · rw [if_pos hp7] at ha
      by_cases hja : j = a
      · subst hja
        rw [upd_a, if_pos rfl, upd_a, if_neg (by omega), hx, nI_add]
        congr 1
        unfold ptN
        rw [if_neg (by omega), if_neg (by omega), if_neg (by omega), if_neg (by omega), if_pos (by omega), if_neg (by omega), show j - 1 = P by omega]
        omega
      · rw [upd_a, if_neg (by omega)]
        by_cases hjP : j = P
        · subst hjP
          rw [upd_a, if_pos rfl, hx, nI_add]
          congr 1
          unfold ptN
          rw [if_neg (show ¬ j < j by omega), if_pos (show j < j + 1 by omega), if_neg (show ¬ (j = 7 ∧ 7 < j) by omega), if_neg (show ¬ (j = 7 ∧ 7 < j + 1) by omega)]
          by_cases h1j : 1 ≤ j
          · rw [if_pos (by omega), if_pos (by omega)]; omega
          · rw [if_neg (by omega), if_neg (by omega)]; omega
        · rw [upd_a, if_neg (by omega), hx]
          congr 1
          unfold ptN
          rw [if_neg (show ¬ (j = 7 ∧ 7 < P) by omega), if_neg (show ¬ (j = 7 ∧ 7 < P + 1) by omega)]
          congr 1
          congr 1
          · by_cases hlt : j < P
            · rw [if_pos hlt, if_pos (by omega)]
            · rw [if_neg hlt, if_neg (by omega)]
          · by_cases hlt : 1 ≤ j ∧ j - 1 < P
            · rw [if_pos hlt, if_pos (by omega)]
            · rw [if_neg hlt, if_neg (by omega)]
    · rw [if_neg hp7] at ha
      obtain rfl : P = 7 := by omega
      subst ha
      by_cases hj7 : j = 7
      · subst hj7
        rw [upd_a, if_pos rfl, upd_a, if_pos rfl, hx, nI_add, nI_add]
        congr 1
        unfold ptN
        rw [if_neg (by omega), if_pos (by omega), if_neg (by omega), if_pos (by omega), if_pos (by omega), if_pos (by omega)]
        omega
      · rw [upd_a, if_neg (by omega), upd_a, if_neg (by omega), hx]
        congr 1
        unfold ptN
        rw [if_neg (show ¬ (j = 7 ∧ 7 < 7) by omega), if_neg (show ¬ (j = 7 ∧ 7 < 7 + 1) by omega)]
        congr 1
        congr 1
        · rw [if_pos (by omega), if_pos (by omega)]
        · by_cases h1j : 1 ≤ j
          · rw [if_pos (by omega), if_pos (by omega)]
          · rw [if_neg (by omega), if_neg (by omega)]
  · rw [upd_a, if_neg (by omega), upd_a, if_neg (by omega), hx, if_neg hmm, if_neg hmm]
theorem qrt (q : Nat → Nat) (hq : ∀ m, q m ≤ 4) {nm m p : Nat} (hnm : nm ≤ 10) (hp : p < 8) : nI (fwN q nm m p) / 4 = nI (fwN q nm m p / 4) := by
  have h1 := fwN_le hq nm m p hp
  have h2 := p4_lt hnm
  exact pk_div (d := 4) (by omega) (by omega) (by omega)
theorem sub4 {k : Nat} (h : k ≤ 4) : (4 : Int32) - nI k = nI (4 - k) := pk_sub (a := 4) h
theorem M_fills84 {q : Nat → Nat} (hq : ∀ m, q m ≤ 4) {nm m : Nat} {k74 : Int32 → HS → Option HS} (hnm : nm ≤ 10) (hm1 : 1 ≤ m) (hm : m < nm) : ∀ (n P f : Nat) (σ : HS), fAt q nm m P (σ.1 35) → (∀ i, i < nm → σ.1 34 i = nI (q i)) → P + n = 8 → n < f → ∃ σ', FX12_fillsFalls_84 k74 f (nI m) (nI P) σ = k74 (nI (m + 1)) σ' ∧ kM [35] [] σ σ' ∧ fAt q nm m 8 (σ'.1 35) := by
  intro n
  induction n with
  | zero =>
    intro P f σ hA hch hP hf
    obtain ⟨f, rfl⟩ : ∃ z, f = z + 1 := ⟨f - 1, by omega⟩
    obtain rfl : P = 8 := by omega
    rw [FX12_fillsFalls_84, if_pos (show (8 : Int32) ≤ nI 8 by decide), nI_1]
    exact ⟨σ, rfl, kM.rf, hA⟩
  | succ n ih =>
    intro P f σ hA hch hP hf
    obtain ⟨f, rfl⟩ : ∃ z, f = z + 1 := ⟨f - 1, by omega⟩
    obtain ⟨mp, rfl⟩ : ∃ k, m = k + 1 := ⟨m - 1, by omega⟩
    have e8 : (8 : Int32) * nI (mp + 1) = nI (8 * (mp + 1)) := pk_mul 8 (mp + 1)
    have e9 : nI (8 * (mp + 1)) - (8 : Int32) = nI (8 * mp) := by rw [show (8 : Int32) = nI 8 from rfl, pk_sub (by omega)]; congr 1
    have e1 : nI (8 * mp) + nI P = nI (8 * mp + P) := nI_add _ _
    have e2 : nI (8 * (mp + 1)) + nI P = nI (8 * (mp + 1) + P) := nI_add _ _
    have i1 : ix (nI (8 * mp + P)) 80 = true := ix_nI (by omega) (by omega)
    have i2 : ix (nI (8 * (mp + 1) + P)) 80 = true := ix_nI (by omega) (by omega)
    have i3 : ix (nI mp) 10 = true := ix_nI (by omega) (by omega)
    have hval := hA mp P (by omega) (by omega)
    rw [if_pos (show mp < mp + 1 by omega)] at hval
    have hst : fwN q nm mp P / 4 * (4 - q mp) = stN q nm (mp + 1) P := rfl
    have hmv : fwN q nm mp P / 4 * q mp = mvN q nm (mp + 1) P := rfl
    rw [FX12_fillsFalls_84, if_neg (show ¬ (8 : Int32) ≤ nI P from nI_ge (b := 8) (by omega) (by omega)), e8, e9, e1, gd_t i1, cl_nI (show 8 * mp + P < 2 ^ 31 by omega), hval, qrt q hq hnm (by omega), e2]
    simp only [hl_]
    rw [gd_t i2, s1I, gd_t i3, gd_t i2, cl_nI (show 8 * (mp + 1) + P < 2 ^ 31 by omega), cl_nI (show mp < 2 ^ 31 by omega), hch mp (by omega), sub4 (hq mp), pk_mul, hst, nI_1]
    obtain ⟨σ1, es1⟩ : ∃ y, y = pI σ 35 (8 * (mp + 1) + P) (σ.1 35 (8 * (mp + 1) + P) + nI (stN q nm (mp + 1) P)) := ⟨_, rfl⟩
    rw [← es1]
    have k1 : kM [35] [] σ σ1 := by rw [es1]; exact kM.pR (by decide) (by decide)
    have r1 : σ1.1 35 = upd (σ.1 35) (8 * (mp + 1) + P) (σ.1 35 (8 * (mp + 1) + P) + nI (stN q nm (mp + 1) P)) := by rw [es1, pI_1, if_pos rfl]
    have fin : ∀ a, a = (if P < 7 then P + 1 else 7) → ∃ σ', FX12_fillsFalls_155 k74 (FX12_fillsFalls_84 k74 f) (nI (mp + 1)) (nI P) (nI (fwN q nm mp P / 4)) (nI (8 * (mp + 1))) (nI a) σ1 = k74 (nI (mp + 1 + 1)) σ' ∧ kM [35] [] σ σ' ∧ fAt q nm (mp + 1) 8 (σ'.1 35) := by
      intro a ha
      have ha8 : a < 8 := by rw [ha]; split <;> omega
      have i4 : ix (nI (8 * (mp + 1) + a)) 80 = true := ix_nI (by omega) (by omega)
      have hA2 := fAt_step hA (by omega) (by omega) ha
      rw [← r1] at hA2
      unfold FX12_fillsFalls_155
      rw [nI_add, gd_t i4, s1I, gd_t i3, gd_t i4, cl_nI (show 8 * (mp + 1) + a < 2 ^ 31 by omega), cl_nI (show mp < 2 ^ 31 by omega), k1.1 34 (by decide) (by decide), hch mp (by omega), pk_mul, hmv, nI_1]
      simp only [hl_]
      have k2 : kM [35] [] σ1 (pI σ1 35 (8 * (mp + 1) + a) (σ1.1 35 (8 * (mp + 1) + a) + nI (mvN q nm (mp + 1) P))) := kM.pR (by decide) (by decide)
      obtain ⟨σ', h1, k3, h2⟩ := ih (P + 1) f (pI σ1 35 (8 * (mp + 1) + a) (σ1.1 35 (8 * (mp + 1) + a) + nI (mvN q nm (mp + 1) P))) hA2 (fun i hi => by rw [(k1.tr k2).1 34 (by decide) (by decide)]; exact hch i hi) (by omega) (by omega)
      exact ⟨σ', h1, (k1.tr k2).tr k3, h2⟩
    by_cases hp7 : 7 ≤ P
    · rw [if_pos (show (7 : Int32) ≤ nI P from nI_le (a := 7) hp7 (by omega))]
      exact fin 7 (by rw [if_neg (by omega)])
    · rw [if_neg (show ¬ (7 : Int32) ≤ nI P from nI_ge (b := 7) (by omega) (by omega))]
      exact fin (P + 1) (by rw [if_pos (by omega)])
def fOk (q : Nat → Nat) (nm m : Nat) (g : Nat → Int32) : Prop := ∀ m' j, m' < 10 → j < 8 → g (8 * m' + j) = nI (if m' < m then fwN q nm m' j else 0)
theorem M_fills74 {q : Nat → Nat} (hq : ∀ m, q m ≤ 4) {side nm nf : Nat} {Ls : Nat → Lawt} : ∀ (n m f : Nat) (σ : HS), MM σ side nm nf Ls → (1 ≤ nm → fOk q nm m (σ.1 35)) → (∀ i, i < nm → σ.1 34 i = nI (q i)) → 1 ≤ m → (m + n = nm ∨ (n = 0 ∧ nm ≤ m ∧ m ≤ 1)) → n < f → ∃ σ', FX12_fillsFalls_74 f (nI m) σ = some σ' ∧ kM [35] [] σ σ' ∧ (nm ≤ m → σ'.1 35 = σ.1 35) ∧ (1 ≤ nm → fOk q nm nm (σ'.1 35)) := by
  intro n
  induction n with
  | zero =>
    intro m f σ hM hA hch hm1 hm hf
    obtain ⟨f, rfl⟩ : ∃ z, f = z + 1 := ⟨f - 1, by omega⟩
    have hnm := hM.2.2.1
    rw [FX12_fillsFalls_74, M_many hM, bdI_s, if_pos (nI_le (by omega) (by omega))]
    refine ⟨σ, rfl, kM.rf, fun _ => rfl, fun h1 => ?_⟩
    obtain rfl : m = nm := by omega
    exact hA h1
  | succ n ih =>
    intro m f σ hM hA hch hm1 hm hf
    obtain ⟨f, rfl⟩ : ∃ z, f = z + 1 := ⟨f - 1, by omega⟩
    have hnm := hM.2.2.1
    have hmn : m < nm := by omega
    have hA0 : fAt q nm m 0 (σ.1 35) := by
      intro m' j h1 h2
      rw [hA (by omega) m' j h1 h2]
      by_cases hlt : m' < m
      · rw [if_pos hlt, if_pos hlt]
      · rw [if_neg hlt, if_neg hlt, ptN_0]
        split <;> rfl
    rw [FX12_fillsFalls_74, M_many hM, bdI_s, if_neg (nI_ge (by omega) (by omega))]
    obtain ⟨σ1, h1, k1, a1⟩ := M_fills84 (k74 := FX12_fillsFalls_74 f) hq hnm hm1 hmn 8 0 fu σ hA0 hch (by omega) (by show 8 < 5000; omega)
    rw [show (0 : Int32) = nI 0 from rfl, h1]
    have hA1 : fOk q nm (m + 1) (σ1.1 35) := by
      intro m' j h1 h2
      rw [a1 m' j h1 h2]
      by_cases hlt : m' < m
      · rw [if_pos hlt, if_pos (by omega)]
      · rw [if_neg hlt]
        by_cases he : m' = m
        · rw [if_pos he, if_pos (by omega), ptN_8 q nm m j hm1 h2, he]
        · rw [if_neg he, if_neg (by omega)]
    obtain ⟨σ2, h2, k2, -, r2⟩ := ih (m + 1) f σ1 (MM_kM k1 (by intro x h1 h2 h; simp at h; omega) (by decide) (by decide) (by decide) hM) (fun _ => hA1) (fun i hi => by rw [k1.1 34 (by decide) (by decide)]; exact hch i hi) (by omega) (by omega) (by omega)
    exact ⟨σ2, h2, k1.tr k2, fun h => by omega, r2⟩
theorem M_power (n : Nat) (hn : n ≤ 10) (σ : HS) : FX12_power (nI n) σ = some (nI (4 ^ n), σ) := by
  unfold FX12_power
  have : ∀ n, n ≤ 10 → (1 : Int32) <<< (((2 : Int32) * nI n) &&& 31) = nI (4 ^ n) := by decide +kernel
  rw [this n hn]
theorem M_fills29 {q : Nat → Nat} (hq : ∀ m, q m ≤ 4) {side nm nf : Nat} {Ls : Nat → Lawt} : ∀ (n k f : Nat) (σ : HS), MM σ side nm nf Ls → (∀ j, j < k → σ.1 35 j = 0) → (∀ i, i < nm → σ.1 34 i = nI (q i)) → k + n = 80 → n < f → ∃ σ', FX12_fillsFalls_29 f (nI k) σ = some σ' ∧ kM [35] [] σ σ' ∧ (1 ≤ nm → fOk q nm nm (σ'.1 35)) := by
  intro n
  induction n with
  | zero =>
    intro k f σ hM hz hch hk hf
    obtain ⟨f, rfl⟩ : ∃ z, f = z + 1 := ⟨f - 1, by omega⟩
    obtain rfl : k = 80 := by omega
    have hnm := hM.2.2.1
    rw [FX12_fillsFalls_29, if_pos (show (80 : Int32) ≤ nI 80 by decide), M_many hM, bdI_s]
    have go : ∀ v : Int32, (1 ≤ nm → v = nI (4 ^ nm)) → (nm = 0 → v = 0) → ∃ σ', FX12_fillsFalls_74 fu (1 : Int32) (pI σ 35 0 v) = some σ' ∧ kM [35] [] σ σ' ∧ (1 ≤ nm → fOk q nm nm (σ'.1 35)) := by
      intro v hv1 hv0
      have k1 : kM [35] [] σ (pI σ 35 0 v) := kM.pR (by decide) (by decide)
      have hA : 1 ≤ nm → fOk q nm 1 ((pI σ 35 0 v).1 35) := by
        intro hn1 m' j h1 h2
        show upd (σ.1 35) 0 v (8 * m' + j) = _
        rw [upd_a]
        by_cases h0 : 8 * m' + j = 0
        · rw [if_pos h0, if_pos (by omega), show m' = 0 by omega, show j = 0 by omega]
          simp only [fwN, if_true]
          exact hv1 hn1
        · rw [if_neg h0, hz _ (by omega)]
          by_cases hm0 : m' < 1
          · rw [if_pos hm0, show m' = 0 by omega]
            simp only [fwN]
            rw [if_neg (by omega)]
            rfl
          · rw [if_neg hm0]; rfl
      obtain ⟨σ', h1, k2, -, h3⟩ := M_fills74 hq (nm - 1) 1 fu (pI σ 35 0 v) (MM_kM k1 (by intro x h1 h2 h; simp at h; omega) (by decide) (by decide) (by decide) hM) hA hch (by omega) (by omega) (by show nm - 1 < 5000; omega)
      exact ⟨σ', h1, k1.tr k2, h3⟩
    by_cases hn0 : nm = 0
    · rw [if_pos (by rw [hn0]; rfl)]
      exact go 0 (fun h => by omega) (fun _ => rfl)
    · rw [if_neg (nI_ne0 (by omega) (by omega)), M_many hM, bdI_s, M_power nm hnm, bdI_s]
      exact go _ (fun _ => rfl) (fun h => absurd h hn0)
  | succ n ih =>
    intro k f σ hM hz hch hk hf
    obtain ⟨f, rfl⟩ : ∃ z, f = z + 1 := ⟨f - 1, by omega⟩
    rw [FX12_fillsFalls_29, if_neg (show ¬ (80 : Int32) ≤ nI k from nI_ge (b := 80) (by omega) (by omega)), gd_t (ix_nI (by omega) (by omega)), cl_nI (by omega), nI_1]
    simp only [hl_]
    have k1 : kM [35] [] σ (pI σ 35 k 0) := kM.pR (by decide) (by decide)
    obtain ⟨σ', h1, k2, h3⟩ := ih (k + 1) f (pI σ 35 k 0) (MM_kM k1 (by intro x h1 h2 h; simp at h; omega) (by decide) (by decide) (by decide) hM) (fun j hj => by
      show upd (σ.1 35) k 0 j = 0
      rw [upd_a]
      by_cases e : j = k
      · rw [if_pos e]
      · rw [if_neg e]; exact hz j (by omega)) hch (by omega) (by omega)
    exact ⟨σ', h1, k1.tr k2, h3⟩
theorem s3445 : ∀ x, 19 ≤ x → x ≤ 27 → x ∉ [29, 30, 34, 35] := by intro x h1 h2 h; simp at h; omega
theorem M_fills2 {side nm nf : Nat} {Ls : Nat → Lawt} (g : Nat → Int32) : ∀ (n m f : Nat) (σ : HS), MM σ side nm nf Ls → σ.1 32 = g → (∀ i, i < m → σ.1 34 i = nI (qF (Ls 0) g i)) → m + n = nm → n < f → ∃ σ', FX12_fillsFalls_2 f (nI m) σ = some σ' ∧ kM [29, 30, 34, 35] [46] σ σ' ∧ (∀ i, i < nm → σ'.1 34 i = nI (qF (Ls 0) g i)) ∧ (1 ≤ nm → fOk (qF (Ls 0) g) nm nm (σ'.1 35)) := by
  intro n
  induction n with
  | zero =>
    intro m f σ hM hg hch hm hf
    obtain ⟨f, rfl⟩ : ∃ z, f = z + 1 := ⟨f - 1, by omega⟩
    obtain rfl : m = nm := by omega
    have hnm := hM.2.2.1
    rw [FX12_fillsFalls_2, M_many hM, bdI_s, if_pos (nI_le (Nat.le_refl _) (by omega))]
    obtain ⟨σ', h1, k1, h2⟩ := M_fills29 (q := qF (Ls 0) g) (fun m => (qF_ok _ _ m).1) 80 0 fu σ hM (fun j hj => by omega) hch (by omega) (by show 80 < 5000; omega)
    exact ⟨σ', h1, k1.up (by simp) (by simp), fun i hi => by rw [k1.1 34 (by decide) (by decide)]; exact hch i hi, h2⟩
  | succ n ih =>
    intro m f σ hM hg hch hm hf
    obtain ⟨f, rfl⟩ : ∃ z, f = z + 1 := ⟨f - 1, by omega⟩
    have hnm := hM.2.2.1
    obtain ⟨σ1, h1, k1⟩ := M_coughsOf hM.1 (show m < 10 by omega)
    rw [FX12_fillsFalls_2, M_many hM, bdI_s, if_neg (nI_ge (by omega) (by omega)), h1, bdI_s, gd_t (ix_nI (show m < 10 by omega) (by omega)), cl_nI (by omega), nI_1, hg]
    simp only [hl_]
    have k2 : kM [29, 30, 34, 35] [46] σ (pI σ1 34 m (cghF (Ls 0) g m)) := (k1.up (by simp) (by simp)).tr (kM.pR (by decide) (by decide))
    obtain ⟨σ2, h2, k3, h3, h4⟩ := ih (m + 1) f (pI σ1 34 m (cghF (Ls 0) g m)) (MM_kM k2 s3445 (by decide) (by decide) (by decide) hM) (by rw [k2.1 32 (by decide) (by decide)]; exact hg) (fun i hi => by
      show upd (σ1.1 34) m _ i = _
      rw [upd_a]
      by_cases e : i = m
      · rw [if_pos e, e]; exact (qF_ok (Ls 0) g m).2
      · rw [if_neg e, k1.1 34 (by decide) (by decide)]; exact hch i (by omega)) (by omega) (by omega)
    exact ⟨σ2, h2, k2.tr k3, h3, h4⟩
/-- what stands behind fillsFalls: chances and falls by the row g -/
def FF (σ : HS) (L : Lawt) (g : Nat → Int32) (nm : Nat) : Prop := (∀ i, i < nm → σ.1 34 i = nI (qF L g i)) ∧ (1 ≤ nm → fOk (qF L g) nm nm (σ.1 35))
theorem M_fillsFalls {σ : HS} {side nm nf : Nat} {Ls : Nat → Lawt} (hM : MM σ side nm nf Ls) : ∃ σ', FX12_fillsFalls σ = some σ' ∧ kM [29, 30, 34, 35] [46] σ σ' ∧ FF σ' (Ls 0) (σ.1 32) nm :=
  M_fills2 (σ.1 32) nm 0 fu σ hM rfl (fun i hi => by omega) (by omega) (by have := hM.2.2.1; show nm < 5000; omega)
