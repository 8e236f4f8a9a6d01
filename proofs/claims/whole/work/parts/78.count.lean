/-! Face: count. -/
theorem bS_not (b : Nat → Bool) : ∀ n, bS (fun p => !b p) n + bS b n = 2 ^ n - 1 := by
  intro n
  induction n with
  | zero => rfl
  | succ n ih =>
    have h1 := Nat.two_pow_pos n
    have h2 : 2 ^ (n + 1) = 2 ^ n + 2 ^ n := by rw [Nat.pow_succ]; omega
    simp only [bS]
    by_cases hb : b n = true
    · rw [if_pos hb, if_neg (by simp [hb])]; omega
    · rw [if_neg hb, if_pos (by simp [hb])]; omega
def ctB (b : Nat → Bool) : Nat → Nat
  | 0 => 0
  | n + 1 => ctB b n + (if b n then 1 else 0)
theorem ct_bS (b : Nat → Bool) (n : Nat) : ∀ k, k ≤ n → cntN (bS b n) k = ctB b k := by
  intro k
  induction k with
  | zero => intro _; rfl
  | succ k ih =>
    intro hk
    simp only [cntN, ctB]
    rw [ih (by omega), bS_bit b n k (by omega)]
theorem not255 : ∀ x, x < 256 → (255 : Int32) &&& (nI x ^^^ (-1)) = nI (255 - x) := by decide +kernel
theorem neg_I2 {g : Int32} {nf : Nat} (hnf : nf ≤ 5) (h : g = -2 ∨ ∃ f, f < nf ∧ g = nI f) : (g < 0 ↔ g = -2) := by
  rcases h with h | ⟨f, hf, h⟩
  · rw [h]; exact ⟨fun _ => rfl, fun _ => by decide⟩
  · rw [h]; exact ⟨fun e => absurd e (nn_0 (by omega)), fun e => absurd e.symm (neg2_ne (by omega))⟩
theorem M_c229 {G : Nat → Int32} {nf : Nat} {σ : HS} (x1 : Int32) (hnf : nf ≤ 5) (hO : OW G nf) (h32 : ∀ k, k < 33 → σ.1 32 k = G k) : ∀ (n p f : Nat), p + n = 8 → n < f → FX12_count_229 f x1 (nI (bS (fun p => !decide (G (10 + p) = -2)) p)) (nI p) σ = some (nI (bS (fun p => !decide (G (10 + p) = -2)) 8), σ) := by
  intro n
  induction n with
  | zero =>
    intro p f hp hf
    obtain ⟨f, rfl⟩ : ∃ z, f = z + 1 := ⟨f - 1, by omega⟩
    obtain rfl : p = 8 := by omega
    rw [FX12_count_229, if_pos (show (8 : Int32) ≤ nI 8 by decide)]
  | succ n ih =>
    intro p f hp hf
    obtain ⟨f, rfl⟩ : ∃ z, f = z + 1 := ⟨f - 1, by omega⟩
    have ih' := ih (p + 1) f (by omega) (by omega)
    have hl := bS_lt (fun p => !decide (G (10 + p) = -2)) p
    have hs : bS (fun p => !decide (G (10 + p) = -2)) (p + 1) = bS (fun p => !decide (G (10 + p) = -2)) p + (if (!decide (G (10 + p) = -2)) = true then 2 ^ p else 0) := rfl
    rw [FX12_count_229, if_neg (show ¬ (8 : Int32) ≤ nI p from nI_ge (b := 8) (by omega) (by omega)), show (10 : Int32) + nI p = nI (10 + p) from nI_add 10 p, gd_t (ix_nI (by omega) (by omega)), cl_nI (by omega), h32 _ (by omega), nI_1]
    by_cases h : G (10 + p) = -2
    · rw [if_pos ((neg_I2 hnf (hO p (by omega))).mpr h)]
      rw [hs, if_neg (by simp [h]), Nat.add_zero] at ih'
      exact ih'
    · rw [if_neg (fun e => h ((neg_I2 hnf (hO p (by omega))).mp e))]
      simp only [hl_]
      rw [or_bit p (by omega) _ hl]
      rw [hs, if_pos (by simp [h])] at ih'
      exact ih'
theorem M_c308 {G : Nat → Int32} {nf : Nat} {σ : HS} (x1 : Int32) (hnf : nf ≤ 5) (hO : OW G nf) (h32 : ∀ k, k < 33 → σ.1 32 k = G k) : ∀ (n p f : Nat), p + n = 8 → n < f → FX12_count_308 f x1 (nI (ctB (fun p => decide (G (10 + p) = -2)) p)) (nI p) σ = some (nI (ctB (fun p => decide (G (10 + p) = -2)) 8), σ) := by
  intro n
  induction n with
  | zero =>
    intro p f hp hf
    obtain ⟨f, rfl⟩ : ∃ z, f = z + 1 := ⟨f - 1, by omega⟩
    obtain rfl : p = 8 := by omega
    rw [FX12_count_308, if_pos (show (8 : Int32) ≤ nI 8 by decide)]
  | succ n ih =>
    intro p f hp hf
    obtain ⟨f, rfl⟩ : ∃ z, f = z + 1 := ⟨f - 1, by omega⟩
    have ih' := ih (p + 1) f (by omega) (by omega)
    have hs : ctB (fun p => decide (G (10 + p) = -2)) (p + 1) = ctB (fun p => decide (G (10 + p) = -2)) p + (if (decide (G (10 + p) = -2)) = true then 1 else 0) := rfl
    rw [FX12_count_308, if_neg (show ¬ (8 : Int32) ≤ nI p from nI_ge (b := 8) (by omega) (by omega)), show (10 : Int32) + nI p = nI (10 + p) from nI_add 10 p, gd_t (ix_nI (by omega) (by omega)), cl_nI (by omega), h32 _ (by omega), nI_1, nI_1]
    by_cases h : G (10 + p) = -2
    · rw [if_neg (Int32.not_le.mpr ((neg_I2 hnf (hO p (by omega))).mpr h))]
      rw [hs, if_pos (by simp [h])] at ih'
      exact ih'
    · rw [if_pos (Int32.not_lt.mp (fun e => h ((neg_I2 hnf (hO p (by omega))).mp e)))]
      rw [hs, if_neg (by simp [h]), Nat.add_zero] at ih'
      exact ih'
theorem M_c279 {side nm nf : Nat} {Ls : Nat → Lawt} {G : Nat → Int32} {σ : HS} (x1 : Int32) (Q : MQs σ side nm nf Ls G) (h : ∀ m, m < nm → ∃ v, v ≤ 5 ∧ G m = nI v) : ∀ (n m f : Nat), m + n = nm → n < f → FX12_count_279 f x1 (nI (mtN G m)) (nI m) σ = some (nI (mtN G nm), σ) := by
  have hnm := Q.1.2.2.1
  intro n
  induction n with
  | zero =>
    intro m f hm hf
    obtain ⟨f, rfl⟩ : ∃ z, f = z + 1 := ⟨f - 1, by omega⟩
    obtain rfl : m = nm := by omega
    rw [FX12_count_279, M_many Q.1, bdI_s, if_pos (nI_le (by omega) (by omega))]
  | succ n ih =>
    intro m f hm hf
    obtain ⟨f, rfl⟩ : ∃ z, f = z + 1 := ⟨f - 1, by omega⟩
    have ih' := ih (m + 1) f (by omega) (by omega)
    obtain ⟨v, hv, ev⟩ := h m (by omega)
    rw [FX12_count_279, M_many Q.1, bdI_s, if_neg (nI_ge (by omega) (by omega)), gd_t (ix_nI (by omega) (by omega))]
    simp only [hl_]
    simp only [mtN] at ih'
    rw [ev, cl_nI (by omega)] at ih'
    rw [cl_nI (by omega), Q.2.1 m (by omega), ev, sh1 _ (by omega), nI_or, nI_1]
    exact ih'
theorem M_c339 {side nm nf : Nat} {Ls : Nat → Lawt} {G : Nat → Int32} {σ : HS} (x1 : Int32) (Q : MQs σ side nm nf Ls G) : ∀ (n m f : Nat), m + n = nm → n < f → FX12_count_339 f x1 (nI (alN (qF (Ls 0) G) m)) (nI m) σ = some (nI (alN (qF (Ls 0) G) nm), σ) := by
  have hnm := Q.1.2.2.1
  intro n
  induction n with
  | zero =>
    intro m f hm hf
    obtain ⟨f, rfl⟩ : ∃ z, f = z + 1 := ⟨f - 1, by omega⟩
    obtain rfl : m = nm := by omega
    rw [FX12_count_339, M_many Q.1, bdI_s, if_pos (nI_le (by omega) (by omega))]
  | succ n ih =>
    intro m f hm hf
    obtain ⟨f, rfl⟩ : ∃ z, f = z + 1 := ⟨f - 1, by omega⟩
    have ih' := ih (m + 1) f (by omega) (by omega)
    have hq := (qF_ok (Ls 0) G m).1
    have hl : alN (qF (Ls 0) G) m < 2 ^ m := bS_lt _ m
    have hs : alN (qF (Ls 0) G) (m + 1) = alN (qF (Ls 0) G) m + (if decide (qF (Ls 0) G m = 4) = true then 2 ^ m else 0) := rfl
    rw [FX12_count_339, M_many Q.1, bdI_s, if_neg (nI_ge (by omega) (by omega)), gd_t (ix_nI (by omega) (by omega)), cl_nI (by omega), Q.2.2.1 m (by omega), nI_1]
    by_cases h : qF (Ls 0) G m = 4
    · rw [if_pos (show nI (qF (Ls 0) G m) = (4 : Int32) by rw [h]; rfl)]
      simp only [hl_]
      rw [or_bit m (by omega) _ hl]
      rw [hs, if_pos (by simp [h])] at ih'
      exact ih'
    · rw [if_neg (show ¬ nI (qF (Ls 0) G m) = (4 : Int32) from fun e => h ((nI_eq (b := 4) (by omega) (by omega)).mp e))]
      rw [hs, if_neg (by simp [h]), Nat.add_zero] at ih'
      exact ih'
theorem quart_go {side nm nf : Nat} {z l : Nat → Int32} {Ls : Nat → Lawt} {G : Nat → Int32} {σ1 σb : HS} (x1 : Int32) (hnm : nm ≤ 10) (Qb : MQs σb side nm nf Ls G) : ∀ (n p fl : Nat) (a : Int32) (σa : HS), TX σa nm nf z l Ls → RR nm (σa.1 14) G → kX [39, 40] σ1 σa → p + n = nm → n < fl → ∃ y σa', FX11_allQuarters_4 fl a (nI p) σa = some (y, σa') ∧ FX12_count_373 fl x1 a (nI p) σb = some (y, σb) ∧ kX [39, 40] σ1 σa' := by
  intro n
  induction n with
  | zero =>
    intro p fl a σa Ta Ra ka hp hfl
    obtain ⟨fl, rfl⟩ : ∃ z, fl = z + 1 := ⟨fl - 1, by omega⟩
    obtain rfl : p = nm := by omega
    have hle : nI p ≤ nI p := nI_le (by omega) (by omega)
    rw [FX11_allQuarters_4, FX12_count_373, Ta.2.2.1, if_pos hle, M_many Qb.1, bdI_s, if_pos hle]
    exact ⟨a, σa, rfl, rfl, ka⟩
  | succ n ih =>
    intro p fl a σa Ta Ra ka hp hfl
    obtain ⟨fl, rfl⟩ : ∃ z, fl = z + 1 := ⟨fl - 1, by omega⟩
    have hpm : p < nm := by omega
    have hle : ¬ nI nm ≤ nI p := nI_ge (by omega) (by omega)
    obtain ⟨σc, hc, kc⟩ := X_quartersOf (st := 4) Ta st_4 hpm
    rw [cghF_congr (fun k hk => Ra k (by omega)) (show p < 10 by omega), (qF_ok (Ls 0) G p).2] at hc
    have Tc := TX_k Ta kc tX_v
    have Rc : RR nm (σc.1 14) G := by rw [kc.1 14 (by decide)]; exact Ra
    rw [FX11_allQuarters_4, FX12_count_373, Ta.2.2.1, if_neg hle, M_many Qb.1, bdI_s, if_neg hle, hc, bdI_s, gd_t (ix_nI (by omega) (by omega))]
    simp only [hl_]
    rw [cl_nI (by omega), Qb.2.2.1 p hpm, nI_1]
    exact ih (p + 1) fl _ σc Tc Rc (ka.tr kc) (by omega) (by omega)
theorem fwl_go {side nm nf : Nat} {z l : Nat → Int32} {Ls : Nat → Lawt} {G : Nat → Int32} {σa σb : HS} (x1 : Int32) (Qb : MQs σb side nm nf Ls G) (Ta : TX σa nm nf z l Ls) (Ra : RR nm (σa.1 14) G) : ∀ (n p fl : Nat) (a : Int32), p + n = nf → n < fl → ∃ y, FX11_familiesWithoutLease_4 fl a (nI p) σa = some (y, σa) ∧ FX12_count_400 fl x1 a (nI p) σb = some (y, σb) := by
  have hnf := Ta.2.1
  have hs := Qb.1.1.1
  intro n
  induction n with
  | zero =>
    intro p fl a hp hfl
    obtain ⟨fl, rfl⟩ : ∃ z, fl = z + 1 := ⟨fl - 1, by omega⟩
    obtain rfl : p = nf := by omega
    have hle : nI p ≤ nI p := nI_le (by omega) (by omega)
    rw [FX11_familiesWithoutLease_4, FX12_count_400, Ta.2.2.2.1, if_pos hle, Qb.1.1.2.1, gd_t (ix_nI hs (by omega)), cl_nI (by omega), Qb.1.2.2.2, if_pos hle]
    exact ⟨a, rfl, rfl⟩
  | succ n ih =>
    intro p fl a hp hfl
    obtain ⟨fl, rfl⟩ : ∃ z, fl = z + 1 := ⟨fl - 1, by omega⟩
    have hle : ¬ nI nf ≤ nI p := nI_ge (by omega) (by omega)
    have e := partsF_congr (g := rowC nm (σa.1 14)) (g' := G) (fun p hp => Ra (10 + p) (by omega)) (nI p)
    have e2 := partsF_congr (g := σb.1 32) (g' := G) (fun p hp => Qb.2.1 (10 + p) (by omega)) (nI p)
    rw [FX11_familiesWithoutLease_4, FX12_count_400, Ta.2.2.2.1, if_neg hle, Qb.1.1.2.1, gd_t (ix_nI hs (by omega)), cl_nI (by omega), Qb.1.2.2.2, if_neg hle, X_partsOf st_4 nm, bdI_s, show (4 + 10) = 14 from rfl, e, M_partBits, bdI_s, e2, nI_1]
    by_cases h : partsF G (nI p) = 0
    · rw [if_pos h, if_pos h]
      exact ih (p + 1) fl _ (by omega) (by omega)
    · rw [if_neg h, if_neg h]
      exact ih (p + 1) fl _ (by omega) (by omega)
theorem zeal_go {side nm nf : Nat} {z l : Nat → Int32} {Ls : Nat → Lawt} {G : Nat → Int32} {σa σb : HS} (x1 : Int32) (Qb : MQs σb side nm nf Ls G) (Ta : TX σa nm nf z l Ls) (hz : ∀ j, j < nf → σb.1 12 (5 * side + j) = z j) : ∀ (n p fl : Nat) (a : Int32), p + n = nf → n < fl → ∃ y, FX11_allZeal_4 fl a (nI p) σa = some (y, σa) ∧ FX12_count_437 fl x1 a (nI p) σb = some (y, σb) := by
  have hnf := Ta.2.1
  have hs := Qb.1.1.1
  intro n
  induction n with
  | zero =>
    intro p fl a hp hfl
    obtain ⟨fl, rfl⟩ : ∃ z, fl = z + 1 := ⟨fl - 1, by omega⟩
    obtain rfl : p = nf := by omega
    have hle : nI p ≤ nI p := nI_le (by omega) (by omega)
    rw [FX11_allZeal_4, FX12_count_437, Ta.2.2.2.1, if_pos hle, Qb.1.1.2.1, gd_t (ix_nI hs (by omega)), cl_nI (by omega), Qb.1.2.2.2, if_pos hle]
    exact ⟨a, rfl, rfl⟩
  | succ n ih =>
    intro p fl a hp hfl
    obtain ⟨fl, rfl⟩ : ∃ z, fl = z + 1 := ⟨fl - 1, by omega⟩
    have hle : ¬ nI nf ≤ nI p := nI_ge (by omega) (by omega)
    have e5 : (5 : Int32) * nI side + nI p = nI (5 * side + p) := by rw [show (5 : Int32) = nI 5 from rfl, pk_mul, nI_add]
    rw [FX11_allZeal_4, FX12_count_437, Ta.2.2.2.1, if_neg hle, Qb.1.1.2.1, gd_t (ix_nI hs (by omega)), cl_nI (k := side) (by omega), Qb.1.2.2.2, if_neg hle, gd_t (ix_nI (by omega) (by omega)), e5, gd_t (ix_nI (by omega) (by omega))]
    simp only [hl_]
    rw [cl_nI (by omega), cl_nI (by omega), (Ta.2.2.2.2.1 p (by omega)).1, hz p (by omega), nI_1]
    exact ih (p + 1) fl _ (by omega) (by omega)
theorem sum_go {bx : Nat} {σa σb : HS} (hbx : bx ≤ 23) (h : ∀ k, k < 5 → σa.1 14 (bx + k) = σb.1 31 (bx + 5 + k)) : ∀ (n k fl : Nat) (a : Int32), k + n = 5 → n < fl → ∃ y, FX7_sumFrom_4 fl (nI bx) a (nI k) σa = some (y, σa) ∧ FX12_sumNow_5 fl (nI (bx + 5)) (nI 5) a (nI (bx + 5 + k)) σb = some (y, σb) := by
  intro n
  induction n with
  | zero =>
    intro k fl a hk hfl
    obtain ⟨fl, rfl⟩ : ∃ z, fl = z + 1 := ⟨fl - 1, by omega⟩
    rw [FX7_sumFrom_4, FX12_sumNow_5, if_pos (show (5 : Int32) ≤ nI k from nI_le (a := 5) (by omega) (by omega)), nI_add, if_pos (nI_le (by omega) (by omega))]
    exact ⟨a, rfl, rfl⟩
  | succ n ih =>
    intro k fl a hk hfl
    obtain ⟨fl, rfl⟩ : ∃ z, fl = z + 1 := ⟨fl - 1, by omega⟩
    rw [FX7_sumFrom_4, FX12_sumNow_5, if_neg (show ¬ (5 : Int32) ≤ nI k from nI_ge (b := 5) (by omega) (by omega)), nI_add, nI_add, if_neg (nI_ge (by omega) (by omega)), gd_t (ix_nI (by omega) (by omega)), gd_t (ix_nI (by omega) (by omega))]
    simp only [hl_]
    rw [cl_nI (by omega), cl_nI (by omega), h k (by omega), nI_1, nI_1]
    exact ih (k + 1) fl _ (by omega) (by omega)
def slF (g : Nat → Int32) : Nat → Nat → Int32 → Int32
  | 0, _, a => a
  | n + 1, k, a => slF g n (k + 1) (if g k = 0 then a + 0 else a + 1)
theorem X_slots {σ : HS} : ∀ (n k fl : Nat) (a : Int32), k + n = 3 → n < fl → FX3_slotsHeld_4 fl a (nI k) σ = some (slF (σ.1 38) n k a, σ) := by
  intro n
  induction n with
  | zero =>
    intro k fl a hk hfl
    obtain ⟨fl, rfl⟩ : ∃ z, fl = z + 1 := ⟨fl - 1, by omega⟩
    rw [FX3_slotsHeld_4, if_pos (show (3 : Int32) ≤ nI k from nI_le (a := 3) (by omega) (by omega))]; rfl
  | succ n ih =>
    intro k fl a hk hfl
    obtain ⟨fl, rfl⟩ : ∃ z, fl = z + 1 := ⟨fl - 1, by omega⟩
    rw [FX3_slotsHeld_4, if_neg (show ¬ (3 : Int32) ≤ nI k from nI_ge (b := 3) (by omega) (by omega)), gd_t (ix_nI (by omega) (by omega))]
    simp only [hl_, slF]
    rw [cl_nI (by omega), nI_1]
    by_cases h : σ.1 38 k = 0
    · rw [if_pos h, if_pos h]; exact ih (k + 1) fl _ (by omega) (by omega)
    · rw [if_neg h, if_neg h]; exact ih (k + 1) fl _ (by omega) (by omega)
theorem slots_eq {σX σM : HS} {nm nf n : Nat} (x1 : Int32) (s : SR σX σM nm nf n) {σb : HS} (e : σb.1 43 = σM.1 43) : (if σb.1 43 0 = 0 then FX12_count_196 x1 (0 : Int32) (0 : Int32) σb else FX12_count_196 x1 (0 : Int32) (1 : Int32) σb) = some (slF (σX.1 38) 3 0 0, σb) := by
  have h : ∀ k, k < 3 → (σX.1 38 k = 0 ∧ σb.1 43 k = 0) ∨ (σX.1 38 k = 1 ∧ σb.1 43 k = 1) := fun k hk => by
    rw [e]
    rcases s k hk with h | ⟨h1, h2, -⟩
    · exact Or.inl h
    · exact Or.inr ⟨h1, h2⟩
  unfold FX12_count_196 FX12_count_210
  simp only [slF]
  rcases h 0 (by omega) with ⟨a0, b0⟩ | ⟨a0, b0⟩ <;> rcases h 1 (by omega) with ⟨a1, b1⟩ | ⟨a1, b1⟩ <;> rcases h 2 (by omega) with ⟨a2, b2⟩ | ⟨a2, b2⟩ <;> simp only [a0, b0, a1, b1, a2, b2, one_ne, if_true, if_false, Nat.zero_add, Nat.reduceAdd] <;> rfl
theorem sT_41 : St_41 Rel := by
  intro n σX σM hn hR x1
  obtain ⟨side, nm, nf, z, l, sd, Ls, t, r, v, p, s, w, e, pl, ky⟩ := id hR
  obtain ⟨hT, hsd, hM, hzl, hsM⟩ := t
  have hnm := hT.1
  have hnf := hT.2.1
  have h30 := hT.2.2.1
  have h31 := hT.2.2.2.1
  obtain ⟨σb, hb, kb, Qb, -⟩ := M_copiesFalls hM
  have qb : qM σM σb := kb.up (by decide) (by decide)
  have hs := Qb.1.1.1
  have M0 : ∀ (y : Int32) (σ' : HS), (bdV (FX12_copiesFalls σM) fun σ_40 => some (y, σ_40)) = some (y, σb) := fun y σ' => by rw [hb, bdV_s]
  unfold FX11_count FX12_count
  rw [hb, bdV_s]
  by_cases c0 : x1 = 0
  · simp only [c0, if_true]
    exact ⟨nI nm, σX, σb, by rw [h30], by rw [M_many Qb.1, bdI_s], Rel_q hR qX.rf qb⟩
  by_cases c1 : x1 = 1
  · simp only [c0, c1, if_true, if_false]
    exact ⟨nI nf, σX, σb, by rw [h31]; rfl, by rw [Qb.1.1.2.1, gd_t (ix_nI hs (by omega)), cl_nI (by omega), Qb.1.2.2.2]; rfl, Rel_q hR qX.rf qb⟩
  by_cases c2 : x1 = 2
  · simp only [c2, if_true]
    exact ⟨σX.1 14 30, σX, σb, rfl, by rw [Qb.2.1 20 (by omega), ← r 20 (by omega), rowC_20]; rfl, Rel_q hR qX.rf qb⟩
  by_cases c3 : x1 = 3
  · simp only [c3, if_true]
    exact ⟨σX.1 14 28, σX, σb, rfl, by rw [Qb.2.1 18 (by omega), ← r 18 (by omega), rowC_18]; rfl, Rel_q hR qX.rf qb⟩
  by_cases c4 : x1 = 4
  · simp only [c4, if_true]
    exact ⟨σX.1 14 29, σX, σb, rfl, by rw [Qb.2.1 19 (by omega), ← r 19 (by omega), rowC_19]; rfl, Rel_q hR qX.rf qb⟩
  by_cases c5 : x1 = 5
  · simp only [c5, if_true]
    exact ⟨σX.1 14 31, σX, σb, rfl, by rw [Qb.2.1 21 (by omega), ← r 21 (by omega), rowC_21]; rfl, Rel_q hR qX.rf qb⟩
  by_cases c6 : x1 = 6
  · simp only [c6, if_true]
    exact ⟨σX.1 14 32, σX, σb, rfl, by rw [Qb.2.1 22 (by omega), ← r 22 (by omega), rowC_22]; rfl, Rel_q hR qX.rf qb⟩
  simp only [c0, c1, c2, c3, c4, c5, c6, if_false]
  by_cases c7 : x1 = 7
  · rw [if_pos c7, if_pos c7]
    exact ⟨(1 : Int32) <<< (((2 : Int32) * nI nm) &&& 31), σX, σb, by rw [h30], by rw [M_many Qb.1, bdI_s]; rfl, Rel_q hR qX.rf qb⟩
  rw [if_neg c7, if_neg c7]
  by_cases c8 : x1 = 8
  · rw [if_pos c8, if_pos c8]
    obtain ⟨L, hL, e1, e2, -⟩ := e
    exact ⟨nI L, σX, σb, by rw [e1], by rw [kb.2.1 2 (by decide), e2], Rel_q hR qX.rf qb⟩
  rw [if_neg c8, if_neg c8]
  by_cases c9 : x1 = 9
  · rw [if_pos c9, if_pos c9]
    obtain ⟨u, nx, -, -, -, e1, e2, -⟩ := p
    exact ⟨nI u, σX, σb, by rw [e1], by rw [kb.2.1 50 (by decide), e2], Rel_q hR qX.rf qb⟩
  rw [if_neg c9, if_neg c9]
  by_cases c10 : x1 = 10
  · rw [if_pos c10, if_pos c10]
    obtain ⟨u, -, e1, e2, -⟩ := w
    exact ⟨nI u, σX, σb, by rw [e1], by rw [kb.2.1 57 (by decide), e2], Rel_q hR qX.rf qb⟩
  rw [if_neg c10, if_neg c10]
  by_cases c11 : x1 = 11
  · rw [if_pos c11, if_pos c11]
    refine ⟨slF (σX.1 38) 3 0 0, σX, σb, ?_, slots_eq x1 s (kb.1 43 (by decide) (by decide)), Rel_q hR qX.rf qb⟩
    have := X_slots (σ := σX) 3 0 fu 0 (by omega) (by show 3 < 5000; omega)
    rw [show FX3_slotsHeld σX = some (slF (σX.1 38) 3 0 0, σX) from this, bdI_s]
  rw [if_neg c11, if_neg c11]
  have eP : FX7_partsOf 4 (-2 : Int32) σX = some (nI (partsN (σM.1 31) (-2)), σX) := by
    have e := partsF_congr (g := rowC nm (σX.1 14)) (g' := σM.1 31) (fun p hp => r (10 + p) (by omega)) (-2)
    rw [X_partsOf st_4 nm, show (4 + 10) = 14 from rfl, e, partsF_N]
  have hpl := partsN_lt (σM.1 31) (-2)
  by_cases c12 : x1 = 12
  · rw [if_pos c12, if_pos c12]
    refine ⟨nI (bS (fun p => !decide (σM.1 31 (10 + p) = -2)) 8), σX, σb, ?_, M_c229 x1 hnf v.1 Qb.2.1 8 0 fu (by omega) (by show 8 < 5000; omega), Rel_q hR qX.rf qb⟩
    have hb8 := bS_not (fun p => decide (σM.1 31 (10 + p) = -2)) 8
    rw [eP, bdI_s, not255 _ hpl]
    have : 255 - partsN (σM.1 31) (-2) = bS (fun p => !decide (σM.1 31 (10 + p) = -2)) 8 := by
      unfold partsN
      rw [show 2 ^ 8 - 1 = 255 from rfl] at hb8
      omega
    rw [this]
  rw [if_neg c12, if_neg c12]
  by_cases c13 : x1 = 13
  · rw [if_pos c13, if_pos c13]
    obtain ⟨y, h1, h2⟩ := sum_go (bx := 18) (σa := σX) (σb := σb) (by omega) (fun k hk => by rw [kb.1 31 (by decide) (by decide), ← r (18 + 5 + k) (by omega), rowC_f (by omega)]; exact congrArg _ (by omega)) 5 0 fu 0 (by omega) (by show 5 < 5000; omega)
    refine ⟨y, σX, σb, ?_, ?_, Rel_q hR qX.rf qb⟩
    · rw [show FX7_gainedByAll σX = some (y, σX) by unfold FX7_gainedByAll FX7_sumFrom; rw [bdI_id]; exact h1, bdI_s]
    · rw [show FX12_sumNow (23 : Int32) (5 : Int32) σb = some (y, σb) from h2, bdI_s]
  rw [if_neg c13, if_neg c13]
  by_cases c14 : x1 = 14
  · rw [if_pos c14, if_pos c14]
    obtain ⟨y, h1, h2⟩ := sum_go (bx := 23) (σa := σX) (σb := σb) (by omega) (fun k hk => by rw [kb.1 31 (by decide) (by decide), ← r (23 + 5 + k) (by omega), rowC_f (by omega)]; exact congrArg _ (by omega)) 5 0 fu 0 (by omega) (by show 5 < 5000; omega)
    refine ⟨y, σX, σb, ?_, ?_, Rel_q hR qX.rf qb⟩
    · rw [show FX7_paidByAll σX = some (y, σX) by unfold FX7_paidByAll FX7_sumFrom; rw [bdI_id]; exact h1, bdI_s]
    · rw [show FX12_sumNow (28 : Int32) (5 : Int32) σb = some (y, σb) from h2, bdI_s]
  rw [if_neg c14, if_neg c14]
  by_cases c15 : x1 = 15
  · rw [if_pos c15, if_pos c15]
    have em : FX11_mattersThereAre σX = some (nI (mtN (σM.1 31) nm), σX) := X_matters hT r v.2.1 nm 0 fu (by omega) (by show nm < 5000; omega)
    exact ⟨nI (mtN (σM.1 31) nm), σX, σb, by rw [em, bdI_s], M_c279 x1 Qb v.2.1 nm 0 fu (by omega) (by show nm < 5000; omega), Rel_q hR qX.rf qb⟩
  rw [if_neg c15, if_neg c15]
  by_cases c16 : x1 = 16
  · rw [if_pos c16, if_pos c16]
    refine ⟨nI (ctB (fun p => decide (σM.1 31 (10 + p) = -2)) 8), σX, σb, ?_, M_c308 x1 hnf v.1 Qb.2.1 8 0 fu (by omega) (by show 8 < 5000; omega), Rel_q hR qX.rf qb⟩
    rw [eP, bdI_s, X_bitCount (by omega), bdI_s]
    have e1 := cnt_top (c := partsN (σM.1 31) (-2)) (m := 8) hpl 2
    have e2 := ct_bS (fun p => decide (σM.1 31 (10 + p) = -2)) 8 8 (Nat.le_refl _)
    rw [show cntN (partsN (σM.1 31) (-2)) 10 = ctB (fun p => decide (σM.1 31 (10 + p) = -2)) 8 from e1.trans e2]
  rw [if_neg c16, if_neg c16]
  by_cases c17 : x1 = 17
  · rw [if_pos c17, if_pos c17]
    obtain ⟨σa, ha, ka, wa⟩ := X_weighG (st := 4) (G := σM.1 31) hT st_4 r
    refine ⟨nI (alN (qF (Ls 0) (σM.1 31)) nm), σa, σb, ?_, M_c339 x1 Qb nm 0 fu (by omega) (by show nm < 5000; omega), Rel_q hR (qX.of ka (by decide)) qb⟩
    unfold FX11_sureCoughs
    rw [ha, bdV_s, bdI_s, wa.2.1]
  rw [if_neg c17, if_neg c17]
  by_cases c18 : x1 = 18
  · rw [if_pos c18, if_pos c18]
    obtain ⟨y, σa, h1, h2, ka⟩ := quart_go (σ1 := σX) (z := z) (l := l) x1 hnm Qb nm 0 fu 0 σX hT r kX.rf (by omega) (by show nm < 5000; omega)
    exact ⟨y, σa, σb, by rw [show FX11_allQuarters σX = some (y, σa) from h1, bdI_s], h2, Rel_q hR (qX.of ka (by decide)) qb⟩
  rw [if_neg c18, if_neg c18]
  by_cases c19 : x1 = 19
  · rw [if_pos c19, if_pos c19]
    obtain ⟨y, h1, h2⟩ := fwl_go (σa := σX) (z := z) (l := l) x1 Qb hT r nf 0 fu 0 (by omega) (by show nf < 5000; omega)
    exact ⟨y, σX, σb, by rw [show FX11_familiesWithoutLease σX = some (y, σX) from h1, bdI_s], h2, Rel_q hR qX.rf qb⟩
  rw [if_neg c19, if_neg c19]
  by_cases c20 : x1 = 20
  · rw [if_pos c20, if_pos c20]
    obtain ⟨y, h1, h2⟩ := zeal_go (σa := σX) (z := z) (l := l) x1 Qb hT (fun j hj => by rw [kb.1 12 (by decide) (by decide)]; exact (hzl j hj).1) nf 0 fu 0 (by omega) (by show nf < 5000; omega)
    exact ⟨y, σX, σb, by rw [show FX11_allZeal σX = some (y, σX) from h1, bdI_s], h2, Rel_q hR qX.rf qb⟩
  rw [if_neg c20, if_neg c20]
  exact ⟨-1, σX, σb, rfl, rfl, Rel_q hR qX.rf qb⟩
