/-! A week, as the reference has it. -/
def mixF (h v : Int32) : Int32 := (((h ^^^ v) * 1103515245) + 12345) ^^^ (ushr (((h ^^^ v) * 1103515245) + 12345) 15)
def lotF (sd w : Int32) : Int32 := (ushr (mixF (mixF sd 167) w) 1) - ((ushr (mixF (mixF sd 167) w) 1) / 4) * 4
theorem M_lotOf (w : Int32) (σ : HS) : FX12_lotOf w σ = some (lotF (σ.1 0 49) w, σ) := rfl
def csN (sd : Int32) (L : Lawt) (g : Nat → Int32) : Nat → Nat
  | 0 => 0
  | m + 1 => csN sd L g m + (if cghF L g m ≤ lotF sd (16 * g 20 + nI m) then 0 else 2 ^ m)
theorem csN_lt (sd : Int32) (L : Lawt) (g : Nat → Int32) : ∀ m, csN sd L g m < 2 ^ m := by
  intro m
  induction m with
  | zero => exact Nat.one_pos
  | succ m ih =>
    simp only [csN]
    have e2 : 2 ^ (m + 1) = 2 ^ m + 2 ^ m := by rw [Nat.pow_succ]; omega
    by_cases h : cghF L g m ≤ lotF sd (16 * g 20 + nI m)
    · rw [if_pos h]; omega
    · rw [if_neg h]; omega
/-- the reference's text in place: numbers of minutes and families too -/
def MM (σ : HS) (side nm nf : Nat) (Ls : Nat → Lawt) : Prop := TM σ side nf Ls ∧ σ.1 8 side = nI nm ∧ nm ≤ 10 ∧ σ.1 11 side = nI nf
theorem MM_kM {S F : List Nat} {σ σ' : HS} {side nm nf : Nat} {Ls : Nat → Lawt} (h : kM S F σ σ') (hS : ∀ x, 19 ≤ x → x ≤ 27 → x ∉ S) (h8 : 8 ∉ S) (h11 : 11 ∉ S) (hF : 18 ∉ F) (ht : MM σ side nm nf Ls) : MM σ' side nm nf Ls :=
  ⟨TM_kM h hS hF ht.1, by rw [h.1 8 (by decide) h8]; exact ht.2.1, ht.2.2.1, by rw [h.1 11 (by decide) h11]; exact ht.2.2.2⟩
theorem M_many {σ : HS} {side nm nf : Nat} {Ls : Nat → Lawt} (h : MM σ side nm nf Ls) : FX12_many σ = some (nI nm, σ) := by
  unfold FX12_many
  have h1 := h.1.1
  rw [h.1.2.1, gd_t (ix_nI h1 (by omega)), cl_nI (by omega), h.2.1]
theorem cghF_congr {L : Lawt} {g g' : Nat → Int32} (h : ∀ k, k < 23 → g k = g' k) {m : Nat} (hm : m < 10) : cghF L g m = cghF L g' m := by
  unfold cghF
  rw [h m (by omega), h 18 (by omega), h 19 (by omega), h 20 (by omega)]
theorem wthF_congr {L : Lawt} {g g' : Nat → Int32} (h : ∀ k, k < 23 → g k = g' k) {z l : Int32} {f m p : Nat} (hm : m < 10) : wthF L g z l f m p = wthF L g' z l f m p := by
  unfold wthF
  rw [h m (by omega), h 18 (by omega), h 19 (by omega), h 20 (by omega)]
theorem pbG_congr {o o' : Nat → Int32} {x : Int32} : ∀ (n p : Nat) (a : Int32), (∀ q, q < p + n → o q = o' q) → pbG o x n p a = pbG o' x n p a := by
  intro n
  induction n with
  | zero => intro p a _; rfl
  | succ n ih => intro p a h; simp only [pbG]; rw [h p (by omega)]; exact ih _ _ (fun q hq => h q (by omega))
theorem partsF_congr {g g' : Nat → Int32} (h : ∀ p, p < 8 → g (10 + p) = g' (10 + p)) (x : Int32) : partsF g x = partsF g' x := pbG_congr 8 0 0 (fun q hq => h q (by omega))
theorem numF_congr {g g' : Nat → Int32} (h : ∀ k, k < 23 → g k = g' k) (f : Nat) : numF g f = numF g' f := by
  unfold numF
  rw [partsF_congr (fun p hp => h (10 + p) (by omega))]
theorem famF_congr {L : Lawt} {g g' : Nat → Int32} (h : ∀ k, k < 23 → g k = g' k) {z l : Int32} {f : Nat} {x : Int32} : famF L g z l f x = famF L g' z l f x := by
  unfold famF
  rw [h 18 (by omega), h 19 (by omega), h 20 (by omega)]
theorem s30 : ∀ x, 19 ≤ x → x ≤ 27 → x ∉ [29, 30, 32] := by intro x h1 h2 h; simp at h; omega
theorem M_coughsNow_4 {side nm nf : Nat} {Ls : Nat → Lawt} (sd : Int32) (g : Nat → Int32) : ∀ (n m f : Nat) (σ : HS), MM σ side nm nf Ls → σ.1 0 49 = sd → σ.1 32 = g → m + n = nm → n < f → ∃ σ', FX12_coughsNow_4 f (nI (csN sd (Ls 0) g m)) (nI m) σ = some (nI (csN sd (Ls 0) g nm), σ') ∧ kM [29, 30] [46] σ σ' := by
  intro n
  induction n with
  | zero =>
    intro m f σ hM h49 hg hm hf
    obtain ⟨f, rfl⟩ : ∃ z, f = z + 1 := ⟨f - 1, by omega⟩
    obtain rfl : m = nm := by omega
    have := hM.2.2.1
    rw [FX12_coughsNow_4, M_many hM, bdI_s, if_pos (nI_le (Nat.le_refl _) (by omega))]
    exact ⟨σ, rfl, kM.rf⟩
  | succ n ih =>
    intro m f σ hM h49 hg hm hf
    obtain ⟨f, rfl⟩ : ∃ z, f = z + 1 := ⟨f - 1, by omega⟩
    have hnm := hM.2.2.1
    obtain ⟨σ1, h1, k1⟩ := M_coughsOf hM.1 (show m < 10 by omega)
    have hM1 := MM_kM k1 s29 (by decide) (by decide) (by decide) hM
    have e49 : σ1.1 0 49 = sd := by rw [k1.2.1 49 (by decide)]; exact h49
    have e32 : σ1.1 32 = g := by rw [k1.1 32 (by decide) (by decide)]; exact hg
    rw [FX12_coughsNow_4, M_many hM, bdI_s, if_neg (nI_ge (by omega) (by omega)), M_lotOf, bdI_s, h1, bdI_s, h49, hg, nI_1]
    obtain ⟨σ2, h2, k2⟩ := ih (m + 1) f σ1 hM1 e49 e32 (by omega) (by omega)
    simp only [csN] at h2
    by_cases hc : cghF (Ls 0) g m ≤ lotF sd (16 * g 20 + nI m)
    · rw [if_pos hc]
      rw [if_pos hc, Nat.add_zero] at h2
      exact ⟨σ2, h2, k1.tr k2⟩
    · rw [if_neg hc]
      rw [if_neg hc] at h2
      simp only [hl_]
      rw [or_bit m (by omega) _ (csN_lt _ _ _ _)]
      exact ⟨σ2, h2, k1.tr k2⟩
theorem M_coughsNow {σ : HS} {side nm nf : Nat} {Ls : Nat → Lawt} (hM : MM σ side nm nf Ls) : ∃ σ', FX12_coughsNow σ = some (nI (csN (σ.1 0 49) (Ls 0) (σ.1 32) nm), σ') ∧ kM [29, 30] [46] σ σ' :=
  M_coughsNow_4 (σ.1 0 49) (σ.1 32) nm 0 fu σ hM rfl rfl (by omega) (by have := hM.2.2.1; show _ < 5000; omega)
/-- in which part a minute is -/
def ptF (c m : Nat) : Nat := min 7 (cntN c m)
theorem ptF_lt (c m : Nat) : ptF c m < 8 := by unfold ptF; omega
theorem M_partBy_4 {c m : Nat} (hc : c < 1024) (hm : m ≤ 10) : ∀ (n k f : Nat) (σ : HS), k + n = m → n < f → FX12_partBy_4 f (nI c) (nI m) (nI (cntN c k)) (nI k) σ = some (nI (ptF c m), σ) := by
  intro n
  induction n with
  | zero =>
    intro k f σ hk hf
    obtain ⟨f, rfl⟩ : ∃ z, f = z + 1 := ⟨f - 1, by omega⟩
    obtain rfl : k = m := by omega
    have h10 := cntN_le c k
    rw [FX12_partBy_4, if_pos (nI_le (Nat.le_refl _) (by omega))]
    unfold ptF
    by_cases h7 : cntN c k ≤ 7
    · rw [if_pos (show nI (cntN c k) ≤ 7 from nI_le (b := 7) h7 (by omega)), Nat.min_eq_right h7]
    · rw [if_neg (show ¬ nI (cntN c k) ≤ 7 from nI_ge (a := 7) (by omega) (by omega)), Nat.min_eq_left (by omega)]
      rfl
  | succ n ih =>
    intro k f σ hk hf
    obtain ⟨f, rfl⟩ : ∃ z, f = z + 1 := ⟨f - 1, by omega⟩
    rw [FX12_partBy_4, if_neg (nI_ge (by omega) (by omega)), bit_at k (by omega) c hc]
    simp only [hl_]
    rw [nI_add, nI_1]
    exact ih (k + 1) f σ (by omega) (by omega)
theorem M_partBy {c m : Nat} (hc : c < 1024) (hm : m ≤ 10) (σ : HS) : FX12_partBy (nI c) (nI m) σ = some (nI (ptF c m), σ) := M_partBy_4 hc hm m 0 fu σ (by omega) (by show m < 5000; omega)
def psF (nm c : Nat) : Int32 := if nm = 0 then 0 else nI (ptF c (nm - 1) + 1)
theorem M_partsBy {σ : HS} {side nm nf c : Nat} {Ls : Nat → Lawt} (hM : MM σ side nm nf Ls) (hc : c < 1024) : FX12_partsBy (nI c) σ = some (psF nm c, σ) := by
  have hnm := hM.2.2.1
  unfold FX12_partsBy psF
  rw [M_many hM, bdI_s]
  by_cases h0 : nm = 0
  · rw [if_pos (by rw [h0]; rfl), if_pos h0]
  · rw [if_neg (nI_ne0 (by omega) (by omega)), if_neg h0, M_many hM, bdI_s]
    obtain ⟨k, rfl⟩ : ∃ k, nm = k + 1 := ⟨nm - 1, by omega⟩
    rw [s1I, M_partBy hc (by omega), bdI_s, nI_1]
    rfl
/-- what a family has gained behind m minutes of a sermon with the coughs c -/
def gnF (L : Lawt) (g : Nat → Int32) (z l : Int32) (c f : Nat) : Nat → Int32
  | 0 => g (23 + f)
  | m + 1 => if g (10 + ptF c m) = nI f then gnF L g z l c f m + wthF L g z l f m (ptF c m) else gnF L g z l c f m
theorem s32 : ∀ x, 19 ≤ x → x ≤ 27 → x ∉ [29, 30, 32] := s30
/-- all minutes for one family, then its rents -/
theorem M_week22 {side nm nf c f : Nat} {Ls : Nat → Lawt} {k7 : Int32 → Int32 → HS → Option HS} (hc : c < 1024) (hf : f < nf) (g : Nat → Int32) (z l : Int32) : ∀ (n m fl : Nat) (σ : HS), MM σ side nm nf Ls → (∀ k, k < 23 → σ.1 32 k = g k) → σ.1 12 (5 * side + f) = z → σ.1 13 (5 * side + f) = l → σ.1 32 (23 + f) = gnF (Ls 1) g z l c f m → m + n = nm → n < fl →
    ∃ σ', FX12_weekGoes_22 k7 fl (nI c) (nI f) (nI m) σ = k7 (nI c) (nI (f + 1)) σ' ∧ kM [29, 30, 32] [46] σ σ' ∧ σ'.1 32 (23 + f) = gnF (Ls 1) g z l c f nm ∧ σ'.1 32 (28 + f) = σ.1 32 (28 + f) + famF (Ls 2) g z l f (numF g f) ∧ ∀ k, k ≠ 23 + f → k ≠ 28 + f → σ'.1 32 k = σ.1 32 k := by
  intro n
  induction n with
  | zero =>
    intro m fl σ hM hg hz hl hgn hm hfl
    obtain ⟨fl, rfl⟩ : ∃ z, fl = z + 1 := ⟨fl - 1, by omega⟩
    obtain rfl : m = nm := by omega
    have hnm := hM.2.2.1
    have hnf := hM.1.2.2.1
    obtain ⟨σ1, h1, k1⟩ := M_rentsOf hM.1 hf
    have e32 : σ1.1 32 = σ.1 32 := k1.1 32 (by decide) (by decide)
    have e0 : (28 : Int32) + nI f = nI (28 + f) := nI_add 28 f
    have ii : ix (nI (28 + f)) 33 = true := ix_nI (by omega) (by omega)
    rw [FX12_weekGoes_22, M_many hM, bdI_s, if_pos (nI_le (Nat.le_refl _) (by omega)), e0, gd_t ii, h1, bdI_s, gd_t ii, cl_nI (by omega), nI_1]
    simp only [hl_]
    refine ⟨_, rfl, (k1.up (by simp) (by simp)).tr (kM.pR (by decide) (by decide)), ?_, ?_, ?_⟩
    · rw [pI_1, if_pos rfl, upd_a, if_neg (by omega), e32]; exact hgn
    · rw [pI_1, if_pos rfl, upd_a, if_pos rfl, hz, hl, famF_congr hg, numF_congr hg]
    · intro k h1 h2
      rw [pI_1, if_pos rfl, upd_a, if_neg h2, e32]
  | succ n ih =>
    intro m fl σ hM hg hz hl hgn hm hfl
    obtain ⟨fl, rfl⟩ : ∃ z, fl = z + 1 := ⟨fl - 1, by omega⟩
    have hnm := hM.2.2.1
    have hnf := hM.1.2.2.1
    have hp := ptF_lt c m
    have e0 : (10 : Int32) + nI (ptF c m) = nI (10 + ptF c m) := nI_add 10 _
    rw [FX12_weekGoes_22, M_many hM, bdI_s, if_neg (nI_ge (by omega) (by omega)), M_partBy hc (by omega), bdI_s, e0, gd_t (ix_nI (show 10 + ptF c m < 33 by omega) (by omega)), cl_nI (show 10 + ptF c m < 2 ^ 31 by omega), hg (10 + ptF c m) (by omega)]
    by_cases ho : g (10 + ptF c m) = nI f
    · obtain ⟨σ1, h1, k1⟩ := M_worthOf (p := ptF c m) hM.1 hf (show m < 10 by omega)
      have e32 : σ1.1 32 = σ.1 32 := k1.1 32 (by decide) (by decide)
      have e3 : (23 : Int32) + nI f = nI (23 + f) := nI_add 23 f
      have ii : ix (nI (23 + f)) 33 = true := ix_nI (by omega) (by omega)
      rw [if_pos ho, e3, gd_t ii, h1, bdI_s, gd_t ii, cl_nI (show 23 + f < 2 ^ 31 by omega), nI_1]
      simp only [hl_]
      obtain ⟨σ2, e2⟩ : ∃ y, y = pI σ1 32 (23 + f) (σ.1 32 (23 + f) + wthF (Ls 1) (σ.1 32) (σ.1 12 (5 * side + f)) (σ.1 13 (5 * side + f)) f m (ptF c m)) := ⟨_, rfl⟩
      rw [← e2]
      have k2 : kM [29, 30, 32] [46] σ σ2 := by rw [e2]; exact (k1.up (by simp) (by simp)).tr (kM.pR (by decide) (by decide))
      have r2 : σ2.1 32 = upd (σ.1 32) (23 + f) (gnF (Ls 1) g z l c f (m + 1)) := by
        rw [e2, pI_1, if_pos rfl, e32, hgn, hz, hl, wthF_congr hg (by omega)]
        simp only [gnF, ho, if_true]
      obtain ⟨σ3, h3, k3, a3, b3, c3⟩ := ih (m + 1) fl σ2 (MM_kM k2 s32 (by decide) (by decide) (by decide) hM) (fun k hk => by rw [r2, upd_a, if_neg (by omega)]; exact hg k hk) (by rw [k2.1 12 (by decide) (by decide)]; exact hz) (by rw [k2.1 13 (by decide) (by decide)]; exact hl) (by rw [r2, upd_a, if_pos rfl]) (by omega) (by omega)
      refine ⟨σ3, h3, k2.tr k3, a3, ?_, ?_⟩
      · rw [b3, r2, upd_a, if_neg (by omega)]
      · intro k h1 h2
        rw [c3 k h1 h2, r2, upd_a, if_neg h1]
    · rw [if_neg ho, nI_1]
      exact ih (m + 1) fl σ hM hg hz hl (by rw [hgn]; simp only [gnF, ho, if_false]) (by omega) (by omega)
/-- the row behind a week -/
def wkF (Ls : Nat → Lawt) (z l : Nat → Int32) (nm nf c : Nat) (g : Nat → Int32) : Nat → Int32 := fun k => if k = 20 then g 20 + 1 else if k = 21 then nI c else if k = 22 then psF nm c else if 23 ≤ k ∧ k < 23 + nf then gnF (Ls 1) g (z (k - 23)) (l (k - 23)) c (k - 23) nm else if 28 ≤ k ∧ k < 28 + nf then g k + famF (Ls 2) g (z (k - 28)) (l (k - 28)) (k - 28) (numF g (k - 28)) else g k
theorem M_week7 {side nm nf c : Nat} {Ls : Nat → Lawt} (hc : c < 1024) (g : Nat → Int32) (z l : Nat → Int32) : ∀ (n f fl : Nat) (σ : HS), MM σ side nm nf Ls → (∀ k, k < 23 → σ.1 32 k = g k) → (∀ j, j < nf → σ.1 12 (5 * side + j) = z j ∧ σ.1 13 (5 * side + j) = l j) → (∀ j, j < f → σ.1 32 (23 + j) = gnF (Ls 1) g (z j) (l j) c j nm ∧ σ.1 32 (28 + j) = g (28 + j) + famF (Ls 2) g (z j) (l j) j (numF g j)) → (∀ j, f ≤ j → j < 5 → σ.1 32 (23 + j) = g (23 + j) ∧ σ.1 32 (28 + j) = g (28 + j)) → f + n = nf → n < fl →
    ∃ σ', FX12_weekGoes_7 fl (nI c) (nI f) σ = some σ' ∧ kM [29, 30, 32] [46] σ σ' ∧ ∀ k, k < 33 → σ'.1 32 k = wkF Ls z l nm nf c g k := by
  intro n
  induction n with
  | zero =>
    intro f fl σ hM hg hzl hd hr hn hfl
    obtain ⟨fl, rfl⟩ : ∃ z, fl = z + 1 := ⟨fl - 1, by omega⟩
    obtain rfl : f = nf := by omega
    have hnf := hM.1.2.2.1
    have hs := hM.1.1
    have k1 : kM [29, 30, 32] [46] σ (pI σ 32 21 (nI c)) := kM.pR (by decide) (by decide)
    rw [FX12_weekGoes_7, hM.1.2.1, gd_t (ix_nI hs (by omega)), cl_nI (by omega), hM.2.2.2, if_pos (nI_le (Nat.le_refl _) (by omega))]
    simp only [hl_]
    rw [M_partsBy (MM_kM k1 s32 (by decide) (by decide) (by decide) hM) hc, bdI_s]
    refine ⟨_, rfl, (k1.tr (kM.pR (by decide) (by decide))).tr (kM.pR (by decide) (by decide)), ?_⟩
    intro k hk
    simp only [pI_1, if_true, upd_a]
    unfold wkF
    by_cases h20 : k = 20
    · simp only [h20, if_true, hg 20 (by omega)]; rfl
    · by_cases h22 : k = 22
      · subst h22; rfl
      · by_cases h21 : k = 21
        · subst h21; rfl
        · simp only [h20, h21, h22, if_false]
          by_cases ha : 23 ≤ k ∧ k < 23 + f
          · rw [if_pos ha]
            have := (hd (k - 23) (by omega)).1
            rw [show 23 + (k - 23) = k by omega] at this
            exact this
          · rw [if_neg ha]
            by_cases hb : 28 ≤ k ∧ k < 28 + f
            · rw [if_pos hb]
              have := (hd (k - 28) (by omega)).2
              rw [show 28 + (k - 28) = k by omega] at this
              exact this
            · rw [if_neg hb]
              by_cases h23 : k < 23
              · exact hg k h23
              · by_cases h28 : k < 28
                · have := (hr (k - 23) (by omega) (by omega)).1
                  rw [show 23 + (k - 23) = k by omega] at this
                  exact this
                · have := (hr (k - 28) (by omega) (by omega)).2
                  rw [show 28 + (k - 28) = k by omega] at this
                  exact this
  | succ n ih =>
    intro f fl σ hM hg hzl hd hr hn hfl
    obtain ⟨fl, rfl⟩ : ∃ z, fl = z + 1 := ⟨fl - 1, by omega⟩
    have hnf := hM.1.2.2.1
    have hs := hM.1.1
    have hnm := hM.2.2.1
    rw [FX12_weekGoes_7, hM.1.2.1, gd_t (ix_nI hs (by omega)), cl_nI (by omega), hM.2.2.2, if_neg (nI_ge (by omega) (by omega))]
    obtain ⟨σ1, h1, k1, a1, b1, c1⟩ := M_week22 (k7 := FX12_weekGoes_7 fl) hc (show f < nf by omega) g (z f) (l f) nm 0 fu σ hM hg (hzl f (by omega)).1 (hzl f (by omega)).2 (hr f (Nat.le_refl _) (by omega)).1 (by omega) (by show nm < 5000; omega)
    rw [show (0 : Int32) = nI 0 from rfl, h1]
    have g1 : ∀ j, j < f + 1 → σ1.1 32 (23 + j) = gnF (Ls 1) g (z j) (l j) c j nm ∧ σ1.1 32 (28 + j) = g (28 + j) + famF (Ls 2) g (z j) (l j) j (numF g j) := by
      intro j hj
      by_cases hjf : j = f
      · subst hjf
        exact ⟨a1, by rw [b1, (hr j (Nat.le_refl _) (by omega)).2]⟩
      · rw [c1 (23 + j) (by omega) (by omega), c1 (28 + j) (by omega) (by omega)]
        exact hd j (by omega)
    have g2 : ∀ j, f + 1 ≤ j → j < 5 → σ1.1 32 (23 + j) = g (23 + j) ∧ σ1.1 32 (28 + j) = g (28 + j) := by
      intro j hj1 hj2
      rw [c1 (23 + j) (by omega) (by omega), c1 (28 + j) (by omega) (by omega)]
      exact hr j (by omega) hj2
    obtain ⟨σ2, h2, k2, r2⟩ := ih (f + 1) fl σ1 (MM_kM k1 s32 (by decide) (by decide) (by decide) hM) (fun k hk => by rw [c1 k (by omega) (by omega)]; exact hg k hk) (fun j hj => by rw [k1.1 12 (by decide) (by decide), k1.1 13 (by decide) (by decide)]; exact hzl j hj) g1 g2 (by omega) (by omega)
    exact ⟨σ2, h2, k1.tr k2, r2⟩
/-- a week -/
theorem M_weekGoes {σ : HS} {side nm nf : Nat} {Ls : Nat → Lawt} (z l : Nat → Int32) (hM : MM σ side nm nf Ls) (hzl : ∀ j, j < nf → σ.1 12 (5 * side + j) = z j ∧ σ.1 13 (5 * side + j) = l j) : ∃ σ', FX12_weekGoes σ = some σ' ∧ kM [29, 30, 32] [46] σ σ' ∧ ∀ k, k < 33 → σ'.1 32 k = wkF Ls z l nm nf (csN (σ.1 0 49) (Ls 0) (σ.1 32) nm) (σ.1 32) k := by
  have hnm := hM.2.2.1
  have hnf := hM.1.2.2.1
  have hc : csN (σ.1 0 49) (Ls 0) (σ.1 32) nm < 1024 := Nat.lt_of_lt_of_le (csN_lt _ _ _ _) (Nat.pow_le_pow_right (n := 2) (by decide) hnm)
  obtain ⟨σ1, h1, k1⟩ := M_coughsNow hM
  have e32 : σ1.1 32 = σ.1 32 := k1.1 32 (by decide) (by decide)
  unfold FX12_weekGoes
  rw [h1, bdI_s]
  obtain ⟨σ2, h2, k2, r2⟩ := M_week7 hc (σ.1 32) z l nf 0 fu σ1 (MM_kM k1 s29 (by decide) (by decide) (by decide) hM) (fun k _ => by rw [e32]) (fun j hj => by rw [k1.1 12 (by decide) (by decide), k1.1 13 (by decide) (by decide)]; exact hzl j hj) (fun j hj => by omega) (fun j _ _ => by rw [e32]; exact ⟨rfl, rfl⟩) (by omega) (by show nf < 5000; omega)
  exact ⟨σ2, h2, (k1.up (by simp) (by simp)).tr k2, r2⟩
