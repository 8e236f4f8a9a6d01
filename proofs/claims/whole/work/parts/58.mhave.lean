/-! VALUE, HAVE: the reference. -/
def vaF (L : Lawt) (q : Nat → Nat) (g : Nat → Int32) (z l : Int32) (nm f p : Nat) : Nat → Int32
  | 0 => 0
  | m + 1 => vaF L q g z l nm f p m + nI (fwN q nm m p) * wthF L g z l f m p
/-- the world of a question: text, row, chances, falls -/
def MQs (σ : HS) (side nm nf : Nat) (Ls : Nat → Lawt) (g : Nat → Int32) : Prop := MM σ side nm nf Ls ∧ (∀ k, k < 33 → σ.1 32 k = g k) ∧ FF σ (Ls 0) g nm
theorem MQs_kM {S F : List Nat} {σ σ' : HS} {side nm nf : Nat} {Ls : Nat → Lawt} {g : Nat → Int32} (h : kM S F σ σ') (hS : ∀ x, 19 ≤ x → x ≤ 27 → x ∉ S) (h8 : 8 ∉ S) (h11 : 11 ∉ S) (h32 : 32 ∉ S) (h34 : 34 ∉ S) (h35 : 35 ∉ S) (hF : 18 ∉ F) (hq : MQs σ side nm nf Ls g) : MQs σ' side nm nf Ls g :=
  ⟨MM_kM h hS h8 h11 hF hq.1, fun k hk => by rw [h.1 32 (by decide) h32]; exact hq.2.1 k hk, fun i hi => by rw [h.1 34 (by decide) h34]; exact hq.2.2.1 i hi, fun h1 => by rw [h.1 35 (by decide) h35]; exact hq.2.2.2 h1⟩
theorem M_valueOf_5 {side nm nf f p : Nat} {Ls : Nat → Lawt} {g : Nat → Int32} {z l : Int32} (hf : f < nf) (hp : p < 8) : ∀ (n m fl : Nat) (σ : HS), MQs σ side nm nf Ls g → σ.1 12 (5 * side + f) = z → σ.1 13 (5 * side + f) = l → m + n = nm → n < fl → ∃ σ', FX12_valueOf_5 fl (nI f) (nI p) (vaF (Ls 1) (qF (Ls 0) g) g z l nm f p m) (nI m) σ = some (vaF (Ls 1) (qF (Ls 0) g) g z l nm f p nm, σ') ∧ kM [29, 30] [46] σ σ' := by
  intro n
  induction n with
  | zero =>
    intro m fl σ hQ hz hl hm hfl
    obtain ⟨fl, rfl⟩ : ∃ z, fl = z + 1 := ⟨fl - 1, by omega⟩
    obtain rfl : m = nm := by omega
    have hnm := hQ.1.2.2.1
    rw [FX12_valueOf_5, M_many hQ.1, bdI_s, if_pos (nI_le (Nat.le_refl _) (by omega))]
    exact ⟨σ, rfl, kM.rf⟩
  | succ n ih =>
    intro m fl σ hQ hz hl hm hfl
    obtain ⟨fl, rfl⟩ : ∃ z, fl = z + 1 := ⟨fl - 1, by omega⟩
    have hnm := hQ.1.2.2.1
    have e8 : (8 : Int32) * nI m + nI p = nI (8 * m + p) := by rw [show (8 : Int32) = nI 8 from rfl, pk_mul, nI_add]
    obtain ⟨σ1, h1, k1⟩ := M_worthOf (p := p) hQ.1.1 hf (show m < 10 by omega)
    have hfl8 := hQ.2.2.2 (by omega) m p (by omega) hp
    rw [if_pos (by omega)] at hfl8
    rw [FX12_valueOf_5, M_many hQ.1, bdI_s, if_neg (nI_ge (by omega) (by omega)), e8, gd_t (ix_nI (show 8 * m + p < 80 by omega) (by omega)), h1, bdI_s, cl_nI (by omega), hfl8, nI_1, hz, hl, wthF_congr (fun k hk => hQ.2.1 k (by omega)) (by omega)]
    simp only [hl_]
    obtain ⟨σ2, h2, k2⟩ := ih (m + 1) fl σ1 (MQs_kM k1 s29 (by decide) (by decide) (by decide) (by decide) (by decide) (by decide) hQ) (by rw [k1.1 12 (by decide) (by decide)]; exact hz) (by rw [k1.1 13 (by decide) (by decide)]; exact hl) (by omega) (by omega)
    exact ⟨σ2, h2, k1.tr k2⟩
theorem M_valueOf {σ : HS} {side nm nf f p : Nat} {Ls : Nat → Lawt} {g : Nat → Int32} (hf : f < nf) (hp : p < 8) (hQ : MQs σ side nm nf Ls g) : ∃ σ', FX12_valueOf (nI f) (nI p) σ = some (vaF (Ls 1) (qF (Ls 0) g) g (σ.1 12 (5 * side + f)) (σ.1 13 (5 * side + f)) nm f p nm, σ') ∧ kM [29, 30] [46] σ σ' :=
  M_valueOf_5 hf hp nm 0 fu σ hQ rfl rfl (by omega) (by have := hQ.1.2.2.1; show nm < 5000; omega)
/-- what parts from p on are worth, n of them -/
def haG (L : Lawt) (q : Nat → Nat) (g : Nat → Int32) (z l : Int32) (nm f : Nat) : Nat → Nat → Int32 → Int32
  | 0, _, a => a
  | n + 1, p, a => haG L q g z l nm f n (p + 1) (if g (10 + p) = nI f then a + vaF L q g z l nm f p nm else a)
def haF (Ls : Nat → Lawt) (g : Nat → Int32) (z l : Int32) (nm f : Nat) : Int32 := haG (Ls 1) (qF (Ls 0) g) g z l nm f 8 0 0
theorem M_haveOf_4 {side nm nf f : Nat} {Ls : Nat → Lawt} {g : Nat → Int32} {z l : Int32} (hf : f < nf) : ∀ (n p fl : Nat) (a : Int32) (σ : HS), MQs σ side nm nf Ls g → σ.1 12 (5 * side + f) = z → σ.1 13 (5 * side + f) = l → p + n = 8 → n < fl → ∃ σ', FX12_haveOf_4 fl (nI f) a (nI p) σ = some (haG (Ls 1) (qF (Ls 0) g) g z l nm f n p a, σ') ∧ kM [29, 30] [46] σ σ' := by
  intro n
  induction n with
  | zero =>
    intro p fl a σ hQ hz hl hp hfl
    obtain ⟨fl, rfl⟩ : ∃ z, fl = z + 1 := ⟨fl - 1, by omega⟩
    obtain rfl : p = 8 := by omega
    rw [FX12_haveOf_4, if_pos (show (8 : Int32) ≤ nI 8 by decide)]
    exact ⟨σ, rfl, kM.rf⟩
  | succ n ih =>
    intro p fl a σ hQ hz hl hp hfl
    obtain ⟨fl, rfl⟩ : ∃ z, fl = z + 1 := ⟨fl - 1, by omega⟩
    have e0 : (10 : Int32) + nI p = nI (10 + p) := nI_add 10 p
    rw [FX12_haveOf_4, if_neg (show ¬ (8 : Int32) ≤ nI p from nI_ge (b := 8) (by omega) (by omega)), e0, gd_t (ix_nI (show 10 + p < 33 by omega) (by omega)), cl_nI (by omega), hQ.2.1 (10 + p) (by omega), nI_1]
    simp only [haG]
    by_cases ho : g (10 + p) = nI f
    · rw [if_pos ho, if_pos ho]
      obtain ⟨σ1, h1, k1⟩ := M_valueOf hf (show p < 8 by omega) hQ
      rw [h1, bdI_s, hz, hl]
      simp only [hl_]
      obtain ⟨σ2, h2, k2⟩ := ih (p + 1) fl (a + vaF (Ls 1) (qF (Ls 0) g) g z l nm f p nm) σ1 (MQs_kM k1 s29 (by decide) (by decide) (by decide) (by decide) (by decide) (by decide) hQ) (by rw [k1.1 12 (by decide) (by decide)]; exact hz) (by rw [k1.1 13 (by decide) (by decide)]; exact hl) (by omega) (by omega)
      exact ⟨σ2, h2, k1.tr k2⟩
    · rw [if_neg ho, if_neg ho]
      exact ih (p + 1) fl a σ hQ hz hl (by omega) (by omega)
theorem M_haveOf {σ : HS} {side nm nf f : Nat} {Ls : Nat → Lawt} {g : Nat → Int32} (hf : f < nf) (hQ : MQs σ side nm nf Ls g) : ∃ σ', FX12_haveOf (nI f) σ = some (haF Ls g (σ.1 12 (5 * side + f)) (σ.1 13 (5 * side + f)) nm f, σ') ∧ kM [29, 30] [46] σ σ' :=
  M_haveOf_4 hf 8 0 fu 0 σ hQ rfl rfl (by omega) (by show 8 < 5000; omega)
/-- the row copied, chances and falls filled -/
theorem qF_congr {L : Lawt} {g g' : Nat → Int32} (h : ∀ k, k < 33 → g k = g' k) {m : Nat} (hm : m < 10) : qF L g m = qF L g' m := by
  unfold qF
  rw [cghF_congr (fun k hk => h k (by omega)) hm]
theorem fwN_congr {q q' : Nat → Nat} {nm : Nat} : ∀ (m p : Nat), (∀ i, i < m → q i = q' i) → fwN q nm m p = fwN q' nm m p := by
  intro m
  induction m with
  | zero => intro p _; rfl
  | succ m ih =>
    intro p h
    simp only [fwN]
    rw [ih p (fun i hi => h i (by omega)), ih (p - 1) (fun i hi => h i (by omega)), ih 7 (fun i hi => h i (by omega)), h m (by omega)]
theorem FF_congr {σ : HS} {L : Lawt} {g g' : Nat → Int32} {nm : Nat} (hnm : nm ≤ 10) (h : ∀ k, k < 33 → g k = g' k) (hF : FF σ L g nm) : FF σ L g' nm := by
  refine ⟨fun i hi => by rw [hF.1 i hi, qF_congr h (by omega)], fun h1 m' j hm hj => ?_⟩
  rw [hF.2 h1 m' j hm hj]
  by_cases hlt : m' < nm
  · rw [if_pos hlt, if_pos hlt, fwN_congr m' j (fun i hi => qF_congr h (by omega))]
  · rw [if_neg hlt, if_neg hlt]
theorem M_copiesFalls {σ : HS} {side nm nf : Nat} {Ls : Nat → Lawt} (hM : MM σ side nm nf Ls) : ∃ σ', FX12_copiesFalls σ = some σ' ∧ kM [29, 30, 32, 34, 35] [46, 49] σ σ' ∧ MQs σ' side nm nf Ls (σ.1 31) ∧ σ'.1 0 49 = σ.1 18 side := by
  obtain ⟨σ1, h1, k1, r1, s1⟩ := M_copies hM.1.1 hM.1.2.1
  have hM1 := MM_kM k1 (by intro x h1 h2 h; simp at h; omega) (by decide) (by decide) (by decide) hM
  obtain ⟨σ2, h2, k2, r2⟩ := M_fillsFalls hM1
  unfold FX12_copiesFalls
  rw [h1, bdV_s, h2, bdV_s]
  refine ⟨σ2, rfl, (k1.up (by simp) (by simp)).tr (k2.up (by simp) (by simp)), ⟨MM_kM k2 s3445 (by decide) (by decide) (by decide) hM1, fun k hk => by rw [k2.1 32 (by decide) (by decide)]; exact r1 k hk, FF_congr hM.2.2.1 r1 r2⟩, by rw [k2.2.1 49 (by decide)]; exact s1⟩
