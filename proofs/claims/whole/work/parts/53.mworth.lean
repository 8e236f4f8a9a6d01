/-! COUGHS, WORTH, RENTS, CURES as the reference has them. -/
theorem evP_congr {v v' : Nat → Int32} (hv : ∀ j, j < 9 → v j = v' j) : ∀ (p : Pg) (s : List Int32) (e : Nat), dpP p s.length e → evP v p s = evP v' p s := by
  intro p
  induction p with
  | nil => intro s e _; rfl
  | cons q p ih =>
    obtain ⟨k, n⟩ := q
    intro s e h1
    by_cases k0 : k = 0
    · simp only [evP, dpP, k0, if_true] at h1 ⊢
      exact ih (n :: s) e h1.2
    · by_cases k1 : k = 1
      · subst k1
        simp only [evP, dpP, if_true, Nat.one_ne_zero, if_false] at h1 ⊢
        obtain ⟨h2, ⟨j, hj, rfl⟩, h3⟩ := h1
        rw [cl_nI (by omega), hv j hj]
        exact ih (_ :: s) e h3
      · simp only [dpP, k0, k1, if_false] at h1
        simp only [evP, k0, k1, if_false]
        match s, h1 with
        | b :: a :: s0, h1 =>
          dsimp only
          by_cases hz : k = 5 ∧ b = 0
          · rw [if_pos hz, if_pos hz]
          · rw [if_neg hz, if_neg hz]
            have h3 := h1.2.2
            exact ih (op2 k a b :: s0) e (by simpa using h3)
        | [a], h1 => simp at h1
        | [], h1 => simp at h1
theorem tmV_congr {v v' : Nat → Int32} (hv : ∀ j, j < 9 → v j = v' j) {p : Pg} (h : dpP p 0 1) : tmV v p = tmV v' p := by
  unfold tmV
  rw [evP_congr hv p [] 1 h]
/-- all of a law's terms are as they should be -/
def wfL : List (Pg × Pg × Pg) → Pg → Prop
  | [], f => dpP f 0 1
  | (a, b, t) :: r, f => (dpP a 0 1 ∧ dpP b 0 1 ∧ dpP t 0 1) ∧ wfL r f
theorem lawV_congr {v v' : Nat → Int32} (hv : ∀ j, j < 9 → v j = v' j) : ∀ (r : List (Pg × Pg × Pg)) (f : Pg), wfL r f → lawV v r f = lawV v' r f := by
  intro r
  induction r with
  | nil => intro f h; simp only [lawV]; rw [tmV_congr hv h]
  | cons q r ih =>
    obtain ⟨a, b, t⟩ := q
    intro f h
    simp only [lawV]
    rw [tmV_congr hv h.1.1, tmV_congr hv h.1.2.1, tmV_congr hv h.1.2.2, ih f h.2]
theorem LawM_wf {σ : HS} : ∀ (r : List (Pg × Pg × Pg)) (f : Pg) (b e i : Nat), LawM σ r f b e i → wfL r f := by
  intro r
  induction r with
  | nil => intro f b e i h; exact h.2.2.2.2.2.2.1
  | cons q r ih =>
    obtain ⟨a, c, t⟩ := q
    intro f b e i h
    exact ⟨h.2.2.1, ih _ _ _ _ h.2.2.2.2⟩
theorem lawOf_wf {σ : HS} {side k : Nat} {L : Lawt} {plain : Pg} (hp : dpP plain 0 1) (h : lawOf σ side k L plain) : wfL L.1 L.2 := by
  rcases h with ⟨-, rfl⟩ | ⟨b, e, i, -, -, -, h, -⟩
  · exact hp
  · exact LawM_wf _ _ _ _ _ h
theorem lawOf_kM {S F : List Nat} {σ σ' : HS} {side k : Nat} {L : Lawt} {plain : Pg} (h : kM S F σ σ') (hS : ∀ x, 19 ≤ x → x ≤ 27 → x ∉ S) (hl : lawOf σ side k L plain) : lawOf σ' side k L plain := by
  have e1 := h.1 19 (by decide) (hS 19 (by decide) (by decide))
  have e2 := h.1 20 (by decide) (hS 20 (by decide) (by decide))
  rcases hl with ⟨h1, h2⟩ | ⟨b, e, i, h1, h2, h3, h4, h5⟩
  · exact Or.inl ⟨by rw [e1, e2]; exact h1, h2⟩
  · exact Or.inr ⟨b, e, i, by rw [e1]; exact h1, by rw [e2]; exact h2, h3, LawM_kM h (hS _ (by decide) (by decide)) (hS _ (by decide) (by decide)) (hS _ (by decide) (by decide)) (hS _ (by decide) (by decide)) (hS _ (by decide) (by decide)) (hS _ (by decide) (by decide)) (hS _ (by decide) (by decide)) _ _ _ _ _ h4, h5⟩
def vN (l : List Int32) : Nat → Int32 := fun j => l.getD j 0
def clI (n x : Int32) : Int32 := if 0 ≤ x then if x ≤ n then x else n else 0
/-- the numbers, by a row of the reference's -/
def cghF (L : Lawt) (g : Nat → Int32) (m : Nat) : Int32 := clI 4 (lawV (vN [nI m, g m, g 18, g 19, 0, 0, g 20, 0, 0]) L.1 L.2)
def wthF (L : Lawt) (g : Nat → Int32) (z l : Int32) (f m p : Nat) : Int32 := clI 9 (lawV (vN [nI m, g m, g 18, g 19, z, l, g 20, nI p, nI f]) L.1 L.2)
def famF (L : Lawt) (g : Nat → Int32) (z l : Int32) (f : Nat) (part : Int32) : Int32 := clI 99 (lawV (vN [0, 0, g 18, g 19, z, l, g 20, part, nI f]) L.1 L.2)
theorem M_within (x n : Int32) (σ : HS) : FX12_within x 0 n σ = some (clI n x, σ) := by
  unfold FX12_within clI
  by_cases h1 : 0 ≤ x
  · by_cases h2 : x ≤ n <;> simp only [h1, h2, if_true, if_false]
  · simp only [h1, if_false]
theorem M_looks (σ : HS) : ∃ σ', FX12_looks σ = some σ' ∧ kM [29] [] σ σ' ∧ σ'.1 29 0 = 0 ∧ σ'.1 29 1 = 0 ∧ σ'.1 29 2 = σ.1 32 18 ∧ σ'.1 29 3 = σ.1 32 19 ∧ σ'.1 29 4 = 0 ∧ σ'.1 29 5 = 0 ∧ σ'.1 29 6 = σ.1 32 20 ∧ σ'.1 29 7 = 0 ∧ σ'.1 29 8 = 0 := by
  refine ⟨_, rfl, ?_, rfl, rfl, rfl, rfl, rfl, rfl, rfl, rfl, rfl⟩
  refine ⟨fun h a b => ?_, fun k _ => rfl, rfl⟩
  have hb : h ≠ 29 := by simpa using b
  simp only [pI_1, hb, if_false]
/-- the reference's text in place, as far as laws go -/
def TM (σ : HS) (side nf : Nat) (Ls : Nat → Lawt) : Prop := side < 2 ∧ σ.1 0 18 = nI side ∧ nf ≤ 5 ∧ lawOf σ side 0 (Ls 0) [(0, 1)] ∧ lawOf σ side 1 (Ls 1) [(0, 1)] ∧ lawOf σ side 2 (Ls 2) [(1, 4)] ∧ lawOf σ side 3 (Ls 3) [(0, 0)]
theorem TM_kM {S F : List Nat} {σ σ' : HS} {side nf : Nat} {Ls : Nat → Lawt} (h : kM S F σ σ') (hS : ∀ x, 19 ≤ x → x ≤ 27 → x ∉ S) (hF : 18 ∉ F) (ht : TM σ side nf Ls) : TM σ' side nf Ls :=
  ⟨ht.1, by rw [h.2.1 18 hF]; exact ht.2.1, ht.2.2.1, lawOf_kM h hS ht.2.2.2.1, lawOf_kM h hS ht.2.2.2.2.1, lawOf_kM h hS ht.2.2.2.2.2.1, lawOf_kM h hS ht.2.2.2.2.2.2⟩
theorem s29 : ∀ x, 19 ≤ x → x ≤ 27 → x ∉ [29, 30] := by intro x h1 h2 h; simp at h; omega
theorem dp_p : dpP [(0, (1 : Int32))] 0 1 ∧ dpP [(0, (0 : Int32))] 0 1 ∧ dpP [(1, (4 : Int32))] 0 1 := by
  refine ⟨?_, ?_, ?_⟩ <;> simp [dpP]
  exact ⟨4, by omega, rfl⟩
theorem M_coughsOf {σ : HS} {side nf m : Nat} {Ls : Nat → Lawt} (ht : TM σ side nf Ls) (hm : m < 10) : ∃ σ', FX12_coughsOf (nI m) σ = some (cghF (Ls 0) (σ.1 32) m, σ') ∧ kM [29, 30] [46] σ σ' := by
  obtain ⟨σ1, h1, k1, v0, v1, v2, v3, v4, v5, v6, v7, v8⟩ := M_looks σ
  unfold FX12_coughsOf
  rw [h1, bdV_s]
  simp only [hl_]
  rw [gd_t (ix_nI (show m < 33 by omega) (by omega)), cl_nI (by omega)]
  obtain ⟨σ2, e2⟩ : ∃ z, z = pI (pI σ1 29 0 (nI m)) 29 1 ((pI σ1 29 0 (nI m)).1 32 m) := ⟨_, rfl⟩
  rw [← e2]
  have k2 : kM [29, 30] [46] σ σ2 := by
    rw [e2]
    exact ((k1.up (by simp) (by simp)).tr (kM.pR (by decide) (by decide))).tr (kM.pR (by decide) (by decide))
  have ht2 := TM_kM k2 s29 (by decide) ht
  have hv : ∀ j, j < 9 → σ2.1 29 j = vN [nI m, σ.1 32 m, σ.1 32 18, σ.1 32 19, 0, 0, σ.1 32 20, 0, 0] j := by
    have e32 : σ1.1 32 = σ.1 32 := k1.1 32 (by decide) (by decide)
    intro j hj
    rw [e2]
    match j, hj with
    | 0, _ => rfl
    | 1, _ => show σ1.1 32 m = σ.1 32 m; rw [e32]
    | 2, _ => exact v2
    | 3, _ => exact v3
    | 4, _ => exact v4
    | 5, _ => exact v5
    | 6, _ => exact v6
    | 7, _ => exact v7
    | 8, _ => exact v8
    | j + 9, h => omega
  obtain ⟨σ3, h3, k3⟩ := M_law (σ := σ2) (k := 0) (x2 := 1) ht2.1 (by decide) ht2.2.1 rfl ht2.2.2.2.1 rfl
  rw [show (0 : Int32) = nI 0 from rfl, h3, bdI_s, show nI 0 = (0 : Int32) from rfl, M_within, bdI_s]
  refine ⟨σ3, ?_, k2.tr (k3.up (by simp) (by simp))⟩
  unfold cghF
  rw [lawV_congr hv _ _ (lawOf_wf dp_p.1 ht.2.2.2.1)]
