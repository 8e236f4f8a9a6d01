/-! Laws as lists: a term is a list of (kind, number): 0 a number, 1 a variable, 2 .. 5 the signs + - * /. -/
abbrev Pg : Type := List (Nat × Int32)
abbrev Lawt : Type := List (Pg × Pg × Pg) × Pg
def op2 (k : Nat) (a b : Int32) : Int32 := if k = 2 then a + b else if k = 3 then a - b else if k = 4 then a * b else a / b
/-- a term on a pile of numbers, the top first; none: something was divided by 0 (or the pile is too low) -/
def evP (v : Nat → Int32) : Pg → List Int32 → Option (List Int32)
  | [], s => some s
  | (k, n) :: p, s => if k = 0 then evP v p (n :: s) else if k = 1 then evP v p (v n.toNatClampNeg :: s) else match s with
    | b :: a :: s' => if k = 5 ∧ b = 0 then none else evP v p (op2 k a b :: s')
    | _ => none
/-- how high the pile is, never above 15 -/
def dpP : Pg → Nat → Nat → Prop
  | [], d, e => d = e
  | (k, n) :: p, d, e => if k = 0 then d < 15 ∧ dpP p (d + 1) e else if k = 1 then d < 15 ∧ (∃ j, j < 9 ∧ n = nI j) ∧ dpP p (d + 1) e else k < 6 ∧ 2 ≤ d ∧ dpP p (d - 1) e
theorem evP_len (v : Nat → Int32) : ∀ (p : Pg) (s s' : List Int32) (e : Nat), dpP p s.length e → evP v p s = some s' → s'.length = e := by
  intro p
  induction p with
  | nil => intro s s' e h1 h2; cases h2; exact h1
  | cons q p ih =>
    obtain ⟨k, n⟩ := q
    intro s s' e h1 h2
    by_cases k0 : k = 0
    · simp only [evP, dpP, k0, if_true] at h1 h2
      exact ih (n :: s) s' e h1.2 h2
    · by_cases k1 : k = 1
      · subst k1
        simp only [evP, dpP, if_true, Nat.one_ne_zero, if_false] at h1 h2
        exact ih (v n.toNatClampNeg :: s) s' e h1.2.2 h2
      · simp only [dpP, k0, k1, if_false] at h1
        simp only [evP, k0, k1, if_false] at h2
        match s, h1, h2 with
        | b :: a :: s0, h1, h2 =>
          by_cases hz : k = 5 ∧ b = 0
          · simp only [hz, and_self, if_true] at h2; cases h2
          · simp only [hz, if_false] at h2
            refine ih _ _ _ ?_ h2
            have h3 := h1.2.2
            simpa using h3
        | [a], h1, h2 => simp at h1
        | [], h1, h2 => simp at h1
/-- what lies deeper stays -/
theorem evP_app (v : Nat → Int32) (z : List Int32) : ∀ (p : Pg) (s : List Int32) (e : Nat), dpP p s.length e → evP v p (s ++ z) = (evP v p s).map (fun t => t ++ z) := by
  intro p
  induction p with
  | nil => intro s e h; rfl
  | cons q p ih =>
    obtain ⟨k, n⟩ := q
    intro s e h1
    by_cases k0 : k = 0
    · simp only [evP, dpP, k0, if_true] at h1 ⊢
      exact ih (n :: s) e h1.2
    · by_cases k1 : k = 1
      · subst k1
        simp only [evP, dpP, if_true, Nat.one_ne_zero, if_false] at h1 ⊢
        exact ih (_ :: s) e h1.2.2
      · simp only [dpP, k0, k1, if_false] at h1
        simp only [evP, k0, k1, if_false]
        match s, h1 with
        | b :: a :: s0, h1 =>
          simp only [List.cons_append]
          by_cases hz : k = 5 ∧ b = 0
          · simp only [hz, and_self, if_true]; rfl
          · simp only [hz, if_false]
            have h3 := h1.2.2
            exact ih (op2 k a b :: s0) e (by simpa using h3)
        | [a], h1 => simp at h1
        | [], h1 => simp at h1
/-- a term's number -/
def tmV (v : Nat → Int32) (p : Pg) : Option Int32 := (evP v p []).map fun s => s.headD 0
def lawV (v : Nat → Int32) : List (Pg × Pg × Pg) → Pg → Int32
  | [], f => (tmV v f).getD 0
  | (a, b, t) :: r, f => match tmV v a, tmV v b with
    | some x, some y => if x < y then (tmV v t).getD 0 else lawV v r f
    | _, _ => 0
/-- how the reference keeps a term -/
def LM (cod val : Nat → Int32) : Pg → Nat → Prop
  | [], _ => True
  | (k, n) :: p, i => cod i = nI k ∧ (k < 2 → val i = n) ∧ LM cod val p (i + 1)
/-- the pile of the reference holds s -/
def PM (g : Nat → Int32) (s : List Int32) : Prop := ∀ j, j < s.length → g (s.length - 1 - j) = s.getD j 0
theorem PM_push {g : Nat → Int32} {s : List Int32} (h : PM g s) (x : Int32) : PM (upd g s.length x) (x :: s) := by
  intro j hj
  cases j with
  | zero => simp [upd_a]
  | succ j =>
    have hj' : j < s.length := by simpa using hj
    have e : (x :: s).length - 1 - (j + 1) = s.length - 1 - j := by simp; omega
    rw [e, upd_a, if_neg (by omega), h j hj']
    simp
theorem PM_pop {g : Nat → Int32} {a b : Int32} {s : List Int32} (h : PM g (b :: a :: s)) (x : Int32) : PM (upd g s.length x) (x :: s) := by
  intro j hj
  cases j with
  | zero => simp [upd_a]
  | succ j =>
    have hj' : j < s.length := by simpa using hj
    have e : (x :: s).length - 1 - (j + 1) = s.length - 1 - j := by simp; omega
    have h1 := h (j + 2) (by simp; omega)
    have e1 : (b :: a :: s).length - 1 - (j + 2) = s.length - 1 - j := by simp; omega
    rw [e1] at h1
    rw [e, upd_a, if_neg (by omega), h1]
    simp
theorem PM_0 {g : Nat → Int32} {a b : Int32} {s : List Int32} (h : PM g (b :: a :: s)) : g (s.length + 1) = b ∧ g s.length = a := by
  have h0 := h 0 (by simp)
  have h1 := h 1 (by simp)
  simp at h0 h1
  exact ⟨h0, h1⟩
theorem m1I (k : Nat) : nI (k + 1) + (-1) = nI k := pk_m1 k
theorem s1I (k : Nat) : nI (k + 1) - (1 : Int32) = nI k := nI_pred k
/-- the reference's term -/
theorem M_term (v : Nat → Int32) (x1 : Int32) : ∀ (p : Pg) (s : List Int32) (c d f : Nat) (σ : HS), v = σ.1 29 → LM (σ.1 26) (σ.1 27) p c → dpP p s.length d → PM (σ.1 30) s → s.length ≤ 15 → c + p.length ≤ 840 → p.length < f →
    ∃ σ' r, FX12_termOf_5 f x1 (nI (c + p.length)) (nI s.length) (nI c) σ = some (r, σ') ∧ (∀ h, h ≠ 30 → h ≠ 0 → σ'.1 h = σ.1 h) ∧ (∀ k, k ≠ 46 → σ'.1 0 k = σ.1 0 k) ∧ σ'.2 = σ.2 ∧ (match evP v p s with
      | some s' => σ'.1 0 46 = σ.1 0 46 ∧ r = σ'.1 30 0 ∧ PM (σ'.1 30) s'
      | none => σ'.1 0 46 = 1) := by
  intro p
  induction p with
  | nil =>
    intro s c d f σ hv hL hd hP h15 hc hf
    obtain ⟨f, rfl⟩ : ∃ g, f = g + 1 := ⟨f - 1, by simp at hf; omega⟩
    refine ⟨σ, σ.1 30 0, ?_, fun _ _ _ => rfl, fun _ _ => rfl, rfl, rfl, rfl, hP⟩
    rw [FX12_termOf_5, if_pos]
    exact nI_le (by simp) (by simp at hc ⊢; omega)
  | cons q p ih =>
    obtain ⟨k, n⟩ := q
    intro s c d f σ hv hL hd hP h15 hc hf
    obtain ⟨f, rfl⟩ : ∃ g, f = g + 1 := ⟨f - 1, by simp at hf; omega⟩
    simp only [List.length_cons] at hc hf
    obtain ⟨hL1, hL2, hL3⟩ := hL
    have hlt : ¬ nI (c + (p.length + 1)) ≤ nI c := nI_ge (by omega) (by omega)
    have hix : ix (nI c) 840 = true := ix_nI (by omega) (by omega)
    have hcl : (nI c).toNatClampNeg = c := cl_nI (by omega)
    have e1 : nI c + 1 = nI (c + 1) := nI_1 c
    have elen : nI (c + (p.length + 1)) = nI (c + 1 + p.length) := by congr 1; omega
    rw [List.length_cons, FX12_termOf_5, if_neg hlt, gd_t hix]
    simp only [hl_, hcl, hL1]
    by_cases k0 : k = 0
    · subst k0
      simp only [dpP, if_true] at hd
      have hs : s.length < 400 := by omega
      have hcs : (nI s.length).toNatClampNeg = s.length := cl_nI (by omega)
      rw [if_neg (show ¬ (2 : Int32) ≤ nI 0 by decide), if_pos (show nI 0 = 0 from rfl), gd_t hix, gd_t (ix_nI hs (by omega)), hcs, hL2 (by omega), e1, nI_1, elen]
      obtain ⟨σ', r, h1, h2, h3, h4, h5⟩ := ih (n :: s) (c + 1) d f (pI σ 30 s.length n) hv hL3 (by simpa using hd.2) (by rw [pI_1, if_pos rfl]; exact PM_push hP n) (by simp; omega) (by omega) (by omega)
      refine ⟨σ', r, h1, fun h a b => ?_, h3, h4, ?_⟩
      · rw [h2 h a b, pI_1, if_neg a]
      · simp only [evP, if_true]; exact h5
    · by_cases k1 : k = 1
      · subst k1
        simp only [dpP, if_true, Nat.one_ne_zero, if_false] at hd
        obtain ⟨hd1, ⟨j, hj, rfl⟩, hd2⟩ := hd
        have hs : s.length < 400 := by omega
        have hcs : (nI s.length).toNatClampNeg = s.length := cl_nI (by omega)
        have hcj : (nI j).toNatClampNeg = j := cl_nI (by omega)
        rw [if_neg (show ¬ (2 : Int32) ≤ nI 1 by decide), if_neg (show ¬ nI 1 = 0 by decide), gd_t hix, hL2 (by omega), gd_t (ix_nI hj (by omega)), gd_t (ix_nI hs (by omega)), hcs, hcj, e1, nI_1, elen]
        obtain ⟨σ', r, h1, h2, h3, h4, h5⟩ := ih (σ.1 29 j :: s) (c + 1) d f (pI σ 30 s.length (σ.1 29 j)) hv hL3 (by simpa using hd2) (by rw [pI_1, if_pos rfl]; exact PM_push hP _) (by simp; omega) (by omega) (by omega)
        refine ⟨σ', r, h1, fun h a b => ?_, h3, h4, ?_⟩
        · rw [h2 h a b, pI_1, if_neg a]
        · simp only [evP, Nat.one_ne_zero, if_true, if_false, hcj]; rw [hv]; rw [hv] at h5; exact h5
      · simp only [dpP, k0, k1, if_false] at hd
        obtain ⟨hk6, hd2, hd3⟩ := hd
        match s, hd2, hd3, hP, h15 with
        | [], hd2, _, _, _ => simp at hd2
        | [a], hd2, _, _, _ => simp at hd2
        | b :: a :: s0, hd2, hd3, hP, h15 =>
          obtain ⟨hb, ha⟩ := PM_0 hP
          simp only [List.length_cons] at h15 hd3 ⊢
          have hk2 : (2 : Int32) ≤ nI k := nI_le (show 2 ≤ k by omega) (by omega)
          have i1 : ix (nI s0.length) 400 = true := ix_nI (by omega) (by omega)
          have i2 : ix (nI (s0.length + 1)) 400 = true := ix_nI (by omega) (by omega)
          have c1 : (nI s0.length).toNatClampNeg = s0.length := cl_nI (by omega)
          have c2 : (nI (s0.length + 1)).toNatClampNeg = s0.length + 1 := cl_nI (by omega)
          rw [if_pos hk2, m1I, s1I, gd_t i1, gd_t i2, c1, c2, hb, ha]
          have key : ∀ σ1 : HS, σ1 = pI σ 30 s0.length (op2 k a b) → (k = 5 ∧ b = 0 → False) → ∃ σ' r, FX12_termOf_5 f x1 (nI (c + 1 + p.length)) (nI (s0.length + 1)) (nI (c + 1)) σ1 = some (r, σ') ∧ (∀ h, h ≠ 30 → h ≠ 0 → σ'.1 h = σ.1 h) ∧ (∀ k, k ≠ 46 → σ'.1 0 k = σ.1 0 k) ∧ σ'.2 = σ.2 ∧ (match evP v ((k, n) :: p) (b :: a :: s0) with
              | some s' => σ'.1 0 46 = σ.1 0 46 ∧ r = σ'.1 30 0 ∧ PM (σ'.1 30) s'
              | none => σ'.1 0 46 = 1) := by
            intro σ1 e hz
            subst e
            obtain ⟨σ', r, h1, h2, h3, h4, h5⟩ := ih (op2 k a b :: s0) (c + 1) d f (pI σ 30 s0.length (op2 k a b)) hv hL3 (by simpa using hd3) (by rw [pI_1, if_pos rfl]; exact PM_pop hP _) (by simp; omega) (by omega) (by omega)
            refine ⟨σ', r, h1, fun h a b => ?_, h3, h4, ?_⟩
            · rw [h2 h a b, pI_1, if_neg a]
            · have e9 : evP v ((k, n) :: p) (b :: a :: s0) = evP v p (op2 k a b :: s0) := by
                simp only [evP, k0, k1, if_false]
                rw [if_neg hz]
              rw [e9]
              exact h5
          rw [elen]
          have ek : ∀ j, j < 2 ^ 31 → (nI k = nI j ↔ k = j) := fun j hj => nI_eq (by omega) hj
          by_cases hz : k = 5 ∧ b = 0
          · rw [if_pos (show nI k = 5 from (ek 5 (by omega)).mpr hz.1), if_pos hz.2]
            refine ⟨pI σ 0 46 1, 0, rfl, fun h a b => ?_, fun k hk => ?_, rfl, ?_⟩
            · rw [pI_1, if_neg b]
            · rw [pI_1, if_pos rfl, upd_a, if_neg hk]
            · have e9 : evP v ((k, n) :: p) (b :: a :: s0) = none := by
                simp only [evP, k0, k1, if_false]
                rw [if_pos hz]
              rw [e9]
              show (pI σ 0 46 1).1 0 46 = 1
              rw [pI_1, if_pos rfl, upd_a, if_pos rfl]
          · have hgo : (if nI k = 5 then if b = 0 then (some ((0 : Int32), pI σ 0 46 1) : Option (Int32 × HS)) else FX12_termOf_104 (FX12_termOf_5 f) x1 (nI (c + 1 + p.length)) (nI (s0.length + 1)) (nI c) (nI k) a b σ else FX12_termOf_104 (FX12_termOf_5 f) x1 (nI (c + 1 + p.length)) (nI (s0.length + 1)) (nI c) (nI k) a b σ) = FX12_termOf_104 (FX12_termOf_5 f) x1 (nI (c + 1 + p.length)) (nI (s0.length + 1)) (nI c) (nI k) a b σ := by
              by_cases h5 : nI k = 5
              · rw [if_pos h5, if_neg (fun hb => hz ⟨(ek 5 (by omega)).mp h5, hb⟩)]
              · rw [if_neg h5]
            rw [hgo]
            unfold FX12_termOf_104
            simp only [hl_, s1I, c1, e1]
            by_cases h2 : k = 2
            · rw [if_pos (show nI k = 2 from (ek 2 (by omega)).mpr h2), gd_t i1]
              exact key _ (by simp [op2, h2]) hz
            · rw [if_neg (show ¬ nI k = 2 from fun q => h2 ((ek 2 (by omega)).mp q))]
              by_cases h3 : k = 3
              · rw [if_pos (show nI k = 3 from (ek 3 (by omega)).mpr h3), gd_t i1]
                exact key _ (by simp [op2, h3]) hz
              · rw [if_neg (show ¬ nI k = 3 from fun q => h3 ((ek 3 (by omega)).mp q))]
                by_cases h4 : k = 4
                · rw [if_pos (show nI k = 4 from (ek 4 (by omega)).mpr h4), gd_t i1]
                  exact key _ (by simp [op2, h4]) hz
                · rw [if_neg (show ¬ nI k = 4 from fun q => h4 ((ek 4 (by omega)).mp q))]
                  have h5 : k = 5 := by omega
                  rw [gd_t (show nz b = true from decide_eq_true (fun hb => hz ⟨h5, hb⟩)), gd_t i1]
                  exact key _ (by simp [op2, h5]) hz
