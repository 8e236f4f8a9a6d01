/-! The pure part: the functions of both sides, as numbers. -/
theorem bdI_s {β : Type} {r : Int32} {σ : HS} {f : Int32 → HS → Option β} : bdI (some (r, σ)) f = f r σ := rfl
theorem bdL_s {β : Type} {r : Int64} {σ : HS} {f : Int64 → HS → Option β} : bdL (some (r, σ)) f = f r σ := rfl
theorem bdV_s {β : Type} {σ : HS} {f : HS → Option β} : bdV (some σ) f = f σ := rfl
theorem gd_t {β : Type} {b : Bool} {x : Option β} (h : b = true) : gd b x = x := by subst h; rfl
theorem ix_nI {k n : Nat} (h : k < n) (hn : n < 2 ^ 31) : ix (nI k) n = true := by
  unfold ix
  rw [nI_toInt (by omega)]
  exact decide_eq_true (by omega)
theorem isB_0 : isB 0 = true := rfl
theorem isB_1 : isB 1 = true := rfl
theorem cl_nI {k : Nat} (h : k < 2 ^ 31) : (nI k).toNatClampNeg = k := nI_clamp h
theorem rI_1 {σ : HS} {h : Nat} {f : Nat → Int32} (a : Nat) : (rI σ h f).1 a = if a = h then f else σ.1 a := rfl
theorem rI_2 {σ : HS} {h : Nat} {f : Nat → Int32} : (rI σ h f).2 = σ.2 := rfl
theorem rL_1 {σ : HS} {h : Nat} {f : Nat → Int64} : (rL σ h f).1 = σ.1 := rfl
theorem rL_2 {σ : HS} {h : Nat} {f : Nat → Int64} (a : Nat) : (rL σ h f).2 a = if a = h then f else σ.2 a := rfl
theorem pI_1 {σ : HS} {h k : Nat} {v : Int32} (a : Nat) : (pI σ h k v).1 a = if a = h then upd (σ.1 h) k v else σ.1 a := rfl
theorem pI_2 {σ : HS} {h k : Nat} {v : Int32} : (pI σ h k v).2 = σ.2 := rfl
theorem pL_1 {σ : HS} {h k : Nat} {v : Int64} : (pL σ h k v).1 = σ.1 := rfl
theorem pL_2 {σ : HS} {h k : Nat} {v : Int64} (a : Nat) : (pL σ h k v).2 a = if a = h then vp_updL (σ.2 h) k v else σ.2 a := rfl
theorem upd_a (f : Nat → Int32) (k : Nat) (v : Int32) (j : Nat) : upd f k v j = if j = k then v else f j := rfl
theorem updL_a (f : Nat → Int64) (k : Nat) (v : Int64) (j : Nat) : vp_updL f k v j = if j = k then v else f j := rfl
theorem cpy_a {α : Type} (f g : Nat → α) (sp dp n k : Nat) : va_cpy f g sp dp n k = if dp ≤ k ∧ k < dp + n then f (sp + (k - dp)) else g k := rfl
theorem fu_s {k : Nat} (h : k < 5000) : ∃ f, fu = f + 1 ∧ k < f + 1 := ⟨4999, rfl, by omega⟩
/-- a number against a range that begins at 0 -/
theorem rng (x : Int32) (n : Nat) (hn : n < 2 ^ 30) : (∃ k, k < n ∧ x = nI k) ∨ (x < 0 ∨ nI n - 1 < x) := by
  rcases pk_ix x (n := n) (by omega) with h | h | h
  · exact Or.inr (Or.inl h)
  · refine Or.inr (Or.inr ?_)
    have h1 : (nI n - nI 1).toInt = (n : Int) - 1 := pk_sub_toInt (by omega) (by omega)
    have h2 : (nI n).toInt = (n : Int) := nI_toInt (by omega)
    have h3 : (nI n).toInt ≤ x.toInt := Int32.le_iff_toInt_le.mp h
    show nI n - nI 1 < x
    rw [Int32.lt_iff_toInt_lt, h1]
    omega
  · exact Or.inl h
theorem rng_in {n k : Nat} (hn : n < 2 ^ 30) (hk : k < n) : ¬ nI k < 0 ∧ ¬ nI n - 1 < nI k := by
  have h1 : (nI n - nI 1).toInt = (n : Int) - 1 := pk_sub_toInt (by omega) (by omega)
  have h2 : (nI k).toInt = (k : Int) := nI_toInt (by omega)
  refine ⟨nI_pos (by omega), ?_⟩
  show ¬ nI n - nI 1 < nI k
  rw [Int32.lt_iff_toInt_lt, h1, h2]
  omega
/-- a range with its last number told -/
theorem rngT (x : Int32) (n : Nat) (hn : n < 2 ^ 30) : (∃ k, k ≤ n ∧ x = nI k) ∨ (x < 0 ∨ nI n < x) := by
  rcases pk_ix x (n := n + 1) (by omega) with h | h | h
  · exact Or.inr (Or.inl h)
  · refine Or.inr (Or.inr ?_)
    have h2 : (nI n).toInt = (n : Int) := nI_toInt (by omega)
    have h4 : (nI (n + 1)).toInt = ((n + 1 : Nat) : Int) := nI_toInt (by omega)
    have h3 : (nI (n + 1)).toInt ≤ x.toInt := Int32.le_iff_toInt_le.mp h
    rw [Int32.lt_iff_toInt_lt, h2]
    omega
  · obtain ⟨k, hk, e⟩ := h
    exact Or.inl ⟨k, by omega, e⟩
theorem rngT_in {n k : Nat} (hn : n < 2 ^ 30) (hk : k ≤ n) : ¬ nI k < 0 ∧ ¬ nI n < nI k := ⟨nI_pos (by omega), nI_nlt hk (by omega)⟩
/-- the class's 'within', the reference's 'in' -/
theorem X_within (x a b : Int32) (σ : HS) : FX11_within x a b σ = some (if x < a ∨ b < x then 0 else 1, σ) := by
  unfold FX11_within
  by_cases h1 : x < a
  · rw [if_pos h1, if_pos (Or.inl h1)]
  · rw [if_neg h1]
    by_cases h2 : b < x
    · rw [if_pos h2, if_pos (Or.inr h2)]
    · rw [if_neg h2, if_neg (fun h => h.elim h1 h2)]
theorem M_in (x a b : Int32) (σ : HS) : FX12_in x a b σ = some (if x < a ∨ b < x then 0 else 1, σ) := by
  unfold FX12_in
  by_cases h1 : x < a
  · rw [if_pos h1, if_pos (Or.inl h1)]
  · rw [if_neg h1]
    by_cases h2 : b < x
    · rw [if_pos h2, if_pos (Or.inr h2)]
    · rw [if_neg h2, if_neg (fun h => h.elim h1 h2)]
theorem X_isPart (x : Int32) (σ : HS) : FX11_isPart x σ = some (if x < 0 ∨ 7 < x then 0 else 1, σ) := by
  unfold FX11_isPart
  rw [X_within, bdI_s]
  by_cases h : x < 0 ∨ 7 < x <;> simp only [h, if_true, if_false] <;> rfl
theorem M_isPart (x : Int32) (σ : HS) : FX12_isPart x σ = some (if x < 0 ∨ 7 < x then 0 else 1, σ) := by
  unfold FX12_isPart
  rw [M_in, bdI_s]
  by_cases h : x < 0 ∨ 7 < x <;> simp only [h, if_true, if_false] <;> rfl
