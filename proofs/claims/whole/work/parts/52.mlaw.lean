/-- what a piece of the reference's work leaves: all but some rows and some fields of the object -/
def kM (S F : List Nat) (σ σ' : HS) : Prop := (∀ h, h ≠ 0 → h ∉ S → σ'.1 h = σ.1 h) ∧ (∀ k, k ∉ F → σ'.1 0 k = σ.1 0 k) ∧ σ'.2 = σ.2
theorem kM.rf {S F : List Nat} {σ : HS} : kM S F σ σ := ⟨fun _ _ _ => rfl, fun _ _ => rfl, rfl⟩
theorem kM.tr {S F : List Nat} {σ σ1 σ2 : HS} (h1 : kM S F σ σ1) (h2 : kM S F σ1 σ2) : kM S F σ σ2 := ⟨fun h a b => (h2.1 h a b).trans (h1.1 h a b), fun k a => (h2.2.1 k a).trans (h1.2.1 k a), h2.2.2.trans h1.2.2⟩
theorem kM.up {S F S' F' : List Nat} {σ σ' : HS} (h : kM S F σ σ') (hS : ∀ x ∈ S, x ∈ S') (hF : ∀ x ∈ F, x ∈ F') : kM S' F' σ σ' := ⟨fun x a b => h.1 x a (fun c => b (hS x c)), fun k a => h.2.1 k (fun c => a (hF k c)), h.2.2⟩
theorem kM.pR {S F : List Nat} {σ : HS} {h k : Nat} {v : Int32} (hh : h ≠ 0) (hS : h ∈ S) : kM S F σ (pI σ h k v) := ⟨fun x _ b => by rw [pI_1, if_neg (fun e : x = h => b (by rw [e]; exact hS))], fun k _ => by rw [pI_1, if_neg (fun e => hh e.symm)], rfl⟩
theorem kM.pF {S F : List Nat} {σ : HS} {k : Nat} {v : Int32} (hF : k ∈ F) : kM S F σ (pI σ 0 k v) := ⟨fun x a _ => by rw [pI_1, if_neg a], fun j b => by rw [pI_1, if_pos rfl, upd_a, if_neg (fun e : j = k => b (by rw [e]; exact hF))], rfl⟩
theorem M_termOf {v : Nat → Int32} {p : Pg} {c : Nat} {σ : HS} (hv : v = σ.1 29) (hL : LM (σ.1 26) (σ.1 27) p c) (hd : dpP p 0 1) (hc : c + p.length ≤ 840) :
    ∃ σ' r, FX12_termOf (nI c) (nI (c + p.length)) σ = some (r, σ') ∧ kM [30] [46] σ σ' ∧ (match tmV v p with
      | some w => σ'.1 0 46 = σ.1 0 46 ∧ r = w
      | none => σ'.1 0 46 = 1) := by
  obtain ⟨σ', r, h1, h2, h3, h4, h5⟩ := M_term v (nI c) p [] c 1 fu σ hv hL hd (fun j hj => by simp at hj) (by simp) hc (by show p.length < 5000; omega)
  refine ⟨σ', r, h1, ⟨fun h a b => h2 h (by simpa using b) a, fun k a => h3 k (by simpa using a), h4⟩, ?_⟩
  unfold tmV
  cases hE : evP v p [] with
  | none => rw [hE] at h5; exact h5
  | some s' =>
    rw [hE] at h5
    have hl := evP_len v p [] s' 1 hd hE
    match s', hl, h5 with
    | [w], _, h5 =>
      refine ⟨h5.1, ?_⟩
      have := h5.2.2 0 (by simp)
      simp at this
      rw [h5.2.1, this]
      rfl
/-- how the reference keeps a law: branches b .. e, codes from i on -/
def LawM (σ : HS) : List (Pg × Pg × Pg) → Pg → Nat → Nat → Nat → Prop
  | [], f, b, e, i => b + 1 = e ∧ e ≤ 260 ∧ σ.1 21 b = 0 ∧ σ.1 24 b = nI i ∧ σ.1 25 b = nI (i + f.length) ∧ LM (σ.1 26) (σ.1 27) f i ∧ dpP f 0 1 ∧ i + f.length ≤ 840
  | (a, c, t) :: r, f, b, e, i => (b < e ∧ e ≤ 260 ∧ σ.1 21 b = 1 ∧ σ.1 22 b = nI i ∧ σ.1 23 b = nI (i + a.length) ∧ σ.1 24 b = nI (i + a.length + c.length) ∧ σ.1 25 b = nI (i + a.length + c.length + t.length)) ∧ (LM (σ.1 26) (σ.1 27) a i ∧ LM (σ.1 26) (σ.1 27) c (i + a.length) ∧ LM (σ.1 26) (σ.1 27) t (i + a.length + c.length)) ∧ (dpP a 0 1 ∧ dpP c 0 1 ∧ dpP t 0 1) ∧ i + a.length + c.length + t.length ≤ 840 ∧ LawM σ r f (b + 1) e (i + a.length + c.length + t.length)
theorem LawM_kM {S F : List Nat} {σ σ' : HS} (h : kM S F σ σ') (h1 : 21 ∉ S) (h2 : 22 ∉ S) (h3 : 23 ∉ S) (h4 : 24 ∉ S) (h5 : 25 ∉ S) (h6 : 26 ∉ S) (h7 : 27 ∉ S) : ∀ (r : List (Pg × Pg × Pg)) (f : Pg) (b e i : Nat), LawM σ r f b e i → LawM σ' r f b e i := by
  intro r
  have e1 := h.1 21 (by decide) h1
  have e2 := h.1 22 (by decide) h2
  have e3 := h.1 23 (by decide) h3
  have e4 := h.1 24 (by decide) h4
  have e5 := h.1 25 (by decide) h5
  have e6 := h.1 26 (by decide) h6
  have e7 := h.1 27 (by decide) h7
  induction r with
  | nil => intro f b e i hl; simpa only [LawM, e1, e4, e5, e6, e7] using hl
  | cons q r ih =>
    obtain ⟨a, c, t⟩ := q
    intro f b e i hl
    simp only [LawM, e1, e2, e3, e4, e5, e6, e7] at hl ⊢
    exact ⟨hl.1, hl.2.1, hl.2.2.1, hl.2.2.2.1, ih _ _ _ _ hl.2.2.2.2⟩
/-- the last piece: the branch's own E -/
theorem M_law119 {v : Nat → Int32} {p : Pg} {b c : Nat} {x1 x2 x3 : Int32} {σ : HS} (hv : v = σ.1 29) (hb : b < 260) (h4 : σ.1 24 b = nI c) (h5 : σ.1 25 b = nI (c + p.length)) (hL : LM (σ.1 26) (σ.1 27) p c) (hd : dpP p 0 1) (hc : c + p.length ≤ 840) (h46 : σ.1 0 46 = 0) :
    ∃ σ', FX12_lawTells_119 x1 x2 x3 (nI b) σ = some ((tmV v p).getD 0, σ') ∧ kM [30] [46] σ σ' := by
  obtain ⟨σ', r, h1, h2, h3⟩ := M_termOf hv hL hd hc
  unfold FX12_lawTells_119
  rw [gd_t (ix_nI hb (by omega)), gd_t (ix_nI hb (by omega)), cl_nI (by omega), h4, h5, h1, bdI_s]
  cases hE : tmV v p with
  | none =>
    rw [hE] at h3
    rw [if_neg (by rw [h3]; decide)]
    exact ⟨σ', rfl, h2⟩
  | some w =>
    rw [hE] at h3
    rw [if_pos (by rw [h3.1]; exact h46), h3.2]
    exact ⟨σ', rfl, h2⟩
theorem M_law39 {v : Nat → Int32} {x1 x2 : Int32} {at_ : Nat} (hat : at_ < 8) : ∀ (r : List (Pg × Pg × Pg)) (g : Pg) (b e i f : Nat) (σ : HS), v = σ.1 29 → LawM σ r g b e i → σ.1 20 at_ = nI e → σ.1 0 46 = 0 → r.length < f →
    ∃ σ', FX12_lawTells_39 f x1 x2 (nI at_) (nI b) σ = some (lawV v r g, σ') ∧ kM [30] [46] σ σ' := by
  intro r
  induction r with
  | nil =>
    intro g b e i f σ hv hl he h46 hf
    obtain ⟨f, rfl⟩ : ∃ z, f = z + 1 := ⟨f - 1, by simp at hf; omega⟩
    obtain ⟨q1, q2, q3, q4, q5, q6, q7, q8⟩ := hl
    rw [FX12_lawTells_39, gd_t (ix_nI hat (by omega)), cl_nI (by omega), he, if_neg (nI_ge (by omega) (by omega)), gd_t (ix_nI (show b < 260 by omega) (by omega)), cl_nI (show b < 2 ^ 31 by omega), if_pos q3]
    exact M_law119 hv (by omega) q4 q5 q6 q7 q8 h46
  | cons q r ih =>
    obtain ⟨a, c, t⟩ := q
    intro g b e i f σ hv hl he h46 hf
    obtain ⟨f, rfl⟩ : ∃ z, f = z + 1 := ⟨f - 1, by simp at hf; omega⟩
    have hl0 := hl
    obtain ⟨⟨q1, q2, q3, q4, q5, q6, q7⟩, ⟨l1, l2, l3⟩, ⟨d1, d2, d3⟩, hbd, hl2⟩ := hl
    have ib : ix (nI b) 260 = true := ix_nI (show b < 260 by omega) (by omega)
    have cb : (nI b).toNatClampNeg = b := cl_nI (by omega)
    rw [FX12_lawTells_39, gd_t (ix_nI hat (by omega)), cl_nI (show at_ < 2 ^ 31 by omega), he, if_neg (nI_ge (by omega) (by omega)), gd_t ib, cb, if_neg (by rw [q3]; decide), gd_t ib, gd_t ib, q4, q5]
    obtain ⟨σ1, r1, h1, k1, m1⟩ := M_termOf hv l1 d1 (by omega)
    rw [h1, bdI_s, gd_t ib, gd_t ib, k1.1 23 (by decide) (by decide), k1.1 24 (by decide) (by decide), q5, q6]
    have hv1 : v = σ1.1 29 := by rw [k1.1 29 (by decide) (by decide)]; exact hv
    obtain ⟨σ2, r2, h2, k2, m2⟩ := M_termOf (σ := σ1) hv1 (by rw [k1.1 26 (by decide) (by decide), k1.1 27 (by decide) (by decide)]; exact l2) d2 (by omega)
    rw [h2, bdI_s]
    have k12 := k1.tr k2
    have hv2 : v = σ2.1 29 := by rw [k12.1 29 (by decide) (by decide)]; exact hv
    cases hE1 : tmV v a with
    | none =>
      rw [hE1] at m1
      have h6 : ¬ σ2.1 0 46 = 0 := by
        cases hE2 : tmV v c with
        | none => rw [hE2] at m2; rw [m2]; decide
        | some y => rw [hE2] at m2; rw [m2.1, m1]; decide
      rw [if_neg h6]
      refine ⟨σ2, ?_, k12⟩
      simp only [lawV, hE1]
    | some x =>
      rw [hE1] at m1
      cases hE2 : tmV v c with
      | none =>
        rw [hE2] at m2
        rw [if_neg (by rw [m2]; decide)]
        refine ⟨σ2, ?_, k12⟩
        simp only [lawV, hE1, hE2]
      | some y =>
        rw [hE2] at m2
        have h46' : σ2.1 0 46 = 0 := by rw [m2.1, m1.1]; exact h46
        rw [if_pos h46', m1.2, m2.2]
        by_cases hlt : x < y
        · rw [if_pos hlt]
          obtain ⟨σ3, h3, k3⟩ := M_law119 (σ := σ2) (p := t) (b := b) (c := i + a.length + c.length) (x1 := x1) (x2 := x2) (x3 := nI at_) hv2 (by omega) (by rw [k12.1 24 (by decide) (by decide)]; exact q6) (by rw [k12.1 25 (by decide) (by decide)]; exact q7) (by rw [k12.1 26 (by decide) (by decide), k12.1 27 (by decide) (by decide)]; exact l3) d3 hbd h46'
          refine ⟨σ3, ?_, k12.tr k3⟩
          rw [h3]
          simp only [lawV, hE1, hE2, hlt, if_true]
        · rw [if_neg hlt, nI_1]
          obtain ⟨σ3, h3, k3⟩ := ih g (b + 1) e _ f σ2 hv2 (LawM_kM k12 (by decide) (by decide) (by decide) (by decide) (by decide) (by decide) (by decide) _ _ _ _ _ hl2) (by rw [k12.1 20 (by decide) (by decide)]; exact he) h46' (by simp at hf; omega)
          refine ⟨σ3, ?_, k12.tr k3⟩
          rw [h3]
          simp only [lawV, hE1, hE2, hlt, if_false]
def lmE : List (Pg × Pg × Pg) → Pg → Nat → Nat
  | [], f, i => i + f.length
  | (a, b, t) :: r, f, i => lmE r f (i + a.length + b.length + t.length)
/-- a law of the reference's: told, or the plain one -/
def lawOf (σ : HS) (side k : Nat) (L : Lawt) (plain : Pg) : Prop := (σ.1 19 (4 * side + k) = σ.1 20 (4 * side + k) ∧ L = ([], plain)) ∨ ∃ b e i, σ.1 19 (4 * side + k) = nI b ∧ σ.1 20 (4 * side + k) = nI e ∧ b < e ∧ LawM σ L.1 L.2 b e i ∧ L.1.length ≤ 4 ∧ 130 * side ≤ b ∧ e ≤ 130 * side + 130 ∧ 420 * side ≤ i ∧ lmE L.1 L.2 i ≤ 420 * side + 420
theorem M_law {v : Nat → Int32} {side k : Nat} {L : Lawt} {plain : Pg} {x2 : Int32} {σ : HS} (hs : side < 2) (hk : k < 4) (hside : σ.1 0 18 = nI side) (hv : v = σ.1 29) (hL : lawOf σ side k L plain) (hpl : tmV v plain = some x2) :
    ∃ σ', FX12_lawTells (nI k) x2 σ = some (lawV v L.1 L.2, σ') ∧ kM [30] [46] σ σ' := by
  unfold FX12_lawTells
  have e0 : (4 : Int32) * nI side + nI k = nI (4 * side + k) := by rw [show (4 : Int32) = nI 4 from rfl, pk_mul, nI_add]
  simp only [hl_, hside, e0]
  have i8 : ix (nI (4 * side + k)) 8 = true := ix_nI (by omega) (by omega)
  rw [gd_t i8, gd_t i8, cl_nI (by omega)]
  rcases hL with ⟨h1, rfl⟩ | ⟨b, e, i, h1, h2, hbe, hL, h4⟩
  · rw [if_pos h1]
    refine ⟨σ, ?_, kM.rf⟩
    simp only [lawV, hpl]
    rfl
  · have he : e ≤ 260 := by
      cases hr : L.1 with
      | nil => rw [hr] at hL; exact hL.2.1
      | cons q r => obtain ⟨a, c, t⟩ := q; rw [hr] at hL; exact hL.1.2.1
    have hne : ¬ σ.1 19 (4 * side + k) = σ.1 20 (4 * side + k) := by
      rw [h1, h2, nI_eq (by omega) (by omega)]
      omega
    rw [if_neg hne, gd_t i8]
    have kk : kM [30] [46] σ (pI σ 0 46 0) := kM.pF (by decide)
    rw [kk.1 19 (by decide) (by decide), h1]
    obtain ⟨σ', h5, h6⟩ := M_law39 (v := v) (x1 := nI k) (x2 := x2) (at_ := 4 * side + k) (by omega) L.1 L.2 b e i fu (pI σ 0 46 0) hv (LawM_kM kk (by decide) (by decide) (by decide) (by decide) (by decide) (by decide) (by decide) _ _ _ _ _ hL) h2 rfl (by show _ < 5000; omega)
    exact ⟨σ', h5, kk.tr h6⟩
