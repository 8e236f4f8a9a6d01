/-! Symbolic execution: numbers as nI, tests of numbers, places of rows. -/
theorem li_0 : (0 : Int32) = nI 0 := rfl
theorem li_1 : (1 : Int32) = nI 1 := rfl
theorem li_2 : (2 : Int32) = nI 2 := rfl
theorem li_3 : (3 : Int32) = nI 3 := rfl
theorem li_4 : (4 : Int32) = nI 4 := rfl
theorem li_5 : (5 : Int32) = nI 5 := rfl
theorem li_6 : (6 : Int32) = nI 6 := rfl
theorem li_7 : (7 : Int32) = nI 7 := rfl
theorem li_8 : (8 : Int32) = nI 8 := rfl
theorem li_9 : (9 : Int32) = nI 9 := rfl
theorem li_10 : (10 : Int32) = nI 10 := rfl
theorem li_11 : (11 : Int32) = nI 11 := rfl
theorem li_12 : (12 : Int32) = nI 12 := rfl
theorem li_13 : (13 : Int32) = nI 13 := rfl
theorem li_15 : (15 : Int32) = nI 15 := rfl
theorem li_16 : (16 : Int32) = nI 16 := rfl
theorem li_18 : (18 : Int32) = nI 18 := rfl
theorem li_19 : (19 : Int32) = nI 19 := rfl
theorem li_20 : (20 : Int32) = nI 20 := rfl
theorem li_21 : (21 : Int32) = nI 21 := rfl
theorem li_22 : (22 : Int32) = nI 22 := rfl
theorem li_23 : (23 : Int32) = nI 23 := rfl
theorem li_24 : (24 : Int32) = nI 24 := rfl
theorem li_25 : (25 : Int32) = nI 25 := rfl
theorem li_26 : (26 : Int32) = nI 26 := rfl
theorem li_28 : (28 : Int32) = nI 28 := rfl
theorem li_29 : (29 : Int32) = nI 29 := rfl
theorem li_30 : (30 : Int32) = nI 30 := rfl
theorem li_31 : (31 : Int32) = nI 31 := rfl
theorem li_32 : (32 : Int32) = nI 32 := rfl
theorem li_33 : (33 : Int32) = nI 33 := rfl
theorem li_39 : (39 : Int32) = nI 39 := rfl
theorem li_40 : (40 : Int32) = nI 40 := rfl
theorem li_41 : (41 : Int32) = nI 41 := rfl
theorem li_42 : (42 : Int32) = nI 42 := rfl
theorem li_43 : (43 : Int32) = nI 43 := rfl
theorem li_44 : (44 : Int32) = nI 44 := rfl
theorem li_45 : (45 : Int32) = nI 45 := rfl
theorem li_47 : (47 : Int32) = nI 47 := rfl
theorem li_48 : (48 : Int32) = nI 48 := rfl
theorem li_57 : (57 : Int32) = nI 57 := rfl
theorem li_59 : (59 : Int32) = nI 59 := rfl
theorem li_60 : (60 : Int32) = nI 60 := rfl
theorem li_61 : (61 : Int32) = nI 61 := rfl
theorem li_80 : (80 : Int32) = nI 80 := rfl
theorem li_88 : (88 : Int32) = nI 88 := rfl
theorem li_97 : (97 : Int32) = nI 97 := rfl
theorem li_99 : (99 : Int32) = nI 99 := rfl
theorem li_122 : (122 : Int32) = nI 122 := rfl
theorem li_130 : (130 : Int32) = nI 130 := rfl
theorem li_167 : (167 : Int32) = nI 167 := rfl
theorem li_255 : (255 : Int32) = nI 255 := rfl
theorem li_256 : (256 : Int32) = nI 256 := rfl
theorem li_400 : (400 : Int32) = nI 400 := rfl
theorem li_408 : (408 : Int32) = nI 408 := rfl
theorem li_420 : (420 : Int32) = nI 420 := rfl
theorem li_1287 : (1287 : Int32) = nI 1287 := rfl
theorem li_2000 : (2000 : Int32) = nI 2000 := rfl
theorem li_9999 : (9999 : Int32) = nI 9999 := rfl
theorem gdx {β : Type} {k n : Nat} {x : Option β} (h : k < n) (hn : n < 2 ^ 31) : gd (ix (nI k) n) x = x := gd_t (ix_nI h hn)
theorem ple_t {a b : Nat} (h : a ≤ b) (hb : b < 2 ^ 31) : (nI a ≤ nI b) = True := eq_true (nI_le h hb)
theorem ple_f {a b : Nat} (h : b < a) (ha : a < 2 ^ 31) : (nI a ≤ nI b) = False := eq_false (nI_ge h ha)
theorem plt_t {a b : Nat} (h : a < b) (hb : b < 2 ^ 31) : (nI a < nI b) = True := eq_true (nI_lt h hb)
theorem plt_f {a b : Nat} (h : b ≤ a) (ha : a < 2 ^ 31) : (nI a < nI b) = False := eq_false (nI_nlt h ha)
theorem peq_t {a b : Nat} (h : a = b) : (nI a = nI b) = True := eq_true (by rw [h])
theorem peq_f {a b : Nat} (h : a ≠ b) (ha : a < 2 ^ 31) (hb : b < 2 ^ 31) : (nI a = nI b) = False := eq_false (fun e => h ((nI_eq ha hb).mp e))
theorem neg_eq (x : Int32) : -x = nI 0 - x := by
  show -x = 0 - x
  rw [Int32.zero_sub]
theorem m1c {a : Nat} (h : 1 ≤ a) : nI a + -nI 1 = nI (a - 1) := by
  obtain ⟨b, rfl⟩ : ∃ b, a = b + 1 := ⟨a - 1, by omega⟩
  exact pk_m1 b
theorem m2c {a : Nat} (h : 2 ≤ a) : nI a + -nI 2 = nI (a - 2) := by
  rw [← Int32.sub_eq_add_neg]
  exact pk_sub h
theorem neg_I {a : Nat} (h : a < 2 ^ 30) : (-nI a).toInt = -(a : Int) := by
  rw [neg_eq, pk_sub_toInt (by omega) h]
  omega
theorem nI_I {a : Nat} (h : a < 2 ^ 30) : (nI a).toInt = (a : Int) := nI_toInt (by omega)
theorem nlt_p {a b : Nat} (h0 : 0 < a) (ha : a < 2 ^ 30) (hb : b < 2 ^ 30) : (-nI a < nI b) = True := eq_true (by rw [Int32.lt_iff_toInt_lt, neg_I ha, nI_I hb]; omega)
theorem nle_p {a b : Nat} (h0 : 0 < a) (ha : a < 2 ^ 30) (hb : b < 2 ^ 30) : (-nI a ≤ nI b) = True := eq_true (by rw [Int32.le_iff_toInt_le, neg_I ha, nI_I hb]; omega)
theorem nge_p {a b : Nat} (h0 : 0 < a) (ha : a < 2 ^ 30) (hb : b < 2 ^ 30) : (nI b ≤ -nI a) = False := eq_false (by rw [Int32.le_iff_toInt_le, neg_I ha, nI_I hb]; omega)
theorem ngt_p {a b : Nat} (h0 : 0 < a) (ha : a < 2 ^ 30) (hb : b < 2 ^ 30) : (nI b < -nI a) = False := eq_false (by rw [Int32.lt_iff_toInt_lt, neg_I ha, nI_I hb]; omega)
theorem neq_p {a b : Nat} (h0 : 0 < a) (ha : a < 2 ^ 30) (hb : b < 2 ^ 30) : (-nI a = nI b) = False := eq_false (fun e => by have := congrArg Int32.toInt e; rw [neg_I ha, nI_I hb] at this; omega)
theorem neq_q {a b : Nat} (h0 : 0 < a) (ha : a < 2 ^ 30) (hb : b < 2 ^ 30) : (nI b = -nI a) = False := eq_false (fun e => by have := congrArg Int32.toInt e; rw [neg_I ha, nI_I hb] at this; omega)
theorem pI_o {σ : HS} {h k a : Nat} {v : Int32} (e : a ≠ h) : (pI σ h k v).1 a = σ.1 a := if_neg e
theorem pI_s {σ : HS} {h k : Nat} {v : Int32} : (pI σ h k v).1 h = upd (σ.1 h) k v := if_pos rfl
theorem rI_ne {σ : HS} {h a : Nat} {f : Nat → Int32} (e : a ≠ h) : (rI σ h f).1 a = σ.1 a := if_neg e
theorem rI_eq {σ : HS} {h : Nat} {f : Nat → Int32} : (rI σ h f).1 h = f := if_pos rfl
/-- what a piece of the class's work leaves: all but some rows -/
def kX (S : List Nat) (σ σ' : HS) : Prop := (∀ h, h ∉ S → σ'.1 h = σ.1 h) ∧ σ'.2 = σ.2
theorem kX.rf {S : List Nat} {σ : HS} : kX S σ σ := ⟨fun _ _ => rfl, rfl⟩
theorem kX.tr {S : List Nat} {σ σ1 σ2 : HS} (h1 : kX S σ σ1) (h2 : kX S σ1 σ2) : kX S σ σ2 := ⟨fun h a => (h2.1 h a).trans (h1.1 h a), h2.2.trans h1.2⟩
theorem kX.up {S S' : List Nat} {σ σ' : HS} (h : kX S σ σ') (hS : ∀ x ∈ S, x ∈ S') : kX S' σ σ' := ⟨fun x b => h.1 x (fun c => b (hS x c)), h.2⟩
theorem kX.p {S : List Nat} {σ : HS} {h k : Nat} {v : Int32} (hS : h ∈ S) : kX S σ (pI σ h k v) := ⟨fun x b => by rw [pI_1, if_neg (fun e : x = h => b (by rw [e]; exact hS))], rfl⟩
theorem kX.r {S : List Nat} {σ : HS} {h : Nat} {f : Nat → Int32} (hS : h ∈ S) : kX S σ (rI σ h f) := ⟨fun x b => by rw [rI_1, if_neg (fun e : x = h => b (by rw [e]; exact hS))], rfl⟩
theorem kX.pp {S : List Nat} {σ σ1 : HS} {h k : Nat} {v : Int32} (h1 : kX S σ σ1) (hS : h ∈ S) : kX S σ (pI σ1 h k v) := h1.tr (kX.p hS)
theorem kX.rr {S : List Nat} {σ σ1 : HS} {h : Nat} {f : Nat → Int32} (h1 : kX S σ σ1) (hS : h ∈ S) : kX S σ (rI σ1 h f) := h1.tr (kX.r hS)
theorem upd_lt {f : Nat → Int32} {k : Nat} {x : Int32} {P : Nat → Int32} (h : ∀ j, j < k → f j = P j) (hx : x = P k) : ∀ j, j < k + 1 → upd f k x j = P j := by
  intro j hj
  rw [upd_a]
  by_cases e : j = k
  · rw [if_pos e, e]; exact hx
  · rw [if_neg e]; exact h j (by omega)
