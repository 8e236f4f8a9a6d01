/-! Face: both, with. -/
theorem dv4 {k A : Nat} (h : 4 ^ (k + 1) ∣ A) : 4 ^ k ∣ A / 4 ∧ A = 4 * (A / 4) := by
  obtain ⟨a, rfl⟩ := h
  have e : 4 ^ (k + 1) * a = 4 * (4 ^ k * a) := by rw [Nat.pow_succ, Nat.mul_comm (4 ^ k) 4, Nat.mul_assoc]
  rw [e, Nat.mul_div_cancel_left _ (by omega)]
  exact ⟨⟨a, rfl⟩, rfl⟩
theorem fw_dvd {q : Nat → Nat} {nm : Nat} : ∀ m, m ≤ nm → ∀ p, 4 ^ (nm - m) ∣ fwN q nm m p := by
  intro m
  induction m with
  | zero =>
    intro _ p
    simp only [fwN, Nat.sub_zero]
    by_cases h : p = 0
    · rw [if_pos h]; exact Nat.dvd_refl _
    · rw [if_neg h]; exact Nat.dvd_zero _
  | succ m ih =>
    intro hm p
    have ih' : ∀ p, 4 ^ (nm - (m + 1)) ∣ fwN q nm m p / 4 := fun p => by
      have := ih (by omega) p
      rw [show nm - m = nm - (m + 1) + 1 by omega] at this
      exact (dv4 this).1
    simp only [fwN]
    refine Nat.dvd_add (Nat.dvd_add (Nat.dvd_mul_right_of_dvd (ih' p) _) ?_) ?_
    · by_cases h : p = 0
      · rw [if_pos h]; exact Nat.dvd_zero _
      · rw [if_neg h]; exact Nat.dvd_mul_right_of_dvd (ih' _) _
    · by_cases h : p = 7
      · rw [if_pos h]; exact Nat.dvd_mul_right_of_dvd (ih' _) _
      · rw [if_neg h]; exact Nat.dvd_zero _
theorem fw_sum {q : Nat → Nat} (hq : ∀ m, q m ≤ 4) (nm : Nat) : ∀ m, m ≤ nm → fwN q nm m 0 + fwN q nm m 1 + fwN q nm m 2 + fwN q nm m 3 + fwN q nm m 4 + fwN q nm m 5 + fwN q nm m 6 + fwN q nm m 7 = 4 ^ nm := by
  intro m
  induction m with
  | zero => intro _; simp [fwN]
  | succ m ih =>
    intro hm
    have ih := ih (by omega)
    have d : ∀ p, fwN q nm m p = 4 * (fwN q nm m p / 4) := fun p => by
      have := fw_dvd (q := q) m (show m ≤ nm by omega) p
      rw [show nm - m = nm - (m + 1) + 1 by omega] at this
      exact (dv4 this).2
    have h0 := four (fwN q nm m 0 / 4) (q m) (hq m)
    have h1 := four (fwN q nm m 1 / 4) (q m) (hq m)
    have h2 := four (fwN q nm m 2 / 4) (q m) (hq m)
    have h3 := four (fwN q nm m 3 / 4) (q m) (hq m)
    have h4 := four (fwN q nm m 4 / 4) (q m) (hq m)
    have h5 := four (fwN q nm m 5 / 4) (q m) (hq m)
    have h6 := four (fwN q nm m 6 / 4) (q m) (hq m)
    have h7 := four (fwN q nm m 7 / 4) (q m) (hq m)
    have d0 := d 0
    have d1 := d 1
    have d2 := d 2
    have d3 := d 3
    have d4 := d 4
    have d5 := d 5
    have d6 := d 6
    have d7 := d 7
    simp only [fwN]
    simp only [Nat.reduceEqDiff, if_false, if_true, Nat.add_one_sub_one, Nat.reduceSub]
    omega
/-- as often as he does not cough behind any of k minutes from a on -/
def nocN (q : Nat → Nat) (a : Nat) : Nat → Nat
  | 0 => 1
  | k + 1 => nocN q a k * (4 - q (a + k))
theorem M_both_94 {side nm nf a b : Nat} {Ls : Nat → Lawt} {G : Nat → Int32} {σ : HS} {k62 : Int32 → Int32 → Int32 → Int32 → Int32 → Int32 → HS → Option (Int32 × HS)} (x1 x2 x5 x6 : Int32) (t : Nat) (hnm : nm ≤ 10) (hb : b < nm) (Q : MQs σ side nm nf Ls G) : ∀ (n k fl : Nat), a + k + n = b → n < fl → FX12_both_94 k62 fl x1 x2 (nI a) (nI b) x5 x6 (nI (t * nocN (qF (Ls 0) G) a k)) (nI (a + k)) σ = k62 x1 x2 (nI a) (nI b) (x5 + nI (t * nocN (qF (Ls 0) G) a (b - a))) (x6 + 1) σ := by
  intro n
  induction n with
  | zero =>
    intro k fl hk hfl
    obtain ⟨fl, rfl⟩ : ∃ z, fl = z + 1 := ⟨fl - 1, by omega⟩
    rw [FX12_both_94, if_pos (nI_le (by omega) (by omega)), show b - a = k by omega]
  | succ n ih =>
    intro k fl hk hfl
    obtain ⟨fl, rfl⟩ : ∃ z, fl = z + 1 := ⟨fl - 1, by omega⟩
    have hq := (qF_ok (Ls 0) G (a + k)).1
    have := ih (k + 1) fl (by omega) (by omega)
    simp only [nocN] at this
    rw [FX12_both_94, if_neg (nI_ge (by omega) (by omega)), gd_t (ix_nI (by omega) (by omega))]
    simp only [hl_]
    rw [cl_nI (by omega), Q.2.2.1 (a + k) (by omega), sub4 hq, pk_mul, nI_1, Nat.mul_assoc]
    exact this
/-- the cases of parts 0 .. p that stay together, added -/
def togN (q : Nat → Nat) (nm a d : Nat) : Nat → Nat
  | 0 => fwN q nm a 7
  | p + 1 => togN q nm a d p + fwN q nm a p / 4 ^ d * nocN q a d
theorem M_both_62 {side nm nf a b : Nat} {Ls : Nat → Lawt} {G : Nat → Int32} {σ : HS} (x1 x2 : Int32) (hnm : nm ≤ 10) (hab : a ≤ b) (hb : b < nm) (Q : MQs σ side nm nf Ls G) : ∀ (n p fl : Nat), p + n = 7 → n < fl → FX12_both_62 fl x1 x2 (nI a) (nI b) (nI (togN (qF (Ls 0) G) nm a (b - a) p)) (nI p) σ = some (nI (togN (qF (Ls 0) G) nm a (b - a) 7), σ) := by
  have hq : ∀ m, qF (Ls 0) G m ≤ 4 := fun m => (qF_ok (Ls 0) G m).1
  have p4 := p4_lt (show b - a ≤ 10 by omega)
  have p40 : 0 < 4 ^ (b - a) := Nat.pow_pos (by decide)
  intro n
  induction n with
  | zero =>
    intro p fl hp hfl
    obtain ⟨fl, rfl⟩ : ∃ z, fl = z + 1 := ⟨fl - 1, by omega⟩
    obtain rfl : p = 7 := by omega
    rw [FX12_both_62, if_pos (show (7 : Int32) ≤ nI 7 by decide)]
  | succ n ih =>
    intro p fl hp hfl
    obtain ⟨fl, rfl⟩ : ∃ z, fl = z + 1 := ⟨fl - 1, by omega⟩
    have h := Q.2.2.2 (by omega) a p (by omega) (by omega)
    rw [if_pos (by omega)] at h
    have hle := fwN_le hq nm a p (by omega)
    have p4' := p4_lt hnm
    have hnz : nz (nI (4 ^ (b - a))) = true := decide_eq_true (fun h => by
      have := (nI_eq (b := 0) (by omega) (by omega)).mp h
      omega)
    have e8 : (8 : Int32) * nI a + nI p = nI (8 * a + p) := by rw [show (8 : Int32) = nI 8 from rfl, pk_mul, nI_add]
    rw [FX12_both_62, if_neg (show ¬ (7 : Int32) ≤ nI p from nI_ge (b := 7) (by omega) (by omega)), e8, gd_t (ix_nI (by omega) (by omega)), pk_sub hab, M_power _ (by omega), bdI_s, gd_t hnz]
    simp only [hl_]
    rw [cl_nI (by omega), h, pk_div (by omega) p40 (by omega)]
    have e := M_both_94 (a := a) (k62 := FX12_both_62 fl) x1 x2 (nI (togN (qF (Ls 0) G) nm a (b - a) p)) (nI p) (fwN (qF (Ls 0) G) nm a p / 4 ^ (b - a)) hnm hb Q (b - a) 0 fu (by omega) (by show b - a < 5000; omega)
    rw [show nocN (qF (Ls 0) G) a 0 = 1 from rfl, Nat.mul_one, Nat.add_zero] at e
    rw [e, nI_add, nI_1]
    exact ih (p + 1) fl (by omega) (by omega)
theorem tog_all {q : Nat → Nat} (hq : ∀ m, q m ≤ 4) {nm a d : Nat} (h : a + d ≤ nm) : togN q nm a d 7 = fwN q nm a 7 + (4 ^ nm - fwN q nm a 7) / 4 ^ d * nocN q a d := by
  have hs := fw_sum hq nm a (by omega)
  have p40 : 0 < 4 ^ d := Nat.pow_pos (by decide)
  have dd : ∀ p, ∃ t, fwN q nm a p = 4 ^ d * t := fun p => by
    obtain ⟨t, ht⟩ := fw_dvd (q := q) a (show a ≤ nm by omega) p
    exact ⟨4 ^ (nm - a - d) * t, by rw [ht, ← Nat.mul_assoc, ← Nat.pow_add, show d + (nm - a - d) = nm - a by omega]⟩
  obtain ⟨t0, e0⟩ := dd 0
  obtain ⟨t1, e1⟩ := dd 1
  obtain ⟨t2, e2⟩ := dd 2
  obtain ⟨t3, e3⟩ := dd 3
  obtain ⟨t4, e4⟩ := dd 4
  obtain ⟨t5, e5⟩ := dd 5
  obtain ⟨t6, e6⟩ := dd 6
  have er : 4 ^ nm - fwN q nm a 7 = 4 ^ d * (t0 + t1 + t2 + t3 + t4 + t5 + t6) := by
    simp only [Nat.mul_add]
    omega
  simp only [togN]
  rw [er, e0, e1, e2, e3, e4, e5, e6]
  simp only [Nat.mul_div_cancel_left _ p40, Nat.add_mul, Nat.add_assoc]
theorem X_tog_19 {σ : HS} {q : Nat → Nat} {nm a b : Nat} (x1 x3 : Int32) (hq : ∀ m, q m ≤ 4) (hnm : nm ≤ 10) (hb : b < nm) (hW : WX σ q nm) {R : Nat} (hR : 4 ^ (b - a) * R ≤ 4 ^ nm) : ∀ (n k fl : Nat), a + k + n = b → n < fl → FX0_casesTogether_19 fl x1 (nI b) x3 (nI (4 ^ n * R * nocN q a k)) (nI (a + k)) σ = some (x3 + nI (R * nocN q a (b - a)), σ) := by
  have p4' := p4_lt hnm
  have nb : ∀ k, nocN q a k ≤ 4 ^ k := fun k => by
    induction k with
    | zero => exact Nat.le_refl _
    | succ k ih =>
      simp only [nocN]
      rw [Nat.pow_succ]
      exact Nat.mul_le_mul ih (by omega)
  intro n
  induction n with
  | zero =>
    intro k fl hk hfl
    obtain ⟨fl, rfl⟩ : ∃ z, fl = z + 1 := ⟨fl - 1, by omega⟩
    rw [FX0_casesTogether_19, if_pos (nI_le (by omega) (by omega)), show b - a = k by omega, Nat.pow_zero, Nat.one_mul]
  | succ n ih =>
    intro k fl hk hfl
    obtain ⟨fl, rfl⟩ : ∃ z, fl = z + 1 := ⟨fl - 1, by omega⟩
    have := ih (k + 1) fl (by omega) (by omega)
    have e4 : 4 ^ (n + 1) * R * nocN q a k = 4 * (4 ^ n * R * nocN q a k) := by
      rw [Nat.pow_succ, Nat.mul_comm (4 ^ n) 4, Nat.mul_assoc, Nat.mul_assoc, Nat.mul_assoc]
    have hle : 4 ^ (n + 1) * R * nocN q a k ≤ 4 ^ nm := by
      have e : 4 ^ (b - a) * R = 4 ^ (n + 1) * R * 4 ^ k := by
        rw [show b - a = n + 1 + k by omega, Nat.pow_add 4 (n + 1) k, Nat.mul_assoc, Nat.mul_comm (4 ^ k) R, ← Nat.mul_assoc]
      rw [e] at hR
      exact Nat.le_trans (Nat.mul_le_mul_left _ (nb k)) hR
    rw [FX0_casesTogether_19, if_neg (nI_ge (by omega) (by omega)), gd_t (ix_nI (by omega) (by omega))]
    simp only [hl_]
    rw [cl_nI (by omega), hW.2.2.2.1 (a + k) (by omega), sub4 (hq _), show (4 : Int32) = nI 4 from rfl, pk_div (by omega) (by omega) (by omega), e4, Nat.mul_div_cancel_left _ (by omega), pk_mul, nI_1, Nat.mul_assoc]
    simp only [nocN] at this
    exact this
theorem both_nm {σX σM : HS} {side nm nf a b : Nat} {Ls : Nat → Lawt} {G : Nat → Int32} (y1 y2 : Int32) (hnm : nm ≤ 10) (hab : a ≤ b) (hb : b < nm) (wa : WX σX (qF (Ls 0) G) nm) (Qb : MQs σM side nm nf Ls G) : FX0_casesTogether (nI a) (nI b) σX = some (nI (togN (qF (Ls 0) G) nm a (b - a) 7), σX) ∧ FX12_both_43 y1 y2 (nI a) (nI b) σM = some (nI (togN (qF (Ls 0) G) nm a (b - a) 7), σM) := by
  have hq : ∀ m, qF (Ls 0) G m ≤ 4 := fun m => (qF_ok (Ls 0) G m).1
  have h := Qb.2.2.2 (by omega) a 7 (by omega) (by omega)
  rw [if_pos (by omega)] at h
  have h7 := fwN_le hq nm a 7 (by omega)
  constructor
  · unfold FX0_casesTogether
    rw [show (7 : Int32) = nI 7 from rfl, X_casesIn wa (by omega) hnm (by omega), bdI_s]
    simp only [hl_]
    rw [wa.1, pk_sub h7, tog_all hq (show a + (b - a) ≤ nm by omega), ← nI_add]
    have p40 : 0 < 4 ^ (b - a) := Nat.pow_pos (by decide)
    obtain ⟨R, hR⟩ : ∃ R, 4 ^ nm - fwN (qF (Ls 0) G) nm a 7 = 4 ^ (b - a) * R := by
      obtain ⟨t, ht⟩ := fw_dvd (q := qF (Ls 0) G) a (show a ≤ nm by omega) 7
      refine ⟨4 ^ (nm - (b - a)) - 4 ^ (nm - a - (b - a)) * t, ?_⟩
      rw [ht, Nat.mul_sub, ← Nat.pow_add, ← Nat.mul_assoc, ← Nat.pow_add]
      rw [show b - a + (nm - (b - a)) = nm by omega, show b - a + (nm - a - (b - a)) = nm - a by omega]
    rw [hR, Nat.mul_div_cancel_left _ p40]
    have e := X_tog_19 (a := a) (R := R) (nI a) (nI (fwN (qF (Ls 0) G) nm a 7)) hq hnm hb wa (by omega) (b - a) 0 fu (by omega) (by show b - a < 5000; omega)
    rw [show nocN (qF (Ls 0) G) a 0 = 1 from rfl, Nat.mul_one, Nat.add_zero] at e
    exact e
  · unfold FX12_both_43
    have e8 : (8 : Int32) * nI a + (7 : Int32) = nI (8 * a + 7) := by rw [show (8 : Int32) = nI 8 from rfl, pk_mul, show (7 : Int32) = nI 7 from rfl, nI_add]
    rw [e8, gd_t (ix_nI (by omega) (by omega))]
    simp only [hl_]
    rw [cl_nI (by omega), h]
    exact M_both_62 y1 y2 hnm hab hb Qb 7 0 fu (by omega) (by show 7 < 5000; omega)
theorem sT_20 : St_20 Rel := by
  intro n σX σM hn hR x1 x2
  obtain ⟨side, nm, nf, z, l, sd, Ls, t, r, v, p, s, w, e, pl, ky⟩ := id hR
  obtain ⟨hT, hsd, hM, hzl, hsM⟩ := t
  have hnm := hT.1
  have hnf := hT.2.1
  have h30 := hT.2.2.1
  have h31 := hT.2.2.2.1
  rcases rng x1 nm (by omega) with ⟨m, hm, rfl⟩ | ho
  · have XI := X_isMinute_i h30 hnm hm
    have MI := M_isMinute_i hM hm
    rcases rng x2 nm (by omega) with ⟨o, ho, rfl⟩ | ho
    · have XJ := X_isMinute_i h30 hnm ho
      have MJ := M_isMinute_i hM ho
      obtain ⟨σa, σb, ha, hb, qa, qb, ka, wa, Qb, Ta, ra, e12, e13⟩ := ready hT hM r hR
      by_cases hle : o ≤ m
      · obtain ⟨h1, h2⟩ := both_nm (nI m) (nI o) hnm hle hm wa Qb
        refine ⟨_, σa, σb, Eq.trans ?_ h1, Eq.trans ?_ h2, Rel_q hR qa qb⟩
        · unfold FX11_both
          rw [XI, bdI_s, if_neg one_ne, XJ, bdI_s, if_neg one_ne, ha, bdV_s, min_I (by omega) (by omega), max_I (by omega) (by omega), Nat.min_eq_right hle, Nat.max_eq_left hle, bdI_id]
        · unfold FX12_both FX12_both_32
          have hh : nI o ≤ nI m := nI_le hle (by omega)
          rw [MI, bdI_s, if_neg one_ne, MJ, bdI_s, if_neg one_ne, hb, bdV_s, if_pos hh, if_pos hh]
      · obtain ⟨h1, h2⟩ := both_nm (nI m) (nI o) hnm (show m ≤ o by omega) ho wa Qb
        refine ⟨_, σa, σb, Eq.trans ?_ h1, Eq.trans ?_ h2, Rel_q hR qa qb⟩
        · unfold FX11_both
          rw [XI, bdI_s, if_neg one_ne, XJ, bdI_s, if_neg one_ne, ha, bdV_s, min_I (by omega) (by omega), max_I (by omega) (by omega), Nat.min_eq_left (by omega), Nat.max_eq_right (by omega), bdI_id]
        · unfold FX12_both FX12_both_32
          have hh : ¬ nI o ≤ nI m := nI_ge (by omega) (by omega)
          rw [MI, bdI_s, if_neg one_ne, MJ, bdI_s, if_neg one_ne, hb, bdV_s, if_neg hh, if_neg hh]
    · exact ⟨-1, σX, σM, by simp only [FX11_both, XI, X_isMinute_o h30 ho, bdI_s, one_ne, if_false, if_true], by simp only [FX12_both, MI, M_isMinute_o hM ho, bdI_s, one_ne, if_false, if_true], Rel_q hR qX.rf kM.rf⟩
  · exact ⟨-1, σX, σM, by simp only [FX11_both, X_isMinute_o h30 ho, bdI_s, if_true], by simp only [FX12_both, M_isMinute_o hM ho, bdI_s, if_true], Rel_q hR qX.rf kM.rf⟩
