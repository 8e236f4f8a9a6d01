/-! Face: when, ask. -/
def agN (tm tp tb : Nat → Nat) (c : Nat) : Nat → Nat → Bool
  | 0, _ => true
  | n + 1, i => if (if ptF c (tm i) = tp i then 1 else 0) = tb i then agN tm tp tb c n (i + 1) else false
def TB (tm tp tb : Nat → Nat) (nm t : Nat) : Prop := t ≤ 20 ∧ ∀ i, i < t → tm i < nm ∧ tp i < 8 ∧ tb i < 2
def TDx (σ : HS) (tm tp tb : Nat → Nat) (t : Nat) : Prop := σ.1 11 6 = nI t ∧ ∀ i, i < t → σ.1 46 i = nI (tm i) ∧ σ.1 47 i = nI (tp i) ∧ σ.1 48 i = nI (tb i)
def TDm (σ : HS) (tm tp tb : Nat → Nat) (t : Nat) : Prop := σ.1 0 57 = nI t ∧ ∀ i, i < t → σ.1 39 i = nI (tm i) ∧ σ.1 40 i = nI (tp i) ∧ σ.1 41 i = nI (tb i)
theorem WR_td {σX σM : HS} {nm : Nat} (hnm : nm ≤ 10) (w : WR σX σM nm) : ∃ tm tp tb t, TB tm tp tb nm t ∧ TDx σX tm tp tb t ∧ TDm σM tm tp tb t := by
  obtain ⟨t, ht, h1, h2, hw⟩ := w
  have key : ∀ i, i < t → ((σM.1 39 i).toNatClampNeg < nm ∧ (σM.1 40 i).toNatClampNeg < 8 ∧ (σM.1 41 i).toNatClampNeg < 2) ∧ (σX.1 46 i = nI (σM.1 39 i).toNatClampNeg ∧ σX.1 47 i = nI (σM.1 40 i).toNatClampNeg ∧ σX.1 48 i = nI (σM.1 41 i).toNatClampNeg) ∧ (σM.1 39 i = nI (σM.1 39 i).toNatClampNeg ∧ σM.1 40 i = nI (σM.1 40 i).toNatClampNeg ∧ σM.1 41 i = nI (σM.1 41 i).toNatClampNeg) := by
    intro i hi
    obtain ⟨⟨m, hm, a1, a2⟩, ⟨p, hp, b1, b2⟩, ⟨b, hb, c1, c2⟩⟩ := hw i hi
    rw [a2, b2, c2, cl_nI (by omega), cl_nI (by omega), cl_nI (by omega)]
    exact ⟨⟨hm, hp, hb⟩, ⟨a1, b1, c1⟩, rfl, rfl, rfl⟩
  exact ⟨fun i => (σM.1 39 i).toNatClampNeg, fun i => (σM.1 40 i).toNatClampNeg, fun i => (σM.1 41 i).toNatClampNeg, t, ⟨ht, fun i hi => (key i hi).1⟩, ⟨h1, fun i hi => (key i hi).2.1⟩, ⟨h2, fun i hi => (key i hi).2.2⟩⟩
theorem X_agrees_2 {tm tp tb : Nat → Nat} {nm t c k : Nat} {σ : HS} (hnm : nm ≤ 10) (hB : TB tm tp tb nm t) (hX : TDx σ tm tp tb t) (hc : c < 1024) (hk : k ≤ t) : ∀ (n i f : Nat), i + n = k → n < f → FX10_agrees_2 f (nI c) (nI k) (nI i) σ = some (bI (agN tm tp tb c n i), σ) := by
  have ht := hB.1
  intro n
  induction n with
  | zero =>
    intro i f hi hf
    obtain ⟨f, rfl⟩ : ∃ z, f = z + 1 := ⟨f - 1, by omega⟩
    rw [FX10_agrees_2, if_pos (nI_le (by omega) (by omega))]; rfl
  | succ n ih =>
    intro i f hi hf
    obtain ⟨f, rfl⟩ : ∃ z, f = z + 1 := ⟨f - 1, by omega⟩
    have ih' := ih (i + 1) f (by omega) (by omega)
    obtain ⟨b1, b2, b3⟩ := hB.2 i (by omega)
    obtain ⟨x1, x2, x3⟩ := hX.2 i (by omega)
    have i1 : ix (nI i) 20 = true := ix_nI (by omega) (by omega)
    have hp := ptF_lt c (tm i)
    simp only [agN]
    rw [FX10_agrees_2, if_neg (nI_ge (by omega) (by omega)), hX.1, if_neg (nI_ge (by omega) (by omega)), gd_t i1, cl_nI (by omega), x1, X_partIn hc (by omega), bdI_s, gd_t i1, x2]
    unfold FX10_agrees_39
    rw [gd_t i1, cl_nI (by omega), x3, nI_1]
    by_cases h : ptF c (tm i) = tp i
    · rw [if_pos (by rw [h]), if_pos h]
      by_cases hb : 1 = tb i
      · rw [if_pos (show (1 : Int32) = nI (tb i) by rw [← hb]; rfl), if_pos hb]; exact ih'
      · rw [if_neg (show ¬ (1 : Int32) = nI (tb i) from fun e => hb ((nI_eq (a := 1) (by omega) (by omega)).mp e)), if_neg hb]; rfl
    · rw [if_neg (fun e => h ((nI_eq (by omega) (by omega)).mp e)), if_neg h, gd_t i1]
      by_cases hb : 0 = tb i
      · rw [if_pos (show (0 : Int32) = nI (tb i) by rw [← hb]; rfl), if_pos hb]; exact ih'
      · rw [if_neg (show ¬ (0 : Int32) = nI (tb i) from fun e => hb ((nI_eq (a := 0) (by omega) (by omega)).mp e)), if_neg hb]; rfl
theorem M_isSo_12 {tm tp tb : Nat → Nat} {nm t c k : Nat} {σ : HS} (hnm : nm ≤ 10) (hB : TB tm tp tb nm t) (hX : TDm σ tm tp tb t) (hc : c < 1024) (hk : k ≤ t) : ∀ (n i f : Nat), i + n = k → n < f → FX12_isSo_12 f (nI c) (nI k) (nI i) σ = some (bI (agN tm tp tb c n i), σ) := by
  have ht := hB.1
  intro n
  induction n with
  | zero =>
    intro i f hi hf
    obtain ⟨f, rfl⟩ : ∃ z, f = z + 1 := ⟨f - 1, by omega⟩
    rw [FX12_isSo_12, if_pos (nI_le (by omega) (by omega))]; rfl
  | succ n ih =>
    intro i f hi hf
    obtain ⟨f, rfl⟩ : ∃ z, f = z + 1 := ⟨f - 1, by omega⟩
    have ih' := ih (i + 1) f (by omega) (by omega)
    obtain ⟨b1, b2, b3⟩ := hB.2 i (by omega)
    obtain ⟨x1, x2, x3⟩ := hX.2 i (by omega)
    have i1 : ix (nI i) 20 = true := ix_nI (by omega) (by omega)
    have hp := ptF_lt c (tm i)
    simp only [agN]
    rw [FX12_isSo_12, if_neg (nI_ge (by omega) (by omega)), gd_t i1, cl_nI (by omega), x1, M_partBy hc (by omega), bdI_s, gd_t i1, x2]
    unfold FX12_isSo_41
    rw [gd_t i1, cl_nI (by omega), x3, nI_1]
    by_cases h : ptF c (tm i) = tp i
    · rw [if_pos (by rw [h]), if_pos h]
      by_cases hb : 1 = tb i
      · rw [if_pos (show (1 : Int32) = nI (tb i) by rw [← hb]; rfl), if_pos hb]; exact ih'
      · rw [if_neg (show ¬ (1 : Int32) = nI (tb i) from fun e => hb ((nI_eq (a := 1) (by omega) (by omega)).mp e)), if_neg hb]; rfl
    · rw [if_neg (fun e => h ((nI_eq (by omega) (by omega)).mp e)), if_neg h, gd_t i1]
      by_cases hb : 0 = tb i
      · rw [if_pos (show (0 : Int32) = nI (tb i) by rw [← hb]; rfl), if_pos hb]; exact ih'
      · rw [if_neg (show ¬ (0 : Int32) = nI (tb i) from fun e => hb ((nI_eq (a := 0) (by omega) (by omega)).mp e)), if_neg hb]; rfl
theorem M_isSo {tm tp tb : Nat → Nat} {side nm nf t c k : Nat} {Ls : Nat → Lawt} {G : Nat → Int32} {σ : HS} (Q : MQs σ side nm nf Ls G) (hB : TB tm tp tb nm t) (hX : TDm σ tm tp tb t) (hc : c < 1024) (hk : k ≤ t) : FX12_isSo (nI c) (nI k) σ = some (bI (canB (qF (Ls 0) G) nm c && agN tm tp tb c k 0), σ) := by
  have ht := hB.1
  unfold FX12_isSo
  rw [M_canBe Q hc, bdI_s]
  cases canB (qF (Ls 0) G) nm c with
  | false => rw [bI_f, if_pos rfl]; rfl
  | true =>
    rw [bI_t, if_neg one_ne]
    exact M_isSo_12 Q.1.2.2.1 hB hX hc hk k 0 fu (by omega) (by show k < 5000; omega)
/-! what a row of sets comes to -/
def bcN (A : List Nat) (j : Nat) : Nat := (A.map (fun c => c / 2 ^ j % 2)).sum
theorem bcN_app (A : List Nat) (c j : Nat) : bcN (A ++ [c]) j = bcN A j + c / 2 ^ j % 2 := by
  unfold bcN
  rw [List.map_append, List.sum_append]
  simp
theorem bcN_le (A : List Nat) (j : Nat) : bcN A j ≤ A.length := by
  unfold bcN
  induction A with
  | nil => exact Nat.le_refl _
  | cons c A ih =>
    simp only [List.map_cons, List.sum_cons, List.length_cons]
    omega
def flI (nm : Nat) : Int32 := nI (2 ^ nm - 1)
def alI (nm : Nat) (A : List Nat) : Int32 := A.foldl (fun x c => x &&& nI c) (flI nm)
def noI (nm : Nat) (A : List Nat) : Int32 := A.foldl (fun x c => x &&& (nI c ^^^ (-1))) (flI nm)
def anI (A : List Nat) : Int32 := A.foldl (fun x c => x ||| nI c) 0
theorem alI_app (nm : Nat) (A : List Nat) (c : Nat) : alI nm (A ++ [c]) = alI nm A &&& nI c := by unfold alI; rw [List.foldl_append]; rfl
theorem noI_app (nm : Nat) (A : List Nat) (c : Nat) : noI nm (A ++ [c]) = noI nm A &&& (nI c ^^^ (-1)) := by unfold noI; rw [List.foldl_append]; rfl
theorem anI_app (A : List Nat) (c : Nat) : anI (A ++ [c]) = anI A ||| nI c := by unfold anI; rw [List.foldl_append]; rfl
theorem and_not (F y c : Int32) : (F &&& (y ^^^ (-1))) &&& (c ^^^ (-1)) = F &&& ((y ||| c) ^^^ (-1)) := by
  rw [Int32.xor_neg_one, Int32.xor_neg_one, Int32.xor_neg_one, Int32.and_assoc]
  congr 1
  apply Int32.toBitVec_inj.mp
  show ~~~y.toBitVec &&& ~~~c.toBitVec = ~~~(y.toBitVec ||| c.toBitVec)
  rw [BitVec.not_or]
theorem no_an (nm : Nat) : ∀ (A : List Nat) (x y : Int32), x = flI nm &&& (y ^^^ (-1)) → A.foldl (fun x c => x &&& (nI c ^^^ (-1))) x = flI nm &&& (A.foldl (fun x c => x ||| nI c) y ^^^ (-1)) := by
  intro A
  induction A with
  | nil => intro x y h; exact h
  | cons c A ih =>
    intro x y h
    simp only [List.foldl_cons]
    exact ih _ _ (by rw [h, and_not])
theorem noI_an (nm : Nat) (A : List Nat) : noI nm A = flI nm &&& (anI A ^^^ (-1)) := no_an nm A _ _ (by
  rw [Int32.xor_neg_one]
  apply Int32.toBitVec_inj.mp
  show (flI nm).toBitVec = (flI nm).toBitVec &&& ~~~(0 : Int32).toBitVec
  rw [show ~~~(0 : Int32).toBitVec = BitVec.allOnes 32 by decide, BitVec.and_allOnes])
theorem hd_app {A : List Nat} (c : Nat) (h : A ≠ []) : (A ++ [c]).headD 0 = A.headD 0 := by
  cases A with
  | nil => exact absurd rfl h
  | cons a A => rfl
def SX (σ : HS) (nm : Nat) (A : List Nat) : Prop := σ.1 11 7 = nI A.length ∧ (A ≠ [] → σ.1 11 8 = nI (A.headD 0)) ∧ σ.1 11 9 = alI nm A ∧ σ.1 11 10 = noI nm A ∧ ∀ j, j < nm → σ.1 49 j = nI (bcN A j)
theorem X_add46 {nm c : Nat} {A : List Nat} (hnm : nm ≤ 10) (hc : c < 1024) : ∀ (n m f : Nat) (σ : HS), σ.1 3 0 = nI nm → (∀ j, j < m → σ.1 49 j = nI (bcN (A ++ [c]) j)) → (∀ j, m ≤ j → j < nm → σ.1 49 j = nI (bcN A j)) → m + n = nm → n < f → ∃ σ', FX10_addSet_46 f (nI c) (nI m) σ = some σ' ∧ kX [49] σ σ' ∧ ∀ j, j < nm → σ'.1 49 j = nI (bcN (A ++ [c]) j) := by
  intro n
  induction n with
  | zero =>
    intro m f σ h3 h1 h2 hm hf
    obtain ⟨f, rfl⟩ : ∃ z, f = z + 1 := ⟨f - 1, by omega⟩
    obtain rfl : m = nm := by omega
    rw [FX10_addSet_46, h3, if_pos (nI_le (by omega) (by omega))]
    exact ⟨σ, rfl, kX.rf, h1⟩
  | succ n ih =>
    intro m f σ h3 h1 h2 hm hf
    obtain ⟨f, rfl⟩ : ∃ z, f = z + 1 := ⟨f - 1, by omega⟩
    have i1 : ix (nI m) 10 = true := ix_nI (by omega) (by omega)
    have kp : kX [49] σ (pI σ 49 m (nI (bcN (A ++ [c]) m))) := kX.p (by decide)
    obtain ⟨σ', e1, k1, r1⟩ := ih (m + 1) f (pI σ 49 m (nI (bcN (A ++ [c]) m))) (by rw [kp.1 3 (by decide)]; exact h3) (fun j hj => by
      rw [pI_s]
      by_cases e : j = m
      · rw [e, pk_us]
      · rw [pk_un e]; exact h1 j (by omega)) (fun j hj hj' => by rw [pI_s, pk_un (by omega)]; exact h2 j (by omega) hj') (by omega) (by omega)
    refine ⟨σ', ?_, kp.tr k1, r1⟩
    rw [FX10_addSet_46, h3, if_neg (nI_ge (by omega) (by omega)), gd_t i1, gd_t i1]
    simp only [hl_]
    rw [cl_nI (by omega), h2 m (by omega) (by omega), bit_at m (by omega) c hc, nI_add, ← bcN_app, nI_1]
    exact e1
theorem X_addSet {nm c : Nat} {A : List Nat} {σ : HS} (hnm : nm ≤ 10) (hc : c < 1024) (hl : A.length < 2 ^ 20) (h3 : σ.1 3 0 = nI nm) (hS : SX σ nm A) : ∃ σ', FX10_addSet (nI c) σ = some σ' ∧ kX [11, 49] σ σ' ∧ σ'.1 11 6 = σ.1 11 6 ∧ SX σ' nm (A ++ [c]) := by
  obtain ⟨s1, s2, s3, s4, s5⟩ := hS
  obtain ⟨τ, hτ⟩ : ∃ τ, τ = if A = [] then pI σ 11 8 (nI c) else σ := ⟨_, rfl⟩
  have kτ : kX [11, 49] σ τ := by
    rw [hτ]
    by_cases hA : A = []
    · rw [if_pos hA]; exact kX.p (by decide)
    · rw [if_neg hA]; exact kX.rf
  have t8 : τ.1 11 8 = nI ((A ++ [c]).headD 0) := by
    rw [hτ]
    by_cases hA : A = []
    · rw [if_pos hA, pI_s, pk_us, hA]; rfl
    · rw [if_neg hA, s2 hA, hd_app c hA]
  have to : ∀ k, k ≠ 8 → τ.1 11 k = σ.1 11 k := by
    intro k hk
    rw [hτ]
    by_cases hA : A = []
    · rw [if_pos hA, pI_s, pk_un hk]
    · rw [if_neg hA]
  obtain ⟨υ, hυ⟩ : ∃ υ, υ = pI (pI (pI τ 11 7 (nI (A.length + 1))) 11 9 (alI nm (A ++ [c]))) 11 10 (noI nm (A ++ [c])) := ⟨_, rfl⟩
  have ku : kX [11, 49] σ υ := by rw [hυ]; exact ((kτ.pp (by decide)).pp (by decide)).pp (by decide)
  have u49 : υ.1 49 = σ.1 49 := by rw [hυ, pI_o (by omega), pI_o (by omega), pI_o (by omega), hτ]; by_cases hA : A = [] <;> simp only [hA, if_true, if_false]; rw [pI_o (by omega)]
  obtain ⟨σ', e1, k1, r1⟩ := X_add46 (A := A) hnm hc nm 0 fu υ (by rw [ku.1 3 (by decide)]; exact h3) (fun j hj => by omega) (fun j _ hj => by rw [u49]; exact s5 j hj) (by omega) (by show nm < 5000; omega)
  have e11 : σ'.1 11 = υ.1 11 := k1.1 11 (by decide)
  have e12 : FX10_addSet_12 (nI c) τ = some σ' := by
    unfold FX10_addSet_12
    simp only [hl_]
    rw [to 7 (by omega), s1, nI_1, pI_s, pk_un (by omega), to 9 (by omega), s3, ← alI_app, pI_s, pk_un (by omega), pI_s, pk_un (by omega), to 10 (by omega), s4, ← noI_app, ← hυ]
    exact e1
  refine ⟨σ', ?_, ku.tr (k1.up (by decide)), ?_, ?_, ?_, ?_, ?_, r1⟩
  · unfold FX10_addSet
    rw [s1]
    by_cases hA : A = []
    · rw [if_pos (show nI A.length = 0 by rw [hA]; rfl)]
      rw [hτ, if_pos hA] at e12
      exact e12
    · have : A.length ≠ 0 := fun h => hA (List.length_eq_zero_iff.mp h)
      rw [if_neg (show ¬ nI A.length = 0 from fun e => this ((nI_eq (b := 0) (by omega) (by omega)).mp e))]
      rw [hτ, if_neg hA] at e12
      exact e12
  · rw [e11, hυ, pI_s, pk_un (by omega), pI_s, pk_un (by omega), pI_s, pk_un (by omega), to 6 (by omega)]
  · rw [e11, hυ, pI_s, pk_un (by omega), pI_s, pk_un (by omega), pI_s, pk_us, List.length_append]; rfl
  · intro _
    rw [e11, hυ, pI_s, pk_un (by omega), pI_s, pk_un (by omega), pI_s, pk_un (by omega)]; exact t8
  · rw [e11, hυ, pI_s, pk_un (by omega), pI_s, pk_us]
  · rw [e11, hυ, pI_s, pk_us]
theorem X_sift_58 {tm tp tb : Nat → Nat} {nm t k : Nat} (mb al : Nat) (hnm : nm ≤ 10) (hB : TB tm tp tb nm t) (hk : k ≤ t) (hmb : mb < 1024) (hal : al < 2 ^ 10) : ∀ (L : List Nat) (s i f : Nat) (A : List Nat) (σ : HS), chk mb L s = true → i + L.length = 2 ^ cntN mb 10 → A.length ≤ i → σ.1 3 0 = nI nm → σ.1 8 7 = nI al → TDx σ tm tp tb t → SX σ nm A → L.length < f → s < 1024 → ∃ σ', FX10_sift_58 f (nI k) (nI mb) (nI s) (nI i) σ = some σ' ∧ kX [11, 49] σ σ' ∧ σ'.1 11 6 = σ.1 11 6 ∧ SX σ' nm (A ++ (L.map (fun s => al ||| s)).filter (fun c => agN tm tp tb c k 0)) := by
  have hcn := cntN_le mb 10
  have ht := hB.1
  have hp2 : 2 ^ cntN mb 10 ≤ 1024 := Nat.pow_le_pow_right (n := 2) (by decide) hcn
  intro L
  induction L with
  | nil =>
    intro s i f A σ hchk hi hA h3 h8 hX hS hf hs
    obtain ⟨f, rfl⟩ : ∃ z, f = z + 1 := ⟨f - 1, by simp at hf; omega⟩
    have hi' : i = 2 ^ cntN mb 10 := by simpa using hi
    rw [FX10_sift_58, X_bitCount hmb, bdI_s, sh1 _ (by omega), if_pos (nI_le (by omega) (by omega))]
    exact ⟨σ, rfl, kX.rf, rfl, by simpa using hS⟩
  | cons x xs ih =>
    intro s i f A σ hchk hi hA h3 h8 hX hS hf hs
    obtain ⟨f, rfl⟩ : ∃ z, f = z + 1 := ⟨f - 1, by simp at hf; omega⟩
    simp only [chk, Bool.and_eq_true] at hchk
    have hxs : x = s := Nat.eq_of_beq_eq_true hchk.1
    subst hxs
    simp only [List.length_cons] at hi hf
    have hor : al ||| x < 2 ^ 10 := Nat.or_lt_two_pow hal hs
    have hnx : nxS x mb < 1024 := Nat.lt_of_le_of_lt Nat.and_le_right hmb
    have ea : FX10_agrees (nI (al ||| x)) (nI k) σ = some (bI (agN tm tp tb (al ||| x) k 0), σ) := X_agrees_2 hnm hB hX (show al ||| x < 1024 from hor) hk k 0 fu (by omega) (by show k < 5000; omega)
    rw [FX10_sift_58, X_bitCount hmb, bdI_s, sh1 _ (by omega), if_neg (nI_ge (by omega) (by omega)), h8, nI_or]
    simp only [hl_]
    rw [ea, bdI_s]
    unfold FX10_sift_97
    simp only [hl_]
    rw [nx_I hs hmb, nI_1]
    simp only [List.map_cons]
    by_cases hag : agN tm tp tb (al ||| x) k 0 = true
    · rw [hag, bI_t, if_neg one_ne, List.filter_cons_of_pos (p := fun c => agN tm tp tb c k 0) hag]
      obtain ⟨σ1, e1, k1, s6, S1⟩ := X_addSet hnm (show al ||| x < 1024 from hor) (by omega) h3 hS
      obtain ⟨σ2, e2, k2, s62, S2⟩ := ih (nxS x mb) (i + 1) f (A ++ [al ||| x]) σ1 hchk.2 (by omega) (by rw [List.length_append]; show A.length + 1 ≤ i + 1; omega) (by rw [k1.1 3 (by decide)]; exact h3) (by rw [k1.1 8 (by decide)]; exact h8) ⟨s6.trans hX.1, fun j hj => by rw [k1.1 46 (by decide), k1.1 47 (by decide), k1.1 48 (by decide)]; exact hX.2 j hj⟩ S1 (by omega) hnx
      refine ⟨σ2, ?_, k1.tr k2, s62.trans s6, ?_⟩
      · rw [e1, bdV_s]; exact e2
      · rw [List.append_assoc] at S2; exact S2
    · have hag' : agN tm tp tb (al ||| x) k 0 = false := by simpa using hag
      rw [hag', bI_f, if_pos rfl, List.filter_cons_of_neg (p := fun c => agN tm tp tb c k 0) hag]
      exact ih (nxS x mb) (i + 1) f A σ hchk.2 (by omega) (by omega) h3 h8 hX hS (by omega) hnx
theorem fl_I {nm : Nat} (h : nm ≤ 10) : ((1 : Int32) <<< (nI nm &&& 31)) - 1 = flI nm := by
  have := Nat.two_pow_pos nm
  rw [sh1 _ (by omega), show (1 : Int32) = nI 1 from rfl, pk_sub (by omega)]; rfl
theorem X_sift {tm tp tb : Nat → Nat} {nm nf t k : Nat} {z l : Nat → Int32} {Ls : Nat → Lawt} {G : Nat → Int32} {σ : HS} (hT : TX σ nm nf z l Ls) (hG : RR nm (σ.1 14) G) (hB : TB tm tp tb nm t) (hX : TDx σ tm tp tb t) (hk : k ≤ t) : ∃ σ', FX10_sift (nI k) σ = some σ' ∧ kX [8, 11, 39, 40, 41, 42, 49] σ σ' ∧ σ'.1 11 6 = σ.1 11 6 ∧ SX σ' nm ((setsL (qF (Ls 0) G) nm).filter (fun c => agN tm tp tb c k 0)) := by
  have hnm := hT.1
  obtain ⟨σ1, h1, k1, w1⟩ := X_weighG (st := 4) hT st_4 hG
  obtain ⟨σ2, h2, k2, r2⟩ := X_fill (a := 49) (N := 10) (0 : Int32) (by omega) σ1
  have hq : ∀ m, qF (Ls 0) G m ≤ 4 := fun m => (qF_ok (Ls 0) G m).1
  have hmb : mbN (qF (Ls 0) G) nm < 2 ^ nm := bS_lt _ nm
  have hal : alN (qF (Ls 0) G) nm < 2 ^ nm := bS_lt _ nm
  have p2 := p2_lt hnm
  have eS : SLn (mbN (qF (Ls 0) G) nm) 10 = SLn (mbN (qF (Ls 0) G) nm) nm := by
    have := SLn_stop hmb (10 - nm)
    rw [show nm + (10 - nm) = 10 by omega] at this
    exact this
  have eM := SL_sets hq nm nm (Nat.le_refl _)
  obtain ⟨τ, hτ⟩ : ∃ τ, τ = pI (pI (pI σ2 11 7 0) 11 9 (flI nm)) 11 10 (flI nm) := ⟨_, rfl⟩
  have k12 : kX [8, 39, 40, 41, 42, 49] σ σ2 := (k1.up (by decide)).tr (k2.up (by decide))
  have kτ : kX [8, 11, 39, 40, 41, 42, 49] σ τ := by rw [hτ]; exact (((k12.up (by decide)).pp (by decide)).pp (by decide)).pp (by decide)
  have k2τ : kX [11] σ2 τ := by rw [hτ]; exact ((kX.rf.pp (by decide)).pp (by decide)).pp (by decide)
  have t6 : τ.1 11 6 = σ.1 11 6 := by rw [hτ, pI_s, pk_un (by omega), pI_s, pk_un (by omega), pI_s, pk_un (by omega), k12.1 11 (by decide)]
  have Sτ : SX τ nm [] := by
    refine ⟨?_, fun h => absurd rfl h, ?_, ?_, fun j hj => ?_⟩
    · rw [hτ, pI_s, pk_un (by omega), pI_s, pk_un (by omega), pI_s, pk_us]; rfl
    · rw [hτ, pI_s, pk_un (by omega), pI_s, pk_us]; rfl
    · rw [hτ, pI_s, pk_us]; rfl
    · rw [k2τ.1 49 (by decide), r2 j (by omega)]; rfl
  have cl := cntN_le (mbN (qF (Ls 0) G) nm) 10
  have cp : 2 ^ cntN (mbN (qF (Ls 0) G) nm) 10 ≤ 1024 := Nat.pow_le_pow_right (n := 2) (by decide) cl
  obtain ⟨σ3, h3, k3, s3, S3⟩ := X_sift_58 (k := k) (mbN (qF (Ls 0) G) nm) (alN (qF (Ls 0) G) nm) hnm hB hk (by omega) (by omega) (SLn (mbN (qF (Ls 0) G) nm) 10) 0 0 fu [] τ (chk_mb (by omega)) (by rw [SLn_len]; omega) (by simp) (by rw [kτ.1 3 (by decide)]; exact hT.2.2.1) (by rw [k2τ.1 8 (by decide), k2.1 8 (by decide)]; exact w1.2.1) ⟨t6.trans hX.1, fun j hj => by rw [kτ.1 46 (by decide), kτ.1 47 (by decide), kτ.1 48 (by decide)]; exact hX.2 j hj⟩ Sτ (by rw [SLn_len]; show _ < 5000; omega) (by omega)
  rw [List.nil_append, eS, eM] at S3
  refine ⟨σ3, ?_, kτ.tr (k3.up (by decide)), s3.trans t6, S3⟩
  unfold FX10_sift
  rw [h1, bdV_s, h2, bdV_s]
  simp only [hl_]
  rw [pI_o (show 3 ≠ 11 by omega), k12.1 3 (by decide), hT.2.2.1, fl_I hnm, pI_s, pk_us, ← hτ, k2τ.1 8 (by decide), k2.1 8 (by decide), w1.2.2.1]
  exact h3
/-! when -/
def acN (q : Nat → Nat) (tm tp tb : Nat → Nat) (nm k c : Nat) : List Nat := (List.range c).filter (fun c => canB q nm c && agN tm tp tb c k 0)
theorem acN_s (q : Nat → Nat) (tm tp tb : Nat → Nat) (nm k c : Nat) : acN q tm tp tb nm k (c + 1) = if (canB q nm c && agN tm tp tb c k 0) = true then acN q tm tp tb nm k c ++ [c] else acN q tm tp tb nm k c := by
  unfold acN
  rw [List.range_succ, List.filter_append]
  by_cases h : (canB q nm c && agN tm tp tb c k 0) = true
  · rw [if_pos h, List.filter_cons_of_pos (p := fun c => canB q nm c && agN tm tp tb c k 0) h]; rfl
  · rw [if_neg h, List.filter_cons_of_neg (p := fun c => canB q nm c && agN tm tp tb c k 0) h, List.filter_nil, List.append_nil]
theorem acN_all (q : Nat → Nat) (tm tp tb : Nat → Nat) (nm k : Nat) : acN q tm tp tb nm k (2 ^ nm) = (setsL q nm).filter (fun c => agN tm tp tb c k 0) := by
  unfold acN
  rw [← can_sets, List.filter_filter]
  congr 1
  funext c
  exact Bool.and_comm _ _
theorem acN_le (q : Nat → Nat) (tm tp tb : Nat → Nat) (nm k c : Nat) : (acN q tm tp tb nm k c).length ≤ c := by
  have := List.length_filter_le (fun c => canB q nm c && agN tm tp tb c k 0) (List.range c)
  rw [List.length_range] at this
  exact this
def lsI (A : List Nat) : Int32 := if A = [] then -2 else nI (A.headD 0)
def wyI (nm y : Nat) (A : List Nat) : Int32 := if y = 0 then nI A.length else if A = [] then -2 else if y = 1 then nI (A.headD 0) else if y = 2 then alI nm A else noI nm A
theorem M_when_49 {tm tp tb : Nat → Nat} {side nm nf t k y : Nat} {Ls : Nat → Lawt} {G : Nat → Int32} {σ : HS} (Q : MQs σ side nm nf Ls G) (hB : TB tm tp tb nm t) (hX : TDm σ tm tp tb t) (hk : k ≤ t) (hy : y ≤ 3) : ∀ (n c f : Nat) (A : List Nat), A = acN (qF (Ls 0) G) tm tp tb nm k c → c + n = 2 ^ nm → n < f → FX12_when_49 f (nI k) (nI y) (nI A.length) (lsI A) (alI nm A) (anI A) (nI c) σ = some (wyI nm y (acN (qF (Ls 0) G) tm tp tb nm k (2 ^ nm)), σ) := by
  have hnm := Q.1.2.2.1
  have p2 := p2_lt hnm
  intro n
  induction n with
  | zero =>
    intro c f A hA hc hf
    obtain ⟨f, rfl⟩ : ∃ z, f = z + 1 := ⟨f - 1, by omega⟩
    obtain rfl : c = 2 ^ nm := by omega
    have hl := acN_le (qF (Ls 0) G) tm tp tb nm k (2 ^ nm)
    rw [← hA] at hl ⊢
    rw [FX12_when_49, M_many Q.1, bdI_s, sh1 _ (by omega), if_pos (nI_le (by omega) (by omega))]
    unfold wyI
    by_cases y0 : y = 0
    · rw [if_pos (show nI y = (0 : Int32) by rw [y0]; rfl), if_pos y0]
    · rw [if_neg (show ¬ nI y = (0 : Int32) from fun e => y0 ((nI_eq (b := 0) (by omega) (by omega)).mp e)), if_neg y0]
      by_cases hn : A = []
      · rw [if_pos (show nI A.length = (0 : Int32) by rw [hn]; rfl), if_pos hn]
      · have : A.length ≠ 0 := fun h => hn (List.length_eq_zero_iff.mp h)
        rw [if_neg (show ¬ nI A.length = (0 : Int32) from fun e => this ((nI_eq (b := 0) (by omega) (by omega)).mp e)), if_neg hn]
        by_cases y1 : y = 1
        · rw [if_pos (show nI y = (1 : Int32) by rw [y1]; rfl), if_pos y1]
          unfold lsI
          rw [if_neg hn]
        · rw [if_neg (show ¬ nI y = (1 : Int32) from fun e => y1 ((nI_eq (b := 1) (by omega) (by omega)).mp e)), if_neg y1]
          by_cases y2 : y = 2
          · rw [if_pos (show nI y = (2 : Int32) by rw [y2]; rfl), if_pos y2]
          · rw [if_neg (show ¬ nI y = (2 : Int32) from fun e => y2 ((nI_eq (b := 2) (by omega) (by omega)).mp e)), if_neg y2, M_many Q.1, bdI_s, fl_I hnm, noI_an]
  | succ n ih =>
    intro c f A hA hc hf
    obtain ⟨f, rfl⟩ : ∃ z, f = z + 1 := ⟨f - 1, by omega⟩
    have hl := acN_le (qF (Ls 0) G) tm tp tb nm k c
    rw [← hA] at hl
    have hs := acN_s (qF (Ls 0) G) tm tp tb nm k c
    rw [← hA] at hs
    rw [FX12_when_49, M_many Q.1, bdI_s, sh1 _ (by omega), if_neg (nI_ge (by omega) (by omega)), M_isSo Q hB hX (show c < 1024 by omega) hk, bdI_s]
    by_cases h : (canB (qF (Ls 0) G) nm c && agN tm tp tb c k 0) = true
    · rw [if_pos h] at hs
      have ih' := ih (c + 1) f (A ++ [c]) hs.symm (by omega) (by omega)
      rw [h, bI_t, if_neg one_ne]
      unfold FX12_when_81
      simp only [hl_]
      rw [← alI_app, ← anI_app, nI_1, nI_1]
      rw [List.length_append, show [c].length = 1 from rfl] at ih'
      by_cases hn : A = []
      · rw [if_pos (show nI A.length = (0 : Int32) by rw [hn]; rfl)]
        rw [show lsI (A ++ [c]) = nI c by rw [hn]; rfl] at ih'
        exact ih'
      · have : A.length ≠ 0 := fun h => hn (List.length_eq_zero_iff.mp h)
        rw [if_neg (show ¬ nI A.length = (0 : Int32) from fun e => this ((nI_eq (b := 0) (by omega) (by omega)).mp e))]
        rw [show lsI (A ++ [c]) = lsI A by unfold lsI; rw [if_neg hn, if_neg (by simp), hd_app c hn]] at ih'
        exact ih'
    · rw [if_neg h] at hs
      rw [show (canB (qF (Ls 0) G) nm c && agN tm tp tb c k 0) = false by simpa using h, bI_f, if_pos rfl, nI_1]
      exact ih (c + 1) f A hs.symm (by omega) (by omega)
theorem TDm_k {S F : List Nat} {σ σ' : HS} {tm tp tb : Nat → Nat} {t : Nat} (k : kM S F σ σ') (h39 : 39 ∉ S) (h40 : 40 ∉ S) (h41 : 41 ∉ S) (h57 : 57 ∉ F) (h : TDm σ tm tp tb t) : TDm σ' tm tp tb t := ⟨by rw [k.2.1 57 h57]; exact h.1, fun i hi => by rw [k.1 39 (by decide) h39, k.1 40 (by decide) h40, k.1 41 (by decide) h41]; exact h.2 i hi⟩
theorem qX.sift {σ σ' : HS} (k : kX [8, 11, 39, 40, 41, 42, 49] σ σ') (h : σ'.1 11 6 = σ.1 11 6) : qX σ σ' := by
  refine ⟨fun x hx => k.1 x (fun hm => hx ?_), h⟩
  simp only [List.mem_cons, List.not_mem_nil, or_false] at hm ⊢
  omega
theorem sT_37 : St_37 Rel := by
  intro n σX σM hn hR x1 x2
  obtain ⟨side, nm, nf, z, l, sd, Ls, t, r, v, p, s, w, e, pl, ky⟩ := id hR
  obtain ⟨hT, hsd, hM, hzl, hsM⟩ := t
  have hnm := hT.1
  have hnf := hT.2.1
  have h30 := hT.2.2.1
  have h31 := hT.2.2.2.1
  obtain ⟨tm, tp, tb, tt, hB, hX, hMt⟩ := WR_td hnm w
  have ht := hB.1
  rcases rngT x1 tt (by omega) with ⟨k, hk, rfl⟩ | ho
  · rcases rngT x2 3 (by omega) with ⟨y, hy, rfl⟩ | ho
    · obtain ⟨σa, ha, ka, sa, Sa⟩ := X_sift hT r hB hX hk
      obtain ⟨σb, hb, kb, Qb, -⟩ := M_copiesFalls hM
      have hMb := TDm_k kb (by decide) (by decide) (by decide) (by decide) hMt
      have p2 := p2_lt hnm
      have hl := acN_le (qF (Ls 0) (σM.1 31)) tm tp tb nm k (2 ^ nm)
      have eM := M_when_49 (y := y) Qb hB hMb hk hy (2 ^ nm) 0 fu [] rfl (by omega) (by show 2 ^ nm < 5000; omega)
      rw [← acN_all] at Sa
      obtain ⟨A, hA⟩ : ∃ A, A = acN (qF (Ls 0) (σM.1 31)) tm tp tb nm k (2 ^ nm) := ⟨_, rfl⟩
      rw [← hA] at Sa eM hl
      refine ⟨wyI nm y A, σa, σb, ?_, ?_, Rel_q hR (qX.sift ka sa) (kb.up (by decide) (by decide))⟩
      · unfold FX11_when
        rw [hX.1, X_wi_i (by omega) hk, bdI_s, if_neg one_ne, show FX11_within (nI y) 0 3 σX = some (1, σX) from X_wi_i (n := 3) (by omega) hy, bdI_s, if_neg one_ne, ha, bdV_s, Sa.1]
        unfold wyI
        by_cases y0 : y = 0
        · rw [if_pos (show nI y = (0 : Int32) by rw [y0]; rfl), if_pos y0]
        · rw [if_neg (show ¬ nI y = (0 : Int32) from fun e => y0 ((nI_eq (b := 0) (by omega) (by omega)).mp e)), if_neg y0]
          by_cases hn : A = []
          · rw [if_pos (show nI A.length = (0 : Int32) by rw [hn]; rfl), if_pos hn]
          · have : A.length ≠ 0 := fun h => hn (List.length_eq_zero_iff.mp h)
            rw [if_neg (show ¬ nI A.length = (0 : Int32) from fun e => this ((nI_eq (b := 0) (by omega) (by omega)).mp e)), if_neg hn]
            by_cases y1 : y = 1
            · rw [if_pos (show nI y = (1 : Int32) by rw [y1]; rfl), if_pos y1, Sa.2.1 hn]
            · rw [if_neg (show ¬ nI y = (1 : Int32) from fun e => y1 ((nI_eq (b := 1) (by omega) (by omega)).mp e)), if_neg y1]
              by_cases y2 : y = 2
              · rw [if_pos (show nI y = (2 : Int32) by rw [y2]; rfl), if_pos y2, Sa.2.2.1]
              · rw [if_neg (show ¬ nI y = (2 : Int32) from fun e => y2 ((nI_eq (b := 2) (by omega) (by omega)).mp e)), if_neg y2, Sa.2.2.2.1]
      · unfold FX12_when
        rw [hMt.1, M_in_i (by omega) hk, bdI_s, if_neg one_ne, show FX12_in (nI y) 0 3 σM = some (1, σM) from M_in_i (n := 3) (by omega) hy, bdI_s, if_neg one_ne, hb, bdV_s, M_many Qb.1, bdI_s]
        simp only [hl_]
        rw [fl_I hnm]
        exact eM
    · refine ⟨-1, σX, σM, ?_, ?_, Rel_q hR qX.rf kM.rf⟩
      · unfold FX11_when
        rw [hX.1, X_wi_i (by omega) hk, bdI_s, if_neg one_ne, show FX11_within x2 0 3 σX = some (0, σX) from X_wi_o ho, bdI_s, if_pos rfl]
      · unfold FX12_when
        rw [hMt.1, M_in_i (by omega) hk, bdI_s, if_neg one_ne, show FX12_in x2 0 3 σM = some (0, σM) from M_in_o ho, bdI_s, if_pos rfl]
  · refine ⟨-1, σX, σM, ?_, ?_, Rel_q hR qX.rf kM.rf⟩
    · unfold FX11_when
      rw [hX.1, X_wi_o ho, bdI_s, if_pos rfl]
    · unfold FX12_when
      rw [hMt.1, M_in_o ho, bdI_s, if_pos rfl]
/-! ask -/
theorem M_ask_71 {nm c : Nat} {A : List Nat} {side nf : Nat} {Ls : Nat → Lawt} (x1 x2 : Int32) (K : Int32 → Int32 → Int32 → HS → Option (Int32 × HS)) (hc : c < 1024) : ∀ (n m f : Nat) (σ : HS), MM σ side nm nf Ls → (∀ j, j < m → σ.1 42 j = nI (bcN (A ++ [c]) j)) → (∀ j, m ≤ j → j < nm → σ.1 42 j = nI (bcN A j)) → m + n = nm → n < f → ∃ σ', FX12_ask_71 K f x1 x2 (nI c) (nI m) σ = K x1 x2 (nI (c + 1)) σ' ∧ kM [42] [] σ σ' ∧ ∀ j, j < nm → σ'.1 42 j = nI (bcN (A ++ [c]) j) := by
  intro n
  induction n with
  | zero =>
    intro m f σ hM h1 h2 hm hf
    obtain ⟨f, rfl⟩ : ∃ z, f = z + 1 := ⟨f - 1, by omega⟩
    have hnm := hM.2.2.1
    obtain rfl : m = nm := by omega
    rw [FX12_ask_71, M_many hM, bdI_s, if_pos (nI_le (by omega) (by omega)), nI_1]
    exact ⟨σ, rfl, kM.rf, h1⟩
  | succ n ih =>
    intro m f σ hM h1 h2 hm hf
    obtain ⟨f, rfl⟩ : ∃ z, f = z + 1 := ⟨f - 1, by omega⟩
    have hnm := hM.2.2.1
    have i1 : ix (nI m) 10 = true := ix_nI (by omega) (by omega)
    have kp : kM [42] [] σ (pI σ 42 m (nI (bcN (A ++ [c]) m))) := kM.pR (by decide) (by decide)
    obtain ⟨σ', e1, k1, r1⟩ := ih (m + 1) f (pI σ 42 m (nI (bcN (A ++ [c]) m))) (MM_kM kp (by intro x h1 h2 h; simp at h; omega) (by decide) (by decide) (by decide) hM) (fun j hj => by
      rw [pI_s]
      by_cases e : j = m
      · rw [e, pk_us]
      · rw [pk_un e]; exact h1 j (by omega)) (fun j hj hj' => by rw [pI_s, pk_un (by omega)]; exact h2 j (by omega) hj') (by omega) (by omega)
    refine ⟨σ', ?_, kM.tr kp k1, r1⟩
    rw [FX12_ask_71, M_many hM, bdI_s, if_neg (nI_ge (by omega) (by omega)), gd_t i1, gd_t i1]
    simp only [hl_]
    rw [cl_nI (by omega), h2 m (by omega) (by omega), bit_at m (by omega) c hc, nI_add, ← bcN_app, nI_1]
    exact e1
/-- the best question -/
def bqF (A : List Nat) (nm : Nat) : Nat → Nat → Int32 → Nat → Int32
  | 0, _, b, _ => b
  | n + 1, m, b, w => if w ≤ max (bcN A m) (A.length - bcN A m) then bqF A nm n (m + 1) b w else bqF A nm n (m + 1) (nI m) (max (bcN A m) (A.length - bcN A m))
theorem X_bq12 {nm : Nat} {A : List Nat} {σ : HS} (hnm : nm ≤ 10) (hl : A.length ≤ 1024) (h3 : σ.1 3 0 = nI nm) (hS : SX σ nm A) : ∀ (n m f w : Nat) (b : Int32), w ≤ 1025 → m + n = nm → n < f → FX10_bestQuestion_12 f b (nI w) (nI m) σ = some (bqF A nm n m b w, σ) := by
  intro n
  induction n with
  | zero =>
    intro m f w b hw hm hf
    obtain ⟨f, rfl⟩ : ∃ z, f = z + 1 := ⟨f - 1, by omega⟩
    rw [FX10_bestQuestion_12, h3, if_pos (nI_le (by omega) (by omega))]; rfl
  | succ n ih =>
    intro m f w b hw hm hf
    obtain ⟨f, rfl⟩ : ∃ z, f = z + 1 := ⟨f - 1, by omega⟩
    have i1 : ix (nI m) 10 = true := ix_nI (by omega) (by omega)
    have hb := bcN_le A m
    simp only [bqF]
    rw [FX10_bestQuestion_12, h3, if_neg (nI_ge (by omega) (by omega)), gd_t i1, gd_t i1]
    simp only [hl_]
    rw [cl_nI (by omega), hS.2.2.2.2 m (by omega), hS.1, pk_sub hb, max_I (by omega) (by omega), nI_1]
    by_cases h : w ≤ max (bcN A m) (A.length - bcN A m)
    · rw [if_pos (nI_le h (by omega)), if_pos h]
      exact ih (m + 1) f w b hw (by omega) (by omega)
    · rw [if_neg (nI_ge (by omega) (by omega)), if_neg h]
      exact ih (m + 1) f _ _ (by omega) (by omega) (by omega)
theorem M_ask_117 {side nm nf : Nat} {A : List Nat} {Ls : Nat → Lawt} {σ : HS} (x1 : Int32) (hM : MM σ side nm nf Ls) (hl : A.length ≤ 1024) (h0 : A.length ≠ 0) (h42 : ∀ j, j < nm → σ.1 42 j = nI (bcN A j)) : ∀ (n m f w w' : Nat) (b : Int32), (b = -2 ∧ w = A.length + 1 ∨ (∃ j, j < 10 ∧ b = nI j) ∧ w' = w ∧ w ≤ 1024) → m + n = nm → n < f → FX12_ask_117 f x1 (nI A.length) b (nI w') (nI m) σ = some (bqF A nm n m b w, σ) := by
  have hnm := hM.2.2.1
  intro n
  induction n with
  | zero =>
    intro m f w w' b hb hm hf
    obtain ⟨f, rfl⟩ : ∃ z, f = z + 1 := ⟨f - 1, by omega⟩
    rw [FX12_ask_117, M_many hM, bdI_s, if_pos (nI_le (by omega) (by omega))]; rfl
  | succ n ih =>
    intro m f w w' b hb hm hf
    obtain ⟨f, rfl⟩ : ∃ z, f = z + 1 := ⟨f - 1, by omega⟩
    have i1 : ix (nI m) 10 = true := ix_nI (by omega) (by omega)
    have hbc := bcN_le A m
    obtain ⟨W, hW⟩ : ∃ W, W = max (bcN A m) (A.length - bcN A m) := ⟨_, rfl⟩
    have hWl : W ≤ A.length := by omega
    simp only [bqF]
    rw [FX12_ask_117, M_many hM, bdI_s, if_neg (nI_ge (by omega) (by omega)), if_neg (show ¬ nI A.length ≤ (0 : Int32) from nI_ge (a := 0) (by omega) (by omega)), gd_t i1, gd_t i1, gd_t i1, cl_nI (by omega), h42 m (by omega), pk_sub hbc]
    have e : ∀ K : Int32 → Option (Int32 × HS), (if nI (bcN A m) ≤ nI (A.length - bcN A m) then K (nI (A.length - bcN A m)) else gd (ix (nI m) 10) (K (nI (bcN A m)))) = K (nI W) := by
      intro K
      by_cases h : bcN A m ≤ A.length - bcN A m
      · rw [if_pos (nI_le h (by omega)), show W = A.length - bcN A m by omega]
      · rw [if_neg (nI_ge (by omega) (by omega)), gd_t i1, show W = bcN A m by omega]
    rw [e (fun y0 => FX12_ask_168 (FX12_ask_117 f) x1 (nI A.length) b (nI w') (nI m) y0 σ), ← hW]
    unfold FX12_ask_168
    rw [nI_1]
    rcases hb with ⟨hb, hw⟩ | ⟨⟨j, hj, hb⟩, hw, hw2⟩
    · rw [hb, if_pos (show (-2 : Int32) < 0 by decide), if_neg (by omega)]
      exact ih (m + 1) f W W _ (Or.inr ⟨⟨m, by omega, rfl⟩, rfl, by omega⟩) (by omega) (by omega)
    · subst hw
      rw [hb, if_neg (nn_0 (by omega))]
      by_cases h : w' ≤ W
      · rw [if_neg (nI_nlt h (by omega)), if_pos h]
        exact ih (m + 1) f w' w' _ (Or.inr ⟨⟨j, hj, rfl⟩, rfl, hw2⟩) (by omega) (by omega)
      · rw [if_pos (nI_lt (by omega) (by omega)), if_neg h]
        exact ih (m + 1) f W W _ (Or.inr ⟨⟨m, by omega, rfl⟩, rfl, by omega⟩) (by omega) (by omega)
def qyI (A : List Nat) (nm : Nat) : Int32 := if A = [] then -2 else bqF A nm nm 0 (-2) (A.length + 1)
theorem s_42 : ∀ x, 19 ≤ x → x ≤ 27 → x ∉ [42] := by intro x h1 h2 h; simp at h; omega
theorem M_ask_43 {tm tp tb : Nat → Nat} {side nm nf t k : Nat} {Ls : Nat → Lawt} {G : Nat → Int32} (hB : TB tm tp tb nm t) (hk : k ≤ t) : ∀ (n c f : Nat) (A : List Nat) (σ : HS), MQs σ side nm nf Ls G → TDm σ tm tp tb t → A = acN (qF (Ls 0) G) tm tp tb nm k c → (∀ j, j < nm → σ.1 42 j = nI (bcN A j)) → c + n = 2 ^ nm → n < f → ∃ σ', FX12_ask_43 f (nI k) (nI A.length) (nI c) σ = some (qyI (acN (qF (Ls 0) G) tm tp tb nm k (2 ^ nm)) nm, σ') ∧ kM [42] [] σ σ' := by
  intro n
  induction n with
  | zero =>
    intro c f A σ Q hX hA h42 hc hf
    have hnm := Q.1.2.2.1
    have p2 := p2_lt hnm
    obtain ⟨f, rfl⟩ : ∃ z, f = z + 1 := ⟨f - 1, by omega⟩
    obtain rfl : c = 2 ^ nm := by omega
    have hl := acN_le (qF (Ls 0) G) tm tp tb nm k (2 ^ nm)
    rw [← hA] at hl ⊢
    rw [FX12_ask_43, M_many Q.1, bdI_s, sh1 _ (by omega), if_pos (nI_le (by omega) (by omega))]
    refine ⟨σ, ?_, kM.rf⟩
    unfold qyI
    by_cases hn : A = []
    · rw [if_pos hn, hn]
      rw [show fu = 4999 + 1 from rfl, FX12_ask_117, M_many Q.1, bdI_s]
      by_cases h0 : nI nm ≤ (0 : Int32)
      · rw [if_pos h0]
      · rw [if_neg h0, if_pos (show nI ([] : List Nat).length ≤ (0 : Int32) by decide)]
    · have : A.length ≠ 0 := fun h => hn (List.length_eq_zero_iff.mp h)
      rw [if_neg hn]
      exact M_ask_117 (nI k) Q.1 (by omega) this h42 nm 0 fu (A.length + 1) 0 (-2) (Or.inl ⟨rfl, rfl⟩) (by omega) (by show nm < 5000; omega)
  | succ n ih =>
    intro c f A σ Q hX hA h42 hc hf
    have hnm := Q.1.2.2.1
    have p2 := p2_lt hnm
    obtain ⟨f, rfl⟩ : ∃ z, f = z + 1 := ⟨f - 1, by omega⟩
    have hs := acN_s (qF (Ls 0) G) tm tp tb nm k c
    rw [← hA] at hs
    rw [FX12_ask_43, M_many Q.1, bdI_s, sh1 _ (by omega), if_neg (nI_ge (by omega) (by omega)), M_isSo Q hB hX (show c < 1024 by omega) hk, bdI_s]
    by_cases h : (canB (qF (Ls 0) G) nm c && agN tm tp tb c k 0) = true
    · rw [if_pos h] at hs
      obtain ⟨σ1, e1, k1, r1⟩ := M_ask_71 (A := A) (nI k) (nI A.length + 1) (FX12_ask_43 f) (show c < 1024 by omega) nm 0 fu σ Q.1 (fun j hj => by omega) (fun j _ hj => h42 j hj) (by omega) (by show nm < 5000; omega)
      obtain ⟨σ2, e2, k2⟩ := ih (c + 1) f (A ++ [c]) σ1 (MQs_kM k1 s_42 (by decide) (by decide) (by decide) (by decide) (by decide) (by decide) Q) (TDm_k k1 (by decide) (by decide) (by decide) (by decide) hX) hs.symm r1 (by omega) (by omega)
      refine ⟨σ2, ?_, kM.tr k1 k2⟩
      rw [h, bI_t, if_neg one_ne, show (0 : Int32) = nI 0 from rfl, e1, nI_1]
      rw [List.length_append] at e2
      exact e2
    · rw [if_neg h] at hs
      rw [show (canB (qF (Ls 0) G) nm c && agN tm tp tb c k 0) = false by simpa using h, bI_f, if_pos rfl, nI_1]
      exact ih (c + 1) f A σ Q hX hs.symm h42 (by omega) (by omega)
theorem M_ask_22 {tm tp tb : Nat → Nat} {side nm nf t k : Nat} {Ls : Nat → Lawt} {G : Nat → Int32} (hB : TB tm tp tb nm t) (hk : k ≤ t) : ∀ (n m f : Nat) (σ : HS), MQs σ side nm nf Ls G → TDm σ tm tp tb t → (∀ j, j < m → σ.1 42 j = 0) → m + n = 10 → n < f → ∃ σ', FX12_ask_22 f (nI k) (nI 0) (nI m) σ = some (qyI (acN (qF (Ls 0) G) tm tp tb nm k (2 ^ nm)) nm, σ') ∧ kM [42] [] σ σ' := by
  intro n
  induction n with
  | zero =>
    intro m f σ Q hX h42 hm hf
    have hnm := Q.1.2.2.1
    have p2 := p2_lt hnm
    obtain ⟨f, rfl⟩ : ∃ z, f = z + 1 := ⟨f - 1, by omega⟩
    obtain rfl : m = 10 := by omega
    rw [FX12_ask_22, if_pos (show (10 : Int32) ≤ nI 10 by decide)]
    exact M_ask_43 hB hk (2 ^ nm) 0 fu [] σ Q hX rfl (fun j hj => h42 j (by omega)) (by omega) (by show 2 ^ nm < 5000; omega)
  | succ n ih =>
    intro m f σ Q hX h42 hm hf
    obtain ⟨f, rfl⟩ : ∃ z, f = z + 1 := ⟨f - 1, by omega⟩
    have kp : kM [42] [] σ (pI σ 42 m 0) := kM.pR (by decide) (by decide)
    obtain ⟨σ', e1, k1⟩ := ih (m + 1) f (pI σ 42 m 0) (MQs_kM kp s_42 (by decide) (by decide) (by decide) (by decide) (by decide) (by decide) Q) (TDm_k kp (by decide) (by decide) (by decide) (by decide) hX) (fun j hj => by
      rw [pI_s]
      by_cases e : j = m
      · rw [e, pk_us]
      · rw [pk_un e]; exact h42 j (by omega)) (by omega) (by omega)
    refine ⟨σ', ?_, kM.tr kp k1⟩
    rw [FX12_ask_22, if_neg (show ¬ (10 : Int32) ≤ nI m from nI_ge (b := 10) (by omega) (by omega)), gd_t (ix_nI (by omega) (by omega)), cl_nI (by omega), nI_1]
    exact e1
theorem sT_38 : St_38 Rel := by
  intro n σX σM hn hR x1
  obtain ⟨side, nm, nf, z, l, sd, Ls, t, r, v, p, s, w, e, pl, ky⟩ := id hR
  obtain ⟨hT, hsd, hM, hzl, hsM⟩ := t
  have hnm := hT.1
  have hnf := hT.2.1
  have h30 := hT.2.2.1
  have h31 := hT.2.2.2.1
  obtain ⟨tm, tp, tb, tt, hB, hX, hMt⟩ := WR_td hnm w
  have ht := hB.1
  rcases rngT x1 tt (by omega) with ⟨k, hk, rfl⟩ | ho
  · obtain ⟨σa, ha, ka, sa, Sa⟩ := X_sift hT r hB hX hk
    obtain ⟨σb, hb, kb, Qb, -⟩ := M_copiesFalls hM
    have hMb := TDm_k kb (by decide) (by decide) (by decide) (by decide) hMt
    have p2 := p2_lt hnm
    have hl := acN_le (qF (Ls 0) (σM.1 31)) tm tp tb nm k (2 ^ nm)
    obtain ⟨σc, hc, kc⟩ := M_ask_22 hB hk 10 0 fu σb Qb hMb (fun j hj => by omega) (by omega) (by show 10 < 5000; omega)
    rw [← acN_all] at Sa
    obtain ⟨A, hA⟩ : ∃ A, A = acN (qF (Ls 0) (σM.1 31)) tm tp tb nm k (2 ^ nm) := ⟨_, rfl⟩
    rw [← hA] at Sa hc hl
    refine ⟨qyI A nm, σa, σc, ?_, ?_, Rel_q hR (qX.sift ka sa) (kM.tr (kb.up (by decide) (by decide)) (kc.up (by decide) (by decide)))⟩
    · unfold FX11_ask
      rw [hX.1, X_wi_i (by omega) hk, bdI_s, if_neg one_ne, ha, bdV_s, Sa.1]
      unfold qyI
      by_cases hn : A = []
      · rw [if_pos (show nI A.length = (0 : Int32) by rw [hn]; rfl), if_pos hn]
      · have : A.length ≠ 0 := fun h => hn (List.length_eq_zero_iff.mp h)
        rw [if_neg (show ¬ nI A.length = (0 : Int32) from fun e => this ((nI_eq (b := 0) (by omega) (by omega)).mp e)), if_neg hn, bdI_id]
        unfold FX10_bestQuestion
        simp only [hl_]
        rw [Sa.1, nI_1]
        exact X_bq12 hnm (by omega) (by rw [ka.1 3 (by decide)]; exact h30) Sa nm 0 fu (A.length + 1) (-2) (by omega) (by omega) (by show nm < 5000; omega)
    · unfold FX12_ask
      rw [hMt.1, M_in_i (by omega) hk, bdI_s, if_neg one_ne, hb, bdV_s]
      exact hc
  · refine ⟨-1, σX, σM, ?_, ?_, Rel_q hR qX.rf kM.rf⟩
    · unfold FX11_ask
      rw [hX.1, X_wi_o ho, bdI_s, if_pos rfl]
    · unfold FX12_ask
      rw [hMt.1, M_in_o ho, bdI_s, if_pos rfl]
