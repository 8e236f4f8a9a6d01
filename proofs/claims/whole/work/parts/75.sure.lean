/-! Face: sure, cover. -/
theorem sh1 : ∀ p, p < 11 → (1 : Int32) <<< (nI p &&& 31) = nI (2 ^ p) := by decide +kernel
/-- in which parts a matter is, the first m minutes looked at -/
def poN (G : Nat → Int32) (mt c : Nat) : Nat → Nat
  | 0 => 0
  | m + 1 => if G m = nI mt then poN G mt c m ||| 2 ^ ptF c m else poN G mt c m
theorem poN_lt (G : Nat → Int32) (mt c : Nat) : ∀ m, poN G mt c m < 2 ^ 8 := by
  intro m
  induction m with
  | zero => exact Nat.two_pow_pos 8
  | succ m ih =>
    simp only [poN]
    by_cases h : G m = nI mt
    · rw [if_pos h]
      exact Nat.or_lt_two_pow ih (Nat.pow_lt_pow_right (by decide) (ptF_lt c m))
    · rw [if_neg h]; exact ih
theorem M_partsOn_5 {side nm nf mt c : Nat} {Ls : Nat → Lawt} {G : Nat → Int32} {σ : HS} (Q : MQs σ side nm nf Ls G) (hc : c < 1024) : ∀ (n m f : Nat), m + n = nm → n < f → FX12_partsOn_5 f (nI mt) (nI c) (nI (poN G mt c m)) (nI m) σ = some (nI (poN G mt c nm), σ) := by
  have hnm := Q.1.2.2.1
  intro n
  induction n with
  | zero =>
    intro m f hm hf
    obtain ⟨f, rfl⟩ : ∃ z, f = z + 1 := ⟨f - 1, by omega⟩
    obtain rfl : m = nm := by omega
    rw [FX12_partsOn_5, M_many Q.1, bdI_s, if_pos (nI_le (by omega) (by omega))]
  | succ n ih =>
    intro m f hm hf
    obtain ⟨f, rfl⟩ : ∃ z, f = z + 1 := ⟨f - 1, by omega⟩
    have := ih (m + 1) f (by omega) (by omega)
    simp only [poN] at this
    rw [FX12_partsOn_5, M_many Q.1, bdI_s, if_neg (nI_ge (by omega) (by omega)), gd_t (ix_nI (by omega) (by omega)), cl_nI (by omega), Q.2.1 m (by omega)]
    by_cases h : G m = nI mt
    · rw [if_pos h] at this ⊢
      rw [M_partBy hc (by omega), bdI_s]
      simp only [hl_]
      have := ptF_lt c m
      rw [sh1 _ (by omega), nI_or, nI_1]; assumption
    · rw [if_neg h] at this ⊢
      rw [nI_1]; exact this
theorem X_partsOn_6 {nm nf mt c : Nat} {z l : Nat → Int32} {Ls : Nat → Lawt} {G : Nat → Int32} {σ : HS} (hT : TX σ nm nf z l Ls) (hG : RR nm (σ.1 14) G) (hc : c < 1024) : ∀ (n m f : Nat), m + n = nm → n < f → FX1_partsOn_6 f (nI mt) (nI c) (nI (poN G mt c m)) (nI m) σ = some (nI (poN G mt c nm), σ) := by
  have hnm := hT.1
  intro n
  induction n with
  | zero =>
    intro m f hm hf
    obtain ⟨f, rfl⟩ : ∃ z, f = z + 1 := ⟨f - 1, by omega⟩
    obtain rfl : m = nm := by omega
    rw [FX1_partsOn_6, hT.2.2.1, if_pos (nI_le (by omega) (by omega))]
  | succ n ih =>
    intro m f hm hf
    obtain ⟨f, rfl⟩ : ∃ z, f = z + 1 := ⟨f - 1, by omega⟩
    have := ih (m + 1) f (by omega) (by omega)
    simp only [poN] at this
    have e : σ.1 (4 + 10) m = G m := by rw [← hG m (by omega), rowC_m (by omega) hnm]
    rw [FX1_partsOn_6, hT.2.2.1, if_neg (nI_ge (by omega) (by omega)), X_matterOf (by omega), bdI_s, e]
    by_cases h : G m = nI mt
    · rw [if_pos h] at this ⊢
      rw [X_partIn hc (by omega), bdI_s]
      simp only [hl_]
      have := ptF_lt c m
      rw [sh1 _ (by omega), nI_or, nI_1]; assumption
    · rw [if_neg h] at this ⊢
      rw [nI_1]; exact this
def bI (b : Bool) : Int32 := cond b 1 0
theorem bI_t : bI true = 1 := rfl
theorem bI_f : bI false = 0 := rfl
def cbN (q : Nat → Nat) (c : Nat) : Nat → Nat → Bool
  | 0, _ => true
  | n + 1, m => if q m = (if c / 2 ^ m % 2 = 1 then 0 else 4) then false else cbN q c n (m + 1)
theorem cb_can (q : Nat → Nat) (c : Nat) : ∀ n m, (canB q m c && cbN q c n m) = canB q (m + n) c := by
  intro n
  induction n with
  | zero => intro m; simp [cbN]
  | succ n ih =>
    intro m
    have := ih (m + 1)
    rw [show m + (n + 1) = m + 1 + n by omega, ← this]
    simp only [cbN, canB]
    by_cases h : q m = (if c / 2 ^ m % 2 = 1 then 0 else 4)
    · rw [if_pos h]; simp [h]
    · rw [if_neg h]; simp [h]
theorem M_canBe_2 {side nm nf c : Nat} {Ls : Nat → Lawt} {G : Nat → Int32} {σ : HS} (Q : MQs σ side nm nf Ls G) (hc : c < 1024) : ∀ (n m f : Nat), m + n = nm → n < f → FX12_canBe_2 f (nI c) (nI m) σ = some (bI (cbN (qF (Ls 0) G) c n m), σ) := by
  have hnm := Q.1.2.2.1
  intro n
  induction n with
  | zero =>
    intro m f hm hf
    obtain ⟨f, rfl⟩ : ∃ z, f = z + 1 := ⟨f - 1, by omega⟩
    obtain rfl : m = nm := by omega
    rw [FX12_canBe_2, M_many Q.1, bdI_s, if_pos (nI_le (by omega) (by omega))]
    rfl
  | succ n ih =>
    intro m f hm hf
    obtain ⟨f, rfl⟩ : ∃ z, f = z + 1 := ⟨f - 1, by omega⟩
    have ih' := ih (m + 1) f (by omega) (by omega)
    have hq := (qF_ok (Ls 0) G m).1
    simp only [cbN]
    rw [FX12_canBe_2, M_many Q.1, bdI_s, if_neg (nI_ge (by omega) (by omega)), gd_t (ix_nI (by omega) (by omega)), cl_nI (by omega), Q.2.2.1 m (by omega), bit_at m (by omega) c hc]
    unfold FX12_canBe_30
    by_cases hb : c / 2 ^ m % 2 = 1
    · rw [if_pos hb, hb, if_pos (show nI 1 = (1 : Int32) from rfl)]
      by_cases h0 : qF (Ls 0) G m = 0
      · rw [if_pos h0, h0, if_pos (show nI 0 = (0 : Int32) from rfl)]; rfl
      · rw [if_neg h0, if_neg (show ¬ nI (qF (Ls 0) G m) = (0 : Int32) from fun e => h0 ((nI_eq (b := 0) (by omega) (by omega)).mp e)), nI_1]
        exact ih'
    · have h00 : c / 2 ^ m % 2 = 0 := by omega
      rw [if_neg hb, h00, if_neg (show ¬ nI 0 = (1 : Int32) by decide)]
      by_cases h0 : qF (Ls 0) G m = 4
      · rw [if_pos h0, h0, if_pos (show nI 4 = (4 : Int32) from rfl)]; rfl
      · rw [if_neg h0, if_neg (show ¬ nI (qF (Ls 0) G m) = (4 : Int32) from fun e => h0 ((nI_eq (b := 4) (by omega) (by omega)).mp e)), nI_1]
        exact ih'
theorem M_canBe {side nm nf c : Nat} {Ls : Nat → Lawt} {G : Nat → Int32} {σ : HS} (Q : MQs σ side nm nf Ls G) (hc : c < 1024) : FX12_canBe (nI c) σ = some (bI (canB (qF (Ls 0) G) nm c), σ) := by
  have hnm := Q.1.2.2.1
  have := M_canBe_2 Q hc nm 0 fu (by omega) (by show nm < 5000; omega)
  have e := cb_can (qF (Ls 0) G) c nm 0
  rw [Nat.zero_add, show canB (qF (Ls 0) G) 0 c = true from rfl, Bool.true_and] at e
  rw [e] at this
  exact this
theorem p2_lt {nm : Nat} (h : nm ≤ 10) : 2 ^ nm ≤ 1024 := Nat.pow_le_pow_right (n := 2) (by decide) h
def hitI (q : Nat → Nat) (G : Nat → Int32) (mt nm c : Nat) : Int32 := if canB q nm c = true then nI (poN G mt c nm) else -1
theorem s_38 : ∀ x, 19 ≤ x → x ≤ 27 → x ∉ [38] := by intro x h1 h2 h; simp at h; omega
theorem M_fillsHits_6 {side nm nf mt : Nat} {Ls : Nat → Lawt} {G : Nat → Int32} : ∀ (n c f : Nat) (σ : HS), MQs σ side nm nf Ls G → (∀ j, j < c → σ.1 38 j = hitI (qF (Ls 0) G) G mt nm j) → c + n = 2 ^ nm → n < f → ∃ σ', FX12_fillsHits_6 f (nI mt) (nI c) σ = some σ' ∧ kM [38] [] σ σ' ∧ ∀ j, j < 2 ^ nm → σ'.1 38 j = hitI (qF (Ls 0) G) G mt nm j := by
  intro n
  induction n with
  | zero =>
    intro c f σ Q h38 hc hf
    have hnm := Q.1.2.2.1
    have p2 := p2_lt hnm
    obtain ⟨f, rfl⟩ : ∃ z, f = z + 1 := ⟨f - 1, by omega⟩
    rw [FX12_fillsHits_6, M_many Q.1, bdI_s, sh1 _ (by omega), if_pos (nI_le (by omega) (by omega))]
    exact ⟨σ, rfl, kM.rf, fun j hj => h38 j (by omega)⟩
  | succ n ih =>
    intro c f σ Q h38 hc hf
    have hnm := Q.1.2.2.1
    have p2 := p2_lt hnm
    obtain ⟨f, rfl⟩ : ∃ z, f = z + 1 := ⟨f - 1, by omega⟩
    have hc10 : c < 1024 := by omega
    have kp : kM [38] [] σ (pI σ 38 c (hitI (qF (Ls 0) G) G mt nm c)) := kM.pR (by decide) (by decide)
    obtain ⟨σ', h1, k1, r1⟩ := ih (c + 1) f (pI σ 38 c (hitI (qF (Ls 0) G) G mt nm c)) (MQs_kM kp s_38 (by decide) (by decide) (by decide) (by decide) (by decide) (by decide) Q) (fun j hj => by
      rw [pI_s]
      by_cases e : j = c
      · rw [e, pk_us]
      · rw [pk_un e]; exact h38 j (by omega)) (by omega) (by omega)
    refine ⟨σ', ?_, kM.tr kp k1, r1⟩
    rw [FX12_fillsHits_6, M_many Q.1, bdI_s, sh1 _ (by omega), if_neg (nI_ge (by omega) (by omega)), M_canBe Q hc10, bdI_s]
    unfold hitI at h1
    by_cases hb : canB (qF (Ls 0) G) nm c = true
    · rw [if_pos hb] at h1
      unfold FX12_partsOn
      have e := M_partsOn_5 (mt := mt) Q hc10 nm 0 fu (by omega) (by show nm < 5000; omega)
      rw [hb, bI_t, if_neg one_ne, show (0 : Int32) = nI 0 from rfl]
      rw [show poN G mt c 0 = 0 from rfl] at e
      rw [e, bdI_s, gd_t (ix_nI hc10 (by omega)), cl_nI (by omega), nI_1]
      exact h1
    · rw [if_neg hb] at h1
      rw [show canB (qF (Ls 0) G) nm c = false by simpa using hb, bI_f, if_pos rfl, gd_t (ix_nI hc10 (by omega)), cl_nI (by omega), nI_1]
      exact h1
def metB (q : Nat → Nat) (G : Nat → Int32) (mt nm x : Nat) : Bool := (setsL q nm).all (fun c => !decide (poN G mt c nm &&& x = 0))
def ainN (q : Nat → Nat) (G : Nat → Int32) (mt nm x : Nat) : Nat → Nat → Bool
  | 0, _ => true
  | n + 1, c => if canB q nm c = true ∧ poN G mt c nm &&& x = 0 then false else ainN q G mt nm x n (c + 1)
theorem ain_all (q : Nat → Nat) (G : Nat → Int32) (mt nm x : Nat) : ∀ n c, ainN q G mt nm x n c = (List.range' c n).all (fun c => !canB q nm c || !decide (poN G mt c nm &&& x = 0)) := by
  intro n
  induction n with
  | zero => intro c; rfl
  | succ n ih =>
    intro c
    rw [List.range'_succ, List.all_cons]
    simp only [ainN]
    rw [ih (c + 1)]
    by_cases h1 : canB q nm c = true
    · by_cases h2 : poN G mt c nm &&& x = 0
      · rw [if_pos ⟨h1, h2⟩]; simp [h1, h2]
      · rw [if_neg (fun h => h2 h.2)]; simp [h1, h2]
    · rw [if_neg (fun h => h1 h.1)]; simp [h1]
theorem ain_met (q : Nat → Nat) (G : Nat → Int32) (mt nm x : Nat) : ainN q G mt nm x (2 ^ nm) 0 = metB q G mt nm x := by
  unfold metB
  rw [ain_all, ← can_sets, List.all_filter, ← List.range_eq_range']
theorem nI_and0 {a b : Nat} (ha : a < 2 ^ 30) : nI a &&& nI b = 0 ↔ a &&& b = 0 := by
  have h : a &&& b ≤ a := Nat.and_le_left
  rw [nI_and]
  exact ⟨fun e => (nI_eq (b := 0) (by omega) (by omega)).mp e, fun e => by rw [e]; rfl⟩
theorem M_isIn_2 {side nm nf mt x : Nat} {Ls : Nat → Lawt} {G : Nat → Int32} {σ : HS} (Q : MQs σ side nm nf Ls G) (h38 : ∀ j, j < 2 ^ nm → σ.1 38 j = hitI (qF (Ls 0) G) G mt nm j) : ∀ (n c f : Nat), c + n = 2 ^ nm → n < f → FX12_isIn_2 f (nI x) (nI c) σ = some (bI (ainN (qF (Ls 0) G) G mt nm x n c), σ) := by
  have hnm := Q.1.2.2.1
  have p2 := p2_lt hnm
  intro n
  induction n with
  | zero =>
    intro c f hc hf
    obtain ⟨f, rfl⟩ : ∃ z, f = z + 1 := ⟨f - 1, by omega⟩
    rw [FX12_isIn_2, M_many Q.1, bdI_s, sh1 _ (by omega), if_pos (nI_le (by omega) (by omega))]
    rfl
  | succ n ih =>
    intro c f hc hf
    obtain ⟨f, rfl⟩ : ∃ z, f = z + 1 := ⟨f - 1, by omega⟩
    have ih' := ih (c + 1) f (by omega) (by omega)
    have i1 : ix (nI c) 1024 = true := ix_nI (by omega) (by omega)
    have hp := poN_lt G mt c nm
    simp only [ainN]
    rw [FX12_isIn_2, M_many Q.1, bdI_s, sh1 _ (by omega), if_neg (nI_ge (by omega) (by omega)), gd_t i1, gd_t i1, cl_nI (by omega), h38 c (by omega), nI_1]
    unfold hitI
    by_cases hb : canB (qF (Ls 0) G) nm c = true
    · rw [if_pos hb, if_neg (nn_0 (by omega))]
      by_cases h0 : poN G mt c nm &&& x = 0
      · rw [if_pos ((nI_and0 (by omega)).mpr h0), if_pos ⟨hb, h0⟩]; rfl
      · rw [if_neg (fun e => h0 ((nI_and0 (by omega)).mp e)), if_neg (fun h => h0 h.2)]
        exact ih'
    · rw [if_neg hb, if_pos (show (-1 : Int32) < 0 by decide), if_neg (fun h => hb h.1)]
      exact ih'
theorem M_isIn {side nm nf mt x : Nat} {Ls : Nat → Lawt} {G : Nat → Int32} {σ : HS} (Q : MQs σ side nm nf Ls G) (h38 : ∀ j, j < 2 ^ nm → σ.1 38 j = hitI (qF (Ls 0) G) G mt nm j) : FX12_isIn (nI x) σ = some (bI (metB (qF (Ls 0) G) G mt nm x), σ) := by
  have p2 := p2_lt Q.1.2.2.1
  have := M_isIn_2 (x := x) Q h38 (2 ^ nm) 0 fu (by omega) (by show 2 ^ nm < 5000; omega)
  rw [ain_met] at this
  exact this
/-! the class -/
theorem X_look_46 {nm nf mt : Nat} {z l : Nat → Int32} {Ls : Nat → Lawt} {G : Nat → Int32} (mb al : Nat) (hmb : mb < 1024) (hal : al < 2 ^ 10) : ∀ (L : List Nat) (s i f : Nat) (D : List Nat) (σ : HS), chk mb L s = true → (∀ x ∈ L, x < 2 ^ 10) → i + L.length = 2 ^ cntN mb 10 → TX σ nm nf z l Ls → RR nm (σ.1 14) G → σ.1 8 7 = nI al → (∀ p, p < 256 → σ.1 45 p = if p ∈ D then 1 else 0) → L.length < f → s < 1024 → ∃ σ', FX1_look_46 f (nI mt) (nI mb) (nI s) (nI i) σ = some σ' ∧ kX [45] σ σ' ∧ ∀ p, p < 256 → σ'.1 45 p = if p ∈ D ++ L.map (fun s => poN G mt (al ||| s) nm) then 1 else 0 := by
  have hcn := cntN_le mb 10
  have hp2 : 2 ^ cntN mb 10 ≤ 1024 := Nat.pow_le_pow_right (n := 2) (by decide) hcn
  intro L
  induction L with
  | nil =>
    intro s i f D σ hchk hlt hi hT hG h8 h45 hf hs
    obtain ⟨f, rfl⟩ : ∃ z, f = z + 1 := ⟨f - 1, by simp at hf; omega⟩
    have hi' : i = 2 ^ cntN mb 10 := by simpa using hi
    rw [FX1_look_46, X_bitCount hmb, bdI_s, sh1 _ (by omega), if_pos (nI_le (by omega) (by omega))]
    exact ⟨σ, rfl, kX.rf, by simpa using h45⟩
  | cons x xs ih =>
    intro s i f D σ hchk hlt hi hT hG h8 h45 hf hs
    obtain ⟨f, rfl⟩ : ∃ z, f = z + 1 := ⟨f - 1, by simp at hf; omega⟩
    have hnm := hT.1
    simp only [chk, Bool.and_eq_true] at hchk
    have hxs : x = s := Nat.eq_of_beq_eq_true hchk.1
    subst hxs
    simp only [List.length_cons] at hi hf
    have hor : al ||| x < 2 ^ 10 := Nat.or_lt_two_pow hal hs
    have hp := poN_lt G mt (al ||| x) nm
    have hnx : nxS x mb < 1024 := Nat.lt_of_le_of_lt Nat.and_le_right hmb
    have kp : kX [45] σ (pI σ 45 (poN G mt (al ||| x) nm) 1) := kX.p (by decide)
    obtain ⟨σ', h1, k1, r1⟩ := ih (nxS x mb) (i + 1) f (D ++ [poN G mt (al ||| x) nm]) (pI σ 45 (poN G mt (al ||| x) nm) 1) hchk.2 (fun y hy => hlt y (List.mem_cons_of_mem _ hy)) (by omega) (TX_k hT kp (by unfold tX; decide)) (by rw [kp.1 14 (by decide)]; exact hG) (by rw [kp.1 8 (by decide)]; exact h8) (fun p hp' => by
      rw [pI_s]
      by_cases e : p = poN G mt (al ||| x) nm
      · rw [e, pk_us, if_pos (by simp)]
      · rw [pk_un e, h45 p hp']
        by_cases hd : p ∈ D
        · rw [if_pos hd, if_pos (by simp [hd])]
        · rw [if_neg hd, if_neg (by simp [hd, e])]) (by omega) hnx
    refine ⟨σ', ?_, kp.tr k1, fun p hp' => by rw [r1 p hp', List.append_assoc]; rfl⟩
    have e := X_partsOn_6 (mt := mt) hT hG (show al ||| x < 1024 from hor) nm 0 fu (by omega) (by show nm < 5000; omega)
    rw [show poN G mt (al ||| x) 0 = 0 from rfl] at e
    rw [FX1_look_46, X_bitCount hmb, bdI_s, sh1 _ (by omega), if_neg (nI_ge (by omega) (by omega)), h8, nI_or]
    unfold FX1_partsOn
    rw [show (0 : Int32) = nI 0 from rfl, e, bdI_s, gd_t (ix_nI (by omega) (by omega))]
    simp only [hl_]
    rw [cl_nI (by omega), show vp_nar .boolean (1 : Int32) = 1 from rfl, nx_I hs hmb, nI_1]
    exact h1
theorem X_look_2 {nm nf mt : Nat} {z l : Nat → Int32} {Ls : Nat → Lawt} {G : Nat → Int32} : ∀ (n k f : Nat) (σ : HS), TX σ nm nf z l Ls → RR nm (σ.1 14) G → (∀ p, p < k → σ.1 45 p = 0) → k + n = 256 → n < f → ∃ σ', FX1_look_2 f (nI mt) (nI k) σ = some σ' ∧ kX [8, 39, 40, 41, 42, 45] σ σ' ∧ ∀ p, p < 256 → σ'.1 45 p = if p ∈ (setsL (qF (Ls 0) G) nm).map (fun c => poN G mt c nm) then 1 else 0 := by
  intro n
  induction n with
  | zero =>
    intro k f σ hT hG h45 hk hf
    have hnm := hT.1
    obtain ⟨f, rfl⟩ : ∃ z, f = z + 1 := ⟨f - 1, by omega⟩
    obtain rfl : k = 256 := by omega
    obtain ⟨σ1, h1, k1, w1⟩ := X_weighG (st := 4) hT st_4 hG
    have hq : ∀ m, qF (Ls 0) G m ≤ 4 := fun m => (qF_ok (Ls 0) G m).1
    have hmb : mbN (qF (Ls 0) G) nm < 2 ^ nm := bS_lt _ nm
    have hal : alN (qF (Ls 0) G) nm < 2 ^ nm := bS_lt _ nm
    have p2 := p2_lt hnm
    have eS : SLn (mbN (qF (Ls 0) G) nm) 10 = SLn (mbN (qF (Ls 0) G) nm) nm := by
      have := SLn_stop hmb (10 - nm)
      rw [show nm + (10 - nm) = 10 by omega] at this
      exact this
    have eM := SL_sets hq nm nm (Nat.le_refl _)
    obtain ⟨σ2, h2, k2, r2⟩ := X_look_46 (mt := mt) (z := z) (l := l) (G := G) (nf := nf) (nm := nm) (Ls := Ls) (mbN (qF (Ls 0) G) nm) (alN (qF (Ls 0) G) nm) (by omega) (by omega) (SLn (mbN (qF (Ls 0) G) nm) 10) 0 0 fu [] σ1 (chk_mb (by omega)) (fun x hx => SLn_lt _ 10 x hx) (by rw [SLn_len]; omega) (TX_k hT k1 tX_w) (by rw [k1.1 14 (by decide)]; exact hG) w1.2.1 (fun p hp => by rw [k1.1 45 (by decide), h45 p hp]; simp) (by rw [SLn_len]; have := cntN_le (mbN (qF (Ls 0) G) nm) 10; have := Nat.pow_le_pow_right (n := 2) (by decide) this; show _ < 5000; omega) (by omega)
    refine ⟨σ2, ?_, (k1.up (by decide)).tr (k2.up (by decide)), fun p hp => ?_⟩
    · rw [FX1_look_2, if_pos (show (256 : Int32) ≤ nI 256 by decide), h1, bdV_s]
      simp only [hl_]
      rw [w1.2.2.1]
      exact h2
    · rw [r2 p hp, List.nil_append, eS, ← eM, List.map_map]
      rfl
  | succ n ih =>
    intro k f σ hT hG h45 hk hf
    obtain ⟨f, rfl⟩ : ∃ z, f = z + 1 := ⟨f - 1, by omega⟩
    have kp : kX [8, 39, 40, 41, 42, 45] σ (pI σ 45 k 0) := kX.p (by decide)
    obtain ⟨σ', h1, k1, r1⟩ := ih (k + 1) f (pI σ 45 k 0) (TX_k hT kp (by unfold tX; decide)) (by rw [kp.1 14 (by decide)]; exact hG) (fun j hj' => by
      rw [pI_s]
      by_cases ej : j = k
      · rw [ej, pk_us]
      · rw [pk_un (by omega)]; exact h45 j (by omega)) (by omega) (by omega)
    refine ⟨σ', ?_, kp.tr k1, r1⟩
    rw [FX1_look_2, if_neg (show ¬ (256 : Int32) ≤ nI k from nI_ge (b := 256) (by omega) (by omega)), gd_t (ix_nI (by omega) (by omega)), cl_nI (by omega), nI_1]
    exact h1
def xmtN (S : List Nat) (x : Nat) : Nat → Nat → Bool
  | 0, _ => true
  | n + 1, k => if k ∈ S ∧ k &&& x = 0 then false else xmtN S x n (k + 1)
theorem xmt_all (S : List Nat) (x : Nat) : ∀ n k, xmtN S x n k = true ↔ ∀ p, k ≤ p → p < k + n → p ∈ S → ¬ p &&& x = 0 := by
  intro n
  induction n with
  | zero => intro k; simp only [xmtN, true_iff]; intro p h1 h2; omega
  | succ n ih =>
    intro k
    simp only [xmtN]
    by_cases h : k ∈ S ∧ k &&& x = 0
    · rw [if_pos h]
      constructor
      · intro h'; cases h'
      · intro h'; exact absurd h.2 (h' k (by omega) (by omega) h.1)
    · rw [if_neg h, ih (k + 1)]
      constructor
      · intro h' p h1 h2 h3
        by_cases e : p = k
        · subst e; exact fun h4 => h ⟨h3, h4⟩
        · exact h' p (by omega) (by omega) h3
      · intro h' p h1 h2 h3; exact h' p (by omega) (by omega) h3
theorem xmt_met (q : Nat → Nat) (G : Nat → Int32) (mt nm x : Nat) : xmtN ((setsL q nm).map (fun c => poN G mt c nm)) x 256 0 = metB q G mt nm x := by
  apply Bool.eq_iff_iff.mpr
  rw [xmt_all]
  unfold metB
  rw [List.all_eq_true]
  constructor
  · intro h c hc
    have := h (poN G mt c nm) (by omega) (by have := poN_lt G mt c nm; omega) (List.mem_map.mpr ⟨c, hc, rfl⟩)
    simpa using this
  · intro h p _ _ hp
    obtain ⟨c, hc, rfl⟩ := List.mem_map.mp hp
    simpa using h c hc
theorem X_isMetBy_2 {S : List Nat} {x : Nat} {σ : HS} (hx : x < 256) (h45 : ∀ p, p < 256 → σ.1 45 p = if p ∈ S then 1 else 0) : ∀ (n k f : Nat), k + n = 256 → n < f → FX1_isMetBy_2 f (nI x) (nI k) σ = some (bI (xmtN S x n k), σ) := by
  intro n
  induction n with
  | zero =>
    intro k f hk hf
    obtain ⟨f, rfl⟩ : ∃ z, f = z + 1 := ⟨f - 1, by omega⟩
    obtain rfl : k = 256 := by omega
    rw [FX1_isMetBy_2, if_pos (show (256 : Int32) ≤ nI 256 by decide)]; rfl
  | succ n ih =>
    intro k f hk hf
    obtain ⟨f, rfl⟩ : ∃ z, f = z + 1 := ⟨f - 1, by omega⟩
    have ih' := ih (k + 1) f (by omega) (by omega)
    simp only [xmtN]
    rw [FX1_isMetBy_2, if_neg (show ¬ (256 : Int32) ≤ nI k from nI_ge (b := 256) (by omega) (by omega)), gd_t (ix_nI (by omega) (by omega)), cl_nI (by omega), h45 k (by omega), nI_1]
    by_cases h : k ∈ S
    · rw [if_pos h, if_neg one_ne]
      by_cases h0 : k &&& x = 0
      · rw [if_pos ((nI_and0 (by omega)).mpr h0), if_pos ⟨h, h0⟩]; rfl
      · rw [if_neg (fun e => h0 ((nI_and0 (by omega)).mp e)), if_neg (fun h => h0 h.2)]
        exact ih'
    · rw [if_neg h, if_pos rfl, if_neg (fun h' => h h'.1)]
      exact ih'
theorem X_isMetBy {q : Nat → Nat} {G : Nat → Int32} {mt nm x : Nat} {σ : HS} (hx : x < 256) (h45 : ∀ p, p < 256 → σ.1 45 p = if p ∈ (setsL q nm).map (fun c => poN G mt c nm) then 1 else 0) : FX1_isMetBy (nI x) σ = some (bI (metB q G mt nm x), σ) := by
  have := X_isMetBy_2 hx h45 256 0 fu (by omega) (by show 256 < 5000; omega)
  rw [xmt_met] at this
  exact this
theorem sT_24 : St_24 Rel := by
  intro n σX σM hn hR x1 x2
  obtain ⟨side, nm, nf, z, l, sd, Ls, t, r, v, p, s, w, e, pl, ky⟩ := id hR
  obtain ⟨hT, hsd, hM, hzl, hsM⟩ := t
  have hnm := hT.1
  have hnf := hT.2.1
  have h30 := hT.2.2.1
  have h31 := hT.2.2.2.1
  rcases rng x1 nf (by omega) with ⟨f, hf, rfl⟩ | ho
  · have XI := X_isFamily_i h31 hnf hf
    have MI := M_isFamily_i hM hf
    rcases rngT x2 5 (by omega) with ⟨mt, hmt, rfl⟩ | ho
    · have XJ := X_isMatter_i hmt (σ := σX)
      have MJ := M_isMatter_i hmt (σ := σM)
      obtain ⟨σa, ha, ka, sa⟩ := X_look_2 (mt := mt) 256 0 fu σX hT r (fun p hp => by omega) (by omega) (by show 256 < 5000; omega)
      obtain ⟨σb, hb, kb, Qb, -⟩ := M_copiesFalls hM
      have p2 := p2_lt hnm
      obtain ⟨σc, hc, kc, hitc⟩ := M_fillsHits_6 (mt := mt) (2 ^ nm) 0 fu σb Qb (fun j hj => by omega) (by omega) (by show 2 ^ nm < 5000; omega)
      have Qc := MQs_kM kc s_38 (by decide) (by decide) (by decide) (by decide) (by decide) (by decide) Qb
      have hpl := partsN_lt (σM.1 31) (nI f)
      have eX : FX7_partsOf 4 (nI f) σa = some (nI (partsN (σM.1 31) (nI f)), σa) := by
        have e := partsF_congr (g := rowC nm (σa.1 14)) (g' := σM.1 31) (fun p hp => by rw [ka.1 14 (by decide)]; exact r (10 + p) (by omega)) (nI f)
        rw [X_partsOf st_4 nm, show (4 + 10) = 14 from rfl, e, partsF_N]
      have eM : FX12_partBits (nI f) σc = some (nI (partsN (σM.1 31) (nI f)), σc) := by
        rw [M_partBits, ← partsF_N, partsF_congr (fun p hp => Qc.2.1 (10 + p) (by omega))]
      refine ⟨bI (metB (qF (Ls 0) (σM.1 31)) (σM.1 31) mt nm (partsN (σM.1 31) (nI f))), σa, σc, ?_, ?_, Rel_q hR (qX.of ka (by decide)) (kM.tr (kb.up (by decide) (by decide)) (kc.up (by decide) (by decide)))⟩
      · unfold FX11_sure FX1_look
        rw [XI, bdI_s, if_neg one_ne, XJ, bdI_s, if_neg one_ne, show (0 : Int32) = nI 0 from rfl, ha, bdV_s, eX, bdI_s, X_isMetBy hpl sa, bdI_s]
        cases metB (qF (Ls 0) (σM.1 31)) (σM.1 31) mt nm (partsN (σM.1 31) (nI f)) <;> rfl
      · unfold FX12_sure FX12_fillsHits
        rw [MI, bdI_s, if_neg one_ne, MJ, bdI_s, if_neg one_ne, hb, bdV_s, show (0 : Int32) = nI 0 from rfl, hc, bdV_s, eM, bdI_s, M_isIn Qc hitc, bdI_s]
        cases metB (qF (Ls 0) (σM.1 31)) (σM.1 31) mt nm (partsN (σM.1 31) (nI f)) <;> rfl
    · exact ⟨-1, σX, σM, by simp only [FX11_sure, XI, X_isMatter_o ho, bdI_s, one_ne, if_false, if_true], by simp only [FX12_sure, MI, M_isMatter_o ho, bdI_s, one_ne, if_false, if_true], Rel_q hR qX.rf kM.rf⟩
  · exact ⟨-1, σX, σM, by simp only [FX11_sure, X_isFamily_o h31 ho, bdI_s, if_true], by simp only [FX12_sure, M_isFamily_o hM ho, bdI_s, if_true], Rel_q hR qX.rf kM.rf⟩
