/-! bits -/
theorem nb_bv (n : Nat) : (nI n).toBitVec = BitVec.ofNat 32 n := rfl
theorem nb_and (a b : Nat) : nI a &&& nI b = nI (a &&& b) := by
  apply Int32.toBitVec_inj.mp
  rw [Int32.toBitVec_and, nb_bv, nb_bv, nb_bv, BitVec.ofNat_and]
theorem nb_or (a b : Nat) : nI a ||| nI b = nI (a ||| b) := by
  apply Int32.toBitVec_inj.mp
  rw [Int32.toBitVec_or, nb_bv, nb_bv, nb_bv, BitVec.ofNat_or]
theorem nb_xor (a b : Nat) : nI a ^^^ nI b = nI (a ^^^ b) := by
  apply Int32.toBitVec_inj.mp
  rw [Int32.toBitVec_xor, nb_bv, nb_bv, nb_bv, BitVec.ofNat_xor]
theorem nb_a31 {e : Nat} (h : e < 32) : nI e &&& 31 = nI e := by
  show nI e &&& nI 31 = nI e
  rw [nb_and]
  have : e &&& 31 = e := by
    have := Nat.and_two_pow_sub_one_eq_mod e 5
    simp only [Nat.reducePow, Nat.reduceSub] at this
    rw [this]
    omega
  rw [this]
theorem nb_smod {e : Nat} (h : e < 32) : ((nI e).toBitVec.smod 32).toNat = e := by
  have : ∀ e, e < 32 → ((nI e).toBitVec.smod 32).toNat = e := by decide
  exact this e h
theorem nb_shl {e : Nat} (h : e < 31) : (1 : Int32) <<< (nI e &&& 31) = nI (2 ^ e) := by
  rw [nb_a31 (by omega)]
  have h2 : 2 ^ e < 2 ^ 31 := Nat.pow_lt_pow_right (by omega) h
  have := pk_shlN (n := 1) (nI e) e (nb_smod (by omega)) (by omega)
  rw [Nat.one_mul] at this
  exact this
theorem nb_shr {m e : Nat} (hm : m < 2 ^ 31) (h : e < 31) : nI m >>> (nI e &&& 31) = nI (m / 2 ^ e) := by
  rw [nb_a31 (by omega)]
  exact pk_shrN hm (nI e) e (nb_smod (by omega))
theorem nb_tst {m e : Nat} (hm : m < 2 ^ 31) (h : e < 31) : (nI m >>> (nI e &&& 31)) &&& 1 = if m.testBit e then 1 else 0 := by
  rw [nb_shr hm h]
  show nI (m / 2 ^ e) &&& nI 1 = _
  rw [nb_and, Nat.and_one_is_mod, Nat.testBit_eq_decide_div_mod_eq]
  rcases (show m / 2 ^ e % 2 = 0 ∨ m / 2 ^ e % 2 = 1 by omega) with h | h <;> rw [h] <;> rfl
/-- how many of the first n are so -/
def cB (f : Nat → Bool) : Nat → Nat
  | 0 => 0
  | n + 1 => cB f n + (if f n then 1 else 0)
theorem cB_eq {f g : Nat → Bool} {n : Nat} (h : ∀ i, i < n → f i = g i) : cB f n = cB g n := by
  induction n with
  | zero => rfl
  | succ n ih =>
    show cB f n + _ = cB g n + _
    rw [ih (fun i hi => h i (by omega)), h n (by omega)]
theorem cB_le (f : Nat → Bool) (n : Nat) : cB f n ≤ n := by
  induction n with
  | zero => exact Nat.le_refl _
  | succ n ih =>
    show cB f n + (if f n then 1 else 0) ≤ n + 1
    split <;> omega
theorem cB_add (f : Nat → Bool) (n : Nat) : ∀ k, cB f (n + k) = cB f n + cB (fun i => f (n + i)) k := by
  intro k
  induction k with
  | zero => rfl
  | succ k ih =>
    show cB f (n + k) + (if f (n + k) then 1 else 0) = cB f n + (cB (fun i => f (n + i)) k + (if f (n + k) then 1 else 0))
    omega
theorem cB_or {f g : Nat → Bool} {n : Nat} (h : ∀ i, i < n → ¬ (f i = true ∧ g i = true)) : cB (fun i => f i || g i) n = cB f n + cB g n := by
  induction n with
  | zero => rfl
  | succ n ih =>
    have h1 := h n (by omega)
    show cB (fun i => f i || g i) n + (if (f n || g n) = true then 1 else 0) = (cB f n + (if f n = true then 1 else 0)) + (cB g n + (if g n = true then 1 else 0))
    rw [ih (fun i hi => h i (by omega))]
    cases hf : f n <;> cases hg : g n <;> simp [hf, hg] at h1 ⊢ <;> omega
theorem cB_none {f : Nat → Bool} {n : Nat} (h : ∀ i, i < n → f i = false) : cB f n = 0 := by
  induction n with
  | zero => rfl
  | succ n ih =>
    show cB f n + (if f n then 1 else 0) = 0
    rw [ih (fun i hi => h i (by omega)), h n (by omega)]
    rfl
theorem cB_iv (x y : Nat) : ∀ n, cB (fun b => decide (x ≤ b ∧ b < y)) n = min y n - x := by
  intro n
  induction n with
  | zero => show 0 = _; omega
  | succ n ih =>
    show cB (fun b => decide (x ≤ b ∧ b < y)) n + (if decide (x ≤ n ∧ n < y) then 1 else 0) = _
    rw [ih]
    by_cases h : x ≤ n ∧ n < y
    · rw [if_pos (by simpa using h)]; omega
    · rw [if_neg (by simpa using h)]; omega
/-! counting bits -/
theorem and_digit (x μ M : Nat) (hμ : μ < 256) : x &&& (μ + 256 * M) = ((x % 256) &&& μ) + 256 * ((x / 256) &&& M) := by
  have h1 : (x &&& (μ + 256 * M)) / 256 = (x / 256) &&& M := by
    have := Nat.and_div_two_pow (a := x) (b := μ + 256 * M) (n := 8)
    simp only [Nat.reducePow] at this
    rw [this]
    congr 1
    omega
  have h2 : (x &&& (μ + 256 * M)) % 256 = (x % 256) &&& μ := by
    have := Nat.and_mod_two_pow (a := x) (b := μ + 256 * M) (n := 8)
    simp only [Nat.reducePow] at this
    rw [this]
    congr 1
    omega
  rw [← h1, ← h2]
  omega
theorem bt1 : ∀ a, a < 256 → ((a / 2 + 128) &&& 85) = (a / 2 &&& 85) := by decide +kernel
theorem bt2 : ∀ a, a < 256 → ∀ t, t < 4 → ((a / 4 + 64 * t) &&& 51) = (a / 4 &&& 51) := by decide +kernel
/-- the steps -/
def b1 (M x : Nat) : Nat := x - ((x / 2) &&& M)
def b2 (M x : Nat) : Nat := (x &&& M) + ((x / 4) &&& M)
def b3 (M x : Nat) : Nat := (x + x / 16) &&& M
theorem b1_d {a y M : Nat} (ha : a < 256) : b1 (85 + 256 * M) (a + 256 * y) = b1 85 a + 256 * b1 M y := by
  unfold b1
  rw [and_digit _ 85 M (by omega)]
  have h1 : (a + 256 * y) / 2 / 256 = y / 2 := by omega
  have h2 : ((a + 256 * y) / 2 % 256) &&& 85 = a / 2 &&& 85 := by
    rcases (show y % 2 = 0 ∨ y % 2 = 1 by omega) with h | h
    · rw [show (a + 256 * y) / 2 % 256 = a / 2 by omega]
    · rw [show (a + 256 * y) / 2 % 256 = a / 2 + 128 by omega, bt1 a ha]
  rw [h1, h2]
  have l1 : a / 2 &&& 85 ≤ a / 2 := Nat.and_le_left
  have l2 : y / 2 &&& M ≤ y / 2 := Nat.and_le_left
  omega
theorem b2_d {a y M : Nat} (ha : a < 256) : b2 (51 + 256 * M) (a + 256 * y) = b2 51 a + 256 * b2 M y := by
  unfold b2
  rw [and_digit _ 51 M (by omega), and_digit _ 51 M (by omega)]
  have h1 : (a + 256 * y) / 4 / 256 = y / 4 := by omega
  have h0 : (a + 256 * y) / 256 = y := by omega
  have h3 : (a + 256 * y) % 256 = a := by omega
  have h2 : ((a + 256 * y) / 4 % 256) &&& 51 = a / 4 &&& 51 := by
    rw [show (a + 256 * y) / 4 % 256 = a / 4 + 64 * (y % 4) by omega, bt2 a ha _ (by omega)]
  rw [h1, h2, h0, h3]
  omega
theorem b3_d {a y M : Nat} (ha : a % 16 ≤ 4) (ha2 : a / 16 ≤ 4) (hy : y % 16 ≤ 4) : b3 (15 + 256 * M) (a + 256 * y) = b3 15 a + 256 * b3 M y := by
  unfold b3
  rw [and_digit _ 15 M (by omega)]
  have h1 : (a + 256 * y + (a + 256 * y) / 16) / 256 = y + y / 16 := by omega
  have h2 : ((a + 256 * y + (a + 256 * y) / 16) % 256) &&& 15 = (a + a / 16) &&& 15 := by
    have e := Nat.and_two_pow_sub_one_eq_mod ((a + 256 * y + (a + 256 * y) / 16) % 256) 4
    have e2 := Nat.and_two_pow_sub_one_eq_mod (a + a / 16) 4
    simp only [Nat.reducePow, Nat.reduceSub] at e e2
    rw [e, e2, show (a + 256 * y) / 16 = a / 16 + 16 * y by omega]
    generalize a / 16 = d
    omega
  rw [h1, h2]
theorem bt3 : ∀ a, a < 256 → b1 85 a < 256 ∧ b2 51 (b1 85 a) % 16 ≤ 4 ∧ b2 51 (b1 85 a) / 16 ≤ 4 ∧ b3 15 (b2 51 (b1 85 a)) = cB a.testBit 8 := by decide +kernel
theorem b_count {m : Nat} (hm : m < 2 ^ 24) : b3 252645135 (b2 858993459 (b1 1431655765 m)) = cB (m % 256).testBit 8 + 256 * (cB (m / 256 % 256).testBit 8 + 256 * cB (m / 65536).testBit 8) := by
  obtain ⟨a, ha⟩ : ∃ a, a = m % 256 := ⟨_, rfl⟩
  obtain ⟨b, hb⟩ : ∃ b, b = m / 256 % 256 := ⟨_, rfl⟩
  obtain ⟨c, hc⟩ : ∃ c, c = m / 65536 := ⟨_, rfl⟩
  have em : m = a + 256 * (b + 256 * (c + 256 * 0)) := by omega
  have e1 : (1431655765 : Nat) = 85 + 256 * (85 + 256 * (85 + 256 * 85)) := by decide
  have e2 : (858993459 : Nat) = 51 + 256 * (51 + 256 * (51 + 256 * 51)) := by decide
  have e3 : (252645135 : Nat) = 15 + 256 * (15 + 256 * (15 + 256 * 15)) := by decide
  obtain ⟨ta1, ta2, ta3, ta4⟩ := bt3 a (by omega)
  obtain ⟨tb1, tb2, tb3, tb4⟩ := bt3 b (by omega)
  obtain ⟨tc1, tc2, tc3, tc4⟩ := bt3 c (by omega)
  rw [← ha, ← hb, ← hc, em, e1, e2, e3, b1_d (by omega), b1_d (by omega), b1_d (by omega), b2_d ta1, b2_d tb1, b2_d tc1]
  have z1 : b2 51 (b1 85 0) = 0 := by decide
  rw [z1, b3_d ta2 ta3 (by omega), b3_d tb2 tb3 (by omega), b3_d tc2 tc3 (by omega), ta4, tb4, tc4]
  have z2 : b3 15 0 = 0 := by decide
  rw [z2, Nat.mul_zero, Nat.add_zero]
theorem cB_24 (m : Nat) : cB m.testBit 24 = cB (m % 256).testBit 8 + cB (m / 256 % 256).testBit 8 + cB (m / 65536 % 256).testBit 8 := by
  rw [show (24 : Nat) = 8 + 8 + 8 from rfl, cB_add, cB_add]
  have h1 : cB m.testBit 8 = cB (m % 256).testBit 8 := cB_eq (fun i hi => by
    have := Nat.testBit_mod_two_pow m 8 i
    simp only [Nat.reducePow] at this
    rw [this]
    simp [hi])
  have h2 : cB (fun i => m.testBit (8 + i)) 8 = cB (m / 256 % 256).testBit 8 := cB_eq (fun i hi => by
    have := Nat.testBit_mod_two_pow (m / 256) 8 i
    have h3 : (m / 2 ^ 8).testBit i = m.testBit (i + 8) := Nat.testBit_div_two_pow m i
    simp only [Nat.reducePow] at this h3
    rw [this, h3]
    simp [hi, Nat.add_comm])
  have h4 : cB (fun i => m.testBit (8 + 8 + i)) 8 = cB (m / 65536 % 256).testBit 8 := cB_eq (fun i hi => by
    have := Nat.testBit_mod_two_pow (m / 65536) 8 i
    have h3 : (m / 2 ^ 16).testBit i = m.testBit (i + 16) := Nat.testBit_div_two_pow m i
    simp only [Nat.reducePow] at this h3
    rw [this, h3]
    simp [hi, Nat.add_comm])
  rw [h1, h2, h4]
theorem z_us {x k : Nat} (hx : x < 2 ^ 31) (hk : k < 32) : usI (nI x) (nI k) = nI (x / 2 ^ k) := by
  have : ∀ k, k < 32 → (((nI k).toUInt32 &&& Int32.toUInt32 31).toBitVec % 32).toNat = k := by decide
  exact pk_ushrN (by omega) (nI k) k (this k hk)
theorem z_bitCount {m : Nat} (hm : m < 2 ^ 24) : fJ6_bitCount_0f7a4 (nI m) = some (nI (cB m.testBit 24)) := by
  have h1 : m / 2 &&& 1431655765 ≤ m / 2 := Nat.and_le_left
  have hb1 : b1 1431655765 m ≤ m := by unfold b1; omega
  obtain ⟨x1, hx1⟩ : ∃ x1, x1 = b1 1431655765 m := ⟨_, rfl⟩
  have h2 : x1 &&& 858993459 ≤ x1 := Nat.and_le_left
  have h3 : x1 / 4 &&& 858993459 ≤ x1 / 4 := Nat.and_le_left
  obtain ⟨x2, hx2⟩ : ∃ x2, x2 = b2 858993459 x1 := ⟨_, rfl⟩
  have hb2 : x2 ≤ 2 * m := by rw [hx2]; unfold b2; omega
  obtain ⟨x3, hx3⟩ : ∃ x3, x3 = b3 252645135 x2 := ⟨_, rfl⟩
  have hc := b_count hm
  rw [← hx1, ← hx2, ← hx3] at hc
  have c1 := cB_le (m % 256).testBit 8
  have c2 := cB_le (m / 256 % 256).testBit 8
  have c3 := cB_le (m / 65536).testBit 8
  have h24 := cB_24 m
  rw [show m / 65536 % 256 = m / 65536 by omega] at h24
  unfold fJ6_bitCount_0f7a4
  simp only [nmI]
  have s1 : nI m - (usI (nI m) 1 &&& 1431655765) = nI x1 := by
    show nI m - (usI (nI m) (nI 1) &&& nI 1431655765) = nI x1
    rw [z_us (by omega) (by omega), nb_and, pk_sub (Nat.le_trans Nat.and_le_left (Nat.div_le_self _ _)), hx1]
    rfl
  rw [s1]
  have s2 : (nI x1 &&& 858993459) + (usI (nI x1) 2 &&& 858993459) = nI x2 := by
    show (nI x1 &&& nI 858993459) + (usI (nI x1) (nI 2) &&& nI 858993459) = nI x2
    rw [z_us (by omega) (by omega), nb_and, nb_and, nI_add, hx2]
    rfl
  rw [s2]
  have s3 : (nI x2 + usI (nI x2) 4) &&& 252645135 = nI x3 := by
    show (nI x2 + usI (nI x2) (nI 4)) &&& nI 252645135 = nI x3
    rw [z_us (by omega) (by omega), nI_add, nb_and, hx3]
    rfl
  rw [s3]
  have s4 : nI x3 + usI (nI x3) 8 = nI (x3 + x3 / 256) := by
    show nI x3 + usI (nI x3) (nI 8) = _
    rw [z_us (by omega) (by omega), nI_add]
  rw [s4]
  have s5 : nI (x3 + x3 / 256) + usI (nI (x3 + x3 / 256)) 16 = nI ((x3 + x3 / 256) + (x3 + x3 / 256) / 65536) := by
    show nI (x3 + x3 / 256) + usI (nI (x3 + x3 / 256)) (nI 16) = _
    rw [z_us (by omega) (by omega), nI_add]
  rw [s5]
  have s6 : nI ((x3 + x3 / 256) + (x3 + x3 / 256) / 65536) &&& 63 = nI (((x3 + x3 / 256) + (x3 + x3 / 256) / 65536) % 64) := by
    show _ &&& nI 63 = _
    rw [nb_and]
    have := Nat.and_two_pow_sub_one_eq_mod ((x3 + x3 / 256) + (x3 + x3 / 256) / 65536) 6
    simp only [Nat.reducePow, Nat.reduceSub] at this
    rw [this]
  rw [s6, h24]
  congr 2
  generalize cB (m % 256).testBit 8 = A at c1 hc ⊢
  generalize cB (m / 256 % 256).testBit 8 = B at c2 hc ⊢
  generalize cB (m / 65536).testBit 8 = C at c3 hc ⊢
  have d1 : x3 / 256 = B + 256 * C := by omega
  rw [d1]
  have d2 : (x3 + (B + 256 * C)) / 65536 = C := by omega
  rw [d2, hc]
  omega
/-- the places of a stone, as bits -/
theorem iv_bits {p e : Nat} (h : p ≤ e) (b : Nat) : (2 ^ e - 2 ^ p).testBit b = decide (p ≤ b ∧ b < e) := by
  have e1 : 2 ^ e - 2 ^ p = 2 ^ p * (2 ^ (e - p) - 1) := by
    rw [Nat.mul_sub, Nat.mul_one, ← Nat.pow_add]
    congr 2
    omega
  rw [e1, Nat.testBit_two_pow_mul, Nat.testBit_two_pow_sub_one]
  by_cases h1 : p ≤ b
  · simp only [h1, true_and, ge_iff_le, decide_true, Bool.true_and]
    congr 1
    apply propext
    omega
  · simp [h1]
