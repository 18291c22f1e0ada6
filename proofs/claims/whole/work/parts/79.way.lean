/-! whole numbers -/
theorem lc (x y : Int64) : (lg_cmp x y < 0) = (x < y) := by
  unfold lg_cmp
  by_cases h : x > y
  · rw [if_pos h]
    have : ¬ x < y := fun h2 => Int64.lt_irrefl (Int64.lt_trans h h2)
    simp [this]
  · rw [if_neg h]
    by_cases h2 : x = y
    · rw [if_pos h2]
      have : ¬ x < y := by rw [h2]; exact Int64.lt_irrefl
      simp [this]
    · rw [if_neg h2]
      have : x < y := by
        rcases Int64.lt_or_eq_of_le (Int64.not_lt.mp h) with h3 | h3
        · exact h3
        · exact absurd h3 h2
      simp [this]
def iV (v : Int) : Int32 := Int32.ofInt v
def lV (v : Int) : Int64 := Int64.ofInt v
theorem iV_add (a b : Int) : iV a + iV b = iV (a + b) := (Int32.ofInt_add a b).symm
theorem iV_sub (a b : Int) : iV a - iV b = iV (a - b) := (Int32.ofInt_sub a b).symm
theorem lV_add (a b : Int) : lV a + lV b = lV (a + b) := (Int64.ofInt_add a b).symm
theorem lV_sub (a b : Int) : lV a - lV b = lV (a - b) := (Int64.ofInt_sub a b).symm
theorem lV_mul (a b : Int) : lV a * lV b = lV (a * b) := (Int64.ofInt_mul a b).symm
theorem iV_nI (n : Nat) : nI n = iV (n : Int) := rfl
theorem lV_lN (n : Nat) : lN n = lV (n : Int) := rfl
theorem iV_toInt {v : Int} (h1 : - 2147483648 ≤ v) (h2 : v < 2147483648) : (iV v).toInt = v := Int32.toInt_ofInt_of_le (by simpa using h1) (by simpa using h2)
theorem lV_toInt {v : Int} (h1 : - 9223372036854775808 ≤ v) (h2 : v < 9223372036854775808) : (lV v).toInt = v := Int64.toInt_ofInt_of_le (by simpa using h1) (by simpa using h2)
theorem iV_of (x : Int32) : x = iV x.toInt := (Int32.ofInt_toInt x).symm
/-- small numbers -/
def sml (v : Int) : Prop := -1000000000 ≤ v ∧ v ≤ 1000000000
theorem iV_lt {a b : Int} (ha : sml a) (hb : sml b) : (iV a < iV b) = (a < b) := by
  have h1 := ha.1
  have h2 := ha.2
  have h3 := hb.1
  have h4 := hb.2
  rw [Int32.lt_iff_toInt_lt, iV_toInt (by omega) (by omega), iV_toInt (by omega) (by omega)]
theorem lV_lt {a b : Int} (ha : sml a) (hb : sml b) : (lV a < lV b) = (a < b) := by
  have h1 := ha.1
  have h2 := ha.2
  have h3 := hb.1
  have h4 := hb.2
  rw [Int64.lt_iff_toInt_lt, lV_toInt (by omega) (by omega), lV_toInt (by omega) (by omega)]
theorem iV_l {v : Int} (hv : sml v) : (iV v).toInt64 = lV v := by
  have h1 := hv.1
  have h2 := hv.2
  apply Int64.toInt_inj.mp
  rw [Int32.toInt_toInt64, iV_toInt (by omega) (by omega), lV_toInt (by omega) (by omega)]
theorem z_abI {v : Int} (hv : sml v) : abI (iV v) = nI v.natAbs := by
  have h1 := hv.1
  have h2 := hv.2
  unfold abI
  have e0 : (0 : Int32) = iV 0 := rfl
  by_cases h : 0 ≤ v
  · rw [if_pos (by rw [Int32.le_iff_toInt_le, iV_toInt (by omega) (by omega)]; exact h), iV_nI]
    congr 1
    omega
  · rw [if_neg (by rw [Int32.le_iff_toInt_le, iV_toInt (by omega) (by omega)]; exact h), e0, iV_sub, iV_nI]
    congr 1
    omega
theorem z_size {v : Int} (hv : sml v) : fX6_size (iV v) = some (nI v.natAbs) := by
  rw [← z_abI hv]
  unfold fX6_size abI
  by_cases h : iV v < 0
  · rw [if_pos h, if_neg (Int32.not_le.mpr h), Int32.zero_sub]
  · rw [if_neg h, if_pos (Int32.not_lt.mp h)]
/-! ways -/
def wy (X Y : Nat → Int32) (x y : Int32) (h p : Nat) : Nat := ((X h).toInt - (x.toInt + p)).natAbs + ((Y h).toInt - y.toInt).natAbs
theorem mp_toInt {x : Int32} (h : mp x) : -100 ≤ x.toInt ∧ x.toInt ≤ 100 := by
  have h1 := Int32.le_iff_toInt_le.mp h.1
  have h2 := Int32.le_iff_toInt_le.mp h.2
  have e1 : (-100 : Int32).toInt = -100 := by decide
  have e2 : (100 : Int32).toInt = 100 := by decide
  rw [e1] at h1
  rw [e2] at h2
  exact ⟨h1, h2⟩
theorem wy_le {X Y : Nat → Int32} {x y : Int32} {h p : Nat} (hX : mp (X h)) (hY : mp (Y h)) (hx : mp x) (hy : mp y) (hp : p ≤ 24) : wy X Y x y h p ≤ 424 := by
  have h1 := mp_toInt hX
  have h2 := mp_toInt hY
  have h3 := mp_toInt hx
  have h4 := mp_toInt hy
  unfold wy
  omega
theorem z_way {S : St} {h p : Nat} (hh : h < 5) (hp : p ≤ 24) (hX : mp (S.1 4 h)) (hY : mp (S.1 5 h)) (hx : mp (S.1 12 1)) (hy : mp (S.1 12 2)) : fX0_way (nI h) (nI p) S = some (nI (wy (S.1 4) (S.1 5) (S.1 12 1) (S.1 12 2) h p)) := by
  have h1 := mp_toInt hX
  have h2 := mp_toInt hY
  have h3 := mp_toInt hx
  have h4 := mp_toInt hy
  unfold fX0_way wy
  simp (disch := omega) only [z_ldI]
  have a1 : S.1 4 h - (S.1 12 1 + nI p) = iV ((S.1 4 h).toInt - ((S.1 12 1).toInt + p)) := by
    rw [← iV_sub, ← iV_add, ← iV_of, ← iV_of, ← iV_nI]
  have a2 : S.1 5 h - S.1 12 2 = iV ((S.1 5 h).toInt - (S.1 12 2).toInt) := by
    rw [← iV_sub, ← iV_of, ← iV_of]
  rw [a1, a2, z_abI (by unfold sml; omega), z_abI (by unfold sml; omega), nI_add]
theorem z_toil {T : St} {i h k l d p : Nat} (hi : i < 150) (hh : h < 5) (e7 : T.1 7 i = nI k) (hk : k < 8) (e1 : T.1 1 k = nI l) (e2 : T.1 2 k = nI d) (hl : l ≤ 6) (hd : d ≤ 4) (e9 : T.1 9 i = nI p) (hp : p ≤ 24) (hX : mp (T.1 3 h)) (hY : mp (T.1 4 h)) (hx : mp (T.1 0 9)) (hy : mp (T.1 0 10)) : fX6_toil (nI i) (nI h) T = some (lN (l * d * wy (T.1 3) (T.1 4) (T.1 0 9) (T.1 0 10) h p)) := by
  have h1 := mp_toInt hX
  have h2 := mp_toInt hY
  have h3 := mp_toInt hx
  have h4 := mp_toInt hy
  unfold fX6_toil wy
  simp (disch := omega) only [z_ldI, e7, e1, e2, e9]
  have a1 : T.1 3 h - T.1 0 9 - nI p = iV ((T.1 3 h).toInt - ((T.1 0 9).toInt + p)) := by
    rw [show (T.1 3 h).toInt - ((T.1 0 9).toInt + (p : Int)) = (T.1 3 h).toInt - (T.1 0 9).toInt - (p : Int) by omega, ← iV_sub, ← iV_sub, ← iV_of, ← iV_of, ← iV_nI]
  have a2 : T.1 4 h - T.1 0 10 = iV ((T.1 4 h).toInt - (T.1 0 10).toInt) := by
    rw [← iV_sub, ← iV_of, ← iV_of]
  rw [a1, a2, z_size (by unfold sml; omega), z_size (by unfold sml; omega), caP_some, caP_some, nI_add, nI_l (by omega), nI_l (by omega), nI_l (by omega), lN_mul, lN_mul]
theorem wy_eq {X Y X2 Y2 : Nat → Int32} {x y x2 y2 : Int32} {h p : Nat} (hX : X h = X2 h) (hY : Y h = Y2 h) (hx : x = x2) (hy : y = y2) : wy X Y x y h p = wy X2 Y2 x2 y2 h p := by
  unfold wy
  rw [hX, hY, hx, hy]
/-! the least of those that can be had -/
def eO : Option Nat → Int32
  | none => -1
  | some b => nI b
def nst (A : Nat → Bool) (w : Nat → Int) : Nat → Option Nat
  | 0 => none
  | h + 1 => if A h then (match nst A w h with
    | none => some h
    | some b => if w h < w b then some h else some b) else nst A w h
theorem nst_some {A : Nat → Bool} {w : Nat → Int} : ∀ {n b : Nat}, nst A w n = some b → b < n ∧ A b = true ∧ ∀ h, h < n → A h = true → w b ≤ w h
  | 0, b, h => by exact absurd h (by simp [nst])
  | n + 1, b, h => by
    have ih := fun b h => nst_some (A := A) (w := w) (n := n) (b := b) h
    unfold nst at h
    by_cases hA : A n = true
    · rw [if_pos hA] at h
      cases hq : nst A w n with
      | none =>
        rw [hq] at h
        have : n = b := Option.some.inj h
        subst this
        refine ⟨by omega, hA, fun i hi hAi => ?_⟩
        by_cases e : i = n
        · rw [e]; exact Int.le_refl _
        · exfalso
          clear h
          have hn : ∀ m, m ≤ n → nst A w m = none → ∀ i, i < m → ¬ A i = true := by
            intro m
            induction m with
            | zero => intro _ _ i hi; omega
            | succ m ihm =>
              intro hm h0 i hi hAi
              unfold nst at h0
              by_cases hAm : A m = true
              · rw [if_pos hAm] at h0
                cases hq2 : nst A w m with
                | none => rw [hq2] at h0; exact absurd h0 (by simp)
                | some b2 =>
                  rw [hq2] at h0
                  by_cases hlt : w m < w b2
                  · simp only [if_pos hlt] at h0; exact absurd h0 (by simp)
                  · simp only [if_neg hlt] at h0; exact absurd h0 (by simp)
              · rw [if_neg hAm] at h0
                by_cases e2 : i = m
                · rw [e2] at hAi; exact hAm hAi
                · exact ihm (by omega) h0 i (by omega) hAi
          exact hn n (Nat.le_refl _) hq i (by omega) hAi
      | some b2 =>
        rw [hq] at h
        obtain ⟨p1, p2, p3⟩ := ih b2 hq
        by_cases hlt : w n < w b2
        · simp only [if_pos hlt] at h
          have : n = b := Option.some.inj h
          subst this
          refine ⟨by omega, hA, fun i hi hAi => ?_⟩
          by_cases e : i = n
          · rw [e]; exact Int.le_refl _
          · have := p3 i (by omega) hAi
            omega
        · simp only [if_neg hlt] at h
          have : b2 = b := Option.some.inj h
          subst this
          refine ⟨by omega, p2, fun i hi hAi => ?_⟩
          by_cases e : i = n
          · rw [e]; omega
          · exact p3 i (by omega) hAi
    · rw [if_neg hA] at h
      obtain ⟨p1, p2, p3⟩ := ih b h
      refine ⟨by omega, p2, fun i hi hAi => ?_⟩
      by_cases e : i = n
      · rw [e] at hAi; exact absurd hAi hA
      · exact p3 i (by omega) hAi
theorem nst_none {A : Nat → Bool} {w : Nat → Int} : ∀ {n : Nat}, nst A w n = none → ∀ i, i < n → ¬ A i = true := by
  intro m
  induction m with
  | zero => intro _ i hi; omega
  | succ m ihm =>
    intro h0 i hi hAi
    unfold nst at h0
    by_cases hAm : A m = true
    · rw [if_pos hAm] at h0
      cases hq2 : nst A w m with
      | none => rw [hq2] at h0; exact absurd h0 (by simp)
      | some b2 =>
        rw [hq2] at h0
        by_cases hlt : w m < w b2
        · simp only [if_pos hlt] at h0; exact absurd h0 (by simp)
        · simp only [if_neg hlt] at h0; exact absurd h0 (by simp)
    · rw [if_neg hAm] at h0
      by_cases e2 : i = m
      · rw [e2] at hAi; exact hAm hAi
      · exact ihm h0 i (by omega) hAi
/-- a loop that finds the least -/
theorem it_nst {β : Type} {z : Int32 → Int32 → Option β} {F : (Int32 → Int32 → Option β) → Int32 → Int32 → Option β} {n N : Nat} {A : Nat → Bool} {w : Nat → Int} {K : Int32 → Option β} (hN : n < N)
    (hs0 : ∀ j x r, j < n → A j = false → (x = -1 ∨ ∃ b, b < j ∧ x = nI b) → F r x (nI j) = r x (nI (j + 1)))
    (hs1 : ∀ j r, j < n → A j = true → F r (-1) (nI j) = r (nI j) (nI (j + 1)))
    (hs2 : ∀ j b r, j < n → b < j → A j = true → F r (nI b) (nI j) = r (if w j < w b then nI j else nI b) (nI (j + 1)))
    (he : ∀ x r, F r x (nI n) = K x) : itN z F N (-1) 0 = K (eO (nst A w n)) := by
  have := it_for (z := z) (F := F) (σ := Int32) (fun j s (r : Int32 → Int32 → Option β) => r s (nI j)) n (fun j s => s = eO (nst A w j)) (fun o => o = K (eO (nst A w n))) (by
    intro j s r hj hI
    subst hI
    right
    refine ⟨_, rfl, ?_⟩
    show F r (eO (nst A w j)) (nI j) = r (eO (nst A w (j + 1))) (nI (j + 1))
    cases hA : A j with
    | false =>
      rw [hs0 j _ r hj hA (by
        cases hq : nst A w j with
        | none => exact Or.inl rfl
        | some b => exact Or.inr ⟨b, (nst_some hq).1, rfl⟩)]
      show _ = r (eO (if A j then _ else nst A w j)) _
      rw [hA, if_neg (by simp)]
    | true =>
      cases hq : nst A w j with
      | none =>
        show F r (-1) (nI j) = r (eO (if A j then _ else nst A w j)) _
        rw [hs1 j r hj hA, hq, hA, if_pos rfl]
        rfl
      | some b =>
        have hb := (nst_some hq).1
        show F r (nI b) (nI j) = r (eO (if A j then _ else nst A w j)) _
        rw [hs2 j b r hj hb hA, hq, hA, if_pos rfl]
        by_cases hlt : w j < w b
        · simp only [if_pos hlt]; rfl
        · simp only [if_neg hlt]; rfl) (fun s r hI => by subst hI; exact he _ r) N 0 (-1) (by omega) (by omega) rfl
  exact this
theorem eO_none : eO none = -1 := rfl
theorem eO_some (b : Nat) : eO (some b) = nI b := rfl
