/-! where stones lie -/
theorem pos_step (L : Nat) (l : Nat → Nat) (i : Nat) : (pos L l (i + 1) = ((pos L l i).1 + 1, 0) ∧ (pos L l i).2 + l i = L) ∨ (pos L l (i + 1) = ((pos L l i).1, (pos L l i).2 + l i) ∧ (pos L l i).2 + l i ≠ L) := by
  show ((if (pos L l i).2 + l i = L then ((pos L l i).1 + 1, 0) else ((pos L l i).1, (pos L l i).2 + l i)) = _ ∧ _) ∨ ((if (pos L l i).2 + l i = L then ((pos L l i).1 + 1, 0) else ((pos L l i).1, (pos L l i).2 + l i)) = _ ∧ _)
  by_cases h : (pos L l i).2 + l i = L
  · left; rw [if_pos h]; exact ⟨rfl, h⟩
  · right; rw [if_neg h]; exact ⟨rfl, h⟩
theorem pos_mono {L n : Nat} {l : Nat → Nat} (hl : ∀ i, i < n → 1 ≤ l i) (j : Nat) : ∀ d, j + d < n → (pos L l j).1 ≤ (pos L l (j + 1 + d)).1 ∧ ((pos L l (j + 1 + d)).1 = (pos L l j).1 → (pos L l j).2 + l j + d ≤ (pos L l (j + 1 + d)).2) := by
  intro d
  induction d with
  | zero =>
    intro h
    show (pos L l j).1 ≤ (pos L l (j + 1)).1 ∧ ((pos L l (j + 1)).1 = (pos L l j).1 → (pos L l j).2 + l j + 0 ≤ (pos L l (j + 1)).2)
    rcases pos_step L l j with ⟨h1, h2⟩ | ⟨h1, h2⟩
    · rw [h1]
      exact ⟨Nat.le_succ _, fun h => by simp at h⟩
    · rw [h1]
      exact ⟨Nat.le_refl _, fun _ => Nat.le_refl _⟩
  | succ d ih =>
    intro h
    obtain ⟨i1, i2⟩ := ih (by omega)
    have h1 := hl (j + 1 + d) (by omega)
    show (pos L l j).1 ≤ (pos L l (j + 1 + d + 1)).1 ∧ ((pos L l (j + 1 + d + 1)).1 = (pos L l j).1 → (pos L l j).2 + l j + (d + 1) ≤ (pos L l (j + 1 + d + 1)).2)
    rcases pos_step L l (j + 1 + d) with ⟨h1, h2⟩ | ⟨h1, h2⟩
    · rw [h1]
      exact ⟨by show _ ≤ _ + 1; omega, fun h => by have h : (pos L l (j + 1 + d)).1 + 1 = _ := h; omega⟩
    · rw [h1]
      exact ⟨i1, fun h => by
        have := i2 h
        show _ ≤ (pos L l (j + 1 + d)).2 + l (j + 1 + d)
        omega⟩
theorem pos_lt {L n : Nat} {l : Nat → Nat} (hl : ∀ i, i < n → 1 ≤ l i) {j i : Nat} (hji : j < i) (hi : i ≤ n) : (pos L l j).1 ≤ (pos L l i).1 ∧ ((pos L l i).1 = (pos L l j).1 → (pos L l j).2 + l j + (i - j - 1) ≤ (pos L l i).2) := by
  have := pos_mono (L := L) hl j (i - j - 1) (by omega)
  rw [show j + 1 + (i - j - 1) = i by omega] at this
  exact this
/-- stones of one course that touch are neighbours -/
theorem pos_touch {L n : Nat} {l : Nat → Nat} (hl : ∀ i, i < n → 1 ≤ l i) {j i : Nat} (hj : j < n) (hi : i < n) (hc : (pos L l j).1 = (pos L l i).1) (ht : (pos L l j).2 + l j = (pos L l i).2) : j + 1 = i := by
  have l1 := hl j hj
  have l2 := hl i hi
  rcases Nat.lt_trichotomy j i with h | h | h
  · have := (pos_lt (L := L) hl h (by omega)).2 hc.symm
    omega
  · subst h; omega
  · have := (pos_lt (L := L) hl h (by omega)).2 hc
    omega
theorem pos_next {L : Nat} {l : Nat → Nat} {i : Nat} (hc : (pos L l (i + 1)).1 = (pos L l i).1) : (pos L l (i + 1)).2 = (pos L l i).2 + l i := by
  rcases pos_step L l i with ⟨h1, h2⟩ | ⟨h1, h2⟩
  · rw [h1] at hc; simp at hc
  · rw [h1]
/-- how much of stone i lies on stone j -/
def ovl (P l : Nat → Nat) (i j : Nat) : Nat := min (P j + l j) (P i + l i) - max (P j) (P i)
/-- how much of stone i lies on the course below -/
def lsum (C P l : Nat → Nat) (f : Nat → Bool) (i : Nat) : Nat → Nat
  | 0 => 0
  | m + 1 => lsum C P l f i m + (if C m + 1 = C i ∧ f m = true then ovl P l i m else 0)
theorem lsum_congr {C P l : Nat → Nat} {f g : Nat → Bool} {i m : Nat} (h : ∀ j, j < m → C j + 1 = C i → f j = g j) : lsum C P l f i m = lsum C P l g i m := by
  induction m with
  | zero => rfl
  | succ m ih =>
    unfold lsum
    rw [ih (fun j hj => h j (by omega))]
    by_cases e : C m + 1 = C i
    · rw [h m (by omega) e]
    · rw [if_neg (fun h => e h.1), if_neg (fun h => e h.1)]
theorem lsum_mono {C P l : Nat → Nat} {f g : Nat → Bool} {i m : Nat} (h : ∀ j, j < m → f j = true → g j = true) : lsum C P l f i m ≤ lsum C P l g i m := by
  induction m with
  | zero => exact Nat.le_refl _
  | succ m ih =>
    unfold lsum
    have := ih (fun j hj => h j (by omega))
    by_cases e : C m + 1 = C i ∧ f m = true
    · rw [if_pos e, if_pos ⟨e.1, h m (by omega) e.2⟩]; omega
    · rw [if_neg e]; omega
theorem lsum_cut {C P l : Nat → Nat} {f : Nat → Bool} {i : Nat} : ∀ {m : Nat}, i ≤ m → (∀ j, i ≤ j → j < m → C i ≤ C j) → lsum C P l f i m = lsum C P l f i i := by
  intro m
  induction m with
  | zero => intro h _; rw [show i = 0 by omega]
  | succ m ih =>
    intro h hC
    by_cases e : i = m + 1
    · rw [e]
    · show lsum C P l f i m + _ = _
      rw [ih (by omega) (fun j h1 h2 => hC j h1 (by omega))]
      have := hC m (by omega) (by omega)
      rw [if_neg (fun h => by omega), Nat.add_zero]
theorem lsum_le {C P l : Nat → Nat} {f : Nat → Bool} {i m : Nat} (hl : l i ≤ 6) : lsum C P l f i m ≤ 6 * m := by
  induction m with
  | zero => exact Nat.le_refl _
  | succ m ih =>
    unfold lsum
    have : ovl P l i m ≤ 6 := by unfold ovl; omega
    split <;> omega
/-- who stands in the end, found from below -/
def fnS (st : Nat → Bool) (gd : (Nat → Bool) → Nat → Bool) : Nat → Nat → Bool
  | 0 => fun _ => false
  | i + 1 => fun j => if j = i then st i && gd (fnS st gd i) i else fnS st gd i j
theorem fnS_old {st : Nat → Bool} {gd : (Nat → Bool) → Nat → Bool} {j : Nat} : ∀ {m : Nat}, j < m → fnS st gd m j = (st j && gd (fnS st gd j) j) := by
  intro m
  induction m with
  | zero => intro h; omega
  | succ m ih =>
    intro h
    show (if j = m then _ else _) = _
    by_cases e : j = m
    · rw [if_pos e, e]
    · rw [if_neg e]; exact ih (by omega)
theorem fnS_out {st : Nat → Bool} {gd : (Nat → Bool) → Nat → Bool} {j : Nat} : ∀ {m : Nat}, m ≤ j → fnS st gd m j = false := by
  intro m
  induction m with
  | zero => intro h; rfl
  | succ m ih =>
    intro h
    show (if j = m then _ else _) = _
    rw [if_neg (by omega)]; exact ih (by omega)
/-- does stone i keep its place, the stones f standing -/
def keeps (C P l hd : Nat → Nat) (n : Nat) (f : Nat → Bool) (i : Nat) : Bool := !decide (hd i = 0) && (decide (C i = 0) || decide (l i ≤ 2 * lsum C P l f i n))
theorem keeps_congr {C P l hd : Nat → Nat} {n : Nat} {f g : Nat → Bool} {i : Nat} (h : ∀ j, j < n → C j + 1 = C i → f j = g j) : keeps C P l hd n f i = keeps C P l hd n g i := by
  unfold keeps
  rw [lsum_congr h]
theorem keeps_mono {C P l hd : Nat → Nat} {n : Nat} {f g : Nat → Bool} {i : Nat} (h : ∀ j, j < n → f j = true → g j = true) (hk : keeps C P l hd n f i = true) : keeps C P l hd n g i = true := by
  have hm := lsum_mono (C := C) (P := P) (l := l) (i := i) h
  unfold keeps at hk ⊢
  simp only [Bool.and_eq_true, Bool.or_eq_true, decide_eq_true_eq] at hk ⊢
  refine ⟨hk.1, ?_⟩
  rcases hk.2 with h | h
  · exact Or.inl h
  · exact Or.inr (by omega)
/-- a state in which all that stand keep their places is the last one -/
theorem stable_fin {C P l hd : Nat → Nat} {n : Nat} {st s : Nat → Bool} (hC : ∀ i j, i < n → j < n → C j + 1 = C i → j < i) (h1 : ∀ i, i < n → s i = true → st i = true) (h2 : ∀ i, i < n → fnS st (keeps C P l hd n) n i = true → s i = true) (h3 : ∀ i, i < n → s i = true → keeps C P l hd n s i = true) : ∀ i, i < n → s i = fnS st (keeps C P l hd n) n i := by
  have key : ∀ m i, i < m → i < n → s i = fnS st (keeps C P l hd n) n i := by
    intro m
    induction m with
    | zero => intro i h; omega
    | succ m ih =>
      intro i hi hin
      cases hs : s i with
      | false =>
        cases hf : fnS st (keeps C P l hd n) n i with
        | false => rfl
        | true => rw [h2 i hin hf] at hs; exact absurd hs (by simp)
      | true =>
        rw [fnS_old hin, h1 i hin hs, ← keeps_congr (f := s) (fun j hj hc => ?_), h3 i hin hs]
        · rfl
        · have hji := hC i j hin hj hc
          rw [ih j (by omega) hj, fnS_old hj, fnS_old hji]
  exact fun i hi => key n i hi hi
theorem fin_stays {C P l hd : Nat → Nat} {n : Nat} {st s : Nat → Bool} (hC : ∀ i j, i < n → j < n → C j + 1 = C i → j < i) (h2 : ∀ i, i < n → fnS st (keeps C P l hd n) n i = true → s i = true) : ∀ i, i < n → fnS st (keeps C P l hd n) n i = true → keeps C P l hd n s i = true := by
  intro i hi hf
  rw [fnS_old hi] at hf
  simp only [Bool.and_eq_true] at hf
  refine keeps_mono (f := fnS st (keeps C P l hd n) n) h2 ?_
  rw [keeps_congr (g := fnS st (keeps C P l hd n) i) (fun j hj hc => ?_)]
  · exact hf.2
  · have hji := hC i j hi hj hc
    rw [fnS_old hj, fnS_old hji]
/-- the places in course c that stand, as bits -/
def msk (C P l : Nat → Nat) (f : Nat → Nat → Bool) (c : Nat) : Nat → Nat
  | 0 => 0
  | i + 1 => if f (i + 1) i = true ∧ C i = c then msk C P l f c i ||| (2 ^ (P i + l i) - 2 ^ P i) else msk C P l f c i
theorem msk_succ (C P l : Nat → Nat) (f : Nat → Nat → Bool) (c i : Nat) : msk C P l f c (i + 1) = if f (i + 1) i = true ∧ C i = c then msk C P l f c i ||| (2 ^ (P i + l i) - 2 ^ P i) else msk C P l f c i := rfl
theorem msk_lt {C P l : Nat → Nat} {f : Nat → Nat → Bool} {c : Nat} : ∀ {m : Nat}, (∀ i, i < m → P i + l i ≤ 24) → msk C P l f c m < 2 ^ 24 := by
  intro m
  induction m with
  | zero => intro _; exact Nat.two_pow_pos 24
  | succ m ih =>
    intro h
    have h1 := ih (fun i hi => h i (by omega))
    have h2 := h m (by omega)
    unfold msk
    split
    · refine Nat.or_lt_two_pow h1 ?_
      have h3 : 2 ^ (P m + l m) ≤ 2 ^ 24 := Nat.pow_le_pow_right (by omega) h2
      have h4 : 0 < 2 ^ P m := Nat.two_pow_pos _
      omega
    · exact h1
theorem msk_bit {C P l : Nat → Nat} {f : Nat → Nat → Bool} {c b : Nat} : ∀ {m : Nat}, (msk C P l f c m).testBit b = true → ∃ j, j < m ∧ C j = c ∧ P j ≤ b ∧ b < P j + l j := by
  intro m
  induction m with
  | zero => intro h; simp [msk] at h
  | succ m ih =>
    intro h
    unfold msk at h
    by_cases e : f (m + 1) m = true ∧ C m = c
    · rw [if_pos e, Nat.testBit_or, iv_bits (by omega)] at h
      simp only [Bool.or_eq_true, decide_eq_true_eq] at h
      rcases h with h | h
      · obtain ⟨j, h1, h2⟩ := ih h
        exact ⟨j, by omega, h2⟩
      · exact ⟨m, by omega, e.2, h⟩
    · rw [if_neg e] at h
      obtain ⟨j, h1, h2⟩ := ih h
      exact ⟨j, by omega, h2⟩
/-- the bits of stone i that are borne are as many as the lengths say -/
theorem msk_cnt {C P l : Nat → Nat} {st : Nat → Bool} {gd : (Nat → Bool) → Nat → Bool} {c i : Nat} (hc : c + 1 = C i) (hi : P i + l i ≤ 24) : ∀ {m : Nat}, (∀ a b, a < b → b < m → C a = C b → P a + l a ≤ P b) → cB ((2 ^ (P i + l i) - 2 ^ P i) &&& msk C P l (fnS st gd) c m).testBit 24 = lsum C P l (fnS st gd m) i m := by
  intro m
  induction m with
  | zero =>
    intro _
    refine cB_none (fun b _ => ?_)
    simp [msk]
  | succ m ih =>
    intro hd
    have h1 := ih (fun a b hab hb => hd a b hab (by omega))
    have hcg : lsum C P l (fnS st gd (m + 1)) i m = lsum C P l (fnS st gd m) i m := lsum_congr (fun j hj _ => by rw [fnS_old (by omega), fnS_old hj])
    show _ = lsum C P l (fnS st gd (m + 1)) i m + (if C m + 1 = C i ∧ fnS st gd (m + 1) m = true then ovl P l i m else 0)
    rw [hcg, ← h1, msk_succ]
    by_cases e : fnS st gd (m + 1) m = true ∧ C m = c
    · rw [if_pos e, if_pos ⟨by omega, e.1⟩]
      have e1 : cB ((2 ^ (P i + l i) - 2 ^ P i) &&& (msk C P l (fnS st gd) c m ||| (2 ^ (P m + l m) - 2 ^ P m))).testBit 24 = cB (fun b => ((2 ^ (P i + l i) - 2 ^ P i) &&& msk C P l (fnS st gd) c m).testBit b || decide (max (P m) (P i) ≤ b ∧ b < min (P m + l m) (P i + l i))) 24 := cB_eq (fun b _ => by
        rw [Nat.testBit_and, Nat.testBit_or, Nat.testBit_and, iv_bits (by omega), iv_bits (by omega), Bool.and_or_distrib_left]
        congr 1
        rw [← Bool.decide_and]
        congr 1
        apply propext
        omega)
      rw [e1, cB_or, cB_iv]
      · unfold ovl
        omega
      · intro b _ ⟨hb1, hb2⟩
        rw [Nat.testBit_and] at hb1
        simp only [Bool.and_eq_true, decide_eq_true_eq] at hb1 hb2
        obtain ⟨j, j1, j2, j3, j4⟩ := msk_bit hb1.2
        have := hd j m j1 (by omega) (by omega)
        omega
    · rw [if_neg e, if_neg (fun h => e ⟨h.2, by omega⟩), Nat.add_zero]
