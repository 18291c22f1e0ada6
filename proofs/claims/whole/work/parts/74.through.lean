/-! the through-stones -/
theorem z_bits {v : Nat} (h1 : 1 ≤ v) (h6 : v ≤ 6) (a : Int32) : (a ≤ (1 <<< (nI v &&& 31)) - 1 ↔ a < 1 <<< (nI v &&& 31)) ∧ (a ≤ (1 <<< (nI v &&& 31)) - 1 → a ≤ 63) := by
  have key : ∀ (x y : Int32), x.toInt + 1 = y.toInt → y.toInt ≤ 64 → (a ≤ x ↔ a < y) ∧ (a ≤ x → a ≤ 63) := by
    intro x y hxy hy
    have h63 : (63 : Int32).toInt = 63 := by decide
    rw [Int32.le_iff_toInt_le, Int32.lt_iff_toInt_lt, Int32.le_iff_toInt_le, h63]
    omega
  rcases (show v = 1 ∨ v = 2 ∨ v = 3 ∨ v = 4 ∨ v = 5 ∨ v = 6 by omega) with rfl | rfl | rfl | rfl | rfl | rfl <;> exact key _ _ (by decide) (by decide)
theorem op_through {S T : St} (hR : math_R S T) (a b : Int32) : ∃ (r : Int32) (S2 T2 : St), fX5_through a b S = some (r, S2) ∧ fX6_through a b T = some (r, T2) ∧ math_R S2 T2 := by
  have hrej := R_thrown 0 hR
  obtain ⟨hK, hH, hA, hW, hP⟩ := id hR
  unfold fX5_through fX6_through
  simp only [pfI, z_within]
  have e18 : (wr T 0 28 0).1 0 18 = T.1 0 18 := rfl
  have e8 : (wr T 0 28 0).1 0 8 = T.1 0 8 := rfl
  have e12 : (wr T 0 28 0).1 0 12 = T.1 0 12 := rfl
  have w0 : S.1 12 0 = T.1 0 8 := hW.1 0 (by omega)
  have w4 : S.1 12 4 = T.1 0 12 := hW.1 4 (by omega)
  rw [hP.2.1, e18, e8, e12, w0, w4]
  by_cases hb : ¬ (T.1 0 18 = 0)
  · simp only [if_neg hb]
    by_cases h8 : T.1 0 8 = 0
    · rw [if_pos h8]
      exact ⟨_, _, _, rfl, rfl, hrej⟩
    · rw [if_neg h8]
      exact ⟨_, _, _, rfl, rfl, hrej⟩
  replace hb := Classical.not_not.mp hb
  by_cases h8 : T.1 0 8 = 0
  · simp only [if_pos hb, if_pos h8]
    exact ⟨_, _, _, rfl, rfl, hrej⟩
  have hw := hW.2.resolve_left h8
  obtain ⟨v, hv1, hv6, ev⟩ := hw.2.2.2.2.1
  simp only [if_pos hb, if_neg h8, z_c0, z_c1, if_true, if_false]
  by_cases h1 : a < 0
  · simp only [if_pos h1]
    exact ⟨_, _, _, rfl, rfl, hrej⟩
  have hbits := z_bits hv1 hv6 a
  rw [← ev] at hbits
  by_cases h2 : ¬ (a ≤ (1 <<< (T.1 0 12 &&& 31)) - 1)
  · simp only [if_neg h1, if_neg h2, if_neg (fun h => h2 (hbits.1.mpr h))]
    exact ⟨_, _, _, rfl, rfl, hrej⟩
  replace h2 := Classical.not_not.mp h2
  simp only [if_neg h1, if_pos h2, if_pos (hbits.1.mp h2)]
  by_cases h3 : b < 0
  · simp only [if_pos h3]
    exact ⟨_, _, _, rfl, rfl, hrej⟩
  by_cases h4 : ¬ (b ≤ 3)
  · simp only [if_neg h3, if_neg h4]
    exact ⟨_, _, _, rfl, rfl, hrej⟩
  replace h4 := Classical.not_not.mp h4
  simp only [if_neg h3, if_pos h4, z_forget, caV_some, z_noPlan]
  refine ⟨_, _, _, rfl, rfl, R_setup hP hb ?_ ?_ ?_ ?_ rfl rfl rfl rfl rfl rfl⟩
  · exact RK_eq rfl rfl rfl rfl rfl rfl hK
  · exact RH_eq rfl rfl rfl rfl rfl rfl hH
  · exact RA_eq (fun h hh => by rcases (show h = 0 ∨ h = 1 ∨ h = 2 ∨ h = 3 ∨ h = 4 by omega) with rfl | rfl | rfl | rfl | rfl <;> rfl) rfl hA
  · refine ⟨fun j hj => ?_, Or.inr ⟨hw.1, hw.2.1, hw.2.2.1, hw.2.2.2.1, hw.2.2.2.2.1, hw.2.2.2.2.2.1, hw.2.2.2.2.2.2.1, ?_, ?_⟩⟩
    · rcases (show j = 0 ∨ j = 1 ∨ j = 2 ∨ j = 3 ∨ j = 4 ∨ j = 5 ∨ j = 6 ∨ j = 7 ∨ j = 8 by omega) with rfl | rfl | rfl | rfl | rfl | rfl | rfl | rfl | rfl
      · exact hW.1 0 (by omega)
      · exact hW.1 1 (by omega)
      · exact hW.1 2 (by omega)
      · exact hW.1 3 (by omega)
      · exact hW.1 4 (by omega)
      · exact hW.1 5 (by omega)
      · exact hW.1 6 (by omega)
      · rfl
      · rfl
    · exact rg_of (a := 0) (b := 63) (by rfl) (by rfl) (by omega) (by omega) h1 (hbits.2 h2)
    · exact rg_of (a := 0) (b := 3) (by rfl) (by rfl) (by omega) (by omega) h3 h4
/-! loops, in general -/
/-- a loop over an index: each turn goes on, or is at its end -/
theorem it_for {γ σ β : Type} {z : γ} {F : γ → γ} (ap : Nat → σ → γ → Option β) (n : Nat) (I : Nat → σ → Prop) (P : Option β → Prop)
    (hs : ∀ j s r, j < n → I j s → P (ap j s (F r)) ∨ ∃ s', I (j + 1) s' ∧ ap j s (F r) = ap (j + 1) s' r)
    (he : ∀ s r, I n s → P (ap n s (F r))) : ∀ N j s, n < N + j → j ≤ n → I j s → P (ap j s (itN z F N)) := by
  intro N
  induction N with
  | zero => intro j s h1 h2; omega
  | succ N ih =>
    intro j s h1 h2 hI
    show P (ap j s (F (itN z F N)))
    by_cases hj : j = n
    · subst hj
      exact he s _ hI
    · rcases hs j s (itN z F N) (by omega) hI with h | ⟨s', hI', e⟩
      · exact h
      · rw [e]
        exact ih (j + 1) s' (by omega) (by omega) hI'
/-- a loop with a measure -/
theorem it_run {γ σ β : Type} {z : γ} {F : γ → γ} (ap : σ → γ → Option β) (I : Nat → σ → Prop) (P : Option β → Prop)
    (hs : ∀ m s r, I m s → P (ap s (F r)) ∨ ∃ m' s', m' < m ∧ I m' s' ∧ ap s (F r) = ap s' r) : ∀ N m s, m < N → I m s → P (ap s (itN z F N)) := by
  intro N
  induction N with
  | zero => intro m s h1; omega
  | succ N ih =>
    intro m s h1 hI
    show P (ap s (F (itN z F N)))
    rcases hs m s (itN z F N) hI with h | ⟨m', s', hm, hI', e⟩
    · exact h
    · rw [e]
      exact ih m' s' (by omega) hI'
/-- sums of numbers -/
def sI (f : Nat → Int32) : Nat → Int32
  | 0 => 0
  | n + 1 => sI f n + f n
theorem sI_eq {f g : Nat → Int32} {n : Nat} (h : ∀ i, i < n → f i = g i) : sI f n = sI g n := by
  induction n with
  | zero => rfl
  | succ n ih =>
    show sI f n + f n = sI g n + g n
    rw [ih (fun i hi => h i (by omega)), h n (by omega)]
/-- a loop that adds up, then goes on with K -/
theorem it_sum {β : Type} {z : Int32 → Int32 → Option β} {F : (Int32 → Int32 → Option β) → Int32 → Int32 → Option β} {n N : Nat} {f : Nat → Int32} {K : Int32 → Option β} (hN : n < N)
    (hs : ∀ j x r, j < n → F r x (nI j) = r (x + f j) (nI (j + 1))) (he : ∀ x r, F r x (nI n) = K x) : itN z F N 0 0 = K (sI f n) := by
  have := it_for (z := z) (F := F) (fun j s r => r s (nI j)) n (fun j s => s = sI f j) (fun o => o = K (sI f n)) (fun j s r hj hI => Or.inr ⟨sI f (j + 1), rfl, by subst hI; exact hs j _ r hj⟩) (fun s r hI => by subst hI; exact he _ r) N 0 0 (by omega) (by omega) rfl
  exact this
/-- the same, from another first number -/
theorem it_sum' {β : Type} {z : Int32 → Int32 → Option β} {F : (Int32 → Int32 → Option β) → Int32 → Int32 → Option β} {n N : Nat} {f : Nat → Int32} {K : Int32 → Option β} (x0 : Int32) (hN : n < N)
    (hs : ∀ j x r, j < n → F r x (nI j) = r (x + f j) (nI (j + 1))) (he : ∀ x r, F r x (nI n) = K x) : itN z F N x0 0 = K (x0 + sI f n) := by
  have := it_for (z := z) (F := F) (fun j s r => r s (nI j)) n (fun j s => s = x0 + sI f j) (fun o => o = K (x0 + sI f n)) (fun j s r hj hI => Or.inr ⟨x0 + sI f (j + 1), rfl, by subst hI; rw [show x0 + sI f (j + 1) = (x0 + sI f j) + f j from (Int32.add_assoc _ _ _).symm]; exact hs j _ r hj⟩) (fun s r hI => by subst hI; exact he _ r) N 0 x0 (by omega) (by omega) (Int32.add_zero _).symm
  exact this
