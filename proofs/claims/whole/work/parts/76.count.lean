/-! calls that count -/
theorem it_find {β : Type} {z : Int32 → Option β} {F : (Int32 → Option β) → Int32 → Option β} {n N j0 : Nat} (p : Nat → Prop) (Ky : Nat → Option β) (Kn : Option β) (hN : n < N + j0) (h0 : j0 ≤ n)
    (hs : ∀ j r, j0 ≤ j → j < n → (p j ∧ F r (nI j) = Ky j) ∨ (¬ p j ∧ F r (nI j) = r (nI (j + 1)))) (he : ∀ r, F r (nI n) = Kn) :
    (∃ j, j0 ≤ j ∧ j < n ∧ p j ∧ (∀ i, j0 ≤ i → i < j → ¬ p i) ∧ itN z F N (nI j0) = Ky j) ∨ ((∀ j, j0 ≤ j → j < n → ¬ p j) ∧ itN z F N (nI j0) = Kn) := by
  refine it_for (σ := Unit) (fun j _ (r : Int32 → Option β) => r (nI j)) n (fun j _ => j0 ≤ j ∧ ∀ i, j0 ≤ i → i < j → ¬ p i) (fun o => (∃ j, j0 ≤ j ∧ j < n ∧ p j ∧ (∀ i, j0 ≤ i → i < j → ¬ p i) ∧ o = Ky j) ∨ ((∀ j, j0 ≤ j → j < n → ¬ p j) ∧ o = Kn)) ?_ ?_ N j0 () hN h0 ⟨Nat.le_refl _, fun i h1 h2 => absurd h1 (by omega)⟩
  · intro j s r hj hI
    rcases hs j r hI.1 hj with ⟨h1, h2⟩ | ⟨h1, h2⟩
    · exact Or.inl (Or.inl ⟨j, hI.1, hj, h1, hI.2, h2⟩)
    · refine Or.inr ⟨(), ⟨by omega, fun i h3 h4 => ?_⟩, h2⟩
      by_cases e : i = j
      · rw [e]; exact h1
      · exact hI.2 i h3 (by omega)
  · intro s r hI
    exact Or.inr ⟨hI.2, he r⟩
theorem op_over {N : Nat} (hN : 1000 ≤ N) {S T : St} (hR : math_R S T) (a b : Int32) : ∃ (r : Int32) (T2 : St), fX5_over N a b S = some r ∧ fX6_over N a b T = some (r, T2) ∧ math_R S T2 := by
  have hR1 := R_thrown 0 hR
  unfold fX6_over
  simp only [pfI]
  obtain ⟨T1, hT1⟩ : ∃ T1, T1 = wr T 0 28 0 := ⟨_, rfl⟩
  rw [← hT1] at hR1 ⊢
  obtain ⟨n, hn, n19, n9, en, -⟩ := vn hR1
  have h1 := it_find (z := fun _ => none) (F := fX5_over_L2 a b S) (n := n) (N := N) (j0 := 0) (fun i => nI (cs T1 i) = a ∧ nI (ps T1 i) ≤ b ∧ b < nI (ps T1 i) + nI (ln T1 i)) (fun i => some (nI i)) (some (-1)) (by omega) (by omega) (by
      intro j r _ hj
      obtain ⟨v1, v2, v3, v4, v5, v6, v7, v8, v9, v10, v11, v12, v13, v14, v15, v16, v17, v18, v19, v20⟩ := vw hR1 (by rw [en]; exact hj)
      unfold fX5_over_L2 fX1_end
      simp (disch := omega) only [n9, z_lt, hj, if_true, z_ldI, v4, v6, v8, v13, caP_some, nmI, nI_1]
      by_cases c1 : nI (cs T1 j) = a
      · by_cases c2 : b < nI (ps T1 j)
        · exact Or.inr ⟨fun h => absurd c2 (Int32.not_lt.mpr h.2.1), by rw [if_pos c1, if_pos c2]⟩
        · by_cases c3 : b < nI (ps T1 j) + nI (ln T1 j)
          · exact Or.inl ⟨⟨c1, Int32.not_lt.mp c2, c3⟩, by rw [if_pos c1, if_neg c2, if_pos c3]⟩
          · exact Or.inr ⟨fun h => c3 h.2.2, by rw [if_pos c1, if_neg c2, if_neg c3]⟩
      · exact Or.inr ⟨fun h => c1 h.1, by rw [if_neg c1]⟩) (by
      intro r
      unfold fX5_over_L2
      rw [n9, if_neg (Int32.lt_irrefl)])
  have h2 := it_find (z := fun _ => none) (F := fX6_over_L7 a b T1) (n := n) (N := N) (j0 := 0) (fun i => nI (cs T1 i) = a ∧ nI (ps T1 i) ≤ b ∧ b < nI (ps T1 i) + nI (ln T1 i)) (fun i => some (nI i, T1)) (some (-1, T1)) (by omega) (by omega) (by
      intro j r _ hj
      obtain ⟨v1, v2, v3, v4, v5, v6, v7, v8, v9, v10, v11, v12, v13, v14, v15, v16, v17, v18, v19, v20⟩ := vw hR1 (by rw [en]; exact hj)
      unfold fX6_over_L7
      simp (disch := omega) only [n19, z_lt, hj, if_true, z_ldI, v1, v5, v7, v14, caP_some, nmI, nI_1]
      by_cases c1 : nI (cs T1 j) = a
      · by_cases c2 : nI (ps T1 j) ≤ b
        · by_cases c3 : b < nI (ps T1 j) + nI (ln T1 j)
          · exact Or.inl ⟨⟨c1, c2, c3⟩, by rw [if_pos c1, if_pos c2, if_pos c3]⟩
          · exact Or.inr ⟨fun h => c3 h.2.2, by rw [if_pos c1, if_pos c2, if_neg c3]⟩
        · exact Or.inr ⟨fun h => c2 h.2.1, by rw [if_pos c1, if_neg c2]⟩
      · exact Or.inr ⟨fun h => c1 h.1, by rw [if_neg c1]⟩) (by
      intro r
      unfold fX6_over_L7
      rw [n19, if_neg (Int32.lt_irrefl)])
  rcases h1 with ⟨j, -, hj, hp, hm, e1⟩ | ⟨hp, e1⟩
  · rcases h2 with ⟨j', -, hj', hp', hm', e2⟩ | ⟨hp', e2⟩
    · have : j = j' := by
        rcases Nat.lt_trichotomy j j' with h | h | h
        · exact absurd hp (hm' j (by omega) h)
        · exact h
        · exact absurd hp' (hm j' (by omega) h)
      subst this
      exact ⟨nI j, T1, e1, e2, hR1⟩
    · exact absurd hp (hp' j (by omega) hj)
  · rcases h2 with ⟨j', -, hj', hp', hm', e2⟩ | ⟨hp', e2⟩
    · exact absurd hp' (hp j' (by omega) hj')
    · exact ⟨-1, T1, e1, e2, hR1⟩
theorem sI_sub (f g : Nat → Int32) (n : Nat) : sI f n - sI g n = sI (fun i => f i - g i) n := by
  induction n with
  | zero => exact Int32.sub_self (a := 0)
  | succ n ih =>
    show (sI f n + f n) - (sI g n + g n) = sI (fun i => f i - g i) n + (f n - g n)
    rw [← ih]
    simp only [Int32.sub_eq_add_neg, Int32.neg_add]
    ac_rfl
theorem sI_zero {f : Nat → Int32} {n : Nat} (h : ∀ i, i < n → f i = 0) : sI f n = 0 := by
  induction n with
  | zero => rfl
  | succ n ih =>
    show sI f n + f n = 0
    rw [ih (fun i hi => h i (by omega)), h n (by omega)]
    rfl
/-- how many of a kind -/
def oK (T : St) (a : Int32) (i : Nat) : Int32 := if nI (kd T i) = a then 1 else 0
/-- how many of a kind stand (b = 1) or lie (b = 0) -/
def oT (T : St) (a b : Int32) (i : Nat) : Int32 := if T.1 0 18 = 0 then 0 else if nI (kd T i) = a then (if T.1 11 i = b then 1 else 0) else 0
theorem z_number {N : Nat} (hN : 1000 ≤ N) {S T : St} (hR : math_R S T) (a : Int32) : fX1_number N a S = some (sI (oK T a) (nt (T.1 0 19))) := by
  obtain ⟨n, hn, n19, n9, en, -⟩ := vn hR
  rw [en]
  unfold fX1_number
  refine it_sum (F := fX1_number_L4 a S) (K := some) (by omega) ?_ ?_
  · intro j x r hj
    obtain ⟨v1, v2, v3, v4, v5, v6, v7, v8, v9, v10, v11, v12, v13, v14, v15, v16, v17, v18, v19, v20⟩ := vw hR (by rw [en]; exact hj)
    unfold fX1_number_L4 oK
    simp (disch := omega) only [n9, z_lt, hj, if_true, z_ldI, v4, nmI, nI_1]
    by_cases c : nI (kd T j) = a
    · rw [if_pos c, if_pos c]
    · rw [if_neg c, if_neg c]
  · intro x r
    unfold fX1_number_L4
    rw [n9, if_neg (Int32.lt_irrefl)]
theorem z_there {N : Nat} (hN : 1000 ≤ N) {S T : St} (hR : math_R S T) (a b : Int32) : fX6_there N a b T = some (sI (oT T a b) (nt (T.1 0 19))) := by
  obtain ⟨n, hn, n19, n9, en, -⟩ := vn hR
  rw [en]
  unfold fX6_there
  refine it_sum (F := fX6_there_L5 a b T) (K := some) (by omega) ?_ ?_
  · intro j x r hj
    obtain ⟨v1, v2, v3, v4, v5, v6, v7, v8, v9, v10, v11, v12, v13, v14, v15, v16, v17, v18, v19, v20⟩ := vw hR (by rw [en]; exact hj)
    unfold fX6_there_L5 oT
    simp (disch := omega) only [n19, z_lt, hj, if_true, z_ldI, v1, nmI, nI_1]
    by_cases c : T.1 0 18 = 0
    · rw [if_pos c, if_pos c]
    · rw [if_neg c, if_neg c]
      by_cases c : nI (kd T j) = a
      · rw [if_pos c, if_pos c]
        by_cases c : T.1 11 j = b
        · rw [if_pos c, if_pos c]
        · rw [if_neg c, if_neg c]
      · rw [if_neg c, if_neg c]
  · intro x r
    unfold fX6_there_L5
    rw [n19, if_neg (Int32.lt_irrefl)]
theorem z_numberStanding {N : Nat} (hN : 1000 ≤ N) {S T : St} (hR : math_R S T) (a : Int32) : fX1_numberStanding N a S = some (sI (oT T a 1) (nt (T.1 0 19))) := by
  obtain ⟨n, hn, n19, n9, en, -⟩ := vn hR
  obtain ⟨b1, b2⟩ := vb hR
  rw [en]
  unfold fX1_numberStanding
  refine it_sum (F := fX1_numberStanding_L4 a S) (K := some) (by omega) ?_ ?_
  · intro j x r hj
    obtain ⟨v1, v2, v3, v4, v5, v6, v7, v8, v9, v10, v11, v12, v13, v14, v15, v16, v17, v18, v19, v20⟩ := vw hR (by rw [en]; exact hj)
    unfold fX1_numberStanding_L4 oT fX1_isStanding
    simp (disch := omega) only [n9, z_lt, hj, if_true, z_ldI, v4, nmI, nI_1, b1]
    by_cases c : nI (kd T j) = a
    · rw [if_pos c, if_pos c]
      rcases b2 with h | ⟨h, hb⟩
      · simp only [h, caP_some, if_true]
      · simp only [h, z_c1, if_false, (hb j (by rw [en]; exact hj)).2.2.1]
        rcases rg01 (hb j (by rw [en]; exact hj)).2.2.2.2 with e | e
        · rw [e, if_pos rfl, caP_some, if_pos rfl, if_neg (by decide)]
        · rw [e, if_neg (by decide), caP_some, if_neg (by decide), if_pos rfl]
    · rw [if_neg c, if_neg c, ite_self]
  · intro x r
    unfold fX1_numberStanding_L4
    rw [n9, if_neg (Int32.lt_irrefl)]
/-- standing and lying are all -/
theorem oT_sum {S T : St} (hR : math_R S T) (a : Int32) : sI (oT T a 0) (nt (T.1 0 19)) = if T.1 0 18 = 0 then 0 else sI (oK T a) (nt (T.1 0 19)) - sI (oT T a 1) (nt (T.1 0 19)) := by
  obtain ⟨b1, b2⟩ := vb hR
  rcases b2 with h | ⟨h, hb⟩
  · rw [if_pos h]
    exact sI_zero (fun i _ => by unfold oT; rw [if_pos h])
  · rw [if_neg (by rw [h]; decide), sI_sub]
    refine sI_eq (fun i hi => ?_)
    show oT T a 0 i = oK T a i - oT T a 1 i
    unfold oT oK
    simp only [h, z_c1, if_false]
    by_cases c : nI (kd T i) = a
    · simp only [if_pos c]
      rcases rg01 (hb i hi).2.2.2.2 with e | e <;> rw [e] <;> decide
    · simp only [if_neg c]; decide
theorem z_numberAtFoot {N : Nat} (hN : 1000 ≤ N) {S T : St} (hR : math_R S T) (a : Int32) : fX1_numberAtFoot N a S = some (sI (oT T a 0) (nt (T.1 0 19))) := by
  obtain ⟨b1, b2⟩ := vb hR
  unfold fX1_numberAtFoot
  rw [b1, z_number hN hR, z_numberStanding hN hR, caP_some, caP_some, oT_sum hR]
  by_cases h : T.1 0 18 = 0
  · rw [if_pos h, if_pos h]
  · rw [if_neg h, if_neg h]
/-- what lies in the heaps of a kind -/
theorem z_inHeaps6 {N : Nat} (hN : 1000 ≤ N) {S T : St} (hR : math_R S T) {k : Nat} (hk : k < 8) : fX6_inHeaps N (nI k) T = some (sI (fun h => T.1 5 (8 * h + k)) (nt (T.1 0 3))) := by
  obtain ⟨n, -, hn, en⟩ := hR.2.1.2.1
  rw [en, nt_nI (by omega)]
  unfold fX6_inHeaps
  refine it_sum (F := fX6_inHeaps_L4 (nI k) T) (K := some) (by omega) ?_ ?_
  · intro j x r hj
    unfold fX6_inHeaps_L4
    simp (disch := omega) only [en, z_lt, hj, if_true, z_8, z_ldI, nmI, nI_1]
  · intro x r
    unfold fX6_inHeaps_L4
    rw [en, if_neg (Int32.lt_irrefl)]
theorem z_inHeaps4 {N : Nat} (hN : 1000 ≤ N) {S T : St} (hR : math_R S T) {k : Nat} (hk : k < 8) : fX4_inHeaps N (nI k) S = some (sI (fun h => T.1 5 (8 * h + k)) (nt (T.1 0 3))) := by
  obtain ⟨n, -, hn, en⟩ := hR.2.1.2.1
  have en' : S.1 1 6 = nI n := by rw [hR.2.1.1, en]
  rw [en, nt_nI (by omega)]
  unfold fX4_inHeaps
  refine it_sum (F := fX4_inHeaps_L4 (nI k) S) (K := some) (by omega) ?_ ?_
  · intro j x r hj
    unfold fX4_inHeaps_L4
    simp (disch := omega) only [en', z_lt, hj, if_true, z_ldR, z_ldI, nmI, nI_1]
    rw [hR.2.2.1.1 j k (by omega) hk]
  · intro x r
    unfold fX4_inHeaps_L4
    rw [en', if_neg (Int32.lt_irrefl)]
theorem op_count {N : Nat} (hN : 1000 ≤ N) {S T : St} (hR : math_R S T) (a b : Int32) : ∃ (r : Int32) (T2 : St), fX5_count N a b S = some r ∧ fX6_count N a b T = some (r, T2) ∧ math_R S T2 := by
  have hR1 := R_thrown 0 hR
  unfold fX6_count fX5_count
  simp only [pfI, z_hasKind, z_hasHeap]
  obtain ⟨T1, hT1⟩ : ∃ T1, T1 = wr T 0 28 0 := ⟨_, rfl⟩
  rw [← hT1] at hR1 ⊢
  rw [hR1.1.1, hR1.2.1.1]
  obtain ⟨nh, -, hnh, enh⟩ := hR1.2.1.2.1
  obtain ⟨nk, -, hnk, enk⟩ := hR1.1.2.1
  by_cases h1 : b < 0
  · simp only [if_pos h1, if_true]
    exact ⟨_, _, rfl, rfl, hR1⟩
  by_cases h2 : ¬ (b < T1.1 0 0)
  · simp only [if_neg h1, if_neg h2, if_true]
    exact ⟨_, _, rfl, rfl, hR1⟩
  replace h2 := Classical.not_not.mp h2
  simp only [if_neg h1, if_pos h2, z_c1, if_true, if_false]
  obtain ⟨k, hk, rfl⟩ := ix_of (by omega) enk h1 h2
  rw [z_numberStanding hN hR1, z_numberAtFoot hN hR1, z_inHeaps4 hN hR1 (by omega), z_number hN hR1, z_inHeaps6 hN hR1 (by omega), z_there hN hR1, z_there hN hR1]
  simp only [caP_some]
  by_cases h3 : a < 0
  · have n5 : ¬ a = 5 := fun h => by rw [h] at h3; exact absurd h3 (by decide)
    have n6 : ¬ a = 6 := fun h => by rw [h] at h3; exact absurd h3 (by decide)
    have n7 : ¬ a = 7 := fun h => by rw [h] at h3; exact absurd h3 (by decide)
    simp only [if_pos h3, if_neg n5, if_neg n6, if_neg n7]
    exact ⟨_, _, rfl, rfl, hR1⟩
  simp only [if_neg h3]
  obtain ⟨w, hw, rfl⟩ := nI_of h3
  rw [enh]
  have l5 : (nI w < 5) = (w < 5) := z_lt hw (b := 5) (by omega)
  have l7 : (nI w < 7) = (w < 7) := z_lt hw (b := 7) (by omega)
  have m7 : (nI w ≤ 7) = (w ≤ 7) := z_le hw (b := 7) (by omega)
  have q5 : (nI w = 5) = (w = 5) := z_eq hw (b := 5) (by omega)
  have q6 : (nI w = 6) = (w = 6) := z_eq hw (b := 6) (by omega)
  have q7 : (nI w = 7) = (w = 7) := z_eq hw (b := 7) (by omega)
  simp (disch := omega) only [l5, l7, m7, q5, q6, q7, z_lt]
  by_cases c1 : w < nh
  · simp (disch := omega) only [if_pos c1, z_c1, if_false, z_ldR, z_ldI, if_pos (show w ≤ 7 by omega), if_pos (show w < 5 by omega), z_8]
    rw [hR1.2.2.1.1 w k (by omega) (by omega)]
    exact ⟨_, _, rfl, rfl, hR1⟩
  simp only [if_neg c1, if_true]
  by_cases c2 : w ≤ 7
  · by_cases c3 : w < 5
    · simp only [if_pos c2, if_pos c3, if_neg (show ¬ w = 5 by omega), if_neg (show ¬ w = 6 by omega), if_neg (show ¬ w = 7 by omega)]
      exact ⟨_, _, rfl, rfl, hR1⟩
    · simp only [if_pos c2, if_neg c3]
      by_cases c5 : w = 5
      · simp only [if_pos c5, if_pos (show w < 7 by omega)]
        exact ⟨_, _, rfl, rfl, hR1⟩
      by_cases c6 : w = 6
      · simp only [if_neg c5, if_pos c6, if_pos (show w < 7 by omega)]
        exact ⟨_, _, rfl, rfl, hR1⟩
      simp only [if_neg c5, if_neg c6, if_pos (show w = 7 by omega), if_neg (show ¬ w < 7 by omega), (vb hR1).1, oT_sum hR1]
      rcases (vb hR1).2 with h | ⟨h, hb⟩
      · simp only [if_pos h]
        refine ⟨_, _, rfl, ?_, hR1⟩
        rw [sI_zero (f := oT T1 (nI k) 1) (fun i _ => by unfold oT; rw [if_pos h]), Int32.add_zero, Int32.add_zero]
      · simp only [h, z_c1, if_false]
        refine ⟨_, _, rfl, ?_, hR1⟩
        rw [Int32.add_assoc, Int32.add_comm (sI (oT T1 (nI k) 1) _), Int32.sub_add_cancel]
  · simp only [if_neg c2, if_neg (show ¬ w = 5 by omega), if_neg (show ¬ w = 6 by omega), if_neg (show ¬ w = 7 by omega)]
    exact ⟨_, _, rfl, rfl, hR1⟩
theorem op_look {N : Nat} (hN : 1000 ≤ N) {S T : St} (hR : math_R S T) (a : Int32) : ∃ (r : Int32) (T2 : St), fX5_look N a S = some r ∧ fX6_look N a T = some (r, T2) ∧ math_R S T2 := by
  have hR1 := R_thrown 0 hR
  unfold fX6_look fX5_look
  simp only [pfI]
  obtain ⟨T1, hT1⟩ : ∃ T1, T1 = wr T 0 28 0 := ⟨_, rfl⟩
  rw [← hT1] at hR1 ⊢
  obtain ⟨n, hn, n19, n9, en, -⟩ := vn hR1
  by_cases c0 : a = 0
  · simp only [if_pos c0, hR1.1.1]
    exact ⟨_, _, rfl, rfl, hR1⟩
  by_cases c1 : a = 1
  · simp only [if_neg c0, if_pos c1, hR1.2.1.1]
    exact ⟨_, _, rfl, rfl, hR1⟩
  by_cases c2 : a = 2
  · simp only [if_neg c0, if_neg c1, if_pos c2, n19, n9]
    exact ⟨_, _, rfl, rfl, hR1⟩
  by_cases c3 : a = 3
  · simp only [if_neg c0, if_neg c1, if_neg c2, if_pos c3, (vb hR1).1]
    by_cases h : T1.1 0 18 = 0
    · rw [if_pos h, if_pos h]
      exact ⟨_, _, rfl, rfl, hR1⟩
    · rw [if_neg h, if_neg h]
      exact ⟨_, _, rfl, rfl, hR1⟩
  by_cases c4 : a = 4
  · simp only [if_neg c0, if_neg c1, if_neg c2, if_neg c3, if_pos c4, hR1.2.2.2.2.2.2.1]
    exact ⟨_, _, rfl, rfl, hR1⟩
  by_cases c5 : a = 5
  · simp only [if_neg c0, if_neg c1, if_neg c2, if_neg c3, if_neg c4, if_pos c5]
    have e1 : fX1_heartingInAll N S = some (sI (hrt T1) n) := by
      unfold fX1_heartingInAll
      refine it_sum (F := fX1_heartingInAll_L4 S) (K := some) (by omega) (fun j x r hj => ?_) (fun x r => ?_)
      · unfold fX1_heartingInAll_L4
        simp (disch := omega) only [n9, z_lt, hj, if_true, z_hearting1 hR1 (show j < nt (T1.1 0 19) by omega), caP_some, nmI, nI_1]
      · unfold fX1_heartingInAll_L4
        rw [n9, if_neg (Int32.lt_irrefl)]
    have e2 : itN (fun _ _ => none) (fX6_look_L91 T1) N 0 0 = some (sI (hrt T1) n, T1) := by
      refine it_sum (F := fX6_look_L91 T1) (K := fun x => some (x, T1)) (by omega) (fun j x r hj => ?_) (fun x r => ?_)
      · unfold fX6_look_L91
        simp (disch := omega) only [n19, z_lt, hj, if_true, z_hearting6 hR1 (show j < nt (T1.1 0 19) by omega), caP_some, nmI, nI_1]
      · unfold fX6_look_L91
        rw [n19, if_neg (Int32.lt_irrefl)]
    rw [e1, e2]
    exact ⟨_, _, rfl, rfl, hR1⟩
  by_cases c6 : a = 6
  · simp only [if_neg c0, if_neg c1, if_neg c2, if_neg c3, if_neg c4, if_neg c5, if_pos c6]
    obtain ⟨nk, -, hnk, enk⟩ := hR1.1.2.1
    have enk' : S.1 1 5 = nI nk := by rw [hR1.1.1, enk]
    have e1 : fX1_allAtFoot N S = some (sI (fun k => sI (oT T1 (nI k) 0) (nt (T1.1 0 19))) nk) := by
      unfold fX1_allAtFoot
      refine it_sum (F := fX1_allAtFoot_L4 N S) (K := some) (by omega) (fun j x r hj => ?_) (fun x r => ?_)
      · unfold fX1_allAtFoot_L4
        simp (disch := omega) only [enk', z_lt, hj, if_true, z_numberAtFoot hN hR1, caP_some, nmI, nI_1]
      · unfold fX1_allAtFoot_L4
        rw [enk', if_neg (Int32.lt_irrefl)]
    have e2 : itN (fun _ _ => none) (fX6_look_L117 N T1) N 0 0 = some (sI (fun k => sI (oT T1 (nI k) 0) (nt (T1.1 0 19))) nk, T1) := by
      refine it_sum (F := fX6_look_L117 N T1) (K := fun x => some (x, T1)) (by omega) (fun j x r hj => ?_) (fun x r => ?_)
      · unfold fX6_look_L117
        simp (disch := omega) only [enk, z_lt, hj, if_true, z_there hN hR1, caP_some, nmI, nI_1]
      · unfold fX6_look_L117
        rw [enk, if_neg (Int32.lt_irrefl)]
    rw [e1, e2]
    exact ⟨_, _, rfl, rfl, hR1⟩
  by_cases c7 : a = 7
  · simp only [if_neg c0, if_neg c1, if_neg c2, if_neg c3, if_neg c4, if_neg c5, if_neg c6, if_pos c7, hR1.2.2.2.2.2.2.2.1]
    by_cases h : T1.1 0 18 = 0
    · rw [if_pos h, if_pos h]
      exact ⟨_, _, rfl, rfl, hR1⟩
    · rw [if_neg h, if_neg h]
      exact ⟨_, _, rfl, rfl, hR1⟩
  simp only [if_neg c0, if_neg c1, if_neg c2, if_neg c3, if_neg c4, if_neg c5, if_neg c6, if_neg c7]
  exact ⟨_, _, rfl, rfl, hR1⟩
