/-! taking the wall down -/
theorem oK_cnt {S T : St} (hR : math_R S T) {k : Nat} (hk : k < 8) : ∀ n, n ≤ nt (T.1 0 19) → sI (oK T (nI k)) n = nI (cnt (kd T) k n) := by
  intro n
  induction n with
  | zero => intro _; rfl
  | succ n ih =>
    intro hn
    obtain ⟨v1, v2, v3, -⟩ := vw hR (show n < nt (T.1 0 19) by omega)
    show sI (oK T (nI k)) n + oK T (nI k) n = nI (cnt (kd T) k n + _)
    rw [ih (by omega), ← nI_add]
    unfold oK
    by_cases e : kd T n = k
    · rw [if_pos (by rw [e]), if_pos e]; rfl
    · rw [if_neg (fun h => e ((nI_eq (by omega) (by omega)).mp h)), if_neg e]; rfl
theorem cnt_le (f : Nat → Nat) (k n : Nat) : cnt f k n ≤ n := by
  induction n with
  | zero => exact Nat.le_refl _
  | succ n ih =>
    show cnt f k n + (if f n = k then 1 else 0) ≤ n + 1
    split <;> omega
theorem cnt_none {f : Nat → Nat} {k n : Nat} (h : ∀ i, i < n → f i ≠ k) : cnt f k n = 0 := by
  induction n with
  | zero => rfl
  | succ n ih =>
    show cnt f k n + (if f n = k then 1 else 0) = 0
    rw [ih (fun i hi => h i (by omega)), if_neg (h n (by omega))]
theorem number_eq {N : Nat} {S S2 : St} (h13 : S2.1 13 = S.1 13) (h14 : S2.1 14 = S.1 14) (a : Int32) : fX1_number N a S2 = fX1_number N a S := by
  unfold fX1_number fX1_number_L4
  rw [h13, h14]
theorem op_take {N : Nat} (hN : 1000 ≤ N) {S T : St} (hR : math_R S T) (a : Int32) : ∃ (r : Int32) (S2 T2 : St), fX5_take N a S = some (r, S2) ∧ fX6_take N a T = some (r, T2) ∧ math_R S2 T2 := by
  have hR1 := R_thrown 0 hR
  unfold fX6_take fX5_take
  simp only [pfI, z_hasHeap, nmI]
  obtain ⟨T1, hT1⟩ : ∃ T1, T1 = wr T 0 28 0 := ⟨_, rfl⟩
  rw [← hT1] at hR1 ⊢
  obtain ⟨n, hn, n19, n9, en, -⟩ := vn hR1
  obtain ⟨b1, b2⟩ := vb hR1
  obtain ⟨nh, -, hnh, enh⟩ := hR1.2.1.2.1
  obtain ⟨nk, -, hnk, enk⟩ := hR1.1.2.1
  have enk' : S.1 1 5 = nI nk := by rw [hR1.1.1, enk]
  rw [b1, hR1.2.1.1]
  rcases b2 with h | ⟨h, hb⟩
  · rw [if_pos h, if_pos h]
    exact ⟨_, _, _, rfl, rfl, hR1⟩
  have hne : ¬ T1.1 0 18 = 0 := by rw [h]; decide
  rw [if_neg hne, if_neg hne]
  by_cases h1 : a < 0
  · simp only [if_pos h1, if_true]
    exact ⟨_, _, _, rfl, rfl, hR1⟩
  by_cases h2 : ¬ (a < T1.1 0 3)
  · simp only [if_neg h1, if_neg h2, if_true]
    exact ⟨_, _, _, rfl, rfl, hR1⟩
  replace h2 := Classical.not_not.mp h2
  simp only [if_neg h1, if_pos h2, z_c1, if_false]
  obtain ⟨g, hg, rfl⟩ := ix_of (by omega) enh h1 h2
  obtain ⟨C, hC⟩ : ∃ C : Nat → Nat, C = fun k => cnt (kd T1) k n := ⟨_, rfl⟩
  have hnum : ∀ k, k < 8 → fX1_number N (nI k) S = some (nI (C k)) := fun k hk => by
    rw [z_number hN hR1, oK_cnt hR1 hk _ (Nat.le_refl _), en, hC]
  have hA : ∀ k, k < 8 → S.1 (7 + g) k = T1.1 5 (8 * g + k) := fun k hk => hR1.2.2.1.1 g k (by omega) hk
  -- the first loops
  have key1 := fun (K4 : Option (Int32 × St)) => it_find (z := fun _ => none) (F := fX5_take_L25 N (nI g) S K4) (n := nk) (N := N) (j0 := 0) (fun k => ¬ (T1.1 5 (8 * g + k) + nI (C k) ≤ 60)) (fun _ => some (-1, S)) K4 (by omega) (by omega) (by
      intro k r _ hk
      unfold fX5_take_L25
      simp (disch := omega) only [enk', z_lt, hk, if_true, z_ldR, z_ldI, hnum k (by omega), caP_some, nmI, nI_1, hA k (by omega)]
      by_cases c : T1.1 5 (8 * g + k) + nI (C k) ≤ 60
      · exact Or.inr ⟨fun h => h c, by rw [if_pos c]⟩
      · exact Or.inl ⟨c, by rw [if_neg c]⟩) (by
      intro r
      unfold fX5_take_L25
      rw [enk', if_neg (Int32.lt_irrefl)])
  have key2 := fun (K4 : Option (Int32 × St)) => it_find (z := fun _ => none) (F := fX6_take_L28 N (nI g) T1 K4) (n := nk) (N := N) (j0 := 0) (fun k => ¬ (T1.1 5 (8 * g + k) + nI (C k) ≤ 60)) (fun _ => some (-1, T1)) K4 (by omega) (by omega) (by
      intro k r _ hk
      unfold fX6_take_L28
      simp (disch := omega) only [enk, z_lt, hk, if_true, z_8, z_ldI, nmI, nI_1]
      rw [it_sum' (f := oK T1 (nI k)) (n := n) (F := fX6_take_L51 (nI k) T1 (fun (x23 : Int32) => if x23 ≤ 60 then r (nI (k + 1)) else some ((-1), T1))) (K := fun x23 => if x23 ≤ 60 then r (nI (k + 1)) else some ((-1), T1)) _ (by omega) (by
        intro j x r2 hj
        obtain ⟨v1, v2, v3, -⟩ := vw hR1 (show j < nt (T1.1 0 19) by omega)
        unfold fX6_take_L51 oK
        simp (disch := omega) only [n19, z_lt, hj, if_true, z_ldI, nmI, nI_1, v1]
        by_cases c : nI (kd T1 j) = nI k
        · rw [if_pos c, if_pos c]
        · rw [if_neg c, if_neg c]) (by
        intro x r2
        unfold fX6_take_L51
        rw [n19, if_neg (Int32.lt_irrefl)])]
      rw [← en, oK_cnt hR1 (by omega) _ (Nat.le_refl _), en]
      have : cnt (kd T1) k n = C k := by rw [hC]
      rw [this]
      by_cases c : T1.1 5 (8 * g + k) + nI (C k) ≤ 60
      · exact Or.inr ⟨fun h => h c, by rw [if_pos c]⟩
      · exact Or.inl ⟨c, by rw [if_neg c]⟩) (by
      intro r
      unfold fX6_take_L28
      rw [enk, if_neg (Int32.lt_irrefl)])
  rcases key1 (itN (fun _ _ => none) (fX5_take_L71 N (nI g) (fun (S9 : St) => caV (fX1_forget S9) fun S11 => some (S9.1 13 9, S11))) N 0 S) with ⟨k, -, hk, hp, -, e1⟩ | ⟨hp, e1⟩
  · rcases key2 (itN (fun _ _ => none) (fX6_take_L106 (nI g) (fun (S10 : St) => caV (fX6_noPlan (wr (wr S10 0 18 0) 0 27 0)) fun S13 => some (T1.1 0 19, S13))) N 0 T1) with ⟨k', -, hk', hp', -, e2⟩ | ⟨hp', e2⟩
    · exact ⟨_, _, _, e1, e2, hR1⟩
    · exact absurd hp (hp' k (by omega) hk)
  rcases key2 (itN (fun _ _ => none) (fX6_take_L106 (nI g) (fun (S10 : St) => caV (fX6_noPlan (wr (wr S10 0 18 0) 0 27 0)) fun S13 => some (T1.1 0 19, S13))) N 0 T1) with ⟨k', -, hk', hp', -, e2⟩ | ⟨hp', e2⟩
  · exact absurd hp' (hp k' (by omega) hk')
  rw [nI_0] at e1 e2
  rw [e1, e2]
  -- the second loops
  have l1 : ∃ S', itN (fun _ _ => none) (fX5_take_L71 N (nI g) (fun (S9 : St) => caV (fX1_forget S9) fun S11 => some (S9.1 13 9, S11))) N 0 S = some (S'.1 13 9, fgt S') ∧ (∀ c, c ≠ 7 + g → S'.1 c = S.1 c) ∧ (∀ k, k < nk → S'.1 (7 + g) k = S.1 (7 + g) k + nI (C k)) ∧ (∀ k, nk ≤ k → S'.1 (7 + g) k = S.1 (7 + g) k) := by
    refine it_for (σ := St) (F := fX5_take_L71 N (nI g) (fun (S9 : St) => caV (fX1_forget S9) fun S11 => some (S9.1 13 9, S11))) (fun j s (r : Int32 → St → Option (Int32 × St)) => r (nI j) s) nk (fun j s => (∀ c, c ≠ 7 + g → s.1 c = S.1 c) ∧ (∀ k, k < j → s.1 (7 + g) k = S.1 (7 + g) k + nI (C k)) ∧ (∀ k, j ≤ k → s.1 (7 + g) k = S.1 (7 + g) k)) (fun o => ∃ S', o = some (S'.1 13 9, fgt S') ∧ (∀ c, c ≠ 7 + g → S'.1 c = S.1 c) ∧ (∀ k, k < nk → S'.1 (7 + g) k = S.1 (7 + g) k + nI (C k)) ∧ (∀ k, nk ≤ k → S'.1 (7 + g) k = S.1 (7 + g) k)) ?_ ?_ N 0 S (by omega) (by omega) ⟨fun _ _ => rfl, fun k hk => absurd hk (by omega), fun _ _ => rfl⟩
    · intro j s r hj ⟨i1, i2, i3⟩
      have m5 : s.1 1 5 = nI nk := by rw [i1 1 (by omega)]; exact enk'
      refine Or.inr ⟨wr s (7 + g) j (S.1 (7 + g) j + nI (C j)), ⟨fun c hc => by rw [z_wr_row hc]; exact i1 c hc, fun k hk => ?_, fun k hk => ?_⟩, ?_⟩
      · by_cases e : k = j
        · subst e; exact z_wr_eq
        · rw [z_wr_oth e]; exact i2 k (by omega)
      · rw [z_wr_oth (by omega)]; exact i3 k (by omega)
      · show fX5_take_L71 N (nI g) _ r (nI j) s = _
        unfold fX5_take_L71
        simp (disch := omega) only [m5, z_lt, hj, if_true, z_ldR, z_ldI, number_eq (i1 13 (by omega)) (i1 14 (by omega)), hnum j (by omega), caP_some, z_stI, nmI, nI_1, i3 j (Nat.le_refl _)]
    · intro s r ⟨i1, i2, i3⟩
      have m5 : s.1 1 5 = nI nk := by rw [i1 1 (by omega)]; exact enk'
      refine ⟨s, ?_, i1, i2, i3⟩
      show fX5_take_L71 N (nI g) _ r (nI nk) s = _
      unfold fX5_take_L71
      rw [m5, if_neg (Int32.lt_irrefl)]
      rfl
  have l2 : ∃ T', itN (fun _ _ => none) (fX6_take_L106 (nI g) (fun (S10 : St) => caV (fX6_noPlan (wr (wr S10 0 18 0) 0 27 0)) fun S13 => some (T1.1 0 19, S13))) N 0 T1 = some (T1.1 0 19, npl (wr (wr T' 0 18 0) 0 27 0)) ∧ (∀ c, c ≠ 5 → T'.1 c = T1.1 c) ∧ (∀ k, k < 8 → T'.1 5 (8 * g + k) = T1.1 5 (8 * g + k) + nI (cnt (kd T1) k n)) ∧ (∀ j, (∀ k, k < 8 → j ≠ 8 * g + k) → T'.1 5 j = T1.1 5 j) := by
    refine it_for (σ := St) (F := fX6_take_L106 (nI g) (fun (S10 : St) => caV (fX6_noPlan (wr (wr S10 0 18 0) 0 27 0)) fun S13 => some (T1.1 0 19, S13))) (fun j s (r : Int32 → St → Option (Int32 × St)) => r (nI j) s) n (fun j s => (∀ c, c ≠ 5 → s.1 c = T1.1 c) ∧ (∀ k, k < 8 → s.1 5 (8 * g + k) = T1.1 5 (8 * g + k) + nI (cnt (kd T1) k j)) ∧ (∀ i, (∀ k, k < 8 → i ≠ 8 * g + k) → s.1 5 i = T1.1 5 i)) (fun o => ∃ T', o = some (T1.1 0 19, npl (wr (wr T' 0 18 0) 0 27 0)) ∧ (∀ c, c ≠ 5 → T'.1 c = T1.1 c) ∧ (∀ k, k < 8 → T'.1 5 (8 * g + k) = T1.1 5 (8 * g + k) + nI (cnt (kd T1) k n)) ∧ (∀ j, (∀ k, k < 8 → j ≠ 8 * g + k) → T'.1 5 j = T1.1 5 j)) ?_ ?_ N 0 T1 (by omega) (by omega) ⟨fun _ _ => rfl, fun k hk => (Int32.add_zero _).symm, fun _ _ => rfl⟩
    · intro j s r hj ⟨i1, i2, i3⟩
      have m5 : s.1 0 19 = nI n := by rw [i1 0 (by omega)]; exact n19
      obtain ⟨v1, v2, v3, -⟩ := vw hR1 (show j < nt (T1.1 0 19) by omega)
      have m7 : s.1 7 j = nI (kd T1 j) := by rw [i1 7 (by omega)]; exact v1
      refine Or.inr ⟨wr s 5 (8 * g + kd T1 j) (s.1 5 (8 * g + kd T1 j) + 1), ⟨fun c hc => by rw [z_wr_row hc]; exact i1 c hc, fun k hk => ?_, fun i hi => ?_⟩, ?_⟩
      · have ec : cnt (kd T1) k (j + 1) = cnt (kd T1) k j + (if kd T1 j = k then 1 else 0) := rfl
        rw [ec]
        by_cases e : kd T1 j = k
        · subst e
          rw [z_wr_eq, if_pos rfl, i2 _ hk, ← nI_1, Int32.add_assoc]
        · rw [z_wr_oth (by omega), if_neg e]; exact i2 k hk
      · rw [z_wr_oth (hi _ v3)]; exact i3 i hi
      · show fX6_take_L106 (nI g) _ r (nI j) s = _
        unfold fX6_take_L106
        simp (disch := omega) only [m5, z_lt, hj, if_true, z_ldI, m7, z_8, z_stI, nmI, nI_1]
    · intro s r ⟨i1, i2, i3⟩
      have m5 : s.1 0 19 = nI n := by rw [i1 0 (by omega)]; exact n19
      refine ⟨s, ?_, i1, i2, i3⟩
      show fX6_take_L106 (nI g) _ r (nI n) s = _
      unfold fX6_take_L106
      rw [m5, if_neg (Int32.lt_irrefl)]
      rfl
  obtain ⟨S', e1, f1, f2, f3⟩ := l1
  obtain ⟨T', e2, g1, g2, g3⟩ := l2
  rw [e1, e2]
  have t0 : ∀ j, j ≠ 17 → j ≠ 18 → j ≠ 19 → j ≠ 27 → (npl (wr (wr T' 0 18 0) 0 27 0)).1 0 j = T1.1 0 j := fun j h17 h18 h19 h27 => by
    rw [npl_0 h17 h19, z_wr_oth h27, z_wr_oth h18, g1 0 (by omega)]
  have tc : ∀ c, c ≠ 0 → (npl (wr (wr T' 0 18 0) 0 27 0)).1 c = T'.1 c := fun c hc => by
    rw [npl_ne hc, z_wr_row hc, z_wr_row hc]
  have sc : ∀ c, c ≠ 13 → c ≠ 7 + g → (fgt S').1 c = S.1 c := fun c hc hc2 => by rw [fgt_ne hc, f1 c hc2]
  have hC0 : ∀ k, nk ≤ k → C k = 0 := fun k hk => by
    rw [hC]
    refine cnt_none (fun i hi => ?_)
    obtain ⟨v1, v2, v3, -⟩ := vw hR1 (show i < nt (T1.1 0 19) by omega)
    rw [enk, nt_nI (by omega)] at v2
    omega
  have hval : ∀ k, k < 8 → T'.1 5 (8 * g + k) = T1.1 5 (8 * g + k) + nI (C k) := fun k hk => by rw [g2 k hk, hC]
  refine ⟨_, _, _, rfl, by rw [f1 13 (by omega), n9, n19], ⟨?_, ?_, ⟨?_, ?_⟩, ?_, ?_⟩⟩
  · exact RK_eq (by rw [sc 1 (by omega) (by omega)]) (sc 2 (by omega) (by omega)) (sc 3 (by omega) (by omega)) (t0 0 (by omega) (by omega) (by omega) (by omega)) (by rw [tc 1 (by omega), g1 1 (by omega)]) (by rw [tc 2 (by omega), g1 2 (by omega)]) hR1.1
  · exact RH_eq (by rw [sc 1 (by omega) (by omega)]) (sc 4 (by omega) (by omega)) (sc 5 (by omega) (by omega)) (t0 3 (by omega) (by omega) (by omega) (by omega)) (by rw [tc 3 (by omega), g1 3 (by omega)]) (by rw [tc 4 (by omega), g1 4 (by omega)]) hR1.2.1
  · intro i k hi hk
    rw [tc 5 (by omega), fgt_ne (by omega)]
    by_cases e : i = g
    · subst e
      rw [hval k hk, ← hA k hk]
      by_cases ek : k < nk
      · exact f2 k ek
      · rw [f3 k (by omega), hC0 k (by omega)]; exact (Int32.add_zero _).symm
    · rw [f1 (7 + i) (by omega), g3 (8 * i + k) (fun k' hk' => by omega)]
      exact hR1.2.2.1.1 i k hi hk
  · intro j hj
    rw [tc 5 (by omega)]
    by_cases e : j / 8 = g
    · have ej : j = 8 * g + j % 8 := by omega
      rw [ej, hval _ (by omega)]
      by_cases ek : j % 8 < nk
      · have hc := Classical.not_not.mp (hp (j % 8) (by omega) ek)
        obtain ⟨v, -, hv, ev⟩ := hR1.2.2.1.2 (8 * g + j % 8) (by omega)
        have hc144 : C (j % 8) ≤ 144 := by rw [hC]; exact Nat.le_trans (cnt_le _ _ _) hn
        rw [ev, nI_add] at hc ⊢
        exact ⟨v + C (j % 8), by omega, (nI_leI (b := 60) (by omega) (by omega)).mp hc, rfl⟩
      · rw [hC0 _ (by omega)]
        have : T1.1 5 (8 * g + j % 8) + nI 0 = T1.1 5 (8 * g + j % 8) := Int32.add_zero _
        rw [this]
        exact hR1.2.2.1.2 _ (by omega)
    · rw [g3 j (fun k hk => by omega)]
      exact hR1.2.2.1.2 j hj
  · exact RW_eq (sc 12 (by omega) (by omega)) (fun j hj => t0 (8 + j) (by omega) (by omega) (by omega) (by omega)) hR1.2.2.2.1
  · exact RP_none rfl rfl rfl (by rw [sc 21 (by omega) (by omega), t0 26 (by omega) (by omega) (by omega) (by omega)]; exact hR1.2.2.2.2.2.2.1) rfl rfl rfl
