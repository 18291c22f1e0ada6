/-! mending, taking -/
/-- what a frost or a mending leaves as it was -/
theorem R_stand {S T S2 T2 : St} (hR : math_R S T) (hS : ∀ c, c ≠ 13 → c ≠ 17 → c ≠ 19 → c ≠ 20 → S2.1 c = S.1 c) (hT : ∀ c, c ≠ 0 → c ≠ 10 → c ≠ 11 → c ≠ 19 → c ≠ 20 → T2.1 c = T.1 c) (hT0 : ∀ j, j ≠ 27 → j ≠ 28 → T2.1 0 j = T.1 0 j) (h9 : S2.1 13 9 = S.1 13 9) (h10 : S2.1 13 10 = S.1 13 10)
    (h11 : S2.1 13 11 = if T2.1 0 18 = 0 then 0 else T2.1 0 27) (hb : T.1 0 18 = 1 → ∀ i, i < nt (T.1 0 19) → S2.1 17 i = T2.1 10 i ∧ S2.1 19 i = T2.1 11 i ∧ rg (T2.1 10 i) 0 99 ∧ rg (T2.1 11 i) 0 1) : math_R S2 T2 := by
  obtain ⟨hK, hH, hA, hW, hP⟩ := hR
  have t0 := fun j a b => hT0 j a b
  refine ⟨?_, ?_, ?_, ?_, ?_⟩
  · exact RK_eq (by rw [hS 1 (by omega) (by omega) (by omega) (by omega)]) (hS 2 (by omega) (by omega) (by omega) (by omega)) (hS 3 (by omega) (by omega) (by omega) (by omega)) (hT0 0 (by omega) (by omega)) (hT 1 (by omega) (by omega) (by omega) (by omega) (by omega)) (hT 2 (by omega) (by omega) (by omega) (by omega) (by omega)) hK
  · exact RH_eq (by rw [hS 1 (by omega) (by omega) (by omega) (by omega)]) (hS 4 (by omega) (by omega) (by omega) (by omega)) (hS 5 (by omega) (by omega) (by omega) (by omega)) (hT0 3 (by omega) (by omega)) (hT 3 (by omega) (by omega) (by omega) (by omega) (by omega)) (hT 4 (by omega) (by omega) (by omega) (by omega) (by omega)) hH
  · exact RA_eq (fun h hh => hS (7 + h) (by omega) (by omega) (by omega) (by omega)) (hT 5 (by omega) (by omega) (by omega) (by omega) (by omega)) hA
  · exact RW_eq (hS 12 (by omega) (by omega) (by omega) (by omega)) (fun j hj => hT0 (8 + j) (by omega) (by omega)) hW
  · unfold RP at hP ⊢
    rw [h9, h10, h11, hS 21 (by omega) (by omega) (by omega) (by omega), hS 14 (by omega) (by omega) (by omega) (by omega), hS 15 (by omega) (by omega) (by omega) (by omega), hS 16 (by omega) (by omega) (by omega) (by omega), hS 18 (by omega) (by omega) (by omega) (by omega), hT0 19 (by omega) (by omega), hT0 18 (by omega) (by omega), hT0 26 (by omega) (by omega), hT0 17 (by omega) (by omega), hT0 3 (by omega) (by omega), hT 7 (by omega) (by omega) (by omega) (by omega) (by omega), hT 8 (by omega) (by omega) (by omega) (by omega) (by omega), hT 9 (by omega) (by omega) (by omega) (by omega) (by omega), hT 6 (by omega) (by omega) (by omega) (by omega) (by omega), hT 5 (by omega) (by omega) (by omega) (by omega) (by omega), hT 12 (by omega) (by omega) (by omega) (by omega) (by omega)]
    refine ⟨hP.1, hP.2.1, hP.2.2.1, rfl, hP.2.2.2.2.1, hP.2.2.2.2.2.1, hP.2.2.2.2.2.2.1, fun hn => ?_, fun h1 i hi => ?_⟩
    · obtain ⟨p1, p2, p3, p4⟩ := hP.2.2.2.2.2.2.2.1 hn
      refine ⟨PL_eq (hT 1 (by omega) (by omega) (by omega) (by omega) (by omega)) (hT 6 (by omega) (by omega) (by omega) (by omega) (by omega)) (hT 7 (by omega) (by omega) (by omega) (by omega) (by omega)) (hT 8 (by omega) (by omega) (by omega) (by omega) (by omega)) (hT 9 (by omega) (by omega) (by omega) (by omega) (by omega)) (hT0 0 (by omega) (by omega)) (hT0 3 (by omega) (by omega)) (hT0 8 (by omega) (by omega)) (hT0 11 (by omega) (by omega)) (hT0 12 (by omega) (by omega)) p1, p2, fun h k hh hk => ?_, p4⟩
      obtain ⟨nh, -, hnh, enh⟩ := hH.2.1
      rw [enh, nt_nI (by omega)] at hh
      rw [hS (26 + h) (by omega) (by omega) (by omega) (by omega)]
      exact p3 h k (by rw [enh, nt_nI (by omega)]; exact hh) hk
    · obtain ⟨q1, q2, q3, q4⟩ := hb h1 i hi
      exact ⟨q1, (hP.2.2.2.2.2.2.2.2 h1 i hi).2.1, q2, q3, q4⟩
/-- how many lie -/
def nLy (f : Nat → Int32) (i : Nat) : Int32 := if f i = 0 then 1 else 0
theorem z_layAnew {N : Nat} (hN : 1000 ≤ N) {S : St} {n : Nat} (hn : n ≤ 144) (n9 : S.1 13 9 = nI n) (h01 : ∀ i, i < n → S.1 19 i = 0 ∨ S.1 19 i = 1) :
    ∃ S2, fX1_layAnew N S = some (sI (nLy (S.1 19)) n, S2) ∧ (∀ c, c ≠ 17 → c ≠ 19 → S2.1 c = S.1 c) ∧ (∀ i, i < n → S2.1 19 i = 1 ∧ S2.1 17 i = if S.1 19 i = 0 then 99 else S.1 17 i) := by
  unfold fX1_layAnew
  refine it_for (σ := Int32 × St) (F := fX1_layAnew_L4) (fun j s (r : Int32 → Int32 → St → Option (Int32 × St)) => r s.1 (nI j) s.2) n (fun j s => s.1 = sI (nLy (S.1 19)) j ∧ (∀ c, c ≠ 17 → c ≠ 19 → s.2.1 c = S.1 c) ∧ (∀ i, i < j → s.2.1 19 i = 1 ∧ s.2.1 17 i = if S.1 19 i = 0 then 99 else S.1 17 i) ∧ (∀ i, j ≤ i → s.2.1 19 i = S.1 19 i ∧ s.2.1 17 i = S.1 17 i)) (fun o => ∃ S2, o = some (sI (nLy (S.1 19)) n, S2) ∧ (∀ c, c ≠ 17 → c ≠ 19 → S2.1 c = S.1 c) ∧ (∀ i, i < n → S2.1 19 i = 1 ∧ S2.1 17 i = if S.1 19 i = 0 then 99 else S.1 17 i)) ?_ ?_ N 0 (0, S) (by omega) (by omega) ⟨rfl, fun _ _ _ => rfl, fun i hi => absurd hi (by omega), fun i _ => ⟨rfl, rfl⟩⟩
  · intro j s r hj ⟨i1, i2, i3, i4⟩
    obtain ⟨x, s⟩ := s
    have i1 : x = sI (nLy (S.1 19)) j := i1
    have i2 : ∀ c, c ≠ 17 → c ≠ 19 → s.1 c = S.1 c := i2
    have i3 : ∀ i, i < j → s.1 19 i = 1 ∧ s.1 17 i = if S.1 19 i = 0 then 99 else S.1 17 i := i3
    have i4 : ∀ i, j ≤ i → s.1 19 i = S.1 19 i ∧ s.1 17 i = S.1 17 i := i4
    have m9 : s.1 13 9 = nI n := by rw [i2 13 (by omega) (by omega)]; exact n9
    right
    have m19 := (i4 j (by omega)).1
    rcases h01 j hj with h | h
    · refine ⟨(x + 1, wr (wr s 19 j 1) 17 j 99), ⟨?_, ?_, ?_, ?_⟩, ?_⟩
      · show x + 1 = sI (nLy (S.1 19)) j + nLy (S.1 19) j
        rw [i1]; unfold nLy; rw [if_pos h]
      · intro c hc1 hc2
        show (wr (wr s 19 j 1) 17 j 99).1 c = S.1 c
        rw [z_wr_row hc1, z_wr_row hc2]; exact i2 c hc1 hc2
      · intro i hi
        show (wr (wr s 19 j 1) 17 j 99).1 19 i = 1 ∧ (wr (wr s 19 j 1) 17 j 99).1 17 i = _
        rw [z_wr_ne (by omega), z_wr, z_wr, if_pos rfl, if_pos rfl]
        by_cases e : i = j
        · subst e
          rw [if_pos rfl, if_pos rfl, if_pos h]; exact ⟨rfl, rfl⟩
        · rw [if_neg e, if_neg e, z_wr_ne (by omega)]
          exact i3 i (by omega)
      · intro i hi
        show (wr (wr s 19 j 1) 17 j 99).1 19 i = _ ∧ (wr (wr s 19 j 1) 17 j 99).1 17 i = _
        rw [z_wr_ne (by omega), z_wr_oth (by omega), z_wr_oth (by omega), z_wr_ne (by omega)]
        exact i4 i (by omega)
      · show fX1_layAnew_L4 r x (nI j) s = _
        unfold fX1_layAnew_L4
        simp (disch := omega) only [m9, z_lt, hj, if_true, z_ldI, m19, h, z_stI, nmI, nI_1]
    · refine ⟨(x, s), ⟨?_, i2, ?_, fun i hi => i4 i (by omega)⟩, ?_⟩
      · show x = sI (nLy (S.1 19)) j + nLy (S.1 19) j
        rw [i1]; unfold nLy; rw [if_neg (by rw [h]; decide), Int32.add_zero]
      · intro i hi
        show s.1 19 i = 1 ∧ s.1 17 i = _
        by_cases e : i = j
        · subst e
          rw [(i4 i (by omega)).1, (i4 i (by omega)).2, h]; exact ⟨rfl, by rw [if_neg (by decide)]⟩
        · exact i3 i (by omega)
      · show fX1_layAnew_L4 r x (nI j) s = _
        unfold fX1_layAnew_L4
        simp (disch := omega) only [m9, z_lt, hj, if_true, z_ldI, m19, h, z_c1, if_false, z_stI, nmI, nI_1]
  · intro s r ⟨i1, i2, i3, i4⟩
    obtain ⟨x, s⟩ := s
    have i1 : x = sI (nLy (S.1 19)) n := i1
    have m9 : s.1 13 9 = nI n := by rw [show s.1 13 = S.1 13 from i2 13 (by omega) (by omega)]; exact n9
    refine ⟨s, ?_, i2, i3⟩
    show fX1_layAnew_L4 r x (nI n) s = _
    unfold fX1_layAnew_L4
    rw [m9, if_neg (Int32.lt_irrefl), i1]
theorem z_mend6 {N : Nat} (hN : 1000 ≤ N) {S : St} {n : Nat} (hn : n ≤ 144) (n9 : S.1 0 19 = nI n) (h01 : ∀ i, i < n → S.1 11 i = 0 ∨ S.1 11 i = 1) :
    ∃ S2, itN (fun _ _ _ => none) (fX6_mend_L18) N 0 0 S = some (sI (nLy (S.1 11)) n, S2) ∧ (∀ c, c ≠ 10 → c ≠ 11 → S2.1 c = S.1 c) ∧ (∀ i, i < n → S2.1 11 i = 1 ∧ S2.1 10 i = if S.1 11 i = 0 then 99 else S.1 10 i) := by
  refine it_for (σ := Int32 × St) (F := fX6_mend_L18) (fun j s (r : Int32 → Int32 → St → Option (Int32 × St)) => r s.1 (nI j) s.2) n (fun j s => s.1 = sI (nLy (S.1 11)) j ∧ (∀ c, c ≠ 10 → c ≠ 11 → s.2.1 c = S.1 c) ∧ (∀ i, i < j → s.2.1 11 i = 1 ∧ s.2.1 10 i = if S.1 11 i = 0 then 99 else S.1 10 i) ∧ (∀ i, j ≤ i → s.2.1 11 i = S.1 11 i ∧ s.2.1 10 i = S.1 10 i)) (fun o => ∃ S2, o = some (sI (nLy (S.1 11)) n, S2) ∧ (∀ c, c ≠ 10 → c ≠ 11 → S2.1 c = S.1 c) ∧ (∀ i, i < n → S2.1 11 i = 1 ∧ S2.1 10 i = if S.1 11 i = 0 then 99 else S.1 10 i)) ?_ ?_ N 0 (0, S) (by omega) (by omega) ⟨rfl, fun _ _ _ => rfl, fun i hi => absurd hi (by omega), fun i _ => ⟨rfl, rfl⟩⟩
  · intro j s r hj ⟨i1, i2, i3, i4⟩
    obtain ⟨x, s⟩ := s
    have i1 : x = sI (nLy (S.1 11)) j := i1
    have i2 : ∀ c, c ≠ 10 → c ≠ 11 → s.1 c = S.1 c := i2
    have i3 : ∀ i, i < j → s.1 11 i = 1 ∧ s.1 10 i = if S.1 11 i = 0 then 99 else S.1 10 i := i3
    have i4 : ∀ i, j ≤ i → s.1 11 i = S.1 11 i ∧ s.1 10 i = S.1 10 i := i4
    have m9 : s.1 0 19 = nI n := by rw [i2 0 (by omega) (by omega)]; exact n9
    right
    have m19 := (i4 j (by omega)).1
    rcases h01 j hj with h | h
    · refine ⟨(x + 1, wr (wr s 11 j 1) 10 j 99), ⟨?_, ?_, ?_, ?_⟩, ?_⟩
      · show x + 1 = sI (nLy (S.1 11)) j + nLy (S.1 11) j
        rw [i1]; unfold nLy; rw [if_pos h]
      · intro c hc1 hc2
        show (wr (wr s 11 j 1) 10 j 99).1 c = S.1 c
        rw [z_wr_row hc1, z_wr_row hc2]; exact i2 c hc1 hc2
      · intro i hi
        show (wr (wr s 11 j 1) 10 j 99).1 11 i = 1 ∧ (wr (wr s 11 j 1) 10 j 99).1 10 i = _
        rw [z_wr_ne (by omega), z_wr, z_wr, if_pos rfl, if_pos rfl]
        by_cases e : i = j
        · subst e
          rw [if_pos rfl, if_pos rfl, if_pos h]; exact ⟨rfl, rfl⟩
        · rw [if_neg e, if_neg e, z_wr_ne (by omega)]
          exact i3 i (by omega)
      · intro i hi
        show (wr (wr s 11 j 1) 10 j 99).1 11 i = _ ∧ (wr (wr s 11 j 1) 10 j 99).1 10 i = _
        rw [z_wr_ne (by omega), z_wr_oth (by omega), z_wr_oth (by omega), z_wr_ne (by omega)]
        exact i4 i (by omega)
      · show fX6_mend_L18 r x (nI j) s = _
        unfold fX6_mend_L18
        simp (disch := omega) only [m9, z_lt, hj, if_true, z_ldI, m19, h, z_stI, nmI, nI_1]
    · refine ⟨(x, s), ⟨?_, i2, ?_, fun i hi => i4 i (by omega)⟩, ?_⟩
      · show x = sI (nLy (S.1 11)) j + nLy (S.1 11) j
        rw [i1]; unfold nLy; rw [if_neg (by rw [h]; decide), Int32.add_zero]
      · intro i hi
        show s.1 11 i = 1 ∧ s.1 10 i = _
        by_cases e : i = j
        · subst e
          rw [(i4 i (by omega)).1, (i4 i (by omega)).2, h]; exact ⟨rfl, by rw [if_neg (by decide)]⟩
        · exact i3 i (by omega)
      · show fX6_mend_L18 r x (nI j) s = _
        unfold fX6_mend_L18
        simp (disch := omega) only [m9, z_lt, hj, if_true, z_ldI, m19, h, z_c1, if_false, z_stI, nmI, nI_1]
  · intro s r ⟨i1, i2, i3, i4⟩
    obtain ⟨x, s⟩ := s
    have i1 : x = sI (nLy (S.1 11)) n := i1
    have m9 : s.1 0 19 = nI n := by rw [show s.1 0 = S.1 0 from i2 0 (by omega) (by omega)]; exact n9
    refine ⟨s, ?_, i2, i3⟩
    show fX6_mend_L18 r x (nI n) s = _
    unfold fX6_mend_L18
    rw [m9, if_neg (Int32.lt_irrefl), i1]
theorem op_mend {N : Nat} (hN : 1000 ≤ N) {S T : St} (hR : math_R S T) : ∃ (r : Int32) (S2 T2 : St), fX5_mend N S = some (r, S2) ∧ fX6_mend N T = some (r, T2) ∧ math_R S2 T2 := by
  have hR1 := R_thrown 0 hR
  unfold fX6_mend fX5_mend
  simp only [pfI]
  obtain ⟨T1, hT1⟩ : ∃ T1, T1 = wr T 0 28 0 := ⟨_, rfl⟩
  rw [← hT1] at hR1 ⊢
  obtain ⟨n, hn, n19, n9, en, -⟩ := vn hR1
  obtain ⟨b1, b2⟩ := vb hR1
  rw [b1]
  rcases b2 with h | ⟨h, hb⟩
  · rw [if_pos h, if_pos h]
    exact ⟨_, _, _, rfl, rfl, hR1⟩
  rw [if_neg (by rw [h]; decide), if_neg (by rw [h]; decide)]
  rw [en] at hb
  have h01 : ∀ i, i < n → T1.1 11 i = 0 ∨ T1.1 11 i = 1 := fun i hi => rg01 (hb i hi).2.2.2.2
  obtain ⟨S2, e1, f1, g1⟩ := z_layAnew hN hn n9 (fun i hi => by rw [(hb i hi).2.2.1]; exact h01 i hi)
  obtain ⟨T2, e2, f2, g2⟩ := z_mend6 hN hn n19 h01
  rw [e1, e2, caS_some]
  refine ⟨_, _, _, rfl, ?_, R_stand hR1 (fun c _ h17 h19 _ => f1 c h17 h19) (fun c _ h10 h11 _ _ => f2 c h10 h11) (fun j _ _ => by rw [f2 0 (by omega) (by omega)]) (by rw [f1 13 (by omega) (by omega)]) (by rw [f1 13 (by omega) (by omega)]) ?_ ?_⟩
  · rw [sI_eq (fun i hi => ?_)]
    unfold nLy
    rw [(hb i hi).2.2.1]
  · rw [f1 13 (by omega) (by omega), f2 0 (by omega) (by omega)]
    exact hR1.2.2.2.2.2.2.2.1
  · intro _ i hi
    rw [en] at hi
    rw [(g1 i hi).1, (g1 i hi).2, (g2 i hi).1, (g2 i hi).2, (hb i hi).1, (hb i hi).2.2.1]
    refine ⟨rfl, rfl, ?_, ⟨1, by omega, by omega, rfl⟩⟩
    by_cases e : T1.1 11 i = 0
    · rw [if_pos e]; exact ⟨99, by omega, by omega, rfl⟩
    · rw [if_neg e]; exact (hb i hi).2.2.2.1
