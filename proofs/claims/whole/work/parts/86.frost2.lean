/-! frost: the reference's rounds, the call -/
theorem z_lies {N n : Nat} {T : St} {k C P l : Nat → Nat} {st : Nat → Bool} (hN : 1000 ≤ N) (hF : RF T n k C P l) (hst : ∀ j, j < n → T.1 11 j = bI (st j)) {i : Nat} (hi : i < n) (hc : 0 < C i) : fX6_lies N (nI i) T = some (nI (lsum C P l st i n)) := by
  obtain ⟨n19, hn, hF⟩ := hF
  obtain ⟨u1, u2, u3, u4, u5, u6, u7, u8, u9⟩ := hF i hi
  have hs : ∀ m, sI (fun j => nI (if C j + 1 = C i ∧ st j = true then ovl P l i j else 0)) m = nI (lsum C P l st i m) := by
    intro m
    induction m with
    | zero => rfl
    | succ m ih =>
      show sI _ m + nI _ = nI (lsum C P l st i m + _)
      rw [ih, nI_add]
  rw [← hs n]
  unfold fX6_lies
  simp (disch := omega) only [z_ldI, u1, u5, u7, nmI, nI_add]
  refine it_sum (F := fX6_lies_L27 (nI i) (nI (P i)) (nI (P i + l i)) T) (K := some) (by omega) ?_ ?_
  · intro j x r hj
    obtain ⟨v1, v2, v3, v4, v5, v6, v7, v8, v9⟩ := hF j hj
    have ec : (nI (C j) = nI (C i) - 1) = (C j + 1 = C i) := by
      rw [nI_dec hc, z_eq (by omega) (by omega)]
      apply propext
      omega
    unfold fX6_lies_L27
    simp (disch := omega) only [n19, z_lt, hj, if_true, z_ldI, v1, v3, v5, v7, u3, ec, hst j hj, nmI, nI_1, nI_add, jn, z_le]
    by_cases c1 : C j + 1 = C i
    · rw [if_pos c1]
      cases c2 : st j with
      | false =>
        rw [bI_f, if_pos rfl, if_neg (by simp)]
        rw [show nI 0 = 0 from rfl, Int32.add_zero]
      | true =>
        rw [bI_t, if_neg (show ¬ (1 : Int32) = 0 by decide), if_pos (show C j + 1 = C i ∧ true = true from ⟨c1, rfl⟩)]
        unfold ovl
        by_cases c3 : P j ≤ P i
        · rw [if_pos c3]
          by_cases c4 : P j + l j < P i + l i
          · rw [if_pos c4]
            by_cases c5 : P j + l j ≤ P i
            · rw [if_pos c5, show min (P j + l j) (P i + l i) - max (P j) (P i) = 0 by omega]; rfl
            · rw [if_neg c5, pk_sub (by omega), show min (P j + l j) (P i + l i) - max (P j) (P i) = P j + l j - P i by omega]
          · rw [if_neg c4, if_neg (show ¬ P i + l i ≤ P i by omega), pk_sub (by omega), show min (P j + l j) (P i + l i) - max (P j) (P i) = P i + l i - P i by omega]
        · rw [if_neg c3]
          by_cases c4 : P j + l j < P i + l i
          · rw [if_pos c4, if_neg (show ¬ P j + l j ≤ P j by omega), pk_sub (by omega), show min (P j + l j) (P i + l i) - max (P j) (P i) = P j + l j - P j by omega]
          · rw [if_neg c4]
            by_cases c5 : P i + l i ≤ P j
            · rw [if_pos c5, show min (P j + l j) (P i + l i) - max (P j) (P i) = 0 by omega]; rfl
            · rw [if_neg c5, pk_sub (by omega), show min (P j + l j) (P i + l i) - max (P j) (P i) = P i + l i - P j by omega]
    · rw [if_neg c1, if_neg (fun h => c1 h.1), show nI 0 = 0 from rfl, Int32.add_zero]
  · intro x r
    unfold fX6_lies_L27
    rw [n19, if_neg (Int32.lt_irrefl)]
/-- who goes in a round -/
def gos (C P l hd : Nat → Nat) (n : Nat) (s : Nat → Bool) (i : Nat) : Bool := s i && !keeps C P l hd n s i
theorem z_goes {N n : Nat} {T : St} {k C P l hd : Nat → Nat} {st : Nat → Bool} {K : St → Option (Int32 × St)} (hN : 1000 ≤ N) (hF : RF T n k C P l) (hst : ∀ j, j < n → T.1 11 j = bI (st j)) (hhd : ∀ j, j < n → T.1 10 j = nI (hd j) ∧ hd j ≤ 99) : ∃ T2, itN (fun _ _ => none) (fX6_frost_L169 N K) N 0 T = K T2 ∧ (∀ c, c ≠ 19 → T2.1 c = T.1 c) ∧ ∀ i, i < n → T2.1 19 i = bI (gos C P l hd n st i) := by
  refine it_for (σ := St) (F := fX6_frost_L169 N K) (fun j s (r : Int32 → St → Option (Int32 × St)) => r (nI j) s) n (fun j s => (∀ c, c ≠ 19 → s.1 c = T.1 c) ∧ (∀ i, i < j → s.1 19 i = bI (gos C P l hd n st i))) (fun o => ∃ T2, o = K T2 ∧ (∀ c, c ≠ 19 → T2.1 c = T.1 c) ∧ ∀ i, i < n → T2.1 19 i = bI (gos C P l hd n st i)) ?_ ?_ N 0 T (by have := hF.2.1; omega) (by omega) ⟨fun _ _ => rfl, fun i hi => absurd hi (by omega)⟩
  · intro j s r hj ⟨i1, i2⟩
    have hF' : RF s n k C P l := RF_eq (by rw [i1 0 (by omega)]) (i1 7 (by omega)) (i1 8 (by omega)) (i1 9 (by omega)) (i1 1 (by omega)) hF
    have hst' : ∀ j, j < n → s.1 11 j = bI (st j) := fun j hj => by rw [i1 11 (by omega)]; exact hst j hj
    have hn := hF.2.1
    have n19 := hF'.1
    obtain ⟨u1, u2, u3, u4, u5, u6, u7, u8, u9⟩ := hF'.2.2 j hj
    have s10 : s.1 10 j = nI (hd j) := by rw [i1 10 (by omega)]; exact (hhd j hj).1
    have h99 := (hhd j hj).2
    refine Or.inr ⟨wr s 19 j (bI (gos C P l hd n st j)), ⟨fun c hc => by rw [z_wr_row hc]; exact i1 c hc, fun i hi => ?_⟩, ?_⟩
    · by_cases e : i = j
      · rw [e]; exact z_wr_eq
      · rw [z_wr_oth e]; exact i2 i (by omega)
    · show fX6_frost_L169 N K r (nI j) s = _
      unfold gos keeps
      cases c : st j with
      | false =>
        unfold fX6_frost_L169
        simp (disch := omega) only [n19, z_lt, hj, if_true, z_ldI, hst' j hj, c, bI_f, nmI, nI_1, z_stI, Bool.false_and]
      | true =>
        by_cases h0 : hd j = 0
        · have e0 : nI 0 = 0 := rfl
          rw [decide_eq_true h0]
          unfold fX6_frost_L169
          simp (disch := omega) only [n19, z_lt, hj, if_true, z_ldI, hst' j hj, c, bI_t, z_c1, if_false, s10, h0, e0, nmI, nI_1, z_stI]
          rfl
        · have hne : (nI (hd j) = 0) = False := by
            simp only [eq_iff_iff, iff_false]
            exact nI_ne0 (by omega) (by omega)
          rw [decide_eq_false h0]
          by_cases hc0 : C j = 0
          · have e0 : ((0 : Int32) ≤ 0) = True := by simp
            have e1 : nI 0 = 0 := rfl
            rw [decide_eq_true hc0]
            unfold fX6_frost_L169
            simp (disch := omega) only [n19, z_lt, hj, if_true, z_ldI, hst' j hj, c, bI_t, z_c1, if_false, s10, hne, u3, hc0, e1, e0, nmI, nI_1, z_stI]
            rfl
          · have hle := lsum_le (C := C) (P := P) (l := l) (f := st) (i := j) (m := n) u9
            have e2 : ∀ y, 2 * nI y = nI (2 * y) := fun y => nI_mul 2 y
            rw [decide_eq_false hc0]
            unfold fX6_frost_L169
            simp (disch := omega) only [n19, z_lt, hj, if_true, z_ldI, hst' j hj, c, bI_t, z_c1, if_false, s10, hne, u3, z_le0, hc0, show ¬ C j ≤ 0 by omega, z_lies hN hF' hst' hj (by omega), caP_some, u1, u7, e2, nmI, nI_1, z_stI]
            by_cases c5 : 2 * lsum C P l st j n < l j
            · rw [if_pos c5, decide_eq_false (by omega)]; rfl
            · rw [if_neg c5, decide_eq_true (by omega)]; rfl
  · intro s r ⟨i1, i2⟩
    have n19 : s.1 0 19 = nI n := by rw [i1 0 (by omega)]; exact hF.1
    refine ⟨s, ?_, i1, i2⟩
    show fX6_frost_L169 N K r (nI n) s = _
    unfold fX6_frost_L169
    rw [n19, if_neg (Int32.lt_irrefl)]
theorem z_fall {N n : Nat} {T : St} {g st : Nat → Bool} {x0 : Nat} {K : Int32 → Int32 → St → Option (Int32 × St)} (hN : 1000 ≤ N) (hn : n ≤ 144) (n19 : T.1 0 19 = nI n) (hst : ∀ j, j < n → T.1 11 j = bI (st j)) (hg : ∀ j, j < n → T.1 19 j = bI (g j)) : ∃ T2, itN (fun _ _ _ _ => none) (fX6_frost_L252 K) N (nI x0) 0 0 T = K (nI (x0 + cB g n)) (bI (decide (0 < cB g n))) T2 ∧ (∀ c, c ≠ 11 → T2.1 c = T.1 c) ∧ ∀ i, i < n → T2.1 11 i = bI (st i && !g i) := by
  refine it_for (σ := (Int32 × Int32) × St) (F := fX6_frost_L252 K) (fun j s (r : Int32 → Int32 → Int32 → St → Option (Int32 × St)) => r s.1.1 s.1.2 (nI j) s.2) n (fun j s => s.1.1 = nI (x0 + cB g j) ∧ s.1.2 = bI (decide (0 < cB g j)) ∧ (∀ c, c ≠ 11 → s.2.1 c = T.1 c) ∧ (∀ i, i < j → s.2.1 11 i = bI (st i && !g i)) ∧ (∀ i, j ≤ i → i < n → s.2.1 11 i = bI (st i))) (fun o => ∃ T2, o = K (nI (x0 + cB g n)) (bI (decide (0 < cB g n))) T2 ∧ (∀ c, c ≠ 11 → T2.1 c = T.1 c) ∧ ∀ i, i < n → T2.1 11 i = bI (st i && !g i)) ?_ ?_ N 0 ((nI x0, 0), T) (by omega) (by omega) ⟨rfl, rfl, fun _ _ => rfl, fun i hi => absurd hi (by omega), fun i _ hi => hst i hi⟩
  · rintro j ⟨⟨x, y⟩, s⟩ r hj ⟨i0, i1, i2, i3, i4⟩
    dsimp only at i0 i1 i2 i3 i4
    have m19 : s.1 0 19 = nI n := by rw [i2 0 (by omega)]; exact n19
    have g19 : s.1 19 j = bI (g j) := by rw [i2 19 (by omega)]; exact hg j hj
    have hcnt : cB g (j + 1) = cB g j + (if g j = true then 1 else 0) := rfl
    right
    cases c : g j with
    | false =>
      refine ⟨((x, y), s), ⟨?_, ?_, i2, ?_, fun i hi => i4 i (by omega)⟩, ?_⟩
      · show x = _; rw [hcnt, c, i0]; rfl
      · show y = _; rw [hcnt, c, i1]; rfl
      · intro i hi
        by_cases e : i = j
        · subst e
          show s.1 11 i = _
          rw [i4 i (by omega) hj, c]; simp
        · exact i3 i (by omega)
      · show fX6_frost_L252 K r x y (nI j) s = r x y (nI (j + 1)) s
        unfold fX6_frost_L252
        simp (disch := omega) only [m19, z_lt, hj, if_true, z_ldI, g19, c, bI_f, nmI, nI_1]
    | true =>
      refine ⟨((x + 1, 1), wr s 11 j 0), ⟨?_, ?_, ?_, ?_, ?_⟩, ?_⟩
      · show x + 1 = _; rw [hcnt, c, i0, nI_1, if_pos rfl]; rfl
      · show 1 = _; rw [hcnt, c, if_pos rfl, decide_eq_true (by omega)]; rfl
      · intro c hc
        show (wr s 11 j 0).1 c = _
        rw [z_wr_row hc]; exact i2 c hc
      · intro i hi
        show (wr s 11 j 0).1 11 i = _
        by_cases e : i = j
        · subst e
          rw [z_wr_eq, c]; simp [bI]
        · rw [z_wr_oth e]; exact i3 i (by omega)
      · intro i hi hin
        show (wr s 11 j 0).1 11 i = _
        rw [z_wr_oth (by omega)]; exact i4 i (by omega) hin
      · show fX6_frost_L252 K r x y (nI j) s = r (x + 1) 1 (nI (j + 1)) (wr s 11 j 0)
        unfold fX6_frost_L252
        simp (disch := omega) only [m19, z_lt, hj, if_true, z_ldI, g19, c, bI_t, z_c1, if_false, nmI, nI_1, z_stI]
  · rintro ⟨⟨x, y⟩, s⟩ r ⟨i0, i1, i2, i3, i4⟩
    dsimp only at i0 i1 i2 i3 i4
    have m19 : s.1 0 19 = nI n := by rw [i2 0 (by omega)]; exact n19
    refine ⟨s, ?_, i2, i3⟩
    show fX6_frost_L252 K r x y (nI n) s = _
    unfold fX6_frost_L252
    rw [m19, if_neg (Int32.lt_irrefl), i0, i1]
theorem z_rounds {N n : Nat} {T : St} {k C P l hd : Nat → Nat} {st : Nat → Bool} (hN : 1000 ≤ N) (hF : RF T n k C P l) (hO : OR n C P l) (hst : ∀ j, j < n → T.1 11 j = bI (st j)) (hhd : ∀ j, j < n → T.1 10 j = nI (hd j) ∧ hd j ≤ 99) : ∃ T2, itN (fun _ _ _ => none) (fX6_frost_L160 N) N 0 1 T = some (nI (cB (fun i => st i && !fnS st (keeps C P l hd n) n i) n), T2) ∧ (∀ c, c ≠ 11 → c ≠ 19 → T2.1 c = T.1 c) ∧ ∀ i, i < n → T2.1 11 i = bI (fnS st (keeps C P l hd n) n i) := by
  have hn := hF.2.1
  have hC : ∀ i j, i < n → j < n → C j + 1 = C i → j < i := hO.2.2.1
  refine it_run (σ := (Int32 × Int32) × St) (F := fX6_frost_L160 N) (fun s (r : Int32 → Int32 → St → Option (Int32 × St)) => r s.1.1 s.1.2 s.2) (fun m s => ∃ q : Nat → Bool, (∀ i, i < n → q i = true → st i = true) ∧ (∀ i, i < n → fnS st (keeps C P l hd n) n i = true → q i = true) ∧ s.1.1 = nI (cB (fun i => st i && !q i) n) ∧ (∀ c, c ≠ 11 → c ≠ 19 → s.2.1 c = T.1 c) ∧ (∀ i, i < n → s.2.1 11 i = bI (q i)) ∧ ((s.1.2 = 1 ∧ m = cB q n + 1) ∨ (s.1.2 = 0 ∧ m = 0 ∧ ∀ i, i < n → q i = true → keeps C P l hd n q i = true))) (fun o => ∃ T2, o = some (nI (cB (fun i => st i && !fnS st (keeps C P l hd n) n i) n), T2) ∧ (∀ c, c ≠ 11 → c ≠ 19 → T2.1 c = T.1 c) ∧ ∀ i, i < n → T2.1 11 i = bI (fnS st (keeps C P l hd n) n i)) ?_ N (cB st n + 1) ((0, 1), T) (by have := cB_le st n; omega) ⟨st, fun _ _ h => h, fun i hi h => ?_, ?_, fun _ _ _ => rfl, hst, Or.inl ⟨rfl, rfl⟩⟩
  · rintro m ⟨⟨x, y⟩, s⟩ r ⟨q, q1, q2, q3, q4, q5, q6⟩
    dsimp only at q3 q4 q5 q6
    rcases q6 with ⟨e1, e2⟩ | ⟨e1, e2, e3⟩
    · right
      have hF' : RF s n k C P l := RF_eq (by rw [q4 0 (by omega) (by omega)]) (q4 7 (by omega) (by omega)) (q4 8 (by omega) (by omega)) (q4 9 (by omega) (by omega)) (q4 1 (by omega) (by omega)) hF
      have hhd' : ∀ j, j < n → s.1 10 j = nI (hd j) ∧ hd j ≤ 99 := fun j hj => by rw [q4 10 (by omega) (by omega)]; exact hhd j hj
      obtain ⟨s2, a1, a2, a3⟩ := z_goes (K := fun (S21 : St) => itN (fun _ _ _ _ => none) (fX6_frost_L252 (fun (x28 : Int32) (x29 : Int32) (S30 : St) => r x28 x29 S30)) N x 0 0 S21) hN hF' q5 hhd'
      obtain ⟨s3, b1, b2, b3⟩ := z_fall (K := fun (x28 : Int32) (x29 : Int32) (S30 : St) => r x28 x29 S30) (x0 := cB (fun i => st i && !q i) n) hN hn (T := s2) (by rw [a2 0 (by omega)]; exact hF'.1) (st := q) (fun j hj => by rw [a2 11 (by omega)]; exact q5 j hj) a3
      have hsum1 : cB (fun i => st i && !q i) n + cB (gos C P l hd n q) n = cB (fun i => st i && !(q i && !gos C P l hd n q i)) n := by
        rw [← cB_or]
        · refine cB_eq (fun i hi => ?_)
          have := q1 i hi
          unfold gos
          cases hq : q i <;> cases hs : st i <;> simp [hq, hs] at this ⊢
        · intro i hi
          unfold gos
          cases hq : q i <;> simp
      have hsum2 : cB (fun i => q i && !gos C P l hd n q i) n + cB (gos C P l hd n q) n = cB q n := by
        rw [← cB_or]
        · refine cB_eq (fun i hi => ?_)
          unfold gos
          cases hq : q i <;> cases hk : keeps C P l hd n q i <;> rfl
        · intro i hi
          unfold gos
          cases hq : q i <;> cases hk : keeps C P l hd n q i <;> simp
      have hstep : fX6_frost_L160 N r x y s = r (nI (cB (fun i => st i && !(q i && !gos C P l hd n q i)) n)) (bI (decide (0 < cB (gos C P l hd n q) n))) s3 := by
        unfold fX6_frost_L160
        rw [if_neg (by rw [e1]; decide), a1]
        rw [← hsum1]
        rw [q3]
        exact b1
      refine ⟨if 0 < cB (gos C P l hd n q) n then cB (fun i => q i && !gos C P l hd n q i) n + 1 else 0, ((nI (cB (fun i => st i && !(q i && !gos C P l hd n q i)) n), bI (decide (0 < cB (gos C P l hd n q) n))), s3), ?_, ⟨fun i => q i && !gos C P l hd n q i, ?_, ?_, rfl, ?_, b3, ?_⟩, hstep⟩
      · rw [e2]
        split <;> omega
      · intro i hi h
        simp only [Bool.and_eq_true] at h
        exact q1 i hi h.1
      · intro i hi h
        have h1 := q2 i hi h
        have h2 := fin_stays hC q2 i hi h
        show (q i && !(q i && !keeps C P l hd n q i)) = true
        rw [h1, h2]; rfl
      · intro c h11 h19
        show s3.1 c = _
        rw [b2 c h11, a2 c h19, q4 c h11 h19]
      · by_cases h0 : 0 < cB (gos C P l hd n q) n
        · left
          refine ⟨?_, ?_⟩
          · show bI _ = 1
            rw [decide_eq_true h0]; rfl
          · rw [if_pos h0]
        · right
          refine ⟨?_, ?_, ?_⟩
          · show bI _ = 0
            rw [decide_eq_false h0]; rfl
          · rw [if_neg h0]
          · have hz : ∀ m, m ≤ n → cB (gos C P l hd n q) m = 0 → ∀ i, i < m → gos C P l hd n q i = false := by
              intro m
              induction m with
              | zero => intro _ _ i hi; omega
              | succ m ih =>
                intro hm h i hi
                have h2 : cB (gos C P l hd n q) m + (if gos C P l hd n q m = true then 1 else 0) = 0 := h
                by_cases e : i = m
                · cases hg : gos C P l hd n q m with
                  | false => rw [e]; exact hg
                  | true => rw [hg, if_pos rfl] at h2; omega
                · exact ih (by omega) (by omega) i (by omega)
            have hg := hz n (Nat.le_refl _) (by omega)
            intro i hi hq
            simp only [Bool.and_eq_true] at hq
            have h3 := hg i hi
            have h4 : keeps C P l hd n (fun i => q i && !gos C P l hd n q i) i = keeps C P l hd n q i := keeps_congr (fun j hj _ => by
              show (q j && !gos C P l hd n q j) = q j
              rw [hg j hj]; simp)
            rw [h4]
            unfold gos at h3
            rw [hq.1] at h3
            simpa using h3
    · left
      have hfin := stable_fin hC q1 q2 e3
      refine ⟨s, ?_, q4, fun i hi => by rw [q5 i hi, hfin i hi]⟩
      show fX6_frost_L160 N r x y s = _
      unfold fX6_frost_L160
      rw [if_pos e1, q3]
      congr 3
      exact cB_eq (fun i hi => by rw [hfin i hi])
  · rw [fnS_old hi] at h
    simp only [Bool.and_eq_true] at h
    exact h.1
  · show (0 : Int32) = _
    rw [cB_none (fun i _ => by simp)]
    rfl
