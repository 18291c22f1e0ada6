/-! frost: the loops -/
def bI (x : Bool) : Int32 := if x then 1 else 0
theorem bI_f : bI false = 0 := rfl
theorem bI_t : bI true = 1 := rfl
def RF (T : St) (n : Nat) (k C P l : Nat → Nat) : Prop := T.1 0 19 = nI n ∧ n ≤ 144 ∧ ∀ i, i < n → T.1 7 i = nI (k i) ∧ k i < 8 ∧ T.1 8 i = nI (C i) ∧ C i < 6 ∧ T.1 9 i = nI (P i) ∧ P i + l i ≤ 24 ∧ T.1 1 (k i) = nI (l i) ∧ 1 ≤ l i ∧ l i ≤ 6
def CF (S : St) (n : Nat) (k C P l : Nat → Nat) : Prop := S.1 13 9 = nI n ∧ n ≤ 144 ∧ ∀ i, i < n → S.1 14 i = nI (k i) ∧ k i < 8 ∧ S.1 15 i = nI (C i) ∧ C i < 6 ∧ S.1 16 i = nI (P i) ∧ P i + l i ≤ 24 ∧ S.1 2 (k i) = nI (l i) ∧ 1 ≤ l i ∧ l i ≤ 6
theorem RF_eq {T T2 : St} {n : Nat} {k C P l : Nat → Nat} (h0 : T2.1 0 19 = T.1 0 19) (h7 : T2.1 7 = T.1 7) (h8 : T2.1 8 = T.1 8) (h9 : T2.1 9 = T.1 9) (h1 : T2.1 1 = T.1 1) (h : RF T n k C P l) : RF T2 n k C P l := by
  unfold RF at h ⊢
  rw [h0, h7, h8, h9, h1]
  exact h
theorem CF_eq {T T2 : St} {n : Nat} {k C P l : Nat → Nat} (h0 : T2.1 13 9 = T.1 13 9) (h7 : T2.1 14 = T.1 14) (h8 : T2.1 15 = T.1 15) (h9 : T2.1 16 = T.1 16) (h1 : T2.1 2 = T.1 2) (h : CF T n k C P l) : CF T2 n k C P l := by
  unfold CF at h ⊢
  rw [h0, h7, h8, h9, h1]
  exact h
/-- the wall's order -/
def OR (n : Nat) (C P l : Nat → Nat) : Prop := (∀ i j, i < n → j < n → C j = C i → P j + l j = P i → j + 1 = i) ∧ (∀ i, i + 1 < n → C (i + 1) = C i → P (i + 1) = P i + l i) ∧ (∀ i j, i < n → j < n → C j + 1 = C i → j < i) ∧ (∀ i j, i ≤ j → j < n → C i ≤ C j) ∧ (∀ a b, a < b → b < n → C a = C b → P a + l a ≤ P b)
def nbL (C : Nat → Nat) (st : Nat → Bool) (i : Nat) : Bool := decide (0 < i ∧ C (i - 1) = C i ∧ st (i - 1) = true)
def nbR (n : Nat) (C : Nat → Nat) (st : Nat → Bool) (i : Nat) : Bool := decide (i + 1 < n ∧ C (i + 1) = C i ∧ st (i + 1) = true)
theorem z_besideL {N n : Nat} {T : St} {k C P l : Nat → Nat} {st : Nat → Bool} (hN : 1000 ≤ N) (hF : RF T n k C P l) (hO : OR n C P l) (hst : ∀ j, j < n → T.1 11 j = bI (st j)) {i : Nat} (hi : i < n) : fX6_beside N (nI i) 0 T = some (bI (nbL C st i)) := by
  obtain ⟨n19, hn, hF⟩ := hF
  obtain ⟨u1, u2, u3, u4, u5, u6, u7, u8, u9⟩ := hF i hi
  have h1 := it_find (z := fun _ => none) (F := fX6_beside_L2 (nI i) 0 T) (n := n) (N := N) (j0 := 0) (fun j => C j = C i ∧ st j = true ∧ P j + l j = P i) (fun _ => some 1) (some 0) (by omega) (by omega) (by
      intro j r _ hj
      obtain ⟨v1, v2, v3, v4, v5, v6, v7, v8, v9⟩ := hF j hj
      unfold fX6_beside_L2
      simp (disch := omega) only [n19, z_lt, hj, if_true, z_ldI, v1, v3, v5, v7, u3, u5, hst j hj, nmI, nI_1, z_eq, nI_add]
      by_cases c1 : C j = C i
      · cases c2 : st j with
        | false =>
          refine Or.inr ⟨by simp, ?_⟩
          rw [if_pos c1, bI_f, if_pos rfl]
        | true =>
          rw [if_pos c1, bI_t, if_neg (by decide)]
          by_cases c3 : P j + l j = P i
          · rw [if_pos c3]; exact Or.inl ⟨⟨c1, rfl, c3⟩, rfl⟩
          · rw [if_neg c3]; exact Or.inr ⟨fun h => c3 h.2.2, rfl⟩
      · rw [if_neg c1]; exact Or.inr ⟨fun h => c1 h.1, rfl⟩) (by
      intro r
      unfold fX6_beside_L2
      rw [n19, if_neg (Int32.lt_irrefl)])
  unfold fX6_beside
  rcases h1 with ⟨j, -, hj, ⟨p1, p2, p3⟩, -, e⟩ | ⟨hp, e⟩
  · have hji := hO.1 i j hi hj p1 p3
    rw [nI_0] at e
    rw [e]
    unfold nbL
    subst hji
    rw [decide_eq_true (by rw [Nat.add_sub_cancel]; exact ⟨by omega, p1, p2⟩)]
    rfl
  · rw [nI_0] at e
    rw [e]
    unfold nbL
    rw [decide_eq_false]
    · rfl
    · rintro ⟨q1, q2, q3⟩
      refine hp (i - 1) (by omega) (by omega) ⟨q2, q3, ?_⟩
      have := hO.2.1 (i - 1) (by omega) (by rw [show i - 1 + 1 = i by omega]; exact q2.symm)
      rw [show i - 1 + 1 = i by omega] at this
      exact this.symm
theorem z_besideR {N n : Nat} {T : St} {k C P l : Nat → Nat} {st : Nat → Bool} (hN : 1000 ≤ N) (hF : RF T n k C P l) (hO : OR n C P l) (hst : ∀ j, j < n → T.1 11 j = bI (st j)) {i : Nat} (hi : i < n) : fX6_beside N (nI i) 1 T = some (bI (nbR n C st i)) := by
  obtain ⟨n19, hn, hF⟩ := hF
  obtain ⟨u1, u2, u3, u4, u5, u6, u7, u8, u9⟩ := hF i hi
  have h1 := it_find (z := fun _ => none) (F := fX6_beside_L2 (nI i) 1 T) (n := n) (N := N) (j0 := 0) (fun j => C j = C i ∧ st j = true ∧ P j = P i + l i) (fun _ => some 1) (some 0) (by omega) (by omega) (by
      intro j r _ hj
      obtain ⟨v1, v2, v3, v4, v5, v6, v7, v8, v9⟩ := hF j hj
      unfold fX6_beside_L2
      simp (disch := omega) only [n19, z_lt, hj, if_true, z_ldI, v1, v3, v5, v7, u1, u3, u5, u7, hst j hj, nmI, nI_1, z_eq, nI_add, z_c1, if_false]
      by_cases c1 : C j = C i
      · cases c2 : st j with
        | false =>
          refine Or.inr ⟨by simp, ?_⟩
          rw [if_pos c1, bI_f, if_pos rfl]
        | true =>
          rw [if_pos c1, bI_t, if_neg (by decide)]
          by_cases c3 : P j = P i + l i
          · rw [if_pos c3]; exact Or.inl ⟨⟨c1, rfl, c3⟩, rfl⟩
          · rw [if_neg c3]; exact Or.inr ⟨fun h => c3 h.2.2, rfl⟩
      · rw [if_neg c1]; exact Or.inr ⟨fun h => c1 h.1, rfl⟩) (by
      intro r
      unfold fX6_beside_L2
      rw [n19, if_neg (Int32.lt_irrefl)])
  unfold fX6_beside
  rcases h1 with ⟨j, -, hj, ⟨p1, p2, p3⟩, -, e⟩ | ⟨hp, e⟩
  · have hji := hO.1 j i hj hi p1.symm p3.symm
    rw [nI_0] at e
    rw [e]
    unfold nbR
    rw [decide_eq_true (by rw [hji]; exact ⟨hj, p1, p2⟩)]
    rfl
  · rw [nI_0] at e
    rw [e]
    unfold nbR
    rw [decide_eq_false]
    · rfl
    · rintro ⟨q1, q2, q3⟩
      exact hp (i + 1) (by omega) (by omega) ⟨q2, q3, hO.2.1 i q1 q2⟩
theorem z_sbL {n : Nat} {S : St} {k C P l : Nat → Nat} {st : Nat → Bool} (hF : CF S n k C P l) (hst : ∀ j, j < n → S.1 19 j = bI (st j)) {i : Nat} (hi : i < n) : fX1_standsBeside (nI i) (nI i - 1) S = some (bI (nbL C st i)) := by
  obtain ⟨n9, hn, hF⟩ := hF
  obtain ⟨u1, u2, u3, u4, u5, u6, u7, u8, u9⟩ := hF i hi
  unfold fX1_standsBeside nbL
  by_cases h0 : i = 0
  · subst h0
    rw [if_pos (by decide), decide_eq_false (by omega)]
    rfl
  obtain ⟨j, rfl⟩ : ∃ j, i = j + 1 := ⟨i - 1, by omega⟩
  obtain ⟨v1, v2, v3, v4, v5, v6, v7, v8, v9⟩ := hF j (by omega)
  rw [nI_pred, if_neg (nI_pos (by omega))]
  simp (disch := omega) only [n9, z_lt, if_pos (show j < n by omega), z_ldI, u3, v3, z_eq, hst j (by omega), Nat.add_sub_cancel]
  by_cases c1 : C j = C (j + 1)
  · rw [if_pos c1]
    cases c2 : st j with
    | false => rw [bI_f, if_pos rfl, decide_eq_false (by simp)]; rfl
    | true => rw [bI_t, if_neg (by decide), decide_eq_true ⟨by omega, c1, rfl⟩]; rfl
  · rw [if_neg c1, decide_eq_false (fun h => c1 h.2.1)]; rfl
theorem z_sbR {n : Nat} {S : St} {k C P l : Nat → Nat} {st : Nat → Bool} (hF : CF S n k C P l) (hst : ∀ j, j < n → S.1 19 j = bI (st j)) {i : Nat} (hi : i < n) : fX1_standsBeside (nI i) (nI (i + 1)) S = some (bI (nbR n C st i)) := by
  obtain ⟨n9, hn, hF⟩ := hF
  obtain ⟨u1, u2, u3, u4, u5, u6, u7, u8, u9⟩ := hF i hi
  unfold fX1_standsBeside nbR
  rw [if_neg (nI_pos (by omega))]
  simp (disch := omega) only [n9, z_lt]
  by_cases h0 : i + 1 < n
  · obtain ⟨v1, v2, v3, v4, v5, v6, v7, v8, v9⟩ := hF (i + 1) h0
    simp (disch := omega) only [if_pos h0, z_ldI, u3, v3, z_eq, hst (i + 1) h0]
    by_cases c1 : C (i + 1) = C i
    · rw [if_pos c1]
      cases c2 : st (i + 1) with
      | false => rw [bI_f, if_pos rfl, decide_eq_false (by simp)]; rfl
      | true => rw [bI_t, if_neg (by decide), decide_eq_true ⟨h0, c1, rfl⟩]; rfl
    · rw [if_neg c1, decide_eq_false (fun h => c1 h.2.1)]; rfl
  · rw [if_neg h0, decide_eq_false (fun h => h0 h.1)]; rfl
/-- the free ends of a stone -/
def fe (n : Nat) (C : Nat → Nat) (st : Nat → Bool) (i : Nat) : Nat := (if nbL C st i then 0 else 1) + (if nbR n C st i then 0 else 1)
theorem fe_le (n : Nat) (C : Nat → Nat) (st : Nat → Bool) (i : Nat) : fe n C st i ≤ 2 := by
  unfold fe
  split <;> split <;> omega
/-- the hold after the frost -/
def hdF (A n : Nat) (C hd : Nat → Nat) (st : Nat → Bool) (i : Nat) : Nat := if st i then hd i - A * (1 + fe n C st i) else hd i
theorem z_mx0 {a b : Nat} (ha : a < 2 ^ 30) (hb : b < 2 ^ 30) : mxI 0 (nI a - nI b) = nI (a - b) := by
  rw [mxI_eq]
  by_cases h : a < b
  · rw [if_pos (pk_sneg hb h), show a - b = 0 by omega]; rfl
  · rw [pk_sub (by omega), if_neg (nI_pos (by omega))]
theorem z_loosen {N n A : Nat} {S : St} {k C P l hd : Nat → Nat} {st : Nat → Bool} (hN : 1000 ≤ N) (hA : A ≤ 50) (hF : CF S n k C P l) (hst : ∀ j, j < n → S.1 19 j = bI (st j)) (hhd : ∀ j, j < n → S.1 17 j = nI (hd j) ∧ hd j ≤ 99) : ∃ S2, fX1_loosen N (nI A) S = some S2 ∧ (∀ c, c ≠ 17 → S2.1 c = S.1 c) ∧ ∀ i, i < n → S2.1 17 i = nI (hdF A n C hd st i) := by
  unfold fX1_loosen
  refine it_for (σ := St) (F := fX1_loosen_L2 (nI A)) (fun j s (r : Int32 → St → Option St) => r (nI j) s) n (fun j s => (∀ c, c ≠ 17 → s.1 c = S.1 c) ∧ (∀ i, i < j → s.1 17 i = nI (hdF A n C hd st i)) ∧ (∀ i, j ≤ i → s.1 17 i = S.1 17 i)) (fun o => ∃ S2, o = some S2 ∧ (∀ c, c ≠ 17 → S2.1 c = S.1 c) ∧ ∀ i, i < n → S2.1 17 i = nI (hdF A n C hd st i)) ?_ ?_ N 0 S (by have := hF.2.1; omega) (by omega) ⟨fun _ _ => rfl, fun i hi => absurd hi (by omega), fun _ _ => rfl⟩
  · intro j s r hj ⟨i1, i2, i3⟩
    have hF' : CF s n k C P l := CF_eq (by rw [i1 13 (by omega)]) (i1 14 (by omega)) (i1 15 (by omega)) (i1 16 (by omega)) (i1 2 (by omega)) hF
    have hst' : ∀ j, j < n → s.1 19 j = bI (st j) := fun j hj => by rw [i1 19 (by omega)]; exact hst j hj
    have hn := hF.2.1
    have n9 := hF'.1
    obtain ⟨h1, h2⟩ := hhd j hj
    have h17 : s.1 17 j = nI (hd j) := by rw [i3 j (by omega)]; exact h1
    right
    cases c : st j with
    | false =>
      refine ⟨s, ⟨i1, fun i hi => ?_, fun i hi => i3 i (by omega)⟩, ?_⟩
      · by_cases e : i = j
        · subst e
          rw [h17]; unfold hdF; rw [c]; rfl
        · exact i2 i (by omega)
      · show fX1_loosen_L2 (nI A) r (nI j) s = _
        unfold fX1_loosen_L2
        simp (disch := omega) only [n9, z_lt, hj, if_true, z_ldI, hst' j hj, c, bI_f, nmI, nI_1]
    | true =>
      have hfe := fe_le n C st j
      have hm : A * (1 + fe n C st j) ≤ 50 * 3 := Nat.mul_le_mul hA (by omega)
      refine ⟨wr s 17 j (nI (hdF A n C hd st j)), ⟨fun c hc => by rw [z_wr_row hc]; exact i1 c hc, fun i hi => ?_, fun i hi => ?_⟩, ?_⟩
      · by_cases e : i = j
        · rw [e]; exact z_wr_eq
        · rw [z_wr_oth e]; exact i2 i (by omega)
      · rw [z_wr_oth (by omega)]; exact i3 i (by omega)
      · have key : mxI 0 (nI (hd j) - nI A * (1 + (nI (if nbL C st j then 0 else 1) + nI (if nbR n C st j then 0 else 1)))) = nI (hdF A n C hd st j) := by
          rw [nI_add]
          show mxI 0 (nI (hd j) - nI A * (nI 1 + nI (fe n C st j))) = _
          rw [nI_add, nI_mul, z_mx0 (by omega) (by omega)]
          unfold hdF
          rw [c]; rfl
        show fX1_loosen_L2 (nI A) r (nI j) s = _
        rw [← key]
        unfold fX1_loosen_L2
        simp (disch := omega) only [n9, z_lt, hj, if_true, z_ldI, hst' j hj, c, bI_t, z_c1, if_false, z_sbL hF' hst' hj, z_sbR hF' hst' hj, caP_some, jn, nmI, nI_1, h17, z_stI]
        cases nbL C st j <;> cases nbR n C st j <;> rfl
  · intro s r ⟨i1, i2, i3⟩
    have n9 : s.1 13 9 = nI n := by rw [i1 13 (by omega)]; exact hF.1
    refine ⟨s, ?_, i1, i2⟩
    show fX1_loosen_L2 (nI A) r (nI n) s = _
    unfold fX1_loosen_L2
    rw [n9, if_neg (Int32.lt_irrefl)]
theorem z_falls {N n A : Nat} {T : St} {k C P l hd : Nat → Nat} {st : Nat → Bool} {K : St → Option (Int32 × St)} (hN : 1000 ≤ N) (hF : RF T n k C P l) (hO : OR n C P l) (hst : ∀ j, j < n → T.1 11 j = bI (st j)) : ∃ T2, itN (fun _ _ => none) (fX6_frost_L36 N (nI A) K) N 0 T = K T2 ∧ (∀ c, c ≠ 20 → T2.1 c = T.1 c) ∧ ∀ i, i < n → T2.1 20 i = nI (if st i then A * (1 + fe n C st i) else 0) := by
  refine it_for (σ := St) (F := fX6_frost_L36 N (nI A) K) (fun j s (r : Int32 → St → Option (Int32 × St)) => r (nI j) s) n (fun j s => (∀ c, c ≠ 20 → s.1 c = T.1 c) ∧ (∀ i, i < j → s.1 20 i = nI (if st i then A * (1 + fe n C st i) else 0))) (fun o => ∃ T2, o = K T2 ∧ (∀ c, c ≠ 20 → T2.1 c = T.1 c) ∧ ∀ i, i < n → T2.1 20 i = nI (if st i then A * (1 + fe n C st i) else 0)) ?_ ?_ N 0 T (by have := hF.2.1; omega) (by omega) ⟨fun _ _ => rfl, fun i hi => absurd hi (by omega)⟩
  · intro j s r hj ⟨i1, i2⟩
    have hF' : RF s n k C P l := RF_eq (by rw [i1 0 (by omega)]) (i1 7 (by omega)) (i1 8 (by omega)) (i1 9 (by omega)) (i1 1 (by omega)) hF
    have hst' : ∀ j, j < n → s.1 11 j = bI (st j) := fun j hj => by rw [i1 11 (by omega)]; exact hst j hj
    have hn := hF.2.1
    have n19 := hF'.1
    refine Or.inr ⟨wr s 20 j (nI (if st j then A * (1 + fe n C st j) else 0)), ⟨fun c hc => by rw [z_wr_row hc]; exact i1 c hc, fun i hi => ?_⟩, ?_⟩
    · by_cases e : i = j
      · rw [e]; exact z_wr_eq
      · rw [z_wr_oth e]; exact i2 i (by omega)
    · show fX6_frost_L36 N (nI A) K r (nI j) s = _
      cases c : st j with
      | false =>
        unfold fX6_frost_L36
        simp (disch := omega) only [n19, z_lt, hj, if_true, z_ldI, hst' j hj, c, bI_f, nmI, nI_1, z_stI]
        rfl
      | true =>
        have key : nI A * (1 + nI (if nbL C st j then 0 else 1) + nI (if nbR n C st j then 0 else 1)) = nI (if true = true then A * (1 + fe n C st j) else 0) := by
          show nI A * (nI 1 + nI (if nbL C st j then 0 else 1) + nI (if nbR n C st j then 0 else 1)) = _
          rw [nI_add, nI_add, nI_mul, if_pos rfl]
          unfold fe
          rw [Nat.add_assoc]
        rw [← key]
        unfold fX6_frost_L36
        simp (disch := omega) only [n19, z_lt, hj, if_true, z_ldI, hst' j hj, c, bI_t, z_c1, if_false, z_besideL hN hF' hO hst' hj, z_besideR hN hF' hO hst' hj, caP_some, jn, nmI, nI_1, z_stI]
        cases nbL C st j <;> cases nbR n C st j <;> rfl
  · intro s r ⟨i1, i2⟩
    have n19 : s.1 0 19 = nI n := by rw [i1 0 (by omega)]; exact hF.1
    refine ⟨s, ?_, i1, i2⟩
    show fX6_frost_L36 N (nI A) K r (nI n) s = _
    unfold fX6_frost_L36
    rw [n19, if_neg (Int32.lt_irrefl)]
theorem z_holds {N n A : Nat} {T : St} {C hd : Nat → Nat} {st : Nat → Bool} {K : St → Option (Int32 × St)} (hN : 1000 ≤ N) (hn : n ≤ 144) (hA : A ≤ 50) (n19 : T.1 0 19 = nI n) (hhd : ∀ j, j < n → T.1 10 j = nI (hd j) ∧ hd j ≤ 99) (hfl : ∀ i, i < n → T.1 20 i = nI (if st i then A * (1 + fe n C st i) else 0)) : ∃ T2, itN (fun _ _ => none) (fX6_frost_L104 K) N 0 T = K T2 ∧ (∀ c, c ≠ 10 → T2.1 c = T.1 c) ∧ ∀ i, i < n → T2.1 10 i = nI (hdF A n C hd st i) := by
  refine it_for (σ := St) (F := fX6_frost_L104 K) (fun j s (r : Int32 → St → Option (Int32 × St)) => r (nI j) s) n (fun j s => (∀ c, c ≠ 10 → s.1 c = T.1 c) ∧ (∀ i, i < j → s.1 10 i = nI (hdF A n C hd st i)) ∧ (∀ i, j ≤ i → s.1 10 i = T.1 10 i)) (fun o => ∃ T2, o = K T2 ∧ (∀ c, c ≠ 10 → T2.1 c = T.1 c) ∧ ∀ i, i < n → T2.1 10 i = nI (hdF A n C hd st i)) ?_ ?_ N 0 T (by omega) (by omega) ⟨fun _ _ => rfl, fun i hi => absurd hi (by omega), fun _ _ => rfl⟩
  · intro j s r hj ⟨i1, i2, i3⟩
    have m19 : s.1 0 19 = nI n := by rw [i1 0 (by omega)]; exact n19
    have m20 : s.1 20 j = nI (if st j then A * (1 + fe n C st j) else 0) := by rw [i1 20 (by omega)]; exact hfl j hj
    have m10 : s.1 10 j = nI (hd j) := by rw [i3 j (by omega)]; exact (hhd j hj).1
    have hl := (hhd j hj).2
    refine Or.inr ⟨wr s 10 j (nI (hdF A n C hd st j)), ⟨fun c hc => by rw [z_wr_row hc]; exact i1 c hc, fun i hi => ?_, fun i hi => ?_⟩, ?_⟩
    · by_cases e : i = j
      · rw [e]; exact z_wr_eq
      · rw [z_wr_oth e]; exact i2 i (by omega)
    · rw [z_wr_oth (by omega)]; exact i3 i (by omega)
    · show fX6_frost_L104 K r (nI j) s = _
      have hfe := fe_le n C st j
      have hm : A * (1 + fe n C st j) ≤ 50 * 3 := Nat.mul_le_mul hA (by omega)
      have hf : (if st j then A * (1 + fe n C st j) else 0) ≤ 150 := by split <;> omega
      have hd' : hdF A n C hd st j = hd j - (if st j then A * (1 + fe n C st j) else 0) := by
        unfold hdF
        split <;> rfl
      rw [hd']
      generalize (if st j then A * (1 + fe n C st j) else 0) = f at *
      unfold fX6_frost_L104
      simp (disch := omega) only [m19, z_lt, hj, if_true, z_ldI, m10, m20, nmI, nI_1, z_stI]
      by_cases c : hd j < f
      · rw [if_pos c, show hd j - f = 0 by omega]; rfl
      · rw [if_neg c, pk_sub (by omega)]
  · intro s r ⟨i1, i2, i3⟩
    have m19 : s.1 0 19 = nI n := by rw [i1 0 (by omega)]; exact n19
    refine ⟨s, ?_, i1, i2⟩
    show fX6_frost_L104 K r (nI n) s = _
    unfold fX6_frost_L104
    rw [m19, if_neg (Int32.lt_irrefl)]
