/-! frost: what slips -/
theorem z_fill {N k n : Nat} {b : Int32} {S : St} (hn : n < N) (hn2 : n < 2 ^ 31) : ∃ S2, fJ7_fill_53178 N k n b S = some S2 ∧ (∀ c, c ≠ k → S2.1 c = S.1 c) ∧ (∀ i, i < n → S2.1 k i = b) ∧ (∀ i, n ≤ i → S2.1 k i = S.1 k i) ∧ S2.2 = S.2 := by
  unfold fJ7_fill_53178
  simp only [nmI]
  refine it_for (σ := St) (F := fJ7_fill_53178_L5 b (nI n) k n) (fun j s (r : Int32 → St → Option St) => r (nI j) s) n (fun j s => (∀ c, c ≠ k → s.1 c = S.1 c) ∧ (∀ i, i < j → s.1 k i = b) ∧ (∀ i, j ≤ i → s.1 k i = S.1 k i) ∧ s.2 = S.2) (fun o => ∃ S2, o = some S2 ∧ (∀ c, c ≠ k → S2.1 c = S.1 c) ∧ (∀ i, i < n → S2.1 k i = b) ∧ (∀ i, n ≤ i → S2.1 k i = S.1 k i) ∧ S2.2 = S.2) ?_ ?_ N 0 S (by omega) (by omega) ⟨fun _ _ => rfl, fun i hi => absurd hi (by omega), fun _ _ => rfl, rfl⟩
  · intro j s r hj ⟨i1, i2, i3, i4⟩
    refine Or.inr ⟨wr s k j b, ⟨fun c hc => by rw [z_wr_row hc]; exact i1 c hc, fun i hi => ?_, fun i hi => ?_, i4⟩, ?_⟩
    · by_cases e : i = j
      · rw [e]; exact z_wr_eq
      · rw [z_wr_oth e]; exact i2 i (by omega)
    · rw [z_wr_oth (by omega)]; exact i3 i (by omega)
    · show fJ7_fill_53178_L5 b (nI n) k n r (nI j) s = _
      unfold fJ7_fill_53178_L5
      simp (disch := omega) only [z_lt, hj, if_true, z_stI, nmI, nI_1]
  · intro s r h
    refine ⟨s, ?_, h⟩
    show fJ7_fill_53178_L5 b (nI n) k n r (nI n) s = _
    unfold fJ7_fill_53178_L5
    rw [if_neg (Int32.lt_irrefl)]
theorem z_end {n : Nat} {S : St} {k C P l : Nat → Nat} (hF : CF S n k C P l) {i : Nat} (hi : i < n) : fX1_end (nI i) S = some (nI (P i + l i)) := by
  obtain ⟨n9, hn, hF⟩ := hF
  obtain ⟨u1, u2, u3, u4, u5, u6, u7, u8, u9⟩ := hF i hi
  unfold fX1_end
  simp (disch := omega) only [z_ldI, u1, u5, u7, nI_add]
theorem z_placesOf {n : Nat} {S : St} {k C P l : Nat → Nat} (hF : CF S n k C P l) {i : Nat} (hi : i < n) : fX1_placesOf (nI i) S = some (nI (2 ^ (P i + l i) - 2 ^ P i)) := by
  have he := z_end hF hi
  obtain ⟨n9, hn, hF⟩ := hF
  obtain ⟨u1, u2, u3, u4, u5, u6, u7, u8, u9⟩ := hF i hi
  unfold fX1_placesOf
  rw [he, caP_some, z_ldI (by omega) (by omega), u5, nb_shl (by omega), nb_shl (by omega), pk_sub (Nat.pow_le_pow_right (by omega) (by omega))]
theorem z_isBorne {n : Nat} {S : St} {k C P l hd : Nat → Nat} {st : Nat → Bool} (hF : CF S n k C P l) (hO : OR n C P l) {i : Nat} (hi : i < n) (hm : ∀ c, c < 6 → S.1 20 c = nI (msk C P l (fnS st (keeps C P l hd n)) c i)) : fX1_isBorne (nI i) S = some (bI (decide (C i = 0) || decide (l i ≤ 2 * lsum C P l (fnS st (keeps C P l hd n) i) i n))) := by
  have he := z_end hF hi
  have hp := z_placesOf hF hi
  obtain ⟨n9, hn, hF⟩ := hF
  obtain ⟨u1, u2, u3, u4, u5, u6, u7, u8, u9⟩ := hF i hi
  unfold fX1_isBorne
  rw [z_ldI (by omega) (by omega), u3]
  simp only [nmI]
  by_cases h0 : C i = 0
  · rw [h0, if_pos (by decide)]
    rfl
  obtain ⟨c, hc⟩ : ∃ c, C i = c + 1 := ⟨C i - 1, by omega⟩
  rw [hc, nI_pred, if_neg (nI_pos (by omega)), hp, caP_some, z_ldI (by omega) (by omega), hm c (by omega), nb_and]
  have hlt : (2 ^ (P i + l i) - 2 ^ P i) &&& msk C P l (fnS st (keeps C P l hd n)) c i < 2 ^ 24 := Nat.lt_of_le_of_lt Nat.and_le_right (msk_lt (fun j hj => (hF j (by omega)).2.2.2.2.2.1))
  rw [z_bitCount hlt, caP_some, he, caP_some, z_ldI (by omega) (by omega), u5, pk_sub (by omega)]
  rw [msk_cnt (by omega) u6 (fun a b hab hb hC => hO.2.2.2.2 a b hab (by omega) hC)]
  have hcut := lsum_cut (C := C) (P := P) (l := l) (f := fnS st (keeps C P l hd n) i) (i := i) (m := n) (by omega) (fun j h1 h2 => hO.2.2.2.1 i j h1 h2)
  rw [← hcut]
  have hle := lsum_le (C := C) (P := P) (l := l) (f := fnS st (keeps C P l hd n) i) (i := i) (m := n) u9
  generalize lsum C P l (fnS st (keeps C P l hd n) i) i n = y at *
  have e2 : 2 * nI y = nI (2 * y) := nI_mul 2 y
  rw [e2, show P i + l i - P i = l i by omega]
  by_cases c2 : 2 * y < l i
  · rw [if_pos (nI_lt c2 (by omega)), decide_eq_false (by omega), decide_eq_false (by omega)]; rfl
  · rw [if_neg (nI_nlt (by omega) (by omega)), decide_eq_true (show l i ≤ 2 * y by omega), Bool.or_true]; rfl
theorem z_letSlip {N n : Nat} {S : St} {k C P l hd : Nat → Nat} {st : Nat → Bool} (hN : 1000 ≤ N) (hF : CF S n k C P l) (hO : OR n C P l) (hst : ∀ j, j < n → S.1 19 j = bI (st j)) (hhd : ∀ j, j < n → S.1 17 j = nI (hd j) ∧ hd j ≤ 99) : ∃ S2, fX1_letSlip N S = some (nI (cB (fun i => st i && !fnS st (keeps C P l hd n) n i) n), S2) ∧ (∀ c, c ≠ 19 → c ≠ 20 → S2.1 c = S.1 c) ∧ ∀ i, i < n → S2.1 19 i = bI (fnS st (keeps C P l hd n) n i) := by
  have hn := hF.2.1
  obtain ⟨S1, eS1, f1, f2, -, -⟩ := z_fill (N := N) (k := 20) (n := 6) (b := 0) (S := S) (by omega) (by omega)
  unfold fX1_letSlip
  rw [eS1, caV_some]
  obtain ⟨gd, hgd⟩ : ∃ gd, gd = keeps C P l hd n := ⟨_, rfl⟩
  obtain ⟨fin, hfin⟩ : ∃ fin, fin = fnS st gd n := ⟨_, rfl⟩
  rw [← hgd, ← hfin]
  have hf1 : ∀ j, j < n → fin j = (st j && gd (fnS st gd j) j) := fun j hj => by rw [hfin, fnS_old hj]
  have hf2 : ∀ j, j < n → fnS st gd (j + 1) j = fin j := fun j hj => by rw [hf1 j hj, fnS_old (by omega)]
  refine it_for (σ := Int32 × St) (F := fX1_letSlip_L12) (fun j s (r : Int32 → Int32 → St → Option (Int32 × St)) => r s.1 (nI j) s.2) n (fun j s => s.1 = nI (cB (fun i => st i && !fin i) j) ∧ (∀ c, c ≠ 19 → c ≠ 20 → s.2.1 c = S.1 c) ∧ (∀ i, i < j → s.2.1 19 i = bI (fin i)) ∧ (∀ i, j ≤ i → i < n → s.2.1 19 i = bI (st i)) ∧ (∀ c, c < 6 → s.2.1 20 c = nI (msk C P l (fnS st gd) c j))) (fun o => ∃ S2, o = some (nI (cB (fun i => st i && !fin i) n), S2) ∧ (∀ c, c ≠ 19 → c ≠ 20 → S2.1 c = S.1 c) ∧ ∀ i, i < n → S2.1 19 i = bI (fin i)) ?_ ?_ N 0 (0, S1) (by omega) (by omega) ⟨rfl, fun c _ h20 => f1 c h20, fun i hi => absurd hi (by omega), fun i _ hi => by rw [f1 19 (by omega)]; exact hst i hi, fun c hc => f2 c hc⟩
  · rintro j ⟨x, s⟩ r hj ⟨i1, i2, i3, i4, i5⟩
    dsimp only at i1 i2 i3 i4 i5
    have hF' : CF s n k C P l := CF_eq (by rw [i2 13 (by omega) (by omega)]) (i2 14 (by omega) (by omega)) (i2 15 (by omega) (by omega)) (i2 16 (by omega) (by omega)) (i2 2 (by omega) (by omega)) hF
    have n9 := hF'.1
    obtain ⟨u1, u2, u3, u4, u5, u6, u7, u8, u9⟩ := hF'.2.2 j hj
    have s19 := i4 j (by omega) hj
    have s17 : s.1 17 j = nI (hd j) := by rw [i2 17 (by omega) (by omega)]; exact (hhd j hj).1
    have h99 := (hhd j hj).2
    have hbn := z_isBorne hF' hO hj (st := st) (hd := hd) (by rw [← hgd]; exact i5)
    rw [← hgd] at hbn
    have hgdf : ∀ f : Nat → Bool, gd f j = (!decide (hd j = 0) && (decide (C j = 0) || decide (l j ≤ 2 * lsum C P l f j n))) := fun f => by rw [hgd]; rfl
    have hgdj := hgdf (fnS st gd j)
    right
    have hcnt : cB (fun i => st i && !fin i) (j + 1) = cB (fun i => st i && !fin i) j + (if (st j && !fin j) = true then 1 else 0) := rfl
    -- the state after a slip
    have slip : st j = true → fin j = false → ∀ s2 : St, s2 = wr s 19 j 0 → (nI (cB (fun i => st i && !fin i) j) + 1 = nI (cB (fun i => st i && !fin i) (j + 1)) ∧ (∀ c, c ≠ 19 → c ≠ 20 → s2.1 c = S.1 c) ∧ (∀ i, i < j + 1 → s2.1 19 i = bI (fin i)) ∧ (∀ i, j + 1 ≤ i → i < n → s2.1 19 i = bI (st i)) ∧ (∀ c, c < 6 → s2.1 20 c = nI (msk C P l (fnS st gd) c (j + 1)))) := by
      intro h1 h2 s2 hs2
      refine ⟨?_, ?_, ?_, ?_, ?_⟩
      · rw [hcnt, h1, h2, nI_1]; rfl
      · intro c a b
        rw [hs2, z_wr_row a]; exact i2 c a b
      · intro i hi
        rw [hs2]
        by_cases e : i = j
        · rw [e, z_wr_eq, h2]; rfl
        · rw [z_wr_oth e]; exact i3 i (by omega)
      · intro i hi hin
        rw [hs2, z_wr_oth (by omega)]; exact i4 i (by omega) hin
      · intro c hc
        rw [hs2, z_wr_ne (by omega), msk_succ, if_neg (fun h => by rw [hf2 j hj, h2] at h; exact absurd h.1 (by simp))]
        exact i5 c hc
    cases hs : st j with
    | false =>
      have hfj : fin j = false := by rw [hf1 j hj, hs]; rfl
      refine ⟨(x, s), ⟨?_, i2, ?_, fun i hi => i4 i (by omega), ?_⟩, ?_⟩
      · show x = _
        rw [hcnt, hs, i1]; rfl
      · intro i hi
        by_cases e : i = j
        · subst e
          show s.1 19 i = _
          rw [s19, hs, hfj]
        · exact i3 i (by omega)
      · intro c hc
        rw [msk_succ, if_neg (fun h => by rw [hf2 j hj, hfj] at h; exact absurd h.1 (by simp))]
        exact i5 c hc
      · show fX1_letSlip_L12 r x (nI j) s = r x (nI (j + 1)) s
        rw [hs, bI_f] at s19
        unfold fX1_letSlip_L12
        simp (disch := omega) only [n9, z_lt, hj, if_true, z_ldI, s19, jn, nmI, nI_1]
    | true =>
      rw [hs, bI_t] at s19
      by_cases h0 : hd j = 0
      · have hfj : fin j = false := by rw [hf1 j hj, hgdj, h0]; simp
        refine ⟨(x + 1, wr s 19 j 0), ?_, ?_⟩
        · have := slip hs hfj _ rfl
          rw [← i1] at this
          exact this
        · show fX1_letSlip_L12 r x (nI j) s = r (x + 1) (nI (j + 1)) (wr s 19 j 0)
          have e0 : nI 0 = 0 := rfl
          have ew : (wr s 19 j 0).1 19 j = 0 := z_wr_eq
          unfold fX1_letSlip_L12
          simp (disch := omega) only [n9, z_lt, hj, if_true, z_ldI, s19, z_c1, if_false, s17, h0, e0, z_stI, jn, nmI, nI_1, ew]
      · have hne : (nI (hd j) = 0) = False := by
          simp only [eq_iff_iff, iff_false]
          exact nI_ne0 (by omega) (by omega)
        cases hb : (decide (C j = 0) || decide (l j ≤ 2 * lsum C P l (fnS st gd j) j n)) with
        | false =>
          rw [hb, bI_f] at hbn
          have hfj : fin j = false := by rw [hf1 j hj, hgdj, hb]; simp
          refine ⟨(x + 1, wr s 19 j 0), ?_, ?_⟩
          · have := slip hs hfj _ rfl
            rw [← i1] at this
            exact this
          · show fX1_letSlip_L12 r x (nI j) s = r (x + 1) (nI (j + 1)) (wr s 19 j 0)
            have ew : (wr s 19 j 0).1 19 j = 0 := z_wr_eq
            unfold fX1_letSlip_L12
            simp (disch := omega) only [n9, z_lt, hj, if_true, z_ldI, s19, z_c1, if_false, s17, hne, hbn, caP_some, z_stI, jn, nmI, nI_1, ew]
        | true =>
          rw [hb, bI_t] at hbn
          have hfj : fin j = true := by rw [hf1 j hj, hgdj, hb, hs, decide_eq_false h0]; rfl
          refine ⟨(x, wr s 20 (C j) (nI (msk C P l (fnS st gd) (C j) j ||| (2 ^ (P j + l j) - 2 ^ P j)))), ⟨?_, ?_, ?_, ?_, ?_⟩, ?_⟩
          · show x = _
            rw [hcnt, hs, hfj, i1]; rfl
          · intro c a b
            show (wr s 20 (C j) _).1 c = _
            rw [z_wr_row b]; exact i2 c a b
          · intro i hi
            show (wr s 20 (C j) _).1 19 i = _
            rw [z_wr_ne (by omega)]
            by_cases e : i = j
            · subst e
              rw [s19, hfj]; rfl
            · exact i3 i (by omega)
          · intro i hi hin
            show (wr s 20 (C j) _).1 19 i = _
            rw [z_wr_ne (by omega)]; exact i4 i (by omega) hin
          · intro c hc
            show (wr s 20 (C j) _).1 20 c = _
            rw [msk_succ, hf2 j hj, hfj]
            by_cases e : c = C j
            · rw [e, z_wr_eq, if_pos ⟨rfl, rfl⟩]
            · rw [z_wr_oth e, if_neg (fun h => e h.2.symm)]; exact i5 c hc
          · show fX1_letSlip_L12 r x (nI j) s = _
            unfold fX1_letSlip_L12
            simp (disch := omega) only [n9, z_lt, hj, if_true, z_ldI, s19, z_c1, if_false, s17, hne, hbn, caP_some, jn, nmI, nI_1, u3, i5 (C j) u4, z_placesOf hF' hj, nb_or, z_stI]
  · rintro ⟨x, s⟩ r ⟨i1, i2, i3, i4, i5⟩
    dsimp only at i1 i2 i3 i4 i5
    have n9 : s.1 13 9 = nI n := by rw [i2 13 (by omega) (by omega)]; exact hF.1
    refine ⟨s, ?_, i2, i3⟩
    show fX1_letSlip_L12 r x (nI n) s = _
    unfold fX1_letSlip_L12
    rw [n9, if_neg (Int32.lt_irrefl), i1]
