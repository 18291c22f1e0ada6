/-! the plan, seen stone by stone -/
def cs (T : St) (i : Nat) : Nat := (pos (nt (T.1 0 11)) (ln T) i).1
def ps (T : St) (i : Nat) : Nat := (pos (nt (T.1 0 11)) (ln T) i).2
def dp (T : St) (i : Nat) : Nat := nt (T.1 2 (kd T i))
/-- what is known of a stone of the plan -/
def Vw (S T : St) (i : Nat) : Prop := T.1 7 i = nI (kd T i) ∧ kd T i < nt (T.1 0 0) ∧ kd T i < 8 ∧ S.1 14 i = nI (kd T i) ∧ T.1 8 i = nI (cs T i) ∧ S.1 15 i = nI (cs T i) ∧ T.1 9 i = nI (ps T i) ∧ S.1 16 i = nI (ps T i) ∧ cs T i < nt (T.1 0 12) ∧ cs T i < 6 ∧ ps T i + ln T i ≤ nt (T.1 0 11) ∧ ps T i + ln T i ≤ 24 ∧ S.1 2 (kd T i) = nI (ln T i) ∧ T.1 1 (kd T i) = nI (ln T i) ∧ 1 ≤ ln T i ∧ ln T i ≤ 6 ∧ S.1 3 (kd T i) = nI (dp T i) ∧ T.1 2 (kd T i) = nI (dp T i) ∧ 1 ≤ dp T i ∧ dp T i ≤ 4
/-- how many stones, and that the wall is told if there are some -/
theorem vn {S T : St} (hR : math_R S T) : ∃ n, n ≤ 144 ∧ T.1 0 19 = nI n ∧ S.1 13 9 = nI n ∧ nt (T.1 0 19) = n ∧ (0 < n → PL T n) := by
  obtain ⟨hK, hH, hA, hW, hP⟩ := hR
  obtain ⟨n, -, hn, en⟩ := hP.2.2.2.2.1
  have e : nt (T.1 0 19) = n := by rw [en, nt_nI (by omega)]
  refine ⟨n, hn, en, by rw [hP.1, en], e, fun h => ?_⟩
  have := (hP.2.2.2.2.2.2.2.1 (by rw [e]; exact h)).1
  rw [e] at this
  exact this
theorem vw {S T : St} (hR : math_R S T) {i : Nat} (hi : i < nt (T.1 0 19)) : Vw S T i := by
  obtain ⟨hK, hH, hA, hW, hP⟩ := hR
  obtain ⟨hPL, hst, -, -⟩ := hP.2.2.2.2.2.2.2.1 (by omega)
  obtain ⟨p1, p2, p3, p4, p5, p6⟩ := hPL
  have w := hW.2.resolve_left (by rw [p6]; decide)
  obtain ⟨L, hL1, hL2, eL⟩ := w.2.2.2.1
  obtain ⟨C, hC1, hC2, eC⟩ := w.2.2.2.2.1
  obtain ⟨q1, q2, q3⟩ := rg_nt (p1 i hi).1 (by omega)
  obtain ⟨q4, q5, q6, q7⟩ := p2 i hi
  obtain ⟨s1, s2, s3⟩ := hst i hi
  have l1 := rg_nt (hK.2.2.2.2.1 (kd T i) (p1 i hi).2) (by omega)
  have d1 := rg_nt (hK.2.2.2.2.2 (kd T i) (p1 i hi).2) (by omega)
  have k8 : kd T i < 8 := by unfold kd; omega
  have eL' : nt (T.1 0 11) = L := by rw [eL, nt_nI (by omega)]
  have eC' : nt (T.1 0 12) = C := by rw [eC, nt_nI (by omega)]
  refine ⟨q1, (p1 i hi).2, k8, by rw [s1]; exact q1, q4, by rw [s2]; exact q4, q5, by rw [s3]; exact q5, q7, ?_, q6, ?_, ?_, l1.1, l1.2.1, l1.2.2, ?_, d1.1, d1.2.1, d1.2.2⟩
  · show (pos (nt (T.1 0 11)) (ln T) i).1 < 6
    rw [eC'] at q7
    omega
  · show (pos (nt (T.1 0 11)) (ln T) i).2 + ln T i ≤ 24
    rw [eL'] at q6 ⊢
    omega
  · rw [hK.2.2.1 _ k8]; exact l1.1
  · rw [hK.2.2.2.1 _ k8]; exact d1.1
/-- the wall's numbers are the same -/
theorem vW {S T : St} (hR : math_R S T) : S.1 12 0 = T.1 0 8 ∧ S.1 12 1 = T.1 0 9 ∧ S.1 12 2 = T.1 0 10 ∧ S.1 12 3 = T.1 0 11 ∧ S.1 12 4 = T.1 0 12 ∧ S.1 12 5 = T.1 0 13 ∧ S.1 12 6 = T.1 0 14 ∧ S.1 12 7 = T.1 0 15 ∧ S.1 12 8 = T.1 0 16 := by
  have h := hR.2.2.2.1.1
  exact ⟨h 0 (by omega), h 1 (by omega), h 2 (by omega), h 3 (by omega), h 4 (by omega), h 5 (by omega), h 6 (by omega), h 7 (by omega), h 8 (by omega)⟩
/-- the width of a course -/
def wdt (T : St) (a : Int32) : Int32 := mxI 1 (T.1 0 13 - a * T.1 0 14)
theorem mxI_eq (c x : Int32) : mxI c x = if x < c then c else x := by
  unfold mxI
  by_cases h1 : c < x
  · rw [if_pos h1, if_neg (fun h => Int32.lt_irrefl (Int32.lt_trans h h1))]
  · rw [if_neg h1]
    by_cases h2 : x < c
    · rw [if_pos h2]
    · rw [if_neg h2]
      exact Int32.le_antisymm (Int32.not_lt.mp h2) (Int32.not_lt.mp h1)
theorem z_width6 (a : Int32) (T : St) : fX6_width a T = some (wdt T a) := by
  unfold fX6_width wdt
  rw [mxI_eq]
  by_cases h : T.1 0 13 - a * T.1 0 14 < 1
  · rw [if_pos h, if_pos h]
  · rw [if_neg h, if_neg h]
theorem z_width3 {S T : St} (h5 : S.1 12 5 = T.1 0 13) (h6 : S.1 12 6 = T.1 0 14) (a : Int32) : fX3_width a S = some (wdt T a) := by
  unfold fX3_width wdt
  rw [h5, h6]
/-- the hearting at a stone -/
def hrt (T : St) (i : Nat) : Int32 := nI (ln T i) * mxI 0 (wdt T (nI (cs T i)) - nI (dp T i))
theorem z_hearting1 {S T : St} (hR : math_R S T) {i : Nat} (hi : i < nt (T.1 0 19)) : fX1_hearting (nI i) S = some (hrt T i) := by
  obtain ⟨n, hn, n19, n9, en, -⟩ := vn hR
  obtain ⟨v1, v2, v3, v4, v5, v6, v7, v8, v9, v10, v11, v12, v13, v14, v15, v16, v17, v18, v19, v20⟩ := vw hR hi
  obtain ⟨w0, w1, w2, w3, w4, w5, w6, -⟩ := vW hR
  rw [en] at hi
  unfold fX1_hearting hrt
  simp (disch := omega) only [z_ldI, v4, v13, v6, v17, z_width3 w5 w6, caP_some]
theorem z_hearting6 {S T : St} (hR : math_R S T) {i : Nat} (hi : i < nt (T.1 0 19)) : fX6_hearting (nI i) T = some (hrt T i) := by
  obtain ⟨n, hn, n19, n9, en, -⟩ := vn hR
  obtain ⟨v1, v2, v3, v4, v5, v6, v7, v8, v9, v10, v11, v12, v13, v14, v15, v16, v17, v18, v19, v20⟩ := vw hR hi
  rw [en] at hi
  unfold fX6_hearting hrt
  simp (disch := omega) only [z_ldI, v1, v5, v14, v18, z_width6, caP_some, nmI]
  unfold mxI
  by_cases h : wdt T (nI (cs T i)) - nI (dp T i) ≤ 0
  · rw [if_pos h, if_neg (Int32.not_lt.mpr h), Int32.mul_zero]
  · rw [if_neg h, if_pos (Int32.not_le.mp h)]
/-- a through-stone -/
def thr (T : St) (i : Nat) : Int32 := if nI (dp T i) < wdt T (nI (cs T i)) then 0 else 1
theorem z_through1 {S T : St} (hR : math_R S T) {i : Nat} (hi : i < nt (T.1 0 19)) : fX1_isThroughStone (nI i) S = some (thr T i) := by
  obtain ⟨n, hn, n19, n9, en, -⟩ := vn hR
  obtain ⟨v1, v2, v3, v4, v5, v6, v7, v8, v9, v10, v11, v12, v13, v14, v15, v16, v17, v18, v19, v20⟩ := vw hR hi
  obtain ⟨w0, w1, w2, w3, w4, w5, w6, -⟩ := vW hR
  rw [en] at hi
  unfold fX1_isThroughStone thr
  simp (disch := omega) only [z_ldI, v4, v17, v6, z_width3 w5 w6, caP_some]
  by_cases h : nI (dp T i) < wdt T (nI (cs T i))
  · rw [if_pos h, if_pos h]
  · rw [if_neg h, if_neg h]
/-- built or not; holds, stands, origins -/
theorem vb {S T : St} (hR : math_R S T) : S.1 13 10 = T.1 0 18 ∧ (T.1 0 18 = 0 ∨ (T.1 0 18 = 1 ∧ ∀ i, i < nt (T.1 0 19) → S.1 17 i = T.1 10 i ∧ S.1 18 i = T.1 12 i ∧ S.1 19 i = T.1 11 i ∧ rg (T.1 10 i) 0 99 ∧ rg (T.1 11 i) 0 1)) := by
  obtain ⟨hK, hH, hA, hW, hP⟩ := hR
  refine ⟨hP.2.1, ?_⟩
  rcases hP.2.2.2.2.2.2.1 with h | h
  · exact Or.inl h
  · exact Or.inr ⟨h.1, hP.2.2.2.2.2.2.2.2 h.1⟩
theorem rg01 {x : Int32} (h : rg x 0 1) : x = 0 ∨ x = 1 := by
  obtain ⟨v, h1, h2, rfl⟩ := h
  rcases (show v = 0 ∨ v = 1 by omega) with rfl | rfl
  · exact Or.inl rfl
  · exact Or.inr rfl
/-- the reference's cells, the mark of what was thrown aside -/
theorem t28 {T : St} {v : Int32} {j : Nat} (h : j ≠ 28) : (wr T 0 28 v).1 0 j = T.1 0 j := z_wr_oth h
theorem t28r {T : St} {v : Int32} {c : Nat} (h : c ≠ 0) : (wr T 0 28 v).1 c = T.1 c := z_wr_row h
theorem op_stone {S T : St} (hR : math_R S T) (a b : Int32) : ∃ (k v r : Int32) (T2 : St), fX5_stone a b S = some (k, v) ∧ fX6_stone a b T = some (r, T2) ∧ fX6_thrown T2 = some k ∧ (k = 0 → v = r) ∧ math_R S T2 := by
  have hR1 := R_thrown 0 hR
  obtain ⟨n, hn, n19, n9, en, -⟩ := vn hR1
  obtain ⟨b1, b2⟩ := vb hR1
  have hth : fX6_thrown (wr T 0 28 0) = some 0 := rfl
  have hf : ∀ c : Int32, c ≠ 0 → ∃ (k v r : Int32) (T2 : St), (some (c, 0) : Option (Int32 × Int32)) = some (k, v) ∧ (caS (fX6_fails c (wr T 0 28 0)) fun x2 S3 => some (x2, S3)) = some (r, T2) ∧ fX6_thrown T2 = some k ∧ (k = 0 → v = r) ∧ math_R S T2 := by
    intro c hc
    exact ⟨c, 0, 0, wr (wr T 0 28 0) 0 28 c, rfl, rfl, rfl, fun h => absurd h hc, R_thrown c hR1⟩
  unfold fX5_stone fX6_stone
  rw [n9]
  simp only [pfI]
  rw [n19]
  by_cases h1 : a < 0
  · rw [if_pos h1, if_pos h1]
    exact hf 1 (by decide)
  rw [if_neg h1, if_neg h1]
  by_cases h2 : ¬ (a < nI n)
  · rw [if_neg h2, if_neg h2]
    exact hf 1 (by decide)
  replace h2 := Classical.not_not.mp h2
  rw [if_pos h2, if_pos h2]
  obtain ⟨i, hi, rfl⟩ := ix_of (by omega) rfl h1 h2
  have hi' : i < nt ((wr T 0 28 0).1 0 19) := by rw [en]; exact hi
  have hh1 := z_hearting1 hR1 hi'
  have hh6 := z_hearting6 hR1 hi'
  have ht1 := z_through1 hR1 hi'
  obtain ⟨v1, v2, v3, v4, v5, v6, v7, v8, v9, v10, v11, v12, v13, v14, v15, v16, v17, v18, v19, v20⟩ := vw hR1 hi'
  by_cases c0 : b = 0
  · simp (disch := omega) only [if_pos c0, z_ldI, v4, v1]
    exact ⟨_, _, _, _, rfl, rfl, rfl, fun _ => rfl, hR1⟩
  by_cases c1 : b = 1
  · simp (disch := omega) only [if_neg c0, if_pos c1, z_ldI, v5, v6]
    exact ⟨_, _, _, _, rfl, rfl, rfl, fun _ => rfl, hR1⟩
  by_cases c2 : b = 2
  · simp (disch := omega) only [if_neg c0, if_neg c1, if_pos c2, z_ldI, v7, v8]
    exact ⟨_, _, _, _, rfl, rfl, rfl, fun _ => rfl, hR1⟩
  by_cases c3 : b = 3
  · simp only [if_neg c0, if_neg c1, if_neg c2, if_pos c3, hh1, hh6, caP_some]
    exact ⟨_, _, _, _, rfl, rfl, rfl, fun _ => rfl, hR1⟩
  by_cases c4 : b = 4
  · simp (disch := omega) only [if_neg c0, if_neg c1, if_neg c2, if_neg c3, if_pos c4, z_ldI, ht1, caP_some, v1, v5, v18, z_width6]
    unfold thr
    by_cases h : nI (dp (wr T 0 28 0) i) < wdt (wr T 0 28 0) (nI (cs (wr T 0 28 0) i))
    · simp only [if_pos h, if_true]
      exact ⟨_, _, _, _, rfl, rfl, rfl, fun _ => rfl, hR1⟩
    · simp only [if_neg h, z_c1, if_false]
      exact ⟨_, _, _, _, rfl, rfl, rfl, fun _ => rfl, hR1⟩
  by_cases c5 : b = 5
  · simp (disch := omega) only [if_neg c0, if_neg c1, if_neg c2, if_neg c3, if_neg c4, if_pos c5, z_ldI, b1]
    rcases b2 with h | ⟨h, hb⟩
    · rw [if_pos h, if_pos h]
      exact ⟨_, _, _, _, rfl, rfl, rfl, fun _ => rfl, hR1⟩
    · rw [h, if_neg (by decide), if_neg (by decide), (hb i hi').1]
      exact ⟨_, _, _, _, rfl, rfl, rfl, fun _ => rfl, hR1⟩
  by_cases c6 : b = 6
  · simp (disch := omega) only [if_neg c0, if_neg c1, if_neg c2, if_neg c3, if_neg c4, if_neg c5, if_pos c6, z_ldI, b1, fX1_isStanding]
    rcases b2 with h | ⟨h, hb⟩
    · simp only [if_pos h, caP_some, if_true]
      exact ⟨_, _, _, _, rfl, rfl, rfl, fun _ => rfl, hR1⟩
    · simp only [h, z_c1, if_false, (hb i hi').2.2.1]
      rcases rg01 (hb i hi').2.2.2.2 with e | e
      · simp only [e, if_true, caP_some]
        exact ⟨_, _, _, _, rfl, rfl, rfl, fun _ => rfl, hR1⟩
      · simp only [e, z_c1, if_false, caP_some]
        exact ⟨_, _, _, _, rfl, rfl, rfl, fun _ => rfl, hR1⟩
  by_cases c7 : b = 7
  · simp (disch := omega) only [if_neg c0, if_neg c1, if_neg c2, if_neg c3, if_neg c4, if_neg c5, if_neg c6, if_pos c7, z_ldI, b1]
    rcases b2 with h | ⟨h, hb⟩
    · rw [if_pos h, if_pos h]
      exact ⟨_, _, _, _, rfl, rfl, rfl, fun _ => rfl, hR1⟩
    · rw [h, if_neg (by decide), if_neg (by decide), (hb i hi').2.1]
      exact ⟨_, _, _, _, rfl, rfl, rfl, fun _ => rfl, hR1⟩
  simp only [if_neg c0, if_neg c1, if_neg c2, if_neg c3, if_neg c4, if_neg c5, if_neg c6, if_neg c7]
  exact hf 2 (by decide)
