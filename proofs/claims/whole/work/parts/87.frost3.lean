/-! the call frost -/
theorem OR_of {S T : St} (hR : math_R S T) {n : Nat} (en : nt (T.1 0 19) = n) : OR n (cs T) (ps T) (ln T) := by
  have hl : ∀ i, i < n → 1 ≤ ln T i := fun i hi => (vw hR (by omega)).2.2.2.2.2.2.2.2.2.2.2.2.2.2.1
  have mono : ∀ i j, i ≤ j → j < n → cs T i ≤ cs T j := by
    intro i j hij hj
    by_cases e : i = j
    · rw [e]; exact Nat.le_refl _
    · exact (pos_lt hl (show i < j by omega) (by omega)).1
  refine ⟨fun i j hi hj h1 h2 => pos_touch hl hj hi h1 h2, fun i hi h => pos_next h, fun i j hi hj h => ?_, mono, fun a b hab hb h => ?_⟩
  · rcases Nat.lt_or_ge j i with h2 | h2
    · exact h2
    · have := mono i j h2 hj
      omega
  · have := (pos_lt (L := nt (T.1 0 11)) hl hab (by omega)).2 h.symm
    show (pos (nt (T.1 0 11)) (ln T) a).2 + ln T a ≤ (pos (nt (T.1 0 11)) (ln T) b).2
    omega
theorem CF_of {S T : St} (hR : math_R S T) {n : Nat} (hn : n ≤ 144) (n9 : S.1 13 9 = nI n) (en : nt (T.1 0 19) = n) : CF S n (kd T) (cs T) (ps T) (ln T) := by
  refine ⟨n9, hn, fun i hi => ?_⟩
  obtain ⟨v1, v2, v3, v4, v5, v6, v7, v8, v9, v10, v11, v12, v13, v14, v15, v16, v17, v18, v19, v20⟩ := vw hR (show i < nt (T.1 0 19) by omega)
  exact ⟨v4, v3, v6, v10, v8, v12, v13, v15, v16⟩
theorem RF_of {S T : St} (hR : math_R S T) {n : Nat} (hn : n ≤ 144) (n19 : T.1 0 19 = nI n) (en : nt (T.1 0 19) = n) : RF T n (kd T) (cs T) (ps T) (ln T) := by
  refine ⟨n19, hn, fun i hi => ?_⟩
  obtain ⟨v1, v2, v3, v4, v5, v6, v7, v8, v9, v10, v11, v12, v13, v14, v15, v16, v17, v18, v19, v20⟩ := vw hR (show i < nt (T.1 0 19) by omega)
  exact ⟨v1, v3, v5, v10, v7, v12, v14, v15, v16⟩
theorem op_frost {N : Nat} (hN : 1000 ≤ N) {S T : St} (hR : math_R S T) (a : Int32) : ∃ (r : Int32) (S2 T2 : St), fX5_frost N a S = some (r, S2) ∧ fX6_frost N a T = some (r, T2) ∧ math_R S2 T2 := by
  have hR1 := R_thrown 0 hR
  unfold fX6_frost fX5_frost
  simp only [pfI, z_within]
  obtain ⟨T1, hT1⟩ : ∃ T1, T1 = wr T 0 28 0 := ⟨_, rfl⟩
  rw [← hT1] at hR1 ⊢
  obtain ⟨n, hn, n19, n9, en, -⟩ := vn hR1
  obtain ⟨b1, b2⟩ := vb hR1
  rw [b1]
  rcases b2 with h | ⟨h, hb⟩
  · rw [if_pos h, if_pos h]
    exact ⟨_, _, _, rfl, rfl, hR1⟩
  have h18 : ¬ T1.1 0 18 = 0 := by rw [h]; decide
  rw [if_neg h18, if_neg h18]
  by_cases h1 : a < 0
  · simp only [if_pos h1, if_true]
    exact ⟨_, _, _, rfl, rfl, hR1⟩
  by_cases h2 : ¬ (a ≤ 50)
  · simp only [if_neg h1, if_neg h2, if_true]
    exact ⟨_, _, _, rfl, rfl, hR1⟩
  replace h2 := Classical.not_not.mp h2
  simp only [if_neg h1, if_pos h2, z_c1, if_false]
  obtain ⟨A, hA, rfl⟩ := nI_of2 (n := 50) (by decide) h1 h2
  obtain ⟨st, hst⟩ : ∃ st : Nat → Bool, st = fun i => decide (T1.1 11 i ≠ 0) := ⟨_, rfl⟩
  obtain ⟨hd, hhd⟩ : ∃ hd : Nat → Nat, hd = fun i => nt (T1.1 10 i) := ⟨_, rfl⟩
  have e11 : ∀ i, i < n → T1.1 11 i = bI (st i) := fun i hi => by
    rw [hst]
    show _ = bI (decide (T1.1 11 i ≠ 0))
    rcases rg01 (hb i (by omega)).2.2.2.2 with e | e <;> rw [e] <;> decide
  have e10 : ∀ i, i < n → T1.1 10 i = nI (hd i) ∧ hd i ≤ 99 := fun i hi => by
    rw [hhd]
    obtain ⟨q1, q2, q3⟩ := rg_nt (hb i (by omega)).2.2.2.1 (by omega)
    exact ⟨q1, q3⟩
  have hO := OR_of hR1 en
  have hCF := CF_of hR1 hn n9 en
  have hRF := RF_of hR1 hn n19 en
  -- the class
  obtain ⟨S1, hS1⟩ : ∃ S1, S1 = wr S 13 11 (S.1 13 11 + 1) := ⟨_, rfl⟩
  obtain ⟨T2, hT2⟩ : ∃ T2, T2 = wr T1 0 27 (T1.1 0 27 + 1) := ⟨_, rfl⟩
  rw [← hS1, ← hT2]
  have c1 : ∀ c, c ≠ 13 → S1.1 c = S.1 c := fun c hc => by rw [hS1, z_wr_row hc]
  have c2 : ∀ c, c ≠ 0 → T2.1 c = T1.1 c := fun c hc => by rw [hT2, z_wr_row hc]
  have d1 : ∀ j, j ≠ 11 → S1.1 13 j = S.1 13 j := fun j hj => by rw [hS1, z_wr_oth hj]
  have d2 : ∀ j, j ≠ 27 → T2.1 0 j = T1.1 0 j := fun j hj => by rw [hT2, z_wr_oth hj]
  have hCF1 : CF S1 n (kd T1) (cs T1) (ps T1) (ln T1) := CF_eq (d1 9 (by omega)) (c1 14 (by omega)) (c1 15 (by omega)) (c1 16 (by omega)) (c1 2 (by omega)) hCF
  obtain ⟨S3, x1, x2, x3⟩ := z_loosen (S := S1) (st := st) (hd := hd) hN hA hCF1 (fun j hj => by rw [c1 19 (by omega), (hb j (by omega)).2.2.1]; exact e11 j hj) (fun j hj => by rw [c1 17 (by omega), (hb j (by omega)).1]; exact e10 j hj)
  have hdl : ∀ j, j < n → hdF A n (cs T1) hd st j ≤ 99 := fun j hj => by
    have := (e10 j hj).2
    unfold hdF
    split <;> omega
  have hCF3 : CF S3 n (kd T1) (cs T1) (ps T1) (ln T1) := CF_eq (by rw [x2 13 (by omega)]) (x2 14 (by omega)) (x2 15 (by omega)) (x2 16 (by omega)) (x2 2 (by omega)) hCF1
  obtain ⟨S5, y1, y2, y3⟩ := z_letSlip (S := S3) (st := st) (hd := hdF A n (cs T1) hd st) hN hCF3 hO (fun j hj => by rw [x2 19 (by omega), c1 19 (by omega), (hb j (by omega)).2.2.1]; exact e11 j hj) (fun j hj => ⟨x3 j hj, hdl j hj⟩)
  rw [x1, caV_some, y1, caS_some]
  -- the reference
  have hRF2 : RF T2 n (kd T1) (cs T1) (ps T1) (ln T1) := RF_eq (d2 19 (by omega)) (c2 7 (by omega)) (c2 8 (by omega)) (c2 9 (by omega)) (c2 1 (by omega)) hRF
  obtain ⟨T7, u1, u2, u3⟩ := z_falls (T := T2) (A := A) (st := st) (hd := hd) (K := fun (S7 : St) => itN (fun _ _ => none) (fX6_frost_L104 (fun (S12 : St) => itN (fun _ _ _ => none) (fX6_frost_L160 N) N 0 1 S12)) N 0 S7) hN hRF2 hO (fun j hj => by rw [c2 11 (by omega)]; exact e11 j hj)
  rw [u1]
  obtain ⟨T8, w1, w2, w3⟩ := z_holds (T := T7) (A := A) (st := st) (hd := hd) (C := cs T1) (K := fun (S12 : St) => itN (fun _ _ _ => none) (fX6_frost_L160 N) N 0 1 S12) hN hn hA (by rw [u2 0 (by omega)]; exact hRF2.1) (fun j hj => by rw [u2 10 (by omega), c2 10 (by omega)]; exact e10 j hj) u3
  rw [w1]
  have hRF8 : RF T8 n (kd T1) (cs T1) (ps T1) (ln T1) := RF_eq (by rw [w2 0 (by omega), u2 0 (by omega)]) (by rw [w2 7 (by omega), u2 7 (by omega)]) (by rw [w2 8 (by omega), u2 8 (by omega)]) (by rw [w2 9 (by omega), u2 9 (by omega)]) (by rw [w2 1 (by omega), u2 1 (by omega)]) hRF2
  obtain ⟨T9, g1, g2, g3⟩ := z_rounds (T := T8) (st := st) (hd := hdF A n (cs T1) hd st) hN hRF8 hO (fun j hj => by rw [w2 11 (by omega), u2 11 (by omega), c2 11 (by omega)]; exact e11 j hj) (fun j hj => ⟨w3 j hj, hdl j hj⟩)
  rw [g1]
  have t0 : ∀ j, T9.1 0 j = T2.1 0 j := fun j => by rw [g2 0 (by omega) (by omega), w2 0 (by omega), u2 0 (by omega)]
  refine ⟨_, _, _, rfl, rfl, R_stand hR1 (fun c a13 a17 a19 a20 => ?_) (fun c a0 a10 a11 a19 a20 => ?_) (fun j a27 a28 => ?_) ?_ ?_ ?_ ?_⟩
  · rw [y2 c a19 a20, x2 c a17, c1 c a13]
  · rw [g2 c a11 a19, w2 c a10, u2 c a20, c2 c a0]
  · rw [t0, d2 j a27]
  · rw [y2 13 (by omega) (by omega), x2 13 (by omega), d1 9 (by omega)]
  · rw [y2 13 (by omega) (by omega), x2 13 (by omega), d1 10 (by omega)]
  · rw [t0, t0, d2 18 (by omega), if_neg h18, y2 13 (by omega) (by omega), x2 13 (by omega), hS1, hT2, z_wr_eq, z_wr_eq, hR1.2.2.2.2.2.2.2.1, if_neg h18]
  · intro _ i hi
    have hi' : i < n := by omega
    rw [y2 17 (by omega) (by omega), x3 i hi', y3 i hi', g3 i hi', g2 10 (by omega) (by omega), w3 i hi']
    refine ⟨rfl, rfl, ⟨_, by omega, hdl i hi', rfl⟩, ?_⟩
    cases fnS st (keeps (cs T1) (ps T1) (ln T1) (hdF A n (cs T1) hd st) n) n i
    · exact ⟨0, by omega, by omega, rfl⟩
    · exact ⟨1, by omega, by omega, rfl⟩
