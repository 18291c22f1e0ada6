/-! the call build -/
theorem z_raise {N n : Nat} {S : St} (hN : 1000 ≤ N) (hn : n ≤ 144) (n9 : S.1 13 9 = nI n) : ∃ S2, fX1_raise N S = some S2 ∧ (∀ c, c ≠ 13 → c ≠ 17 → c ≠ 19 → S2.1 c = S.1 c) ∧ S2.1 13 = (wr S 13 10 1).1 13 ∧ ∀ i, i < n → S2.1 19 i = 1 ∧ S2.1 17 i = 99 := by
  unfold fX1_raise
  simp only [pfI]
  obtain ⟨S1, hS1⟩ : ∃ S1, S1 = wr S 13 10 1 := ⟨_, rfl⟩
  rw [← hS1]
  have m9 : S1.1 13 9 = nI n := by rw [hS1, z_wr_oth (by omega)]; exact n9
  have hc : ∀ c, c ≠ 13 → S1.1 c = S.1 c := fun c h => by rw [hS1, z_wr_row h]
  refine it_for (σ := St) (F := fX1_raise_L7 N) (fun j s (r : Int32 → St → Option St) => r (nI j) s) n (fun j s => (∀ c, c ≠ 19 → s.1 c = S1.1 c) ∧ ∀ i, i < j → s.1 19 i = 0) (fun o => ∃ S2, o = some S2 ∧ (∀ c, c ≠ 13 → c ≠ 17 → c ≠ 19 → S2.1 c = S.1 c) ∧ S2.1 13 = S1.1 13 ∧ ∀ i, i < n → S2.1 19 i = 1 ∧ S2.1 17 i = 99) ?_ ?_ N 0 S1 (by omega) (by omega) ⟨fun _ _ => rfl, fun i hi => absurd hi (by omega)⟩
  · intro j s r hj ⟨i1, i2⟩
    have q9 : s.1 13 9 = nI n := by rw [i1 13 (by omega)]; exact m9
    refine Or.inr ⟨wr s 19 j 0, ⟨fun c hc => by rw [z_wr_row hc]; exact i1 c hc, fun i hi => ?_⟩, ?_⟩
    · by_cases e : i = j
      · rw [e]; exact z_wr_eq
      · rw [z_wr_oth e]; exact i2 i (by omega)
    · show fX1_raise_L7 N r (nI j) s = _
      unfold fX1_raise_L7
      simp (disch := omega) only [q9, z_lt, hj, if_true, z_stI, nmI, nI_1]
  · intro s r ⟨i1, i2⟩
    have q9 : s.1 13 9 = nI n := by rw [i1 13 (by omega)]; exact m9
    obtain ⟨S2, e, f, g⟩ := z_layAnew hN hn q9 (fun i hi => Or.inl (i2 i hi))
    refine ⟨S2, ?_, fun c h13 h17 h19 => by rw [f c h17 h19, i1 c h19, hc c h13], by rw [f 13 (by omega) (by omega), i1 13 (by omega)], fun i hi => ?_⟩
    · show fX1_raise_L7 N r (nI n) s = _
      unfold fX1_raise_L7
      rw [q9, if_neg (Int32.lt_irrefl), e]
      rfl
    · rw [(g i hi).1, (g i hi).2, if_pos (i2 i hi)]
      exact ⟨rfl, rfl⟩
/-- the toil of a stone -/
def tlB (b : Option Nat) (W : Nat) (w : Nat → Nat) : Int64 := match b with
  | none => 0
  | some b => lN (W * w b)
theorem op_build {N : Nat} (hN : 1000 ≤ N) {S T : St} (hR : math_R S T) : ∃ (r : Int64) (S2 T2 : St), fX5_build N S = some (r, S2) ∧ fX6_build N T = some (r, T2) ∧ math_R S2 T2 := by
  have hR1 := R_thrown 0 hR
  unfold fX6_build fX5_build
  simp only [pfI]
  obtain ⟨T1, hT1⟩ : ∃ T1, T1 = wr T 0 28 0 := ⟨_, rfl⟩
  rw [← hT1] at hR1 ⊢
  obtain ⟨n, hn, n19, n9, en, hPL⟩ := vn hR1
  obtain ⟨b1, b2⟩ := vb hR1
  obtain ⟨nh, -, hnh, enh⟩ := hR1.2.1.2.1
  obtain ⟨nk, -, hnk, enk⟩ := hR1.1.2.1
  have t17 := hR1.2.2.2.2.2.2.2.2.2.1
  rw [en] at t17
  rw [b1, n9, t17]
  by_cases hn0 : n = 0
  · rw [if_pos (by rw [hn0]; rfl), if_pos hn0, if_pos rfl]
    exact ⟨_, _, _, rfl, rfl, hR1⟩
  rw [if_neg (nI_ne0 (by omega) (by omega)), if_neg hn0, if_neg (show ¬ (1 : Int32) = 0 by decide)]
  by_cases h18 : ¬ T1.1 0 18 = 0
  · rw [if_neg h18, if_neg h18]
    exact ⟨_, _, _, rfl, rfl, hR1⟩
  replace h18 := Classical.not_not.mp h18
  rw [if_pos h18, if_pos h18]
  obtain ⟨p1, p2, p3, p4, p5, p6⟩ := hPL (by omega)
  have hW := hR1.2.2.2.1.2.resolve_left (by rw [p6]; decide)
  obtain ⟨w0, w1, w2, w3, w4, w5, w6, w7, w8⟩ := vW hR1
  have hvw := fun i (hi : i < n) => vw hR1 (show i < nt (T1.1 0 19) by omega)
  -- names
  obtain ⟨A0, hA0⟩ : ∃ A0 : Nat → Nat → Nat, A0 = fun h k => nt (T1.1 5 (8 * h + k)) := ⟨_, rfl⟩
  obtain ⟨w, hw⟩ : ∃ w : Nat → Nat → Nat, w = fun i h => wy (T1.1 3) (T1.1 4) (T1.1 0 9) (T1.1 0 10) h (ps T1 i) := ⟨_, rfl⟩
  obtain ⟨W, hWd⟩ : ∃ W : Nat → Nat, W = fun i => ln T1 i * dp T1 i := ⟨_, rfl⟩
  obtain ⟨am, ham⟩ : ∃ am : Nat → Nat → Nat → Nat, am = amS A0 (kd T1) (fun i h => (w i h : Int)) nh := ⟨_, rfl⟩
  obtain ⟨bs, hbs⟩ : ∃ bs : Nat → Option Nat, bs = bst A0 (kd T1) (fun i h => (w i h : Int)) nh := ⟨_, rfl⟩
  have hA0r : ∀ h k, h < 5 → k < 8 → T1.1 5 (8 * h + k) = nI (A0 h k) ∧ A0 h k ≤ 60 := fun h k hh hk => by
    rw [hA0]
    obtain ⟨q1, q2, q3⟩ := rg_nt (hR1.2.2.1.2 (8 * h + k) (by omega)) (by omega)
    exact ⟨q1, q3⟩
  have hwl : ∀ i h, i < n → h < 5 → w i h ≤ 424 := fun i h hi hh => by
    rw [hw]
    have := (hvw i hi).2.2.2.2.2.2.2.2.2.2.2.1
    exact wy_le (hR1.2.1.2.2.2.2.1 h hh) (hR1.2.1.2.2.2.2.2 h hh) hW.2.1 hW.2.2.1 (by omega)
  have had := (hR1.2.2.2.2.2.2.2.2.2.2.2.1 (by rw [en]; omega)).2.2.2 h18
  have hcnt : ∀ i, i < n → cnt (kd T1) (kd T1 i) n ≤ sm (fun h => A0 h (kd T1 i)) nh := fun i hi => by
    have h1 := p5 (kd T1 i) (hvw i hi).2.1
    have h8 := (hvw i hi).2.2.1
    rw [enh, nt_nI (by omega)] at h1
    have : sm (fun h => nt (T1.1 6 (8 * h + kd T1 i))) nh = sm (fun h => A0 h (kd T1 i)) nh := sm_eq (fun h hh => by
      rw [hA0]
      show nt (T1.1 6 _) = nt (T1.1 5 _)
      rw [had _ (by omega)])
    omega
  have hok := fun i (hi : i < n) => (bst_ok (w := fun i h => (w i h : Int)) hcnt i (by omega)).2 hi
  rw [← hbs, ← ham] at hok
  have haml : ∀ i h k, h < 5 → k < 8 → am i h k ≤ 60 := fun i h k hh hk => by
    rw [ham]
    exact Nat.le_trans (amS_le h k i) (hA0r h k hh hk).2
  have hams : ∀ i h k, am (i + 1) h k = if k = kd T1 i ∧ bs i = some h then am i h k - 1 else am i h k := fun i h k => by
    rw [ham, hbs]; rfl
  have hbsd : ∀ i, bs i = nst (fun h => decide (0 < am i h (kd T1 i))) (fun h => (w i h : Int)) nh := fun i => by
    rw [ham, hbs]; rfl
  have hW24 : ∀ i, i < n → 1 ≤ W i ∧ W i ≤ 24 := fun i hi => by
    obtain ⟨v1, v2, v3, v4, v5, v6, v7, v8, v9, v10, v11, v12, v13, v14, v15, v16, v17, v18, v19, v20⟩ := hvw i hi
    rw [hWd]
    exact ⟨Nat.mul_le_mul v15 v19, Nat.mul_le_mul v16 v20⟩
  -- the class carries
  have l1 : ∃ S2, fX0_carryAll N S = some (sL (fun i => tlB (bs i) (W i) (w i)) n, S2) ∧ (∀ c, c ≠ 18 → (∀ h, h < 5 → c ≠ 7 + h) → S2.1 c = S.1 c) ∧ (∀ h k, h < 5 → k < 8 → S2.1 (7 + h) k = nI (am n h k)) ∧ (∀ i, i < n → S2.1 18 i = eO (bs i)) := by
    unfold fX0_carryAll
    refine it_for (σ := Int64 × St) (F := fX0_carryAll_L4 N) (fun j s (r : Int64 → Int32 → St → Option (Int64 × St)) => r s.1 (nI j) s.2) n (fun j s => s.1 = sL (fun i => tlB (bs i) (W i) (w i)) j ∧ (∀ c, c ≠ 18 → (∀ h, h < 5 → c ≠ 7 + h) → s.2.1 c = S.1 c) ∧ (∀ h k, h < 5 → k < 8 → s.2.1 (7 + h) k = nI (am j h k)) ∧ (∀ i, i < j → s.2.1 18 i = eO (bs i))) (fun o => ∃ S2, o = some (sL (fun i => tlB (bs i) (W i) (w i)) n, S2) ∧ (∀ c, c ≠ 18 → (∀ h, h < 5 → c ≠ 7 + h) → S2.1 c = S.1 c) ∧ (∀ h k, h < 5 → k < 8 → S2.1 (7 + h) k = nI (am n h k)) ∧ (∀ i, i < n → S2.1 18 i = eO (bs i))) ?_ ?_ N 0 (0, S) (by omega) (by omega) ⟨rfl, fun _ _ _ => rfl, fun h k hh hk => ?_, fun i hi => absurd hi (by omega)⟩
    · rintro j ⟨x, s⟩ r hj ⟨i1, i2, i3, i4⟩
      dsimp only at i1 i2 i3 i4
      obtain ⟨v1, v2, v3, v4, v5, v6, v7, v8, v9, v10, v11, v12, v13, v14, v15, v16, v17, v18, v19, v20⟩ := hvw j hj
      obtain ⟨b, hb, eb, hpos⟩ := hok j hj
      have q9 : s.1 13 9 = nI n := by rw [i2 13 (by omega) (fun h hh => by omega)]; exact n9
      have q14 : s.1 14 j = nI (kd T1 j) := by rw [i2 14 (by omega) (fun h hh => by omega)]; exact v4
      have q16 : s.1 16 j = nI (ps T1 j) := by rw [i2 16 (by omega) (fun h hh => by omega)]; exact v8
      have q6 : s.1 1 6 = nI nh := by rw [i2 1 (by omega) (fun h hh => by omega), hR1.2.1.1]; exact enh
      have hway : ∀ (s : St), (∀ c, c ≠ 18 → (∀ h, h < 5 → c ≠ 7 + h) → s.1 c = S.1 c) → ∀ h, h < nh → fX0_way (nI h) (nI (ps T1 j)) s = some (nI (w j h)) := by
        intro s i2 h hh
        have c4 := i2 4 (by omega) (fun h hh => by omega)
        have c5 := i2 5 (by omega) (fun h hh => by omega)
        have c12 := i2 12 (by omega) (fun h hh => by omega)
        have e4 : s.1 4 h = T1.1 3 h := by rw [c4]; exact hR1.2.1.2.2.1 h (by omega)
        have e5 : s.1 5 h = T1.1 4 h := by rw [c5]; exact hR1.2.1.2.2.2.1 h (by omega)
        have e1 : s.1 12 1 = T1.1 0 9 := by rw [c12]; exact w1
        have e2 : s.1 12 2 = T1.1 0 10 := by rw [c12]; exact w2
        rw [z_way (by omega) (by omega) (by rw [e4]; exact hR1.2.1.2.2.2.2.1 h (by omega)) (by rw [e5]; exact hR1.2.1.2.2.2.2.2 h (by omega)) (by rw [e1]; exact hW.2.1) (by rw [e2]; exact hW.2.2.1)]
        rw [wy_eq e4 e5 e1 e2, hw]
      have hnear : fX0_nearestWith N (nI (kd T1 j)) (nI (ps T1 j)) s = some (nI b) := by
        rw [z_nearest (am := fun h => am j h (kd T1 j)) (w := w j) hN v3 hnh q6 (fun h hh => ⟨i3 h _ (by omega) v3, haml j h _ (by omega) v3⟩) (fun h hh => ⟨hway s i2 h hh, hwl j h hj (by omega)⟩), ← hbsd, eb]
        rfl
      obtain ⟨s2, hs2⟩ : ∃ s2, s2 = wr (wr s 18 j (nI b)) (7 + b) (kd T1 j) (nI (am j b (kd T1 j)) - 1) := ⟨_, rfl⟩
      have f2 : ∀ c, c ≠ 18 → (∀ h, h < 5 → c ≠ 7 + h) → s2.1 c = S.1 c := fun c h18 hc => by
        rw [hs2, z_wr_row (hc b (by omega)), z_wr_row h18]; exact i2 c h18 hc
      refine Or.inr ⟨(x + lN (W j * w j b), s2), ⟨?_, f2, ?_, ?_⟩, ?_⟩
      · show x + _ = sL _ j + tlB (bs j) (W j) (w j)
        rw [i1, eb]; rfl
      · intro h k hh hk
        show s2.1 (7 + h) k = _
        rw [hams, hs2, z_wr]
        by_cases e : h = b
        · subst e
          rw [if_pos rfl]
          by_cases e2 : k = kd T1 j
          · subst e2
            rw [if_pos rfl, if_pos ⟨rfl, eb⟩, nI_dec hpos]
          · rw [if_neg e2, if_neg (fun h => e2 h.1), z_wr_ne (by omega)]; exact i3 h k hh hk
        · rw [if_neg (by omega), if_neg (fun h2 => e (by rw [eb] at h2; exact (Option.some.inj h2.2).symm)), z_wr_ne (by omega)]; exact i3 h k hh hk
      · intro i hi
        show s2.1 18 i = _
        rw [hs2, z_wr_ne (by omega)]
        by_cases e : i = j
        · subst e
          rw [z_wr_eq, eb]; rfl
        · rw [z_wr_oth e]; exact i4 i (by omega)
      · show fX0_carryAll_L4 N r x (nI j) s = r _ (nI (j + 1)) s2
        have q16' : s2.1 16 j = nI (ps T1 j) := by rw [f2 16 (by omega) (fun h hh => by omega)]; exact v8
        have qa : (wr s 18 j (nI b)).1 (7 + b) (kd T1 j) = nI (am j b (kd T1 j)) := by rw [z_wr_ne (by omega)]; exact i3 b _ (by omega) v3
        have qw : fX0_weight (nI (kd T1 j)) s2 = some (lN (W j)) := by
          rw [hWd]
          exact z_weight v3 (by rw [f2 2 (by omega) (fun h hh => by omega)]; exact v13) (by rw [f2 3 (by omega) (fun h hh => by omega)]; exact v17) v16 v20
        have hwj := hwl j b hj (by omega)
        unfold fX0_carryAll_L4
        simp (disch := omega) only [q9, z_lt, hj, if_true, z_ldI, q14, q16, hnear, caP_some, z_stI, if_neg (z_neg1 b (by omega)), z_ldR, qa, ← hs2, qw, q16', hway s2 f2 b (by omega), nmL, nmI, nI_1, nI_l, lN_mul]
    · rintro ⟨x, s⟩ r ⟨i1, i2, i3, i4⟩
      dsimp only at i1 i2 i3 i4
      have q9 : s.1 13 9 = nI n := by rw [i2 13 (by omega) (fun h hh => by omega)]; exact n9
      refine ⟨s, ?_, i2, i3, i4⟩
      show fX0_carryAll_L4 N r x (nI n) s = _
      unfold fX0_carryAll_L4
      rw [q9, if_neg (Int32.lt_irrefl), i1]
    · show S.1 (7 + h) k = nI (am 0 h k)
      rw [hR1.2.2.1.1 h k hh hk, (hA0r h k hh hk).1, ham]
      rfl
  -- the reference carries
  obtain ⟨T3, hT3⟩ : ∃ T3, T3 = wr (wr T1 0 18 1) 0 27 0 := ⟨_, rfl⟩
  rw [← hT3]
  have t3c : ∀ c, c ≠ 0 → T3.1 c = T1.1 c := fun c hc => by rw [hT3, z_wr_row hc, z_wr_row hc]
  have t30 : ∀ j, j ≠ 18 → j ≠ 27 → T3.1 0 j = T1.1 0 j := fun j h1 h2 => by rw [hT3, z_wr_oth h2, z_wr_oth h1]
  have l2 : ∃ T2, itN (fun _ _ _ => none) (fX6_build_L37 N) N 0 0 T3 = some (sL (fun i => tlB (bs i) (W i) (w i)) n, T2) ∧ (∀ c, c ≠ 5 → c ≠ 10 → c ≠ 11 → c ≠ 12 → T2.1 c = T3.1 c) ∧ (∀ h k, h < 5 → k < 8 → T2.1 5 (8 * h + k) = nI (am n h k)) ∧ (∀ i, i < n → T2.1 12 i = eO (bs i) ∧ T2.1 10 i = 99 ∧ T2.1 11 i = 1) := by
    refine it_for (σ := Int64 × St) (F := fX6_build_L37 N) (fun j s (r : Int64 → Int32 → St → Option (Int64 × St)) => r s.1 (nI j) s.2) n (fun j s => s.1 = sL (fun i => tlB (bs i) (W i) (w i)) j ∧ (∀ c, c ≠ 5 → c ≠ 10 → c ≠ 11 → c ≠ 12 → s.2.1 c = T3.1 c) ∧ (∀ h k, h < 5 → k < 8 → s.2.1 5 (8 * h + k) = nI (am j h k)) ∧ (∀ i, i < j → s.2.1 12 i = eO (bs i) ∧ s.2.1 10 i = 99 ∧ s.2.1 11 i = 1)) (fun o => ∃ T2, o = some (sL (fun i => tlB (bs i) (W i) (w i)) n, T2) ∧ (∀ c, c ≠ 5 → c ≠ 10 → c ≠ 11 → c ≠ 12 → T2.1 c = T3.1 c) ∧ (∀ h k, h < 5 → k < 8 → T2.1 5 (8 * h + k) = nI (am n h k)) ∧ (∀ i, i < n → T2.1 12 i = eO (bs i) ∧ T2.1 10 i = 99 ∧ T2.1 11 i = 1)) ?_ ?_ N 0 (0, T3) (by omega) (by omega) ⟨rfl, fun _ _ _ _ _ => rfl, fun h k hh hk => ?_, fun i hi => absurd hi (by omega)⟩
    · rintro j ⟨x, s⟩ r hj ⟨i1, i2, i3, i4⟩
      dsimp only at i1 i2 i3 i4
      obtain ⟨v1, v2, v3, v4, v5, v6, v7, v8, v9, v10, v11, v12, v13, v14, v15, v16, v17, v18, v19, v20⟩ := hvw j hj
      obtain ⟨b, hb, eb, hpos⟩ := hok j hj
      have c0 := i2 0 (by omega) (by omega) (by omega) (by omega)
      have cc : ∀ c, c ≠ 0 → c ≠ 5 → c ≠ 10 → c ≠ 11 → c ≠ 12 → s.1 c = T1.1 c := fun c a0 a5 a10 a11 a12 => by rw [i2 c a5 a10 a11 a12, t3c c a0]
      have q9 : s.1 0 19 = nI n := by rw [c0, t30 19 (by omega) (by omega)]; exact n19
      have q7 : s.1 7 j = nI (kd T1 j) := by rw [cc 7 (by omega) (by omega) (by omega) (by omega) (by omega)]; exact v1
      have q3 : s.1 0 3 = nI nh := by rw [c0, t30 3 (by omega) (by omega)]; exact enh
      have htoil : ∀ (s : St), s.1 0 = T3.1 0 → (∀ c, c ≠ 0 → c ≠ 5 → c ≠ 10 → c ≠ 11 → c ≠ 12 → s.1 c = T1.1 c) → ∀ h, h < nh → fX6_toil (nI j) (nI h) s = some (lN (W j * w j h)) := by
        intro s c0 cc h hh
        have e9 : s.1 0 9 = T1.1 0 9 := by rw [c0, t30 9 (by omega) (by omega)]
        have e10 : s.1 0 10 = T1.1 0 10 := by rw [c0, t30 10 (by omega) (by omega)]
        have e3 := cc 3 (by omega) (by omega) (by omega) (by omega) (by omega)
        have e4 := cc 4 (by omega) (by omega) (by omega) (by omega) (by omega)
        rw [z_toil (k := kd T1 j) (l := ln T1 j) (d := dp T1 j) (p := ps T1 j) (by omega) (by omega) (by rw [cc 7 (by omega) (by omega) (by omega) (by omega) (by omega)]; exact v1) v3 (by rw [cc 1 (by omega) (by omega) (by omega) (by omega) (by omega)]; exact v14) (by rw [cc 2 (by omega) (by omega) (by omega) (by omega) (by omega)]; exact v18) v16 v20 (by rw [cc 9 (by omega) (by omega) (by omega) (by omega) (by omega)]; exact v7) (by omega) (by rw [e3]; exact hR1.2.1.2.2.2.2.1 h (by omega)) (by rw [e4]; exact hR1.2.1.2.2.2.2.2 h (by omega)) (by rw [e9]; exact hW.2.1) (by rw [e10]; exact hW.2.2.1)]
        rw [e3, e4, e9, e10, hWd, hw]
      obtain ⟨s2, hs2⟩ : ∃ s2, s2 = wr (wr (wr (wr s 5 (8 * b + kd T1 j) (nI (am j b (kd T1 j)) - 1)) 12 j (nI b)) 10 j 99) 11 j 1 := ⟨_, rfl⟩
      have f2 : ∀ c, c ≠ 5 → c ≠ 10 → c ≠ 11 → c ≠ 12 → s2.1 c = T3.1 c := fun c a5 a10 a11 a12 => by
        rw [hs2, z_wr_row a11, z_wr_row a10, z_wr_row a12, z_wr_row a5]; exact i2 c a5 a10 a11 a12
      have cc2 : ∀ c, c ≠ 0 → c ≠ 5 → c ≠ 10 → c ≠ 11 → c ≠ 12 → s2.1 c = T1.1 c := fun c a0 a5 a10 a11 a12 => by rw [f2 c a5 a10 a11 a12, t3c c a0]
      refine Or.inr ⟨(x + lN (W j * w j b), s2), ⟨?_, f2, ?_, ?_⟩, ?_⟩
      · show x + _ = sL _ j + tlB (bs j) (W j) (w j)
        rw [i1, eb]; rfl
      · intro h k hh hk
        show s2.1 5 (8 * h + k) = _
        rw [hams, hs2, z_wr_ne (by omega), z_wr_ne (by omega), z_wr_ne (by omega), z_wr, if_pos rfl]
        by_cases e : h = b ∧ k = kd T1 j
        · obtain ⟨rfl, rfl⟩ := e
          rw [if_pos rfl, if_pos ⟨rfl, eb⟩, nI_dec hpos]
        · rw [if_neg (by omega), if_neg (fun h2 => e ⟨by have h3 := h2.2; rw [eb] at h3; exact (Option.some.inj h3).symm, h2.1⟩)]; exact i3 h k hh hk
      · intro i hi
        show s2.1 12 i = _ ∧ s2.1 10 i = 99 ∧ s2.1 11 i = 1
        rw [hs2]
        by_cases e : i = j
        · subst e
          rw [z_wr_ne (by omega), z_wr_ne (by omega), z_wr_eq, z_wr_ne (by omega), z_wr_eq, z_wr_eq, eb]
          exact ⟨rfl, rfl, rfl⟩
        · rw [z_wr_ne (by omega), z_wr_ne (by omega), z_wr_oth e, z_wr_ne (by omega), z_wr_ne (by omega), z_wr_oth e, z_wr_ne (by omega), z_wr_ne (by omega), z_wr_oth e, z_wr_ne (by omega), z_wr_ne (by omega), z_wr_ne (by omega)]
          exact i4 i (by omega)
      · show fX6_build_L37 N r x (nI j) s = r _ (nI (j + 1)) s2
        have qa : s.1 5 (8 * b + kd T1 j) = nI (am j b (kd T1 j)) := i3 b _ (by omega) v3
        have hwj := hwl j b hj (by omega)
        unfold fX6_build_L37
        simp (disch := omega) only [q9, z_lt, hj, if_true, nmI]
        rw [z_best (am := fun h => am j h (kd T1 j)) (w := w j) (W := W j) hN v3 (by omega) hnh q3 q7 (hW24 j hj).1 (hW24 j hj).2 (fun h hh => ⟨i3 h _ (by omega) v3, haml j h _ (by omega) v3⟩) (fun h hh => ⟨htoil s c0 cc h hh, hwl j h hj (by omega)⟩), ← hbsd, eb, eO_some]
        simp (disch := omega) only [z_ldI, q7, z_8, qa, z_stI, ← hs2, htoil s2 (f2 0 (by omega) (by omega) (by omega) (by omega)) cc2 b (by omega), caP_some, nmL, nI_1]
    · rintro ⟨x, s⟩ r ⟨i1, i2, i3, i4⟩
      dsimp only at i1 i2 i3 i4
      have q9 : s.1 0 19 = nI n := by rw [i2 0 (by omega) (by omega) (by omega) (by omega), t30 19 (by omega) (by omega)]; exact n19
      refine ⟨s, ?_, i2, i3, i4⟩
      show fX6_build_L37 N r x (nI n) s = _
      unfold fX6_build_L37
      rw [q9, if_neg (Int32.lt_irrefl), i1]
    · show T3.1 5 (8 * h + k) = nI (am 0 h k)
      rw [t3c 5 (by omega), (hA0r h k hh hk).1, ham]
      rfl
  obtain ⟨S2, e1, f1, f2, f3⟩ := l1
  obtain ⟨T2, e2, g1, g2, g3⟩ := l2
  have q9 : S2.1 13 9 = nI n := by rw [f1 13 (by omega) (fun h hh => by omega)]; exact n9
  obtain ⟨S3, e3, r1, r2, r3⟩ := z_raise hN hn q9
  rw [e1, e2, caS_some, e3, caV_some]
  have sc : ∀ c, c ≠ 13 → c ≠ 17 → c ≠ 18 → c ≠ 19 → (∀ h, h < 5 → c ≠ 7 + h) → S3.1 c = S.1 c := fun c a13 a17 a18 a19 ah => by rw [r1 c a13 a17 a19, f1 c a18 ah]
  have tc : ∀ c, c ≠ 0 → c ≠ 5 → c ≠ 10 → c ≠ 11 → c ≠ 12 → T2.1 c = T1.1 c := fun c a0 a5 a10 a11 a12 => by rw [g1 c a5 a10 a11 a12, t3c c a0]
  have t0 : ∀ j, j ≠ 18 → j ≠ 27 → T2.1 0 j = T1.1 0 j := fun j a b => by rw [g1 0 (by omega) (by omega) (by omega) (by omega), t30 j a b]
  have t18 : T2.1 0 18 = 1 := by rw [g1 0 (by omega) (by omega) (by omega) (by omega), hT3]; rfl
  have t27 : T2.1 0 27 = 0 := by rw [g1 0 (by omega) (by omega) (by omega) (by omega), hT3]; rfl
  have s13 : ∀ j, j ≠ 10 → S3.1 13 j = S.1 13 j := fun j hj => by rw [r2, z_wr_oth hj, f1 13 (by omega) (fun h hh => by omega)]
  have s1310 : S3.1 13 10 = 1 := by rw [r2, z_wr_eq]
  have e19 : T2.1 0 19 = T1.1 0 19 := t0 19 (by omega) (by omega)
  refine ⟨_, _, _, rfl, rfl, ⟨?_, ?_, ⟨?_, ?_⟩, ?_, ?_⟩⟩
  · exact RK_eq (by rw [sc 1 (by omega) (by omega) (by omega) (by omega) (fun h hh => by omega)]) (sc 2 (by omega) (by omega) (by omega) (by omega) (fun h hh => by omega)) (sc 3 (by omega) (by omega) (by omega) (by omega) (fun h hh => by omega)) (t0 0 (by omega) (by omega)) (tc 1 (by omega) (by omega) (by omega) (by omega) (by omega)) (tc 2 (by omega) (by omega) (by omega) (by omega) (by omega)) hR1.1
  · exact RH_eq (by rw [sc 1 (by omega) (by omega) (by omega) (by omega) (fun h hh => by omega)]) (sc 4 (by omega) (by omega) (by omega) (by omega) (fun h hh => by omega)) (sc 5 (by omega) (by omega) (by omega) (by omega) (fun h hh => by omega)) (t0 3 (by omega) (by omega)) (tc 3 (by omega) (by omega) (by omega) (by omega) (by omega)) (tc 4 (by omega) (by omega) (by omega) (by omega) (by omega)) hR1.2.1
  · intro h k hh hk
    rw [r1 (7 + h) (by omega) (by omega) (by omega), f2 h k hh hk, g2 h k hh hk]
  · intro j hj
    rw [show j = 8 * (j / 8) + j % 8 by omega, g2 (j / 8) (j % 8) (by omega) (by omega)]
    exact ⟨_, by omega, haml n (j / 8) (j % 8) (by omega) (by omega), rfl⟩
  · exact RW_eq (sc 12 (by omega) (by omega) (by omega) (by omega) (fun h hh => by omega)) (fun j hj => t0 (8 + j) (by omega) (by omega)) hR1.2.2.2.1
  · have hP := hR1.2.2.2.2
    unfold RP at hP ⊢
    rw [e19, t0 26 (by omega) (by omega), t0 17 (by omega) (by omega), t0 3 (by omega) (by omega), t18, t27, s1310, s13 9 (by omega), s13 11 (by omega), en]
    rw [en] at hP
    refine ⟨hP.1, rfl, ?_, ?_, hP.2.2.2.2.1, hP.2.2.2.2.2.1, Or.inr ⟨rfl, by omega⟩, fun _ => ?_, fun _ i hi => ?_⟩
    · rw [sc 21 (by omega) (by omega) (by omega) (by omega) (fun h hh => by omega)]; exact hP.2.2.1
    · rw [if_neg (by decide), hP.2.2.2.1, if_pos h18]
    · obtain ⟨u1, u2, u3, u4⟩ := hP.2.2.2.2.2.2.2.1 (by omega)
      refine ⟨PL_eq (tc 1 (by omega) (by omega) (by omega) (by omega) (by omega)) (tc 6 (by omega) (by omega) (by omega) (by omega) (by omega)) (tc 7 (by omega) (by omega) (by omega) (by omega) (by omega)) (tc 8 (by omega) (by omega) (by omega) (by omega) (by omega)) (tc 9 (by omega) (by omega) (by omega) (by omega) (by omega)) (t0 0 (by omega) (by omega)) (t0 3 (by omega) (by omega)) (t0 8 (by omega) (by omega)) (t0 11 (by omega) (by omega)) (t0 12 (by omega) (by omega)) u1, fun i hi => ?_, fun h k hh hk => ?_, fun h => absurd h (by decide)⟩
      · rw [sc 14 (by omega) (by omega) (by omega) (by omega) (fun h hh => by omega), sc 15 (by omega) (by omega) (by omega) (by omega) (fun h hh => by omega), sc 16 (by omega) (by omega) (by omega) (by omega) (fun h hh => by omega), tc 7 (by omega) (by omega) (by omega) (by omega) (by omega), tc 8 (by omega) (by omega) (by omega) (by omega) (by omega), tc 9 (by omega) (by omega) (by omega) (by omega) (by omega)]
        exact u2 i hi
      · have hh' := hh
        rw [enh, nt_nI (by omega)] at hh'
        rw [sc (26 + h) (by omega) (by omega) (by omega) (by omega) (fun h hh => by omega), tc 6 (by omega) (by omega) (by omega) (by omega) (by omega)]
        exact u3 h k hh hk
    · rw [(r3 i hi).1, (r3 i hi).2, (g3 i hi).1, (g3 i hi).2.1, (g3 i hi).2.2, r1 18 (by omega) (by omega) (by omega), f3 i hi]
      exact ⟨rfl, rfl, rfl, ⟨99, by omega, by omega, rfl⟩, ⟨1, by omega, by omega, rfl⟩⟩
