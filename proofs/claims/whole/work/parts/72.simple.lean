/-! calls that set something up -/
theorem RK_eq {S T S2 T2 : St} (s5 : S2.1 1 5 = S.1 1 5) (s2 : S2.1 2 = S.1 2) (s3 : S2.1 3 = S.1 3) (t0 : T2.1 0 0 = T.1 0 0) (t1 : T2.1 1 = T.1 1) (t2 : T2.1 2 = T.1 2) (h : RK S T) : RK S2 T2 := by
  unfold RK at h ⊢
  rw [s5, s2, s3, t0, t1, t2]
  exact h
theorem RH_eq {S T S2 T2 : St} (s6 : S2.1 1 6 = S.1 1 6) (s4 : S2.1 4 = S.1 4) (s5 : S2.1 5 = S.1 5) (t0 : T2.1 0 3 = T.1 0 3) (t3 : T2.1 3 = T.1 3) (t4 : T2.1 4 = T.1 4) (h : RH S T) : RH S2 T2 := by
  unfold RH at h ⊢
  rw [s6, s4, s5, t0, t3, t4]
  exact h
theorem RA_eq {S T S2 T2 : St} (s : ∀ h, h < 5 → S2.1 (7 + h) = S.1 (7 + h)) (t5 : T2.1 5 = T.1 5) (h : RA S T) : RA S2 T2 := by
  unfold RA at h ⊢
  rw [t5]
  exact ⟨fun i k hi hk => by rw [s i hi]; exact h.1 i k hi hk, h.2⟩
theorem RW_eq {S T S2 T2 : St} (s12 : S2.1 12 = S.1 12) (t : ∀ j, j < 9 → T2.1 0 (8 + j) = T.1 0 (8 + j)) (h : RW S T) : RW S2 T2 := by
  have t8 := t 0 (by omega)
  have t9 := t 1 (by omega)
  have t10 := t 2 (by omega)
  have t11 := t 3 (by omega)
  have t12 := t 4 (by omega)
  have t13 := t 5 (by omega)
  have t14 := t 6 (by omega)
  have t15 := t 7 (by omega)
  have t16 := t 8 (by omega)
  unfold RW at h ⊢
  simp only [Nat.reduceAdd] at t8 t9 t10 t11 t12 t13 t14 t15 t16
  rw [s12, t8, t9, t10, t11, t12, t13, t14, t15, t16]
  exact ⟨fun j hj => by rw [t j hj]; exact h.1 j hj, h.2⟩
theorem RP_none {S T : St} (h9 : S.1 13 9 = 0) (h10 : S.1 13 10 = 0) (h11 : S.1 13 11 = 0) (l : S.1 21 7 = T.1 0 26) (t17 : T.1 0 17 = 0) (t18 : T.1 0 18 = 0) (t19 : T.1 0 19 = 0) : RP S T := by
  unfold RP
  rw [h9, h10, h11, l, t17, t18, t19, nt_0]
  refine ⟨rfl, rfl, rfl, by simp, rg_0, by simp, Or.inl rfl, fun h => absurd h (by omega), fun h => absurd h (by decide)⟩
/-- the class has forgotten, the reference has no plan -/
theorem RP_forget {S T S2 T2 : St} (hP : RP S T) (hb : T.1 0 18 = 0) (s9 : S2.1 13 9 = 0) (s10 : S2.1 13 10 = 0) (s11 : S2.1 13 11 = 0) (s21 : S2.1 21 7 = S.1 21 7) (t26 : T2.1 0 26 = T.1 0 26) (t17 : T2.1 0 17 = 0) (t18 : T2.1 0 18 = T.1 0 18) (t19 : T2.1 0 19 = 0) : RP S2 T2 :=
  RP_none s9 s10 s11 (by rw [s21, t26]; exact hP.2.2.1) t17 (by rw [t18]; exact hb) t19
theorem z_within {β : Type} (a lo hi : Int32) (K : Int32 → Option β) : caP (fX5_within a lo hi) K = if a < lo then K 0 else if a ≤ hi then K 1 else K 0 := by
  unfold fX5_within
  by_cases h1 : a < lo
  · rw [if_pos h1, if_pos h1]; rfl
  · rw [if_neg h1, if_neg h1]
    by_cases h2 : a ≤ hi
    · rw [if_pos h2, if_pos h2]; rfl
    · rw [if_neg h2, if_neg h2]; rfl
theorem z_map {β : Type} (a b : Int32) (K : Int32 → Option β) : caP (fX5_onTheMap a b) K = if mp a ∧ mp b then K 1 else K 0 := by
  unfold fX5_onTheMap
  rw [z_within]
  unfold mp
  by_cases h1 : a < -100
  · rw [if_pos h1, if_pos rfl, if_neg (fun h => absurd h.1.1 (Int32.not_le.mpr h1))]; rfl
  · rw [if_neg h1]
    by_cases h2 : a ≤ 100
    · rw [if_pos h2, if_neg (by decide), z_within]
      by_cases h3 : b < -100
      · rw [if_pos h3, if_pos rfl, if_neg (fun h => absurd h.2.1 (Int32.not_le.mpr h3))]; rfl
      · rw [if_neg h3]
        by_cases h4 : b ≤ 100
        · rw [if_pos h4, if_neg (by decide), if_pos ⟨⟨Int32.not_lt.mp h1, h2⟩, Int32.not_lt.mp h3, h4⟩]; rfl
        · rw [if_neg h4, if_pos rfl, if_neg (fun h => h4 h.2.2)]; rfl
    · rw [if_neg h2, if_pos rfl, if_neg (fun h => h2 h.1.2)]; rfl
theorem z_place {β : Type} (a b : Int32) (K : Int32 → Option β) : caP (fX6_isPlace a b) K = if mp a ∧ mp b then K 1 else K 0 := by
  unfold fX6_isPlace mp
  by_cases h1 : a < -100
  · rw [if_pos h1, if_neg (fun h => absurd h.1.1 (Int32.not_le.mpr h1))]; rfl
  · rw [if_neg h1]
    by_cases h2 : a ≤ 100
    · rw [if_pos h2]
      by_cases h3 : b < -100
      · rw [if_pos h3, if_neg (fun h => absurd h.2.1 (Int32.not_le.mpr h3))]; rfl
      · rw [if_neg h3]
        by_cases h4 : b ≤ 100
        · rw [if_pos h4, if_pos ⟨⟨Int32.not_lt.mp h1, h2⟩, Int32.not_lt.mp h3, h4⟩]; rfl
        · rw [if_neg h4, if_neg (fun h => h4 h.2.2)]; rfl
    · rw [if_neg h2, if_neg (fun h => h2 h.1.2)]; rfl
theorem z_c0 : ((0 : Int32) = 0) = True := by simp
theorem z_c1 : ((1 : Int32) = 0) = False := by simp
theorem rg_of {x lo hi : Int32} {a b : Nat} (hlo : lo = nI a) (hhi : hi = nI b) (hb : b < 2 ^ 31) (hab : a ≤ b) (h1 : ¬ x < lo) (h2 : x ≤ hi) : rg x a b := by
  subst hlo hhi
  have e1 : (nI a).toInt ≤ x.toInt := by rw [← Int32.le_iff_toInt_le]; exact Int32.not_lt.mp h1
  have e2 : x.toInt ≤ (nI b).toInt := by rw [← Int32.le_iff_toInt_le]; exact h2
  rw [nI_toInt (by omega)] at e1 e2
  obtain ⟨j, hj, rfl⟩ := nI_of (x := x) (by rw [Int32.lt_iff_toInt_lt]; show ¬ x.toInt < (0 : Int32).toInt; have : (0 : Int32).toInt = 0 := by decide
                                            rw [this]; omega)
  rw [nI_toInt (by omega)] at e1 e2
  exact ⟨j, by omega, by omega, rfl⟩
theorem op_kind {S T : St} (hR : math_R S T) (a b : Int32) : ∃ (r : Int32) (S2 T2 : St), fX5_kind a b S = some (r, S2) ∧ fX6_kind a b T = some (r, T2) ∧ math_R S2 T2 := by
  have hrej := R_thrown 0 hR
  obtain ⟨hK, hH, hA, hW, hP⟩ := id hR
  unfold fX5_kind fX6_kind
  simp only [z_within, pfI]
  rw [hP.2.1, hK.1]
  have e18 : (wr T 0 28 0).1 0 18 = T.1 0 18 := rfl
  have e0 : (wr T 0 28 0).1 0 0 = T.1 0 0 := rfl
  rw [e18, e0]
  obtain ⟨nk, -, hnk, enk⟩ := hK.2.1
  by_cases hb : T.1 0 18 = 0
  · rw [if_pos hb, if_pos hb]
    by_cases h8 : nk = 8
    · have : T.1 0 0 = 8 := by rw [enk, h8]; rfl
      rw [if_neg (by rw [this]; decide), if_pos this]
      exact ⟨_, _, _, rfl, rfl, hrej⟩
    · have hlt : T.1 0 0 < 8 := by rw [enk]; exact (nI_ltI (b := 8) (by omega) (by omega)).mpr (by omega)
      have hne : ¬ T.1 0 0 = 8 := by rw [enk]; exact fun h => h8 ((nI_eq (b := 8) (by omega) (by omega)).mp h)
      rw [if_pos hlt, if_neg hne]
      by_cases h1 : a < 1
      · rw [if_pos h1, if_pos h1, if_pos trivial]
        exact ⟨_, _, _, rfl, rfl, hrej⟩
      · rw [if_neg h1, if_neg h1]
        by_cases h2 : a ≤ 6
        · rw [if_pos h2, if_pos h2, if_neg (by decide)]
          by_cases h3 : b < 1
          · rw [if_pos h3, if_pos h3, if_pos trivial]
            exact ⟨_, _, _, rfl, rfl, hrej⟩
          · rw [if_neg h3, if_neg h3]
            by_cases h4 : b ≤ 4
            · rw [if_pos h4, if_pos h4, if_neg (by decide)]
              -- accepted
              have hra := rg_of (a := 1) (b := 6) (by rfl) (by rfl) (by omega) (by omega) h1 h2
              have hrb := rg_of (a := 1) (b := 4) (by rfl) (by rfl) (by omega) (by omega) h3 h4
              obtain ⟨S1, hS1⟩ : ∃ S1, S1 = wr (wr (wr S 13 9 0) 13 10 0) 13 11 0 := ⟨_, rfl⟩
              have f1 : fX1_forget S = some S1 := by rw [hS1]; rfl
              have s5 : S1.1 1 5 = nI nk := by rw [hS1, ← enk, ← hK.1]; rfl
              rw [f1]
              unfold fX4_addKind
              simp only [caV, caS, pfI]
              rw [s5, if_pos (by rw [← enk]; exact hlt), z_stI (by omega) (by omega)]
              have s5' : (wr S1 2 nk a).1 1 5 = nI nk := by rw [← s5]; rfl
              rw [s5', z_stI (by omega) (by omega)]
              rw [enk, z_stI (by omega) (by omega)]
              have t0' : (wr (wr T 0 28 0) 1 nk a).1 0 0 = nI nk := by rw [← enk]; rfl
              rw [t0', z_stI (by omega) (by omega)]
              have t0'' : (wr (wr (wr T 0 28 0) 1 nk a) 2 nk b).1 0 0 = nI nk := by rw [← enk]; rfl
              have s5'' : (wr (wr S1 2 nk a) 3 nk b).1 1 5 = nI nk := by rw [← s5]; rfl
              rw [t0'', s5'']
              refine ⟨_, _, _, rfl, rfl, ⟨⟨rfl, ?_, ?_, ?_, ?_, ?_⟩, ?_, ?_, ?_, ?_⟩⟩
              · show rg (nI nk + 1) 0 8
                exact ⟨nk + 1, by omega, by omega, nI_1 nk⟩
              · intro i hi
                show (wr S1 2 nk a).1 2 i = (wr T 1 nk a).1 1 i
                rw [z_wr, z_wr, if_pos rfl, if_pos rfl, hS1]
                by_cases e : i = nk
                · rw [if_pos e, if_pos e]
                · rw [if_neg e, if_neg e]; exact hK.2.2.1 i hi
              · intro i hi
                show (wr S1 3 nk b).1 3 i = (wr T 2 nk b).1 2 i
                rw [z_wr, z_wr, if_pos rfl, if_pos rfl, hS1]
                by_cases e : i = nk
                · rw [if_pos e, if_pos e]
                · rw [if_neg e, if_neg e]; exact hK.2.2.2.1 i hi
              · intro i hi
                have hi : i < nt (nI nk + 1) := hi
                rw [nI_1, nt_nI (by omega)] at hi
                show rg ((wr T 1 nk a).1 1 i) 1 6
                rw [z_wr, if_pos rfl]
                by_cases e : i = nk
                · rw [if_pos e]; exact hra
                · rw [if_neg e]; exact hK.2.2.2.2.1 i (by rw [enk, nt_nI (by omega)]; omega)
              · intro i hi
                have hi : i < nt (nI nk + 1) := hi
                rw [nI_1, nt_nI (by omega)] at hi
                show rg ((wr T 2 nk b).1 2 i) 1 4
                rw [z_wr, if_pos rfl]
                by_cases e : i = nk
                · rw [if_pos e]; exact hrb
                · rw [if_neg e]; exact hK.2.2.2.2.2 i (by rw [enk, nt_nI (by omega)]; omega)
              · exact RH_eq (by rw [hS1]; rfl) (by rw [hS1]; rfl) (by rw [hS1]; rfl) rfl rfl rfl hH
              · exact RA_eq (fun h hh => by rw [hS1]; rcases (show h = 0 ∨ h = 1 ∨ h = 2 ∨ h = 3 ∨ h = 4 by omega) with rfl | rfl | rfl | rfl | rfl <;> rfl) rfl hA
              · exact RW_eq (by rw [hS1]; rfl) (fun j hj => by rcases (show j = 0 ∨ j = 1 ∨ j = 2 ∨ j = 3 ∨ j = 4 ∨ j = 5 ∨ j = 6 ∨ j = 7 ∨ j = 8 by omega) with rfl | rfl | rfl | rfl | rfl | rfl | rfl | rfl | rfl <;> rfl) hW
              · exact RP_forget hP hb (by rw [hS1]; rfl) (by rw [hS1]; rfl) (by rw [hS1]; rfl) (by rw [hS1]; rfl) rfl rfl rfl rfl
            · rw [if_neg h4, if_neg h4, if_pos trivial]
              exact ⟨_, _, _, rfl, rfl, hrej⟩
        · rw [if_neg h2, if_neg h2, if_pos trivial]
          exact ⟨_, _, _, rfl, rfl, hrej⟩
  · rw [if_neg hb, if_neg hb]
    exact ⟨_, _, _, rfl, rfl, hrej⟩
