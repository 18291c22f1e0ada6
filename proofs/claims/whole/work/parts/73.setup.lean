/-! more calls that set something up -/
theorem caP_some {α β : Type} (x : α) (K : α → Option β) : caP (some x) K = K x := rfl
theorem caS_some {α β : Type} (x : α) (S : St) (K : α → St → Option β) : caS (some (x, S)) K = K x S := rfl
theorem caV_some {β : Type} (S : St) (K : St → Option β) : caV (some S) K = K S := rfl
/-- the class after it has forgotten -/
def fgt (S : St) : St := wr (wr (wr S 13 9 0) 13 10 0) 13 11 0
theorem z_forget (S : St) : fX1_forget S = some (fgt S) := rfl
theorem fgt_ne {S : St} {c : Nat} (h : c ≠ 13) : (fgt S).1 c = S.1 c := by
  unfold fgt
  rw [z_wr_row h, z_wr_row h, z_wr_row h]
/-- the reference after it has no plan -/
def npl (T : St) : St := wr (wr T 0 17 0) 0 19 0
theorem z_noPlan (T : St) : fX6_noPlan T = some (npl T) := rfl
theorem npl_ne {T : St} {c : Nat} (h : c ≠ 0) : (npl T).1 c = T.1 c := by
  unfold npl
  rw [z_wr_row h, z_wr_row h]
theorem npl_0 {T : St} {j : Nat} (h : j ≠ 17) (h2 : j ≠ 19) : (npl T).1 0 j = T.1 0 j := by
  unfold npl
  rw [z_wr_oth h2, z_wr_oth h]
/-- a call that sets something up: both have forgotten; what is not of the plan must fit -/
theorem R_setup {S T S2 T2 : St} (hP : RP S T) (hb : T.1 0 18 = 0) (hK : RK S2 T2) (hH : RH S2 T2) (hA : RA S2 T2) (hW : RW S2 T2) (s13 : S2.1 13 = (fgt S).1 13) (s21 : S2.1 21 7 = S.1 21 7) (t17 : T2.1 0 17 = 0) (t18 : T2.1 0 18 = T.1 0 18) (t19 : T2.1 0 19 = 0) (t26 : T2.1 0 26 = T.1 0 26) : math_R S2 T2 :=
  ⟨hK, hH, hA, hW, RP_forget hP hb (by rw [s13]; rfl) (by rw [s13]; rfl) (by rw [s13]; rfl) s21 t26 t17 t18 t19⟩
theorem z_hasHeap {β : Type} (a : Int32) (S : St) (K : Int32 → Option β) : caP (fX4_hasHeap a S) K = if a < 0 then K 0 else if a < S.1 1 6 then K 1 else K 0 := by
  unfold fX4_hasHeap
  by_cases h1 : a < 0
  · rw [if_pos h1, if_pos h1]; rfl
  · rw [if_neg h1, if_neg h1]
    by_cases h2 : a < S.1 1 6
    · rw [if_pos h2, if_pos h2]; rfl
    · rw [if_neg h2, if_neg h2]; rfl
theorem z_hasKind {β : Type} (a : Int32) (S : St) (K : Int32 → Option β) : caP (fX4_hasKind a S) K = if a < 0 then K 0 else if a < S.1 1 5 then K 1 else K 0 := by
  unfold fX4_hasKind
  by_cases h1 : a < 0
  · rw [if_pos h1, if_pos h1]; rfl
  · rw [if_neg h1, if_neg h1]
    by_cases h2 : a < S.1 1 5
    · rw [if_pos h2, if_pos h2]; rfl
    · rw [if_neg h2, if_neg h2]; rfl
/-- an index that is within -/
theorem ix_of {a x : Int32} {n : Nat} (hn : n < 2 ^ 31) (hx : x = nI n) (h1 : ¬ a < 0) (h2 : a < x) : ∃ j : Nat, j < n ∧ a = nI j := by
  rcases z_ix a hn with h | h | h
  · exact absurd h h1
  · exact absurd h2 (Int32.not_lt.mpr (by rw [hx]; exact h))
  · exact h
theorem nI_mul (a b : Nat) : nI a * nI b = nI (a * b) := (Int32.ofNat_mul a b).symm
theorem z_8 (h k : Nat) : 8 * nI h + nI k = nI (8 * h + k) := by
  rw [← nI_add, ← nI_mul]
  rfl
theorem op_heap {S T : St} (hR : math_R S T) (a b : Int32) : ∃ (r : Int32) (S2 T2 : St), fX5_heap a b S = some (r, S2) ∧ fX6_heap a b T = some (r, T2) ∧ math_R S2 T2 := by
  have hrej := R_thrown 0 hR
  obtain ⟨hK, hH, hA, hW, hP⟩ := id hR
  unfold fX5_heap fX6_heap
  rw [z_map]
  simp only [pfI, z_place]
  have e18 : (wr T 0 28 0).1 0 18 = T.1 0 18 := rfl
  have e0 : (wr T 0 28 0).1 0 3 = T.1 0 3 := rfl
  rw [hP.2.1, hH.1, e18, e0]
  obtain ⟨nk, -, hnk, enk⟩ := hH.2.1
  by_cases hb : T.1 0 18 = 0
  · rw [if_pos hb, if_pos hb]
    by_cases h8 : nk = 5
    · have : T.1 0 3 = 5 := by rw [enk, h8]; rfl
      rw [if_neg (by rw [this]; decide), if_pos this]
      exact ⟨_, _, _, rfl, rfl, hrej⟩
    · have hlt : T.1 0 3 < 5 := by rw [enk]; exact (nI_ltI (b := 5) (by omega) (by omega)).mpr (by omega)
      have hne : ¬ T.1 0 3 = 5 := by rw [enk]; exact fun h => h8 ((nI_eq (b := 5) (by omega) (by omega)).mp h)
      rw [if_pos hlt, if_neg hne]
      by_cases hm : mp a ∧ mp b
      · rw [if_pos hm, if_pos hm, if_neg (by decide), if_neg (by simp), z_forget, caV_some]
        unfold fX4_addHeap
        simp only [pfI]
        have s6 : (fgt S).1 1 6 = nI nk := by rw [← enk, ← hH.1]; rfl
        rw [s6, if_pos (by rw [← enk]; exact hlt), z_stI (by omega) (by omega)]
        have s6' : (wr (fgt S) 4 nk a).1 1 6 = nI nk := by rw [← s6]; rfl
        rw [s6', z_stI (by omega) (by omega), enk, z_stI (by omega) (by omega)]
        have t0' : (wr (wr T 0 28 0) 3 nk a).1 0 3 = nI nk := by rw [← enk]; rfl
        rw [t0', z_stI (by omega) (by omega)]
        have t0'' : (wr (wr (wr T 0 28 0) 3 nk a) 4 nk b).1 0 3 = nI nk := by rw [← enk]; rfl
        have s6'' : (wr (wr (fgt S) 4 nk a) 5 nk b).1 1 6 = nI nk := by rw [← s6]; rfl
        rw [t0'', s6'', z_noPlan]
        refine ⟨_, _, _, rfl, rfl, R_setup hP hb ?_ ⟨rfl, ?_, ?_, ?_, ?_, ?_⟩ ?_ ?_ rfl rfl rfl rfl rfl rfl⟩
        · exact RK_eq rfl rfl rfl rfl rfl rfl hK
        · show rg (nI nk + 1) 0 5
          exact ⟨nk + 1, by omega, by omega, nI_1 nk⟩
        · intro i hi
          show (wr S 4 nk a).1 4 i = (wr T 3 nk a).1 3 i
          rw [z_wr, z_wr, if_pos rfl, if_pos rfl]
          by_cases e : i = nk
          · rw [if_pos e, if_pos e]
          · rw [if_neg e, if_neg e]; exact hH.2.2.1 i hi
        · intro i hi
          show (wr S 5 nk b).1 5 i = (wr T 4 nk b).1 4 i
          rw [z_wr, z_wr, if_pos rfl, if_pos rfl]
          by_cases e : i = nk
          · rw [if_pos e, if_pos e]
          · rw [if_neg e, if_neg e]; exact hH.2.2.2.1 i hi
        · intro i hi
          show mp ((wr T 3 nk a).1 3 i)
          rw [z_wr, if_pos rfl]
          by_cases e : i = nk
          · rw [if_pos e]; exact hm.1
          · rw [if_neg e]; exact hH.2.2.2.2.1 i hi
        · intro i hi
          show mp ((wr T 4 nk b).1 4 i)
          rw [z_wr, if_pos rfl]
          by_cases e : i = nk
          · rw [if_pos e]; exact hm.2
          · rw [if_neg e]; exact hH.2.2.2.2.2 i hi
        · exact RA_eq (fun h hh => by rcases (show h = 0 ∨ h = 1 ∨ h = 2 ∨ h = 3 ∨ h = 4 by omega) with rfl | rfl | rfl | rfl | rfl <;> rfl) rfl hA
        · exact RW_eq rfl (fun j hj => by rcases (show j = 0 ∨ j = 1 ∨ j = 2 ∨ j = 3 ∨ j = 4 ∨ j = 5 ∨ j = 6 ∨ j = 7 ∨ j = 8 by omega) with rfl | rfl | rfl | rfl | rfl | rfl | rfl | rfl | rfl <;> rfl) hW
      · rw [if_neg hm, if_neg hm, if_pos trivial, if_pos trivial]
        exact ⟨_, _, _, rfl, rfl, hrej⟩
  · rw [if_neg hb, if_neg hb]
    exact ⟨_, _, _, rfl, rfl, hrej⟩
theorem op_wall {S T : St} (hR : math_R S T) (a b c d e f : Int32) : ∃ (r : Int32) (S2 T2 : St), fX5_wall a b c d e f S = some (r, S2) ∧ fX6_wall a b c d e f T = some (r, T2) ∧ math_R S2 T2 := by
  have hrej := R_thrown 0 hR
  obtain ⟨hK, hH, hA, hW, hP⟩ := id hR
  unfold fX5_wall fX6_wall
  rw [z_map]
  simp only [pfI, z_place, z_within]
  have e18 : (wr T 0 28 0).1 0 18 = T.1 0 18 := rfl
  rw [hP.2.1, e18]
  by_cases hb : T.1 0 18 = 0
  · rw [if_pos hb, if_pos hb]
    by_cases hm : mp a ∧ mp b
    · simp only [if_pos hm, z_c0, z_c1, if_true, if_false]
      by_cases h1 : c < 2
      · simp only [if_pos h1]
        exact ⟨_, _, _, rfl, rfl, hrej⟩
      by_cases h2 : ¬ (c ≤ 24)
      · simp only [if_neg h1, if_neg h2]
        exact ⟨_, _, _, rfl, rfl, hrej⟩
      replace h2 := Classical.not_not.mp h2
      simp only [if_neg h1, if_pos h2]
      by_cases h3 : d < 1
      · simp only [if_pos h3]
        exact ⟨_, _, _, rfl, rfl, hrej⟩
      by_cases h4 : ¬ (d ≤ 6)
      · simp only [if_neg h3, if_neg h4]
        exact ⟨_, _, _, rfl, rfl, hrej⟩
      replace h4 := Classical.not_not.mp h4
      simp only [if_neg h3, if_pos h4]
      by_cases h5 : e < 1
      · simp only [if_pos h5]
        exact ⟨_, _, _, rfl, rfl, hrej⟩
      by_cases h6 : ¬ (e ≤ 4)
      · simp only [if_neg h5, if_neg h6]
        exact ⟨_, _, _, rfl, rfl, hrej⟩
      replace h6 := Classical.not_not.mp h6
      simp only [if_neg h5, if_pos h6]
      by_cases h7 : f < 0
      · simp only [if_pos h7]
        exact ⟨_, _, _, rfl, rfl, hrej⟩
      by_cases h8 : ¬ (f ≤ 1)
      · simp only [if_neg h7, if_neg h8]
        exact ⟨_, _, _, rfl, rfl, hrej⟩
      replace h8 := Classical.not_not.mp h8
      simp only [if_neg h7, if_pos h8, z_forget, caV_some, z_noPlan]
      unfold fX3_tell
      simp only [pfI, caV_some]
      refine ⟨_, _, _, rfl, rfl, R_setup hP hb ?_ ?_ ?_ ?_ rfl rfl rfl rfl rfl rfl⟩
      · exact RK_eq rfl rfl rfl rfl rfl rfl hK
      · exact RH_eq rfl rfl rfl rfl rfl rfl hH
      · exact RA_eq (fun h hh => by rcases (show h = 0 ∨ h = 1 ∨ h = 2 ∨ h = 3 ∨ h = 4 by omega) with rfl | rfl | rfl | rfl | rfl <;> rfl) rfl hA
      · refine ⟨fun j hj => by rcases (show j = 0 ∨ j = 1 ∨ j = 2 ∨ j = 3 ∨ j = 4 ∨ j = 5 ∨ j = 6 ∨ j = 7 ∨ j = 8 by omega) with rfl | rfl | rfl | rfl | rfl | rfl | rfl | rfl | rfl <;> rfl, Or.inr ⟨rfl, hm.1, hm.2, ?_, ?_, ?_, ?_, ?_, ?_⟩⟩
        · exact rg_of (a := 2) (b := 24) (by rfl) (by rfl) (by omega) (by omega) h1 h2
        · exact rg_of (a := 1) (b := 6) (by rfl) (by rfl) (by omega) (by omega) h3 h4
        · exact rg_of (a := 1) (b := 4) (by rfl) (by rfl) (by omega) (by omega) h5 h6
        · exact rg_of (a := 0) (b := 1) (by rfl) (by rfl) (by omega) (by omega) h7 h8
        · exact rg_0
        · exact rg_0
    · rw [if_neg hm, if_neg hm, if_pos trivial, if_pos trivial]
      exact ⟨_, _, _, rfl, rfl, hrej⟩
  · rw [if_neg hb, if_neg hb]
    exact ⟨_, _, _, rfl, rfl, hrej⟩
theorem op_stones {S T : St} (hR : math_R S T) (a b c : Int32) : ∃ (r : Int32) (S2 T2 : St), fX5_stones a b c S = some (r, S2) ∧ fX6_stones a b c T = some (r, T2) ∧ math_R S2 T2 := by
  have hrej := R_thrown 0 hR
  obtain ⟨hK, hH, hA, hW, hP⟩ := id hR
  unfold fX5_stones fX6_stones
  simp only [pfI, z_within, z_hasHeap, z_hasKind]
  have e18 : (wr T 0 28 0).1 0 18 = T.1 0 18 := rfl
  have e3 : (wr T 0 28 0).1 0 3 = T.1 0 3 := rfl
  have e0 : (wr T 0 28 0).1 0 0 = T.1 0 0 := rfl
  rw [hP.2.1, e18, e3, e0, hH.1, hK.1]
  obtain ⟨nh, -, hnh, enh⟩ := hH.2.1
  obtain ⟨nk, -, hnk, enk⟩ := hK.2.1
  by_cases hb : ¬ (T.1 0 18 = 0)
  · rw [if_neg hb, if_neg hb]
    exact ⟨_, _, _, rfl, rfl, hrej⟩
  replace hb := Classical.not_not.mp hb
  simp only [if_pos hb, z_c0, z_c1, if_true, if_false]
  by_cases h1 : a < 0
  · simp only [if_pos h1]
    exact ⟨_, _, _, rfl, rfl, hrej⟩
  by_cases h2 : ¬ (a < T.1 0 3)
  · simp only [if_neg h1, if_neg h2]
    exact ⟨_, _, _, rfl, rfl, hrej⟩
  replace h2 := Classical.not_not.mp h2
  simp only [if_neg h1, if_pos h2]
  by_cases h3 : b < 0
  · simp only [if_pos h3]
    exact ⟨_, _, _, rfl, rfl, hrej⟩
  by_cases h4 : ¬ (b < T.1 0 0)
  · simp only [if_neg h3, if_neg h4]
    exact ⟨_, _, _, rfl, rfl, hrej⟩
  replace h4 := Classical.not_not.mp h4
  simp only [if_neg h3, if_pos h4]
  by_cases h5 : c < 0
  · simp only [if_pos h5]
    exact ⟨_, _, _, rfl, rfl, hrej⟩
  by_cases h6 : ¬ (c ≤ 60)
  · simp only [if_neg h5, if_neg h6]
    exact ⟨_, _, _, rfl, rfl, hrej⟩
  replace h6 := Classical.not_not.mp h6
  simp only [if_neg h5, if_pos h6, z_forget, caV_some, z_noPlan]
  obtain ⟨h, hh, rfl⟩ := ix_of (by omega) enh h1 h2
  obtain ⟨k, hk, rfl⟩ := ix_of (by omega) enk h3 h4
  rw [z_ldR (by omega) (by omega), z_stI (by omega) (by omega), z_8, z_stI (by omega) (by omega)]
  refine ⟨_, _, _, rfl, rfl, R_setup hP hb ?_ ?_ ⟨?_, ?_⟩ ?_ ?_ ?_ rfl rfl rfl rfl⟩
  · exact RK_eq (by rw [z_wr_ne (by omega)]; rfl) (by rw [z_wr_row (by omega)]; rfl) (by rw [z_wr_row (by omega)]; rfl) rfl rfl rfl hK
  · exact RH_eq (by rw [z_wr_ne (by omega)]; rfl) (by rw [z_wr_row (by omega)]; rfl) (by rw [z_wr_row (by omega)]; rfl) rfl rfl rfl hH
  · intro i j hi hj
    rw [z_wr]
    have ee : (npl (wr (wr T 0 28 0) 5 (8 * h + k) c)).1 5 (8 * i + j) = if 8 * i + j = 8 * h + k then c else T.1 5 (8 * i + j) := by
      rw [npl_ne (by omega), z_wr, if_pos rfl, z_wr_ne (by omega)]
    rw [ee]
    by_cases e1 : i = h
    · rw [if_pos (by omega)]
      by_cases e2 : j = k
      · rw [if_pos e2, if_pos (by omega)]
      · rw [if_neg e2, if_neg (by omega), fgt_ne (by omega)]
        exact hA.1 i j hi hj
    · rw [if_neg (by omega), if_neg (by omega), fgt_ne (by omega)]
      exact hA.1 i j hi hj
  · intro j hj
    rw [npl_ne (by omega), z_wr, if_pos rfl]
    by_cases e : j = 8 * h + k
    · rw [if_pos e]
      exact rg_of (a := 0) (b := 60) (by rfl) (by rfl) (by omega) (by omega) h5 h6
    · rw [if_neg e, z_wr_ne (by omega)]
      exact hA.2 j hj
  · exact RW_eq (by rw [z_wr_row (by omega)]; rfl) (fun j hj => by rcases (show j = 0 ∨ j = 1 ∨ j = 2 ∨ j = 3 ∨ j = 4 ∨ j = 5 ∨ j = 6 ∨ j = 7 ∨ j = 8 by omega) with rfl | rfl | rfl | rfl | rfl | rfl | rfl | rfl | rfl <;> rfl) hW
  · rw [z_wr_row (by omega)]
  · rw [z_wr_ne (by omega)]; rfl
