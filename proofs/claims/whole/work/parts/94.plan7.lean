/-! plan: begin, end, the call -/
theorem sI_sm {f : Nat → Int32} {g : Nat → Nat} : ∀ {n : Nat}, (∀ h, h < n → f h = nI (g h)) → sI f n = nI (sm g n) := by
  intro n
  induction n with
  | zero => intro _; rfl
  | succ n ih =>
    intro h
    show sI f n + f n = nI (sm g n + g n)
    rw [ih (fun x hx => h x (by omega)), h n (by omega), nI_add]
theorem sm_60 {g : Nat → Nat} : ∀ {n : Nat}, (∀ h, h < n → g h ≤ 60) → sm g n ≤ 60 * n := by
  intro n
  induction n with
  | zero => intro _; exact Nat.le_refl _
  | succ n ih =>
    intro h
    have h1 := ih (fun x hx => h x (by omega))
    have h2 := h n (by omega)
    show sm g n + g n ≤ _
    omega
theorem z_inH4 {N nh k : Nat} {S : St} {g : Nat → Nat} (hN : 1000 ≤ N) (e6 : S.1 1 6 = nI nh) (hnh : nh ≤ 5) (hk : k < 8) (ha : ∀ h, h < 5 → S.1 (7 + h) k = nI (g h)) : fX4_inHeaps N (nI k) S = some (nI (sm g nh)) := by
  rw [← sI_sm (f := fun h => nI (g h)) (g := g) (n := nh) (fun _ _ => rfl)]
  unfold fX4_inHeaps
  refine it_sum (F := fX4_inHeaps_L4 (nI k) S) (K := some) (by omega) ?_ ?_
  · intro j x r hj
    unfold fX4_inHeaps_L4
    simp (disch := omega) only [e6, z_lt, hj, if_true, z_ldR, z_ldI, nmI, nI_1, ha j (by omega)]
  · intro x r
    unfold fX4_inHeaps_L4
    rw [e6, if_neg (Int32.lt_irrefl)]
theorem z_begin {N L nk nh : Nat} {S : St} {len tot kf : Nat → Nat} {g : Nat → Nat → Nat} (hN : 1000 ≤ N) (e5 : S.1 1 5 = nI nk) (hnk : nk ≤ 8) (e6 : S.1 1 6 = nI nh) (hnh : nh ≤ 5) (ha : ∀ h k, h < 5 → k < 8 → S.1 (7 + h) k = nI (g h k)) (ht : ∀ k, k < nk → tot k = sm (fun h => g h k) nh) : ∃ S1, fX2_begin N S = some S1 ∧ CS (fgt S) L nk len tot 0 0 0 0 kf S1 := by
  unfold fX2_begin
  rw [z_forget, caV_some]
  simp only [pfI]
  obtain ⟨S4, hS4⟩ : ∃ S4, S4 = wr (wr (wr (fgt S) 21 7 0) 21 5 0) 21 6 0 := ⟨_, rfl⟩
  rw [← hS4]
  obtain ⟨S5, eS5, f1, f2, -, -⟩ := z_fill (N := N) (k := 23) (n := 6) (b := 0) (S := S4) (by omega) (by omega)
  rw [eS5, caV_some]
  have r5 : ∀ c, c ≠ 21 → c ≠ 23 → S5.1 c = (fgt S).1 c := fun c h1 h2 => by rw [f1 c h2, hS4, z_wr_row h1, z_wr_row h1, z_wr_row h1]
  refine it_for (σ := St) (F := fX2_begin_L32 N) (fun j s (r : Int32 → St → Option St) => r (nI j) s) nk (fun j s => (∀ c, c ≠ 22 → s.1 c = S5.1 c) ∧ (∀ k, k < j → s.1 22 k = nI (tot k))) (fun o => ∃ S1, o = some S1 ∧ CS (fgt S) L nk len tot 0 0 0 0 kf S1) ?_ ?_ N 0 S5 (by omega) (by omega) ⟨fun _ _ => rfl, fun k hk => absurd hk (by omega)⟩
  · rintro j s r hj ⟨i1, i2⟩
    refine Or.inr ⟨wr s 22 j (nI (tot j)), ⟨fun c hc => by rw [z_wr_row hc]; exact i1 c hc, fun k hk => ?_⟩, ?_⟩
    · by_cases e : k = j
      · rw [e, z_wr_eq]
      · rw [z_wr_oth e]; exact i2 k (by omega)
    · show fX2_begin_L32 N r (nI j) s = _
      unfold fX2_begin_L32
      have e5' : s.1 1 5 = nI nk := by rw [i1 1 (by omega), r5 1 (by omega) (by omega), fgt_ne (by omega)]; exact e5
      have e6' : s.1 1 6 = nI nh := by rw [i1 1 (by omega), r5 1 (by omega) (by omega), fgt_ne (by omega)]; exact e6
      rw [e5', if_pos (nI_lt hj (by omega)), z_inH4 (g := fun h => g h j) hN e6' hnh (by omega) (fun h hh => by rw [i1 _ (by omega), r5 _ (by omega) (by omega), fgt_ne (by omega)]; exact ha h j hh (by omega)), caP_some, z_stI (show j < 8 by omega) (by omega), ht j hj]
      simp only [nmI, nI_1]
  · rintro s r ⟨i1, i2⟩
    refine ⟨s, ?_, ?_⟩
    · show fX2_begin_L32 N r (nI nk) s = _
      unfold fX2_begin_L32
      have e5' : s.1 1 5 = nI nk := by rw [i1 1 (by omega), r5 1 (by omega) (by omega), fgt_ne (by omega)]; exact e5
      rw [e5', if_neg (Int32.lt_irrefl)]
    · have r21 : s.1 21 = S4.1 21 := by rw [i1 21 (by omega), f1 21 (by omega)]
      refine ⟨fun d a b c e f g h => by rw [i1 d g]; exact r5 d f h, fun j hj => by rw [i1 13 (by omega), r5 13 (by omega) (by omega)], by rw [i1 13 (by omega), r5 13 (by omega) (by omega)]; rfl, fun i hi => absurd hi (by omega), by rw [r21, hS4]; rfl, by rw [r21, hS4]; rfl, by rw [r21, hS4]; rfl, fun k hk => ?_, fun c hc => ?_⟩
      · rw [i2 k hk]
        show nI (tot k) = nI (tot k) - nI 0
        rw [nI_0, Int32.sub_zero]
      · rw [i1 23 (by omega), f2 c hc]; rfl
theorem z_wrow (S : St) (k : Nat) (f : Nat → Int32) (c : Nat) : (wrow S k f).1 c = if c = k then f else S.1 c := rfl
theorem z_cpI {β : Type} (S : St) (k1 k2 : Nat) (K : St → Option β) : cpI S k1 8 k2 8 0 0 8 K = K (wrow S k2 (va_cpy (S.1 k1) (S.1 k2) 0 0 8)) := by
  unfold cpI
  rw [if_neg (by decide)]
  rfl
theorem z_remember {N nh : Nat} {S : St} (hN : 1000 ≤ N) (e6 : S.1 1 6 = nI nh) (hnh : nh ≤ 5) : ∃ S3, fX0_rememberHeaps N S = some S3 ∧ (∀ c, c < 26 → S3.1 c = S.1 c) ∧ (∀ h k, h < nh → k < 8 → S3.1 (26 + h) k = S.1 (7 + h) k) := by
  unfold fX0_rememberHeaps
  refine it_for (σ := St) (F := fX0_rememberHeaps_L2) (fun j s (r : Int32 → St → Option St) => r (nI j) s) nh (fun j s => (∀ c, c < 26 → s.1 c = S.1 c) ∧ (∀ h k, h < j → k < 8 → s.1 (26 + h) k = S.1 (7 + h) k)) (fun o => ∃ S1, o = some S1 ∧ (∀ c, c < 26 → S1.1 c = S.1 c) ∧ (∀ h k, h < nh → k < 8 → S1.1 (26 + h) k = S.1 (7 + h) k)) ?_ ?_ N 0 S (by omega) (by omega) ⟨fun _ _ => rfl, fun h k hh => absurd hh (by omega)⟩
  · rintro j s r hj ⟨i1, i2⟩
    refine Or.inr ⟨wrow s (26 + j) (va_cpy (s.1 (7 + j)) (s.1 (26 + j)) 0 0 8), ⟨fun c hc => by rw [z_wrow, if_neg (by omega)]; exact i1 c hc, fun h k hh hk => ?_⟩, ?_⟩
    · rw [z_wrow]
      by_cases e : h = j
      · rw [e, if_pos rfl, pk_cpy_in (by omega) (by omega), i1 (7 + j) (by omega), Nat.sub_zero, Nat.zero_add]
      · rw [if_neg (by omega)]; exact i2 h k (by omega) hk
    · show fX0_rememberHeaps_L2 r (nI j) s = _
      unfold fX0_rememberHeaps_L2
      have e6' : s.1 1 6 = nI nh := by rw [i1 1 (by omega)]; exact e6
      rw [e6', if_pos (nI_lt hj (by omega)), z_ldR (by omega) (by omega), z_ldR (by omega) (by omega), z_cpI]
      simp only [nmI, nI_1]
  · rintro s r ⟨i1, i2⟩
    refine ⟨s, ?_, i1, i2⟩
    show fX0_rememberHeaps_L2 r (nI nh) s = _
    unfold fX0_rememberHeaps_L2
    have e6' : s.1 1 6 = nI nh := by rw [i1 1 (by omega)]; exact e6
    rw [e6', if_neg (Int32.lt_irrefl)]
theorem z_used {N : Nat} {T : St} {K : St → Option (Int32 × St)} (hN : 1000 ≤ N) : ∃ T4, itN (fun _ _ => none) (fX6_plan_L32 K) N 0 T = K T4 ∧ (∀ c, c ≠ 13 → T4.1 c = T.1 c) ∧ (∀ k, k < 8 → T4.1 13 k = 0) := by
  refine it_for (σ := St) (F := fX6_plan_L32 K) (fun j s (r : Int32 → St → Option (Int32 × St)) => r (nI j) s) 8 (fun j s => (∀ c, c ≠ 13 → s.1 c = T.1 c) ∧ (∀ k, k < j → s.1 13 k = 0)) (fun o => ∃ T4, o = K T4 ∧ (∀ c, c ≠ 13 → T4.1 c = T.1 c) ∧ (∀ k, k < 8 → T4.1 13 k = 0)) ?_ ?_ N 0 T (by omega) (by omega) ⟨fun _ _ => rfl, fun k hk => absurd hk (by omega)⟩
  · rintro j s r hj ⟨i1, i2⟩
    refine Or.inr ⟨wr s 13 j 0, ⟨fun c hc => by rw [z_wr_row hc]; exact i1 c hc, fun k hk => ?_⟩, ?_⟩
    · by_cases e : k = j
      · rw [e, z_wr_eq]
      · rw [z_wr_oth e]; exact i2 k (by omega)
    · show fX6_plan_L32 K r (nI j) s = _
      unfold fX6_plan_L32
      have h8 : nI j < 8 := (nI_ltI (b := 8) (by omega) (by omega)).mpr hj
      rw [if_pos h8, z_stI hj (by omega)]
      simp only [nmI, nI_1]
  · rintro s r ⟨i1, i2⟩
    refine ⟨s, ?_, i1, i2⟩
    show fX6_plan_L32 K r (nI 8) s = _
    unfold fX6_plan_L32
    rw [if_neg (by decide)]
theorem z_had {N n : Nat} {T : St} (hN : 1000 ≤ N) : ∃ T4, itN (fun _ _ => none) (fX6_plan_L324 (nI n)) N 0 T = some (nI n, T4) ∧ (∀ c, c ≠ 6 → T4.1 c = T.1 c) ∧ (∀ j, j < 40 → T4.1 6 j = T.1 5 j) := by
  refine it_for (σ := St) (F := fX6_plan_L324 (nI n)) (fun j s (r : Int32 → St → Option (Int32 × St)) => r (nI j) s) 40 (fun j s => (∀ c, c ≠ 6 → s.1 c = T.1 c) ∧ (∀ k, k < j → s.1 6 k = T.1 5 k)) (fun o => ∃ T4, o = some (nI n, T4) ∧ (∀ c, c ≠ 6 → T4.1 c = T.1 c) ∧ (∀ j, j < 40 → T4.1 6 j = T.1 5 j)) ?_ ?_ N 0 T (by omega) (by omega) ⟨fun _ _ => rfl, fun k hk => absurd hk (by omega)⟩
  · rintro j s r hj ⟨i1, i2⟩
    refine Or.inr ⟨wr s 6 j (T.1 5 j), ⟨fun c hc => by rw [z_wr_row hc]; exact i1 c hc, fun k hk => ?_⟩, ?_⟩
    · by_cases e : k = j
      · rw [e, z_wr_eq]
      · rw [z_wr_oth e]; exact i2 k (by omega)
    · show fX6_plan_L324 (nI n) r (nI j) s = _
      unfold fX6_plan_L324
      have h8 : nI j < 40 := (nI_ltI (b := 40) (by omega) (by omega)).mpr hj
      rw [if_pos h8, z_ldI hj (by omega), z_stI hj (by omega), i1 5 (by omega)]
      simp only [nmI, nI_1]
  · rintro s r ⟨i1, i2⟩
    refine ⟨s, ?_, i1, i2⟩
    show fX6_plan_L324 (nI n) r (nI 40) s = _
    unfold fX6_plan_L324
    rw [if_neg (by decide)]
theorem op_plan {N : Nat} (hN : 90000 ≤ N) {S T : St} (hR : math_R S T) : ∃ (r : Int32) (S2 T2 : St), fX5_plan N S = some (r, S2) ∧ fX6_plan N T = some (r, T2) ∧ math_R S2 T2 := by
  have hrej := R_thrown 0 hR
  obtain ⟨hK, hH, hA, hW, hP⟩ := id hR
  unfold fX5_plan fX6_plan
  simp only [pfI]
  have e18 : (wr T 0 28 0).1 0 18 = T.1 0 18 := rfl
  have e8 : (wr T 0 28 0).1 0 8 = T.1 0 8 := rfl
  have s8 : S.1 12 0 = T.1 0 8 := hW.1 0 (by omega)
  rw [e18, e8, s8, hP.2.1]
  by_cases hb : ¬ T.1 0 18 = 0
  · rw [if_neg hb, if_neg hb]
    by_cases h8 : T.1 0 8 = 0
    · rw [if_pos h8]; exact ⟨_, _, _, rfl, rfl, hrej⟩
    · rw [if_neg h8]; exact ⟨_, _, _, rfl, rfl, hrej⟩
  replace hb := Classical.not_not.mp hb
  rw [if_pos hb, if_pos hb]
  by_cases h8 : T.1 0 8 = 0
  · rw [if_pos h8, if_pos h8]; exact ⟨_, _, _, rfl, rfl, hrej⟩
  rw [if_neg h8, if_neg h8, z_noPlan, caV_some]
  obtain ⟨w8, wx, wy', wL, wC, wd, wb, wB, wM⟩ := hW.2.resolve_left h8
  obtain ⟨L, hL1, hL2, eL⟩ := wL
  obtain ⟨NC, hC1, hC2, eC⟩ := wC
  obtain ⟨B, -, hB2, eB⟩ := wB
  obtain ⟨M, -, hM2, eM⟩ := wM
  obtain ⟨nk, -, hnk, enk⟩ := hK.2.1
  obtain ⟨nh, -, hnh, enh⟩ := hH.2.1
  have entk : nt (T.1 0 0) = nk := by rw [enk, nt_nI (by omega)]
  have enth : nt (T.1 0 3) = nh := by rw [enh, nt_nI (by omega)]
  obtain ⟨TB, hTB⟩ : ∃ TB, TB = npl (wr T 0 28 0) := ⟨_, rfl⟩
  rw [← hTB]
  have tb0 : ∀ j, j ≠ 17 → j ≠ 19 → j ≠ 28 → TB.1 0 j = T.1 0 j := fun j h1 h2 h3 => by rw [hTB, npl_0 h1 h2, z_wr_oth h3]
  have tbc : ∀ c, c ≠ 0 → TB.1 c = T.1 c := fun c hc => by rw [hTB, npl_ne hc, z_wr_row hc]
  obtain ⟨g, hg⟩ : ∃ g : Nat → Nat → Nat, g = fun h k => nt (T.1 5 (8 * h + k)) := ⟨_, rfl⟩
  have hgk : ∀ h k, h < 5 → k < 8 → T.1 5 (8 * h + k) = nI (g h k) ∧ g h k ≤ 60 := by
    intro h k hh hk
    obtain ⟨q1, q2, q3⟩ := rg_nt (hA.2 (8 * h + k) (by omega)) (by omega)
    rw [hg]
    exact ⟨q1, q3⟩
  have ha : ∀ h k, h < 5 → k < 8 → S.1 (7 + h) k = nI (g h k) := fun h k hh hk => by rw [hA.1 h k hh hk]; exact (hgk h k hh hk).1
  obtain ⟨len, hlen⟩ : ∃ len : Nat → Nat, len = fun k => nt (T.1 1 k) := ⟨_, rfl⟩
  obtain ⟨dep, hdep⟩ : ∃ dep : Nat → Nat, dep = fun k => nt (T.1 2 k) := ⟨_, rfl⟩
  have hl : ∀ k, k < nk → T.1 1 k = nI (len k) ∧ 1 ≤ len k ∧ len k ≤ 6 := fun k hk => by
    have := rg_nt (hK.2.2.2.2.1 k (by omega)) (by omega)
    rw [hlen]; exact this
  have hd : ∀ k, k < nk → T.1 2 k = nI (dep k) ∧ dep k ≤ 4 := fun k hk => by
    obtain ⟨q1, q2, q3⟩ := rg_nt (hK.2.2.2.2.2 k (by omega)) (by omega)
    rw [hdep]; exact ⟨q1, q3⟩
  obtain ⟨tot, htot⟩ : ∃ tot : Nat → Nat, tot = fun k => sm (fun h => g h k) nh := ⟨_, rfl⟩
  have hKB : KB (fgt S) L NC nk len dep := by
    refine ⟨by rw [fgt_ne (by omega), hK.1]; exact enk, hnk, fun k hk => ?_, fun k hk => ?_, by rw [fgt_ne (by omega), hW.1 3 (by omega)]; exact eL, hL1, hL2, by rw [fgt_ne (by omega), hW.1 4 (by omega)]; exact eC, hC2⟩
    · rw [fgt_ne (by omega), hK.2.2.1 k (by omega)]; exact hl k hk
    · rw [fgt_ne (by omega), hK.2.2.2.1 k (by omega)]; exact hd k hk
  have hTBo : TBok N TB L NC nk B M len dep tot := by
    refine ⟨by rw [tb0 0 (by omega) (by omega) (by omega)]; exact enk, hnk, fun k hk => by rw [tbc 1 (by omega)]; exact hl k hk, fun k hk => by rw [tbc 2 (by omega)]; exact hd k hk, by rw [tb0 11 (by omega) (by omega) (by omega)]; exact eL, hL1, hL2, by rw [tb0 12 (by omega) (by omega) (by omega)]; exact eC, hC2, by rw [tb0 15 (by omega) (by omega) (by omega)]; exact eB, hB2, by rw [tb0 16 (by omega) (by omega) (by omega)]; exact eM, hM2, fun k hk => ⟨?_, ?_⟩⟩
    · rw [inHeaps_eq (tb0 3 (by omega) (by omega) (by omega)) (tbc 5 (by omega)), z_inHeaps6 (by omega) hR (by omega), enth, sI_sm (g := fun h => g h k) (fun h hh => (hgk h k (by omega) (by omega)).1), htot]
    · rw [htot]
      have := sm_60 (g := fun h => g h k) (n := nh) (fun h hh => (hgk h k (by omega) (by omega)).2)
      show sm (fun h => g h k) nh ≤ 300
      omega
  have w5 : (fgt S).1 12 5 = TB.1 0 13 := by rw [fgt_ne (by omega), hW.1 5 (by omega), tb0 13 (by omega) (by omega) (by omega)]
  have w6 : (fgt S).1 12 6 = TB.1 0 14 := by rw [fgt_ne (by omega), hW.1 6 (by omega), tb0 14 (by omega) (by omega) (by omega)]
  have w7 : (fgt S).1 12 7 = nI B := by rw [fgt_ne (by omega), hW.1 7 (by omega)]; exact eB
  have w8' : (fgt S).1 12 8 = nI M := by rw [fgt_ne (by omega), hW.1 8 (by omega)]; exact eM
  obtain ⟨S1, eS1, hS1⟩ := z_begin (N := N) (L := L) (len := len) (tot := tot) (kf := fun _ => 0) (g := g) (by omega) (by rw [hK.1]; exact enk) hnk (by rw [hH.1]; exact enh) hnh ha (fun k _ => by rw [htot])
  have hV0 : PV L NC nk len tot (fun _ => 0) 0 := ⟨fun i hi => absurd hi (by omega), fun k _ => Nat.zero_le _⟩
  obtain ⟨x, ex, hx⟩ := z_nextToTry (N := N) (T := TB) (f := 0) (c := 0) (p := 0) (by omega) hKB w5 w6 hV0 (fun k hk => (hTBo.2.2.2.2.2.2.2.2.2.2.2.2.2 k hk).2) rfl rfl (by omega) (by omega) (by omega) hS1
  rw [nI_0] at ex
  unfold fX2_firstWhole
  rw [eS1, caV_some, ex, caP_some]
  obtain ⟨T4, eT4, u1, u2⟩ := z_used (N := N) (T := wr TB 0 26 0) (K := fun (S8 : St) =>
          stI S8 14 150 0 0 fun S9 =>
          itN (fun _ _ _ _ => none) (fX6_plan_L64 N (fun (x16 : Int32) (S17 : St) =>
              if x16 < 0 then
                some (0, S17)
              else
                pfI S17 0 17 1 fun S18 =>
                pfI S18 0 19 x16 fun S19 =>
                itN (fun _ _ => none) (fX6_plan_L324 x16) N 0 S19)) N 0 0 0 S9) (by omega)
  simp only [pfI] at eT4
  rw [eT4]
  have z150 : ∀ K : St → Option (Int32 × St), stI T4 14 150 0 0 K = K (wr T4 14 0 0) := fun K => z_stI (j := 0) (by omega) (by omega)
  rw [z150]
  have hRS : RS TB L len 0 0 (fun _ => 0) (wr T4 14 0 0) := by
    refine ⟨fun c c0 c7 c8 c9 c13 c14 => by rw [z_wr_row c14, u1 c c13, z_wr_row c0], fun j hj => by rw [z_wr_ne (by omega), u1 0 (by omega), z_wr_oth hj], fun i hi => absurd hi (by omega), by rw [z_wr_ne (by omega), u1 0 (by omega), z_wr_eq]; rfl, fun k hk => by rw [z_wr_ne (by omega), u2 k hk]; rfl⟩
  have hL := lk_all (N := N) (K15 := fun (x16 : Int32) (S17 : St) =>
              if x16 < 0 then
                some (0, S17)
              else
                itN (fun _ _ => none) (fX6_plan_L324 x16) N 0 (wr (wr S17 0 17 1) 0 19 x16)) (by omega) hKB hTBo w5 w6 w7 w8' 40000 0 0 0 (fun _ => 0) S1 (wr T4 14 0 0) x N N (by omega) (by omega) (by omega) (by omega) (by omega) (by omega) hV0 (show 0 < NC by omega) (show 0 < L by omega) hS1 hRS (by rw [z_wr_eq]; rfl) hx
  have hst : (nI (2 * 0 - 0) : Int32) = 0 := rfl
  have hp1 : nI (pk L len (fun _ => 0) 0).1 = 0 := rfl
  have hp2 : nI (pk L len (fun _ => 0) 0).2 = 0 := rfl
  rw [hst, hp1, hp2] at hL
  obtain ⟨r, S', T', lk, eC', ⟨fS1, fS2⟩, ⟨fT1, fT2⟩, l1, l2, hcase⟩ := hL
  rw [eC', caS_some]
  have hK' : ∀ S2 T2 : St, (∀ c, c < 12 → S2.1 c = S.1 c) → (∀ c, c ≠ 0 → c < 6 → T2.1 c = T.1 c) → (∀ j, j < 17 → T2.1 0 j = T.1 0 j) → S2.1 12 = S.1 12 → RK S2 T2 ∧ RH S2 T2 ∧ RA S2 T2 ∧ RW S2 T2 := by
    intro S2 T2 a1 a2 a3 a4
    refine ⟨RK_eq (by rw [a1 1 (by omega)]) (a1 2 (by omega)) (a1 3 (by omega)) (a3 0 (by omega)) (a2 1 (by omega) (by omega)) (a2 2 (by omega) (by omega)) hK, RH_eq (by rw [a1 1 (by omega)]) (a1 4 (by omega)) (a1 5 (by omega)) (a3 3 (by omega)) (a2 3 (by omega) (by omega)) (a2 4 (by omega) (by omega)) hH, RA_eq (fun h hh => a1 _ (by omega)) (a2 5 (by omega) (by omega)) hA, RW_eq a4 (fun j hj => a3 _ (by omega)) hW⟩
  have sS : ∀ c, c < 12 → S'.1 c = S.1 c := fun c hc => by rw [fS1 c (by omega) (by omega) (by omega) (by omega) (by omega) (by omega) (by omega), fgt_ne (by omega)]
  have sS12 : S'.1 12 = S.1 12 := by rw [fS1 12 (by omega) (by omega) (by omega) (by omega) (by omega) (by omega) (by omega), fgt_ne (by omega)]
  have sT : ∀ c, c ≠ 0 → c < 7 → T'.1 c = T.1 c := fun c hc h => by rw [fT1 c hc (by omega) (by omega) (by omega) (by omega) (by omega), tbc c hc]
  have sT0 : ∀ j, j < 17 ∨ j = 18 → T'.1 0 j = T.1 0 j := fun j hj => by rw [fT2 j (by omega), tb0 j (by omega) (by omega) (by omega)]
  have t17 : T'.1 0 17 = 0 := by rw [fT2 17 (by omega), hTB]; rfl
  have t19 : T'.1 0 19 = 0 := by rw [fT2 19 (by omega), hTB]; rfl
  have hempty : math_R (fgt S') T' := by
    obtain ⟨q1, q2, q3, q4⟩ := hK' (fgt S') T' (fun c hc => by rw [fgt_ne (by omega)]; exact sS c hc) (fun c hc h => sT c hc (by omega)) (fun j hj => sT0 j (Or.inl hj)) (by rw [fgt_ne (by omega)]; exact sS12)
    exact ⟨q1, q2, q3, q4, RP_none rfl rfl rfl (by rw [fgt_ne (by omega), l1, l2]) t17 (by rw [sT0 18 (Or.inr rfl)]; exact hb) t19⟩
  rcases hcase with ⟨rfl, er⟩ | ⟨rfl, er⟩ | ⟨n, kf, n0, n144, rfl, er, hV, hpn, s9, hcl, hrf⟩
  · rw [er.trans (if_pos (show (-1 : Int32) < 0 by decide)), if_pos (by decide), z_forget, caV_some]
    exact ⟨_, _, _, rfl, rfl, hempty⟩
  · rw [er, if_pos (by decide), z_forget, caV_some]
    exact ⟨_, _, _, rfl, rfl, hempty⟩
  · have hnle : ¬ nI n ≤ 0 := by rw [z_le0 (by omega)]; omega
    obtain ⟨S3, eS3, v1, v2⟩ := z_remember (N := N) (S := S') (nh := nh) (by omega) (by rw [sS 1 (by omega), hH.1]; exact enh) hnh
    obtain ⟨T5, eT5, x1, x2⟩ := z_had (N := N) (n := n) (T := wr (wr T' 0 17 1) 0 19 (nI n)) (by omega)
    rw [er.trans (if_neg (nI_pos (show n < 2 ^ 31 by omega))), if_neg hnle, eS3, caV_some, eT5]
    refine ⟨_, _, _, rfl, rfl, ?_⟩
    have y0 : ∀ j, j ≠ 17 → j ≠ 19 → T5.1 0 j = T'.1 0 j := fun j h1 h2 => by rw [x1 0 (by omega), z_wr_oth h2, z_wr_oth h1]
    have y17 : T5.1 0 17 = 1 := by rw [x1 0 (by omega), z_wr_oth (by omega), z_wr_eq]
    have y19 : T5.1 0 19 = nI n := by rw [x1 0 (by omega), z_wr_eq]
    have yc : ∀ c, c ≠ 0 → c ≠ 6 → T5.1 c = T'.1 c := fun c h1 h2 => by rw [x1 c h2, z_wr_row h1, z_wr_row h1]
    have y6 : ∀ j, j < 40 → T5.1 6 j = T.1 5 j := fun j hj => by rw [x2 j hj, z_wr_ne (by omega), z_wr_ne (by omega), sT 5 (by omega) (by omega)]
    obtain ⟨q1, q2, q3, q4⟩ := hK' S3 T5 (fun c hc => by rw [v1 c (by omega)]; exact sS c hc) (fun c hc h => by rw [yc c hc (by omega)]; exact sT c hc (by omega)) (fun j hj => by rw [y0 j (by omega) (by omega)]; exact sT0 j (Or.inl hj)) (by rw [v1 12 (by omega)]; exact sS12)
    have ynt : nt (T5.1 0 19) = n := by rw [y19, nt_nI (by omega)]
    have z0 : T5.1 0 0 = nI nk := by rw [y0 0 (by omega) (by omega), sT0 0 (by omega)]; exact enk
    have z3 : T5.1 0 3 = nI nh := by rw [y0 3 (by omega) (by omega), sT0 3 (by omega)]; exact enh
    have z11 : T5.1 0 11 = nI L := by rw [y0 11 (by omega) (by omega), sT0 11 (by omega)]; exact eL
    have z12 : T5.1 0 12 = nI NC := by rw [y0 12 (by omega) (by omega), sT0 12 (by omega)]; exact eC
    have z18 : T5.1 0 18 = 0 := by rw [y0 18 (by omega) (by omega), sT0 18 (by omega)]; exact hb
    have hkd : ∀ i, i < n → kd T5 i = kf i := fun i hi => by
      unfold kd
      have := (hV.1 i hi).1
      rw [yc 7 (by omega) (by omega), (hrf i hi).1, nt_nI (by omega)]
    have hln : ∀ i, i < n → ln T5 i = len (kf i) := fun i hi => by
      unfold ln
      rw [hkd i hi, yc 1 (by omega) (by omega), sT 1 (by omega) (by omega), hlen]
    have hpos : ∀ i, i ≤ n → pos L (ln T5) i = pk L len kf i := fun i hi => pos_congr (fun j hj => hln j (by omega))
    refine ⟨q1, q2, q3, q4, ?_⟩
    unfold RP
    rw [ynt, z18, y17, if_neg (show ¬ n = 0 by omega), if_pos (show (0 : Int32) = 0 from rfl)]
    refine ⟨by rw [v1 13 (by omega), y19]; exact s9, by rw [v1 13 (by omega), fS2 10 (by omega)]; rfl, by rw [v1 21 (by omega), l1, y0 26 (by omega) (by omega), l2], by rw [v1 13 (by omega), fS2 11 (by omega)]; rfl, by rw [y19]; exact ⟨n, by omega, n144, rfl⟩, rfl, Or.inl rfl, fun _ => ⟨?_, ?_, ?_, ?_⟩, fun h => absurd h (by decide)⟩
    · unfold PL
      rw [z0, z3, z11, z12, nt_nI (show nk < 2 ^ 31 by omega), nt_nI (show nh < 2 ^ 31 by omega), nt_nI (show L < 2 ^ 31 by omega), nt_nI (show NC < 2 ^ 31 by omega)]
      refine ⟨fun i hi => ?_, fun i hi => ?_, by rw [hpos n (Nat.le_refl _)]; exact hpn, fun j hj => by rw [y6 j hj]; exact hA.2 j hj, fun k hk => ?_, by rw [y0 8 (by omega) (by omega), sT0 8 (by omega)]; exact w8⟩
      · have h1 := (hV.1 i hi).1
        rw [hkd i hi, yc 7 (by omega) (by omega), (hrf i hi).1]
        exact ⟨⟨kf i, by omega, by omega, rfl⟩, h1⟩
      · obtain ⟨h1, h2, h3⟩ := hV.1 i hi
        rw [hpos i (by omega), hln i hi, yc 8 (by omega) (by omega), yc 9 (by omega) (by omega)]
        exact ⟨(hrf i hi).2.1, (hrf i hi).2.2, h2, h3⟩
      · rw [cnt_congr (g := kf) hkd]
        have h1 := hV.2 k hk
        rw [htot] at h1
        have : sm (fun h => nt (T5.1 6 (8 * h + k))) nh = sm (fun h => g h k) nh := sm_eq (fun h hh => by
          show nt (T5.1 6 (8 * h + k)) = g h k
          rw [y6 _ (by omega), hg])
        rw [this]
        exact h1
    · intro i hi
      obtain ⟨h1, h2, h3⟩ := hcl i hi
      obtain ⟨h4, h5, h6⟩ := hrf i hi
      rw [v1 14 (by omega), v1 15 (by omega), v1 16 (by omega), yc 7 (by omega) (by omega), yc 8 (by omega) (by omega), yc 9 (by omega) (by omega), h1, h2, h3, h4, h5, h6]
      exact ⟨rfl, rfl, rfl⟩
    · intro h k hh hk
      rw [z3, nt_nI (by omega)] at hh
      rw [v2 h k hh hk, sS _ (by omega), hA.1 h k (by omega) hk, y6 _ (by omega)]
    · intro _ j hj
      rw [y6 j hj, yc 5 (by omega) (by omega), sT 5 (by omega) (by omega)]
