/-! least and saved -/
theorem cnt_scc {kf : Nat → Nat} {k n : Nat} : cnt kf k (n + 1) = cnt kf k n + (if kf n = k then 1 else 0) := rfl
theorem sj_cnt (kf : Nat → Nat) (k : Nat) : ∀ n, sj (fun j => decide (kf j = k)) (fun _ => 1) n = (cnt kf k n : Int) := by
  intro n
  induction n with
  | zero => rfl
  | succ n ih =>
    rw [sj_succ, ih, cnt_scc]
    by_cases e : kf n = k
    · rw [if_pos (decide_eq_true e), if_pos e]; omega
    · rw [if_neg (fun h => e (of_decide_eq_true h)), if_neg e]; omega
theorem sx_sm (g : Nat → Nat) : ∀ n, sx (fun x => (g x : Int)) n = (sm g n : Int) := by
  intro n
  induction n with
  | zero => rfl
  | succ n ih =>
    rw [sx_succ, ih]
    show _ = ((sm g n + g n : Nat) : Int)
    omega
theorem RP_fr {S T S2 T2 : St} (hnh : nt (T.1 0 3) ≤ 5) (hF : FC S S2) (hG : FR T T2) (h : RP S T) : RP S2 T2 := by
  have g : ∀ c, c < 15 → T2.1 c = T.1 c := fun c hc => hG c (by omega) (by omega) (by omega)
  unfold RP at h ⊢
  rw [hF 13 (by omega), hF 21 (by omega), hF 14 (by omega), hF 15 (by omega), hF 16 (by omega), hF 17 (by omega), hF 18 (by omega), hF 19 (by omega), g 0 (by omega), g 5 (by omega), g 6 (by omega), g 7 (by omega), g 8 (by omega), g 9 (by omega), g 10 (by omega), g 11 (by omega), g 12 (by omega)]
  obtain ⟨h1, h2, h3, h4, h5, h6, h7, h8, h9⟩ := h
  refine ⟨h1, h2, h3, h4, h5, h6, h7, fun hn => ?_, h9⟩
  obtain ⟨a, b, c, d⟩ := h8 hn
  exact ⟨PL_eq (g 1 (by omega)) (g 6 (by omega)) (g 7 (by omega)) (g 8 (by omega)) (g 9 (by omega)) (by rw [g 0 (by omega)]) (by rw [g 0 (by omega)]) (by rw [g 0 (by omega)]) (by rw [g 0 (by omega)]) (by rw [g 0 (by omega)]) a, b, fun x k hx hk => by rw [hF _ (by omega)]; exact c x k hx hk, d⟩
theorem R_fr {S T S2 T2 : St} (hF : FC S S2) (hG : FR T T2) (h : math_R S T) : math_R S2 T2 := by
  have g : ∀ c, c < 15 → T2.1 c = T.1 c := fun c hc => hG c (by omega) (by omega) (by omega)
  obtain ⟨hK, hH, hA, hW, hP⟩ := h
  have hnh : nt (T.1 0 3) ≤ 5 := (rg_nt hH.2.1 (by omega)).2.2
  exact ⟨RK_eq (by rw [hF 1 (by omega)]) (hF 2 (by omega)) (hF 3 (by omega)) (by rw [g 0 (by omega)]) (g 1 (by omega)) (g 2 (by omega)) hK, RH_eq (by rw [hF 1 (by omega)]) (hF 4 (by omega)) (hF 5 (by omega)) (by rw [g 0 (by omega)]) (g 3 (by omega)) (g 4 (by omega)) hH, RA_eq (fun h hh => hF _ (by omega)) (g 5 (by omega)) hA, RW_eq (hF 12 (by omega)) (fun j hj => by rw [g 0 (by omega)]) hW, RP_fr hnh hF hG hP⟩
/-- what a kind weighs -/
def wt (T : St) (k : Nat) : Int := ((nt (T.1 1 k) * nt (T.1 2 k) : Nat) : Int)
def wV (T : St) (x q : Nat) : Int := ((wy (T.1 3) (T.1 4) (T.1 0 9) (T.1 0 10) x q : Nat) : Int)
theorem ls_facts {S T : St} (hR : math_R S T) (hn0 : 0 < nt (T.1 0 19)) : ∃ L, Hy T (nt (T.1 0 3)) (nt (T.1 0 19)) (fun j x => wt T (kd T j) * wV T x (ps T j)) ∧ Hz S (nt (T.1 0 3)) (nt (T.1 0 19)) L (wV T) (ps T) := by
  obtain ⟨hK, hH, hA, hW, hP⟩ := id hR
  obtain ⟨n, hn, n19, n9, en, hPL⟩ := vn hR
  obtain ⟨nh, -, hnh, enh⟩ := hH.2.1
  have enth : nt (T.1 0 3) = nh := by rw [enh, nt_nI (by omega)]
  have hvw := fun i (hi : i < n) => vw hR (i := i) (by rw [en]; exact hi)
  obtain ⟨p1, p2, p3, p4, p5, p6⟩ := hPL (by omega)
  obtain ⟨w8, wx, wy', wL, wC, wd, wb, wB, wM⟩ := hW.2.resolve_left (by rw [p6]; decide)
  obtain ⟨L, hL1, hL2, eL⟩ := wL
  have entL : nt (T.1 0 11) = L := by rw [eL, nt_nI (by omega)]
  have hmX : ∀ x, x < 5 → mp (T.1 3 x) := hH.2.2.2.2.1
  have hmY : ∀ x, x < 5 → mp (T.1 4 x) := hH.2.2.2.2.2
  have hwy : ∀ x q, x < 5 → q ≤ 24 → wy (T.1 3) (T.1 4) (T.1 0 9) (T.1 0 10) x q ≤ 424 := fun x q hx hq => wy_le (hmX x hx) (hmY x hx) wx wy' hq
  rw [enth, en]
  refine ⟨L, ⟨hnh, hn, enh, fun j x hj hx => ?_, fun T2 hF j x hj hx => ?_⟩, ⟨hnh, hn, hL2, by rw [hH.1]; exact enh, by rw [hW.1 3 (by omega)]; exact eL, fun x q hx hq => ?_, fun S2 hF x q hx hq => ?_, fun j hj => ?_⟩⟩
  · obtain ⟨v1, v2, v3, v4, v5, v6, v7, v8, v9, v10, v11, v12, v13, v14, v15, v16, v17, v18, v19, v20⟩ := hvw j hj
    have h1 := hwy x (ps T j) (by omega) (by omega)
    have h2 : nt (T.1 1 (kd T j)) * nt (T.1 2 (kd T j)) * wy (T.1 3) (T.1 4) (T.1 0 9) (T.1 0 10) x (ps T j) ≤ 6 * 4 * 424 := Nat.mul_le_mul (Nat.mul_le_mul (by rw [v14, nt_nI (by omega)]; exact v16) (by rw [v18, nt_nI (by omega)]; exact v20)) h1
    show 0 ≤ wt T (kd T j) * wV T x (ps T j) ∧ wt T (kd T j) * wV T x (ps T j) ≤ 20000
    have e : wt T (kd T j) * wV T x (ps T j) = ((nt (T.1 1 (kd T j)) * nt (T.1 2 (kd T j)) * wy (T.1 3) (T.1 4) (T.1 0 9) (T.1 0 10) x (ps T j) : Nat) : Int) := by
      unfold wt wV
      exact (Int.natCast_mul _ _).symm
    rw [e]
    omega
  · obtain ⟨v1, v2, v3, v4, v5, v6, v7, v8, v9, v10, v11, v12, v13, v14, v15, v16, v17, v18, v19, v20⟩ := hvw j hj
    have g : ∀ c, c < 15 → T2.1 c = T.1 c := fun c hc => hF c (by omega) (by omega) (by omega)
    rw [z_toil (k := kd T j) (l := ln T j) (d := dp T j) (p := ps T j) (by omega) (by omega) (by rw [g 7 (by omega)]; exact v1) v3 (by rw [g 1 (by omega)]; exact v14) (by rw [g 2 (by omega)]; exact v18) v16 v20 (by rw [g 9 (by omega)]; exact v7) (by omega) (by rw [g 3 (by omega)]; exact hmX x (by omega)) (by rw [g 4 (by omega)]; exact hmY x (by omega)) (by rw [g 0 (by omega)]; exact wx) (by rw [g 0 (by omega)]; exact wy'), g 3 (by omega), g 4 (by omega), g 0 (by omega), lV_lN]
    have e : wt T (kd T j) * wV T x (ps T j) = ((ln T j * dp T j * wy (T.1 3) (T.1 4) (T.1 0 9) (T.1 0 10) x (ps T j) : Nat) : Int) := by
      unfold wt wV
      rw [v14, v18, nt_nI (by omega), nt_nI (by omega)]
      exact (Int.natCast_mul _ _).symm
    show _ = some (lV (wt T (kd T j) * wV T x (ps T j)))
    rw [e]
  · have h1 := hwy x q (by omega) (by omega)
    unfold wV
    omega
  · rw [z_way (by omega) (by omega) (by rw [hF 4 (by omega), hH.2.2.1 x (by omega)]; exact hmX x (by omega)) (by rw [hF 5 (by omega), hH.2.2.2.1 x (by omega)]; exact hmY x (by omega)) (by rw [hF 12 (by omega), hW.1 1 (by omega)]; exact wx) (by rw [hF 12 (by omega), hW.1 2 (by omega)]; exact wy'), iV_nI]
    unfold wV
    rw [wy_eq (X2 := T.1 3) (Y2 := T.1 4) (x2 := T.1 0 9) (y2 := T.1 0 10) (by rw [hF 4 (by omega)]; exact hH.2.2.1 x (by omega)) (by rw [hF 5 (by omega)]; exact hH.2.2.2.1 x (by omega)) (by rw [hF 12 (by omega)]; exact hW.1 1 (by omega)) (by rw [hF 12 (by omega)]; exact hW.1 2 (by omega))]
  · obtain ⟨v1, v2, v3, v4, v5, v6, v7, v8, v9, v10, v11, v12, v13, v14, v15, v16, v17, v18, v19, v20⟩ := hvw j hj
    rw [entL] at v11
    omega
/-- both have the same least -/
theorem ls_kind {N : Nat} (hN : 1000 ≤ N) {S T : St} (hR : math_R S T) (hn0 : 0 < nt (T.1 0 19)) {k bN cN : Nat} {b : Int32} (hk : k < nt (T.1 0 0)) (hb : bN ≤ 1) (hc : cN < 5) (hbx : ∀ x, x < nt (T.1 0 3) → (nI x = b ↔ (x = cN ∧ bN = 1))) : ∃ v : Int, (∀ S1, FC S S1 → ∃ S2, fX0_leastWays N (nI k) b S1 = some (lV v, S2) ∧ FC S S2) ∧ (∀ T1, FR T T1 → ∃ T2, fX6_leastOf N (nI k) (nI bN) (nI cN) T1 = some (lV (wt T k * v), T2) ∧ FR T T2) := by
  obtain ⟨L, hy, hz⟩ := ls_facts hR hn0
  obtain ⟨hK, hH, hA, hW, hP⟩ := id hR
  obtain ⟨n, hn, n19, n9, en, hPL⟩ := vn hR
  have hnk : nt (T.1 0 0) ≤ 8 := (rg_nt hK.2.1 (by omega)).2.2
  have hnh := hz.1
  have hvw := fun i (hi : i < n) => vw hR (i := i) (by rw [en]; exact hi)
  obtain ⟨p1, p2, p3, p4, p5, p6⟩ := hPL (by omega)
  rw [en] at hy hz
  obtain ⟨-, -, h26, -⟩ := hP.2.2.2.2.2.2.2.1 hn0
  obtain ⟨hd, hhd⟩ : ∃ hd : Nat → Nat, hd = fun x => nt (T.1 6 (8 * x + k)) := ⟨_, rfl⟩
  have h6 : ∀ x, x < nt (T.1 0 3) → T.1 6 (8 * x + k) = nI (hd x) ∧ hd x ≤ 60 := fun x hx => by
    obtain ⟨q1, q2, q3⟩ := rg_nt (p4 (8 * x + k) (by omega)) (by omega)
    rw [hhd]; exact ⟨q1, q3⟩
  have htot : sj (fun j => decide (kd T j = k)) (fun _ => 1) n ≤ sx (fun x => (hd x : Int) + (if x = cN then (bN : Int) else 0)) (nt (T.1 0 3)) := by
    have h1 := p5 k hk
    have h2 : sx (fun x => (hd x : Int)) (nt (T.1 0 3)) ≤ sx (fun x => (hd x : Int) + (if x = cN then (bN : Int) else 0)) (nt (T.1 0 3)) := sx_le (fun x _ => by
      show (hd x : Int) ≤ (hd x : Int) + (if x = cN then (bN : Int) else 0)
      by_cases e : x = cN
      · rw [if_pos e]; omega
      · rw [if_neg e]; omega)
    rw [sx_sm, hhd] at h2
    rw [sj_cnt, hhd]
    omega
  have hcl := fun S1 (hF : FC S S1) => z_leastC (k := k) (bN := bN) (cN := cN) (b := b) (kf := kd T) (hd := hd) hN hz hF (by omega) hb hbx n9 (fun j hj => ⟨(hvw j hj).2.2.2.1, (hvw j hj).2.2.1⟩) (fun j hj => (hvw j hj).2.2.2.2.2.2.2.1) (fun x hx => by rw [h26 x k hx (by omega)]; exact h6 x hx) htot
  have hrf := fun T1 (hF : FR T T1) => z_leastR (k := k) (bN := bN) (cN := cN) (kf := kd T) (hd := hd) hN hy hF (by omega) hb hc n19 (fun j hj => ⟨(hvw j hj).1, (hvw j hj).2.2.1⟩) h6 htot
  obtain ⟨tk, P, S9, e9, hI9⟩ := hcl S (fun _ _ => rfl)
  refine ⟨sj (fun j => decide (kd T j = k)) (fun j => wV T (tk j) (ps T j)) n, fun S1 hF => ?_, fun T1 hF => ?_⟩
  · obtain ⟨tk2, P2, S2, e2, hI2⟩ := hcl S1 hF
    refine ⟨S2, ?_, hI2.1⟩
    have := Opt_eq (W1 := fun j x => wV T x (ps T j)) (W2 := fun j x => wV T x (ps T j)) 1 (by omega) (fun j x _ _ _ => (Int.one_mul _).symm) hI2.2.2.2 hI9.2.2.2
    rw [e2]
    rw [this, Int.one_mul]
  · obtain ⟨tk2, P2, T2, e2, hI2⟩ := hrf T1 hF
    refine ⟨T2, ?_, hI2.1⟩
    have := Opt_eq (W1 := fun j x => wt T (kd T j) * wV T x (ps T j)) (W2 := fun j x => wV T x (ps T j)) (wt T k) (by unfold wt; omega) (fun j x _ ha _ => by
      have := of_decide_eq_true ha
      show wt T (kd T j) * wV T x (ps T j) = wt T k * wV T x (ps T j)
      rw [this]) hI2.2.2.2 hI9.2.2.2
    rw [e2]
    rw [this]
theorem z_wght {S T S1 : St} (hR : math_R S T) (hF : FC S S1) {k : Nat} (hk : k < nt (T.1 0 0)) : fX0_weight (nI k) S1 = some (lV (wt T k)) := by
  obtain ⟨hK, hH, hA, hW, hP⟩ := hR
  have hnk : nt (T.1 0 0) ≤ 8 := (rg_nt hK.2.1 (by omega)).2.2
  obtain ⟨a1, a2, a3⟩ := rg_nt (hK.2.2.2.2.1 k hk) (by omega)
  obtain ⟨b1, b2, b3⟩ := rg_nt (hK.2.2.2.2.2 k hk) (by omega)
  unfold fX0_weight wt
  rw [hF 2 (by omega), hF 3 (by omega), z_ldI (show k < 8 by omega) (by omega), z_ldI (show k < 8 by omega) (by omega), hK.2.2.1 k (by omega), hK.2.2.2.1 k (by omega)]
  have e1 : (T.1 1 k).toInt64 = lN (nt (T.1 1 k)) := by
    have := nI_l (n := nt (T.1 1 k)) (by omega)
    rw [← a1] at this
    exact this
  have e2 : (T.1 2 k).toInt64 = lN (nt (T.1 2 k)) := by
    have := nI_l (n := nt (T.1 2 k)) (by omega)
    rw [← b1] at this
    exact this
  rw [e1, e2, lN_mul, lV_lN]
theorem op_least {N : Nat} (hN : 1000 ≤ N) {S T : St} (hR : math_R S T) : ∃ (r : Int64) (S2 T2 : St), fX5_least N S = some (r, S2) ∧ fX6_least N T = some (r, T2) ∧ math_R S2 T2 := by
  have hR1 := R_thrown 0 hR
  unfold fX5_least fX6_least
  simp only [pfI]
  obtain ⟨T1, hT1⟩ : ∃ T1, T1 = wr T 0 28 0 := ⟨_, rfl⟩
  rw [← hT1] at hR1 ⊢
  clear hT1 hR
  obtain ⟨hK, hH, hA, hW, hP⟩ := id hR1
  obtain ⟨n, hn, n19, n9, en, hPL⟩ := vn hR1
  have h17 := hP.2.2.2.2.2.1
  rw [en] at h17
  by_cases h0 : n = 0
  · rw [n9, h17, if_pos (by rw [h0]; exact nI_0), if_pos (by rw [if_pos h0])]
    exact ⟨_, _, _, rfl, rfl, hR1⟩
  · rw [n9, h17, if_neg (nI_ne0 (by omega) (by omega)), if_neg (show ¬ (if n = 0 then (0 : Int32) else 1) = 0 by rw [if_neg h0]; decide)]
    obtain ⟨nk, -, hnk, enk⟩ := hK.2.1
    have entk : nt (T1.1 0 0) = nk := by rw [enk, nt_nI (by omega)]
    have hv : ∀ k, ∃ v : Int, k < nk → (∀ S1, FC S S1 → ∃ S2, fX0_leastWays N (nI k) (-1) S1 = some (lV v, S2) ∧ FC S S2) ∧ (∀ T2, FR T1 T2 → ∃ T3, fX6_leastOf N (nI k) 0 0 T2 = some (lV (wt T1 k * v), T3) ∧ FR T1 T3) := by
      intro k
      by_cases hk : k < nk
      · obtain ⟨v, h⟩ := ls_kind (k := k) (bN := 0) (cN := 0) (b := -1) hN hR1 (by omega) (by omega) (by omega) (by omega) (fun x hx => ⟨fun h => absurd h (z_neg1 x (by
          have := (rg_nt hH.2.1 (by omega)).2.2
          omega)), fun h => absurd h.2 (by omega)⟩)
        rw [nI_0] at h
        exact ⟨v, fun _ => h⟩
      · exact ⟨0, fun h => absurd h hk⟩
    obtain ⟨v, hv⟩ := Classical.skolem.mp hv
    have c1 : ∃ S2, fX0_leastToil N S = some (lV (sx (fun k => wt T1 k * v k) nk), S2) ∧ FC S S2 := by
      unfold fX0_leastToil
      refine it_for (σ := Int64 × St) (F := fX0_leastToil_L4 N) (fun j s (r : Int64 → Int32 → St → Option (Int64 × St)) => r s.1 (nI j) s.2) nk (fun j s => FC S s.2 ∧ s.1 = lV (sx (fun k => wt T1 k * v k) j)) (fun o => ∃ S2, o = some (lV (sx (fun k => wt T1 k * v k) nk), S2) ∧ FC S S2) ?_ ?_ N 0 (0, S) (by omega) (by omega) ⟨fun _ _ => rfl, rfl⟩
      · rintro j ⟨a, s⟩ r hj ⟨i1, i2⟩
        dsimp only at i1 i2
        obtain ⟨S3, e3, f3⟩ := (hv j hj).1 s i1
        refine Or.inr ⟨(a + lV (wt T1 j) * lV (v j), S3), ⟨f3, ?_⟩, ?_⟩
        · show a + lV (wt T1 j) * lV (v j) = _
          rw [i2, lV_mul, lV_add, sx_succ]
        · show fX0_leastToil_L4 N r a (nI j) s = _
          have e5 : s.1 1 5 = nI nk := by rw [i1 1 (by omega), hK.1]; exact enk
          unfold fX0_leastToil_L4
          rw [e5, if_pos (nI_lt hj (by omega)), z_wght hR1 i1 (by omega), caP_some, e3, caS_some]
          simp only [nmI, nmL, nI_1]
      · rintro ⟨a, s⟩ r ⟨i1, i2⟩
        dsimp only at i1 i2
        refine ⟨s, ?_, i1⟩
        show fX0_leastToil_L4 N r a (nI nk) s = _
        have e5 : s.1 1 5 = nI nk := by rw [i1 1 (by omega), hK.1]; exact enk
        unfold fX0_leastToil_L4
        rw [e5, if_neg (Int32.lt_irrefl), i2]
    have c2 : ∃ T2, fX6_leastAll N T1 = some (lV (sx (fun k => wt T1 k * v k) nk), T2) ∧ FR T1 T2 := by
      unfold fX6_leastAll
      refine it_for (σ := Int64 × St) (F := fX6_leastAll_L4 N) (fun j s (r : Int64 → Int32 → St → Option (Int64 × St)) => r s.1 (nI j) s.2) nk (fun j s => FR T1 s.2 ∧ s.1 = lV (sx (fun k => wt T1 k * v k) j)) (fun o => ∃ S2, o = some (lV (sx (fun k => wt T1 k * v k) nk), S2) ∧ FR T1 S2) ?_ ?_ N 0 (0, T1) (by omega) (by omega) ⟨fun _ _ _ _ => rfl, rfl⟩
      · rintro j ⟨a, s⟩ r hj ⟨i1, i2⟩
        dsimp only at i1 i2
        obtain ⟨S3, e3, f3⟩ := (hv j hj).2 s i1
        refine Or.inr ⟨(a + lV (wt T1 j * v j), S3), ⟨f3, ?_⟩, ?_⟩
        · show a + lV (wt T1 j * v j) = _
          rw [i2, lV_add, sx_succ]
        · show fX6_leastAll_L4 N r a (nI j) s = _
          have e5 : s.1 0 0 = nI nk := by rw [i1 0 (by omega) (by omega) (by omega)]; exact enk
          unfold fX6_leastAll_L4
          rw [e5, if_pos (nI_lt hj (by omega)), e3, caS_some]
          simp only [nmI, nmL, nI_1]
      · rintro ⟨a, s⟩ r ⟨i1, i2⟩
        dsimp only at i1 i2
        refine ⟨s, ?_, i1⟩
        show fX6_leastAll_L4 N r a (nI nk) s = _
        have e5 : s.1 0 0 = nI nk := by rw [i1 0 (by omega) (by omega) (by omega)]; exact enk
        unfold fX6_leastAll_L4
        rw [e5, if_neg (Int32.lt_irrefl), i2]
    obtain ⟨S2, e1, f1⟩ := c1
    obtain ⟨T2, e2, f2⟩ := c2
    rw [e1, e2, caS_some, caS_some]
    exact ⟨_, _, _, rfl, rfl, R_fr f1 f2 hR1⟩
theorem op_saved {N : Nat} (hN : 1000 ≤ N) {S T : St} (hR : math_R S T) (a b : Int32) : ∃ (r : Int64) (S2 T2 : St), fX5_saved N a b S = some (r, S2) ∧ fX6_saved N a b T = some (r, T2) ∧ math_R S2 T2 := by
  have hR1 := R_thrown 0 hR
  unfold fX5_saved fX6_saved
  simp only [pfI, z_hasHeap, z_hasKind]
  obtain ⟨T1, hT1⟩ : ∃ T1, T1 = wr T 0 28 0 := ⟨_, rfl⟩
  rw [← hT1] at hR1 ⊢
  clear hT1 hR
  obtain ⟨hK, hH, hA, hW, hP⟩ := id hR1
  obtain ⟨n, hn, n19, n9, en, hPL⟩ := vn hR1
  obtain ⟨nh, -, hnh, enh⟩ := hH.2.1
  obtain ⟨nk, -, hnk, enk⟩ := hK.2.1
  have entk : nt (T1.1 0 0) = nk := by rw [enk, nt_nI (by omega)]
  have enth : nt (T1.1 0 3) = nh := by rw [enh, nt_nI (by omega)]
  have h17 := hP.2.2.2.2.2.1
  rw [en] at h17
  by_cases h0 : n = 0
  · rw [n9, h17, if_pos (by rw [h0]; exact nI_0), if_pos (by rw [if_pos h0])]
    exact ⟨_, _, _, rfl, rfl, hR1⟩
  rw [n9, h17, if_neg (nI_ne0 (by omega) (by omega)), if_neg (show ¬ (if n = 0 then (0 : Int32) else 1) = 0 by rw [if_neg h0]; decide), hH.1, hK.1]
  simp only [z_c0, z_c1, if_true, if_false]
  by_cases h1 : a < 0
  · simp only [if_pos h1]
    exact ⟨_, _, _, rfl, rfl, hR1⟩
  by_cases h2 : ¬ (a < T1.1 0 3)
  · simp only [if_neg h1, if_neg h2]
    exact ⟨_, _, _, rfl, rfl, hR1⟩
  replace h2 := Classical.not_not.mp h2
  simp only [if_neg h1, if_pos h2]
  by_cases h3 : b < 0
  · simp only [if_pos h3]
    exact ⟨_, _, _, rfl, rfl, hR1⟩
  by_cases h4 : ¬ (b < T1.1 0 0)
  · simp only [if_neg h3, if_neg h4]
    exact ⟨_, _, _, rfl, rfl, hR1⟩
  replace h4 := Classical.not_not.mp h4
  simp only [if_neg h3, if_pos h4]
  obtain ⟨x, hx, rfl⟩ := ix_of (by omega) enh h1 h2
  obtain ⟨k, hk, rfl⟩ := ix_of (by omega) enk h3 h4
  obtain ⟨v1, c1, r1⟩ := ls_kind (k := k) (bN := 0) (cN := 0) (b := -1) hN hR1 (by omega) (by omega) (by omega) (by omega) (fun x hx => ⟨fun h => absurd h (z_neg1 x (by omega)), fun h => absurd h.2 (by omega)⟩)
  obtain ⟨v2, c2, r2⟩ := ls_kind (k := k) (bN := 1) (cN := x) (b := nI x) hN hR1 (by omega) (by omega) (by omega) (by omega) (fun y hy => by
    rw [nI_eq (by omega) (by omega)]
    exact ⟨fun h => ⟨h, rfl⟩, fun h => h.1⟩)
  rw [nI_0] at r1
  obtain ⟨S3, e3, f3⟩ := c1 S (fun _ _ => rfl)
  obtain ⟨S5, e5, f5⟩ := c2 S3 f3
  obtain ⟨T3, e4, f4⟩ := r1 T1 (fun _ _ _ _ => rfl)
  obtain ⟨T5, e6, f6⟩ := r2 T3 f4
  unfold fX0_toilSaved
  have e7 : fX6_leastOf N (nI k) 1 (nI x) T3 = some (lV (wt T1 k * v2), T5) := e6
  rw [z_wght hR1 (fun _ _ => rfl) (by omega), caP_some, e3, caS_some, e5, caS_some, caS_some, e4, caS_some, e7, caS_some, lV_sub, lV_mul, lV_sub, Int.mul_sub]
  exact ⟨_, _, _, rfl, rfl, R_fr f5 f6 hR1⟩
