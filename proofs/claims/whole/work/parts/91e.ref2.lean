/-! the least toil: the reference, second half -/
/-- between stones -/
def RI (T0 : St) (nh ns : Nat) (act : Nat → Bool) (W : Nat → Nat → Int) (cap : Nat → Int) (i : Nat) (tk : Nat → Nat) (P : Nat → Int) (T : St) : Prop :=
  FR T0 T ∧ (∀ j, j < ns → T.1 15 j = if j < i ∧ act j = true then nI (tk j) else -1) ∧ (∀ x, x < nh → T.1 16 x = iV (cap x - nx act tk x i)) ∧ Opt nh act W cap i tk P
theorem nx_le (act : Nat → Bool) (tk : Nat → Nat) (x i : Nat) : nx act tk x i ≤ i := by
  induction i with
  | zero => exact Int.le_refl _
  | succ i ih =>
    rw [nx_succ]
    by_cases e : act i = true
    · rw [if_pos e]
      by_cases e2 : tk i = x
      · rw [if_pos e2]; omega
      · rw [if_neg e2]; omega
    · rw [if_neg e]; omega
theorem iV_le0 {v : Int} (h : sml v) : (iV v ≤ 0) = (v ≤ 0) := by
  have h1 := h.1
  have h2 := h.2
  rw [Int32.le_iff_toInt_le, iV_toInt (by omega) (by omega)]
  rfl
theorem iV_1 (v : Int) : iV v - 1 = iV (v - 1) := iV_sub v 1
theorem iV_p1 (v : Int) : iV v + 1 = iV (v + 1) := iV_add v 1
theorem eO_neg (b : Nat) (h : b < 2 ^ 31) : ¬ eO (some b) < 0 := nI_pos h
/-- the heap that gives -/
theorem add_171 {N nh : Nat} {T : St} {lf d : Nat → Int} {K : Int32 → Option (Int64 × St)} (hN : 1000 ≤ N) (hnh : nh ≤ 5) (e3 : T.1 0 3 = nI nh) (h16 : ∀ x, x < nh → T.1 16 x = iV (lf x)) (hlf : ∀ x, x < nh → sml (lf x)) (hd : ∀ x, x < nh → sml (d x)) (h2 : ∀ x, x < nh → T.2 x = lV (d x)) : itN (fun _ _ => none) (fX6_add_L171 T K) N (-1) 0 = K (eO (nst (fun x => decide (0 < lf x)) d nh)) := by
  refine it_nst (F := fX6_add_L171 T K) (by omega) ?_ ?_ ?_ ?_
  · intro j x r hj hA _
    have hA := of_decide_eq_false hA
    unfold fX6_add_L171
    rw [e3, if_pos (nI_lt hj (by omega)), z_ldI (show j < 5 by omega) (by omega), h16 j hj, if_pos (by rw [iV_le0 (hlf j hj)]; omega)]
    simp only [nmI, nI_1]
  · intro j r hj hA
    have hA := of_decide_eq_true hA
    unfold fX6_add_L171
    rw [e3, if_pos (nI_lt hj (by omega)), z_ldI (show j < 5 by omega) (by omega), h16 j hj, if_neg (by rw [iV_le0 (hlf j hj)]; omega), if_pos (by decide)]
    simp only [nmI, nI_1]
  · intro j b r hj hb hA
    have hA := of_decide_eq_true hA
    unfold fX6_add_L171
    rw [e3, if_pos (nI_lt hj (by omega)), z_ldI (show j < 5 by omega) (by omega), h16 j hj, if_neg (by rw [iV_le0 (hlf j hj)]; omega), if_neg (nI_pos (by omega)), z_ldL (show j < 5 by omega) (by omega), z_ldL (show b < 5 by omega) (by omega), h2 j hj, h2 b (by omega)]
    have hcmp : (lg_cmp (lV (d j)) (lV (d b)) < 0) = (d j < d b) := by rw [lc, lV_lt (hd j hj) (hd b (by omega))]
    simp only [nmI, nI_1]
    by_cases h : d j < d b
    · rw [if_pos (hcmp.mpr h), if_pos h]
    · rw [if_neg (fun h2 => h (hcmp.mp h2)), if_neg h]
  · intro x r
    unfold fX6_add_L171
    rw [e3, if_neg (Int32.lt_irrefl)]
theorem z_addR {N nh ns i : Nat} {T0 T : St} {act : Nat → Bool} {W : Nat → Nat → Int} {tk : Nat → Nat} {cap P : Nat → Int} {k : Int32} (hN : 1000 ≤ N) (hy : Hy T0 nh ns W) (hi : i < ns) (hai : act i = true) (hcap : ∀ x, x < nh → cap x ≤ 1000) (hroom : sj act (fun _ => 1) i < sx cap nh) (hI : RI T0 nh ns act W cap i tk P T) : ∃ D tk2 P2 T2, fX6_add N (nI i) k T = some (lV D, T2) ∧ RI T0 nh ns act W cap (i + 1) tk2 P2 T2 ∧ sj act (fun j => W j (tk2 j)) (i + 1) = sj act (fun j => W j (tk j)) i + D := by
  obtain ⟨y1, y2, y3, y4, y5⟩ := id hy
  obtain ⟨g1, g2, g3, hO⟩ := hI
  obtain ⟨x0, hx0, hx1⟩ := Opt_room hO hroom
  unfold fX6_add
  obtain ⟨T1, e1, hT1⟩ := add_init (N := N) (T := T) (K := fun (S5 : St) =>
      itN (fun _ _ => none) (fX6_add_L37 N (nI i) (fun (S10 : St) =>
          nmI (-1) fun x11 =>
          itN (fun _ _ => none) (fX6_add_L171 S10 (fun (x16 : Int32) =>
              ldI 5 (S10.1 16) x16 fun x17 =>
              stI S10 16 5 x16 (x17 - 1) fun S18 =>
              ldL 5 S18.2 x16 fun x19 =>
              itN (fun _ _ => none) (fX6_add_L247 (fun (x24 : Int32) (S25 : St) =>
                  stI S25 15 150 (nI i) x24 fun S26 =>
                  some (x19, S26))) N x16 S18)) N x11 0)) N 1 S5) hN hy hi g1
  rw [e1]
  obtain ⟨d, fr, R, T2, e2, hF, hbd, hT2⟩ := add_37 (N := N) (T := T1) (K := fun (S10 : St) =>
          nmI (-1) fun x11 =>
          itN (fun _ _ => none) (fX6_add_L171 S10 (fun (x16 : Int32) =>
              ldI 5 (S10.1 16) x16 fun x17 =>
              stI S10 16 5 x16 (x17 - 1) fun S18 =>
              ldL 5 S18.2 x16 fun x19 =>
              itN (fun _ _ => none) (fX6_add_L247 (fun (x24 : Int32) (S25 : St) =>
                  stI S25 15 150 (nI i) x24 fun S26 =>
                  some (x19, S26))) N x16 S18)) N x11 0) hN hy (by omega) hi hO g2 hT1
  rw [e2]
  simp only [nmI]
  obtain ⟨t1, t2, t3, t4, t5⟩ := hT2
  have hlf : ∀ x, x < nh → sml (cap x - nx act tk x i) := fun x hx => by
    have q1 := nx_pos act tk x i
    have q2 := hcap x hx
    have q3 := hO.2.2.1 x hx
    unfold sml
    omega
  rw [add_171 (lf := fun x => cap x - nx act tk x i) (d := d) hN y1 (by rw [t1 0 (by omega) (by omega) (by omega)]; exact y3) (fun x hx => by rw [t3]; exact g3 x hx) hlf (fun x hx => by have := hbd x hx; unfold sml; omega) t4]
  cases hq : nst (fun x => decide (0 < cap x - nx act tk x i)) d nh with
  | none =>
    exact absurd (decide_eq_true (show 0 < cap x0 - nx act tk x0 i by omega)) (nst_none hq x0 hx0)
  | some best =>
    obtain ⟨p1, p2, p3⟩ := nst_some hq
    have p2 := of_decide_eq_true p2
    have hbc : nx act tk best i < cap best := by omega
    have hmin : ∀ x, x < nh → nx act tk x i < cap x → d best ≤ d x := fun x hx hxc => p3 x hx (decide_eq_true (by omega))
    obtain ⟨T3, hT3⟩ : ∃ T3, T3 = wr T2 16 best (iV (cap best - nx act tk best i - 1)) := ⟨_, rfl⟩
    have l3 : T3.2 best = lV (d best) := by rw [hT3, z_wr2]; exact t4 best p1
    rw [eO_some, z_ldI (show best < 5 by omega) (by omega), t3, g3 best p1, iV_1, z_stI (show best < 5 by omega) (by omega), ← hT3, z_ldL (show best < 5 by omega) (by omega), l3]
    have hloop := it_run (z := fun _ _ => none) (σ := Nat × St) (F := fX6_add_L247 (fun (x24 : Int32) (S25 : St) =>
                  stI S25 15 150 (nI i) x24 fun S26 =>
                  some (lV (d best), S26))) (fun s (rr : Int32 → St → Option (Int64 × St)) => rr (nI s.1) s.2) (fun μ s => ∃ tk2, μ = R s.1 ∧ Wk nh i act W tk P d R best s.1 tk2 ∧ FR T0 s.2 ∧ (∀ j, j < ns → s.2.1 15 j = if j < i ∧ act j = true then nI (tk2 j) else -1) ∧ s.2.1 16 = T3.1 16 ∧ s.2.1 18 = T2.1 18) (fun o => ∃ tk2 P2 T4, o = some (lV (d best), T4) ∧ RI T0 nh ns act W cap (i + 1) tk2 P2 T4 ∧ sj act (fun j => W j (tk2 j)) (i + 1) = sj act (fun j => W j (tk j)) i + d best) (by
      rintro μ ⟨h, s⟩ rr ⟨tk2, hμ, hw, s1, s2, s3, s4⟩
      dsimp only at hμ hw s1 s2 s3 s4
      have hh := hw.1
      have e18 : s.1 18 h = eO (fr h) := by rw [s4]; exact t5 h hh
      cases hf : fr h with
      | none =>
        left
        obtain ⟨o1, o2, o3⟩ := Wk_end hO hF p1 hbc hmin hai hw hf
        refine ⟨_, _, wr s 15 i (nI h), ?_, ⟨fun c a b e => by rw [z_wr_row a]; exact s1 c a b e, fun j hj => ?_, fun x hx => ?_, o1⟩, o2⟩
        · show fX6_add_L247 _ rr (nI h) s = _
          unfold fX6_add_L247
          rw [z_ldI (show h < 5 by omega) (by omega), e18, hf, if_pos (by decide)]
          exact z_stI (show i < 150 by omega) (by omega)
        · by_cases e : j = i
          · rw [e, z_wr_eq, if_pos ⟨by omega, hai⟩, up1_eq]
          · rw [z_wr_oth e, s2 j hj]
            by_cases e2 : j < i ∧ act j = true
            · rw [if_pos e2, if_pos ⟨by omega, e2.2⟩, up1_ne e]
            · rw [if_neg e2, if_neg (fun h => e2 ⟨by omega, h.2⟩)]
        · rw [z_wr_ne (by omega), s3, o3 x hx, hT3]
          by_cases e : best = x
          · subst e
            rw [z_wr_eq, if_pos rfl]
            congr 1
            omega
          · rw [z_wr_oth (fun h => e h.symm), if_neg e, t3, g3 x hx, Int.add_zero]
      | some j =>
        right
        obtain ⟨e0, hw2⟩ := Wk_step hO hF hw hf
        obtain ⟨c1, c2, c3, c4⟩ := hF.2.2.1 h j hh hf
        refine ⟨R (tk j), (tk j, wr s 15 j (nI h)), by omega, ⟨up1 tk2 j h, rfl, hw2, fun c a b e => by rw [z_wr_row a]; exact s1 c a b e, fun l hl => ?_, by rw [z_wr_row (by omega)]; exact s3, by rw [z_wr_row (by omega)]; exact s4⟩, ?_⟩
        · by_cases e : l = j
          · rw [e, z_wr_eq, if_pos ⟨c1, c2⟩, up1_eq]
          · rw [z_wr_oth e, s2 l hl, up1_ne e]
        · show fX6_add_L247 _ rr (nI h) s = rr (nI (tk j)) (wr s 15 j (nI h))
          unfold fX6_add_L247
          rw [z_ldI (show h < 5 by omega) (by omega), e18, hf, if_neg (eO_neg j (by omega)), z_ldI (show h < 5 by omega) (by omega), e18, hf, eO_some, z_ldI (show j < 150 by omega) (by omega), s2 j (by omega), if_pos ⟨c1, c2⟩, e0, z_stI (show j < 150 by omega) (by omega)]) N (R best) (best, T3) (by have := hF.2.2.2.2 best p1; omega) ⟨tk, rfl, Wk_0 hO hF p1 hbc, fun c a b e => by rw [hT3, z_wr_row b]; exact t1 c a b e, fun j hj => by rw [hT3, z_wr_ne (by omega), t2]; exact g2 j hj, rfl, by rw [hT3, z_wr_row (by omega)]⟩
    obtain ⟨tk2, P2, T4, e4, e5, e6⟩ := hloop
    exact ⟨d best, tk2, P2, T4, e4, e5, e6⟩
theorem sj_one_le {act : Nat → Bool} {a : Nat} : ∀ {b : Nat}, a ≤ b → sj act (fun _ => 1) a ≤ sj act (fun _ => 1) b := by
  intro b
  induction b with
  | zero => intro h; rw [show a = 0 by omega]; exact Int.le_refl _
  | succ b ih =>
    intro h
    by_cases e : a = b + 1
    · rw [e]; exact Int.le_refl _
    · have := ih (by omega)
      rw [sj_succ]
      by_cases e2 : act b = true
      · rw [if_pos e2]; omega
      · rw [if_neg e2]; omega
theorem sj_one_lt {act : Nat → Bool} {a b : Nat} (h : a < b) (ha : act a = true) : sj act (fun _ => 1) a < sj act (fun _ => 1) b := by
  have := sj_one_le (act := act) (a := a + 1) (b := b) (by omega)
  rw [sj_succ, if_pos ha] at this
  omega
theorem z_leastR {N nh ns k bN cN : Nat} {T0 T : St} {W : Nat → Nat → Int} {hd kf : Nat → Nat} (hN : 1000 ≤ N) (hy : Hy T0 nh ns W) (hF : FR T0 T) (hk : k < 8) (hb : bN ≤ 1) (hc : cN < 5) (e19 : T0.1 0 19 = nI ns) (h7 : ∀ j, j < ns → T0.1 7 j = nI (kf j) ∧ kf j < 8) (h6 : ∀ x, x < nh → T0.1 6 (8 * x + k) = nI (hd x) ∧ hd x ≤ 60)
    (htot : sj (fun j => decide (kf j = k)) (fun _ => 1) ns ≤ sx (fun x => (hd x : Int) + (if x = cN then (bN : Int) else 0)) nh) : ∃ tk P T2, fX6_leastOf N (nI k) (nI bN) (nI cN) T = some (lV (sj (fun j => decide (kf j = k)) (fun j => W j (tk j)) ns), T2) ∧ RI T0 nh ns (fun j => decide (kf j = k)) W (fun x => (hd x : Int) + (if x = cN then (bN : Int) else 0)) ns tk P T2 := by
  obtain ⟨y1, y2, y3, y4, y5⟩ := id hy
  obtain ⟨act, hact⟩ : ∃ act : Nat → Bool, act = fun j => decide (kf j = k) := ⟨_, rfl⟩
  obtain ⟨cap, hcap⟩ : ∃ cap : Nat → Int, cap = fun x => (hd x : Int) + (if x = cN then (bN : Int) else 0) := ⟨_, rfl⟩
  rw [← hact, ← hcap] at htot ⊢
  have hcb : ∀ x, x < nh → 0 ≤ cap x ∧ cap x ≤ 1000 := fun x hx => by
    have := (h6 x hx).2
    rw [hcap]
    show 0 ≤ (hd x : Int) + (if x = cN then (bN : Int) else 0) ∧ (hd x : Int) + (if x = cN then (bN : Int) else 0) ≤ 1000
    by_cases e : x = cN
    · rw [if_pos e]; omega
    · rw [if_neg e]; omega
  unfold fX6_leastOf
  obtain ⟨K4, hK4⟩ : ∃ K4 : St → Option (Int64 × St), K4 = fun (S5 : St) =>
      itN (fun _ _ => none) (fX6_leastOf_L55 (fun (S10 : St) =>
          itN (fun _ _ _ => none) (fX6_leastOf_L81 N (nI k)) N 0 0 S10)) N 0 S5 := ⟨_, rfl⟩
  obtain ⟨K9, hK9⟩ : ∃ K9 : St → Option (Int64 × St), K9 = fun (S10 : St) =>
          itN (fun _ _ _ => none) (fX6_leastOf_L81 N (nI k)) N 0 0 S10 := ⟨_, rfl⟩
  rw [← hK9] at hK4 ⊢
  rw [← hK4]
  have s1 : ∃ T1, itN (fun _ _ => none) (fX6_leastOf_L3 (nI k) (nI bN) (nI cN) K4) N 0 T = K4 T1 ∧ FR T0 T1 ∧ (∀ x, x < nh → T1.1 16 x = iV (cap x)) := by
    refine it_for (σ := St) (F := fX6_leastOf_L3 (nI k) (nI bN) (nI cN) K4) (fun j s (r : Int32 → St → Option (Int64 × St)) => r (nI j) s) nh (fun j s => FR T0 s ∧ (∀ x, x < j → s.1 16 x = iV (cap x))) (fun o => ∃ T1, o = K4 T1 ∧ FR T0 T1 ∧ (∀ x, x < nh → T1.1 16 x = iV (cap x))) ?_ ?_ N 0 T (by omega) (by omega) ⟨hF, fun x hx => absurd hx (by omega)⟩
    · rintro j s r hj ⟨i1, i2⟩
      refine Or.inr ⟨wr s 16 j (iV (cap j)), ⟨fun c a b e => by rw [z_wr_row b]; exact i1 c a b e, fun x hx => ?_⟩, ?_⟩
      · by_cases e : x = j
        · rw [e, z_wr_eq]
        · rw [z_wr_oth e]; exact i2 x (by omega)
      · show fX6_leastOf_L3 (nI k) (nI bN) (nI cN) K4 r (nI j) s = _
        unfold fX6_leastOf_L3
        have e3 : s.1 0 3 = nI nh := by rw [i1 0 (by omega) (by omega) (by omega)]; exact y3
        have e6 : s.1 6 (8 * j + k) = nI (hd j) := by rw [i1 6 (by omega) (by omega) (by omega)]; exact (h6 j hj).1
        rw [e3, if_pos (nI_lt hj (by omega)), z_8, z_ldI (show 8 * j + k < 40 by omega) (by omega), e6]
        by_cases e : j = cN
        · have ec : nI (hd j) + nI bN = iV (cap j) := by
            rw [iV_nI, iV_nI, iV_add, hcap]
            show _ = iV ((hd j : Int) + (if j = cN then (bN : Int) else 0))
            rw [if_pos e]
          rw [if_pos (congrArg nI e), z_stI (show j < 5 by omega) (by omega), ec]
          simp only [nmI, nI_1]
        · have ec : nI (hd j) + 0 = iV (cap j) := by
            rw [Int32.add_zero, iV_nI, hcap]
            show _ = iV ((hd j : Int) + (if j = cN then (bN : Int) else 0))
            rw [if_neg e, Int.add_zero]
          rw [if_neg (fun h => e ((nI_eq (by omega) (by omega)).mp h)), z_stI (show j < 5 by omega) (by omega), ec]
          simp only [nmI, nI_1]
    · rintro s r ⟨i1, i2⟩
      refine ⟨s, ?_, i1, i2⟩
      show fX6_leastOf_L3 (nI k) (nI bN) (nI cN) K4 r (nI nh) s = _
      unfold fX6_leastOf_L3
      have e3 : s.1 0 3 = nI nh := by rw [i1 0 (by omega) (by omega) (by omega)]; exact y3
      rw [e3, if_neg (Int32.lt_irrefl)]
  obtain ⟨T1, eT1, a1, a2⟩ := s1
  rw [eT1, hK4]
  have s2 : ∃ T2, itN (fun _ _ => none) (fX6_leastOf_L55 K9) N 0 T1 = K9 T2 ∧ FR T0 T2 ∧ T2.1 16 = T1.1 16 ∧ (∀ j, j < ns → T2.1 15 j = -1) := by
    refine it_for (σ := St) (F := fX6_leastOf_L55 K9) (fun j s (r : Int32 → St → Option (Int64 × St)) => r (nI j) s) ns (fun j s => FR T0 s ∧ s.1 16 = T1.1 16 ∧ (∀ x, x < j → s.1 15 x = -1)) (fun o => ∃ T2, o = K9 T2 ∧ FR T0 T2 ∧ T2.1 16 = T1.1 16 ∧ (∀ j, j < ns → T2.1 15 j = -1)) ?_ ?_ N 0 T1 (by omega) (by omega) ⟨a1, rfl, fun x hx => absurd hx (by omega)⟩
    · rintro j s r hj ⟨i1, i2, i3⟩
      refine Or.inr ⟨wr s 15 j (-1), ⟨fun c a b e => by rw [z_wr_row a]; exact i1 c a b e, by rw [z_wr_row (by omega)]; exact i2, fun x hx => ?_⟩, ?_⟩
      · by_cases e : x = j
        · rw [e, z_wr_eq]
        · rw [z_wr_oth e]; exact i3 x (by omega)
      · show fX6_leastOf_L55 K9 r (nI j) s = _
        unfold fX6_leastOf_L55
        have e3 : s.1 0 19 = nI ns := by rw [i1 0 (by omega) (by omega) (by omega)]; exact e19
        rw [e3, if_pos (nI_lt hj (by omega)), z_stI (show j < 150 by omega) (by omega)]
        simp only [nmI, nI_1]
    · rintro s r ⟨i1, i2, i3⟩
      refine ⟨s, ?_, i1, i2, i3⟩
      show fX6_leastOf_L55 K9 r (nI ns) s = _
      unfold fX6_leastOf_L55
      have e3 : s.1 0 19 = nI ns := by rw [i1 0 (by omega) (by omega) (by omega)]; exact e19
      rw [e3, if_neg (Int32.lt_irrefl)]
  obtain ⟨T2, eT2, b1, b2, b3⟩ := s2
  show ∃ tk P T2, itN (fun _ _ => none) (fX6_leastOf_L55 K9) N 0 T1 = _ ∧ _
  rw [eT2, hK9]
  show ∃ tk P T3, itN (fun _ _ _ => none) (fX6_leastOf_L81 N (nI k)) N 0 0 T2 = _ ∧ _
  refine it_for (σ := Int64 × St) (F := fX6_leastOf_L81 N (nI k)) (fun j s (r : Int64 → Int32 → St → Option (Int64 × St)) => r s.1 (nI j) s.2) ns (fun j s => ∃ tk P, RI T0 nh ns act W cap j tk P s.2 ∧ s.1 = lV (sj act (fun l => W l (tk l)) j)) (fun o => ∃ tk P T3, o = some (lV (sj act (fun j => W j (tk j)) ns), T3) ∧ RI T0 nh ns act W cap ns tk P T3) ?_ ?_ N 0 (0, T2) (by omega) (by omega) ⟨fun _ => 0, fun _ => 0, ⟨b1, fun j hj => by rw [b3 j hj, if_neg (fun h => absurd h.1 (by omega))], fun x hx => by rw [b2, a2 x hx]; show iV (cap x) = iV (cap x - 0); rw [Int.sub_zero], Opt_0 (fun x hx => (hcb x hx).1)⟩, rfl⟩
  · rintro j ⟨sm0, s⟩ r hj ⟨tk, P, hI, hs⟩
    right
    dsimp only at hI hs
    have e3 : s.1 0 19 = nI ns := by rw [hI.1 0 (by omega) (by omega) (by omega)]; exact e19
    have e7 : s.1 7 j = nI (kf j) := by rw [hI.1 7 (by omega) (by omega) (by omega)]; exact (h7 j hj).1
    have hk7 := (h7 j hj).2
    by_cases ha : kf j = k
    · have haj : act j = true := by rw [hact]; exact decide_eq_true ha
      have hr := sj_one_lt (act := act) hj haj
      obtain ⟨D, tk2, P2, T3, e4, hI2, e5⟩ := z_addR (k := nI k) hN hy hj haj (fun x hx => (hcb x hx).2) (by omega) hI
      refine ⟨(sm0 + lV D, T3), ⟨tk2, P2, hI2, ?_⟩, ?_⟩
      · show sm0 + lV D = _
        rw [hs, lV_add, e5]
      · show fX6_leastOf_L81 N (nI k) r sm0 (nI j) s = _
        unfold fX6_leastOf_L81
        rw [e3, if_pos (nI_lt hj (by omega)), z_ldI (show j < 150 by omega) (by omega), e7, if_pos (by rw [ha]), e4, caS_some]
        simp only [nmI, nmL, nI_1]
    · have haj : ¬ act j = true := by rw [hact]; exact fun h => ha (of_decide_eq_true h)
      obtain ⟨i1, i2, i3, i4⟩ := hI
      refine ⟨(sm0, s), ⟨tk, P, ⟨i1, fun l hl => ?_, fun x hx => ?_, Opt_skip haj i4⟩, ?_⟩, ?_⟩
      · show s.1 15 l = _
        rw [i2 l hl]
        by_cases e : l < j ∧ act l = true
        · rw [if_pos e, if_pos ⟨by omega, e.2⟩]
        · rw [if_neg e, if_neg (fun h => by
            by_cases e2 : l = j
            · rw [e2] at h; exact haj h.2
            · exact e ⟨by omega, h.2⟩)]
      · show s.1 16 x = _
        rw [i3 x hx, nx_succ, if_neg haj, Int.add_zero]
      · show sm0 = _
        rw [hs, sj_succ, if_neg haj, Int.add_zero]
      · show fX6_leastOf_L81 N (nI k) r sm0 (nI j) s = _
        unfold fX6_leastOf_L81
        rw [e3, if_pos (nI_lt hj (by omega)), z_ldI (show j < 150 by omega) (by omega), e7, if_neg (fun h => ha ((nI_eq (by omega) (by omega)).mp h))]
        simp only [nmI, nI_1]
  · rintro ⟨sm0, s⟩ r ⟨tk, P, hI, hs⟩
    dsimp only at hI hs
    refine ⟨tk, P, s, ?_, hI⟩
    show fX6_leastOf_L81 N (nI k) r sm0 (nI ns) s = _
    unfold fX6_leastOf_L81
    have e3 : s.1 0 19 = nI ns := by rw [hI.1 0 (by omega) (by omega) (by omega)]; exact e19
    rw [e3, if_neg (Int32.lt_irrefl), hs]
