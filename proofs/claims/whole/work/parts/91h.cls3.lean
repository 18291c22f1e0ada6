/-! the least toil: the class, a stone more -/
def CI (S0 : St) (nh : Nat) (act : Nat → Bool) (V : Nat → Nat → Int) (pl : Nat → Nat) (cap : Nat → Int) (i : Nat) (tk : Nat → Nat) (P : Nat → Int) (S : St) : Prop :=
  FC S0 S ∧ (∀ x, x < nh → S.1 31 x = iV (cap x - nx act tk x i)) ∧ (∀ x q, x < nh → q < 24 → S.1 (33 + x) q = iV (gv act tk pl x q i)) ∧ Opt nh act (fun j x => V x (pl j)) cap i tk P
theorem z_giver {N nh : Nat} {S : St} {lf d : Nat → Int} (hN : 1000 ≤ N) (hnh : nh ≤ 5) (e6 : S.1 1 6 = nI nh) (h31 : ∀ x, x < nh → S.1 31 x = iV (lf x)) (hlf : ∀ x, x < nh → sml (lf x)) (hd : ∀ x, x < nh → sml (d x)) (h50 : ∀ x, x < nh → S.1 50 x = iV (d x)) : fX0_cheapestGiver N S = some (eO (nst (fun x => decide (0 < lf x)) d nh)) := by
  unfold fX0_cheapestGiver
  simp only [nmI]
  refine it_nst (K := some) (F := fX0_cheapestGiver_L4 S) (by omega) ?_ ?_ ?_ ?_
  · intro j x r hj hA _
    have hA := of_decide_eq_false hA
    unfold fX0_cheapestGiver_L4
    rw [e6, if_pos (nI_lt hj (by omega)), z_ldI (show j < 5 by omega) (by omega), h31 j hj, if_pos (by rw [iV_le0 (hlf j hj)]; omega)]
    simp only [nmI, nI_1]
  · intro j r hj hA
    have hA := of_decide_eq_true hA
    unfold fX0_cheapestGiver_L4
    rw [e6, if_pos (nI_lt hj (by omega)), z_ldI (show j < 5 by omega) (by omega), h31 j hj, if_neg (by rw [iV_le0 (hlf j hj)]; omega), if_pos rfl]
    simp only [nmI, nI_1]
  · intro j b r hj hb hA
    have hA := of_decide_eq_true hA
    unfold fX0_cheapestGiver_L4
    rw [e6, if_pos (nI_lt hj (by omega)), z_ldI (show j < 5 by omega) (by omega), h31 j hj, if_neg (by rw [iV_le0 (hlf j hj)]; omega), if_neg (z_neg1 b (by omega)), z_ldI (show j < 5 by omega) (by omega), z_ldI (show b < 5 by omega) (by omega), h50 j hj, h50 b (by omega)]
    have hcmp : (iV (d j) < iV (d b)) = (d j < d b) := iV_lt (hd j hj) (hd b (by omega))
    simp only [nmI, nI_1]
    by_cases h : d j < d b
    · rw [if_pos (hcmp.mpr h), if_pos h]
    · rw [if_neg (fun h2 => h (hcmp.mp h2)), if_neg h]
  · intro x r
    unfold fX0_cheapestGiver_L4
    rw [e6, if_neg (Int32.lt_irrefl)]
theorem z_supply {N nh ns L i : Nat} {S0 S : St} {act : Nat → Bool} {V : Nat → Nat → Int} {tk pl : Nat → Nat} {cap P : Nat → Int} (hN : 1000 ≤ N) (hz : Hz S0 nh ns L V pl) (hi : i < ns) (hai : act i = true) (hcap : ∀ x, x < nh → cap x ≤ 1000) (hroom : sj act (fun _ => 1) i < sx cap nh) (hI : CI S0 nh act V pl cap i tk P S) : ∃ D tk2 P2 S2, fX0_supply N (nI (pl i)) S = some (iV D, S2) ∧ sml D ∧ CI S0 nh act V pl cap (i + 1) tk2 P2 S2 ∧ sj act (fun j => V (tk2 j) (pl j)) (i + 1) = sj act (fun j => V (tk j) (pl j)) i + D := by
  obtain ⟨z1, z2, z3, z4, z5, z6, z7, z8⟩ := id hz
  obtain ⟨g1, g2, g3, hO⟩ := hI
  obtain ⟨x0, hx0, hx1⟩ := Opt_room hO hroom
  have hpi := z8 i hi
  obtain ⟨S1, e1, a1, a2⟩ := z_findSwaps (N := N) (g := fun x q => gv act tk pl x q i) hN hz g1 g3 (fun x q => by have := gv_bd act tk pl x q i; unfold sml; omega)
  have hF1 : FC S0 S1 := fun c hc => by rw [a1 c (by omega)]; exact g1 c hc
  obtain ⟨d, fr, R, S2, e2, hF, hbd, hT2⟩ := z_findChains (N := N) hN hz hi hF1 hO a2
  obtain ⟨t1, t2, t3, t4, t5⟩ := hT2
  have hlf : ∀ x, x < nh → sml (cap x - nx act tk x i) := fun x hx => by
    have q1 := nx_pos act tk x i
    have q2 := hcap x hx
    have q3 := hO.2.2.1 x hx
    unfold sml
    omega
  have r31 : ∀ x, x < nh → S2.1 31 x = iV (cap x - nx act tk x i) := fun x hx => by rw [t2 31 (by omega), a1 31 (by omega)]; exact g2 x hx
  unfold fX0_supply
  rw [e1, caV_some, e2, caV_some, z_giver (lf := fun x => cap x - nx act tk x i) (d := d) hN z1 (by rw [t1 1 (by omega)]; exact z4) r31 hlf (fun x hx => by have := hbd x hx; unfold sml; omega) t3, caP_some]
  cases hq : nst (fun x => decide (0 < cap x - nx act tk x i)) d nh with
  | none =>
    exact absurd (decide_eq_true (show 0 < cap x0 - nx act tk x0 i by omega)) (nst_none hq x0 hx0)
  | some best =>
    obtain ⟨p1, p2, p3⟩ := nst_some hq
    have p2 := of_decide_eq_true p2
    have hbc : nx act tk best i < cap best := by omega
    have hmin : ∀ x, x < nh → nx act tk x i < cap x → d best ≤ d x := fun x hx hxc => p3 x hx (decide_eq_true (by omega))
    have hbb := hbd best p1
    obtain ⟨S3, hS3⟩ : ∃ S3, S3 = wr S2 31 best (iV (cap best - nx act tk best i - 1)) := ⟨_, rfl⟩
    rw [eO_some, if_neg (z_neg1 best (by omega)), z_ldI (show best < 5 by omega) (by omega), r31 best p1, iV_1, z_stI (show best < 5 by omega) (by omega), ← hS3]
    have hloop : ∃ tk2 P2 S4, fX0_followChain N (nI best) (nI (pl i)) S3 = some S4 ∧ S4.1 50 = S3.1 50 ∧ CI S0 nh act V pl cap (i + 1) tk2 P2 S4 ∧ sj act (fun j => V (tk2 j) (pl j)) (i + 1) = sj act (fun j => V (tk j) (pl j)) i + d best := by
      unfold fX0_followChain
      have hlp := it_run (z := fun _ _ _ => none) (σ := Nat × Nat × St) (F := fX0_followChain_L5 (fun (x6 : Int32) (S7 : St) =>
          ldR 5 x6 fun j8 =>
          ldI 24 (S7.1 (33 + j8)) (nI (pl i)) fun x9 =>
          stI S7 (33 + j8) 24 (nI (pl i)) (x9 + 1) fun S10 =>
          some S10)) (fun s (rr : Int32 → Int32 → St → Option St) => rr (nI s.1) (nI s.2.1) s.2.2) (fun μ s => ∃ tk2, μ = R s.1 ∧ s.2.1 + R s.1 < nh ∧ Wk nh i act (fun j x => V x (pl j)) tk P d R best s.1 tk2 ∧ (∀ c, c < 33 ∨ 38 ≤ c → s.2.2.1 c = S3.1 c) ∧ (∀ x q, x < nh → q < 24 → s.2.2.1 (33 + x) q = iV (gv act tk2 pl x q i))) (fun o => ∃ tk2 P2 S4, o = some S4 ∧ S4.1 50 = S3.1 50 ∧ CI S0 nh act V pl cap (i + 1) tk2 P2 S4 ∧ sj act (fun j => V (tk2 j) (pl j)) (i + 1) = sj act (fun j => V (tk j) (pl j)) i + d best) (by
        rintro μ ⟨h, lk, s⟩ rr ⟨tk2, hμ, hlk, hw, s1, s2⟩
        dsimp only at hμ hlk hw s1 s2
        have hh := hw.1
        have e6 : s.1 1 6 = nI nh := by rw [s1 1 (by omega), hS3, z_wr_ne (by omega), t1 1 (by omega)]; exact z4
        have e51 : s.1 51 h = eO ((fr h).map tk) := by rw [s1 51 (by omega), hS3, z_wr_ne (by omega)]; exact t4 h hh
        cases hf : fr h with
        | none =>
          left
          obtain ⟨o1, o2, o3⟩ := Wk_end hO hF p1 hbc hmin hai hw hf
          refine ⟨_, _, wr s (33 + h) (pl i) (iV (gv act tk2 pl h (pl i) i + 1)), ?_, ?_, ⟨fun c hc => ?_, fun x hx => ?_, fun x q hx hq => ?_, o1⟩, o2⟩
          · show fX0_followChain_L5 _ rr (nI h) (nI lk) s = _
            unfold fX0_followChain_L5
            rw [e6, if_pos (nI_lt (by omega) (by omega)), z_ldI (show h < 5 by omega) (by omega), e51, hf, if_pos (show eO (Option.map tk none) = -1 from rfl)]
            show ldR 5 (nI h) _ = _
            rw [z_ldR (show h < 5 by omega) (by omega), z_ldI (show pl i < 24 by omega) (by omega), s2 h (pl i) hh (by omega), iV_p1, z_stI (show pl i < 24 by omega) (by omega)]
          · rw [z_wr_row (by omega)]; exact s1 50 (by omega)
          · rw [z_wr_row (by omega), s1 c (by omega), hS3, z_wr_row (by omega)]; exact t1 c hc
          · rw [z_wr_ne (by omega), s1 31 (by omega), o3 x hx, hS3]
            by_cases e : best = x
            · subst e
              rw [z_wr_eq, if_pos rfl]
              congr 1
              omega
            · rw [z_wr_oth (fun h => e h.symm), if_neg e, r31 x hx, Int.add_zero]
          · rw [gv_succ, if_pos hai, up1_eq, gv_eq (tk2 := tk2) (fun j hj _ => up1_ne (by omega)), z_wr]
            by_cases e : x = h
            · subst e
              rw [if_pos rfl]
              by_cases e2 : q = pl i
              · rw [if_pos e2, if_pos ⟨rfl, e2.symm⟩, e2]
              · rw [if_neg e2, if_neg (fun h => e2 h.2.symm), Int.add_zero]; exact s2 x q hx hq
            · rw [if_neg (by omega), if_neg (fun h => e h.1.symm), Int.add_zero]; exact s2 x q hx hq
        | some j =>
          right
          obtain ⟨e0, hw2⟩ := Wk_step hO hF hw hf
          obtain ⟨c1, c2, c3, c4⟩ := hF.2.2.1 h j hh hf
          have htj := hO.1 j c1 c2
          have hpj := z8 j (by omega)
          have hne : tk j ≠ h := fun e => by rw [e] at c4; omega
          obtain ⟨s3, hs3⟩ : ∃ s3, s3 = wr s (33 + tk j) (pl j) (iV (gv act tk2 pl (tk j) (pl j) i - 1)) := ⟨_, rfl⟩
          have e45 : s.1 (45 + tk j) h = nI (pl j) := by rw [s1 _ (by omega), hS3, z_wr_ne (by omega), t2 _ (by omega)]; exact t5 h j hh hf
          have e3h : s3.1 (33 + h) (pl j) = iV (gv act tk2 pl h (pl j) i) := by rw [hs3, z_wr_ne (by omega)]; exact s2 h (pl j) hh (by omega)
          refine ⟨R (tk j), (tk j, lk + 1, wr s3 (33 + h) (pl j) (iV (gv act tk2 pl h (pl j) i + 1))), by omega, ⟨up1 tk2 j h, rfl, ?_, hw2, fun c hc => ?_, fun x q hx hq => ?_⟩, ?_⟩
          · show lk + 1 + R (tk j) < nh
            omega
          · rw [z_wr_row (by omega), hs3, z_wr_row (by omega)]; exact s1 c hc
          · rw [gv_up x q c2 c1, e0, z_wr, hs3, z_wr]
            have hsx := s2 x q hx hq
            by_cases e : x = h
            · subst e
              rw [if_pos rfl]
              by_cases e2 : q = pl j
              · subst e2
                rw [if_pos rfl, if_pos ⟨rfl, rfl⟩, if_neg (fun h => hne h.1)]
                congr 1
                omega
              · rw [if_neg e2, if_neg (show ¬ 33 + x = 33 + tk j by omega), if_neg (fun h => e2 h.2.symm), if_neg (fun h => hne h.1), hsx]
                congr 1
                omega
            · rw [if_neg (show ¬ 33 + x = 33 + h by omega), if_neg (show ¬ (h = x ∧ pl j = q) from fun h2 => e h2.1.symm)]
              by_cases e3 : x = tk j
              · subst e3
                rw [if_pos rfl]
                by_cases e2 : q = pl j
                · subst e2
                  rw [if_pos rfl, if_pos ⟨rfl, rfl⟩]
                  congr 1
                  omega
                · rw [if_neg e2, if_neg (fun h => e2 h.2.symm), hsx]
                  congr 1
                  omega
              · rw [if_neg (show ¬ 33 + x = 33 + tk j by omega), if_neg (show ¬ (tk j = x ∧ pl j = q) from fun h2 => e3 h2.1.symm), hsx]
                congr 1
                omega
          · show fX0_followChain_L5 _ rr (nI h) (nI lk) s = rr (nI (tk j)) (nI (lk + 1)) _
            have hj1 : eO ((fr h).map tk) = nI (tk j) := by rw [hf]; rfl
            unfold fX0_followChain_L5
            rw [e6, if_pos (nI_lt (by omega) (by omega)), z_ldI (show h < 5 by omega) (by omega), e51, hj1, if_neg (z_neg1 (tk j) (by omega)), z_ldI (show h < 5 by omega) (by omega), e51, hj1, z_ldR (show tk j < 5 by omega) (by omega), z_ldI (show h < 5 by omega) (by omega), e45, z_ldR (show tk j < 5 by omega) (by omega), z_ldI (show pl j < 24 by omega) (by omega), s2 (tk j) (pl j) htj (by omega), iV_1, z_stI (show pl j < 24 by omega) (by omega), ← hs3, z_ldR (show h < 5 by omega) (by omega), z_ldI (show pl j < 24 by omega) (by omega), e3h, iV_p1, z_stI (show pl j < 24 by omega) (by omega)]
            simp only [nmI, nI_1]) N (R best) (best, 0, S3) (by have := hF.2.2.2.2 best p1; omega) ⟨tk, rfl, by have := hF.2.2.2.2 best p1; show 0 + R best < nh; omega, Wk_0 hO hF p1 hbc, fun c hc => rfl, fun x q hx hq => by rw [hS3, z_wr_ne (by omega), t2 _ (by omega), a1 _ (by omega)]; exact g3 x q hx hq⟩
      exact hlp
    obtain ⟨tk2, P2, S4, e4, e50, hI4, hc4⟩ := hloop
    have e5 : S4.1 50 best = iV (d best) := by rw [e50, hS3, z_wr_ne (by omega)]; exact t3 best p1
    rw [e4, caV_some, z_ldI (show best < 5 by omega) (by omega), e5]
    exact ⟨d best, tk2, P2, S4, rfl, by unfold sml; omega, hI4, hc4⟩
theorem z_leastC {N nh ns L k bN cN : Nat} {b : Int32} {S0 S : St} {V : Nat → Nat → Int} {hd kf pl : Nat → Nat} (hN : 1000 ≤ N) (hz : Hz S0 nh ns L V pl) (hF : FC S0 S) (hk : k < 8) (hb : bN ≤ 1) (hbx : ∀ x, x < nh → (nI x = b ↔ (x = cN ∧ bN = 1))) (e9 : S0.1 13 9 = nI ns) (h14 : ∀ j, j < ns → S0.1 14 j = nI (kf j) ∧ kf j < 8) (h16 : ∀ j, j < ns → S0.1 16 j = nI (pl j)) (h26 : ∀ x, x < nh → S0.1 (26 + x) k = nI (hd x) ∧ hd x ≤ 60)
    (htot : sj (fun j => decide (kf j = k)) (fun _ => 1) ns ≤ sx (fun x => (hd x : Int) + (if x = cN then (bN : Int) else 0)) nh) : ∃ tk P S2, fX0_leastWays N (nI k) b S = some (lV (sj (fun j => decide (kf j = k)) (fun j => V (tk j) (pl j)) ns), S2) ∧ CI S0 nh (fun j => decide (kf j = k)) V pl (fun x => (hd x : Int) + (if x = cN then (bN : Int) else 0)) ns tk P S2 := by
  obtain ⟨z1, z2, z3, z4, z5, z6, z7, z8⟩ := id hz
  obtain ⟨act, hact⟩ : ∃ act : Nat → Bool, act = fun j => decide (kf j = k) := ⟨_, rfl⟩
  obtain ⟨cap, hcap⟩ : ∃ cap : Nat → Int, cap = fun x => (hd x : Int) + (if x = cN then (bN : Int) else 0) := ⟨_, rfl⟩
  rw [← hact, ← hcap] at htot ⊢
  have hcx : ∀ x, cap x = (hd x : Int) + (if x = cN then (bN : Int) else 0) := fun x => by rw [hcap]
  have hcb : ∀ x, x < nh → 0 ≤ cap x ∧ cap x ≤ 1000 := fun x hx => by
    have := (h26 x hx).2
    rw [hcx]
    by_cases e : x = cN
    · rw [if_pos e]; omega
    · rw [if_neg e]; omega
  unfold fX0_leastWays
  obtain ⟨K4, hK4⟩ : ∃ K4 : St → Option (Int64 × St), K4 = fun (S5 : St) => itN (fun _ _ _ => none) (fX0_leastWays_L59 N (nI k)) N 0 0 S5 := ⟨_, rfl⟩
  rw [← hK4]
  have s1 : ∃ S1, itN (fun _ _ => none) (fX0_leastWays_L2 N (nI k) b K4) N 0 S = K4 S1 ∧ FC S0 S1 ∧ (∀ x, x < nh → S1.1 31 x = iV (cap x)) ∧ (∀ x q, x < nh → q < 24 → S1.1 (33 + x) q = 0) := by
    refine it_for (σ := St) (F := fX0_leastWays_L2 N (nI k) b K4) (fun j s (r : Int32 → St → Option (Int64 × St)) => r (nI j) s) nh (fun j s => FC S0 s ∧ (∀ x, x < j → s.1 31 x = iV (cap x)) ∧ (∀ x q, x < j → q < 24 → s.1 (33 + x) q = 0)) (fun o => ∃ S1, o = K4 S1 ∧ FC S0 S1 ∧ (∀ x, x < nh → S1.1 31 x = iV (cap x)) ∧ (∀ x q, x < nh → q < 24 → S1.1 (33 + x) q = 0)) ?_ ?_ N 0 S (by omega) (by omega) ⟨hF, fun x hx => absurd hx (by omega), fun x q hx => absurd hx (by omega)⟩
    · rintro j s r hj ⟨i1, i2, i3⟩
      right
      obtain ⟨s2, es2, f1, f2, -, -⟩ := z_fill (N := N) (k := 33 + j) (n := 24) (b := 0) (S := wr s 31 j (iV (cap j))) (by omega) (by omega)
      refine ⟨s2, ⟨fun c hc => by rw [f1 c (by omega), z_wr_row (by omega)]; exact i1 c hc, fun x hx => ?_, fun x q hx hq => ?_⟩, ?_⟩
      · rw [f1 31 (by omega)]
        by_cases e : x = j
        · rw [e, z_wr_eq]
        · rw [z_wr_oth e]; exact i2 x (by omega)
      · by_cases e : x = j
        · rw [e]; exact f2 q hq
        · rw [f1 (33 + x) (by omega), z_wr_ne (by omega)]; exact i3 x q (by omega) hq
      · show fX0_leastWays_L2 N (nI k) b K4 r (nI j) s = _
        have e6 : s.1 1 6 = nI nh := by rw [i1 1 (by omega)]; exact z4
        have e26 : s.1 (26 + j) k = nI (hd j) := by rw [i1 _ (by omega)]; exact (h26 j hj).1
        unfold fX0_leastWays_L2
        rw [e6, if_pos (nI_lt hj (by omega)), z_ldR (show j < 5 by omega) (by omega), z_ldI (show k < 8 by omega) (by omega), e26]
        simp only [jn]
        by_cases e : j = cN ∧ bN = 1
        · have ec : nI (hd j) + 1 = iV (cap j) := by
            rw [iV_nI, iV_p1, hcx, if_pos e.1, e.2]; rfl
          rw [if_pos ((hbx j hj).mpr e), ec, z_stI (show j < 5 by omega) (by omega), z_ldR (show j < 5 by omega) (by omega), es2, caV_some]
          simp only [nmI, nI_1]
        · have ec : nI (hd j) + 0 = iV (cap j) := by
            rw [Int32.add_zero, iV_nI, hcx]
            by_cases e2 : j = cN
            · have : bN = 0 := by
                have := fun h => e ⟨e2, h⟩
                omega
              rw [if_pos e2, this]
              congr 1
            · rw [if_neg e2, Int.add_zero]
          rw [if_neg (fun h => e ((hbx j hj).mp h)), ec, z_stI (show j < 5 by omega) (by omega), z_ldR (show j < 5 by omega) (by omega), es2, caV_some]
          simp only [nmI, nI_1]
    · rintro s r ⟨i1, i2, i3⟩
      refine ⟨s, ?_, i1, i2, i3⟩
      show fX0_leastWays_L2 N (nI k) b K4 r (nI nh) s = _
      have e6 : s.1 1 6 = nI nh := by rw [i1 1 (by omega)]; exact z4
      unfold fX0_leastWays_L2
      rw [e6, if_neg (Int32.lt_irrefl)]
  obtain ⟨S1, eS1, a1, a2, a3⟩ := s1
  rw [eS1, hK4]
  show ∃ tk P S2, itN (fun _ _ _ => none) (fX0_leastWays_L59 N (nI k)) N 0 0 S1 = _ ∧ _
  refine it_for (σ := Int64 × St) (F := fX0_leastWays_L59 N (nI k)) (fun j s (r : Int64 → Int32 → St → Option (Int64 × St)) => r s.1 (nI j) s.2) ns (fun j s => ∃ tk P, CI S0 nh act V pl cap j tk P s.2 ∧ s.1 = lV (sj act (fun l => V (tk l) (pl l)) j)) (fun o => ∃ tk P S2, o = some (lV (sj act (fun j => V (tk j) (pl j)) ns), S2) ∧ CI S0 nh act V pl cap ns tk P S2) ?_ ?_ N 0 (0, S1) (by omega) (by omega) ⟨fun _ => 0, fun _ => 0, ⟨a1, fun x hx => by show S1.1 31 x = _; rw [a2 x hx]; show iV (cap x) = iV (cap x - 0); rw [Int.sub_zero], fun x q hx hq => by show S1.1 (33 + x) q = _; rw [a3 x q hx hq]; rfl, Opt_0 (fun x hx => (hcb x hx).1)⟩, rfl⟩
  · rintro j ⟨sm0, s⟩ r hj ⟨tk, P, hI, hs⟩
    right
    dsimp only at hI hs
    have e3 : s.1 13 9 = nI ns := by rw [hI.1 13 (by omega)]; exact e9
    have e14 : s.1 14 j = nI (kf j) := by rw [hI.1 14 (by omega)]; exact (h14 j hj).1
    have e16 : s.1 16 j = nI (pl j) := by rw [hI.1 16 (by omega)]; exact h16 j hj
    have hk7 := (h14 j hj).2
    by_cases ha : kf j = k
    · have haj : act j = true := by rw [hact]; exact decide_eq_true ha
      have hr := sj_one_lt (act := act) hj haj
      obtain ⟨D, tk2, P2, S3, e4, hD, hI2, e5⟩ := z_supply hN hz hj haj (fun x hx => (hcb x hx).2) (by omega) hI
      refine ⟨(sm0 + lV D, S3), ⟨tk2, P2, hI2, ?_⟩, ?_⟩
      · show sm0 + lV D = _
        rw [hs, lV_add, e5]
      · show fX0_leastWays_L59 N (nI k) r sm0 (nI j) s = _
        unfold fX0_leastWays_L59
        rw [e3, if_pos (nI_lt hj (by omega)), z_ldI (show j < 144 by omega) (by omega), e14, if_pos (by rw [ha]), z_ldI (show j < 144 by omega) (by omega), e16, e4, caS_some, iV_l hD]
        simp only [nmI, nmL, nI_1]
    · have haj : ¬ act j = true := by rw [hact]; exact fun h => ha (of_decide_eq_true h)
      obtain ⟨i1, i2, i3, i4⟩ := hI
      refine ⟨(sm0, s), ⟨tk, P, ⟨i1, fun x hx => ?_, fun x q hx hq => ?_, Opt_skip haj i4⟩, ?_⟩, ?_⟩
      · show s.1 31 x = _
        rw [i2 x hx, nx_succ, if_neg haj, Int.add_zero]
      · show s.1 (33 + x) q = _
        rw [i3 x q hx hq, gv_succ, if_neg haj, Int.add_zero]
      · show sm0 = _
        rw [hs, sj_succ, if_neg haj, Int.add_zero]
      · show fX0_leastWays_L59 N (nI k) r sm0 (nI j) s = _
        unfold fX0_leastWays_L59
        rw [e3, if_pos (nI_lt hj (by omega)), z_ldI (show j < 144 by omega) (by omega), e14, if_neg (fun h => ha ((nI_eq (by omega) (by omega)).mp h))]
        simp only [nmI, nI_1]
  · rintro ⟨sm0, s⟩ r ⟨tk, P, hI, hs⟩
    dsimp only at hI hs
    refine ⟨tk, P, s, ?_, hI⟩
    show fX0_leastWays_L59 N (nI k) r sm0 (nI ns) s = _
    unfold fX0_leastWays_L59
    have e3 : s.1 13 9 = nI ns := by rw [hI.1 13 (by omega)]; exact e9
    rw [e3, if_neg (Int32.lt_irrefl), hs]
