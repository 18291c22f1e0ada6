/-! the least toil: the class, what it costs to swap -/
def gv (act : Nat → Bool) (tk pl : Nat → Nat) (x q i : Nat) : Int := sj act (fun j => if tk j = x ∧ pl j = q then 1 else 0) i
theorem gv_up {act : Nat → Bool} {tk pl : Nat → Nat} {j h i : Nat} (x q : Nat) (ha : act j = true) (hj : j < i) : gv act (up1 tk j h) pl x q i = gv act tk pl x q i + (if h = x ∧ pl j = q then 1 else 0) - (if tk j = x ∧ pl j = q then 1 else 0) := sj_up (fun l t => if t = x ∧ pl l = q then 1 else 0) ha hj
theorem gv_succ (act : Nat → Bool) (tk pl : Nat → Nat) (x q i : Nat) : gv act tk pl x q (i + 1) = gv act tk pl x q i + (if act i = true then (if tk i = x ∧ pl i = q then 1 else 0) else 0) := rfl
theorem gv_eq {act : Nat → Bool} {tk tk2 pl : Nat → Nat} {x q i : Nat} (h : ∀ j, j < i → act j = true → tk j = tk2 j) : gv act tk pl x q i = gv act tk2 pl x q i := sj_eq (fun j hj ha => by
  show (if tk j = x ∧ pl j = q then (1 : Int) else 0) = (if tk2 j = x ∧ pl j = q then 1 else 0)
  rw [h j hj ha])
theorem gv_bd (act : Nat → Bool) (tk pl : Nat → Nat) (x q i : Nat) : 0 ≤ gv act tk pl x q i ∧ gv act tk pl x q i ≤ i := by
  induction i with
  | zero => exact ⟨Int.le_refl _, Int.le_refl _⟩
  | succ i ih =>
    rw [gv_succ]
    by_cases e : act i = true
    · rw [if_pos e]
      by_cases e2 : tk i = x ∧ pl i = q
      · rw [if_pos e2]; omega
      · rw [if_neg e2]; omega
    · rw [if_neg e]; omega
theorem gv_ex {act : Nat → Bool} {tk pl : Nat → Nat} {x q : Nat} : ∀ {i : Nat}, 0 < gv act tk pl x q i → ∃ j, j < i ∧ act j = true ∧ tk j = x ∧ pl j = q := by
  intro i
  induction i with
  | zero => intro h; exact absurd h (Int.lt_irrefl 0)
  | succ i ih =>
    intro h
    rw [gv_succ] at h
    by_cases e : act i = true
    · rw [if_pos e] at h
      by_cases e2 : tk i = x ∧ pl i = q
      · exact ⟨i, by omega, e, e2.1, e2.2⟩
      · rw [if_neg e2] at h
        obtain ⟨j, hj, h2⟩ := ih (by omega)
        exact ⟨j, by omega, h2⟩
    · rw [if_neg e] at h
      obtain ⟨j, hj, h2⟩ := ih (by omega)
      exact ⟨j, by omega, h2⟩
theorem gv_pos {act : Nat → Bool} {tk pl : Nat → Nat} {j : Nat} (ha : act j = true) : ∀ {i : Nat}, j < i → 0 < gv act tk pl (tk j) (pl j) i := by
  intro i
  induction i with
  | zero => intro h; omega
  | succ i ih =>
    intro h
    rw [gv_succ]
    by_cases e : j = i
    · subst e
      rw [if_pos ha, if_pos ⟨rfl, rfl⟩]
      have := (gv_bd act tk pl (tk j) (pl j) j).1
      omega
    · have h1 := ih (by omega)
      by_cases e1 : act i = true
      · rw [if_pos e1]
        by_cases e2 : tk i = tk j ∧ pl i = pl j
        · rw [if_pos e2]; omega
        · rw [if_neg e2]; omega
      · rw [if_neg e1]; omega
def FC (S0 S : St) : Prop := ∀ c, c < 31 → S.1 c = S0.1 c
def Hz (S0 : St) (nh ns L : Nat) (V : Nat → Nat → Int) (pl : Nat → Nat) : Prop := nh ≤ 5 ∧ ns ≤ 144 ∧ L ≤ 24 ∧ S0.1 1 6 = nI nh ∧ S0.1 12 3 = nI L ∧ (∀ x q, x < nh → q < L → 0 ≤ V x q ∧ V x q ≤ 20000) ∧ (∀ S, FC S0 S → ∀ x q, x < nh → q < L → fX0_way (nI x) (nI q) S = some (iV (V x q))) ∧ (∀ j, j < ns → pl j < L)
/-- the cheapest swap of the places before p0 -/
def SWp (S : St) (V : Nat → Nat → Int) (g : Nat → Nat → Int) (a b p0 : Nat) : Prop := (S.1 (45 + a) b = -1 ∧ ∀ q, q < p0 → ¬ 0 < g a q) ∨ ∃ q, q < p0 ∧ 0 < g a q ∧ S.1 (45 + a) b = nI q ∧ S.1 (39 + a) b = iV (V b q - V a q) ∧ ∀ q2, q2 < p0 → 0 < g a q2 → V b q - V a q ≤ V b q2 - V a q2
theorem SWp_eq {S S2 : St} {V : Nat → Nat → Int} {g : Nat → Nat → Int} {a b p0 : Nat} (h1 : S2.1 (45 + a) b = S.1 (45 + a) b) (h2 : S2.1 (39 + a) b = S.1 (39 + a) b) (h : SWp S V g a b p0) : SWp S2 V g a b p0 := by
  unfold SWp at h ⊢
  rw [h1, h2]
  exact h
theorem z_weigh {N nh ns L a p : Nat} {S0 S : St} {V g : Nat → Nat → Int} {pl : Nat → Nat} (hN : 1000 ≤ N) (hz : Hz S0 nh ns L V pl) (hF : FC S0 S) (ha : a < nh) (hp : p < L) (hg : 0 < g a p) (hS : ∀ b, b < nh → SWp S V g a b p) : ∃ S2, fX0_weighSwaps N (nI a) (nI p) S = some S2 ∧ (∀ c, c ≠ 39 + a → c ≠ 45 + a → S2.1 c = S.1 c) ∧ (∀ b, b < nh → SWp S2 V g a b (p + 1)) := by
  obtain ⟨z1, z2, z3, z4, z5, z6, z7, z8⟩ := hz
  unfold fX0_weighSwaps
  rw [z7 S hF a p ha hp, caP_some]
  refine it_for (σ := St) (F := fX0_weighSwaps_L10 (nI a) (nI p) (iV (V a p))) (fun j s (r : Int32 → St → Option St) => r (nI j) s) nh (fun j s => (∀ c, c ≠ 39 + a → c ≠ 45 + a → s.1 c = S.1 c) ∧ (∀ b, b < nh → b < j → SWp s V g a b (p + 1)) ∧ (∀ b, b < nh → j ≤ b → SWp s V g a b p)) (fun o => ∃ S2, o = some S2 ∧ (∀ c, c ≠ 39 + a → c ≠ 45 + a → S2.1 c = S.1 c) ∧ (∀ b, b < nh → SWp S2 V g a b (p + 1))) ?_ ?_ N 0 S (by omega) (by omega) ⟨fun _ _ _ => rfl, fun b _ hb => absurd hb (by omega), fun b hb _ => hS b hb⟩
  · rintro j s r hj ⟨i1, i2, i3⟩
    right
    have hFs : FC S0 s := fun c hc => by rw [i1 c (by omega) (by omega)]; exact hF c hc
    have e6 : s.1 1 6 = nI nh := by rw [hFs 1 (by omega)]; exact z4
    have w1 := z6 j p hj hp
    have w2 := z6 a p ha hp
    obtain ⟨s2, hs2⟩ : ∃ s2, s2 = wr (wr s (45 + a) j (nI p)) (39 + a) j (iV (V j p - V a p)) := ⟨_, rfl⟩
    have n45 : ∀ b, s2.1 (45 + a) b = if b = j then nI p else s.1 (45 + a) b := fun b => by rw [hs2, z_wr_ne (by omega), z_wr, if_pos rfl]
    have n39 : ∀ b, s2.1 (39 + a) b = if b = j then iV (V j p - V a p) else s.1 (39 + a) b := fun b => by rw [hs2, z_wr, if_pos rfl, z_wr_ne (by omega)]
    have n1 : ∀ c, c ≠ 39 + a → c ≠ 45 + a → s2.1 c = S.1 c := fun c h1 h2 => by rw [hs2, z_wr_row h1, z_wr_row h2]; exact i1 c h1 h2
    have hnew : (∀ q2, q2 < p + 1 → 0 < g a q2 → V j p - V a p ≤ V j q2 - V a q2) → (∀ b, b < nh → b < j + 1 → SWp s2 V g a b (p + 1)) ∧ (∀ b, b < nh → j + 1 ≤ b → SWp s2 V g a b p) := by
      intro hm
      refine ⟨fun b hb hbj => ?_, fun b hb hbj => ?_⟩
      · by_cases e : b = j
        · subst e
          exact Or.inr ⟨p, by omega, hg, by rw [n45, if_pos rfl], by rw [n39, if_pos rfl], hm⟩
        · exact SWp_eq (by rw [n45, if_neg e]) (by rw [n39, if_neg e]) (i2 b hb (by omega))
      · have e : b ≠ j := by omega
        exact SWp_eq (by rw [n45, if_neg e]) (by rw [n39, if_neg e]) (i3 b hb (by omega))
    have hgo : fX0_weighSwaps_L10 (nI a) (nI p) (iV (V a p)) r (nI j) s = if s.1 (45 + a) j = -1 then r (nI (j + 1)) s2 else if iV (V j p - V a p) < s.1 (39 + a) j then r (nI (j + 1)) s2 else r (nI (j + 1)) s := by
      unfold fX0_weighSwaps_L10
      rw [e6, if_pos (nI_lt hj (by omega)), z7 s hFs j p hj hp, caP_some]
      simp only [nmI, nI_1]
      rw [iV_sub, z_ldR (show a < 5 by omega) (by omega), z_ldI (show j < 5 by omega) (by omega)]
      simp (disch := omega) only [z_ldR, z_stI, z_ldI]
      rw [← hs2]
    show ∃ s', _ ∧ fX0_weighSwaps_L10 (nI a) (nI p) (iV (V a p)) r (nI j) s = r (nI (j + 1)) s'
    rw [hgo]
    rcases i3 j hj (Nat.le_refl _) with ⟨e1, e2⟩ | ⟨q, q1, q2, q3, q4, q5⟩
    · rw [if_pos e1]
      exact ⟨s2, ⟨n1, hnew (fun q2 h1 h2 => by
        by_cases e : q2 = p
        · rw [e]; exact Int.le_refl _
        · exact absurd h2 (e2 q2 (by omega)))⟩, rfl⟩
    · have w3 := z6 j q hj (by omega)
      have w4 := z6 a q ha (by omega)
      have hcmp : (iV (V j p - V a p) < s.1 (39 + a) j) = (V j p - V a p < V j q - V a q) := by rw [q4, iV_lt (by unfold sml; omega) (by unfold sml; omega)]
      rw [if_neg (by rw [q3]; exact z_neg1 q (by omega))]
      by_cases hlt : V j p - V a p < V j q - V a q
      · rw [if_pos (hcmp.mpr hlt)]
        exact ⟨s2, ⟨n1, hnew (fun q2 h1 h2 => by
          by_cases e : q2 = p
          · rw [e]; exact Int.le_refl _
          · have := q5 q2 (by omega) h2
            omega)⟩, rfl⟩
      · rw [if_neg (fun h => hlt (hcmp.mp h))]
        refine ⟨s, ⟨i1, fun b hb hbj => ?_, fun b hb hbj => i3 b hb (by omega)⟩, rfl⟩
        by_cases e : b = j
        · subst e
          refine Or.inr ⟨q, by omega, q2, q3, q4, fun q2 h1 h2 => ?_⟩
          by_cases e : q2 = p
          · rw [e]; omega
          · exact q5 q2 (by omega) h2
        · exact i2 b hb (by omega)
  · rintro s r ⟨i1, i2, i3⟩
    refine ⟨s, ?_, i1, fun b hb => i2 b hb hb⟩
    show fX0_weighSwaps_L10 (nI a) (nI p) (iV (V a p)) r (nI nh) s = _
    have e6 : s.1 1 6 = nI nh := by rw [i1 1 (by omega) (by omega), hF 1 (by omega)]; exact z4
    unfold fX0_weighSwaps_L10
    rw [e6, if_neg (Int32.lt_irrefl)]
theorem z_findSwaps {N nh ns L : Nat} {S0 S : St} {V g : Nat → Nat → Int} {pl : Nat → Nat} (hN : 1000 ≤ N) (hz : Hz S0 nh ns L V pl) (hF : FC S0 S) (hg : ∀ x q, x < nh → q < 24 → S.1 (33 + x) q = iV (g x q)) (hgb : ∀ x q, sml (g x q)) : ∃ S2, fX0_findSwaps N S = some S2 ∧ (∀ c, c < 39 ∨ 50 ≤ c → S2.1 c = S.1 c) ∧ (∀ a b, a < nh → b < nh → SWp S2 V g a b L) := by
  obtain ⟨z1, z2, z3, z4, z5, z6, z7, z8⟩ := id hz
  unfold fX0_findSwaps
  refine it_for (σ := St) (F := fX0_findSwaps_L2 N) (fun j s (r : Int32 → St → Option St) => r (nI j) s) nh (fun j s => (∀ c, c < 39 ∨ 50 ≤ c → s.1 c = S.1 c) ∧ (∀ a b, a < j → b < nh → SWp s V g a b L)) (fun o => ∃ S2, o = some S2 ∧ (∀ c, c < 39 ∨ 50 ≤ c → S2.1 c = S.1 c) ∧ (∀ a b, a < nh → b < nh → SWp S2 V g a b L)) ?_ ?_ N 0 S (by omega) (by omega) ⟨fun _ _ => rfl, fun a b h => absurd h (by omega)⟩
  · rintro a s r ha ⟨i1, i2⟩
    right
    have e6 : s.1 1 6 = nI nh := by rw [i1 1 (by omega), hF 1 (by omega)]; exact z4
    obtain ⟨s1, es1, f1, f2, -, -⟩ := z_fill (N := N) (k := 45 + a) (n := 5) (b := -1) (S := s) (by omega) (by omega)
    have hgo : fX0_findSwaps_L2 N r (nI a) s = itN (fun _ _ => none) (fX0_findSwaps_L25 N (nI a) (fun (S10 : St) => r (nI (a + 1)) S10)) N 0 s1 := by
      unfold fX0_findSwaps_L2
      rw [e6, if_pos (nI_lt ha (by omega)), z_ldR (show a < 5 by omega) (by omega), es1, caV_some]
      simp only [nmI, nI_1]
    show ∃ s', _ ∧ fX0_findSwaps_L2 N r (nI a) s = r (nI (a + 1)) s'
    rw [hgo]
    have hin : ∃ s2, itN (fun _ _ => none) (fX0_findSwaps_L25 N (nI a) (fun (S10 : St) => r (nI (a + 1)) S10)) N 0 s1 = r (nI (a + 1)) s2 ∧ (∀ c, c ≠ 39 + a → c ≠ 45 + a → s2.1 c = s1.1 c) ∧ (∀ b, b < nh → SWp s2 V g a b L) := by
      refine it_for (σ := St) (F := fX0_findSwaps_L25 N (nI a) (fun (S10 : St) => r (nI (a + 1)) S10)) (fun j s (r : Int32 → St → Option St) => r (nI j) s) L (fun p s => (∀ c, c ≠ 39 + a → c ≠ 45 + a → s.1 c = s1.1 c) ∧ (∀ b, b < nh → SWp s V g a b p)) (fun o => ∃ s2, o = r (nI (a + 1)) s2 ∧ (∀ c, c ≠ 39 + a → c ≠ 45 + a → s2.1 c = s1.1 c) ∧ (∀ b, b < nh → SWp s2 V g a b L)) ?_ ?_ N 0 s1 (by omega) (by omega) ⟨fun _ _ _ => rfl, fun b hb => Or.inl ⟨f2 b (by omega), fun q hq => absurd hq (by omega)⟩⟩
      · rintro p t rr hp ⟨j1, j2⟩
        right
        have ht : ∀ c, c < 39 → t.1 c = S.1 c := fun c hc => by rw [j1 c (by omega) (by omega), f1 c (by omega)]; exact i1 c (by omega)
        have hFt : FC S0 t := fun c hc => by rw [ht c (by omega)]; exact hF c hc
        have e12 : t.1 12 3 = nI L := by rw [hFt 12 (by omega)]; exact z5
        have e33 : t.1 (33 + a) p = iV (g a p) := by rw [ht _ (by omega)]; exact hg a p ha (by omega)
        have hc0 := iV_le0 (hgb a p)
        show ∃ s', _ ∧ fX0_findSwaps_L25 N (nI a) _ rr (nI p) t = rr (nI (p + 1)) s'
        unfold fX0_findSwaps_L25
        rw [e12, if_pos (nI_lt hp (by omega)), z_ldR (show a < 5 by omega) (by omega), z_ldI (show p < 24 by omega) (by omega), e33]
        by_cases h0 : g a p ≤ 0
        · rw [if_pos (hc0.mpr h0)]
          simp only [nmI, nI_1]
          refine ⟨t, ⟨j1, fun b hb => ?_⟩, rfl⟩
          rcases j2 b hb with ⟨e1, e2⟩ | ⟨q, q1, q2, q3, q4, q5⟩
          · refine Or.inl ⟨e1, fun q hq hgq => ?_⟩
            by_cases e : q = p
            · rw [e] at hgq; omega
            · exact e2 q (by omega) hgq
          · refine Or.inr ⟨q, by omega, q2, q3, q4, fun q2 h1 h2 => ?_⟩
            by_cases e : q2 = p
            · rw [e] at h2; omega
            · exact q5 q2 (by omega) h2
        · obtain ⟨t2, et2, k1, k2⟩ := z_weigh (N := N) hN hz hFt ha hp (by omega) j2
          rw [if_neg (fun h => h0 (hc0.mp h)), et2, caV_some]
          simp only [nmI, nI_1]
          exact ⟨t2, ⟨fun c h1 h2 => by rw [k1 c h1 h2]; exact j1 c h1 h2, k2⟩, rfl⟩
      · rintro t rr ⟨j1, j2⟩
        refine ⟨t, ?_, j1, j2⟩
        show fX0_findSwaps_L25 N (nI a) _ rr (nI L) t = _
        have e12 : t.1 12 3 = nI L := by rw [j1 12 (by omega) (by omega), f1 12 (by omega), i1 12 (by omega), hF 12 (by omega)]; exact z5
        unfold fX0_findSwaps_L25
        rw [e12, if_neg (Int32.lt_irrefl)]
    obtain ⟨s2, es2, j1, j2⟩ := hin
    rw [es2]
    refine ⟨s2, ⟨fun c hc => by rw [j1 c (by omega) (by omega), f1 c (by omega)]; exact i1 c hc, fun a2 b h1 h2 => ?_⟩, rfl⟩
    by_cases e : a2 = a
    · rw [e]; exact j2 b h2
    · exact SWp_eq (by rw [j1 _ (by omega) (by omega), f1 _ (by omega)]) (by rw [j1 _ (by omega) (by omega), f1 _ (by omega)]) (i2 a2 b (by omega) h2)
  · rintro s r ⟨i1, i2⟩
    refine ⟨s, ?_, i1, i2⟩
    show fX0_findSwaps_L2 N r (nI nh) s = _
    have e6 : s.1 1 6 = nI nh := by rw [i1 1 (by omega), hF 1 (by omega)]; exact z4
    unfold fX0_findSwaps_L2
    rw [e6, if_neg (Int32.lt_irrefl)]
