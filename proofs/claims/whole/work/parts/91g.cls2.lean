/-! the least toil: the class, chains -/
def CT (S0 Sb : St) (nh : Nat) (tk pl : Nat → Nat) (d : Nat → Int) (fr : Nat → Option Nat) (S : St) : Prop := FC S0 S ∧ (∀ c, c < 50 → S.1 c = Sb.1 c) ∧ (∀ x, x < nh → S.1 50 x = iV (d x)) ∧ (∀ x, x < nh → S.1 51 x = eO ((fr x).map tk)) ∧ (∀ x j, x < nh → fr x = some j → Sb.1 (45 + tk j) x = nI (pl j))
theorem CT_up {S0 Sb S : St} {nh b j a : Nat} {tk pl : Nat → Nat} {d : Nat → Int} {fr : Nat → Option Nat} {v : Int} (hj : tk j = a) (hp : Sb.1 (45 + a) b = nI (pl j)) (h : CT S0 Sb nh tk pl d fr S) : CT S0 Sb nh tk pl (up1 d b v) (up1 fr b (some j)) (wr (wr S 50 b (iV v)) 51 b (nI a)) := by
  obtain ⟨h1, h2, h3, h4, h5⟩ := h
  refine ⟨fun c hc => by rw [z_wr_row (by omega), z_wr_row (by omega)]; exact h1 c hc, fun c hc => by rw [z_wr_row (by omega), z_wr_row (by omega)]; exact h2 c hc, fun x hx => ?_, fun x hx => ?_, fun x l hx hl => ?_⟩
  · rw [z_wr_ne (by omega)]
    by_cases e : x = b
    · rw [e, z_wr_eq, up1_eq]
    · rw [z_wr_oth e, up1_ne e]; exact h3 x hx
  · by_cases e : x = b
    · rw [e, z_wr_eq, up1_eq]
      show nI a = nI (tk j)
      rw [hj]
    · rw [z_wr_oth e, up1_ne e, z_wr_ne (by omega)]; exact h4 x hx
  · by_cases e : x = b
    · rw [e, up1_eq] at hl
      have : j = l := Option.some.inj hl
      subst this
      rw [e, hj]; exact hp
    · rw [up1_ne e] at hl
      exact h5 x l hx hl
def CB (S0 Sb : St) (nh i : Nat) (act : Nat → Bool) (V : Nat → Nat → Int) (tk pl : Nat → Nat) (P : Nat → Int) (m : Nat) (dn : Nat → Nat → Prop) (S : St) : Prop :=
  ∃ d fr u q, BF nh i act (fun j x => V x (pl j)) tk P (fun x => V x (pl i)) m dn d fr u q ∧ CT S0 Sb nh tk pl d fr S
theorem CB_mono {S0 Sb S : St} {nh i m : Nat} {act : Nat → Bool} {V : Nat → Nat → Int} {tk pl : Nat → Nat} {P : Nat → Int} {dn dn2 : Nat → Nat → Prop} (hd : ∀ j b, j < i → act j = true → b < nh → dn2 j b → dn j b) (h : CB S0 Sb nh i act V tk pl P m dn S) : CB S0 Sb nh i act V tk pl P m dn2 S := by
  obtain ⟨d, fr, u, q, h1, h2⟩ := h
  exact ⟨d, fr, u, q, BF_no h1 (fun j b hj ha hb hx => Or.inl (hd j b hj ha hb hx)), h2⟩
/-- one heap behind another -/
theorem z_len1 {nh ns L i m a b : Nat} {S0 Sb S : St} {act : Nat → Bool} {V : Nat → Nat → Int} {tk pl : Nat → Nat} {cap P : Nat → Int} {r : Int32 → St → Option St} (hz : Hz S0 nh ns L V pl) (hi : i < ns) (hO : Opt nh act (fun j x => V x (pl j)) cap i tk P) (hSW : ∀ a b, a < nh → b < nh → SWp Sb V (fun x q => gv act tk pl x q i) a b L) (ha : a < nh) (hb : b < nh) (hB : CB S0 Sb nh i act V tk pl P m (fun j y => tk j < a ∨ (tk j = a ∧ y < b)) S) : ∃ S2, fX0_lengthenChains_L2 (nI a) r (nI b) S = r (nI (b + 1)) S2 ∧ CB S0 Sb nh i act V tk pl P m (fun j y => tk j < a ∨ (tk j = a ∧ y < b + 1)) S2 := by
  obtain ⟨z1, z2, z3, z4, z5, z6, z7, z8⟩ := id hz
  obtain ⟨d, fr, u, q, h1, h2⟩ := hB
  have hbd := BF_low z1 hO.1 (fun j x hj _ hx => z6 x (pl j) hx (z8 j (by omega))) (fun x hx => z6 x (pl i) hx (z8 i hi)) h1
  obtain ⟨g1, g2, g3, g4, g5⟩ := id h2
  have e6 : S.1 1 6 = nI nh := by rw [g1 1 (by omega)]; exact z4
  have b1 := hbd a ha
  have b2 := hbd b hb
  unfold fX0_lengthenChains_L2
  rw [e6, if_pos (nI_lt hb (by omega)), z_ldI (show a < 5 by omega) (by omega), g3 a ha, z_ldR (show a < 5 by omega) (by omega), z_ldI (show b < 5 by omega) (by omega)]
  simp only [nmI]
  rw [z_ldR (show a < 5 by omega) (by omega), z_ldI (show b < 5 by omega) (by omega), g2 (45 + a) (by omega), g2 (39 + a) (by omega), nI_1]
  rcases hSW a b ha hb with ⟨e1, e2⟩ | ⟨p, q1, q2, q3, q4, q5⟩
  · rw [e1, if_pos rfl]
    refine ⟨S, rfl, d, fr, u, q, BF_no h1 (fun j y hj haj hy hx => ?_), h2⟩
    rcases hx with hx | ⟨hx, hx2⟩
    · exact Or.inl (Or.inl hx)
    · have := gv_pos (tk := tk) (pl := pl) haj hj
      rw [hx] at this
      exact absurd this (e2 (pl j) (z8 j (by omega)))
  · rw [q3, if_neg (z_neg1 p (by omega)), q4, iV_add, z_ldI (show b < 5 by omega) (by omega), g3 b hb]
    have w1 := z6 b p hb q1
    have w2 := z6 a p ha q1
    have hcmp : (iV (d a + (V b p - V a p)) < iV (d b)) = (d a + (V b p - V a p) < d b) := iV_lt (by unfold sml; omega) (by unfold sml; omega)
    obtain ⟨j0, hj0, ha0, et0, ep0⟩ := gv_ex q2
    have hmin : ∀ j, j < i → act j = true → tk j = a → V b p - V a p ≤ V b (pl j) - V a (pl j) := by
      intro j hj haj ht
      have := gv_pos (tk := tk) (pl := pl) haj hj
      rw [ht] at this
      exact q5 (pl j) (z8 j (by omega)) this
    by_cases hlt : d a + (V b p - V a p) < d b
    · rw [if_pos (hcmp.mpr hlt), z_stI (show b < 5 by omega) (by omega), z_stI (show b < 5 by omega) (by omega)]
      obtain ⟨u2, q2', hb2, -⟩ := BF_up (j0 := j0) (b0 := b) (dn2 := fun j y => tk j < a ∨ (tk j = a ∧ y < b + 1)) hO h1 hj0 ha0 hb (by
        show d (tk j0) + V b (pl j0) - V (tk j0) (pl j0) < d b
        rw [et0, ep0]; omega) (fun j y hj haj hy hx => by
        rcases hx with hx | ⟨hx, hx2⟩
        · exact Or.inl (Or.inl hx)
        · by_cases e : y = b
          · refine Or.inr ⟨by rw [hx, et0], e, ?_⟩
            have := hmin j hj haj hx
            show V b (pl j0) - V (tk j0) (pl j0) ≤ V b (pl j) - V (tk j0) (pl j)
            rw [et0, ep0]
            exact this
          · exact Or.inl (Or.inr ⟨hx, by omega⟩))
      have ev : d (tk j0) + V b (pl j0) - V (tk j0) (pl j0) = d a + (V b p - V a p) := by rw [et0, ep0]; omega
      rw [ev] at hb2
      exact ⟨_, rfl, _, _, u2, q2', hb2, CT_up et0 (by rw [q3, ep0]) h2⟩
    · rw [if_neg (fun h => hlt (hcmp.mp h))]
      refine ⟨S, rfl, d, fr, u, q, BF_no h1 (fun j y hj haj hy hx => ?_), h2⟩
      rcases hx with hx | ⟨hx, hx2⟩
      · exact Or.inl (Or.inl hx)
      · by_cases e : y = b
        · right
          have := hmin j hj haj hx
          rw [hx, e]
          show d b ≤ d a + V b (pl j) - V a (pl j)
          omega
        · exact Or.inl (Or.inr ⟨hx, by omega⟩)
theorem CB_6 {S0 Sb S : St} {nh ns L i m : Nat} {act : Nat → Bool} {V : Nat → Nat → Int} {tk pl : Nat → Nat} {P : Nat → Int} {dn : Nat → Nat → Prop} (hz : Hz S0 nh ns L V pl) (h : CB S0 Sb nh i act V tk pl P m dn S) : S.1 1 6 = nI nh := by
  obtain ⟨d, fr, u, q, h1, h2⟩ := h
  rw [h2.1 1 (by omega)]
  exact hz.2.2.2.1
theorem z_lengthen {N nh ns L i m a : Nat} {S0 Sb S : St} {act : Nat → Bool} {V : Nat → Nat → Int} {tk pl : Nat → Nat} {cap P : Nat → Int} (hN : 1000 ≤ N) (hz : Hz S0 nh ns L V pl) (hi : i < ns) (hO : Opt nh act (fun j x => V x (pl j)) cap i tk P) (hSW : ∀ a b, a < nh → b < nh → SWp Sb V (fun x q => gv act tk pl x q i) a b L) (ha : a < nh) (hB : CB S0 Sb nh i act V tk pl P m (fun j _ => tk j < a) S) : ∃ S2, fX0_lengthenChains N (nI a) S = some S2 ∧ CB S0 Sb nh i act V tk pl P m (fun j _ => tk j < a + 1) S2 := by
  have z1 := hz.1
  unfold fX0_lengthenChains
  refine it_for (σ := St) (F := fX0_lengthenChains_L2 (nI a)) (fun j s (r : Int32 → St → Option St) => r (nI j) s) nh (fun b s => CB S0 Sb nh i act V tk pl P m (fun j y => tk j < a ∨ (tk j = a ∧ y < b)) s) (fun o => ∃ S2, o = some S2 ∧ CB S0 Sb nh i act V tk pl P m (fun j _ => tk j < a + 1) S2) ?_ ?_ N 0 S (by omega) (by omega) (CB_mono (fun j y _ _ _ hx => by omega) hB)
  · intro b s r hb hI
    obtain ⟨S2, e, h⟩ := z_len1 (r := r) hz hi hO hSW ha hb hI
    exact Or.inr ⟨S2, h, e⟩
  · intro s r hI
    refine ⟨s, ?_, CB_mono (fun j y _ _ hy hx => by omega) hI⟩
    show fX0_lengthenChains_L2 (nI a) r (nI nh) s = _
    unfold fX0_lengthenChains_L2
    rw [CB_6 hz hI, if_neg (Int32.lt_irrefl)]
theorem z_findChains {N nh ns L i : Nat} {S0 S : St} {act : Nat → Bool} {V : Nat → Nat → Int} {tk pl : Nat → Nat} {cap P : Nat → Int} (hN : 1000 ≤ N) (hz : Hz S0 nh ns L V pl) (hi : i < ns) (hF : FC S0 S) (hO : Opt nh act (fun j x => V x (pl j)) cap i tk P) (hSW : ∀ a b, a < nh → b < nh → SWp S V (fun x q => gv act tk pl x q i) a b L) : ∃ d fr R S2, fX0_findChains N (nI (pl i)) S = some S2 ∧ Fx nh i act (fun j x => V x (pl j)) tk (fun x => V x (pl i)) d fr R ∧ (∀ x, x < nh → -100000 ≤ d x ∧ d x ≤ 20000) ∧ CT S0 S nh tk pl d fr S2 := by
  obtain ⟨z1, z2, z3, z4, z5, z6, z7, z8⟩ := id hz
  unfold fX0_findChains
  obtain ⟨K, hK⟩ : ∃ K : St → Option St, K = fun (S5 : St) => itN (fun _ _ => none) (fX0_findChains_L40 N) N 0 S5 := ⟨_, rfl⟩
  rw [← hK]
  have s1 : ∃ S1, itN (fun _ _ => none) (fX0_findChains_L2 (nI (pl i)) K) N 0 S = K S1 ∧ CT S0 S nh tk pl (fun x => V x (pl i)) (fun _ => none) S1 := by
    refine it_for (σ := St) (F := fX0_findChains_L2 (nI (pl i)) K) (fun j s (r : Int32 → St → Option St) => r (nI j) s) nh (fun j s => CT S0 S j tk pl (fun x => V x (pl i)) (fun _ => none) s) (fun o => ∃ S1, o = K S1 ∧ CT S0 S nh tk pl (fun x => V x (pl i)) (fun _ => none) S1) ?_ ?_ N 0 S (by omega) (by omega) ⟨hF, fun _ _ => rfl, fun x hx => absurd hx (by omega), fun x hx => absurd hx (by omega), fun x j hx => absurd hx (by omega)⟩
    · rintro j s r hj ⟨h1, h2, h3, h4, h5⟩
      refine Or.inr ⟨wr (wr s 50 j (iV (V j (pl i)))) 51 j (-1), ⟨fun c hc => by rw [z_wr_row (by omega), z_wr_row (by omega)]; exact h1 c hc, fun c hc => by rw [z_wr_row (by omega), z_wr_row (by omega)]; exact h2 c hc, fun x hx => ?_, fun x hx => ?_, fun x l hx hl => absurd hl (by simp)⟩, ?_⟩
      · rw [z_wr_ne (by omega)]
        by_cases e : x = j
        · rw [e, z_wr_eq]
        · rw [z_wr_oth e]; exact h3 x (by omega)
      · by_cases e : x = j
        · rw [e, z_wr_eq]; rfl
        · rw [z_wr_oth e, z_wr_ne (by omega)]; exact h4 x (by omega)
      · show fX0_findChains_L2 (nI (pl i)) K r (nI j) s = _
        have e6 : s.1 1 6 = nI nh := by rw [h1 1 (by omega)]; exact z4
        unfold fX0_findChains_L2
        rw [e6, if_pos (nI_lt hj (by omega)), z7 s h1 j (pl i) hj (z8 i hi), caP_some, z_stI (show j < 5 by omega) (by omega), z_stI (show j < 5 by omega) (by omega)]
        simp only [nmI, nI_1]
    · intro s r hI
      refine ⟨s, ?_, hI⟩
      show fX0_findChains_L2 (nI (pl i)) K r (nI nh) s = _
      have e6 : s.1 1 6 = nI nh := by rw [hI.1 1 (by omega)]; exact z4
      unfold fX0_findChains_L2
      rw [e6, if_neg (Int32.lt_irrefl)]
  obtain ⟨S1, e1, h1⟩ := s1
  rw [e1, hK]
  show ∃ d fr R S2, itN (fun _ _ => none) (fX0_findChains_L40 N) N 0 S1 = _ ∧ _
  refine it_for (σ := St) (F := fX0_findChains_L40 N) (fun j s (r : Int32 → St → Option St) => r (nI j) s) nh (fun t s => CB S0 S nh i act V tk pl P (t + 1) (fun _ _ => False) s) (fun o => ∃ d fr R S2, o = some S2 ∧ Fx nh i act (fun j x => V x (pl j)) tk (fun x => V x (pl i)) d fr R ∧ (∀ x, x < nh → -100000 ≤ d x ∧ d x ≤ 20000) ∧ CT S0 S nh tk pl d fr S2) ?_ ?_ N 0 S1 (by omega) (by omega) ⟨_, _, fun _ => 0, fun _ => 0, BF_0 (fun _ _ => rfl) (fun _ _ => rfl), h1⟩
  · intro t s r ht hI
    right
    show ∃ s', _ ∧ fX0_findChains_L40 N r (nI t) s = r (nI (t + 1)) s'
    unfold fX0_findChains_L40
    rw [CB_6 hz hI, if_pos (nI_lt ht (by omega))]
    simp only [nmI, nI_1]
    have hin : ∃ s2, itN (fun _ _ => none) (fX0_findChains_L53 N (fun (S13 : St) => r (nI (t + 1)) S13)) N 0 s = r (nI (t + 1)) s2 ∧ CB S0 S nh i act V tk pl P (t + 1) (fun j _ => tk j < nh) s2 := by
      refine it_for (σ := St) (F := fX0_findChains_L53 N (fun (S13 : St) => r (nI (t + 1)) S13)) (fun j s (r : Int32 → St → Option St) => r (nI j) s) nh (fun a s => CB S0 S nh i act V tk pl P (t + 1) (fun j _ => tk j < a) s) (fun o => ∃ s2, o = r (nI (t + 1)) s2 ∧ CB S0 S nh i act V tk pl P (t + 1) (fun j _ => tk j < nh) s2) ?_ ?_ N 0 s (by omega) (by omega) (CB_mono (fun j y _ _ _ hx => by omega) hI)
      · intro a s rr ha hJ
        obtain ⟨S2, e, h⟩ := z_lengthen (N := N) hN hz hi hO hSW ha hJ
        refine Or.inr ⟨S2, h, ?_⟩
        show fX0_findChains_L53 N _ rr (nI a) s = rr (nI (a + 1)) S2
        unfold fX0_findChains_L53
        rw [CB_6 hz hJ, if_pos (nI_lt ha (by omega)), e, caV_some]
        simp only [nmI, nI_1]
      · intro s rr hJ
        refine ⟨s, ?_, hJ⟩
        show fX0_findChains_L53 N _ rr (nI nh) s = _
        unfold fX0_findChains_L53
        rw [CB_6 hz hJ, if_neg (Int32.lt_irrefl)]
    obtain ⟨s2, es2, d, fr, u, q, k1, k2⟩ := hin
    rw [es2]
    exact ⟨s2, ⟨d, fr, u, q, BF_next (fun j b hj ha _ => hO.1 j hj ha) k1, k2⟩, rfl⟩
  · rintro s r ⟨d, fr, u, q, k1, k2⟩
    obtain ⟨R, hFx⟩ := BF_fix hO.1 k1 (Or.inr (by omega))
    refine ⟨d, fr, R, s, ?_, hFx, BF_low z1 hO.1 (fun j x hj _ hx => z6 x (pl j) hx (z8 j (by omega))) (fun x hx => z6 x (pl i) hx (z8 i hi)) k1, k2⟩
    show fX0_findChains_L40 N r (nI nh) s = _
    unfold fX0_findChains_L40
    rw [CB_6 hz ⟨d, fr, u, q, k1, k2⟩, if_neg (Int32.lt_irrefl)]
