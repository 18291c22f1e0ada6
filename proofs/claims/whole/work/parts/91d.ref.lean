/-! the least toil: the reference -/
def FR (T0 T : St) : Prop := ∀ c, c ≠ 15 → c ≠ 16 → c ≠ 18 → T.1 c = T0.1 c
/-- what the reference's loops know -/
def Hy (T0 : St) (nh ns : Nat) (W : Nat → Nat → Int) : Prop := nh ≤ 5 ∧ ns ≤ 144 ∧ T0.1 0 3 = nI nh ∧ (∀ j x, j < ns → x < nh → 0 ≤ W j x ∧ W j x ≤ 20000) ∧ (∀ T, FR T0 T → ∀ j x, j < ns → x < nh → fX6_toil (nI j) (nI x) T = some (lV (W j x)))
/-- a state within add -/
def RT (T0 Tb : St) (nh : Nat) (d : Nat → Int) (fr : Nat → Option Nat) (T : St) : Prop := FR T0 T ∧ T.1 15 = Tb.1 15 ∧ T.1 16 = Tb.1 16 ∧ (∀ x, x < nh → T.2 x = lV (d x)) ∧ (∀ x, x < nh → T.1 18 x = eO (fr x))
theorem wl_1 {T : St} {x : Nat} {v : Int64} {c : Nat} : (wl T x v).1 c = T.1 c := rfl
theorem RT_up {T0 Tb T : St} {nh x j : Nat} {d : Nat → Int} {fr : Nat → Option Nat} {v : Int} (h : RT T0 Tb nh d fr T) : RT T0 Tb nh (up1 d x v) (up1 fr x (some j)) (wr (wl T x (lV v)) 18 x (nI j)) := by
  obtain ⟨h1, h2, h3, h4, h5⟩ := h
  refine ⟨fun c a b e => by rw [z_wr_row e, wl_1]; exact h1 c a b e, by rw [z_wr_row (by omega), wl_1]; exact h2, by rw [z_wr_row (by omega), wl_1]; exact h3, fun y hy => ?_, fun y hy => ?_⟩
  · rw [z_wr2, z_wl2]
    by_cases e : y = x
    · rw [if_pos e, e, up1_eq]
    · rw [if_neg e, up1_ne e]; exact h4 y hy
  · by_cases e : y = x
    · rw [e, z_wr_eq, up1_eq]; rfl
    · rw [z_wr_oth e, up1_ne e, wl_1]; exact h5 y hy
/-- first: the ways straight from a heap -/
theorem add_init {N nh ns i : Nat} {T0 T : St} {W : Nat → Nat → Int} {K : St → Option (Int64 × St)} (hN : 1000 ≤ N) (hy : Hy T0 nh ns W) (hi : i < ns) (hF : FR T0 T) : ∃ T1, itN (fun _ _ => none) (fX6_add_L2 (nI i) K) N 0 T = K T1 ∧ RT T0 T nh (W i) (fun _ => none) T1 := by
  obtain ⟨y1, y2, y3, y4, y5⟩ := hy
  refine it_for (σ := St) (F := fX6_add_L2 (nI i) K) (fun j s (r : Int32 → St → Option (Int64 × St)) => r (nI j) s) nh (fun j s => RT T0 T j (W i) (fun _ => none) s) (fun o => ∃ T1, o = K T1 ∧ RT T0 T nh (W i) (fun _ => none) T1) ?_ ?_ N 0 T (by omega) (by omega) ⟨hF, rfl, rfl, fun x hx => absurd hx (by omega), fun x hx => absurd hx (by omega)⟩
  · intro j s r hj hI
    obtain ⟨h1, h2, h3, h4, h5⟩ := hI
    refine Or.inr ⟨wr (wl s j (lV (W i j))) 18 j (-1), ⟨fun c a b e => by rw [z_wr_row e, wl_1]; exact h1 c a b e, by rw [z_wr_row (by omega), wl_1]; exact h2, by rw [z_wr_row (by omega), wl_1]; exact h3, fun y hy => ?_, fun y hy => ?_⟩, ?_⟩
    · rw [z_wr2, z_wl2]
      by_cases e : y = j
      · rw [if_pos e, e]
      · rw [if_neg e]; exact h4 y (by omega)
    · by_cases e : y = j
      · rw [e, z_wr_eq]; rfl
      · rw [z_wr_oth e, wl_1]; exact h5 y (by omega)
    · show fX6_add_L2 (nI i) K r (nI j) s = _
      unfold fX6_add_L2
      have e3 : s.1 0 3 = nI nh := by rw [h1 0 (by omega) (by omega) (by omega)]; exact y3
      rw [e3, if_pos (nI_lt hj (by omega)), y5 s h1 i j hi hj, caP_some, z_stL (show j < 5 by omega) (by omega), z_stI (show j < 5 by omega) (by omega)]
      simp only [nmI, nI_1]
  · intro s r hI
    refine ⟨s, ?_, hI⟩
    show fX6_add_L2 (nI i) K r (nI nh) s = _
    unfold fX6_add_L2
    have e3 : s.1 0 3 = nI nh := by rw [hI.1 0 (by omega) (by omega) (by omega)]; exact y3
    rw [e3, if_neg (Int32.lt_irrefl)]
/-- in round m of the search -/
def RB (T0 Tb : St) (nh i : Nat) (act : Nat → Bool) (W : Nat → Nat → Int) (tk : Nat → Nat) (P : Nat → Int) (m : Nat) (dn : Nat → Nat → Prop) (fl : Int32) (T : St) : Prop :=
  ∃ d fr u q, BF nh i act W tk P (W i) m dn d fr u q ∧ RT T0 Tb nh d fr T ∧ ((fl = 1 ∧ ∃ b, b < nh ∧ m ≤ u b) ∨ (fl = 0 ∧ ∀ j b, j < i → act j = true → b < nh → dn j b → d b ≤ d (tk j) + W j b - W j (tk j)))
theorem RB_mono {T0 Tb T : St} {nh i m : Nat} {act : Nat → Bool} {W : Nat → Nat → Int} {tk : Nat → Nat} {P : Nat → Int} {dn dn2 : Nat → Nat → Prop} {fl : Int32} (hd : ∀ j b, j < i → act j = true → b < nh → dn2 j b → dn j b) (h : RB T0 Tb nh i act W tk P m dn fl T) : RB T0 Tb nh i act W tk P m dn2 fl T := by
  obtain ⟨d, fr, u, q, h1, h2, h3⟩ := h
  refine ⟨d, fr, u, q, BF_no h1 (fun j b hj ha hb hx => Or.inl (hd j b hj ha hb hx)), h2, ?_⟩
  rcases h3 with h3 | ⟨h3, h4⟩
  · exact Or.inl h3
  · exact Or.inr ⟨h3, fun j b hj ha hb hx => h4 j b hj ha hb (hd j b hj ha hb hx)⟩
/-- one stone, one heap -/
theorem add_68 {nh ns i m j h : Nat} {T0 Tb T : St} {act : Nat → Bool} {W : Nat → Nat → Int} {tk : Nat → Nat} {cap P : Nat → Int} {dn : Nat → Nat → Prop} {fl : Int32} {K : Int32 → St → Option (Int64 × St)} {r : Int32 → Int32 → St → Option (Int64 × St)} (hy : Hy T0 nh ns W) (hi : i < ns) (hO : Opt nh act W cap i tk P) (hj : j < i) (ha : act j = true) (hh : h < nh) (h15 : Tb.1 15 j = nI (tk j)) (hB : RB T0 Tb nh i act W tk P m (fun a b => dn a b ∨ (a = j ∧ b < h)) fl T) : ∃ fl2 T2, fX6_add_L68 (nI j) K r fl (nI h) T = r fl2 (nI (h + 1)) T2 ∧ RB T0 Tb nh i act W tk P m (fun a b => dn a b ∨ (a = j ∧ b < h + 1)) fl2 T2 := by
  obtain ⟨y1, y2, y3, y4, y5⟩ := id hy
  obtain ⟨d, fr, u, q, h1, h2, h3⟩ := hB
  have hbd := BF_low y1 hO.1 (fun j x hj _ hx => y4 j x (by omega) hx) (fun x hx => y4 i x hi hx) h1
  obtain ⟨g1, g2, g3, g4, g5⟩ := id h2
  have htk := hO.1 j hj ha
  have e3 : T.1 0 3 = nI nh := by rw [g1 0 (by omega) (by omega) (by omega)]; exact y3
  have e15 : T.1 15 j = nI (tk j) := by rw [g2]; exact h15
  have b1 := hbd h hh
  have b2 := hbd (tk j) htk
  have b3 := y4 j h (by omega) hh
  have b4 := y4 j (tk j) (by omega) htk
  unfold fX6_add_L68
  rw [e3, if_pos (nI_lt hh (by omega)), z_ldI (show j < 150 by omega) (by omega), e15, z_ldL (show tk j < 5 by omega) (by omega), g4 _ htk, y5 T g1 j h (by omega) hh, caP_some, z_ldI (show j < 150 by omega) (by omega), e15, y5 T g1 j (tk j) (by omega) htk, caP_some]
  simp only [nmL]
  rw [lV_add, lV_sub, z_ldL (show h < 5 by omega) (by omega), g4 h hh]
  have hcmp : (lg_cmp (lV (d (tk j) + W j h - W j (tk j))) (lV (d h)) < 0) = (d (tk j) + W j h - W j (tk j) < d h) := by
    rw [lc, lV_lt (by unfold sml; omega) (by unfold sml; omega)]
  by_cases hlt : d (tk j) + W j h - W j (tk j) < d h
  · rw [if_pos (hcmp.mpr hlt), z_stL (show h < 5 by omega) (by omega), z_stI (show h < 5 by omega) (by omega)]
    simp only [nmI, nI_1]
    obtain ⟨u2, q2, hb2, hu2⟩ := BF_up (dn2 := fun a b => dn a b ∨ (a = j ∧ b < h + 1)) hO h1 hj ha hh hlt (fun a b ha1 ha2 hb hx => by
      rcases hx with hx | ⟨hx, hx2⟩
      · exact Or.inl (Or.inl hx)
      · by_cases e : b = h
        · rw [hx]; exact Or.inr ⟨rfl, e, Int.le_refl _⟩
        · exact Or.inl (Or.inr ⟨hx, by omega⟩))
    exact ⟨1, _, rfl, _, _, u2, q2, hb2, RT_up h2, Or.inl ⟨rfl, h, hh, by omega⟩⟩
  · rw [if_neg (fun h => hlt (hcmp.mp h))]
    simp only [nmI, nI_1]
    have hd : ∀ a b, a < i → act a = true → b < nh → (dn a b ∨ (a = j ∧ b < h + 1)) → (dn a b ∨ (a = j ∧ b < h)) ∨ d b ≤ d (tk a) + W a b - W a (tk a) := by
      intro a b ha1 ha2 hb hx
      rcases hx with hx | ⟨hx, hx2⟩
      · exact Or.inl (Or.inl hx)
      · by_cases e : b = h
        · rw [hx, e]; exact Or.inr (by omega)
        · exact Or.inl (Or.inr ⟨hx, by omega⟩)
    refine ⟨fl, T, rfl, d, fr, u, q, BF_no h1 hd, h2, ?_⟩
    rcases h3 with h3 | ⟨h3, h4⟩
    · exact Or.inl h3
    · refine Or.inr ⟨h3, fun a b ha1 ha2 hb hx => ?_⟩
      rcases hd a b ha1 ha2 hb hx with h6 | h6
      · exact h4 a b ha1 ha2 hb h6
      · exact h6
/-- one stone -/
theorem add_46 {N nh ns i m j : Nat} {T0 Tb T : St} {act : Nat → Bool} {W : Nat → Nat → Int} {tk : Nat → Nat} {cap P : Nat → Int} {fl : Int32} {K : Int32 → St → Option (Int64 × St)} {r : Int32 → Int32 → St → Option (Int64 × St)} (hN : 1000 ≤ N) (hy : Hy T0 nh ns W) (hi : i < ns) (hO : Opt nh act W cap i tk P) (hj : j < i) (h15 : ∀ j, j < ns → Tb.1 15 j = if j < i ∧ act j = true then nI (tk j) else -1) (hB : RB T0 Tb nh i act W tk P m (fun a _ => a < j) fl T) : ∃ fl2 T2, fX6_add_L46 N (nI i) K r fl (nI j) T = r fl2 (nI (j + 1)) T2 ∧ RB T0 Tb nh i act W tk P m (fun a _ => a < j + 1) fl2 T2 := by
  obtain ⟨y1, y2, y3, y4, y5⟩ := id hy
  have e15 : T.1 15 j = Tb.1 15 j := by
    obtain ⟨d, fr, u, q, h1, h2, h3⟩ := hB
    rw [h2.2.1]
  unfold fX6_add_L46
  rw [if_pos (nI_lt hj (by omega)), z_ldI (show j < 150 by omega) (by omega), e15]
  by_cases ha : act j = true
  · have htk := hO.1 j hj ha
    have e16 : Tb.1 15 j = nI (tk j) := by rw [h15 j (by omega), if_pos ⟨hj, ha⟩]
    rw [e16, if_neg (nI_pos (by omega))]
    refine it_for (σ := Int32 × St) (F := fX6_add_L68 (nI j) (fun (x51 : Int32) (S52 : St) => nmI (nI j + 1) fun x53 => r x51 x53 S52)) (fun h s (rr : Int32 → Int32 → St → Option (Int64 × St)) => rr s.1 (nI h) s.2) nh (fun h s => RB T0 Tb nh i act W tk P m (fun a b => a < j ∨ (a = j ∧ b < h)) s.1 s.2) (fun o => ∃ fl2 T2, o = r fl2 (nI (j + 1)) T2 ∧ RB T0 Tb nh i act W tk P m (fun a _ => a < j + 1) fl2 T2) ?_ ?_ N 0 (fl, T) (by omega) (by omega) (RB_mono (fun a b _ _ _ hx => by omega) hB)
    · rintro h ⟨f2, s⟩ rr hh hI
      obtain ⟨fl2, T2, e, hb⟩ := add_68 (K := fun (x51 : Int32) (S52 : St) => nmI (nI j + 1) fun x53 => r x51 x53 S52) (r := rr) hy hi hO hj ha hh (by rw [h15 j (by omega), if_pos ⟨hj, ha⟩]) hI
      exact Or.inr ⟨(fl2, T2), hb, e⟩
    · rintro ⟨f2, s⟩ rr hI
      refine ⟨f2, s, ?_, RB_mono (fun a b _ _ hb hx => by omega) hI⟩
      show fX6_add_L68 (nI j) _ rr f2 (nI nh) s = _
      have e3 : s.1 0 3 = nI nh := by
        obtain ⟨d, fr, u, q, h1, h2, h3⟩ := hI
        rw [h2.1 0 (by omega) (by omega) (by omega)]; exact y3
      unfold fX6_add_L68
      rw [e3, if_neg (Int32.lt_irrefl)]
      simp only [nmI, nI_1]
  · have e16 : Tb.1 15 j = -1 := by rw [h15 j (by omega), if_neg (fun h => ha h.2)]
    rw [e16, if_pos (by decide)]
    simp only [nmI, nI_1]
    refine ⟨fl, T, rfl, ?_⟩
    refine RB_mono (fun a b _ h2 _ hx => ?_) hB
    by_cases e : a = j
    · rw [e] at h2; exact absurd h2 ha
    · omega
/-- a round -/
theorem add_round {N nh ns i m : Nat} {T0 Tb T : St} {act : Nat → Bool} {W : Nat → Nat → Int} {tk : Nat → Nat} {cap P : Nat → Int} {K : Int32 → St → Option (Int64 × St)} (hN : 1000 ≤ N) (hy : Hy T0 nh ns W) (hi : i < ns) (hO : Opt nh act W cap i tk P) (h15 : ∀ j, j < ns → Tb.1 15 j = if j < i ∧ act j = true then nI (tk j) else -1) (hB : RB T0 Tb nh i act W tk P m (fun _ _ => False) 0 T) : ∃ fl2 T2, itN (fun _ _ _ => none) (fX6_add_L46 N (nI i) K) N 0 0 T = K fl2 T2 ∧ RB T0 Tb nh i act W tk P m (fun _ _ => True) fl2 T2 := by
  have y2 := hy.2.1
  refine it_for (σ := Int32 × St) (F := fX6_add_L46 N (nI i) K) (fun j s (rr : Int32 → Int32 → St → Option (Int64 × St)) => rr s.1 (nI j) s.2) i (fun j s => RB T0 Tb nh i act W tk P m (fun a _ => a < j) s.1 s.2) (fun o => ∃ fl2 T2, o = K fl2 T2 ∧ RB T0 Tb nh i act W tk P m (fun _ _ => True) fl2 T2) ?_ ?_ N 0 (0, T) (by omega) (by omega) (RB_mono (fun a b _ _ _ hx => by omega) hB)
  · rintro j ⟨f2, s⟩ rr hj hI
    obtain ⟨fl2, T2, e, hb⟩ := add_46 (K := K) (r := rr) hN hy hi hO hj h15 hI
    exact Or.inr ⟨(fl2, T2), hb, e⟩
  · rintro ⟨f2, s⟩ rr hI
    refine ⟨f2, s, ?_, RB_mono (fun a b h _ _ _ => h) hI⟩
    show fX6_add_L46 N (nI i) K rr f2 (nI i) s = _
    unfold fX6_add_L46
    rw [if_neg (Int32.lt_irrefl)]
/-- all rounds -/
theorem add_37 {N nh ns i : Nat} {T0 Tb T : St} {act : Nat → Bool} {W : Nat → Nat → Int} {tk : Nat → Nat} {cap P : Nat → Int} {K : St → Option (Int64 × St)} (hN : 1000 ≤ N) (hy : Hy T0 nh ns W) (hnh : 0 < nh) (hi : i < ns) (hO : Opt nh act W cap i tk P) (h15 : ∀ j, j < ns → Tb.1 15 j = if j < i ∧ act j = true then nI (tk j) else -1) (hT : RT T0 Tb nh (W i) (fun _ => none) T) : ∃ d fr R T2, itN (fun _ _ => none) (fX6_add_L37 N (nI i) K) N 1 T = K T2 ∧ Fx nh i act W tk (W i) d fr R ∧ (∀ x, x < nh → -100000 ≤ d x ∧ d x ≤ 20000) ∧ RT T0 Tb nh d fr T2 := by
  obtain ⟨y1, y2, y3, y4, y5⟩ := id hy
  refine it_run (σ := Int32 × St) (F := fX6_add_L37 N (nI i) K) (fun s (rr : Int32 → St → Option (Int64 × St)) => rr s.1 s.2) (fun μ s => (s.1 = 1 ∧ ∃ m, m ≤ nh ∧ μ = nh + 1 - m ∧ ∃ d fr u q, BF nh i act W tk P (W i) m (fun _ _ => False) d fr u q ∧ RT T0 Tb nh d fr s.2) ∨ (s.1 = 0 ∧ μ = 0 ∧ ∃ d fr R, Fx nh i act W tk (W i) d fr R ∧ (∀ x, x < nh → -100000 ≤ d x ∧ d x ≤ 20000) ∧ RT T0 Tb nh d fr s.2)) (fun o => ∃ d fr R T2, o = K T2 ∧ Fx nh i act W tk (W i) d fr R ∧ (∀ x, x < nh → -100000 ≤ d x ∧ d x ≤ 20000) ∧ RT T0 Tb nh d fr T2) ?_ N nh (1, T) (by omega) (Or.inl ⟨rfl, 1, by omega, by omega, W i, fun _ => none, fun _ => 0, fun _ => 0, BF_0 (fun _ _ => rfl) (fun _ _ => rfl), hT⟩)
  rintro μ ⟨f2, s⟩ rr (⟨e1, m, hm, hμ, d, fr, u, q, hB, hs⟩ | ⟨e1, hμ, d, fr, R, hF, hbd, hs⟩)
  · right
    dsimp only at e1 hs
    subst e1
    obtain ⟨fl2, T2, e, d2, fr2, u2, q2, hB2, hs2, hfl⟩ := add_round (K := fun (x43 : Int32) (S44 : St) => rr x43 S44) hN hy hi hO h15 ⟨d, fr, u, q, hB, hs, Or.inr ⟨rfl, fun _ _ _ _ _ hx => hx.elim⟩⟩
    have e2 : fX6_add_L37 N (nI i) K rr 1 s = rr fl2 T2 := by
      unfold fX6_add_L37
      rw [if_neg (by decide)]
      exact e
    rcases hfl with ⟨hfl, b, hb, hub⟩ | ⟨hfl, hall⟩
    · obtain ⟨R, r1, -, r3⟩ := BF_rank hO.1 hB2
      have q1 := r1 b hb
      have q2' := r3 b hb
      exact ⟨nh + 1 - (m + 1), (fl2, T2), by omega, Or.inl ⟨hfl, m + 1, by omega, rfl, d2, fr2, u2, q2, BF_next (fun _ _ _ _ _ => trivial) hB2, hs2⟩, e2⟩
    · obtain ⟨R, hF⟩ := BF_fix hO.1 hB2 (Or.inl (fun j b hj ha hb => hall j b hj ha hb trivial))
      exact ⟨0, (fl2, T2), by omega, Or.inr ⟨hfl, rfl, d2, fr2, R, hF, BF_low y1 hO.1 (fun j x hj _ hx => y4 j x (by omega) hx) (fun x hx => y4 i x hi hx) hB2, hs2⟩, e2⟩
  · left
    dsimp only at e1 hs
    subst e1
    refine ⟨d, fr, R, s, ?_, hF, hbd, hs⟩
    show fX6_add_L37 N (nI i) K rr 0 s = _
    unfold fX6_add_L37
    rw [if_pos rfl]
