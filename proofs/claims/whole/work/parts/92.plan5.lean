/-! the search: single steps -/
theorem itN_succ {α : Type} (z : α) (F : α → α) (n : Nat) : itN z F (n + 1) = F (itN z F n) := rfl
theorem z_l20k {a : Nat} (h : a < 2 ^ 31) : (nI a < 20000) = (a < 20000) := z_lt (b := 20000) h (by omega)
theorem z_e20k {a : Nat} (h : a < 2 ^ 31) : (nI a = 20000) = (a = 20000) := z_eq (b := 20000) h (by omega)
theorem z_l40k {a : Nat} (h : a < 2 ^ 31) : (nI a < 40002) = (a < 40002) := z_lt (b := 40002) h (by omega)
/-- the reference's scan, whatever comes then -/
theorem z_scanK {N : Nat} {TB T : St} {L NC nk B M n looks c p f : Nat} {len dep tot kf : Nat → Nat} {x : Int32} (hN : 1000 ≤ N) (hB : TBok N TB L NC nk B M len dep tot) (hT : RS TB L len n looks kf T) (hn : n < 144) (hc6 : c < 6) (hp : p ≤ 24) (hpk : ∀ i, i < n → (pk L len kf i).1 < 6 ∧ (pk L len kf i).2 ≤ 24) (hf : f ≤ nk) (hx : Nx TB L nk n c p f len dep tot kf x) : (x = -1 ∧ ∀ K, itN (fun _ => none) (fX6_plan_L84 N (nI n) (nI c) (nI p) T K) N (nI f) = K (nI nk)) ∨ (∃ k, k < nk ∧ can TB L n c p len dep tot kf k ∧ x = nI k ∧ ∀ K, itN (fun _ => none) (fX6_plan_L84 N (nI n) (nI c) (nI p) T K) N (nI f) = K (nI k)) := by
  have b2 := hB.2.1
  rcases id hx with ⟨k, k1, k2, k3, k4, e⟩ | ⟨k1, e⟩
  · right
    refine ⟨k, k2, k3, e, fun K => ?_⟩
    rcases z_scan (K := K) hN hB hT hn hc6 hp hpk hf hx with ⟨h1, ez⟩ | ⟨k', hk, hfk, hcan, h1, ez⟩
    · rw [e] at h1
      exact absurd h1 (z_neg1 k (by omega))
    · rw [e] at h1
      rw [ez, ← h1]
  · left
    refine ⟨e, fun K => ?_⟩
    rcases z_scan (K := K) hN hB hT hn hc6 hp hpk hf hx with ⟨h1, ez⟩ | ⟨k', hk, hfk, hcan, h1, ez⟩
    · exact ez
    · rw [e] at h1
      exact absurd h1.symm (z_neg1 k' (by omega))
theorem r_open {N : Nat} {T : St} {NC n f : Nat} {c p : Nat} {K15 : Int32 → St → Option (Int32 × St)} {rr : Int32 → Int32 → Int32 → St → Option (Int32 × St)} {y : Nat} (hn : n < 144) (hc : c < NC) (hNC : NC ≤ 6) (e12 : T.1 0 12 = nI NC) (hfr : T.1 14 n = nI f) (ez : ∀ K, itN (fun _ => none) (fX6_plan_L84 N (nI n) (nI c) (nI p) T K) N (nI f) = K (nI y)) :
    fX6_plan_L64 N K15 rr (nI n) (nI c) (nI p) T = if nI y = T.1 0 0 then nmI (nI n + (-1)) fun x58 => if x58 < 0 then rr x58 (nI c) (nI p) T else ldI 150 (T.1 7) x58 fun x59 => ldI 8 (T.1 13) x59 fun x60 => stI T 13 8 x59 (x60 - 1) fun S61 => ldI 150 (S61.1 8) x58 fun x62 => ldI 150 (S61.1 9) x58 fun x63 => ldI 150 (S61.1 7) x58 fun x64 => stI S61 14 150 x58 (x64 + 1) fun S65 => rr x58 x62 x63 S65
    else if (T.1 0 26) = 20000 then some ((-2), T) else
      stI (wr T 0 26 (T.1 0 26 + 1)) 7 150 (nI n) (nI y) fun S32 => stI S32 8 150 (nI n) (nI c) fun S33 => stI S33 9 150 (nI n) (nI p) fun S34 => ldI 8 (S34.1 1) (nI y) fun x35 =>
      if (nI p + x35) = (S34.1 0 11) then
        caP (fX6_isFull N (nI c) (nI n + 1) S34) fun x46 => if x46 = 0 then stI S34 14 150 (nI n) (nI y + 1) fun S57 => rr (nI n) (nI c) (nI p) S57
          else ldI 8 (S34.1 13) (nI y) fun x47 => stI S34 13 8 (nI y) (x47 + 1) fun S48 => ldI 8 (S48.1 1) (nI y) fun x49 =>
            if nI p + x49 = (S48.1 0 11) then stI S48 14 150 (nI n + 1) 0 fun S55 => rr (nI n + 1) (nI c + 1) 0 S55 else stI S48 14 150 (nI n + 1) 0 fun S55 => rr (nI n + 1) (nI c) (nI p + x49) S55
      else ldI 8 (S34.1 13) (nI y) fun x36 => stI S34 13 8 (nI y) (x36 + 1) fun S37 => ldI 8 (S37.1 1) (nI y) fun x38 =>
          if nI p + x38 = (S37.1 0 11) then stI S37 14 150 (nI n + 1) 0 fun S44 => rr (nI n + 1) (nI c + 1) 0 S44 else stI S37 14 150 (nI n + 1) 0 fun S44 => rr (nI n + 1) (nI c) (nI p + x38) S44 := by
  unfold fX6_plan_L64
  rw [if_neg (nI_pos (show n < 2 ^ 31 by omega)), e12, if_pos (nI_lt hc (by omega)), z_ldI (by omega) (by omega), hfr, ez]
  rfl
/-- no kind is left -/
theorem r_none {N : Nat} {T : St} {NC nk f c p : Nat} {K15 : Int32 → St → Option (Int32 × St)} {rr : Int32 → Int32 → Int32 → St → Option (Int32 × St)} (hc : c < NC) (hNC : NC ≤ 6) (e12 : T.1 0 12 = nI NC) (e0 : T.1 0 0 = nI nk) (hfr : T.1 14 0 = nI f) (ez : ∀ K, itN (fun _ => none) (fX6_plan_L84 N (nI 0) (nI c) (nI p) T K) N (nI f) = K (nI nk)) : fX6_plan_L64 N K15 rr (nI 0) (nI c) (nI p) T = rr (-1) (nI c) (nI p) T := by
  have e1 : nI 0 + (-1) = (-1 : Int32) := by decide
  have e2 : (-1 : Int32) < 0 := by decide
  rw [r_open (by omega) hc hNC e12 hfr ez, e0, if_pos rfl]
  simp only [nmI]
  rw [e1, if_pos e2]
theorem r_back1 {N : Nat} {TB T : St} {L NC nk j looks f c p : Nat} {len kf : Nat → Nat} {K15 : Int32 → St → Option (Int32 × St)} {rr : Int32 → Int32 → Int32 → St → Option (Int32 × St)} (hn : j + 1 < 144) (hc : c < NC) (hNC : NC ≤ 6) (hnk : nk ≤ 8) (e12 : T.1 0 12 = nI NC) (e0 : T.1 0 0 = nI nk) (hfr : T.1 14 (j + 1) = nI f) (hT : RS TB L len (j + 1) looks kf T) (hkj : kf j < nk) (ez : ∀ K, itN (fun _ => none) (fX6_plan_L84 N (nI (j + 1)) (nI c) (nI p) T K) N (nI f) = K (nI nk)) : fX6_plan_L64 N K15 rr (nI (j + 1)) (nI c) (nI p) T = rr (nI j) (nI (pk L len kf j).1) (nI (pk L len kf j).2) (wr (wr T 13 (kf j) (nI (cnt kf (kf j) j))) 14 j (nI (kf j + 1))) := by
  obtain ⟨t1, t2, t3, t4, t5⟩ := id hT
  obtain ⟨q1, q2, q3⟩ := t3 j (by omega)
  have ecn : cnt kf (kf j) (j + 1) = cnt kf (kf j) j + 1 := by
    show cnt kf (kf j) j + (if kf j = kf j then 1 else 0) = _
    rw [if_pos rfl]
  rw [r_open hn hc hNC e12 hfr ez, e0, if_pos rfl]
  sorry
theorem r_back2 {N : Nat} {TB T : St} {L NC nk j looks f c p : Nat} {len kf : Nat → Nat} {K15 : Int32 → St → Option (Int32 × St)} {rr : Int32 → Int32 → Int32 → St → Option (Int32 × St)} (hn : j + 1 < 144) (hc : c < NC) (hNC : NC ≤ 6) (hnk : nk ≤ 8) (e12 : T.1 0 12 = nI NC) (e0 : T.1 0 0 = nI nk) (hfr : T.1 14 (j + 1) = nI f) (hT : RS TB L len (j + 1) looks kf T) (hkj : kf j < nk) (ez : ∀ K, itN (fun _ => none) (fX6_plan_L84 N (nI (j + 1)) (nI c) (nI p) T K) N (nI f) = K (nI nk)) : fX6_plan_L64 N K15 rr (nI (j + 1)) (nI c) (nI p) T = rr (nI j) (nI (pk L len kf j).1) (nI (pk L len kf j).2) (wr (wr T 13 (kf j) (nI (cnt kf (kf j) j))) 14 j (nI (kf j + 1))) := by
  obtain ⟨t1, t2, t3, t4, t5⟩ := id hT
  obtain ⟨q1, q2, q3⟩ := t3 j (by omega)
  have ecn : cnt kf (kf j) (j + 1) = cnt kf (kf j) j + 1 := by
    show cnt kf (kf j) j + (if kf j = kf j then 1 else 0) = _
    rw [if_pos rfl]
  rw [r_open hn hc hNC e12 hfr ez, e0, if_pos rfl]
  simp only [nmI]
  rw [pk_m1]
  sorry
theorem r_back3 {N : Nat} {TB T : St} {L NC nk j looks f c p : Nat} {len kf : Nat → Nat} {K15 : Int32 → St → Option (Int32 × St)} {rr : Int32 → Int32 → Int32 → St → Option (Int32 × St)} (hn : j + 1 < 144) (hc : c < NC) (hNC : NC ≤ 6) (hnk : nk ≤ 8) (e12 : T.1 0 12 = nI NC) (e0 : T.1 0 0 = nI nk) (hfr : T.1 14 (j + 1) = nI f) (hT : RS TB L len (j + 1) looks kf T) (hkj : kf j < nk) (ez : ∀ K, itN (fun _ => none) (fX6_plan_L84 N (nI (j + 1)) (nI c) (nI p) T K) N (nI f) = K (nI nk)) : fX6_plan_L64 N K15 rr (nI (j + 1)) (nI c) (nI p) T = rr (nI j) (nI (pk L len kf j).1) (nI (pk L len kf j).2) (wr (wr T 13 (kf j) (nI (cnt kf (kf j) j))) 14 j (nI (kf j + 1))) := by
  obtain ⟨t1, t2, t3, t4, t5⟩ := id hT
  obtain ⟨q1, q2, q3⟩ := t3 j (by omega)
  have ecn : cnt kf (kf j) (j + 1) = cnt kf (kf j) j + 1 := by
    show cnt kf (kf j) j + (if kf j = kf j then 1 else 0) = _
    rw [if_pos rfl]
  rw [r_open hn hc hNC e12 hfr ez, e0, if_pos rfl]
  simp only [nmI]
  rw [pk_m1, if_neg (nI_pos (show j < 2 ^ 31 by omega)), z_ldI (by omega) (by omega), q1, z_ldI (by omega) (by omega)]
  sorry
