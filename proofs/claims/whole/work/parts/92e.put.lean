theorem RS_back {TB T : St} {L j looks : Nat} {len kf : Nat → Nat} (v : Int32) (hT : RS TB L len (j + 1) looks kf T) : RS TB L len j looks kf (wr (wr T 13 (kf j) (nI (cnt kf (kf j) j))) 14 j v) := by
  obtain ⟨t1, t2, t3, t4, t5⟩ := hT
  refine ⟨fun c c0 c7 c8 c9 c13 c14 => by rw [z_wr_row c14, z_wr_row c13]; exact t1 c c0 c7 c8 c9 c13 c14, fun i hi => by rw [z_wr_ne (by omega), z_wr_ne (by omega)]; exact t2 i hi, fun i hi => ?_, by rw [z_wr_ne (by omega), z_wr_ne (by omega)]; exact t4, fun k hk => ?_⟩
  · rw [z_wr_ne (by omega), z_wr_ne (by omega), z_wr_ne (by omega), z_wr_ne (by omega), z_wr_ne (by omega), z_wr_ne (by omega)]
    exact t3 i (by omega)
  · rw [z_wr_ne (by omega), z_wr, if_pos rfl]
    by_cases e : k = kf j
    · rw [if_pos e, e]
    · rw [if_neg e, t5 k hk, cnt_s, if_neg (fun h => e h.symm)]; rfl
theorem RS_no {TB T : St} {L n looks k c p : Nat} {len kf : Nat → Nat} (v : Int32) (hT : RS TB L len n looks kf T) : RS TB L len n (looks + 1) kf (wr (rput T n k c p (looks + 1)) 14 n v) := by
  obtain ⟨t1, t2, t3, t4, t5⟩ := hT
  refine ⟨fun d c0 c7 c8 c9 c13 c14 => by rw [z_wr_row c14, rput_o c0 c7 c8 c9]; exact t1 d c0 c7 c8 c9 c13 c14, fun i hi => by rw [z_wr_ne (by omega), rput_0 hi]; exact t2 i hi, fun i hi => ?_, by rw [z_wr_ne (by omega), rput_26], fun k hk => by rw [z_wr_ne (by omega), rput_o (by omega) (by omega) (by omega) (by omega)]; exact t5 k hk⟩
  rw [z_wr_ne (by omega), z_wr_ne (by omega), z_wr_ne (by omega)]
  unfold rput
  obtain ⟨q1, q2, q3⟩ := t3 i hi
  refine ⟨?_, ?_, ?_⟩
  · rw [z_wr_ne (by omega), z_wr_ne (by omega), z_wr_oth (by omega), z_wr_ne (by omega)]; exact q1
  · rw [z_wr_ne (by omega), z_wr_oth (by omega), z_wr_ne (by omega), z_wr_ne (by omega)]; exact q2
  · rw [z_wr_oth (by omega), z_wr_ne (by omega), z_wr_ne (by omega), z_wr_ne (by omega)]; exact q3
theorem RS_put {TB T : St} {L n looks k c p : Nat} {len kf : Nat → Nat} (v : Int32) (hT : RS TB L len n looks kf T) (hc : c = (pk L len kf n).1) (hp : p = (pk L len kf n).2) : RS TB L len (n + 1) (looks + 1) (kfn kf n k) (wr (wr (rput T n k c p (looks + 1)) 13 k (nI (cnt kf k n + 1))) 14 (n + 1) v) := by
  have h3 := rput_i (k := k) (lk := looks + 1) hT hc hp
  obtain ⟨t1, t2, t3, t4, t5⟩ := hT
  refine ⟨fun d c0 c7 c8 c9 c13 c14 => by rw [z_wr_row c14, z_wr_row c13, rput_o c0 c7 c8 c9]; exact t1 d c0 c7 c8 c9 c13 c14, fun i hi => by rw [z_wr_ne (by omega), z_wr_ne (by omega), rput_0 hi]; exact t2 i hi, fun i hi => ?_, by rw [z_wr_ne (by omega), z_wr_ne (by omega), rput_26], fun k2 hk => ?_⟩
  · rw [z_wr_ne (by omega), z_wr_ne (by omega), z_wr_ne (by omega), z_wr_ne (by omega), z_wr_ne (by omega), z_wr_ne (by omega)]
    exact h3 i hi
  · rw [z_wr_ne (by omega), z_wr, if_pos rfl, cnt_kfn]
    by_cases e : k2 = k
    · rw [if_pos e, e, if_pos rfl]
    · rw [if_neg e, if_neg (fun h => e h.symm), rput_o (by omega) (by omega) (by omega) (by omega)]
      exact t5 k2 hk
theorem r_spent {N : Nat} {T : St} {NC nk n f c p k : Nat} {K15 : Int32 → St → Option (Int32 × St)} {rr : Int32 → Int32 → Int32 → St → Option (Int32 × St)} (hn : n < 144) (hc : c < NC) (hNC : NC ≤ 6) (hnk : nk ≤ 8) (hk : k < nk) (e12 : T.1 0 12 = nI NC) (e0 : T.1 0 0 = nI nk) (t4 : T.1 0 26 = nI 20000) (hfr : T.1 14 n = nI f) (ez : ∀ K, itN (fun _ => none) (fX6_plan_L84 N (nI n) (nI c) (nI p) T K) N (nI f) = K (nI k)) : fX6_plan_L64 N K15 rr (nI n) (nI c) (nI p) T = some (-2, T) := by
  have e1 : ¬ nI k = nI nk := fun h => by have := (nI_eq (by omega) (by omega)).mp h; omega
  have e2 : T.1 0 26 = 20000 := by rw [t4, z_e20k (by omega)]
  rw [r_open hn hc hNC e12 hfr ez, e0, if_neg e1, if_pos e2]
/-- a stone is put down -/
theorem r_put {N : Nat} {TB T : St} {L NC nk B M n looks f c p k : Nat} {len dep tot kf : Nat → Nat} {K15 : Int32 → St → Option (Int32 × St)} {rr : Int32 → Int32 → Int32 → St → Option (Int32 × St)} (hN : 1000 ≤ N) (hB : TBok N TB L NC nk B M len dep tot) (hn : n < 144) (hcN : c < NC) (hk : k < nk) (hlk : looks < 20000) (hT : RS TB L len n looks kf T) (hV : PV L NC nk len tot kf n) (hc : c = (pk L len kf n).1) (hp : p = (pk L len kf n).2) (hpL : p + len k ≤ L) (hfr : T.1 14 n = nI f) (ez : ∀ K, itN (fun _ => none) (fX6_plan_L84 N (nI n) (nI c) (nI p) T K) N (nI f) = K (nI k)) :
    fX6_plan_L64 N K15 rr (nI n) (nI c) (nI p) T = if p + len k = L then (if fullB TB L c B M len dep (kfn kf n k) (n + 1) = true then rr (nI (n + 1)) (nI (c + 1)) 0 (wr (wr (rput T n k c p (looks + 1)) 13 k (nI (cnt kf k n + 1))) 14 (n + 1) 0) else rr (nI n) (nI c) (nI p) (wr (rput T n k c p (looks + 1)) 14 n (nI (k + 1)))) else rr (nI (n + 1)) (nI c) (nI (p + len k)) (wr (wr (rput T n k c p (looks + 1)) 13 k (nI (cnt kf k n + 1))) 14 (n + 1) 0) := by
  have h3 := rput_i (k := k) (lk := looks + 1) hT hc hp
  obtain ⟨t1, t2, t3, t4, t5⟩ := id hT
  obtain ⟨b1, b2, b3, b4, b5, b6, b7, b8, b9, b10, b11, b12, b13, b14⟩ := id hB
  have e12 : T.1 0 12 = nI NC := by rw [t2 12 (by omega)]; exact b8
  have e0 : T.1 0 0 = nI nk := by rw [t2 0 (by omega)]; exact b1
  have e1 : ¬ nI k = nI nk := fun h => by have := (nI_eq (by omega) (by omega)).mp h; omega
  have e2 : ¬ nI looks = 20000 := by rw [z_e20k (by omega)]; omega
  have eT3 : wr (wr (wr (wr T 0 26 (nI (looks + 1))) 7 n (nI k)) 8 n (nI c)) 9 n (nI p) = rput T n k c p (looks + 1) := rfl
  rw [r_open hn hcN b9 e12 hfr ez, e0, if_neg e1, t4, if_neg e2, nI_1, z_stI (show n < 150 by omega) (by omega), z_stI (show n < 150 by omega) (by omega), z_stI (show n < 150 by omega) (by omega), eT3]
  obtain ⟨T1, hT1⟩ : ∃ T1, T1 = rput T n k c p (looks + 1) := ⟨_, rfl⟩
  rw [← hT1] at h3 ⊢
  have r0 : ∀ j, j ≠ 26 → T1.1 0 j = TB.1 0 j := fun j hj => by rw [hT1, rput_0 hj]; exact t2 j hj
  have ro : ∀ d, d ≠ 0 → d ≠ 7 → d ≠ 8 → d ≠ 9 → T1.1 d = T.1 d := fun d h0 h7 h8 h9 => by rw [hT1, rput_o h0 h7 h8 h9]
  have m1 : T1.1 1 k = nI (len k) := by rw [ro 1 (by omega) (by omega) (by omega) (by omega), t1 1 (by omega) (by omega) (by omega) (by omega) (by omega) (by omega)]; exact (b3 k hk).1
  have m11 : T1.1 0 11 = nI L := by rw [r0 11 (by omega)]; exact b5
  have m13 : T1.1 13 k = nI (cnt kf k n) := by rw [ro 13 (by omega) (by omega) (by omega) (by omega)]; exact t5 k (by omega)
  obtain ⟨T2, hT2⟩ : ∃ T2, T2 = wr T1 13 k (nI (cnt kf k n + 1)) := ⟨_, rfl⟩
  have n1 : T2.1 1 k = nI (len k) := by rw [hT2, z_wr_ne (by omega)]; exact m1
  have n11 : T2.1 0 11 = nI L := by rw [hT2, z_wr_ne (by omega)]; exact m11
  clear ez
  rw [z_ldI (show k < 8 by omega) (by omega), m1, nI_add, m11, nI_1]
  by_cases h : p + len k = L
  · rw [if_pos (congrArg nI h), if_pos h]
    rw [z_isFull (TB := TB) (L := L) (len := len) (dep := dep) (kf := kfn kf n k) (B := B) (M := M) hN (r0 13 (by omega)) (r0 14 (by omega)) (by rw [r0 15 (by omega)]; exact b10) b11 (by rw [r0 16 (by omega)]; exact b12) b13 (by omega) (by omega) (by
      intro i hi
      have hki : kfn kf n k i < nk := by
        by_cases e : i = n
        · rw [e, kfn_n]; exact hk
        · rw [kfn_lt (by omega)]; exact (hV.1 i (by omega)).1
      have hpi : (pk L len (kfn kf n k) i).1 < 6 := by
        rw [pk_kfn (by omega)]
        by_cases e : i = n
        · rw [e, ← hc]; omega
        · have := (hV.1 i (by omega)).2.2; omega
      obtain ⟨g1, g2, g3⟩ := h3 i hi
      exact ⟨g1, by omega, g2, hpi, by rw [ro 2 (by omega) (by omega) (by omega) (by omega), t1 2 (by omega) (by omega) (by omega) (by omega) (by omega) (by omega)]; exact (b4 _ hki).1⟩), caP_some]
    cases hfl : fullB TB L c B M len dep (kfn kf n k) (n + 1) with
    | true =>
      rw [bI_t, if_neg (by decide), if_pos rfl, z_ldI (show k < 8 by omega) (by omega), m13, nI_1, z_stI (show k < 8 by omega) (by omega), ← hT2, z_ldI (show k < 8 by omega) (by omega), n1, nI_add, n11, if_pos (congrArg nI h), z_stI (show n + 1 < 150 by omega) (by omega), nI_1]
    | false =>
      rw [bI_f, if_pos rfl, if_neg (by simp), nI_1, z_stI (show n < 150 by omega) (by omega)]
  · have hne : ¬ nI (p + len k) = nI L := fun e => h ((nI_eq (by omega) (by omega)).mp e)
    rw [if_neg hne, if_neg h, z_ldI (show k < 8 by omega) (by omega), m13, nI_1, z_stI (show k < 8 by omega) (by omega), ← hT2, z_ldI (show k < 8 by omega) (by omega), n1, nI_add, n11, if_neg hne, z_stI (show n + 1 < 150 by omega) (by omega)]
/-- the class, no kind left -/
theorem c_none {N st : Nat} {rc : Int32 → Int32 → St → Option (Int32 × St)} {S : St} (hst : st < 40002) (h9 : S.1 13 9 = nI 0) : fX2_firstWhole_L12 N rc (-1) (nI st) S = some (0, S) := by
  unfold fX2_firstWhole_L12
  rw [if_pos (by rw [z_l40k (by omega)]; exact hst), if_pos rfl, if_pos (by rw [h9]; exact nI_0)]
theorem c_back {N st n : Nat} {rc : Int32 → Int32 → St → Option (Int32 × St)} {S S2 : St} {k : Nat} {x2 : Int32} (hst : st < 40002) (hn : n < 144) (h9 : S.1 13 9 = nI (n + 1)) (hS2 : fX2_takeUp S = some (nI k, S2)) (hx2 : fX2_nextToTry N (nI (k + 1)) S2 = some x2) : fX2_firstWhole_L12 N rc (-1) (nI st) S = rc x2 (nI (st + 1)) S2 := by
  unfold fX2_firstWhole_L12
  rw [if_pos (by rw [z_l40k (by omega)]; exact hst), if_pos rfl, if_neg (by rw [h9]; exact nI_ne0 (by omega) (by omega)), hS2, caS_some, nI_1, hx2, caP_some]
  simp only [nmI, nI_1]
theorem c_spent {N st k : Nat} {rc : Int32 → Int32 → St → Option (Int32 × St)} {S : St} (hst : st < 40002) (hk : k < 8) (h7 : S.1 21 7 = nI 20000) : fX2_firstWhole_L12 N rc (nI k) (nI st) S = some (-2, S) := by
  unfold fX2_firstWhole_L12
  rw [if_pos (by rw [z_l40k (by omega)]; exact hst), if_neg (z_neg1 k (by omega)), if_neg (by rw [h7, z_l20k (by omega)]; omega)]
theorem c_lay {N st k lk n c p L NC : Nat} {rc : Int32 → Int32 → St → Option (Int32 × St)} {S S8 : St} (hst : st < 40002) (hk : k < 8) (h7 : S.1 21 7 = nI lk) (hlk : lk < 20000) (hS8 : fX2_lay (nI k) (wr S 21 7 (nI (lk + 1))) = some S8) (v3 : S8.1 13 9 = nI n) (v5 : S8.1 21 5 = nI c) (v6 : S8.1 21 6 = nI p) (eL : S8.1 12 3 = nI L) (eN : S8.1 12 4 = nI NC) (hc : c < 6) (hp : p ≤ 30) (hL : L ≤ 24) (hNC : NC ≤ 6) : fX2_firstWhole_L12 N rc (nI k) (nI st) S = (if p < L then caP (fX2_nextToTry N 0 S8) fun x16 => rc x16 (nI (st + 1)) S8 else caP (fX2_hasThroughsAsked N S8) fun x9 => if x9 = 0 then rc (-1) (nI (st + 1)) S8 else if c + 1 = NC then some (nI n, S8) else caP (fX2_nextToTry N 0 (wr (wr S8 21 5 (nI (c + 1))) 21 6 0)) fun x12 => rc x12 (nI (st + 1)) (wr (wr S8 21 5 (nI (c + 1))) 21 6 0)) := by
  unfold fX2_firstWhole_L12
  rw [if_pos (by rw [z_l40k (by omega)]; exact hst), if_neg (z_neg1 k (by omega)), if_pos (by rw [h7, z_l20k (by omega)]; exact hlk)]
  simp only [pfI, nmI]
  rw [h7]
  simp only [nI_1]
  rw [hS8, caV_some]
  simp (disch := omega) only [v5, v6, v3, eL, eN, z_lt, nI_1, z_eq]
