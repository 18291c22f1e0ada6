theorem cnt_kfn {kf : Nat → Nat} {n k k2 : Nat} : cnt (kfn kf n k) k2 (n + 1) = cnt kf k2 n + (if k = k2 then 1 else 0) := by
  show cnt (kfn kf n k) k2 n + (if kfn kf n k n = k2 then 1 else 0) = _
  rw [kfn_n, cnt_congr (g := kf) (fun i hi => kfn_lt hi)]
theorem cnt_s {kf : Nat → Nat} {k n : Nat} : cnt kf k (n + 1) = cnt kf k n + (if kf n = k then 1 else 0) := rfl
theorem nmI_e {β : Type} (x : Int32) (K : Int32 → Option β) : nmI x K = K x := rfl
theorem r_back {N : Nat} {TB T : St} {L NC nk j looks f c p : Nat} {len kf : Nat → Nat} {K15 : Int32 → St → Option (Int32 × St)} {rr : Int32 → Int32 → Int32 → St → Option (Int32 × St)} (hn : j + 1 < 144) (hc : c < NC) (hNC : NC ≤ 6) (hnk : nk ≤ 8) (e12 : T.1 0 12 = nI NC) (e0 : T.1 0 0 = nI nk) (hfr : T.1 14 (j + 1) = nI f) (hT : RS TB L len (j + 1) looks kf T) (hkj : kf j < nk) (ez : ∀ K, itN (fun _ => none) (fX6_plan_L84 N (nI (j + 1)) (nI c) (nI p) T K) N (nI f) = K (nI nk)) : fX6_plan_L64 N K15 rr (nI (j + 1)) (nI c) (nI p) T = rr (nI j) (nI (pk L len kf j).1) (nI (pk L len kf j).2) (wr (wr T 13 (kf j) (nI (cnt kf (kf j) j))) 14 j (nI (kf j + 1))) := by
  obtain ⟨t1, t2, t3, t4, t5⟩ := id hT
  obtain ⟨q1, q2, q3⟩ := t3 j (by omega)
  have ecn : T.1 13 (kf j) = nI (cnt kf (kf j) j + 1) := by
    rw [t5 (kf j) (by omega), cnt_s, if_pos rfl]
  obtain ⟨T1, hT1⟩ : ∃ T1, T1 = wr T 13 (kf j) (nI (cnt kf (kf j) j)) := ⟨_, rfl⟩
  have m7 : T1.1 7 j = nI (kf j) := by rw [hT1, z_wr_ne (by omega)]; exact q1
  have m8 : T1.1 8 j = nI (pk L len kf j).1 := by rw [hT1, z_wr_ne (by omega)]; exact q2
  have m9 : T1.1 9 j = nI (pk L len kf j).2 := by rw [hT1, z_wr_ne (by omega)]; exact q3
  rw [r_open hn hc hNC e12 hfr ez, e0, if_pos (show nI nk = nI nk from rfl), pk_m1, nmI_e]
  rw [if_neg (nI_pos (show j < 2 ^ 31 by omega)), z_ldI (show j < 150 by omega) (by omega), q1, z_ldI (show kf j < 8 by omega) (by omega), ecn, z_stI (show kf j < 8 by omega) (by omega), nI_pred, ← hT1, z_ldI (show j < 150 by omega) (by omega), m8, z_ldI (show j < 150 by omega) (by omega), m9, z_ldI (show j < 150 by omega) (by omega), m7, z_stI (show j < 150 by omega) (by omega), nI_1]
