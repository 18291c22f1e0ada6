/-! the search: both go the same way -/
theorem CS_congr {SB S : St} {L nk n looks c p : Nat} {len tot kf kf2 : Nat → Nat} (h : ∀ i, i < n → kf i = kf2 i) (hS : CS SB L nk len tot n looks c p kf S) : CS SB L nk len tot n looks c p kf2 S := by
  obtain ⟨s1, s2, s3, s4, s5, s6, s7, s8, s9⟩ := hS
  refine ⟨s1, s2, s3, fun i hi => ?_, s5, s6, s7, fun k hk => ?_, fun d hd => ?_⟩
  · rw [← h i hi, ← pk_congr (kf := kf) (kf2 := kf2) (fun j hj => h j (by omega))]
    exact s4 i hi
  · rw [← cnt_congr (f := kf) (g := kf2) h]
    exact s8 k hk
  · rw [← jm_congr (kf := kf) (kf2 := kf2) h]
    exact s9 d hd
theorem r_end1 {N : Nat} {K15 : Int32 → St → Option (Int32 × St)} {rr : Int32 → Int32 → Int32 → St → Option (Int32 × St)} {c p : Int32} {T : St} : fX6_plan_L64 N K15 rr (-1) c p T = K15 (-1) T := by
  unfold fX6_plan_L64
  rw [if_pos (by decide)]
theorem r_end2 {N n NC : Nat} {K15 : Int32 → St → Option (Int32 × St)} {rr : Int32 → Int32 → Int32 → St → Option (Int32 × St)} {p : Int32} {T : St} (hn : n < 2 ^ 31) (e12 : T.1 0 12 = nI NC) : fX6_plan_L64 N K15 rr (nI n) (nI NC) p T = K15 (nI n) T := by
  unfold fX6_plan_L64
  rw [if_neg (nI_pos hn), e12, if_neg (Int32.lt_irrefl)]
theorem lk_all {N : Nat} {SB TB : St} {L NC nk B M : Nat} {len dep tot : Nat → Nat} {K15 : Int32 → St → Option (Int32 × St)} (hN : 1000 ≤ N) (hK : KB SB L NC nk len dep) (hTB : TBok N TB L NC nk B M len dep tot) (w5 : SB.1 12 5 = TB.1 0 13) (w6 : SB.1 12 6 = TB.1 0 14) (w7 : SB.1 12 7 = nI B) (w8 : SB.1 12 8 = nI M) : ∀ m, LK N SB TB L NC nk len dep tot K15 m := by
  intro m
  induction m using Nat.strongRecOn with
  | _ m ih =>
  intro n looks f kf S T x N1 N2 hm h1 h2 hnl hlk hf hV hc hp hS hT hfr hx
  obtain ⟨k1, k2, k3, k4, k5, k6, k7, k8, k9⟩ := id hK
  obtain ⟨b1, b2, b3, b4, b5, b6, b7, b8, b9, b10, b11, b12, b13, b14⟩ := id hTB
  have htot : ∀ k, k < nk → tot k ≤ 300 := fun k hk => (b14 k hk).2
  have hlen : ∀ k, k < nk → 1 ≤ len k := fun k hk => (k3 k hk).2.1
  have hn : n < 144 := PV_few hlen k7 k9 hV hc hp
  have hpk : ∀ i, i < n → (pk L len kf i).1 < 6 ∧ (pk L len kf i).2 ≤ 24 := by
    intro i hi
    obtain ⟨q1, q2, q3⟩ := hV.1 i hi
    omega
  obtain ⟨N1, rfl⟩ : ∃ k, N1 = k + 1 := ⟨N1 - 1, by omega⟩
  obtain ⟨N2, rfl⟩ : ∃ k, N2 = k + 1 := ⟨N2 - 1, by omega⟩
  obtain ⟨C, hC⟩ : ∃ C, C = (pk L len kf n).1 := ⟨_, rfl⟩
  obtain ⟨Q, hQ⟩ : ∃ Q, Q = (pk L len kf n).2 := ⟨_, rfl⟩
  have e12 : T.1 0 12 = nI NC := by rw [hT.2.1 12 (by omega)]; exact b8
  have e0 : T.1 0 0 = nI nk := by rw [hT.2.1 0 (by omega)]; exact b1
  have e26 : T.1 0 26 = nI looks := hT.2.2.2.1
  rw [← hC] at hc
  rw [← hQ] at hp
  rw [← hC, ← hQ] at hS hx ⊢
  rw [itN_succ, itN_succ]
  have hFS : FnS SB S := ⟨hS.1, hS.2.1⟩
  have hFT : FnT TB T := ⟨hT.1, hT.2.1⟩
  rcases z_scanK hN hTB hT hn (by omega) (by omega) hpk hf hx with ⟨hx1, ez⟩ | ⟨k, hk, hcan, hxk, ez⟩
  · rw [hx1]
    by_cases hn0 : n = 0
    · subst hn0
      obtain ⟨N2, rfl⟩ : ∃ k, N2 = k + 1 := ⟨N2 - 1, by omega⟩
      rw [c_none (by omega) hS.2.2.1, r_none hc k9 e12 e0 hfr ez, itN_succ, r_end1]
      exact ⟨0, S, T, looks, rfl, hFS, hFT, hS.2.2.2.2.2.2.1, e26, Or.inl ⟨rfl, rfl⟩⟩
    · obtain ⟨j, rfl⟩ : ∃ j, n = j + 1 := ⟨n - 1, by omega⟩
      obtain ⟨q1, q2, q3⟩ := hV.1 j (by omega)
      have hl := hlen _ q1
      obtain ⟨S2, eS2, hS2⟩ := z_takeUp hK q1 (by omega) (hpk j (by omega)).1 (hpk j (by omega)).2 hS
      have hV2 := PV_take hV
      obtain ⟨x2, ex2, hx2⟩ := z_nextToTry (T := TB) (f := kf j + 1) hN hK w5 w6 hV2 htot rfl rfl (hpk j (by omega)).1 (by omega) (by omega) hS2
      rw [c_back (by omega) (by omega) hS.2.2.1 eS2 ex2, r_back hn hc k9 b2 e12 e0 hfr hT q1 ez]
      rw [show 2 * looks - (j + 1) + 1 = 2 * looks - j by omega]
      exact ih (2 * (20000 - looks) + j) (by omega) j looks (kf j + 1) kf S2 _ x2 N1 N2 (Nat.le_refl _) (by omega) (by omega) (by omega) hlk (by omega) hV2 q3 (by omega) hS2 (RS_back _ hT) z_wr_eq hx2
  · rw [hxk]
    obtain ⟨g1, g2, g3, g4⟩ := id hcan
    by_cases hl2 : looks = 20000
    · subst hl2
      rw [c_spent (by omega) (by omega) hS.2.2.2.2.2.2.1, r_spent hn hc k9 b2 hk e12 e0 e26 hfr ez]
      exact ⟨-2, S, T, 20000, rfl, hFS, hFT, hS.2.2.2.2.2.2.1, e26, Or.inr (Or.inl ⟨rfl, rfl⟩)⟩
    · have hl3 : looks < 20000 := by omega
      obtain ⟨S8, eS8, hS8⟩ := z_lay hK hk hn (by omega) (by omega) hC hQ (CS_looks (v := looks + 1) hS)
      have hV8 : PV L NC nk len tot (kfn kf n k) (n + 1) := PV_put hV hk (by rw [← hC]; exact hc) (by rw [← hQ]; exact g3) g1
      have hlk2 := (k3 k hk).2.2
      have c12 := hS8.1 12 (by omega) (by omega) (by omega) (by omega) (by omega) (by omega) (by omega)
      have hT3 := RS_put (k := k) (v := 0) hT hC hQ
      have hps := pk_step L len (kfn kf n k) n
      rw [kfn_n, pk_kfn (Nat.le_refl _), ← hC, ← hQ] at hps
      rw [c_lay (by omega) (by omega) hS.2.2.2.2.2.2.1 hl3 eS8 hS8.2.2.1 hS8.2.2.2.2.1 hS8.2.2.2.2.2.1 (by rw [c12]; exact k5) (by rw [c12]; exact k8) (by omega) (by omega) k7 k9, r_put hN hTB hn hc hk hl3 hT hV hC hQ g3 hfr ez]
      by_cases h : Q + len k = L
      · have hpn : pk L len (kfn kf n k) (n + 1) = (C + 1, 0) := by
          rcases hps with ⟨e, _⟩ | ⟨_, e⟩
          · exact e
          · exact absurd h e
        have hkk : ∀ i, i < n + 1 → kfn kf n k i < nk := fun i hi => (hV8.1 i hi).1
        have hcc : ∀ i, i < n + 1 → (pk L len (kfn kf n k) i).1 < 6 := fun i hi => by have := (hV8.1 i hi).2.2; omega
        have hft := z_hasThroughs (T := TB) hN hK w5 w6 w7 b11 w8 b13 hkk hn (by rw [pk_kfn (Nat.le_refl _)]; exact hC) hcc hS8
        rw [if_neg (by omega), if_pos h, hft, caP_some]
        cases hfl : fullB TB L C B M len dep (kfn kf n k) (n + 1) with
        | true =>
          rw [bI_t, if_neg (by decide), if_pos rfl]
          by_cases hlast : C + 1 = NC
          · obtain ⟨N2, rfl⟩ : ∃ k, N2 = k + 1 := ⟨N2 - 1, by omega⟩
            rw [if_pos hlast, itN_succ, hlast, r_end2 (by omega) (by rw [hT3.2.1 12 (by omega)]; exact b8)]
            refine ⟨nI (n + 1), S8, _, looks + 1, rfl, ⟨hS8.1, hS8.2.1⟩, ⟨hT3.1, hT3.2.1⟩, hS8.2.2.2.2.2.2.1, hT3.2.2.2.1, Or.inr (Or.inr ⟨n + 1, kfn kf n k, by omega, by omega, rfl, rfl, hV8, by rw [hpn, hlast], hS8.2.2.1, hS8.2.2.2.1, hT3.2.2.1⟩)⟩
          · rw [if_neg hlast]
            have hS9 := CS_next (c2 := C + 1) hS8
            obtain ⟨x2, ex2, hx2⟩ := z_nextToTry (T := TB) (f := 0) hN hK w5 w6 hV8 htot (by rw [hpn]) (by rw [hpn]) (show C + 1 < 6 by omega) (show 0 < L by omega) (by omega) hS9
            rw [nI_0] at ex2
            rw [ex2, caP_some, show 2 * looks - n + 1 = 2 * (looks + 1) - (n + 1) by omega]
            have := ih (2 * (20000 - (looks + 1)) + (n + 1)) (by omega) (n + 1) (looks + 1) 0 (kfn kf n k) _ _ x2 N1 N2 (Nat.le_refl _) (by omega) (by omega) (by omega) (by omega) (by omega) hV8 (by rw [hpn]; show C + 1 < NC; omega) (by rw [hpn]; show 0 < L; omega) (by rw [hpn]; exact hS9) hT3 (by rw [z_wr_eq]; rfl) (by rw [hpn]; exact hx2)
            rw [hpn] at this
            exact this
        | false =>
          obtain ⟨N1, rfl⟩ : ∃ k, N1 = k + 1 := ⟨N1 - 1, by omega⟩
          rw [bI_f, if_pos rfl, if_neg (by simp), itN_succ]
          have hS8' : CS SB L nk len tot (n + 1) (looks + 1) C (Q + len k) (kfn kf n k) S8 := hS8
          obtain ⟨S2, eS2, hS2⟩ := z_takeUp hK (hkk n (by omega)) hn (hcc n (by omega)) (by rw [pk_kfn (Nat.le_refl _), ← hQ]; omega) hS8'
          rw [kfn_n] at eS2
          rw [pk_kfn (Nat.le_refl _), ← hC, ← hQ] at hS2
          have hS2' := CS_congr (kf2 := kf) (fun i hi => kfn_lt hi) hS2
          obtain ⟨x2, ex2, hx2⟩ := z_nextToTry (T := TB) (f := k + 1) hN hK w5 w6 hV htot hC hQ (by omega) hp (by omega) hS2'
          rw [c_back (by omega) hn hS8.2.2.1 eS2 ex2, show 2 * looks - n + 1 + 1 = 2 * (looks + 1) - n by omega]
          have := ih (2 * (20000 - (looks + 1)) + n) (by omega) n (looks + 1) (k + 1) kf S2 _ x2 N1 N2 (Nat.le_refl _) (by omega) (by omega) (by omega) (by omega) (by omega) hV (by rw [← hC]; exact hc) (by rw [← hQ]; exact hp) (by rw [← hC, ← hQ]; exact hS2') (RS_no (k := k) (c := C) (p := Q) (nI (k + 1)) hT) z_wr_eq (by rw [← hC, ← hQ]; exact hx2)
          rw [← hC, ← hQ] at this
          exact this
      · have hpn : pk L len (kfn kf n k) (n + 1) = (C, Q + len k) := by
          rcases hps with ⟨_, e⟩ | ⟨e, _⟩
          · exact absurd e h
          · exact e
        rw [if_pos (by omega), if_neg h]
        obtain ⟨x2, ex2, hx2⟩ := z_nextToTry (T := TB) (f := 0) hN hK w5 w6 hV8 htot (by rw [hpn]) (by rw [hpn]) (show C < 6 by omega) (show Q + len k < L by omega) (by omega) hS8
        rw [nI_0] at ex2
        rw [ex2, caP_some, show 2 * looks - n + 1 = 2 * (looks + 1) - (n + 1) by omega]
        have := ih (2 * (20000 - (looks + 1)) + (n + 1)) (by omega) (n + 1) (looks + 1) 0 (kfn kf n k) _ _ x2 N1 N2 (Nat.le_refl _) (by omega) (by omega) (by omega) (by omega) (by omega) hV8 (by rw [hpn]; show C < NC; omega) (by rw [hpn]; show Q + len k < L; omega) (by rw [hpn]; exact hS8) hT3 (by rw [z_wr_eq]; rfl) (by rw [hpn]; exact hx2)
        rw [hpn] at this
        exact this
