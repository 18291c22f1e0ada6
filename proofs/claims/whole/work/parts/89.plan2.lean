/-! the search: the class takes up, tries, asks for through-stones -/
theorem z_takeUp {SB S : St} {L NC nk n looks c p : Nat} {len dep tot kf : Nat → Nat} (hB : KB SB L NC nk len dep) (hk : kf n < nk) (hn : n < 144) (hc6 : (pk L len kf n).1 < 6) (hp : (pk L len kf n).2 ≤ 24) (hS : CS SB L nk len tot (n + 1) looks c p kf S) :
    ∃ S2, fX2_takeUp S = some (nI (kf n), S2) ∧ CS SB L nk len tot n looks (pk L len kf n).1 (pk L len kf n).2 kf S2 := by
  obtain ⟨s1, s2, s3, s4, s5, s6, s7, s8, s9⟩ := hS
  obtain ⟨b1, b2, b3, b4, b5, b6, b7, b8, b9⟩ := hB
  obtain ⟨l1, l2, l3⟩ := b3 _ hk
  obtain ⟨q1, q2, q3⟩ := s4 n (by omega)
  have e122 : S.1 2 (kf n) = nI (len (kf n)) := by rw [s1 2 (by omega) (by omega) (by omega) (by omega) (by omega) (by omega) (by omega)]; exact l1
  have eL : S.1 12 3 = nI L := by rw [s1 12 (by omega) (by omega) (by omega) (by omega) (by omega) (by omega) (by omega)]; exact b5
  obtain ⟨C, hC⟩ : ∃ C, C = (pk L len kf n).1 := ⟨_, rfl⟩
  obtain ⟨P, hP⟩ : ∃ P, P = (pk L len kf n).2 := ⟨_, rfl⟩
  rw [← hC] at q2 hc6
  rw [← hP] at q3 hp
  rw [← hC, ← hP]
  obtain ⟨S6, hS6⟩ : ∃ S6, S6 = wr (wr S 21 5 (nI C)) 21 6 (nI P) := ⟨_, rfl⟩
  have r6 : ∀ d, d ≠ 21 → S6.1 d = S.1 d := fun d hd => by rw [hS6, z_wr_row hd, z_wr_row hd]
  have m5 : S6.1 21 5 = nI C := by rw [hS6, z_wr_oth (by omega), z_wr_eq]
  have hend : fX1_end (nI n) S6 = some (nI (P + len (kf n))) := by
    unfold fX1_end
    rw [r6 16 (by omega), r6 14 (by omega), r6 2 (by omega), z_ldI hn (by omega), z_ldI hn (by omega), q1, z_ldI (by omega) (by omega), q3, e122, nI_add]
  have m23 : S6.1 23 C = nI (jm L len kf C (n + 1)) := by rw [r6 23 (by omega)]; exact s9 C hc6
  obtain ⟨S10, hS10⟩ : ∃ S10, S10 = wr S6 23 C (nI (jm L len kf C (n + 1) ^^^ (if P + len (kf n) < L then 2 ^ (P + len (kf n)) else 0))) := ⟨_, rfl⟩
  have m22 : S10.1 22 (kf n) = nI (tot (kf n)) - nI (cnt kf (kf n) (n + 1)) := by rw [hS10, z_wr_ne (by omega), r6 22 (by omega)]; exact s8 _ hk
  refine ⟨wr (wr S10 22 (kf n) (nI (tot (kf n)) - nI (cnt kf (kf n) (n + 1)) + 1)) 13 9 (nI n), ?_, ?_⟩
  · unfold fX2_takeUp
    simp only [nmI, pfI]
    rw [s3, nI_pred, z_ldI hn (by omega), q1, z_ldI hn (by omega), q2]
    have e16 : (wr S 21 5 (nI C)).1 16 n = nI P := by rw [z_wr_ne (by omega)]; exact q3
    rw [z_ldI hn (by omega), e16, ← hS6, m5, z_ldI hc6 (by omega), m23, hend, caP_some, z_jointAt (by rw [r6 12 (by omega)]; exact eL) b7 (by omega), caP_some, nb_xor, z_stI hc6 (by omega), ← hS10, z_ldI (by omega) (by omega), m22, z_stI (by omega) (by omega)]
  · have r10 : ∀ d, d ≠ 21 → d ≠ 23 → S10.1 d = S.1 d := fun d h1 h2 => by rw [hS10, z_wr_row h2, r6 d h1]
    refine ⟨?_, ?_, ?_, ?_, ?_, ?_, ?_, ?_, ?_⟩
    · intro d d13 d14 d15 d16 d21 d22 d23
      rw [z_wr_row d13, z_wr_row d22, r10 d d21 d23]
      exact s1 d d13 d14 d15 d16 d21 d22 d23
    · intro j hj
      rw [z_wr_oth hj, z_wr_ne (by omega), r10 13 (by omega) (by omega)]
      exact s2 j hj
    · rw [z_wr_eq]
    · intro i hi
      rw [z_wr_ne (by omega), z_wr_ne (by omega), z_wr_ne (by omega), z_wr_ne (by omega), z_wr_ne (by omega), z_wr_ne (by omega), r10 14 (by omega) (by omega), r10 15 (by omega) (by omega), r10 16 (by omega) (by omega)]
      exact s4 i (by omega)
    · rw [z_wr_ne (by omega), z_wr_ne (by omega), hS10, z_wr_ne (by omega)]; exact m5
    · rw [z_wr_ne (by omega), z_wr_ne (by omega), hS10, z_wr_ne (by omega), hS6, z_wr_eq]
    · rw [z_wr_ne (by omega), z_wr_ne (by omega), hS10, z_wr_ne (by omega), hS6, z_wr_oth (by omega), z_wr_oth (by omega)]; exact s7
    · intro k2 hk2
      rw [z_wr_ne (by omega), z_wr, if_pos rfl]
      have ec : cnt kf k2 (n + 1) = cnt kf k2 n + (if kf n = k2 then 1 else 0) := rfl
      by_cases e : k2 = kf n
      · rw [if_pos e, e, show cnt kf (kf n) (n + 1) = cnt kf (kf n) n + 1 by rw [show cnt kf (kf n) (n + 1) = cnt kf (kf n) n + (if kf n = kf n then 1 else 0) from rfl, if_pos rfl], ← nI_1]
        simp only [Int32.sub_eq_add_neg, Int32.neg_add, Int32.add_assoc]
        rw [Int32.add_left_neg, Int32.add_zero]
      · rw [if_neg e, r10 22 (by omega) (by omega), s8 k2 hk2, ec, if_neg (fun h => e h.symm)]; rfl
    · intro d hd
      rw [z_wr_ne (by omega), z_wr_ne (by omega), hS10]
      have hj := jm_lay (L := L) (n := n) (len := len) (kf := kf) d hC
      by_cases e : d = C
      · rw [e, z_wr_eq]
        rw [if_pos e, e, ← hP] at hj
        rw [hj, Nat.xor_assoc, Nat.xor_self, Nat.xor_zero]
      · rw [z_wr_oth e, r6 23 (by omega), s9 d hd, hj, if_neg e]
/-- can a stone of kind k be laid -/
def can (T : St) (L n c p : Nat) (len dep tot kf : Nat → Nat) (k : Nat) : Prop := cnt kf k n < tot k ∧ nI (dep k) ≤ wdt T (nI c) + 1 ∧ p + len k ≤ L ∧ ¬ (0 < c ∧ p + len k < L ∧ ∃ i, i < n ∧ (pk L len kf i).1 + 1 = c ∧ (pk L len kf i).2 = p + len k)
/-- the kind that is tried next -/
def Nx (T : St) (L nk n c p f : Nat) (len dep tot kf : Nat → Nat) (x : Int32) : Prop := (∃ k, f ≤ k ∧ k < nk ∧ can T L n c p len dep tot kf k ∧ (∀ i, f ≤ i → i < k → ¬ can T L n c p len dep tot kf i) ∧ x = nI k) ∨ ((∀ k, f ≤ k → k < nk → ¬ can T L n c p len dep tot kf k) ∧ x = -1)
theorem z_nextToTry {N : Nat} {SB T S : St} {L NC nk n looks c p f : Nat} {len dep tot kf : Nat → Nat} (hN : 1000 ≤ N) (hB : KB SB L NC nk len dep) (hw5 : SB.1 12 5 = T.1 0 13) (hw6 : SB.1 12 6 = T.1 0 14) (hV : PV L NC nk len tot kf n) (htot : ∀ k, k < nk → tot k ≤ 300) (hc : c = (pk L len kf n).1) (hpp : p = (pk L len kf n).2) (hc6 : c < 6) (hp : p < L) (hf : f ≤ nk) (hS : CS SB L nk len tot n looks c p kf S) : ∃ x, fX2_nextToTry N (nI f) S = some x ∧ Nx T L nk n c p f len dep tot kf x := by
  obtain ⟨s1, s2, s3, s4, s5, s6, s7, s8, s9⟩ := hS
  obtain ⟨b1, b2, b3, b4, b5, b6, b7, b8, b9⟩ := hB
  have c1 := s1 1 (by omega) (by omega) (by omega) (by omega) (by omega) (by omega) (by omega)
  have c2 := s1 2 (by omega) (by omega) (by omega) (by omega) (by omega) (by omega) (by omega)
  have c3 := s1 3 (by omega) (by omega) (by omega) (by omega) (by omega) (by omega) (by omega)
  have c12 := s1 12 (by omega) (by omega) (by omega) (by omega) (by omega) (by omega) (by omega)
  have e15 : S.1 1 5 = nI nk := by rw [c1]; exact b1
  have eL : S.1 12 3 = nI L := by rw [c12]; exact b5
  have h1 := it_find (z := fun _ => none) (F := fX2_nextToTry_L2 S) (n := nk) (N := N) (j0 := f) (can T L n c p len dep tot kf) (fun k => some (nI k)) (some (-1)) (by omega) hf (by
    intro k r _ hk
    obtain ⟨l1, l2, l3⟩ := b3 k hk
    obtain ⟨d1, d2⟩ := b4 k hk
    have e2 : S.1 2 k = nI (len k) := by rw [c2]; exact l1
    have e3 : S.1 3 k = nI (dep k) := by rw [c3]; exact d1
    have hcn := hV.2 k hk
    have ht := htot k hk
    have e22 : S.1 22 k = nI (tot k - cnt kf k n) := by rw [s8 k hk, pk_sub hcn]
    have hew : (p + len k ≤ L ∧ ¬ (0 < c ∧ p + len k < L ∧ ∃ i, i < n ∧ (pk L len kf i).1 + 1 = c ∧ (pk L len kf i).2 = p + len k)) ∧ fX2_endsWell (nI k) S = some 1 ∨ ¬ (p + len k ≤ L ∧ ¬ (0 < c ∧ p + len k < L ∧ ∃ i, i < n ∧ (pk L len kf i).1 + 1 = c ∧ (pk L len kf i).2 = p + len k)) ∧ fX2_endsWell (nI k) S = some 0 := by
      unfold fX2_endsWell
      simp (disch := omega) only [z_ldI, e2, s6, nmI, nI_add, jn, s5, eL, z_le0, z_le]
      by_cases h0 : c ≤ 0
      · by_cases hle : p + len k ≤ L
        · refine Or.inl ⟨⟨hle, fun h => by omega⟩, ?_⟩
          simp only [if_pos h0, if_pos hle, if_true]
        · refine Or.inr ⟨fun h => hle h.1, ?_⟩
          simp only [if_pos h0, if_neg hle]
      · obtain ⟨c', rfl⟩ : ∃ c', c = c' + 1 := ⟨c - 1, by omega⟩
        have hj := joint_iff (b := p + len k) (fun k hk => (b3 k hk).2.1) hV hc (by omega)
        have hjm := jm_bit (L := L) (c := c') (fun i hi => (b3 _ (hV.1 i hi).1).2.1) (p + len k) (Nat.le_refl n)
        rw [← hj] at hjm
        have htst := nb_tst (m := jm L len kf c' n) (e := p + len k) (Nat.lt_trans (jm_lt b7 n) (by omega)) (by omega)
        by_cases hle : p + len k ≤ L
        · cases hb : (jm L len kf c' n).testBit (p + len k) with
          | true =>
            have h2 := hjm.mp hb
            have h3 := hj.mp h2
            rw [hb, if_pos rfl] at htst
            refine Or.inr ⟨fun h => h.2 ⟨by omega, ?_, ?_⟩, ?_⟩
            · obtain ⟨i, _, _, _, h4⟩ := h3
              exact h4
            · obtain ⟨i, i1, i2, i3⟩ := h2
              exact ⟨i, i1, by omega, i3⟩
            · simp (disch := omega) only [if_neg h0, nI_pred, z_ldI, s9 c' (by omega), htst, if_true, if_pos hle, z_c1, if_false]
          | false =>
            rw [hb, if_neg (by simp)] at htst
            refine Or.inl ⟨⟨hle, ?_⟩, ?_⟩
            · rintro ⟨_, _, i, i1, i2, i3⟩
              rw [hjm.mpr ⟨i, i1, by omega, i3⟩] at hb
              exact absurd hb (by simp)
            · have e01 : ((0 : Int32) = 1) = False := by simp
              simp (disch := omega) only [if_neg h0, nI_pred, z_ldI, s9 c' (by omega), htst, e01, if_true, if_pos hle, if_false]
        · refine Or.inr ⟨fun h => hle h.1, ?_⟩
          simp (disch := omega) only [if_neg h0, nI_pred, z_ldI, s9 c' (by omega), if_neg hle, ite_self]
    unfold fX2_nextToTry_L2
    simp (disch := omega) only [e15, z_lt, hk, if_true, z_ldI, e22, z_le0, e3, s5, z_width3 (show S.1 12 5 = T.1 0 13 by rw [c12]; exact hw5) (show S.1 12 6 = T.1 0 14 by rw [c12]; exact hw6), caP_some, nmI, nI_1]
    unfold can
    by_cases a1 : tot k - cnt kf k n ≤ 0
    · exact Or.inr ⟨fun h => by omega, by rw [if_pos a1]⟩
    · rw [if_neg a1]
      by_cases a2 : nI (dep k) ≤ wdt T (nI c) + 1
      · rw [if_pos a2]
        rcases hew with ⟨a3, e⟩ | ⟨a3, e⟩
        · refine Or.inl ⟨⟨by omega, a2, a3⟩, ?_⟩
          rw [e, caP_some, if_neg (by decide)]
        · refine Or.inr ⟨fun h => a3 h.2.2, ?_⟩
          rw [e, caP_some, if_pos rfl]
      · exact Or.inr ⟨fun h => a2 h.2.1, by rw [if_neg a2]⟩) (by
    intro r
    unfold fX2_nextToTry_L2
    rw [e15, if_neg (Int32.lt_irrefl)])
  unfold fX2_nextToTry
  rcases h1 with ⟨k, k1, k2, k3, k4, e⟩ | ⟨k1, e⟩
  · exact ⟨nI k, e, Or.inl ⟨k, k1, k2, k3, k4, rfl⟩⟩
  · exact ⟨-1, e, Or.inr ⟨k1, rfl⟩⟩
