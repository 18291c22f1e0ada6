/-! the search: through-stones, the reference's tests -/
/-- the through-stones of course c -/
def thB (T : St) (L c : Nat) (len dep kf : Nat → Nat) (i : Nat) : Bool := decide ((pk L len kf i).1 = c) && !decide (nI (dep (kf i)) < wdt T (nI (pk L len kf i).1))
def fullB (T : St) (L c B M : Nat) (len dep kf : Nat → Nat) (n : Nat) : Bool := !B.testBit c || decide (M ≤ cB (thB T L c len dep kf) n)
theorem cB_mono {f : Nat → Bool} {a : Nat} : ∀ {b : Nat}, a ≤ b → cB f a ≤ cB f b := by
  intro b
  induction b with
  | zero => intro h; rw [show a = 0 by omega]; exact Nat.le_refl _
  | succ b ih =>
    intro h
    by_cases e : a = b + 1
    · rw [e]; exact Nat.le_refl _
    · exact Nat.le_trans (ih (by omega)) (Nat.le_add_right _ _)
theorem cB_succ (f : Nat → Bool) (n : Nat) : cB f (n + 1) = cB f n + (if f n = true then 1 else 0) := rfl
theorem z_hasThroughs {N : Nat} {SB T S : St} {L NC nk n looks c p B M : Nat} {len dep tot kf : Nat → Nat} (hN : 1000 ≤ N) (hB : KB SB L NC nk len dep) (hw5 : SB.1 12 5 = T.1 0 13) (hw6 : SB.1 12 6 = T.1 0 14) (e7 : SB.1 12 7 = nI B) (hB63 : B ≤ 63) (e8 : SB.1 12 8 = nI M) (hM : M ≤ 3) (hkf : ∀ i, i < n + 1 → kf i < nk) (hn : n < 144) (hc : c = (pk L len kf n).1) (hc6 : ∀ i, i < n + 1 → (pk L len kf i).1 < 6) (hS : CS SB L nk len tot (n + 1) looks c p kf S) : fX2_hasThroughsAsked N S = some (bI (fullB T L c B M len dep kf (n + 1))) := by
  obtain ⟨s1, s2, s3, s4, s5, s6, s7, s8, s9⟩ := hS
  obtain ⟨b1, b2, b3, b4, b5, b6, b7, b8, b9⟩ := hB
  have c3 := s1 3 (by omega) (by omega) (by omega) (by omega) (by omega) (by omega) (by omega)
  have c12 := s1 12 (by omega) (by omega) (by omega) (by omega) (by omega) (by omega) (by omega)
  have hcc : c < 6 := by rw [hc]; exact hc6 n (by omega)
  have hth : ∀ i, i < n + 1 → fX1_isThroughStone (nI i) S = some (if nI (dep (kf i)) < wdt T (nI (pk L len kf i).1) then 0 else 1) := by
    intro i hi
    obtain ⟨q1, q2, q3⟩ := s4 i hi
    have hk := hkf i hi
    have e3 : S.1 3 (kf i) = nI (dep (kf i)) := by rw [c3]; exact (b4 _ hk).1
    unfold fX1_isThroughStone
    simp (disch := omega) only [z_ldI, q1, e3, q2, z_width3 (show S.1 12 5 = T.1 0 13 by rw [c12]; exact hw5) (show S.1 12 6 = T.1 0 14 by rw [c12]; exact hw6), caP_some]
    split <;> rfl
  obtain ⟨K5, hK5⟩ : ∃ K5 : Int32 → Option Int32, K5 = fun (x6 : Int32) => caP (fX3_throughsAsked (S.1 21 5) S) fun x7 => if x6 < x7 then some 0 else some 1 := ⟨_, rfl⟩
  have hloop : itN (fun _ _ => none) (fX2_hasThroughsAsked_L12 S K5) N 0 (nI n) = K5 (nI (cB (thB T L c len dep kf) (n + 1))) := by
    have := it_run (z := fun _ _ => none) (F := fX2_hasThroughsAsked_L12 S K5) (σ := Nat × Int32) (fun s (r : Int32 → Int32 → Option Int32) => r s.2 (nI s.1 - 1)) (fun m s => m = s.1 ∧ s.1 ≤ n + 1 ∧ s.2 + nI (cB (thB T L c len dep kf) s.1) = nI (cB (thB T L c len dep kf) (n + 1))) (fun o => o = K5 (nI (cB (thB T L c len dep kf) (n + 1)))) (by
      rintro m ⟨j, x⟩ r ⟨i1, i2, i3⟩
      dsimp only at i1 i2 i3
      by_cases hj : j = 0
      · subst hj
        left
        show fX2_hasThroughsAsked_L12 S K5 r x (nI 0 - 1) = _
        unfold fX2_hasThroughsAsked_L12
        rw [if_pos (by decide)]
        have : x + nI 0 = x := Int32.add_zero x
        rw [show cB (thB T L c len dep kf) 0 = 0 from rfl, this] at i3
        rw [i3]
      · obtain ⟨j', rfl⟩ : ∃ j', j = j' + 1 := ⟨j - 1, by omega⟩
        obtain ⟨q1, q2, q3⟩ := s4 j' (by omega)
        have h6 := hc6 j' (by omega)
        rw [cB_succ] at i3
        by_cases hcj : (pk L len kf j').1 = c
        · right
          have e1 : thB T L c len dep kf j' = !decide (nI (dep (kf j')) < wdt T (nI (pk L len kf j').1)) := by
            unfold thB
            rw [decide_eq_true hcj, Bool.true_and]
          by_cases hlt : nI (dep (kf j')) < wdt T (nI (pk L len kf j').1)
          · rw [e1, decide_eq_true hlt, if_neg (by simp), Nat.add_zero] at i3
            refine ⟨j', (j', x), by omega, ⟨rfl, by show j' ≤ n + 1; omega, i3⟩, ?_⟩
            show fX2_hasThroughsAsked_L12 S K5 r x (nI (j' + 1) - 1) = r x (nI j' - 1)
            unfold fX2_hasThroughsAsked_L12
            rw [nI_pred, if_neg (nI_pos (by omega)), z_ldI (by omega) (by omega), q2, s5, hcj, if_pos rfl, hth j' (by omega), caP_some, if_pos hlt, if_pos rfl]
            simp only [nmI]
            rw [Int32.add_zero, Int32.sub_eq_add_neg]
          · rw [e1, decide_eq_false hlt, Bool.not_false, if_pos rfl] at i3
            refine ⟨j', (j', x + 1), by omega, ⟨rfl, by show j' ≤ n + 1; omega, ?_⟩, ?_⟩
            · show x + 1 + nI _ = _
              rw [← i3, ← nI_1, Int32.add_assoc, Int32.add_comm 1]
            · show fX2_hasThroughsAsked_L12 S K5 r x (nI (j' + 1) - 1) = r (x + 1) (nI j' - 1)
              unfold fX2_hasThroughsAsked_L12
              rw [nI_pred, if_neg (nI_pos (by omega)), z_ldI (by omega) (by omega), q2, s5, hcj, if_pos rfl, hth j' (by omega), caP_some, if_neg hlt, if_neg (by decide)]
              simp only [nmI]
              rw [Int32.sub_eq_add_neg]
        · left
          have hl : ∀ i, i < n + 1 → 1 ≤ (fun j => len (kf j)) i := fun i hi => (b3 _ (hkf i hi)).2.1
          have hmono : ∀ i j, i ≤ j → j ≤ n → (pk L len kf i).1 ≤ (pk L len kf j).1 := by
            intro i j hij hj
            by_cases e : i = j
            · rw [e]; exact Nat.le_refl _
            · exact (pos_lt (L := L) hl (show i < j by omega) (by omega)).1
          have h1 := hmono j' n (by omega) (by omega)
          have hz : cB (thB T L c len dep kf) (j' + 1) = 0 := cB_none (fun i hi => by
            have h2 := hmono i j' (by omega) (by omega)
            unfold thB
            rw [decide_eq_false (by omega), Bool.false_and])
          rw [cB_succ] at hz
          rw [hz] at i3
          have : x + nI 0 = x := Int32.add_zero x
          rw [this] at i3
          show fX2_hasThroughsAsked_L12 S K5 r x (nI (j' + 1) - 1) = _
          unfold fX2_hasThroughsAsked_L12
          rw [nI_pred, if_neg (nI_pos (by omega)), z_ldI (by omega) (by omega), q2, s5, if_neg (fun h => hcj ((nI_eq (by omega) (by omega)).mp h)), i3]) N (n + 1) (n + 1, 0) (by omega) ⟨rfl, Nat.le_refl _, by show (0 : Int32) + _ = _; exact Int32.zero_add _⟩
    have e : nI (n + 1) - 1 = nI n := nI_pred n
    rw [← e]
    exact this
  unfold fX2_hasThroughsAsked
  simp only [nmI]
  rw [s3, nI_pred, ← hK5, hloop, hK5]
  have hle := cB_le (thB T L c len dep kf) (n + 1)
  have h127 : S.1 12 7 = nI B := by rw [c12]; exact e7
  have h128 : S.1 12 8 = nI M := by rw [c12]; exact e8
  unfold fX3_throughsAsked fullB
  dsimp only
  have ht := nb_tst (m := B) (e := c) (by omega) (by omega)
  rw [s5, h127, h128]
  cases hb : B.testBit c with
  | false =>
    have ht : (nI B >>> (nI c &&& 31)) &&& 1 = 0 := by rw [ht, hb]; rfl
    rw [ht, if_neg (by decide), caP_some, if_neg (nI_pos (by omega))]; rfl
  | true =>
    have ht : (nI B >>> (nI c &&& 31)) &&& 1 = 1 := by rw [ht, hb]; rfl
    rw [ht, if_pos rfl, caP_some]
    by_cases h : cB (thB T L c len dep kf) (n + 1) < M
    · rw [if_pos (nI_lt h (by omega)), decide_eq_false (by omega)]; rfl
    · rw [if_neg (nI_nlt (by omega) (by omega)), decide_eq_true (by omega)]; rfl
theorem wdt_eq {T T2 : St} (h13 : T2.1 0 13 = T.1 0 13) (h14 : T2.1 0 14 = T.1 0 14) (a : Int32) : wdt T2 a = wdt T a := by
  unfold wdt
  rw [h13, h14]
theorem z_isFull {N : Nat} {T TB : St} {L n c B M : Nat} {len dep kf : Nat → Nat} (hN : 1000 ≤ N) (h13 : T.1 0 13 = TB.1 0 13) (h14 : T.1 0 14 = TB.1 0 14) (e7 : T.1 0 15 = nI B) (hB63 : B ≤ 63) (e8 : T.1 0 16 = nI M) (hM : M ≤ 3) (hn : n ≤ 144) (hc6 : c < 6) (hst : ∀ i, i < n → T.1 7 i = nI (kf i) ∧ kf i < 8 ∧ T.1 8 i = nI (pk L len kf i).1 ∧ (pk L len kf i).1 < 6 ∧ T.1 2 (kf i) = nI (dep (kf i))) : fX6_isFull N (nI c) (nI n) T = some (bI (fullB TB L c B M len dep kf n)) := by
  unfold fX6_isFull fullB
  have ht := nb_tst (m := B) (e := c) (by omega) (by omega)
  rw [e7]
  cases hb : B.testBit c with
  | false =>
    have ht : (nI B >>> (nI c &&& 31)) &&& 1 = 0 := by rw [ht, hb]; rfl
    rw [ht, if_pos rfl]; rfl
  | true =>
    have ht : (nI B >>> (nI c &&& 31)) &&& 1 = 1 := by rw [ht, hb]; rfl
    rw [ht, if_neg (by decide)]
    have hs : ∀ m, sI (fun i => bI (thB TB L c len dep kf i)) m = nI (cB (thB TB L c len dep kf) m) := by
      intro m
      induction m with
      | zero => rfl
      | succ m ih =>
        show sI _ m + bI _ = _
        rw [ih, cB_succ, ← nI_add]
        cases thB TB L c len dep kf m <;> rfl
    rw [it_sum (n := n) (f := fun i => bI (thB TB L c len dep kf i)) (F := fX6_isFull_L18 (nI c) (nI n) T (fun (x5 : Int32) => if x5 < (T.1 0 16) then some 0 else some 1)) (K := fun (x5 : Int32) => if x5 < (T.1 0 16) then some 0 else some 1) (by omega) (by
      intro j x r hj
      obtain ⟨q1, q2, q3, q4, q5⟩ := hst j hj
      unfold fX6_isFull_L18 thB
      simp (disch := omega) only [z_lt, hj, if_true, z_ldI, q1, q3, q5, z_eq, z_width6, wdt_eq h13 h14, caP_some, nmI, nI_1]
      by_cases h1 : (pk L len kf j).1 = c
      · rw [if_pos h1, decide_eq_true h1, h1]
        by_cases h2 : nI (dep (kf j)) < wdt TB (nI c)
        · rw [if_pos h2, decide_eq_true h2]; rfl
        · rw [if_neg h2, decide_eq_false h2]; rfl
      · rw [if_neg h1, decide_eq_false h1]; rfl) (by
      intro x r
      unfold fX6_isFull_L18
      rw [if_neg (Int32.lt_irrefl)]), hs, e8]
    have hle := cB_le (thB TB L c len dep kf) n
    show (if nI _ < nI M then some 0 else some 1) = _
    by_cases h : cB (thB TB L c len dep kf) n < M
    · rw [if_pos (nI_lt h (by omega)), decide_eq_false (by omega)]; rfl
    · rw [if_neg (nI_nlt (by omega) (by omega)), decide_eq_true (by omega)]; rfl
/-- the reference's state in the search -/
def RS (TB : St) (L : Nat) (len : Nat → Nat) (n looks : Nat) (kf : Nat → Nat) (T : St) : Prop :=
  (∀ c, c ≠ 0 → c ≠ 7 → c ≠ 8 → c ≠ 9 → c ≠ 13 → c ≠ 14 → T.1 c = TB.1 c) ∧ (∀ j, j ≠ 26 → T.1 0 j = TB.1 0 j) ∧ (∀ i, i < n → T.1 7 i = nI (kf i) ∧ T.1 8 i = nI (pk L len kf i).1 ∧ T.1 9 i = nI (pk L len kf i).2) ∧ T.1 0 26 = nI looks ∧ (∀ k, k < 8 → T.1 13 k = nI (cnt kf k n))
/-- what is known of the kinds, the heaps and the wall -/
def TBok (N : Nat) (TB : St) (L NC nk B M : Nat) (len dep tot : Nat → Nat) : Prop := TB.1 0 0 = nI nk ∧ nk ≤ 8 ∧ (∀ k, k < nk → TB.1 1 k = nI (len k) ∧ 1 ≤ len k ∧ len k ≤ 6) ∧ (∀ k, k < nk → TB.1 2 k = nI (dep k) ∧ dep k ≤ 4) ∧ TB.1 0 11 = nI L ∧ 2 ≤ L ∧ L ≤ 24 ∧ TB.1 0 12 = nI NC ∧ NC ≤ 6 ∧ TB.1 0 15 = nI B ∧ B ≤ 63 ∧ TB.1 0 16 = nI M ∧ M ≤ 3 ∧ (∀ k, k < nk → fX6_inHeaps N (nI k) TB = some (nI (tot k)) ∧ tot k ≤ 300)
theorem inHeaps_eq {N : Nat} {T T2 : St} (h3 : T2.1 0 3 = T.1 0 3) (h5 : T2.1 5 = T.1 5) (a : Int32) : fX6_inHeaps N a T2 = fX6_inHeaps N a T := by
  unfold fX6_inHeaps fX6_inHeaps_L4
  rw [h3, h5]
theorem z_can {N : Nat} {TB T : St} {L NC nk B M n looks c p k : Nat} {len dep tot kf : Nat → Nat} (hN : 1000 ≤ N) (hB : TBok N TB L NC nk B M len dep tot) (hT : RS TB L len n looks kf T) (hk : k < nk) (hn : n < 144) (hc6 : c < 6) (hp : p ≤ 24) (hpk : ∀ i, i < n → (pk L len kf i).1 < 6 ∧ (pk L len kf i).2 ≤ 24) : (can TB L n c p len dep tot kf k ∧ fX6_can N (nI k) (nI n) (nI c) (nI p) T = some 1) ∨ (¬ can TB L n c p len dep tot kf k ∧ fX6_can N (nI k) (nI n) (nI c) (nI p) T = some 0) := by
  obtain ⟨t1, t2, t3, t4, t5⟩ := hT
  obtain ⟨b1, b2, b3, b4, b5, b6, b7, b8, b9, b10, b11, b12, b13, b14⟩ := hB
  obtain ⟨l1, l2, l3⟩ := b3 k hk
  obtain ⟨d1, d2⟩ := b4 k hk
  obtain ⟨h1, h2⟩ := b14 k hk
  have e1 : T.1 1 k = nI (len k) := by rw [t1 1 (by omega) (by omega) (by omega) (by omega) (by omega) (by omega)]; exact l1
  have e2 : T.1 2 k = nI (dep k) := by rw [t1 2 (by omega) (by omega) (by omega) (by omega) (by omega) (by omega)]; exact d1
  have eL : T.1 0 11 = nI L := by rw [t2 11 (by omega)]; exact b5
  have eh : fX6_inHeaps N (nI k) T = some (nI (tot k)) := by rw [inHeaps_eq (t2 3 (by omega)) (t1 5 (by omega) (by omega) (by omega) (by omega) (by omega) (by omega))]; exact h1
  have hcn : cnt kf k n ≤ 144 := Nat.le_trans (cnt_le _ _ _) (by omega)
  unfold fX6_can
  simp (disch := omega) only [z_ldI, e1, e2, nmI, nI_add, z_width6, wdt_eq (t2 13 (by omega)) (t2 14 (by omega)), caP_some, eL, z_le, eh, t5 k (by omega)]
  unfold can
  by_cases a1 : nI (dep k) ≤ wdt TB (nI c) + 1
  · rw [if_pos a1]
    by_cases a2 : p + len k ≤ L
    · rw [if_pos a2]
      by_cases a3 : tot k ≤ cnt kf k n
      · rw [if_pos a3]; exact Or.inr ⟨fun h => by omega, rfl⟩
      · rw [if_neg a3]
        by_cases a4 : p + len k < L
        · have h5 := it_find (z := fun _ => none) (F := fX6_can_L55 (nI n) (nI c) (nI (p + len k)) T) (n := n) (N := N) (j0 := 0) (fun i => (pk L len kf i).1 + 1 = c ∧ (pk L len kf i).2 = p + len k) (fun _ => some 0) (some 1) (by omega) (by omega) (by
            intro j r _ hj
            obtain ⟨q1, q2, q3⟩ := t3 j hj
            obtain ⟨u1, u2⟩ := hpk j hj
            have ec : (nI (pk L len kf j).1 = nI c - 1) = ((pk L len kf j).1 + 1 = c) := by
              by_cases h0 : c = 0
              · subst h0
                apply propext
                constructor
                · intro h
                  have e : nI 0 - 1 = (-1 : Int32) := by decide
                  rw [e] at h
                  exact absurd h (z_neg1 _ (by omega))
                · intro h; omega
              · rw [nI_dec (by omega), z_eq (by omega) (by omega)]
                apply propext
                omega
            unfold fX6_can_L55
            simp (disch := omega) only [z_lt, hj, if_true, eL, a4, z_ldI, q2, q3, ec, z_eq, nmI, nI_1]
            by_cases g1 : (pk L len kf j).1 + 1 = c
            · rw [if_pos g1]
              by_cases g2 : (pk L len kf j).2 = p + len k
              · rw [if_pos g2]; exact Or.inl ⟨⟨g1, g2⟩, rfl⟩
              · rw [if_neg g2]; exact Or.inr ⟨fun h => g2 h.2, rfl⟩
            · rw [if_neg g1]; exact Or.inr ⟨fun h => g1 h.1, rfl⟩) (by
            intro r
            unfold fX6_can_L55
            rw [if_neg (Int32.lt_irrefl)])
          rw [nI_0] at h5
          rcases h5 with ⟨i, -, i1, i2, -, e⟩ | ⟨i1, e⟩
          · rw [e]
            exact Or.inr ⟨fun h => h.2.2.2 ⟨by omega, a4, i, i1, i2⟩, rfl⟩
          · rw [e]
            refine Or.inl ⟨⟨by omega, a1, a2, ?_⟩, rfl⟩
            rintro ⟨_, _, i, i2, i3⟩
            exact i1 i (by omega) i2 i3
        · obtain ⟨N', rfl⟩ : ∃ N', N = N' + 1 := ⟨N - 1, by omega⟩
          refine Or.inl ⟨⟨by omega, a1, a2, fun h => a4 h.2.1⟩, ?_⟩
          show fX6_can_L55 (nI n) (nI c) (nI (p + len k)) T _ 0 = some 1
          unfold fX6_can_L55
          simp (disch := omega) only [eL, z_lt, a4, if_false, ite_self]
    · rw [if_neg a2]; exact Or.inr ⟨fun h => a2 h.2.2.1, rfl⟩
  · rw [if_neg a1]; exact Or.inr ⟨fun h => a1 h.2.1, rfl⟩
