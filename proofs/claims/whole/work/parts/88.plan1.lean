/-! the search: where it stands -/
/-- the place of stone i, kinds kf, lengths len -/
def pk (L : Nat) (len kf : Nat → Nat) (i : Nat) : Nat × Nat := pos L (fun j => len (kf j)) i
theorem pos_congr {L : Nat} {l l2 : Nat → Nat} : ∀ {i : Nat}, (∀ j, j < i → l j = l2 j) → pos L l i = pos L l2 i := by
  intro i
  induction i with
  | zero => intro _; rfl
  | succ i ih =>
    intro h
    have e := ih (fun j hj => h j (by omega))
    show (if (pos L l i).2 + l i = L then _ else _) = (if (pos L l2 i).2 + l2 i = L then _ else _)
    rw [e, h i (by omega)]
theorem pk_congr {L : Nat} {len kf kf2 : Nat → Nat} {i : Nat} (h : ∀ j, j < i → kf j = kf2 j) : pk L len kf i = pk L len kf2 i := pos_congr (fun j hj => by show len (kf j) = len (kf2 j); rw [h j hj])
theorem cnt_congr {f g : Nat → Nat} {k : Nat} : ∀ {n : Nat}, (∀ i, i < n → f i = g i) → cnt f k n = cnt g k n := by
  intro n
  induction n with
  | zero => intro _; rfl
  | succ n ih =>
    intro h
    show cnt f k n + _ = cnt g k n + _
    rw [ih (fun i hi => h i (by omega)), h n (by omega)]
/-- the joints of course c, as bits -/
def jm (L : Nat) (len kf : Nat → Nat) (c : Nat) : Nat → Nat
  | 0 => 0
  | i + 1 => if (pk L len kf i).1 = c ∧ (pk L len kf i).2 + len (kf i) < L then jm L len kf c i ^^^ 2 ^ ((pk L len kf i).2 + len (kf i)) else jm L len kf c i
theorem jm_succ (L : Nat) (len kf : Nat → Nat) (c i : Nat) : jm L len kf c (i + 1) = if (pk L len kf i).1 = c ∧ (pk L len kf i).2 + len (kf i) < L then jm L len kf c i ^^^ 2 ^ ((pk L len kf i).2 + len (kf i)) else jm L len kf c i := rfl
theorem jm_congr {L : Nat} {len kf kf2 : Nat → Nat} {c : Nat} : ∀ {i : Nat}, (∀ j, j < i → kf j = kf2 j) → jm L len kf c i = jm L len kf2 c i := by
  intro i
  induction i with
  | zero => intro _; rfl
  | succ i ih =>
    intro h
    rw [jm_succ, jm_succ, ih (fun j hj => h j (by omega)), pk_congr (fun j hj => h j (by omega)), h i (by omega)]
theorem jm_lt {L : Nat} {len kf : Nat → Nat} {c : Nat} (hL : L ≤ 24) : ∀ i, jm L len kf c i < 2 ^ 24 := by
  intro i
  induction i with
  | zero => exact Nat.two_pow_pos 24
  | succ i ih =>
    rw [jm_succ]
    split
    · rename_i h
      exact Nat.xor_lt_two_pow ih (Nat.pow_lt_pow_right (by omega) (by omega))
    · exact ih
theorem jm_bit {L n : Nat} {len kf : Nat → Nat} {c : Nat} (hl : ∀ i, i < n → 1 ≤ len (kf i)) (b : Nat) : ∀ {m : Nat}, m ≤ n → ((jm L len kf c m).testBit b = true ↔ ∃ i, i < m ∧ (pk L len kf i).1 = c ∧ (pk L len kf i).2 + len (kf i) = b ∧ b < L) := by
  intro m
  induction m with
  | zero =>
    intro _
    simp [jm]
  | succ m ih =>
    intro hm
    have h1 := ih (by omega)
    rw [jm_succ]
    by_cases e : (pk L len kf m).1 = c ∧ (pk L len kf m).2 + len (kf m) < L
    · rw [if_pos e, Nat.testBit_xor, Nat.testBit_two_pow]
      by_cases eb : (pk L len kf m).2 + len (kf m) = b
      · have hno : ¬ (jm L len kf c m).testBit b = true := by
          rw [h1]
          rintro ⟨i, i1, i2, i3, i4⟩
          have := (pos_lt (L := L) hl i1 (by omega)).2 (by
            show (pk L len kf m).1 = (pk L len kf i).1
            rw [e.1, i2])
          have h2 : (pk L len kf i).2 + len (kf i) + (m - i - 1) ≤ (pk L len kf m).2 := this
          have := hl m (by omega)
          omega
        constructor
        · intro _
          exact ⟨m, by omega, e.1, eb, by omega⟩
        · intro _
          rw [Bool.not_eq_true] at hno
          rw [hno, decide_eq_true eb]; rfl
      · rw [decide_eq_false eb, Bool.xor_false, h1]
        constructor
        · rintro ⟨i, i1, i2⟩
          exact ⟨i, by omega, i2⟩
        · rintro ⟨i, i1, i2, i3, i4⟩
          by_cases ei : i = m
          · subst ei; exact absurd i3 eb
          · exact ⟨i, by omega, i2, i3, i4⟩
    · rw [if_neg e, h1]
      constructor
      · rintro ⟨i, i1, i2⟩
        exact ⟨i, by omega, i2⟩
      · rintro ⟨i, i1, i2, i3, i4⟩
        by_cases ei : i = m
        · subst ei; exact absurd ⟨i2, by omega⟩ e
        · exact ⟨i, by omega, i2, i3, i4⟩
/-- what holds of the stones laid -/
def PV (L NC nk : Nat) (len tot kf : Nat → Nat) (n : Nat) : Prop := (∀ i, i < n → kf i < nk ∧ (pk L len kf i).2 + len (kf i) ≤ L ∧ (pk L len kf i).1 < NC) ∧ (∀ k, k < nk → cnt kf k n ≤ tot k)
/-- a stone begins at b in course c if one ends there -/
theorem joint_iff {L NC nk n c b : Nat} {len tot kf : Nat → Nat} (hlen : ∀ k, k < nk → 1 ≤ len k) (hV : PV L NC nk len tot kf n) (hc : c + 1 = (pk L len kf n).1) (hb : 0 < b) : (∃ i, i < n ∧ (pk L len kf i).1 = c ∧ (pk L len kf i).2 = b) ↔ (∃ i, i < n ∧ (pk L len kf i).1 = c ∧ (pk L len kf i).2 + len (kf i) = b ∧ b < L) := by
  constructor
  · rintro ⟨i, i1, i2, i3⟩
    have hi0 : i ≠ 0 := by
      intro h
      subst h
      have : (pk L len kf 0).2 = 0 := rfl
      omega
    obtain ⟨j, rfl⟩ : ∃ j, i = j + 1 := ⟨i - 1, by omega⟩
    have hs : (pk L len kf (j + 1) = ((pk L len kf j).1 + 1, 0) ∧ (pk L len kf j).2 + len (kf j) = L) ∨ (pk L len kf (j + 1) = ((pk L len kf j).1, (pk L len kf j).2 + len (kf j)) ∧ (pk L len kf j).2 + len (kf j) ≠ L) := pos_step L (fun j => len (kf j)) j
    have hv := (hV.1 (j + 1) i1)
    have hl := hlen _ hv.1
    rcases hs with ⟨h1, h2⟩ | ⟨h1, h2⟩
    · rw [h1] at i3
      simp at i3
      omega
    · refine ⟨j, by omega, ?_, ?_, by omega⟩
      · rw [h1] at i2; exact i2
      · rw [h1] at i3; exact i3
  · rintro ⟨i, i1, i2, i3, i4⟩
    have hs : (pk L len kf (i + 1) = ((pk L len kf i).1 + 1, 0) ∧ (pk L len kf i).2 + len (kf i) = L) ∨ (pk L len kf (i + 1) = ((pk L len kf i).1, (pk L len kf i).2 + len (kf i)) ∧ (pk L len kf i).2 + len (kf i) ≠ L) := pos_step L (fun j => len (kf j)) i
    rcases hs with ⟨h1, h2⟩ | ⟨h1, h2⟩
    · omega
    · have hn : i + 1 ≠ n := by
        intro h
        rw [← h, h1] at hc
        simp at hc
        omega
      exact ⟨i + 1, by omega, by rw [h1]; exact i2, by rw [h1]; exact i3⟩
/-- few stones fill a wall -/
theorem pos_few {L n : Nat} {l : Nat → Nat} (hl : ∀ i, i < n → 1 ≤ l i) : ∀ i, i ≤ n → i ≤ (pos L l i).1 * L + (pos L l i).2 := by
  intro i
  induction i with
  | zero => intro _; omega
  | succ i ih =>
    intro hi
    have h1 := ih (by omega)
    have h2 := hl i (by omega)
    rcases pos_step L l i with ⟨h3, h4⟩ | ⟨h3, h4⟩
    · rw [h3]
      show i + 1 ≤ ((pos L l i).1 + 1) * L + 0
      rw [Nat.add_mul]
      omega
    · rw [h3]
      show i + 1 ≤ (pos L l i).1 * L + ((pos L l i).2 + l i)
      omega
theorem PV_few {L NC nk n : Nat} {len tot kf : Nat → Nat} (hlen : ∀ k, k < nk → 1 ≤ len k) (hL : L ≤ 24) (hNC : NC ≤ 6) (hV : PV L NC nk len tot kf n) (h1 : (pk L len kf n).1 < NC) (h2 : (pk L len kf n).2 < L) : n < 144 := by
  have := pos_few (L := L) (l := fun j => len (kf j)) (n := n) (fun i hi => hlen _ (hV.1 i hi).1) n (Nat.le_refl _)
  have h3 : (pk L len kf n).1 * L ≤ 5 * 24 := Nat.mul_le_mul (by omega) hL
  have h4 : n ≤ (pk L len kf n).1 * L + (pk L len kf n).2 := this
  omega
/-! the class's state in the search -/
def CS (SB : St) (L nk : Nat) (len tot : Nat → Nat) (n looks c p : Nat) (kf : Nat → Nat) (S : St) : Prop :=
  (∀ d, d ≠ 13 → d ≠ 14 → d ≠ 15 → d ≠ 16 → d ≠ 21 → d ≠ 22 → d ≠ 23 → S.1 d = SB.1 d) ∧ (∀ j, j ≠ 9 → S.1 13 j = SB.1 13 j) ∧ S.1 13 9 = nI n ∧
  (∀ i, i < n → S.1 14 i = nI (kf i) ∧ S.1 15 i = nI (pk L len kf i).1 ∧ S.1 16 i = nI (pk L len kf i).2) ∧ S.1 21 5 = nI c ∧ S.1 21 6 = nI p ∧ S.1 21 7 = nI looks ∧
  (∀ k, k < nk → S.1 22 k = nI (tot k) - nI (cnt kf k n)) ∧ (∀ c, c < 6 → S.1 23 c = nI (jm L len kf c n))
/-- what is known of the kinds and the wall -/
def KB (SB : St) (L NC nk : Nat) (len dep : Nat → Nat) : Prop := SB.1 1 5 = nI nk ∧ nk ≤ 8 ∧ (∀ k, k < nk → SB.1 2 k = nI (len k) ∧ 1 ≤ len k ∧ len k ≤ 6) ∧ (∀ k, k < nk → SB.1 3 k = nI (dep k) ∧ dep k ≤ 4) ∧ SB.1 12 3 = nI L ∧ 2 ≤ L ∧ L ≤ 24 ∧ SB.1 12 4 = nI NC ∧ NC ≤ 6
/-- lay stone k behind n -/
def kfn (kf : Nat → Nat) (n k : Nat) : Nat → Nat := fun i => if i = n then k else kf i
theorem kfn_lt {kf : Nat → Nat} {n k i : Nat} (h : i < n) : kfn kf n k i = kf i := if_neg (by omega)
theorem kfn_n {kf : Nat → Nat} {n k : Nat} : kfn kf n k n = k := if_pos rfl
theorem pk_kfn {L : Nat} {len kf : Nat → Nat} {n k i : Nat} (h : i ≤ n) : pk L len (kfn kf n k) i = pk L len kf i := pk_congr (fun j hj => kfn_lt (by omega))
theorem z_jointAt {S : St} {L e : Nat} (hL : S.1 12 3 = nI L) (hl : L ≤ 24) (he : e ≤ 30) : fX2_jointAt (nI e) S = some (nI (if e < L then 2 ^ e else 0)) := by
  unfold fX2_jointAt
  simp (disch := omega) only [hL, z_lt]
  by_cases h : e < L
  · rw [if_pos h, if_pos h, nb_shl (by omega)]
  · rw [if_neg h, if_neg h]; rfl
theorem jm_lay {L n c : Nat} {len kf : Nat → Nat} (d : Nat) (hc : c = (pk L len kf n).1) : jm L len kf d (n + 1) = if d = c then jm L len kf d n ^^^ (if (pk L len kf n).2 + len (kf n) < L then 2 ^ ((pk L len kf n).2 + len (kf n)) else 0) else jm L len kf d n := by
  rw [jm_succ]
  by_cases e : d = c
  · rw [if_pos e]
    by_cases e2 : (pk L len kf n).2 + len (kf n) < L
    · rw [if_pos ⟨by omega, e2⟩, if_pos e2]
    · rw [if_neg (fun h => e2 h.2), if_neg e2, Nat.xor_zero]
  · rw [if_neg e, if_neg (fun h => e (by omega))]
theorem z_lay {SB S : St} {L NC nk n looks c p k : Nat} {len dep tot kf : Nat → Nat} (hB : KB SB L NC nk len dep) (hk : k < nk) (hn : n < 144) (hc6 : c < 6) (hp : p ≤ 24) (hc : c = (pk L len kf n).1) (hpp : p = (pk L len kf n).2) (hS : CS SB L nk len tot n looks c p kf S) :
    ∃ S2, fX2_lay (nI k) S = some S2 ∧ CS SB L nk len tot (n + 1) looks c (p + len k) (kfn kf n k) S2 := by
  obtain ⟨s1, s2, s3, s4, s5, s6, s7, s8, s9⟩ := hS
  obtain ⟨b1, b2, b3, b4, b5, b6, b7, b8, b9⟩ := hB
  obtain ⟨l1, l2, l3⟩ := b3 k hk
  have e122 : S.1 2 k = nI (len k) := by rw [s1 2 (by omega) (by omega) (by omega) (by omega) (by omega) (by omega) (by omega)]; exact l1
  have eL : S.1 12 3 = nI L := by rw [s1 12 (by omega) (by omega) (by omega) (by omega) (by omega) (by omega) (by omega)]; exact b5
  obtain ⟨S1, hS1⟩ : ∃ S1, S1 = wr (wr (wr (wr S 14 n (nI k)) 15 n (nI c)) 16 n (nI p)) 13 9 (nI (n + 1)) := ⟨_, rfl⟩
  have hadd : fX1_add (nI k) (nI c) (nI p) S = some S1 := by
    have h1 : (wr S 14 n (nI k)).1 13 9 = nI n := by rw [z_wr_ne (by omega)]; exact s3
    have h2 : (wr (wr S 14 n (nI k)) 15 n (nI c)).1 13 9 = nI n := by rw [z_wr_ne (by omega)]; exact h1
    have h3 : (wr (wr (wr S 14 n (nI k)) 15 n (nI c)) 16 n (nI p)).1 13 9 = nI n := by rw [z_wr_ne (by omega)]; exact h2
    unfold fX1_add
    have h0 : nI n < 144 := (nI_ltI (b := 144) (by omega) (by omega)).mpr hn
    rw [s3, if_pos h0, z_stI hn (by omega), h1, z_stI hn (by omega), h2, z_stI hn (by omega), h3]
    simp only [pfI, nI_1]
    rw [hS1]
  have m22 : S1.1 22 k = nI (tot k) - nI (cnt kf k n) := by rw [hS1, z_wr_ne (by omega), z_wr_ne (by omega), z_wr_ne (by omega), z_wr_ne (by omega)]; exact s8 k hk
  obtain ⟨S3, hS3⟩ : ∃ S3, S3 = wr S1 22 k (nI (tot k) - nI (cnt kf k n) - 1) := ⟨_, rfl⟩
  have m2 : S3.1 2 k = nI (len k) := by rw [hS3, z_wr_ne (by omega), hS1, z_wr_ne (by omega), z_wr_ne (by omega), z_wr_ne (by omega), z_wr_ne (by omega)]; exact e122
  have m216 : S3.1 21 6 = nI p := by rw [hS3, z_wr_ne (by omega), hS1, z_wr_ne (by omega), z_wr_ne (by omega), z_wr_ne (by omega), z_wr_ne (by omega)]; exact s6
  obtain ⟨S5, hS5⟩ : ∃ S5, S5 = wr S3 21 6 (nI (p + len k)) := ⟨_, rfl⟩
  have m215 : S5.1 21 5 = nI c := by rw [hS5, z_wr_oth (by omega), hS3, z_wr_ne (by omega), hS1, z_wr_ne (by omega), z_wr_ne (by omega), z_wr_ne (by omega), z_wr_ne (by omega)]; exact s5
  have m23 : S5.1 23 c = nI (jm L len kf c n) := by rw [hS5, z_wr_ne (by omega), hS3, z_wr_ne (by omega), hS1, z_wr_ne (by omega), z_wr_ne (by omega), z_wr_ne (by omega), z_wr_ne (by omega)]; exact s9 c hc6
  have mL : S5.1 12 3 = nI L := by rw [hS5, z_wr_ne (by omega), hS3, z_wr_ne (by omega), hS1, z_wr_ne (by omega), z_wr_ne (by omega), z_wr_ne (by omega), z_wr_ne (by omega)]; exact eL
  have m6 : S5.1 21 6 = nI (p + len k) := by rw [hS5, z_wr_eq]
  refine ⟨wr S5 23 c (nI (jm L len kf c n ^^^ (if p + len k < L then 2 ^ (p + len k) else 0))), ?_, ?_⟩
  · unfold fX2_lay
    rw [s5, s6, hadd, caV_some, z_ldI (by omega) (by omega), m22, z_stI (by omega) (by omega), ← hS3, z_ldI (by omega) (by omega), m2, m216, nI_add]
    simp only [pfI]
    rw [← hS5, m215, z_ldI hc6 (by omega), m23, m6, z_jointAt mL b7 (by omega), caP_some, nb_xor, z_stI hc6 (by omega)]
  · have hc' : c = (pk L len (kfn kf n k) n).1 := by rw [pk_kfn (Nat.le_refl _)]; exact hc
    refine ⟨?_, ?_, ?_, ?_, ?_, ?_, ?_, ?_, ?_⟩
    · intro d d13 d14 d15 d16 d21 d22 d23
      rw [z_wr_row d23, hS5, z_wr_row d21, hS3, z_wr_row d22, hS1, z_wr_row d13, z_wr_row d16, z_wr_row d15, z_wr_row d14]
      exact s1 d d13 d14 d15 d16 d21 d22 d23
    · intro j hj
      rw [z_wr_ne (by omega), hS5, z_wr_ne (by omega), hS3, z_wr_ne (by omega), hS1, z_wr_oth hj, z_wr_ne (by omega), z_wr_ne (by omega), z_wr_ne (by omega)]
      exact s2 j hj
    · rw [z_wr_ne (by omega), hS5, z_wr_ne (by omega), hS3, z_wr_ne (by omega), hS1, z_wr_eq]
    · intro i hi
      have e14 : (wr S5 23 c (nI (jm L len kf c n ^^^ (if p + len k < L then 2 ^ (p + len k) else 0)))).1 14 i = if i = n then nI k else S.1 14 i := by
        rw [z_wr_ne (by omega), hS5, z_wr_ne (by omega), hS3, z_wr_ne (by omega), hS1, z_wr_ne (by omega), z_wr_ne (by omega), z_wr_ne (by omega), z_wr, if_pos rfl]
      have e15 : (wr S5 23 c (nI (jm L len kf c n ^^^ (if p + len k < L then 2 ^ (p + len k) else 0)))).1 15 i = if i = n then nI c else S.1 15 i := by
        rw [z_wr_ne (by omega), hS5, z_wr_ne (by omega), hS3, z_wr_ne (by omega), hS1, z_wr_ne (by omega), z_wr_ne (by omega), z_wr, if_pos rfl, z_wr_ne (by omega)]
      have e16 : (wr S5 23 c (nI (jm L len kf c n ^^^ (if p + len k < L then 2 ^ (p + len k) else 0)))).1 16 i = if i = n then nI p else S.1 16 i := by
        rw [z_wr_ne (by omega), hS5, z_wr_ne (by omega), hS3, z_wr_ne (by omega), hS1, z_wr_ne (by omega), z_wr, if_pos rfl, z_wr_ne (by omega), z_wr_ne (by omega)]
      rw [e14, e15, e16, pk_kfn (by omega)]
      by_cases e : i = n
      · subst e
        rw [if_pos rfl, if_pos rfl, if_pos rfl, kfn_n, ← hc, ← hpp]
        exact ⟨rfl, rfl, rfl⟩
      · rw [if_neg e, if_neg e, if_neg e, kfn_lt (by omega)]
        exact s4 i (by omega)
    · rw [z_wr_ne (by omega)]; exact m215
    · rw [z_wr_ne (by omega)]; exact m6
    · rw [z_wr_ne (by omega), hS5, z_wr_oth (by omega), hS3, z_wr_ne (by omega), hS1, z_wr_ne (by omega), z_wr_ne (by omega), z_wr_ne (by omega), z_wr_ne (by omega)]; exact s7
    · intro k2 hk2
      rw [z_wr_ne (by omega), hS5, z_wr_ne (by omega), hS3, z_wr, if_pos rfl]
      have ec : cnt (kfn kf n k) k2 (n + 1) = cnt kf k2 n + (if k = k2 then 1 else 0) := by
        show cnt (kfn kf n k) k2 n + (if kfn kf n k n = k2 then 1 else 0) = _
        rw [kfn_n, cnt_congr (fun i hi => kfn_lt hi)]
      rw [ec]
      by_cases e : k2 = k
      · rw [if_pos e, if_pos e.symm, ← nI_1, e]
        simp only [Int32.sub_eq_add_neg, Int32.neg_add, Int32.add_assoc]
      · rw [if_neg e, if_neg (fun h => e h.symm), hS1, z_wr_ne (by omega), z_wr_ne (by omega), z_wr_ne (by omega), z_wr_ne (by omega)]
        exact s8 k2 hk2
    · intro d hd
      rw [jm_lay d hc', pk_kfn (Nat.le_refl _), kfn_n, ← hpp, jm_congr (kf2 := kf) (fun j hj => kfn_lt hj)]
      by_cases e : d = c
      · rw [e, z_wr_eq, if_pos rfl]
      · rw [if_neg e, z_wr_oth e, hS5, z_wr_ne (by omega), hS3, z_wr_ne (by omega), hS1, z_wr_ne (by omega), z_wr_ne (by omega), z_wr_ne (by omega), z_wr_ne (by omega)]
        exact s9 d hd
