/-! the search: step by step, both -/
theorem z_scan {N : Nat} {TB T : St} {L NC nk B M n looks c p f : Nat} {len dep tot kf : Nat → Nat} {K : Int32 → Option (Int32 × St)} {x : Int32} (hN : 1000 ≤ N) (hB : TBok N TB L NC nk B M len dep tot) (hT : RS TB L len n looks kf T) (hn : n < 144) (hc6 : c < 6) (hp : p ≤ 24) (hpk : ∀ i, i < n → (pk L len kf i).1 < 6 ∧ (pk L len kf i).2 ≤ 24) (hf : f ≤ nk) (hx : Nx TB L nk n c p f len dep tot kf x) : (x = -1 ∧ itN (fun _ => none) (fX6_plan_L84 N (nI n) (nI c) (nI p) T K) N (nI f) = K (nI nk)) ∨ (∃ k, k < nk ∧ f ≤ k ∧ can TB L n c p len dep tot kf k ∧ x = nI k ∧ itN (fun _ => none) (fX6_plan_L84 N (nI n) (nI c) (nI p) T K) N (nI f) = K (nI k)) := by
  have b1 := hB.1
  have b2 := hB.2.1
  have e0 : T.1 0 0 = nI nk := by rw [hT.2.1 0 (by omega)]; exact b1
  have h1 := it_find (z := fun _ => none) (F := fX6_plan_L84 N (nI n) (nI c) (nI p) T K) (n := nk) (N := N) (j0 := f) (can TB L n c p len dep tot kf) (fun k => K (nI k)) (K (nI nk)) (by omega) hf (by
    intro k r _ hk
    unfold fX6_plan_L84
    simp (disch := omega) only [e0, z_lt, hk, if_true]
    rcases z_can hN hB hT hk hn hc6 hp hpk with ⟨h, e⟩ | ⟨h, e⟩
    · rw [e, caP_some, if_neg (by decide)]; exact Or.inl ⟨h, rfl⟩
    · rw [e, caP_some, if_pos rfl]; exact Or.inr ⟨h, by simp only [nmI, nI_1]⟩) (by
    intro r
    unfold fX6_plan_L84
    rw [e0, if_neg (Int32.lt_irrefl)])
  rcases hx with ⟨k, k1, k2, k3, k4, rfl⟩ | ⟨k1, rfl⟩
  · right
    rcases h1 with ⟨k', j1, j2, j3, j4, e⟩ | ⟨j1, e⟩
    · have : k = k' := by
        rcases Nat.lt_trichotomy k k' with h | h | h
        · exact absurd k3 (j4 k k1 h)
        · exact h
        · exact absurd j3 (k4 k' j1 h)
      subst this
      exact ⟨k, k2, k1, k3, rfl, e⟩
    · exact absurd k3 (j1 k k1 k2)
  · left
    rcases h1 with ⟨k', j1, j2, j3, j4, e⟩ | ⟨j1, e⟩
    · exact absurd j3 (k1 k' j1 j2)
    · exact ⟨rfl, e⟩
/-- the reference puts stone n down -/
def rput (T : St) (n k c p lk : Nat) : St := wr (wr (wr (wr T 0 26 (nI lk)) 7 n (nI k)) 8 n (nI c)) 9 n (nI p)
theorem rput_o {T : St} {n k c p lk d : Nat} (h0 : d ≠ 0) (h7 : d ≠ 7) (h8 : d ≠ 8) (h9 : d ≠ 9) : (rput T n k c p lk).1 d = T.1 d := by
  unfold rput
  rw [z_wr_row h9, z_wr_row h8, z_wr_row h7, z_wr_row h0]
theorem rput_0 {T : St} {n k c p lk j : Nat} (h : j ≠ 26) : (rput T n k c p lk).1 0 j = T.1 0 j := by
  unfold rput
  rw [z_wr_ne (by omega), z_wr_ne (by omega), z_wr_ne (by omega), z_wr_oth h]
theorem rput_26 {T : St} {n k c p lk : Nat} : (rput T n k c p lk).1 0 26 = nI lk := by
  unfold rput
  rw [z_wr_ne (by omega), z_wr_ne (by omega), z_wr_ne (by omega), z_wr_eq]
theorem rput_i {TB T : St} {L n looks k c p lk : Nat} {len kf : Nat → Nat} (hT : RS TB L len n looks kf T) (hc : c = (pk L len kf n).1) (hp : p = (pk L len kf n).2) : ∀ i, i < n + 1 → (rput T n k c p lk).1 7 i = nI (kfn kf n k i) ∧ (rput T n k c p lk).1 8 i = nI (pk L len (kfn kf n k) i).1 ∧ (rput T n k c p lk).1 9 i = nI (pk L len (kfn kf n k) i).2 := by
  intro i hi
  have e7 : (rput T n k c p lk).1 7 i = if i = n then nI k else T.1 7 i := by
    unfold rput
    rw [z_wr_ne (by omega), z_wr_ne (by omega), z_wr, if_pos rfl, z_wr_ne (by omega)]
  have e8 : (rput T n k c p lk).1 8 i = if i = n then nI c else T.1 8 i := by
    unfold rput
    rw [z_wr_ne (by omega), z_wr, if_pos rfl, z_wr_ne (by omega), z_wr_ne (by omega)]
  have e9 : (rput T n k c p lk).1 9 i = if i = n then nI p else T.1 9 i := by
    unfold rput
    rw [z_wr, if_pos rfl, z_wr_ne (by omega), z_wr_ne (by omega), z_wr_ne (by omega)]
  rw [e7, e8, e9, pk_kfn (by omega)]
  by_cases e : i = n
  · subst e
    rw [if_pos rfl, if_pos rfl, if_pos rfl, kfn_n, ← hc, ← hp]
    exact ⟨rfl, rfl, rfl⟩
  · rw [if_neg e, if_neg e, if_neg e, kfn_lt (by omega)]
    exact hT.2.2.1 i (by omega)
/-- what the search leaves as it was -/
def FnS (SB S : St) : Prop := (∀ d, d ≠ 13 → d ≠ 14 → d ≠ 15 → d ≠ 16 → d ≠ 21 → d ≠ 22 → d ≠ 23 → S.1 d = SB.1 d) ∧ (∀ j, j ≠ 9 → S.1 13 j = SB.1 13 j)
def FnT (TB T : St) : Prop := (∀ c, c ≠ 0 → c ≠ 7 → c ≠ 8 → c ≠ 9 → c ≠ 13 → c ≠ 14 → T.1 c = TB.1 c) ∧ (∀ j, j ≠ 26 → T.1 0 j = TB.1 0 j)
/-- how the search ends -/
def Lend (SB TB : St) (L NC nk : Nat) (len tot : Nat → Nat) (K15 : Int32 → St → Option (Int32 × St)) (oc or : Option (Int32 × St)) : Prop :=
  ∃ r S' T' lk, oc = some (r, S') ∧ FnS SB S' ∧ FnT TB T' ∧ S'.1 21 7 = nI lk ∧ T'.1 0 26 = nI lk ∧ ((r = 0 ∧ or = K15 (-1) T') ∨ (r = -2 ∧ or = some (-2, T')) ∨ ∃ n kf, 0 < n ∧ n ≤ 144 ∧ r = nI n ∧ or = K15 (nI n) T' ∧ PV L NC nk len tot kf n ∧ pk L len kf n = (NC, 0) ∧ S'.1 13 9 = nI n ∧ (∀ i, i < n → S'.1 14 i = nI (kf i) ∧ S'.1 15 i = nI (pk L len kf i).1 ∧ S'.1 16 i = nI (pk L len kf i).2) ∧ (∀ i, i < n → T'.1 7 i = nI (kf i) ∧ T'.1 8 i = nI (pk L len kf i).1 ∧ T'.1 9 i = nI (pk L len kf i).2))
def LK (N : Nat) (SB TB : St) (L NC nk : Nat) (len dep tot : Nat → Nat) (K15 : Int32 → St → Option (Int32 × St)) (m : Nat) : Prop :=
  ∀ n looks f kf S T x N1 N2, 2 * (20000 - looks) + n ≤ m → 2 * m + 2 ≤ N1 → m + 2 ≤ N2 → n ≤ looks → looks ≤ 20000 → f ≤ nk → PV L NC nk len tot kf n → (pk L len kf n).1 < NC → (pk L len kf n).2 < L → CS SB L nk len tot n looks (pk L len kf n).1 (pk L len kf n).2 kf S → RS TB L len n looks kf T → T.1 14 n = nI f → Nx TB L nk n (pk L len kf n).1 (pk L len kf n).2 f len dep tot kf x →
  Lend SB TB L NC nk len tot K15 (itN (fun _ _ _ => none) (fX2_firstWhole_L12 N) N1 x (nI (2 * looks - n)) S) (itN (fun _ _ _ _ => none) (fX6_plan_L64 N K15) N2 (nI n) (nI (pk L len kf n).1) (nI (pk L len kf n).2) T)
theorem pk_step (L : Nat) (len kf : Nat → Nat) (i : Nat) : (pk L len kf (i + 1) = ((pk L len kf i).1 + 1, 0) ∧ (pk L len kf i).2 + len (kf i) = L) ∨ (pk L len kf (i + 1) = ((pk L len kf i).1, (pk L len kf i).2 + len (kf i)) ∧ (pk L len kf i).2 + len (kf i) ≠ L) := pos_step L (fun j => len (kf j)) i
theorem CS_looks {SB S : St} {L nk n looks c p v : Nat} {len tot kf : Nat → Nat} (hS : CS SB L nk len tot n looks c p kf S) : CS SB L nk len tot n v c p kf (wr S 21 7 (nI v)) := by
  obtain ⟨s1, s2, s3, s4, s5, s6, s7, s8, s9⟩ := hS
  refine ⟨fun d a b c e f g h => by rw [z_wr_row f]; exact s1 d a b c e f g h, fun j hj => by rw [z_wr_ne (by omega)]; exact s2 j hj, by rw [z_wr_ne (by omega)]; exact s3, fun i hi => by rw [z_wr_ne (by omega), z_wr_ne (by omega), z_wr_ne (by omega)]; exact s4 i hi, by rw [z_wr_oth (by omega)]; exact s5, by rw [z_wr_oth (by omega)]; exact s6, z_wr_eq, fun k hk => by rw [z_wr_ne (by omega)]; exact s8 k hk, fun c hc => by rw [z_wr_ne (by omega)]; exact s9 c hc⟩
theorem CS_next {SB S : St} {L nk n looks c p c2 : Nat} {len tot kf : Nat → Nat} (hS : CS SB L nk len tot n looks c p kf S) : CS SB L nk len tot n looks c2 0 kf (wr (wr S 21 5 (nI c2)) 21 6 0) := by
  obtain ⟨s1, s2, s3, s4, s5, s6, s7, s8, s9⟩ := hS
  refine ⟨fun d a b c e f g h => by rw [z_wr_row f, z_wr_row f]; exact s1 d a b c e f g h, fun j hj => by rw [z_wr_ne (by omega), z_wr_ne (by omega)]; exact s2 j hj, by rw [z_wr_ne (by omega), z_wr_ne (by omega)]; exact s3, fun i hi => by rw [z_wr_ne (by omega), z_wr_ne (by omega), z_wr_ne (by omega), z_wr_ne (by omega), z_wr_ne (by omega), z_wr_ne (by omega)]; exact s4 i hi, by rw [z_wr_oth (by omega), z_wr_eq], by rw [z_wr_eq]; rfl, by rw [z_wr_oth (by omega), z_wr_oth (by omega)]; exact s7, fun k hk => by rw [z_wr_ne (by omega), z_wr_ne (by omega)]; exact s8 k hk, fun c hc => by rw [z_wr_ne (by omega), z_wr_ne (by omega)]; exact s9 c hc⟩
theorem PV_put {L NC nk n k : Nat} {len tot kf : Nat → Nat} (hV : PV L NC nk len tot kf n) (hk : k < nk) (hc : (pk L len kf n).1 < NC) (hp : (pk L len kf n).2 + len k ≤ L) (hcn : cnt kf k n < tot k) : PV L NC nk len tot (kfn kf n k) (n + 1) := by
  refine ⟨fun i hi => ?_, fun k2 hk2 => ?_⟩
  · rw [pk_kfn (by omega)]
    by_cases e : i = n
    · subst e
      rw [kfn_n]
      exact ⟨hk, hp, hc⟩
    · rw [kfn_lt (by omega)]
      exact hV.1 i (by omega)
  · show cnt (kfn kf n k) k2 n + (if kfn kf n k n = k2 then 1 else 0) ≤ tot k2
    rw [kfn_n, cnt_congr (g := kf) (fun i hi => kfn_lt hi)]
    have := hV.2 k2 hk2
    by_cases e : k = k2
    · rw [if_pos e]; rw [e] at hcn; omega
    · rw [if_neg e]; omega
theorem PV_take {L NC nk n : Nat} {len tot kf : Nat → Nat} (hV : PV L NC nk len tot kf (n + 1)) : PV L NC nk len tot kf n := by
  refine ⟨fun i hi => hV.1 i (by omega), fun k hk => ?_⟩
  have := hV.2 k hk
  have h : cnt kf k (n + 1) = cnt kf k n + (if kf n = k then 1 else 0) := rfl
  omega
