/-! numbers and memory -/
theorem z_nl {j n : Nat} (h : j < n) (hn : n < 2 ^ 31) : ¬ (nI j < 0 ∨ n ≤ (nI j).toNatClampNeg) := by
  rw [nI_clamp (by omega)]
  rintro (h1 | h1)
  · exact nI_pos (by omega) h1
  · omega
theorem z_ldI {β : Type} {n j : Nat} {f : Nat → Int32} {K : Int32 → Option β} (h : j < n) (hn : n < 2 ^ 31) : ldI n f (nI j) K = K (f j) := by
  unfold ldI
  rw [if_neg (z_nl h hn), nI_clamp (by omega)]
theorem z_ldL {β : Type} {n j : Nat} {f : Nat → Int64} {K : Int64 → Option β} (h : j < n) (hn : n < 2 ^ 31) : ldL n f (nI j) K = K (f j) := by
  unfold ldL
  rw [if_neg (z_nl h hn), nI_clamp (by omega)]
theorem z_ldR {β : Type} {n j : Nat} {K : Nat → Option β} (h : j < n) (hn : n < 2 ^ 31) : ldR n (nI j) K = K j := by
  unfold ldR
  rw [if_neg (z_nl h hn), nI_clamp (by omega)]
theorem z_stI {β : Type} {S : St} {k n j : Nat} {v : Int32} {K : St → Option β} (h : j < n) (hn : n < 2 ^ 31) : stI S k n (nI j) v K = K (wr S k j v) := by
  unfold stI
  rw [if_neg (z_nl h hn), nI_clamp (by omega)]
theorem z_stL {β : Type} {S : St} {n j : Nat} {v : Int64} {K : St → Option β} (h : j < n) (hn : n < 2 ^ 31) : stL S n (nI j) v K = K (wl S j v) := by
  unfold stL
  rw [if_neg (z_nl h hn), nI_clamp (by omega)]
theorem z_wr (S : St) (k i : Nat) (v : Int32) (c j : Nat) : (wr S k i v).1 c j = if c = k then (if j = i then v else S.1 c j) else S.1 c j := by
  unfold wr wrow upd
  by_cases h : c = k
  · subst h
    simp
  · simp [h]
theorem z_wr_ne {S : St} {k i : Nat} {v : Int32} {c j : Nat} (h : c ≠ k) : (wr S k i v).1 c j = S.1 c j := by rw [z_wr, if_neg h]
theorem z_wr_row {S : St} {k i : Nat} {v : Int32} {c : Nat} (h : c ≠ k) : (wr S k i v).1 c = S.1 c := funext fun _ => z_wr_ne h
theorem z_wr_eq {S : St} {k i : Nat} {v : Int32} : (wr S k i v).1 k i = v := by rw [z_wr, if_pos rfl, if_pos rfl]
theorem z_wr_oth {S : St} {k i : Nat} {v : Int32} {j : Nat} (h : j ≠ i) : (wr S k i v).1 k j = S.1 k j := by rw [z_wr, if_pos rfl, if_neg h]
theorem z_wr2 (S : St) (k i : Nat) (v : Int32) : (wr S k i v).2 = S.2 := rfl
theorem z_wl1 (S : St) (i : Nat) (v : Int64) : (wl S i v).1 = S.1 := rfl
theorem z_wl2 (S : St) (i : Nat) (v : Int64) (j : Nat) : (wl S i v).2 j = if j = i then v else S.2 j := rfl
/-! loops -/
theorem it_Q {γ : Type} {z : γ} {F : γ → γ} (Q : Nat → γ → Prop) (h0 : Q 0 z) (hs : ∀ m r, Q m r → Q (m + 1) (F r)) : ∀ N, Q N (itN z F N) := by
  intro N
  induction N with
  | zero => exact h0
  | succ n ih => exact hs n _ ih
theorem nI_m1 : nI 0 = 0 := nI_0
theorem z_0 : (0 : Int32) = nI 0 := nI_0.symm
theorem z_1 : (1 : Int32) = nI 1 := by decide
theorem z_lit (n : Nat) : (OfNat.ofNat n : Int32) = nI n := rfl
theorem z_lt {a b : Nat} (ha : a < 2 ^ 31) (hb : b < 2 ^ 31) : (nI a < nI b) = (a < b) := propext (nI_ltI ha hb)
theorem z_le {a b : Nat} (ha : a < 2 ^ 31) (hb : b < 2 ^ 31) : (nI a ≤ nI b) = (a ≤ b) := propext (nI_leI ha hb)
theorem z_eq {a b : Nat} (ha : a < 2 ^ 31) (hb : b < 2 ^ 31) : (nI a = nI b) = (a = b) := propext (nI_eq ha hb)
theorem z_add (a b : Nat) : nI a + nI b = nI (a + b) := nI_add a b
theorem z_neg1 : ∀ j : Nat, j < 2 ^ 31 → ¬ nI j = (-1) := by
  intro j hj h
  have h1 := congrArg Int32.toInt h
  rw [nI_toInt hj] at h1
  have h2 : (-1 : Int32).toInt = -1 := by decide
  rw [h2] at h1
  omega
theorem z_ix (x : Int32) {n : Nat} (hn : n < 2 ^ 31) : x < 0 ∨ nI n ≤ x ∨ ∃ j : Nat, j < n ∧ x = nI j := pk_ix x hn
theorem z_toInt {a : Nat} (h : a < 2 ^ 31) : (nI a).toInt = (a : Int) := nI_toInt h
