/-! the search: single steps -/
theorem itN_succ {α : Type} (z : α) (F : α → α) (n : Nat) : itN z F (n + 1) = F (itN z F n) := rfl
theorem z_l20k {a : Nat} (h : a < 2 ^ 31) : (nI a < 20000) = (a < 20000) := z_lt (b := 20000) h (by omega)
theorem z_e20k {a : Nat} (h : a < 2 ^ 31) : (nI a = 20000) = (a = 20000) := z_eq (b := 20000) h (by omega)
theorem z_l40k {a : Nat} (h : a < 2 ^ 31) : (nI a < 40002) = (a < 40002) := z_lt (b := 40002) h (by omega)
/-- the reference's scan, whatever comes then -/
theorem z_scanK {N : Nat} {TB T : St} {L NC nk B M n looks c p f : Nat} {len dep tot kf : Nat → Nat} {x : Int32} (hN : 1000 ≤ N) (hB : TBok N TB L NC nk B M len dep tot) (hT : RS TB L len n looks kf T) (hn : n < 144) (hc6 : c < 6) (hp : p ≤ 24) (hpk : ∀ i, i < n → (pk L len kf i).1 < 6 ∧ (pk L len kf i).2 ≤ 24) (hf : f ≤ nk) (hx : Nx TB L nk n c p f len dep tot kf x) : (x = -1 ∧ ∀ K, itN (fun _ => none) (fX6_plan_L84 N (nI n) (nI c) (nI p) T K) N (nI f) = K (nI nk)) ∨ (∃ k, k < nk ∧ can TB L n c p len dep tot kf k ∧ x = nI k ∧ ∀ K, itN (fun _ => none) (fX6_plan_L84 N (nI n) (nI c) (nI p) T K) N (nI f) = K (nI k)) := by
  have b2 := hB.2.1
  rcases id hx with ⟨k, k1, k2, k3, k4, e⟩ | ⟨k1, e⟩
  · right
    refine ⟨k, k2, k3, e, fun K => ?_⟩
    rcases z_scan (K := K) hN hB hT hn hc6 hp hpk hf hx with ⟨h1, ez⟩ | ⟨k', hk, hfk, hcan, h1, ez⟩
    · rw [e] at h1
      exact absurd h1 (z_neg1 k (by omega))
    · rw [e] at h1
      rw [ez, ← h1]
  · left
    refine ⟨e, fun K => ?_⟩
    rcases z_scan (K := K) hN hB hT hn hc6 hp hpk hf hx with ⟨h1, ez⟩ | ⟨k', hk, hfk, hcan, h1, ez⟩
    · exact ez
    · rw [e] at h1
      exact absurd h1.symm (z_neg1 k' (by omega))
