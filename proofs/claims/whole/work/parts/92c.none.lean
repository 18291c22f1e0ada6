/-- no kind is left -/
theorem r_none {N : Nat} {T : St} {NC nk f c p : Nat} {K15 : Int32 → St → Option (Int32 × St)} {rr : Int32 → Int32 → Int32 → St → Option (Int32 × St)} (hc : c < NC) (hNC : NC ≤ 6) (e12 : T.1 0 12 = nI NC) (e0 : T.1 0 0 = nI nk) (hfr : T.1 14 0 = nI f) (ez : ∀ K, itN (fun _ => none) (fX6_plan_L84 N (nI 0) (nI c) (nI p) T K) N (nI f) = K (nI nk)) : fX6_plan_L64 N K15 rr (nI 0) (nI c) (nI p) T = rr (-1) (nI c) (nI p) T := by
  have e1 : nI 0 + (-1) = (-1 : Int32) := by decide
  have e2 : (-1 : Int32) < 0 := by decide
  rw [r_open (by omega) hc hNC e12 hfr ez, e0, if_pos rfl]
  simp only [nmI]
  rw [e1, if_pos e2]
