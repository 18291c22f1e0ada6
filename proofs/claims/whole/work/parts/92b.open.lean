theorem r_open {N : Nat} {T : St} {NC n f : Nat} {c p : Nat} {K15 : Int32 → St → Option (Int32 × St)} {rr : Int32 → Int32 → Int32 → St → Option (Int32 × St)} {y : Nat} (hn : n < 144) (hc : c < NC) (hNC : NC ≤ 6) (e12 : T.1 0 12 = nI NC) (hfr : T.1 14 n = nI f) (ez : ∀ K, itN (fun _ => none) (fX6_plan_L84 N (nI n) (nI c) (nI p) T K) N (nI f) = K (nI y)) :
    fX6_plan_L64 N K15 rr (nI n) (nI c) (nI p) T = if nI y = T.1 0 0 then nmI (nI n + (-1)) fun x58 => if x58 < 0 then rr x58 (nI c) (nI p) T else ldI 150 (T.1 7) x58 fun x59 => ldI 8 (T.1 13) x59 fun x60 => stI T 13 8 x59 (x60 - 1) fun S61 => ldI 150 (S61.1 8) x58 fun x62 => ldI 150 (S61.1 9) x58 fun x63 => ldI 150 (S61.1 7) x58 fun x64 => stI S61 14 150 x58 (x64 + 1) fun S65 => rr x58 x62 x63 S65
    else if (T.1 0 26) = 20000 then some ((-2), T) else
      stI (wr T 0 26 (T.1 0 26 + 1)) 7 150 (nI n) (nI y) fun S32 => stI S32 8 150 (nI n) (nI c) fun S33 => stI S33 9 150 (nI n) (nI p) fun S34 => ldI 8 (S34.1 1) (nI y) fun x35 =>
      if (nI p + x35) = (S34.1 0 11) then
        caP (fX6_isFull N (nI c) (nI n + 1) S34) fun x46 => if x46 = 0 then stI S34 14 150 (nI n) (nI y + 1) fun S57 => rr (nI n) (nI c) (nI p) S57
          else ldI 8 (S34.1 13) (nI y) fun x47 => stI S34 13 8 (nI y) (x47 + 1) fun S48 => ldI 8 (S48.1 1) (nI y) fun x49 =>
            if nI p + x49 = (S48.1 0 11) then stI S48 14 150 (nI n + 1) 0 fun S55 => rr (nI n + 1) (nI c + 1) 0 S55 else stI S48 14 150 (nI n + 1) 0 fun S55 => rr (nI n + 1) (nI c) (nI p + x49) S55
      else ldI 8 (S34.1 13) (nI y) fun x36 => stI S34 13 8 (nI y) (x36 + 1) fun S37 => ldI 8 (S37.1 1) (nI y) fun x38 =>
          if nI p + x38 = (S37.1 0 11) then stI S37 14 150 (nI n + 1) 0 fun S44 => rr (nI n + 1) (nI c + 1) 0 S44 else stI S37 14 150 (nI n + 1) 0 fun S44 => rr (nI n + 1) (nI c) (nI p + x38) S44 := by
  unfold fX6_plan_L64
  rw [if_neg (nI_pos (show n < 2 ^ 31 by omega)), e12, if_pos (nI_lt hc (by omega)), z_ldI (by omega) (by omega), hfr, ez]
  rfl
