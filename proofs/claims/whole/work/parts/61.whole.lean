theorem a_tin {p : Program} {l : Launch} {e : Env} {s : State} {m : MethodId} {below : List Frame} {meth : Method} {c : Code} {b L : Nat} {xs : Nat → Int32} {D : va_G} {y : Cy} {g h : Nat → Nat} {sa1 sa2 : Nat} {cells slots pc : Nat} {S T : St} {ov : Nat → Int64} {lv : List (Nat × Value)} {st : List Value} (hC : LC p l s m c b L xs D y g h sa1 sa2) {dflt lo hi : Int} {offs : Array Int} {len : Nat} {x : Int32} {off : Int} (v : Int) (tgt : Nat) (hv : x.toInt = v) (hdg : decode code pc = .ok (.tableswitch dflt lo hi offs, len)) (h1 : ¬ v < lo) (h2 : ¬ hi < v) (ho : offs[(v - lo).toNat]? = some off) (ht : (pc : Int) + off = (tgt : Int)) (kk : La p l e s m below meth c b D y g h cells slots S ov T tgt lv st) : La p l e s m below meth c b D y g h cells slots S ov T pc lv (.int x :: st) := by
  subst hv
  exact fun H locs hP hQ hS ls hl => lv_tableIn hC.1.1 hC.1.2.1 hdg h1 h2 ho ht (kk H locs hP hQ hS ls hl)
theorem lw_gt {L k : Nat} (hL : L ≤ 3584) (hk : k ≤ 3591) : (nI L - 7 < nI k) ↔ L < k + 7 := by
  rw [Int32.lt_iff_toInt_lt]
  have e1 : (nI L - 7 : Int32).toInt = (L : Int) - 7 := by
    have := pk_sub_toInt (a := L) (b := 7) (by omega) (by omega)
    exact this
  rw [e1, nI_toInt (by omega)]
  omega
set_option maxHeartbeats 4000000 in
set_option maxRecDepth 100000 in
theorem law_loop {p : Program} {l : Launch} {e : Env} {s : State} {m : MethodId} {below : List Frame} {meth : Method} {c : Code} {b L : Nat} {xs : Nat → Int32} {D : va_G} {y : Cy} {g h : Nat → Nat} {sa1 sa2 : Nat} {N : Nat} {Rl : St → St → Prop} (hC : LC p l s m c b L xs D y g h sa1 sa2) (hrok : Rok N Rl) (hr : meth.sig.returnType = ret) (hlocks : meth.locks = false) (hL : L ≤ 3584) : ∀ (n j : Nat) (S T : St) (ov : Nat → Int64), Rl S T → j ≤ 512 → L < 7 * (n + j) → La p l e s m below meth c b D y g h (74 + j) (2918 + 6 * j) S ov T 23 [(0, .ref b), (1, .ref (g 0)), (2, .ref (h 0)), (3, .ref (g 52)), (4, .int (nI (7 * j)))] [] := by
  intro n
  induction n with
  | zero =>
    intro j S T ov hR hj hn
    refine a_iload hC dL_law_23 4 rfl ?_
    refine a_aload_n hC dL_law_25 0 rfl ?_
    refine a_slen hC dL_law_26 ?_
    refine a_bipush hC (7) dL_law_27 (by decide) ?_
    refine a_isub hC dL_law_29 ?_
    refine a_icmp_gt hC 682 dL_law_30 (by decide) (fun _ => ?_) (fun q => absurd ((lw_gt hL (by omega)).mpr (by omega)) q)
    refine a_iconst hC (1) dL_law_682 (by decide) ?_
    exact a_end hC hr hlocks dL_law_683 (by omega) (by omega)
  | succ n ih =>
    intro j S T ov hR hj hn
    refine a_iload hC dL_law_23 4 rfl ?_
    refine a_aload_n hC dL_law_25 0 rfl ?_
    refine a_slen hC dL_law_26 ?_
    refine a_bipush hC (7) dL_law_27 (by decide) ?_
    refine a_isub hC dL_law_29 ?_
    refine a_icmp_gt hC 682 dL_law_30 (by decide) (fun _ => ?_) (fun q => ?_)
    · refine a_iconst hC (1) dL_law_682 (by decide) ?_
      exact a_end hC hr hlocks dL_law_683 (by omega) (by omega)
    · have hq : 7 * j + 7 ≤ L := by
        rcases Nat.lt_or_ge L (7 * j + 7) with h1 | h1
        · exact absurd ((lw_gt hL (by omega)).mpr h1) q
        · exact h1
      have hin : ∀ v : Int32, v ∈ ([1, 2, 3, 4, 5, 6] : List Int32) → vp_in (nI (7 * j) + v) L := by
        intro v hv
        simp only [List.mem_cons, List.not_mem_nil, or_false] at hv
        rcases hv with rfl | rfl | rfl | rfl | rfl | rfl
        · exact (show nI (7 * j) + nI 1 = nI (7 * j + 1) from nI_add _ _) ▸ vp_in_nI (by omega) (by omega)
        · exact (show nI (7 * j) + nI 2 = nI (7 * j + 2) from nI_add _ _) ▸ vp_in_nI (by omega) (by omega)
        · exact (show nI (7 * j) + nI 3 = nI (7 * j + 3) from nI_add _ _) ▸ vp_in_nI (by omega) (by omega)
        · exact (show nI (7 * j) + nI 4 = nI (7 * j + 4) from nI_add _ _) ▸ vp_in_nI (by omega) (by omega)
        · exact (show nI (7 * j) + nI 5 = nI (7 * j + 5) from nI_add _ _) ▸ vp_in_nI (by omega) (by omega)
        · exact (show nI (7 * j) + nI 6 = nI (7 * j + 6) from nI_add _ _) ▸ vp_in_nI (by omega) (by omega)
      have hnext : ∀ (S2 T2 : St) (ov2 : Nat → Int64) (cells slots : Nat), cells ≤ 74 + (j + 1) → slots ≤ 2918 + 6 * (j + 1) → Rl S2 T2 → La p l e s m below meth c b D y g h cells slots S2 ov2 T2 676 [(0, .ref b), (1, .ref (g 0)), (2, .ref (h 0)), (3, .ref (g 52)), (4, .int (nI (7 * j)))] [] := by
        intro S2 T2 ov2 cells slots h1 h2 hR2
        refine a_widen h1 h2 ?_
        refine a_iinc hC (j := 4) [(0, .ref b), (1, .ref (g 0)), (2, .ref (h 0)), (3, .ref (g 52)), (4, .int (nI (7 * (j + 1))))] [1, 2, 3, 4, 0] dL_law_676 rfl (show nI (7 * j) + nI 7 = nI (7 * (j + 1)) from nI_add (7 * j) 7) (by decide) rfl rfl ?_
        refine a_goto hC 23 dL_law_679 (by decide) ?_
        exact ih (j + 1) S2 T2 ov2 hR2 (by omega) (by omega)
      refine a_aload_n hC dL_law_33 0 rfl ?_
      refine a_iload hC dL_law_34 4 rfl ?_
      refine a_sld hC (vp_in_nI (by omega) (by omega)) dL_law_36 ?_
      refine a_bipush hC (15) dL_law_37 (by decide) ?_
      refine a_iand hC dL_law_39 ?_
      obtain ⟨k, hk, ek⟩ := pk_andE (xs (nI (7 * j)).toNatClampNeg) (m := 15) 4 (by decide)
      rw [ek]
      rcases (show k = 0 ∨ k = 1 ∨ k = 2 ∨ k = 3 ∨ k = 4 ∨ k = 5 ∨ k = 6 ∨ k = 7 ∨ k = 8 ∨ k = 9 ∨ k = 10 ∨ k = 11 ∨ k = 12 ∨ k = 13 ∨ k = 14 ∨ k = 15 by omega) with rfl | rfl | rfl | rfl | rfl | rfl | rfl | rfl | rfl | rfl | rfl | rfl | rfl | rfl | rfl | rfl
      · refine a_tin hC (0) 120 (by decide) dL_law_40 (by decide) (by decide) rfl (by decide) ?_
        exact law_kind hC hrok hR (by omega) hin hnext
      · refine a_tin hC (1) 157 (by decide) dL_law_40 (by decide) (by decide) rfl (by decide) ?_
        exact law_heap hC hrok hR (by omega) hin hnext
      · refine a_tin hC (2) 194 (by decide) dL_law_40 (by decide) (by decide) rfl (by decide) ?_
        exact law_stones hC hrok hR (by omega) hin hnext
      · refine a_tin hC (3) 243 (by decide) dL_law_40 (by decide) (by decide) rfl (by decide) ?_
        exact law_wall hC hrok hR (by omega) hin hnext
      · refine a_tin hC (4) 330 (by decide) dL_law_40 (by decide) (by decide) rfl (by decide) ?_
        exact law_through hC hrok hR (by omega) hin hnext
      · refine a_tin hC (5) 367 (by decide) dL_law_40 (by decide) (by decide) rfl (by decide) ?_
        exact law_plan hC hrok hR (by omega) hin hnext
      · refine a_tin hC (6) 380 (by decide) dL_law_40 (by decide) (by decide) rfl (by decide) ?_
        exact law_stone hC hrok hR (by omega) hin hnext
      · refine a_tin hC (7) 448 (by decide) dL_law_40 (by decide) (by decide) rfl (by decide) ?_
        exact law_over hC hrok hR (by omega) hin hnext
      · refine a_tin hC (8) 485 (by decide) dL_law_40 (by decide) (by decide) rfl (by decide) ?_
        exact law_least hC hrok hR (by omega) hin hnext
      · refine a_tin hC (9) 499 (by decide) dL_law_40 (by decide) (by decide) rfl (by decide) ?_
        exact law_saved hC hrok hR (by omega) hin hnext
      · refine a_tin hC (10) 537 (by decide) dL_law_40 (by decide) (by decide) rfl (by decide) ?_
        exact law_build hC hrok hR (by omega) hin hnext
      · refine a_tin hC (11) 551 (by decide) dL_law_40 (by decide) (by decide) rfl (by decide) ?_
        exact law_frost hC hrok hR (by omega) hin hnext
      · refine a_tin hC (12) 576 (by decide) dL_law_40 (by decide) (by decide) rfl (by decide) ?_
        exact law_mend hC hrok hR (by omega) hin hnext
      · refine a_tin hC (13) 589 (by decide) dL_law_40 (by decide) (by decide) rfl (by decide) ?_
        exact law_take hC hrok hR (by omega) hin hnext
      · refine a_tin hC (14) 614 (by decide) dL_law_40 (by decide) (by decide) rfl (by decide) ?_
        exact law_count hC hrok hR (by omega) hin hnext
      · refine a_tin hC (15) 651 (by decide) dL_law_40 (by decide) (by decide) rfl (by decide) ?_
        exact law_look hC hrok hR (by omega) hin hnext
theorem D_inj {A : Nat → Prop} {ws : va_W} {f : Nat → Nat} {n : Nat} (hD : va_D A ws) (hf : ws.map Prod.fst = (List.range n).map f) : (∀ i j : Nat, i < n → j < n → f i = f j → i = j) ∧ ∀ i, i < n → A (f i) := by
  refine ⟨fun i j hi hj h => ?_, fun i hi => ?_⟩
  · obtain ⟨e1, h1⟩ := fst_at hf hi
    obtain ⟨e2, h2⟩ := fst_at hf hj
    exact hD.1 i j _ _ h1 h2 h
  · obtain ⟨e1, h1⟩ := fst_at hf hi
    exact hD.2 i _ h1
theorem D_of {A : Nat → Prop} {ws : va_W} {f : Nat → Nat} {n : Nat} (hf : ws.map Prod.fst = (List.range n).map f) (h1 : ∀ i j : Nat, i < n → j < n → f i = f j → i = j) (h2 : ∀ i, i < n → A (f i)) : va_D A ws := by
  refine ⟨fun i j p q hi hj h => ?_, fun k q hk => ?_⟩
  · obtain ⟨a1, b1⟩ := fst_in hf hi
    obtain ⟨a2, b2⟩ := fst_in hf hj
    exact h1 i j a1 a2 (by rw [← b1, ← b2]; exact h)
  · obtain ⟨a1, b1⟩ := fst_in hf hk
    rw [b1]
    exact h2 k a1
theorem bkX5_eq (y : Cy) (g : Nat → Nat) (q : Nat) (v : Nat → Int64) : bkX5 y g ++ [(q, .inl (y.2.2.2, 1, .inr (.inl v)))] = w53 y (fun k => if k < 52 then g k else q) (ZS.1, v) := by
  have e : ∀ bb : Nat, bb + 5 ≤ 52 → (fun j => if j < 5 then some (g (bb + j)) else none) = (fun j => if j < 5 then some ((fun k => if k < 52 then g k else q) (bb + j)) else none) := by
    intro bb hbb
    funext j
    by_cases hj : j < 5
    · have h2 : bb + j < 52 := by omega
      simp [hj, h2]
    · rw [if_neg hj, if_neg hj]
  unfold bkX5 w53 wc
  rw [e 7 (by omega), e 26 (by omega), e 33 (by omega), e 39 (by omega), e 45 (by omega)]
  rfl
theorem bkX6_eq (y : Cy) (h : Nat → Nat) : bkX6 y h = wm y h ZS := rfl
section CTL
variable {p : Program} {l : Launch} {e : Env} {R : Room} {s : State} {m : MethodId} {args : Array Value} {below : List Frame} {meth : Method} {c : Code} {Q : State → Prop}
variable {cc : ByteArray} {D : va_G} {y : Cy} {A : Nat → Prop} {nL : Nat} {Ts : List Cond} {own : String}
variable {ws : va_W} {cells slots pc : Nat} {lv : List (Nat × Value)} {st : List Value}
theorem n_astore_n (hC : Cx p m c cc nL s args Ts own D vwCl (tz y)) {k : Fin 4} {x : Nat} {lv1 : List (Nat × Value)} (lv2 : List (Nat × Value)) (ks : List Nat) (hdg : decode cc pc = .ok (.astore_n k, 1)) (hn : k.val < nL) (hl1 : (k.val, Value.ref x) :: lv.filter (fun q => !(q.1 == k.val) && !(q.1 + 1 == k.val && q.2.category == 2)) = lv1) (hl2 : lv_pick lv1 ks = lv2) (kk : Cs p l e R s m args below meth c D A nL Q ws cells slots (pc + 1) lv2 st) : Cs p l e R s m args below meth c D A nL Q ws cells slots pc lv (.ref x :: st) :=
  fun H locs hP hD hS ls hl => lv_astore_n hC.1.1 hC.1.2.1 hdg rfl hl hn hl1 (fun ls hl => kk H locs hP hD hS ls (lv_sub hl ks hl2))
theorem n_istore (hC : Cx p m c cc nL s args Ts own D vwCl (tz y)) {i : Nat} {x : Int32} {lv1 : List (Nat × Value)} (lv2 : List (Nat × Value)) (ks : List Nat) (hdg : decode cc pc = .ok (.istore i, 2)) (hn : i < nL) (hl1 : (i, Value.int x) :: lv.filter (fun q => !(q.1 == i) && !(q.1 + 1 == i && q.2.category == 2)) = lv1) (hl2 : lv_pick lv1 ks = lv2) (kk : Cs p l e R s m args below meth c D A nL Q ws cells slots (pc + 2) lv2 st) : Cs p l e R s m args below meth c D A nL Q ws cells slots pc lv (.int x :: st) :=
  fun H locs hP hD hS ls hl => lv_istore hC.1.1 hC.1.2.1 hdg hl hn hl1 (fun ls hl => kk H locs hP hD hS ls (lv_sub hl ks hl2))
end CTL
theorem lw_x1 : ∀ w ∈ xw1, w ∈ lw_tbl := by decide +kernel
theorem lw_x2 : ∀ w ∈ xw2, w ∈ lw_tbl := by decide +kernel
theorem arr_of {s : State} {args : Array Value} {ty : FieldType} (h : (Cond.arrayClass ty).before args s = true) : ∃ cA : ClassId, ArrOfT s cA ty ∧ s.vm.findClass ("[" ++ ty.toString) = some cA := by
  obtain ⟨c, k, comp, h1, h2, h3⟩ := Cond.arrayClass_spec h
  exact ⟨c, fun n z => ⟨fun k h => (by cases h), k, h2, comp, h3⟩, h1⟩
theorem arr2_of {s : State} {args : Array Value} {ty : FieldType} (h : (Cond.arrayOver (.array ty)).before args s = true) : ∃ cA : ClassId, ArrOfT s cA (.array ty) ∧ s.vm.findClass ("[" ++ (FieldType.array ty).toString) = some cA := by
  obtain ⟨comp, c, k, h1, h2, h3, h4⟩ := Cond.arrayOver_specA h
  exact ⟨c, fun n z => ⟨fun k h => (by cases h), k, h2, comp, h3⟩, h4⟩
set_option maxHeartbeats 4000000 in
set_option maxRecDepth 100000 in
theorem whole_start {p : Program} {e : Env} {s : State} {m : MethodId} {below : List Frame} {meth : Method} {c : Code} (l : Launch) (hst : l.stackTraces = false) {N : Nat} {Rl : St → St → Prop} (hrok : Rok N Rl) (hR0 : Rl ZS ZS) {b L : Nat} {xs : Nat → Int32} (hL : L ≤ 3584) (C0 : lw_At p s m meth c b L xs) : W p l e room_1 s m #[Value.ref b] below meth c s.heap [] 0 0 (lw_Z below #[Value.ref b] s) (entryFrame m ([Value.ref b] : List Value).toArray 7) := by
  obtain ⟨hx, hb, hr, hml, hown, hts0, hX, hbl, hlocks, hgv⟩ := id C0
  have hts : ∀ w ∈ wsL_law, w.before #[Value.ref b] s = true := fun w hw => hts0 w (wsL_law_in w hw)
  have hgs := flat_of_before _ hgv
  obtain ⟨c0, iS0, hKn0⟩ := u_known (C := RX0) (T := TX0) (N := 10) (n := 10) hts0 inX0 (hts0 (.instantiable RX0 10) (by decide +kernel))
  obtain ⟨c1, iS1, hKn1⟩ := u_known (C := RX1) (T := TX1) (N := 12) (n := 12) hts0 inX1 (hts0 (.instantiable RX1 12) (by decide +kernel))
  obtain ⟨c2, iS2, hKn2⟩ := u_known (C := RX2) (T := TX2) (N := 8) (n := 8) hts0 inX2 (hts0 (.instantiable RX2 8) (by decide +kernel))
  obtain ⟨c3, iS3, hKn3⟩ := u_known (C := RX3) (T := TX3) (N := 9) (n := 9) hts0 inX3 (hts0 (.instantiable RX3 9) (by decide +kernel))
  obtain ⟨c4, iS4, hKn4⟩ := u_known (C := RX4) (T := TX4) (N := 7) (n := 7) hts0 inX4 (hts0 (.instantiable RX4 7) (by decide +kernel))
  obtain ⟨c5, iS5, hKn5⟩ := u_known (C := RX5) (T := TX5) (N := 5) (n := 5) hts0 inX5 (hts0 (.instantiable RX5 5) (by decide +kernel))
  obtain ⟨c6, iS6, hKn6⟩ := u_known (C := RX6) (T := TX6) (N := 37) (n := 37) hts0 inX6 (hts0 (.instantiable RX6 37) (by decide +kernel))
  obtain ⟨dC, dI, hKc⟩ : ∃ (dC : Nat → ClassId) (dI : Nat → Nat → Nat), ∀ (k : Nat) (q : vw_C), vwCl[k]? = some q → u_Kn s q.1 q.2.1 q.2.2 (dC k) (dI k) := by
    refine ⟨(fun k => if k = 0 then c0 else if k = 1 then c1 else if k = 2 then c2 else if k = 3 then c3 else if k = 4 then c4 else if k = 5 then c5 else c6), (fun k => if k = 0 then iS0 else if k = 1 then iS1 else if k = 2 then iS2 else if k = 3 then iS3 else if k = 4 then iS4 else if k = 5 then iS5 else iS6), ?_⟩
    intro k q hq
    match k, hq with
    | 0, hq => cases hq; exact hKn0
    | 1, hq => cases hq; exact hKn1
    | 2, hq => cases hq; exact hKn2
    | 3, hq => cases hq; exact hKn3
    | 4, hq => cases hq; exact hKn4
    | 5, hq => cases hq; exact hKn5
    | 6, hq => cases hq; exact hKn6
    | k + 7, hq => simp [vwCl] at hq
  obtain ⟨cI, aI, fI⟩ := arr_of (hts0 (.arrayClass .int) (by decide +kernel))
  obtain ⟨cZ, aZ, fZ⟩ := arr_of (hts0 (.arrayClass .boolean) (by decide +kernel))
  obtain ⟨cJ, aJ, fJ⟩ := arr_of (hts0 (.arrayClass .long) (by decide +kernel))
  obtain ⟨cII, aII, fII⟩ := arr2_of (ty := .int) (hts0 (.arrayOver (.array .int)) (by decide +kernel))
  obtain ⟨y, hy⟩ : ∃ y : Cy, y = (cI, cZ, cII, cJ) := ⟨_, rfl⟩
  obtain ⟨D, hD0⟩ : ∃ D : va_G, D = (dC, dI) := ⟨_, rfl⟩
  have hK : va_K D vwCl (tz y) s := by
    subst hy
    subst hD0
    refine ⟨hKc, fun k q hk => ?_⟩
    match k, hk with
    | 0, hk => cases hk; exact ⟨aI, fI⟩
    | 1, hk => cases hk; exact ⟨aZ, fZ⟩
    | 2, hk => cases hk; exact ⟨aII, fII⟩
    | 3, hk => cases hk; exact ⟨aJ, fJ⟩
    | k + 4, hk => simp at hk
  have hE : EX s := ⟨va_Nw.of rfl (hts0 (.methodLinkNest RX5 11 yX4_init "StoneWall") (by decide +kernel)), va_Nw.of rfl (hts0 (.methodLinkNest RX5 18 yX3_init "StoneWall") (by decide +kernel)), hts0 (.arrayOver (.array .int)) (by decide +kernel)⟩
  obtain ⟨sa1, -, -, -, hs1, -⟩ := Cond.exactly_spec (hgs (.exactly (.string "StoneWall" 116) "java/lang/String") (by decide +kernel))
  obtain ⟨sa2, -, -, -, hs2, -⟩ := Cond.exactly_spec (hgs (.exactly (.string "StoneWall" 147) "java/lang/String") (by decide +kernel))
  have hA0 : ∀ a : Nat, a < s.heap.size → ¬ (fun q : Nat => s.heap.size ≤ q) a := fun a ha => Nat.not_le.mpr ha
  have hEXT : EXT (fun q : Nat => s.heap.size ≤ q) sa1 sa2 s s.heap := by
    refine ⟨vk_R.of (hts0 (.stringRef RX5 116 "no such stone") (by decide +kernel)) hs1, vk_R.of (hts0 (.stringRef RX5 147 "no such what") (by decide +kernel)) hs2, vx_Zqof (hts0 (.laysStatic Bundle.tN "UNASSIGNED_STACK" Bundle.steD) (by decide +kernel)) (hts0 (.initialized Bundle.tN) (by decide +kernel)) (hgs (.isRef (.static Bundle.tN "UNASSIGNED_STACK" Bundle.steD)) (by decide +kernel)) hA0, vx_Zqof (hts0 (.laysStatic Bundle.tN "SUPPRESSED_SENTINEL" Bundle.listD) (by decide +kernel)) (hts0 (.initialized Bundle.tN) (by decide +kernel)) (hgs (.isRef (.static Bundle.tN "SUPPRESSED_SENTINEL" Bundle.listD)) (by decide +kernel)) hA0, fun w hw => va_tabs (xw1_c w hw).2 rfl (hts0 w (lw_x1 w hw)), fun w hw => va_tabs (xw2_c w hw).2 rfl (hts0 w (lw_x2 w hw))⟩
  have hNc : va_Nc "java/util/NoSuchElementException" "java/lang/IndexOutOfBoundsException" s := va_Nc.of (hgs (.not (.castable "java/util/NoSuchElementException" "java/lang/IndexOutOfBoundsException")) (by decide +kernel))
  have hC : Cx p m c code 7 s #[Value.ref b] wsL_law RL D vwCl (tz y) := ⟨⟨hx, hb, hml, hown, hts⟩, hK⟩
  have hA : ∀ q : Nat, s.heap.size ≤ q → (fun q : Nat => s.heap.size ≤ q) q := fun _ h => h
  have hl := lv_entry ([Value.ref b]) (n := 7) (Nat.le_of_ble_eq_true rfl)
  rw [lg_entry_eq]
  generalize (lg_sl ([Value.ref b]) ++ List.replicate (7 - (lg_sl ([Value.ref b])).length) Slot.unset).toArray = ls at hl ⊢
  have hl : lv_has ls 7 [(0, .ref b)] := hl
  have hgo : Cs p l e room_1 s m #[Value.ref b] below meth c D (fun q : Nat => s.heap.size ≤ q) 7 (lw_Z below #[Value.ref b] s) [] 0 0 0 [(0, .ref b)] [] := by
    refine n_new hC hA (fs := [.null, .null, .null, .null, .null]) inlX5 tyX5 tyX5_ok (show Cond.classLink RL 8 RX5 ∈ wsL_law from by decide +kernel) (show Cond.instantiable RX5 5 ∈ wsL_law from by decide +kernel) (show Cond.initialized RX5 ∈ wsL_law from by decide +kernel) (ci := 5) rfl (fun j hj => by rcases (show j = 0 ∨ j = 1 ∨ j = 2 ∨ j = 3 ∨ j = 4 by omega) with rfl | rfl | rfl | rfl | rfl <;> rfl) (Nat.le_of_ble_eq_true rfl) (Nat.le_of_ble_eq_true rfl) dL_law_0 ?_
    intro q0
    refine n_cs (c2 := 1) (s2 := 5) rfl rfl ?_
    refine n_dup hC dL_law_3 rfl ?_
    refine n_call (As := []) (wr := []) hC hE hA (kX5_init l D y) (fun H locs ls Pc Qc free hsz hM hp => va_runI (As := []) hC.1 hM (cwI 0 hC.1.2.2.2.2 gL_law_X5_init rfl rfl rfl (hC.1.2.2.2.2 _ (show Cond.initialized RX5 ∈ wsL_law from by decide +kernel)) (hC.1.2.2.2.2 _ (show Cond.methodLink RL 17 yX5_init ∈ wsL_law from by decide +kernel)) (hC.1.2.2.2.2 _ (show Cond.instanceMethod yX5_init ∈ wsL_law from by decide +kernel)) rfl (by decide +kernel) ⟨Nat.le_of_ble_eq_true rfl, Nat.le_of_ble_eq_true rfl⟩) hp rfl rfl hsz rfl (lv_room (Nat.le_of_ble_eq_true rfl)) dL_law_4 ⟨Nat.le_of_ble_eq_true rfl, Nat.le_of_ble_eq_true rfl⟩) rfl ?_
    intro g hg0
    subst hg0
    refine n_cs (c2 := 52) (s2 := 1251) rfl rfl ?_
    refine n_ws (ws2 := bkX5 y g) rfl ?_
    refine n_astore_n hC [(0, .ref b), (1, .ref (g 0))] [1, 0] dL_law_7 (by decide) rfl rfl ?_
    refine n_new hC hA (fs := [.int 0, .null, .null, .int 0, .null, .null, .null, .null, .int 0, .int 0, .int 0, .int 0, .int 0, .int 0, .int 0, .int 0, .int 0, .int 0, .int 0, .int 0, .null, .null, .null, .null, .null, .null, .int 0, .int 0, .int 0, .null, .null, .null, .null, .null, .null, .null, .null]) inlX6 tyX6 tyX6_ok (show Cond.classLink RL 18 RX6 ∈ wsL_law from by decide +kernel) (show Cond.instantiable RX6 37 ∈ wsL_law from by decide +kernel) (show Cond.initialized RX6 ∈ wsL_law from by decide +kernel) (ci := 6) rfl (fun j hj => by rcases (show j = 0 ∨ j = 1 ∨ j = 2 ∨ j = 3 ∨ j = 4 ∨ j = 5 ∨ j = 6 ∨ j = 7 ∨ j = 8 ∨ j = 9 ∨ j = 10 ∨ j = 11 ∨ j = 12 ∨ j = 13 ∨ j = 14 ∨ j = 15 ∨ j = 16 ∨ j = 17 ∨ j = 18 ∨ j = 19 ∨ j = 20 ∨ j = 21 ∨ j = 22 ∨ j = 23 ∨ j = 24 ∨ j = 25 ∨ j = 26 ∨ j = 27 ∨ j = 28 ∨ j = 29 ∨ j = 30 ∨ j = 31 ∨ j = 32 ∨ j = 33 ∨ j = 34 ∨ j = 35 ∨ j = 36 by omega) with rfl | rfl | rfl | rfl | rfl | rfl | rfl | rfl | rfl | rfl | rfl | rfl | rfl | rfl | rfl | rfl | rfl | rfl | rfl | rfl | rfl | rfl | rfl | rfl | rfl | rfl | rfl | rfl | rfl | rfl | rfl | rfl | rfl | rfl | rfl | rfl | rfl <;> rfl) (Nat.le_of_ble_eq_true rfl) (Nat.le_of_ble_eq_true rfl) dL_law_8 ?_
    intro q1
    refine n_cs (c2 := 53) (s2 := 1288) rfl rfl ?_
    refine n_dup hC dL_law_11 rfl ?_
    refine n_call (As := []) (wr := bkX5 y g) hC hE hA (kX6_init l D y) (fun H locs ls Pc Qc free hsz hM hp => va_runI (As := []) hC.1 hM (cwI 0 hC.1.2.2.2.2 gL_law_X6_init rfl rfl rfl (hC.1.2.2.2.2 _ (show Cond.initialized RX6 ∈ wsL_law from by decide +kernel)) (hC.1.2.2.2.2 _ (show Cond.methodLink RL 20 yX6_init ∈ wsL_law from by decide +kernel)) (hC.1.2.2.2.2 _ (show Cond.instanceMethod yX6_init ∈ wsL_law from by decide +kernel)) rfl (by decide +kernel) ⟨Nat.le_of_ble_eq_true rfl, Nat.le_of_ble_eq_true rfl⟩) hp rfl rfl hsz rfl (lv_room (Nat.le_of_ble_eq_true rfl)) dL_law_12 ⟨Nat.le_of_ble_eq_true rfl, Nat.le_of_ble_eq_true rfl⟩) rfl ?_
    intro h hh0
    subst hh0
    refine n_cs (c2 := 73) (s2 := 2917) rfl rfl ?_
    refine n_astore_n hC [(0, .ref b), (1, .ref (g 0)), (2, .ref (h 0))] [1, 2, 0] dL_law_15 (by decide) rfl rfl ?_
    refine n_iconst hC (1) dL_law_16 (by decide) ?_
    refine n_newa hC hA (atype := .long) (ty := .long) (k := 3) (N' := 1) (a0 := (1, .inr (.inl (fun _ => 0)))) (show Cond.arrayClass .long ∈ wsL_law from by decide +kernel) rfl rfl (fun _ _ h1 h2 => ra_long h1 h2) (fun _ => rfl) (by decide) (by decide) (by decide) (Nat.le_of_ble_eq_true rfl) (Nat.le_of_ble_eq_true rfl) dL_law_17 ?_
    intro q2
    refine n_cs (c2 := 74) (s2 := 2918) rfl rfl ?_
    refine n_astore_n hC [(0, .ref b), (1, .ref (g 0)), (2, .ref (h 0)), (3, .ref q2)] [1, 2, 3, 0] dL_law_19 (by decide) rfl rfl ?_
    refine n_iconst hC (0) dL_law_20 (by decide) ?_
    refine n_istore hC [(0, .ref b), (1, .ref (g 0)), (2, .ref (h 0)), (3, .ref q2), (4, .int 0)] [1, 2, 3, 4, 0] dL_law_21 (by decide) rfl rfl ?_
    intro H locs hP hD hS ls hl
    have hF : ((bkX5 y g ++ bkX6 y h) ++ [(q2, Sum.inl (y.2.2.2, 1, .inr (.inl (fun _ => 0))))] : va_W).map Prod.fst = (List.range 74).map (fun k => if k < 52 then g k else if k < 73 then h (k - 52) else q2) := rfl
    obtain ⟨hi1, hi2⟩ := D_inj hD hF
    have hP5 : va_P D vwCl (w53 y (fun k => if k < 52 then g k else q2) (ZS.1, fun _ => 0)) H := by
      rw [← bkX5_eq]
      intro k q hk
      by_cases h52 : k < 52
      · rw [List.getElem?_append_left (show k < (bkX5 y g).length from h52)] at hk
        exact hP k q (by rw [List.getElem?_append_left (show k < (bkX5 y g ++ bkX6 y h).length by rw [List.length_append]; exact Nat.lt_of_lt_of_le h52 (Nat.le_add_right _ _)), List.getElem?_append_left (show k < (bkX5 y g).length from h52)]; exact hk)
      · rw [List.getElem?_append_right (Nat.not_lt.mp h52)] at hk
        have hk0 : k - (bkX5 y g).length < 1 := (List.getElem?_eq_some_iff.mp hk).1
        have hk1 : k - (bkX5 y g).length = 0 := by omega
        rw [hk1] at hk
        exact hP 73 q hk
    have hP6 : va_P D vwCl (wm y h ZS) H := by
      rw [← bkX6_eq]
      intro k q hk
      have hk21 : k < (bkX6 y h).length := (List.getElem?_eq_some_iff.mp hk).1
      refine hP (52 + k) q ?_
      rw [List.getElem?_append_left (show 52 + k < (bkX5 y g ++ bkX6 y h).length by rw [List.length_append]; exact Nat.add_lt_add_left hk21 52), List.getElem?_append_right (show (bkX5 y g).length ≤ 52 + k from Nat.le_add_right _ _)]
      have e9 : 52 + k - (bkX5 y g).length = k := Nat.add_sub_cancel_left (n := 52) (m := k)
      rw [e9]
      exact hk
    have hLC : LC p l s m c b L xs D y (fun k => if k < 52 then g k else q2) h sa1 sa2 := by
      refine ⟨hC.1, hK, fun S => D_of (w53_fst y _ S) (fun i j hi hj hij => ?_) (fun i hi => ?_), fun T => D_of (wm_fst y _ T) (fun i j hi hj hij => ?_) (fun i hi => ?_), fun k j hk hj hkj => ?_, hX, hbl, hEXT, hNc, hst⟩
      · by_cases h1 : i < 52 <;> by_cases h2 : j < 52
        · exact hi1 i j (by omega) (by omega) (by simpa [h1, h2] using hij)
        · have := hi1 i 73 (by omega) (by omega) (by simpa [h1, h2] using hij)
          omega
        · have := hi1 73 j (by omega) (by omega) (by simpa [h1, h2] using hij)
          omega
        · omega
      · by_cases h1 : i < 52
        · have := hi2 i (by omega)
          simpa [h1] using this
        · have := hi2 73 (by omega)
          simpa [h1] using this
      · have := hi1 (52 + i) (52 + j) (by omega) (by omega) (by
          have a1 : ¬ (52 + i < 52) := by omega
          have a2 : ¬ (52 + j < 52) := by omega
          have a3 : 52 + i < 73 := by omega
          have a4 : 52 + j < 73 := by omega
          have a5 : 52 + i - 52 = i := by omega
          have a6 : 52 + j - 52 = j := by omega
          simp only [a1, a2, a3, a4, a5, a6, if_true, if_false]
          exact hij)
        omega
      · have := hi2 (52 + i) (by omega)
        have a1 : ¬ (52 + i < 52) := by omega
        have a3 : 52 + i < 73 := by omega
        have a5 : 52 + i - 52 = i := by omega
        simp only [a1, a3, a5, if_true, if_false] at this
        exact this
      · have a1 : ¬ (52 + j < 52) := by omega
        have a3 : 52 + j < 73 := by omega
        have a5 : 52 + j - 52 = j := by omega
        by_cases h1 : k < 52
        · have := hi1 k (52 + j) (by omega) (by omega) (by
            simp only [a1, a3, a5, h1, if_true, if_false] at hkj ⊢
            exact hkj)
          omega
        · have := hi1 73 (52 + j) (by omega) (by omega) (by
            simp only [a1, a3, a5, h1, if_true, if_false] at hkj ⊢
            exact hkj)
          omega
    exact law_loop hLC hrok hr hlocks hL 513 0 ZS ZS (fun _ => 0) hR0 (by omega) (by omega) H locs hP5 hP6 hS ls hl
  exact hgo s.heap [] (fun k q hq => by simp at hq) ⟨fun i j p q hq => by simp at hq, fun k q hq => by simp at hq⟩ va_S.rf ls hl
