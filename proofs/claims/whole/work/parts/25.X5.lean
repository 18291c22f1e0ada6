def fX5_build (N : Nat) (S : St) : Option (Int64 × St) :=
  if (S.1 13 9) = 0 then
    some ((-1), S)
  else
    if (S.1 13 10) = 0 then
      caS (fX0_carryAll N S) fun x1 S2 =>
      caV (fX1_raise N S2) fun S3 =>
      some (x1, S3)
    else
      some ((-1), S)
abbrev rmX5_build : Room := { frames := 4, cells := 0, slots := 0, locals := 93 }
theorem iX5_build_X5 : ∀ w ∈ wsX50, w ∈ wsX5_build := fun w h => List.mem_cons_of_mem _ (List.mem_append_left _ (List.mem_append_left _ (List.mem_append_left _ (List.mem_append_left _ (List.mem_append_right _ h)))))
theorem iX5_build_X1 : ∀ w ∈ wsX10, w ∈ wsX5_build := fun w h => List.mem_cons_of_mem _ (List.mem_append_left _ (List.mem_append_left _ (List.mem_append_left _ (List.mem_append_right _ h))))
theorem iX5_build_X0 : ∀ w ∈ wsX00, w ∈ wsX5_build := fun w h => List.mem_cons_of_mem _ (List.mem_append_left _ (List.mem_append_left _ (List.mem_append_right _ h)))
theorem iX5_build_X4 : ∀ w ∈ wsX40, w ∈ wsX5_build := fun w h => List.mem_cons_of_mem _ (List.mem_append_left _ (List.mem_append_right _ h))
theorem iX5_build_X3 : ∀ w ∈ wsX30, w ∈ wsX5_build := fun w h => List.mem_cons_of_mem _ (List.mem_append_right _ h)
set_option maxHeartbeats 4000000 in
set_option maxRecDepth 100000 in
theorem kX5_build (l : Launch) (D : va_G) (y : Cy) (g : Nat → Nat) (N : Nat) (S : St) (x0 : Int64 × St) (h : fX5_build N S = some x0) : KL l yX5_build wsX5_build rmX5_build D vwCl (tz y) (wc y g) (AC g) [.ref (g 0)] S (fun r S2 => (r, S2) = x0) := by
  refine m_entryL (wc_ok y g) (by decide) rfl (Nat.le_of_ble_eq_true rfl) (lv := [(0, .ref (g 0))]) rfl h ?_
  intro p e s m args below meth c hC hr hlocks
  obtain ⟨Q, hQ⟩ : ∃ Q, Q = (MQ below (va_Ql (fun r S2 => (r, S2) = x0) (Bw D vwCl (tz y) (wc y g) (AC g s.heap.size)) (AC g s.heap.size)) args s 0 0 (AC g s.heap.size)) := ⟨_, rfl⟩
  rw [← hQ]
  have hret : ∀ (v : Int64) (S2 : St) (pc : Nat) (lv : List (Nat × Value)), decode cX5_build pc = .ok (.lreturn, 1) → Sm p l e (headSpec wsX5_build rmX5_build).room s m args below meth c D vwCl (wc y g) (AC g s.heap.size) 3 Q x0 (some (v, S2)) S2 pc lv [.long v] := by
    rw [hQ]
    exact fun v S2 pc lv hd => m_lret hC hr hlocks hd
  clear hQ
  unfold fX5_build
  refine m_aload_n hC dX5_build_0 0 rfl ?_
  refine m_get hC iX5_build_X5 (wc_0 y g S) rfl 2 (by decide) (List.mem_of_getElem? (i := 1) rfl) rfl rfl dX5_build_1 ?_
  refine m_get hC iX5_build_X1 (wc_13 y g S) rfl 9 (by decide) (List.mem_of_getElem? (i := 2) rfl) rfl rfl dX5_build_4 ?_
  refine m_if_eq hC 20 dX5_build_7 (by decide) ?_ ?_
  · refine m_ldc2 hC (List.mem_of_getElem? (i := 4) rfl) dX5_build_20 ?_
    exact hret _ _ _ _ dX5_build_23
  · refine m_aload_n hC dX5_build_10 0 rfl ?_
    refine m_get hC iX5_build_X5 (wc_0 y g S) rfl 2 (by decide) (List.mem_of_getElem? (i := 1) rfl) rfl rfl dX5_build_11 ?_
    refine m_get hC iX5_build_X1 (wc_13 y g S) rfl 10 (by decide) (List.mem_of_getElem? (i := 3) rfl) rfl rfl dX5_build_14 ?_
    refine m_if_eq hC 24 dX5_build_17 (by decide) ?_ ?_
    · refine m_aload_n hC dX5_build_24 0 rfl ?_
      refine m_get hC iX5_build_X5 (wc_0 y g S) rfl 4 (by decide) (List.mem_of_getElem? (i := 5) rfl) rfl rfl dX5_build_25 ?_
      refine m_cLV hC (As := []) (wc_ok y g) (cwV 0 hC.1.2.2.2.2 gX5_build_X0_carryAll rfl rfl rfl (by decide +kernel) ⟨Nat.le_of_ble_eq_true rfl, Nat.le_of_ble_eq_true rfl⟩) (wc_24 y g S) rfl (fun xq hq => kX0_carryAll l D y g N S xq hq) rfl (Nat.le_of_ble_eq_true rfl) dX5_build_28 ?_
      intro x1 S2
      refine m_lstore_n hC [(0, .ref (g 0)), (1, .long x1)] [1, 0] dX5_build_31 (by decide) rfl rfl ?_
      refine m_aload_n hC dX5_build_32 0 rfl ?_
      refine m_get hC iX5_build_X5 (wc_0 y g S2) rfl 2 (by decide) (List.mem_of_getElem? (i := 1) rfl) rfl rfl dX5_build_33 ?_
      refine m_cVV hC (As := []) (wc_ok y g) (cwV 0 hC.1.2.2.2.2 gX5_build_X1_raise rfl rfl rfl (by decide +kernel) ⟨Nat.le_of_ble_eq_true rfl, Nat.le_of_ble_eq_true rfl⟩) (wc_13 y g S2) rfl (fun xq hq => kX1_raise l D y g N S2 xq hq) rfl (Nat.le_of_ble_eq_true rfl) dX5_build_36 ?_
      intro S3
      refine m_lload_n hC dX5_build_39 1 rfl ?_
      exact hret _ _ _ _ dX5_build_40
    · refine m_ldc2 hC (List.mem_of_getElem? (i := 4) rfl) dX5_build_20 ?_
      exact hret _ _ _ _ dX5_build_23
def fX5_count (N : Nat) (a : Int32) (b : Int32) (S : St) : Option (Int32) :=
  caP (fX4_hasKind b S) fun x1 =>
  if x1 = 0 then
    some (-1)
  else
    caP (fX4_hasHeap a S) fun x2 =>
    if x2 = 0 then
      if a = 5 then
        caP (fX1_numberStanding N b S) fun x3 =>
        some x3
      else
      if a = 6 then
        caP (fX1_numberAtFoot N b S) fun x4 =>
        some x4
      else
      if a = 7 then
        caP (fX4_inHeaps N b S) fun x5 =>
        if (S.1 13 10) = 0 then
          some (x5 + 0)
        else
          caP (fX1_number N b S) fun x6 =>
          some (x5 + x6)
      else
        some (-1)
    else
      ldR 5 a fun j7 =>
      ldI 8 (S.1 (7 + j7)) b fun x8 =>
      some x8
abbrev rmX5_count : Room := { frames := 3, cells := 0, slots := 0, locals := 65 }
theorem iX5_count_X5 : ∀ w ∈ wsX50, w ∈ wsX5_count := fun w h => List.mem_cons_of_mem _ (List.mem_append_left _ (List.mem_append_left _ (List.mem_append_right _ h)))
theorem iX5_count_X4 : ∀ w ∈ wsX40, w ∈ wsX5_count := fun w h => List.mem_cons_of_mem _ (List.mem_append_left _ (List.mem_append_right _ h))
theorem iX5_count_X1 : ∀ w ∈ wsX10, w ∈ wsX5_count := fun w h => List.mem_cons_of_mem _ (List.mem_append_right _ h)
set_option maxHeartbeats 4000000 in
set_option maxRecDepth 100000 in
theorem kX5_count (l : Launch) (D : va_G) (y : Cy) (g : Nat → Nat) (N : Nat) (a : Int32) (b : Int32) (S : St) (x0 : Int32) (h : fX5_count N a b S = some x0) : KI l yX5_count wsX5_count rmX5_count D vwCl (tz y) (wc y g) (AC g) [.ref (g 0), .int a, .int b] S (fun r S2 => r = x0 ∧ S2 = S) := by
  refine m_entryIP (wc_ok y g) (by decide) rfl (Nat.le_of_ble_eq_true rfl) (lv := [(0, .ref (g 0)), (1, .int a), (2, .int b)]) rfl h ?_
  intro p e s m args below meth c hC hr hlocks
  obtain ⟨Q, hQ⟩ : ∃ Q, Q = (MQ below (va_Qi (fun r S2 => r = x0 ∧ S2 = S) (Bw D vwCl (tz y) (wc y g) (AC g s.heap.size)) (AC g s.heap.size)) args s 0 0 (AC g s.heap.size)) := ⟨_, rfl⟩
  rw [← hQ]
  have hret : ∀ (v : Int32) (pc : Nat) (lv : List (Nat × Value)), decode cX5_count pc = .ok (.ireturn, 1) → Sm p l e (headSpec wsX5_count rmX5_count).room s m args below meth c D vwCl (wc y g) (AC g s.heap.size) 3 Q x0 (some v) S pc lv [.int v] := by
    rw [hQ]
    exact fun v pc lv hd => m_iretP hC hr hlocks hd
  clear hQ
  unfold fX5_count
  refine m_aload_n hC dX5_count_0 0 rfl ?_
  refine m_get hC iX5_count_X5 (wc_0 y g S) rfl 0 (by decide) (List.mem_of_getElem? (i := 1) rfl) rfl rfl dX5_count_1 ?_
  refine m_iload_n hC dX5_count_4 2 rfl ?_
  refine m_cIPV hC (As := [.int b]) (wc_ok y g) (cwV 1 hC.1.2.2.2.2 gX5_count_X4_hasKind rfl rfl rfl (by decide +kernel) ⟨Nat.le_of_ble_eq_true rfl, Nat.le_of_ble_eq_true rfl⟩) (wc_1 y g S) rfl (fun xq hq => kX4_hasKind l D y g b S xq hq) rfl (Nat.le_of_ble_eq_true rfl) dX5_count_5 ?_
  intro x1
  refine m_if_ne hC 13 dX5_count_8 (by decide) ?_ ?_
  · refine m_aload_n hC dX5_count_13 0 rfl ?_
    refine m_get hC iX5_count_X5 (wc_0 y g S) rfl 0 (by decide) (List.mem_of_getElem? (i := 1) rfl) rfl rfl dX5_count_14 ?_
    refine m_iload_n hC dX5_count_17 1 rfl ?_
    refine m_cIPV hC (As := [.int a]) (wc_ok y g) (cwV 1 hC.1.2.2.2.2 gX5_count_X4_hasHeap rfl rfl rfl (by decide +kernel) ⟨Nat.le_of_ble_eq_true rfl, Nat.le_of_ble_eq_true rfl⟩) (wc_1 y g S) rfl (fun xq hq => kX4_hasHeap l D y g a S xq hq) rfl (Nat.le_of_ble_eq_true rfl) dX5_count_18 ?_
    intro x2
    refine m_if_eq hC 36 dX5_count_21 (by decide) ?_ ?_
    · refine m_iload_n hC dX5_count_36 1 rfl ?_
      refine m_if (fun hq => ?_) (fun hq5 => ?_)
      · refine m_tin hC (5) 64 (by rw [hq]; decide) dX5_count_37 (by decide) (by decide) rfl (by decide) ?_
        refine m_aload_n hC dX5_count_64 0 rfl ?_
        refine m_get hC iX5_count_X5 (wc_0 y g S) rfl 2 (by decide) (List.mem_of_getElem? (i := 3) rfl) rfl rfl dX5_count_65 ?_
        refine m_iload_n hC dX5_count_68 2 rfl ?_
        refine m_cIPV hC (As := [.int b]) (wc_ok y g) (cwV 1 hC.1.2.2.2.2 gX5_count_X1_numberStanding rfl rfl rfl (by decide +kernel) ⟨Nat.le_of_ble_eq_true rfl, Nat.le_of_ble_eq_true rfl⟩) (wc_13 y g S) rfl (fun xq hq => kX1_numberStanding l D y g N b S xq hq) rfl (Nat.le_of_ble_eq_true rfl) dX5_count_69 ?_
        intro x3
        exact hret _ _ _ dX5_count_72
      refine m_if (fun hq => ?_) (fun hq6 => ?_)
      · refine m_tin hC (6) 73 (by rw [hq]; decide) dX5_count_37 (by decide) (by decide) rfl (by decide) ?_
        refine m_aload_n hC dX5_count_73 0 rfl ?_
        refine m_get hC iX5_count_X5 (wc_0 y g S) rfl 2 (by decide) (List.mem_of_getElem? (i := 3) rfl) rfl rfl dX5_count_74 ?_
        refine m_iload_n hC dX5_count_77 2 rfl ?_
        refine m_cIPV hC (As := [.int b]) (wc_ok y g) (cwV 1 hC.1.2.2.2.2 gX5_count_X1_numberAtFoot rfl rfl rfl (by decide +kernel) ⟨Nat.le_of_ble_eq_true rfl, Nat.le_of_ble_eq_true rfl⟩) (wc_13 y g S) rfl (fun xq hq => kX1_numberAtFoot l D y g N b S xq hq) rfl (Nat.le_of_ble_eq_true rfl) dX5_count_78 ?_
        intro x4
        exact hret _ _ _ dX5_count_81
      refine m_if (fun hq => ?_) (fun hq7 => ?_)
      · refine m_tin hC (7) 82 (by rw [hq]; decide) dX5_count_37 (by decide) (by decide) rfl (by decide) ?_
        refine m_aload_n hC dX5_count_82 0 rfl ?_
        refine m_get hC iX5_count_X5 (wc_0 y g S) rfl 0 (by decide) (List.mem_of_getElem? (i := 1) rfl) rfl rfl dX5_count_83 ?_
        refine m_iload_n hC dX5_count_86 2 rfl ?_
        refine m_cIPV hC (As := [.int b]) (wc_ok y g) (cwV 1 hC.1.2.2.2.2 gX5_count_X4_inHeaps rfl rfl rfl (by decide +kernel) ⟨Nat.le_of_ble_eq_true rfl, Nat.le_of_ble_eq_true rfl⟩) (wc_1 y g S) rfl (fun xq hq => kX4_inHeaps l D y g N b S xq hq) rfl (Nat.le_of_ble_eq_true rfl) dX5_count_87 ?_
        intro x5
        refine m_aload_n hC dX5_count_90 0 rfl ?_
        refine m_get hC iX5_count_X5 (wc_0 y g S) rfl 2 (by decide) (List.mem_of_getElem? (i := 3) rfl) rfl rfl dX5_count_91 ?_
        refine m_get hC iX5_count_X1 (wc_13 y g S) rfl 10 (by decide) (List.mem_of_getElem? (i := 4) rfl) rfl rfl dX5_count_94 ?_
        refine m_if_eq hC 111 dX5_count_97 (by decide) ?_ ?_
        · refine m_iconst hC (0) dX5_count_111 (by decide) ?_
          refine m_iadd hC dX5_count_112 ?_
          exact hret _ _ _ dX5_count_113
        · refine m_aload_n hC dX5_count_100 0 rfl ?_
          refine m_get hC iX5_count_X5 (wc_0 y g S) rfl 2 (by decide) (List.mem_of_getElem? (i := 3) rfl) rfl rfl dX5_count_101 ?_
          refine m_iload_n hC dX5_count_104 2 rfl ?_
          refine m_cIPV hC (As := [.int b]) (wc_ok y g) (cwV 1 hC.1.2.2.2.2 gX5_count_X1_number rfl rfl rfl (by decide +kernel) ⟨Nat.le_of_ble_eq_true rfl, Nat.le_of_ble_eq_true rfl⟩) (wc_13 y g S) rfl (fun xq hq => kX1_number l D y g N b S xq hq) rfl (Nat.le_of_ble_eq_true rfl) dX5_count_105 ?_
          intro x6
          refine m_goto hC 112 dX5_count_108 (by decide) ?_
          refine m_iadd hC dX5_count_112 ?_
          exact hret _ _ _ dX5_count_113
      refine m_tout hC 114 dX5_count_37 (by have e5 := lv_neT (a := 5) hq5 (by decide); have e6 := lv_neT (a := 6) hq6 (by decide); have e7 := lv_neT (a := 7) hq7 (by decide); omega) (by decide) ?_
      refine m_iconst hC (-1) dX5_count_114 (by decide) ?_
      exact hret _ _ _ dX5_count_115
    · refine m_aload_n hC dX5_count_24 0 rfl ?_
      refine m_get hC iX5_count_X5 (wc_0 y g S) rfl 0 (by decide) (List.mem_of_getElem? (i := 1) rfl) rfl rfl dX5_count_25 ?_
      refine m_get hC iX5_count_X4 (wc_1 y g S) rfl 4 (by decide) (List.mem_of_getElem? (i := 2) rfl) rfl rfl dX5_count_28 ?_
      refine m_iload_n hC dX5_count_31 1 rfl ?_
      refine m_aald hC (wc_6 y g S) (t0 := 2) rfl (rows_at g 7 5) dX5_count_32 ?_
      intro j7 hj7
      refine m_iload_n hC dX5_count_33 2 rfl ?_
      refine m_iald hC (wc_r7 y g S j7 hj7) (t0 := 0) rfl dX5_count_34 ?_
      intro x8
      exact hret _ _ _ dX5_count_35
  · refine m_iconst hC (-1) dX5_count_11 (by decide) ?_
    exact hret _ _ _ dX5_count_12
def fX5_within (a : Int32) (b : Int32) (c2 : Int32) : Option (Int32) :=
  if a < b then
    some 0
  else
    if a ≤ c2 then
      some 1
    else
      some 0
abbrev rmX5_within : Room := { frames := 0, cells := 0, slots := 0, locals := 0 }
set_option maxHeartbeats 4000000 in
set_option maxRecDepth 100000 in
theorem kX5_within (l : Launch) (D : va_G) (y : Cy) (g : Nat → Nat) (a : Int32) (b : Int32) (c2 : Int32) (S : St) (x0 : Int32) (h : fX5_within a b c2 = some x0) : KI l yX5_within wsX5_within rmX5_within D vwCl (tz y) (wc y g) (AC g) [.int a, .int b, .int c2] S (fun r S2 => r = x0 ∧ S2 = S) := by
  refine m_entryIP (wc_ok y g) (by decide) rfl (Nat.le_of_ble_eq_true rfl) (lv := [(0, .int a), (1, .int b), (2, .int c2)]) rfl h ?_
  intro p e s m args below meth c hC hr hlocks
  obtain ⟨Q, hQ⟩ : ∃ Q, Q = (MQ below (va_Qi (fun r S2 => r = x0 ∧ S2 = S) (Bw D vwCl (tz y) (wc y g) (AC g s.heap.size)) (AC g s.heap.size)) args s 0 0 (AC g s.heap.size)) := ⟨_, rfl⟩
  rw [← hQ]
  have hret : ∀ (v : Int32) (pc : Nat) (lv : List (Nat × Value)), decode cX5_within pc = .ok (.ireturn, 1) → narrow .boolean (.int v) = .int v → Sm p l e (headSpec wsX5_within rmX5_within).room s m args below meth c D vwCl (wc y g) (AC g s.heap.size) 3 Q x0 (some v) S pc lv [.int v] := by
    rw [hQ]
    exact fun v pc lv hd hz => m_zretP hC hz hr hlocks hd
  clear hQ
  unfold fX5_within
  refine m_iload_n hC dX5_within_0 0 rfl ?_
  refine m_iload_n hC dX5_within_1 1 rfl ?_
  refine m_icmp_lt hC 14 dX5_within_2 (by decide) ?_ ?_
  · refine m_iconst hC (0) dX5_within_14 (by decide) ?_
    exact hret _ _ _ dX5_within_15 rfl
  · refine m_iload_n hC dX5_within_5 0 rfl ?_
    refine m_iload_n hC dX5_within_6 2 rfl ?_
    refine m_icmp_gt hC 14 dX5_within_7 (by decide) ?_ ?_
    · refine m_iconst hC (0) dX5_within_14 (by decide) ?_
      exact hret _ _ _ dX5_within_15 rfl
    · refine m_iconst hC (1) dX5_within_10 (by decide) ?_
      refine m_goto hC 15 dX5_within_11 (by decide) ?_
      exact hret _ _ _ dX5_within_15 rfl
def fX5_frost (N : Nat) (a : Int32) (S : St) : Option (Int32 × St) :=
  if (S.1 13 10) = 0 then
    some ((-1), S)
  else
    caP (fX5_within a 0 50) fun x1 =>
    if x1 = 0 then
      some ((-1), S)
    else
      pfI S 13 11 ((S.1 13 11) + 1) fun S2 =>
      caV (fX1_loosen N a S2) fun S3 =>
      caS (fX1_letSlip N S3) fun x4 S5 =>
      some (x4, S5)
abbrev rmX5_frost : Room := { frames := 4, cells := 0, slots := 0, locals := 86 }
theorem iX5_frost_X5 : ∀ w ∈ wsX50, w ∈ wsX5_frost := fun w h => List.mem_cons_of_mem _ (List.mem_append_left _ (List.mem_append_left _ (List.mem_append_right _ h)))
theorem iX5_frost_X1 : ∀ w ∈ wsX10, w ∈ wsX5_frost := fun w h => List.mem_cons_of_mem _ (List.mem_append_left _ (List.mem_append_right _ h))
theorem iX5_frost_X4 : ∀ w ∈ wsX40, w ∈ wsX5_frost := fun w h => List.mem_cons_of_mem _ (List.mem_append_right _ h)
set_option maxHeartbeats 4000000 in
set_option maxRecDepth 100000 in
theorem kX5_frost (l : Launch) (D : va_G) (y : Cy) (g : Nat → Nat) (N : Nat) (a : Int32) (S : St) (x0 : Int32 × St) (h : fX5_frost N a S = some x0) : KI l yX5_frost wsX5_frost rmX5_frost D vwCl (tz y) (wc y g) (AC g) [.ref (g 0), .int a] S (fun r S2 => (r, S2) = x0) := by
  refine m_entryI (wc_ok y g) (by decide) rfl (Nat.le_of_ble_eq_true rfl) (lv := [(0, .ref (g 0)), (1, .int a)]) rfl h ?_
  intro p e s m args below meth c hC hr hlocks
  obtain ⟨Q, hQ⟩ : ∃ Q, Q = (MQ below (va_Qi (fun r S2 => (r, S2) = x0) (Bw D vwCl (tz y) (wc y g) (AC g s.heap.size)) (AC g s.heap.size)) args s 0 0 (AC g s.heap.size)) := ⟨_, rfl⟩
  rw [← hQ]
  have hret : ∀ (v : Int32) (S2 : St) (pc : Nat) (lv : List (Nat × Value)), decode cX5_frost pc = .ok (.ireturn, 1) → Sm p l e (headSpec wsX5_frost rmX5_frost).room s m args below meth c D vwCl (wc y g) (AC g s.heap.size) 2 Q x0 (some (v, S2)) S2 pc lv [.int v] := by
    rw [hQ]
    exact fun v S2 pc lv hd => m_iret hC hr hlocks hd
  clear hQ
  unfold fX5_frost
  refine m_aload_n hC dX5_frost_0 0 rfl ?_
  refine m_get hC iX5_frost_X5 (wc_0 y g S) rfl 2 (by decide) (List.mem_of_getElem? (i := 1) rfl) rfl rfl dX5_frost_1 ?_
  refine m_get hC iX5_frost_X1 (wc_13 y g S) rfl 10 (by decide) (List.mem_of_getElem? (i := 2) rfl) rfl rfl dX5_frost_4 ?_
  refine m_if_eq hC 20 dX5_frost_7 (by decide) ?_ ?_
  · refine m_iconst hC (-1) dX5_frost_20 (by decide) ?_
    exact hret _ _ _ _ dX5_frost_21
  · refine m_iload_n hC dX5_frost_10 1 rfl ?_
    refine m_iconst hC (0) dX5_frost_11 (by decide) ?_
    refine m_bipush hC (50) dX5_frost_12 (by decide) ?_
    refine m_cIPS hC (As := [.int a, .int 0, .int 50]) (wc_ok y g) (va_cwS 3 hC.1.2.2.2.2 gX5_frost_X5_within rfl rfl rfl (by decide +kernel) ⟨Nat.le_of_ble_eq_true rfl, Nat.le_of_ble_eq_true rfl⟩) (fun xq hq => kX5_within l D y g a 0 50 S xq hq) rfl (Nat.le_of_ble_eq_true rfl) dX5_frost_14 ?_
    intro x1
    refine m_if_ne hC 22 dX5_frost_17 (by decide) ?_ ?_
    · refine m_aload_n hC dX5_frost_22 0 rfl ?_
      refine m_get hC iX5_frost_X5 (wc_0 y g S) rfl 2 (by decide) (List.mem_of_getElem? (i := 1) rfl) rfl rfl dX5_frost_23 ?_
      refine m_dup hC dX5_frost_26 rfl ?_
      refine m_get hC iX5_frost_X1 (wc_13 y g S) rfl 11 (by decide) (List.mem_of_getElem? (i := 3) rfl) rfl rfl dX5_frost_27 ?_
      refine m_iconst hC (1) dX5_frost_30 (by decide) ?_
      refine m_iadd hC dX5_frost_31 ?_
      refine m_putI (ty := .int) hC iX5_frost_X1 tyX1 tyX1_ok nmX1 (wc_13 y g S) rfl 11 (by decide) (List.mem_of_getElem? (i := 3) rfl) rfl rfl (by decide +kernel) rfl rfl (Nat.le_of_ble_eq_true rfl) dX5_frost_32 (wcf_13_11 y g S _) ?_
      intro S2
      refine m_aload_n hC dX5_frost_35 0 rfl ?_
      refine m_get hC iX5_frost_X5 (wc_0 y g S2) rfl 2 (by decide) (List.mem_of_getElem? (i := 1) rfl) rfl rfl dX5_frost_36 ?_
      refine m_iload_n hC dX5_frost_39 1 rfl ?_
      refine m_cVV hC (As := [.int a]) (wc_ok y g) (cwV 1 hC.1.2.2.2.2 gX5_frost_X1_loosen rfl rfl rfl (by decide +kernel) ⟨Nat.le_of_ble_eq_true rfl, Nat.le_of_ble_eq_true rfl⟩) (wc_13 y g S2) rfl (fun xq hq => kX1_loosen l D y g N a S2 xq hq) rfl (Nat.le_of_ble_eq_true rfl) dX5_frost_40 ?_
      intro S3
      refine m_aload_n hC dX5_frost_43 0 rfl ?_
      refine m_get hC iX5_frost_X5 (wc_0 y g S3) rfl 2 (by decide) (List.mem_of_getElem? (i := 1) rfl) rfl rfl dX5_frost_44 ?_
      refine m_cIV hC (As := []) (wc_ok y g) (cwV 0 hC.1.2.2.2.2 gX5_frost_X1_letSlip rfl rfl rfl (by decide +kernel) ⟨Nat.le_of_ble_eq_true rfl, Nat.le_of_ble_eq_true rfl⟩) (wc_13 y g S3) rfl (fun xq hq => kX1_letSlip l D y g N S3 xq hq) rfl (Nat.le_of_ble_eq_true rfl) dX5_frost_47 ?_
      intro x4 S5
      exact hret _ _ _ _ dX5_frost_50
    · refine m_iconst hC (-1) dX5_frost_20 (by decide) ?_
      exact hret _ _ _ _ dX5_frost_21
def fX5_onTheMap (a : Int32) (b : Int32) : Option (Int32) :=
  caP (fX5_within a (-100) 100) fun x1 =>
  if x1 = 0 then
    some 0
  else
    caP (fX5_within b (-100) 100) fun x2 =>
    if x2 = 0 then
      some 0
    else
      some 1
abbrev rmX5_onTheMap : Room := { frames := 1, cells := 0, slots := 0, locals := 22 }
set_option maxHeartbeats 4000000 in
set_option maxRecDepth 100000 in
theorem kX5_onTheMap (l : Launch) (D : va_G) (y : Cy) (g : Nat → Nat) (a : Int32) (b : Int32) (S : St) (x0 : Int32) (h : fX5_onTheMap a b = some x0) : KI l yX5_onTheMap wsX5_onTheMap rmX5_onTheMap D vwCl (tz y) (wc y g) (AC g) [.int a, .int b] S (fun r S2 => r = x0 ∧ S2 = S) := by
  refine m_entryIP (wc_ok y g) (by decide) rfl (Nat.le_of_ble_eq_true rfl) (lv := [(0, .int a), (1, .int b)]) rfl h ?_
  intro p e s m args below meth c hC hr hlocks
  obtain ⟨Q, hQ⟩ : ∃ Q, Q = (MQ below (va_Qi (fun r S2 => r = x0 ∧ S2 = S) (Bw D vwCl (tz y) (wc y g) (AC g s.heap.size)) (AC g s.heap.size)) args s 0 0 (AC g s.heap.size)) := ⟨_, rfl⟩
  rw [← hQ]
  have hret : ∀ (v : Int32) (pc : Nat) (lv : List (Nat × Value)), decode cX5_onTheMap pc = .ok (.ireturn, 1) → narrow .boolean (.int v) = .int v → Sm p l e (headSpec wsX5_onTheMap rmX5_onTheMap).room s m args below meth c D vwCl (wc y g) (AC g s.heap.size) 2 Q x0 (some v) S pc lv [.int v] := by
    rw [hQ]
    exact fun v pc lv hd hz => m_zretP hC hz hr hlocks hd
  clear hQ
  unfold fX5_onTheMap
  refine m_iload_n hC dX5_onTheMap_0 0 rfl ?_
  refine m_bipush hC (-100) dX5_onTheMap_1 (by decide) ?_
  refine m_bipush hC (100) dX5_onTheMap_3 (by decide) ?_
  refine m_cIPS hC (As := [.int a, .int (-100), .int 100]) (wc_ok y g) (va_cwS 3 hC.1.2.2.2.2 gX5_onTheMap_X5_within rfl rfl rfl (by decide +kernel) ⟨Nat.le_of_ble_eq_true rfl, Nat.le_of_ble_eq_true rfl⟩) (fun xq hq => kX5_within l D y g a (-100) 100 S xq hq) rfl (Nat.le_of_ble_eq_true rfl) dX5_onTheMap_5 ?_
  intro x1
  refine m_if_eq hC 26 dX5_onTheMap_8 (by decide) ?_ ?_
  · refine m_iconst hC (0) dX5_onTheMap_26 (by decide) ?_
    exact hret _ _ _ dX5_onTheMap_27 rfl
  · refine m_iload_n hC dX5_onTheMap_11 1 rfl ?_
    refine m_bipush hC (-100) dX5_onTheMap_12 (by decide) ?_
    refine m_bipush hC (100) dX5_onTheMap_14 (by decide) ?_
    refine m_cIPS hC (As := [.int b, .int (-100), .int 100]) (wc_ok y g) (va_cwS 3 hC.1.2.2.2.2 gX5_onTheMap_X5_within rfl rfl rfl (by decide +kernel) ⟨Nat.le_of_ble_eq_true rfl, Nat.le_of_ble_eq_true rfl⟩) (fun xq hq => kX5_within l D y g b (-100) 100 S xq hq) rfl (Nat.le_of_ble_eq_true rfl) dX5_onTheMap_16 ?_
    intro x2
    refine m_if_eq hC 26 dX5_onTheMap_19 (by decide) ?_ ?_
    · refine m_iconst hC (0) dX5_onTheMap_26 (by decide) ?_
      exact hret _ _ _ dX5_onTheMap_27 rfl
    · refine m_iconst hC (1) dX5_onTheMap_22 (by decide) ?_
      refine m_goto hC 27 dX5_onTheMap_23 (by decide) ?_
      exact hret _ _ _ dX5_onTheMap_27 rfl
def fX5_heap (a : Int32) (b : Int32) (S : St) : Option (Int32 × St) :=
  if (S.1 13 10) = 0 then
    if (S.1 1 6) < 5 then
      caP (fX5_onTheMap a b) fun x1 =>
      if x1 = 0 then
        some ((-1), S)
      else
        caV (fX1_forget S) fun S2 =>
        caS (fX4_addHeap a b S2) fun x3 S4 =>
        some (x3, S4)
    else
      some ((-1), S)
  else
    some ((-1), S)
abbrev rmX5_heap : Room := { frames := 2, cells := 0, slots := 0, locals := 43 }
theorem iX5_heap_X5 : ∀ w ∈ wsX50, w ∈ wsX5_heap := fun w h => List.mem_cons_of_mem _ (List.mem_append_left _ (List.mem_append_left _ (List.mem_append_right _ h)))
theorem iX5_heap_X1 : ∀ w ∈ wsX10, w ∈ wsX5_heap := fun w h => List.mem_cons_of_mem _ (List.mem_append_left _ (List.mem_append_right _ h))
theorem iX5_heap_X4 : ∀ w ∈ wsX40, w ∈ wsX5_heap := fun w h => List.mem_cons_of_mem _ (List.mem_append_right _ h)
set_option maxHeartbeats 4000000 in
set_option maxRecDepth 100000 in
theorem kX5_heap (l : Launch) (D : va_G) (y : Cy) (g : Nat → Nat) (a : Int32) (b : Int32) (S : St) (x0 : Int32 × St) (h : fX5_heap a b S = some x0) : KI l yX5_heap wsX5_heap rmX5_heap D vwCl (tz y) (wc y g) (AC g) [.ref (g 0), .int a, .int b] S (fun r S2 => (r, S2) = x0) := by
  refine m_entryI (wc_ok y g) (by decide) rfl (Nat.le_of_ble_eq_true rfl) (lv := [(0, .ref (g 0)), (1, .int a), (2, .int b)]) rfl h ?_
  intro p e s m args below meth c hC hr hlocks
  obtain ⟨Q, hQ⟩ : ∃ Q, Q = (MQ below (va_Qi (fun r S2 => (r, S2) = x0) (Bw D vwCl (tz y) (wc y g) (AC g s.heap.size)) (AC g s.heap.size)) args s 0 0 (AC g s.heap.size)) := ⟨_, rfl⟩
  rw [← hQ]
  have hret : ∀ (v : Int32) (S2 : St) (pc : Nat) (lv : List (Nat × Value)), decode cX5_heap pc = .ok (.ireturn, 1) → Sm p l e (headSpec wsX5_heap rmX5_heap).room s m args below meth c D vwCl (wc y g) (AC g s.heap.size) 3 Q x0 (some (v, S2)) S2 pc lv [.int v] := by
    rw [hQ]
    exact fun v S2 pc lv hd => m_iret hC hr hlocks hd
  clear hQ
  unfold fX5_heap
  refine m_aload_n hC dX5_heap_0 0 rfl ?_
  refine m_get hC iX5_heap_X5 (wc_0 y g S) rfl 2 (by decide) (List.mem_of_getElem? (i := 1) rfl) rfl rfl dX5_heap_1 ?_
  refine m_get hC iX5_heap_X1 (wc_13 y g S) rfl 10 (by decide) (List.mem_of_getElem? (i := 2) rfl) rfl rfl dX5_heap_4 ?_
  refine m_if_ne hC 29 dX5_heap_7 (by decide) ?_ ?_
  · refine m_iconst hC (-1) dX5_heap_29 (by decide) ?_
    exact hret _ _ _ _ dX5_heap_30
  · refine m_aload_n hC dX5_heap_10 0 rfl ?_
    refine m_get hC iX5_heap_X5 (wc_0 y g S) rfl 0 (by decide) (List.mem_of_getElem? (i := 3) rfl) rfl rfl dX5_heap_11 ?_
    refine m_get hC iX5_heap_X4 (wc_1 y g S) rfl 6 (by decide) (List.mem_of_getElem? (i := 4) rfl) rfl rfl dX5_heap_14 ?_
    refine m_iconst hC (5) dX5_heap_17 (by decide) ?_
    refine m_icmp_ge hC 29 dX5_heap_18 (by decide) ?_ ?_
    · refine m_iconst hC (-1) dX5_heap_29 (by decide) ?_
      exact hret _ _ _ _ dX5_heap_30
    · refine m_iload_n hC dX5_heap_21 1 rfl ?_
      refine m_iload_n hC dX5_heap_22 2 rfl ?_
      refine m_cIPS hC (As := [.int a, .int b]) (wc_ok y g) (va_cwS 2 hC.1.2.2.2.2 gX5_heap_X5_onTheMap rfl rfl rfl (by decide +kernel) ⟨Nat.le_of_ble_eq_true rfl, Nat.le_of_ble_eq_true rfl⟩) (fun xq hq => kX5_onTheMap l D y g a b S xq hq) rfl (Nat.le_of_ble_eq_true rfl) dX5_heap_23 ?_
      intro x1
      refine m_if_ne hC 31 dX5_heap_26 (by decide) ?_ ?_
      · refine m_aload_n hC dX5_heap_31 0 rfl ?_
        refine m_get hC iX5_heap_X5 (wc_0 y g S) rfl 2 (by decide) (List.mem_of_getElem? (i := 1) rfl) rfl rfl dX5_heap_32 ?_
        refine m_cVV hC (As := []) (wc_ok y g) (cwV 0 hC.1.2.2.2.2 gX5_heap_X1_forget rfl rfl rfl (by decide +kernel) ⟨Nat.le_of_ble_eq_true rfl, Nat.le_of_ble_eq_true rfl⟩) (wc_13 y g S) rfl (fun xq hq => kX1_forget l D y g S xq hq) rfl (Nat.le_of_ble_eq_true rfl) dX5_heap_35 ?_
        intro S2
        refine m_aload_n hC dX5_heap_38 0 rfl ?_
        refine m_get hC iX5_heap_X5 (wc_0 y g S2) rfl 0 (by decide) (List.mem_of_getElem? (i := 3) rfl) rfl rfl dX5_heap_39 ?_
        refine m_iload_n hC dX5_heap_42 1 rfl ?_
        refine m_iload_n hC dX5_heap_43 2 rfl ?_
        refine m_cIV hC (As := [.int a, .int b]) (wc_ok y g) (cwV 2 hC.1.2.2.2.2 gX5_heap_X4_addHeap rfl rfl rfl (by decide +kernel) ⟨Nat.le_of_ble_eq_true rfl, Nat.le_of_ble_eq_true rfl⟩) (wc_1 y g S2) rfl (fun xq hq => kX4_addHeap l D y g a b S2 xq hq) rfl (Nat.le_of_ble_eq_true rfl) dX5_heap_44 ?_
        intro x3 S4
        exact hret _ _ _ _ dX5_heap_47
      · refine m_iconst hC (-1) dX5_heap_29 (by decide) ?_
        exact hret _ _ _ _ dX5_heap_30
def fX5_kind (a : Int32) (b : Int32) (S : St) : Option (Int32 × St) :=
  if (S.1 13 10) = 0 then
    if (S.1 1 5) < 8 then
      caP (fX5_within a 1 6) fun x1 =>
      if x1 = 0 then
        some ((-1), S)
      else
        caP (fX5_within b 1 4) fun x2 =>
        if x2 = 0 then
          some ((-1), S)
        else
          caV (fX1_forget S) fun S3 =>
          caS (fX4_addKind a b S3) fun x4 S5 =>
          some (x4, S5)
    else
      some ((-1), S)
  else
    some ((-1), S)
abbrev rmX5_kind : Room := { frames := 1, cells := 0, slots := 0, locals := 22 }
theorem iX5_kind_X5 : ∀ w ∈ wsX50, w ∈ wsX5_kind := fun w h => List.mem_cons_of_mem _ (List.mem_append_left _ (List.mem_append_left _ (List.mem_append_right _ h)))
theorem iX5_kind_X1 : ∀ w ∈ wsX10, w ∈ wsX5_kind := fun w h => List.mem_cons_of_mem _ (List.mem_append_left _ (List.mem_append_right _ h))
theorem iX5_kind_X4 : ∀ w ∈ wsX40, w ∈ wsX5_kind := fun w h => List.mem_cons_of_mem _ (List.mem_append_right _ h)
set_option maxHeartbeats 4000000 in
set_option maxRecDepth 100000 in
theorem kX5_kind (l : Launch) (D : va_G) (y : Cy) (g : Nat → Nat) (a : Int32) (b : Int32) (S : St) (x0 : Int32 × St) (h : fX5_kind a b S = some x0) : KI l yX5_kind wsX5_kind rmX5_kind D vwCl (tz y) (wc y g) (AC g) [.ref (g 0), .int a, .int b] S (fun r S2 => (r, S2) = x0) := by
  refine m_entryI (wc_ok y g) (by decide) rfl (Nat.le_of_ble_eq_true rfl) (lv := [(0, .ref (g 0)), (1, .int a), (2, .int b)]) rfl h ?_
  intro p e s m args below meth c hC hr hlocks
  obtain ⟨Q, hQ⟩ : ∃ Q, Q = (MQ below (va_Qi (fun r S2 => (r, S2) = x0) (Bw D vwCl (tz y) (wc y g) (AC g s.heap.size)) (AC g s.heap.size)) args s 0 0 (AC g s.heap.size)) := ⟨_, rfl⟩
  rw [← hQ]
  have hret : ∀ (v : Int32) (S2 : St) (pc : Nat) (lv : List (Nat × Value)), decode cX5_kind pc = .ok (.ireturn, 1) → Sm p l e (headSpec wsX5_kind rmX5_kind).room s m args below meth c D vwCl (wc y g) (AC g s.heap.size) 3 Q x0 (some (v, S2)) S2 pc lv [.int v] := by
    rw [hQ]
    exact fun v S2 pc lv hd => m_iret hC hr hlocks hd
  clear hQ
  unfold fX5_kind
  refine m_aload_n hC dX5_kind_0 0 rfl ?_
  refine m_get hC iX5_kind_X5 (wc_0 y g S) rfl 2 (by decide) (List.mem_of_getElem? (i := 1) rfl) rfl rfl dX5_kind_1 ?_
  refine m_get hC iX5_kind_X1 (wc_13 y g S) rfl 10 (by decide) (List.mem_of_getElem? (i := 2) rfl) rfl rfl dX5_kind_4 ?_
  refine m_if_ne hC 22 dX5_kind_7 (by decide) ?_ ?_
  · refine m_iconst hC (-1) dX5_kind_22 (by decide) ?_
    exact hret _ _ _ _ dX5_kind_23
  · refine m_aload_n hC dX5_kind_10 0 rfl ?_
    refine m_get hC iX5_kind_X5 (wc_0 y g S) rfl 0 (by decide) (List.mem_of_getElem? (i := 3) rfl) rfl rfl dX5_kind_11 ?_
    refine m_get hC iX5_kind_X4 (wc_1 y g S) rfl 5 (by decide) (List.mem_of_getElem? (i := 4) rfl) rfl rfl dX5_kind_14 ?_
    refine m_bipush hC (8) dX5_kind_17 (by decide) ?_
    refine m_icmp_lt hC 24 dX5_kind_19 (by decide) ?_ ?_
    · refine m_iload_n hC dX5_kind_24 1 rfl ?_
      refine m_iconst hC (1) dX5_kind_25 (by decide) ?_
      refine m_bipush hC (6) dX5_kind_26 (by decide) ?_
      refine m_cIPS hC (As := [.int a, .int 1, .int 6]) (wc_ok y g) (va_cwS 3 hC.1.2.2.2.2 gX5_kind_X5_within rfl rfl rfl (by decide +kernel) ⟨Nat.le_of_ble_eq_true rfl, Nat.le_of_ble_eq_true rfl⟩) (fun xq hq => kX5_within l D y g a 1 6 S xq hq) rfl (Nat.le_of_ble_eq_true rfl) dX5_kind_28 ?_
      intro x1
      refine m_if_eq hC 43 dX5_kind_31 (by decide) ?_ ?_
      · refine m_iconst hC (-1) dX5_kind_43 (by decide) ?_
        exact hret _ _ _ _ dX5_kind_44
      · refine m_iload_n hC dX5_kind_34 2 rfl ?_
        refine m_iconst hC (1) dX5_kind_35 (by decide) ?_
        refine m_iconst hC (4) dX5_kind_36 (by decide) ?_
        refine m_cIPS hC (As := [.int b, .int 1, .int 4]) (wc_ok y g) (va_cwS 3 hC.1.2.2.2.2 gX5_kind_X5_within rfl rfl rfl (by decide +kernel) ⟨Nat.le_of_ble_eq_true rfl, Nat.le_of_ble_eq_true rfl⟩) (fun xq hq => kX5_within l D y g b 1 4 S xq hq) rfl (Nat.le_of_ble_eq_true rfl) dX5_kind_37 ?_
        intro x2
        refine m_if_ne hC 45 dX5_kind_40 (by decide) ?_ ?_
        · refine m_aload_n hC dX5_kind_45 0 rfl ?_
          refine m_get hC iX5_kind_X5 (wc_0 y g S) rfl 2 (by decide) (List.mem_of_getElem? (i := 1) rfl) rfl rfl dX5_kind_46 ?_
          refine m_cVV hC (As := []) (wc_ok y g) (cwV 0 hC.1.2.2.2.2 gX5_kind_X1_forget rfl rfl rfl (by decide +kernel) ⟨Nat.le_of_ble_eq_true rfl, Nat.le_of_ble_eq_true rfl⟩) (wc_13 y g S) rfl (fun xq hq => kX1_forget l D y g S xq hq) rfl (Nat.le_of_ble_eq_true rfl) dX5_kind_49 ?_
          intro S3
          refine m_aload_n hC dX5_kind_52 0 rfl ?_
          refine m_get hC iX5_kind_X5 (wc_0 y g S3) rfl 0 (by decide) (List.mem_of_getElem? (i := 3) rfl) rfl rfl dX5_kind_53 ?_
          refine m_iload_n hC dX5_kind_56 1 rfl ?_
          refine m_iload_n hC dX5_kind_57 2 rfl ?_
          refine m_cIV hC (As := [.int a, .int b]) (wc_ok y g) (cwV 2 hC.1.2.2.2.2 gX5_kind_X4_addKind rfl rfl rfl (by decide +kernel) ⟨Nat.le_of_ble_eq_true rfl, Nat.le_of_ble_eq_true rfl⟩) (wc_1 y g S3) rfl (fun xq hq => kX4_addKind l D y g a b S3 xq hq) rfl (Nat.le_of_ble_eq_true rfl) dX5_kind_58 ?_
          intro x4 S5
          exact hret _ _ _ _ dX5_kind_61
        · refine m_iconst hC (-1) dX5_kind_43 (by decide) ?_
          exact hret _ _ _ _ dX5_kind_44
    · refine m_iconst hC (-1) dX5_kind_22 (by decide) ?_
      exact hret _ _ _ _ dX5_kind_23
def fX5_least (N : Nat) (S : St) : Option (Int64 × St) :=
  if (S.1 13 9) = 0 then
    some ((-1), S)
  else
    caS (fX0_leastToil N S) fun x1 S2 =>
    some (x1, S2)
abbrev rmX5_least : Room := { frames := 7, cells := 0, slots := 0, locals := 160 }
theorem iX5_least_X5 : ∀ w ∈ wsX50, w ∈ wsX5_least := fun w h => List.mem_cons_of_mem _ (List.mem_append_left _ (List.mem_append_left _ (List.mem_append_left _ (List.mem_append_left _ (List.mem_append_right _ h)))))
theorem iX5_least_X1 : ∀ w ∈ wsX10, w ∈ wsX5_least := fun w h => List.mem_cons_of_mem _ (List.mem_append_left _ (List.mem_append_left _ (List.mem_append_left _ (List.mem_append_right _ h))))
theorem iX5_least_X0 : ∀ w ∈ wsX00, w ∈ wsX5_least := fun w h => List.mem_cons_of_mem _ (List.mem_append_left _ (List.mem_append_left _ (List.mem_append_right _ h)))
theorem iX5_least_X4 : ∀ w ∈ wsX40, w ∈ wsX5_least := fun w h => List.mem_cons_of_mem _ (List.mem_append_left _ (List.mem_append_right _ h))
theorem iX5_least_X3 : ∀ w ∈ wsX30, w ∈ wsX5_least := fun w h => List.mem_cons_of_mem _ (List.mem_append_right _ h)
set_option maxHeartbeats 4000000 in
set_option maxRecDepth 100000 in
theorem kX5_least (l : Launch) (D : va_G) (y : Cy) (g : Nat → Nat) (N : Nat) (S : St) (x0 : Int64 × St) (h : fX5_least N S = some x0) : KL l yX5_least wsX5_least rmX5_least D vwCl (tz y) (wc y g) (AC g) [.ref (g 0)] S (fun r S2 => (r, S2) = x0) := by
  refine m_entryL (wc_ok y g) (by decide) rfl (Nat.le_of_ble_eq_true rfl) (lv := [(0, .ref (g 0))]) rfl h ?_
  intro p e s m args below meth c hC hr hlocks
  obtain ⟨Q, hQ⟩ : ∃ Q, Q = (MQ below (va_Ql (fun r S2 => (r, S2) = x0) (Bw D vwCl (tz y) (wc y g) (AC g s.heap.size)) (AC g s.heap.size)) args s 0 0 (AC g s.heap.size)) := ⟨_, rfl⟩
  rw [← hQ]
  have hret : ∀ (v : Int64) (S2 : St) (pc : Nat) (lv : List (Nat × Value)), decode cX5_least pc = .ok (.lreturn, 1) → Sm p l e (headSpec wsX5_least rmX5_least).room s m args below meth c D vwCl (wc y g) (AC g s.heap.size) 1 Q x0 (some (v, S2)) S2 pc lv [.long v] := by
    rw [hQ]
    exact fun v S2 pc lv hd => m_lret hC hr hlocks hd
  clear hQ
  unfold fX5_least
  refine m_aload_n hC dX5_least_0 0 rfl ?_
  refine m_get hC iX5_least_X5 (wc_0 y g S) rfl 2 (by decide) (List.mem_of_getElem? (i := 1) rfl) rfl rfl dX5_least_1 ?_
  refine m_get hC iX5_least_X1 (wc_13 y g S) rfl 9 (by decide) (List.mem_of_getElem? (i := 2) rfl) rfl rfl dX5_least_4 ?_
  refine m_if_ne hC 16 dX5_least_7 (by decide) ?_ ?_
  · refine m_aload_n hC dX5_least_16 0 rfl ?_
    refine m_get hC iX5_least_X5 (wc_0 y g S) rfl 4 (by decide) (List.mem_of_getElem? (i := 4) rfl) rfl rfl dX5_least_17 ?_
    refine m_cLV hC (As := []) (wc_ok y g) (cwV 0 hC.1.2.2.2.2 gX5_least_X0_leastToil rfl rfl rfl (by decide +kernel) ⟨Nat.le_of_ble_eq_true rfl, Nat.le_of_ble_eq_true rfl⟩) (wc_24 y g S) rfl (fun xq hq => kX0_leastToil l D y g N S xq hq) rfl (Nat.le_of_ble_eq_true rfl) dX5_least_20 ?_
    intro x1 S2
    exact hret _ _ _ _ dX5_least_23
  · refine m_ldc2 hC (List.mem_of_getElem? (i := 3) rfl) dX5_least_10 ?_
    refine m_goto hC 23 dX5_least_13 (by decide) ?_
    exact hret _ _ _ _ dX5_least_23
def fX5_look (N : Nat) (a : Int32) (S : St) : Option (Int32) :=
  if a = 0 then
    some (S.1 1 5)
  else
  if a = 1 then
    some (S.1 1 6)
  else
  if a = 2 then
    some (S.1 13 9)
  else
  if a = 3 then
    if (S.1 13 10) = 0 then
      some 0
    else
      some 1
  else
  if a = 4 then
    some (S.1 21 7)
  else
  if a = 5 then
    caP (fX1_heartingInAll N S) fun x1 =>
    some x1
  else
  if a = 6 then
    caP (fX1_allAtFoot N S) fun x2 =>
    some x2
  else
  if a = 7 then
    some (S.1 13 11)
  else
    some (-1)
abbrev rmX5_look : Room := { frames := 4, cells := 0, slots := 0, locals := 87 }
theorem iX5_look_X5 : ∀ w ∈ wsX50, w ∈ wsX5_look := fun w h => List.mem_cons_of_mem _ (List.mem_append_left _ (List.mem_append_left _ (List.mem_append_left _ (List.mem_append_left _ (List.mem_append_right _ h)))))
theorem iX5_look_X4 : ∀ w ∈ wsX40, w ∈ wsX5_look := fun w h => List.mem_cons_of_mem _ (List.mem_append_left _ (List.mem_append_left _ (List.mem_append_left _ (List.mem_append_right _ h))))
theorem iX5_look_X1 : ∀ w ∈ wsX10, w ∈ wsX5_look := fun w h => List.mem_cons_of_mem _ (List.mem_append_left _ (List.mem_append_left _ (List.mem_append_right _ h)))
theorem iX5_look_X2 : ∀ w ∈ wsX20, w ∈ wsX5_look := fun w h => List.mem_cons_of_mem _ (List.mem_append_left _ (List.mem_append_right _ h))
theorem iX5_look_X3 : ∀ w ∈ wsX30, w ∈ wsX5_look := fun w h => List.mem_cons_of_mem _ (List.mem_append_right _ h)
set_option maxHeartbeats 4000000 in
set_option maxRecDepth 100000 in
theorem kX5_look (l : Launch) (D : va_G) (y : Cy) (g : Nat → Nat) (N : Nat) (a : Int32) (S : St) (x0 : Int32) (h : fX5_look N a S = some x0) : KI l yX5_look wsX5_look rmX5_look D vwCl (tz y) (wc y g) (AC g) [.ref (g 0), .int a] S (fun r S2 => r = x0 ∧ S2 = S) := by
  refine m_entryIP (wc_ok y g) (by decide) rfl (Nat.le_of_ble_eq_true rfl) (lv := [(0, .ref (g 0)), (1, .int a)]) rfl h ?_
  intro p e s m args below meth c hC hr hlocks
  obtain ⟨Q, hQ⟩ : ∃ Q, Q = (MQ below (va_Qi (fun r S2 => r = x0 ∧ S2 = S) (Bw D vwCl (tz y) (wc y g) (AC g s.heap.size)) (AC g s.heap.size)) args s 0 0 (AC g s.heap.size)) := ⟨_, rfl⟩
  rw [← hQ]
  have hret : ∀ (v : Int32) (pc : Nat) (lv : List (Nat × Value)), decode cX5_look pc = .ok (.ireturn, 1) → Sm p l e (headSpec wsX5_look rmX5_look).room s m args below meth c D vwCl (wc y g) (AC g s.heap.size) 2 Q x0 (some v) S pc lv [.int v] := by
    rw [hQ]
    exact fun v pc lv hd => m_iretP hC hr hlocks hd
  clear hQ
  unfold fX5_look
  refine m_iload_n hC dX5_look_0 1 rfl ?_
  refine m_if (fun hq => ?_) (fun hq0 => ?_)
  · refine m_tin hC (0) 48 (by rw [hq]; decide) dX5_look_1 (by decide) (by decide) rfl (by decide) ?_
    refine m_aload_n hC dX5_look_48 0 rfl ?_
    refine m_get hC iX5_look_X5 (wc_0 y g S) rfl 0 (by decide) (List.mem_of_getElem? (i := 1) rfl) rfl rfl dX5_look_49 ?_
    refine m_get hC iX5_look_X4 (wc_1 y g S) rfl 5 (by decide) (List.mem_of_getElem? (i := 2) rfl) rfl rfl dX5_look_52 ?_
    exact hret _ _ _ dX5_look_55
  refine m_if (fun hq => ?_) (fun hq1 => ?_)
  · refine m_tin hC (1) 56 (by rw [hq]; decide) dX5_look_1 (by decide) (by decide) rfl (by decide) ?_
    refine m_aload_n hC dX5_look_56 0 rfl ?_
    refine m_get hC iX5_look_X5 (wc_0 y g S) rfl 0 (by decide) (List.mem_of_getElem? (i := 1) rfl) rfl rfl dX5_look_57 ?_
    refine m_get hC iX5_look_X4 (wc_1 y g S) rfl 6 (by decide) (List.mem_of_getElem? (i := 3) rfl) rfl rfl dX5_look_60 ?_
    exact hret _ _ _ dX5_look_63
  refine m_if (fun hq => ?_) (fun hq2 => ?_)
  · refine m_tin hC (2) 64 (by rw [hq]; decide) dX5_look_1 (by decide) (by decide) rfl (by decide) ?_
    refine m_aload_n hC dX5_look_64 0 rfl ?_
    refine m_get hC iX5_look_X5 (wc_0 y g S) rfl 2 (by decide) (List.mem_of_getElem? (i := 4) rfl) rfl rfl dX5_look_65 ?_
    refine m_get hC iX5_look_X1 (wc_13 y g S) rfl 9 (by decide) (List.mem_of_getElem? (i := 5) rfl) rfl rfl dX5_look_68 ?_
    exact hret _ _ _ dX5_look_71
  refine m_if (fun hq => ?_) (fun hq3 => ?_)
  · refine m_tin hC (3) 72 (by rw [hq]; decide) dX5_look_1 (by decide) (by decide) rfl (by decide) ?_
    refine m_aload_n hC dX5_look_72 0 rfl ?_
    refine m_get hC iX5_look_X5 (wc_0 y g S) rfl 2 (by decide) (List.mem_of_getElem? (i := 4) rfl) rfl rfl dX5_look_73 ?_
    refine m_get hC iX5_look_X1 (wc_13 y g S) rfl 10 (by decide) (List.mem_of_getElem? (i := 6) rfl) rfl rfl dX5_look_76 ?_
    refine m_if_eq hC 86 dX5_look_79 (by decide) ?_ ?_
    · refine m_iconst hC (0) dX5_look_86 (by decide) ?_
      exact hret _ _ _ dX5_look_87
    · refine m_iconst hC (1) dX5_look_82 (by decide) ?_
      refine m_goto hC 87 dX5_look_83 (by decide) ?_
      exact hret _ _ _ dX5_look_87
  refine m_if (fun hq => ?_) (fun hq4 => ?_)
  · refine m_tin hC (4) 88 (by rw [hq]; decide) dX5_look_1 (by decide) (by decide) rfl (by decide) ?_
    refine m_aload_n hC dX5_look_88 0 rfl ?_
    refine m_get hC iX5_look_X5 (wc_0 y g S) rfl 3 (by decide) (List.mem_of_getElem? (i := 7) rfl) rfl rfl dX5_look_89 ?_
    refine m_get hC iX5_look_X2 (wc_21 y g S) rfl 7 (by decide) (List.mem_of_getElem? (i := 8) rfl) rfl rfl dX5_look_92 ?_
    exact hret _ _ _ dX5_look_95
  refine m_if (fun hq => ?_) (fun hq5 => ?_)
  · refine m_tin hC (5) 96 (by rw [hq]; decide) dX5_look_1 (by decide) (by decide) rfl (by decide) ?_
    refine m_aload_n hC dX5_look_96 0 rfl ?_
    refine m_get hC iX5_look_X5 (wc_0 y g S) rfl 2 (by decide) (List.mem_of_getElem? (i := 4) rfl) rfl rfl dX5_look_97 ?_
    refine m_cIPV hC (As := []) (wc_ok y g) (cwV 0 hC.1.2.2.2.2 gX5_look_X1_heartingInAll rfl rfl rfl (by decide +kernel) ⟨Nat.le_of_ble_eq_true rfl, Nat.le_of_ble_eq_true rfl⟩) (wc_13 y g S) rfl (fun xq hq => kX1_heartingInAll l D y g N S xq hq) rfl (Nat.le_of_ble_eq_true rfl) dX5_look_100 ?_
    intro x1
    exact hret _ _ _ dX5_look_103
  refine m_if (fun hq => ?_) (fun hq6 => ?_)
  · refine m_tin hC (6) 104 (by rw [hq]; decide) dX5_look_1 (by decide) (by decide) rfl (by decide) ?_
    refine m_aload_n hC dX5_look_104 0 rfl ?_
    refine m_get hC iX5_look_X5 (wc_0 y g S) rfl 2 (by decide) (List.mem_of_getElem? (i := 4) rfl) rfl rfl dX5_look_105 ?_
    refine m_cIPV hC (As := []) (wc_ok y g) (cwV 0 hC.1.2.2.2.2 gX5_look_X1_allAtFoot rfl rfl rfl (by decide +kernel) ⟨Nat.le_of_ble_eq_true rfl, Nat.le_of_ble_eq_true rfl⟩) (wc_13 y g S) rfl (fun xq hq => kX1_allAtFoot l D y g N S xq hq) rfl (Nat.le_of_ble_eq_true rfl) dX5_look_108 ?_
    intro x2
    exact hret _ _ _ dX5_look_111
  refine m_if (fun hq => ?_) (fun hq7 => ?_)
  · refine m_tin hC (7) 112 (by rw [hq]; decide) dX5_look_1 (by decide) (by decide) rfl (by decide) ?_
    refine m_aload_n hC dX5_look_112 0 rfl ?_
    refine m_get hC iX5_look_X5 (wc_0 y g S) rfl 2 (by decide) (List.mem_of_getElem? (i := 4) rfl) rfl rfl dX5_look_113 ?_
    refine m_get hC iX5_look_X1 (wc_13 y g S) rfl 11 (by decide) (List.mem_of_getElem? (i := 9) rfl) rfl rfl dX5_look_116 ?_
    exact hret _ _ _ dX5_look_119
  refine m_tout hC 120 dX5_look_1 (by have e0 := lv_neT (a := 0) hq0 (by decide); have e1 := lv_neT (a := 1) hq1 (by decide); have e2 := lv_neT (a := 2) hq2 (by decide); have e3 := lv_neT (a := 3) hq3 (by decide); have e4 := lv_neT (a := 4) hq4 (by decide); have e5 := lv_neT (a := 5) hq5 (by decide); have e6 := lv_neT (a := 6) hq6 (by decide); have e7 := lv_neT (a := 7) hq7 (by decide); omega) (by decide) ?_
  refine m_iconst hC (-1) dX5_look_120 (by decide) ?_
  exact hret _ _ _ dX5_look_121
def fX5_mend (N : Nat) (S : St) : Option (Int32 × St) :=
  if (S.1 13 10) = 0 then
    some ((-1), S)
  else
    caS (fX1_layAnew N S) fun x1 S2 =>
    some (x1, S2)
abbrev rmX5_mend : Room := { frames := 1, cells := 0, slots := 0, locals := 22 }
theorem iX5_mend_X5 : ∀ w ∈ wsX50, w ∈ wsX5_mend := fun w h => List.mem_cons_of_mem _ (List.mem_append_left _ (List.mem_append_right _ h))
theorem iX5_mend_X1 : ∀ w ∈ wsX10, w ∈ wsX5_mend := fun w h => List.mem_cons_of_mem _ (List.mem_append_right _ h)
set_option maxHeartbeats 4000000 in
set_option maxRecDepth 100000 in
theorem kX5_mend (l : Launch) (D : va_G) (y : Cy) (g : Nat → Nat) (N : Nat) (S : St) (x0 : Int32 × St) (h : fX5_mend N S = some x0) : KI l yX5_mend wsX5_mend rmX5_mend D vwCl (tz y) (wc y g) (AC g) [.ref (g 0)] S (fun r S2 => (r, S2) = x0) := by
  refine m_entryI (wc_ok y g) (by decide) rfl (Nat.le_of_ble_eq_true rfl) (lv := [(0, .ref (g 0))]) rfl h ?_
  intro p e s m args below meth c hC hr hlocks
  obtain ⟨Q, hQ⟩ : ∃ Q, Q = (MQ below (va_Qi (fun r S2 => (r, S2) = x0) (Bw D vwCl (tz y) (wc y g) (AC g s.heap.size)) (AC g s.heap.size)) args s 0 0 (AC g s.heap.size)) := ⟨_, rfl⟩
  rw [← hQ]
  have hret : ∀ (v : Int32) (S2 : St) (pc : Nat) (lv : List (Nat × Value)), decode cX5_mend pc = .ok (.ireturn, 1) → Sm p l e (headSpec wsX5_mend rmX5_mend).room s m args below meth c D vwCl (wc y g) (AC g s.heap.size) 1 Q x0 (some (v, S2)) S2 pc lv [.int v] := by
    rw [hQ]
    exact fun v S2 pc lv hd => m_iret hC hr hlocks hd
  clear hQ
  unfold fX5_mend
  refine m_aload_n hC dX5_mend_0 0 rfl ?_
  refine m_get hC iX5_mend_X5 (wc_0 y g S) rfl 2 (by decide) (List.mem_of_getElem? (i := 1) rfl) rfl rfl dX5_mend_1 ?_
  refine m_get hC iX5_mend_X1 (wc_13 y g S) rfl 10 (by decide) (List.mem_of_getElem? (i := 2) rfl) rfl rfl dX5_mend_4 ?_
  refine m_if_eq hC 20 dX5_mend_7 (by decide) ?_ ?_
  · refine m_iconst hC (-1) dX5_mend_20 (by decide) ?_
    exact hret _ _ _ _ dX5_mend_21
  · refine m_aload_n hC dX5_mend_10 0 rfl ?_
    refine m_get hC iX5_mend_X5 (wc_0 y g S) rfl 2 (by decide) (List.mem_of_getElem? (i := 1) rfl) rfl rfl dX5_mend_11 ?_
    refine m_cIV hC (As := []) (wc_ok y g) (cwV 0 hC.1.2.2.2.2 gX5_mend_X1_layAnew rfl rfl rfl (by decide +kernel) ⟨Nat.le_of_ble_eq_true rfl, Nat.le_of_ble_eq_true rfl⟩) (wc_13 y g S) rfl (fun xq hq => kX1_layAnew l D y g N S xq hq) rfl (Nat.le_of_ble_eq_true rfl) dX5_mend_14 ?_
    intro x1 S2
    refine m_goto hC 21 dX5_mend_17 (by decide) ?_
    exact hret _ _ _ _ dX5_mend_21
def fX5_over_L2 (a : Int32) (b : Int32) (S : St) (r2 : Int32 → Option (Int32)) : Int32 → Option (Int32) := fun x1 =>
  if x1 < (S.1 13 9) then
    ldI 144 (S.1 15) x1 fun x3 =>
    if x3 = a then
      ldI 144 (S.1 16) x1 fun x5 =>
      if b < x5 then
        nmI (x1 + 1) fun x6 =>
        r2 x6
      else
        caP (fX1_end x1 S) fun x7 =>
        if b < x7 then
          some x1
        else
          nmI (x1 + 1) fun x8 =>
          r2 x8
    else
      nmI (x1 + 1) fun x4 =>
      r2 x4
  else
    some (-1)
def fX5_over (N : Nat) (a : Int32) (b : Int32) (S : St) : Option (Int32) :=
  itN (fun _ => none) (fX5_over_L2 a b S) N 0
abbrev rmX5_over : Room := { frames := 1, cells := 0, slots := 0, locals := 21 }
theorem iX5_over_X5 : ∀ w ∈ wsX50, w ∈ wsX5_over := fun w h => List.mem_cons_of_mem _ (List.mem_append_left _ (List.mem_append_left _ (List.mem_append_right _ h)))
theorem iX5_over_X1 : ∀ w ∈ wsX10, w ∈ wsX5_over := fun w h => List.mem_cons_of_mem _ (List.mem_append_left _ (List.mem_append_right _ h))
theorem iX5_over_X4 : ∀ w ∈ wsX40, w ∈ wsX5_over := fun w h => List.mem_cons_of_mem _ (List.mem_append_right _ h)
set_option maxHeartbeats 4000000 in
set_option maxRecDepth 100000 in
theorem kX5_over (l : Launch) (D : va_G) (y : Cy) (g : Nat → Nat) (N : Nat) (a : Int32) (b : Int32) (S : St) (x0 : Int32) (h : fX5_over N a b S = some x0) : KI l yX5_over wsX5_over rmX5_over D vwCl (tz y) (wc y g) (AC g) [.ref (g 0), .int a, .int b] S (fun r S2 => r = x0 ∧ S2 = S) := by
  refine m_entryIP (wc_ok y g) (by decide) rfl (Nat.le_of_ble_eq_true rfl) (lv := [(0, .ref (g 0)), (1, .int a), (2, .int b)]) rfl h ?_
  intro p e s m args below meth c hC hr hlocks
  obtain ⟨Q, hQ⟩ : ∃ Q, Q = (MQ below (va_Qi (fun r S2 => r = x0 ∧ S2 = S) (Bw D vwCl (tz y) (wc y g) (AC g s.heap.size)) (AC g s.heap.size)) args s 0 0 (AC g s.heap.size)) := ⟨_, rfl⟩
  rw [← hQ]
  have hret : ∀ (v : Int32) (pc : Nat) (lv : List (Nat × Value)), decode cX5_over pc = .ok (.ireturn, 1) → Sm p l e (headSpec wsX5_over rmX5_over).room s m args below meth c D vwCl (wc y g) (AC g s.heap.size) 4 Q x0 (some v) S pc lv [.int v] := by
    rw [hQ]
    exact fun v pc lv hd => m_iretP hC hr hlocks hd
  clear hQ
  unfold fX5_over
  refine m_iconst hC (0) dX5_over_0 (by decide) ?_
  refine m_istore_n hC [(0, .ref (g 0)), (1, .int a), (2, .int b), (3, .int 0)] [1, 2, 3, 0] dX5_over_1 (by decide) rfl rfl ?_
  refine (m_it (z := (fun _ => none)) (F := fX5_over_L2 a b S) N (fun r2 => ∀ (x1 : Int32), Sm p l e (headSpec wsX5_over rmX5_over).room s m args below meth c D vwCl (wc y g) (AC g s.heap.size) 4 Q x0 (r2 x1) S 2 [(0, .ref (g 0)), (1, .int a), (2, .int b), (3, .int x1)] []) ?_ ?_) 0
  · exact fun _ => m_none
  · intro r2 hr2 x1
    unfold fX5_over_L2
    refine m_iload_n hC dX5_over_2 3 rfl ?_
    refine m_aload_n hC dX5_over_3 0 rfl ?_
    refine m_get hC iX5_over_X5 (wc_0 y g S) rfl 2 (by decide) (List.mem_of_getElem? (i := 1) rfl) rfl rfl dX5_over_4 ?_
    refine m_get hC iX5_over_X1 (wc_13 y g S) rfl 9 (by decide) (List.mem_of_getElem? (i := 2) rfl) rfl rfl dX5_over_7 ?_
    refine m_icmp_ge hC 59 dX5_over_10 (by decide) ?_ ?_
    · refine m_iconst hC (-1) dX5_over_59 (by decide) ?_
      exact hret _ _ _ dX5_over_60
    · refine m_aload_n hC dX5_over_13 0 rfl ?_
      refine m_get hC iX5_over_X5 (wc_0 y g S) rfl 2 (by decide) (List.mem_of_getElem? (i := 1) rfl) rfl rfl dX5_over_14 ?_
      refine m_get hC iX5_over_X1 (wc_13 y g S) rfl 3 (by decide) (List.mem_of_getElem? (i := 3) rfl) rfl rfl dX5_over_17 ?_
      refine m_iload_n hC dX5_over_20 3 rfl ?_
      refine m_iald hC (wc_15 y g S) (t0 := 0) rfl dX5_over_21 ?_
      intro x3
      refine m_iload_n hC dX5_over_22 1 rfl ?_
      refine m_icmp_ne hC 53 dX5_over_23 (by decide) ?_ ?_
      · refine m_iinc hC (fun x4 => [(0, .ref (g 0)), (1, .int a), (2, .int b), (3, .int x4)]) [1, 2, 3, 0] dX5_over_53 (j := 3) rfl (by decide) (by decide) (fun _ => rfl) (fun _ => rfl) ?_
        intro x4
        refine m_goto hC 2 dX5_over_56 (by decide) ?_
        exact hr2 _
      · refine m_iload_n hC dX5_over_26 2 rfl ?_
        refine m_aload_n hC dX5_over_27 0 rfl ?_
        refine m_get hC iX5_over_X5 (wc_0 y g S) rfl 2 (by decide) (List.mem_of_getElem? (i := 1) rfl) rfl rfl dX5_over_28 ?_
        refine m_get hC iX5_over_X1 (wc_13 y g S) rfl 4 (by decide) (List.mem_of_getElem? (i := 4) rfl) rfl rfl dX5_over_31 ?_
        refine m_iload_n hC dX5_over_34 3 rfl ?_
        refine m_iald hC (wc_16 y g S) (t0 := 0) rfl dX5_over_35 ?_
        intro x5
        refine m_icmp_lt hC 53 dX5_over_36 (by decide) ?_ ?_
        · refine m_iinc hC (fun x6 => [(0, .ref (g 0)), (1, .int a), (2, .int b), (3, .int x6)]) [1, 2, 3, 0] dX5_over_53 (j := 3) rfl (by decide) (by decide) (fun _ => rfl) (fun _ => rfl) ?_
          intro x6
          refine m_goto hC 2 dX5_over_56 (by decide) ?_
          exact hr2 _
        · refine m_iload_n hC dX5_over_39 2 rfl ?_
          refine m_aload_n hC dX5_over_40 0 rfl ?_
          refine m_get hC iX5_over_X5 (wc_0 y g S) rfl 2 (by decide) (List.mem_of_getElem? (i := 1) rfl) rfl rfl dX5_over_41 ?_
          refine m_iload_n hC dX5_over_44 3 rfl ?_
          refine m_cIPV hC (As := [.int x1]) (wc_ok y g) (cwV 1 hC.1.2.2.2.2 gX5_over_X1_end rfl rfl rfl (by decide +kernel) ⟨Nat.le_of_ble_eq_true rfl, Nat.le_of_ble_eq_true rfl⟩) (wc_13 y g S) rfl (fun xq hq => kX1_end l D y g x1 S xq hq) rfl (Nat.le_of_ble_eq_true rfl) dX5_over_45 ?_
          intro x7
          refine m_icmp_ge hC 53 dX5_over_48 (by decide) ?_ ?_
          · refine m_iinc hC (fun x8 => [(0, .ref (g 0)), (1, .int a), (2, .int b), (3, .int x8)]) [1, 2, 3, 0] dX5_over_53 (j := 3) rfl (by decide) (by decide) (fun _ => rfl) (fun _ => rfl) ?_
            intro x8
            refine m_goto hC 2 dX5_over_56 (by decide) ?_
            exact hr2 _
          · refine m_iload_n hC dX5_over_51 3 rfl ?_
            exact hret _ _ _ dX5_over_52
def fX5_plan (N : Nat) (S : St) : Option (Int32 × St) :=
  if (S.1 12 0) = 0 then
    some ((-1), S)
  else
    if (S.1 13 10) = 0 then
      caS (fX2_firstWhole N S) fun x1 S2 =>
      if x1 ≤ 0 then
        caV (fX1_forget S2) fun S4 =>
        some (x1, S4)
      else
        caV (fX0_rememberHeaps N S2) fun S3 =>
        some (x1, S3)
    else
      some ((-1), S)
abbrev rmX5_plan : Room := { frames := 5, cells := 0, slots := 0, locals := 107 }
theorem iX5_plan_X5 : ∀ w ∈ wsX50, w ∈ wsX5_plan := fun w h => List.mem_cons_of_mem _ (List.mem_append_left _ (List.mem_append_left _ (List.mem_append_left _ (List.mem_append_left _ (List.mem_append_left _ (List.mem_append_right _ h))))))
theorem iX5_plan_X3 : ∀ w ∈ wsX30, w ∈ wsX5_plan := fun w h => List.mem_cons_of_mem _ (List.mem_append_left _ (List.mem_append_left _ (List.mem_append_left _ (List.mem_append_left _ (List.mem_append_right _ h)))))
theorem iX5_plan_X1 : ∀ w ∈ wsX10, w ∈ wsX5_plan := fun w h => List.mem_cons_of_mem _ (List.mem_append_left _ (List.mem_append_left _ (List.mem_append_left _ (List.mem_append_right _ h))))
theorem iX5_plan_X2 : ∀ w ∈ wsX20, w ∈ wsX5_plan := fun w h => List.mem_cons_of_mem _ (List.mem_append_left _ (List.mem_append_left _ (List.mem_append_right _ h)))
theorem iX5_plan_X4 : ∀ w ∈ wsX40, w ∈ wsX5_plan := fun w h => List.mem_cons_of_mem _ (List.mem_append_left _ (List.mem_append_right _ h))
theorem iX5_plan_X0 : ∀ w ∈ wsX00, w ∈ wsX5_plan := fun w h => List.mem_cons_of_mem _ (List.mem_append_right _ h)
set_option maxHeartbeats 4000000 in
set_option maxRecDepth 100000 in
theorem kX5_plan (l : Launch) (D : va_G) (y : Cy) (g : Nat → Nat) (N : Nat) (S : St) (x0 : Int32 × St) (h : fX5_plan N S = some x0) : KI l yX5_plan wsX5_plan rmX5_plan D vwCl (tz y) (wc y g) (AC g) [.ref (g 0)] S (fun r S2 => (r, S2) = x0) := by
  refine m_entryI (wc_ok y g) (by decide) rfl (Nat.le_of_ble_eq_true rfl) (lv := [(0, .ref (g 0))]) rfl h ?_
  intro p e s m args below meth c hC hr hlocks
  obtain ⟨Q, hQ⟩ : ∃ Q, Q = (MQ below (va_Qi (fun r S2 => (r, S2) = x0) (Bw D vwCl (tz y) (wc y g) (AC g s.heap.size)) (AC g s.heap.size)) args s 0 0 (AC g s.heap.size)) := ⟨_, rfl⟩
  rw [← hQ]
  have hret : ∀ (v : Int32) (S2 : St) (pc : Nat) (lv : List (Nat × Value)), decode cX5_plan pc = .ok (.ireturn, 1) → Sm p l e (headSpec wsX5_plan rmX5_plan).room s m args below meth c D vwCl (wc y g) (AC g s.heap.size) 2 Q x0 (some (v, S2)) S2 pc lv [.int v] := by
    rw [hQ]
    exact fun v S2 pc lv hd => m_iret hC hr hlocks hd
  clear hQ
  unfold fX5_plan
  refine m_aload_n hC dX5_plan_0 0 rfl ?_
  refine m_get hC iX5_plan_X5 (wc_0 y g S) rfl 1 (by decide) (List.mem_of_getElem? (i := 1) rfl) rfl rfl dX5_plan_1 ?_
  refine m_get hC iX5_plan_X3 (wc_12 y g S) rfl 0 (by decide) (List.mem_of_getElem? (i := 2) rfl) rfl rfl dX5_plan_4 ?_
  refine m_if_eq hC 20 dX5_plan_7 (by decide) ?_ ?_
  · refine m_iconst hC (-1) dX5_plan_20 (by decide) ?_
    exact hret _ _ _ _ dX5_plan_21
  · refine m_aload_n hC dX5_plan_10 0 rfl ?_
    refine m_get hC iX5_plan_X5 (wc_0 y g S) rfl 2 (by decide) (List.mem_of_getElem? (i := 3) rfl) rfl rfl dX5_plan_11 ?_
    refine m_get hC iX5_plan_X1 (wc_13 y g S) rfl 10 (by decide) (List.mem_of_getElem? (i := 4) rfl) rfl rfl dX5_plan_14 ?_
    refine m_if_eq hC 22 dX5_plan_17 (by decide) ?_ ?_
    · refine m_aload_n hC dX5_plan_22 0 rfl ?_
      refine m_get hC iX5_plan_X5 (wc_0 y g S) rfl 3 (by decide) (List.mem_of_getElem? (i := 5) rfl) rfl rfl dX5_plan_23 ?_
      refine m_cIV hC (As := []) (wc_ok y g) (cwV 0 hC.1.2.2.2.2 gX5_plan_X2_firstWhole rfl rfl rfl (by decide +kernel) ⟨Nat.le_of_ble_eq_true rfl, Nat.le_of_ble_eq_true rfl⟩) (wc_21 y g S) rfl (fun xq hq => kX2_firstWhole l D y g N S xq hq) rfl (Nat.le_of_ble_eq_true rfl) dX5_plan_26 ?_
      intro x1 S2
      refine m_istore_n hC [(0, .ref (g 0)), (1, .int x1)] [1, 0] dX5_plan_29 (by decide) rfl rfl ?_
      refine m_iload_n hC dX5_plan_30 1 rfl ?_
      refine m_if_gt hC 44 dX5_plan_31 (by decide) ?_ ?_
      · refine m_aload_n hC dX5_plan_44 0 rfl ?_
        refine m_get hC iX5_plan_X5 (wc_0 y g S2) rfl 4 (by decide) (List.mem_of_getElem? (i := 6) rfl) rfl rfl dX5_plan_45 ?_
        refine m_cVV hC (As := []) (wc_ok y g) (cwV 0 hC.1.2.2.2.2 gX5_plan_X0_rememberHeaps rfl rfl rfl (by decide +kernel) ⟨Nat.le_of_ble_eq_true rfl, Nat.le_of_ble_eq_true rfl⟩) (wc_24 y g S2) rfl (fun xq hq => kX0_rememberHeaps l D y g N S2 xq hq) rfl (Nat.le_of_ble_eq_true rfl) dX5_plan_48 ?_
        intro S3
        refine m_iload_n hC dX5_plan_51 1 rfl ?_
        exact hret _ _ _ _ dX5_plan_52
      · refine m_aload_n hC dX5_plan_34 0 rfl ?_
        refine m_get hC iX5_plan_X5 (wc_0 y g S2) rfl 2 (by decide) (List.mem_of_getElem? (i := 3) rfl) rfl rfl dX5_plan_35 ?_
        refine m_cVV hC (As := []) (wc_ok y g) (cwV 0 hC.1.2.2.2.2 gX5_plan_X1_forget rfl rfl rfl (by decide +kernel) ⟨Nat.le_of_ble_eq_true rfl, Nat.le_of_ble_eq_true rfl⟩) (wc_13 y g S2) rfl (fun xq hq => kX1_forget l D y g S2 xq hq) rfl (Nat.le_of_ble_eq_true rfl) dX5_plan_38 ?_
        intro S4
        refine m_goto hC 51 dX5_plan_41 (by decide) ?_
        refine m_iload_n hC dX5_plan_51 1 rfl ?_
        exact hret _ _ _ _ dX5_plan_52
    · refine m_iconst hC (-1) dX5_plan_20 (by decide) ?_
      exact hret _ _ _ _ dX5_plan_21
def fX5_saved (N : Nat) (a : Int32) (b : Int32) (S : St) : Option (Int64 × St) :=
  if (S.1 13 9) = 0 then
    some ((-1), S)
  else
    caP (fX4_hasHeap a S) fun x1 =>
    if x1 = 0 then
      some ((-1), S)
    else
      caP (fX4_hasKind b S) fun x2 =>
      if x2 = 0 then
        some ((-1), S)
      else
        caS (fX0_toilSaved N a b S) fun x3 S4 =>
        some (x3, S4)
abbrev rmX5_saved : Room := { frames := 7, cells := 0, slots := 0, locals := 159 }
theorem iX5_saved_X5 : ∀ w ∈ wsX50, w ∈ wsX5_saved := fun w h => List.mem_cons_of_mem _ (List.mem_append_left _ (List.mem_append_left _ (List.mem_append_left _ (List.mem_append_left _ (List.mem_append_right _ h)))))
theorem iX5_saved_X1 : ∀ w ∈ wsX10, w ∈ wsX5_saved := fun w h => List.mem_cons_of_mem _ (List.mem_append_left _ (List.mem_append_left _ (List.mem_append_left _ (List.mem_append_right _ h))))
theorem iX5_saved_X4 : ∀ w ∈ wsX40, w ∈ wsX5_saved := fun w h => List.mem_cons_of_mem _ (List.mem_append_left _ (List.mem_append_left _ (List.mem_append_right _ h)))
theorem iX5_saved_X0 : ∀ w ∈ wsX00, w ∈ wsX5_saved := fun w h => List.mem_cons_of_mem _ (List.mem_append_left _ (List.mem_append_right _ h))
theorem iX5_saved_X3 : ∀ w ∈ wsX30, w ∈ wsX5_saved := fun w h => List.mem_cons_of_mem _ (List.mem_append_right _ h)
set_option maxHeartbeats 4000000 in
set_option maxRecDepth 100000 in
theorem kX5_saved (l : Launch) (D : va_G) (y : Cy) (g : Nat → Nat) (N : Nat) (a : Int32) (b : Int32) (S : St) (x0 : Int64 × St) (h : fX5_saved N a b S = some x0) : KL l yX5_saved wsX5_saved rmX5_saved D vwCl (tz y) (wc y g) (AC g) [.ref (g 0), .int a, .int b] S (fun r S2 => (r, S2) = x0) := by
  refine m_entryL (wc_ok y g) (by decide) rfl (Nat.le_of_ble_eq_true rfl) (lv := [(0, .ref (g 0)), (1, .int a), (2, .int b)]) rfl h ?_
  intro p e s m args below meth c hC hr hlocks
  obtain ⟨Q, hQ⟩ : ∃ Q, Q = (MQ below (va_Ql (fun r S2 => (r, S2) = x0) (Bw D vwCl (tz y) (wc y g) (AC g s.heap.size)) (AC g s.heap.size)) args s 0 0 (AC g s.heap.size)) := ⟨_, rfl⟩
  rw [← hQ]
  have hret : ∀ (v : Int64) (S2 : St) (pc : Nat) (lv : List (Nat × Value)), decode cX5_saved pc = .ok (.lreturn, 1) → Sm p l e (headSpec wsX5_saved rmX5_saved).room s m args below meth c D vwCl (wc y g) (AC g s.heap.size) 3 Q x0 (some (v, S2)) S2 pc lv [.long v] := by
    rw [hQ]
    exact fun v S2 pc lv hd => m_lret hC hr hlocks hd
  clear hQ
  unfold fX5_saved
  refine m_aload_n hC dX5_saved_0 0 rfl ?_
  refine m_get hC iX5_saved_X5 (wc_0 y g S) rfl 2 (by decide) (List.mem_of_getElem? (i := 1) rfl) rfl rfl dX5_saved_1 ?_
  refine m_get hC iX5_saved_X1 (wc_13 y g S) rfl 9 (by decide) (List.mem_of_getElem? (i := 2) rfl) rfl rfl dX5_saved_4 ?_
  refine m_if_eq hC 32 dX5_saved_7 (by decide) ?_ ?_
  · refine m_ldc2 hC (List.mem_of_getElem? (i := 4) rfl) dX5_saved_32 ?_
    exact hret _ _ _ _ dX5_saved_35
  · refine m_aload_n hC dX5_saved_10 0 rfl ?_
    refine m_get hC iX5_saved_X5 (wc_0 y g S) rfl 0 (by decide) (List.mem_of_getElem? (i := 3) rfl) rfl rfl dX5_saved_11 ?_
    refine m_iload_n hC dX5_saved_14 1 rfl ?_
    refine m_cIPV hC (As := [.int a]) (wc_ok y g) (cwV 1 hC.1.2.2.2.2 gX5_saved_X4_hasHeap rfl rfl rfl (by decide +kernel) ⟨Nat.le_of_ble_eq_true rfl, Nat.le_of_ble_eq_true rfl⟩) (wc_1 y g S) rfl (fun xq hq => kX4_hasHeap l D y g a S xq hq) rfl (Nat.le_of_ble_eq_true rfl) dX5_saved_15 ?_
    intro x1
    refine m_if_eq hC 32 dX5_saved_18 (by decide) ?_ ?_
    · refine m_ldc2 hC (List.mem_of_getElem? (i := 4) rfl) dX5_saved_32 ?_
      exact hret _ _ _ _ dX5_saved_35
    · refine m_aload_n hC dX5_saved_21 0 rfl ?_
      refine m_get hC iX5_saved_X5 (wc_0 y g S) rfl 0 (by decide) (List.mem_of_getElem? (i := 3) rfl) rfl rfl dX5_saved_22 ?_
      refine m_iload_n hC dX5_saved_25 2 rfl ?_
      refine m_cIPV hC (As := [.int b]) (wc_ok y g) (cwV 1 hC.1.2.2.2.2 gX5_saved_X4_hasKind rfl rfl rfl (by decide +kernel) ⟨Nat.le_of_ble_eq_true rfl, Nat.le_of_ble_eq_true rfl⟩) (wc_1 y g S) rfl (fun xq hq => kX4_hasKind l D y g b S xq hq) rfl (Nat.le_of_ble_eq_true rfl) dX5_saved_26 ?_
      intro x2
      refine m_if_ne hC 36 dX5_saved_29 (by decide) ?_ ?_
      · refine m_aload_n hC dX5_saved_36 0 rfl ?_
        refine m_get hC iX5_saved_X5 (wc_0 y g S) rfl 4 (by decide) (List.mem_of_getElem? (i := 5) rfl) rfl rfl dX5_saved_37 ?_
        refine m_iload_n hC dX5_saved_40 1 rfl ?_
        refine m_iload_n hC dX5_saved_41 2 rfl ?_
        refine m_cLV hC (As := [.int a, .int b]) (wc_ok y g) (cwV 2 hC.1.2.2.2.2 gX5_saved_X0_toilSaved rfl rfl rfl (by decide +kernel) ⟨Nat.le_of_ble_eq_true rfl, Nat.le_of_ble_eq_true rfl⟩) (wc_24 y g S) rfl (fun xq hq => kX0_toilSaved l D y g N a b S xq hq) rfl (Nat.le_of_ble_eq_true rfl) dX5_saved_42 ?_
        intro x3 S4
        exact hret _ _ _ _ dX5_saved_45
      · refine m_ldc2 hC (List.mem_of_getElem? (i := 4) rfl) dX5_saved_32 ?_
        exact hret _ _ _ _ dX5_saved_35
def fX5_stones (a : Int32) (b : Int32) (c2 : Int32) (S : St) : Option (Int32 × St) :=
  if (S.1 13 10) = 0 then
    caP (fX4_hasHeap a S) fun x1 =>
    if x1 = 0 then
      some (0, S)
    else
      caP (fX4_hasKind b S) fun x2 =>
      if x2 = 0 then
        some (0, S)
      else
        caP (fX5_within c2 0 60) fun x3 =>
        if x3 = 0 then
          some (0, S)
        else
          caV (fX1_forget S) fun S4 =>
          ldR 5 a fun j5 =>
          stI S4 (7 + j5) 8 b c2 fun S6 =>
          some (1, S6)
  else
    some (0, S)
abbrev rmX5_stones : Room := { frames := 1, cells := 0, slots := 0, locals := 22 }
theorem iX5_stones_X5 : ∀ w ∈ wsX50, w ∈ wsX5_stones := fun w h => List.mem_cons_of_mem _ (List.mem_append_left _ (List.mem_append_left _ (List.mem_append_right _ h)))
theorem iX5_stones_X1 : ∀ w ∈ wsX10, w ∈ wsX5_stones := fun w h => List.mem_cons_of_mem _ (List.mem_append_left _ (List.mem_append_right _ h))
theorem iX5_stones_X4 : ∀ w ∈ wsX40, w ∈ wsX5_stones := fun w h => List.mem_cons_of_mem _ (List.mem_append_right _ h)
set_option maxHeartbeats 4000000 in
set_option maxRecDepth 100000 in
theorem kX5_stones (l : Launch) (D : va_G) (y : Cy) (g : Nat → Nat) (a : Int32) (b : Int32) (c2 : Int32) (S : St) (x0 : Int32 × St) (h : fX5_stones a b c2 S = some x0) : KI l yX5_stones wsX5_stones rmX5_stones D vwCl (tz y) (wc y g) (AC g) [.ref (g 0), .int a, .int b, .int c2] S (fun r S2 => (r, S2) = x0) := by
  refine m_entryI (wc_ok y g) (by decide) rfl (Nat.le_of_ble_eq_true rfl) (lv := [(0, .ref (g 0)), (1, .int a), (2, .int b), (3, .int c2)]) rfl h ?_
  intro p e s m args below meth c hC hr hlocks
  obtain ⟨Q, hQ⟩ : ∃ Q, Q = (MQ below (va_Qi (fun r S2 => (r, S2) = x0) (Bw D vwCl (tz y) (wc y g) (AC g s.heap.size)) (AC g s.heap.size)) args s 0 0 (AC g s.heap.size)) := ⟨_, rfl⟩
  rw [← hQ]
  have hret : ∀ (v : Int32) (S2 : St) (pc : Nat) (lv : List (Nat × Value)), decode cX5_stones pc = .ok (.ireturn, 1) → narrow .boolean (.int v) = .int v → Sm p l e (headSpec wsX5_stones rmX5_stones).room s m args below meth c D vwCl (wc y g) (AC g s.heap.size) 4 Q x0 (some (v, S2)) S2 pc lv [.int v] := by
    rw [hQ]
    exact fun v S2 pc lv hd hz => m_zret hC hz hr hlocks hd
  clear hQ
  unfold fX5_stones
  refine m_aload_n hC dX5_stones_0 0 rfl ?_
  refine m_get hC iX5_stones_X5 (wc_0 y g S) rfl 2 (by decide) (List.mem_of_getElem? (i := 1) rfl) rfl rfl dX5_stones_1 ?_
  refine m_get hC iX5_stones_X1 (wc_13 y g S) rfl 10 (by decide) (List.mem_of_getElem? (i := 2) rfl) rfl rfl dX5_stones_4 ?_
  refine m_if_ne hC 42 dX5_stones_7 (by decide) ?_ ?_
  · refine m_iconst hC (0) dX5_stones_42 (by decide) ?_
    exact hret _ _ _ _ dX5_stones_43 rfl
  · refine m_aload_n hC dX5_stones_10 0 rfl ?_
    refine m_get hC iX5_stones_X5 (wc_0 y g S) rfl 0 (by decide) (List.mem_of_getElem? (i := 3) rfl) rfl rfl dX5_stones_11 ?_
    refine m_iload_n hC dX5_stones_14 1 rfl ?_
    refine m_cIPV hC (As := [.int a]) (wc_ok y g) (cwV 1 hC.1.2.2.2.2 gX5_stones_X4_hasHeap rfl rfl rfl (by decide +kernel) ⟨Nat.le_of_ble_eq_true rfl, Nat.le_of_ble_eq_true rfl⟩) (wc_1 y g S) rfl (fun xq hq => kX4_hasHeap l D y g a S xq hq) rfl (Nat.le_of_ble_eq_true rfl) dX5_stones_15 ?_
    intro x1
    refine m_if_eq hC 42 dX5_stones_18 (by decide) ?_ ?_
    · refine m_iconst hC (0) dX5_stones_42 (by decide) ?_
      exact hret _ _ _ _ dX5_stones_43 rfl
    · refine m_aload_n hC dX5_stones_21 0 rfl ?_
      refine m_get hC iX5_stones_X5 (wc_0 y g S) rfl 0 (by decide) (List.mem_of_getElem? (i := 3) rfl) rfl rfl dX5_stones_22 ?_
      refine m_iload_n hC dX5_stones_25 2 rfl ?_
      refine m_cIPV hC (As := [.int b]) (wc_ok y g) (cwV 1 hC.1.2.2.2.2 gX5_stones_X4_hasKind rfl rfl rfl (by decide +kernel) ⟨Nat.le_of_ble_eq_true rfl, Nat.le_of_ble_eq_true rfl⟩) (wc_1 y g S) rfl (fun xq hq => kX4_hasKind l D y g b S xq hq) rfl (Nat.le_of_ble_eq_true rfl) dX5_stones_26 ?_
      intro x2
      refine m_if_eq hC 42 dX5_stones_29 (by decide) ?_ ?_
      · refine m_iconst hC (0) dX5_stones_42 (by decide) ?_
        exact hret _ _ _ _ dX5_stones_43 rfl
      · refine m_iload_n hC dX5_stones_32 3 rfl ?_
        refine m_iconst hC (0) dX5_stones_33 (by decide) ?_
        refine m_bipush hC (60) dX5_stones_34 (by decide) ?_
        refine m_cIPS hC (As := [.int c2, .int 0, .int 60]) (wc_ok y g) (va_cwS 3 hC.1.2.2.2.2 gX5_stones_X5_within rfl rfl rfl (by decide +kernel) ⟨Nat.le_of_ble_eq_true rfl, Nat.le_of_ble_eq_true rfl⟩) (fun xq hq => kX5_within l D y g c2 0 60 S xq hq) rfl (Nat.le_of_ble_eq_true rfl) dX5_stones_36 ?_
        intro x3
        refine m_if_ne hC 44 dX5_stones_39 (by decide) ?_ ?_
        · refine m_aload_n hC dX5_stones_44 0 rfl ?_
          refine m_get hC iX5_stones_X5 (wc_0 y g S) rfl 2 (by decide) (List.mem_of_getElem? (i := 1) rfl) rfl rfl dX5_stones_45 ?_
          refine m_cVV hC (As := []) (wc_ok y g) (cwV 0 hC.1.2.2.2.2 gX5_stones_X1_forget rfl rfl rfl (by decide +kernel) ⟨Nat.le_of_ble_eq_true rfl, Nat.le_of_ble_eq_true rfl⟩) (wc_13 y g S) rfl (fun xq hq => kX1_forget l D y g S xq hq) rfl (Nat.le_of_ble_eq_true rfl) dX5_stones_48 ?_
          intro S4
          refine m_aload_n hC dX5_stones_51 0 rfl ?_
          refine m_get hC iX5_stones_X5 (wc_0 y g S4) rfl 0 (by decide) (List.mem_of_getElem? (i := 3) rfl) rfl rfl dX5_stones_52 ?_
          refine m_get hC iX5_stones_X4 (wc_1 y g S4) rfl 4 (by decide) (List.mem_of_getElem? (i := 4) rfl) rfl rfl dX5_stones_55 ?_
          refine m_iload_n hC dX5_stones_58 1 rfl ?_
          refine m_aald hC (wc_6 y g S4) (t0 := 2) rfl (rows_at g 7 5) dX5_stones_59 ?_
          intro j5 hj5
          refine m_iload_n hC dX5_stones_60 2 rfl ?_
          refine m_iload_n hC dX5_stones_61 3 rfl ?_
          refine m_iast hC (wc_r7 y g S4 j5 hj5) (t0 := 0) rfl (wcs_r7 y g S4 j5 hj5) dX5_stones_62 ?_
          intro S6
          refine m_iconst hC (1) dX5_stones_63 (by decide) ?_
          exact hret _ _ _ _ dX5_stones_64 rfl
        · refine m_iconst hC (0) dX5_stones_42 (by decide) ?_
          exact hret _ _ _ _ dX5_stones_43 rfl
def fX5_take_L71 (N : Nat) (a : Int32) (K8 : St → Option (Int32 × St)) (r7 : Int32 → St → Option (Int32 × St)) : Int32 → St → Option (Int32 × St) := fun x5 S6 =>
  if x5 < (S6.1 1 5) then
    ldR 5 a fun j12 =>
    ldI 8 (S6.1 (7 + j12)) x5 fun x13 =>
    caP (fX1_number N x5 S6) fun x14 =>
    stI S6 (7 + j12) 8 x5 (x13 + x14) fun S15 =>
    nmI (x5 + 1) fun x16 =>
    r7 x16 S15
  else
    K8 S6
def fX5_take_L25 (N : Nat) (a : Int32) (S : St) (K4 : Option (Int32 × St)) (r3 : Int32 → Option (Int32 × St)) : Int32 → Option (Int32 × St) := fun x2 =>
  if x2 < (S.1 1 5) then
    ldR 5 a fun j17 =>
    ldI 8 (S.1 (7 + j17)) x2 fun x18 =>
    caP (fX1_number N x2 S) fun x19 =>
    if (x18 + x19) ≤ 60 then
      nmI (x2 + 1) fun x20 =>
      r3 x20
    else
      some ((-1), S)
  else
    K4
def fX5_take (N : Nat) (a : Int32) (S : St) : Option (Int32 × St) :=
  if (S.1 13 10) = 0 then
    some ((-1), S)
  else
    caP (fX4_hasHeap a S) fun x1 =>
    if x1 = 0 then
      some ((-1), S)
    else
      itN (fun _ => none) (fX5_take_L25 N a S (
          itN (fun _ _ => none) (fX5_take_L71 N a (fun (S9 : St) =>
              nmI (S9.1 13 9) fun x10 =>
              caV (fX1_forget S9) fun S11 =>
              some (x10, S11))) N 0 S)) N 0
abbrev rmX5_take : Room := { frames := 1, cells := 0, slots := 0, locals := 23 }
theorem iX5_take_X5 : ∀ w ∈ wsX50, w ∈ wsX5_take := fun w h => List.mem_cons_of_mem _ (List.mem_append_left _ (List.mem_append_left _ (List.mem_append_right _ h)))
theorem iX5_take_X1 : ∀ w ∈ wsX10, w ∈ wsX5_take := fun w h => List.mem_cons_of_mem _ (List.mem_append_left _ (List.mem_append_right _ h))
theorem iX5_take_X4 : ∀ w ∈ wsX40, w ∈ wsX5_take := fun w h => List.mem_cons_of_mem _ (List.mem_append_right _ h)
set_option maxHeartbeats 4000000 in
set_option maxRecDepth 100000 in
theorem kX5_take (l : Launch) (D : va_G) (y : Cy) (g : Nat → Nat) (N : Nat) (a : Int32) (S : St) (x0 : Int32 × St) (h : fX5_take N a S = some x0) : KI l yX5_take wsX5_take rmX5_take D vwCl (tz y) (wc y g) (AC g) [.ref (g 0), .int a] S (fun r S2 => (r, S2) = x0) := by
  refine m_entryI (wc_ok y g) (by decide) rfl (Nat.le_of_ble_eq_true rfl) (lv := [(0, .ref (g 0)), (1, .int a)]) rfl h ?_
  intro p e s m args below meth c hC hr hlocks
  obtain ⟨Q, hQ⟩ : ∃ Q, Q = (MQ below (va_Qi (fun r S2 => (r, S2) = x0) (Bw D vwCl (tz y) (wc y g) (AC g s.heap.size)) (AC g s.heap.size)) args s 0 0 (AC g s.heap.size)) := ⟨_, rfl⟩
  rw [← hQ]
  have hret : ∀ (v : Int32) (S2 : St) (pc : Nat) (lv : List (Nat × Value)), decode cX5_take pc = .ok (.ireturn, 1) → Sm p l e (headSpec wsX5_take rmX5_take).room s m args below meth c D vwCl (wc y g) (AC g s.heap.size) 3 Q x0 (some (v, S2)) S2 pc lv [.int v] := by
    rw [hQ]
    exact fun v S2 pc lv hd => m_iret hC hr hlocks hd
  clear hQ
  unfold fX5_take
  refine m_aload_n hC dX5_take_0 0 rfl ?_
  refine m_get hC iX5_take_X5 (wc_0 y g S) rfl 2 (by decide) (List.mem_of_getElem? (i := 1) rfl) rfl rfl dX5_take_1 ?_
  refine m_get hC iX5_take_X1 (wc_13 y g S) rfl 10 (by decide) (List.mem_of_getElem? (i := 2) rfl) rfl rfl dX5_take_4 ?_
  refine m_if_eq hC 21 dX5_take_7 (by decide) ?_ ?_
  · refine m_iconst hC (-1) dX5_take_21 (by decide) ?_
    exact hret _ _ _ _ dX5_take_22
  · refine m_aload_n hC dX5_take_10 0 rfl ?_
    refine m_get hC iX5_take_X5 (wc_0 y g S) rfl 0 (by decide) (List.mem_of_getElem? (i := 3) rfl) rfl rfl dX5_take_11 ?_
    refine m_iload_n hC dX5_take_14 1 rfl ?_
    refine m_cIPV hC (As := [.int a]) (wc_ok y g) (cwV 1 hC.1.2.2.2.2 gX5_take_X4_hasHeap rfl rfl rfl (by decide +kernel) ⟨Nat.le_of_ble_eq_true rfl, Nat.le_of_ble_eq_true rfl⟩) (wc_1 y g S) rfl (fun xq hq => kX4_hasHeap l D y g a S xq hq) rfl (Nat.le_of_ble_eq_true rfl) dX5_take_15 ?_
    intro x1
    refine m_if_ne hC 23 dX5_take_18 (by decide) ?_ ?_
    · refine m_iconst hC (0) dX5_take_23 (by decide) ?_
      refine m_istore_n hC [(0, .ref (g 0)), (1, .int a), (2, .int 0)] [1, 2, 0] dX5_take_24 (by decide) rfl rfl ?_
      refine (m_itK (z := (fun _ => none)) (F := fX5_take_L25 N a S) N (fun K4 => Sm p l e (headSpec wsX5_take rmX5_take).room s m args below meth c D vwCl (wc y g) (AC g s.heap.size) 3 Q x0 (K4) S 69 [(0, .ref (g 0)), (1, .int a)] []) (fun r3 => ∀ (x2 : Int32), Sm p l e (headSpec wsX5_take rmX5_take).room s m args below meth c D vwCl (wc y g) (AC g s.heap.size) 3 Q x0 (r3 x2) S 25 [(0, .ref (g 0)), (1, .int a), (2, .int x2)] []) ?_ ?_ ?_) 0
      · exact fun _ => m_none
      · refine m_iconst hC (0) dX5_take_69 (by decide) ?_
        refine m_istore_n hC [(0, .ref (g 0)), (1, .int a), (2, .int 0)] [1, 2, 0] dX5_take_70 (by decide) rfl rfl ?_
        refine (m_itK (z := (fun _ _ => none)) (F := fX5_take_L71 N a) N (fun K8 => ∀ (S9 : St), Sm p l e (headSpec wsX5_take rmX5_take).room s m args below meth c D vwCl (wc y g) (AC g s.heap.size) 3 Q x0 (K8 S9) S9 110 [(0, .ref (g 0))] []) (fun r7 => ∀ (x5 : Int32) (S6 : St), Sm p l e (headSpec wsX5_take rmX5_take).room s m args below meth c D vwCl (wc y g) (AC g s.heap.size) 3 Q x0 (r7 x5 S6) S6 71 [(0, .ref (g 0)), (1, .int a), (2, .int x5)] []) ?_ ?_ ?_) 0 S
        · exact fun _ _ => m_none
        · intro S9
          refine m_aload_n hC dX5_take_110 0 rfl ?_
          refine m_get hC iX5_take_X5 (wc_0 y g S9) rfl 2 (by decide) (List.mem_of_getElem? (i := 1) rfl) rfl rfl dX5_take_111 ?_
          refine m_get hC iX5_take_X1 (wc_13 y g S9) rfl 9 (by decide) (List.mem_of_getElem? (i := 6) rfl) rfl rfl dX5_take_114 ?_
          refine m_nmI ?_
          intro x10
          refine m_istore_n hC [(0, .ref (g 0)), (2, .int x10)] [1, 0] dX5_take_117 (by decide) rfl rfl ?_
          refine m_aload_n hC dX5_take_118 0 rfl ?_
          refine m_get hC iX5_take_X5 (wc_0 y g S9) rfl 2 (by decide) (List.mem_of_getElem? (i := 1) rfl) rfl rfl dX5_take_119 ?_
          refine m_cVV hC (As := []) (wc_ok y g) (cwV 0 hC.1.2.2.2.2 gX5_take_X1_forget rfl rfl rfl (by decide +kernel) ⟨Nat.le_of_ble_eq_true rfl, Nat.le_of_ble_eq_true rfl⟩) (wc_13 y g S9) rfl (fun xq hq => kX1_forget l D y g S9 xq hq) rfl (Nat.le_of_ble_eq_true rfl) dX5_take_122 ?_
          intro S11
          refine m_iload_n hC dX5_take_125 1 rfl ?_
          exact hret _ _ _ _ dX5_take_126
        · intro K8 hK8 r7 hr7 x5 S6
          unfold fX5_take_L71
          refine m_iload_n hC dX5_take_71 2 rfl ?_
          refine m_aload_n hC dX5_take_72 0 rfl ?_
          refine m_get hC iX5_take_X5 (wc_0 y g S6) rfl 0 (by decide) (List.mem_of_getElem? (i := 3) rfl) rfl rfl dX5_take_73 ?_
          refine m_get hC iX5_take_X4 (wc_1 y g S6) rfl 5 (by decide) (List.mem_of_getElem? (i := 4) rfl) rfl rfl dX5_take_76 ?_
          refine m_icmp_ge hC 110 dX5_take_79 (by decide) ?_ ?_
          · refine m_lv [(0, .ref (g 0))] [0] rfl ?_
            exact hK8 _
          · refine m_aload_n hC dX5_take_82 0 rfl ?_
            refine m_get hC iX5_take_X5 (wc_0 y g S6) rfl 0 (by decide) (List.mem_of_getElem? (i := 3) rfl) rfl rfl dX5_take_83 ?_
            refine m_get hC iX5_take_X4 (wc_1 y g S6) rfl 4 (by decide) (List.mem_of_getElem? (i := 5) rfl) rfl rfl dX5_take_86 ?_
            refine m_iload_n hC dX5_take_89 1 rfl ?_
            refine m_aald hC (wc_6 y g S6) (t0 := 2) rfl (rows_at g 7 5) dX5_take_90 ?_
            intro j12 hj12
            refine m_iload_n hC dX5_take_91 2 rfl ?_
            refine m_dup2 hC dX5_take_92 rfl rfl ?_
            refine m_iald hC (wc_r7 y g S6 j12 hj12) (t0 := 0) rfl dX5_take_93 ?_
            intro x13
            refine m_aload_n hC dX5_take_94 0 rfl ?_
            refine m_get hC iX5_take_X5 (wc_0 y g S6) rfl 2 (by decide) (List.mem_of_getElem? (i := 1) rfl) rfl rfl dX5_take_95 ?_
            refine m_iload_n hC dX5_take_98 2 rfl ?_
            refine m_cIPV hC (As := [.int x5]) (wc_ok y g) (cwV 1 hC.1.2.2.2.2 gX5_take_X1_number rfl rfl rfl (by decide +kernel) ⟨Nat.le_of_ble_eq_true rfl, Nat.le_of_ble_eq_true rfl⟩) (wc_13 y g S6) rfl (fun xq hq => kX1_number l D y g N x5 S6 xq hq) rfl (Nat.le_of_ble_eq_true rfl) dX5_take_99 ?_
            intro x14
            refine m_iadd hC dX5_take_102 ?_
            refine m_iast hC (wc_r7 y g S6 j12 hj12) (t0 := 0) rfl (wcs_r7 y g S6 j12 hj12) dX5_take_103 ?_
            intro S15
            refine m_iinc hC (fun x16 => [(0, .ref (g 0)), (1, .int a), (2, .int x16)]) [1, 2, 0] dX5_take_104 (j := 2) rfl (by decide) (by decide) (fun _ => rfl) (fun _ => rfl) ?_
            intro x16
            refine m_goto hC 71 dX5_take_107 (by decide) ?_
            exact hr7 _ _
      · intro K4 hK4 r3 hr3 x2
        unfold fX5_take_L25
        refine m_iload_n hC dX5_take_25 2 rfl ?_
        refine m_aload_n hC dX5_take_26 0 rfl ?_
        refine m_get hC iX5_take_X5 (wc_0 y g S) rfl 0 (by decide) (List.mem_of_getElem? (i := 3) rfl) rfl rfl dX5_take_27 ?_
        refine m_get hC iX5_take_X4 (wc_1 y g S) rfl 5 (by decide) (List.mem_of_getElem? (i := 4) rfl) rfl rfl dX5_take_30 ?_
        refine m_icmp_ge hC 69 dX5_take_33 (by decide) ?_ ?_
        · refine m_lv [(0, .ref (g 0)), (1, .int a)] [0, 1] rfl ?_
          exact hK4
        · refine m_aload_n hC dX5_take_36 0 rfl ?_
          refine m_get hC iX5_take_X5 (wc_0 y g S) rfl 0 (by decide) (List.mem_of_getElem? (i := 3) rfl) rfl rfl dX5_take_37 ?_
          refine m_get hC iX5_take_X4 (wc_1 y g S) rfl 4 (by decide) (List.mem_of_getElem? (i := 5) rfl) rfl rfl dX5_take_40 ?_
          refine m_iload_n hC dX5_take_43 1 rfl ?_
          refine m_aald hC (wc_6 y g S) (t0 := 2) rfl (rows_at g 7 5) dX5_take_44 ?_
          intro j17 hj17
          refine m_iload_n hC dX5_take_45 2 rfl ?_
          refine m_iald hC (wc_r7 y g S j17 hj17) (t0 := 0) rfl dX5_take_46 ?_
          intro x18
          refine m_aload_n hC dX5_take_47 0 rfl ?_
          refine m_get hC iX5_take_X5 (wc_0 y g S) rfl 2 (by decide) (List.mem_of_getElem? (i := 1) rfl) rfl rfl dX5_take_48 ?_
          refine m_iload_n hC dX5_take_51 2 rfl ?_
          refine m_cIPV hC (As := [.int x2]) (wc_ok y g) (cwV 1 hC.1.2.2.2.2 gX5_take_X1_number rfl rfl rfl (by decide +kernel) ⟨Nat.le_of_ble_eq_true rfl, Nat.le_of_ble_eq_true rfl⟩) (wc_13 y g S) rfl (fun xq hq => kX1_number l D y g N x2 S xq hq) rfl (Nat.le_of_ble_eq_true rfl) dX5_take_52 ?_
          intro x19
          refine m_iadd hC dX5_take_55 ?_
          refine m_bipush hC (60) dX5_take_56 (by decide) ?_
          refine m_icmp_le hC 63 dX5_take_58 (by decide) ?_ ?_
          · refine m_iinc hC (fun x20 => [(0, .ref (g 0)), (1, .int a), (2, .int x20)]) [1, 2, 0] dX5_take_63 (j := 2) rfl (by decide) (by decide) (fun _ => rfl) (fun _ => rfl) ?_
            intro x20
            refine m_goto hC 25 dX5_take_66 (by decide) ?_
            exact hr3 _
          · refine m_iconst hC (-1) dX5_take_61 (by decide) ?_
            exact hret _ _ _ _ dX5_take_62
    · refine m_iconst hC (-1) dX5_take_21 (by decide) ?_
      exact hret _ _ _ _ dX5_take_22
def fX5_through (a : Int32) (b : Int32) (S : St) : Option (Int32 × St) :=
  if (S.1 12 0) = 0 then
    some (0, S)
  else
    if (S.1 13 10) = 0 then
      caP (fX5_within a 0 ((1 <<< ((S.1 12 4) &&& 31)) - 1)) fun x1 =>
      if x1 = 0 then
        some (0, S)
      else
        caP (fX5_within b 0 3) fun x2 =>
        if x2 = 0 then
          some (0, S)
        else
          caV (fX1_forget S) fun S3 =>
          pfI S3 12 7 a fun S4 =>
          pfI S4 12 8 b fun S5 =>
          some (1, S5)
    else
      some (0, S)
abbrev rmX5_through : Room := { frames := 1, cells := 0, slots := 0, locals := 22 }
theorem iX5_through_X5 : ∀ w ∈ wsX50, w ∈ wsX5_through := fun w h => List.mem_cons_of_mem _ (List.mem_append_left _ (List.mem_append_left _ (List.mem_append_right _ h)))
theorem iX5_through_X3 : ∀ w ∈ wsX30, w ∈ wsX5_through := fun w h => List.mem_cons_of_mem _ (List.mem_append_left _ (List.mem_append_right _ h))
theorem iX5_through_X1 : ∀ w ∈ wsX10, w ∈ wsX5_through := fun w h => List.mem_cons_of_mem _ (List.mem_append_right _ h)
set_option maxHeartbeats 4000000 in
set_option maxRecDepth 100000 in
theorem kX5_through (l : Launch) (D : va_G) (y : Cy) (g : Nat → Nat) (a : Int32) (b : Int32) (S : St) (x0 : Int32 × St) (h : fX5_through a b S = some x0) : KI l yX5_through wsX5_through rmX5_through D vwCl (tz y) (wc y g) (AC g) [.ref (g 0), .int a, .int b] S (fun r S2 => (r, S2) = x0) := by
  refine m_entryI (wc_ok y g) (by decide) rfl (Nat.le_of_ble_eq_true rfl) (lv := [(0, .ref (g 0)), (1, .int a), (2, .int b)]) rfl h ?_
  intro p e s m args below meth c hC hr hlocks
  obtain ⟨Q, hQ⟩ : ∃ Q, Q = (MQ below (va_Qi (fun r S2 => (r, S2) = x0) (Bw D vwCl (tz y) (wc y g) (AC g s.heap.size)) (AC g s.heap.size)) args s 0 0 (AC g s.heap.size)) := ⟨_, rfl⟩
  rw [← hQ]
  have hret : ∀ (v : Int32) (S2 : St) (pc : Nat) (lv : List (Nat × Value)), decode cX5_through pc = .ok (.ireturn, 1) → narrow .boolean (.int v) = .int v → Sm p l e (headSpec wsX5_through rmX5_through).room s m args below meth c D vwCl (wc y g) (AC g s.heap.size) 3 Q x0 (some (v, S2)) S2 pc lv [.int v] := by
    rw [hQ]
    exact fun v S2 pc lv hd hz => m_zret hC hz hr hlocks hd
  clear hQ
  unfold fX5_through
  refine m_aload_n hC dX5_through_0 0 rfl ?_
  refine m_get hC iX5_through_X5 (wc_0 y g S) rfl 1 (by decide) (List.mem_of_getElem? (i := 1) rfl) rfl rfl dX5_through_1 ?_
  refine m_get hC iX5_through_X3 (wc_12 y g S) rfl 0 (by decide) (List.mem_of_getElem? (i := 2) rfl) rfl rfl dX5_through_4 ?_
  refine m_if_eq hC 20 dX5_through_7 (by decide) ?_ ?_
  · refine m_iconst hC (0) dX5_through_20 (by decide) ?_
    exact hret _ _ _ _ dX5_through_21 rfl
  · refine m_aload_n hC dX5_through_10 0 rfl ?_
    refine m_get hC iX5_through_X5 (wc_0 y g S) rfl 2 (by decide) (List.mem_of_getElem? (i := 3) rfl) rfl rfl dX5_through_11 ?_
    refine m_get hC iX5_through_X1 (wc_13 y g S) rfl 10 (by decide) (List.mem_of_getElem? (i := 4) rfl) rfl rfl dX5_through_14 ?_
    refine m_if_eq hC 22 dX5_through_17 (by decide) ?_ ?_
    · refine m_iload_n hC dX5_through_22 1 rfl ?_
      refine m_iconst hC (0) dX5_through_23 (by decide) ?_
      refine m_iconst hC (1) dX5_through_24 (by decide) ?_
      refine m_aload_n hC dX5_through_25 0 rfl ?_
      refine m_get hC iX5_through_X5 (wc_0 y g S) rfl 1 (by decide) (List.mem_of_getElem? (i := 1) rfl) rfl rfl dX5_through_26 ?_
      refine m_get hC iX5_through_X3 (wc_12 y g S) rfl 4 (by decide) (List.mem_of_getElem? (i := 5) rfl) rfl rfl dX5_through_29 ?_
      refine m_ishl hC dX5_through_32 ?_
      refine m_iconst hC (1) dX5_through_33 (by decide) ?_
      refine m_isub hC dX5_through_34 ?_
      refine m_cIPS hC (As := [.int a, .int 0, .int ((1 <<< ((S.1 12 4) &&& 31)) - 1)]) (wc_ok y g) (va_cwS 3 hC.1.2.2.2.2 gX5_through_X5_within rfl rfl rfl (by decide +kernel) ⟨Nat.le_of_ble_eq_true rfl, Nat.le_of_ble_eq_true rfl⟩) (fun xq hq => kX5_within l D y g a 0 ((1 <<< ((S.1 12 4) &&& 31)) - 1) S xq hq) rfl (Nat.le_of_ble_eq_true rfl) dX5_through_35 ?_
      intro x1
      refine m_if_eq hC 50 dX5_through_38 (by decide) ?_ ?_
      · refine m_iconst hC (0) dX5_through_50 (by decide) ?_
        exact hret _ _ _ _ dX5_through_51 rfl
      · refine m_iload_n hC dX5_through_41 2 rfl ?_
        refine m_iconst hC (0) dX5_through_42 (by decide) ?_
        refine m_iconst hC (3) dX5_through_43 (by decide) ?_
        refine m_cIPS hC (As := [.int b, .int 0, .int 3]) (wc_ok y g) (va_cwS 3 hC.1.2.2.2.2 gX5_through_X5_within rfl rfl rfl (by decide +kernel) ⟨Nat.le_of_ble_eq_true rfl, Nat.le_of_ble_eq_true rfl⟩) (fun xq hq => kX5_within l D y g b 0 3 S xq hq) rfl (Nat.le_of_ble_eq_true rfl) dX5_through_44 ?_
        intro x2
        refine m_if_ne hC 52 dX5_through_47 (by decide) ?_ ?_
        · refine m_aload_n hC dX5_through_52 0 rfl ?_
          refine m_get hC iX5_through_X5 (wc_0 y g S) rfl 2 (by decide) (List.mem_of_getElem? (i := 3) rfl) rfl rfl dX5_through_53 ?_
          refine m_cVV hC (As := []) (wc_ok y g) (cwV 0 hC.1.2.2.2.2 gX5_through_X1_forget rfl rfl rfl (by decide +kernel) ⟨Nat.le_of_ble_eq_true rfl, Nat.le_of_ble_eq_true rfl⟩) (wc_13 y g S) rfl (fun xq hq => kX1_forget l D y g S xq hq) rfl (Nat.le_of_ble_eq_true rfl) dX5_through_56 ?_
          intro S3
          refine m_aload_n hC dX5_through_59 0 rfl ?_
          refine m_get hC iX5_through_X5 (wc_0 y g S3) rfl 1 (by decide) (List.mem_of_getElem? (i := 1) rfl) rfl rfl dX5_through_60 ?_
          refine m_iload_n hC dX5_through_63 1 rfl ?_
          refine m_putI (ty := .int) hC iX5_through_X3 tyX3 tyX3_ok nmX3 (wc_12 y g S3) rfl 7 (by decide) (List.mem_of_getElem? (i := 6) rfl) rfl rfl (by decide +kernel) rfl rfl (Nat.le_of_ble_eq_true rfl) dX5_through_64 (wcf_12_7 y g S3 _) ?_
          intro S4
          refine m_aload_n hC dX5_through_67 0 rfl ?_
          refine m_get hC iX5_through_X5 (wc_0 y g S4) rfl 1 (by decide) (List.mem_of_getElem? (i := 1) rfl) rfl rfl dX5_through_68 ?_
          refine m_iload_n hC dX5_through_71 2 rfl ?_
          refine m_putI (ty := .int) hC iX5_through_X3 tyX3 tyX3_ok nmX3 (wc_12 y g S4) rfl 8 (by decide) (List.mem_of_getElem? (i := 7) rfl) rfl rfl (by decide +kernel) rfl rfl (Nat.le_of_ble_eq_true rfl) dX5_through_72 (wcf_12_8 y g S4 _) ?_
          intro S5
          refine m_iconst hC (1) dX5_through_75 (by decide) ?_
          exact hret _ _ _ _ dX5_through_76 rfl
        · refine m_iconst hC (0) dX5_through_50 (by decide) ?_
          exact hret _ _ _ _ dX5_through_51 rfl
    · refine m_iconst hC (0) dX5_through_20 (by decide) ?_
      exact hret _ _ _ _ dX5_through_21 rfl
def fX5_wall (a : Int32) (b : Int32) (c2 : Int32) (d2 : Int32) (e2 : Int32) (f2 : Int32) (S : St) : Option (Int32 × St) :=
  if (S.1 13 10) = 0 then
    caP (fX5_onTheMap a b) fun x1 =>
    if x1 = 0 then
      some (0, S)
    else
      caP (fX5_within c2 2 24) fun x2 =>
      if x2 = 0 then
        some (0, S)
      else
        caP (fX5_within d2 1 6) fun x3 =>
        if x3 = 0 then
          some (0, S)
        else
          caP (fX5_within e2 1 4) fun x4 =>
          if x4 = 0 then
            some (0, S)
          else
            caP (fX5_within f2 0 1) fun x5 =>
            if x5 = 0 then
              some (0, S)
            else
              caV (fX1_forget S) fun S6 =>
              caV (fX3_tell a b c2 d2 e2 f2 S6) fun S7 =>
              some (1, S7)
  else
    some (0, S)
abbrev rmX5_wall : Room := { frames := 2, cells := 0, slots := 0, locals := 43 }
theorem iX5_wall_X5 : ∀ w ∈ wsX50, w ∈ wsX5_wall := fun w h => List.mem_cons_of_mem _ (List.mem_append_left _ (List.mem_append_left _ (List.mem_append_right _ h)))
theorem iX5_wall_X1 : ∀ w ∈ wsX10, w ∈ wsX5_wall := fun w h => List.mem_cons_of_mem _ (List.mem_append_left _ (List.mem_append_right _ h))
theorem iX5_wall_X3 : ∀ w ∈ wsX30, w ∈ wsX5_wall := fun w h => List.mem_cons_of_mem _ (List.mem_append_right _ h)
set_option maxHeartbeats 4000000 in
set_option maxRecDepth 100000 in
theorem kX5_wall (l : Launch) (D : va_G) (y : Cy) (g : Nat → Nat) (a : Int32) (b : Int32) (c2 : Int32) (d2 : Int32) (e2 : Int32) (f2 : Int32) (S : St) (x0 : Int32 × St) (h : fX5_wall a b c2 d2 e2 f2 S = some x0) : KI l yX5_wall wsX5_wall rmX5_wall D vwCl (tz y) (wc y g) (AC g) [.ref (g 0), .int a, .int b, .int c2, .int d2, .int e2, .int f2] S (fun r S2 => (r, S2) = x0) := by
  refine m_entryI (wc_ok y g) (by decide) rfl (Nat.le_of_ble_eq_true rfl) (lv := [(0, .ref (g 0)), (1, .int a), (2, .int b), (3, .int c2), (4, .int d2), (5, .int e2), (6, .int f2)]) rfl h ?_
  intro p e s m args below meth c hC hr hlocks
  obtain ⟨Q, hQ⟩ : ∃ Q, Q = (MQ below (va_Qi (fun r S2 => (r, S2) = x0) (Bw D vwCl (tz y) (wc y g) (AC g s.heap.size)) (AC g s.heap.size)) args s 0 0 (AC g s.heap.size)) := ⟨_, rfl⟩
  rw [← hQ]
  have hret : ∀ (v : Int32) (S2 : St) (pc : Nat) (lv : List (Nat × Value)), decode cX5_wall pc = .ok (.ireturn, 1) → narrow .boolean (.int v) = .int v → Sm p l e (headSpec wsX5_wall rmX5_wall).room s m args below meth c D vwCl (wc y g) (AC g s.heap.size) 7 Q x0 (some (v, S2)) S2 pc lv [.int v] := by
    rw [hQ]
    exact fun v S2 pc lv hd hz => m_zret hC hz hr hlocks hd
  clear hQ
  unfold fX5_wall
  refine m_aload_n hC dX5_wall_0 0 rfl ?_
  refine m_get hC iX5_wall_X5 (wc_0 y g S) rfl 2 (by decide) (List.mem_of_getElem? (i := 1) rfl) rfl rfl dX5_wall_1 ?_
  refine m_get hC iX5_wall_X1 (wc_13 y g S) rfl 10 (by decide) (List.mem_of_getElem? (i := 2) rfl) rfl rfl dX5_wall_4 ?_
  refine m_if_ne hC 28 dX5_wall_7 (by decide) ?_ ?_
  · refine m_iconst hC (0) dX5_wall_28 (by decide) ?_
    exact hret _ _ _ _ dX5_wall_29 rfl
  · refine m_iload_n hC dX5_wall_10 1 rfl ?_
    refine m_iload_n hC dX5_wall_11 2 rfl ?_
    refine m_cIPS hC (As := [.int a, .int b]) (wc_ok y g) (va_cwS 2 hC.1.2.2.2.2 gX5_wall_X5_onTheMap rfl rfl rfl (by decide +kernel) ⟨Nat.le_of_ble_eq_true rfl, Nat.le_of_ble_eq_true rfl⟩) (fun xq hq => kX5_onTheMap l D y g a b S xq hq) rfl (Nat.le_of_ble_eq_true rfl) dX5_wall_12 ?_
    intro x1
    refine m_if_eq hC 28 dX5_wall_15 (by decide) ?_ ?_
    · refine m_iconst hC (0) dX5_wall_28 (by decide) ?_
      exact hret _ _ _ _ dX5_wall_29 rfl
    · refine m_iload_n hC dX5_wall_18 3 rfl ?_
      refine m_iconst hC (2) dX5_wall_19 (by decide) ?_
      refine m_bipush hC (24) dX5_wall_20 (by decide) ?_
      refine m_cIPS hC (As := [.int c2, .int 2, .int 24]) (wc_ok y g) (va_cwS 3 hC.1.2.2.2.2 gX5_wall_X5_within rfl rfl rfl (by decide +kernel) ⟨Nat.le_of_ble_eq_true rfl, Nat.le_of_ble_eq_true rfl⟩) (fun xq hq => kX5_within l D y g c2 2 24 S xq hq) rfl (Nat.le_of_ble_eq_true rfl) dX5_wall_22 ?_
      intro x2
      refine m_if_ne hC 30 dX5_wall_25 (by decide) ?_ ?_
      · refine m_iload hC dX5_wall_30 4 rfl ?_
        refine m_iconst hC (1) dX5_wall_32 (by decide) ?_
        refine m_bipush hC (6) dX5_wall_33 (by decide) ?_
        refine m_cIPS hC (As := [.int d2, .int 1, .int 6]) (wc_ok y g) (va_cwS 3 hC.1.2.2.2.2 gX5_wall_X5_within rfl rfl rfl (by decide +kernel) ⟨Nat.le_of_ble_eq_true rfl, Nat.le_of_ble_eq_true rfl⟩) (fun xq hq => kX5_within l D y g d2 1 6 S xq hq) rfl (Nat.le_of_ble_eq_true rfl) dX5_wall_35 ?_
        intro x3
        refine m_if_eq hC 61 dX5_wall_38 (by decide) ?_ ?_
        · refine m_iconst hC (0) dX5_wall_61 (by decide) ?_
          exact hret _ _ _ _ dX5_wall_62 rfl
        · refine m_iload hC dX5_wall_41 5 rfl ?_
          refine m_iconst hC (1) dX5_wall_43 (by decide) ?_
          refine m_iconst hC (4) dX5_wall_44 (by decide) ?_
          refine m_cIPS hC (As := [.int e2, .int 1, .int 4]) (wc_ok y g) (va_cwS 3 hC.1.2.2.2.2 gX5_wall_X5_within rfl rfl rfl (by decide +kernel) ⟨Nat.le_of_ble_eq_true rfl, Nat.le_of_ble_eq_true rfl⟩) (fun xq hq => kX5_within l D y g e2 1 4 S xq hq) rfl (Nat.le_of_ble_eq_true rfl) dX5_wall_45 ?_
          intro x4
          refine m_if_eq hC 61 dX5_wall_48 (by decide) ?_ ?_
          · refine m_iconst hC (0) dX5_wall_61 (by decide) ?_
            exact hret _ _ _ _ dX5_wall_62 rfl
          · refine m_iload hC dX5_wall_51 6 rfl ?_
            refine m_iconst hC (0) dX5_wall_53 (by decide) ?_
            refine m_iconst hC (1) dX5_wall_54 (by decide) ?_
            refine m_cIPS hC (As := [.int f2, .int 0, .int 1]) (wc_ok y g) (va_cwS 3 hC.1.2.2.2.2 gX5_wall_X5_within rfl rfl rfl (by decide +kernel) ⟨Nat.le_of_ble_eq_true rfl, Nat.le_of_ble_eq_true rfl⟩) (fun xq hq => kX5_within l D y g f2 0 1 S xq hq) rfl (Nat.le_of_ble_eq_true rfl) dX5_wall_55 ?_
            intro x5
            refine m_if_ne hC 63 dX5_wall_58 (by decide) ?_ ?_
            · refine m_aload_n hC dX5_wall_63 0 rfl ?_
              refine m_get hC iX5_wall_X5 (wc_0 y g S) rfl 2 (by decide) (List.mem_of_getElem? (i := 1) rfl) rfl rfl dX5_wall_64 ?_
              refine m_cVV hC (As := []) (wc_ok y g) (cwV 0 hC.1.2.2.2.2 gX5_wall_X1_forget rfl rfl rfl (by decide +kernel) ⟨Nat.le_of_ble_eq_true rfl, Nat.le_of_ble_eq_true rfl⟩) (wc_13 y g S) rfl (fun xq hq => kX1_forget l D y g S xq hq) rfl (Nat.le_of_ble_eq_true rfl) dX5_wall_67 ?_
              intro S6
              refine m_aload_n hC dX5_wall_70 0 rfl ?_
              refine m_get hC iX5_wall_X5 (wc_0 y g S6) rfl 1 (by decide) (List.mem_of_getElem? (i := 3) rfl) rfl rfl dX5_wall_71 ?_
              refine m_iload_n hC dX5_wall_74 1 rfl ?_
              refine m_iload_n hC dX5_wall_75 2 rfl ?_
              refine m_iload_n hC dX5_wall_76 3 rfl ?_
              refine m_iload hC dX5_wall_77 4 rfl ?_
              refine m_iload hC dX5_wall_79 5 rfl ?_
              refine m_iload hC dX5_wall_81 6 rfl ?_
              refine m_cVV hC (As := [.int a, .int b, .int c2, .int d2, .int e2, .int f2]) (wc_ok y g) (cwV 6 hC.1.2.2.2.2 gX5_wall_X3_tell rfl rfl rfl (by decide +kernel) ⟨Nat.le_of_ble_eq_true rfl, Nat.le_of_ble_eq_true rfl⟩) (wc_12 y g S6) rfl (fun xq hq => kX3_tell l D y g a b c2 d2 e2 f2 S6 xq hq) rfl (Nat.le_of_ble_eq_true rfl) dX5_wall_83 ?_
              intro S7
              refine m_iconst hC (1) dX5_wall_86 (by decide) ?_
              exact hret _ _ _ _ dX5_wall_87 rfl
            · refine m_iconst hC (0) dX5_wall_61 (by decide) ?_
              exact hret _ _ _ _ dX5_wall_62 rfl
      · refine m_iconst hC (0) dX5_wall_28 (by decide) ?_
        exact hret _ _ _ _ dX5_wall_29 rfl
