def fX1_add (a : Int32) (b : Int32) (c2 : Int32) (S : St) : Option (St) :=
  if (S.1 13 9) < 144 then
    stI S 14 144 (S.1 13 9) a fun S1 =>
    stI S1 15 144 (S1.1 13 9) b fun S2 =>
    stI S2 16 144 (S2.1 13 9) c2 fun S3 =>
    pfI S3 13 9 ((S3.1 13 9) + 1) fun S4 =>
    some S4
  else
    some S
abbrev rmX1_add : Room := { frames := 0, cells := 0, slots := 0, locals := 0 }
theorem iX1_add_X1 : ∀ w ∈ wsX10, w ∈ wsX1_add := fun w h => List.mem_cons_of_mem _ (List.mem_append_right _ h)
set_option maxHeartbeats 4000000 in
set_option maxRecDepth 100000 in
theorem kX1_add (l : Launch) (D : va_G) (y : Cy) (g : Nat → Nat) (a : Int32) (b : Int32) (c2 : Int32) (S : St) (x0 : St) (h : fX1_add a b c2 S = some x0) : KV l yX1_add wsX1_add rmX1_add D vwCl (tz y) (wc y g) (AC g) [.ref (g 13), .int a, .int b, .int c2] S (fun S2 => S2 = x0) := by
  refine m_entryV (wc_ok y g) (by decide) rfl (Nat.le_of_ble_eq_true rfl) (lv := [(0, .ref (g 13)), (1, .int a), (2, .int b), (3, .int c2)]) rfl h ?_
  intro p e s m args below meth c hC hr hlocks
  obtain ⟨Q, hQ⟩ : ∃ Q, Q = (MQ below (va_Qv (fun S2 => S2 = x0) (Bw D vwCl (tz y) (wc y g) (AC g s.heap.size)) (AC g s.heap.size)) args s 0 0 (AC g s.heap.size)) := ⟨_, rfl⟩
  rw [← hQ]
  have hret : ∀ (S2 : St) (pc : Nat) (lv : List (Nat × Value)), decode cX1_add pc = .ok (.return_, 1) → Sm p l e (headSpec wsX1_add rmX1_add).room s m args below meth c D vwCl (wc y g) (AC g s.heap.size) 4 Q x0 (some S2) S2 pc lv [] := by
    rw [hQ]
    exact fun S2 pc lv hd => m_vret hC hr hlocks hd
  clear hQ
  unfold fX1_add
  refine m_aload_n hC dX1_add_0 0 rfl ?_
  refine m_get hC iX1_add_X1 (wc_13 y g S) rfl 9 (by decide) (List.mem_of_getElem? (i := 1) rfl) rfl rfl dX1_add_1 ?_
  refine m_sipush hC (144) dX1_add_4 (by decide) ?_
  refine m_icmp_lt hC 11 dX1_add_7 (by decide) ?_ ?_
  · refine m_aload_n hC dX1_add_11 0 rfl ?_
    refine m_get hC iX1_add_X1 (wc_13 y g S) rfl 2 (by decide) (List.mem_of_getElem? (i := 2) rfl) rfl rfl dX1_add_12 ?_
    refine m_aload_n hC dX1_add_15 0 rfl ?_
    refine m_get hC iX1_add_X1 (wc_13 y g S) rfl 9 (by decide) (List.mem_of_getElem? (i := 1) rfl) rfl rfl dX1_add_16 ?_
    refine m_iload_n hC dX1_add_19 1 rfl ?_
    refine m_iast hC (wc_14 y g S) (t0 := 0) rfl (wcs_14 y g S) dX1_add_20 ?_
    intro S1
    refine m_aload_n hC dX1_add_21 0 rfl ?_
    refine m_get hC iX1_add_X1 (wc_13 y g S1) rfl 3 (by decide) (List.mem_of_getElem? (i := 3) rfl) rfl rfl dX1_add_22 ?_
    refine m_aload_n hC dX1_add_25 0 rfl ?_
    refine m_get hC iX1_add_X1 (wc_13 y g S1) rfl 9 (by decide) (List.mem_of_getElem? (i := 1) rfl) rfl rfl dX1_add_26 ?_
    refine m_iload_n hC dX1_add_29 2 rfl ?_
    refine m_iast hC (wc_15 y g S1) (t0 := 0) rfl (wcs_15 y g S1) dX1_add_30 ?_
    intro S2
    refine m_aload_n hC dX1_add_31 0 rfl ?_
    refine m_get hC iX1_add_X1 (wc_13 y g S2) rfl 4 (by decide) (List.mem_of_getElem? (i := 4) rfl) rfl rfl dX1_add_32 ?_
    refine m_aload_n hC dX1_add_35 0 rfl ?_
    refine m_get hC iX1_add_X1 (wc_13 y g S2) rfl 9 (by decide) (List.mem_of_getElem? (i := 1) rfl) rfl rfl dX1_add_36 ?_
    refine m_iload_n hC dX1_add_39 3 rfl ?_
    refine m_iast hC (wc_16 y g S2) (t0 := 0) rfl (wcs_16 y g S2) dX1_add_40 ?_
    intro S3
    refine m_aload_n hC dX1_add_41 0 rfl ?_
    refine m_dup hC dX1_add_42 rfl ?_
    refine m_get hC iX1_add_X1 (wc_13 y g S3) rfl 9 (by decide) (List.mem_of_getElem? (i := 1) rfl) rfl rfl dX1_add_43 ?_
    refine m_iconst hC (1) dX1_add_46 (by decide) ?_
    refine m_iadd hC dX1_add_47 ?_
    refine m_putI (ty := .int) hC iX1_add_X1 tyX1 tyX1_ok nmX1 (wc_13 y g S3) rfl 9 (by decide) (List.mem_of_getElem? (i := 1) rfl) rfl rfl (by decide +kernel) rfl rfl (Nat.le_of_ble_eq_true rfl) dX1_add_48 (wcf_13_9 y g S3 _) ?_
    intro S4
    exact hret _ _ _ dX1_add_51
  · exact hret _ _ _ dX1_add_10
def fX1_number_L4 (a : Int32) (S : St) (r3 : Int32 → Int32 → Option (Int32)) : Int32 → Int32 → Option (Int32) := fun x1 x2 =>
  if x2 < (S.1 13 9) then
    ldI 144 (S.1 14) x2 fun x4 =>
    if x4 = a then
      nmI (x1 + 1) fun x7 =>
      nmI (x2 + 1) fun x8 =>
      r3 x7 x8
    else
      nmI (x1 + 0) fun x5 =>
      nmI (x2 + 1) fun x6 =>
      r3 x5 x6
  else
    some x1
def fX1_number (N : Nat) (a : Int32) (S : St) : Option (Int32) :=
  itN (fun _ _ => none) (fX1_number_L4 a S) N 0 0
abbrev rmX1_number : Room := { frames := 0, cells := 0, slots := 0, locals := 0 }
theorem iX1_number_X1 : ∀ w ∈ wsX10, w ∈ wsX1_number := fun w h => List.mem_cons_of_mem _ (List.mem_append_right _ h)
set_option maxHeartbeats 4000000 in
set_option maxRecDepth 100000 in
theorem kX1_number (l : Launch) (D : va_G) (y : Cy) (g : Nat → Nat) (N : Nat) (a : Int32) (S : St) (x0 : Int32) (h : fX1_number N a S = some x0) : KI l yX1_number wsX1_number rmX1_number D vwCl (tz y) (wc y g) (AC g) [.ref (g 13), .int a] S (fun r S2 => r = x0 ∧ S2 = S) := by
  refine m_entryIP (wc_ok y g) (by decide) rfl (Nat.le_of_ble_eq_true rfl) (lv := [(0, .ref (g 13)), (1, .int a)]) rfl h ?_
  intro p e s m args below meth c hC hr hlocks
  obtain ⟨Q, hQ⟩ : ∃ Q, Q = (MQ below (va_Qi (fun r S2 => r = x0 ∧ S2 = S) (Bw D vwCl (tz y) (wc y g) (AC g s.heap.size)) (AC g s.heap.size)) args s 0 0 (AC g s.heap.size)) := ⟨_, rfl⟩
  rw [← hQ]
  have hret : ∀ (v : Int32) (pc : Nat) (lv : List (Nat × Value)), decode cX1_number pc = .ok (.ireturn, 1) → Sm p l e (headSpec wsX1_number rmX1_number).room s m args below meth c D vwCl (wc y g) (AC g s.heap.size) 4 Q x0 (some v) S pc lv [.int v] := by
    rw [hQ]
    exact fun v pc lv hd => m_iretP hC hr hlocks hd
  clear hQ
  unfold fX1_number
  refine m_iconst hC (0) dX1_number_0 (by decide) ?_
  refine m_istore_n hC [(0, .ref (g 13)), (1, .int a), (2, .int 0)] [1, 2, 0] dX1_number_1 (by decide) rfl rfl ?_
  refine m_iconst hC (0) dX1_number_2 (by decide) ?_
  refine m_istore_n hC [(0, .ref (g 13)), (1, .int a), (2, .int 0), (3, .int 0)] [1, 2, 3, 0] dX1_number_3 (by decide) rfl rfl ?_
  refine (m_it (z := (fun _ _ => none)) (F := fX1_number_L4 a S) N (fun r3 => ∀ (x1 : Int32) (x2 : Int32), Sm p l e (headSpec wsX1_number rmX1_number).room s m args below meth c D vwCl (wc y g) (AC g s.heap.size) 4 Q x0 (r3 x1 x2) S 4 [(0, .ref (g 13)), (1, .int a), (2, .int x1), (3, .int x2)] []) ?_ ?_) 0 0
  · exact fun _ _ => m_none
  · intro r3 hr3 x1 x2
    unfold fX1_number_L4
    refine m_iload_n hC dX1_number_4 3 rfl ?_
    refine m_aload_n hC dX1_number_5 0 rfl ?_
    refine m_get hC iX1_number_X1 (wc_13 y g S) rfl 9 (by decide) (List.mem_of_getElem? (i := 1) rfl) rfl rfl dX1_number_6 ?_
    refine m_icmp_ge hC 36 dX1_number_9 (by decide) ?_ ?_
    · refine m_iload_n hC dX1_number_36 2 rfl ?_
      exact hret _ _ _ dX1_number_37
    · refine m_iload_n hC dX1_number_12 2 rfl ?_
      refine m_aload_n hC dX1_number_13 0 rfl ?_
      refine m_get hC iX1_number_X1 (wc_13 y g S) rfl 2 (by decide) (List.mem_of_getElem? (i := 2) rfl) rfl rfl dX1_number_14 ?_
      refine m_iload_n hC dX1_number_17 3 rfl ?_
      refine m_iald hC (wc_14 y g S) (t0 := 0) rfl dX1_number_18 ?_
      intro x4
      refine m_iload_n hC dX1_number_19 1 rfl ?_
      refine m_icmp_ne hC 27 dX1_number_20 (by decide) ?_ ?_
      · refine m_iconst hC (0) dX1_number_27 (by decide) ?_
        refine m_iadd hC dX1_number_28 ?_
        refine m_nmI ?_
        intro x5
        refine m_istore_n hC [(0, .ref (g 13)), (1, .int a), (2, .int x5), (3, .int x2)] [1, 2, 0, 3] dX1_number_29 (by decide) rfl rfl ?_
        refine m_iinc hC (fun x6 => [(0, .ref (g 13)), (1, .int a), (2, .int x5), (3, .int x6)]) [1, 2, 3, 0] dX1_number_30 (j := 3) rfl (by decide) (by decide) (fun _ => rfl) (fun _ => rfl) ?_
        intro x6
        refine m_goto hC 4 dX1_number_33 (by decide) ?_
        exact hr3 _ _
      · refine m_iconst hC (1) dX1_number_23 (by decide) ?_
        refine m_goto hC 28 dX1_number_24 (by decide) ?_
        refine m_iadd hC dX1_number_28 ?_
        refine m_nmI ?_
        intro x7
        refine m_istore_n hC [(0, .ref (g 13)), (1, .int a), (2, .int x7), (3, .int x2)] [1, 2, 0, 3] dX1_number_29 (by decide) rfl rfl ?_
        refine m_iinc hC (fun x8 => [(0, .ref (g 13)), (1, .int a), (2, .int x7), (3, .int x8)]) [1, 2, 3, 0] dX1_number_30 (j := 3) rfl (by decide) (by decide) (fun _ => rfl) (fun _ => rfl) ?_
        intro x8
        refine m_goto hC 4 dX1_number_33 (by decide) ?_
        exact hr3 _ _
def fX1_isStanding (a : Int32) (S : St) : Option (Int32) :=
  if (S.1 13 10) = 0 then
    some 0
  else
    ldI 144 (S.1 19) a fun x1 =>
    if x1 = 0 then
      some 0
    else
      some 1
abbrev rmX1_isStanding : Room := { frames := 0, cells := 0, slots := 0, locals := 0 }
theorem iX1_isStanding_X1 : ∀ w ∈ wsX10, w ∈ wsX1_isStanding := fun w h => List.mem_cons_of_mem _ (List.mem_append_right _ h)
set_option maxHeartbeats 4000000 in
set_option maxRecDepth 100000 in
theorem kX1_isStanding (l : Launch) (D : va_G) (y : Cy) (g : Nat → Nat) (a : Int32) (S : St) (x0 : Int32) (h : fX1_isStanding a S = some x0) : KI l yX1_isStanding wsX1_isStanding rmX1_isStanding D vwCl (tz y) (wc y g) (AC g) [.ref (g 13), .int a] S (fun r S2 => r = x0 ∧ S2 = S) := by
  refine m_entryIP (wc_ok y g) (by decide) rfl (Nat.le_of_ble_eq_true rfl) (lv := [(0, .ref (g 13)), (1, .int a)]) rfl h ?_
  intro p e s m args below meth c hC hr hlocks
  obtain ⟨Q, hQ⟩ : ∃ Q, Q = (MQ below (va_Qi (fun r S2 => r = x0 ∧ S2 = S) (Bw D vwCl (tz y) (wc y g) (AC g s.heap.size)) (AC g s.heap.size)) args s 0 0 (AC g s.heap.size)) := ⟨_, rfl⟩
  rw [← hQ]
  have hret : ∀ (v : Int32) (pc : Nat) (lv : List (Nat × Value)), decode cX1_isStanding pc = .ok (.ireturn, 1) → narrow .boolean (.int v) = .int v → Sm p l e (headSpec wsX1_isStanding rmX1_isStanding).room s m args below meth c D vwCl (wc y g) (AC g s.heap.size) 2 Q x0 (some v) S pc lv [.int v] := by
    rw [hQ]
    exact fun v pc lv hd hz => m_zretP hC hz hr hlocks hd
  clear hQ
  unfold fX1_isStanding
  refine m_aload_n hC dX1_isStanding_0 0 rfl ?_
  refine m_get hC iX1_isStanding_X1 (wc_13 y g S) rfl 10 (by decide) (List.mem_of_getElem? (i := 1) rfl) rfl rfl dX1_isStanding_1 ?_
  refine m_if_eq hC 20 dX1_isStanding_4 (by decide) ?_ ?_
  · refine m_iconst hC (0) dX1_isStanding_20 (by decide) ?_
    exact hret _ _ _ dX1_isStanding_21 rfl
  · refine m_aload_n hC dX1_isStanding_7 0 rfl ?_
    refine m_get hC iX1_isStanding_X1 (wc_13 y g S) rfl 7 (by decide) (List.mem_of_getElem? (i := 2) rfl) rfl rfl dX1_isStanding_8 ?_
    refine m_iload_n hC dX1_isStanding_11 1 rfl ?_
    refine m_zald hC (wc_19 y g S) (t0 := 1) rfl dX1_isStanding_12 ?_
    intro x1
    refine m_if_eq hC 20 dX1_isStanding_13 (by decide) ?_ ?_
    · refine m_iconst hC (0) dX1_isStanding_20 (by decide) ?_
      exact hret _ _ _ dX1_isStanding_21 rfl
    · refine m_iconst hC (1) dX1_isStanding_16 (by decide) ?_
      refine m_goto hC 21 dX1_isStanding_17 (by decide) ?_
      exact hret _ _ _ dX1_isStanding_21 rfl
def fX1_numberStanding_L4 (a : Int32) (S : St) (r3 : Int32 → Int32 → Option (Int32)) : Int32 → Int32 → Option (Int32) := fun x1 x2 =>
  if x2 < (S.1 13 9) then
    ldI 144 (S.1 14) x2 fun x4 =>
    if x4 = a then
      caP (fX1_isStanding x2 S) fun x7 =>
      if x7 = 0 then
        nmI (x1 + 0) fun x8 =>
        nmI (x2 + 1) fun x9 =>
        r3 x8 x9
      else
        nmI (x1 + 1) fun x10 =>
        nmI (x2 + 1) fun x11 =>
        r3 x10 x11
    else
      nmI (x1 + 0) fun x5 =>
      nmI (x2 + 1) fun x6 =>
      r3 x5 x6
  else
    some x1
def fX1_numberStanding (N : Nat) (a : Int32) (S : St) : Option (Int32) :=
  itN (fun _ _ => none) (fX1_numberStanding_L4 a S) N 0 0
abbrev rmX1_numberStanding : Room := { frames := 1, cells := 0, slots := 0, locals := 21 }
theorem iX1_numberStanding_X1 : ∀ w ∈ wsX10, w ∈ wsX1_numberStanding := fun w h => List.mem_cons_of_mem _ (List.mem_append_right _ h)
set_option maxHeartbeats 4000000 in
set_option maxRecDepth 100000 in
theorem kX1_numberStanding (l : Launch) (D : va_G) (y : Cy) (g : Nat → Nat) (N : Nat) (a : Int32) (S : St) (x0 : Int32) (h : fX1_numberStanding N a S = some x0) : KI l yX1_numberStanding wsX1_numberStanding rmX1_numberStanding D vwCl (tz y) (wc y g) (AC g) [.ref (g 13), .int a] S (fun r S2 => r = x0 ∧ S2 = S) := by
  refine m_entryIP (wc_ok y g) (by decide) rfl (Nat.le_of_ble_eq_true rfl) (lv := [(0, .ref (g 13)), (1, .int a)]) rfl h ?_
  intro p e s m args below meth c hC hr hlocks
  obtain ⟨Q, hQ⟩ : ∃ Q, Q = (MQ below (va_Qi (fun r S2 => r = x0 ∧ S2 = S) (Bw D vwCl (tz y) (wc y g) (AC g s.heap.size)) (AC g s.heap.size)) args s 0 0 (AC g s.heap.size)) := ⟨_, rfl⟩
  rw [← hQ]
  have hret : ∀ (v : Int32) (pc : Nat) (lv : List (Nat × Value)), decode cX1_numberStanding pc = .ok (.ireturn, 1) → Sm p l e (headSpec wsX1_numberStanding rmX1_numberStanding).room s m args below meth c D vwCl (wc y g) (AC g s.heap.size) 4 Q x0 (some v) S pc lv [.int v] := by
    rw [hQ]
    exact fun v pc lv hd => m_iretP hC hr hlocks hd
  clear hQ
  unfold fX1_numberStanding
  refine m_iconst hC (0) dX1_numberStanding_0 (by decide) ?_
  refine m_istore_n hC [(0, .ref (g 13)), (1, .int a), (2, .int 0)] [1, 2, 0] dX1_numberStanding_1 (by decide) rfl rfl ?_
  refine m_iconst hC (0) dX1_numberStanding_2 (by decide) ?_
  refine m_istore_n hC [(0, .ref (g 13)), (1, .int a), (2, .int 0), (3, .int 0)] [1, 2, 3, 0] dX1_numberStanding_3 (by decide) rfl rfl ?_
  refine (m_it (z := (fun _ _ => none)) (F := fX1_numberStanding_L4 a S) N (fun r3 => ∀ (x1 : Int32) (x2 : Int32), Sm p l e (headSpec wsX1_numberStanding rmX1_numberStanding).room s m args below meth c D vwCl (wc y g) (AC g s.heap.size) 4 Q x0 (r3 x1 x2) S 4 [(0, .ref (g 13)), (1, .int a), (2, .int x1), (3, .int x2)] []) ?_ ?_) 0 0
  · exact fun _ _ => m_none
  · intro r3 hr3 x1 x2
    unfold fX1_numberStanding_L4
    refine m_iload_n hC dX1_numberStanding_4 3 rfl ?_
    refine m_aload_n hC dX1_numberStanding_5 0 rfl ?_
    refine m_get hC iX1_numberStanding_X1 (wc_13 y g S) rfl 9 (by decide) (List.mem_of_getElem? (i := 1) rfl) rfl rfl dX1_numberStanding_6 ?_
    refine m_icmp_ge hC 44 dX1_numberStanding_9 (by decide) ?_ ?_
    · refine m_iload_n hC dX1_numberStanding_44 2 rfl ?_
      exact hret _ _ _ dX1_numberStanding_45
    · refine m_iload_n hC dX1_numberStanding_12 2 rfl ?_
      refine m_aload_n hC dX1_numberStanding_13 0 rfl ?_
      refine m_get hC iX1_numberStanding_X1 (wc_13 y g S) rfl 2 (by decide) (List.mem_of_getElem? (i := 2) rfl) rfl rfl dX1_numberStanding_14 ?_
      refine m_iload_n hC dX1_numberStanding_17 3 rfl ?_
      refine m_iald hC (wc_14 y g S) (t0 := 0) rfl dX1_numberStanding_18 ?_
      intro x4
      refine m_iload_n hC dX1_numberStanding_19 1 rfl ?_
      refine m_icmp_ne hC 35 dX1_numberStanding_20 (by decide) ?_ ?_
      · refine m_iconst hC (0) dX1_numberStanding_35 (by decide) ?_
        refine m_iadd hC dX1_numberStanding_36 ?_
        refine m_nmI ?_
        intro x5
        refine m_istore_n hC [(0, .ref (g 13)), (1, .int a), (2, .int x5), (3, .int x2)] [1, 2, 0, 3] dX1_numberStanding_37 (by decide) rfl rfl ?_
        refine m_iinc hC (fun x6 => [(0, .ref (g 13)), (1, .int a), (2, .int x5), (3, .int x6)]) [1, 2, 3, 0] dX1_numberStanding_38 (j := 3) rfl (by decide) (by decide) (fun _ => rfl) (fun _ => rfl) ?_
        intro x6
        refine m_goto hC 4 dX1_numberStanding_41 (by decide) ?_
        exact hr3 _ _
      · refine m_aload_n hC dX1_numberStanding_23 0 rfl ?_
        refine m_iload_n hC dX1_numberStanding_24 3 rfl ?_
        refine m_cIPV hC (As := [.int x2]) (wc_ok y g) (cwV 1 hC.1.2.2.2.2 gX1_numberStanding_X1_isStanding rfl rfl rfl (by decide +kernel) ⟨Nat.le_of_ble_eq_true rfl, Nat.le_of_ble_eq_true rfl⟩) (wc_13 y g S) rfl (fun xq hq => kX1_isStanding l D y g x2 S xq hq) rfl (Nat.le_of_ble_eq_true rfl) dX1_numberStanding_25 ?_
        intro x7
        refine m_if_eq hC 35 dX1_numberStanding_28 (by decide) ?_ ?_
        · refine m_iconst hC (0) dX1_numberStanding_35 (by decide) ?_
          refine m_iadd hC dX1_numberStanding_36 ?_
          refine m_nmI ?_
          intro x8
          refine m_istore_n hC [(0, .ref (g 13)), (1, .int a), (2, .int x8), (3, .int x2)] [1, 2, 0, 3] dX1_numberStanding_37 (by decide) rfl rfl ?_
          refine m_iinc hC (fun x9 => [(0, .ref (g 13)), (1, .int a), (2, .int x8), (3, .int x9)]) [1, 2, 3, 0] dX1_numberStanding_38 (j := 3) rfl (by decide) (by decide) (fun _ => rfl) (fun _ => rfl) ?_
          intro x9
          refine m_goto hC 4 dX1_numberStanding_41 (by decide) ?_
          exact hr3 _ _
        · refine m_iconst hC (1) dX1_numberStanding_31 (by decide) ?_
          refine m_goto hC 36 dX1_numberStanding_32 (by decide) ?_
          refine m_iadd hC dX1_numberStanding_36 ?_
          refine m_nmI ?_
          intro x10
          refine m_istore_n hC [(0, .ref (g 13)), (1, .int a), (2, .int x10), (3, .int x2)] [1, 2, 0, 3] dX1_numberStanding_37 (by decide) rfl rfl ?_
          refine m_iinc hC (fun x11 => [(0, .ref (g 13)), (1, .int a), (2, .int x10), (3, .int x11)]) [1, 2, 3, 0] dX1_numberStanding_38 (j := 3) rfl (by decide) (by decide) (fun _ => rfl) (fun _ => rfl) ?_
          intro x11
          refine m_goto hC 4 dX1_numberStanding_41 (by decide) ?_
          exact hr3 _ _
def fX1_numberAtFoot (N : Nat) (a : Int32) (S : St) : Option (Int32) :=
  if (S.1 13 10) = 0 then
    some 0
  else
    caP (fX1_number N a S) fun x1 =>
    caP (fX1_numberStanding N a S) fun x2 =>
    some (x1 - x2)
abbrev rmX1_numberAtFoot : Room := { frames := 2, cells := 0, slots := 0, locals := 44 }
theorem iX1_numberAtFoot_X1 : ∀ w ∈ wsX10, w ∈ wsX1_numberAtFoot := fun w h => List.mem_cons_of_mem _ (List.mem_append_right _ h)
set_option maxHeartbeats 4000000 in
set_option maxRecDepth 100000 in
theorem kX1_numberAtFoot (l : Launch) (D : va_G) (y : Cy) (g : Nat → Nat) (N : Nat) (a : Int32) (S : St) (x0 : Int32) (h : fX1_numberAtFoot N a S = some x0) : KI l yX1_numberAtFoot wsX1_numberAtFoot rmX1_numberAtFoot D vwCl (tz y) (wc y g) (AC g) [.ref (g 13), .int a] S (fun r S2 => r = x0 ∧ S2 = S) := by
  refine m_entryIP (wc_ok y g) (by decide) rfl (Nat.le_of_ble_eq_true rfl) (lv := [(0, .ref (g 13)), (1, .int a)]) rfl h ?_
  intro p e s m args below meth c hC hr hlocks
  obtain ⟨Q, hQ⟩ : ∃ Q, Q = (MQ below (va_Qi (fun r S2 => r = x0 ∧ S2 = S) (Bw D vwCl (tz y) (wc y g) (AC g s.heap.size)) (AC g s.heap.size)) args s 0 0 (AC g s.heap.size)) := ⟨_, rfl⟩
  rw [← hQ]
  have hret : ∀ (v : Int32) (pc : Nat) (lv : List (Nat × Value)), decode cX1_numberAtFoot pc = .ok (.ireturn, 1) → Sm p l e (headSpec wsX1_numberAtFoot rmX1_numberAtFoot).room s m args below meth c D vwCl (wc y g) (AC g s.heap.size) 2 Q x0 (some v) S pc lv [.int v] := by
    rw [hQ]
    exact fun v pc lv hd => m_iretP hC hr hlocks hd
  clear hQ
  unfold fX1_numberAtFoot
  refine m_aload_n hC dX1_numberAtFoot_0 0 rfl ?_
  refine m_get hC iX1_numberAtFoot_X1 (wc_13 y g S) rfl 10 (by decide) (List.mem_of_getElem? (i := 1) rfl) rfl rfl dX1_numberAtFoot_1 ?_
  refine m_if_eq hC 21 dX1_numberAtFoot_4 (by decide) ?_ ?_
  · refine m_iconst hC (0) dX1_numberAtFoot_21 (by decide) ?_
    exact hret _ _ _ dX1_numberAtFoot_22
  · refine m_aload_n hC dX1_numberAtFoot_7 0 rfl ?_
    refine m_iload_n hC dX1_numberAtFoot_8 1 rfl ?_
    refine m_cIPV hC (As := [.int a]) (wc_ok y g) (cwV 1 hC.1.2.2.2.2 gX1_numberAtFoot_X1_number rfl rfl rfl (by decide +kernel) ⟨Nat.le_of_ble_eq_true rfl, Nat.le_of_ble_eq_true rfl⟩) (wc_13 y g S) rfl (fun xq hq => kX1_number l D y g N a S xq hq) rfl (Nat.le_of_ble_eq_true rfl) dX1_numberAtFoot_9 ?_
    intro x1
    refine m_aload_n hC dX1_numberAtFoot_12 0 rfl ?_
    refine m_iload_n hC dX1_numberAtFoot_13 1 rfl ?_
    refine m_cIPV hC (As := [.int a]) (wc_ok y g) (cwV 1 hC.1.2.2.2.2 gX1_numberAtFoot_X1_numberStanding rfl rfl rfl (by decide +kernel) ⟨Nat.le_of_ble_eq_true rfl, Nat.le_of_ble_eq_true rfl⟩) (wc_13 y g S) rfl (fun xq hq => kX1_numberStanding l D y g N a S xq hq) rfl (Nat.le_of_ble_eq_true rfl) dX1_numberAtFoot_14 ?_
    intro x2
    refine m_isub hC dX1_numberAtFoot_17 ?_
    refine m_goto hC 22 dX1_numberAtFoot_18 (by decide) ?_
    exact hret _ _ _ dX1_numberAtFoot_22
def fX1_allAtFoot_L4 (N : Nat) (S : St) (r3 : Int32 → Int32 → Option (Int32)) : Int32 → Int32 → Option (Int32) := fun x1 x2 =>
  if x2 < (S.1 1 5) then
    caP (fX1_numberAtFoot N x2 S) fun x4 =>
    nmI (x1 + x4) fun x5 =>
    nmI (x2 + 1) fun x6 =>
    r3 x5 x6
  else
    some x1
def fX1_allAtFoot (N : Nat) (S : St) : Option (Int32) :=
  itN (fun _ _ => none) (fX1_allAtFoot_L4 N S) N 0 0
abbrev rmX1_allAtFoot : Room := { frames := 3, cells := 0, slots := 0, locals := 65 }
theorem iX1_allAtFoot_X1 : ∀ w ∈ wsX10, w ∈ wsX1_allAtFoot := fun w h => List.mem_cons_of_mem _ (List.mem_append_left _ (List.mem_append_right _ h))
theorem iX1_allAtFoot_X4 : ∀ w ∈ wsX40, w ∈ wsX1_allAtFoot := fun w h => List.mem_cons_of_mem _ (List.mem_append_right _ h)
set_option maxHeartbeats 4000000 in
set_option maxRecDepth 100000 in
theorem kX1_allAtFoot (l : Launch) (D : va_G) (y : Cy) (g : Nat → Nat) (N : Nat) (S : St) (x0 : Int32) (h : fX1_allAtFoot N S = some x0) : KI l yX1_allAtFoot wsX1_allAtFoot rmX1_allAtFoot D vwCl (tz y) (wc y g) (AC g) [.ref (g 13)] S (fun r S2 => r = x0 ∧ S2 = S) := by
  refine m_entryIP (wc_ok y g) (by decide) rfl (Nat.le_of_ble_eq_true rfl) (lv := [(0, .ref (g 13))]) rfl h ?_
  intro p e s m args below meth c hC hr hlocks
  obtain ⟨Q, hQ⟩ : ∃ Q, Q = (MQ below (va_Qi (fun r S2 => r = x0 ∧ S2 = S) (Bw D vwCl (tz y) (wc y g) (AC g s.heap.size)) (AC g s.heap.size)) args s 0 0 (AC g s.heap.size)) := ⟨_, rfl⟩
  rw [← hQ]
  have hret : ∀ (v : Int32) (pc : Nat) (lv : List (Nat × Value)), decode cX1_allAtFoot pc = .ok (.ireturn, 1) → Sm p l e (headSpec wsX1_allAtFoot rmX1_allAtFoot).room s m args below meth c D vwCl (wc y g) (AC g s.heap.size) 3 Q x0 (some v) S pc lv [.int v] := by
    rw [hQ]
    exact fun v pc lv hd => m_iretP hC hr hlocks hd
  clear hQ
  unfold fX1_allAtFoot
  refine m_iconst hC (0) dX1_allAtFoot_0 (by decide) ?_
  refine m_istore_n hC [(0, .ref (g 13)), (1, .int 0)] [1, 0] dX1_allAtFoot_1 (by decide) rfl rfl ?_
  refine m_iconst hC (0) dX1_allAtFoot_2 (by decide) ?_
  refine m_istore_n hC [(0, .ref (g 13)), (1, .int 0), (2, .int 0)] [1, 2, 0] dX1_allAtFoot_3 (by decide) rfl rfl ?_
  refine (m_it (z := (fun _ _ => none)) (F := fX1_allAtFoot_L4 N S) N (fun r3 => ∀ (x1 : Int32) (x2 : Int32), Sm p l e (headSpec wsX1_allAtFoot rmX1_allAtFoot).room s m args below meth c D vwCl (wc y g) (AC g s.heap.size) 3 Q x0 (r3 x1 x2) S 4 [(0, .ref (g 13)), (1, .int x1), (2, .int x2)] []) ?_ ?_) 0 0
  · exact fun _ _ => m_none
  · intro r3 hr3 x1 x2
    unfold fX1_allAtFoot_L4
    refine m_iload_n hC dX1_allAtFoot_4 2 rfl ?_
    refine m_aload_n hC dX1_allAtFoot_5 0 rfl ?_
    refine m_get hC iX1_allAtFoot_X1 (wc_13 y g S) rfl 0 (by decide) (List.mem_of_getElem? (i := 1) rfl) rfl rfl dX1_allAtFoot_6 ?_
    refine m_get hC iX1_allAtFoot_X4 (wc_1 y g S) rfl 5 (by decide) (List.mem_of_getElem? (i := 2) rfl) rfl rfl dX1_allAtFoot_9 ?_
    refine m_icmp_ge hC 29 dX1_allAtFoot_12 (by decide) ?_ ?_
    · refine m_iload_n hC dX1_allAtFoot_29 1 rfl ?_
      exact hret _ _ _ dX1_allAtFoot_30
    · refine m_iload_n hC dX1_allAtFoot_15 1 rfl ?_
      refine m_aload_n hC dX1_allAtFoot_16 0 rfl ?_
      refine m_iload_n hC dX1_allAtFoot_17 2 rfl ?_
      refine m_cIPV hC (As := [.int x2]) (wc_ok y g) (cwV 1 hC.1.2.2.2.2 gX1_allAtFoot_X1_numberAtFoot rfl rfl rfl (by decide +kernel) ⟨Nat.le_of_ble_eq_true rfl, Nat.le_of_ble_eq_true rfl⟩) (wc_13 y g S) rfl (fun xq hq => kX1_numberAtFoot l D y g N x2 S xq hq) rfl (Nat.le_of_ble_eq_true rfl) dX1_allAtFoot_18 ?_
      intro x4
      refine m_iadd hC dX1_allAtFoot_21 ?_
      refine m_nmI ?_
      intro x5
      refine m_istore_n hC [(0, .ref (g 13)), (1, .int x5), (2, .int x2)] [1, 0, 2] dX1_allAtFoot_22 (by decide) rfl rfl ?_
      refine m_iinc hC (fun x6 => [(0, .ref (g 13)), (1, .int x5), (2, .int x6)]) [1, 2, 0] dX1_allAtFoot_23 (j := 2) rfl (by decide) (by decide) (fun _ => rfl) (fun _ => rfl) ?_
      intro x6
      refine m_goto hC 4 dX1_allAtFoot_26 (by decide) ?_
      exact hr3 _ _
def fX1_end (a : Int32) (S : St) : Option (Int32) :=
  ldI 144 (S.1 16) a fun x1 =>
  ldI 144 (S.1 14) a fun x2 =>
  ldI 8 (S.1 2) x2 fun x3 =>
  some (x1 + x3)
abbrev rmX1_end : Room := { frames := 0, cells := 0, slots := 0, locals := 0 }
theorem iX1_end_X1 : ∀ w ∈ wsX10, w ∈ wsX1_end := fun w h => List.mem_cons_of_mem _ (List.mem_append_left _ (List.mem_append_right _ h))
theorem iX1_end_X4 : ∀ w ∈ wsX40, w ∈ wsX1_end := fun w h => List.mem_cons_of_mem _ (List.mem_append_right _ h)
set_option maxHeartbeats 4000000 in
set_option maxRecDepth 100000 in
theorem kX1_end (l : Launch) (D : va_G) (y : Cy) (g : Nat → Nat) (a : Int32) (S : St) (x0 : Int32) (h : fX1_end a S = some x0) : KI l yX1_end wsX1_end rmX1_end D vwCl (tz y) (wc y g) (AC g) [.ref (g 13), .int a] S (fun r S2 => r = x0 ∧ S2 = S) := by
  refine m_entryIP (wc_ok y g) (by decide) rfl (Nat.le_of_ble_eq_true rfl) (lv := [(0, .ref (g 13)), (1, .int a)]) rfl h ?_
  intro p e s m args below meth c hC hr hlocks
  obtain ⟨Q, hQ⟩ : ∃ Q, Q = (MQ below (va_Qi (fun r S2 => r = x0 ∧ S2 = S) (Bw D vwCl (tz y) (wc y g) (AC g s.heap.size)) (AC g s.heap.size)) args s 0 0 (AC g s.heap.size)) := ⟨_, rfl⟩
  rw [← hQ]
  have hret : ∀ (v : Int32) (pc : Nat) (lv : List (Nat × Value)), decode cX1_end pc = .ok (.ireturn, 1) → Sm p l e (headSpec wsX1_end rmX1_end).room s m args below meth c D vwCl (wc y g) (AC g s.heap.size) 2 Q x0 (some v) S pc lv [.int v] := by
    rw [hQ]
    exact fun v pc lv hd => m_iretP hC hr hlocks hd
  clear hQ
  unfold fX1_end
  refine m_aload_n hC dX1_end_0 0 rfl ?_
  refine m_get hC iX1_end_X1 (wc_13 y g S) rfl 4 (by decide) (List.mem_of_getElem? (i := 1) rfl) rfl rfl dX1_end_1 ?_
  refine m_iload_n hC dX1_end_4 1 rfl ?_
  refine m_iald hC (wc_16 y g S) (t0 := 0) rfl dX1_end_5 ?_
  intro x1
  refine m_aload_n hC dX1_end_6 0 rfl ?_
  refine m_get hC iX1_end_X1 (wc_13 y g S) rfl 0 (by decide) (List.mem_of_getElem? (i := 2) rfl) rfl rfl dX1_end_7 ?_
  refine m_get hC iX1_end_X4 (wc_1 y g S) rfl 0 (by decide) (List.mem_of_getElem? (i := 3) rfl) rfl rfl dX1_end_10 ?_
  refine m_aload_n hC dX1_end_13 0 rfl ?_
  refine m_get hC iX1_end_X1 (wc_13 y g S) rfl 2 (by decide) (List.mem_of_getElem? (i := 4) rfl) rfl rfl dX1_end_14 ?_
  refine m_iload_n hC dX1_end_17 1 rfl ?_
  refine m_iald hC (wc_14 y g S) (t0 := 0) rfl dX1_end_18 ?_
  intro x2
  refine m_iald hC (wc_2 y g S) (t0 := 0) rfl dX1_end_19 ?_
  intro x3
  refine m_iadd hC dX1_end_20 ?_
  exact hret _ _ _ dX1_end_21
def fX1_forget (S : St) : Option (St) :=
  pfI S 13 9 0 fun S1 =>
  pfI S1 13 10 0 fun S2 =>
  pfI S2 13 11 0 fun S3 =>
  some S3
abbrev rmX1_forget : Room := { frames := 0, cells := 0, slots := 0, locals := 0 }
theorem iX1_forget_X1 : ∀ w ∈ wsX10, w ∈ wsX1_forget := fun w h => List.mem_cons_of_mem _ (List.mem_append_right _ h)
set_option maxHeartbeats 4000000 in
set_option maxRecDepth 100000 in
theorem kX1_forget (l : Launch) (D : va_G) (y : Cy) (g : Nat → Nat) (S : St) (x0 : St) (h : fX1_forget S = some x0) : KV l yX1_forget wsX1_forget rmX1_forget D vwCl (tz y) (wc y g) (AC g) [.ref (g 13)] S (fun S2 => S2 = x0) := by
  refine m_entryV (wc_ok y g) (by decide) rfl (Nat.le_of_ble_eq_true rfl) (lv := [(0, .ref (g 13))]) rfl h ?_
  intro p e s m args below meth c hC hr hlocks
  obtain ⟨Q, hQ⟩ : ∃ Q, Q = (MQ below (va_Qv (fun S2 => S2 = x0) (Bw D vwCl (tz y) (wc y g) (AC g s.heap.size)) (AC g s.heap.size)) args s 0 0 (AC g s.heap.size)) := ⟨_, rfl⟩
  rw [← hQ]
  have hret : ∀ (S2 : St) (pc : Nat) (lv : List (Nat × Value)), decode cX1_forget pc = .ok (.return_, 1) → Sm p l e (headSpec wsX1_forget rmX1_forget).room s m args below meth c D vwCl (wc y g) (AC g s.heap.size) 1 Q x0 (some S2) S2 pc lv [] := by
    rw [hQ]
    exact fun S2 pc lv hd => m_vret hC hr hlocks hd
  clear hQ
  unfold fX1_forget
  refine m_aload_n hC dX1_forget_0 0 rfl ?_
  refine m_iconst hC (0) dX1_forget_1 (by decide) ?_
  refine m_putI (ty := .int) hC iX1_forget_X1 tyX1 tyX1_ok nmX1 (wc_13 y g S) rfl 9 (by decide) (List.mem_of_getElem? (i := 1) rfl) rfl rfl (by decide +kernel) rfl rfl (Nat.le_of_ble_eq_true rfl) dX1_forget_2 (wcf_13_9 y g S _) ?_
  intro S1
  refine m_aload_n hC dX1_forget_5 0 rfl ?_
  refine m_iconst hC (0) dX1_forget_6 (by decide) ?_
  refine m_putI (ty := .boolean) hC iX1_forget_X1 tyX1 tyX1_ok nmX1 (wc_13 y g S1) rfl 10 (by decide) (List.mem_of_getElem? (i := 2) rfl) rfl rfl (by decide +kernel) rfl rfl (Nat.le_of_ble_eq_true rfl) dX1_forget_7 (wcf_13_10 y g S1 _) ?_
  intro S2
  refine m_aload_n hC dX1_forget_10 0 rfl ?_
  refine m_iconst hC (0) dX1_forget_11 (by decide) ?_
  refine m_putI (ty := .int) hC iX1_forget_X1 tyX1 tyX1_ok nmX1 (wc_13 y g S2) rfl 11 (by decide) (List.mem_of_getElem? (i := 3) rfl) rfl rfl (by decide +kernel) rfl rfl (Nat.le_of_ble_eq_true rfl) dX1_forget_12 (wcf_13_11 y g S2 _) ?_
  intro S3
  exact hret _ _ _ dX1_forget_15
def fX1_hearting (a : Int32) (S : St) : Option (Int32) :=
  ldI 144 (S.1 14) a fun x1 =>
  ldI 8 (S.1 2) x1 fun x2 =>
  ldI 144 (S.1 15) a fun x3 =>
  caP (fX3_width x3 S) fun x4 =>
  ldI 8 (S.1 3) x1 fun x5 =>
  some (x2 * (mxI 0 (x4 - x5)))
abbrev rmX1_hearting : Room := { frames := 2, cells := 0, slots := 0, locals := 42 }
theorem iX1_hearting_X1 : ∀ w ∈ wsX10, w ∈ wsX1_hearting := fun w h => List.mem_cons_of_mem _ (List.mem_append_left _ (List.mem_append_left _ (List.mem_append_right _ h)))
theorem iX1_hearting_X4 : ∀ w ∈ wsX40, w ∈ wsX1_hearting := fun w h => List.mem_cons_of_mem _ (List.mem_append_left _ (List.mem_append_right _ h))
theorem iX1_hearting_X3 : ∀ w ∈ wsX30, w ∈ wsX1_hearting := fun w h => List.mem_cons_of_mem _ (List.mem_append_right _ h)
set_option maxHeartbeats 4000000 in
set_option maxRecDepth 100000 in
theorem kX1_hearting (l : Launch) (D : va_G) (y : Cy) (g : Nat → Nat) (a : Int32) (S : St) (x0 : Int32) (h : fX1_hearting a S = some x0) : KI l yX1_hearting wsX1_hearting rmX1_hearting D vwCl (tz y) (wc y g) (AC g) [.ref (g 13), .int a] S (fun r S2 => r = x0 ∧ S2 = S) := by
  refine m_entryIP (wc_ok y g) (by decide) rfl (Nat.le_of_ble_eq_true rfl) (lv := [(0, .ref (g 13)), (1, .int a)]) rfl h ?_
  intro p e s m args below meth c hC hr hlocks
  obtain ⟨Q, hQ⟩ : ∃ Q, Q = (MQ below (va_Qi (fun r S2 => r = x0 ∧ S2 = S) (Bw D vwCl (tz y) (wc y g) (AC g s.heap.size)) (AC g s.heap.size)) args s 0 0 (AC g s.heap.size)) := ⟨_, rfl⟩
  rw [← hQ]
  have hret : ∀ (v : Int32) (pc : Nat) (lv : List (Nat × Value)), decode cX1_hearting pc = .ok (.ireturn, 1) → Sm p l e (headSpec wsX1_hearting rmX1_hearting).room s m args below meth c D vwCl (wc y g) (AC g s.heap.size) 3 Q x0 (some v) S pc lv [.int v] := by
    rw [hQ]
    exact fun v pc lv hd => m_iretP hC hr hlocks hd
  clear hQ
  unfold fX1_hearting
  refine m_aload_n hC dX1_hearting_0 0 rfl ?_
  refine m_get hC iX1_hearting_X1 (wc_13 y g S) rfl 2 (by decide) (List.mem_of_getElem? (i := 1) rfl) rfl rfl dX1_hearting_1 ?_
  refine m_iload_n hC dX1_hearting_4 1 rfl ?_
  refine m_iald hC (wc_14 y g S) (t0 := 0) rfl dX1_hearting_5 ?_
  intro x1
  refine m_istore_n hC [(0, .ref (g 13)), (1, .int a), (2, .int x1)] [1, 2, 0] dX1_hearting_6 (by decide) rfl rfl ?_
  refine m_aload_n hC dX1_hearting_7 0 rfl ?_
  refine m_get hC iX1_hearting_X1 (wc_13 y g S) rfl 0 (by decide) (List.mem_of_getElem? (i := 2) rfl) rfl rfl dX1_hearting_8 ?_
  refine m_get hC iX1_hearting_X4 (wc_1 y g S) rfl 0 (by decide) (List.mem_of_getElem? (i := 3) rfl) rfl rfl dX1_hearting_11 ?_
  refine m_iload_n hC dX1_hearting_14 2 rfl ?_
  refine m_iald hC (wc_2 y g S) (t0 := 0) rfl dX1_hearting_15 ?_
  intro x2
  refine m_iconst hC (0) dX1_hearting_16 (by decide) ?_
  refine m_aload_n hC dX1_hearting_17 0 rfl ?_
  refine m_get hC iX1_hearting_X1 (wc_13 y g S) rfl 1 (by decide) (List.mem_of_getElem? (i := 4) rfl) rfl rfl dX1_hearting_18 ?_
  refine m_aload_n hC dX1_hearting_21 0 rfl ?_
  refine m_get hC iX1_hearting_X1 (wc_13 y g S) rfl 3 (by decide) (List.mem_of_getElem? (i := 5) rfl) rfl rfl dX1_hearting_22 ?_
  refine m_iload_n hC dX1_hearting_25 1 rfl ?_
  refine m_iald hC (wc_15 y g S) (t0 := 0) rfl dX1_hearting_26 ?_
  intro x3
  refine m_cIPV hC (As := [.int x3]) (wc_ok y g) (cwV 1 hC.1.2.2.2.2 gX1_hearting_X3_width rfl rfl rfl (by decide +kernel) ⟨Nat.le_of_ble_eq_true rfl, Nat.le_of_ble_eq_true rfl⟩) (wc_12 y g S) rfl (fun xq hq => kX3_width l D y g x3 S xq hq) rfl (Nat.le_of_ble_eq_true rfl) dX1_hearting_27 ?_
  intro x4
  refine m_aload_n hC dX1_hearting_30 0 rfl ?_
  refine m_get hC iX1_hearting_X1 (wc_13 y g S) rfl 0 (by decide) (List.mem_of_getElem? (i := 2) rfl) rfl rfl dX1_hearting_31 ?_
  refine m_get hC iX1_hearting_X4 (wc_1 y g S) rfl 1 (by decide) (List.mem_of_getElem? (i := 6) rfl) rfl rfl dX1_hearting_34 ?_
  refine m_iload_n hC dX1_hearting_37 2 rfl ?_
  refine m_iald hC (wc_3 y g S) (t0 := 0) rfl dX1_hearting_38 ?_
  intro x5
  refine m_isub hC dX1_hearting_39 ?_
  refine m_max hC (List.mem_of_getElem? (i := 7) rfl) (List.mem_of_getElem? (i := 8) rfl) (List.mem_of_getElem? (i := 9) rfl) (List.mem_of_getElem? (i := 10) rfl) (Nat.le_of_ble_eq_true rfl) (Nat.le_of_ble_eq_true rfl) dX1_hearting_40 ?_
  refine m_imul hC dX1_hearting_43 ?_
  exact hret _ _ _ dX1_hearting_44
def fX1_heartingInAll_L4 (S : St) (r3 : Int32 → Int32 → Option (Int32)) : Int32 → Int32 → Option (Int32) := fun x1 x2 =>
  if x2 < (S.1 13 9) then
    caP (fX1_hearting x2 S) fun x4 =>
    nmI (x1 + x4) fun x5 =>
    nmI (x2 + 1) fun x6 =>
    r3 x5 x6
  else
    some x1
def fX1_heartingInAll (N : Nat) (S : St) : Option (Int32) :=
  itN (fun _ _ => none) (fX1_heartingInAll_L4 S) N 0 0
abbrev rmX1_heartingInAll : Room := { frames := 3, cells := 0, slots := 0, locals := 64 }
theorem iX1_heartingInAll_X1 : ∀ w ∈ wsX10, w ∈ wsX1_heartingInAll := fun w h => List.mem_cons_of_mem _ (List.mem_append_left _ (List.mem_append_left _ (List.mem_append_right _ h)))
theorem iX1_heartingInAll_X4 : ∀ w ∈ wsX40, w ∈ wsX1_heartingInAll := fun w h => List.mem_cons_of_mem _ (List.mem_append_left _ (List.mem_append_right _ h))
theorem iX1_heartingInAll_X3 : ∀ w ∈ wsX30, w ∈ wsX1_heartingInAll := fun w h => List.mem_cons_of_mem _ (List.mem_append_right _ h)
set_option maxHeartbeats 4000000 in
set_option maxRecDepth 100000 in
theorem kX1_heartingInAll (l : Launch) (D : va_G) (y : Cy) (g : Nat → Nat) (N : Nat) (S : St) (x0 : Int32) (h : fX1_heartingInAll N S = some x0) : KI l yX1_heartingInAll wsX1_heartingInAll rmX1_heartingInAll D vwCl (tz y) (wc y g) (AC g) [.ref (g 13)] S (fun r S2 => r = x0 ∧ S2 = S) := by
  refine m_entryIP (wc_ok y g) (by decide) rfl (Nat.le_of_ble_eq_true rfl) (lv := [(0, .ref (g 13))]) rfl h ?_
  intro p e s m args below meth c hC hr hlocks
  obtain ⟨Q, hQ⟩ : ∃ Q, Q = (MQ below (va_Qi (fun r S2 => r = x0 ∧ S2 = S) (Bw D vwCl (tz y) (wc y g) (AC g s.heap.size)) (AC g s.heap.size)) args s 0 0 (AC g s.heap.size)) := ⟨_, rfl⟩
  rw [← hQ]
  have hret : ∀ (v : Int32) (pc : Nat) (lv : List (Nat × Value)), decode cX1_heartingInAll pc = .ok (.ireturn, 1) → Sm p l e (headSpec wsX1_heartingInAll rmX1_heartingInAll).room s m args below meth c D vwCl (wc y g) (AC g s.heap.size) 3 Q x0 (some v) S pc lv [.int v] := by
    rw [hQ]
    exact fun v pc lv hd => m_iretP hC hr hlocks hd
  clear hQ
  unfold fX1_heartingInAll
  refine m_iconst hC (0) dX1_heartingInAll_0 (by decide) ?_
  refine m_istore_n hC [(0, .ref (g 13)), (1, .int 0)] [1, 0] dX1_heartingInAll_1 (by decide) rfl rfl ?_
  refine m_iconst hC (0) dX1_heartingInAll_2 (by decide) ?_
  refine m_istore_n hC [(0, .ref (g 13)), (1, .int 0), (2, .int 0)] [1, 2, 0] dX1_heartingInAll_3 (by decide) rfl rfl ?_
  refine (m_it (z := (fun _ _ => none)) (F := fX1_heartingInAll_L4 S) N (fun r3 => ∀ (x1 : Int32) (x2 : Int32), Sm p l e (headSpec wsX1_heartingInAll rmX1_heartingInAll).room s m args below meth c D vwCl (wc y g) (AC g s.heap.size) 3 Q x0 (r3 x1 x2) S 4 [(0, .ref (g 13)), (1, .int x1), (2, .int x2)] []) ?_ ?_) 0 0
  · exact fun _ _ => m_none
  · intro r3 hr3 x1 x2
    unfold fX1_heartingInAll_L4
    refine m_iload_n hC dX1_heartingInAll_4 2 rfl ?_
    refine m_aload_n hC dX1_heartingInAll_5 0 rfl ?_
    refine m_get hC iX1_heartingInAll_X1 (wc_13 y g S) rfl 9 (by decide) (List.mem_of_getElem? (i := 1) rfl) rfl rfl dX1_heartingInAll_6 ?_
    refine m_icmp_ge hC 26 dX1_heartingInAll_9 (by decide) ?_ ?_
    · refine m_iload_n hC dX1_heartingInAll_26 1 rfl ?_
      exact hret _ _ _ dX1_heartingInAll_27
    · refine m_iload_n hC dX1_heartingInAll_12 1 rfl ?_
      refine m_aload_n hC dX1_heartingInAll_13 0 rfl ?_
      refine m_iload_n hC dX1_heartingInAll_14 2 rfl ?_
      refine m_cIPV hC (As := [.int x2]) (wc_ok y g) (cwV 1 hC.1.2.2.2.2 gX1_heartingInAll_X1_hearting rfl rfl rfl (by decide +kernel) ⟨Nat.le_of_ble_eq_true rfl, Nat.le_of_ble_eq_true rfl⟩) (wc_13 y g S) rfl (fun xq hq => kX1_hearting l D y g x2 S xq hq) rfl (Nat.le_of_ble_eq_true rfl) dX1_heartingInAll_15 ?_
      intro x4
      refine m_iadd hC dX1_heartingInAll_18 ?_
      refine m_nmI ?_
      intro x5
      refine m_istore_n hC [(0, .ref (g 13)), (1, .int x5), (2, .int x2)] [1, 0, 2] dX1_heartingInAll_19 (by decide) rfl rfl ?_
      refine m_iinc hC (fun x6 => [(0, .ref (g 13)), (1, .int x5), (2, .int x6)]) [1, 2, 0] dX1_heartingInAll_20 (j := 2) rfl (by decide) (by decide) (fun _ => rfl) (fun _ => rfl) ?_
      intro x6
      refine m_goto hC 4 dX1_heartingInAll_23 (by decide) ?_
      exact hr3 _ _
def fX1_placesOf (a : Int32) (S : St) : Option (Int32) :=
  caP (fX1_end a S) fun x1 =>
  ldI 144 (S.1 16) a fun x2 =>
  some ((1 <<< (x1 &&& 31)) - (1 <<< (x2 &&& 31)))
abbrev rmX1_placesOf : Room := { frames := 1, cells := 0, slots := 0, locals := 21 }
theorem iX1_placesOf_X1 : ∀ w ∈ wsX10, w ∈ wsX1_placesOf := fun w h => List.mem_cons_of_mem _ (List.mem_append_left _ (List.mem_append_right _ h))
theorem iX1_placesOf_X4 : ∀ w ∈ wsX40, w ∈ wsX1_placesOf := fun w h => List.mem_cons_of_mem _ (List.mem_append_right _ h)
set_option maxHeartbeats 4000000 in
set_option maxRecDepth 100000 in
theorem kX1_placesOf (l : Launch) (D : va_G) (y : Cy) (g : Nat → Nat) (a : Int32) (S : St) (x0 : Int32) (h : fX1_placesOf a S = some x0) : KI l yX1_placesOf wsX1_placesOf rmX1_placesOf D vwCl (tz y) (wc y g) (AC g) [.ref (g 13), .int a] S (fun r S2 => r = x0 ∧ S2 = S) := by
  refine m_entryIP (wc_ok y g) (by decide) rfl (Nat.le_of_ble_eq_true rfl) (lv := [(0, .ref (g 13)), (1, .int a)]) rfl h ?_
  intro p e s m args below meth c hC hr hlocks
  obtain ⟨Q, hQ⟩ : ∃ Q, Q = (MQ below (va_Qi (fun r S2 => r = x0 ∧ S2 = S) (Bw D vwCl (tz y) (wc y g) (AC g s.heap.size)) (AC g s.heap.size)) args s 0 0 (AC g s.heap.size)) := ⟨_, rfl⟩
  rw [← hQ]
  have hret : ∀ (v : Int32) (pc : Nat) (lv : List (Nat × Value)), decode cX1_placesOf pc = .ok (.ireturn, 1) → Sm p l e (headSpec wsX1_placesOf rmX1_placesOf).room s m args below meth c D vwCl (wc y g) (AC g s.heap.size) 2 Q x0 (some v) S pc lv [.int v] := by
    rw [hQ]
    exact fun v pc lv hd => m_iretP hC hr hlocks hd
  clear hQ
  unfold fX1_placesOf
  refine m_iconst hC (1) dX1_placesOf_0 (by decide) ?_
  refine m_aload_n hC dX1_placesOf_1 0 rfl ?_
  refine m_iload_n hC dX1_placesOf_2 1 rfl ?_
  refine m_cIPV hC (As := [.int a]) (wc_ok y g) (cwV 1 hC.1.2.2.2.2 gX1_placesOf_X1_end rfl rfl rfl (by decide +kernel) ⟨Nat.le_of_ble_eq_true rfl, Nat.le_of_ble_eq_true rfl⟩) (wc_13 y g S) rfl (fun xq hq => kX1_end l D y g a S xq hq) rfl (Nat.le_of_ble_eq_true rfl) dX1_placesOf_3 ?_
  intro x1
  refine m_ishl hC dX1_placesOf_6 ?_
  refine m_iconst hC (1) dX1_placesOf_7 (by decide) ?_
  refine m_aload_n hC dX1_placesOf_8 0 rfl ?_
  refine m_get hC iX1_placesOf_X1 (wc_13 y g S) rfl 4 (by decide) (List.mem_of_getElem? (i := 1) rfl) rfl rfl dX1_placesOf_9 ?_
  refine m_iload_n hC dX1_placesOf_12 1 rfl ?_
  refine m_iald hC (wc_16 y g S) (t0 := 0) rfl dX1_placesOf_13 ?_
  intro x2
  refine m_ishl hC dX1_placesOf_14 ?_
  refine m_isub hC dX1_placesOf_15 ?_
  exact hret _ _ _ dX1_placesOf_16
def fX1_isBorne (a : Int32) (S : St) : Option (Int32) :=
  ldI 144 (S.1 15) a fun x1 =>
  nmI (x1 - 1) fun x2 =>
  if x2 < 0 then
    some 1
  else
    caP (fX1_placesOf a S) fun x3 =>
    ldI 6 (S.1 20) x2 fun x4 =>
    caP (fJ6_bitCount_0f7a4 (x3 &&& x4)) fun x5 =>
    caP (fX1_end a S) fun x6 =>
    ldI 144 (S.1 16) a fun x7 =>
    if (2 * x5) < (x6 - x7) then
      some 0
    else
      some 1
abbrev rmX1_isBorne : Room := { frames := 2, cells := 0, slots := 0, locals := 42 }
theorem iX1_isBorne_X1 : ∀ w ∈ wsX10, w ∈ wsX1_isBorne := fun w h => List.mem_cons_of_mem _ (List.mem_append_left _ (List.mem_append_right _ h))
theorem iX1_isBorne_X4 : ∀ w ∈ wsX40, w ∈ wsX1_isBorne := fun w h => List.mem_cons_of_mem _ (List.mem_append_right _ h)
set_option maxHeartbeats 4000000 in
set_option maxRecDepth 100000 in
theorem kX1_isBorne (l : Launch) (D : va_G) (y : Cy) (g : Nat → Nat) (a : Int32) (S : St) (x0 : Int32) (h : fX1_isBorne a S = some x0) : KI l yX1_isBorne wsX1_isBorne rmX1_isBorne D vwCl (tz y) (wc y g) (AC g) [.ref (g 13), .int a] S (fun r S2 => r = x0 ∧ S2 = S) := by
  refine m_entryIP (wc_ok y g) (by decide) rfl (Nat.le_of_ble_eq_true rfl) (lv := [(0, .ref (g 13)), (1, .int a)]) rfl h ?_
  intro p e s m args below meth c hC hr hlocks
  obtain ⟨Q, hQ⟩ : ∃ Q, Q = (MQ below (va_Qi (fun r S2 => r = x0 ∧ S2 = S) (Bw D vwCl (tz y) (wc y g) (AC g s.heap.size)) (AC g s.heap.size)) args s 0 0 (AC g s.heap.size)) := ⟨_, rfl⟩
  rw [← hQ]
  have hret : ∀ (v : Int32) (pc : Nat) (lv : List (Nat × Value)), decode cX1_isBorne pc = .ok (.ireturn, 1) → narrow .boolean (.int v) = .int v → Sm p l e (headSpec wsX1_isBorne rmX1_isBorne).room s m args below meth c D vwCl (wc y g) (AC g s.heap.size) 3 Q x0 (some v) S pc lv [.int v] := by
    rw [hQ]
    exact fun v pc lv hd hz => m_zretP hC hz hr hlocks hd
  clear hQ
  unfold fX1_isBorne
  refine m_aload_n hC dX1_isBorne_0 0 rfl ?_
  refine m_get hC iX1_isBorne_X1 (wc_13 y g S) rfl 3 (by decide) (List.mem_of_getElem? (i := 1) rfl) rfl rfl dX1_isBorne_1 ?_
  refine m_iload_n hC dX1_isBorne_4 1 rfl ?_
  refine m_iald hC (wc_15 y g S) (t0 := 0) rfl dX1_isBorne_5 ?_
  intro x1
  refine m_iconst hC (1) dX1_isBorne_6 (by decide) ?_
  refine m_isub hC dX1_isBorne_7 ?_
  refine m_nmI ?_
  intro x2
  refine m_istore_n hC [(0, .ref (g 13)), (1, .int a), (2, .int x2)] [1, 2, 0] dX1_isBorne_8 (by decide) rfl rfl ?_
  refine m_iload_n hC dX1_isBorne_9 2 rfl ?_
  refine m_if_lt hC 45 dX1_isBorne_10 (by decide) ?_ ?_
  · refine m_iconst hC (1) dX1_isBorne_45 (by decide) ?_
    refine m_goto hC 50 dX1_isBorne_46 (by decide) ?_
    exact hret _ _ _ dX1_isBorne_50 rfl
  · refine m_iconst hC (2) dX1_isBorne_13 (by decide) ?_
    refine m_aload_n hC dX1_isBorne_14 0 rfl ?_
    refine m_iload_n hC dX1_isBorne_15 1 rfl ?_
    refine m_cIPV hC (As := [.int a]) (wc_ok y g) (cwV 1 hC.1.2.2.2.2 gX1_isBorne_X1_placesOf rfl rfl rfl (by decide +kernel) ⟨Nat.le_of_ble_eq_true rfl, Nat.le_of_ble_eq_true rfl⟩) (wc_13 y g S) rfl (fun xq hq => kX1_placesOf l D y g a S xq hq) rfl (Nat.le_of_ble_eq_true rfl) dX1_isBorne_16 ?_
    intro x3
    refine m_aload_n hC dX1_isBorne_19 0 rfl ?_
    refine m_get hC iX1_isBorne_X1 (wc_13 y g S) rfl 8 (by decide) (List.mem_of_getElem? (i := 2) rfl) rfl rfl dX1_isBorne_20 ?_
    refine m_iload_n hC dX1_isBorne_23 2 rfl ?_
    refine m_iald hC (wc_20 y g S) (t0 := 0) rfl dX1_isBorne_24 ?_
    intro x4
    refine m_iand hC dX1_isBorne_25 ?_
    refine m_cIPS hC (As := [.int (x3 &&& x4)]) (wc_ok y g) (va_cwS 1 hC.1.2.2.2.2 gX1_isBorne_J6_bitCount_0f7a4 rfl rfl rfl (by decide +kernel) ⟨Nat.le_of_ble_eq_true rfl, Nat.le_of_ble_eq_true rfl⟩) (fun xq hq => kJ6_bitCount_0f7a4 l D y g (x3 &&& x4) S xq hq) rfl (Nat.le_of_ble_eq_true rfl) dX1_isBorne_26 ?_
    intro x5
    refine m_imul hC dX1_isBorne_29 ?_
    refine m_aload_n hC dX1_isBorne_30 0 rfl ?_
    refine m_iload_n hC dX1_isBorne_31 1 rfl ?_
    refine m_cIPV hC (As := [.int a]) (wc_ok y g) (cwV 1 hC.1.2.2.2.2 gX1_isBorne_X1_end rfl rfl rfl (by decide +kernel) ⟨Nat.le_of_ble_eq_true rfl, Nat.le_of_ble_eq_true rfl⟩) (wc_13 y g S) rfl (fun xq hq => kX1_end l D y g a S xq hq) rfl (Nat.le_of_ble_eq_true rfl) dX1_isBorne_32 ?_
    intro x6
    refine m_aload_n hC dX1_isBorne_35 0 rfl ?_
    refine m_get hC iX1_isBorne_X1 (wc_13 y g S) rfl 4 (by decide) (List.mem_of_getElem? (i := 3) rfl) rfl rfl dX1_isBorne_36 ?_
    refine m_iload_n hC dX1_isBorne_39 1 rfl ?_
    refine m_iald hC (wc_16 y g S) (t0 := 0) rfl dX1_isBorne_40 ?_
    intro x7
    refine m_isub hC dX1_isBorne_41 ?_
    refine m_icmp_lt hC 49 dX1_isBorne_42 (by decide) ?_ ?_
    · refine m_iconst hC (0) dX1_isBorne_49 (by decide) ?_
      exact hret _ _ _ dX1_isBorne_50 rfl
    · refine m_iconst hC (1) dX1_isBorne_45 (by decide) ?_
      refine m_goto hC 50 dX1_isBorne_46 (by decide) ?_
      exact hret _ _ _ dX1_isBorne_50 rfl
def fX1_isThroughStone (a : Int32) (S : St) : Option (Int32) :=
  ldI 144 (S.1 14) a fun x1 =>
  ldI 8 (S.1 3) x1 fun x2 =>
  ldI 144 (S.1 15) a fun x3 =>
  caP (fX3_width x3 S) fun x4 =>
  if x2 < x4 then
    some 0
  else
    some 1
abbrev rmX1_isThroughStone : Room := { frames := 2, cells := 0, slots := 0, locals := 42 }
theorem iX1_isThroughStone_X1 : ∀ w ∈ wsX10, w ∈ wsX1_isThroughStone := fun w h => List.mem_cons_of_mem _ (List.mem_append_left _ (List.mem_append_left _ (List.mem_append_right _ h)))
theorem iX1_isThroughStone_X4 : ∀ w ∈ wsX40, w ∈ wsX1_isThroughStone := fun w h => List.mem_cons_of_mem _ (List.mem_append_left _ (List.mem_append_right _ h))
theorem iX1_isThroughStone_X3 : ∀ w ∈ wsX30, w ∈ wsX1_isThroughStone := fun w h => List.mem_cons_of_mem _ (List.mem_append_right _ h)
set_option maxHeartbeats 4000000 in
set_option maxRecDepth 100000 in
theorem kX1_isThroughStone (l : Launch) (D : va_G) (y : Cy) (g : Nat → Nat) (a : Int32) (S : St) (x0 : Int32) (h : fX1_isThroughStone a S = some x0) : KI l yX1_isThroughStone wsX1_isThroughStone rmX1_isThroughStone D vwCl (tz y) (wc y g) (AC g) [.ref (g 13), .int a] S (fun r S2 => r = x0 ∧ S2 = S) := by
  refine m_entryIP (wc_ok y g) (by decide) rfl (Nat.le_of_ble_eq_true rfl) (lv := [(0, .ref (g 13)), (1, .int a)]) rfl h ?_
  intro p e s m args below meth c hC hr hlocks
  obtain ⟨Q, hQ⟩ : ∃ Q, Q = (MQ below (va_Qi (fun r S2 => r = x0 ∧ S2 = S) (Bw D vwCl (tz y) (wc y g) (AC g s.heap.size)) (AC g s.heap.size)) args s 0 0 (AC g s.heap.size)) := ⟨_, rfl⟩
  rw [← hQ]
  have hret : ∀ (v : Int32) (pc : Nat) (lv : List (Nat × Value)), decode cX1_isThroughStone pc = .ok (.ireturn, 1) → narrow .boolean (.int v) = .int v → Sm p l e (headSpec wsX1_isThroughStone rmX1_isThroughStone).room s m args below meth c D vwCl (wc y g) (AC g s.heap.size) 2 Q x0 (some v) S pc lv [.int v] := by
    rw [hQ]
    exact fun v pc lv hd hz => m_zretP hC hz hr hlocks hd
  clear hQ
  unfold fX1_isThroughStone
  refine m_aload_n hC dX1_isThroughStone_0 0 rfl ?_
  refine m_get hC iX1_isThroughStone_X1 (wc_13 y g S) rfl 0 (by decide) (List.mem_of_getElem? (i := 1) rfl) rfl rfl dX1_isThroughStone_1 ?_
  refine m_get hC iX1_isThroughStone_X4 (wc_1 y g S) rfl 1 (by decide) (List.mem_of_getElem? (i := 2) rfl) rfl rfl dX1_isThroughStone_4 ?_
  refine m_aload_n hC dX1_isThroughStone_7 0 rfl ?_
  refine m_get hC iX1_isThroughStone_X1 (wc_13 y g S) rfl 2 (by decide) (List.mem_of_getElem? (i := 3) rfl) rfl rfl dX1_isThroughStone_8 ?_
  refine m_iload_n hC dX1_isThroughStone_11 1 rfl ?_
  refine m_iald hC (wc_14 y g S) (t0 := 0) rfl dX1_isThroughStone_12 ?_
  intro x1
  refine m_iald hC (wc_3 y g S) (t0 := 0) rfl dX1_isThroughStone_13 ?_
  intro x2
  refine m_aload_n hC dX1_isThroughStone_14 0 rfl ?_
  refine m_get hC iX1_isThroughStone_X1 (wc_13 y g S) rfl 1 (by decide) (List.mem_of_getElem? (i := 4) rfl) rfl rfl dX1_isThroughStone_15 ?_
  refine m_aload_n hC dX1_isThroughStone_18 0 rfl ?_
  refine m_get hC iX1_isThroughStone_X1 (wc_13 y g S) rfl 3 (by decide) (List.mem_of_getElem? (i := 5) rfl) rfl rfl dX1_isThroughStone_19 ?_
  refine m_iload_n hC dX1_isThroughStone_22 1 rfl ?_
  refine m_iald hC (wc_15 y g S) (t0 := 0) rfl dX1_isThroughStone_23 ?_
  intro x3
  refine m_cIPV hC (As := [.int x3]) (wc_ok y g) (cwV 1 hC.1.2.2.2.2 gX1_isThroughStone_X3_width rfl rfl rfl (by decide +kernel) ⟨Nat.le_of_ble_eq_true rfl, Nat.le_of_ble_eq_true rfl⟩) (wc_12 y g S) rfl (fun xq hq => kX3_width l D y g x3 S xq hq) rfl (Nat.le_of_ble_eq_true rfl) dX1_isThroughStone_24 ?_
  intro x4
  refine m_icmp_lt hC 34 dX1_isThroughStone_27 (by decide) ?_ ?_
  · refine m_iconst hC (0) dX1_isThroughStone_34 (by decide) ?_
    exact hret _ _ _ dX1_isThroughStone_35 rfl
  · refine m_iconst hC (1) dX1_isThroughStone_30 (by decide) ?_
    refine m_goto hC 35 dX1_isThroughStone_31 (by decide) ?_
    exact hret _ _ _ dX1_isThroughStone_35 rfl
def fX1_layAnew_L4 (r4 : Int32 → Int32 → St → Option (Int32 × St)) : Int32 → Int32 → St → Option (Int32 × St) := fun x1 x2 S3 =>
  if x2 < (S3.1 13 9) then
    ldI 144 (S3.1 19) x2 fun x5 =>
    if x5 = 0 then
      stI S3 19 144 x2 1 fun S7 =>
      stI S7 17 144 x2 99 fun S8 =>
      nmI (x1 + 1) fun x9 =>
      nmI (x2 + 1) fun x10 =>
      r4 x9 x10 S8
    else
      nmI (x2 + 1) fun x6 =>
      r4 x1 x6 S3
  else
    some (x1, S3)
def fX1_layAnew (N : Nat) (S : St) : Option (Int32 × St) :=
  itN (fun _ _ _ => none) (fX1_layAnew_L4) N 0 0 S
abbrev rmX1_layAnew : Room := { frames := 0, cells := 0, slots := 0, locals := 0 }
theorem iX1_layAnew_X1 : ∀ w ∈ wsX10, w ∈ wsX1_layAnew := fun w h => List.mem_cons_of_mem _ (List.mem_append_right _ h)
set_option maxHeartbeats 4000000 in
set_option maxRecDepth 100000 in
theorem kX1_layAnew (l : Launch) (D : va_G) (y : Cy) (g : Nat → Nat) (N : Nat) (S : St) (x0 : Int32 × St) (h : fX1_layAnew N S = some x0) : KI l yX1_layAnew wsX1_layAnew rmX1_layAnew D vwCl (tz y) (wc y g) (AC g) [.ref (g 13)] S (fun r S2 => (r, S2) = x0) := by
  refine m_entryI (wc_ok y g) (by decide) rfl (Nat.le_of_ble_eq_true rfl) (lv := [(0, .ref (g 13))]) rfl h ?_
  intro p e s m args below meth c hC hr hlocks
  obtain ⟨Q, hQ⟩ : ∃ Q, Q = (MQ below (va_Qi (fun r S2 => (r, S2) = x0) (Bw D vwCl (tz y) (wc y g) (AC g s.heap.size)) (AC g s.heap.size)) args s 0 0 (AC g s.heap.size)) := ⟨_, rfl⟩
  rw [← hQ]
  have hret : ∀ (v : Int32) (S2 : St) (pc : Nat) (lv : List (Nat × Value)), decode cX1_layAnew pc = .ok (.ireturn, 1) → Sm p l e (headSpec wsX1_layAnew rmX1_layAnew).room s m args below meth c D vwCl (wc y g) (AC g s.heap.size) 3 Q x0 (some (v, S2)) S2 pc lv [.int v] := by
    rw [hQ]
    exact fun v S2 pc lv hd => m_iret hC hr hlocks hd
  clear hQ
  unfold fX1_layAnew
  refine m_iconst hC (0) dX1_layAnew_0 (by decide) ?_
  refine m_istore_n hC [(0, .ref (g 13)), (1, .int 0)] [1, 0] dX1_layAnew_1 (by decide) rfl rfl ?_
  refine m_iconst hC (0) dX1_layAnew_2 (by decide) ?_
  refine m_istore_n hC [(0, .ref (g 13)), (1, .int 0), (2, .int 0)] [1, 2, 0] dX1_layAnew_3 (by decide) rfl rfl ?_
  refine (m_it (z := (fun _ _ _ => none)) (F := fX1_layAnew_L4) N (fun r4 => ∀ (x1 : Int32) (x2 : Int32) (S3 : St), Sm p l e (headSpec wsX1_layAnew rmX1_layAnew).room s m args below meth c D vwCl (wc y g) (AC g s.heap.size) 3 Q x0 (r4 x1 x2 S3) S3 4 [(0, .ref (g 13)), (1, .int x1), (2, .int x2)] []) ?_ ?_) 0 0 S
  · exact fun _ _ _ => m_none
  · intro r4 hr4 x1 x2 S3
    unfold fX1_layAnew_L4
    refine m_iload_n hC dX1_layAnew_4 2 rfl ?_
    refine m_aload_n hC dX1_layAnew_5 0 rfl ?_
    refine m_get hC iX1_layAnew_X1 (wc_13 y g S3) rfl 9 (by decide) (List.mem_of_getElem? (i := 1) rfl) rfl rfl dX1_layAnew_6 ?_
    refine m_icmp_ge hC 45 dX1_layAnew_9 (by decide) ?_ ?_
    · refine m_iload_n hC dX1_layAnew_45 1 rfl ?_
      exact hret _ _ _ _ dX1_layAnew_46
    · refine m_aload_n hC dX1_layAnew_12 0 rfl ?_
      refine m_get hC iX1_layAnew_X1 (wc_13 y g S3) rfl 7 (by decide) (List.mem_of_getElem? (i := 2) rfl) rfl rfl dX1_layAnew_13 ?_
      refine m_iload_n hC dX1_layAnew_16 2 rfl ?_
      refine m_zald hC (wc_19 y g S3) (t0 := 1) rfl dX1_layAnew_17 ?_
      intro x5
      refine m_if_ne hC 39 dX1_layAnew_18 (by decide) ?_ ?_
      · refine m_iinc hC (fun x6 => [(0, .ref (g 13)), (1, .int x1), (2, .int x6)]) [1, 2, 0] dX1_layAnew_39 (j := 2) rfl (by decide) (by decide) (fun _ => rfl) (fun _ => rfl) ?_
        intro x6
        refine m_goto hC 4 dX1_layAnew_42 (by decide) ?_
        exact hr4 _ _ _
      · refine m_aload_n hC dX1_layAnew_21 0 rfl ?_
        refine m_get hC iX1_layAnew_X1 (wc_13 y g S3) rfl 7 (by decide) (List.mem_of_getElem? (i := 2) rfl) rfl rfl dX1_layAnew_22 ?_
        refine m_iload_n hC dX1_layAnew_25 2 rfl ?_
        refine m_iconst hC (1) dX1_layAnew_26 (by decide) ?_
        refine m_zast hC (by decide) (wc_19 y g S3) (t0 := 1) rfl (wcs_19 y g S3) dX1_layAnew_27 ?_
        intro S7
        refine m_aload_n hC dX1_layAnew_28 0 rfl ?_
        refine m_get hC iX1_layAnew_X1 (wc_13 y g S7) rfl 5 (by decide) (List.mem_of_getElem? (i := 3) rfl) rfl rfl dX1_layAnew_29 ?_
        refine m_iload_n hC dX1_layAnew_32 2 rfl ?_
        refine m_bipush hC (99) dX1_layAnew_33 (by decide) ?_
        refine m_iast hC (wc_17 y g S7) (t0 := 0) rfl (wcs_17 y g S7) dX1_layAnew_35 ?_
        intro S8
        refine m_iinc hC (fun x9 => [(0, .ref (g 13)), (1, .int x9), (2, .int x2)]) [1, 0, 2] dX1_layAnew_36 (j := 1) rfl (by decide) (by decide) (fun _ => rfl) (fun _ => rfl) ?_
        intro x9
        refine m_iinc hC (fun x10 => [(0, .ref (g 13)), (1, .int x9), (2, .int x10)]) [1, 2, 0] dX1_layAnew_39 (j := 2) rfl (by decide) (by decide) (fun _ => rfl) (fun _ => rfl) ?_
        intro x10
        refine m_goto hC 4 dX1_layAnew_42 (by decide) ?_
        exact hr4 _ _ _
def fX1_letSlip_L12 (r5 : Int32 → Int32 → St → Option (Int32 × St)) : Int32 → Int32 → St → Option (Int32 × St) := fun x2 x3 S4 =>
  if x3 < (S4.1 13 9) then
    ldI 144 (S4.1 19) x3 fun x6 =>
    jn (fun (x7 : Int32) (S8 : St) =>
        ldI 144 (S8.1 19) x3 fun x10 =>
        if x10 = 0 then
          nmI (x3 + 1) fun x11 =>
          r5 x7 x11 S8
        else
          ldI 144 (S8.1 15) x3 fun x12 =>
          ldI 6 (S8.1 20) x12 fun x13 =>
          caP (fX1_placesOf x3 S8) fun x14 =>
          stI S8 20 6 x12 (x13 ||| x14) fun S15 =>
          nmI (x3 + 1) fun x16 =>
          r5 x7 x16 S15) fun J9 =>
    if x6 = 0 then
      J9 x2 S4
    else
      ldI 144 (S4.1 17) x3 fun x17 =>
      if x17 = 0 then
        stI S4 19 144 x3 0 fun S18 =>
        nmI (x2 + 1) fun x19 =>
        J9 x19 S18
      else
        caP (fX1_isBorne x3 S4) fun x20 =>
        if x20 = 0 then
          stI S4 19 144 x3 0 fun S21 =>
          nmI (x2 + 1) fun x22 =>
          J9 x22 S21
        else
          J9 x2 S4
  else
    some (x2, S4)
def fX1_letSlip (N : Nat) (S : St) : Option (Int32 × St) :=
  caV (fJ7_fill_53178 N 20 6 0 S) fun S1 =>
  itN (fun _ _ _ => none) (fX1_letSlip_L12) N 0 0 S1
abbrev rmX1_letSlip : Room := { frames := 3, cells := 0, slots := 0, locals := 64 }
theorem iX1_letSlip_X1 : ∀ w ∈ wsX10, w ∈ wsX1_letSlip := fun w h => List.mem_cons_of_mem _ (List.mem_append_left _ (List.mem_append_right _ h))
theorem iX1_letSlip_X4 : ∀ w ∈ wsX40, w ∈ wsX1_letSlip := fun w h => List.mem_cons_of_mem _ (List.mem_append_right _ h)
set_option maxHeartbeats 4000000 in
set_option maxRecDepth 100000 in
theorem kX1_letSlip (l : Launch) (D : va_G) (y : Cy) (g : Nat → Nat) (N : Nat) (S : St) (x0 : Int32 × St) (h : fX1_letSlip N S = some x0) : KI l yX1_letSlip wsX1_letSlip rmX1_letSlip D vwCl (tz y) (wc y g) (AC g) [.ref (g 13)] S (fun r S2 => (r, S2) = x0) := by
  refine m_entryI (wc_ok y g) (by decide) rfl (Nat.le_of_ble_eq_true rfl) (lv := [(0, .ref (g 13))]) rfl h ?_
  intro p e s m args below meth c hC hr hlocks
  obtain ⟨Q, hQ⟩ : ∃ Q, Q = (MQ below (va_Qi (fun r S2 => (r, S2) = x0) (Bw D vwCl (tz y) (wc y g) (AC g s.heap.size)) (AC g s.heap.size)) args s 0 0 (AC g s.heap.size)) := ⟨_, rfl⟩
  rw [← hQ]
  have hret : ∀ (v : Int32) (S2 : St) (pc : Nat) (lv : List (Nat × Value)), decode cX1_letSlip pc = .ok (.ireturn, 1) → Sm p l e (headSpec wsX1_letSlip rmX1_letSlip).room s m args below meth c D vwCl (wc y g) (AC g s.heap.size) 3 Q x0 (some (v, S2)) S2 pc lv [.int v] := by
    rw [hQ]
    exact fun v S2 pc lv hd => m_iret hC hr hlocks hd
  clear hQ
  unfold fX1_letSlip
  refine m_iconst hC (0) dX1_letSlip_0 (by decide) ?_
  refine m_istore_n hC [(0, .ref (g 13)), (1, .int 0)] [1, 0] dX1_letSlip_1 (by decide) rfl rfl ?_
  refine m_aload_n hC dX1_letSlip_2 0 rfl ?_
  refine m_get hC iX1_letSlip_X1 (wc_13 y g S) rfl 8 (by decide) (List.mem_of_getElem? (i := 1) rfl) rfl rfl dX1_letSlip_3 ?_
  refine m_iconst hC (0) dX1_letSlip_6 (by decide) ?_
  refine m_cVS hC (As := [.ref (g 20), .int 0]) (wc_ok y g) (va_cwS 2 hC.1.2.2.2.2 gX1_letSlip_J7_fill_53178 rfl rfl rfl (by decide +kernel) ⟨Nat.le_of_ble_eq_true rfl, Nat.le_of_ble_eq_true rfl⟩) (fun xq hq => kJ7_fill_53178 l D y g N 20 6 0 (fun S => wc_20 y g S) (fun S f => wcs_20 y g S f) S xq hq) rfl (Nat.le_of_ble_eq_true rfl) dX1_letSlip_7 ?_
  intro S1
  refine m_iconst hC (0) dX1_letSlip_10 (by decide) ?_
  refine m_istore_n hC [(0, .ref (g 13)), (1, .int 0), (2, .int 0)] [1, 2, 0] dX1_letSlip_11 (by decide) rfl rfl ?_
  refine (m_it (z := (fun _ _ _ => none)) (F := fX1_letSlip_L12) N (fun r5 => ∀ (x2 : Int32) (x3 : Int32) (S4 : St), Sm p l e (headSpec wsX1_letSlip rmX1_letSlip).room s m args below meth c D vwCl (wc y g) (AC g s.heap.size) 3 Q x0 (r5 x2 x3 S4) S4 12 [(0, .ref (g 13)), (1, .int x2), (2, .int x3)] []) ?_ ?_) 0 0 S1
  · exact fun _ _ _ => m_none
  · intro r5 hr5 x2 x3 S4
    unfold fX1_letSlip_L12
    refine m_iload_n hC dX1_letSlip_12 2 rfl ?_
    refine m_aload_n hC dX1_letSlip_13 0 rfl ?_
    refine m_get hC iX1_letSlip_X1 (wc_13 y g S4) rfl 9 (by decide) (List.mem_of_getElem? (i := 2) rfl) rfl rfl dX1_letSlip_14 ?_
    refine m_icmp_ge hC 90 dX1_letSlip_17 (by decide) ?_ ?_
    · refine m_iload_n hC dX1_letSlip_90 1 rfl ?_
      exact hret _ _ _ _ dX1_letSlip_91
    · refine m_aload_n hC dX1_letSlip_20 0 rfl ?_
      refine m_get hC iX1_letSlip_X1 (wc_13 y g S4) rfl 7 (by decide) (List.mem_of_getElem? (i := 3) rfl) rfl rfl dX1_letSlip_21 ?_
      refine m_iload_n hC dX1_letSlip_24 2 rfl ?_
      refine m_zald hC (wc_19 y g S4) (t0 := 1) rfl dX1_letSlip_25 ?_
      intro x6
      refine m_jn (fun J9 => ∀ (x7 : Int32) (S8 : St), Sm p l e (headSpec wsX1_letSlip rmX1_letSlip).room s m args below meth c D vwCl (wc y g) (AC g s.heap.size) 3 Q x0 (J9 x7 S8) S8 56 [(0, .ref (g 13)), (1, .int x7), (2, .int x3)] []) ?_ (fun J9 hJ9 => ?_)
      · intro x7 S8
        refine m_aload_n hC dX1_letSlip_56 0 rfl ?_
        refine m_get hC iX1_letSlip_X1 (wc_13 y g S8) rfl 7 (by decide) (List.mem_of_getElem? (i := 3) rfl) rfl rfl dX1_letSlip_57 ?_
        refine m_iload_n hC dX1_letSlip_60 2 rfl ?_
        refine m_zald hC (wc_19 y g S8) (t0 := 1) rfl dX1_letSlip_61 ?_
        intro x10
        refine m_if_eq hC 84 dX1_letSlip_62 (by decide) ?_ ?_
        · refine m_iinc hC (fun x11 => [(0, .ref (g 13)), (1, .int x7), (2, .int x11)]) [1, 2, 0] dX1_letSlip_84 (j := 2) rfl (by decide) (by decide) (fun _ => rfl) (fun _ => rfl) ?_
          intro x11
          refine m_goto hC 12 dX1_letSlip_87 (by decide) ?_
          exact hr5 _ _ _
        · refine m_aload_n hC dX1_letSlip_65 0 rfl ?_
          refine m_get hC iX1_letSlip_X1 (wc_13 y g S8) rfl 8 (by decide) (List.mem_of_getElem? (i := 1) rfl) rfl rfl dX1_letSlip_66 ?_
          refine m_aload_n hC dX1_letSlip_69 0 rfl ?_
          refine m_get hC iX1_letSlip_X1 (wc_13 y g S8) rfl 3 (by decide) (List.mem_of_getElem? (i := 5) rfl) rfl rfl dX1_letSlip_70 ?_
          refine m_iload_n hC dX1_letSlip_73 2 rfl ?_
          refine m_iald hC (wc_15 y g S8) (t0 := 0) rfl dX1_letSlip_74 ?_
          intro x12
          refine m_dup2 hC dX1_letSlip_75 rfl rfl ?_
          refine m_iald hC (wc_20 y g S8) (t0 := 0) rfl dX1_letSlip_76 ?_
          intro x13
          refine m_aload_n hC dX1_letSlip_77 0 rfl ?_
          refine m_iload_n hC dX1_letSlip_78 2 rfl ?_
          refine m_cIPV hC (As := [.int x3]) (wc_ok y g) (cwV 1 hC.1.2.2.2.2 gX1_letSlip_X1_placesOf rfl rfl rfl (by decide +kernel) ⟨Nat.le_of_ble_eq_true rfl, Nat.le_of_ble_eq_true rfl⟩) (wc_13 y g S8) rfl (fun xq hq => kX1_placesOf l D y g x3 S8 xq hq) rfl (Nat.le_of_ble_eq_true rfl) dX1_letSlip_79 ?_
          intro x14
          refine m_ior hC dX1_letSlip_82 ?_
          refine m_iast hC (wc_20 y g S8) (t0 := 0) rfl (wcs_20 y g S8) dX1_letSlip_83 ?_
          intro S15
          refine m_iinc hC (fun x16 => [(0, .ref (g 13)), (1, .int x7), (2, .int x16)]) [1, 2, 0] dX1_letSlip_84 (j := 2) rfl (by decide) (by decide) (fun _ => rfl) (fun _ => rfl) ?_
          intro x16
          refine m_goto hC 12 dX1_letSlip_87 (by decide) ?_
          exact hr5 _ _ _
      · refine m_if_eq hC 56 dX1_letSlip_26 (by decide) ?_ ?_
        · exact hJ9 _ _
        · refine m_aload_n hC dX1_letSlip_29 0 rfl ?_
          refine m_get hC iX1_letSlip_X1 (wc_13 y g S4) rfl 5 (by decide) (List.mem_of_getElem? (i := 4) rfl) rfl rfl dX1_letSlip_30 ?_
          refine m_iload_n hC dX1_letSlip_33 2 rfl ?_
          refine m_iald hC (wc_17 y g S4) (t0 := 0) rfl dX1_letSlip_34 ?_
          intro x17
          refine m_if_eq hC 46 dX1_letSlip_35 (by decide) ?_ ?_
          · refine m_aload_n hC dX1_letSlip_46 0 rfl ?_
            refine m_get hC iX1_letSlip_X1 (wc_13 y g S4) rfl 7 (by decide) (List.mem_of_getElem? (i := 3) rfl) rfl rfl dX1_letSlip_47 ?_
            refine m_iload_n hC dX1_letSlip_50 2 rfl ?_
            refine m_iconst hC (0) dX1_letSlip_51 (by decide) ?_
            refine m_zast hC (by decide) (wc_19 y g S4) (t0 := 1) rfl (wcs_19 y g S4) dX1_letSlip_52 ?_
            intro S18
            refine m_iinc hC (fun x19 => [(0, .ref (g 13)), (1, .int x19), (2, .int x3)]) [1, 0, 2] dX1_letSlip_53 (j := 1) rfl (by decide) (by decide) (fun _ => rfl) (fun _ => rfl) ?_
            intro x19
            exact hJ9 _ _
          · refine m_aload_n hC dX1_letSlip_38 0 rfl ?_
            refine m_iload_n hC dX1_letSlip_39 2 rfl ?_
            refine m_cIPV hC (As := [.int x3]) (wc_ok y g) (cwV 1 hC.1.2.2.2.2 gX1_letSlip_X1_isBorne rfl rfl rfl (by decide +kernel) ⟨Nat.le_of_ble_eq_true rfl, Nat.le_of_ble_eq_true rfl⟩) (wc_13 y g S4) rfl (fun xq hq => kX1_isBorne l D y g x3 S4 xq hq) rfl (Nat.le_of_ble_eq_true rfl) dX1_letSlip_40 ?_
            intro x20
            refine m_if_ne hC 56 dX1_letSlip_43 (by decide) ?_ ?_
            · exact hJ9 _ _
            · refine m_aload_n hC dX1_letSlip_46 0 rfl ?_
              refine m_get hC iX1_letSlip_X1 (wc_13 y g S4) rfl 7 (by decide) (List.mem_of_getElem? (i := 3) rfl) rfl rfl dX1_letSlip_47 ?_
              refine m_iload_n hC dX1_letSlip_50 2 rfl ?_
              refine m_iconst hC (0) dX1_letSlip_51 (by decide) ?_
              refine m_zast hC (by decide) (wc_19 y g S4) (t0 := 1) rfl (wcs_19 y g S4) dX1_letSlip_52 ?_
              intro S21
              refine m_iinc hC (fun x22 => [(0, .ref (g 13)), (1, .int x22), (2, .int x3)]) [1, 0, 2] dX1_letSlip_53 (j := 1) rfl (by decide) (by decide) (fun _ => rfl) (fun _ => rfl) ?_
              intro x22
              exact hJ9 _ _
def fX1_standsBeside (a : Int32) (b : Int32) (S : St) : Option (Int32) :=
  if b < 0 then
    some 0
  else
    if b < (S.1 13 9) then
      ldI 144 (S.1 15) b fun x1 =>
      ldI 144 (S.1 15) a fun x2 =>
      if x1 = x2 then
        ldI 144 (S.1 19) b fun x3 =>
        if x3 = 0 then
          some 0
        else
          some 1
      else
        some 0
    else
      some 0
abbrev rmX1_standsBeside : Room := { frames := 0, cells := 0, slots := 0, locals := 0 }
theorem iX1_standsBeside_X1 : ∀ w ∈ wsX10, w ∈ wsX1_standsBeside := fun w h => List.mem_cons_of_mem _ (List.mem_append_right _ h)
set_option maxHeartbeats 4000000 in
set_option maxRecDepth 100000 in
theorem kX1_standsBeside (l : Launch) (D : va_G) (y : Cy) (g : Nat → Nat) (a : Int32) (b : Int32) (S : St) (x0 : Int32) (h : fX1_standsBeside a b S = some x0) : KI l yX1_standsBeside wsX1_standsBeside rmX1_standsBeside D vwCl (tz y) (wc y g) (AC g) [.ref (g 13), .int a, .int b] S (fun r S2 => r = x0 ∧ S2 = S) := by
  refine m_entryIP (wc_ok y g) (by decide) rfl (Nat.le_of_ble_eq_true rfl) (lv := [(0, .ref (g 13)), (1, .int a), (2, .int b)]) rfl h ?_
  intro p e s m args below meth c hC hr hlocks
  obtain ⟨Q, hQ⟩ : ∃ Q, Q = (MQ below (va_Qi (fun r S2 => r = x0 ∧ S2 = S) (Bw D vwCl (tz y) (wc y g) (AC g s.heap.size)) (AC g s.heap.size)) args s 0 0 (AC g s.heap.size)) := ⟨_, rfl⟩
  rw [← hQ]
  have hret : ∀ (v : Int32) (pc : Nat) (lv : List (Nat × Value)), decode cX1_standsBeside pc = .ok (.ireturn, 1) → narrow .boolean (.int v) = .int v → Sm p l e (headSpec wsX1_standsBeside rmX1_standsBeside).room s m args below meth c D vwCl (wc y g) (AC g s.heap.size) 3 Q x0 (some v) S pc lv [.int v] := by
    rw [hQ]
    exact fun v pc lv hd hz => m_zretP hC hz hr hlocks hd
  clear hQ
  unfold fX1_standsBeside
  refine m_iload_n hC dX1_standsBeside_0 2 rfl ?_
  refine m_if_lt hC 40 dX1_standsBeside_1 (by decide) ?_ ?_
  · refine m_iconst hC (0) dX1_standsBeside_40 (by decide) ?_
    exact hret _ _ _ dX1_standsBeside_41 rfl
  · refine m_iload_n hC dX1_standsBeside_4 2 rfl ?_
    refine m_aload_n hC dX1_standsBeside_5 0 rfl ?_
    refine m_get hC iX1_standsBeside_X1 (wc_13 y g S) rfl 9 (by decide) (List.mem_of_getElem? (i := 1) rfl) rfl rfl dX1_standsBeside_6 ?_
    refine m_icmp_ge hC 40 dX1_standsBeside_9 (by decide) ?_ ?_
    · refine m_iconst hC (0) dX1_standsBeside_40 (by decide) ?_
      exact hret _ _ _ dX1_standsBeside_41 rfl
    · refine m_aload_n hC dX1_standsBeside_12 0 rfl ?_
      refine m_get hC iX1_standsBeside_X1 (wc_13 y g S) rfl 3 (by decide) (List.mem_of_getElem? (i := 2) rfl) rfl rfl dX1_standsBeside_13 ?_
      refine m_iload_n hC dX1_standsBeside_16 2 rfl ?_
      refine m_iald hC (wc_15 y g S) (t0 := 0) rfl dX1_standsBeside_17 ?_
      intro x1
      refine m_aload_n hC dX1_standsBeside_18 0 rfl ?_
      refine m_get hC iX1_standsBeside_X1 (wc_13 y g S) rfl 3 (by decide) (List.mem_of_getElem? (i := 2) rfl) rfl rfl dX1_standsBeside_19 ?_
      refine m_iload_n hC dX1_standsBeside_22 1 rfl ?_
      refine m_iald hC (wc_15 y g S) (t0 := 0) rfl dX1_standsBeside_23 ?_
      intro x2
      refine m_icmp_ne hC 40 dX1_standsBeside_24 (by decide) ?_ ?_
      · refine m_iconst hC (0) dX1_standsBeside_40 (by decide) ?_
        exact hret _ _ _ dX1_standsBeside_41 rfl
      · refine m_aload_n hC dX1_standsBeside_27 0 rfl ?_
        refine m_get hC iX1_standsBeside_X1 (wc_13 y g S) rfl 7 (by decide) (List.mem_of_getElem? (i := 3) rfl) rfl rfl dX1_standsBeside_28 ?_
        refine m_iload_n hC dX1_standsBeside_31 2 rfl ?_
        refine m_zald hC (wc_19 y g S) (t0 := 1) rfl dX1_standsBeside_32 ?_
        intro x3
        refine m_if_eq hC 40 dX1_standsBeside_33 (by decide) ?_ ?_
        · refine m_iconst hC (0) dX1_standsBeside_40 (by decide) ?_
          exact hret _ _ _ dX1_standsBeside_41 rfl
        · refine m_iconst hC (1) dX1_standsBeside_36 (by decide) ?_
          refine m_goto hC 41 dX1_standsBeside_37 (by decide) ?_
          exact hret _ _ _ dX1_standsBeside_41 rfl
def fX1_loosen_L2 (a : Int32) (r3 : Int32 → St → Option (St)) : Int32 → St → Option (St) := fun x1 S2 =>
  if x1 < (S2.1 13 9) then
    ldI 144 (S2.1 19) x1 fun x4 =>
    if x4 = 0 then
      nmI (x1 + 1) fun x5 =>
      r3 x5 S2
    else
      caP (fX1_standsBeside x1 (x1 - 1) S2) fun x6 =>
      jn (fun (x7 : Int32) =>
          caP (fX1_standsBeside x1 (x1 + 1) S2) fun x9 =>
          jn (fun (x10 : Int32) =>
              nmI (x7 + x10) fun x12 =>
              ldI 144 (S2.1 17) x1 fun x13 =>
              stI S2 17 144 x1 (mxI 0 (x13 - (a * (1 + x12)))) fun S14 =>
              nmI (x1 + 1) fun x15 =>
              r3 x15 S14) fun J11 =>
          if x9 = 0 then
            J11 1
          else
            J11 0) fun J8 =>
      if x6 = 0 then
        J8 1
      else
        J8 0
  else
    some S2
def fX1_loosen (N : Nat) (a : Int32) (S : St) : Option (St) :=
  itN (fun _ _ => none) (fX1_loosen_L2 a) N 0 S
abbrev rmX1_loosen : Room := { frames := 1, cells := 0, slots := 0, locals := 22 }
theorem iX1_loosen_X1 : ∀ w ∈ wsX10, w ∈ wsX1_loosen := fun w h => List.mem_cons_of_mem _ (List.mem_append_right _ h)
set_option maxHeartbeats 4000000 in
set_option maxRecDepth 100000 in
theorem kX1_loosen (l : Launch) (D : va_G) (y : Cy) (g : Nat → Nat) (N : Nat) (a : Int32) (S : St) (x0 : St) (h : fX1_loosen N a S = some x0) : KV l yX1_loosen wsX1_loosen rmX1_loosen D vwCl (tz y) (wc y g) (AC g) [.ref (g 13), .int a] S (fun S2 => S2 = x0) := by
  refine m_entryV (wc_ok y g) (by decide) rfl (Nat.le_of_ble_eq_true rfl) (lv := [(0, .ref (g 13)), (1, .int a)]) rfl h ?_
  intro p e s m args below meth c hC hr hlocks
  obtain ⟨Q, hQ⟩ : ∃ Q, Q = (MQ below (va_Qv (fun S2 => S2 = x0) (Bw D vwCl (tz y) (wc y g) (AC g s.heap.size)) (AC g s.heap.size)) args s 0 0 (AC g s.heap.size)) := ⟨_, rfl⟩
  rw [← hQ]
  have hret : ∀ (S2 : St) (pc : Nat) (lv : List (Nat × Value)), decode cX1_loosen pc = .ok (.return_, 1) → Sm p l e (headSpec wsX1_loosen rmX1_loosen).room s m args below meth c D vwCl (wc y g) (AC g s.heap.size) 4 Q x0 (some S2) S2 pc lv [] := by
    rw [hQ]
    exact fun S2 pc lv hd => m_vret hC hr hlocks hd
  clear hQ
  unfold fX1_loosen
  refine m_iconst hC (0) dX1_loosen_0 (by decide) ?_
  refine m_istore_n hC [(0, .ref (g 13)), (1, .int a), (2, .int 0)] [1, 2, 0] dX1_loosen_1 (by decide) rfl rfl ?_
  refine (m_it (z := (fun _ _ => none)) (F := fX1_loosen_L2 a) N (fun r3 => ∀ (x1 : Int32) (S2 : St), Sm p l e (headSpec wsX1_loosen rmX1_loosen).room s m args below meth c D vwCl (wc y g) (AC g s.heap.size) 4 Q x0 (r3 x1 S2) S2 2 [(0, .ref (g 13)), (1, .int a), (2, .int x1)] []) ?_ ?_) 0 S
  · exact fun _ _ => m_none
  · intro r3 hr3 x1 S2
    unfold fX1_loosen_L2
    refine m_iload_n hC dX1_loosen_2 2 rfl ?_
    refine m_aload_n hC dX1_loosen_3 0 rfl ?_
    refine m_get hC iX1_loosen_X1 (wc_13 y g S2) rfl 9 (by decide) (List.mem_of_getElem? (i := 1) rfl) rfl rfl dX1_loosen_4 ?_
    refine m_icmp_ge hC 81 dX1_loosen_7 (by decide) ?_ ?_
    · exact hret _ _ _ dX1_loosen_81
    · refine m_aload_n hC dX1_loosen_10 0 rfl ?_
      refine m_get hC iX1_loosen_X1 (wc_13 y g S2) rfl 7 (by decide) (List.mem_of_getElem? (i := 2) rfl) rfl rfl dX1_loosen_11 ?_
      refine m_iload_n hC dX1_loosen_14 2 rfl ?_
      refine m_zald hC (wc_19 y g S2) (t0 := 1) rfl dX1_loosen_15 ?_
      intro x4
      refine m_if_eq hC 75 dX1_loosen_16 (by decide) ?_ ?_
      · refine m_iinc hC (fun x5 => [(0, .ref (g 13)), (1, .int a), (2, .int x5)]) [1, 2, 0] dX1_loosen_75 (j := 2) rfl (by decide) (by decide) (fun _ => rfl) (fun _ => rfl) ?_
        intro x5
        refine m_goto hC 2 dX1_loosen_78 (by decide) ?_
        exact hr3 _ _
      · refine m_aload_n hC dX1_loosen_19 0 rfl ?_
        refine m_iload_n hC dX1_loosen_20 2 rfl ?_
        refine m_iload_n hC dX1_loosen_21 2 rfl ?_
        refine m_iconst hC (1) dX1_loosen_22 (by decide) ?_
        refine m_isub hC dX1_loosen_23 ?_
        refine m_cIPV hC (As := [.int x1, .int (x1 - 1)]) (wc_ok y g) (cwV 2 hC.1.2.2.2.2 gX1_loosen_X1_standsBeside rfl rfl rfl (by decide +kernel) ⟨Nat.le_of_ble_eq_true rfl, Nat.le_of_ble_eq_true rfl⟩) (wc_13 y g S2) rfl (fun xq hq => kX1_standsBeside l D y g x1 (x1 - 1) S2 xq hq) rfl (Nat.le_of_ble_eq_true rfl) dX1_loosen_24 ?_
        intro x6
        refine m_jn (fun J8 => ∀ (x7 : Int32), Sm p l e (headSpec wsX1_loosen rmX1_loosen).room s m args below meth c D vwCl (wc y g) (AC g s.heap.size) 4 Q x0 (J8 x7) S2 35 [(0, .ref (g 13)), (1, .int a), (2, .int x1)] [.int x7]) ?_ (fun J8 hJ8 => ?_)
        · intro x7
          refine m_aload_n hC dX1_loosen_35 0 rfl ?_
          refine m_iload_n hC dX1_loosen_36 2 rfl ?_
          refine m_iload_n hC dX1_loosen_37 2 rfl ?_
          refine m_iconst hC (1) dX1_loosen_38 (by decide) ?_
          refine m_iadd hC dX1_loosen_39 ?_
          refine m_cIPV hC (As := [.int x1, .int (x1 + 1)]) (wc_ok y g) (cwV 2 hC.1.2.2.2.2 gX1_loosen_X1_standsBeside rfl rfl rfl (by decide +kernel) ⟨Nat.le_of_ble_eq_true rfl, Nat.le_of_ble_eq_true rfl⟩) (wc_13 y g S2) rfl (fun xq hq => kX1_standsBeside l D y g x1 (x1 + 1) S2 xq hq) rfl (Nat.le_of_ble_eq_true rfl) dX1_loosen_40 ?_
          intro x9
          refine m_jn (fun J11 => ∀ (x10 : Int32), Sm p l e (headSpec wsX1_loosen rmX1_loosen).room s m args below meth c D vwCl (wc y g) (AC g s.heap.size) 4 Q x0 (J11 x10) S2 51 [(0, .ref (g 13)), (1, .int a), (2, .int x1)] [.int x10, .int x7]) ?_ (fun J11 hJ11 => ?_)
          · intro x10
            refine m_iadd hC dX1_loosen_51 ?_
            refine m_nmI ?_
            intro x12
            refine m_istore_n hC [(0, .ref (g 13)), (1, .int a), (2, .int x1), (3, .int x12)] [1, 2, 3, 0] dX1_loosen_52 (by decide) rfl rfl ?_
            refine m_aload_n hC dX1_loosen_53 0 rfl ?_
            refine m_get hC iX1_loosen_X1 (wc_13 y g S2) rfl 5 (by decide) (List.mem_of_getElem? (i := 3) rfl) rfl rfl dX1_loosen_54 ?_
            refine m_iload_n hC dX1_loosen_57 2 rfl ?_
            refine m_iconst hC (0) dX1_loosen_58 (by decide) ?_
            refine m_aload_n hC dX1_loosen_59 0 rfl ?_
            refine m_get hC iX1_loosen_X1 (wc_13 y g S2) rfl 5 (by decide) (List.mem_of_getElem? (i := 3) rfl) rfl rfl dX1_loosen_60 ?_
            refine m_iload_n hC dX1_loosen_63 2 rfl ?_
            refine m_iald hC (wc_17 y g S2) (t0 := 0) rfl dX1_loosen_64 ?_
            intro x13
            refine m_iload_n hC dX1_loosen_65 1 rfl ?_
            refine m_iconst hC (1) dX1_loosen_66 (by decide) ?_
            refine m_iload_n hC dX1_loosen_67 3 rfl ?_
            refine m_iadd hC dX1_loosen_68 ?_
            refine m_imul hC dX1_loosen_69 ?_
            refine m_isub hC dX1_loosen_70 ?_
            refine m_max hC (List.mem_of_getElem? (i := 4) rfl) (List.mem_of_getElem? (i := 5) rfl) (List.mem_of_getElem? (i := 6) rfl) (List.mem_of_getElem? (i := 7) rfl) (Nat.le_of_ble_eq_true rfl) (Nat.le_of_ble_eq_true rfl) dX1_loosen_71 ?_
            refine m_iast hC (wc_17 y g S2) (t0 := 0) rfl (wcs_17 y g S2) dX1_loosen_74 ?_
            intro S14
            refine m_iinc hC (fun x15 => [(0, .ref (g 13)), (1, .int a), (2, .int x15), (3, .int x12)]) [1, 2, 0, 3] dX1_loosen_75 (j := 2) rfl (by decide) (by decide) (fun _ => rfl) (fun _ => rfl) ?_
            intro x15
            refine m_goto hC 2 dX1_loosen_78 (by decide) ?_
            refine m_lv [(0, .ref (g 13)), (1, .int a), (2, .int x15)] [0, 1, 2] rfl ?_
            exact hr3 _ _
          · refine m_if_eq hC 50 dX1_loosen_43 (by decide) ?_ ?_
            · refine m_iconst hC (1) dX1_loosen_50 (by decide) ?_
              exact hJ11 _
            · refine m_iconst hC (0) dX1_loosen_46 (by decide) ?_
              refine m_goto hC 51 dX1_loosen_47 (by decide) ?_
              exact hJ11 _
        · refine m_if_eq hC 34 dX1_loosen_27 (by decide) ?_ ?_
          · refine m_iconst hC (1) dX1_loosen_34 (by decide) ?_
            exact hJ8 _
          · refine m_iconst hC (0) dX1_loosen_30 (by decide) ?_
            refine m_goto hC 35 dX1_loosen_31 (by decide) ?_
            exact hJ8 _
def fX1_raise_L7 (N : Nat) (r4 : Int32 → St → Option (St)) : Int32 → St → Option (St) := fun x2 S3 =>
  if x2 < (S3.1 13 9) then
    stI S3 19 144 x2 0 fun S7 =>
    nmI (x2 + 1) fun x8 =>
    r4 x8 S7
  else
    caS (fX1_layAnew N S3) fun x5 S6 =>
    some S6
def fX1_raise (N : Nat) (S : St) : Option (St) :=
  pfI S 13 10 1 fun S1 =>
  itN (fun _ _ => none) (fX1_raise_L7 N) N 0 S1
abbrev rmX1_raise : Room := { frames := 1, cells := 0, slots := 0, locals := 22 }
theorem iX1_raise_X1 : ∀ w ∈ wsX10, w ∈ wsX1_raise := fun w h => List.mem_cons_of_mem _ (List.mem_append_right _ h)
set_option maxHeartbeats 4000000 in
set_option maxRecDepth 100000 in
theorem kX1_raise (l : Launch) (D : va_G) (y : Cy) (g : Nat → Nat) (N : Nat) (S : St) (x0 : St) (h : fX1_raise N S = some x0) : KV l yX1_raise wsX1_raise rmX1_raise D vwCl (tz y) (wc y g) (AC g) [.ref (g 13)] S (fun S2 => S2 = x0) := by
  refine m_entryV (wc_ok y g) (by decide) rfl (Nat.le_of_ble_eq_true rfl) (lv := [(0, .ref (g 13))]) rfl h ?_
  intro p e s m args below meth c hC hr hlocks
  obtain ⟨Q, hQ⟩ : ∃ Q, Q = (MQ below (va_Qv (fun S2 => S2 = x0) (Bw D vwCl (tz y) (wc y g) (AC g s.heap.size)) (AC g s.heap.size)) args s 0 0 (AC g s.heap.size)) := ⟨_, rfl⟩
  rw [← hQ]
  have hret : ∀ (S2 : St) (pc : Nat) (lv : List (Nat × Value)), decode cX1_raise pc = .ok (.return_, 1) → Sm p l e (headSpec wsX1_raise rmX1_raise).room s m args below meth c D vwCl (wc y g) (AC g s.heap.size) 2 Q x0 (some S2) S2 pc lv [] := by
    rw [hQ]
    exact fun S2 pc lv hd => m_vret hC hr hlocks hd
  clear hQ
  unfold fX1_raise
  refine m_aload_n hC dX1_raise_0 0 rfl ?_
  refine m_iconst hC (1) dX1_raise_1 (by decide) ?_
  refine m_putI (ty := .boolean) hC iX1_raise_X1 tyX1 tyX1_ok nmX1 (wc_13 y g S) rfl 10 (by decide) (List.mem_of_getElem? (i := 1) rfl) rfl rfl (by decide +kernel) rfl rfl (Nat.le_of_ble_eq_true rfl) dX1_raise_2 (wcf_13_10 y g S _) ?_
  intro S1
  refine m_iconst hC (0) dX1_raise_5 (by decide) ?_
  refine m_istore_n hC [(0, .ref (g 13)), (1, .int 0)] [1, 0] dX1_raise_6 (by decide) rfl rfl ?_
  refine (m_it (z := (fun _ _ => none)) (F := fX1_raise_L7 N) N (fun r4 => ∀ (x2 : Int32) (S3 : St), Sm p l e (headSpec wsX1_raise rmX1_raise).room s m args below meth c D vwCl (wc y g) (AC g s.heap.size) 2 Q x0 (r4 x2 S3) S3 7 [(0, .ref (g 13)), (1, .int x2)] []) ?_ ?_) 0 S1
  · exact fun _ _ => m_none
  · intro r4 hr4 x2 S3
    unfold fX1_raise_L7
    refine m_iload_n hC dX1_raise_7 1 rfl ?_
    refine m_aload_n hC dX1_raise_8 0 rfl ?_
    refine m_get hC iX1_raise_X1 (wc_13 y g S3) rfl 9 (by decide) (List.mem_of_getElem? (i := 2) rfl) rfl rfl dX1_raise_9 ?_
    refine m_icmp_ge hC 28 dX1_raise_12 (by decide) ?_ ?_
    · refine m_aload_n hC dX1_raise_28 0 rfl ?_
      refine m_cIV hC (As := []) (wc_ok y g) (cwV 0 hC.1.2.2.2.2 gX1_raise_X1_layAnew rfl rfl rfl (by decide +kernel) ⟨Nat.le_of_ble_eq_true rfl, Nat.le_of_ble_eq_true rfl⟩) (wc_13 y g S3) rfl (fun xq hq => kX1_layAnew l D y g N S3 xq hq) rfl (Nat.le_of_ble_eq_true rfl) dX1_raise_29 ?_
      intro x5 S6
      refine m_pop hC dX1_raise_32 rfl ?_
      exact hret _ _ _ dX1_raise_33
    · refine m_aload_n hC dX1_raise_15 0 rfl ?_
      refine m_get hC iX1_raise_X1 (wc_13 y g S3) rfl 7 (by decide) (List.mem_of_getElem? (i := 3) rfl) rfl rfl dX1_raise_16 ?_
      refine m_iload_n hC dX1_raise_19 1 rfl ?_
      refine m_iconst hC (0) dX1_raise_20 (by decide) ?_
      refine m_zast hC (by decide) (wc_19 y g S3) (t0 := 1) rfl (wcs_19 y g S3) dX1_raise_21 ?_
      intro S7
      refine m_iinc hC (fun x8 => [(0, .ref (g 13)), (1, .int x8)]) [1, 0] dX1_raise_22 (j := 1) rfl (by decide) (by decide) (fun _ => rfl) (fun _ => rfl) ?_
      intro x8
      refine m_goto hC 7 dX1_raise_25 (by decide) ?_
      exact hr4 _ _
