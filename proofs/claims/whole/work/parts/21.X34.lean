def fX3_width (a : Int32) (S : St) : Option (Int32) :=
  some (mxI 1 ((S.1 12 5) - (a * (S.1 12 6))))
abbrev rmX3_width : Room := { frames := 1, cells := 0, slots := 0, locals := 21 }
theorem iX3_width_X3 : ∀ w ∈ wsX30, w ∈ wsX3_width := fun w h => List.mem_cons_of_mem _ (List.mem_append_right _ h)
set_option maxHeartbeats 4000000 in
set_option maxRecDepth 100000 in
theorem kX3_width (l : Launch) (D : va_G) (y : Cy) (g : Nat → Nat) (a : Int32) (S : St) (x0 : Int32) (h : fX3_width a S = some x0) : KI l yX3_width wsX3_width rmX3_width D vwCl (tz y) (wc y g) (AC g) [.ref (g 12), .int a] S (fun r S2 => r = x0 ∧ S2 = S) := by
  refine m_entryIP (wc_ok y g) (by decide) rfl (Nat.le_of_ble_eq_true rfl) (lv := [(0, .ref (g 12)), (1, .int a)]) rfl h ?_
  intro p e s m args below meth c hC hr hlocks
  obtain ⟨Q, hQ⟩ : ∃ Q, Q = (MQ below (va_Qi (fun r S2 => r = x0 ∧ S2 = S) (Bw D vwCl (tz y) (wc y g) (AC g s.heap.size)) (AC g s.heap.size)) args s 0 0 (AC g s.heap.size)) := ⟨_, rfl⟩
  rw [← hQ]
  have hret : ∀ (v : Int32) (pc : Nat) (lv : List (Nat × Value)), decode cX3_width pc = .ok (.ireturn, 1) → Sm p l e (headSpec wsX3_width rmX3_width).room s m args below meth c D vwCl (wc y g) (AC g s.heap.size) 2 Q x0 (some v) S pc lv [.int v] := by
    rw [hQ]
    exact fun v pc lv hd => m_iretP hC hr hlocks hd
  clear hQ
  unfold fX3_width
  refine m_iconst hC (1) dX3_width_0 (by decide) ?_
  refine m_aload_n hC dX3_width_1 0 rfl ?_
  refine m_get hC iX3_width_X3 (wc_12 y g S) rfl 5 (by decide) (List.mem_of_getElem? (i := 1) rfl) rfl rfl dX3_width_2 ?_
  refine m_iload_n hC dX3_width_5 1 rfl ?_
  refine m_aload_n hC dX3_width_6 0 rfl ?_
  refine m_get hC iX3_width_X3 (wc_12 y g S) rfl 6 (by decide) (List.mem_of_getElem? (i := 2) rfl) rfl rfl dX3_width_7 ?_
  refine m_imul hC dX3_width_10 ?_
  refine m_isub hC dX3_width_11 ?_
  refine m_max hC (List.mem_of_getElem? (i := 3) rfl) (List.mem_of_getElem? (i := 4) rfl) (List.mem_of_getElem? (i := 5) rfl) (List.mem_of_getElem? (i := 6) rfl) (Nat.le_of_ble_eq_true rfl) (Nat.le_of_ble_eq_true rfl) dX3_width_12 ?_
  exact hret _ _ _ dX3_width_15
def fX4_inHeaps_L4 (a : Int32) (S : St) (r3 : Int32 → Int32 → Option (Int32)) : Int32 → Int32 → Option (Int32) := fun x1 x2 =>
  if x2 < (S.1 1 6) then
    ldR 5 x2 fun j4 =>
    ldI 8 (S.1 (7 + j4)) a fun x5 =>
    nmI (x1 + x5) fun x6 =>
    nmI (x2 + 1) fun x7 =>
    r3 x6 x7
  else
    some x1
def fX4_inHeaps (N : Nat) (a : Int32) (S : St) : Option (Int32) :=
  itN (fun _ _ => none) (fX4_inHeaps_L4 a S) N 0 0
abbrev rmX4_inHeaps : Room := { frames := 0, cells := 0, slots := 0, locals := 0 }
theorem iX4_inHeaps_X4 : ∀ w ∈ wsX40, w ∈ wsX4_inHeaps := fun w h => List.mem_cons_of_mem _ (List.mem_append_right _ h)
set_option maxHeartbeats 4000000 in
set_option maxRecDepth 100000 in
theorem kX4_inHeaps (l : Launch) (D : va_G) (y : Cy) (g : Nat → Nat) (N : Nat) (a : Int32) (S : St) (x0 : Int32) (h : fX4_inHeaps N a S = some x0) : KI l yX4_inHeaps wsX4_inHeaps rmX4_inHeaps D vwCl (tz y) (wc y g) (AC g) [.ref (g 1), .int a] S (fun r S2 => r = x0 ∧ S2 = S) := by
  refine m_entryIP (wc_ok y g) (by decide) rfl (Nat.le_of_ble_eq_true rfl) (lv := [(0, .ref (g 1)), (1, .int a)]) rfl h ?_
  intro p e s m args below meth c hC hr hlocks
  obtain ⟨Q, hQ⟩ : ∃ Q, Q = (MQ below (va_Qi (fun r S2 => r = x0 ∧ S2 = S) (Bw D vwCl (tz y) (wc y g) (AC g s.heap.size)) (AC g s.heap.size)) args s 0 0 (AC g s.heap.size)) := ⟨_, rfl⟩
  rw [← hQ]
  have hret : ∀ (v : Int32) (pc : Nat) (lv : List (Nat × Value)), decode cX4_inHeaps pc = .ok (.ireturn, 1) → Sm p l e (headSpec wsX4_inHeaps rmX4_inHeaps).room s m args below meth c D vwCl (wc y g) (AC g s.heap.size) 4 Q x0 (some v) S pc lv [.int v] := by
    rw [hQ]
    exact fun v pc lv hd => m_iretP hC hr hlocks hd
  clear hQ
  unfold fX4_inHeaps
  refine m_iconst hC (0) dX4_inHeaps_0 (by decide) ?_
  refine m_istore_n hC [(0, .ref (g 1)), (1, .int a), (2, .int 0)] [1, 2, 0] dX4_inHeaps_1 (by decide) rfl rfl ?_
  refine m_iconst hC (0) dX4_inHeaps_2 (by decide) ?_
  refine m_istore_n hC [(0, .ref (g 1)), (1, .int a), (2, .int 0), (3, .int 0)] [1, 2, 3, 0] dX4_inHeaps_3 (by decide) rfl rfl ?_
  refine (m_it (z := (fun _ _ => none)) (F := fX4_inHeaps_L4 a S) N (fun r3 => ∀ (x1 : Int32) (x2 : Int32), Sm p l e (headSpec wsX4_inHeaps rmX4_inHeaps).room s m args below meth c D vwCl (wc y g) (AC g s.heap.size) 4 Q x0 (r3 x1 x2) S 4 [(0, .ref (g 1)), (1, .int a), (2, .int x1), (3, .int x2)] []) ?_ ?_) 0 0
  · exact fun _ _ => m_none
  · intro r3 hr3 x1 x2
    unfold fX4_inHeaps_L4
    refine m_iload_n hC dX4_inHeaps_4 3 rfl ?_
    refine m_aload_n hC dX4_inHeaps_5 0 rfl ?_
    refine m_get hC iX4_inHeaps_X4 (wc_1 y g S) rfl 6 (by decide) (List.mem_of_getElem? (i := 1) rfl) rfl rfl dX4_inHeaps_6 ?_
    refine m_icmp_ge hC 29 dX4_inHeaps_9 (by decide) ?_ ?_
    · refine m_iload_n hC dX4_inHeaps_29 2 rfl ?_
      exact hret _ _ _ dX4_inHeaps_30
    · refine m_iload_n hC dX4_inHeaps_12 2 rfl ?_
      refine m_aload_n hC dX4_inHeaps_13 0 rfl ?_
      refine m_get hC iX4_inHeaps_X4 (wc_1 y g S) rfl 4 (by decide) (List.mem_of_getElem? (i := 2) rfl) rfl rfl dX4_inHeaps_14 ?_
      refine m_iload_n hC dX4_inHeaps_17 3 rfl ?_
      refine m_aald hC (wc_6 y g S) (t0 := 2) rfl (rows_at g 7 5) dX4_inHeaps_18 ?_
      intro j4 hj4
      refine m_iload_n hC dX4_inHeaps_19 1 rfl ?_
      refine m_iald hC (wc_r7 y g S j4 hj4) (t0 := 0) rfl dX4_inHeaps_20 ?_
      intro x5
      refine m_iadd hC dX4_inHeaps_21 ?_
      refine m_nmI ?_
      intro x6
      refine m_istore_n hC [(0, .ref (g 1)), (1, .int a), (2, .int x6), (3, .int x2)] [1, 2, 0, 3] dX4_inHeaps_22 (by decide) rfl rfl ?_
      refine m_iinc hC (fun x7 => [(0, .ref (g 1)), (1, .int a), (2, .int x6), (3, .int x7)]) [1, 2, 3, 0] dX4_inHeaps_23 (j := 3) rfl (by decide) (by decide) (fun _ => rfl) (fun _ => rfl) ?_
      intro x7
      refine m_goto hC 4 dX4_inHeaps_26 (by decide) ?_
      exact hr3 _ _
def fX3_throughsAsked (a : Int32) (S : St) : Option (Int32) :=
  if (((S.1 12 7) >>> (a &&& 31)) &&& 1) = 1 then
    some (S.1 12 8)
  else
    some 0
abbrev rmX3_throughsAsked : Room := { frames := 0, cells := 0, slots := 0, locals := 0 }
theorem iX3_throughsAsked_X3 : ∀ w ∈ wsX30, w ∈ wsX3_throughsAsked := fun w h => List.mem_cons_of_mem _ (List.mem_append_right _ h)
set_option maxHeartbeats 4000000 in
set_option maxRecDepth 100000 in
theorem kX3_throughsAsked (l : Launch) (D : va_G) (y : Cy) (g : Nat → Nat) (a : Int32) (S : St) (x0 : Int32) (h : fX3_throughsAsked a S = some x0) : KI l yX3_throughsAsked wsX3_throughsAsked rmX3_throughsAsked D vwCl (tz y) (wc y g) (AC g) [.ref (g 12), .int a] S (fun r S2 => r = x0 ∧ S2 = S) := by
  refine m_entryIP (wc_ok y g) (by decide) rfl (Nat.le_of_ble_eq_true rfl) (lv := [(0, .ref (g 12)), (1, .int a)]) rfl h ?_
  intro p e s m args below meth c hC hr hlocks
  obtain ⟨Q, hQ⟩ : ∃ Q, Q = (MQ below (va_Qi (fun r S2 => r = x0 ∧ S2 = S) (Bw D vwCl (tz y) (wc y g) (AC g s.heap.size)) (AC g s.heap.size)) args s 0 0 (AC g s.heap.size)) := ⟨_, rfl⟩
  rw [← hQ]
  have hret : ∀ (v : Int32) (pc : Nat) (lv : List (Nat × Value)), decode cX3_throughsAsked pc = .ok (.ireturn, 1) → Sm p l e (headSpec wsX3_throughsAsked rmX3_throughsAsked).room s m args below meth c D vwCl (wc y g) (AC g s.heap.size) 2 Q x0 (some v) S pc lv [.int v] := by
    rw [hQ]
    exact fun v pc lv hd => m_iretP hC hr hlocks hd
  clear hQ
  unfold fX3_throughsAsked
  refine m_aload_n hC dX3_throughsAsked_0 0 rfl ?_
  refine m_get hC iX3_throughsAsked_X3 (wc_12 y g S) rfl 7 (by decide) (List.mem_of_getElem? (i := 1) rfl) rfl rfl dX3_throughsAsked_1 ?_
  refine m_iload_n hC dX3_throughsAsked_4 1 rfl ?_
  refine m_ishr hC dX3_throughsAsked_5 ?_
  refine m_iconst hC (1) dX3_throughsAsked_6 (by decide) ?_
  refine m_iand hC dX3_throughsAsked_7 ?_
  refine m_iconst hC (1) dX3_throughsAsked_8 (by decide) ?_
  refine m_icmp_ne hC 19 dX3_throughsAsked_9 (by decide) ?_ ?_
  · refine m_iconst hC (0) dX3_throughsAsked_19 (by decide) ?_
    exact hret _ _ _ dX3_throughsAsked_20
  · refine m_aload_n hC dX3_throughsAsked_12 0 rfl ?_
    refine m_get hC iX3_throughsAsked_X3 (wc_12 y g S) rfl 8 (by decide) (List.mem_of_getElem? (i := 2) rfl) rfl rfl dX3_throughsAsked_13 ?_
    refine m_goto hC 20 dX3_throughsAsked_16 (by decide) ?_
    exact hret _ _ _ dX3_throughsAsked_20
def fX3_tell (a : Int32) (b : Int32) (c2 : Int32) (d2 : Int32) (e2 : Int32) (f2 : Int32) (S : St) : Option (St) :=
  pfI S 12 0 1 fun S1 =>
  pfI S1 12 1 a fun S2 =>
  pfI S2 12 2 b fun S3 =>
  pfI S3 12 3 c2 fun S4 =>
  pfI S4 12 4 d2 fun S5 =>
  pfI S5 12 5 e2 fun S6 =>
  pfI S6 12 6 f2 fun S7 =>
  pfI S7 12 7 0 fun S8 =>
  pfI S8 12 8 0 fun S9 =>
  some S9
abbrev rmX3_tell : Room := { frames := 0, cells := 0, slots := 0, locals := 0 }
theorem iX3_tell_X3 : ∀ w ∈ wsX30, w ∈ wsX3_tell := fun w h => List.mem_cons_of_mem _ (List.mem_append_right _ h)
set_option maxHeartbeats 4000000 in
set_option maxRecDepth 100000 in
theorem kX3_tell (l : Launch) (D : va_G) (y : Cy) (g : Nat → Nat) (a : Int32) (b : Int32) (c2 : Int32) (d2 : Int32) (e2 : Int32) (f2 : Int32) (S : St) (x0 : St) (h : fX3_tell a b c2 d2 e2 f2 S = some x0) : KV l yX3_tell wsX3_tell rmX3_tell D vwCl (tz y) (wc y g) (AC g) [.ref (g 12), .int a, .int b, .int c2, .int d2, .int e2, .int f2] S (fun S2 => S2 = x0) := by
  refine m_entryV (wc_ok y g) (by decide) rfl (Nat.le_of_ble_eq_true rfl) (lv := [(0, .ref (g 12)), (1, .int a), (2, .int b), (3, .int c2), (4, .int d2), (5, .int e2), (6, .int f2)]) rfl h ?_
  intro p e s m args below meth c hC hr hlocks
  obtain ⟨Q, hQ⟩ : ∃ Q, Q = (MQ below (va_Qv (fun S2 => S2 = x0) (Bw D vwCl (tz y) (wc y g) (AC g s.heap.size)) (AC g s.heap.size)) args s 0 0 (AC g s.heap.size)) := ⟨_, rfl⟩
  rw [← hQ]
  have hret : ∀ (S2 : St) (pc : Nat) (lv : List (Nat × Value)), decode cX3_tell pc = .ok (.return_, 1) → Sm p l e (headSpec wsX3_tell rmX3_tell).room s m args below meth c D vwCl (wc y g) (AC g s.heap.size) 7 Q x0 (some S2) S2 pc lv [] := by
    rw [hQ]
    exact fun S2 pc lv hd => m_vret hC hr hlocks hd
  clear hQ
  unfold fX3_tell
  refine m_aload_n hC dX3_tell_0 0 rfl ?_
  refine m_iconst hC (1) dX3_tell_1 (by decide) ?_
  refine m_putI (ty := .boolean) hC iX3_tell_X3 tyX3 tyX3_ok nmX3 (wc_12 y g S) rfl 0 (by decide) (List.mem_of_getElem? (i := 1) rfl) rfl rfl (by decide +kernel) rfl rfl (Nat.le_of_ble_eq_true rfl) dX3_tell_2 (wcf_12_0 y g S _) ?_
  intro S1
  refine m_aload_n hC dX3_tell_5 0 rfl ?_
  refine m_iload_n hC dX3_tell_6 1 rfl ?_
  refine m_putI (ty := .int) hC iX3_tell_X3 tyX3 tyX3_ok nmX3 (wc_12 y g S1) rfl 1 (by decide) (List.mem_of_getElem? (i := 2) rfl) rfl rfl (by decide +kernel) rfl rfl (Nat.le_of_ble_eq_true rfl) dX3_tell_7 (wcf_12_1 y g S1 _) ?_
  intro S2
  refine m_aload_n hC dX3_tell_10 0 rfl ?_
  refine m_iload_n hC dX3_tell_11 2 rfl ?_
  refine m_putI (ty := .int) hC iX3_tell_X3 tyX3 tyX3_ok nmX3 (wc_12 y g S2) rfl 2 (by decide) (List.mem_of_getElem? (i := 3) rfl) rfl rfl (by decide +kernel) rfl rfl (Nat.le_of_ble_eq_true rfl) dX3_tell_12 (wcf_12_2 y g S2 _) ?_
  intro S3
  refine m_aload_n hC dX3_tell_15 0 rfl ?_
  refine m_iload_n hC dX3_tell_16 3 rfl ?_
  refine m_putI (ty := .int) hC iX3_tell_X3 tyX3 tyX3_ok nmX3 (wc_12 y g S3) rfl 3 (by decide) (List.mem_of_getElem? (i := 4) rfl) rfl rfl (by decide +kernel) rfl rfl (Nat.le_of_ble_eq_true rfl) dX3_tell_17 (wcf_12_3 y g S3 _) ?_
  intro S4
  refine m_aload_n hC dX3_tell_20 0 rfl ?_
  refine m_iload hC dX3_tell_21 4 rfl ?_
  refine m_putI (ty := .int) hC iX3_tell_X3 tyX3 tyX3_ok nmX3 (wc_12 y g S4) rfl 4 (by decide) (List.mem_of_getElem? (i := 5) rfl) rfl rfl (by decide +kernel) rfl rfl (Nat.le_of_ble_eq_true rfl) dX3_tell_23 (wcf_12_4 y g S4 _) ?_
  intro S5
  refine m_aload_n hC dX3_tell_26 0 rfl ?_
  refine m_iload hC dX3_tell_27 5 rfl ?_
  refine m_putI (ty := .int) hC iX3_tell_X3 tyX3 tyX3_ok nmX3 (wc_12 y g S5) rfl 5 (by decide) (List.mem_of_getElem? (i := 6) rfl) rfl rfl (by decide +kernel) rfl rfl (Nat.le_of_ble_eq_true rfl) dX3_tell_29 (wcf_12_5 y g S5 _) ?_
  intro S6
  refine m_aload_n hC dX3_tell_32 0 rfl ?_
  refine m_iload hC dX3_tell_33 6 rfl ?_
  refine m_putI (ty := .int) hC iX3_tell_X3 tyX3 tyX3_ok nmX3 (wc_12 y g S6) rfl 6 (by decide) (List.mem_of_getElem? (i := 7) rfl) rfl rfl (by decide +kernel) rfl rfl (Nat.le_of_ble_eq_true rfl) dX3_tell_35 (wcf_12_6 y g S6 _) ?_
  intro S7
  refine m_aload_n hC dX3_tell_38 0 rfl ?_
  refine m_iconst hC (0) dX3_tell_39 (by decide) ?_
  refine m_putI (ty := .int) hC iX3_tell_X3 tyX3 tyX3_ok nmX3 (wc_12 y g S7) rfl 7 (by decide) (List.mem_of_getElem? (i := 8) rfl) rfl rfl (by decide +kernel) rfl rfl (Nat.le_of_ble_eq_true rfl) dX3_tell_40 (wcf_12_7 y g S7 _) ?_
  intro S8
  refine m_aload_n hC dX3_tell_43 0 rfl ?_
  refine m_iconst hC (0) dX3_tell_44 (by decide) ?_
  refine m_putI (ty := .int) hC iX3_tell_X3 tyX3 tyX3_ok nmX3 (wc_12 y g S8) rfl 8 (by decide) (List.mem_of_getElem? (i := 9) rfl) rfl rfl (by decide +kernel) rfl rfl (Nat.le_of_ble_eq_true rfl) dX3_tell_45 (wcf_12_8 y g S8 _) ?_
  intro S9
  exact hret _ _ _ dX3_tell_48
def fX4_addHeap (a : Int32) (b : Int32) (S : St) : Option (Int32 × St) :=
  if (S.1 1 6) < 5 then
    stI S 4 5 (S.1 1 6) a fun S1 =>
    stI S1 5 5 (S1.1 1 6) b fun S2 =>
    pfI S2 1 6 ((S2.1 1 6) + 1) fun S3 =>
    some ((S3.1 1 6) - 1, S3)
  else
    some ((-1), S)
abbrev rmX4_addHeap : Room := { frames := 0, cells := 0, slots := 0, locals := 0 }
theorem iX4_addHeap_X4 : ∀ w ∈ wsX40, w ∈ wsX4_addHeap := fun w h => List.mem_cons_of_mem _ (List.mem_append_right _ h)
set_option maxHeartbeats 4000000 in
set_option maxRecDepth 100000 in
theorem kX4_addHeap (l : Launch) (D : va_G) (y : Cy) (g : Nat → Nat) (a : Int32) (b : Int32) (S : St) (x0 : Int32 × St) (h : fX4_addHeap a b S = some x0) : KI l yX4_addHeap wsX4_addHeap rmX4_addHeap D vwCl (tz y) (wc y g) (AC g) [.ref (g 1), .int a, .int b] S (fun r S2 => (r, S2) = x0) := by
  refine m_entryI (wc_ok y g) (by decide) rfl (Nat.le_of_ble_eq_true rfl) (lv := [(0, .ref (g 1)), (1, .int a), (2, .int b)]) rfl h ?_
  intro p e s m args below meth c hC hr hlocks
  obtain ⟨Q, hQ⟩ : ∃ Q, Q = (MQ below (va_Qi (fun r S2 => (r, S2) = x0) (Bw D vwCl (tz y) (wc y g) (AC g s.heap.size)) (AC g s.heap.size)) args s 0 0 (AC g s.heap.size)) := ⟨_, rfl⟩
  rw [← hQ]
  have hret : ∀ (v : Int32) (S2 : St) (pc : Nat) (lv : List (Nat × Value)), decode cX4_addHeap pc = .ok (.ireturn, 1) → Sm p l e (headSpec wsX4_addHeap rmX4_addHeap).room s m args below meth c D vwCl (wc y g) (AC g s.heap.size) 3 Q x0 (some (v, S2)) S2 pc lv [.int v] := by
    rw [hQ]
    exact fun v S2 pc lv hd => m_iret hC hr hlocks hd
  clear hQ
  unfold fX4_addHeap
  refine m_aload_n hC dX4_addHeap_0 0 rfl ?_
  refine m_get hC iX4_addHeap_X4 (wc_1 y g S) rfl 6 (by decide) (List.mem_of_getElem? (i := 1) rfl) rfl rfl dX4_addHeap_1 ?_
  refine m_iconst hC (5) dX4_addHeap_4 (by decide) ?_
  refine m_icmp_lt hC 10 dX4_addHeap_5 (by decide) ?_ ?_
  · refine m_aload_n hC dX4_addHeap_10 0 rfl ?_
    refine m_get hC iX4_addHeap_X4 (wc_1 y g S) rfl 2 (by decide) (List.mem_of_getElem? (i := 2) rfl) rfl rfl dX4_addHeap_11 ?_
    refine m_aload_n hC dX4_addHeap_14 0 rfl ?_
    refine m_get hC iX4_addHeap_X4 (wc_1 y g S) rfl 6 (by decide) (List.mem_of_getElem? (i := 1) rfl) rfl rfl dX4_addHeap_15 ?_
    refine m_iload_n hC dX4_addHeap_18 1 rfl ?_
    refine m_iast hC (wc_4 y g S) (t0 := 0) rfl (wcs_4 y g S) dX4_addHeap_19 ?_
    intro S1
    refine m_aload_n hC dX4_addHeap_20 0 rfl ?_
    refine m_get hC iX4_addHeap_X4 (wc_1 y g S1) rfl 3 (by decide) (List.mem_of_getElem? (i := 3) rfl) rfl rfl dX4_addHeap_21 ?_
    refine m_aload_n hC dX4_addHeap_24 0 rfl ?_
    refine m_get hC iX4_addHeap_X4 (wc_1 y g S1) rfl 6 (by decide) (List.mem_of_getElem? (i := 1) rfl) rfl rfl dX4_addHeap_25 ?_
    refine m_iload_n hC dX4_addHeap_28 2 rfl ?_
    refine m_iast hC (wc_5 y g S1) (t0 := 0) rfl (wcs_5 y g S1) dX4_addHeap_29 ?_
    intro S2
    refine m_aload_n hC dX4_addHeap_30 0 rfl ?_
    refine m_dup hC dX4_addHeap_31 rfl ?_
    refine m_get hC iX4_addHeap_X4 (wc_1 y g S2) rfl 6 (by decide) (List.mem_of_getElem? (i := 1) rfl) rfl rfl dX4_addHeap_32 ?_
    refine m_iconst hC (1) dX4_addHeap_35 (by decide) ?_
    refine m_iadd hC dX4_addHeap_36 ?_
    refine m_putI (ty := .int) hC iX4_addHeap_X4 tyX4 tyX4_ok nmX4 (wc_1 y g S2) rfl 6 (by decide) (List.mem_of_getElem? (i := 1) rfl) rfl rfl (by decide +kernel) rfl rfl (Nat.le_of_ble_eq_true rfl) dX4_addHeap_37 (wcf_1_6 y g S2 _) ?_
    intro S3
    refine m_aload_n hC dX4_addHeap_40 0 rfl ?_
    refine m_get hC iX4_addHeap_X4 (wc_1 y g S3) rfl 6 (by decide) (List.mem_of_getElem? (i := 1) rfl) rfl rfl dX4_addHeap_41 ?_
    refine m_iconst hC (1) dX4_addHeap_44 (by decide) ?_
    refine m_isub hC dX4_addHeap_45 ?_
    exact hret _ _ _ _ dX4_addHeap_46
  · refine m_iconst hC (-1) dX4_addHeap_8 (by decide) ?_
    exact hret _ _ _ _ dX4_addHeap_9
def fX4_addKind (a : Int32) (b : Int32) (S : St) : Option (Int32 × St) :=
  if (S.1 1 5) < 8 then
    stI S 2 8 (S.1 1 5) a fun S1 =>
    stI S1 3 8 (S1.1 1 5) b fun S2 =>
    pfI S2 1 5 ((S2.1 1 5) + 1) fun S3 =>
    some ((S3.1 1 5) - 1, S3)
  else
    some ((-1), S)
abbrev rmX4_addKind : Room := { frames := 0, cells := 0, slots := 0, locals := 0 }
theorem iX4_addKind_X4 : ∀ w ∈ wsX40, w ∈ wsX4_addKind := fun w h => List.mem_cons_of_mem _ (List.mem_append_right _ h)
set_option maxHeartbeats 4000000 in
set_option maxRecDepth 100000 in
theorem kX4_addKind (l : Launch) (D : va_G) (y : Cy) (g : Nat → Nat) (a : Int32) (b : Int32) (S : St) (x0 : Int32 × St) (h : fX4_addKind a b S = some x0) : KI l yX4_addKind wsX4_addKind rmX4_addKind D vwCl (tz y) (wc y g) (AC g) [.ref (g 1), .int a, .int b] S (fun r S2 => (r, S2) = x0) := by
  refine m_entryI (wc_ok y g) (by decide) rfl (Nat.le_of_ble_eq_true rfl) (lv := [(0, .ref (g 1)), (1, .int a), (2, .int b)]) rfl h ?_
  intro p e s m args below meth c hC hr hlocks
  obtain ⟨Q, hQ⟩ : ∃ Q, Q = (MQ below (va_Qi (fun r S2 => (r, S2) = x0) (Bw D vwCl (tz y) (wc y g) (AC g s.heap.size)) (AC g s.heap.size)) args s 0 0 (AC g s.heap.size)) := ⟨_, rfl⟩
  rw [← hQ]
  have hret : ∀ (v : Int32) (S2 : St) (pc : Nat) (lv : List (Nat × Value)), decode cX4_addKind pc = .ok (.ireturn, 1) → Sm p l e (headSpec wsX4_addKind rmX4_addKind).room s m args below meth c D vwCl (wc y g) (AC g s.heap.size) 3 Q x0 (some (v, S2)) S2 pc lv [.int v] := by
    rw [hQ]
    exact fun v S2 pc lv hd => m_iret hC hr hlocks hd
  clear hQ
  unfold fX4_addKind
  refine m_aload_n hC dX4_addKind_0 0 rfl ?_
  refine m_get hC iX4_addKind_X4 (wc_1 y g S) rfl 5 (by decide) (List.mem_of_getElem? (i := 1) rfl) rfl rfl dX4_addKind_1 ?_
  refine m_bipush hC (8) dX4_addKind_4 (by decide) ?_
  refine m_icmp_lt hC 11 dX4_addKind_6 (by decide) ?_ ?_
  · refine m_aload_n hC dX4_addKind_11 0 rfl ?_
    refine m_get hC iX4_addKind_X4 (wc_1 y g S) rfl 0 (by decide) (List.mem_of_getElem? (i := 2) rfl) rfl rfl dX4_addKind_12 ?_
    refine m_aload_n hC dX4_addKind_15 0 rfl ?_
    refine m_get hC iX4_addKind_X4 (wc_1 y g S) rfl 5 (by decide) (List.mem_of_getElem? (i := 1) rfl) rfl rfl dX4_addKind_16 ?_
    refine m_iload_n hC dX4_addKind_19 1 rfl ?_
    refine m_iast hC (wc_2 y g S) (t0 := 0) rfl (wcs_2 y g S) dX4_addKind_20 ?_
    intro S1
    refine m_aload_n hC dX4_addKind_21 0 rfl ?_
    refine m_get hC iX4_addKind_X4 (wc_1 y g S1) rfl 1 (by decide) (List.mem_of_getElem? (i := 3) rfl) rfl rfl dX4_addKind_22 ?_
    refine m_aload_n hC dX4_addKind_25 0 rfl ?_
    refine m_get hC iX4_addKind_X4 (wc_1 y g S1) rfl 5 (by decide) (List.mem_of_getElem? (i := 1) rfl) rfl rfl dX4_addKind_26 ?_
    refine m_iload_n hC dX4_addKind_29 2 rfl ?_
    refine m_iast hC (wc_3 y g S1) (t0 := 0) rfl (wcs_3 y g S1) dX4_addKind_30 ?_
    intro S2
    refine m_aload_n hC dX4_addKind_31 0 rfl ?_
    refine m_dup hC dX4_addKind_32 rfl ?_
    refine m_get hC iX4_addKind_X4 (wc_1 y g S2) rfl 5 (by decide) (List.mem_of_getElem? (i := 1) rfl) rfl rfl dX4_addKind_33 ?_
    refine m_iconst hC (1) dX4_addKind_36 (by decide) ?_
    refine m_iadd hC dX4_addKind_37 ?_
    refine m_putI (ty := .int) hC iX4_addKind_X4 tyX4 tyX4_ok nmX4 (wc_1 y g S2) rfl 5 (by decide) (List.mem_of_getElem? (i := 1) rfl) rfl rfl (by decide +kernel) rfl rfl (Nat.le_of_ble_eq_true rfl) dX4_addKind_38 (wcf_1_5 y g S2 _) ?_
    intro S3
    refine m_aload_n hC dX4_addKind_41 0 rfl ?_
    refine m_get hC iX4_addKind_X4 (wc_1 y g S3) rfl 5 (by decide) (List.mem_of_getElem? (i := 1) rfl) rfl rfl dX4_addKind_42 ?_
    refine m_iconst hC (1) dX4_addKind_45 (by decide) ?_
    refine m_isub hC dX4_addKind_46 ?_
    exact hret _ _ _ _ dX4_addKind_47
  · refine m_iconst hC (-1) dX4_addKind_9 (by decide) ?_
    exact hret _ _ _ _ dX4_addKind_10
def fX4_hasHeap (a : Int32) (S : St) : Option (Int32) :=
  if a < 0 then
    some 0
  else
    if a < (S.1 1 6) then
      some 1
    else
      some 0
abbrev rmX4_hasHeap : Room := { frames := 0, cells := 0, slots := 0, locals := 0 }
theorem iX4_hasHeap_X4 : ∀ w ∈ wsX40, w ∈ wsX4_hasHeap := fun w h => List.mem_cons_of_mem _ (List.mem_append_right _ h)
set_option maxHeartbeats 4000000 in
set_option maxRecDepth 100000 in
theorem kX4_hasHeap (l : Launch) (D : va_G) (y : Cy) (g : Nat → Nat) (a : Int32) (S : St) (x0 : Int32) (h : fX4_hasHeap a S = some x0) : KI l yX4_hasHeap wsX4_hasHeap rmX4_hasHeap D vwCl (tz y) (wc y g) (AC g) [.ref (g 1), .int a] S (fun r S2 => r = x0 ∧ S2 = S) := by
  refine m_entryIP (wc_ok y g) (by decide) rfl (Nat.le_of_ble_eq_true rfl) (lv := [(0, .ref (g 1)), (1, .int a)]) rfl h ?_
  intro p e s m args below meth c hC hr hlocks
  obtain ⟨Q, hQ⟩ : ∃ Q, Q = (MQ below (va_Qi (fun r S2 => r = x0 ∧ S2 = S) (Bw D vwCl (tz y) (wc y g) (AC g s.heap.size)) (AC g s.heap.size)) args s 0 0 (AC g s.heap.size)) := ⟨_, rfl⟩
  rw [← hQ]
  have hret : ∀ (v : Int32) (pc : Nat) (lv : List (Nat × Value)), decode cX4_hasHeap pc = .ok (.ireturn, 1) → narrow .boolean (.int v) = .int v → Sm p l e (headSpec wsX4_hasHeap rmX4_hasHeap).room s m args below meth c D vwCl (wc y g) (AC g s.heap.size) 2 Q x0 (some v) S pc lv [.int v] := by
    rw [hQ]
    exact fun v pc lv hd hz => m_zretP hC hz hr hlocks hd
  clear hQ
  unfold fX4_hasHeap
  refine m_iload_n hC dX4_hasHeap_0 1 rfl ?_
  refine m_if_lt hC 16 dX4_hasHeap_1 (by decide) ?_ ?_
  · refine m_iconst hC (0) dX4_hasHeap_16 (by decide) ?_
    exact hret _ _ _ dX4_hasHeap_17 rfl
  · refine m_iload_n hC dX4_hasHeap_4 1 rfl ?_
    refine m_aload_n hC dX4_hasHeap_5 0 rfl ?_
    refine m_get hC iX4_hasHeap_X4 (wc_1 y g S) rfl 6 (by decide) (List.mem_of_getElem? (i := 1) rfl) rfl rfl dX4_hasHeap_6 ?_
    refine m_icmp_ge hC 16 dX4_hasHeap_9 (by decide) ?_ ?_
    · refine m_iconst hC (0) dX4_hasHeap_16 (by decide) ?_
      exact hret _ _ _ dX4_hasHeap_17 rfl
    · refine m_iconst hC (1) dX4_hasHeap_12 (by decide) ?_
      refine m_goto hC 17 dX4_hasHeap_13 (by decide) ?_
      exact hret _ _ _ dX4_hasHeap_17 rfl
def fX4_hasKind (a : Int32) (S : St) : Option (Int32) :=
  if a < 0 then
    some 0
  else
    if a < (S.1 1 5) then
      some 1
    else
      some 0
abbrev rmX4_hasKind : Room := { frames := 0, cells := 0, slots := 0, locals := 0 }
theorem iX4_hasKind_X4 : ∀ w ∈ wsX40, w ∈ wsX4_hasKind := fun w h => List.mem_cons_of_mem _ (List.mem_append_right _ h)
set_option maxHeartbeats 4000000 in
set_option maxRecDepth 100000 in
theorem kX4_hasKind (l : Launch) (D : va_G) (y : Cy) (g : Nat → Nat) (a : Int32) (S : St) (x0 : Int32) (h : fX4_hasKind a S = some x0) : KI l yX4_hasKind wsX4_hasKind rmX4_hasKind D vwCl (tz y) (wc y g) (AC g) [.ref (g 1), .int a] S (fun r S2 => r = x0 ∧ S2 = S) := by
  refine m_entryIP (wc_ok y g) (by decide) rfl (Nat.le_of_ble_eq_true rfl) (lv := [(0, .ref (g 1)), (1, .int a)]) rfl h ?_
  intro p e s m args below meth c hC hr hlocks
  obtain ⟨Q, hQ⟩ : ∃ Q, Q = (MQ below (va_Qi (fun r S2 => r = x0 ∧ S2 = S) (Bw D vwCl (tz y) (wc y g) (AC g s.heap.size)) (AC g s.heap.size)) args s 0 0 (AC g s.heap.size)) := ⟨_, rfl⟩
  rw [← hQ]
  have hret : ∀ (v : Int32) (pc : Nat) (lv : List (Nat × Value)), decode cX4_hasKind pc = .ok (.ireturn, 1) → narrow .boolean (.int v) = .int v → Sm p l e (headSpec wsX4_hasKind rmX4_hasKind).room s m args below meth c D vwCl (wc y g) (AC g s.heap.size) 2 Q x0 (some v) S pc lv [.int v] := by
    rw [hQ]
    exact fun v pc lv hd hz => m_zretP hC hz hr hlocks hd
  clear hQ
  unfold fX4_hasKind
  refine m_iload_n hC dX4_hasKind_0 1 rfl ?_
  refine m_if_lt hC 16 dX4_hasKind_1 (by decide) ?_ ?_
  · refine m_iconst hC (0) dX4_hasKind_16 (by decide) ?_
    exact hret _ _ _ dX4_hasKind_17 rfl
  · refine m_iload_n hC dX4_hasKind_4 1 rfl ?_
    refine m_aload_n hC dX4_hasKind_5 0 rfl ?_
    refine m_get hC iX4_hasKind_X4 (wc_1 y g S) rfl 5 (by decide) (List.mem_of_getElem? (i := 1) rfl) rfl rfl dX4_hasKind_6 ?_
    refine m_icmp_ge hC 16 dX4_hasKind_9 (by decide) ?_ ?_
    · refine m_iconst hC (0) dX4_hasKind_16 (by decide) ?_
      exact hret _ _ _ dX4_hasKind_17 rfl
    · refine m_iconst hC (1) dX4_hasKind_12 (by decide) ?_
      refine m_goto hC 17 dX4_hasKind_13 (by decide) ?_
      exact hret _ _ _ dX4_hasKind_17 rfl
