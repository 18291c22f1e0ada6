def fX0_way (a : Int32) (b : Int32) (S : St) : Option (Int32) :=
  ldI 5 (S.1 4) a fun x1 =>
  ldI 5 (S.1 5) a fun x2 =>
  some ((abI (x1 - ((S.1 12 1) + b))) + (abI (x2 - (S.1 12 2))))
abbrev rmX0_way : Room := { frames := 1, cells := 0, slots := 0, locals := 21 }
theorem iX0_way_X0 : ∀ w ∈ wsX00, w ∈ wsX0_way := fun w h => List.mem_cons_of_mem _ (List.mem_append_left _ (List.mem_append_left _ (List.mem_append_right _ h)))
theorem iX0_way_X4 : ∀ w ∈ wsX40, w ∈ wsX0_way := fun w h => List.mem_cons_of_mem _ (List.mem_append_left _ (List.mem_append_right _ h))
theorem iX0_way_X3 : ∀ w ∈ wsX30, w ∈ wsX0_way := fun w h => List.mem_cons_of_mem _ (List.mem_append_right _ h)
set_option maxHeartbeats 4000000 in
set_option maxRecDepth 100000 in
theorem kX0_way (l : Launch) (D : va_G) (y : Cy) (g : Nat → Nat) (a : Int32) (b : Int32) (S : St) (x0 : Int32) (h : fX0_way a b S = some x0) : KI l yX0_way wsX0_way rmX0_way D vwCl (tz y) (wc y g) (AC g) [.ref (g 24), .int a, .int b] S (fun r S2 => r = x0 ∧ S2 = S) := by
  refine m_entryIP (wc_ok y g) (by decide) rfl (Nat.le_of_ble_eq_true rfl) (lv := [(0, .ref (g 24)), (1, .int a), (2, .int b)]) rfl h ?_
  intro p e s m args below meth c hC hr hlocks
  obtain ⟨Q, hQ⟩ : ∃ Q, Q = (MQ below (va_Qi (fun r S2 => r = x0 ∧ S2 = S) (Bw D vwCl (tz y) (wc y g) (AC g s.heap.size)) (AC g s.heap.size)) args s 0 0 (AC g s.heap.size)) := ⟨_, rfl⟩
  rw [← hQ]
  have hret : ∀ (v : Int32) (pc : Nat) (lv : List (Nat × Value)), decode cX0_way pc = .ok (.ireturn, 1) → Sm p l e (headSpec wsX0_way rmX0_way).room s m args below meth c D vwCl (wc y g) (AC g s.heap.size) 3 Q x0 (some v) S pc lv [.int v] := by
    rw [hQ]
    exact fun v pc lv hd => m_iretP hC hr hlocks hd
  clear hQ
  unfold fX0_way
  refine m_aload_n hC dX0_way_0 0 rfl ?_
  refine m_get hC iX0_way_X0 (wc_24 y g S) rfl 0 (by decide) (List.mem_of_getElem? (i := 1) rfl) rfl rfl dX0_way_1 ?_
  refine m_get hC iX0_way_X4 (wc_1 y g S) rfl 2 (by decide) (List.mem_of_getElem? (i := 2) rfl) rfl rfl dX0_way_4 ?_
  refine m_iload_n hC dX0_way_7 1 rfl ?_
  refine m_iald hC (wc_4 y g S) (t0 := 0) rfl dX0_way_8 ?_
  intro x1
  refine m_aload_n hC dX0_way_9 0 rfl ?_
  refine m_get hC iX0_way_X0 (wc_24 y g S) rfl 1 (by decide) (List.mem_of_getElem? (i := 3) rfl) rfl rfl dX0_way_10 ?_
  refine m_get hC iX0_way_X3 (wc_12 y g S) rfl 1 (by decide) (List.mem_of_getElem? (i := 4) rfl) rfl rfl dX0_way_13 ?_
  refine m_iload_n hC dX0_way_16 2 rfl ?_
  refine m_iadd hC dX0_way_17 ?_
  refine m_isub hC dX0_way_18 ?_
  refine m_abs hC (List.mem_of_getElem? (i := 5) rfl) (List.mem_of_getElem? (i := 6) rfl) (List.mem_of_getElem? (i := 7) rfl) (List.mem_of_getElem? (i := 8) rfl) (Nat.le_of_ble_eq_true rfl) (Nat.le_of_ble_eq_true rfl) dX0_way_19 ?_
  refine m_aload_n hC dX0_way_22 0 rfl ?_
  refine m_get hC iX0_way_X0 (wc_24 y g S) rfl 0 (by decide) (List.mem_of_getElem? (i := 1) rfl) rfl rfl dX0_way_23 ?_
  refine m_get hC iX0_way_X4 (wc_1 y g S) rfl 3 (by decide) (List.mem_of_getElem? (i := 9) rfl) rfl rfl dX0_way_26 ?_
  refine m_iload_n hC dX0_way_29 1 rfl ?_
  refine m_iald hC (wc_5 y g S) (t0 := 0) rfl dX0_way_30 ?_
  intro x2
  refine m_aload_n hC dX0_way_31 0 rfl ?_
  refine m_get hC iX0_way_X0 (wc_24 y g S) rfl 1 (by decide) (List.mem_of_getElem? (i := 3) rfl) rfl rfl dX0_way_32 ?_
  refine m_get hC iX0_way_X3 (wc_12 y g S) rfl 2 (by decide) (List.mem_of_getElem? (i := 10) rfl) rfl rfl dX0_way_35 ?_
  refine m_isub hC dX0_way_38 ?_
  refine m_abs hC (List.mem_of_getElem? (i := 5) rfl) (List.mem_of_getElem? (i := 6) rfl) (List.mem_of_getElem? (i := 7) rfl) (List.mem_of_getElem? (i := 8) rfl) (Nat.le_of_ble_eq_true rfl) (Nat.le_of_ble_eq_true rfl) dX0_way_39 ?_
  refine m_iadd hC dX0_way_42 ?_
  exact hret _ _ _ dX0_way_43
def fX0_nearestWith_L5 (a : Int32) (b : Int32) (S : St) (r4 : Int32 → Int32 → Option (Int32)) : Int32 → Int32 → Option (Int32) := fun x2 x3 =>
  if x3 < (S.1 1 6) then
    jn (fun (x5 : Int32) =>
        ldR 5 x3 fun j7 =>
        ldI 8 (S.1 (7 + j7)) a fun x8 =>
        if x8 ≤ 0 then
          nmI (x3 + 1) fun x9 =>
          r4 x2 x9
        else
          if x5 = 0 then
            nmI (x3 + 1) fun x10 =>
            r4 x2 x10
          else
            nmI (x3 + 1) fun x11 =>
            r4 x3 x11) fun J6 =>
    if x2 = (-1) then
      J6 1
    else
      caP (fX0_way x3 b S) fun x12 =>
      caP (fX0_way x2 b S) fun x13 =>
      if x12 < x13 then
        J6 1
      else
        J6 0
  else
    some x2
def fX0_nearestWith (N : Nat) (a : Int32) (b : Int32) (S : St) : Option (Int32) :=
  nmI (-1) fun x1 =>
  itN (fun _ _ => none) (fX0_nearestWith_L5 a b S) N x1 0
abbrev rmX0_nearestWith : Room := { frames := 2, cells := 0, slots := 0, locals := 43 }
theorem iX0_nearestWith_X0 : ∀ w ∈ wsX00, w ∈ wsX0_nearestWith := fun w h => List.mem_cons_of_mem _ (List.mem_append_left _ (List.mem_append_left _ (List.mem_append_right _ h)))
theorem iX0_nearestWith_X4 : ∀ w ∈ wsX40, w ∈ wsX0_nearestWith := fun w h => List.mem_cons_of_mem _ (List.mem_append_left _ (List.mem_append_right _ h))
theorem iX0_nearestWith_X3 : ∀ w ∈ wsX30, w ∈ wsX0_nearestWith := fun w h => List.mem_cons_of_mem _ (List.mem_append_right _ h)
set_option maxHeartbeats 4000000 in
set_option maxRecDepth 100000 in
theorem kX0_nearestWith (l : Launch) (D : va_G) (y : Cy) (g : Nat → Nat) (N : Nat) (a : Int32) (b : Int32) (S : St) (x0 : Int32) (h : fX0_nearestWith N a b S = some x0) : KI l yX0_nearestWith wsX0_nearestWith rmX0_nearestWith D vwCl (tz y) (wc y g) (AC g) [.ref (g 24), .int a, .int b] S (fun r S2 => r = x0 ∧ S2 = S) := by
  refine m_entryIP (wc_ok y g) (by decide) rfl (Nat.le_of_ble_eq_true rfl) (lv := [(0, .ref (g 24)), (1, .int a), (2, .int b)]) rfl h ?_
  intro p e s m args below meth c hC hr hlocks
  obtain ⟨Q, hQ⟩ : ∃ Q, Q = (MQ below (va_Qi (fun r S2 => r = x0 ∧ S2 = S) (Bw D vwCl (tz y) (wc y g) (AC g s.heap.size)) (AC g s.heap.size)) args s 0 0 (AC g s.heap.size)) := ⟨_, rfl⟩
  rw [← hQ]
  have hret : ∀ (v : Int32) (pc : Nat) (lv : List (Nat × Value)), decode cX0_nearestWith pc = .ok (.ireturn, 1) → Sm p l e (headSpec wsX0_nearestWith rmX0_nearestWith).room s m args below meth c D vwCl (wc y g) (AC g s.heap.size) 6 Q x0 (some v) S pc lv [.int v] := by
    rw [hQ]
    exact fun v pc lv hd => m_iretP hC hr hlocks hd
  clear hQ
  unfold fX0_nearestWith
  refine m_iconst hC (-1) dX0_nearestWith_0 (by decide) ?_
  refine m_nmI ?_
  intro x1
  refine m_istore_n hC [(0, .ref (g 24)), (1, .int a), (2, .int b), (3, .int x1)] [1, 2, 3, 0] dX0_nearestWith_1 (by decide) rfl rfl ?_
  refine m_iconst hC (0) dX0_nearestWith_2 (by decide) ?_
  refine m_istore hC [(0, .ref (g 24)), (1, .int a), (2, .int b), (3, .int x1), (4, .int 0)] [1, 2, 3, 4, 0] dX0_nearestWith_3 (by decide) rfl rfl ?_
  refine (m_it (z := (fun _ _ => none)) (F := fX0_nearestWith_L5 a b S) N (fun r4 => ∀ (x2 : Int32) (x3 : Int32), Sm p l e (headSpec wsX0_nearestWith rmX0_nearestWith).room s m args below meth c D vwCl (wc y g) (AC g s.heap.size) 6 Q x0 (r4 x2 x3) S 5 [(0, .ref (g 24)), (1, .int a), (2, .int b), (3, .int x2), (4, .int x3)] []) ?_ ?_) x1 0
  · exact fun _ _ => m_none
  · intro r4 hr4 x2 x3
    unfold fX0_nearestWith_L5
    refine m_iload hC dX0_nearestWith_5 4 rfl ?_
    refine m_aload_n hC dX0_nearestWith_7 0 rfl ?_
    refine m_get hC iX0_nearestWith_X0 (wc_24 y g S) rfl 0 (by decide) (List.mem_of_getElem? (i := 1) rfl) rfl rfl dX0_nearestWith_8 ?_
    refine m_get hC iX0_nearestWith_X4 (wc_1 y g S) rfl 6 (by decide) (List.mem_of_getElem? (i := 2) rfl) rfl rfl dX0_nearestWith_11 ?_
    refine m_icmp_ge hC 74 dX0_nearestWith_14 (by decide) ?_ ?_
    · refine m_iload_n hC dX0_nearestWith_74 3 rfl ?_
      exact hret _ _ _ dX0_nearestWith_75
    · refine m_iload_n hC dX0_nearestWith_17 3 rfl ?_
      refine m_iconst hC (-1) dX0_nearestWith_18 (by decide) ?_
      refine m_jn (fun J6 => ∀ (x5 : Int32), Sm p l e (headSpec wsX0_nearestWith rmX0_nearestWith).room s m args below meth c D vwCl (wc y g) (AC g s.heap.size) 6 Q x0 (J6 x5) S 43 [(0, .ref (g 24)), (1, .int a), (2, .int b), (3, .int x2), (4, .int x3)] [.int x5]) ?_ (fun J6 hJ6 => ?_)
      · intro x5
        refine m_istore hC [(0, .ref (g 24)), (1, .int a), (2, .int b), (3, .int x2), (4, .int x3), (5, .int x5)] [1, 2, 3, 4, 5, 0] dX0_nearestWith_43 (by decide) rfl rfl ?_
        refine m_aload_n hC dX0_nearestWith_45 0 rfl ?_
        refine m_get hC iX0_nearestWith_X0 (wc_24 y g S) rfl 0 (by decide) (List.mem_of_getElem? (i := 1) rfl) rfl rfl dX0_nearestWith_46 ?_
        refine m_get hC iX0_nearestWith_X4 (wc_1 y g S) rfl 4 (by decide) (List.mem_of_getElem? (i := 3) rfl) rfl rfl dX0_nearestWith_49 ?_
        refine m_iload hC dX0_nearestWith_52 4 rfl ?_
        refine m_aald hC (wc_6 y g S) (t0 := 2) rfl (rows_at g 7 5) dX0_nearestWith_54 ?_
        intro j7 hj7
        refine m_iload_n hC dX0_nearestWith_55 1 rfl ?_
        refine m_iald hC (wc_r7 y g S j7 hj7) (t0 := 0) rfl dX0_nearestWith_56 ?_
        intro x8
        refine m_if_le hC 68 dX0_nearestWith_57 (by decide) ?_ ?_
        · refine m_iinc hC (fun x9 => [(0, .ref (g 24)), (1, .int a), (2, .int b), (3, .int x2), (4, .int x9), (5, .int x5)]) [1, 2, 3, 4, 0, 5] dX0_nearestWith_68 (j := 4) rfl (by decide) (by decide) (fun _ => rfl) (fun _ => rfl) ?_
          intro x9
          refine m_goto hC 5 dX0_nearestWith_71 (by decide) ?_
          refine m_lv [(0, .ref (g 24)), (1, .int a), (2, .int b), (3, .int x2), (4, .int x9)] [0, 1, 2, 3, 4] rfl ?_
          exact hr4 _ _
        · refine m_iload hC dX0_nearestWith_60 5 rfl ?_
          refine m_if_eq hC 68 dX0_nearestWith_62 (by decide) ?_ ?_
          · refine m_iinc hC (fun x10 => [(0, .ref (g 24)), (1, .int a), (2, .int b), (3, .int x2), (4, .int x10), (5, .int x5)]) [1, 2, 3, 4, 0, 5] dX0_nearestWith_68 (j := 4) rfl (by decide) (by decide) (fun _ => rfl) (fun _ => rfl) ?_
            intro x10
            refine m_goto hC 5 dX0_nearestWith_71 (by decide) ?_
            refine m_lv [(0, .ref (g 24)), (1, .int a), (2, .int b), (3, .int x2), (4, .int x10)] [0, 1, 2, 3, 4] rfl ?_
            exact hr4 _ _
          · refine m_iload hC dX0_nearestWith_65 4 rfl ?_
            refine m_istore_n hC [(0, .ref (g 24)), (1, .int a), (2, .int b), (3, .int x3), (4, .int x3), (5, .int x5)] [1, 2, 3, 0, 4, 5] dX0_nearestWith_67 (by decide) rfl rfl ?_
            refine m_iinc hC (fun x11 => [(0, .ref (g 24)), (1, .int a), (2, .int b), (3, .int x3), (4, .int x11), (5, .int x5)]) [1, 2, 3, 4, 0, 5] dX0_nearestWith_68 (j := 4) rfl (by decide) (by decide) (fun _ => rfl) (fun _ => rfl) ?_
            intro x11
            refine m_goto hC 5 dX0_nearestWith_71 (by decide) ?_
            refine m_lv [(0, .ref (g 24)), (1, .int a), (2, .int b), (3, .int x3), (4, .int x11)] [0, 1, 2, 3, 4] rfl ?_
            exact hr4 _ _
      · refine m_icmp_eq hC 38 dX0_nearestWith_19 (by decide) ?_ ?_
        · refine m_iconst hC (1) dX0_nearestWith_38 (by decide) ?_
          refine m_goto hC 43 dX0_nearestWith_39 (by decide) ?_
          exact hJ6 _
        · refine m_aload_n hC dX0_nearestWith_22 0 rfl ?_
          refine m_iload hC dX0_nearestWith_23 4 rfl ?_
          refine m_iload_n hC dX0_nearestWith_25 2 rfl ?_
          refine m_cIPV hC (As := [.int x3, .int b]) (wc_ok y g) (cwV 2 hC.1.2.2.2.2 gX0_nearestWith_X0_way rfl rfl rfl (by decide +kernel) ⟨Nat.le_of_ble_eq_true rfl, Nat.le_of_ble_eq_true rfl⟩) (wc_24 y g S) rfl (fun xq hq => kX0_way l D y g x3 b S xq hq) rfl (Nat.le_of_ble_eq_true rfl) dX0_nearestWith_26 ?_
          intro x12
          refine m_aload_n hC dX0_nearestWith_29 0 rfl ?_
          refine m_iload_n hC dX0_nearestWith_30 3 rfl ?_
          refine m_iload_n hC dX0_nearestWith_31 2 rfl ?_
          refine m_cIPV hC (As := [.int x2, .int b]) (wc_ok y g) (cwV 2 hC.1.2.2.2.2 gX0_nearestWith_X0_way rfl rfl rfl (by decide +kernel) ⟨Nat.le_of_ble_eq_true rfl, Nat.le_of_ble_eq_true rfl⟩) (wc_24 y g S) rfl (fun xq hq => kX0_way l D y g x2 b S xq hq) rfl (Nat.le_of_ble_eq_true rfl) dX0_nearestWith_32 ?_
          intro x13
          refine m_icmp_ge hC 42 dX0_nearestWith_35 (by decide) ?_ ?_
          · refine m_iconst hC (0) dX0_nearestWith_42 (by decide) ?_
            exact hJ6 _
          · refine m_iconst hC (1) dX0_nearestWith_38 (by decide) ?_
            refine m_goto hC 43 dX0_nearestWith_39 (by decide) ?_
            exact hJ6 _
def fX0_weight (a : Int32) (S : St) : Option (Int64) :=
  ldI 8 (S.1 2) a fun x1 =>
  ldI 8 (S.1 3) a fun x2 =>
  some (x1.toInt64 * x2.toInt64)
abbrev rmX0_weight : Room := { frames := 0, cells := 0, slots := 0, locals := 0 }
theorem iX0_weight_X0 : ∀ w ∈ wsX00, w ∈ wsX0_weight := fun w h => List.mem_cons_of_mem _ (List.mem_append_left _ (List.mem_append_right _ h))
theorem iX0_weight_X4 : ∀ w ∈ wsX40, w ∈ wsX0_weight := fun w h => List.mem_cons_of_mem _ (List.mem_append_right _ h)
set_option maxHeartbeats 4000000 in
set_option maxRecDepth 100000 in
theorem kX0_weight (l : Launch) (D : va_G) (y : Cy) (g : Nat → Nat) (a : Int32) (S : St) (x0 : Int64) (h : fX0_weight a S = some x0) : KL l yX0_weight wsX0_weight rmX0_weight D vwCl (tz y) (wc y g) (AC g) [.ref (g 24), .int a] S (fun r S2 => r = x0 ∧ S2 = S) := by
  refine m_entryLP (wc_ok y g) (by decide) rfl (Nat.le_of_ble_eq_true rfl) (lv := [(0, .ref (g 24)), (1, .int a)]) rfl h ?_
  intro p e s m args below meth c hC hr hlocks
  obtain ⟨Q, hQ⟩ : ∃ Q, Q = (MQ below (va_Ql (fun r S2 => r = x0 ∧ S2 = S) (Bw D vwCl (tz y) (wc y g) (AC g s.heap.size)) (AC g s.heap.size)) args s 0 0 (AC g s.heap.size)) := ⟨_, rfl⟩
  rw [← hQ]
  have hret : ∀ (v : Int64) (pc : Nat) (lv : List (Nat × Value)), decode cX0_weight pc = .ok (.lreturn, 1) → Sm p l e (headSpec wsX0_weight rmX0_weight).room s m args below meth c D vwCl (wc y g) (AC g s.heap.size) 2 Q x0 (some v) S pc lv [.long v] := by
    rw [hQ]
    exact fun v pc lv hd => m_lretP hC hr hlocks hd
  clear hQ
  unfold fX0_weight
  refine m_aload_n hC dX0_weight_0 0 rfl ?_
  refine m_get hC iX0_weight_X0 (wc_24 y g S) rfl 0 (by decide) (List.mem_of_getElem? (i := 1) rfl) rfl rfl dX0_weight_1 ?_
  refine m_get hC iX0_weight_X4 (wc_1 y g S) rfl 0 (by decide) (List.mem_of_getElem? (i := 2) rfl) rfl rfl dX0_weight_4 ?_
  refine m_iload_n hC dX0_weight_7 1 rfl ?_
  refine m_iald hC (wc_2 y g S) (t0 := 0) rfl dX0_weight_8 ?_
  intro x1
  refine m_i2l hC dX0_weight_9 ?_
  refine m_aload_n hC dX0_weight_10 0 rfl ?_
  refine m_get hC iX0_weight_X0 (wc_24 y g S) rfl 0 (by decide) (List.mem_of_getElem? (i := 1) rfl) rfl rfl dX0_weight_11 ?_
  refine m_get hC iX0_weight_X4 (wc_1 y g S) rfl 1 (by decide) (List.mem_of_getElem? (i := 3) rfl) rfl rfl dX0_weight_14 ?_
  refine m_iload_n hC dX0_weight_17 1 rfl ?_
  refine m_iald hC (wc_3 y g S) (t0 := 0) rfl dX0_weight_18 ?_
  intro x2
  refine m_i2l hC dX0_weight_19 ?_
  refine m_lmul hC dX0_weight_20 ?_
  exact hret _ _ _ dX0_weight_21
def fX0_carryAll_L4 (N : Nat) (r4 : Int64 → Int32 → St → Option (Int64 × St)) : Int64 → Int32 → St → Option (Int64 × St) := fun x1 x2 S3 =>
  if x2 < (S3.1 13 9) then
    ldI 144 (S3.1 14) x2 fun x5 =>
    ldI 144 (S3.1 16) x2 fun x6 =>
    caP (fX0_nearestWith N x5 x6 S3) fun x7 =>
    stI S3 18 144 x2 x7 fun S8 =>
    if x7 = (-1) then
      nmI (x2 + 1) fun x9 =>
      r4 x1 x9 S8
    else
      ldR 5 x7 fun j10 =>
      ldI 8 (S8.1 (7 + j10)) x5 fun x11 =>
      stI S8 (7 + j10) 8 x5 (x11 - 1) fun S12 =>
      caP (fX0_weight x5 S12) fun x13 =>
      ldI 144 (S12.1 16) x2 fun x14 =>
      caP (fX0_way x7 x14 S12) fun x15 =>
      nmL (x1 + (x13 * x15.toInt64)) fun x16 =>
      nmI (x2 + 1) fun x17 =>
      r4 x16 x17 S12
  else
    some (x1, S3)
def fX0_carryAll (N : Nat) (S : St) : Option (Int64 × St) :=
  itN (fun _ _ _ => none) (fX0_carryAll_L4 N) N 0 0 S
abbrev rmX0_carryAll : Room := { frames := 3, cells := 0, slots := 0, locals := 68 }
theorem iX0_carryAll_X0 : ∀ w ∈ wsX00, w ∈ wsX0_carryAll := fun w h => List.mem_cons_of_mem _ (List.mem_append_left _ (List.mem_append_left _ (List.mem_append_left _ (List.mem_append_right _ h))))
theorem iX0_carryAll_X1 : ∀ w ∈ wsX10, w ∈ wsX0_carryAll := fun w h => List.mem_cons_of_mem _ (List.mem_append_left _ (List.mem_append_left _ (List.mem_append_right _ h)))
theorem iX0_carryAll_X4 : ∀ w ∈ wsX40, w ∈ wsX0_carryAll := fun w h => List.mem_cons_of_mem _ (List.mem_append_left _ (List.mem_append_right _ h))
theorem iX0_carryAll_X3 : ∀ w ∈ wsX30, w ∈ wsX0_carryAll := fun w h => List.mem_cons_of_mem _ (List.mem_append_right _ h)
set_option maxHeartbeats 4000000 in
set_option maxRecDepth 100000 in
theorem kX0_carryAll (l : Launch) (D : va_G) (y : Cy) (g : Nat → Nat) (N : Nat) (S : St) (x0 : Int64 × St) (h : fX0_carryAll N S = some x0) : KL l yX0_carryAll wsX0_carryAll rmX0_carryAll D vwCl (tz y) (wc y g) (AC g) [.ref (g 24)] S (fun r S2 => (r, S2) = x0) := by
  refine m_entryL (wc_ok y g) (by decide) rfl (Nat.le_of_ble_eq_true rfl) (lv := [(0, .ref (g 24))]) rfl h ?_
  intro p e s m args below meth c hC hr hlocks
  obtain ⟨Q, hQ⟩ : ∃ Q, Q = (MQ below (va_Ql (fun r S2 => (r, S2) = x0) (Bw D vwCl (tz y) (wc y g) (AC g s.heap.size)) (AC g s.heap.size)) args s 0 0 (AC g s.heap.size)) := ⟨_, rfl⟩
  rw [← hQ]
  have hret : ∀ (v : Int64) (S2 : St) (pc : Nat) (lv : List (Nat × Value)), decode cX0_carryAll pc = .ok (.lreturn, 1) → Sm p l e (headSpec wsX0_carryAll rmX0_carryAll).room s m args below meth c D vwCl (wc y g) (AC g s.heap.size) 6 Q x0 (some (v, S2)) S2 pc lv [.long v] := by
    rw [hQ]
    exact fun v S2 pc lv hd => m_lret hC hr hlocks hd
  clear hQ
  unfold fX0_carryAll
  refine m_lconst hC (0) dX0_carryAll_0 (by decide) ?_
  refine m_lstore_n hC [(0, .ref (g 24)), (1, .long 0)] [1, 0] dX0_carryAll_1 (by decide) rfl rfl ?_
  refine m_iconst hC (0) dX0_carryAll_2 (by decide) ?_
  refine m_istore_n hC [(0, .ref (g 24)), (1, .long 0), (3, .int 0)] [1, 2, 0] dX0_carryAll_3 (by decide) rfl rfl ?_
  refine (m_it (z := (fun _ _ _ => none)) (F := fX0_carryAll_L4 N) N (fun r4 => ∀ (x1 : Int64) (x2 : Int32) (S3 : St), Sm p l e (headSpec wsX0_carryAll rmX0_carryAll).room s m args below meth c D vwCl (wc y g) (AC g s.heap.size) 6 Q x0 (r4 x1 x2 S3) S3 4 [(0, .ref (g 24)), (1, .long x1), (3, .int x2)] []) ?_ ?_) 0 0 S
  · exact fun _ _ _ => m_none
  · intro r4 hr4 x1 x2 S3
    unfold fX0_carryAll_L4
    refine m_iload_n hC dX0_carryAll_4 2 rfl ?_
    refine m_aload_n hC dX0_carryAll_5 0 rfl ?_
    refine m_get hC iX0_carryAll_X0 (wc_24 y g S3) rfl 2 (by decide) (List.mem_of_getElem? (i := 1) rfl) rfl rfl dX0_carryAll_6 ?_
    refine m_get hC iX0_carryAll_X1 (wc_13 y g S3) rfl 9 (by decide) (List.mem_of_getElem? (i := 2) rfl) rfl rfl dX0_carryAll_9 ?_
    refine m_icmp_ge hC 109 dX0_carryAll_12 (by decide) ?_ ?_
    · refine m_lload_n hC dX0_carryAll_109 1 rfl ?_
      exact hret _ _ _ _ dX0_carryAll_110
    · refine m_aload_n hC dX0_carryAll_15 0 rfl ?_
      refine m_get hC iX0_carryAll_X0 (wc_24 y g S3) rfl 2 (by decide) (List.mem_of_getElem? (i := 1) rfl) rfl rfl dX0_carryAll_16 ?_
      refine m_get hC iX0_carryAll_X1 (wc_13 y g S3) rfl 2 (by decide) (List.mem_of_getElem? (i := 3) rfl) rfl rfl dX0_carryAll_19 ?_
      refine m_iload_n hC dX0_carryAll_22 2 rfl ?_
      refine m_iald hC (wc_14 y g S3) (t0 := 0) rfl dX0_carryAll_23 ?_
      intro x5
      refine m_istore hC [(0, .ref (g 24)), (1, .long x1), (3, .int x2), (4, .int x5)] [1, 2, 3, 0] dX0_carryAll_24 (by decide) rfl rfl ?_
      refine m_aload_n hC dX0_carryAll_26 0 rfl ?_
      refine m_iload hC dX0_carryAll_27 3 rfl ?_
      refine m_aload_n hC dX0_carryAll_29 0 rfl ?_
      refine m_get hC iX0_carryAll_X0 (wc_24 y g S3) rfl 2 (by decide) (List.mem_of_getElem? (i := 1) rfl) rfl rfl dX0_carryAll_30 ?_
      refine m_get hC iX0_carryAll_X1 (wc_13 y g S3) rfl 4 (by decide) (List.mem_of_getElem? (i := 4) rfl) rfl rfl dX0_carryAll_33 ?_
      refine m_iload_n hC dX0_carryAll_36 2 rfl ?_
      refine m_iald hC (wc_16 y g S3) (t0 := 0) rfl dX0_carryAll_37 ?_
      intro x6
      refine m_cIPV hC (As := [.int x5, .int x6]) (wc_ok y g) (cwV 2 hC.1.2.2.2.2 gX0_carryAll_X0_nearestWith rfl rfl rfl (by decide +kernel) ⟨Nat.le_of_ble_eq_true rfl, Nat.le_of_ble_eq_true rfl⟩) (wc_24 y g S3) rfl (fun xq hq => kX0_nearestWith l D y g N x5 x6 S3 xq hq) rfl (Nat.le_of_ble_eq_true rfl) dX0_carryAll_38 ?_
      intro x7
      refine m_istore hC [(0, .ref (g 24)), (1, .long x1), (3, .int x2), (4, .int x5), (5, .int x7)] [1, 2, 3, 4, 0] dX0_carryAll_41 (by decide) rfl rfl ?_
      refine m_aload_n hC dX0_carryAll_43 0 rfl ?_
      refine m_get hC iX0_carryAll_X0 (wc_24 y g S3) rfl 2 (by decide) (List.mem_of_getElem? (i := 1) rfl) rfl rfl dX0_carryAll_44 ?_
      refine m_get hC iX0_carryAll_X1 (wc_13 y g S3) rfl 6 (by decide) (List.mem_of_getElem? (i := 5) rfl) rfl rfl dX0_carryAll_47 ?_
      refine m_iload_n hC dX0_carryAll_50 2 rfl ?_
      refine m_iload hC dX0_carryAll_51 4 rfl ?_
      refine m_iast hC (wc_18 y g S3) (t0 := 0) rfl (wcs_18 y g S3) dX0_carryAll_53 ?_
      intro S8
      refine m_iload hC dX0_carryAll_54 4 rfl ?_
      refine m_iconst hC (-1) dX0_carryAll_56 (by decide) ?_
      refine m_icmp_eq hC 103 dX0_carryAll_57 (by decide) ?_ ?_
      · refine m_iinc hC (fun x9 => [(0, .ref (g 24)), (1, .long x1), (3, .int x9), (4, .int x5), (5, .int x7)]) [1, 2, 0, 3, 4] dX0_carryAll_103 (j := 2) rfl (by decide) (by decide) (fun _ => rfl) (fun _ => rfl) ?_
        intro x9
        refine m_goto hC 4 dX0_carryAll_106 (by decide) ?_
        refine m_lv [(0, .ref (g 24)), (1, .long x1), (3, .int x9)] [0, 1, 2] rfl ?_
        exact hr4 _ _ _
      · refine m_aload_n hC dX0_carryAll_60 0 rfl ?_
        refine m_get hC iX0_carryAll_X0 (wc_24 y g S8) rfl 0 (by decide) (List.mem_of_getElem? (i := 6) rfl) rfl rfl dX0_carryAll_61 ?_
        refine m_get hC iX0_carryAll_X4 (wc_1 y g S8) rfl 4 (by decide) (List.mem_of_getElem? (i := 7) rfl) rfl rfl dX0_carryAll_64 ?_
        refine m_iload hC dX0_carryAll_67 4 rfl ?_
        refine m_aald hC (wc_6 y g S8) (t0 := 2) rfl (rows_at g 7 5) dX0_carryAll_69 ?_
        intro j10 hj10
        refine m_iload hC dX0_carryAll_70 3 rfl ?_
        refine m_dup2 hC dX0_carryAll_72 rfl rfl ?_
        refine m_iald hC (wc_r7 y g S8 j10 hj10) (t0 := 0) rfl dX0_carryAll_73 ?_
        intro x11
        refine m_iconst hC (1) dX0_carryAll_74 (by decide) ?_
        refine m_isub hC dX0_carryAll_75 ?_
        refine m_iast hC (wc_r7 y g S8 j10 hj10) (t0 := 0) rfl (wcs_r7 y g S8 j10 hj10) dX0_carryAll_76 ?_
        intro S12
        refine m_lload_n hC dX0_carryAll_77 1 rfl ?_
        refine m_aload_n hC dX0_carryAll_78 0 rfl ?_
        refine m_iload hC dX0_carryAll_79 3 rfl ?_
        refine m_cLPV hC (As := [.int x5]) (wc_ok y g) (cwV 1 hC.1.2.2.2.2 gX0_carryAll_X0_weight rfl rfl rfl (by decide +kernel) ⟨Nat.le_of_ble_eq_true rfl, Nat.le_of_ble_eq_true rfl⟩) (wc_24 y g S12) rfl (fun xq hq => kX0_weight l D y g x5 S12 xq hq) rfl (Nat.le_of_ble_eq_true rfl) dX0_carryAll_81 ?_
        intro x13
        refine m_aload_n hC dX0_carryAll_84 0 rfl ?_
        refine m_iload hC dX0_carryAll_85 4 rfl ?_
        refine m_aload_n hC dX0_carryAll_87 0 rfl ?_
        refine m_get hC iX0_carryAll_X0 (wc_24 y g S12) rfl 2 (by decide) (List.mem_of_getElem? (i := 1) rfl) rfl rfl dX0_carryAll_88 ?_
        refine m_get hC iX0_carryAll_X1 (wc_13 y g S12) rfl 4 (by decide) (List.mem_of_getElem? (i := 4) rfl) rfl rfl dX0_carryAll_91 ?_
        refine m_iload_n hC dX0_carryAll_94 2 rfl ?_
        refine m_iald hC (wc_16 y g S12) (t0 := 0) rfl dX0_carryAll_95 ?_
        intro x14
        refine m_cIPV hC (As := [.int x7, .int x14]) (wc_ok y g) (cwV 2 hC.1.2.2.2.2 gX0_carryAll_X0_way rfl rfl rfl (by decide +kernel) ⟨Nat.le_of_ble_eq_true rfl, Nat.le_of_ble_eq_true rfl⟩) (wc_24 y g S12) rfl (fun xq hq => kX0_way l D y g x7 x14 S12 xq hq) rfl (Nat.le_of_ble_eq_true rfl) dX0_carryAll_96 ?_
        intro x15
        refine m_i2l hC dX0_carryAll_99 ?_
        refine m_lmul hC dX0_carryAll_100 ?_
        refine m_ladd hC dX0_carryAll_101 ?_
        refine m_nmL ?_
        intro x16
        refine m_lstore_n hC [(0, .ref (g 24)), (1, .long x16), (3, .int x2), (4, .int x5), (5, .int x7)] [1, 0, 2, 3, 4] dX0_carryAll_102 (by decide) rfl rfl ?_
        refine m_iinc hC (fun x17 => [(0, .ref (g 24)), (1, .long x16), (3, .int x17), (4, .int x5), (5, .int x7)]) [1, 2, 0, 3, 4] dX0_carryAll_103 (j := 2) rfl (by decide) (by decide) (fun _ => rfl) (fun _ => rfl) ?_
        intro x17
        refine m_goto hC 4 dX0_carryAll_106 (by decide) ?_
        refine m_lv [(0, .ref (g 24)), (1, .long x16), (3, .int x17)] [0, 1, 2] rfl ?_
        exact hr4 _ _ _
def fX0_cheapestGiver_L4 (S : St) (r4 : Int32 → Int32 → Option (Int32)) : Int32 → Int32 → Option (Int32) := fun x2 x3 =>
  if x3 < (S.1 1 6) then
    ldI 5 (S.1 31) x3 fun x5 =>
    if x5 ≤ 0 then
      nmI (x3 + 1) fun x6 =>
      r4 x2 x6
    else
      if x2 = (-1) then
        nmI (x3 + 1) fun x7 =>
        r4 x3 x7
      else
        ldI 5 (S.1 50) x3 fun x8 =>
        ldI 5 (S.1 50) x2 fun x9 =>
        if x8 < x9 then
          nmI (x3 + 1) fun x11 =>
          r4 x3 x11
        else
          nmI (x3 + 1) fun x10 =>
          r4 x2 x10
  else
    some x2
def fX0_cheapestGiver (N : Nat) (S : St) : Option (Int32) :=
  nmI (-1) fun x1 =>
  itN (fun _ _ => none) (fX0_cheapestGiver_L4 S) N x1 0
abbrev rmX0_cheapestGiver : Room := { frames := 0, cells := 0, slots := 0, locals := 0 }
theorem iX0_cheapestGiver_X0 : ∀ w ∈ wsX00, w ∈ wsX0_cheapestGiver := fun w h => List.mem_cons_of_mem _ (List.mem_append_left _ (List.mem_append_right _ h))
theorem iX0_cheapestGiver_X4 : ∀ w ∈ wsX40, w ∈ wsX0_cheapestGiver := fun w h => List.mem_cons_of_mem _ (List.mem_append_right _ h)
set_option maxHeartbeats 4000000 in
set_option maxRecDepth 100000 in
theorem kX0_cheapestGiver (l : Launch) (D : va_G) (y : Cy) (g : Nat → Nat) (N : Nat) (S : St) (x0 : Int32) (h : fX0_cheapestGiver N S = some x0) : KI l yX0_cheapestGiver wsX0_cheapestGiver rmX0_cheapestGiver D vwCl (tz y) (wc y g) (AC g) [.ref (g 24)] S (fun r S2 => r = x0 ∧ S2 = S) := by
  refine m_entryIP (wc_ok y g) (by decide) rfl (Nat.le_of_ble_eq_true rfl) (lv := [(0, .ref (g 24))]) rfl h ?_
  intro p e s m args below meth c hC hr hlocks
  obtain ⟨Q, hQ⟩ : ∃ Q, Q = (MQ below (va_Qi (fun r S2 => r = x0 ∧ S2 = S) (Bw D vwCl (tz y) (wc y g) (AC g s.heap.size)) (AC g s.heap.size)) args s 0 0 (AC g s.heap.size)) := ⟨_, rfl⟩
  rw [← hQ]
  have hret : ∀ (v : Int32) (pc : Nat) (lv : List (Nat × Value)), decode cX0_cheapestGiver pc = .ok (.ireturn, 1) → Sm p l e (headSpec wsX0_cheapestGiver rmX0_cheapestGiver).room s m args below meth c D vwCl (wc y g) (AC g s.heap.size) 3 Q x0 (some v) S pc lv [.int v] := by
    rw [hQ]
    exact fun v pc lv hd => m_iretP hC hr hlocks hd
  clear hQ
  unfold fX0_cheapestGiver
  refine m_iconst hC (-1) dX0_cheapestGiver_0 (by decide) ?_
  refine m_nmI ?_
  intro x1
  refine m_istore_n hC [(0, .ref (g 24)), (1, .int x1)] [1, 0] dX0_cheapestGiver_1 (by decide) rfl rfl ?_
  refine m_iconst hC (0) dX0_cheapestGiver_2 (by decide) ?_
  refine m_istore_n hC [(0, .ref (g 24)), (1, .int x1), (2, .int 0)] [1, 2, 0] dX0_cheapestGiver_3 (by decide) rfl rfl ?_
  refine (m_it (z := (fun _ _ => none)) (F := fX0_cheapestGiver_L4 S) N (fun r4 => ∀ (x2 : Int32) (x3 : Int32), Sm p l e (headSpec wsX0_cheapestGiver rmX0_cheapestGiver).room s m args below meth c D vwCl (wc y g) (AC g s.heap.size) 3 Q x0 (r4 x2 x3) S 4 [(0, .ref (g 24)), (1, .int x2), (2, .int x3)] []) ?_ ?_) x1 0
  · exact fun _ _ => m_none
  · intro r4 hr4 x2 x3
    unfold fX0_cheapestGiver_L4
    refine m_iload_n hC dX0_cheapestGiver_4 2 rfl ?_
    refine m_aload_n hC dX0_cheapestGiver_5 0 rfl ?_
    refine m_get hC iX0_cheapestGiver_X0 (wc_24 y g S) rfl 0 (by decide) (List.mem_of_getElem? (i := 1) rfl) rfl rfl dX0_cheapestGiver_6 ?_
    refine m_get hC iX0_cheapestGiver_X4 (wc_1 y g S) rfl 6 (by decide) (List.mem_of_getElem? (i := 2) rfl) rfl rfl dX0_cheapestGiver_9 ?_
    refine m_icmp_ge hC 52 dX0_cheapestGiver_12 (by decide) ?_ ?_
    · refine m_iload_n hC dX0_cheapestGiver_52 1 rfl ?_
      exact hret _ _ _ dX0_cheapestGiver_53
    · refine m_aload_n hC dX0_cheapestGiver_15 0 rfl ?_
      refine m_get hC iX0_cheapestGiver_X0 (wc_24 y g S) rfl 4 (by decide) (List.mem_of_getElem? (i := 3) rfl) rfl rfl dX0_cheapestGiver_16 ?_
      refine m_iload_n hC dX0_cheapestGiver_19 2 rfl ?_
      refine m_iald hC (wc_31 y g S) (t0 := 0) rfl dX0_cheapestGiver_20 ?_
      intro x5
      refine m_if_le hC 46 dX0_cheapestGiver_21 (by decide) ?_ ?_
      · refine m_iinc hC (fun x6 => [(0, .ref (g 24)), (1, .int x2), (2, .int x6)]) [1, 2, 0] dX0_cheapestGiver_46 (j := 2) rfl (by decide) (by decide) (fun _ => rfl) (fun _ => rfl) ?_
        intro x6
        refine m_goto hC 4 dX0_cheapestGiver_49 (by decide) ?_
        exact hr4 _ _
      · refine m_iload_n hC dX0_cheapestGiver_24 1 rfl ?_
        refine m_iconst hC (-1) dX0_cheapestGiver_25 (by decide) ?_
        refine m_icmp_eq hC 44 dX0_cheapestGiver_26 (by decide) ?_ ?_
        · refine m_iload_n hC dX0_cheapestGiver_44 2 rfl ?_
          refine m_istore_n hC [(0, .ref (g 24)), (1, .int x3), (2, .int x3)] [1, 0, 2] dX0_cheapestGiver_45 (by decide) rfl rfl ?_
          refine m_iinc hC (fun x7 => [(0, .ref (g 24)), (1, .int x3), (2, .int x7)]) [1, 2, 0] dX0_cheapestGiver_46 (j := 2) rfl (by decide) (by decide) (fun _ => rfl) (fun _ => rfl) ?_
          intro x7
          refine m_goto hC 4 dX0_cheapestGiver_49 (by decide) ?_
          exact hr4 _ _
        · refine m_aload_n hC dX0_cheapestGiver_29 0 rfl ?_
          refine m_get hC iX0_cheapestGiver_X0 (wc_24 y g S) rfl 8 (by decide) (List.mem_of_getElem? (i := 4) rfl) rfl rfl dX0_cheapestGiver_30 ?_
          refine m_iload_n hC dX0_cheapestGiver_33 2 rfl ?_
          refine m_iald hC (wc_50 y g S) (t0 := 0) rfl dX0_cheapestGiver_34 ?_
          intro x8
          refine m_aload_n hC dX0_cheapestGiver_35 0 rfl ?_
          refine m_get hC iX0_cheapestGiver_X0 (wc_24 y g S) rfl 8 (by decide) (List.mem_of_getElem? (i := 4) rfl) rfl rfl dX0_cheapestGiver_36 ?_
          refine m_iload_n hC dX0_cheapestGiver_39 1 rfl ?_
          refine m_iald hC (wc_50 y g S) (t0 := 0) rfl dX0_cheapestGiver_40 ?_
          intro x9
          refine m_icmp_ge hC 46 dX0_cheapestGiver_41 (by decide) ?_ ?_
          · refine m_iinc hC (fun x10 => [(0, .ref (g 24)), (1, .int x2), (2, .int x10)]) [1, 2, 0] dX0_cheapestGiver_46 (j := 2) rfl (by decide) (by decide) (fun _ => rfl) (fun _ => rfl) ?_
            intro x10
            refine m_goto hC 4 dX0_cheapestGiver_49 (by decide) ?_
            exact hr4 _ _
          · refine m_iload_n hC dX0_cheapestGiver_44 2 rfl ?_
            refine m_istore_n hC [(0, .ref (g 24)), (1, .int x3), (2, .int x3)] [1, 0, 2] dX0_cheapestGiver_45 (by decide) rfl rfl ?_
            refine m_iinc hC (fun x11 => [(0, .ref (g 24)), (1, .int x3), (2, .int x11)]) [1, 2, 0] dX0_cheapestGiver_46 (j := 2) rfl (by decide) (by decide) (fun _ => rfl) (fun _ => rfl) ?_
            intro x11
            refine m_goto hC 4 dX0_cheapestGiver_49 (by decide) ?_
            exact hr4 _ _
def fX0_lengthenChains_L2 (a : Int32) (r3 : Int32 → St → Option (St)) : Int32 → St → Option (St) := fun x1 S2 =>
  if x1 < (S2.1 1 6) then
    ldI 5 (S2.1 50) a fun x4 =>
    ldR 5 a fun j5 =>
    ldI 5 (S2.1 (39 + j5)) x1 fun x6 =>
    nmI (x4 + x6) fun x7 =>
    ldR 5 a fun j8 =>
    ldI 5 (S2.1 (45 + j8)) x1 fun x9 =>
    if x9 = (-1) then
      nmI (x1 + 1) fun x10 =>
      r3 x10 S2
    else
      ldI 5 (S2.1 50) x1 fun x11 =>
      if x7 < x11 then
        stI S2 50 5 x1 x7 fun S13 =>
        stI S13 51 5 x1 a fun S14 =>
        nmI (x1 + 1) fun x15 =>
        r3 x15 S14
      else
        nmI (x1 + 1) fun x12 =>
        r3 x12 S2
  else
    some S2
def fX0_lengthenChains (N : Nat) (a : Int32) (S : St) : Option (St) :=
  itN (fun _ _ => none) (fX0_lengthenChains_L2 a) N 0 S
abbrev rmX0_lengthenChains : Room := { frames := 0, cells := 0, slots := 0, locals := 0 }
theorem iX0_lengthenChains_X0 : ∀ w ∈ wsX00, w ∈ wsX0_lengthenChains := fun w h => List.mem_cons_of_mem _ (List.mem_append_left _ (List.mem_append_right _ h))
theorem iX0_lengthenChains_X4 : ∀ w ∈ wsX40, w ∈ wsX0_lengthenChains := fun w h => List.mem_cons_of_mem _ (List.mem_append_right _ h)
set_option maxHeartbeats 4000000 in
set_option maxRecDepth 100000 in
theorem kX0_lengthenChains (l : Launch) (D : va_G) (y : Cy) (g : Nat → Nat) (N : Nat) (a : Int32) (S : St) (x0 : St) (h : fX0_lengthenChains N a S = some x0) : KV l yX0_lengthenChains wsX0_lengthenChains rmX0_lengthenChains D vwCl (tz y) (wc y g) (AC g) [.ref (g 24), .int a] S (fun S2 => S2 = x0) := by
  refine m_entryV (wc_ok y g) (by decide) rfl (Nat.le_of_ble_eq_true rfl) (lv := [(0, .ref (g 24)), (1, .int a)]) rfl h ?_
  intro p e s m args below meth c hC hr hlocks
  obtain ⟨Q, hQ⟩ : ∃ Q, Q = (MQ below (va_Qv (fun S2 => S2 = x0) (Bw D vwCl (tz y) (wc y g) (AC g s.heap.size)) (AC g s.heap.size)) args s 0 0 (AC g s.heap.size)) := ⟨_, rfl⟩
  rw [← hQ]
  have hret : ∀ (S2 : St) (pc : Nat) (lv : List (Nat × Value)), decode cX0_lengthenChains pc = .ok (.return_, 1) → Sm p l e (headSpec wsX0_lengthenChains rmX0_lengthenChains).room s m args below meth c D vwCl (wc y g) (AC g s.heap.size) 4 Q x0 (some S2) S2 pc lv [] := by
    rw [hQ]
    exact fun S2 pc lv hd => m_vret hC hr hlocks hd
  clear hQ
  unfold fX0_lengthenChains
  refine m_iconst hC (0) dX0_lengthenChains_0 (by decide) ?_
  refine m_istore_n hC [(0, .ref (g 24)), (1, .int a), (2, .int 0)] [1, 2, 0] dX0_lengthenChains_1 (by decide) rfl rfl ?_
  refine (m_it (z := (fun _ _ => none)) (F := fX0_lengthenChains_L2 a) N (fun r3 => ∀ (x1 : Int32) (S2 : St), Sm p l e (headSpec wsX0_lengthenChains rmX0_lengthenChains).room s m args below meth c D vwCl (wc y g) (AC g s.heap.size) 4 Q x0 (r3 x1 S2) S2 2 [(0, .ref (g 24)), (1, .int a), (2, .int x1)] []) ?_ ?_) 0 S
  · exact fun _ _ => m_none
  · intro r3 hr3 x1 S2
    unfold fX0_lengthenChains_L2
    refine m_iload_n hC dX0_lengthenChains_2 2 rfl ?_
    refine m_aload_n hC dX0_lengthenChains_3 0 rfl ?_
    refine m_get hC iX0_lengthenChains_X0 (wc_24 y g S2) rfl 0 (by decide) (List.mem_of_getElem? (i := 1) rfl) rfl rfl dX0_lengthenChains_4 ?_
    refine m_get hC iX0_lengthenChains_X4 (wc_1 y g S2) rfl 6 (by decide) (List.mem_of_getElem? (i := 2) rfl) rfl rfl dX0_lengthenChains_7 ?_
    refine m_icmp_ge hC 71 dX0_lengthenChains_10 (by decide) ?_ ?_
    · exact hret _ _ _ dX0_lengthenChains_71
    · refine m_aload_n hC dX0_lengthenChains_13 0 rfl ?_
      refine m_get hC iX0_lengthenChains_X0 (wc_24 y g S2) rfl 8 (by decide) (List.mem_of_getElem? (i := 3) rfl) rfl rfl dX0_lengthenChains_14 ?_
      refine m_iload_n hC dX0_lengthenChains_17 1 rfl ?_
      refine m_iald hC (wc_50 y g S2) (t0 := 0) rfl dX0_lengthenChains_18 ?_
      intro x4
      refine m_aload_n hC dX0_lengthenChains_19 0 rfl ?_
      refine m_get hC iX0_lengthenChains_X0 (wc_24 y g S2) rfl 6 (by decide) (List.mem_of_getElem? (i := 4) rfl) rfl rfl dX0_lengthenChains_20 ?_
      refine m_iload_n hC dX0_lengthenChains_23 1 rfl ?_
      refine m_aald hC (wc_38 y g S2) (t0 := 2) rfl (rows_at g 39 5) dX0_lengthenChains_24 ?_
      intro j5 hj5
      refine m_iload_n hC dX0_lengthenChains_25 2 rfl ?_
      refine m_iald hC (wc_r39 y g S2 j5 hj5) (t0 := 0) rfl dX0_lengthenChains_26 ?_
      intro x6
      refine m_iadd hC dX0_lengthenChains_27 ?_
      refine m_nmI ?_
      intro x7
      refine m_istore_n hC [(0, .ref (g 24)), (1, .int a), (2, .int x1), (3, .int x7)] [1, 2, 3, 0] dX0_lengthenChains_28 (by decide) rfl rfl ?_
      refine m_aload_n hC dX0_lengthenChains_29 0 rfl ?_
      refine m_get hC iX0_lengthenChains_X0 (wc_24 y g S2) rfl 7 (by decide) (List.mem_of_getElem? (i := 5) rfl) rfl rfl dX0_lengthenChains_30 ?_
      refine m_iload_n hC dX0_lengthenChains_33 1 rfl ?_
      refine m_aald hC (wc_44 y g S2) (t0 := 2) rfl (rows_at g 45 5) dX0_lengthenChains_34 ?_
      intro j8 hj8
      refine m_iload_n hC dX0_lengthenChains_35 2 rfl ?_
      refine m_iald hC (wc_r45 y g S2 j8 hj8) (t0 := 0) rfl dX0_lengthenChains_36 ?_
      intro x9
      refine m_iconst hC (-1) dX0_lengthenChains_37 (by decide) ?_
      refine m_icmp_eq hC 65 dX0_lengthenChains_38 (by decide) ?_ ?_
      · refine m_iinc hC (fun x10 => [(0, .ref (g 24)), (1, .int a), (2, .int x10), (3, .int x7)]) [1, 2, 0, 3] dX0_lengthenChains_65 (j := 2) rfl (by decide) (by decide) (fun _ => rfl) (fun _ => rfl) ?_
        intro x10
        refine m_goto hC 2 dX0_lengthenChains_68 (by decide) ?_
        refine m_lv [(0, .ref (g 24)), (1, .int a), (2, .int x10)] [0, 1, 2] rfl ?_
        exact hr3 _ _
      · refine m_iload_n hC dX0_lengthenChains_41 3 rfl ?_
        refine m_aload_n hC dX0_lengthenChains_42 0 rfl ?_
        refine m_get hC iX0_lengthenChains_X0 (wc_24 y g S2) rfl 8 (by decide) (List.mem_of_getElem? (i := 3) rfl) rfl rfl dX0_lengthenChains_43 ?_
        refine m_iload_n hC dX0_lengthenChains_46 2 rfl ?_
        refine m_iald hC (wc_50 y g S2) (t0 := 0) rfl dX0_lengthenChains_47 ?_
        intro x11
        refine m_icmp_ge hC 65 dX0_lengthenChains_48 (by decide) ?_ ?_
        · refine m_iinc hC (fun x12 => [(0, .ref (g 24)), (1, .int a), (2, .int x12), (3, .int x7)]) [1, 2, 0, 3] dX0_lengthenChains_65 (j := 2) rfl (by decide) (by decide) (fun _ => rfl) (fun _ => rfl) ?_
          intro x12
          refine m_goto hC 2 dX0_lengthenChains_68 (by decide) ?_
          refine m_lv [(0, .ref (g 24)), (1, .int a), (2, .int x12)] [0, 1, 2] rfl ?_
          exact hr3 _ _
        · refine m_aload_n hC dX0_lengthenChains_51 0 rfl ?_
          refine m_get hC iX0_lengthenChains_X0 (wc_24 y g S2) rfl 8 (by decide) (List.mem_of_getElem? (i := 3) rfl) rfl rfl dX0_lengthenChains_52 ?_
          refine m_iload_n hC dX0_lengthenChains_55 2 rfl ?_
          refine m_iload_n hC dX0_lengthenChains_56 3 rfl ?_
          refine m_iast hC (wc_50 y g S2) (t0 := 0) rfl (wcs_50 y g S2) dX0_lengthenChains_57 ?_
          intro S13
          refine m_aload_n hC dX0_lengthenChains_58 0 rfl ?_
          refine m_get hC iX0_lengthenChains_X0 (wc_24 y g S13) rfl 9 (by decide) (List.mem_of_getElem? (i := 6) rfl) rfl rfl dX0_lengthenChains_59 ?_
          refine m_iload_n hC dX0_lengthenChains_62 2 rfl ?_
          refine m_iload_n hC dX0_lengthenChains_63 1 rfl ?_
          refine m_iast hC (wc_51 y g S13) (t0 := 0) rfl (wcs_51 y g S13) dX0_lengthenChains_64 ?_
          intro S14
          refine m_iinc hC (fun x15 => [(0, .ref (g 24)), (1, .int a), (2, .int x15), (3, .int x7)]) [1, 2, 0, 3] dX0_lengthenChains_65 (j := 2) rfl (by decide) (by decide) (fun _ => rfl) (fun _ => rfl) ?_
          intro x15
          refine m_goto hC 2 dX0_lengthenChains_68 (by decide) ?_
          refine m_lv [(0, .ref (g 24)), (1, .int a), (2, .int x15)] [0, 1, 2] rfl ?_
          exact hr3 _ _
def fX0_findChains_L53 (N : Nat) (K12 : St → Option (St)) (r11 : Int32 → St → Option (St)) : Int32 → St → Option (St) := fun x9 S10 =>
  if x9 < (S10.1 1 6) then
    caV (fX0_lengthenChains N x9 S10) fun S15 =>
    nmI (x9 + 1) fun x16 =>
    r11 x16 S15
  else
    K12 S10
def fX0_findChains_L40 (N : Nat) (r8 : Int32 → St → Option (St)) : Int32 → St → Option (St) := fun x6 S7 =>
  if x6 < (S7.1 1 6) then
    itN (fun _ _ => none) (fX0_findChains_L53 N (fun (S13 : St) =>
        nmI (x6 + 1) fun x14 =>
        r8 x14 S13)) N 0 S7
  else
    some S7
def fX0_findChains_L2 (a : Int32) (K4 : St → Option (St)) (r3 : Int32 → St → Option (St)) : Int32 → St → Option (St) := fun x1 S2 =>
  if x1 < (S2.1 1 6) then
    caP (fX0_way x1 a S2) fun x17 =>
    stI S2 50 5 x1 x17 fun S18 =>
    stI S18 51 5 x1 (-1) fun S19 =>
    nmI (x1 + 1) fun x20 =>
    r3 x20 S19
  else
    K4 S2
def fX0_findChains (N : Nat) (a : Int32) (S : St) : Option (St) :=
  itN (fun _ _ => none) (fX0_findChains_L2 a (fun (S5 : St) =>
      itN (fun _ _ => none) (fX0_findChains_L40 N) N 0 S5)) N 0 S
abbrev rmX0_findChains : Room := { frames := 2, cells := 0, slots := 0, locals := 43 }
theorem iX0_findChains_X0 : ∀ w ∈ wsX00, w ∈ wsX0_findChains := fun w h => List.mem_cons_of_mem _ (List.mem_append_left _ (List.mem_append_left _ (List.mem_append_right _ h)))
theorem iX0_findChains_X4 : ∀ w ∈ wsX40, w ∈ wsX0_findChains := fun w h => List.mem_cons_of_mem _ (List.mem_append_left _ (List.mem_append_right _ h))
theorem iX0_findChains_X3 : ∀ w ∈ wsX30, w ∈ wsX0_findChains := fun w h => List.mem_cons_of_mem _ (List.mem_append_right _ h)
set_option maxHeartbeats 4000000 in
set_option maxRecDepth 100000 in
theorem kX0_findChains (l : Launch) (D : va_G) (y : Cy) (g : Nat → Nat) (N : Nat) (a : Int32) (S : St) (x0 : St) (h : fX0_findChains N a S = some x0) : KV l yX0_findChains wsX0_findChains rmX0_findChains D vwCl (tz y) (wc y g) (AC g) [.ref (g 24), .int a] S (fun S2 => S2 = x0) := by
  refine m_entryV (wc_ok y g) (by decide) rfl (Nat.le_of_ble_eq_true rfl) (lv := [(0, .ref (g 24)), (1, .int a)]) rfl h ?_
  intro p e s m args below meth c hC hr hlocks
  obtain ⟨Q, hQ⟩ : ∃ Q, Q = (MQ below (va_Qv (fun S2 => S2 = x0) (Bw D vwCl (tz y) (wc y g) (AC g s.heap.size)) (AC g s.heap.size)) args s 0 0 (AC g s.heap.size)) := ⟨_, rfl⟩
  rw [← hQ]
  have hret : ∀ (S2 : St) (pc : Nat) (lv : List (Nat × Value)), decode cX0_findChains pc = .ok (.return_, 1) → Sm p l e (headSpec wsX0_findChains rmX0_findChains).room s m args below meth c D vwCl (wc y g) (AC g s.heap.size) 4 Q x0 (some S2) S2 pc lv [] := by
    rw [hQ]
    exact fun S2 pc lv hd => m_vret hC hr hlocks hd
  clear hQ
  unfold fX0_findChains
  refine m_iconst hC (0) dX0_findChains_0 (by decide) ?_
  refine m_istore_n hC [(0, .ref (g 24)), (1, .int a), (2, .int 0)] [1, 2, 0] dX0_findChains_1 (by decide) rfl rfl ?_
  refine (m_itK (z := (fun _ _ => none)) (F := fX0_findChains_L2 a) N (fun K4 => ∀ (S5 : St), Sm p l e (headSpec wsX0_findChains rmX0_findChains).room s m args below meth c D vwCl (wc y g) (AC g s.heap.size) 4 Q x0 (K4 S5) S5 38 [(0, .ref (g 24))] []) (fun r3 => ∀ (x1 : Int32) (S2 : St), Sm p l e (headSpec wsX0_findChains rmX0_findChains).room s m args below meth c D vwCl (wc y g) (AC g s.heap.size) 4 Q x0 (r3 x1 S2) S2 2 [(0, .ref (g 24)), (1, .int a), (2, .int x1)] []) ?_ ?_ ?_) 0 S
  · exact fun _ _ => m_none
  · intro S5
    refine m_iconst hC (0) dX0_findChains_38 (by decide) ?_
    refine m_istore_n hC [(0, .ref (g 24)), (2, .int 0)] [1, 0] dX0_findChains_39 (by decide) rfl rfl ?_
    refine (m_it (z := (fun _ _ => none)) (F := fX0_findChains_L40 N) N (fun r8 => ∀ (x6 : Int32) (S7 : St), Sm p l e (headSpec wsX0_findChains rmX0_findChains).room s m args below meth c D vwCl (wc y g) (AC g s.heap.size) 4 Q x0 (r8 x6 S7) S7 40 [(0, .ref (g 24)), (2, .int x6)] []) ?_ ?_) 0 S5
    · exact fun _ _ => m_none
    · intro r8 hr8 x6 S7
      unfold fX0_findChains_L40
      refine m_iload_n hC dX0_findChains_40 1 rfl ?_
      refine m_aload_n hC dX0_findChains_41 0 rfl ?_
      refine m_get hC iX0_findChains_X0 (wc_24 y g S7) rfl 0 (by decide) (List.mem_of_getElem? (i := 1) rfl) rfl rfl dX0_findChains_42 ?_
      refine m_get hC iX0_findChains_X4 (wc_1 y g S7) rfl 6 (by decide) (List.mem_of_getElem? (i := 2) rfl) rfl rfl dX0_findChains_45 ?_
      refine m_icmp_ge hC 81 dX0_findChains_48 (by decide) ?_ ?_
      · exact hret _ _ _ dX0_findChains_81
      · refine m_iconst hC (0) dX0_findChains_51 (by decide) ?_
        refine m_istore_n hC [(0, .ref (g 24)), (2, .int x6), (3, .int 0)] [1, 2, 0] dX0_findChains_52 (by decide) rfl rfl ?_
        refine (m_itK (z := (fun _ _ => none)) (F := fX0_findChains_L53 N) N (fun K12 => ∀ (S13 : St), Sm p l e (headSpec wsX0_findChains rmX0_findChains).room s m args below meth c D vwCl (wc y g) (AC g s.heap.size) 4 Q x0 (K12 S13) S13 75 [(0, .ref (g 24)), (2, .int x6)] []) (fun r11 => ∀ (x9 : Int32) (S10 : St), Sm p l e (headSpec wsX0_findChains rmX0_findChains).room s m args below meth c D vwCl (wc y g) (AC g s.heap.size) 4 Q x0 (r11 x9 S10) S10 53 [(0, .ref (g 24)), (2, .int x6), (3, .int x9)] []) ?_ ?_ ?_) 0 S7
        · exact fun _ _ => m_none
        · intro S13
          refine m_iinc hC (fun x14 => [(0, .ref (g 24)), (2, .int x14)]) [1, 0] dX0_findChains_75 (j := 1) rfl (by decide) (by decide) (fun _ => rfl) (fun _ => rfl) ?_
          intro x14
          refine m_goto hC 40 dX0_findChains_78 (by decide) ?_
          exact hr8 _ _
        · intro K12 hK12 r11 hr11 x9 S10
          unfold fX0_findChains_L53
          refine m_iload_n hC dX0_findChains_53 2 rfl ?_
          refine m_aload_n hC dX0_findChains_54 0 rfl ?_
          refine m_get hC iX0_findChains_X0 (wc_24 y g S10) rfl 0 (by decide) (List.mem_of_getElem? (i := 1) rfl) rfl rfl dX0_findChains_55 ?_
          refine m_get hC iX0_findChains_X4 (wc_1 y g S10) rfl 6 (by decide) (List.mem_of_getElem? (i := 2) rfl) rfl rfl dX0_findChains_58 ?_
          refine m_icmp_ge hC 75 dX0_findChains_61 (by decide) ?_ ?_
          · refine m_lv [(0, .ref (g 24)), (2, .int x6)] [0, 1] rfl ?_
            exact hK12 _
          · refine m_aload_n hC dX0_findChains_64 0 rfl ?_
            refine m_iload_n hC dX0_findChains_65 2 rfl ?_
            refine m_cVV hC (As := [.int x9]) (wc_ok y g) (cwV 1 hC.1.2.2.2.2 gX0_findChains_X0_lengthenChains rfl rfl rfl (by decide +kernel) ⟨Nat.le_of_ble_eq_true rfl, Nat.le_of_ble_eq_true rfl⟩) (wc_24 y g S10) rfl (fun xq hq => kX0_lengthenChains l D y g N x9 S10 xq hq) rfl (Nat.le_of_ble_eq_true rfl) dX0_findChains_66 ?_
            intro S15
            refine m_iinc hC (fun x16 => [(0, .ref (g 24)), (2, .int x6), (3, .int x16)]) [1, 2, 0] dX0_findChains_69 (j := 2) rfl (by decide) (by decide) (fun _ => rfl) (fun _ => rfl) ?_
            intro x16
            refine m_goto hC 53 dX0_findChains_72 (by decide) ?_
            exact hr11 _ _
  · intro K4 hK4 r3 hr3 x1 S2
    unfold fX0_findChains_L2
    refine m_iload_n hC dX0_findChains_2 2 rfl ?_
    refine m_aload_n hC dX0_findChains_3 0 rfl ?_
    refine m_get hC iX0_findChains_X0 (wc_24 y g S2) rfl 0 (by decide) (List.mem_of_getElem? (i := 1) rfl) rfl rfl dX0_findChains_4 ?_
    refine m_get hC iX0_findChains_X4 (wc_1 y g S2) rfl 6 (by decide) (List.mem_of_getElem? (i := 2) rfl) rfl rfl dX0_findChains_7 ?_
    refine m_icmp_ge hC 38 dX0_findChains_10 (by decide) ?_ ?_
    · refine m_lv [(0, .ref (g 24))] [0] rfl ?_
      exact hK4 _
    · refine m_aload_n hC dX0_findChains_13 0 rfl ?_
      refine m_get hC iX0_findChains_X0 (wc_24 y g S2) rfl 8 (by decide) (List.mem_of_getElem? (i := 3) rfl) rfl rfl dX0_findChains_14 ?_
      refine m_iload_n hC dX0_findChains_17 2 rfl ?_
      refine m_aload_n hC dX0_findChains_18 0 rfl ?_
      refine m_iload_n hC dX0_findChains_19 2 rfl ?_
      refine m_iload_n hC dX0_findChains_20 1 rfl ?_
      refine m_cIPV hC (As := [.int x1, .int a]) (wc_ok y g) (cwV 2 hC.1.2.2.2.2 gX0_findChains_X0_way rfl rfl rfl (by decide +kernel) ⟨Nat.le_of_ble_eq_true rfl, Nat.le_of_ble_eq_true rfl⟩) (wc_24 y g S2) rfl (fun xq hq => kX0_way l D y g x1 a S2 xq hq) rfl (Nat.le_of_ble_eq_true rfl) dX0_findChains_21 ?_
      intro x17
      refine m_iast hC (wc_50 y g S2) (t0 := 0) rfl (wcs_50 y g S2) dX0_findChains_24 ?_
      intro S18
      refine m_aload_n hC dX0_findChains_25 0 rfl ?_
      refine m_get hC iX0_findChains_X0 (wc_24 y g S18) rfl 9 (by decide) (List.mem_of_getElem? (i := 4) rfl) rfl rfl dX0_findChains_26 ?_
      refine m_iload_n hC dX0_findChains_29 2 rfl ?_
      refine m_iconst hC (-1) dX0_findChains_30 (by decide) ?_
      refine m_iast hC (wc_51 y g S18) (t0 := 0) rfl (wcs_51 y g S18) dX0_findChains_31 ?_
      intro S19
      refine m_iinc hC (fun x20 => [(0, .ref (g 24)), (1, .int a), (2, .int x20)]) [1, 2, 0] dX0_findChains_32 (j := 2) rfl (by decide) (by decide) (fun _ => rfl) (fun _ => rfl) ?_
      intro x20
      refine m_goto hC 2 dX0_findChains_35 (by decide) ?_
      exact hr3 _ _
def fX0_weighSwaps_L10 (a : Int32) (b : Int32) (x1 : Int32) (r4 : Int32 → St → Option (St)) : Int32 → St → Option (St) := fun x2 S3 =>
  if x2 < (S3.1 1 6) then
    caP (fX0_way x2 b S3) fun x5 =>
    nmI (x5 - x1) fun x6 =>
    ldR 5 a fun j7 =>
    ldI 5 (S3.1 (45 + j7)) x2 fun x8 =>
    if x8 = (-1) then
      ldR 5 a fun j9 =>
      stI S3 (45 + j9) 5 x2 b fun S10 =>
      ldR 5 a fun j11 =>
      stI S10 (39 + j11) 5 x2 x6 fun S12 =>
      nmI (x2 + 1) fun x13 =>
      r4 x13 S12
    else
      ldR 5 a fun j14 =>
      ldI 5 (S3.1 (39 + j14)) x2 fun x15 =>
      if x6 < x15 then
        ldR 5 a fun j17 =>
        stI S3 (45 + j17) 5 x2 b fun S18 =>
        ldR 5 a fun j19 =>
        stI S18 (39 + j19) 5 x2 x6 fun S20 =>
        nmI (x2 + 1) fun x21 =>
        r4 x21 S20
      else
        nmI (x2 + 1) fun x16 =>
        r4 x16 S3
  else
    some S3
def fX0_weighSwaps (N : Nat) (a : Int32) (b : Int32) (S : St) : Option (St) :=
  caP (fX0_way a b S) fun x1 =>
  itN (fun _ _ => none) (fX0_weighSwaps_L10 a b x1) N 0 S
abbrev rmX0_weighSwaps : Room := { frames := 2, cells := 0, slots := 0, locals := 43 }
theorem iX0_weighSwaps_X0 : ∀ w ∈ wsX00, w ∈ wsX0_weighSwaps := fun w h => List.mem_cons_of_mem _ (List.mem_append_left _ (List.mem_append_left _ (List.mem_append_right _ h)))
theorem iX0_weighSwaps_X4 : ∀ w ∈ wsX40, w ∈ wsX0_weighSwaps := fun w h => List.mem_cons_of_mem _ (List.mem_append_left _ (List.mem_append_right _ h))
theorem iX0_weighSwaps_X3 : ∀ w ∈ wsX30, w ∈ wsX0_weighSwaps := fun w h => List.mem_cons_of_mem _ (List.mem_append_right _ h)
set_option maxHeartbeats 4000000 in
set_option maxRecDepth 100000 in
theorem kX0_weighSwaps (l : Launch) (D : va_G) (y : Cy) (g : Nat → Nat) (N : Nat) (a : Int32) (b : Int32) (S : St) (x0 : St) (h : fX0_weighSwaps N a b S = some x0) : KV l yX0_weighSwaps wsX0_weighSwaps rmX0_weighSwaps D vwCl (tz y) (wc y g) (AC g) [.ref (g 24), .int a, .int b] S (fun S2 => S2 = x0) := by
  refine m_entryV (wc_ok y g) (by decide) rfl (Nat.le_of_ble_eq_true rfl) (lv := [(0, .ref (g 24)), (1, .int a), (2, .int b)]) rfl h ?_
  intro p e s m args below meth c hC hr hlocks
  obtain ⟨Q, hQ⟩ : ∃ Q, Q = (MQ below (va_Qv (fun S2 => S2 = x0) (Bw D vwCl (tz y) (wc y g) (AC g s.heap.size)) (AC g s.heap.size)) args s 0 0 (AC g s.heap.size)) := ⟨_, rfl⟩
  rw [← hQ]
  have hret : ∀ (S2 : St) (pc : Nat) (lv : List (Nat × Value)), decode cX0_weighSwaps pc = .ok (.return_, 1) → Sm p l e (headSpec wsX0_weighSwaps rmX0_weighSwaps).room s m args below meth c D vwCl (wc y g) (AC g s.heap.size) 6 Q x0 (some S2) S2 pc lv [] := by
    rw [hQ]
    exact fun S2 pc lv hd => m_vret hC hr hlocks hd
  clear hQ
  unfold fX0_weighSwaps
  refine m_aload_n hC dX0_weighSwaps_0 0 rfl ?_
  refine m_iload_n hC dX0_weighSwaps_1 1 rfl ?_
  refine m_iload_n hC dX0_weighSwaps_2 2 rfl ?_
  refine m_cIPV hC (As := [.int a, .int b]) (wc_ok y g) (cwV 2 hC.1.2.2.2.2 gX0_weighSwaps_X0_way rfl rfl rfl (by decide +kernel) ⟨Nat.le_of_ble_eq_true rfl, Nat.le_of_ble_eq_true rfl⟩) (wc_24 y g S) rfl (fun xq hq => kX0_way l D y g a b S xq hq) rfl (Nat.le_of_ble_eq_true rfl) dX0_weighSwaps_3 ?_
  intro x1
  refine m_istore_n hC [(0, .ref (g 24)), (1, .int a), (2, .int b), (3, .int x1)] [1, 2, 3, 0] dX0_weighSwaps_6 (by decide) rfl rfl ?_
  refine m_iconst hC (0) dX0_weighSwaps_7 (by decide) ?_
  refine m_istore hC [(0, .ref (g 24)), (1, .int a), (2, .int b), (3, .int x1), (4, .int 0)] [1, 2, 3, 4, 0] dX0_weighSwaps_8 (by decide) rfl rfl ?_
  refine (m_it (z := (fun _ _ => none)) (F := fX0_weighSwaps_L10 a b x1) N (fun r4 => ∀ (x2 : Int32) (S3 : St), Sm p l e (headSpec wsX0_weighSwaps rmX0_weighSwaps).room s m args below meth c D vwCl (wc y g) (AC g s.heap.size) 6 Q x0 (r4 x2 S3) S3 10 [(0, .ref (g 24)), (1, .int a), (2, .int b), (3, .int x1), (4, .int x2)] []) ?_ ?_) 0 S
  · exact fun _ _ => m_none
  · intro r4 hr4 x2 S3
    unfold fX0_weighSwaps_L10
    refine m_iload hC dX0_weighSwaps_10 4 rfl ?_
    refine m_aload_n hC dX0_weighSwaps_12 0 rfl ?_
    refine m_get hC iX0_weighSwaps_X0 (wc_24 y g S3) rfl 0 (by decide) (List.mem_of_getElem? (i := 1) rfl) rfl rfl dX0_weighSwaps_13 ?_
    refine m_get hC iX0_weighSwaps_X4 (wc_1 y g S3) rfl 6 (by decide) (List.mem_of_getElem? (i := 2) rfl) rfl rfl dX0_weighSwaps_16 ?_
    refine m_icmp_ge hC 87 dX0_weighSwaps_19 (by decide) ?_ ?_
    · exact hret _ _ _ dX0_weighSwaps_87
    · refine m_aload_n hC dX0_weighSwaps_22 0 rfl ?_
      refine m_iload hC dX0_weighSwaps_23 4 rfl ?_
      refine m_iload_n hC dX0_weighSwaps_25 2 rfl ?_
      refine m_cIPV hC (As := [.int x2, .int b]) (wc_ok y g) (cwV 2 hC.1.2.2.2.2 gX0_weighSwaps_X0_way rfl rfl rfl (by decide +kernel) ⟨Nat.le_of_ble_eq_true rfl, Nat.le_of_ble_eq_true rfl⟩) (wc_24 y g S3) rfl (fun xq hq => kX0_way l D y g x2 b S3 xq hq) rfl (Nat.le_of_ble_eq_true rfl) dX0_weighSwaps_26 ?_
      intro x5
      refine m_iload_n hC dX0_weighSwaps_29 3 rfl ?_
      refine m_isub hC dX0_weighSwaps_30 ?_
      refine m_nmI ?_
      intro x6
      refine m_istore hC [(0, .ref (g 24)), (1, .int a), (2, .int b), (3, .int x1), (4, .int x2), (5, .int x6)] [1, 2, 3, 4, 5, 0] dX0_weighSwaps_31 (by decide) rfl rfl ?_
      refine m_aload_n hC dX0_weighSwaps_33 0 rfl ?_
      refine m_get hC iX0_weighSwaps_X0 (wc_24 y g S3) rfl 7 (by decide) (List.mem_of_getElem? (i := 3) rfl) rfl rfl dX0_weighSwaps_34 ?_
      refine m_iload_n hC dX0_weighSwaps_37 1 rfl ?_
      refine m_aald hC (wc_44 y g S3) (t0 := 2) rfl (rows_at g 45 5) dX0_weighSwaps_38 ?_
      intro j7 hj7
      refine m_iload hC dX0_weighSwaps_39 4 rfl ?_
      refine m_iald hC (wc_r45 y g S3 j7 hj7) (t0 := 0) rfl dX0_weighSwaps_41 ?_
      intro x8
      refine m_iconst hC (-1) dX0_weighSwaps_42 (by decide) ?_
      refine m_icmp_eq hC 60 dX0_weighSwaps_43 (by decide) ?_ ?_
      · refine m_aload_n hC dX0_weighSwaps_60 0 rfl ?_
        refine m_get hC iX0_weighSwaps_X0 (wc_24 y g S3) rfl 7 (by decide) (List.mem_of_getElem? (i := 3) rfl) rfl rfl dX0_weighSwaps_61 ?_
        refine m_iload_n hC dX0_weighSwaps_64 1 rfl ?_
        refine m_aald hC (wc_44 y g S3) (t0 := 2) rfl (rows_at g 45 5) dX0_weighSwaps_65 ?_
        intro j9 hj9
        refine m_iload hC dX0_weighSwaps_66 4 rfl ?_
        refine m_iload_n hC dX0_weighSwaps_68 2 rfl ?_
        refine m_iast hC (wc_r45 y g S3 j9 hj9) (t0 := 0) rfl (wcs_r45 y g S3 j9 hj9) dX0_weighSwaps_69 ?_
        intro S10
        refine m_aload_n hC dX0_weighSwaps_70 0 rfl ?_
        refine m_get hC iX0_weighSwaps_X0 (wc_24 y g S10) rfl 6 (by decide) (List.mem_of_getElem? (i := 4) rfl) rfl rfl dX0_weighSwaps_71 ?_
        refine m_iload_n hC dX0_weighSwaps_74 1 rfl ?_
        refine m_aald hC (wc_38 y g S10) (t0 := 2) rfl (rows_at g 39 5) dX0_weighSwaps_75 ?_
        intro j11 hj11
        refine m_iload hC dX0_weighSwaps_76 4 rfl ?_
        refine m_iload hC dX0_weighSwaps_78 5 rfl ?_
        refine m_iast hC (wc_r39 y g S10 j11 hj11) (t0 := 0) rfl (wcs_r39 y g S10 j11 hj11) dX0_weighSwaps_80 ?_
        intro S12
        refine m_iinc hC (fun x13 => [(0, .ref (g 24)), (1, .int a), (2, .int b), (3, .int x1), (4, .int x13), (5, .int x6)]) [1, 2, 3, 4, 0, 5] dX0_weighSwaps_81 (j := 4) rfl (by decide) (by decide) (fun _ => rfl) (fun _ => rfl) ?_
        intro x13
        refine m_goto hC 10 dX0_weighSwaps_84 (by decide) ?_
        refine m_lv [(0, .ref (g 24)), (1, .int a), (2, .int b), (3, .int x1), (4, .int x13)] [0, 1, 2, 3, 4] rfl ?_
        exact hr4 _ _
      · refine m_iload hC dX0_weighSwaps_46 5 rfl ?_
        refine m_aload_n hC dX0_weighSwaps_48 0 rfl ?_
        refine m_get hC iX0_weighSwaps_X0 (wc_24 y g S3) rfl 6 (by decide) (List.mem_of_getElem? (i := 4) rfl) rfl rfl dX0_weighSwaps_49 ?_
        refine m_iload_n hC dX0_weighSwaps_52 1 rfl ?_
        refine m_aald hC (wc_38 y g S3) (t0 := 2) rfl (rows_at g 39 5) dX0_weighSwaps_53 ?_
        intro j14 hj14
        refine m_iload hC dX0_weighSwaps_54 4 rfl ?_
        refine m_iald hC (wc_r39 y g S3 j14 hj14) (t0 := 0) rfl dX0_weighSwaps_56 ?_
        intro x15
        refine m_icmp_ge hC 81 dX0_weighSwaps_57 (by decide) ?_ ?_
        · refine m_iinc hC (fun x16 => [(0, .ref (g 24)), (1, .int a), (2, .int b), (3, .int x1), (4, .int x16), (5, .int x6)]) [1, 2, 3, 4, 0, 5] dX0_weighSwaps_81 (j := 4) rfl (by decide) (by decide) (fun _ => rfl) (fun _ => rfl) ?_
          intro x16
          refine m_goto hC 10 dX0_weighSwaps_84 (by decide) ?_
          refine m_lv [(0, .ref (g 24)), (1, .int a), (2, .int b), (3, .int x1), (4, .int x16)] [0, 1, 2, 3, 4] rfl ?_
          exact hr4 _ _
        · refine m_aload_n hC dX0_weighSwaps_60 0 rfl ?_
          refine m_get hC iX0_weighSwaps_X0 (wc_24 y g S3) rfl 7 (by decide) (List.mem_of_getElem? (i := 3) rfl) rfl rfl dX0_weighSwaps_61 ?_
          refine m_iload_n hC dX0_weighSwaps_64 1 rfl ?_
          refine m_aald hC (wc_44 y g S3) (t0 := 2) rfl (rows_at g 45 5) dX0_weighSwaps_65 ?_
          intro j17 hj17
          refine m_iload hC dX0_weighSwaps_66 4 rfl ?_
          refine m_iload_n hC dX0_weighSwaps_68 2 rfl ?_
          refine m_iast hC (wc_r45 y g S3 j17 hj17) (t0 := 0) rfl (wcs_r45 y g S3 j17 hj17) dX0_weighSwaps_69 ?_
          intro S18
          refine m_aload_n hC dX0_weighSwaps_70 0 rfl ?_
          refine m_get hC iX0_weighSwaps_X0 (wc_24 y g S18) rfl 6 (by decide) (List.mem_of_getElem? (i := 4) rfl) rfl rfl dX0_weighSwaps_71 ?_
          refine m_iload_n hC dX0_weighSwaps_74 1 rfl ?_
          refine m_aald hC (wc_38 y g S18) (t0 := 2) rfl (rows_at g 39 5) dX0_weighSwaps_75 ?_
          intro j19 hj19
          refine m_iload hC dX0_weighSwaps_76 4 rfl ?_
          refine m_iload hC dX0_weighSwaps_78 5 rfl ?_
          refine m_iast hC (wc_r39 y g S18 j19 hj19) (t0 := 0) rfl (wcs_r39 y g S18 j19 hj19) dX0_weighSwaps_80 ?_
          intro S20
          refine m_iinc hC (fun x21 => [(0, .ref (g 24)), (1, .int a), (2, .int b), (3, .int x1), (4, .int x21), (5, .int x6)]) [1, 2, 3, 4, 0, 5] dX0_weighSwaps_81 (j := 4) rfl (by decide) (by decide) (fun _ => rfl) (fun _ => rfl) ?_
          intro x21
          refine m_goto hC 10 dX0_weighSwaps_84 (by decide) ?_
          refine m_lv [(0, .ref (g 24)), (1, .int a), (2, .int b), (3, .int x1), (4, .int x21)] [0, 1, 2, 3, 4] rfl ?_
          exact hr4 _ _
def fX0_findSwaps_L25 (N : Nat) (x1 : Int32) (K9 : St → Option (St)) (r8 : Int32 → St → Option (St)) : Int32 → St → Option (St) := fun x6 S7 =>
  if x6 < (S7.1 12 3) then
    ldR 5 x1 fun j12 =>
    ldI 24 (S7.1 (33 + j12)) x6 fun x13 =>
    if x13 ≤ 0 then
      nmI (x6 + 1) fun x14 =>
      r8 x14 S7
    else
      caV (fX0_weighSwaps N x1 x6 S7) fun S15 =>
      nmI (x6 + 1) fun x16 =>
      r8 x16 S15
  else
    K9 S7
def fX0_findSwaps_L2 (N : Nat) (r3 : Int32 → St → Option (St)) : Int32 → St → Option (St) := fun x1 S2 =>
  if x1 < (S2.1 1 6) then
    ldR 5 x1 fun j4 =>
    caV (fJ7_fill_53178 N (45 + j4) 5 (-1) S2) fun S5 =>
    itN (fun _ _ => none) (fX0_findSwaps_L25 N x1 (fun (S10 : St) =>
        nmI (x1 + 1) fun x11 =>
        r3 x11 S10)) N 0 S5
  else
    some S2
def fX0_findSwaps (N : Nat) (S : St) : Option (St) :=
  itN (fun _ _ => none) (fX0_findSwaps_L2 N) N 0 S
abbrev rmX0_findSwaps : Room := { frames := 3, cells := 0, slots := 0, locals := 68 }
theorem iX0_findSwaps_X0 : ∀ w ∈ wsX00, w ∈ wsX0_findSwaps := fun w h => List.mem_cons_of_mem _ (List.mem_append_left _ (List.mem_append_left _ (List.mem_append_right _ h)))
theorem iX0_findSwaps_X4 : ∀ w ∈ wsX40, w ∈ wsX0_findSwaps := fun w h => List.mem_cons_of_mem _ (List.mem_append_left _ (List.mem_append_right _ h))
theorem iX0_findSwaps_X3 : ∀ w ∈ wsX30, w ∈ wsX0_findSwaps := fun w h => List.mem_cons_of_mem _ (List.mem_append_right _ h)
set_option maxHeartbeats 4000000 in
set_option maxRecDepth 100000 in
theorem kX0_findSwaps (l : Launch) (D : va_G) (y : Cy) (g : Nat → Nat) (N : Nat) (S : St) (x0 : St) (h : fX0_findSwaps N S = some x0) : KV l yX0_findSwaps wsX0_findSwaps rmX0_findSwaps D vwCl (tz y) (wc y g) (AC g) [.ref (g 24)] S (fun S2 => S2 = x0) := by
  refine m_entryV (wc_ok y g) (by decide) rfl (Nat.le_of_ble_eq_true rfl) (lv := [(0, .ref (g 24))]) rfl h ?_
  intro p e s m args below meth c hC hr hlocks
  obtain ⟨Q, hQ⟩ : ∃ Q, Q = (MQ below (va_Qv (fun S2 => S2 = x0) (Bw D vwCl (tz y) (wc y g) (AC g s.heap.size)) (AC g s.heap.size)) args s 0 0 (AC g s.heap.size)) := ⟨_, rfl⟩
  rw [← hQ]
  have hret : ∀ (S2 : St) (pc : Nat) (lv : List (Nat × Value)), decode cX0_findSwaps pc = .ok (.return_, 1) → Sm p l e (headSpec wsX0_findSwaps rmX0_findSwaps).room s m args below meth c D vwCl (wc y g) (AC g s.heap.size) 3 Q x0 (some S2) S2 pc lv [] := by
    rw [hQ]
    exact fun S2 pc lv hd => m_vret hC hr hlocks hd
  clear hQ
  unfold fX0_findSwaps
  refine m_iconst hC (0) dX0_findSwaps_0 (by decide) ?_
  refine m_istore_n hC [(0, .ref (g 24)), (1, .int 0)] [1, 0] dX0_findSwaps_1 (by decide) rfl rfl ?_
  refine (m_it (z := (fun _ _ => none)) (F := fX0_findSwaps_L2 N) N (fun r3 => ∀ (x1 : Int32) (S2 : St), Sm p l e (headSpec wsX0_findSwaps rmX0_findSwaps).room s m args below meth c D vwCl (wc y g) (AC g s.heap.size) 3 Q x0 (r3 x1 S2) S2 2 [(0, .ref (g 24)), (1, .int x1)] []) ?_ ?_) 0 S
  · exact fun _ _ => m_none
  · intro r3 hr3 x1 S2
    unfold fX0_findSwaps_L2
    refine m_iload_n hC dX0_findSwaps_2 1 rfl ?_
    refine m_aload_n hC dX0_findSwaps_3 0 rfl ?_
    refine m_get hC iX0_findSwaps_X0 (wc_24 y g S2) rfl 0 (by decide) (List.mem_of_getElem? (i := 1) rfl) rfl rfl dX0_findSwaps_4 ?_
    refine m_get hC iX0_findSwaps_X4 (wc_1 y g S2) rfl 6 (by decide) (List.mem_of_getElem? (i := 2) rfl) rfl rfl dX0_findSwaps_7 ?_
    refine m_icmp_ge hC 65 dX0_findSwaps_10 (by decide) ?_ ?_
    · exact hret _ _ _ dX0_findSwaps_65
    · refine m_aload_n hC dX0_findSwaps_13 0 rfl ?_
      refine m_get hC iX0_findSwaps_X0 (wc_24 y g S2) rfl 7 (by decide) (List.mem_of_getElem? (i := 3) rfl) rfl rfl dX0_findSwaps_14 ?_
      refine m_iload_n hC dX0_findSwaps_17 1 rfl ?_
      refine m_aald hC (wc_44 y g S2) (t0 := 2) rfl (rows_at g 45 5) dX0_findSwaps_18 ?_
      intro j4 hj4
      refine m_iconst hC (-1) dX0_findSwaps_19 (by decide) ?_
      refine m_cVS hC (As := [.ref (g (45 + j4)), .int (-1)]) (wc_ok y g) (va_cwS 2 hC.1.2.2.2.2 gX0_findSwaps_J7_fill_53178 rfl rfl rfl (by decide +kernel) ⟨Nat.le_of_ble_eq_true rfl, Nat.le_of_ble_eq_true rfl⟩) (fun xq hq => kJ7_fill_53178 l D y g N (45 + j4) 5 (-1) (fun S => wc_r45 y g S j4 hj4) (fun S f => wcs_r45 y g S j4 hj4 f) S2 xq hq) rfl (Nat.le_of_ble_eq_true rfl) dX0_findSwaps_20 ?_
      intro S5
      refine m_iconst hC (0) dX0_findSwaps_23 (by decide) ?_
      refine m_istore_n hC [(0, .ref (g 24)), (1, .int x1), (2, .int 0)] [1, 2, 0] dX0_findSwaps_24 (by decide) rfl rfl ?_
      refine (m_itK (z := (fun _ _ => none)) (F := fX0_findSwaps_L25 N x1) N (fun K9 => ∀ (S10 : St), Sm p l e (headSpec wsX0_findSwaps rmX0_findSwaps).room s m args below meth c D vwCl (wc y g) (AC g s.heap.size) 3 Q x0 (K9 S10) S10 59 [(0, .ref (g 24)), (1, .int x1)] []) (fun r8 => ∀ (x6 : Int32) (S7 : St), Sm p l e (headSpec wsX0_findSwaps rmX0_findSwaps).room s m args below meth c D vwCl (wc y g) (AC g s.heap.size) 3 Q x0 (r8 x6 S7) S7 25 [(0, .ref (g 24)), (1, .int x1), (2, .int x6)] []) ?_ ?_ ?_) 0 S5
      · exact fun _ _ => m_none
      · intro S10
        refine m_iinc hC (fun x11 => [(0, .ref (g 24)), (1, .int x11)]) [1, 0] dX0_findSwaps_59 (j := 1) rfl (by decide) (by decide) (fun _ => rfl) (fun _ => rfl) ?_
        intro x11
        refine m_goto hC 2 dX0_findSwaps_62 (by decide) ?_
        exact hr3 _ _
      · intro K9 hK9 r8 hr8 x6 S7
        unfold fX0_findSwaps_L25
        refine m_iload_n hC dX0_findSwaps_25 2 rfl ?_
        refine m_aload_n hC dX0_findSwaps_26 0 rfl ?_
        refine m_get hC iX0_findSwaps_X0 (wc_24 y g S7) rfl 1 (by decide) (List.mem_of_getElem? (i := 4) rfl) rfl rfl dX0_findSwaps_27 ?_
        refine m_get hC iX0_findSwaps_X3 (wc_12 y g S7) rfl 3 (by decide) (List.mem_of_getElem? (i := 5) rfl) rfl rfl dX0_findSwaps_30 ?_
        refine m_icmp_ge hC 59 dX0_findSwaps_33 (by decide) ?_ ?_
        · refine m_lv [(0, .ref (g 24)), (1, .int x1)] [0, 1] rfl ?_
          exact hK9 _
        · refine m_aload_n hC dX0_findSwaps_36 0 rfl ?_
          refine m_get hC iX0_findSwaps_X0 (wc_24 y g S7) rfl 5 (by decide) (List.mem_of_getElem? (i := 6) rfl) rfl rfl dX0_findSwaps_37 ?_
          refine m_iload_n hC dX0_findSwaps_40 1 rfl ?_
          refine m_aald hC (wc_32 y g S7) (t0 := 2) rfl (rows_at g 33 5) dX0_findSwaps_41 ?_
          intro j12 hj12
          refine m_iload_n hC dX0_findSwaps_42 2 rfl ?_
          refine m_iald hC (wc_r33 y g S7 j12 hj12) (t0 := 0) rfl dX0_findSwaps_43 ?_
          intro x13
          refine m_if_le hC 53 dX0_findSwaps_44 (by decide) ?_ ?_
          · refine m_iinc hC (fun x14 => [(0, .ref (g 24)), (1, .int x1), (2, .int x14)]) [1, 2, 0] dX0_findSwaps_53 (j := 2) rfl (by decide) (by decide) (fun _ => rfl) (fun _ => rfl) ?_
            intro x14
            refine m_goto hC 25 dX0_findSwaps_56 (by decide) ?_
            exact hr8 _ _
          · refine m_aload_n hC dX0_findSwaps_47 0 rfl ?_
            refine m_iload_n hC dX0_findSwaps_48 1 rfl ?_
            refine m_iload_n hC dX0_findSwaps_49 2 rfl ?_
            refine m_cVV hC (As := [.int x1, .int x6]) (wc_ok y g) (cwV 2 hC.1.2.2.2.2 gX0_findSwaps_X0_weighSwaps rfl rfl rfl (by decide +kernel) ⟨Nat.le_of_ble_eq_true rfl, Nat.le_of_ble_eq_true rfl⟩) (wc_24 y g S7) rfl (fun xq hq => kX0_weighSwaps l D y g N x1 x6 S7 xq hq) rfl (Nat.le_of_ble_eq_true rfl) dX0_findSwaps_50 ?_
            intro S15
            refine m_iinc hC (fun x16 => [(0, .ref (g 24)), (1, .int x1), (2, .int x16)]) [1, 2, 0] dX0_findSwaps_53 (j := 2) rfl (by decide) (by decide) (fun _ => rfl) (fun _ => rfl) ?_
            intro x16
            refine m_goto hC 25 dX0_findSwaps_56 (by decide) ?_
            exact hr8 _ _
def fX0_followChain_L5 (K5 : Int32 → St → Option (St)) (r4 : Int32 → Int32 → St → Option (St)) : Int32 → Int32 → St → Option (St) := fun x1 x2 S3 =>
  if x2 < (S3.1 1 6) then
    ldI 5 (S3.1 51) x1 fun x11 =>
    if x11 = (-1) then
      K5 x1 S3
    else
      ldI 5 (S3.1 51) x1 fun x12 =>
      ldR 5 x12 fun j13 =>
      ldI 5 (S3.1 (45 + j13)) x1 fun x14 =>
      ldR 5 x12 fun j15 =>
      ldI 24 (S3.1 (33 + j15)) x14 fun x16 =>
      stI S3 (33 + j15) 24 x14 (x16 - 1) fun S17 =>
      ldR 5 x1 fun j18 =>
      ldI 24 (S17.1 (33 + j18)) x14 fun x19 =>
      stI S17 (33 + j18) 24 x14 (x19 + 1) fun S20 =>
      nmI (x2 + 1) fun x21 =>
      r4 x12 x21 S20
  else
    K5 x1 S3
def fX0_followChain (N : Nat) (a : Int32) (b : Int32) (S : St) : Option (St) :=
  itN (fun _ _ _ => none) (fX0_followChain_L5 (fun (x6 : Int32) (S7 : St) =>
      ldR 5 x6 fun j8 =>
      ldI 24 (S7.1 (33 + j8)) b fun x9 =>
      stI S7 (33 + j8) 24 b (x9 + 1) fun S10 =>
      some S10)) N a 0 S
abbrev rmX0_followChain : Room := { frames := 0, cells := 0, slots := 0, locals := 0 }
theorem iX0_followChain_X0 : ∀ w ∈ wsX00, w ∈ wsX0_followChain := fun w h => List.mem_cons_of_mem _ (List.mem_append_left _ (List.mem_append_right _ h))
theorem iX0_followChain_X4 : ∀ w ∈ wsX40, w ∈ wsX0_followChain := fun w h => List.mem_cons_of_mem _ (List.mem_append_right _ h)
set_option maxHeartbeats 4000000 in
set_option maxRecDepth 100000 in
theorem kX0_followChain (l : Launch) (D : va_G) (y : Cy) (g : Nat → Nat) (N : Nat) (a : Int32) (b : Int32) (S : St) (x0 : St) (h : fX0_followChain N a b S = some x0) : KV l yX0_followChain wsX0_followChain rmX0_followChain D vwCl (tz y) (wc y g) (AC g) [.ref (g 24), .int a, .int b] S (fun S2 => S2 = x0) := by
  refine m_entryV (wc_ok y g) (by decide) rfl (Nat.le_of_ble_eq_true rfl) (lv := [(0, .ref (g 24)), (1, .int a), (2, .int b)]) rfl h ?_
  intro p e s m args below meth c hC hr hlocks
  obtain ⟨Q, hQ⟩ : ∃ Q, Q = (MQ below (va_Qv (fun S2 => S2 = x0) (Bw D vwCl (tz y) (wc y g) (AC g s.heap.size)) (AC g s.heap.size)) args s 0 0 (AC g s.heap.size)) := ⟨_, rfl⟩
  rw [← hQ]
  have hret : ∀ (S2 : St) (pc : Nat) (lv : List (Nat × Value)), decode cX0_followChain pc = .ok (.return_, 1) → Sm p l e (headSpec wsX0_followChain rmX0_followChain).room s m args below meth c D vwCl (wc y g) (AC g s.heap.size) 7 Q x0 (some S2) S2 pc lv [] := by
    rw [hQ]
    exact fun S2 pc lv hd => m_vret hC hr hlocks hd
  clear hQ
  unfold fX0_followChain
  refine m_iload_n hC dX0_followChain_0 1 rfl ?_
  refine m_istore_n hC [(0, .ref (g 24)), (1, .int a), (2, .int b), (3, .int a)] [1, 2, 3, 0] dX0_followChain_1 (by decide) rfl rfl ?_
  refine m_iconst hC (0) dX0_followChain_2 (by decide) ?_
  refine m_istore hC [(0, .ref (g 24)), (1, .int a), (2, .int b), (3, .int a), (4, .int 0)] [1, 2, 3, 4, 0] dX0_followChain_3 (by decide) rfl rfl ?_
  refine m_lv [(0, .ref (g 24)), (2, .int b), (3, .int a), (4, .int 0)] [0, 2, 3, 4] rfl ?_
  refine (m_itK (z := (fun _ _ _ => none)) (F := fX0_followChain_L5) N (fun K5 => ∀ (x6 : Int32) (S7 : St), Sm p l e (headSpec wsX0_followChain rmX0_followChain).room s m args below meth c D vwCl (wc y g) (AC g s.heap.size) 7 Q x0 (K5 x6 S7) S7 82 [(0, .ref (g 24)), (2, .int b), (3, .int x6)] []) (fun r4 => ∀ (x1 : Int32) (x2 : Int32) (S3 : St), Sm p l e (headSpec wsX0_followChain rmX0_followChain).room s m args below meth c D vwCl (wc y g) (AC g s.heap.size) 7 Q x0 (r4 x1 x2 S3) S3 5 [(0, .ref (g 24)), (2, .int b), (3, .int x1), (4, .int x2)] []) ?_ ?_ ?_) a 0 S
  · exact fun _ _ _ => m_none
  · intro x6 S7
    refine m_aload_n hC dX0_followChain_82 0 rfl ?_
    refine m_get hC iX0_followChain_X0 (wc_24 y g S7) rfl 5 (by decide) (List.mem_of_getElem? (i := 5) rfl) rfl rfl dX0_followChain_83 ?_
    refine m_iload_n hC dX0_followChain_86 2 rfl ?_
    refine m_aald hC (wc_32 y g S7) (t0 := 2) rfl (rows_at g 33 5) dX0_followChain_87 ?_
    intro j8 hj8
    refine m_iload_n hC dX0_followChain_88 1 rfl ?_
    refine m_dup2 hC dX0_followChain_89 rfl rfl ?_
    refine m_iald hC (wc_r33 y g S7 j8 hj8) (t0 := 0) rfl dX0_followChain_90 ?_
    intro x9
    refine m_iconst hC (1) dX0_followChain_91 (by decide) ?_
    refine m_iadd hC dX0_followChain_92 ?_
    refine m_iast hC (wc_r33 y g S7 j8 hj8) (t0 := 0) rfl (wcs_r33 y g S7 j8 hj8) dX0_followChain_93 ?_
    intro S10
    exact hret _ _ _ dX0_followChain_94
  · intro K5 hK5 r4 hr4 x1 x2 S3
    unfold fX0_followChain_L5
    refine m_iload hC dX0_followChain_5 3 rfl ?_
    refine m_aload_n hC dX0_followChain_7 0 rfl ?_
    refine m_get hC iX0_followChain_X0 (wc_24 y g S3) rfl 0 (by decide) (List.mem_of_getElem? (i := 1) rfl) rfl rfl dX0_followChain_8 ?_
    refine m_get hC iX0_followChain_X4 (wc_1 y g S3) rfl 6 (by decide) (List.mem_of_getElem? (i := 2) rfl) rfl rfl dX0_followChain_11 ?_
    refine m_icmp_ge hC 82 dX0_followChain_14 (by decide) ?_ ?_
    · refine m_lv [(0, .ref (g 24)), (2, .int b), (3, .int x1)] [0, 1, 2] rfl ?_
      exact hK5 _ _
    · refine m_aload_n hC dX0_followChain_17 0 rfl ?_
      refine m_get hC iX0_followChain_X0 (wc_24 y g S3) rfl 9 (by decide) (List.mem_of_getElem? (i := 3) rfl) rfl rfl dX0_followChain_18 ?_
      refine m_iload_n hC dX0_followChain_21 2 rfl ?_
      refine m_iald hC (wc_51 y g S3) (t0 := 0) rfl dX0_followChain_22 ?_
      intro x11
      refine m_iconst hC (-1) dX0_followChain_23 (by decide) ?_
      refine m_icmp_eq hC 82 dX0_followChain_24 (by decide) ?_ ?_
      · refine m_lv [(0, .ref (g 24)), (2, .int b), (3, .int x1)] [0, 1, 2] rfl ?_
        exact hK5 _ _
      · refine m_aload_n hC dX0_followChain_27 0 rfl ?_
        refine m_get hC iX0_followChain_X0 (wc_24 y g S3) rfl 9 (by decide) (List.mem_of_getElem? (i := 3) rfl) rfl rfl dX0_followChain_28 ?_
        refine m_iload_n hC dX0_followChain_31 2 rfl ?_
        refine m_iald hC (wc_51 y g S3) (t0 := 0) rfl dX0_followChain_32 ?_
        intro x12
        refine m_istore hC [(0, .ref (g 24)), (2, .int b), (3, .int x1), (4, .int x2), (5, .int x12)] [1, 2, 3, 4, 0] dX0_followChain_33 (by decide) rfl rfl ?_
        refine m_aload_n hC dX0_followChain_35 0 rfl ?_
        refine m_get hC iX0_followChain_X0 (wc_24 y g S3) rfl 7 (by decide) (List.mem_of_getElem? (i := 4) rfl) rfl rfl dX0_followChain_36 ?_
        refine m_iload hC dX0_followChain_39 4 rfl ?_
        refine m_aald hC (wc_44 y g S3) (t0 := 2) rfl (rows_at g 45 5) dX0_followChain_41 ?_
        intro j13 hj13
        refine m_iload_n hC dX0_followChain_42 2 rfl ?_
        refine m_iald hC (wc_r45 y g S3 j13 hj13) (t0 := 0) rfl dX0_followChain_43 ?_
        intro x14
        refine m_istore hC [(0, .ref (g 24)), (2, .int b), (3, .int x1), (4, .int x2), (5, .int x12), (6, .int x14)] [1, 2, 3, 4, 5, 0] dX0_followChain_44 (by decide) rfl rfl ?_
        refine m_aload_n hC dX0_followChain_46 0 rfl ?_
        refine m_get hC iX0_followChain_X0 (wc_24 y g S3) rfl 5 (by decide) (List.mem_of_getElem? (i := 5) rfl) rfl rfl dX0_followChain_47 ?_
        refine m_iload hC dX0_followChain_50 4 rfl ?_
        refine m_aald hC (wc_32 y g S3) (t0 := 2) rfl (rows_at g 33 5) dX0_followChain_52 ?_
        intro j15 hj15
        refine m_iload hC dX0_followChain_53 5 rfl ?_
        refine m_dup2 hC dX0_followChain_55 rfl rfl ?_
        refine m_iald hC (wc_r33 y g S3 j15 hj15) (t0 := 0) rfl dX0_followChain_56 ?_
        intro x16
        refine m_iconst hC (1) dX0_followChain_57 (by decide) ?_
        refine m_isub hC dX0_followChain_58 ?_
        refine m_iast hC (wc_r33 y g S3 j15 hj15) (t0 := 0) rfl (wcs_r33 y g S3 j15 hj15) dX0_followChain_59 ?_
        intro S17
        refine m_aload_n hC dX0_followChain_60 0 rfl ?_
        refine m_get hC iX0_followChain_X0 (wc_24 y g S17) rfl 5 (by decide) (List.mem_of_getElem? (i := 5) rfl) rfl rfl dX0_followChain_61 ?_
        refine m_iload_n hC dX0_followChain_64 2 rfl ?_
        refine m_aald hC (wc_32 y g S17) (t0 := 2) rfl (rows_at g 33 5) dX0_followChain_65 ?_
        intro j18 hj18
        refine m_iload hC dX0_followChain_66 5 rfl ?_
        refine m_dup2 hC dX0_followChain_68 rfl rfl ?_
        refine m_iald hC (wc_r33 y g S17 j18 hj18) (t0 := 0) rfl dX0_followChain_69 ?_
        intro x19
        refine m_iconst hC (1) dX0_followChain_70 (by decide) ?_
        refine m_iadd hC dX0_followChain_71 ?_
        refine m_iast hC (wc_r33 y g S17 j18 hj18) (t0 := 0) rfl (wcs_r33 y g S17 j18 hj18) dX0_followChain_72 ?_
        intro S20
        refine m_iload hC dX0_followChain_73 4 rfl ?_
        refine m_istore_n hC [(0, .ref (g 24)), (2, .int b), (3, .int x12), (4, .int x2), (5, .int x12), (6, .int x14)] [1, 2, 0, 3, 4, 5] dX0_followChain_75 (by decide) rfl rfl ?_
        refine m_iinc hC (fun x21 => [(0, .ref (g 24)), (2, .int b), (3, .int x12), (4, .int x21), (5, .int x12), (6, .int x14)]) [1, 2, 3, 0, 4, 5] dX0_followChain_76 (j := 3) rfl (by decide) (by decide) (fun _ => rfl) (fun _ => rfl) ?_
        intro x21
        refine m_goto hC 5 dX0_followChain_79 (by decide) ?_
        refine m_lv [(0, .ref (g 24)), (2, .int b), (3, .int x12), (4, .int x21)] [0, 1, 2, 3] rfl ?_
        exact hr4 _ _ _
def fX0_supply (N : Nat) (a : Int32) (S : St) : Option (Int32 × St) :=
  caV (fX0_findSwaps N S) fun S1 =>
  caV (fX0_findChains N a S1) fun S2 =>
  caP (fX0_cheapestGiver N S2) fun x3 =>
  if x3 = (-1) then
    some (0, S2)
  else
    ldI 5 (S2.1 31) x3 fun x4 =>
    stI S2 31 5 x3 (x4 - 1) fun S5 =>
    caV (fX0_followChain N x3 a S5) fun S6 =>
    ldI 5 (S6.1 50) x3 fun x7 =>
    some (x7, S6)
abbrev rmX0_supply : Room := { frames := 4, cells := 0, slots := 0, locals := 90 }
theorem iX0_supply_X0 : ∀ w ∈ wsX00, w ∈ wsX0_supply := fun w h => List.mem_cons_of_mem _ (List.mem_append_left _ (List.mem_append_left _ (List.mem_append_right _ h)))
theorem iX0_supply_X4 : ∀ w ∈ wsX40, w ∈ wsX0_supply := fun w h => List.mem_cons_of_mem _ (List.mem_append_left _ (List.mem_append_right _ h))
theorem iX0_supply_X3 : ∀ w ∈ wsX30, w ∈ wsX0_supply := fun w h => List.mem_cons_of_mem _ (List.mem_append_right _ h)
set_option maxHeartbeats 4000000 in
set_option maxRecDepth 100000 in
theorem kX0_supply (l : Launch) (D : va_G) (y : Cy) (g : Nat → Nat) (N : Nat) (a : Int32) (S : St) (x0 : Int32 × St) (h : fX0_supply N a S = some x0) : KI l yX0_supply wsX0_supply rmX0_supply D vwCl (tz y) (wc y g) (AC g) [.ref (g 24), .int a] S (fun r S2 => (r, S2) = x0) := by
  refine m_entryI (wc_ok y g) (by decide) rfl (Nat.le_of_ble_eq_true rfl) (lv := [(0, .ref (g 24)), (1, .int a)]) rfl h ?_
  intro p e s m args below meth c hC hr hlocks
  obtain ⟨Q, hQ⟩ : ∃ Q, Q = (MQ below (va_Qi (fun r S2 => (r, S2) = x0) (Bw D vwCl (tz y) (wc y g) (AC g s.heap.size)) (AC g s.heap.size)) args s 0 0 (AC g s.heap.size)) := ⟨_, rfl⟩
  rw [← hQ]
  have hret : ∀ (v : Int32) (S2 : St) (pc : Nat) (lv : List (Nat × Value)), decode cX0_supply pc = .ok (.ireturn, 1) → Sm p l e (headSpec wsX0_supply rmX0_supply).room s m args below meth c D vwCl (wc y g) (AC g s.heap.size) 3 Q x0 (some (v, S2)) S2 pc lv [.int v] := by
    rw [hQ]
    exact fun v S2 pc lv hd => m_iret hC hr hlocks hd
  clear hQ
  unfold fX0_supply
  refine m_aload_n hC dX0_supply_0 0 rfl ?_
  refine m_cVV hC (As := []) (wc_ok y g) (cwV 0 hC.1.2.2.2.2 gX0_supply_X0_findSwaps rfl rfl rfl (by decide +kernel) ⟨Nat.le_of_ble_eq_true rfl, Nat.le_of_ble_eq_true rfl⟩) (wc_24 y g S) rfl (fun xq hq => kX0_findSwaps l D y g N S xq hq) rfl (Nat.le_of_ble_eq_true rfl) dX0_supply_1 ?_
  intro S1
  refine m_aload_n hC dX0_supply_4 0 rfl ?_
  refine m_iload_n hC dX0_supply_5 1 rfl ?_
  refine m_cVV hC (As := [.int a]) (wc_ok y g) (cwV 1 hC.1.2.2.2.2 gX0_supply_X0_findChains rfl rfl rfl (by decide +kernel) ⟨Nat.le_of_ble_eq_true rfl, Nat.le_of_ble_eq_true rfl⟩) (wc_24 y g S1) rfl (fun xq hq => kX0_findChains l D y g N a S1 xq hq) rfl (Nat.le_of_ble_eq_true rfl) dX0_supply_6 ?_
  intro S2
  refine m_aload_n hC dX0_supply_9 0 rfl ?_
  refine m_cIPV hC (As := []) (wc_ok y g) (cwV 0 hC.1.2.2.2.2 gX0_supply_X0_cheapestGiver rfl rfl rfl (by decide +kernel) ⟨Nat.le_of_ble_eq_true rfl, Nat.le_of_ble_eq_true rfl⟩) (wc_24 y g S2) rfl (fun xq hq => kX0_cheapestGiver l D y g N S2 xq hq) rfl (Nat.le_of_ble_eq_true rfl) dX0_supply_10 ?_
  intro x3
  refine m_istore_n hC [(0, .ref (g 24)), (1, .int a), (2, .int x3)] [1, 2, 0] dX0_supply_13 (by decide) rfl rfl ?_
  refine m_iload_n hC dX0_supply_14 2 rfl ?_
  refine m_iconst hC (-1) dX0_supply_15 (by decide) ?_
  refine m_icmp_ne hC 21 dX0_supply_16 (by decide) ?_ ?_
  · refine m_aload_n hC dX0_supply_21 0 rfl ?_
    refine m_get hC iX0_supply_X0 (wc_24 y g S2) rfl 4 (by decide) (List.mem_of_getElem? (i := 1) rfl) rfl rfl dX0_supply_22 ?_
    refine m_iload_n hC dX0_supply_25 2 rfl ?_
    refine m_dup2 hC dX0_supply_26 rfl rfl ?_
    refine m_iald hC (wc_31 y g S2) (t0 := 0) rfl dX0_supply_27 ?_
    intro x4
    refine m_iconst hC (1) dX0_supply_28 (by decide) ?_
    refine m_isub hC dX0_supply_29 ?_
    refine m_iast hC (wc_31 y g S2) (t0 := 0) rfl (wcs_31 y g S2) dX0_supply_30 ?_
    intro S5
    refine m_aload_n hC dX0_supply_31 0 rfl ?_
    refine m_iload_n hC dX0_supply_32 2 rfl ?_
    refine m_iload_n hC dX0_supply_33 1 rfl ?_
    refine m_cVV hC (As := [.int x3, .int a]) (wc_ok y g) (cwV 2 hC.1.2.2.2.2 gX0_supply_X0_followChain rfl rfl rfl (by decide +kernel) ⟨Nat.le_of_ble_eq_true rfl, Nat.le_of_ble_eq_true rfl⟩) (wc_24 y g S5) rfl (fun xq hq => kX0_followChain l D y g N x3 a S5 xq hq) rfl (Nat.le_of_ble_eq_true rfl) dX0_supply_34 ?_
    intro S6
    refine m_aload_n hC dX0_supply_37 0 rfl ?_
    refine m_get hC iX0_supply_X0 (wc_24 y g S6) rfl 8 (by decide) (List.mem_of_getElem? (i := 2) rfl) rfl rfl dX0_supply_38 ?_
    refine m_iload_n hC dX0_supply_41 2 rfl ?_
    refine m_iald hC (wc_50 y g S6) (t0 := 0) rfl dX0_supply_42 ?_
    intro x7
    exact hret _ _ _ _ dX0_supply_43
  · refine m_iconst hC (0) dX0_supply_19 (by decide) ?_
    exact hret _ _ _ _ dX0_supply_20
def fX0_leastWays_L59 (N : Nat) (a : Int32) (r9 : Int64 → Int32 → St → Option (Int64 × St)) : Int64 → Int32 → St → Option (Int64 × St) := fun x6 x7 S8 =>
  if x7 < (S8.1 13 9) then
    ldI 144 (S8.1 14) x7 fun x10 =>
    if x10 = a then
      ldI 144 (S8.1 16) x7 fun x12 =>
      caS (fX0_supply N x12 S8) fun x13 S14 =>
      nmL (x6 + x13.toInt64) fun x15 =>
      nmI (x7 + 1) fun x16 =>
      r9 x15 x16 S14
    else
      nmI (x7 + 1) fun x11 =>
      r9 x6 x11 S8
  else
    some (x6, S8)
def fX0_leastWays_L2 (N : Nat) (a : Int32) (b : Int32) (K4 : St → Option (Int64 × St)) (r3 : Int32 → St → Option (Int64 × St)) : Int32 → St → Option (Int64 × St) := fun x1 S2 =>
  if x1 < (S2.1 1 6) then
    ldR 5 x1 fun j17 =>
    ldI 8 (S2.1 (26 + j17)) a fun x18 =>
    jn (fun (x19 : Int32) =>
        stI S2 31 5 x1 (x18 + x19) fun S21 =>
        ldR 5 x1 fun j22 =>
        caV (fJ7_fill_53178 N (33 + j22) 24 0 S21) fun S23 =>
        nmI (x1 + 1) fun x24 =>
        r3 x24 S23) fun J20 =>
    if x1 = b then
      J20 1
    else
      J20 0
  else
    K4 S2
def fX0_leastWays (N : Nat) (a : Int32) (b : Int32) (S : St) : Option (Int64 × St) :=
  itN (fun _ _ => none) (fX0_leastWays_L2 N a b (fun (S5 : St) =>
      itN (fun _ _ _ => none) (fX0_leastWays_L59 N a) N 0 0 S5)) N 0 S
abbrev rmX0_leastWays : Room := { frames := 5, cells := 0, slots := 0, locals := 112 }
theorem iX0_leastWays_X0 : ∀ w ∈ wsX00, w ∈ wsX0_leastWays := fun w h => List.mem_cons_of_mem _ (List.mem_append_left _ (List.mem_append_left _ (List.mem_append_left _ (List.mem_append_right _ h))))
theorem iX0_leastWays_X4 : ∀ w ∈ wsX40, w ∈ wsX0_leastWays := fun w h => List.mem_cons_of_mem _ (List.mem_append_left _ (List.mem_append_left _ (List.mem_append_right _ h)))
theorem iX0_leastWays_X1 : ∀ w ∈ wsX10, w ∈ wsX0_leastWays := fun w h => List.mem_cons_of_mem _ (List.mem_append_left _ (List.mem_append_right _ h))
theorem iX0_leastWays_X3 : ∀ w ∈ wsX30, w ∈ wsX0_leastWays := fun w h => List.mem_cons_of_mem _ (List.mem_append_right _ h)
set_option maxHeartbeats 4000000 in
set_option maxRecDepth 100000 in
theorem kX0_leastWays (l : Launch) (D : va_G) (y : Cy) (g : Nat → Nat) (N : Nat) (a : Int32) (b : Int32) (S : St) (x0 : Int64 × St) (h : fX0_leastWays N a b S = some x0) : KL l yX0_leastWays wsX0_leastWays rmX0_leastWays D vwCl (tz y) (wc y g) (AC g) [.ref (g 24), .int a, .int b] S (fun r S2 => (r, S2) = x0) := by
  refine m_entryL (wc_ok y g) (by decide) rfl (Nat.le_of_ble_eq_true rfl) (lv := [(0, .ref (g 24)), (1, .int a), (2, .int b)]) rfl h ?_
  intro p e s m args below meth c hC hr hlocks
  obtain ⟨Q, hQ⟩ : ∃ Q, Q = (MQ below (va_Ql (fun r S2 => (r, S2) = x0) (Bw D vwCl (tz y) (wc y g) (AC g s.heap.size)) (AC g s.heap.size)) args s 0 0 (AC g s.heap.size)) := ⟨_, rfl⟩
  rw [← hQ]
  have hret : ∀ (v : Int64) (S2 : St) (pc : Nat) (lv : List (Nat × Value)), decode cX0_leastWays pc = .ok (.lreturn, 1) → Sm p l e (headSpec wsX0_leastWays rmX0_leastWays).room s m args below meth c D vwCl (wc y g) (AC g s.heap.size) 6 Q x0 (some (v, S2)) S2 pc lv [.long v] := by
    rw [hQ]
    exact fun v S2 pc lv hd => m_lret hC hr hlocks hd
  clear hQ
  unfold fX0_leastWays
  refine m_iconst hC (0) dX0_leastWays_0 (by decide) ?_
  refine m_istore_n hC [(0, .ref (g 24)), (1, .int a), (2, .int b), (3, .int 0)] [1, 2, 3, 0] dX0_leastWays_1 (by decide) rfl rfl ?_
  refine (m_itK (z := (fun _ _ => none)) (F := fX0_leastWays_L2 N a b) N (fun K4 => ∀ (S5 : St), Sm p l e (headSpec wsX0_leastWays rmX0_leastWays).room s m args below meth c D vwCl (wc y g) (AC g s.heap.size) 6 Q x0 (K4 S5) S5 54 [(0, .ref (g 24)), (1, .int a)] []) (fun r3 => ∀ (x1 : Int32) (S2 : St), Sm p l e (headSpec wsX0_leastWays rmX0_leastWays).room s m args below meth c D vwCl (wc y g) (AC g s.heap.size) 6 Q x0 (r3 x1 S2) S2 2 [(0, .ref (g 24)), (1, .int a), (2, .int b), (3, .int x1)] []) ?_ ?_ ?_) 0 S
  · exact fun _ _ => m_none
  · intro S5
    refine m_lconst hC (0) dX0_leastWays_54 (by decide) ?_
    refine m_lstore_n hC [(0, .ref (g 24)), (1, .int a), (3, .long 0)] [1, 2, 0] dX0_leastWays_55 (by decide) rfl rfl ?_
    refine m_iconst hC (0) dX0_leastWays_56 (by decide) ?_
    refine m_istore hC [(0, .ref (g 24)), (1, .int a), (3, .long 0), (5, .int 0)] [1, 2, 3, 0] dX0_leastWays_57 (by decide) rfl rfl ?_
    refine (m_it (z := (fun _ _ _ => none)) (F := fX0_leastWays_L59 N a) N (fun r9 => ∀ (x6 : Int64) (x7 : Int32) (S8 : St), Sm p l e (headSpec wsX0_leastWays rmX0_leastWays).room s m args below meth c D vwCl (wc y g) (AC g s.heap.size) 6 Q x0 (r9 x6 x7 S8) S8 59 [(0, .ref (g 24)), (1, .int a), (3, .long x6), (5, .int x7)] []) ?_ ?_) 0 0 S5
    · exact fun _ _ _ => m_none
    · intro r9 hr9 x6 x7 S8
      unfold fX0_leastWays_L59
      refine m_iload hC dX0_leastWays_59 3 rfl ?_
      refine m_aload_n hC dX0_leastWays_61 0 rfl ?_
      refine m_get hC iX0_leastWays_X0 (wc_24 y g S8) rfl 2 (by decide) (List.mem_of_getElem? (i := 6) rfl) rfl rfl dX0_leastWays_62 ?_
      refine m_get hC iX0_leastWays_X1 (wc_13 y g S8) rfl 9 (by decide) (List.mem_of_getElem? (i := 7) rfl) rfl rfl dX0_leastWays_65 ?_
      refine m_icmp_ge hC 109 dX0_leastWays_68 (by decide) ?_ ?_
      · refine m_lload_n hC dX0_leastWays_109 2 rfl ?_
        exact hret _ _ _ _ dX0_leastWays_110
      · refine m_aload_n hC dX0_leastWays_71 0 rfl ?_
        refine m_get hC iX0_leastWays_X0 (wc_24 y g S8) rfl 2 (by decide) (List.mem_of_getElem? (i := 6) rfl) rfl rfl dX0_leastWays_72 ?_
        refine m_get hC iX0_leastWays_X1 (wc_13 y g S8) rfl 2 (by decide) (List.mem_of_getElem? (i := 8) rfl) rfl rfl dX0_leastWays_75 ?_
        refine m_iload hC dX0_leastWays_78 3 rfl ?_
        refine m_iald hC (wc_14 y g S8) (t0 := 0) rfl dX0_leastWays_80 ?_
        intro x10
        refine m_iload_n hC dX0_leastWays_81 1 rfl ?_
        refine m_icmp_ne hC 103 dX0_leastWays_82 (by decide) ?_ ?_
        · refine m_iinc hC (fun x11 => [(0, .ref (g 24)), (1, .int a), (3, .long x6), (5, .int x11)]) [1, 2, 3, 0] dX0_leastWays_103 (j := 3) rfl (by decide) (by decide) (fun _ => rfl) (fun _ => rfl) ?_
          intro x11
          refine m_goto hC 59 dX0_leastWays_106 (by decide) ?_
          exact hr9 _ _ _
        · refine m_lload_n hC dX0_leastWays_85 2 rfl ?_
          refine m_aload_n hC dX0_leastWays_86 0 rfl ?_
          refine m_aload_n hC dX0_leastWays_87 0 rfl ?_
          refine m_get hC iX0_leastWays_X0 (wc_24 y g S8) rfl 2 (by decide) (List.mem_of_getElem? (i := 6) rfl) rfl rfl dX0_leastWays_88 ?_
          refine m_get hC iX0_leastWays_X1 (wc_13 y g S8) rfl 4 (by decide) (List.mem_of_getElem? (i := 9) rfl) rfl rfl dX0_leastWays_91 ?_
          refine m_iload hC dX0_leastWays_94 3 rfl ?_
          refine m_iald hC (wc_16 y g S8) (t0 := 0) rfl dX0_leastWays_96 ?_
          intro x12
          refine m_cIV hC (As := [.int x12]) (wc_ok y g) (cwV 1 hC.1.2.2.2.2 gX0_leastWays_X0_supply rfl rfl rfl (by decide +kernel) ⟨Nat.le_of_ble_eq_true rfl, Nat.le_of_ble_eq_true rfl⟩) (wc_24 y g S8) rfl (fun xq hq => kX0_supply l D y g N x12 S8 xq hq) rfl (Nat.le_of_ble_eq_true rfl) dX0_leastWays_97 ?_
          intro x13 S14
          refine m_i2l hC dX0_leastWays_100 ?_
          refine m_ladd hC dX0_leastWays_101 ?_
          refine m_nmL ?_
          intro x15
          refine m_lstore_n hC [(0, .ref (g 24)), (1, .int a), (3, .long x15), (5, .int x7)] [1, 2, 0, 3] dX0_leastWays_102 (by decide) rfl rfl ?_
          refine m_iinc hC (fun x16 => [(0, .ref (g 24)), (1, .int a), (3, .long x15), (5, .int x16)]) [1, 2, 3, 0] dX0_leastWays_103 (j := 3) rfl (by decide) (by decide) (fun _ => rfl) (fun _ => rfl) ?_
          intro x16
          refine m_goto hC 59 dX0_leastWays_106 (by decide) ?_
          exact hr9 _ _ _
  · intro K4 hK4 r3 hr3 x1 S2
    unfold fX0_leastWays_L2
    refine m_iload_n hC dX0_leastWays_2 3 rfl ?_
    refine m_aload_n hC dX0_leastWays_3 0 rfl ?_
    refine m_get hC iX0_leastWays_X0 (wc_24 y g S2) rfl 0 (by decide) (List.mem_of_getElem? (i := 1) rfl) rfl rfl dX0_leastWays_4 ?_
    refine m_get hC iX0_leastWays_X4 (wc_1 y g S2) rfl 6 (by decide) (List.mem_of_getElem? (i := 2) rfl) rfl rfl dX0_leastWays_7 ?_
    refine m_icmp_ge hC 54 dX0_leastWays_10 (by decide) ?_ ?_
    · refine m_lv [(0, .ref (g 24)), (1, .int a)] [0, 1] rfl ?_
      exact hK4 _
    · refine m_aload_n hC dX0_leastWays_13 0 rfl ?_
      refine m_get hC iX0_leastWays_X0 (wc_24 y g S2) rfl 4 (by decide) (List.mem_of_getElem? (i := 3) rfl) rfl rfl dX0_leastWays_14 ?_
      refine m_iload_n hC dX0_leastWays_17 3 rfl ?_
      refine m_aload_n hC dX0_leastWays_18 0 rfl ?_
      refine m_get hC iX0_leastWays_X0 (wc_24 y g S2) rfl 3 (by decide) (List.mem_of_getElem? (i := 4) rfl) rfl rfl dX0_leastWays_19 ?_
      refine m_iload_n hC dX0_leastWays_22 3 rfl ?_
      refine m_aald hC (wc_25 y g S2) (t0 := 2) rfl (rows_at g 26 5) dX0_leastWays_23 ?_
      intro j17 hj17
      refine m_iload_n hC dX0_leastWays_24 1 rfl ?_
      refine m_iald hC (wc_r26 y g S2 j17 hj17) (t0 := 0) rfl dX0_leastWays_25 ?_
      intro x18
      refine m_iload_n hC dX0_leastWays_26 3 rfl ?_
      refine m_iload_n hC dX0_leastWays_27 2 rfl ?_
      refine m_jn (fun J20 => ∀ (x19 : Int32), Sm p l e (headSpec wsX0_leastWays rmX0_leastWays).room s m args below meth c D vwCl (wc y g) (AC g s.heap.size) 6 Q x0 (J20 x19) S2 36 [(0, .ref (g 24)), (1, .int a), (2, .int b), (3, .int x1)] [.int x19, .int x18, .int x1, .ref (g 31)]) ?_ (fun J20 hJ20 => ?_)
      · intro x19
        refine m_iadd hC dX0_leastWays_36 ?_
        refine m_iast hC (wc_31 y g S2) (t0 := 0) rfl (wcs_31 y g S2) dX0_leastWays_37 ?_
        intro S21
        refine m_aload_n hC dX0_leastWays_38 0 rfl ?_
        refine m_get hC iX0_leastWays_X0 (wc_24 y g S21) rfl 5 (by decide) (List.mem_of_getElem? (i := 5) rfl) rfl rfl dX0_leastWays_39 ?_
        refine m_iload_n hC dX0_leastWays_42 3 rfl ?_
        refine m_aald hC (wc_32 y g S21) (t0 := 2) rfl (rows_at g 33 5) dX0_leastWays_43 ?_
        intro j22 hj22
        refine m_iconst hC (0) dX0_leastWays_44 (by decide) ?_
        refine m_cVS hC (As := [.ref (g (33 + j22)), .int 0]) (wc_ok y g) (va_cwS 2 hC.1.2.2.2.2 gX0_leastWays_J7_fill_53178 rfl rfl rfl (by decide +kernel) ⟨Nat.le_of_ble_eq_true rfl, Nat.le_of_ble_eq_true rfl⟩) (fun xq hq => kJ7_fill_53178 l D y g N (33 + j22) 24 0 (fun S => wc_r33 y g S j22 hj22) (fun S f => wcs_r33 y g S j22 hj22 f) S21 xq hq) rfl (Nat.le_of_ble_eq_true rfl) dX0_leastWays_45 ?_
        intro S23
        refine m_iinc hC (fun x24 => [(0, .ref (g 24)), (1, .int a), (2, .int b), (3, .int x24)]) [1, 2, 3, 0] dX0_leastWays_48 (j := 3) rfl (by decide) (by decide) (fun _ => rfl) (fun _ => rfl) ?_
        intro x24
        refine m_goto hC 2 dX0_leastWays_51 (by decide) ?_
        exact hr3 _ _
      · refine m_icmp_ne hC 35 dX0_leastWays_28 (by decide) ?_ ?_
        · refine m_iconst hC (0) dX0_leastWays_35 (by decide) ?_
          exact hJ20 _
        · refine m_iconst hC (1) dX0_leastWays_31 (by decide) ?_
          refine m_goto hC 36 dX0_leastWays_32 (by decide) ?_
          exact hJ20 _
def fX0_leastToil_L4 (N : Nat) (r4 : Int64 → Int32 → St → Option (Int64 × St)) : Int64 → Int32 → St → Option (Int64 × St) := fun x1 x2 S3 =>
  if x2 < (S3.1 1 5) then
    caP (fX0_weight x2 S3) fun x5 =>
    caS (fX0_leastWays N x2 (-1) S3) fun x6 S7 =>
    nmL (x1 + (x5 * x6)) fun x8 =>
    nmI (x2 + 1) fun x9 =>
    r4 x8 x9 S7
  else
    some (x1, S3)
def fX0_leastToil (N : Nat) (S : St) : Option (Int64 × St) :=
  itN (fun _ _ _ => none) (fX0_leastToil_L4 N) N 0 0 S
abbrev rmX0_leastToil : Room := { frames := 6, cells := 0, slots := 0, locals := 137 }
theorem iX0_leastToil_X0 : ∀ w ∈ wsX00, w ∈ wsX0_leastToil := fun w h => List.mem_cons_of_mem _ (List.mem_append_left _ (List.mem_append_left _ (List.mem_append_left _ (List.mem_append_right _ h))))
theorem iX0_leastToil_X4 : ∀ w ∈ wsX40, w ∈ wsX0_leastToil := fun w h => List.mem_cons_of_mem _ (List.mem_append_left _ (List.mem_append_left _ (List.mem_append_right _ h)))
theorem iX0_leastToil_X1 : ∀ w ∈ wsX10, w ∈ wsX0_leastToil := fun w h => List.mem_cons_of_mem _ (List.mem_append_left _ (List.mem_append_right _ h))
theorem iX0_leastToil_X3 : ∀ w ∈ wsX30, w ∈ wsX0_leastToil := fun w h => List.mem_cons_of_mem _ (List.mem_append_right _ h)
set_option maxHeartbeats 4000000 in
set_option maxRecDepth 100000 in
theorem kX0_leastToil (l : Launch) (D : va_G) (y : Cy) (g : Nat → Nat) (N : Nat) (S : St) (x0 : Int64 × St) (h : fX0_leastToil N S = some x0) : KL l yX0_leastToil wsX0_leastToil rmX0_leastToil D vwCl (tz y) (wc y g) (AC g) [.ref (g 24)] S (fun r S2 => (r, S2) = x0) := by
  refine m_entryL (wc_ok y g) (by decide) rfl (Nat.le_of_ble_eq_true rfl) (lv := [(0, .ref (g 24))]) rfl h ?_
  intro p e s m args below meth c hC hr hlocks
  obtain ⟨Q, hQ⟩ : ∃ Q, Q = (MQ below (va_Ql (fun r S2 => (r, S2) = x0) (Bw D vwCl (tz y) (wc y g) (AC g s.heap.size)) (AC g s.heap.size)) args s 0 0 (AC g s.heap.size)) := ⟨_, rfl⟩
  rw [← hQ]
  have hret : ∀ (v : Int64) (S2 : St) (pc : Nat) (lv : List (Nat × Value)), decode cX0_leastToil pc = .ok (.lreturn, 1) → Sm p l e (headSpec wsX0_leastToil rmX0_leastToil).room s m args below meth c D vwCl (wc y g) (AC g s.heap.size) 4 Q x0 (some (v, S2)) S2 pc lv [.long v] := by
    rw [hQ]
    exact fun v S2 pc lv hd => m_lret hC hr hlocks hd
  clear hQ
  unfold fX0_leastToil
  refine m_lconst hC (0) dX0_leastToil_0 (by decide) ?_
  refine m_lstore_n hC [(0, .ref (g 24)), (1, .long 0)] [1, 0] dX0_leastToil_1 (by decide) rfl rfl ?_
  refine m_iconst hC (0) dX0_leastToil_2 (by decide) ?_
  refine m_istore_n hC [(0, .ref (g 24)), (1, .long 0), (3, .int 0)] [1, 2, 0] dX0_leastToil_3 (by decide) rfl rfl ?_
  refine (m_it (z := (fun _ _ _ => none)) (F := fX0_leastToil_L4 N) N (fun r4 => ∀ (x1 : Int64) (x2 : Int32) (S3 : St), Sm p l e (headSpec wsX0_leastToil rmX0_leastToil).room s m args below meth c D vwCl (wc y g) (AC g s.heap.size) 4 Q x0 (r4 x1 x2 S3) S3 4 [(0, .ref (g 24)), (1, .long x1), (3, .int x2)] []) ?_ ?_) 0 0 S
  · exact fun _ _ _ => m_none
  · intro r4 hr4 x1 x2 S3
    unfold fX0_leastToil_L4
    refine m_iload_n hC dX0_leastToil_4 2 rfl ?_
    refine m_aload_n hC dX0_leastToil_5 0 rfl ?_
    refine m_get hC iX0_leastToil_X0 (wc_24 y g S3) rfl 0 (by decide) (List.mem_of_getElem? (i := 1) rfl) rfl rfl dX0_leastToil_6 ?_
    refine m_get hC iX0_leastToil_X4 (wc_1 y g S3) rfl 5 (by decide) (List.mem_of_getElem? (i := 2) rfl) rfl rfl dX0_leastToil_9 ?_
    refine m_icmp_ge hC 36 dX0_leastToil_12 (by decide) ?_ ?_
    · refine m_lload_n hC dX0_leastToil_36 1 rfl ?_
      exact hret _ _ _ _ dX0_leastToil_37
    · refine m_lload_n hC dX0_leastToil_15 1 rfl ?_
      refine m_aload_n hC dX0_leastToil_16 0 rfl ?_
      refine m_iload_n hC dX0_leastToil_17 2 rfl ?_
      refine m_cLPV hC (As := [.int x2]) (wc_ok y g) (cwV 1 hC.1.2.2.2.2 gX0_leastToil_X0_weight rfl rfl rfl (by decide +kernel) ⟨Nat.le_of_ble_eq_true rfl, Nat.le_of_ble_eq_true rfl⟩) (wc_24 y g S3) rfl (fun xq hq => kX0_weight l D y g x2 S3 xq hq) rfl (Nat.le_of_ble_eq_true rfl) dX0_leastToil_18 ?_
      intro x5
      refine m_aload_n hC dX0_leastToil_21 0 rfl ?_
      refine m_iload_n hC dX0_leastToil_22 2 rfl ?_
      refine m_iconst hC (-1) dX0_leastToil_23 (by decide) ?_
      refine m_cLV hC (As := [.int x2, .int (-1)]) (wc_ok y g) (cwV 2 hC.1.2.2.2.2 gX0_leastToil_X0_leastWays rfl rfl rfl (by decide +kernel) ⟨Nat.le_of_ble_eq_true rfl, Nat.le_of_ble_eq_true rfl⟩) (wc_24 y g S3) rfl (fun xq hq => kX0_leastWays l D y g N x2 (-1) S3 xq hq) rfl (Nat.le_of_ble_eq_true rfl) dX0_leastToil_24 ?_
      intro x6 S7
      refine m_lmul hC dX0_leastToil_27 ?_
      refine m_ladd hC dX0_leastToil_28 ?_
      refine m_nmL ?_
      intro x8
      refine m_lstore_n hC [(0, .ref (g 24)), (1, .long x8), (3, .int x2)] [1, 0, 2] dX0_leastToil_29 (by decide) rfl rfl ?_
      refine m_iinc hC (fun x9 => [(0, .ref (g 24)), (1, .long x8), (3, .int x9)]) [1, 2, 0] dX0_leastToil_30 (j := 2) rfl (by decide) (by decide) (fun _ => rfl) (fun _ => rfl) ?_
      intro x9
      refine m_goto hC 4 dX0_leastToil_33 (by decide) ?_
      exact hr4 _ _ _
def fX0_rememberHeaps_L2 (r3 : Int32 → St → Option (St)) : Int32 → St → Option (St) := fun x1 S2 =>
  if x1 < (S2.1 1 6) then
    ldR 5 x1 fun j4 =>
    ldR 5 x1 fun j5 =>
    cpI S2 (7 + j4) 8 (26 + j5) 8 0 0 8 fun S6 =>
    nmI (x1 + 1) fun x7 =>
    r3 x7 S6
  else
    some S2
def fX0_rememberHeaps (N : Nat) (S : St) : Option (St) :=
  itN (fun _ _ => none) (fX0_rememberHeaps_L2) N 0 S
abbrev rmX0_rememberHeaps : Room := { frames := 1, cells := 0, slots := 0, locals := 30 }
theorem iX0_rememberHeaps_X0 : ∀ w ∈ wsX00, w ∈ wsX0_rememberHeaps := fun w h => List.mem_cons_of_mem _ (List.mem_append_left _ (List.mem_append_right _ h))
theorem iX0_rememberHeaps_X4 : ∀ w ∈ wsX40, w ∈ wsX0_rememberHeaps := fun w h => List.mem_cons_of_mem _ (List.mem_append_right _ h)
set_option maxHeartbeats 4000000 in
set_option maxRecDepth 100000 in
theorem kX0_rememberHeaps (l : Launch) (D : va_G) (y : Cy) (g : Nat → Nat) (N : Nat) (S : St) (x0 : St) (h : fX0_rememberHeaps N S = some x0) : KV l yX0_rememberHeaps wsX0_rememberHeaps rmX0_rememberHeaps D vwCl (tz y) (wc y g) (AC g) [.ref (g 24)] S (fun S2 => S2 = x0) := by
  refine m_entryV (wc_ok y g) (by decide) rfl (Nat.le_of_ble_eq_true rfl) (lv := [(0, .ref (g 24))]) rfl h ?_
  intro p e s m args below meth c hC hr hlocks
  obtain ⟨Q, hQ⟩ : ∃ Q, Q = (MQ below (va_Qv (fun S2 => S2 = x0) (Bw D vwCl (tz y) (wc y g) (AC g s.heap.size)) (AC g s.heap.size)) args s 0 0 (AC g s.heap.size)) := ⟨_, rfl⟩
  rw [← hQ]
  have hret : ∀ (S2 : St) (pc : Nat) (lv : List (Nat × Value)), decode cX0_rememberHeaps pc = .ok (.return_, 1) → Sm p l e (headSpec wsX0_rememberHeaps rmX0_rememberHeaps).room s m args below meth c D vwCl (wc y g) (AC g s.heap.size) 2 Q x0 (some S2) S2 pc lv [] := by
    rw [hQ]
    exact fun S2 pc lv hd => m_vret hC hr hlocks hd
  clear hQ
  unfold fX0_rememberHeaps
  refine m_iconst hC (0) dX0_rememberHeaps_0 (by decide) ?_
  refine m_istore_n hC [(0, .ref (g 24)), (1, .int 0)] [1, 0] dX0_rememberHeaps_1 (by decide) rfl rfl ?_
  refine (m_it (z := (fun _ _ => none)) (F := fX0_rememberHeaps_L2) N (fun r3 => ∀ (x1 : Int32) (S2 : St), Sm p l e (headSpec wsX0_rememberHeaps rmX0_rememberHeaps).room s m args below meth c D vwCl (wc y g) (AC g s.heap.size) 2 Q x0 (r3 x1 S2) S2 2 [(0, .ref (g 24)), (1, .int x1)] []) ?_ ?_) 0 S
  · exact fun _ _ => m_none
  · intro r3 hr3 x1 S2
    unfold fX0_rememberHeaps_L2
    refine m_iload_n hC dX0_rememberHeaps_2 1 rfl ?_
    refine m_aload_n hC dX0_rememberHeaps_3 0 rfl ?_
    refine m_get hC iX0_rememberHeaps_X0 (wc_24 y g S2) rfl 0 (by decide) (List.mem_of_getElem? (i := 1) rfl) rfl rfl dX0_rememberHeaps_4 ?_
    refine m_get hC iX0_rememberHeaps_X4 (wc_1 y g S2) rfl 6 (by decide) (List.mem_of_getElem? (i := 2) rfl) rfl rfl dX0_rememberHeaps_7 ?_
    refine m_icmp_ge hC 41 dX0_rememberHeaps_10 (by decide) ?_ ?_
    · exact hret _ _ _ dX0_rememberHeaps_41
    · refine m_aload_n hC dX0_rememberHeaps_13 0 rfl ?_
      refine m_get hC iX0_rememberHeaps_X0 (wc_24 y g S2) rfl 0 (by decide) (List.mem_of_getElem? (i := 1) rfl) rfl rfl dX0_rememberHeaps_14 ?_
      refine m_get hC iX0_rememberHeaps_X4 (wc_1 y g S2) rfl 4 (by decide) (List.mem_of_getElem? (i := 3) rfl) rfl rfl dX0_rememberHeaps_17 ?_
      refine m_iload_n hC dX0_rememberHeaps_20 1 rfl ?_
      refine m_aald hC (wc_6 y g S2) (t0 := 2) rfl (rows_at g 7 5) dX0_rememberHeaps_21 ?_
      intro j4 hj4
      refine m_iconst hC (0) dX0_rememberHeaps_22 (by decide) ?_
      refine m_aload_n hC dX0_rememberHeaps_23 0 rfl ?_
      refine m_get hC iX0_rememberHeaps_X0 (wc_24 y g S2) rfl 3 (by decide) (List.mem_of_getElem? (i := 4) rfl) rfl rfl dX0_rememberHeaps_24 ?_
      refine m_iload_n hC dX0_rememberHeaps_27 1 rfl ?_
      refine m_aald hC (wc_25 y g S2) (t0 := 2) rfl (rows_at g 26 5) dX0_rememberHeaps_28 ?_
      intro j5 hj5
      refine m_iconst hC (0) dX0_rememberHeaps_29 (by decide) ?_
      refine m_bipush hC (8) dX0_rememberHeaps_30 (by decide) ?_
      refine m_copy hC (List.mem_of_getElem? (i := 5) rfl) (List.mem_of_getElem? (i := 6) rfl) (List.mem_of_getElem? (i := 7) rfl) (List.mem_of_getElem? (i := 8) rfl) (wc_r7 y g S2 j4 hj4) (wc_r26 y g S2 j5 hj5) (t0 := 0) rfl (wcs_r26 y g S2 j5 hj5) (Nat.le_of_ble_eq_true rfl) (Nat.le_of_ble_eq_true rfl) dX0_rememberHeaps_32 ?_
      intro S6
      refine m_iinc hC (fun x7 => [(0, .ref (g 24)), (1, .int x7)]) [1, 0] dX0_rememberHeaps_35 (j := 1) rfl (by decide) (by decide) (fun _ => rfl) (fun _ => rfl) ?_
      intro x7
      refine m_goto hC 2 dX0_rememberHeaps_38 (by decide) ?_
      exact hr3 _ _
def fX0_toilSaved (N : Nat) (a : Int32) (b : Int32) (S : St) : Option (Int64 × St) :=
  caP (fX0_weight b S) fun x1 =>
  caS (fX0_leastWays N b (-1) S) fun x2 S3 =>
  caS (fX0_leastWays N b a S3) fun x4 S5 =>
  some (x1 * (x2 - x4), S5)
abbrev rmX0_toilSaved : Room := { frames := 6, cells := 0, slots := 0, locals := 137 }
theorem iX0_toilSaved_X0 : ∀ w ∈ wsX00, w ∈ wsX0_toilSaved := fun w h => List.mem_cons_of_mem _ (List.mem_append_left _ (List.mem_append_left _ (List.mem_append_left _ (List.mem_append_right _ h))))
theorem iX0_toilSaved_X4 : ∀ w ∈ wsX40, w ∈ wsX0_toilSaved := fun w h => List.mem_cons_of_mem _ (List.mem_append_left _ (List.mem_append_left _ (List.mem_append_right _ h)))
theorem iX0_toilSaved_X1 : ∀ w ∈ wsX10, w ∈ wsX0_toilSaved := fun w h => List.mem_cons_of_mem _ (List.mem_append_left _ (List.mem_append_right _ h))
theorem iX0_toilSaved_X3 : ∀ w ∈ wsX30, w ∈ wsX0_toilSaved := fun w h => List.mem_cons_of_mem _ (List.mem_append_right _ h)
set_option maxHeartbeats 4000000 in
set_option maxRecDepth 100000 in
theorem kX0_toilSaved (l : Launch) (D : va_G) (y : Cy) (g : Nat → Nat) (N : Nat) (a : Int32) (b : Int32) (S : St) (x0 : Int64 × St) (h : fX0_toilSaved N a b S = some x0) : KL l yX0_toilSaved wsX0_toilSaved rmX0_toilSaved D vwCl (tz y) (wc y g) (AC g) [.ref (g 24), .int a, .int b] S (fun r S2 => (r, S2) = x0) := by
  refine m_entryL (wc_ok y g) (by decide) rfl (Nat.le_of_ble_eq_true rfl) (lv := [(0, .ref (g 24)), (1, .int a), (2, .int b)]) rfl h ?_
  intro p e s m args below meth c hC hr hlocks
  obtain ⟨Q, hQ⟩ : ∃ Q, Q = (MQ below (va_Ql (fun r S2 => (r, S2) = x0) (Bw D vwCl (tz y) (wc y g) (AC g s.heap.size)) (AC g s.heap.size)) args s 0 0 (AC g s.heap.size)) := ⟨_, rfl⟩
  rw [← hQ]
  have hret : ∀ (v : Int64) (S2 : St) (pc : Nat) (lv : List (Nat × Value)), decode cX0_toilSaved pc = .ok (.lreturn, 1) → Sm p l e (headSpec wsX0_toilSaved rmX0_toilSaved).room s m args below meth c D vwCl (wc y g) (AC g s.heap.size) 3 Q x0 (some (v, S2)) S2 pc lv [.long v] := by
    rw [hQ]
    exact fun v S2 pc lv hd => m_lret hC hr hlocks hd
  clear hQ
  unfold fX0_toilSaved
  refine m_aload_n hC dX0_toilSaved_0 0 rfl ?_
  refine m_iload_n hC dX0_toilSaved_1 2 rfl ?_
  refine m_cLPV hC (As := [.int b]) (wc_ok y g) (cwV 1 hC.1.2.2.2.2 gX0_toilSaved_X0_weight rfl rfl rfl (by decide +kernel) ⟨Nat.le_of_ble_eq_true rfl, Nat.le_of_ble_eq_true rfl⟩) (wc_24 y g S) rfl (fun xq hq => kX0_weight l D y g b S xq hq) rfl (Nat.le_of_ble_eq_true rfl) dX0_toilSaved_2 ?_
  intro x1
  refine m_aload_n hC dX0_toilSaved_5 0 rfl ?_
  refine m_iload_n hC dX0_toilSaved_6 2 rfl ?_
  refine m_iconst hC (-1) dX0_toilSaved_7 (by decide) ?_
  refine m_cLV hC (As := [.int b, .int (-1)]) (wc_ok y g) (cwV 2 hC.1.2.2.2.2 gX0_toilSaved_X0_leastWays rfl rfl rfl (by decide +kernel) ⟨Nat.le_of_ble_eq_true rfl, Nat.le_of_ble_eq_true rfl⟩) (wc_24 y g S) rfl (fun xq hq => kX0_leastWays l D y g N b (-1) S xq hq) rfl (Nat.le_of_ble_eq_true rfl) dX0_toilSaved_8 ?_
  intro x2 S3
  refine m_aload_n hC dX0_toilSaved_11 0 rfl ?_
  refine m_iload_n hC dX0_toilSaved_12 2 rfl ?_
  refine m_iload_n hC dX0_toilSaved_13 1 rfl ?_
  refine m_cLV hC (As := [.int b, .int a]) (wc_ok y g) (cwV 2 hC.1.2.2.2.2 gX0_toilSaved_X0_leastWays rfl rfl rfl (by decide +kernel) ⟨Nat.le_of_ble_eq_true rfl, Nat.le_of_ble_eq_true rfl⟩) (wc_24 y g S3) rfl (fun xq hq => kX0_leastWays l D y g N b a S3 xq hq) rfl (Nat.le_of_ble_eq_true rfl) dX0_toilSaved_14 ?_
  intro x4 S5
  refine m_lsub hC dX0_toilSaved_17 ?_
  refine m_lmul hC dX0_toilSaved_18 ?_
  exact hret _ _ _ _ dX0_toilSaved_19
