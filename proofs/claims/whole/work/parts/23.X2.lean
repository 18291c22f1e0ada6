def fX2_begin_L32 (N : Nat) (r8 : Int32 → St → Option (St)) : Int32 → St → Option (St) := fun x6 S7 =>
  if x6 < (S7.1 1 5) then
    caP (fX4_inHeaps N x6 S7) fun x9 =>
    stI S7 22 8 x6 x9 fun S10 =>
    nmI (x6 + 1) fun x11 =>
    r8 x11 S10
  else
    some S7
def fX2_begin (N : Nat) (S : St) : Option (St) :=
  caV (fX1_forget S) fun S1 =>
  pfI S1 21 7 0 fun S2 =>
  pfI S2 21 5 0 fun S3 =>
  pfI S3 21 6 0 fun S4 =>
  caV (fJ7_fill_53178 N 23 6 0 S4) fun S5 =>
  itN (fun _ _ => none) (fX2_begin_L32 N) N 0 S5
abbrev rmX2_begin : Room := { frames := 1, cells := 0, slots := 0, locals := 23 }
theorem iX2_begin_X2 : ∀ w ∈ wsX20, w ∈ wsX2_begin := fun w h => List.mem_cons_of_mem _ (List.mem_append_left _ (List.mem_append_left _ (List.mem_append_right _ h)))
theorem iX2_begin_X4 : ∀ w ∈ wsX40, w ∈ wsX2_begin := fun w h => List.mem_cons_of_mem _ (List.mem_append_left _ (List.mem_append_right _ h))
theorem iX2_begin_X1 : ∀ w ∈ wsX10, w ∈ wsX2_begin := fun w h => List.mem_cons_of_mem _ (List.mem_append_right _ h)
set_option maxHeartbeats 4000000 in
set_option maxRecDepth 100000 in
theorem kX2_begin (l : Launch) (D : va_G) (y : Cy) (g : Nat → Nat) (N : Nat) (S : St) (x0 : St) (h : fX2_begin N S = some x0) : KV l yX2_begin wsX2_begin rmX2_begin D vwCl (tz y) (wc y g) (AC g) [.ref (g 21)] S (fun S2 => S2 = x0) := by
  refine m_entryV (wc_ok y g) (by decide) rfl (Nat.le_of_ble_eq_true rfl) (lv := [(0, .ref (g 21))]) rfl h ?_
  intro p e s m args below meth c hC hr hlocks
  obtain ⟨Q, hQ⟩ : ∃ Q, Q = (MQ below (va_Qv (fun S2 => S2 = x0) (Bw D vwCl (tz y) (wc y g) (AC g s.heap.size)) (AC g s.heap.size)) args s 0 0 (AC g s.heap.size)) := ⟨_, rfl⟩
  rw [← hQ]
  have hret : ∀ (S2 : St) (pc : Nat) (lv : List (Nat × Value)), decode cX2_begin pc = .ok (.return_, 1) → Sm p l e (headSpec wsX2_begin rmX2_begin).room s m args below meth c D vwCl (wc y g) (AC g s.heap.size) 2 Q x0 (some S2) S2 pc lv [] := by
    rw [hQ]
    exact fun S2 pc lv hd => m_vret hC hr hlocks hd
  clear hQ
  unfold fX2_begin
  refine m_aload_n hC dX2_begin_0 0 rfl ?_
  refine m_get hC iX2_begin_X2 (wc_21 y g S) rfl 2 (by decide) (List.mem_of_getElem? (i := 1) rfl) rfl rfl dX2_begin_1 ?_
  refine m_cVV hC (As := []) (wc_ok y g) (cwV 0 hC.1.2.2.2.2 gX2_begin_X1_forget rfl rfl rfl (by decide +kernel) ⟨Nat.le_of_ble_eq_true rfl, Nat.le_of_ble_eq_true rfl⟩) (wc_13 y g S) rfl (fun xq hq => kX1_forget l D y g S xq hq) rfl (Nat.le_of_ble_eq_true rfl) dX2_begin_4 ?_
  intro S1
  refine m_aload_n hC dX2_begin_7 0 rfl ?_
  refine m_iconst hC (0) dX2_begin_8 (by decide) ?_
  refine m_putI (ty := .int) hC iX2_begin_X2 tyX2 tyX2_ok nmX2 (wc_21 y g S1) rfl 7 (by decide) (List.mem_of_getElem? (i := 2) rfl) rfl rfl (by decide +kernel) rfl rfl (Nat.le_of_ble_eq_true rfl) dX2_begin_9 (wcf_21_7 y g S1 _) ?_
  intro S2
  refine m_aload_n hC dX2_begin_12 0 rfl ?_
  refine m_iconst hC (0) dX2_begin_13 (by decide) ?_
  refine m_putI (ty := .int) hC iX2_begin_X2 tyX2 tyX2_ok nmX2 (wc_21 y g S2) rfl 5 (by decide) (List.mem_of_getElem? (i := 3) rfl) rfl rfl (by decide +kernel) rfl rfl (Nat.le_of_ble_eq_true rfl) dX2_begin_14 (wcf_21_5 y g S2 _) ?_
  intro S3
  refine m_aload_n hC dX2_begin_17 0 rfl ?_
  refine m_iconst hC (0) dX2_begin_18 (by decide) ?_
  refine m_putI (ty := .int) hC iX2_begin_X2 tyX2 tyX2_ok nmX2 (wc_21 y g S3) rfl 6 (by decide) (List.mem_of_getElem? (i := 4) rfl) rfl rfl (by decide +kernel) rfl rfl (Nat.le_of_ble_eq_true rfl) dX2_begin_19 (wcf_21_6 y g S3 _) ?_
  intro S4
  refine m_aload_n hC dX2_begin_22 0 rfl ?_
  refine m_get hC iX2_begin_X2 (wc_21 y g S4) rfl 4 (by decide) (List.mem_of_getElem? (i := 5) rfl) rfl rfl dX2_begin_23 ?_
  refine m_iconst hC (0) dX2_begin_26 (by decide) ?_
  refine m_cVS hC (As := [.ref (g 23), .int 0]) (wc_ok y g) (va_cwS 2 hC.1.2.2.2.2 gX2_begin_J7_fill_53178 rfl rfl rfl (by decide +kernel) ⟨Nat.le_of_ble_eq_true rfl, Nat.le_of_ble_eq_true rfl⟩) (fun xq hq => kJ7_fill_53178 l D y g N 23 6 0 (fun S => wc_23 y g S) (fun S f => wcs_23 y g S f) S4 xq hq) rfl (Nat.le_of_ble_eq_true rfl) dX2_begin_27 ?_
  intro S5
  refine m_iconst hC (0) dX2_begin_30 (by decide) ?_
  refine m_istore_n hC [(0, .ref (g 21)), (1, .int 0)] [1, 0] dX2_begin_31 (by decide) rfl rfl ?_
  refine (m_it (z := (fun _ _ => none)) (F := fX2_begin_L32 N) N (fun r8 => ∀ (x6 : Int32) (S7 : St), Sm p l e (headSpec wsX2_begin rmX2_begin).room s m args below meth c D vwCl (wc y g) (AC g s.heap.size) 2 Q x0 (r8 x6 S7) S7 32 [(0, .ref (g 21)), (1, .int x6)] []) ?_ ?_) 0 S5
  · exact fun _ _ => m_none
  · intro r8 hr8 x6 S7
    unfold fX2_begin_L32
    refine m_iload_n hC dX2_begin_32 1 rfl ?_
    refine m_aload_n hC dX2_begin_33 0 rfl ?_
    refine m_get hC iX2_begin_X2 (wc_21 y g S7) rfl 0 (by decide) (List.mem_of_getElem? (i := 6) rfl) rfl rfl dX2_begin_34 ?_
    refine m_get hC iX2_begin_X4 (wc_1 y g S7) rfl 5 (by decide) (List.mem_of_getElem? (i := 7) rfl) rfl rfl dX2_begin_37 ?_
    refine m_icmp_ge hC 63 dX2_begin_40 (by decide) ?_ ?_
    · exact hret _ _ _ dX2_begin_63
    · refine m_aload_n hC dX2_begin_43 0 rfl ?_
      refine m_get hC iX2_begin_X2 (wc_21 y g S7) rfl 3 (by decide) (List.mem_of_getElem? (i := 8) rfl) rfl rfl dX2_begin_44 ?_
      refine m_iload_n hC dX2_begin_47 1 rfl ?_
      refine m_aload_n hC dX2_begin_48 0 rfl ?_
      refine m_get hC iX2_begin_X2 (wc_21 y g S7) rfl 0 (by decide) (List.mem_of_getElem? (i := 6) rfl) rfl rfl dX2_begin_49 ?_
      refine m_iload_n hC dX2_begin_52 1 rfl ?_
      refine m_cIPV hC (As := [.int x6]) (wc_ok y g) (cwV 1 hC.1.2.2.2.2 gX2_begin_X4_inHeaps rfl rfl rfl (by decide +kernel) ⟨Nat.le_of_ble_eq_true rfl, Nat.le_of_ble_eq_true rfl⟩) (wc_1 y g S7) rfl (fun xq hq => kX4_inHeaps l D y g N x6 S7 xq hq) rfl (Nat.le_of_ble_eq_true rfl) dX2_begin_53 ?_
      intro x9
      refine m_iast hC (wc_22 y g S7) (t0 := 0) rfl (wcs_22 y g S7) dX2_begin_56 ?_
      intro S10
      refine m_iinc hC (fun x11 => [(0, .ref (g 21)), (1, .int x11)]) [1, 0] dX2_begin_57 (j := 1) rfl (by decide) (by decide) (fun _ => rfl) (fun _ => rfl) ?_
      intro x11
      refine m_goto hC 32 dX2_begin_60 (by decide) ?_
      exact hr8 _ _
def fX2_endsWell (a : Int32) (S : St) : Option (Int32) :=
  ldI 8 (S.1 2) a fun x1 =>
  nmI ((S.1 21 6) + x1) fun x2 =>
  jn (fun (x3 : Int32) =>
      if x2 ≤ (S.1 12 3) then
        if x3 = 0 then
          some 1
        else
          some 0
      else
        some 0) fun J4 =>
  if (S.1 21 5) ≤ 0 then
    J4 0
  else
    ldI 6 (S.1 23) ((S.1 21 5) - 1) fun x5 =>
    if ((x5 >>> (x2 &&& 31)) &&& 1) = 1 then
      J4 1
    else
      J4 0
abbrev rmX2_endsWell : Room := { frames := 0, cells := 0, slots := 0, locals := 0 }
theorem iX2_endsWell_X2 : ∀ w ∈ wsX20, w ∈ wsX2_endsWell := fun w h => List.mem_cons_of_mem _ (List.mem_append_left _ (List.mem_append_left _ (List.mem_append_right _ h)))
theorem iX2_endsWell_X4 : ∀ w ∈ wsX40, w ∈ wsX2_endsWell := fun w h => List.mem_cons_of_mem _ (List.mem_append_left _ (List.mem_append_right _ h))
theorem iX2_endsWell_X3 : ∀ w ∈ wsX30, w ∈ wsX2_endsWell := fun w h => List.mem_cons_of_mem _ (List.mem_append_right _ h)
set_option maxHeartbeats 4000000 in
set_option maxRecDepth 100000 in
theorem kX2_endsWell (l : Launch) (D : va_G) (y : Cy) (g : Nat → Nat) (a : Int32) (S : St) (x0 : Int32) (h : fX2_endsWell a S = some x0) : KI l yX2_endsWell wsX2_endsWell rmX2_endsWell D vwCl (tz y) (wc y g) (AC g) [.ref (g 21), .int a] S (fun r S2 => r = x0 ∧ S2 = S) := by
  refine m_entryIP (wc_ok y g) (by decide) rfl (Nat.le_of_ble_eq_true rfl) (lv := [(0, .ref (g 21)), (1, .int a)]) rfl h ?_
  intro p e s m args below meth c hC hr hlocks
  obtain ⟨Q, hQ⟩ : ∃ Q, Q = (MQ below (va_Qi (fun r S2 => r = x0 ∧ S2 = S) (Bw D vwCl (tz y) (wc y g) (AC g s.heap.size)) (AC g s.heap.size)) args s 0 0 (AC g s.heap.size)) := ⟨_, rfl⟩
  rw [← hQ]
  have hret : ∀ (v : Int32) (pc : Nat) (lv : List (Nat × Value)), decode cX2_endsWell pc = .ok (.ireturn, 1) → narrow .boolean (.int v) = .int v → Sm p l e (headSpec wsX2_endsWell rmX2_endsWell).room s m args below meth c D vwCl (wc y g) (AC g s.heap.size) 4 Q x0 (some v) S pc lv [.int v] := by
    rw [hQ]
    exact fun v pc lv hd hz => m_zretP hC hz hr hlocks hd
  clear hQ
  unfold fX2_endsWell
  refine m_aload_n hC dX2_endsWell_0 0 rfl ?_
  refine m_get hC iX2_endsWell_X2 (wc_21 y g S) rfl 6 (by decide) (List.mem_of_getElem? (i := 1) rfl) rfl rfl dX2_endsWell_1 ?_
  refine m_aload_n hC dX2_endsWell_4 0 rfl ?_
  refine m_get hC iX2_endsWell_X2 (wc_21 y g S) rfl 0 (by decide) (List.mem_of_getElem? (i := 2) rfl) rfl rfl dX2_endsWell_5 ?_
  refine m_get hC iX2_endsWell_X4 (wc_1 y g S) rfl 0 (by decide) (List.mem_of_getElem? (i := 3) rfl) rfl rfl dX2_endsWell_8 ?_
  refine m_iload_n hC dX2_endsWell_11 1 rfl ?_
  refine m_iald hC (wc_2 y g S) (t0 := 0) rfl dX2_endsWell_12 ?_
  intro x1
  refine m_iadd hC dX2_endsWell_13 ?_
  refine m_nmI ?_
  intro x2
  refine m_istore_n hC [(0, .ref (g 21)), (1, .int a), (2, .int x2)] [1, 2, 0] dX2_endsWell_14 (by decide) rfl rfl ?_
  refine m_aload_n hC dX2_endsWell_15 0 rfl ?_
  refine m_get hC iX2_endsWell_X2 (wc_21 y g S) rfl 5 (by decide) (List.mem_of_getElem? (i := 4) rfl) rfl rfl dX2_endsWell_16 ?_
  refine m_jn (fun J4 => ∀ (x3 : Int32), Sm p l e (headSpec wsX2_endsWell rmX2_endsWell).room s m args below meth c D vwCl (wc y g) (AC g s.heap.size) 4 Q x0 (J4 x3) S 46 [(0, .ref (g 21)), (2, .int x2)] [.int x3]) ?_ (fun J4 hJ4 => ?_)
  · intro x3
    refine m_istore_n hC [(0, .ref (g 21)), (2, .int x2), (3, .int x3)] [1, 2, 0] dX2_endsWell_46 (by decide) rfl rfl ?_
    refine m_iload_n hC dX2_endsWell_47 1 rfl ?_
    refine m_aload_n hC dX2_endsWell_48 0 rfl ?_
    refine m_get hC iX2_endsWell_X2 (wc_21 y g S) rfl 1 (by decide) (List.mem_of_getElem? (i := 6) rfl) rfl rfl dX2_endsWell_49 ?_
    refine m_get hC iX2_endsWell_X3 (wc_12 y g S) rfl 3 (by decide) (List.mem_of_getElem? (i := 7) rfl) rfl rfl dX2_endsWell_52 ?_
    refine m_icmp_gt hC 66 dX2_endsWell_55 (by decide) ?_ ?_
    · refine m_iconst hC (0) dX2_endsWell_66 (by decide) ?_
      exact hret _ _ _ dX2_endsWell_67 rfl
    · refine m_iload_n hC dX2_endsWell_58 2 rfl ?_
      refine m_if_ne hC 66 dX2_endsWell_59 (by decide) ?_ ?_
      · refine m_iconst hC (0) dX2_endsWell_66 (by decide) ?_
        exact hret _ _ _ dX2_endsWell_67 rfl
      · refine m_iconst hC (1) dX2_endsWell_62 (by decide) ?_
        refine m_goto hC 67 dX2_endsWell_63 (by decide) ?_
        exact hret _ _ _ dX2_endsWell_67 rfl
  · refine m_if_le hC 45 dX2_endsWell_19 (by decide) ?_ ?_
    · refine m_iconst hC (0) dX2_endsWell_45 (by decide) ?_
      refine m_lv [(0, .ref (g 21)), (2, .int x2)] [0, 2] rfl ?_
      exact hJ4 _
    · refine m_aload_n hC dX2_endsWell_22 0 rfl ?_
      refine m_get hC iX2_endsWell_X2 (wc_21 y g S) rfl 4 (by decide) (List.mem_of_getElem? (i := 5) rfl) rfl rfl dX2_endsWell_23 ?_
      refine m_aload_n hC dX2_endsWell_26 0 rfl ?_
      refine m_get hC iX2_endsWell_X2 (wc_21 y g S) rfl 5 (by decide) (List.mem_of_getElem? (i := 4) rfl) rfl rfl dX2_endsWell_27 ?_
      refine m_iconst hC (1) dX2_endsWell_30 (by decide) ?_
      refine m_isub hC dX2_endsWell_31 ?_
      refine m_iald hC (wc_23 y g S) (t0 := 0) rfl dX2_endsWell_32 ?_
      intro x5
      refine m_iload_n hC dX2_endsWell_33 2 rfl ?_
      refine m_ishr hC dX2_endsWell_34 ?_
      refine m_iconst hC (1) dX2_endsWell_35 (by decide) ?_
      refine m_iand hC dX2_endsWell_36 ?_
      refine m_iconst hC (1) dX2_endsWell_37 (by decide) ?_
      refine m_icmp_ne hC 45 dX2_endsWell_38 (by decide) ?_ ?_
      · refine m_iconst hC (0) dX2_endsWell_45 (by decide) ?_
        refine m_lv [(0, .ref (g 21)), (2, .int x2)] [0, 2] rfl ?_
        exact hJ4 _
      · refine m_iconst hC (1) dX2_endsWell_41 (by decide) ?_
        refine m_goto hC 46 dX2_endsWell_42 (by decide) ?_
        refine m_lv [(0, .ref (g 21)), (2, .int x2)] [0, 2] rfl ?_
        exact hJ4 _
def fX2_nextToTry_L2 (S : St) (r2 : Int32 → Option (Int32)) : Int32 → Option (Int32) := fun x1 =>
  if x1 < (S.1 1 5) then
    ldI 8 (S.1 22) x1 fun x3 =>
    if x3 ≤ 0 then
      nmI (x1 + 1) fun x4 =>
      r2 x4
    else
      ldI 8 (S.1 3) x1 fun x5 =>
      caP (fX3_width (S.1 21 5) S) fun x6 =>
      if x5 ≤ (x6 + 1) then
        caP (fX2_endsWell x1 S) fun x8 =>
        if x8 = 0 then
          nmI (x1 + 1) fun x9 =>
          r2 x9
        else
          some x1
      else
        nmI (x1 + 1) fun x7 =>
        r2 x7
  else
    some (-1)
def fX2_nextToTry (N : Nat) (a : Int32) (S : St) : Option (Int32) :=
  itN (fun _ => none) (fX2_nextToTry_L2 S) N a
abbrev rmX2_nextToTry : Room := { frames := 2, cells := 0, slots := 0, locals := 42 }
theorem iX2_nextToTry_X2 : ∀ w ∈ wsX20, w ∈ wsX2_nextToTry := fun w h => List.mem_cons_of_mem _ (List.mem_append_left _ (List.mem_append_left _ (List.mem_append_right _ h)))
theorem iX2_nextToTry_X4 : ∀ w ∈ wsX40, w ∈ wsX2_nextToTry := fun w h => List.mem_cons_of_mem _ (List.mem_append_left _ (List.mem_append_right _ h))
theorem iX2_nextToTry_X3 : ∀ w ∈ wsX30, w ∈ wsX2_nextToTry := fun w h => List.mem_cons_of_mem _ (List.mem_append_right _ h)
set_option maxHeartbeats 4000000 in
set_option maxRecDepth 100000 in
theorem kX2_nextToTry (l : Launch) (D : va_G) (y : Cy) (g : Nat → Nat) (N : Nat) (a : Int32) (S : St) (x0 : Int32) (h : fX2_nextToTry N a S = some x0) : KI l yX2_nextToTry wsX2_nextToTry rmX2_nextToTry D vwCl (tz y) (wc y g) (AC g) [.ref (g 21), .int a] S (fun r S2 => r = x0 ∧ S2 = S) := by
  refine m_entryIP (wc_ok y g) (by decide) rfl (Nat.le_of_ble_eq_true rfl) (lv := [(0, .ref (g 21)), (1, .int a)]) rfl h ?_
  intro p e s m args below meth c hC hr hlocks
  obtain ⟨Q, hQ⟩ : ∃ Q, Q = (MQ below (va_Qi (fun r S2 => r = x0 ∧ S2 = S) (Bw D vwCl (tz y) (wc y g) (AC g s.heap.size)) (AC g s.heap.size)) args s 0 0 (AC g s.heap.size)) := ⟨_, rfl⟩
  rw [← hQ]
  have hret : ∀ (v : Int32) (pc : Nat) (lv : List (Nat × Value)), decode cX2_nextToTry pc = .ok (.ireturn, 1) → Sm p l e (headSpec wsX2_nextToTry rmX2_nextToTry).room s m args below meth c D vwCl (wc y g) (AC g s.heap.size) 3 Q x0 (some v) S pc lv [.int v] := by
    rw [hQ]
    exact fun v pc lv hd => m_iretP hC hr hlocks hd
  clear hQ
  unfold fX2_nextToTry
  refine m_iload_n hC dX2_nextToTry_0 1 rfl ?_
  refine m_istore_n hC [(0, .ref (g 21)), (1, .int a), (2, .int a)] [1, 2, 0] dX2_nextToTry_1 (by decide) rfl rfl ?_
  refine m_lv [(0, .ref (g 21)), (2, .int a)] [0, 2] rfl ?_
  refine (m_it (z := (fun _ => none)) (F := fX2_nextToTry_L2 S) N (fun r2 => ∀ (x1 : Int32), Sm p l e (headSpec wsX2_nextToTry rmX2_nextToTry).room s m args below meth c D vwCl (wc y g) (AC g s.heap.size) 3 Q x0 (r2 x1) S 2 [(0, .ref (g 21)), (2, .int x1)] []) ?_ ?_) a
  · exact fun _ => m_none
  · intro r2 hr2 x1
    unfold fX2_nextToTry_L2
    refine m_iload_n hC dX2_nextToTry_2 1 rfl ?_
    refine m_aload_n hC dX2_nextToTry_3 0 rfl ?_
    refine m_get hC iX2_nextToTry_X2 (wc_21 y g S) rfl 0 (by decide) (List.mem_of_getElem? (i := 1) rfl) rfl rfl dX2_nextToTry_4 ?_
    refine m_get hC iX2_nextToTry_X4 (wc_1 y g S) rfl 5 (by decide) (List.mem_of_getElem? (i := 2) rfl) rfl rfl dX2_nextToTry_7 ?_
    refine m_icmp_ge hC 63 dX2_nextToTry_10 (by decide) ?_ ?_
    · refine m_iconst hC (-1) dX2_nextToTry_63 (by decide) ?_
      exact hret _ _ _ dX2_nextToTry_64
    · refine m_aload_n hC dX2_nextToTry_13 0 rfl ?_
      refine m_get hC iX2_nextToTry_X2 (wc_21 y g S) rfl 3 (by decide) (List.mem_of_getElem? (i := 3) rfl) rfl rfl dX2_nextToTry_14 ?_
      refine m_iload_n hC dX2_nextToTry_17 1 rfl ?_
      refine m_iald hC (wc_22 y g S) (t0 := 0) rfl dX2_nextToTry_18 ?_
      intro x3
      refine m_if_le hC 57 dX2_nextToTry_19 (by decide) ?_ ?_
      · refine m_iinc hC (fun x4 => [(0, .ref (g 21)), (2, .int x4)]) [1, 0] dX2_nextToTry_57 (j := 1) rfl (by decide) (by decide) (fun _ => rfl) (fun _ => rfl) ?_
        intro x4
        refine m_goto hC 2 dX2_nextToTry_60 (by decide) ?_
        exact hr2 _
      · refine m_aload_n hC dX2_nextToTry_22 0 rfl ?_
        refine m_get hC iX2_nextToTry_X2 (wc_21 y g S) rfl 0 (by decide) (List.mem_of_getElem? (i := 1) rfl) rfl rfl dX2_nextToTry_23 ?_
        refine m_get hC iX2_nextToTry_X4 (wc_1 y g S) rfl 1 (by decide) (List.mem_of_getElem? (i := 4) rfl) rfl rfl dX2_nextToTry_26 ?_
        refine m_iload_n hC dX2_nextToTry_29 1 rfl ?_
        refine m_iald hC (wc_3 y g S) (t0 := 0) rfl dX2_nextToTry_30 ?_
        intro x5
        refine m_aload_n hC dX2_nextToTry_31 0 rfl ?_
        refine m_get hC iX2_nextToTry_X2 (wc_21 y g S) rfl 1 (by decide) (List.mem_of_getElem? (i := 5) rfl) rfl rfl dX2_nextToTry_32 ?_
        refine m_aload_n hC dX2_nextToTry_35 0 rfl ?_
        refine m_get hC iX2_nextToTry_X2 (wc_21 y g S) rfl 5 (by decide) (List.mem_of_getElem? (i := 6) rfl) rfl rfl dX2_nextToTry_36 ?_
        refine m_cIPV hC (As := [.int (S.1 21 5)]) (wc_ok y g) (cwV 1 hC.1.2.2.2.2 gX2_nextToTry_X3_width rfl rfl rfl (by decide +kernel) ⟨Nat.le_of_ble_eq_true rfl, Nat.le_of_ble_eq_true rfl⟩) (wc_12 y g S) rfl (fun xq hq => kX3_width l D y g (S.1 21 5) S xq hq) rfl (Nat.le_of_ble_eq_true rfl) dX2_nextToTry_39 ?_
        intro x6
        refine m_iconst hC (1) dX2_nextToTry_42 (by decide) ?_
        refine m_iadd hC dX2_nextToTry_43 ?_
        refine m_icmp_gt hC 57 dX2_nextToTry_44 (by decide) ?_ ?_
        · refine m_iinc hC (fun x7 => [(0, .ref (g 21)), (2, .int x7)]) [1, 0] dX2_nextToTry_57 (j := 1) rfl (by decide) (by decide) (fun _ => rfl) (fun _ => rfl) ?_
          intro x7
          refine m_goto hC 2 dX2_nextToTry_60 (by decide) ?_
          exact hr2 _
        · refine m_aload_n hC dX2_nextToTry_47 0 rfl ?_
          refine m_iload_n hC dX2_nextToTry_48 1 rfl ?_
          refine m_cIPV hC (As := [.int x1]) (wc_ok y g) (cwV 1 hC.1.2.2.2.2 gX2_nextToTry_X2_endsWell rfl rfl rfl (by decide +kernel) ⟨Nat.le_of_ble_eq_true rfl, Nat.le_of_ble_eq_true rfl⟩) (wc_21 y g S) rfl (fun xq hq => kX2_endsWell l D y g x1 S xq hq) rfl (Nat.le_of_ble_eq_true rfl) dX2_nextToTry_49 ?_
          intro x8
          refine m_if_eq hC 57 dX2_nextToTry_52 (by decide) ?_ ?_
          · refine m_iinc hC (fun x9 => [(0, .ref (g 21)), (2, .int x9)]) [1, 0] dX2_nextToTry_57 (j := 1) rfl (by decide) (by decide) (fun _ => rfl) (fun _ => rfl) ?_
            intro x9
            refine m_goto hC 2 dX2_nextToTry_60 (by decide) ?_
            exact hr2 _
          · refine m_iload_n hC dX2_nextToTry_55 1 rfl ?_
            exact hret _ _ _ dX2_nextToTry_56
def fX2_jointAt (a : Int32) (S : St) : Option (Int32) :=
  if a < (S.1 12 3) then
    some (1 <<< (a &&& 31))
  else
    some 0
abbrev rmX2_jointAt : Room := { frames := 0, cells := 0, slots := 0, locals := 0 }
theorem iX2_jointAt_X2 : ∀ w ∈ wsX20, w ∈ wsX2_jointAt := fun w h => List.mem_cons_of_mem _ (List.mem_append_left _ (List.mem_append_right _ h))
theorem iX2_jointAt_X3 : ∀ w ∈ wsX30, w ∈ wsX2_jointAt := fun w h => List.mem_cons_of_mem _ (List.mem_append_right _ h)
set_option maxHeartbeats 4000000 in
set_option maxRecDepth 100000 in
theorem kX2_jointAt (l : Launch) (D : va_G) (y : Cy) (g : Nat → Nat) (a : Int32) (S : St) (x0 : Int32) (h : fX2_jointAt a S = some x0) : KI l yX2_jointAt wsX2_jointAt rmX2_jointAt D vwCl (tz y) (wc y g) (AC g) [.ref (g 21), .int a] S (fun r S2 => r = x0 ∧ S2 = S) := by
  refine m_entryIP (wc_ok y g) (by decide) rfl (Nat.le_of_ble_eq_true rfl) (lv := [(0, .ref (g 21)), (1, .int a)]) rfl h ?_
  intro p e s m args below meth c hC hr hlocks
  obtain ⟨Q, hQ⟩ : ∃ Q, Q = (MQ below (va_Qi (fun r S2 => r = x0 ∧ S2 = S) (Bw D vwCl (tz y) (wc y g) (AC g s.heap.size)) (AC g s.heap.size)) args s 0 0 (AC g s.heap.size)) := ⟨_, rfl⟩
  rw [← hQ]
  have hret : ∀ (v : Int32) (pc : Nat) (lv : List (Nat × Value)), decode cX2_jointAt pc = .ok (.ireturn, 1) → Sm p l e (headSpec wsX2_jointAt rmX2_jointAt).room s m args below meth c D vwCl (wc y g) (AC g s.heap.size) 2 Q x0 (some v) S pc lv [.int v] := by
    rw [hQ]
    exact fun v pc lv hd => m_iretP hC hr hlocks hd
  clear hQ
  unfold fX2_jointAt
  refine m_iload_n hC dX2_jointAt_0 1 rfl ?_
  refine m_aload_n hC dX2_jointAt_1 0 rfl ?_
  refine m_get hC iX2_jointAt_X2 (wc_21 y g S) rfl 1 (by decide) (List.mem_of_getElem? (i := 1) rfl) rfl rfl dX2_jointAt_2 ?_
  refine m_get hC iX2_jointAt_X3 (wc_12 y g S) rfl 3 (by decide) (List.mem_of_getElem? (i := 2) rfl) rfl rfl dX2_jointAt_5 ?_
  refine m_icmp_ge hC 17 dX2_jointAt_8 (by decide) ?_ ?_
  · refine m_iconst hC (0) dX2_jointAt_17 (by decide) ?_
    exact hret _ _ _ dX2_jointAt_18
  · refine m_iconst hC (1) dX2_jointAt_11 (by decide) ?_
    refine m_iload_n hC dX2_jointAt_12 1 rfl ?_
    refine m_ishl hC dX2_jointAt_13 ?_
    refine m_goto hC 18 dX2_jointAt_14 (by decide) ?_
    exact hret _ _ _ dX2_jointAt_18
def fX2_takeUp (S : St) : Option (Int32 × St) :=
  nmI ((S.1 13 9) - 1) fun x1 =>
  ldI 144 (S.1 14) x1 fun x2 =>
  ldI 144 (S.1 15) x1 fun x3 =>
  pfI S 21 5 x3 fun S4 =>
  ldI 144 (S4.1 16) x1 fun x5 =>
  pfI S4 21 6 x5 fun S6 =>
  ldI 6 (S6.1 23) (S6.1 21 5) fun x7 =>
  caP (fX1_end x1 S6) fun x8 =>
  caP (fX2_jointAt x8 S6) fun x9 =>
  stI S6 23 6 (S6.1 21 5) (x7 ^^^ x9) fun S10 =>
  ldI 8 (S10.1 22) x2 fun x11 =>
  stI S10 22 8 x2 (x11 + 1) fun S12 =>
  pfI S12 13 9 x1 fun S13 =>
  some (x2, S13)
abbrev rmX2_takeUp : Room := { frames := 1, cells := 0, slots := 0, locals := 21 }
theorem iX2_takeUp_X2 : ∀ w ∈ wsX20, w ∈ wsX2_takeUp := fun w h => List.mem_cons_of_mem _ (List.mem_append_left _ (List.mem_append_left _ (List.mem_append_left _ (List.mem_append_right _ h))))
theorem iX2_takeUp_X1 : ∀ w ∈ wsX10, w ∈ wsX2_takeUp := fun w h => List.mem_cons_of_mem _ (List.mem_append_left _ (List.mem_append_left _ (List.mem_append_right _ h)))
theorem iX2_takeUp_X4 : ∀ w ∈ wsX40, w ∈ wsX2_takeUp := fun w h => List.mem_cons_of_mem _ (List.mem_append_left _ (List.mem_append_right _ h))
theorem iX2_takeUp_X3 : ∀ w ∈ wsX30, w ∈ wsX2_takeUp := fun w h => List.mem_cons_of_mem _ (List.mem_append_right _ h)
set_option maxHeartbeats 4000000 in
set_option maxRecDepth 100000 in
theorem kX2_takeUp (l : Launch) (D : va_G) (y : Cy) (g : Nat → Nat) (S : St) (x0 : Int32 × St) (h : fX2_takeUp S = some x0) : KI l yX2_takeUp wsX2_takeUp rmX2_takeUp D vwCl (tz y) (wc y g) (AC g) [.ref (g 21)] S (fun r S2 => (r, S2) = x0) := by
  refine m_entryI (wc_ok y g) (by decide) rfl (Nat.le_of_ble_eq_true rfl) (lv := [(0, .ref (g 21))]) rfl h ?_
  intro p e s m args below meth c hC hr hlocks
  obtain ⟨Q, hQ⟩ : ∃ Q, Q = (MQ below (va_Qi (fun r S2 => (r, S2) = x0) (Bw D vwCl (tz y) (wc y g) (AC g s.heap.size)) (AC g s.heap.size)) args s 0 0 (AC g s.heap.size)) := ⟨_, rfl⟩
  rw [← hQ]
  have hret : ∀ (v : Int32) (S2 : St) (pc : Nat) (lv : List (Nat × Value)), decode cX2_takeUp pc = .ok (.ireturn, 1) → Sm p l e (headSpec wsX2_takeUp rmX2_takeUp).room s m args below meth c D vwCl (wc y g) (AC g s.heap.size) 3 Q x0 (some (v, S2)) S2 pc lv [.int v] := by
    rw [hQ]
    exact fun v S2 pc lv hd => m_iret hC hr hlocks hd
  clear hQ
  unfold fX2_takeUp
  refine m_aload_n hC dX2_takeUp_0 0 rfl ?_
  refine m_get hC iX2_takeUp_X2 (wc_21 y g S) rfl 2 (by decide) (List.mem_of_getElem? (i := 1) rfl) rfl rfl dX2_takeUp_1 ?_
  refine m_get hC iX2_takeUp_X1 (wc_13 y g S) rfl 9 (by decide) (List.mem_of_getElem? (i := 2) rfl) rfl rfl dX2_takeUp_4 ?_
  refine m_iconst hC (1) dX2_takeUp_7 (by decide) ?_
  refine m_isub hC dX2_takeUp_8 ?_
  refine m_nmI ?_
  intro x1
  refine m_istore_n hC [(0, .ref (g 21)), (1, .int x1)] [1, 0] dX2_takeUp_9 (by decide) rfl rfl ?_
  refine m_aload_n hC dX2_takeUp_10 0 rfl ?_
  refine m_get hC iX2_takeUp_X2 (wc_21 y g S) rfl 2 (by decide) (List.mem_of_getElem? (i := 1) rfl) rfl rfl dX2_takeUp_11 ?_
  refine m_get hC iX2_takeUp_X1 (wc_13 y g S) rfl 2 (by decide) (List.mem_of_getElem? (i := 3) rfl) rfl rfl dX2_takeUp_14 ?_
  refine m_iload_n hC dX2_takeUp_17 1 rfl ?_
  refine m_iald hC (wc_14 y g S) (t0 := 0) rfl dX2_takeUp_18 ?_
  intro x2
  refine m_istore_n hC [(0, .ref (g 21)), (1, .int x1), (2, .int x2)] [1, 2, 0] dX2_takeUp_19 (by decide) rfl rfl ?_
  refine m_aload_n hC dX2_takeUp_20 0 rfl ?_
  refine m_aload_n hC dX2_takeUp_21 0 rfl ?_
  refine m_get hC iX2_takeUp_X2 (wc_21 y g S) rfl 2 (by decide) (List.mem_of_getElem? (i := 1) rfl) rfl rfl dX2_takeUp_22 ?_
  refine m_get hC iX2_takeUp_X1 (wc_13 y g S) rfl 3 (by decide) (List.mem_of_getElem? (i := 4) rfl) rfl rfl dX2_takeUp_25 ?_
  refine m_iload_n hC dX2_takeUp_28 1 rfl ?_
  refine m_iald hC (wc_15 y g S) (t0 := 0) rfl dX2_takeUp_29 ?_
  intro x3
  refine m_putI (ty := .int) hC iX2_takeUp_X2 tyX2 tyX2_ok nmX2 (wc_21 y g S) rfl 5 (by decide) (List.mem_of_getElem? (i := 5) rfl) rfl rfl (by decide +kernel) rfl rfl (Nat.le_of_ble_eq_true rfl) dX2_takeUp_30 (wcf_21_5 y g S _) ?_
  intro S4
  refine m_aload_n hC dX2_takeUp_33 0 rfl ?_
  refine m_aload_n hC dX2_takeUp_34 0 rfl ?_
  refine m_get hC iX2_takeUp_X2 (wc_21 y g S4) rfl 2 (by decide) (List.mem_of_getElem? (i := 1) rfl) rfl rfl dX2_takeUp_35 ?_
  refine m_get hC iX2_takeUp_X1 (wc_13 y g S4) rfl 4 (by decide) (List.mem_of_getElem? (i := 6) rfl) rfl rfl dX2_takeUp_38 ?_
  refine m_iload_n hC dX2_takeUp_41 1 rfl ?_
  refine m_iald hC (wc_16 y g S4) (t0 := 0) rfl dX2_takeUp_42 ?_
  intro x5
  refine m_putI (ty := .int) hC iX2_takeUp_X2 tyX2 tyX2_ok nmX2 (wc_21 y g S4) rfl 6 (by decide) (List.mem_of_getElem? (i := 7) rfl) rfl rfl (by decide +kernel) rfl rfl (Nat.le_of_ble_eq_true rfl) dX2_takeUp_43 (wcf_21_6 y g S4 _) ?_
  intro S6
  refine m_aload_n hC dX2_takeUp_46 0 rfl ?_
  refine m_get hC iX2_takeUp_X2 (wc_21 y g S6) rfl 4 (by decide) (List.mem_of_getElem? (i := 8) rfl) rfl rfl dX2_takeUp_47 ?_
  refine m_aload_n hC dX2_takeUp_50 0 rfl ?_
  refine m_get hC iX2_takeUp_X2 (wc_21 y g S6) rfl 5 (by decide) (List.mem_of_getElem? (i := 5) rfl) rfl rfl dX2_takeUp_51 ?_
  refine m_dup2 hC dX2_takeUp_54 rfl rfl ?_
  refine m_iald hC (wc_23 y g S6) (t0 := 0) rfl dX2_takeUp_55 ?_
  intro x7
  refine m_aload_n hC dX2_takeUp_56 0 rfl ?_
  refine m_aload_n hC dX2_takeUp_57 0 rfl ?_
  refine m_get hC iX2_takeUp_X2 (wc_21 y g S6) rfl 2 (by decide) (List.mem_of_getElem? (i := 1) rfl) rfl rfl dX2_takeUp_58 ?_
  refine m_iload_n hC dX2_takeUp_61 1 rfl ?_
  refine m_cIPV hC (As := [.int x1]) (wc_ok y g) (cwV 1 hC.1.2.2.2.2 gX2_takeUp_X1_end rfl rfl rfl (by decide +kernel) ⟨Nat.le_of_ble_eq_true rfl, Nat.le_of_ble_eq_true rfl⟩) (wc_13 y g S6) rfl (fun xq hq => kX1_end l D y g x1 S6 xq hq) rfl (Nat.le_of_ble_eq_true rfl) dX2_takeUp_62 ?_
  intro x8
  refine m_cIPV hC (As := [.int x8]) (wc_ok y g) (cwV 1 hC.1.2.2.2.2 gX2_takeUp_X2_jointAt rfl rfl rfl (by decide +kernel) ⟨Nat.le_of_ble_eq_true rfl, Nat.le_of_ble_eq_true rfl⟩) (wc_21 y g S6) rfl (fun xq hq => kX2_jointAt l D y g x8 S6 xq hq) rfl (Nat.le_of_ble_eq_true rfl) dX2_takeUp_65 ?_
  intro x9
  refine m_ixor hC dX2_takeUp_68 ?_
  refine m_iast hC (wc_23 y g S6) (t0 := 0) rfl (wcs_23 y g S6) dX2_takeUp_69 ?_
  intro S10
  refine m_aload_n hC dX2_takeUp_70 0 rfl ?_
  refine m_get hC iX2_takeUp_X2 (wc_21 y g S10) rfl 3 (by decide) (List.mem_of_getElem? (i := 9) rfl) rfl rfl dX2_takeUp_71 ?_
  refine m_iload_n hC dX2_takeUp_74 2 rfl ?_
  refine m_dup2 hC dX2_takeUp_75 rfl rfl ?_
  refine m_iald hC (wc_22 y g S10) (t0 := 0) rfl dX2_takeUp_76 ?_
  intro x11
  refine m_iconst hC (1) dX2_takeUp_77 (by decide) ?_
  refine m_iadd hC dX2_takeUp_78 ?_
  refine m_iast hC (wc_22 y g S10) (t0 := 0) rfl (wcs_22 y g S10) dX2_takeUp_79 ?_
  intro S12
  refine m_aload_n hC dX2_takeUp_80 0 rfl ?_
  refine m_get hC iX2_takeUp_X2 (wc_21 y g S12) rfl 2 (by decide) (List.mem_of_getElem? (i := 1) rfl) rfl rfl dX2_takeUp_81 ?_
  refine m_iload_n hC dX2_takeUp_84 1 rfl ?_
  refine m_putI (ty := .int) hC iX2_takeUp_X1 tyX1 tyX1_ok nmX1 (wc_13 y g S12) rfl 9 (by decide) (List.mem_of_getElem? (i := 2) rfl) rfl rfl (by decide +kernel) rfl rfl (Nat.le_of_ble_eq_true rfl) dX2_takeUp_85 (wcf_13_9 y g S12 _) ?_
  intro S13
  refine m_iload_n hC dX2_takeUp_88 2 rfl ?_
  exact hret _ _ _ _ dX2_takeUp_89
def fX2_lay (a : Int32) (S : St) : Option (St) :=
  caV (fX1_add a (S.1 21 5) (S.1 21 6) S) fun S1 =>
  ldI 8 (S1.1 22) a fun x2 =>
  stI S1 22 8 a (x2 - 1) fun S3 =>
  ldI 8 (S3.1 2) a fun x4 =>
  pfI S3 21 6 ((S3.1 21 6) + x4) fun S5 =>
  ldI 6 (S5.1 23) (S5.1 21 5) fun x6 =>
  caP (fX2_jointAt (S5.1 21 6) S5) fun x7 =>
  stI S5 23 6 (S5.1 21 5) (x6 ^^^ x7) fun S8 =>
  some S8
abbrev rmX2_lay : Room := { frames := 1, cells := 0, slots := 0, locals := 23 }
theorem iX2_lay_X2 : ∀ w ∈ wsX20, w ∈ wsX2_lay := fun w h => List.mem_cons_of_mem _ (List.mem_append_left _ (List.mem_append_left _ (List.mem_append_left _ (List.mem_append_right _ h))))
theorem iX2_lay_X4 : ∀ w ∈ wsX40, w ∈ wsX2_lay := fun w h => List.mem_cons_of_mem _ (List.mem_append_left _ (List.mem_append_left _ (List.mem_append_right _ h)))
theorem iX2_lay_X1 : ∀ w ∈ wsX10, w ∈ wsX2_lay := fun w h => List.mem_cons_of_mem _ (List.mem_append_left _ (List.mem_append_right _ h))
theorem iX2_lay_X3 : ∀ w ∈ wsX30, w ∈ wsX2_lay := fun w h => List.mem_cons_of_mem _ (List.mem_append_right _ h)
set_option maxHeartbeats 4000000 in
set_option maxRecDepth 100000 in
theorem kX2_lay (l : Launch) (D : va_G) (y : Cy) (g : Nat → Nat) (a : Int32) (S : St) (x0 : St) (h : fX2_lay a S = some x0) : KV l yX2_lay wsX2_lay rmX2_lay D vwCl (tz y) (wc y g) (AC g) [.ref (g 21), .int a] S (fun S2 => S2 = x0) := by
  refine m_entryV (wc_ok y g) (by decide) rfl (Nat.le_of_ble_eq_true rfl) (lv := [(0, .ref (g 21)), (1, .int a)]) rfl h ?_
  intro p e s m args below meth c hC hr hlocks
  obtain ⟨Q, hQ⟩ : ∃ Q, Q = (MQ below (va_Qv (fun S2 => S2 = x0) (Bw D vwCl (tz y) (wc y g) (AC g s.heap.size)) (AC g s.heap.size)) args s 0 0 (AC g s.heap.size)) := ⟨_, rfl⟩
  rw [← hQ]
  have hret : ∀ (S2 : St) (pc : Nat) (lv : List (Nat × Value)), decode cX2_lay pc = .ok (.return_, 1) → Sm p l e (headSpec wsX2_lay rmX2_lay).room s m args below meth c D vwCl (wc y g) (AC g s.heap.size) 2 Q x0 (some S2) S2 pc lv [] := by
    rw [hQ]
    exact fun S2 pc lv hd => m_vret hC hr hlocks hd
  clear hQ
  unfold fX2_lay
  refine m_aload_n hC dX2_lay_0 0 rfl ?_
  refine m_get hC iX2_lay_X2 (wc_21 y g S) rfl 2 (by decide) (List.mem_of_getElem? (i := 1) rfl) rfl rfl dX2_lay_1 ?_
  refine m_iload_n hC dX2_lay_4 1 rfl ?_
  refine m_aload_n hC dX2_lay_5 0 rfl ?_
  refine m_get hC iX2_lay_X2 (wc_21 y g S) rfl 5 (by decide) (List.mem_of_getElem? (i := 2) rfl) rfl rfl dX2_lay_6 ?_
  refine m_aload_n hC dX2_lay_9 0 rfl ?_
  refine m_get hC iX2_lay_X2 (wc_21 y g S) rfl 6 (by decide) (List.mem_of_getElem? (i := 3) rfl) rfl rfl dX2_lay_10 ?_
  refine m_cVV hC (As := [.int a, .int (S.1 21 5), .int (S.1 21 6)]) (wc_ok y g) (cwV 3 hC.1.2.2.2.2 gX2_lay_X1_add rfl rfl rfl (by decide +kernel) ⟨Nat.le_of_ble_eq_true rfl, Nat.le_of_ble_eq_true rfl⟩) (wc_13 y g S) rfl (fun xq hq => kX1_add l D y g a (S.1 21 5) (S.1 21 6) S xq hq) rfl (Nat.le_of_ble_eq_true rfl) dX2_lay_13 ?_
  intro S1
  refine m_aload_n hC dX2_lay_16 0 rfl ?_
  refine m_get hC iX2_lay_X2 (wc_21 y g S1) rfl 3 (by decide) (List.mem_of_getElem? (i := 4) rfl) rfl rfl dX2_lay_17 ?_
  refine m_iload_n hC dX2_lay_20 1 rfl ?_
  refine m_dup2 hC dX2_lay_21 rfl rfl ?_
  refine m_iald hC (wc_22 y g S1) (t0 := 0) rfl dX2_lay_22 ?_
  intro x2
  refine m_iconst hC (1) dX2_lay_23 (by decide) ?_
  refine m_isub hC dX2_lay_24 ?_
  refine m_iast hC (wc_22 y g S1) (t0 := 0) rfl (wcs_22 y g S1) dX2_lay_25 ?_
  intro S3
  refine m_aload_n hC dX2_lay_26 0 rfl ?_
  refine m_dup hC dX2_lay_27 rfl ?_
  refine m_get hC iX2_lay_X2 (wc_21 y g S3) rfl 6 (by decide) (List.mem_of_getElem? (i := 3) rfl) rfl rfl dX2_lay_28 ?_
  refine m_aload_n hC dX2_lay_31 0 rfl ?_
  refine m_get hC iX2_lay_X2 (wc_21 y g S3) rfl 0 (by decide) (List.mem_of_getElem? (i := 5) rfl) rfl rfl dX2_lay_32 ?_
  refine m_get hC iX2_lay_X4 (wc_1 y g S3) rfl 0 (by decide) (List.mem_of_getElem? (i := 6) rfl) rfl rfl dX2_lay_35 ?_
  refine m_iload_n hC dX2_lay_38 1 rfl ?_
  refine m_iald hC (wc_2 y g S3) (t0 := 0) rfl dX2_lay_39 ?_
  intro x4
  refine m_iadd hC dX2_lay_40 ?_
  refine m_putI (ty := .int) hC iX2_lay_X2 tyX2 tyX2_ok nmX2 (wc_21 y g S3) rfl 6 (by decide) (List.mem_of_getElem? (i := 3) rfl) rfl rfl (by decide +kernel) rfl rfl (Nat.le_of_ble_eq_true rfl) dX2_lay_41 (wcf_21_6 y g S3 _) ?_
  intro S5
  refine m_aload_n hC dX2_lay_44 0 rfl ?_
  refine m_get hC iX2_lay_X2 (wc_21 y g S5) rfl 4 (by decide) (List.mem_of_getElem? (i := 7) rfl) rfl rfl dX2_lay_45 ?_
  refine m_aload_n hC dX2_lay_48 0 rfl ?_
  refine m_get hC iX2_lay_X2 (wc_21 y g S5) rfl 5 (by decide) (List.mem_of_getElem? (i := 2) rfl) rfl rfl dX2_lay_49 ?_
  refine m_dup2 hC dX2_lay_52 rfl rfl ?_
  refine m_iald hC (wc_23 y g S5) (t0 := 0) rfl dX2_lay_53 ?_
  intro x6
  refine m_aload_n hC dX2_lay_54 0 rfl ?_
  refine m_aload_n hC dX2_lay_55 0 rfl ?_
  refine m_get hC iX2_lay_X2 (wc_21 y g S5) rfl 6 (by decide) (List.mem_of_getElem? (i := 3) rfl) rfl rfl dX2_lay_56 ?_
  refine m_cIPV hC (As := [.int (S5.1 21 6)]) (wc_ok y g) (cwV 1 hC.1.2.2.2.2 gX2_lay_X2_jointAt rfl rfl rfl (by decide +kernel) ⟨Nat.le_of_ble_eq_true rfl, Nat.le_of_ble_eq_true rfl⟩) (wc_21 y g S5) rfl (fun xq hq => kX2_jointAt l D y g (S5.1 21 6) S5 xq hq) rfl (Nat.le_of_ble_eq_true rfl) dX2_lay_59 ?_
  intro x7
  refine m_ixor hC dX2_lay_62 ?_
  refine m_iast hC (wc_23 y g S5) (t0 := 0) rfl (wcs_23 y g S5) dX2_lay_63 ?_
  intro S8
  exact hret _ _ _ dX2_lay_64
def fX2_hasThroughsAsked_L12 (S : St) (K5 : Int32 → Option (Int32)) (r4 : Int32 → Int32 → Option (Int32)) : Int32 → Int32 → Option (Int32) := fun x2 x3 =>
  if x3 < 0 then
    K5 x2
  else
    ldI 144 (S.1 15) x3 fun x8 =>
    if x8 = (S.1 21 5) then
      caP (fX1_isThroughStone x3 S) fun x9 =>
      if x9 = 0 then
        nmI (x2 + 0) fun x10 =>
        nmI (x3 + (-1)) fun x11 =>
        r4 x10 x11
      else
        nmI (x2 + 1) fun x12 =>
        nmI (x3 + (-1)) fun x13 =>
        r4 x12 x13
    else
      K5 x2
def fX2_hasThroughsAsked (N : Nat) (S : St) : Option (Int32) :=
  nmI ((S.1 13 9) - 1) fun x1 =>
  itN (fun _ _ => none) (fX2_hasThroughsAsked_L12 S (fun (x6 : Int32) =>
      caP (fX3_throughsAsked (S.1 21 5) S) fun x7 =>
      if x6 < x7 then
        some 0
      else
        some 1)) N 0 x1
abbrev rmX2_hasThroughsAsked : Room := { frames := 3, cells := 0, slots := 0, locals := 63 }
theorem iX2_hasThroughsAsked_X2 : ∀ w ∈ wsX20, w ∈ wsX2_hasThroughsAsked := fun w h => List.mem_cons_of_mem _ (List.mem_append_left _ (List.mem_append_left _ (List.mem_append_left _ (List.mem_append_right _ h))))
theorem iX2_hasThroughsAsked_X1 : ∀ w ∈ wsX10, w ∈ wsX2_hasThroughsAsked := fun w h => List.mem_cons_of_mem _ (List.mem_append_left _ (List.mem_append_left _ (List.mem_append_right _ h)))
theorem iX2_hasThroughsAsked_X4 : ∀ w ∈ wsX40, w ∈ wsX2_hasThroughsAsked := fun w h => List.mem_cons_of_mem _ (List.mem_append_left _ (List.mem_append_right _ h))
theorem iX2_hasThroughsAsked_X3 : ∀ w ∈ wsX30, w ∈ wsX2_hasThroughsAsked := fun w h => List.mem_cons_of_mem _ (List.mem_append_right _ h)
set_option maxHeartbeats 4000000 in
set_option maxRecDepth 100000 in
theorem kX2_hasThroughsAsked (l : Launch) (D : va_G) (y : Cy) (g : Nat → Nat) (N : Nat) (S : St) (x0 : Int32) (h : fX2_hasThroughsAsked N S = some x0) : KI l yX2_hasThroughsAsked wsX2_hasThroughsAsked rmX2_hasThroughsAsked D vwCl (tz y) (wc y g) (AC g) [.ref (g 21)] S (fun r S2 => r = x0 ∧ S2 = S) := by
  refine m_entryIP (wc_ok y g) (by decide) rfl (Nat.le_of_ble_eq_true rfl) (lv := [(0, .ref (g 21))]) rfl h ?_
  intro p e s m args below meth c hC hr hlocks
  obtain ⟨Q, hQ⟩ : ∃ Q, Q = (MQ below (va_Qi (fun r S2 => r = x0 ∧ S2 = S) (Bw D vwCl (tz y) (wc y g) (AC g s.heap.size)) (AC g s.heap.size)) args s 0 0 (AC g s.heap.size)) := ⟨_, rfl⟩
  rw [← hQ]
  have hret : ∀ (v : Int32) (pc : Nat) (lv : List (Nat × Value)), decode cX2_hasThroughsAsked pc = .ok (.ireturn, 1) → narrow .boolean (.int v) = .int v → Sm p l e (headSpec wsX2_hasThroughsAsked rmX2_hasThroughsAsked).room s m args below meth c D vwCl (wc y g) (AC g s.heap.size) 3 Q x0 (some v) S pc lv [.int v] := by
    rw [hQ]
    exact fun v pc lv hd hz => m_zretP hC hz hr hlocks hd
  clear hQ
  unfold fX2_hasThroughsAsked
  refine m_iconst hC (0) dX2_hasThroughsAsked_0 (by decide) ?_
  refine m_istore_n hC [(0, .ref (g 21)), (1, .int 0)] [1, 0] dX2_hasThroughsAsked_1 (by decide) rfl rfl ?_
  refine m_aload_n hC dX2_hasThroughsAsked_2 0 rfl ?_
  refine m_get hC iX2_hasThroughsAsked_X2 (wc_21 y g S) rfl 2 (by decide) (List.mem_of_getElem? (i := 1) rfl) rfl rfl dX2_hasThroughsAsked_3 ?_
  refine m_get hC iX2_hasThroughsAsked_X1 (wc_13 y g S) rfl 9 (by decide) (List.mem_of_getElem? (i := 2) rfl) rfl rfl dX2_hasThroughsAsked_6 ?_
  refine m_iconst hC (1) dX2_hasThroughsAsked_9 (by decide) ?_
  refine m_isub hC dX2_hasThroughsAsked_10 ?_
  refine m_nmI ?_
  intro x1
  refine m_istore_n hC [(0, .ref (g 21)), (1, .int 0), (2, .int x1)] [1, 2, 0] dX2_hasThroughsAsked_11 (by decide) rfl rfl ?_
  refine (m_itK (z := (fun _ _ => none)) (F := fX2_hasThroughsAsked_L12 S) N (fun K5 => ∀ (x6 : Int32), Sm p l e (headSpec wsX2_hasThroughsAsked rmX2_hasThroughsAsked).room s m args below meth c D vwCl (wc y g) (AC g s.heap.size) 3 Q x0 (K5 x6) S 57 [(0, .ref (g 21)), (1, .int x6)] []) (fun r4 => ∀ (x2 : Int32) (x3 : Int32), Sm p l e (headSpec wsX2_hasThroughsAsked rmX2_hasThroughsAsked).room s m args below meth c D vwCl (wc y g) (AC g s.heap.size) 3 Q x0 (r4 x2 x3) S 12 [(0, .ref (g 21)), (1, .int x2), (2, .int x3)] []) ?_ ?_ ?_) 0 x1
  · exact fun _ _ => m_none
  · intro x6
    refine m_iload_n hC dX2_hasThroughsAsked_57 1 rfl ?_
    refine m_aload_n hC dX2_hasThroughsAsked_58 0 rfl ?_
    refine m_get hC iX2_hasThroughsAsked_X2 (wc_21 y g S) rfl 1 (by decide) (List.mem_of_getElem? (i := 5) rfl) rfl rfl dX2_hasThroughsAsked_59 ?_
    refine m_aload_n hC dX2_hasThroughsAsked_62 0 rfl ?_
    refine m_get hC iX2_hasThroughsAsked_X2 (wc_21 y g S) rfl 5 (by decide) (List.mem_of_getElem? (i := 4) rfl) rfl rfl dX2_hasThroughsAsked_63 ?_
    refine m_cIPV hC (As := [.int (S.1 21 5)]) (wc_ok y g) (cwV 1 hC.1.2.2.2.2 gX2_hasThroughsAsked_X3_throughsAsked rfl rfl rfl (by decide +kernel) ⟨Nat.le_of_ble_eq_true rfl, Nat.le_of_ble_eq_true rfl⟩) (wc_12 y g S) rfl (fun xq hq => kX3_throughsAsked l D y g (S.1 21 5) S xq hq) rfl (Nat.le_of_ble_eq_true rfl) dX2_hasThroughsAsked_66 ?_
    intro x7
    refine m_icmp_lt hC 76 dX2_hasThroughsAsked_69 (by decide) ?_ ?_
    · refine m_iconst hC (0) dX2_hasThroughsAsked_76 (by decide) ?_
      exact hret _ _ _ dX2_hasThroughsAsked_77 rfl
    · refine m_iconst hC (1) dX2_hasThroughsAsked_72 (by decide) ?_
      refine m_goto hC 77 dX2_hasThroughsAsked_73 (by decide) ?_
      exact hret _ _ _ dX2_hasThroughsAsked_77 rfl
  · intro K5 hK5 r4 hr4 x2 x3
    unfold fX2_hasThroughsAsked_L12
    refine m_iload_n hC dX2_hasThroughsAsked_12 2 rfl ?_
    refine m_if_lt hC 57 dX2_hasThroughsAsked_13 (by decide) ?_ ?_
    · refine m_lv [(0, .ref (g 21)), (1, .int x2)] [0, 1] rfl ?_
      exact hK5 _
    · refine m_aload_n hC dX2_hasThroughsAsked_16 0 rfl ?_
      refine m_get hC iX2_hasThroughsAsked_X2 (wc_21 y g S) rfl 2 (by decide) (List.mem_of_getElem? (i := 1) rfl) rfl rfl dX2_hasThroughsAsked_17 ?_
      refine m_get hC iX2_hasThroughsAsked_X1 (wc_13 y g S) rfl 3 (by decide) (List.mem_of_getElem? (i := 3) rfl) rfl rfl dX2_hasThroughsAsked_20 ?_
      refine m_iload_n hC dX2_hasThroughsAsked_23 2 rfl ?_
      refine m_iald hC (wc_15 y g S) (t0 := 0) rfl dX2_hasThroughsAsked_24 ?_
      intro x8
      refine m_aload_n hC dX2_hasThroughsAsked_25 0 rfl ?_
      refine m_get hC iX2_hasThroughsAsked_X2 (wc_21 y g S) rfl 5 (by decide) (List.mem_of_getElem? (i := 4) rfl) rfl rfl dX2_hasThroughsAsked_26 ?_
      refine m_icmp_ne hC 57 dX2_hasThroughsAsked_29 (by decide) ?_ ?_
      · refine m_lv [(0, .ref (g 21)), (1, .int x2)] [0, 1] rfl ?_
        exact hK5 _
      · refine m_iload_n hC dX2_hasThroughsAsked_32 1 rfl ?_
        refine m_aload_n hC dX2_hasThroughsAsked_33 0 rfl ?_
        refine m_get hC iX2_hasThroughsAsked_X2 (wc_21 y g S) rfl 2 (by decide) (List.mem_of_getElem? (i := 1) rfl) rfl rfl dX2_hasThroughsAsked_34 ?_
        refine m_iload_n hC dX2_hasThroughsAsked_37 2 rfl ?_
        refine m_cIPV hC (As := [.int x3]) (wc_ok y g) (cwV 1 hC.1.2.2.2.2 gX2_hasThroughsAsked_X1_isThroughStone rfl rfl rfl (by decide +kernel) ⟨Nat.le_of_ble_eq_true rfl, Nat.le_of_ble_eq_true rfl⟩) (wc_13 y g S) rfl (fun xq hq => kX1_isThroughStone l D y g x3 S xq hq) rfl (Nat.le_of_ble_eq_true rfl) dX2_hasThroughsAsked_38 ?_
        intro x9
        refine m_if_eq hC 48 dX2_hasThroughsAsked_41 (by decide) ?_ ?_
        · refine m_iconst hC (0) dX2_hasThroughsAsked_48 (by decide) ?_
          refine m_iadd hC dX2_hasThroughsAsked_49 ?_
          refine m_nmI ?_
          intro x10
          refine m_istore_n hC [(0, .ref (g 21)), (1, .int x10), (2, .int x3)] [1, 0, 2] dX2_hasThroughsAsked_50 (by decide) rfl rfl ?_
          refine m_iinc hC (fun x11 => [(0, .ref (g 21)), (1, .int x10), (2, .int x11)]) [1, 2, 0] dX2_hasThroughsAsked_51 (j := 2) rfl (by decide) (by decide) (fun _ => rfl) (fun _ => rfl) ?_
          intro x11
          refine m_goto hC 12 dX2_hasThroughsAsked_54 (by decide) ?_
          exact hr4 _ _
        · refine m_iconst hC (1) dX2_hasThroughsAsked_44 (by decide) ?_
          refine m_goto hC 49 dX2_hasThroughsAsked_45 (by decide) ?_
          refine m_iadd hC dX2_hasThroughsAsked_49 ?_
          refine m_nmI ?_
          intro x12
          refine m_istore_n hC [(0, .ref (g 21)), (1, .int x12), (2, .int x3)] [1, 0, 2] dX2_hasThroughsAsked_50 (by decide) rfl rfl ?_
          refine m_iinc hC (fun x13 => [(0, .ref (g 21)), (1, .int x12), (2, .int x13)]) [1, 2, 0] dX2_hasThroughsAsked_51 (j := 2) rfl (by decide) (by decide) (fun _ => rfl) (fun _ => rfl) ?_
          intro x13
          refine m_goto hC 12 dX2_hasThroughsAsked_54 (by decide) ?_
          exact hr4 _ _
def fX2_firstWhole_L12 (N : Nat) (r6 : Int32 → Int32 → St → Option (Int32 × St)) : Int32 → Int32 → St → Option (Int32 × St) := fun x3 x4 S5 =>
  if x4 < 40002 then
    if x3 = (-1) then
      if (S5.1 13 9) = 0 then
        some (0, S5)
      else
        caS (fX2_takeUp S5) fun x18 S19 =>
        caP (fX2_nextToTry N (x18 + 1) S19) fun x20 =>
        nmI (x4 + 1) fun x21 =>
        r6 x20 x21 S19
    else
      if (S5.1 21 7) < 20000 then
        pfI S5 21 7 ((S5.1 21 7) + 1) fun S7 =>
        caV (fX2_lay x3 S7) fun S8 =>
        if (S8.1 21 6) < (S8.1 12 3) then
          caP (fX2_nextToTry N 0 S8) fun x16 =>
          nmI (x4 + 1) fun x17 =>
          r6 x16 x17 S8
        else
          caP (fX2_hasThroughsAsked N S8) fun x9 =>
          if x9 = 0 then
            nmI (-1) fun x14 =>
            nmI (x4 + 1) fun x15 =>
            r6 x14 x15 S8
          else
            if ((S8.1 21 5) + 1) = (S8.1 12 4) then
              some ((S8.1 13 9), S8)
            else
              pfI S8 21 5 ((S8.1 21 5) + 1) fun S10 =>
              pfI S10 21 6 0 fun S11 =>
              caP (fX2_nextToTry N 0 S11) fun x12 =>
              nmI (x4 + 1) fun x13 =>
              r6 x12 x13 S11
      else
        some ((-2), S5)
  else
    some ((-2), S5)
def fX2_firstWhole (N : Nat) (S : St) : Option (Int32 × St) :=
  caV (fX2_begin N S) fun S1 =>
  caP (fX2_nextToTry N 0 S1) fun x2 =>
  itN (fun _ _ _ => none) (fX2_firstWhole_L12 N) N x2 0 S1
abbrev rmX2_firstWhole : Room := { frames := 4, cells := 0, slots := 0, locals := 85 }
theorem iX2_firstWhole_X2 : ∀ w ∈ wsX20, w ∈ wsX2_firstWhole := fun w h => List.mem_cons_of_mem _ (List.mem_append_left _ (List.mem_append_left _ (List.mem_append_left _ (List.mem_append_right _ h))))
theorem iX2_firstWhole_X1 : ∀ w ∈ wsX10, w ∈ wsX2_firstWhole := fun w h => List.mem_cons_of_mem _ (List.mem_append_left _ (List.mem_append_left _ (List.mem_append_right _ h)))
theorem iX2_firstWhole_X3 : ∀ w ∈ wsX30, w ∈ wsX2_firstWhole := fun w h => List.mem_cons_of_mem _ (List.mem_append_left _ (List.mem_append_right _ h))
theorem iX2_firstWhole_X4 : ∀ w ∈ wsX40, w ∈ wsX2_firstWhole := fun w h => List.mem_cons_of_mem _ (List.mem_append_right _ h)
set_option maxHeartbeats 4000000 in
set_option maxRecDepth 100000 in
theorem kX2_firstWhole (l : Launch) (D : va_G) (y : Cy) (g : Nat → Nat) (N : Nat) (S : St) (x0 : Int32 × St) (h : fX2_firstWhole N S = some x0) : KI l yX2_firstWhole wsX2_firstWhole rmX2_firstWhole D vwCl (tz y) (wc y g) (AC g) [.ref (g 21)] S (fun r S2 => (r, S2) = x0) := by
  refine m_entryI (wc_ok y g) (by decide) rfl (Nat.le_of_ble_eq_true rfl) (lv := [(0, .ref (g 21))]) rfl h ?_
  intro p e s m args below meth c hC hr hlocks
  obtain ⟨Q, hQ⟩ : ∃ Q, Q = (MQ below (va_Qi (fun r S2 => (r, S2) = x0) (Bw D vwCl (tz y) (wc y g) (AC g s.heap.size)) (AC g s.heap.size)) args s 0 0 (AC g s.heap.size)) := ⟨_, rfl⟩
  rw [← hQ]
  have hret : ∀ (v : Int32) (S2 : St) (pc : Nat) (lv : List (Nat × Value)), decode cX2_firstWhole pc = .ok (.ireturn, 1) → Sm p l e (headSpec wsX2_firstWhole rmX2_firstWhole).room s m args below meth c D vwCl (wc y g) (AC g s.heap.size) 3 Q x0 (some (v, S2)) S2 pc lv [.int v] := by
    rw [hQ]
    exact fun v S2 pc lv hd => m_iret hC hr hlocks hd
  clear hQ
  unfold fX2_firstWhole
  refine m_aload_n hC dX2_firstWhole_0 0 rfl ?_
  refine m_cVV hC (As := []) (wc_ok y g) (cwV 0 hC.1.2.2.2.2 gX2_firstWhole_X2_begin rfl rfl rfl (by decide +kernel) ⟨Nat.le_of_ble_eq_true rfl, Nat.le_of_ble_eq_true rfl⟩) (wc_21 y g S) rfl (fun xq hq => kX2_begin l D y g N S xq hq) rfl (Nat.le_of_ble_eq_true rfl) dX2_firstWhole_1 ?_
  intro S1
  refine m_aload_n hC dX2_firstWhole_4 0 rfl ?_
  refine m_iconst hC (0) dX2_firstWhole_5 (by decide) ?_
  refine m_cIPV hC (As := [.int 0]) (wc_ok y g) (cwV 1 hC.1.2.2.2.2 gX2_firstWhole_X2_nextToTry rfl rfl rfl (by decide +kernel) ⟨Nat.le_of_ble_eq_true rfl, Nat.le_of_ble_eq_true rfl⟩) (wc_21 y g S1) rfl (fun xq hq => kX2_nextToTry l D y g N 0 S1 xq hq) rfl (Nat.le_of_ble_eq_true rfl) dX2_firstWhole_6 ?_
  intro x2
  refine m_istore_n hC [(0, .ref (g 21)), (1, .int x2)] [1, 0] dX2_firstWhole_9 (by decide) rfl rfl ?_
  refine m_iconst hC (0) dX2_firstWhole_10 (by decide) ?_
  refine m_istore_n hC [(0, .ref (g 21)), (1, .int x2), (2, .int 0)] [1, 2, 0] dX2_firstWhole_11 (by decide) rfl rfl ?_
  refine (m_it (z := (fun _ _ _ => none)) (F := fX2_firstWhole_L12 N) N (fun r6 => ∀ (x3 : Int32) (x4 : Int32) (S5 : St), Sm p l e (headSpec wsX2_firstWhole rmX2_firstWhole).room s m args below meth c D vwCl (wc y g) (AC g s.heap.size) 3 Q x0 (r6 x3 x4 S5) S5 12 [(0, .ref (g 21)), (1, .int x3), (2, .int x4)] []) ?_ ?_) x2 0 S1
  · exact fun _ _ _ => m_none
  · intro r6 hr6 x3 x4 S5
    unfold fX2_firstWhole_L12
    refine m_iload_n hC dX2_firstWhole_12 2 rfl ?_
    refine m_ldc hC (List.mem_of_getElem? (i := 1) rfl) dX2_firstWhole_13 ?_
    refine m_icmp_ge hC 163 dX2_firstWhole_15 (by decide) ?_ ?_
    · refine m_bipush hC (-2) dX2_firstWhole_163 (by decide) ?_
      exact hret _ _ _ _ dX2_firstWhole_165
    · refine m_iload_n hC dX2_firstWhole_18 1 rfl ?_
      refine m_iconst hC (-1) dX2_firstWhole_19 (by decide) ?_
      refine m_icmp_ne hC 49 dX2_firstWhole_20 (by decide) ?_ ?_
      · refine m_aload_n hC dX2_firstWhole_49 0 rfl ?_
        refine m_get hC iX2_firstWhole_X2 (wc_21 y g S5) rfl 7 (by decide) (List.mem_of_getElem? (i := 4) rfl) rfl rfl dX2_firstWhole_50 ?_
        refine m_sipush hC (20000) dX2_firstWhole_53 (by decide) ?_
        refine m_icmp_lt hC 62 dX2_firstWhole_56 (by decide) ?_ ?_
        · refine m_aload_n hC dX2_firstWhole_62 0 rfl ?_
          refine m_dup hC dX2_firstWhole_63 rfl ?_
          refine m_get hC iX2_firstWhole_X2 (wc_21 y g S5) rfl 7 (by decide) (List.mem_of_getElem? (i := 4) rfl) rfl rfl dX2_firstWhole_64 ?_
          refine m_iconst hC (1) dX2_firstWhole_67 (by decide) ?_
          refine m_iadd hC dX2_firstWhole_68 ?_
          refine m_putI (ty := .int) hC iX2_firstWhole_X2 tyX2 tyX2_ok nmX2 (wc_21 y g S5) rfl 7 (by decide) (List.mem_of_getElem? (i := 4) rfl) rfl rfl (by decide +kernel) rfl rfl (Nat.le_of_ble_eq_true rfl) dX2_firstWhole_69 (wcf_21_7 y g S5 _) ?_
          intro S7
          refine m_aload_n hC dX2_firstWhole_72 0 rfl ?_
          refine m_iload_n hC dX2_firstWhole_73 1 rfl ?_
          refine m_cVV hC (As := [.int x3]) (wc_ok y g) (cwV 1 hC.1.2.2.2.2 gX2_firstWhole_X2_lay rfl rfl rfl (by decide +kernel) ⟨Nat.le_of_ble_eq_true rfl, Nat.le_of_ble_eq_true rfl⟩) (wc_21 y g S7) rfl (fun xq hq => kX2_lay l D y g x3 S7 xq hq) rfl (Nat.le_of_ble_eq_true rfl) dX2_firstWhole_74 ?_
          intro S8
          refine m_aload_n hC dX2_firstWhole_77 0 rfl ?_
          refine m_get hC iX2_firstWhole_X2 (wc_21 y g S8) rfl 6 (by decide) (List.mem_of_getElem? (i := 5) rfl) rfl rfl dX2_firstWhole_78 ?_
          refine m_aload_n hC dX2_firstWhole_81 0 rfl ?_
          refine m_get hC iX2_firstWhole_X2 (wc_21 y g S8) rfl 1 (by decide) (List.mem_of_getElem? (i := 6) rfl) rfl rfl dX2_firstWhole_82 ?_
          refine m_get hC iX2_firstWhole_X3 (wc_12 y g S8) rfl 3 (by decide) (List.mem_of_getElem? (i := 7) rfl) rfl rfl dX2_firstWhole_85 ?_
          refine m_icmp_ge hC 100 dX2_firstWhole_88 (by decide) ?_ ?_
          · refine m_aload_n hC dX2_firstWhole_100 0 rfl ?_
            refine m_cIPV hC (As := []) (wc_ok y g) (cwV 0 hC.1.2.2.2.2 gX2_firstWhole_X2_hasThroughsAsked rfl rfl rfl (by decide +kernel) ⟨Nat.le_of_ble_eq_true rfl, Nat.le_of_ble_eq_true rfl⟩) (wc_21 y g S8) rfl (fun xq hq => kX2_hasThroughsAsked l D y g N S8 xq hq) rfl (Nat.le_of_ble_eq_true rfl) dX2_firstWhole_101 ?_
            intro x9
            refine m_if_ne hC 112 dX2_firstWhole_104 (by decide) ?_ ?_
            · refine m_aload_n hC dX2_firstWhole_112 0 rfl ?_
              refine m_get hC iX2_firstWhole_X2 (wc_21 y g S8) rfl 5 (by decide) (List.mem_of_getElem? (i := 8) rfl) rfl rfl dX2_firstWhole_113 ?_
              refine m_iconst hC (1) dX2_firstWhole_116 (by decide) ?_
              refine m_iadd hC dX2_firstWhole_117 ?_
              refine m_aload_n hC dX2_firstWhole_118 0 rfl ?_
              refine m_get hC iX2_firstWhole_X2 (wc_21 y g S8) rfl 1 (by decide) (List.mem_of_getElem? (i := 6) rfl) rfl rfl dX2_firstWhole_119 ?_
              refine m_get hC iX2_firstWhole_X3 (wc_12 y g S8) rfl 4 (by decide) (List.mem_of_getElem? (i := 9) rfl) rfl rfl dX2_firstWhole_122 ?_
              refine m_icmp_ne hC 136 dX2_firstWhole_125 (by decide) ?_ ?_
              · refine m_aload_n hC dX2_firstWhole_136 0 rfl ?_
                refine m_dup hC dX2_firstWhole_137 rfl ?_
                refine m_get hC iX2_firstWhole_X2 (wc_21 y g S8) rfl 5 (by decide) (List.mem_of_getElem? (i := 8) rfl) rfl rfl dX2_firstWhole_138 ?_
                refine m_iconst hC (1) dX2_firstWhole_141 (by decide) ?_
                refine m_iadd hC dX2_firstWhole_142 ?_
                refine m_putI (ty := .int) hC iX2_firstWhole_X2 tyX2 tyX2_ok nmX2 (wc_21 y g S8) rfl 5 (by decide) (List.mem_of_getElem? (i := 8) rfl) rfl rfl (by decide +kernel) rfl rfl (Nat.le_of_ble_eq_true rfl) dX2_firstWhole_143 (wcf_21_5 y g S8 _) ?_
                intro S10
                refine m_aload_n hC dX2_firstWhole_146 0 rfl ?_
                refine m_iconst hC (0) dX2_firstWhole_147 (by decide) ?_
                refine m_putI (ty := .int) hC iX2_firstWhole_X2 tyX2 tyX2_ok nmX2 (wc_21 y g S10) rfl 6 (by decide) (List.mem_of_getElem? (i := 5) rfl) rfl rfl (by decide +kernel) rfl rfl (Nat.le_of_ble_eq_true rfl) dX2_firstWhole_148 (wcf_21_6 y g S10 _) ?_
                intro S11
                refine m_aload_n hC dX2_firstWhole_151 0 rfl ?_
                refine m_iconst hC (0) dX2_firstWhole_152 (by decide) ?_
                refine m_cIPV hC (As := [.int 0]) (wc_ok y g) (cwV 1 hC.1.2.2.2.2 gX2_firstWhole_X2_nextToTry rfl rfl rfl (by decide +kernel) ⟨Nat.le_of_ble_eq_true rfl, Nat.le_of_ble_eq_true rfl⟩) (wc_21 y g S11) rfl (fun xq hq => kX2_nextToTry l D y g N 0 S11 xq hq) rfl (Nat.le_of_ble_eq_true rfl) dX2_firstWhole_153 ?_
                intro x12
                refine m_istore_n hC [(0, .ref (g 21)), (1, .int x12), (2, .int x4)] [1, 0, 2] dX2_firstWhole_156 (by decide) rfl rfl ?_
                refine m_iinc hC (fun x13 => [(0, .ref (g 21)), (1, .int x12), (2, .int x13)]) [1, 2, 0] dX2_firstWhole_157 (j := 2) rfl (by decide) (by decide) (fun _ => rfl) (fun _ => rfl) ?_
                intro x13
                refine m_goto hC 12 dX2_firstWhole_160 (by decide) ?_
                exact hr6 _ _ _
              · refine m_aload_n hC dX2_firstWhole_128 0 rfl ?_
                refine m_get hC iX2_firstWhole_X2 (wc_21 y g S8) rfl 2 (by decide) (List.mem_of_getElem? (i := 2) rfl) rfl rfl dX2_firstWhole_129 ?_
                refine m_get hC iX2_firstWhole_X1 (wc_13 y g S8) rfl 9 (by decide) (List.mem_of_getElem? (i := 3) rfl) rfl rfl dX2_firstWhole_132 ?_
                exact hret _ _ _ _ dX2_firstWhole_135
            · refine m_iconst hC (-1) dX2_firstWhole_107 (by decide) ?_
              refine m_nmI ?_
              intro x14
              refine m_istore_n hC [(0, .ref (g 21)), (1, .int x14), (2, .int x4)] [1, 0, 2] dX2_firstWhole_108 (by decide) rfl rfl ?_
              refine m_goto hC 157 dX2_firstWhole_109 (by decide) ?_
              refine m_iinc hC (fun x15 => [(0, .ref (g 21)), (1, .int x14), (2, .int x15)]) [1, 2, 0] dX2_firstWhole_157 (j := 2) rfl (by decide) (by decide) (fun _ => rfl) (fun _ => rfl) ?_
              intro x15
              refine m_goto hC 12 dX2_firstWhole_160 (by decide) ?_
              exact hr6 _ _ _
          · refine m_aload_n hC dX2_firstWhole_91 0 rfl ?_
            refine m_iconst hC (0) dX2_firstWhole_92 (by decide) ?_
            refine m_cIPV hC (As := [.int 0]) (wc_ok y g) (cwV 1 hC.1.2.2.2.2 gX2_firstWhole_X2_nextToTry rfl rfl rfl (by decide +kernel) ⟨Nat.le_of_ble_eq_true rfl, Nat.le_of_ble_eq_true rfl⟩) (wc_21 y g S8) rfl (fun xq hq => kX2_nextToTry l D y g N 0 S8 xq hq) rfl (Nat.le_of_ble_eq_true rfl) dX2_firstWhole_93 ?_
            intro x16
            refine m_istore_n hC [(0, .ref (g 21)), (1, .int x16), (2, .int x4)] [1, 0, 2] dX2_firstWhole_96 (by decide) rfl rfl ?_
            refine m_goto hC 157 dX2_firstWhole_97 (by decide) ?_
            refine m_iinc hC (fun x17 => [(0, .ref (g 21)), (1, .int x16), (2, .int x17)]) [1, 2, 0] dX2_firstWhole_157 (j := 2) rfl (by decide) (by decide) (fun _ => rfl) (fun _ => rfl) ?_
            intro x17
            refine m_goto hC 12 dX2_firstWhole_160 (by decide) ?_
            exact hr6 _ _ _
        · refine m_bipush hC (-2) dX2_firstWhole_59 (by decide) ?_
          exact hret _ _ _ _ dX2_firstWhole_61
      · refine m_aload_n hC dX2_firstWhole_23 0 rfl ?_
        refine m_get hC iX2_firstWhole_X2 (wc_21 y g S5) rfl 2 (by decide) (List.mem_of_getElem? (i := 2) rfl) rfl rfl dX2_firstWhole_24 ?_
        refine m_get hC iX2_firstWhole_X1 (wc_13 y g S5) rfl 9 (by decide) (List.mem_of_getElem? (i := 3) rfl) rfl rfl dX2_firstWhole_27 ?_
        refine m_if_ne hC 35 dX2_firstWhole_30 (by decide) ?_ ?_
        · refine m_aload_n hC dX2_firstWhole_35 0 rfl ?_
          refine m_aload_n hC dX2_firstWhole_36 0 rfl ?_
          refine m_cIV hC (As := []) (wc_ok y g) (cwV 0 hC.1.2.2.2.2 gX2_firstWhole_X2_takeUp rfl rfl rfl (by decide +kernel) ⟨Nat.le_of_ble_eq_true rfl, Nat.le_of_ble_eq_true rfl⟩) (wc_21 y g S5) rfl (fun xq hq => kX2_takeUp l D y g S5 xq hq) rfl (Nat.le_of_ble_eq_true rfl) dX2_firstWhole_37 ?_
          intro x18 S19
          refine m_iconst hC (1) dX2_firstWhole_40 (by decide) ?_
          refine m_iadd hC dX2_firstWhole_41 ?_
          refine m_cIPV hC (As := [.int (x18 + 1)]) (wc_ok y g) (cwV 1 hC.1.2.2.2.2 gX2_firstWhole_X2_nextToTry rfl rfl rfl (by decide +kernel) ⟨Nat.le_of_ble_eq_true rfl, Nat.le_of_ble_eq_true rfl⟩) (wc_21 y g S19) rfl (fun xq hq => kX2_nextToTry l D y g N (x18 + 1) S19 xq hq) rfl (Nat.le_of_ble_eq_true rfl) dX2_firstWhole_42 ?_
          intro x20
          refine m_istore_n hC [(0, .ref (g 21)), (1, .int x20), (2, .int x4)] [1, 0, 2] dX2_firstWhole_45 (by decide) rfl rfl ?_
          refine m_goto hC 157 dX2_firstWhole_46 (by decide) ?_
          refine m_iinc hC (fun x21 => [(0, .ref (g 21)), (1, .int x20), (2, .int x21)]) [1, 2, 0] dX2_firstWhole_157 (j := 2) rfl (by decide) (by decide) (fun _ => rfl) (fun _ => rfl) ?_
          intro x21
          refine m_goto hC 12 dX2_firstWhole_160 (by decide) ?_
          exact hr6 _ _ _
        · refine m_iconst hC (0) dX2_firstWhole_33 (by decide) ?_
          exact hret _ _ _ _ dX2_firstWhole_34
