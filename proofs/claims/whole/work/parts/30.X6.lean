def fX6_size (a : Int32) : Option (Int32) :=
  if a < 0 then
    some (-a)
  else
    some a
abbrev rmX6_size : Room := { frames := 0, cells := 0, slots := 0, locals := 0 }
set_option maxHeartbeats 4000000 in
set_option maxRecDepth 100000 in
theorem kX6_size (l : Launch) (D : va_G) (y : Cy) (g : Nat → Nat) (a : Int32) (S : St) (x0 : Int32) (h : fX6_size a = some x0) : KI l yX6_size wsX6_size rmX6_size D vwCl (tz y) (wm y g) (AM g) [.int a] S (fun r S2 => r = x0 ∧ S2 = S) := by
  refine m_entryIP (wm_ok y g) (by decide) rfl (Nat.le_of_ble_eq_true rfl) (lv := [(0, .int a)]) rfl h ?_
  intro p e s m args below meth c hC hr hlocks
  obtain ⟨Q, hQ⟩ : ∃ Q, Q = (MQ below (va_Qi (fun r S2 => r = x0 ∧ S2 = S) (Bw D vwCl (tz y) (wm y g) (AM g s.heap.size)) (AM g s.heap.size)) args s 0 0 (AM g s.heap.size)) := ⟨_, rfl⟩
  rw [← hQ]
  have hret : ∀ (v : Int32) (pc : Nat) (lv : List (Nat × Value)), decode cX6_size pc = .ok (.ireturn, 1) → Sm p l e (headSpec wsX6_size rmX6_size).room s m args below meth c D vwCl (wm y g) (AM g s.heap.size) 1 Q x0 (some v) S pc lv [.int v] := by
    rw [hQ]
    exact fun v pc lv hd => m_iretP hC hr hlocks hd
  clear hQ
  unfold fX6_size
  refine m_iload_n hC dX6_size_0 0 rfl ?_
  refine m_if_ge hC 9 dX6_size_1 (by decide) ?_ ?_
  · refine m_iload_n hC dX6_size_9 0 rfl ?_
    exact hret _ _ _ dX6_size_10
  · refine m_iload_n hC dX6_size_4 0 rfl ?_
    refine m_ineg hC dX6_size_5 ?_
    refine m_goto hC 10 dX6_size_6 (by decide) ?_
    exact hret _ _ _ dX6_size_10
def fX6_toil (a : Int32) (b : Int32) (S : St) : Option (Int64) :=
  ldI 150 (S.1 7) a fun x1 =>
  ldI 8 (S.1 1) x1 fun x2 =>
  ldI 8 (S.1 2) x1 fun x3 =>
  ldI 5 (S.1 3) b fun x4 =>
  ldI 150 (S.1 9) a fun x5 =>
  caP (fX6_size ((x4 - (S.1 0 9)) - x5)) fun x6 =>
  ldI 5 (S.1 4) b fun x7 =>
  caP (fX6_size (x7 - (S.1 0 10))) fun x8 =>
  some ((x2.toInt64 * x3.toInt64) * ((x6 + x8).toInt64))
abbrev rmX6_toil : Room := { frames := 1, cells := 0, slots := 0, locals := 20 }
theorem iX6_toil_X6 : ∀ w ∈ wsX60, w ∈ wsX6_toil := fun w h => List.mem_cons_of_mem _ (List.mem_append_right _ h)
set_option maxHeartbeats 4000000 in
set_option maxRecDepth 100000 in
theorem kX6_toil (l : Launch) (D : va_G) (y : Cy) (g : Nat → Nat) (a : Int32) (b : Int32) (S : St) (x0 : Int64) (h : fX6_toil a b S = some x0) : KL l yX6_toil wsX6_toil rmX6_toil D vwCl (tz y) (wm y g) (AM g) [.ref (g 0), .int a, .int b] S (fun r S2 => r = x0 ∧ S2 = S) := by
  refine m_entryLP (wm_ok y g) (by decide) rfl (Nat.le_of_ble_eq_true rfl) (lv := [(0, .ref (g 0)), (1, .int a), (2, .int b)]) rfl h ?_
  intro p e s m args below meth c hC hr hlocks
  obtain ⟨Q, hQ⟩ : ∃ Q, Q = (MQ below (va_Ql (fun r S2 => r = x0 ∧ S2 = S) (Bw D vwCl (tz y) (wm y g) (AM g s.heap.size)) (AM g s.heap.size)) args s 0 0 (AM g s.heap.size)) := ⟨_, rfl⟩
  rw [← hQ]
  have hret : ∀ (v : Int64) (pc : Nat) (lv : List (Nat × Value)), decode cX6_toil pc = .ok (.lreturn, 1) → Sm p l e (headSpec wsX6_toil rmX6_toil).room s m args below meth c D vwCl (wm y g) (AM g s.heap.size) 4 Q x0 (some v) S pc lv [.long v] := by
    rw [hQ]
    exact fun v pc lv hd => m_lretP hC hr hlocks hd
  clear hQ
  unfold fX6_toil
  refine m_aload_n hC dX6_toil_0 0 rfl ?_
  refine m_get hC iX6_toil_X6 (wm_0 y g S) rfl 20 (by decide) (List.mem_of_getElem? (i := 1) rfl) rfl rfl dX6_toil_1 ?_
  refine m_iload_n hC dX6_toil_4 1 rfl ?_
  refine m_iald hC (wm_7 y g S) (t0 := 0) rfl dX6_toil_5 ?_
  intro x1
  refine m_istore_n hC [(0, .ref (g 0)), (1, .int a), (2, .int b), (3, .int x1)] [1, 2, 3, 0] dX6_toil_6 (by decide) rfl rfl ?_
  refine m_aload_n hC dX6_toil_7 0 rfl ?_
  refine m_get hC iX6_toil_X6 (wm_0 y g S) rfl 1 (by decide) (List.mem_of_getElem? (i := 2) rfl) rfl rfl dX6_toil_8 ?_
  refine m_iload_n hC dX6_toil_11 3 rfl ?_
  refine m_iald hC (wm_1 y g S) (t0 := 0) rfl dX6_toil_12 ?_
  intro x2
  refine m_i2l hC dX6_toil_13 ?_
  refine m_aload_n hC dX6_toil_14 0 rfl ?_
  refine m_get hC iX6_toil_X6 (wm_0 y g S) rfl 2 (by decide) (List.mem_of_getElem? (i := 3) rfl) rfl rfl dX6_toil_15 ?_
  refine m_iload_n hC dX6_toil_18 3 rfl ?_
  refine m_iald hC (wm_2 y g S) (t0 := 0) rfl dX6_toil_19 ?_
  intro x3
  refine m_i2l hC dX6_toil_20 ?_
  refine m_lmul hC dX6_toil_21 ?_
  refine m_aload_n hC dX6_toil_22 0 rfl ?_
  refine m_get hC iX6_toil_X6 (wm_0 y g S) rfl 4 (by decide) (List.mem_of_getElem? (i := 4) rfl) rfl rfl dX6_toil_23 ?_
  refine m_iload_n hC dX6_toil_26 2 rfl ?_
  refine m_iald hC (wm_3 y g S) (t0 := 0) rfl dX6_toil_27 ?_
  intro x4
  refine m_aload_n hC dX6_toil_28 0 rfl ?_
  refine m_get hC iX6_toil_X6 (wm_0 y g S) rfl 9 (by decide) (List.mem_of_getElem? (i := 5) rfl) rfl rfl dX6_toil_29 ?_
  refine m_isub hC dX6_toil_32 ?_
  refine m_aload_n hC dX6_toil_33 0 rfl ?_
  refine m_get hC iX6_toil_X6 (wm_0 y g S) rfl 22 (by decide) (List.mem_of_getElem? (i := 6) rfl) rfl rfl dX6_toil_34 ?_
  refine m_iload_n hC dX6_toil_37 1 rfl ?_
  refine m_iald hC (wm_9 y g S) (t0 := 0) rfl dX6_toil_38 ?_
  intro x5
  refine m_isub hC dX6_toil_39 ?_
  refine m_cIPS hC (As := [.int ((x4 - (S.1 0 9)) - x5)]) (wm_ok y g) (va_cwS 1 hC.1.2.2.2.2 gX6_toil_X6_size rfl rfl rfl (by decide +kernel) ⟨Nat.le_of_ble_eq_true rfl, Nat.le_of_ble_eq_true rfl⟩) (fun xq hq => kX6_size l D y g ((x4 - (S.1 0 9)) - x5) S xq hq) rfl (Nat.le_of_ble_eq_true rfl) dX6_toil_40 ?_
  intro x6
  refine m_aload_n hC dX6_toil_43 0 rfl ?_
  refine m_get hC iX6_toil_X6 (wm_0 y g S) rfl 5 (by decide) (List.mem_of_getElem? (i := 7) rfl) rfl rfl dX6_toil_44 ?_
  refine m_iload_n hC dX6_toil_47 2 rfl ?_
  refine m_iald hC (wm_4 y g S) (t0 := 0) rfl dX6_toil_48 ?_
  intro x7
  refine m_aload_n hC dX6_toil_49 0 rfl ?_
  refine m_get hC iX6_toil_X6 (wm_0 y g S) rfl 10 (by decide) (List.mem_of_getElem? (i := 8) rfl) rfl rfl dX6_toil_50 ?_
  refine m_isub hC dX6_toil_53 ?_
  refine m_cIPS hC (As := [.int (x7 - (S.1 0 10))]) (wm_ok y g) (va_cwS 1 hC.1.2.2.2.2 gX6_toil_X6_size rfl rfl rfl (by decide +kernel) ⟨Nat.le_of_ble_eq_true rfl, Nat.le_of_ble_eq_true rfl⟩) (fun xq hq => kX6_size l D y g (x7 - (S.1 0 10)) S xq hq) rfl (Nat.le_of_ble_eq_true rfl) dX6_toil_54 ?_
  intro x8
  refine m_iadd hC dX6_toil_57 ?_
  refine m_i2l hC dX6_toil_58 ?_
  refine m_lmul hC dX6_toil_59 ?_
  exact hret _ _ _ dX6_toil_60
def fX6_add_L247 (K23 : Int32 → St → Option (Int64 × St)) (r22 : Int32 → St → Option (Int64 × St)) : Int32 → St → Option (Int64 × St) := fun x20 S21 =>
  ldI 5 (S21.1 18) x20 fun x27 =>
  if x27 < 0 then
    K23 x20 S21
  else
    ldI 5 (S21.1 18) x20 fun x28 =>
    ldI 150 (S21.1 15) x28 fun x29 =>
    stI S21 15 150 x28 x20 fun S30 =>
    r22 x29 S30
def fX6_add_L171 (S10 : St) (K15 : Int32 → Option (Int64 × St)) (r14 : Int32 → Int32 → Option (Int64 × St)) : Int32 → Int32 → Option (Int64 × St) := fun x12 x13 =>
  if x13 < (S10.1 0 3) then
    ldI 5 (S10.1 16) x13 fun x31 =>
    if x31 ≤ 0 then
      nmI (x13 + 1) fun x32 =>
      r14 x12 x32
    else
      if x12 < 0 then
        nmI (x13 + 1) fun x33 =>
        r14 x13 x33
      else
        ldL 5 S10.2 x13 fun x34 =>
        ldL 5 S10.2 x12 fun x35 =>
        if (lg_cmp x34 x35) < 0 then
          nmI (x13 + 1) fun x37 =>
          r14 x13 x37
        else
          nmI (x13 + 1) fun x36 =>
          r14 x12 x36
  else
    K15 x12
def fX6_add_L68 (x39 : Int32) (K50 : Int32 → St → Option (Int64 × St)) (r49 : Int32 → Int32 → St → Option (Int64 × St)) : Int32 → Int32 → St → Option (Int64 × St) := fun x46 x47 S48 =>
  if x47 < (S48.1 0 3) then
    ldI 150 (S48.1 15) x39 fun x54 =>
    ldL 5 S48.2 x54 fun x55 =>
    caP (fX6_toil x39 x47 S48) fun x56 =>
    ldI 150 (S48.1 15) x39 fun x57 =>
    caP (fX6_toil x39 x57 S48) fun x58 =>
    nmL ((x55 + x56) - x58) fun x59 =>
    ldL 5 S48.2 x47 fun x60 =>
    if (lg_cmp x59 x60) < 0 then
      stL S48 5 x47 x59 fun S61 =>
      stI S61 18 5 x47 x39 fun S62 =>
      nmI (x47 + 1) fun x63 =>
      r49 1 x63 S62
    else
      nmI (x47 + 1) fun x64 =>
      r49 x46 x64 S48
  else
    K50 x46 S48
def fX6_add_L46 (N : Nat) (a : Int32) (K42 : Int32 → St → Option (Int64 × St)) (r41 : Int32 → Int32 → St → Option (Int64 × St)) : Int32 → Int32 → St → Option (Int64 × St) := fun x38 x39 S40 =>
  if x39 < a then
    ldI 150 (S40.1 15) x39 fun x45 =>
    if x45 < 0 then
      nmI (x39 + 1) fun x65 =>
      r41 x38 x65 S40
    else
      itN (fun _ _ _ => none) (fX6_add_L68 x39 (fun (x51 : Int32) (S52 : St) =>
          nmI (x39 + 1) fun x53 =>
          r41 x51 x53 S52)) N x38 0 S40
  else
    K42 x38 S40
def fX6_add_L37 (N : Nat) (a : Int32) (K9 : St → Option (Int64 × St)) (r8 : Int32 → St → Option (Int64 × St)) : Int32 → St → Option (Int64 × St) := fun x6 S7 =>
  if x6 = 0 then
    K9 S7
  else
    itN (fun _ _ _ => none) (fX6_add_L46 N a (fun (x43 : Int32) (S44 : St) =>
        r8 x43 S44)) N 0 0 S7
def fX6_add_L2 (a : Int32) (K4 : St → Option (Int64 × St)) (r3 : Int32 → St → Option (Int64 × St)) : Int32 → St → Option (Int64 × St) := fun x1 S2 =>
  if x1 < (S2.1 0 3) then
    caP (fX6_toil a x1 S2) fun x66 =>
    stL S2 5 x1 x66 fun S67 =>
    stI S67 18 5 x1 (-1) fun S68 =>
    nmI (x1 + 1) fun x69 =>
    r3 x69 S68
  else
    K4 S2
def fX6_add (N : Nat) (a : Int32) (b : Int32) (S : St) : Option (Int64 × St) :=
  itN (fun _ _ => none) (fX6_add_L2 a (fun (S5 : St) =>
      itN (fun _ _ => none) (fX6_add_L37 N a (fun (S10 : St) =>
          nmI (-1) fun x11 =>
          itN (fun _ _ => none) (fX6_add_L171 S10 (fun (x16 : Int32) =>
              ldI 5 (S10.1 16) x16 fun x17 =>
              stI S10 16 5 x16 (x17 - 1) fun S18 =>
              ldL 5 S18.2 x16 fun x19 =>
              itN (fun _ _ => none) (fX6_add_L247 (fun (x24 : Int32) (S25 : St) =>
                  stI S25 15 150 a x24 fun S26 =>
                  some (x19, S26))) N x16 S18)) N x11 0)) N 1 S5)) N 0 S
abbrev rmX6_add : Room := { frames := 2, cells := 0, slots := 0, locals := 43 }
theorem iX6_add_X6 : ∀ w ∈ wsX60, w ∈ wsX6_add := fun w h => List.mem_cons_of_mem _ (List.mem_append_right _ h)
set_option maxHeartbeats 4000000 in
set_option maxRecDepth 100000 in
theorem kX6_add (l : Launch) (D : va_G) (y : Cy) (g : Nat → Nat) (N : Nat) (a : Int32) (b : Int32) (S : St) (x0 : Int64 × St) (h : fX6_add N a b S = some x0) : KL l yX6_add wsX6_add rmX6_add D vwCl (tz y) (wm y g) (AM g) [.ref (g 0), .int a, .int b] S (fun r S2 => (r, S2) = x0) := by
  refine m_entryL (wm_ok y g) (by decide) rfl (Nat.le_of_ble_eq_true rfl) (lv := [(0, .ref (g 0)), (1, .int a), (2, .int b)]) rfl h ?_
  intro p e s m args below meth c hC hr hlocks
  obtain ⟨Q, hQ⟩ : ∃ Q, Q = (MQ below (va_Ql (fun r S2 => (r, S2) = x0) (Bw D vwCl (tz y) (wm y g) (AM g s.heap.size)) (AM g s.heap.size)) args s 0 0 (AM g s.heap.size)) := ⟨_, rfl⟩
  rw [← hQ]
  have hret : ∀ (v : Int64) (S2 : St) (pc : Nat) (lv : List (Nat × Value)), decode cX6_add pc = .ok (.lreturn, 1) → Sm p l e (headSpec wsX6_add rmX6_add).room s m args below meth c D vwCl (wm y g) (AM g s.heap.size) 10 Q x0 (some (v, S2)) S2 pc lv [.long v] := by
    rw [hQ]
    exact fun v S2 pc lv hd => m_lret hC hr hlocks hd
  clear hQ
  unfold fX6_add
  refine m_iconst hC (0) dX6_add_0 (by decide) ?_
  refine m_istore_n hC [(0, .ref (g 0)), (1, .int a), (2, .int b), (3, .int 0)] [1, 2, 3, 0] dX6_add_1 (by decide) rfl rfl ?_
  refine m_lv [(0, .ref (g 0)), (1, .int a), (3, .int 0)] [0, 1, 3] rfl ?_
  refine (m_itK (z := (fun _ _ => none)) (F := fX6_add_L2 a) N (fun K4 => ∀ (S5 : St), Sm p l e (headSpec wsX6_add rmX6_add).room s m args below meth c D vwCl (wm y g) (AM g s.heap.size) 10 Q x0 (K4 S5) S5 35 [(0, .ref (g 0)), (1, .int a)] []) (fun r3 => ∀ (x1 : Int32) (S2 : St), Sm p l e (headSpec wsX6_add rmX6_add).room s m args below meth c D vwCl (wm y g) (AM g s.heap.size) 10 Q x0 (r3 x1 S2) S2 2 [(0, .ref (g 0)), (1, .int a), (3, .int x1)] []) ?_ ?_ ?_) 0 S
  · exact fun _ _ => m_none
  · intro S5
    refine m_iconst hC (1) dX6_add_35 (by decide) ?_
    refine m_istore_n hC [(0, .ref (g 0)), (1, .int a), (3, .int 1)] [1, 2, 0] dX6_add_36 (by decide) rfl rfl ?_
    refine (m_itK (z := (fun _ _ => none)) (F := fX6_add_L37 N a) N (fun K9 => ∀ (S10 : St), Sm p l e (headSpec wsX6_add rmX6_add).room s m args below meth c D vwCl (wm y g) (AM g s.heap.size) 10 Q x0 (K9 S10) S10 165 [(0, .ref (g 0)), (1, .int a)] []) (fun r8 => ∀ (x6 : Int32) (S7 : St), Sm p l e (headSpec wsX6_add rmX6_add).room s m args below meth c D vwCl (wm y g) (AM g s.heap.size) 10 Q x0 (r8 x6 S7) S7 37 [(0, .ref (g 0)), (1, .int a), (3, .int x6)] []) ?_ ?_ ?_) 1 S5
    · exact fun _ _ => m_none
    · intro S10
      refine m_iconst hC (-1) dX6_add_165 (by decide) ?_
      refine m_nmI ?_
      intro x11
      refine m_istore hC [(0, .ref (g 0)), (1, .int a), (4, .int x11)] [1, 2, 0] dX6_add_166 (by decide) rfl rfl ?_
      refine m_iconst hC (0) dX6_add_168 (by decide) ?_
      refine m_istore hC [(0, .ref (g 0)), (1, .int a), (4, .int x11), (5, .int 0)] [1, 2, 3, 0] dX6_add_169 (by decide) rfl rfl ?_
      refine (m_itK (z := (fun _ _ => none)) (F := fX6_add_L171 S10) N (fun K15 => ∀ (x16 : Int32), Sm p l e (headSpec wsX6_add rmX6_add).room s m args below meth c D vwCl (wm y g) (AM g s.heap.size) 10 Q x0 (K15 x16) S10 223 [(0, .ref (g 0)), (1, .int a), (4, .int x16)] []) (fun r14 => ∀ (x12 : Int32) (x13 : Int32), Sm p l e (headSpec wsX6_add rmX6_add).room s m args below meth c D vwCl (wm y g) (AM g s.heap.size) 10 Q x0 (r14 x12 x13) S10 171 [(0, .ref (g 0)), (1, .int a), (4, .int x12), (5, .int x13)] []) ?_ ?_ ?_) x11 0
      · exact fun _ _ => m_none
      · intro x16
        refine m_aload_n hC dX6_add_223 0 rfl ?_
        refine m_get hC iX6_add_X6 (wm_0 y g S10) rfl 32 (by decide) (List.mem_of_getElem? (i := 5) rfl) rfl rfl dX6_add_224 ?_
        refine m_iload hC dX6_add_227 2 rfl ?_
        refine m_dup2 hC dX6_add_229 rfl rfl ?_
        refine m_iald hC (wm_16 y g S10) (t0 := 0) rfl dX6_add_230 ?_
        intro x17
        refine m_iconst hC (1) dX6_add_231 (by decide) ?_
        refine m_isub hC dX6_add_232 ?_
        refine m_iast hC (wm_16 y g S10) (t0 := 0) rfl (wms_16 y g S10) dX6_add_233 ?_
        intro S18
        refine m_aload_n hC dX6_add_234 0 rfl ?_
        refine m_get hC iX6_add_X6 (wm_0 y g S18) rfl 33 (by decide) (List.mem_of_getElem? (i := 2) rfl) rfl rfl dX6_add_235 ?_
        refine m_iload hC dX6_add_238 2 rfl ?_
        refine m_lald hC (wm_17 y g S18) (t0 := 3) rfl dX6_add_240 ?_
        intro x19
        refine m_lstore hC [(0, .ref (g 0)), (1, .int a), (4, .int x16), (5, .long x19)] [1, 2, 3, 0] dX6_add_241 (by decide) rfl rfl ?_
        refine m_iload hC dX6_add_243 2 rfl ?_
        refine m_istore hC [(0, .ref (g 0)), (1, .int a), (4, .int x16), (5, .long x19), (7, .int x16)] [1, 2, 3, 4, 0] dX6_add_245 (by decide) rfl rfl ?_
        refine m_lv [(0, .ref (g 0)), (1, .int a), (5, .long x19), (7, .int x16)] [0, 1, 3, 4] rfl ?_
        refine (m_itK (z := (fun _ _ => none)) (F := fX6_add_L247) N (fun K23 => ∀ (x24 : Int32) (S25 : St), Sm p l e (headSpec wsX6_add rmX6_add).room s m args below meth c D vwCl (wm y g) (AM g s.heap.size) 10 Q x0 (K23 x24 S25) S25 291 [(0, .ref (g 0)), (1, .int a), (5, .long x19), (7, .int x24)] []) (fun r22 => ∀ (x20 : Int32) (S21 : St), Sm p l e (headSpec wsX6_add rmX6_add).room s m args below meth c D vwCl (wm y g) (AM g s.heap.size) 10 Q x0 (r22 x20 S21) S21 247 [(0, .ref (g 0)), (1, .int a), (5, .long x19), (7, .int x20)] []) ?_ ?_ ?_) x16 S18
        · exact fun _ _ => m_none
        · intro x24 S25
          refine m_aload_n hC dX6_add_291 0 rfl ?_
          refine m_get hC iX6_add_X6 (wm_0 y g S25) rfl 31 (by decide) (List.mem_of_getElem? (i := 4) rfl) rfl rfl dX6_add_292 ?_
          refine m_iload_n hC dX6_add_295 1 rfl ?_
          refine m_iload hC dX6_add_296 3 rfl ?_
          refine m_iast hC (wm_15 y g S25) (t0 := 0) rfl (wms_15 y g S25) dX6_add_298 ?_
          intro S26
          refine m_lload hC dX6_add_299 2 rfl ?_
          exact hret _ _ _ _ dX6_add_301
        · intro K23 hK23 r22 hr22 x20 S21
          unfold fX6_add_L247
          refine m_aload_n hC dX6_add_247 0 rfl ?_
          refine m_get hC iX6_add_X6 (wm_0 y g S21) rfl 34 (by decide) (List.mem_of_getElem? (i := 3) rfl) rfl rfl dX6_add_248 ?_
          refine m_iload hC dX6_add_251 3 rfl ?_
          refine m_iald hC (wm_18 y g S21) (t0 := 0) rfl dX6_add_253 ?_
          intro x27
          refine m_if_lt hC 291 dX6_add_254 (by decide) ?_ ?_
          · exact hK23 _ _
          · refine m_aload_n hC dX6_add_257 0 rfl ?_
            refine m_get hC iX6_add_X6 (wm_0 y g S21) rfl 34 (by decide) (List.mem_of_getElem? (i := 3) rfl) rfl rfl dX6_add_258 ?_
            refine m_iload hC dX6_add_261 3 rfl ?_
            refine m_iald hC (wm_18 y g S21) (t0 := 0) rfl dX6_add_263 ?_
            intro x28
            refine m_istore hC [(0, .ref (g 0)), (1, .int a), (5, .long x19), (7, .int x20), (8, .int x28)] [1, 2, 3, 4, 0] dX6_add_264 (by decide) rfl rfl ?_
            refine m_aload_n hC dX6_add_266 0 rfl ?_
            refine m_get hC iX6_add_X6 (wm_0 y g S21) rfl 31 (by decide) (List.mem_of_getElem? (i := 4) rfl) rfl rfl dX6_add_267 ?_
            refine m_iload hC dX6_add_270 4 rfl ?_
            refine m_iald hC (wm_15 y g S21) (t0 := 0) rfl dX6_add_272 ?_
            intro x29
            refine m_istore hC [(0, .ref (g 0)), (1, .int a), (5, .long x19), (7, .int x20), (8, .int x28), (9, .int x29)] [1, 2, 3, 4, 5, 0] dX6_add_273 (by decide) rfl rfl ?_
            refine m_aload_n hC dX6_add_275 0 rfl ?_
            refine m_get hC iX6_add_X6 (wm_0 y g S21) rfl 31 (by decide) (List.mem_of_getElem? (i := 4) rfl) rfl rfl dX6_add_276 ?_
            refine m_iload hC dX6_add_279 4 rfl ?_
            refine m_iload hC dX6_add_281 3 rfl ?_
            refine m_iast hC (wm_15 y g S21) (t0 := 0) rfl (wms_15 y g S21) dX6_add_283 ?_
            intro S30
            refine m_iload hC dX6_add_284 5 rfl ?_
            refine m_istore hC [(0, .ref (g 0)), (1, .int a), (5, .long x19), (7, .int x29), (8, .int x28), (9, .int x29)] [1, 2, 3, 0, 4, 5] dX6_add_286 (by decide) rfl rfl ?_
            refine m_goto hC 247 dX6_add_288 (by decide) ?_
            refine m_lv [(0, .ref (g 0)), (1, .int a), (5, .long x19), (7, .int x29)] [0, 1, 2, 3] rfl ?_
            exact hr22 _ _
      · intro K15 hK15 r14 hr14 x12 x13
        unfold fX6_add_L171
        refine m_iload hC dX6_add_171 3 rfl ?_
        refine m_aload_n hC dX6_add_173 0 rfl ?_
        refine m_get hC iX6_add_X6 (wm_0 y g S10) rfl 3 (by decide) (List.mem_of_getElem? (i := 1) rfl) rfl rfl dX6_add_174 ?_
        refine m_icmp_ge hC 223 dX6_add_177 (by decide) ?_ ?_
        · refine m_lv [(0, .ref (g 0)), (1, .int a), (4, .int x12)] [0, 1, 2] rfl ?_
          exact hK15 _
        · refine m_aload_n hC dX6_add_180 0 rfl ?_
          refine m_get hC iX6_add_X6 (wm_0 y g S10) rfl 32 (by decide) (List.mem_of_getElem? (i := 5) rfl) rfl rfl dX6_add_181 ?_
          refine m_iload hC dX6_add_184 3 rfl ?_
          refine m_iald hC (wm_16 y g S10) (t0 := 0) rfl dX6_add_186 ?_
          intro x31
          refine m_if_le hC 217 dX6_add_187 (by decide) ?_ ?_
          · refine m_iinc hC (fun x32 => [(0, .ref (g 0)), (1, .int a), (4, .int x12), (5, .int x32)]) [1, 2, 3, 0] dX6_add_217 (j := 3) rfl (by decide) (by decide) (fun _ => rfl) (fun _ => rfl) ?_
            intro x32
            refine m_goto hC 171 dX6_add_220 (by decide) ?_
            exact hr14 _ _
          · refine m_iload hC dX6_add_190 2 rfl ?_
            refine m_if_lt hC 213 dX6_add_192 (by decide) ?_ ?_
            · refine m_iload hC dX6_add_213 3 rfl ?_
              refine m_istore hC [(0, .ref (g 0)), (1, .int a), (4, .int x13), (5, .int x13)] [1, 2, 0, 3] dX6_add_215 (by decide) rfl rfl ?_
              refine m_iinc hC (fun x33 => [(0, .ref (g 0)), (1, .int a), (4, .int x13), (5, .int x33)]) [1, 2, 3, 0] dX6_add_217 (j := 3) rfl (by decide) (by decide) (fun _ => rfl) (fun _ => rfl) ?_
              intro x33
              refine m_goto hC 171 dX6_add_220 (by decide) ?_
              exact hr14 _ _
            · refine m_aload_n hC dX6_add_195 0 rfl ?_
              refine m_get hC iX6_add_X6 (wm_0 y g S10) rfl 33 (by decide) (List.mem_of_getElem? (i := 2) rfl) rfl rfl dX6_add_196 ?_
              refine m_iload hC dX6_add_199 3 rfl ?_
              refine m_lald hC (wm_17 y g S10) (t0 := 3) rfl dX6_add_201 ?_
              intro x34
              refine m_aload_n hC dX6_add_202 0 rfl ?_
              refine m_get hC iX6_add_X6 (wm_0 y g S10) rfl 33 (by decide) (List.mem_of_getElem? (i := 2) rfl) rfl rfl dX6_add_203 ?_
              refine m_iload hC dX6_add_206 2 rfl ?_
              refine m_lald hC (wm_17 y g S10) (t0 := 3) rfl dX6_add_208 ?_
              intro x35
              refine m_lcmp hC dX6_add_209 ?_
              refine m_if_ge hC 217 dX6_add_210 (by decide) ?_ ?_
              · refine m_iinc hC (fun x36 => [(0, .ref (g 0)), (1, .int a), (4, .int x12), (5, .int x36)]) [1, 2, 3, 0] dX6_add_217 (j := 3) rfl (by decide) (by decide) (fun _ => rfl) (fun _ => rfl) ?_
                intro x36
                refine m_goto hC 171 dX6_add_220 (by decide) ?_
                exact hr14 _ _
              · refine m_iload hC dX6_add_213 3 rfl ?_
                refine m_istore hC [(0, .ref (g 0)), (1, .int a), (4, .int x13), (5, .int x13)] [1, 2, 0, 3] dX6_add_215 (by decide) rfl rfl ?_
                refine m_iinc hC (fun x37 => [(0, .ref (g 0)), (1, .int a), (4, .int x13), (5, .int x37)]) [1, 2, 3, 0] dX6_add_217 (j := 3) rfl (by decide) (by decide) (fun _ => rfl) (fun _ => rfl) ?_
                intro x37
                refine m_goto hC 171 dX6_add_220 (by decide) ?_
                exact hr14 _ _
    · intro K9 hK9 r8 hr8 x6 S7
      unfold fX6_add_L37
      refine m_iload_n hC dX6_add_37 2 rfl ?_
      refine m_if_eq hC 165 dX6_add_38 (by decide) ?_ ?_
      · refine m_lv [(0, .ref (g 0)), (1, .int a)] [0, 1] rfl ?_
        exact hK9 _
      · refine m_iconst hC (0) dX6_add_41 (by decide) ?_
        refine m_istore_n hC [(0, .ref (g 0)), (1, .int a), (3, .int 0)] [1, 2, 0] dX6_add_42 (by decide) rfl rfl ?_
        refine m_iconst hC (0) dX6_add_43 (by decide) ?_
        refine m_istore hC [(0, .ref (g 0)), (1, .int a), (3, .int 0), (4, .int 0)] [1, 2, 3, 0] dX6_add_44 (by decide) rfl rfl ?_
        refine (m_itK (z := (fun _ _ _ => none)) (F := fX6_add_L46 N a) N (fun K42 => ∀ (x43 : Int32) (S44 : St), Sm p l e (headSpec wsX6_add rmX6_add).room s m args below meth c D vwCl (wm y g) (AM g s.heap.size) 10 Q x0 (K42 x43 S44) S44 162 [(0, .ref (g 0)), (1, .int a), (3, .int x43)] []) (fun r41 => ∀ (x38 : Int32) (x39 : Int32) (S40 : St), Sm p l e (headSpec wsX6_add rmX6_add).room s m args below meth c D vwCl (wm y g) (AM g s.heap.size) 10 Q x0 (r41 x38 x39 S40) S40 46 [(0, .ref (g 0)), (1, .int a), (3, .int x38), (4, .int x39)] []) ?_ ?_ ?_) 0 0 S7
        · exact fun _ _ _ => m_none
        · intro x43 S44
          refine m_goto hC 37 dX6_add_162 (by decide) ?_
          exact hr8 _ _
        · intro K42 hK42 r41 hr41 x38 x39 S40
          unfold fX6_add_L46
          refine m_iload hC dX6_add_46 3 rfl ?_
          refine m_iload_n hC dX6_add_48 1 rfl ?_
          refine m_icmp_ge hC 162 dX6_add_49 (by decide) ?_ ?_
          · refine m_lv [(0, .ref (g 0)), (1, .int a), (3, .int x38)] [0, 1, 2] rfl ?_
            exact hK42 _ _
          · refine m_aload_n hC dX6_add_52 0 rfl ?_
            refine m_get hC iX6_add_X6 (wm_0 y g S40) rfl 31 (by decide) (List.mem_of_getElem? (i := 4) rfl) rfl rfl dX6_add_53 ?_
            refine m_iload hC dX6_add_56 3 rfl ?_
            refine m_iald hC (wm_15 y g S40) (t0 := 0) rfl dX6_add_58 ?_
            intro x45
            refine m_if_ge hC 65 dX6_add_59 (by decide) ?_ ?_
            · refine m_iconst hC (0) dX6_add_65 (by decide) ?_
              refine m_istore hC [(0, .ref (g 0)), (1, .int a), (3, .int x38), (4, .int x39), (5, .int 0)] [1, 2, 3, 4, 0] dX6_add_66 (by decide) rfl rfl ?_
              refine (m_itK (z := (fun _ _ _ => none)) (F := fX6_add_L68 x39) N (fun K50 => ∀ (x51 : Int32) (S52 : St), Sm p l e (headSpec wsX6_add rmX6_add).room s m args below meth c D vwCl (wm y g) (AM g s.heap.size) 10 Q x0 (K50 x51 S52) S52 156 [(0, .ref (g 0)), (1, .int a), (3, .int x51), (4, .int x39)] []) (fun r49 => ∀ (x46 : Int32) (x47 : Int32) (S48 : St), Sm p l e (headSpec wsX6_add rmX6_add).room s m args below meth c D vwCl (wm y g) (AM g s.heap.size) 10 Q x0 (r49 x46 x47 S48) S48 68 [(0, .ref (g 0)), (1, .int a), (3, .int x46), (4, .int x39), (5, .int x47)] []) ?_ ?_ ?_) x38 0 S40
              · exact fun _ _ _ => m_none
              · intro x51 S52
                refine m_iinc hC (fun x53 => [(0, .ref (g 0)), (1, .int a), (3, .int x51), (4, .int x53)]) [1, 2, 3, 0] dX6_add_156 (j := 3) rfl (by decide) (by decide) (fun _ => rfl) (fun _ => rfl) ?_
                intro x53
                refine m_goto hC 46 dX6_add_159 (by decide) ?_
                exact hr41 _ _ _
              · intro K50 hK50 r49 hr49 x46 x47 S48
                unfold fX6_add_L68
                refine m_iload hC dX6_add_68 4 rfl ?_
                refine m_aload_n hC dX6_add_70 0 rfl ?_
                refine m_get hC iX6_add_X6 (wm_0 y g S48) rfl 3 (by decide) (List.mem_of_getElem? (i := 1) rfl) rfl rfl dX6_add_71 ?_
                refine m_icmp_ge hC 156 dX6_add_74 (by decide) ?_ ?_
                · refine m_lv [(0, .ref (g 0)), (1, .int a), (3, .int x46), (4, .int x39)] [0, 1, 2, 3] rfl ?_
                  exact hK50 _ _
                · refine m_aload_n hC dX6_add_77 0 rfl ?_
                  refine m_get hC iX6_add_X6 (wm_0 y g S48) rfl 33 (by decide) (List.mem_of_getElem? (i := 2) rfl) rfl rfl dX6_add_78 ?_
                  refine m_aload_n hC dX6_add_81 0 rfl ?_
                  refine m_get hC iX6_add_X6 (wm_0 y g S48) rfl 31 (by decide) (List.mem_of_getElem? (i := 4) rfl) rfl rfl dX6_add_82 ?_
                  refine m_iload hC dX6_add_85 3 rfl ?_
                  refine m_iald hC (wm_15 y g S48) (t0 := 0) rfl dX6_add_87 ?_
                  intro x54
                  refine m_lald hC (wm_17 y g S48) (t0 := 3) rfl dX6_add_88 ?_
                  intro x55
                  refine m_aload_n hC dX6_add_89 0 rfl ?_
                  refine m_iload hC dX6_add_90 3 rfl ?_
                  refine m_iload hC dX6_add_92 4 rfl ?_
                  refine m_cLPV hC (As := [.int x39, .int x47]) (wm_ok y g) (cwV 2 hC.1.2.2.2.2 gX6_add_X6_toil rfl rfl rfl (by decide +kernel) ⟨Nat.le_of_ble_eq_true rfl, Nat.le_of_ble_eq_true rfl⟩) (wm_0 y g S48) rfl (fun xq hq => kX6_toil l D y g x39 x47 S48 xq hq) rfl (Nat.le_of_ble_eq_true rfl) dX6_add_94 ?_
                  intro x56
                  refine m_ladd hC dX6_add_97 ?_
                  refine m_aload_n hC dX6_add_98 0 rfl ?_
                  refine m_iload hC dX6_add_99 3 rfl ?_
                  refine m_aload_n hC dX6_add_101 0 rfl ?_
                  refine m_get hC iX6_add_X6 (wm_0 y g S48) rfl 31 (by decide) (List.mem_of_getElem? (i := 4) rfl) rfl rfl dX6_add_102 ?_
                  refine m_iload hC dX6_add_105 3 rfl ?_
                  refine m_iald hC (wm_15 y g S48) (t0 := 0) rfl dX6_add_107 ?_
                  intro x57
                  refine m_cLPV hC (As := [.int x39, .int x57]) (wm_ok y g) (cwV 2 hC.1.2.2.2.2 gX6_add_X6_toil rfl rfl rfl (by decide +kernel) ⟨Nat.le_of_ble_eq_true rfl, Nat.le_of_ble_eq_true rfl⟩) (wm_0 y g S48) rfl (fun xq hq => kX6_toil l D y g x39 x57 S48 xq hq) rfl (Nat.le_of_ble_eq_true rfl) dX6_add_108 ?_
                  intro x58
                  refine m_lsub hC dX6_add_111 ?_
                  refine m_nmL ?_
                  intro x59
                  refine m_lstore hC [(0, .ref (g 0)), (1, .int a), (3, .int x46), (4, .int x39), (5, .int x47), (6, .long x59)] [1, 2, 3, 4, 5, 0] dX6_add_112 (by decide) rfl rfl ?_
                  refine m_lload hC dX6_add_114 5 rfl ?_
                  refine m_aload_n hC dX6_add_116 0 rfl ?_
                  refine m_get hC iX6_add_X6 (wm_0 y g S48) rfl 33 (by decide) (List.mem_of_getElem? (i := 2) rfl) rfl rfl dX6_add_117 ?_
                  refine m_iload hC dX6_add_120 4 rfl ?_
                  refine m_lald hC (wm_17 y g S48) (t0 := 3) rfl dX6_add_122 ?_
                  intro x60
                  refine m_lcmp hC dX6_add_123 ?_
                  refine m_if_lt hC 130 dX6_add_124 (by decide) ?_ ?_
                  · refine m_aload_n hC dX6_add_130 0 rfl ?_
                    refine m_get hC iX6_add_X6 (wm_0 y g S48) rfl 33 (by decide) (List.mem_of_getElem? (i := 2) rfl) rfl rfl dX6_add_131 ?_
                    refine m_iload hC dX6_add_134 4 rfl ?_
                    refine m_lload hC dX6_add_136 5 rfl ?_
                    refine m_last hC (wm_17 y g S48) (t0 := 3) rfl (wms_17 y g S48) dX6_add_138 ?_
                    intro S61
                    refine m_aload_n hC dX6_add_139 0 rfl ?_
                    refine m_get hC iX6_add_X6 (wm_0 y g S61) rfl 34 (by decide) (List.mem_of_getElem? (i := 3) rfl) rfl rfl dX6_add_140 ?_
                    refine m_iload hC dX6_add_143 4 rfl ?_
                    refine m_iload hC dX6_add_145 3 rfl ?_
                    refine m_iast hC (wm_18 y g S61) (t0 := 0) rfl (wms_18 y g S61) dX6_add_147 ?_
                    intro S62
                    refine m_iconst hC (1) dX6_add_148 (by decide) ?_
                    refine m_istore_n hC [(0, .ref (g 0)), (1, .int a), (3, .int 1), (4, .int x39), (5, .int x47), (6, .long x59)] [1, 2, 0, 3, 4, 5] dX6_add_149 (by decide) rfl rfl ?_
                    refine m_iinc hC (fun x63 => [(0, .ref (g 0)), (1, .int a), (3, .int 1), (4, .int x39), (5, .int x63), (6, .long x59)]) [1, 2, 3, 4, 0, 5] dX6_add_150 (j := 4) rfl (by decide) (by decide) (fun _ => rfl) (fun _ => rfl) ?_
                    intro x63
                    refine m_goto hC 68 dX6_add_153 (by decide) ?_
                    refine m_lv [(0, .ref (g 0)), (1, .int a), (3, .int 1), (4, .int x39), (5, .int x63)] [0, 1, 2, 3, 4] rfl ?_
                    exact hr49 _ _ _
                  · refine m_goto hC 150 dX6_add_127 (by decide) ?_
                    refine m_iinc hC (fun x64 => [(0, .ref (g 0)), (1, .int a), (3, .int x46), (4, .int x39), (5, .int x64), (6, .long x59)]) [1, 2, 3, 4, 0, 5] dX6_add_150 (j := 4) rfl (by decide) (by decide) (fun _ => rfl) (fun _ => rfl) ?_
                    intro x64
                    refine m_goto hC 68 dX6_add_153 (by decide) ?_
                    refine m_lv [(0, .ref (g 0)), (1, .int a), (3, .int x46), (4, .int x39), (5, .int x64)] [0, 1, 2, 3, 4] rfl ?_
                    exact hr49 _ _ _
            · refine m_goto hC 156 dX6_add_62 (by decide) ?_
              refine m_iinc hC (fun x65 => [(0, .ref (g 0)), (1, .int a), (3, .int x38), (4, .int x65)]) [1, 2, 3, 0] dX6_add_156 (j := 3) rfl (by decide) (by decide) (fun _ => rfl) (fun _ => rfl) ?_
              intro x65
              refine m_goto hC 46 dX6_add_159 (by decide) ?_
              exact hr41 _ _ _
  · intro K4 hK4 r3 hr3 x1 S2
    unfold fX6_add_L2
    refine m_iload_n hC dX6_add_2 2 rfl ?_
    refine m_aload_n hC dX6_add_3 0 rfl ?_
    refine m_get hC iX6_add_X6 (wm_0 y g S2) rfl 3 (by decide) (List.mem_of_getElem? (i := 1) rfl) rfl rfl dX6_add_4 ?_
    refine m_icmp_ge hC 35 dX6_add_7 (by decide) ?_ ?_
    · refine m_lv [(0, .ref (g 0)), (1, .int a)] [0, 1] rfl ?_
      exact hK4 _
    · refine m_aload_n hC dX6_add_10 0 rfl ?_
      refine m_get hC iX6_add_X6 (wm_0 y g S2) rfl 33 (by decide) (List.mem_of_getElem? (i := 2) rfl) rfl rfl dX6_add_11 ?_
      refine m_iload_n hC dX6_add_14 2 rfl ?_
      refine m_aload_n hC dX6_add_15 0 rfl ?_
      refine m_iload_n hC dX6_add_16 1 rfl ?_
      refine m_iload_n hC dX6_add_17 2 rfl ?_
      refine m_cLPV hC (As := [.int a, .int x1]) (wm_ok y g) (cwV 2 hC.1.2.2.2.2 gX6_add_X6_toil rfl rfl rfl (by decide +kernel) ⟨Nat.le_of_ble_eq_true rfl, Nat.le_of_ble_eq_true rfl⟩) (wm_0 y g S2) rfl (fun xq hq => kX6_toil l D y g a x1 S2 xq hq) rfl (Nat.le_of_ble_eq_true rfl) dX6_add_18 ?_
      intro x66
      refine m_last hC (wm_17 y g S2) (t0 := 3) rfl (wms_17 y g S2) dX6_add_21 ?_
      intro S67
      refine m_aload_n hC dX6_add_22 0 rfl ?_
      refine m_get hC iX6_add_X6 (wm_0 y g S67) rfl 34 (by decide) (List.mem_of_getElem? (i := 3) rfl) rfl rfl dX6_add_23 ?_
      refine m_iload_n hC dX6_add_26 2 rfl ?_
      refine m_iconst hC (-1) dX6_add_27 (by decide) ?_
      refine m_iast hC (wm_18 y g S67) (t0 := 0) rfl (wms_18 y g S67) dX6_add_28 ?_
      intro S68
      refine m_iinc hC (fun x69 => [(0, .ref (g 0)), (1, .int a), (3, .int x69)]) [1, 2, 0] dX6_add_29 (j := 2) rfl (by decide) (by decide) (fun _ => rfl) (fun _ => rfl) ?_
      intro x69
      refine m_goto hC 2 dX6_add_32 (by decide) ?_
      exact hr3 _ _
def fX6_beside_L2 (a : Int32) (b : Int32) (S : St) (r2 : Int32 → Option (Int32)) : Int32 → Option (Int32) := fun x1 =>
  if x1 < (S.1 0 19) then
    ldI 150 (S.1 8) x1 fun x3 =>
    ldI 150 (S.1 8) a fun x4 =>
    if x3 = x4 then
      ldI 150 (S.1 11) x1 fun x6 =>
      if x6 = 0 then
        nmI (x1 + 1) fun x17 =>
        r2 x17
      else
        if b = 0 then
          ldI 150 (S.1 9) x1 fun x7 =>
          ldI 150 (S.1 7) x1 fun x8 =>
          ldI 8 (S.1 1) x8 fun x9 =>
          ldI 150 (S.1 9) a fun x10 =>
          if (x7 + x9) = x10 then
            some 1
          else
            nmI (x1 + 1) fun x11 =>
            r2 x11
        else
          ldI 150 (S.1 9) x1 fun x12 =>
          ldI 150 (S.1 9) a fun x13 =>
          ldI 150 (S.1 7) a fun x14 =>
          ldI 8 (S.1 1) x14 fun x15 =>
          if x12 = (x13 + x15) then
            some 1
          else
            nmI (x1 + 1) fun x16 =>
            r2 x16
    else
      nmI (x1 + 1) fun x5 =>
      r2 x5
  else
    some 0
def fX6_beside (N : Nat) (a : Int32) (b : Int32) (S : St) : Option (Int32) :=
  itN (fun _ => none) (fX6_beside_L2 a b S) N 0
abbrev rmX6_beside : Room := { frames := 0, cells := 0, slots := 0, locals := 0 }
theorem iX6_beside_X6 : ∀ w ∈ wsX60, w ∈ wsX6_beside := fun w h => List.mem_cons_of_mem _ (List.mem_append_right _ h)
set_option maxHeartbeats 4000000 in
set_option maxRecDepth 100000 in
theorem kX6_beside (l : Launch) (D : va_G) (y : Cy) (g : Nat → Nat) (N : Nat) (a : Int32) (b : Int32) (S : St) (x0 : Int32) (h : fX6_beside N a b S = some x0) : KI l yX6_beside wsX6_beside rmX6_beside D vwCl (tz y) (wm y g) (AM g) [.ref (g 0), .int a, .int b] S (fun r S2 => r = x0 ∧ S2 = S) := by
  refine m_entryIP (wm_ok y g) (by decide) rfl (Nat.le_of_ble_eq_true rfl) (lv := [(0, .ref (g 0)), (1, .int a), (2, .int b)]) rfl h ?_
  intro p e s m args below meth c hC hr hlocks
  obtain ⟨Q, hQ⟩ : ∃ Q, Q = (MQ below (va_Qi (fun r S2 => r = x0 ∧ S2 = S) (Bw D vwCl (tz y) (wm y g) (AM g s.heap.size)) (AM g s.heap.size)) args s 0 0 (AM g s.heap.size)) := ⟨_, rfl⟩
  rw [← hQ]
  have hret : ∀ (v : Int32) (pc : Nat) (lv : List (Nat × Value)), decode cX6_beside pc = .ok (.ireturn, 1) → narrow .boolean (.int v) = .int v → Sm p l e (headSpec wsX6_beside rmX6_beside).room s m args below meth c D vwCl (wm y g) (AM g s.heap.size) 4 Q x0 (some v) S pc lv [.int v] := by
    rw [hQ]
    exact fun v pc lv hd hz => m_zretP hC hz hr hlocks hd
  clear hQ
  unfold fX6_beside
  refine m_iconst hC (0) dX6_beside_0 (by decide) ?_
  refine m_istore_n hC [(0, .ref (g 0)), (1, .int a), (2, .int b), (3, .int 0)] [1, 2, 3, 0] dX6_beside_1 (by decide) rfl rfl ?_
  refine (m_it (z := (fun _ => none)) (F := fX6_beside_L2 a b S) N (fun r2 => ∀ (x1 : Int32), Sm p l e (headSpec wsX6_beside rmX6_beside).room s m args below meth c D vwCl (wm y g) (AM g s.heap.size) 4 Q x0 (r2 x1) S 2 [(0, .ref (g 0)), (1, .int a), (2, .int b), (3, .int x1)] []) ?_ ?_) 0
  · exact fun _ => m_none
  · intro r2 hr2 x1
    unfold fX6_beside_L2
    refine m_iload_n hC dX6_beside_2 3 rfl ?_
    refine m_aload_n hC dX6_beside_3 0 rfl ?_
    refine m_get hC iX6_beside_X6 (wm_0 y g S) rfl 19 (by decide) (List.mem_of_getElem? (i := 1) rfl) rfl rfl dX6_beside_4 ?_
    refine m_icmp_ge hC 106 dX6_beside_7 (by decide) ?_ ?_
    · refine m_iconst hC (0) dX6_beside_106 (by decide) ?_
      exact hret _ _ _ dX6_beside_107 rfl
    · refine m_aload_n hC dX6_beside_10 0 rfl ?_
      refine m_get hC iX6_beside_X6 (wm_0 y g S) rfl 21 (by decide) (List.mem_of_getElem? (i := 2) rfl) rfl rfl dX6_beside_11 ?_
      refine m_iload_n hC dX6_beside_14 3 rfl ?_
      refine m_iald hC (wm_8 y g S) (t0 := 0) rfl dX6_beside_15 ?_
      intro x3
      refine m_aload_n hC dX6_beside_16 0 rfl ?_
      refine m_get hC iX6_beside_X6 (wm_0 y g S) rfl 21 (by decide) (List.mem_of_getElem? (i := 2) rfl) rfl rfl dX6_beside_17 ?_
      refine m_iload_n hC dX6_beside_20 1 rfl ?_
      refine m_iald hC (wm_8 y g S) (t0 := 0) rfl dX6_beside_21 ?_
      intro x4
      refine m_icmp_ne hC 100 dX6_beside_22 (by decide) ?_ ?_
      · refine m_iinc hC (fun x5 => [(0, .ref (g 0)), (1, .int a), (2, .int b), (3, .int x5)]) [1, 2, 3, 0] dX6_beside_100 (j := 3) rfl (by decide) (by decide) (fun _ => rfl) (fun _ => rfl) ?_
        intro x5
        refine m_goto hC 2 dX6_beside_103 (by decide) ?_
        exact hr2 _
      · refine m_aload_n hC dX6_beside_25 0 rfl ?_
        refine m_get hC iX6_beside_X6 (wm_0 y g S) rfl 24 (by decide) (List.mem_of_getElem? (i := 3) rfl) rfl rfl dX6_beside_26 ?_
        refine m_iload_n hC dX6_beside_29 3 rfl ?_
        refine m_zald hC (wm_11 y g S) (t0 := 1) rfl dX6_beside_30 ?_
        intro x6
        refine m_if_ne hC 37 dX6_beside_31 (by decide) ?_ ?_
        · refine m_iload_n hC dX6_beside_37 2 rfl ?_
          refine m_if_eq hC 71 dX6_beside_38 (by decide) ?_ ?_
          · refine m_aload_n hC dX6_beside_71 0 rfl ?_
            refine m_get hC iX6_beside_X6 (wm_0 y g S) rfl 22 (by decide) (List.mem_of_getElem? (i := 4) rfl) rfl rfl dX6_beside_72 ?_
            refine m_iload_n hC dX6_beside_75 3 rfl ?_
            refine m_iald hC (wm_9 y g S) (t0 := 0) rfl dX6_beside_76 ?_
            intro x7
            refine m_aload_n hC dX6_beside_77 0 rfl ?_
            refine m_get hC iX6_beside_X6 (wm_0 y g S) rfl 1 (by decide) (List.mem_of_getElem? (i := 5) rfl) rfl rfl dX6_beside_78 ?_
            refine m_aload_n hC dX6_beside_81 0 rfl ?_
            refine m_get hC iX6_beside_X6 (wm_0 y g S) rfl 20 (by decide) (List.mem_of_getElem? (i := 6) rfl) rfl rfl dX6_beside_82 ?_
            refine m_iload_n hC dX6_beside_85 3 rfl ?_
            refine m_iald hC (wm_7 y g S) (t0 := 0) rfl dX6_beside_86 ?_
            intro x8
            refine m_iald hC (wm_1 y g S) (t0 := 0) rfl dX6_beside_87 ?_
            intro x9
            refine m_iadd hC dX6_beside_88 ?_
            refine m_aload_n hC dX6_beside_89 0 rfl ?_
            refine m_get hC iX6_beside_X6 (wm_0 y g S) rfl 22 (by decide) (List.mem_of_getElem? (i := 4) rfl) rfl rfl dX6_beside_90 ?_
            refine m_iload_n hC dX6_beside_93 1 rfl ?_
            refine m_iald hC (wm_9 y g S) (t0 := 0) rfl dX6_beside_94 ?_
            intro x10
            refine m_icmp_ne hC 100 dX6_beside_95 (by decide) ?_ ?_
            · refine m_iinc hC (fun x11 => [(0, .ref (g 0)), (1, .int a), (2, .int b), (3, .int x11)]) [1, 2, 3, 0] dX6_beside_100 (j := 3) rfl (by decide) (by decide) (fun _ => rfl) (fun _ => rfl) ?_
              intro x11
              refine m_goto hC 2 dX6_beside_103 (by decide) ?_
              exact hr2 _
            · refine m_iconst hC (1) dX6_beside_98 (by decide) ?_
              exact hret _ _ _ dX6_beside_99 rfl
          · refine m_aload_n hC dX6_beside_41 0 rfl ?_
            refine m_get hC iX6_beside_X6 (wm_0 y g S) rfl 22 (by decide) (List.mem_of_getElem? (i := 4) rfl) rfl rfl dX6_beside_42 ?_
            refine m_iload_n hC dX6_beside_45 3 rfl ?_
            refine m_iald hC (wm_9 y g S) (t0 := 0) rfl dX6_beside_46 ?_
            intro x12
            refine m_aload_n hC dX6_beside_47 0 rfl ?_
            refine m_get hC iX6_beside_X6 (wm_0 y g S) rfl 22 (by decide) (List.mem_of_getElem? (i := 4) rfl) rfl rfl dX6_beside_48 ?_
            refine m_iload_n hC dX6_beside_51 1 rfl ?_
            refine m_iald hC (wm_9 y g S) (t0 := 0) rfl dX6_beside_52 ?_
            intro x13
            refine m_aload_n hC dX6_beside_53 0 rfl ?_
            refine m_get hC iX6_beside_X6 (wm_0 y g S) rfl 1 (by decide) (List.mem_of_getElem? (i := 5) rfl) rfl rfl dX6_beside_54 ?_
            refine m_aload_n hC dX6_beside_57 0 rfl ?_
            refine m_get hC iX6_beside_X6 (wm_0 y g S) rfl 20 (by decide) (List.mem_of_getElem? (i := 6) rfl) rfl rfl dX6_beside_58 ?_
            refine m_iload_n hC dX6_beside_61 1 rfl ?_
            refine m_iald hC (wm_7 y g S) (t0 := 0) rfl dX6_beside_62 ?_
            intro x14
            refine m_iald hC (wm_1 y g S) (t0 := 0) rfl dX6_beside_63 ?_
            intro x15
            refine m_iadd hC dX6_beside_64 ?_
            refine m_icmp_ne hC 100 dX6_beside_65 (by decide) ?_ ?_
            · refine m_iinc hC (fun x16 => [(0, .ref (g 0)), (1, .int a), (2, .int b), (3, .int x16)]) [1, 2, 3, 0] dX6_beside_100 (j := 3) rfl (by decide) (by decide) (fun _ => rfl) (fun _ => rfl) ?_
              intro x16
              refine m_goto hC 2 dX6_beside_103 (by decide) ?_
              exact hr2 _
            · refine m_goto hC 98 dX6_beside_68 (by decide) ?_
              refine m_iconst hC (1) dX6_beside_98 (by decide) ?_
              exact hret _ _ _ dX6_beside_99 rfl
        · refine m_goto hC 100 dX6_beside_34 (by decide) ?_
          refine m_iinc hC (fun x17 => [(0, .ref (g 0)), (1, .int a), (2, .int b), (3, .int x17)]) [1, 2, 3, 0] dX6_beside_100 (j := 3) rfl (by decide) (by decide) (fun _ => rfl) (fun _ => rfl) ?_
          intro x17
          refine m_goto hC 2 dX6_beside_103 (by decide) ?_
          exact hr2 _
def fX6_build_L51 (x5 : Int32) (S6 : St) (K12 : Int32 → Option (Int64 × St)) (r11 : Int32 → Int32 → Option (Int64 × St)) : Int32 → Int32 → Option (Int64 × St) := fun x9 x10 =>
  if x10 < (S6.1 0 3) then
    ldI 150 (S6.1 7) x5 fun x23 =>
    ldI 40 (S6.1 5) ((8 * x10) + x23) fun x24 =>
    if x24 ≤ 0 then
      nmI (x10 + 1) fun x25 =>
      r11 x9 x25
    else
      if x9 < 0 then
        nmI (x10 + 1) fun x26 =>
        r11 x10 x26
      else
        caP (fX6_toil x5 x10 S6) fun x27 =>
        caP (fX6_toil x5 x9 S6) fun x28 =>
        if (lg_cmp x27 x28) < 0 then
          nmI (x10 + 1) fun x30 =>
          r11 x10 x30
        else
          nmI (x10 + 1) fun x29 =>
          r11 x9 x29
  else
    K12 x9
def fX6_build_L37 (N : Nat) (r7 : Int64 → Int32 → St → Option (Int64 × St)) : Int64 → Int32 → St → Option (Int64 × St) := fun x4 x5 S6 =>
  if x5 < (S6.1 0 19) then
    nmI (-1) fun x8 =>
    itN (fun _ _ => none) (fX6_build_L51 x5 S6 (fun (x13 : Int32) =>
        ldI 150 (S6.1 7) x5 fun x14 =>
        ldI 40 (S6.1 5) ((8 * x13) + x14) fun x15 =>
        stI S6 5 40 ((8 * x13) + x14) (x15 - 1) fun S16 =>
        stI S16 12 150 x5 x13 fun S17 =>
        stI S17 10 150 x5 99 fun S18 =>
        stI S18 11 150 x5 1 fun S19 =>
        caP (fX6_toil x5 x13 S19) fun x20 =>
        nmL (x4 + x20) fun x21 =>
        nmI (x5 + 1) fun x22 =>
        r7 x21 x22 S19)) N x8 0
  else
    some (x4, S6)
def fX6_build (N : Nat) (S : St) : Option (Int64 × St) :=
  pfI S 0 28 0 fun S1 =>
  if (S1.1 0 17) = 0 then
    some ((-1), S1)
  else
    if (S1.1 0 18) = 0 then
      pfI S1 0 18 1 fun S2 =>
      pfI S2 0 27 0 fun S3 =>
      itN (fun _ _ _ => none) (fX6_build_L37 N) N 0 0 S3
    else
      some ((-1), S1)
abbrev rmX6_build : Room := { frames := 2, cells := 0, slots := 0, locals := 43 }
theorem iX6_build_X6 : ∀ w ∈ wsX60, w ∈ wsX6_build := fun w h => List.mem_cons_of_mem _ (List.mem_append_right _ h)
set_option maxHeartbeats 4000000 in
set_option maxRecDepth 100000 in
theorem kX6_build (l : Launch) (D : va_G) (y : Cy) (g : Nat → Nat) (N : Nat) (S : St) (x0 : Int64 × St) (h : fX6_build N S = some x0) : KL l yX6_build wsX6_build rmX6_build D vwCl (tz y) (wm y g) (AM g) [.ref (g 0)] S (fun r S2 => (r, S2) = x0) := by
  refine m_entryL (wm_ok y g) (by decide) rfl (Nat.le_of_ble_eq_true rfl) (lv := [(0, .ref (g 0))]) rfl h ?_
  intro p e s m args below meth c hC hr hlocks
  obtain ⟨Q, hQ⟩ : ∃ Q, Q = (MQ below (va_Ql (fun r S2 => (r, S2) = x0) (Bw D vwCl (tz y) (wm y g) (AM g s.heap.size)) (AM g s.heap.size)) args s 0 0 (AM g s.heap.size)) := ⟨_, rfl⟩
  rw [← hQ]
  have hret : ∀ (v : Int64) (S2 : St) (pc : Nat) (lv : List (Nat × Value)), decode cX6_build pc = .ok (.lreturn, 1) → Sm p l e (headSpec wsX6_build rmX6_build).room s m args below meth c D vwCl (wm y g) (AM g s.heap.size) 6 Q x0 (some (v, S2)) S2 pc lv [.long v] := by
    rw [hQ]
    exact fun v S2 pc lv hd => m_lret hC hr hlocks hd
  clear hQ
  unfold fX6_build
  refine m_aload_n hC dX6_build_0 0 rfl ?_
  refine m_iconst hC (0) dX6_build_1 (by decide) ?_
  refine m_putI (ty := .int) hC iX6_build_X6 tyX6 tyX6_ok nmX6 (wm_0 y g S) rfl 28 (by decide) (List.mem_of_getElem? (i := 1) rfl) rfl rfl (by decide +kernel) rfl rfl (Nat.le_of_ble_eq_true rfl) dX6_build_2 (wmf_0_28 y g S _) ?_
  intro S1
  refine m_aload_n hC dX6_build_5 0 rfl ?_
  refine m_get hC iX6_build_X6 (wm_0 y g S1) rfl 17 (by decide) (List.mem_of_getElem? (i := 2) rfl) rfl rfl dX6_build_6 ?_
  refine m_if_eq hC 19 dX6_build_9 (by decide) ?_ ?_
  · refine m_ldc2 hC (List.mem_of_getElem? (i := 4) rfl) dX6_build_19 ?_
    exact hret _ _ _ _ dX6_build_22
  · refine m_aload_n hC dX6_build_12 0 rfl ?_
    refine m_get hC iX6_build_X6 (wm_0 y g S1) rfl 18 (by decide) (List.mem_of_getElem? (i := 3) rfl) rfl rfl dX6_build_13 ?_
    refine m_if_eq hC 23 dX6_build_16 (by decide) ?_ ?_
    · refine m_aload_n hC dX6_build_23 0 rfl ?_
      refine m_iconst hC (1) dX6_build_24 (by decide) ?_
      refine m_putI (ty := .boolean) hC iX6_build_X6 tyX6 tyX6_ok nmX6 (wm_0 y g S1) rfl 18 (by decide) (List.mem_of_getElem? (i := 3) rfl) rfl rfl (by decide +kernel) rfl rfl (Nat.le_of_ble_eq_true rfl) dX6_build_25 (wmf_0_18 y g S1 _) ?_
      intro S2
      refine m_aload_n hC dX6_build_28 0 rfl ?_
      refine m_iconst hC (0) dX6_build_29 (by decide) ?_
      refine m_putI (ty := .int) hC iX6_build_X6 tyX6 tyX6_ok nmX6 (wm_0 y g S2) rfl 27 (by decide) (List.mem_of_getElem? (i := 5) rfl) rfl rfl (by decide +kernel) rfl rfl (Nat.le_of_ble_eq_true rfl) dX6_build_30 (wmf_0_27 y g S2 _) ?_
      intro S3
      refine m_lconst hC (0) dX6_build_33 (by decide) ?_
      refine m_lstore_n hC [(0, .ref (g 0)), (1, .long 0)] [1, 0] dX6_build_34 (by decide) rfl rfl ?_
      refine m_iconst hC (0) dX6_build_35 (by decide) ?_
      refine m_istore_n hC [(0, .ref (g 0)), (1, .long 0), (3, .int 0)] [1, 2, 0] dX6_build_36 (by decide) rfl rfl ?_
      refine (m_it (z := (fun _ _ _ => none)) (F := fX6_build_L37 N) N (fun r7 => ∀ (x4 : Int64) (x5 : Int32) (S6 : St), Sm p l e (headSpec wsX6_build rmX6_build).room s m args below meth c D vwCl (wm y g) (AM g s.heap.size) 6 Q x0 (r7 x4 x5 S6) S6 37 [(0, .ref (g 0)), (1, .long x4), (3, .int x5)] []) ?_ ?_) 0 0 S3
      · exact fun _ _ _ => m_none
      · intro r7 hr7 x4 x5 S6
        unfold fX6_build_L37
        refine m_iload_n hC dX6_build_37 2 rfl ?_
        refine m_aload_n hC dX6_build_38 0 rfl ?_
        refine m_get hC iX6_build_X6 (wm_0 y g S6) rfl 19 (by decide) (List.mem_of_getElem? (i := 6) rfl) rfl rfl dX6_build_39 ?_
        refine m_icmp_ge hC 173 dX6_build_42 (by decide) ?_ ?_
        · refine m_lload_n hC dX6_build_173 1 rfl ?_
          exact hret _ _ _ _ dX6_build_174
        · refine m_iconst hC (-1) dX6_build_45 (by decide) ?_
          refine m_nmI ?_
          intro x8
          refine m_istore hC [(0, .ref (g 0)), (1, .long x4), (3, .int x5), (4, .int x8)] [1, 2, 3, 0] dX6_build_46 (by decide) rfl rfl ?_
          refine m_iconst hC (0) dX6_build_48 (by decide) ?_
          refine m_istore hC [(0, .ref (g 0)), (1, .long x4), (3, .int x5), (4, .int x8), (5, .int 0)] [1, 2, 3, 4, 0] dX6_build_49 (by decide) rfl rfl ?_
          refine (m_itK (z := (fun _ _ => none)) (F := fX6_build_L51 x5 S6) N (fun K12 => ∀ (x13 : Int32), Sm p l e (headSpec wsX6_build rmX6_build).room s m args below meth c D vwCl (wm y g) (AM g s.heap.size) 6 Q x0 (K12 x13) S6 113 [(0, .ref (g 0)), (1, .long x4), (3, .int x5), (4, .int x13)] []) (fun r11 => ∀ (x9 : Int32) (x10 : Int32), Sm p l e (headSpec wsX6_build rmX6_build).room s m args below meth c D vwCl (wm y g) (AM g s.heap.size) 6 Q x0 (r11 x9 x10) S6 51 [(0, .ref (g 0)), (1, .long x4), (3, .int x5), (4, .int x9), (5, .int x10)] []) ?_ ?_ ?_) x8 0
          · exact fun _ _ => m_none
          · intro x13
            refine m_aload_n hC dX6_build_113 0 rfl ?_
            refine m_get hC iX6_build_X6 (wm_0 y g S6) rfl 6 (by decide) (List.mem_of_getElem? (i := 8) rfl) rfl rfl dX6_build_114 ?_
            refine m_bipush hC (8) dX6_build_117 (by decide) ?_
            refine m_iload hC dX6_build_119 3 rfl ?_
            refine m_imul hC dX6_build_121 ?_
            refine m_aload_n hC dX6_build_122 0 rfl ?_
            refine m_get hC iX6_build_X6 (wm_0 y g S6) rfl 20 (by decide) (List.mem_of_getElem? (i := 9) rfl) rfl rfl dX6_build_123 ?_
            refine m_iload_n hC dX6_build_126 2 rfl ?_
            refine m_iald hC (wm_7 y g S6) (t0 := 0) rfl dX6_build_127 ?_
            intro x14
            refine m_iadd hC dX6_build_128 ?_
            refine m_dup2 hC dX6_build_129 rfl rfl ?_
            refine m_iald hC (wm_5 y g S6) (t0 := 0) rfl dX6_build_130 ?_
            intro x15
            refine m_iconst hC (1) dX6_build_131 (by decide) ?_
            refine m_isub hC dX6_build_132 ?_
            refine m_iast hC (wm_5 y g S6) (t0 := 0) rfl (wms_5 y g S6) dX6_build_133 ?_
            intro S16
            refine m_aload_n hC dX6_build_134 0 rfl ?_
            refine m_get hC iX6_build_X6 (wm_0 y g S16) rfl 25 (by decide) (List.mem_of_getElem? (i := 10) rfl) rfl rfl dX6_build_135 ?_
            refine m_iload_n hC dX6_build_138 2 rfl ?_
            refine m_iload hC dX6_build_139 3 rfl ?_
            refine m_iast hC (wm_12 y g S16) (t0 := 0) rfl (wms_12 y g S16) dX6_build_141 ?_
            intro S17
            refine m_aload_n hC dX6_build_142 0 rfl ?_
            refine m_get hC iX6_build_X6 (wm_0 y g S17) rfl 23 (by decide) (List.mem_of_getElem? (i := 11) rfl) rfl rfl dX6_build_143 ?_
            refine m_iload_n hC dX6_build_146 2 rfl ?_
            refine m_bipush hC (99) dX6_build_147 (by decide) ?_
            refine m_iast hC (wm_10 y g S17) (t0 := 0) rfl (wms_10 y g S17) dX6_build_149 ?_
            intro S18
            refine m_aload_n hC dX6_build_150 0 rfl ?_
            refine m_get hC iX6_build_X6 (wm_0 y g S18) rfl 24 (by decide) (List.mem_of_getElem? (i := 12) rfl) rfl rfl dX6_build_151 ?_
            refine m_iload_n hC dX6_build_154 2 rfl ?_
            refine m_iconst hC (1) dX6_build_155 (by decide) ?_
            refine m_zast hC (by decide) (wm_11 y g S18) (t0 := 1) rfl (wms_11 y g S18) dX6_build_156 ?_
            intro S19
            refine m_lload_n hC dX6_build_157 1 rfl ?_
            refine m_aload_n hC dX6_build_158 0 rfl ?_
            refine m_iload_n hC dX6_build_159 2 rfl ?_
            refine m_iload hC dX6_build_160 3 rfl ?_
            refine m_cLPV hC (As := [.int x5, .int x13]) (wm_ok y g) (cwV 2 hC.1.2.2.2.2 gX6_build_X6_toil rfl rfl rfl (by decide +kernel) ⟨Nat.le_of_ble_eq_true rfl, Nat.le_of_ble_eq_true rfl⟩) (wm_0 y g S19) rfl (fun xq hq => kX6_toil l D y g x5 x13 S19 xq hq) rfl (Nat.le_of_ble_eq_true rfl) dX6_build_162 ?_
            intro x20
            refine m_ladd hC dX6_build_165 ?_
            refine m_nmL ?_
            intro x21
            refine m_lstore_n hC [(0, .ref (g 0)), (1, .long x21), (3, .int x5), (4, .int x13)] [1, 0, 2, 3] dX6_build_166 (by decide) rfl rfl ?_
            refine m_iinc hC (fun x22 => [(0, .ref (g 0)), (1, .long x21), (3, .int x22), (4, .int x13)]) [1, 2, 0, 3] dX6_build_167 (j := 2) rfl (by decide) (by decide) (fun _ => rfl) (fun _ => rfl) ?_
            intro x22
            refine m_goto hC 37 dX6_build_170 (by decide) ?_
            refine m_lv [(0, .ref (g 0)), (1, .long x21), (3, .int x22)] [0, 1, 2] rfl ?_
            exact hr7 _ _ _
          · intro K12 hK12 r11 hr11 x9 x10
            unfold fX6_build_L51
            refine m_iload hC dX6_build_51 4 rfl ?_
            refine m_aload_n hC dX6_build_53 0 rfl ?_
            refine m_get hC iX6_build_X6 (wm_0 y g S6) rfl 3 (by decide) (List.mem_of_getElem? (i := 7) rfl) rfl rfl dX6_build_54 ?_
            refine m_icmp_ge hC 113 dX6_build_57 (by decide) ?_ ?_
            · refine m_lv [(0, .ref (g 0)), (1, .long x4), (3, .int x5), (4, .int x9)] [0, 1, 2, 3] rfl ?_
              exact hK12 _
            · refine m_aload_n hC dX6_build_60 0 rfl ?_
              refine m_get hC iX6_build_X6 (wm_0 y g S6) rfl 6 (by decide) (List.mem_of_getElem? (i := 8) rfl) rfl rfl dX6_build_61 ?_
              refine m_bipush hC (8) dX6_build_64 (by decide) ?_
              refine m_iload hC dX6_build_66 4 rfl ?_
              refine m_imul hC dX6_build_68 ?_
              refine m_aload_n hC dX6_build_69 0 rfl ?_
              refine m_get hC iX6_build_X6 (wm_0 y g S6) rfl 20 (by decide) (List.mem_of_getElem? (i := 9) rfl) rfl rfl dX6_build_70 ?_
              refine m_iload_n hC dX6_build_73 2 rfl ?_
              refine m_iald hC (wm_7 y g S6) (t0 := 0) rfl dX6_build_74 ?_
              intro x23
              refine m_iadd hC dX6_build_75 ?_
              refine m_iald hC (wm_5 y g S6) (t0 := 0) rfl dX6_build_76 ?_
              intro x24
              refine m_if_le hC 107 dX6_build_77 (by decide) ?_ ?_
              · refine m_iinc hC (fun x25 => [(0, .ref (g 0)), (1, .long x4), (3, .int x5), (4, .int x9), (5, .int x25)]) [1, 2, 3, 4, 0] dX6_build_107 (j := 4) rfl (by decide) (by decide) (fun _ => rfl) (fun _ => rfl) ?_
                intro x25
                refine m_goto hC 51 dX6_build_110 (by decide) ?_
                exact hr11 _ _
              · refine m_iload hC dX6_build_80 3 rfl ?_
                refine m_if_lt hC 103 dX6_build_82 (by decide) ?_ ?_
                · refine m_iload hC dX6_build_103 4 rfl ?_
                  refine m_istore hC [(0, .ref (g 0)), (1, .long x4), (3, .int x5), (4, .int x10), (5, .int x10)] [1, 2, 3, 0, 4] dX6_build_105 (by decide) rfl rfl ?_
                  refine m_iinc hC (fun x26 => [(0, .ref (g 0)), (1, .long x4), (3, .int x5), (4, .int x10), (5, .int x26)]) [1, 2, 3, 4, 0] dX6_build_107 (j := 4) rfl (by decide) (by decide) (fun _ => rfl) (fun _ => rfl) ?_
                  intro x26
                  refine m_goto hC 51 dX6_build_110 (by decide) ?_
                  exact hr11 _ _
                · refine m_aload_n hC dX6_build_85 0 rfl ?_
                  refine m_iload_n hC dX6_build_86 2 rfl ?_
                  refine m_iload hC dX6_build_87 4 rfl ?_
                  refine m_cLPV hC (As := [.int x5, .int x10]) (wm_ok y g) (cwV 2 hC.1.2.2.2.2 gX6_build_X6_toil rfl rfl rfl (by decide +kernel) ⟨Nat.le_of_ble_eq_true rfl, Nat.le_of_ble_eq_true rfl⟩) (wm_0 y g S6) rfl (fun xq hq => kX6_toil l D y g x5 x10 S6 xq hq) rfl (Nat.le_of_ble_eq_true rfl) dX6_build_89 ?_
                  intro x27
                  refine m_aload_n hC dX6_build_92 0 rfl ?_
                  refine m_iload_n hC dX6_build_93 2 rfl ?_
                  refine m_iload hC dX6_build_94 3 rfl ?_
                  refine m_cLPV hC (As := [.int x5, .int x9]) (wm_ok y g) (cwV 2 hC.1.2.2.2.2 gX6_build_X6_toil rfl rfl rfl (by decide +kernel) ⟨Nat.le_of_ble_eq_true rfl, Nat.le_of_ble_eq_true rfl⟩) (wm_0 y g S6) rfl (fun xq hq => kX6_toil l D y g x5 x9 S6 xq hq) rfl (Nat.le_of_ble_eq_true rfl) dX6_build_96 ?_
                  intro x28
                  refine m_lcmp hC dX6_build_99 ?_
                  refine m_if_ge hC 107 dX6_build_100 (by decide) ?_ ?_
                  · refine m_iinc hC (fun x29 => [(0, .ref (g 0)), (1, .long x4), (3, .int x5), (4, .int x9), (5, .int x29)]) [1, 2, 3, 4, 0] dX6_build_107 (j := 4) rfl (by decide) (by decide) (fun _ => rfl) (fun _ => rfl) ?_
                    intro x29
                    refine m_goto hC 51 dX6_build_110 (by decide) ?_
                    exact hr11 _ _
                  · refine m_iload hC dX6_build_103 4 rfl ?_
                    refine m_istore hC [(0, .ref (g 0)), (1, .long x4), (3, .int x5), (4, .int x10), (5, .int x10)] [1, 2, 3, 0, 4] dX6_build_105 (by decide) rfl rfl ?_
                    refine m_iinc hC (fun x30 => [(0, .ref (g 0)), (1, .long x4), (3, .int x5), (4, .int x10), (5, .int x30)]) [1, 2, 3, 4, 0] dX6_build_107 (j := 4) rfl (by decide) (by decide) (fun _ => rfl) (fun _ => rfl) ?_
                    intro x30
                    refine m_goto hC 51 dX6_build_110 (by decide) ?_
                    exact hr11 _ _
    · refine m_ldc2 hC (List.mem_of_getElem? (i := 4) rfl) dX6_build_19 ?_
      exact hret _ _ _ _ dX6_build_22
def fX6_width (a : Int32) (S : St) : Option (Int32) :=
  if ((S.1 0 13) - (a * (S.1 0 14))) < 1 then
    some 1
  else
    some ((S.1 0 13) - (a * (S.1 0 14)))
abbrev rmX6_width : Room := { frames := 0, cells := 0, slots := 0, locals := 0 }
theorem iX6_width_X6 : ∀ w ∈ wsX60, w ∈ wsX6_width := fun w h => List.mem_cons_of_mem _ (List.mem_append_right _ h)
set_option maxHeartbeats 4000000 in
set_option maxRecDepth 100000 in
theorem kX6_width (l : Launch) (D : va_G) (y : Cy) (g : Nat → Nat) (a : Int32) (S : St) (x0 : Int32) (h : fX6_width a S = some x0) : KI l yX6_width wsX6_width rmX6_width D vwCl (tz y) (wm y g) (AM g) [.ref (g 0), .int a] S (fun r S2 => r = x0 ∧ S2 = S) := by
  refine m_entryIP (wm_ok y g) (by decide) rfl (Nat.le_of_ble_eq_true rfl) (lv := [(0, .ref (g 0)), (1, .int a)]) rfl h ?_
  intro p e s m args below meth c hC hr hlocks
  obtain ⟨Q, hQ⟩ : ∃ Q, Q = (MQ below (va_Qi (fun r S2 => r = x0 ∧ S2 = S) (Bw D vwCl (tz y) (wm y g) (AM g s.heap.size)) (AM g s.heap.size)) args s 0 0 (AM g s.heap.size)) := ⟨_, rfl⟩
  rw [← hQ]
  have hret : ∀ (v : Int32) (pc : Nat) (lv : List (Nat × Value)), decode cX6_width pc = .ok (.ireturn, 1) → Sm p l e (headSpec wsX6_width rmX6_width).room s m args below meth c D vwCl (wm y g) (AM g s.heap.size) 2 Q x0 (some v) S pc lv [.int v] := by
    rw [hQ]
    exact fun v pc lv hd => m_iretP hC hr hlocks hd
  clear hQ
  unfold fX6_width
  refine m_aload_n hC dX6_width_0 0 rfl ?_
  refine m_get hC iX6_width_X6 (wm_0 y g S) rfl 13 (by decide) (List.mem_of_getElem? (i := 1) rfl) rfl rfl dX6_width_1 ?_
  refine m_iload_n hC dX6_width_4 1 rfl ?_
  refine m_aload_n hC dX6_width_5 0 rfl ?_
  refine m_get hC iX6_width_X6 (wm_0 y g S) rfl 14 (by decide) (List.mem_of_getElem? (i := 2) rfl) rfl rfl dX6_width_6 ?_
  refine m_imul hC dX6_width_9 ?_
  refine m_isub hC dX6_width_10 ?_
  refine m_iconst hC (1) dX6_width_11 (by decide) ?_
  refine m_icmp_ge hC 19 dX6_width_12 (by decide) ?_ ?_
  · refine m_aload_n hC dX6_width_19 0 rfl ?_
    refine m_get hC iX6_width_X6 (wm_0 y g S) rfl 13 (by decide) (List.mem_of_getElem? (i := 1) rfl) rfl rfl dX6_width_20 ?_
    refine m_iload_n hC dX6_width_23 1 rfl ?_
    refine m_aload_n hC dX6_width_24 0 rfl ?_
    refine m_get hC iX6_width_X6 (wm_0 y g S) rfl 14 (by decide) (List.mem_of_getElem? (i := 2) rfl) rfl rfl dX6_width_25 ?_
    refine m_imul hC dX6_width_28 ?_
    refine m_isub hC dX6_width_29 ?_
    exact hret _ _ _ dX6_width_30
  · refine m_iconst hC (1) dX6_width_15 (by decide) ?_
    refine m_goto hC 30 dX6_width_16 (by decide) ?_
    exact hret _ _ _ dX6_width_30
def fX6_inHeaps_L4 (a : Int32) (S : St) (r3 : Int32 → Int32 → Option (Int32)) : Int32 → Int32 → Option (Int32) := fun x1 x2 =>
  if x2 < (S.1 0 3) then
    ldI 40 (S.1 5) ((8 * x2) + a) fun x4 =>
    nmI (x1 + x4) fun x5 =>
    nmI (x2 + 1) fun x6 =>
    r3 x5 x6
  else
    some x1
def fX6_inHeaps (N : Nat) (a : Int32) (S : St) : Option (Int32) :=
  itN (fun _ _ => none) (fX6_inHeaps_L4 a S) N 0 0
abbrev rmX6_inHeaps : Room := { frames := 0, cells := 0, slots := 0, locals := 0 }
theorem iX6_inHeaps_X6 : ∀ w ∈ wsX60, w ∈ wsX6_inHeaps := fun w h => List.mem_cons_of_mem _ (List.mem_append_right _ h)
set_option maxHeartbeats 4000000 in
set_option maxRecDepth 100000 in
theorem kX6_inHeaps (l : Launch) (D : va_G) (y : Cy) (g : Nat → Nat) (N : Nat) (a : Int32) (S : St) (x0 : Int32) (h : fX6_inHeaps N a S = some x0) : KI l yX6_inHeaps wsX6_inHeaps rmX6_inHeaps D vwCl (tz y) (wm y g) (AM g) [.ref (g 0), .int a] S (fun r S2 => r = x0 ∧ S2 = S) := by
  refine m_entryIP (wm_ok y g) (by decide) rfl (Nat.le_of_ble_eq_true rfl) (lv := [(0, .ref (g 0)), (1, .int a)]) rfl h ?_
  intro p e s m args below meth c hC hr hlocks
  obtain ⟨Q, hQ⟩ : ∃ Q, Q = (MQ below (va_Qi (fun r S2 => r = x0 ∧ S2 = S) (Bw D vwCl (tz y) (wm y g) (AM g s.heap.size)) (AM g s.heap.size)) args s 0 0 (AM g s.heap.size)) := ⟨_, rfl⟩
  rw [← hQ]
  have hret : ∀ (v : Int32) (pc : Nat) (lv : List (Nat × Value)), decode cX6_inHeaps pc = .ok (.ireturn, 1) → Sm p l e (headSpec wsX6_inHeaps rmX6_inHeaps).room s m args below meth c D vwCl (wm y g) (AM g s.heap.size) 4 Q x0 (some v) S pc lv [.int v] := by
    rw [hQ]
    exact fun v pc lv hd => m_iretP hC hr hlocks hd
  clear hQ
  unfold fX6_inHeaps
  refine m_iconst hC (0) dX6_inHeaps_0 (by decide) ?_
  refine m_istore_n hC [(0, .ref (g 0)), (1, .int a), (2, .int 0)] [1, 2, 0] dX6_inHeaps_1 (by decide) rfl rfl ?_
  refine m_iconst hC (0) dX6_inHeaps_2 (by decide) ?_
  refine m_istore_n hC [(0, .ref (g 0)), (1, .int a), (2, .int 0), (3, .int 0)] [1, 2, 3, 0] dX6_inHeaps_3 (by decide) rfl rfl ?_
  refine (m_it (z := (fun _ _ => none)) (F := fX6_inHeaps_L4 a S) N (fun r3 => ∀ (x1 : Int32) (x2 : Int32), Sm p l e (headSpec wsX6_inHeaps rmX6_inHeaps).room s m args below meth c D vwCl (wm y g) (AM g s.heap.size) 4 Q x0 (r3 x1 x2) S 4 [(0, .ref (g 0)), (1, .int a), (2, .int x1), (3, .int x2)] []) ?_ ?_) 0 0
  · exact fun _ _ => m_none
  · intro r3 hr3 x1 x2
    unfold fX6_inHeaps_L4
    refine m_iload_n hC dX6_inHeaps_4 3 rfl ?_
    refine m_aload_n hC dX6_inHeaps_5 0 rfl ?_
    refine m_get hC iX6_inHeaps_X6 (wm_0 y g S) rfl 3 (by decide) (List.mem_of_getElem? (i := 1) rfl) rfl rfl dX6_inHeaps_6 ?_
    refine m_icmp_ge hC 32 dX6_inHeaps_9 (by decide) ?_ ?_
    · refine m_iload_n hC dX6_inHeaps_32 2 rfl ?_
      exact hret _ _ _ dX6_inHeaps_33
    · refine m_iload_n hC dX6_inHeaps_12 2 rfl ?_
      refine m_aload_n hC dX6_inHeaps_13 0 rfl ?_
      refine m_get hC iX6_inHeaps_X6 (wm_0 y g S) rfl 6 (by decide) (List.mem_of_getElem? (i := 2) rfl) rfl rfl dX6_inHeaps_14 ?_
      refine m_bipush hC (8) dX6_inHeaps_17 (by decide) ?_
      refine m_iload_n hC dX6_inHeaps_19 3 rfl ?_
      refine m_imul hC dX6_inHeaps_20 ?_
      refine m_iload_n hC dX6_inHeaps_21 1 rfl ?_
      refine m_iadd hC dX6_inHeaps_22 ?_
      refine m_iald hC (wm_5 y g S) (t0 := 0) rfl dX6_inHeaps_23 ?_
      intro x4
      refine m_iadd hC dX6_inHeaps_24 ?_
      refine m_nmI ?_
      intro x5
      refine m_istore_n hC [(0, .ref (g 0)), (1, .int a), (2, .int x5), (3, .int x2)] [1, 2, 0, 3] dX6_inHeaps_25 (by decide) rfl rfl ?_
      refine m_iinc hC (fun x6 => [(0, .ref (g 0)), (1, .int a), (2, .int x5), (3, .int x6)]) [1, 2, 3, 0] dX6_inHeaps_26 (j := 3) rfl (by decide) (by decide) (fun _ => rfl) (fun _ => rfl) ?_
      intro x6
      refine m_goto hC 4 dX6_inHeaps_29 (by decide) ?_
      exact hr3 _ _
def fX6_can_L55 (b : Int32) (c2 : Int32) (x2 : Int32) (S : St) (r8 : Int32 → Option (Int32)) : Int32 → Option (Int32) := fun x7 =>
  if x7 < b then
    if x2 < (S.1 0 11) then
      ldI 150 (S.1 8) x7 fun x9 =>
      if x9 = (c2 - 1) then
        ldI 150 (S.1 9) x7 fun x11 =>
        if x11 = x2 then
          some 0
        else
          nmI (x7 + 1) fun x12 =>
          r8 x12
      else
        nmI (x7 + 1) fun x10 =>
        r8 x10
    else
      some 1
  else
    some 1
def fX6_can (N : Nat) (a : Int32) (b : Int32) (c2 : Int32) (d2 : Int32) (S : St) : Option (Int32) :=
  ldI 8 (S.1 1) a fun x1 =>
  nmI (d2 + x1) fun x2 =>
  ldI 8 (S.1 2) a fun x3 =>
  caP (fX6_width c2 S) fun x4 =>
  if x3 ≤ (x4 + 1) then
    if x2 ≤ (S.1 0 11) then
      caP (fX6_inHeaps N a S) fun x5 =>
      ldI 8 (S.1 13) a fun x6 =>
      if x5 ≤ x6 then
        some 0
      else
        itN (fun _ => none) (fX6_can_L55 b c2 x2 S) N 0
    else
      some 0
  else
    some 0
abbrev rmX6_can : Room := { frames := 1, cells := 0, slots := 0, locals := 23 }
theorem iX6_can_X6 : ∀ w ∈ wsX60, w ∈ wsX6_can := fun w h => List.mem_cons_of_mem _ (List.mem_append_right _ h)
set_option maxHeartbeats 4000000 in
set_option maxRecDepth 100000 in
theorem kX6_can (l : Launch) (D : va_G) (y : Cy) (g : Nat → Nat) (N : Nat) (a : Int32) (b : Int32) (c2 : Int32) (d2 : Int32) (S : St) (x0 : Int32) (h : fX6_can N a b c2 d2 S = some x0) : KI l yX6_can wsX6_can rmX6_can D vwCl (tz y) (wm y g) (AM g) [.ref (g 0), .int a, .int b, .int c2, .int d2] S (fun r S2 => r = x0 ∧ S2 = S) := by
  refine m_entryIP (wm_ok y g) (by decide) rfl (Nat.le_of_ble_eq_true rfl) (lv := [(0, .ref (g 0)), (1, .int a), (2, .int b), (3, .int c2), (4, .int d2)]) rfl h ?_
  intro p e s m args below meth c hC hr hlocks
  obtain ⟨Q, hQ⟩ : ∃ Q, Q = (MQ below (va_Qi (fun r S2 => r = x0 ∧ S2 = S) (Bw D vwCl (tz y) (wm y g) (AM g s.heap.size)) (AM g s.heap.size)) args s 0 0 (AM g s.heap.size)) := ⟨_, rfl⟩
  rw [← hQ]
  have hret : ∀ (v : Int32) (pc : Nat) (lv : List (Nat × Value)), decode cX6_can pc = .ok (.ireturn, 1) → narrow .boolean (.int v) = .int v → Sm p l e (headSpec wsX6_can rmX6_can).room s m args below meth c D vwCl (wm y g) (AM g s.heap.size) 7 Q x0 (some v) S pc lv [.int v] := by
    rw [hQ]
    exact fun v pc lv hd hz => m_zretP hC hz hr hlocks hd
  clear hQ
  unfold fX6_can
  refine m_iload hC dX6_can_0 4 rfl ?_
  refine m_aload_n hC dX6_can_2 0 rfl ?_
  refine m_get hC iX6_can_X6 (wm_0 y g S) rfl 1 (by decide) (List.mem_of_getElem? (i := 1) rfl) rfl rfl dX6_can_3 ?_
  refine m_iload_n hC dX6_can_6 1 rfl ?_
  refine m_iald hC (wm_1 y g S) (t0 := 0) rfl dX6_can_7 ?_
  intro x1
  refine m_iadd hC dX6_can_8 ?_
  refine m_nmI ?_
  intro x2
  refine m_istore hC [(0, .ref (g 0)), (1, .int a), (2, .int b), (3, .int c2), (4, .int d2), (5, .int x2)] [1, 2, 3, 4, 5, 0] dX6_can_9 (by decide) rfl rfl ?_
  refine m_aload_n hC dX6_can_11 0 rfl ?_
  refine m_get hC iX6_can_X6 (wm_0 y g S) rfl 2 (by decide) (List.mem_of_getElem? (i := 2) rfl) rfl rfl dX6_can_12 ?_
  refine m_iload_n hC dX6_can_15 1 rfl ?_
  refine m_iald hC (wm_2 y g S) (t0 := 0) rfl dX6_can_16 ?_
  intro x3
  refine m_aload_n hC dX6_can_17 0 rfl ?_
  refine m_iload_n hC dX6_can_18 3 rfl ?_
  refine m_cIPV hC (As := [.int c2]) (wm_ok y g) (cwV 1 hC.1.2.2.2.2 gX6_can_X6_width rfl rfl rfl (by decide +kernel) ⟨Nat.le_of_ble_eq_true rfl, Nat.le_of_ble_eq_true rfl⟩) (wm_0 y g S) rfl (fun xq hq => kX6_width l D y g c2 S xq hq) rfl (Nat.le_of_ble_eq_true rfl) dX6_can_19 ?_
  intro x4
  refine m_iconst hC (1) dX6_can_22 (by decide) ?_
  refine m_iadd hC dX6_can_23 ?_
  refine m_icmp_gt hC 50 dX6_can_24 (by decide) ?_ ?_
  · refine m_iconst hC (0) dX6_can_50 (by decide) ?_
    exact hret _ _ _ dX6_can_51 rfl
  · refine m_iload hC dX6_can_27 5 rfl ?_
    refine m_aload_n hC dX6_can_29 0 rfl ?_
    refine m_get hC iX6_can_X6 (wm_0 y g S) rfl 11 (by decide) (List.mem_of_getElem? (i := 3) rfl) rfl rfl dX6_can_30 ?_
    refine m_icmp_gt hC 50 dX6_can_33 (by decide) ?_ ?_
    · refine m_iconst hC (0) dX6_can_50 (by decide) ?_
      exact hret _ _ _ dX6_can_51 rfl
    · refine m_aload_n hC dX6_can_36 0 rfl ?_
      refine m_iload_n hC dX6_can_37 1 rfl ?_
      refine m_cIPV hC (As := [.int a]) (wm_ok y g) (cwV 1 hC.1.2.2.2.2 gX6_can_X6_inHeaps rfl rfl rfl (by decide +kernel) ⟨Nat.le_of_ble_eq_true rfl, Nat.le_of_ble_eq_true rfl⟩) (wm_0 y g S) rfl (fun xq hq => kX6_inHeaps l D y g N a S xq hq) rfl (Nat.le_of_ble_eq_true rfl) dX6_can_38 ?_
      intro x5
      refine m_aload_n hC dX6_can_41 0 rfl ?_
      refine m_get hC iX6_can_X6 (wm_0 y g S) rfl 29 (by decide) (List.mem_of_getElem? (i := 4) rfl) rfl rfl dX6_can_42 ?_
      refine m_iload_n hC dX6_can_45 1 rfl ?_
      refine m_iald hC (wm_13 y g S) (t0 := 0) rfl dX6_can_46 ?_
      intro x6
      refine m_icmp_gt hC 52 dX6_can_47 (by decide) ?_ ?_
      · refine m_iconst hC (0) dX6_can_52 (by decide) ?_
        refine m_istore hC [(0, .ref (g 0)), (1, .int a), (2, .int b), (3, .int c2), (4, .int d2), (5, .int x2), (6, .int 0)] [1, 2, 3, 4, 5, 6, 0] dX6_can_53 (by decide) rfl rfl ?_
        refine m_lv [(0, .ref (g 0)), (2, .int b), (3, .int c2), (5, .int x2), (6, .int 0)] [0, 2, 3, 5, 6] rfl ?_
        refine (m_it (z := (fun _ => none)) (F := fX6_can_L55 b c2 x2 S) N (fun r8 => ∀ (x7 : Int32), Sm p l e (headSpec wsX6_can rmX6_can).room s m args below meth c D vwCl (wm y g) (AM g s.heap.size) 7 Q x0 (r8 x7) S 55 [(0, .ref (g 0)), (2, .int b), (3, .int c2), (5, .int x2), (6, .int x7)] []) ?_ ?_) 0
        · exact fun _ => m_none
        · intro r8 hr8 x7
          unfold fX6_can_L55
          refine m_iload hC dX6_can_55 4 rfl ?_
          refine m_iload_n hC dX6_can_57 1 rfl ?_
          refine m_icmp_ge hC 103 dX6_can_58 (by decide) ?_ ?_
          · refine m_iconst hC (1) dX6_can_103 (by decide) ?_
            exact hret _ _ _ dX6_can_104 rfl
          · refine m_iload hC dX6_can_61 3 rfl ?_
            refine m_aload_n hC dX6_can_63 0 rfl ?_
            refine m_get hC iX6_can_X6 (wm_0 y g S) rfl 11 (by decide) (List.mem_of_getElem? (i := 3) rfl) rfl rfl dX6_can_64 ?_
            refine m_icmp_ge hC 103 dX6_can_67 (by decide) ?_ ?_
            · refine m_iconst hC (1) dX6_can_103 (by decide) ?_
              exact hret _ _ _ dX6_can_104 rfl
            · refine m_aload_n hC dX6_can_70 0 rfl ?_
              refine m_get hC iX6_can_X6 (wm_0 y g S) rfl 21 (by decide) (List.mem_of_getElem? (i := 5) rfl) rfl rfl dX6_can_71 ?_
              refine m_iload hC dX6_can_74 4 rfl ?_
              refine m_iald hC (wm_8 y g S) (t0 := 0) rfl dX6_can_76 ?_
              intro x9
              refine m_iload_n hC dX6_can_77 2 rfl ?_
              refine m_iconst hC (1) dX6_can_78 (by decide) ?_
              refine m_isub hC dX6_can_79 ?_
              refine m_icmp_ne hC 97 dX6_can_80 (by decide) ?_ ?_
              · refine m_iinc hC (fun x10 => [(0, .ref (g 0)), (2, .int b), (3, .int c2), (5, .int x2), (6, .int x10)]) [1, 2, 3, 4, 0] dX6_can_97 (j := 4) rfl (by decide) (by decide) (fun _ => rfl) (fun _ => rfl) ?_
                intro x10
                refine m_goto hC 55 dX6_can_100 (by decide) ?_
                exact hr8 _
              · refine m_aload_n hC dX6_can_83 0 rfl ?_
                refine m_get hC iX6_can_X6 (wm_0 y g S) rfl 22 (by decide) (List.mem_of_getElem? (i := 6) rfl) rfl rfl dX6_can_84 ?_
                refine m_iload hC dX6_can_87 4 rfl ?_
                refine m_iald hC (wm_9 y g S) (t0 := 0) rfl dX6_can_89 ?_
                intro x11
                refine m_iload hC dX6_can_90 3 rfl ?_
                refine m_icmp_ne hC 97 dX6_can_92 (by decide) ?_ ?_
                · refine m_iinc hC (fun x12 => [(0, .ref (g 0)), (2, .int b), (3, .int c2), (5, .int x2), (6, .int x12)]) [1, 2, 3, 4, 0] dX6_can_97 (j := 4) rfl (by decide) (by decide) (fun _ => rfl) (fun _ => rfl) ?_
                  intro x12
                  refine m_goto hC 55 dX6_can_100 (by decide) ?_
                  exact hr8 _
                · refine m_iconst hC (0) dX6_can_95 (by decide) ?_
                  exact hret _ _ _ dX6_can_96 rfl
      · refine m_iconst hC (0) dX6_can_50 (by decide) ?_
        exact hret _ _ _ dX6_can_51 rfl
def fX6_there_L5 (a : Int32) (b : Int32) (S : St) (r3 : Int32 → Int32 → Option (Int32)) : Int32 → Int32 → Option (Int32) := fun x1 x2 =>
  if x2 < (S.1 0 19) then
    if (S.1 0 18) = 0 then
      nmI (x1 + 0) fun x4 =>
      nmI (x2 + 1) fun x5 =>
      r3 x4 x5
    else
      ldI 150 (S.1 7) x2 fun x6 =>
      if x6 = a then
        ldI 150 (S.1 11) x2 fun x9 =>
        if x9 = b then
          nmI (x1 + 1) fun x12 =>
          nmI (x2 + 1) fun x13 =>
          r3 x12 x13
        else
          nmI (x1 + 0) fun x10 =>
          nmI (x2 + 1) fun x11 =>
          r3 x10 x11
      else
        nmI (x1 + 0) fun x7 =>
        nmI (x2 + 1) fun x8 =>
        r3 x7 x8
  else
    some x1
def fX6_there (N : Nat) (a : Int32) (b : Int32) (S : St) : Option (Int32) :=
  itN (fun _ _ => none) (fX6_there_L5 a b S) N 0 0
abbrev rmX6_there : Room := { frames := 0, cells := 0, slots := 0, locals := 0 }
theorem iX6_there_X6 : ∀ w ∈ wsX60, w ∈ wsX6_there := fun w h => List.mem_cons_of_mem _ (List.mem_append_right _ h)
set_option maxHeartbeats 4000000 in
set_option maxRecDepth 100000 in
theorem kX6_there (l : Launch) (D : va_G) (y : Cy) (g : Nat → Nat) (N : Nat) (a : Int32) (b : Int32) (S : St) (x0 : Int32) (h : fX6_there N a b S = some x0) : KI l yX6_there wsX6_there rmX6_there D vwCl (tz y) (wm y g) (AM g) [.ref (g 0), .int a, .int b] S (fun r S2 => r = x0 ∧ S2 = S) := by
  refine m_entryIP (wm_ok y g) (by decide) rfl (Nat.le_of_ble_eq_true rfl) (lv := [(0, .ref (g 0)), (1, .int a), (2, .int b)]) rfl h ?_
  intro p e s m args below meth c hC hr hlocks
  obtain ⟨Q, hQ⟩ : ∃ Q, Q = (MQ below (va_Qi (fun r S2 => r = x0 ∧ S2 = S) (Bw D vwCl (tz y) (wm y g) (AM g s.heap.size)) (AM g s.heap.size)) args s 0 0 (AM g s.heap.size)) := ⟨_, rfl⟩
  rw [← hQ]
  have hret : ∀ (v : Int32) (pc : Nat) (lv : List (Nat × Value)), decode cX6_there pc = .ok (.ireturn, 1) → Sm p l e (headSpec wsX6_there rmX6_there).room s m args below meth c D vwCl (wm y g) (AM g s.heap.size) 5 Q x0 (some v) S pc lv [.int v] := by
    rw [hQ]
    exact fun v pc lv hd => m_iretP hC hr hlocks hd
  clear hQ
  unfold fX6_there
  refine m_iconst hC (0) dX6_there_0 (by decide) ?_
  refine m_istore_n hC [(0, .ref (g 0)), (1, .int a), (2, .int b), (3, .int 0)] [1, 2, 3, 0] dX6_there_1 (by decide) rfl rfl ?_
  refine m_iconst hC (0) dX6_there_2 (by decide) ?_
  refine m_istore hC [(0, .ref (g 0)), (1, .int a), (2, .int b), (3, .int 0), (4, .int 0)] [1, 2, 3, 4, 0] dX6_there_3 (by decide) rfl rfl ?_
  refine (m_it (z := (fun _ _ => none)) (F := fX6_there_L5 a b S) N (fun r3 => ∀ (x1 : Int32) (x2 : Int32), Sm p l e (headSpec wsX6_there rmX6_there).room s m args below meth c D vwCl (wm y g) (AM g s.heap.size) 5 Q x0 (r3 x1 x2) S 5 [(0, .ref (g 0)), (1, .int a), (2, .int b), (3, .int x1), (4, .int x2)] []) ?_ ?_) 0 0
  · exact fun _ _ => m_none
  · intro r3 hr3 x1 x2
    unfold fX6_there_L5
    refine m_iload hC dX6_there_5 4 rfl ?_
    refine m_aload_n hC dX6_there_7 0 rfl ?_
    refine m_get hC iX6_there_X6 (wm_0 y g S) rfl 19 (by decide) (List.mem_of_getElem? (i := 1) rfl) rfl rfl dX6_there_8 ?_
    refine m_icmp_ge hC 57 dX6_there_11 (by decide) ?_ ?_
    · refine m_iload_n hC dX6_there_57 3 rfl ?_
      exact hret _ _ _ dX6_there_58
    · refine m_iload_n hC dX6_there_14 3 rfl ?_
      refine m_aload_n hC dX6_there_15 0 rfl ?_
      refine m_get hC iX6_there_X6 (wm_0 y g S) rfl 18 (by decide) (List.mem_of_getElem? (i := 2) rfl) rfl rfl dX6_there_16 ?_
      refine m_if_eq hC 48 dX6_there_19 (by decide) ?_ ?_
      · refine m_iconst hC (0) dX6_there_48 (by decide) ?_
        refine m_iadd hC dX6_there_49 ?_
        refine m_nmI ?_
        intro x4
        refine m_istore_n hC [(0, .ref (g 0)), (1, .int a), (2, .int b), (3, .int x4), (4, .int x2)] [1, 2, 3, 0, 4] dX6_there_50 (by decide) rfl rfl ?_
        refine m_iinc hC (fun x5 => [(0, .ref (g 0)), (1, .int a), (2, .int b), (3, .int x4), (4, .int x5)]) [1, 2, 3, 4, 0] dX6_there_51 (j := 4) rfl (by decide) (by decide) (fun _ => rfl) (fun _ => rfl) ?_
        intro x5
        refine m_goto hC 5 dX6_there_54 (by decide) ?_
        exact hr3 _ _
      · refine m_aload_n hC dX6_there_22 0 rfl ?_
        refine m_get hC iX6_there_X6 (wm_0 y g S) rfl 20 (by decide) (List.mem_of_getElem? (i := 3) rfl) rfl rfl dX6_there_23 ?_
        refine m_iload hC dX6_there_26 4 rfl ?_
        refine m_iald hC (wm_7 y g S) (t0 := 0) rfl dX6_there_28 ?_
        intro x6
        refine m_iload_n hC dX6_there_29 1 rfl ?_
        refine m_icmp_ne hC 48 dX6_there_30 (by decide) ?_ ?_
        · refine m_iconst hC (0) dX6_there_48 (by decide) ?_
          refine m_iadd hC dX6_there_49 ?_
          refine m_nmI ?_
          intro x7
          refine m_istore_n hC [(0, .ref (g 0)), (1, .int a), (2, .int b), (3, .int x7), (4, .int x2)] [1, 2, 3, 0, 4] dX6_there_50 (by decide) rfl rfl ?_
          refine m_iinc hC (fun x8 => [(0, .ref (g 0)), (1, .int a), (2, .int b), (3, .int x7), (4, .int x8)]) [1, 2, 3, 4, 0] dX6_there_51 (j := 4) rfl (by decide) (by decide) (fun _ => rfl) (fun _ => rfl) ?_
          intro x8
          refine m_goto hC 5 dX6_there_54 (by decide) ?_
          exact hr3 _ _
        · refine m_aload_n hC dX6_there_33 0 rfl ?_
          refine m_get hC iX6_there_X6 (wm_0 y g S) rfl 24 (by decide) (List.mem_of_getElem? (i := 4) rfl) rfl rfl dX6_there_34 ?_
          refine m_iload hC dX6_there_37 4 rfl ?_
          refine m_zald hC (wm_11 y g S) (t0 := 1) rfl dX6_there_39 ?_
          intro x9
          refine m_iload_n hC dX6_there_40 2 rfl ?_
          refine m_icmp_ne hC 48 dX6_there_41 (by decide) ?_ ?_
          · refine m_iconst hC (0) dX6_there_48 (by decide) ?_
            refine m_iadd hC dX6_there_49 ?_
            refine m_nmI ?_
            intro x10
            refine m_istore_n hC [(0, .ref (g 0)), (1, .int a), (2, .int b), (3, .int x10), (4, .int x2)] [1, 2, 3, 0, 4] dX6_there_50 (by decide) rfl rfl ?_
            refine m_iinc hC (fun x11 => [(0, .ref (g 0)), (1, .int a), (2, .int b), (3, .int x10), (4, .int x11)]) [1, 2, 3, 4, 0] dX6_there_51 (j := 4) rfl (by decide) (by decide) (fun _ => rfl) (fun _ => rfl) ?_
            intro x11
            refine m_goto hC 5 dX6_there_54 (by decide) ?_
            exact hr3 _ _
          · refine m_iconst hC (1) dX6_there_44 (by decide) ?_
            refine m_goto hC 49 dX6_there_45 (by decide) ?_
            refine m_iadd hC dX6_there_49 ?_
            refine m_nmI ?_
            intro x12
            refine m_istore_n hC [(0, .ref (g 0)), (1, .int a), (2, .int b), (3, .int x12), (4, .int x2)] [1, 2, 3, 0, 4] dX6_there_50 (by decide) rfl rfl ?_
            refine m_iinc hC (fun x13 => [(0, .ref (g 0)), (1, .int a), (2, .int b), (3, .int x12), (4, .int x13)]) [1, 2, 3, 4, 0] dX6_there_51 (j := 4) rfl (by decide) (by decide) (fun _ => rfl) (fun _ => rfl) ?_
            intro x13
            refine m_goto hC 5 dX6_there_54 (by decide) ?_
            exact hr3 _ _
def fX6_count (N : Nat) (a : Int32) (b : Int32) (S : St) : Option (Int32 × St) :=
  pfI S 0 28 0 fun S1 =>
  if b < 0 then
    some ((-1), S1)
  else
    if b < (S1.1 0 0) then
      if a < 0 then
        some ((-1), S1)
      else
        if a ≤ 7 then
          if a < 5 then
            if a < (S1.1 0 3) then
              if a < 5 then
                ldI 40 (S1.1 5) ((8 * a) + b) fun x13 =>
                some (x13, S1)
              else
                if a < 7 then
                  if a = 5 then
                    caP (fX6_there N b 1 S1) fun x12 =>
                    some (x12, S1)
                  else
                    caP (fX6_there N b 0 S1) fun x11 =>
                    some (x11, S1)
                else
                  caP (fX6_inHeaps N b S1) fun x8 =>
                  caP (fX6_there N b 1 S1) fun x9 =>
                  caP (fX6_there N b 0 S1) fun x10 =>
                  some ((x8 + x9) + x10, S1)
            else
              some ((-1), S1)
          else
            if a < 5 then
              ldI 40 (S1.1 5) ((8 * a) + b) fun x7 =>
              some (x7, S1)
            else
              if a < 7 then
                if a = 5 then
                  caP (fX6_there N b 1 S1) fun x6 =>
                  some (x6, S1)
                else
                  caP (fX6_there N b 0 S1) fun x5 =>
                  some (x5, S1)
              else
                caP (fX6_inHeaps N b S1) fun x2 =>
                caP (fX6_there N b 1 S1) fun x3 =>
                caP (fX6_there N b 0 S1) fun x4 =>
                some ((x2 + x3) + x4, S1)
        else
          some ((-1), S1)
    else
      some ((-1), S1)
abbrev rmX6_count : Room := { frames := 1, cells := 0, slots := 0, locals := 24 }
theorem iX6_count_X6 : ∀ w ∈ wsX60, w ∈ wsX6_count := fun w h => List.mem_cons_of_mem _ (List.mem_append_right _ h)
set_option maxHeartbeats 4000000 in
set_option maxRecDepth 100000 in
theorem kX6_count (l : Launch) (D : va_G) (y : Cy) (g : Nat → Nat) (N : Nat) (a : Int32) (b : Int32) (S : St) (x0 : Int32 × St) (h : fX6_count N a b S = some x0) : KI l yX6_count wsX6_count rmX6_count D vwCl (tz y) (wm y g) (AM g) [.ref (g 0), .int a, .int b] S (fun r S2 => (r, S2) = x0) := by
  refine m_entryI (wm_ok y g) (by decide) rfl (Nat.le_of_ble_eq_true rfl) (lv := [(0, .ref (g 0)), (1, .int a), (2, .int b)]) rfl h ?_
  intro p e s m args below meth c hC hr hlocks
  obtain ⟨Q, hQ⟩ : ∃ Q, Q = (MQ below (va_Qi (fun r S2 => (r, S2) = x0) (Bw D vwCl (tz y) (wm y g) (AM g s.heap.size)) (AM g s.heap.size)) args s 0 0 (AM g s.heap.size)) := ⟨_, rfl⟩
  rw [← hQ]
  have hret : ∀ (v : Int32) (S2 : St) (pc : Nat) (lv : List (Nat × Value)), decode cX6_count pc = .ok (.ireturn, 1) → Sm p l e (headSpec wsX6_count rmX6_count).room s m args below meth c D vwCl (wm y g) (AM g s.heap.size) 3 Q x0 (some (v, S2)) S2 pc lv [.int v] := by
    rw [hQ]
    exact fun v S2 pc lv hd => m_iret hC hr hlocks hd
  clear hQ
  unfold fX6_count
  refine m_aload_n hC dX6_count_0 0 rfl ?_
  refine m_iconst hC (0) dX6_count_1 (by decide) ?_
  refine m_putI (ty := .int) hC iX6_count_X6 tyX6 tyX6_ok nmX6 (wm_0 y g S) rfl 28 (by decide) (List.mem_of_getElem? (i := 1) rfl) rfl rfl (by decide +kernel) rfl rfl (Nat.le_of_ble_eq_true rfl) dX6_count_2 (wmf_0_28 y g S _) ?_
  intro S1
  refine m_iload_n hC dX6_count_5 2 rfl ?_
  refine m_if_lt hC 40 dX6_count_6 (by decide) ?_ ?_
  · refine m_iconst hC (-1) dX6_count_40 (by decide) ?_
    exact hret _ _ _ _ dX6_count_41
  · refine m_iload_n hC dX6_count_9 2 rfl ?_
    refine m_aload_n hC dX6_count_10 0 rfl ?_
    refine m_get hC iX6_count_X6 (wm_0 y g S1) rfl 0 (by decide) (List.mem_of_getElem? (i := 2) rfl) rfl rfl dX6_count_11 ?_
    refine m_icmp_ge hC 40 dX6_count_14 (by decide) ?_ ?_
    · refine m_iconst hC (-1) dX6_count_40 (by decide) ?_
      exact hret _ _ _ _ dX6_count_41
    · refine m_iload_n hC dX6_count_17 1 rfl ?_
      refine m_if_lt hC 40 dX6_count_18 (by decide) ?_ ?_
      · refine m_iconst hC (-1) dX6_count_40 (by decide) ?_
        exact hret _ _ _ _ dX6_count_41
      · refine m_iload_n hC dX6_count_21 1 rfl ?_
        refine m_bipush hC (7) dX6_count_22 (by decide) ?_
        refine m_icmp_gt hC 40 dX6_count_24 (by decide) ?_ ?_
        · refine m_iconst hC (-1) dX6_count_40 (by decide) ?_
          exact hret _ _ _ _ dX6_count_41
        · refine m_iload_n hC dX6_count_27 1 rfl ?_
          refine m_iconst hC (5) dX6_count_28 (by decide) ?_
          refine m_icmp_ge hC 42 dX6_count_29 (by decide) ?_ ?_
          · refine m_iload_n hC dX6_count_42 1 rfl ?_
            refine m_iconst hC (5) dX6_count_43 (by decide) ?_
            refine m_icmp_ge hC 59 dX6_count_44 (by decide) ?_ ?_
            · refine m_iload_n hC dX6_count_59 1 rfl ?_
              refine m_bipush hC (7) dX6_count_60 (by decide) ?_
              refine m_icmp_ge hC 81 dX6_count_62 (by decide) ?_ ?_
              · refine m_aload_n hC dX6_count_81 0 rfl ?_
                refine m_iload_n hC dX6_count_82 2 rfl ?_
                refine m_cIPV hC (As := [.int b]) (wm_ok y g) (cwV 1 hC.1.2.2.2.2 gX6_count_X6_inHeaps rfl rfl rfl (by decide +kernel) ⟨Nat.le_of_ble_eq_true rfl, Nat.le_of_ble_eq_true rfl⟩) (wm_0 y g S1) rfl (fun xq hq => kX6_inHeaps l D y g N b S1 xq hq) rfl (Nat.le_of_ble_eq_true rfl) dX6_count_83 ?_
                intro x2
                refine m_aload_n hC dX6_count_86 0 rfl ?_
                refine m_iload_n hC dX6_count_87 2 rfl ?_
                refine m_iconst hC (1) dX6_count_88 (by decide) ?_
                refine m_cIPV hC (As := [.int b, .int 1]) (wm_ok y g) (cwV 2 hC.1.2.2.2.2 gX6_count_X6_there rfl rfl rfl (by decide +kernel) ⟨Nat.le_of_ble_eq_true rfl, Nat.le_of_ble_eq_true rfl⟩) (wm_0 y g S1) rfl (fun xq hq => kX6_there l D y g N b 1 S1 xq hq) rfl (Nat.le_of_ble_eq_true rfl) dX6_count_89 ?_
                intro x3
                refine m_iadd hC dX6_count_92 ?_
                refine m_aload_n hC dX6_count_93 0 rfl ?_
                refine m_iload_n hC dX6_count_94 2 rfl ?_
                refine m_iconst hC (0) dX6_count_95 (by decide) ?_
                refine m_cIPV hC (As := [.int b, .int 0]) (wm_ok y g) (cwV 2 hC.1.2.2.2.2 gX6_count_X6_there rfl rfl rfl (by decide +kernel) ⟨Nat.le_of_ble_eq_true rfl, Nat.le_of_ble_eq_true rfl⟩) (wm_0 y g S1) rfl (fun xq hq => kX6_there l D y g N b 0 S1 xq hq) rfl (Nat.le_of_ble_eq_true rfl) dX6_count_96 ?_
                intro x4
                refine m_iadd hC dX6_count_99 ?_
                exact hret _ _ _ _ dX6_count_100
              · refine m_aload_n hC dX6_count_65 0 rfl ?_
                refine m_iload_n hC dX6_count_66 2 rfl ?_
                refine m_iload_n hC dX6_count_67 1 rfl ?_
                refine m_iconst hC (5) dX6_count_68 (by decide) ?_
                refine m_icmp_ne hC 76 dX6_count_69 (by decide) ?_ ?_
                · refine m_iconst hC (0) dX6_count_76 (by decide) ?_
                  refine m_cIPV hC (As := [.int b, .int 0]) (wm_ok y g) (cwV 2 hC.1.2.2.2.2 gX6_count_X6_there rfl rfl rfl (by decide +kernel) ⟨Nat.le_of_ble_eq_true rfl, Nat.le_of_ble_eq_true rfl⟩) (wm_0 y g S1) rfl (fun xq hq => kX6_there l D y g N b 0 S1 xq hq) rfl (Nat.le_of_ble_eq_true rfl) dX6_count_77 ?_
                  intro x5
                  exact hret _ _ _ _ dX6_count_80
                · refine m_iconst hC (1) dX6_count_72 (by decide) ?_
                  refine m_goto hC 77 dX6_count_73 (by decide) ?_
                  refine m_cIPV hC (As := [.int b, .int 1]) (wm_ok y g) (cwV 2 hC.1.2.2.2.2 gX6_count_X6_there rfl rfl rfl (by decide +kernel) ⟨Nat.le_of_ble_eq_true rfl, Nat.le_of_ble_eq_true rfl⟩) (wm_0 y g S1) rfl (fun xq hq => kX6_there l D y g N b 1 S1 xq hq) rfl (Nat.le_of_ble_eq_true rfl) dX6_count_77 ?_
                  intro x6
                  exact hret _ _ _ _ dX6_count_80
            · refine m_aload_n hC dX6_count_47 0 rfl ?_
              refine m_get hC iX6_count_X6 (wm_0 y g S1) rfl 6 (by decide) (List.mem_of_getElem? (i := 4) rfl) rfl rfl dX6_count_48 ?_
              refine m_bipush hC (8) dX6_count_51 (by decide) ?_
              refine m_iload_n hC dX6_count_53 1 rfl ?_
              refine m_imul hC dX6_count_54 ?_
              refine m_iload_n hC dX6_count_55 2 rfl ?_
              refine m_iadd hC dX6_count_56 ?_
              refine m_iald hC (wm_5 y g S1) (t0 := 0) rfl dX6_count_57 ?_
              intro x7
              exact hret _ _ _ _ dX6_count_58
          · refine m_iload_n hC dX6_count_32 1 rfl ?_
            refine m_aload_n hC dX6_count_33 0 rfl ?_
            refine m_get hC iX6_count_X6 (wm_0 y g S1) rfl 3 (by decide) (List.mem_of_getElem? (i := 3) rfl) rfl rfl dX6_count_34 ?_
            refine m_icmp_lt hC 42 dX6_count_37 (by decide) ?_ ?_
            · refine m_iload_n hC dX6_count_42 1 rfl ?_
              refine m_iconst hC (5) dX6_count_43 (by decide) ?_
              refine m_icmp_ge hC 59 dX6_count_44 (by decide) ?_ ?_
              · refine m_iload_n hC dX6_count_59 1 rfl ?_
                refine m_bipush hC (7) dX6_count_60 (by decide) ?_
                refine m_icmp_ge hC 81 dX6_count_62 (by decide) ?_ ?_
                · refine m_aload_n hC dX6_count_81 0 rfl ?_
                  refine m_iload_n hC dX6_count_82 2 rfl ?_
                  refine m_cIPV hC (As := [.int b]) (wm_ok y g) (cwV 1 hC.1.2.2.2.2 gX6_count_X6_inHeaps rfl rfl rfl (by decide +kernel) ⟨Nat.le_of_ble_eq_true rfl, Nat.le_of_ble_eq_true rfl⟩) (wm_0 y g S1) rfl (fun xq hq => kX6_inHeaps l D y g N b S1 xq hq) rfl (Nat.le_of_ble_eq_true rfl) dX6_count_83 ?_
                  intro x8
                  refine m_aload_n hC dX6_count_86 0 rfl ?_
                  refine m_iload_n hC dX6_count_87 2 rfl ?_
                  refine m_iconst hC (1) dX6_count_88 (by decide) ?_
                  refine m_cIPV hC (As := [.int b, .int 1]) (wm_ok y g) (cwV 2 hC.1.2.2.2.2 gX6_count_X6_there rfl rfl rfl (by decide +kernel) ⟨Nat.le_of_ble_eq_true rfl, Nat.le_of_ble_eq_true rfl⟩) (wm_0 y g S1) rfl (fun xq hq => kX6_there l D y g N b 1 S1 xq hq) rfl (Nat.le_of_ble_eq_true rfl) dX6_count_89 ?_
                  intro x9
                  refine m_iadd hC dX6_count_92 ?_
                  refine m_aload_n hC dX6_count_93 0 rfl ?_
                  refine m_iload_n hC dX6_count_94 2 rfl ?_
                  refine m_iconst hC (0) dX6_count_95 (by decide) ?_
                  refine m_cIPV hC (As := [.int b, .int 0]) (wm_ok y g) (cwV 2 hC.1.2.2.2.2 gX6_count_X6_there rfl rfl rfl (by decide +kernel) ⟨Nat.le_of_ble_eq_true rfl, Nat.le_of_ble_eq_true rfl⟩) (wm_0 y g S1) rfl (fun xq hq => kX6_there l D y g N b 0 S1 xq hq) rfl (Nat.le_of_ble_eq_true rfl) dX6_count_96 ?_
                  intro x10
                  refine m_iadd hC dX6_count_99 ?_
                  exact hret _ _ _ _ dX6_count_100
                · refine m_aload_n hC dX6_count_65 0 rfl ?_
                  refine m_iload_n hC dX6_count_66 2 rfl ?_
                  refine m_iload_n hC dX6_count_67 1 rfl ?_
                  refine m_iconst hC (5) dX6_count_68 (by decide) ?_
                  refine m_icmp_ne hC 76 dX6_count_69 (by decide) ?_ ?_
                  · refine m_iconst hC (0) dX6_count_76 (by decide) ?_
                    refine m_cIPV hC (As := [.int b, .int 0]) (wm_ok y g) (cwV 2 hC.1.2.2.2.2 gX6_count_X6_there rfl rfl rfl (by decide +kernel) ⟨Nat.le_of_ble_eq_true rfl, Nat.le_of_ble_eq_true rfl⟩) (wm_0 y g S1) rfl (fun xq hq => kX6_there l D y g N b 0 S1 xq hq) rfl (Nat.le_of_ble_eq_true rfl) dX6_count_77 ?_
                    intro x11
                    exact hret _ _ _ _ dX6_count_80
                  · refine m_iconst hC (1) dX6_count_72 (by decide) ?_
                    refine m_goto hC 77 dX6_count_73 (by decide) ?_
                    refine m_cIPV hC (As := [.int b, .int 1]) (wm_ok y g) (cwV 2 hC.1.2.2.2.2 gX6_count_X6_there rfl rfl rfl (by decide +kernel) ⟨Nat.le_of_ble_eq_true rfl, Nat.le_of_ble_eq_true rfl⟩) (wm_0 y g S1) rfl (fun xq hq => kX6_there l D y g N b 1 S1 xq hq) rfl (Nat.le_of_ble_eq_true rfl) dX6_count_77 ?_
                    intro x12
                    exact hret _ _ _ _ dX6_count_80
              · refine m_aload_n hC dX6_count_47 0 rfl ?_
                refine m_get hC iX6_count_X6 (wm_0 y g S1) rfl 6 (by decide) (List.mem_of_getElem? (i := 4) rfl) rfl rfl dX6_count_48 ?_
                refine m_bipush hC (8) dX6_count_51 (by decide) ?_
                refine m_iload_n hC dX6_count_53 1 rfl ?_
                refine m_imul hC dX6_count_54 ?_
                refine m_iload_n hC dX6_count_55 2 rfl ?_
                refine m_iadd hC dX6_count_56 ?_
                refine m_iald hC (wm_5 y g S1) (t0 := 0) rfl dX6_count_57 ?_
                intro x13
                exact hret _ _ _ _ dX6_count_58
            · refine m_iconst hC (-1) dX6_count_40 (by decide) ?_
              exact hret _ _ _ _ dX6_count_41
def fX6_fails (a : Int32) (S : St) : Option (Int32 × St) :=
  pfI S 0 28 a fun S1 =>
  some (0, S1)
abbrev rmX6_fails : Room := { frames := 0, cells := 0, slots := 0, locals := 0 }
theorem iX6_fails_X6 : ∀ w ∈ wsX60, w ∈ wsX6_fails := fun w h => List.mem_cons_of_mem _ (List.mem_append_right _ h)
set_option maxHeartbeats 4000000 in
set_option maxRecDepth 100000 in
theorem kX6_fails (l : Launch) (D : va_G) (y : Cy) (g : Nat → Nat) (a : Int32) (S : St) (x0 : Int32 × St) (h : fX6_fails a S = some x0) : KI l yX6_fails wsX6_fails rmX6_fails D vwCl (tz y) (wm y g) (AM g) [.ref (g 0), .int a] S (fun r S2 => (r, S2) = x0) := by
  refine m_entryI (wm_ok y g) (by decide) rfl (Nat.le_of_ble_eq_true rfl) (lv := [(0, .ref (g 0)), (1, .int a)]) rfl h ?_
  intro p e s m args below meth c hC hr hlocks
  obtain ⟨Q, hQ⟩ : ∃ Q, Q = (MQ below (va_Qi (fun r S2 => (r, S2) = x0) (Bw D vwCl (tz y) (wm y g) (AM g s.heap.size)) (AM g s.heap.size)) args s 0 0 (AM g s.heap.size)) := ⟨_, rfl⟩
  rw [← hQ]
  have hret : ∀ (v : Int32) (S2 : St) (pc : Nat) (lv : List (Nat × Value)), decode cX6_fails pc = .ok (.ireturn, 1) → Sm p l e (headSpec wsX6_fails rmX6_fails).room s m args below meth c D vwCl (wm y g) (AM g s.heap.size) 2 Q x0 (some (v, S2)) S2 pc lv [.int v] := by
    rw [hQ]
    exact fun v S2 pc lv hd => m_iret hC hr hlocks hd
  clear hQ
  unfold fX6_fails
  refine m_aload_n hC dX6_fails_0 0 rfl ?_
  refine m_iload_n hC dX6_fails_1 1 rfl ?_
  refine m_putI (ty := .int) hC iX6_fails_X6 tyX6 tyX6_ok nmX6 (wm_0 y g S) rfl 28 (by decide) (List.mem_of_getElem? (i := 1) rfl) rfl rfl (by decide +kernel) rfl rfl (Nat.le_of_ble_eq_true rfl) dX6_fails_2 (wmf_0_28 y g S _) ?_
  intro S1
  refine m_iconst hC (0) dX6_fails_5 (by decide) ?_
  exact hret _ _ _ _ dX6_fails_6
def fX6_lies_L27 (a : Int32) (x1 : Int32) (x4 : Int32) (S : St) (r7 : Int32 → Int32 → Option (Int32)) : Int32 → Int32 → Option (Int32) := fun x5 x6 =>
  if x6 < (S.1 0 19) then
    ldI 150 (S.1 8) x6 fun x8 =>
    ldI 150 (S.1 8) a fun x9 =>
    if x8 = (x9 - 1) then
      ldI 150 (S.1 11) x6 fun x11 =>
      if x11 = 0 then
        nmI (x6 + 1) fun x26 =>
        r7 x5 x26
      else
        ldI 150 (S.1 9) x6 fun x12 =>
        jn (fun (x13 : Int32) =>
            ldI 150 (S.1 9) x6 fun x15 =>
            ldI 150 (S.1 7) x6 fun x16 =>
            ldI 8 (S.1 1) x16 fun x17 =>
            nmI (x15 + x17) fun x18 =>
            jn (fun (x19 : Int32) =>
                if x19 ≤ x13 then
                  nmI (x5 + 0) fun x21 =>
                  nmI (x6 + 1) fun x22 =>
                  r7 x21 x22
                else
                  nmI (x5 + (x19 - x13)) fun x23 =>
                  nmI (x6 + 1) fun x24 =>
                  r7 x23 x24) fun J20 =>
            if x18 < x4 then
              J20 x18
            else
              J20 x4) fun J14 =>
        if x12 ≤ x1 then
          J14 x1
        else
          ldI 150 (S.1 9) x6 fun x25 =>
          J14 x25
    else
      nmI (x6 + 1) fun x10 =>
      r7 x5 x10
  else
    some x5
def fX6_lies (N : Nat) (a : Int32) (S : St) : Option (Int32) :=
  ldI 150 (S.1 9) a fun x1 =>
  ldI 150 (S.1 7) a fun x2 =>
  ldI 8 (S.1 1) x2 fun x3 =>
  nmI (x1 + x3) fun x4 =>
  itN (fun _ _ => none) (fX6_lies_L27 a x1 x4 S) N 0 0
abbrev rmX6_lies : Room := { frames := 0, cells := 0, slots := 0, locals := 0 }
theorem iX6_lies_X6 : ∀ w ∈ wsX60, w ∈ wsX6_lies := fun w h => List.mem_cons_of_mem _ (List.mem_append_right _ h)
set_option maxHeartbeats 4000000 in
set_option maxRecDepth 100000 in
theorem kX6_lies (l : Launch) (D : va_G) (y : Cy) (g : Nat → Nat) (N : Nat) (a : Int32) (S : St) (x0 : Int32) (h : fX6_lies N a S = some x0) : KI l yX6_lies wsX6_lies rmX6_lies D vwCl (tz y) (wm y g) (AM g) [.ref (g 0), .int a] S (fun r S2 => r = x0 ∧ S2 = S) := by
  refine m_entryIP (wm_ok y g) (by decide) rfl (Nat.le_of_ble_eq_true rfl) (lv := [(0, .ref (g 0)), (1, .int a)]) rfl h ?_
  intro p e s m args below meth c hC hr hlocks
  obtain ⟨Q, hQ⟩ : ∃ Q, Q = (MQ below (va_Qi (fun r S2 => r = x0 ∧ S2 = S) (Bw D vwCl (tz y) (wm y g) (AM g s.heap.size)) (AM g s.heap.size)) args s 0 0 (AM g s.heap.size)) := ⟨_, rfl⟩
  rw [← hQ]
  have hret : ∀ (v : Int32) (pc : Nat) (lv : List (Nat × Value)), decode cX6_lies pc = .ok (.ireturn, 1) → Sm p l e (headSpec wsX6_lies rmX6_lies).room s m args below meth c D vwCl (wm y g) (AM g s.heap.size) 9 Q x0 (some v) S pc lv [.int v] := by
    rw [hQ]
    exact fun v pc lv hd => m_iretP hC hr hlocks hd
  clear hQ
  unfold fX6_lies
  refine m_aload_n hC dX6_lies_0 0 rfl ?_
  refine m_get hC iX6_lies_X6 (wm_0 y g S) rfl 22 (by decide) (List.mem_of_getElem? (i := 1) rfl) rfl rfl dX6_lies_1 ?_
  refine m_iload_n hC dX6_lies_4 1 rfl ?_
  refine m_iald hC (wm_9 y g S) (t0 := 0) rfl dX6_lies_5 ?_
  intro x1
  refine m_istore_n hC [(0, .ref (g 0)), (1, .int a), (2, .int x1)] [1, 2, 0] dX6_lies_6 (by decide) rfl rfl ?_
  refine m_iload_n hC dX6_lies_7 2 rfl ?_
  refine m_aload_n hC dX6_lies_8 0 rfl ?_
  refine m_get hC iX6_lies_X6 (wm_0 y g S) rfl 1 (by decide) (List.mem_of_getElem? (i := 2) rfl) rfl rfl dX6_lies_9 ?_
  refine m_aload_n hC dX6_lies_12 0 rfl ?_
  refine m_get hC iX6_lies_X6 (wm_0 y g S) rfl 20 (by decide) (List.mem_of_getElem? (i := 3) rfl) rfl rfl dX6_lies_13 ?_
  refine m_iload_n hC dX6_lies_16 1 rfl ?_
  refine m_iald hC (wm_7 y g S) (t0 := 0) rfl dX6_lies_17 ?_
  intro x2
  refine m_iald hC (wm_1 y g S) (t0 := 0) rfl dX6_lies_18 ?_
  intro x3
  refine m_iadd hC dX6_lies_19 ?_
  refine m_nmI ?_
  intro x4
  refine m_istore_n hC [(0, .ref (g 0)), (1, .int a), (2, .int x1), (3, .int x4)] [1, 2, 3, 0] dX6_lies_20 (by decide) rfl rfl ?_
  refine m_iconst hC (0) dX6_lies_21 (by decide) ?_
  refine m_istore hC [(0, .ref (g 0)), (1, .int a), (2, .int x1), (3, .int x4), (4, .int 0)] [1, 2, 3, 4, 0] dX6_lies_22 (by decide) rfl rfl ?_
  refine m_iconst hC (0) dX6_lies_24 (by decide) ?_
  refine m_istore hC [(0, .ref (g 0)), (1, .int a), (2, .int x1), (3, .int x4), (4, .int 0), (5, .int 0)] [1, 2, 3, 4, 5, 0] dX6_lies_25 (by decide) rfl rfl ?_
  refine (m_it (z := (fun _ _ => none)) (F := fX6_lies_L27 a x1 x4 S) N (fun r7 => ∀ (x5 : Int32) (x6 : Int32), Sm p l e (headSpec wsX6_lies rmX6_lies).room s m args below meth c D vwCl (wm y g) (AM g s.heap.size) 9 Q x0 (r7 x5 x6) S 27 [(0, .ref (g 0)), (1, .int a), (2, .int x1), (3, .int x4), (4, .int x5), (5, .int x6)] []) ?_ ?_) 0 0
  · exact fun _ _ => m_none
  · intro r7 hr7 x5 x6
    unfold fX6_lies_L27
    refine m_iload hC dX6_lies_27 5 rfl ?_
    refine m_aload_n hC dX6_lies_29 0 rfl ?_
    refine m_get hC iX6_lies_X6 (wm_0 y g S) rfl 19 (by decide) (List.mem_of_getElem? (i := 4) rfl) rfl rfl dX6_lies_30 ?_
    refine m_icmp_ge hC 154 dX6_lies_33 (by decide) ?_ ?_
    · refine m_iload hC dX6_lies_154 4 rfl ?_
      exact hret _ _ _ dX6_lies_156
    · refine m_aload_n hC dX6_lies_36 0 rfl ?_
      refine m_get hC iX6_lies_X6 (wm_0 y g S) rfl 21 (by decide) (List.mem_of_getElem? (i := 5) rfl) rfl rfl dX6_lies_37 ?_
      refine m_iload hC dX6_lies_40 5 rfl ?_
      refine m_iald hC (wm_8 y g S) (t0 := 0) rfl dX6_lies_42 ?_
      intro x8
      refine m_aload_n hC dX6_lies_43 0 rfl ?_
      refine m_get hC iX6_lies_X6 (wm_0 y g S) rfl 21 (by decide) (List.mem_of_getElem? (i := 5) rfl) rfl rfl dX6_lies_44 ?_
      refine m_iload_n hC dX6_lies_47 1 rfl ?_
      refine m_iald hC (wm_8 y g S) (t0 := 0) rfl dX6_lies_48 ?_
      intro x9
      refine m_iconst hC (1) dX6_lies_49 (by decide) ?_
      refine m_isub hC dX6_lies_50 ?_
      refine m_icmp_ne hC 148 dX6_lies_51 (by decide) ?_ ?_
      · refine m_iinc hC (fun x10 => [(0, .ref (g 0)), (1, .int a), (2, .int x1), (3, .int x4), (4, .int x5), (5, .int x10)]) [1, 2, 3, 4, 5, 0] dX6_lies_148 (j := 5) rfl (by decide) (by decide) (fun _ => rfl) (fun _ => rfl) ?_
        intro x10
        refine m_goto hC 27 dX6_lies_151 (by decide) ?_
        exact hr7 _ _
      · refine m_aload_n hC dX6_lies_54 0 rfl ?_
        refine m_get hC iX6_lies_X6 (wm_0 y g S) rfl 24 (by decide) (List.mem_of_getElem? (i := 6) rfl) rfl rfl dX6_lies_55 ?_
        refine m_iload hC dX6_lies_58 5 rfl ?_
        refine m_zald hC (wm_11 y g S) (t0 := 1) rfl dX6_lies_60 ?_
        intro x11
        refine m_if_ne hC 67 dX6_lies_61 (by decide) ?_ ?_
        · refine m_aload_n hC dX6_lies_67 0 rfl ?_
          refine m_get hC iX6_lies_X6 (wm_0 y g S) rfl 22 (by decide) (List.mem_of_getElem? (i := 1) rfl) rfl rfl dX6_lies_68 ?_
          refine m_iload hC dX6_lies_71 5 rfl ?_
          refine m_iald hC (wm_9 y g S) (t0 := 0) rfl dX6_lies_73 ?_
          intro x12
          refine m_iload_n hC dX6_lies_74 2 rfl ?_
          refine m_jn (fun J14 => ∀ (x13 : Int32), Sm p l e (headSpec wsX6_lies rmX6_lies).room s m args below meth c D vwCl (wm y g) (AM g s.heap.size) 9 Q x0 (J14 x13) S 89 [(0, .ref (g 0)), (1, .int a), (2, .int x1), (3, .int x4), (4, .int x5), (5, .int x6)] [.int x13]) ?_ (fun J14 hJ14 => ?_)
          · intro x13
            refine m_istore hC [(0, .ref (g 0)), (1, .int a), (2, .int x1), (3, .int x4), (4, .int x5), (5, .int x6), (6, .int x13)] [1, 2, 3, 4, 5, 6, 0] dX6_lies_89 (by decide) rfl rfl ?_
            refine m_aload_n hC dX6_lies_91 0 rfl ?_
            refine m_get hC iX6_lies_X6 (wm_0 y g S) rfl 22 (by decide) (List.mem_of_getElem? (i := 1) rfl) rfl rfl dX6_lies_92 ?_
            refine m_iload hC dX6_lies_95 5 rfl ?_
            refine m_iald hC (wm_9 y g S) (t0 := 0) rfl dX6_lies_97 ?_
            intro x15
            refine m_aload_n hC dX6_lies_98 0 rfl ?_
            refine m_get hC iX6_lies_X6 (wm_0 y g S) rfl 1 (by decide) (List.mem_of_getElem? (i := 2) rfl) rfl rfl dX6_lies_99 ?_
            refine m_aload_n hC dX6_lies_102 0 rfl ?_
            refine m_get hC iX6_lies_X6 (wm_0 y g S) rfl 20 (by decide) (List.mem_of_getElem? (i := 3) rfl) rfl rfl dX6_lies_103 ?_
            refine m_iload hC dX6_lies_106 5 rfl ?_
            refine m_iald hC (wm_7 y g S) (t0 := 0) rfl dX6_lies_108 ?_
            intro x16
            refine m_iald hC (wm_1 y g S) (t0 := 0) rfl dX6_lies_109 ?_
            intro x17
            refine m_iadd hC dX6_lies_110 ?_
            refine m_nmI ?_
            intro x18
            refine m_istore hC [(0, .ref (g 0)), (1, .int a), (2, .int x1), (3, .int x4), (4, .int x5), (5, .int x6), (6, .int x13), (7, .int x18)] [1, 2, 3, 4, 5, 6, 7, 0] dX6_lies_111 (by decide) rfl rfl ?_
            refine m_iload hC dX6_lies_113 7 rfl ?_
            refine m_iload_n hC dX6_lies_115 3 rfl ?_
            refine m_jn (fun J20 => ∀ (x19 : Int32), Sm p l e (headSpec wsX6_lies rmX6_lies).room s m args below meth c D vwCl (wm y g) (AM g s.heap.size) 9 Q x0 (J20 x19) S 125 [(0, .ref (g 0)), (1, .int a), (2, .int x1), (3, .int x4), (4, .int x5), (5, .int x6), (6, .int x13)] [.int x19]) ?_ (fun J20 hJ20 => ?_)
            · intro x19
              refine m_istore hC [(0, .ref (g 0)), (1, .int a), (2, .int x1), (3, .int x4), (4, .int x5), (5, .int x6), (6, .int x13), (8, .int x19)] [1, 2, 3, 4, 5, 6, 7, 0] dX6_lies_125 (by decide) rfl rfl ?_
              refine m_iload hC dX6_lies_127 4 rfl ?_
              refine m_iload hC dX6_lies_129 7 rfl ?_
              refine m_iload hC dX6_lies_131 6 rfl ?_
              refine m_icmp_le hC 144 dX6_lies_133 (by decide) ?_ ?_
              · refine m_iconst hC (0) dX6_lies_144 (by decide) ?_
                refine m_iadd hC dX6_lies_145 ?_
                refine m_nmI ?_
                intro x21
                refine m_istore hC [(0, .ref (g 0)), (1, .int a), (2, .int x1), (3, .int x4), (4, .int x21), (5, .int x6), (6, .int x13), (8, .int x19)] [1, 2, 3, 4, 0, 5, 6, 7] dX6_lies_146 (by decide) rfl rfl ?_
                refine m_iinc hC (fun x22 => [(0, .ref (g 0)), (1, .int a), (2, .int x1), (3, .int x4), (4, .int x21), (5, .int x22), (6, .int x13), (8, .int x19)]) [1, 2, 3, 4, 5, 0, 6, 7] dX6_lies_148 (j := 5) rfl (by decide) (by decide) (fun _ => rfl) (fun _ => rfl) ?_
                intro x22
                refine m_goto hC 27 dX6_lies_151 (by decide) ?_
                refine m_lv [(0, .ref (g 0)), (1, .int a), (2, .int x1), (3, .int x4), (4, .int x21), (5, .int x22)] [0, 1, 2, 3, 4, 5] rfl ?_
                exact hr7 _ _
              · refine m_iload hC dX6_lies_136 7 rfl ?_
                refine m_iload hC dX6_lies_138 6 rfl ?_
                refine m_isub hC dX6_lies_140 ?_
                refine m_goto hC 145 dX6_lies_141 (by decide) ?_
                refine m_iadd hC dX6_lies_145 ?_
                refine m_nmI ?_
                intro x23
                refine m_istore hC [(0, .ref (g 0)), (1, .int a), (2, .int x1), (3, .int x4), (4, .int x23), (5, .int x6), (6, .int x13), (8, .int x19)] [1, 2, 3, 4, 0, 5, 6, 7] dX6_lies_146 (by decide) rfl rfl ?_
                refine m_iinc hC (fun x24 => [(0, .ref (g 0)), (1, .int a), (2, .int x1), (3, .int x4), (4, .int x23), (5, .int x24), (6, .int x13), (8, .int x19)]) [1, 2, 3, 4, 5, 0, 6, 7] dX6_lies_148 (j := 5) rfl (by decide) (by decide) (fun _ => rfl) (fun _ => rfl) ?_
                intro x24
                refine m_goto hC 27 dX6_lies_151 (by decide) ?_
                refine m_lv [(0, .ref (g 0)), (1, .int a), (2, .int x1), (3, .int x4), (4, .int x23), (5, .int x24)] [0, 1, 2, 3, 4, 5] rfl ?_
                exact hr7 _ _
            · refine m_icmp_ge hC 124 dX6_lies_116 (by decide) ?_ ?_
              · refine m_iload_n hC dX6_lies_124 3 rfl ?_
                refine m_lv [(0, .ref (g 0)), (1, .int a), (2, .int x1), (3, .int x4), (4, .int x5), (5, .int x6), (6, .int x13)] [0, 1, 2, 3, 4, 5, 6] rfl ?_
                exact hJ20 _
              · refine m_iload hC dX6_lies_119 7 rfl ?_
                refine m_goto hC 125 dX6_lies_121 (by decide) ?_
                refine m_lv [(0, .ref (g 0)), (1, .int a), (2, .int x1), (3, .int x4), (4, .int x5), (5, .int x6), (6, .int x13)] [0, 1, 2, 3, 4, 5, 6] rfl ?_
                exact hJ20 _
          · refine m_icmp_le hC 88 dX6_lies_75 (by decide) ?_ ?_
            · refine m_iload_n hC dX6_lies_88 2 rfl ?_
              exact hJ14 _
            · refine m_aload_n hC dX6_lies_78 0 rfl ?_
              refine m_get hC iX6_lies_X6 (wm_0 y g S) rfl 22 (by decide) (List.mem_of_getElem? (i := 1) rfl) rfl rfl dX6_lies_79 ?_
              refine m_iload hC dX6_lies_82 5 rfl ?_
              refine m_iald hC (wm_9 y g S) (t0 := 0) rfl dX6_lies_84 ?_
              intro x25
              refine m_goto hC 89 dX6_lies_85 (by decide) ?_
              exact hJ14 _
        · refine m_goto hC 148 dX6_lies_64 (by decide) ?_
          refine m_iinc hC (fun x26 => [(0, .ref (g 0)), (1, .int a), (2, .int x1), (3, .int x4), (4, .int x5), (5, .int x26)]) [1, 2, 3, 4, 5, 0] dX6_lies_148 (j := 5) rfl (by decide) (by decide) (fun _ => rfl) (fun _ => rfl) ?_
          intro x26
          refine m_goto hC 27 dX6_lies_151 (by decide) ?_
          exact hr7 _ _
def fX6_frost_L252 (K27 : Int32 → Int32 → St → Option (Int32 × St)) (r26 : Int32 → Int32 → Int32 → St → Option (Int32 × St)) : Int32 → Int32 → Int32 → St → Option (Int32 × St) := fun x22 x23 x24 S25 =>
  if x24 < (S25.1 0 19) then
    ldI 150 (S25.1 19) x24 fun x31 =>
    if x31 = 0 then
      nmI (x24 + 1) fun x35 =>
      r26 x22 x23 x35 S25
    else
      stI S25 11 150 x24 0 fun S32 =>
      nmI (x22 + 1) fun x33 =>
      nmI (x24 + 1) fun x34 =>
      r26 x33 1 x34 S32
  else
    K27 x22 x23 S25
def fX6_frost_L169 (N : Nat) (K20 : St → Option (Int32 × St)) (r19 : Int32 → St → Option (Int32 × St)) : Int32 → St → Option (Int32 × St) := fun x17 S18 =>
  if x17 < (S18.1 0 19) then
    ldI 150 (S18.1 11) x17 fun x36 =>
    if x36 = 0 then
      stI S18 19 150 x17 0 fun S37 =>
      nmI (x17 + 1) fun x38 =>
      r19 x38 S37
    else
      ldI 150 (S18.1 10) x17 fun x39 =>
      if x39 = 0 then
        stI S18 19 150 x17 1 fun S40 =>
        nmI (x17 + 1) fun x41 =>
        r19 x41 S40
      else
        ldI 150 (S18.1 8) x17 fun x42 =>
        if x42 ≤ 0 then
          stI S18 19 150 x17 0 fun S43 =>
          nmI (x17 + 1) fun x44 =>
          r19 x44 S43
        else
          caP (fX6_lies N x17 S18) fun x45 =>
          ldI 150 (S18.1 7) x17 fun x46 =>
          ldI 8 (S18.1 1) x46 fun x47 =>
          if (2 * x45) < x47 then
            stI S18 19 150 x17 1 fun S50 =>
            nmI (x17 + 1) fun x51 =>
            r19 x51 S50
          else
            stI S18 19 150 x17 0 fun S48 =>
            nmI (x17 + 1) fun x49 =>
            r19 x49 S48
  else
    K20 S18
def fX6_frost_L160 (N : Nat) (r16 : Int32 → Int32 → St → Option (Int32 × St)) : Int32 → Int32 → St → Option (Int32 × St) := fun x13 x14 S15 =>
  if x14 = 0 then
    some (x13, S15)
  else
    itN (fun _ _ => none) (fX6_frost_L169 N (fun (S21 : St) =>
        itN (fun _ _ _ _ => none) (fX6_frost_L252 (fun (x28 : Int32) (x29 : Int32) (S30 : St) =>
            r16 x28 x29 S30)) N x13 0 0 S21)) N 0 S15
def fX6_frost_L104 (K11 : St → Option (Int32 × St)) (r10 : Int32 → St → Option (Int32 × St)) : Int32 → St → Option (Int32 × St) := fun x8 S9 =>
  if x8 < (S9.1 0 19) then
    ldI 150 (S9.1 10) x8 fun x52 =>
    ldI 150 (S9.1 20) x8 fun x53 =>
    if x52 < x53 then
      stI S9 10 150 x8 0 fun S58 =>
      nmI (x8 + 1) fun x59 =>
      r10 x59 S58
    else
      ldI 150 (S9.1 10) x8 fun x54 =>
      ldI 150 (S9.1 20) x8 fun x55 =>
      stI S9 10 150 x8 (x54 - x55) fun S56 =>
      nmI (x8 + 1) fun x57 =>
      r10 x57 S56
  else
    K11 S9
def fX6_frost_L36 (N : Nat) (a : Int32) (K6 : St → Option (Int32 × St)) (r5 : Int32 → St → Option (Int32 × St)) : Int32 → St → Option (Int32 × St) := fun x3 S4 =>
  if x3 < (S4.1 0 19) then
    ldI 150 (S4.1 11) x3 fun x60 =>
    if x60 = 0 then
      stI S4 20 150 x3 0 fun S61 =>
      nmI (x3 + 1) fun x62 =>
      r5 x62 S61
    else
      caP (fX6_beside N x3 0 S4) fun x63 =>
      jn (fun (x64 : Int32) =>
          caP (fX6_beside N x3 1 S4) fun x66 =>
          jn (fun (x67 : Int32) =>
              stI S4 20 150 x3 (a * ((1 + x64) + x67)) fun S69 =>
              nmI (x3 + 1) fun x70 =>
              r5 x70 S69) fun J68 =>
          if x66 = 0 then
            J68 1
          else
            J68 0) fun J65 =>
      if x63 = 0 then
        J65 1
      else
        J65 0
  else
    K6 S4
def fX6_frost (N : Nat) (a : Int32) (S : St) : Option (Int32 × St) :=
  pfI S 0 28 0 fun S1 =>
  if (S1.1 0 18) = 0 then
    some ((-1), S1)
  else
    if a < 0 then
      some ((-1), S1)
    else
      if a ≤ 50 then
        pfI S1 0 27 ((S1.1 0 27) + 1) fun S2 =>
        itN (fun _ _ => none) (fX6_frost_L36 N a (fun (S7 : St) =>
            itN (fun _ _ => none) (fX6_frost_L104 (fun (S12 : St) =>
                itN (fun _ _ _ => none) (fX6_frost_L160 N) N 0 1 S12)) N 0 S7)) N 0 S2
      else
        some ((-1), S1)
abbrev rmX6_frost : Room := { frames := 1, cells := 0, slots := 0, locals := 28 }
theorem iX6_frost_X6 : ∀ w ∈ wsX60, w ∈ wsX6_frost := fun w h => List.mem_cons_of_mem _ (List.mem_append_right _ h)
set_option maxHeartbeats 4000000 in
set_option maxRecDepth 100000 in
theorem kX6_frost (l : Launch) (D : va_G) (y : Cy) (g : Nat → Nat) (N : Nat) (a : Int32) (S : St) (x0 : Int32 × St) (h : fX6_frost N a S = some x0) : KI l yX6_frost wsX6_frost rmX6_frost D vwCl (tz y) (wm y g) (AM g) [.ref (g 0), .int a] S (fun r S2 => (r, S2) = x0) := by
  refine m_entryI (wm_ok y g) (by decide) rfl (Nat.le_of_ble_eq_true rfl) (lv := [(0, .ref (g 0)), (1, .int a)]) rfl h ?_
  intro p e s m args below meth c hC hr hlocks
  obtain ⟨Q, hQ⟩ : ∃ Q, Q = (MQ below (va_Qi (fun r S2 => (r, S2) = x0) (Bw D vwCl (tz y) (wm y g) (AM g s.heap.size)) (AM g s.heap.size)) args s 0 0 (AM g s.heap.size)) := ⟨_, rfl⟩
  rw [← hQ]
  have hret : ∀ (v : Int32) (S2 : St) (pc : Nat) (lv : List (Nat × Value)), decode cX6_frost pc = .ok (.ireturn, 1) → Sm p l e (headSpec wsX6_frost rmX6_frost).room s m args below meth c D vwCl (wm y g) (AM g s.heap.size) 5 Q x0 (some (v, S2)) S2 pc lv [.int v] := by
    rw [hQ]
    exact fun v S2 pc lv hd => m_iret hC hr hlocks hd
  clear hQ
  unfold fX6_frost
  refine m_aload_n hC dX6_frost_0 0 rfl ?_
  refine m_iconst hC (0) dX6_frost_1 (by decide) ?_
  refine m_putI (ty := .int) hC iX6_frost_X6 tyX6 tyX6_ok nmX6 (wm_0 y g S) rfl 28 (by decide) (List.mem_of_getElem? (i := 1) rfl) rfl rfl (by decide +kernel) rfl rfl (Nat.le_of_ble_eq_true rfl) dX6_frost_2 (wmf_0_28 y g S _) ?_
  intro S1
  refine m_aload_n hC dX6_frost_5 0 rfl ?_
  refine m_get hC iX6_frost_X6 (wm_0 y g S1) rfl 18 (by decide) (List.mem_of_getElem? (i := 2) rfl) rfl rfl dX6_frost_6 ?_
  refine m_if_eq hC 22 dX6_frost_9 (by decide) ?_ ?_
  · refine m_iconst hC (-1) dX6_frost_22 (by decide) ?_
    exact hret _ _ _ _ dX6_frost_23
  · refine m_iload_n hC dX6_frost_12 1 rfl ?_
    refine m_if_lt hC 22 dX6_frost_13 (by decide) ?_ ?_
    · refine m_iconst hC (-1) dX6_frost_22 (by decide) ?_
      exact hret _ _ _ _ dX6_frost_23
    · refine m_iload_n hC dX6_frost_16 1 rfl ?_
      refine m_bipush hC (50) dX6_frost_17 (by decide) ?_
      refine m_icmp_le hC 24 dX6_frost_19 (by decide) ?_ ?_
      · refine m_aload_n hC dX6_frost_24 0 rfl ?_
        refine m_dup hC dX6_frost_25 rfl ?_
        refine m_get hC iX6_frost_X6 (wm_0 y g S1) rfl 27 (by decide) (List.mem_of_getElem? (i := 3) rfl) rfl rfl dX6_frost_26 ?_
        refine m_iconst hC (1) dX6_frost_29 (by decide) ?_
        refine m_iadd hC dX6_frost_30 ?_
        refine m_putI (ty := .int) hC iX6_frost_X6 tyX6 tyX6_ok nmX6 (wm_0 y g S1) rfl 27 (by decide) (List.mem_of_getElem? (i := 3) rfl) rfl rfl (by decide +kernel) rfl rfl (Nat.le_of_ble_eq_true rfl) dX6_frost_31 (wmf_0_27 y g S1 _) ?_
        intro S2
        refine m_iconst hC (0) dX6_frost_34 (by decide) ?_
        refine m_istore_n hC [(0, .ref (g 0)), (1, .int a), (2, .int 0)] [1, 2, 0] dX6_frost_35 (by decide) rfl rfl ?_
        refine (m_itK (z := (fun _ _ => none)) (F := fX6_frost_L36 N a) N (fun K6 => ∀ (S7 : St), Sm p l e (headSpec wsX6_frost rmX6_frost).room s m args below meth c D vwCl (wm y g) (AM g s.heap.size) 5 Q x0 (K6 S7) S7 102 [(0, .ref (g 0))] []) (fun r5 => ∀ (x3 : Int32) (S4 : St), Sm p l e (headSpec wsX6_frost rmX6_frost).room s m args below meth c D vwCl (wm y g) (AM g s.heap.size) 5 Q x0 (r5 x3 S4) S4 36 [(0, .ref (g 0)), (1, .int a), (2, .int x3)] []) ?_ ?_ ?_) 0 S2
        · exact fun _ _ => m_none
        · intro S7
          refine m_iconst hC (0) dX6_frost_102 (by decide) ?_
          refine m_istore_n hC [(0, .ref (g 0)), (2, .int 0)] [1, 0] dX6_frost_103 (by decide) rfl rfl ?_
          refine (m_itK (z := (fun _ _ => none)) (F := fX6_frost_L104) N (fun K11 => ∀ (S12 : St), Sm p l e (headSpec wsX6_frost rmX6_frost).room s m args below meth c D vwCl (wm y g) (AM g s.heap.size) 5 Q x0 (K11 S12) S12 156 [(0, .ref (g 0))] []) (fun r10 => ∀ (x8 : Int32) (S9 : St), Sm p l e (headSpec wsX6_frost rmX6_frost).room s m args below meth c D vwCl (wm y g) (AM g s.heap.size) 5 Q x0 (r10 x8 S9) S9 104 [(0, .ref (g 0)), (2, .int x8)] []) ?_ ?_ ?_) 0 S7
          · exact fun _ _ => m_none
          · intro S12
            refine m_iconst hC (0) dX6_frost_156 (by decide) ?_
            refine m_istore_n hC [(0, .ref (g 0)), (2, .int 0)] [1, 0] dX6_frost_157 (by decide) rfl rfl ?_
            refine m_iconst hC (1) dX6_frost_158 (by decide) ?_
            refine m_istore_n hC [(0, .ref (g 0)), (2, .int 0), (3, .int 1)] [1, 2, 0] dX6_frost_159 (by decide) rfl rfl ?_
            refine (m_it (z := (fun _ _ _ => none)) (F := fX6_frost_L160 N) N (fun r16 => ∀ (x13 : Int32) (x14 : Int32) (S15 : St), Sm p l e (headSpec wsX6_frost rmX6_frost).room s m args below meth c D vwCl (wm y g) (AM g s.heap.size) 5 Q x0 (r16 x13 x14 S15) S15 160 [(0, .ref (g 0)), (2, .int x13), (3, .int x14)] []) ?_ ?_) 0 1 S12
            · exact fun _ _ _ => m_none
            · intro r16 hr16 x13 x14 S15
              unfold fX6_frost_L160
              refine m_iload_n hC dX6_frost_160 2 rfl ?_
              refine m_if_eq hC 296 dX6_frost_161 (by decide) ?_ ?_
              · refine m_iload_n hC dX6_frost_296 1 rfl ?_
                exact hret _ _ _ _ dX6_frost_297
              · refine m_iconst hC (0) dX6_frost_164 (by decide) ?_
                refine m_istore_n hC [(0, .ref (g 0)), (2, .int x13), (3, .int 0)] [1, 2, 0] dX6_frost_165 (by decide) rfl rfl ?_
                refine m_iconst hC (0) dX6_frost_166 (by decide) ?_
                refine m_istore hC [(0, .ref (g 0)), (2, .int x13), (3, .int 0), (4, .int 0)] [1, 2, 3, 0] dX6_frost_167 (by decide) rfl rfl ?_
                refine (m_itK (z := (fun _ _ => none)) (F := fX6_frost_L169 N) N (fun K20 => ∀ (S21 : St), Sm p l e (headSpec wsX6_frost rmX6_frost).room s m args below meth c D vwCl (wm y g) (AM g s.heap.size) 5 Q x0 (K20 S21) S21 249 [(0, .ref (g 0)), (2, .int x13), (3, .int 0)] []) (fun r19 => ∀ (x17 : Int32) (S18 : St), Sm p l e (headSpec wsX6_frost rmX6_frost).room s m args below meth c D vwCl (wm y g) (AM g s.heap.size) 5 Q x0 (r19 x17 S18) S18 169 [(0, .ref (g 0)), (2, .int x13), (3, .int 0), (4, .int x17)] []) ?_ ?_ ?_) 0 S15
                · exact fun _ _ => m_none
                · intro S21
                  refine m_iconst hC (0) dX6_frost_249 (by decide) ?_
                  refine m_istore hC [(0, .ref (g 0)), (2, .int x13), (3, .int 0), (4, .int 0)] [1, 2, 3, 0] dX6_frost_250 (by decide) rfl rfl ?_
                  refine (m_itK (z := (fun _ _ _ _ => none)) (F := fX6_frost_L252) N (fun K27 => ∀ (x28 : Int32) (x29 : Int32) (S30 : St), Sm p l e (headSpec wsX6_frost rmX6_frost).room s m args below meth c D vwCl (wm y g) (AM g s.heap.size) 5 Q x0 (K27 x28 x29 S30) S30 293 [(0, .ref (g 0)), (2, .int x28), (3, .int x29)] []) (fun r26 => ∀ (x22 : Int32) (x23 : Int32) (x24 : Int32) (S25 : St), Sm p l e (headSpec wsX6_frost rmX6_frost).room s m args below meth c D vwCl (wm y g) (AM g s.heap.size) 5 Q x0 (r26 x22 x23 x24 S25) S25 252 [(0, .ref (g 0)), (2, .int x22), (3, .int x23), (4, .int x24)] []) ?_ ?_ ?_) x13 0 0 S21
                  · exact fun _ _ _ _ => m_none
                  · intro x28 x29 S30
                    refine m_goto hC 160 dX6_frost_293 (by decide) ?_
                    exact hr16 _ _ _
                  · intro K27 hK27 r26 hr26 x22 x23 x24 S25
                    unfold fX6_frost_L252
                    refine m_iload hC dX6_frost_252 3 rfl ?_
                    refine m_aload_n hC dX6_frost_254 0 rfl ?_
                    refine m_get hC iX6_frost_X6 (wm_0 y g S25) rfl 19 (by decide) (List.mem_of_getElem? (i := 4) rfl) rfl rfl dX6_frost_255 ?_
                    refine m_icmp_ge hC 293 dX6_frost_258 (by decide) ?_ ?_
                    · refine m_lv [(0, .ref (g 0)), (2, .int x22), (3, .int x23)] [0, 1, 2] rfl ?_
                      exact hK27 _ _ _
                    · refine m_aload_n hC dX6_frost_261 0 rfl ?_
                      refine m_get hC iX6_frost_X6 (wm_0 y g S25) rfl 35 (by decide) (List.mem_of_getElem? (i := 8) rfl) rfl rfl dX6_frost_262 ?_
                      refine m_iload hC dX6_frost_265 3 rfl ?_
                      refine m_zald hC (wm_19 y g S25) (t0 := 1) rfl dX6_frost_267 ?_
                      intro x31
                      refine m_if_ne hC 274 dX6_frost_268 (by decide) ?_ ?_
                      · refine m_aload_n hC dX6_frost_274 0 rfl ?_
                        refine m_get hC iX6_frost_X6 (wm_0 y g S25) rfl 24 (by decide) (List.mem_of_getElem? (i := 6) rfl) rfl rfl dX6_frost_275 ?_
                        refine m_iload hC dX6_frost_278 3 rfl ?_
                        refine m_iconst hC (0) dX6_frost_280 (by decide) ?_
                        refine m_zast hC (by decide) (wm_11 y g S25) (t0 := 1) rfl (wms_11 y g S25) dX6_frost_281 ?_
                        intro S32
                        refine m_iinc hC (fun x33 => [(0, .ref (g 0)), (2, .int x33), (3, .int x23), (4, .int x24)]) [1, 0, 2, 3] dX6_frost_282 (j := 1) rfl (by decide) (by decide) (fun _ => rfl) (fun _ => rfl) ?_
                        intro x33
                        refine m_iconst hC (1) dX6_frost_285 (by decide) ?_
                        refine m_istore_n hC [(0, .ref (g 0)), (2, .int x33), (3, .int 1), (4, .int x24)] [1, 2, 0, 3] dX6_frost_286 (by decide) rfl rfl ?_
                        refine m_iinc hC (fun x34 => [(0, .ref (g 0)), (2, .int x33), (3, .int 1), (4, .int x34)]) [1, 2, 3, 0] dX6_frost_287 (j := 3) rfl (by decide) (by decide) (fun _ => rfl) (fun _ => rfl) ?_
                        intro x34
                        refine m_goto hC 252 dX6_frost_290 (by decide) ?_
                        exact hr26 _ _ _ _
                      · refine m_goto hC 287 dX6_frost_271 (by decide) ?_
                        refine m_iinc hC (fun x35 => [(0, .ref (g 0)), (2, .int x22), (3, .int x23), (4, .int x35)]) [1, 2, 3, 0] dX6_frost_287 (j := 3) rfl (by decide) (by decide) (fun _ => rfl) (fun _ => rfl) ?_
                        intro x35
                        refine m_goto hC 252 dX6_frost_290 (by decide) ?_
                        exact hr26 _ _ _ _
                · intro K20 hK20 r19 hr19 x17 S18
                  unfold fX6_frost_L169
                  refine m_iload hC dX6_frost_169 3 rfl ?_
                  refine m_aload_n hC dX6_frost_171 0 rfl ?_
                  refine m_get hC iX6_frost_X6 (wm_0 y g S18) rfl 19 (by decide) (List.mem_of_getElem? (i := 4) rfl) rfl rfl dX6_frost_172 ?_
                  refine m_icmp_ge hC 249 dX6_frost_175 (by decide) ?_ ?_
                  · refine m_lv [(0, .ref (g 0)), (2, .int x13), (3, .int 0)] [0, 1, 2] rfl ?_
                    exact hK20 _
                  · refine m_aload_n hC dX6_frost_178 0 rfl ?_
                    refine m_get hC iX6_frost_X6 (wm_0 y g S18) rfl 35 (by decide) (List.mem_of_getElem? (i := 8) rfl) rfl rfl dX6_frost_179 ?_
                    refine m_iload hC dX6_frost_182 3 rfl ?_
                    refine m_aload_n hC dX6_frost_184 0 rfl ?_
                    refine m_get hC iX6_frost_X6 (wm_0 y g S18) rfl 24 (by decide) (List.mem_of_getElem? (i := 6) rfl) rfl rfl dX6_frost_185 ?_
                    refine m_iload hC dX6_frost_188 3 rfl ?_
                    refine m_zald hC (wm_11 y g S18) (t0 := 1) rfl dX6_frost_190 ?_
                    intro x36
                    refine m_if_eq hC 241 dX6_frost_191 (by decide) ?_ ?_
                    · refine m_iconst hC (0) dX6_frost_241 (by decide) ?_
                      refine m_zast hC (by decide) (wm_19 y g S18) (t0 := 1) rfl (wms_19 y g S18) dX6_frost_242 ?_
                      intro S37
                      refine m_iinc hC (fun x38 => [(0, .ref (g 0)), (2, .int x13), (3, .int 0), (4, .int x38)]) [1, 2, 3, 0] dX6_frost_243 (j := 3) rfl (by decide) (by decide) (fun _ => rfl) (fun _ => rfl) ?_
                      intro x38
                      refine m_goto hC 169 dX6_frost_246 (by decide) ?_
                      exact hr19 _ _
                    · refine m_aload_n hC dX6_frost_194 0 rfl ?_
                      refine m_get hC iX6_frost_X6 (wm_0 y g S18) rfl 23 (by decide) (List.mem_of_getElem? (i := 7) rfl) rfl rfl dX6_frost_195 ?_
                      refine m_iload hC dX6_frost_198 3 rfl ?_
                      refine m_iald hC (wm_10 y g S18) (t0 := 0) rfl dX6_frost_200 ?_
                      intro x39
                      refine m_if_eq hC 237 dX6_frost_201 (by decide) ?_ ?_
                      · refine m_iconst hC (1) dX6_frost_237 (by decide) ?_
                        refine m_goto hC 242 dX6_frost_238 (by decide) ?_
                        refine m_zast hC (by decide) (wm_19 y g S18) (t0 := 1) rfl (wms_19 y g S18) dX6_frost_242 ?_
                        intro S40
                        refine m_iinc hC (fun x41 => [(0, .ref (g 0)), (2, .int x13), (3, .int 0), (4, .int x41)]) [1, 2, 3, 0] dX6_frost_243 (j := 3) rfl (by decide) (by decide) (fun _ => rfl) (fun _ => rfl) ?_
                        intro x41
                        refine m_goto hC 169 dX6_frost_246 (by decide) ?_
                        exact hr19 _ _
                      · refine m_aload_n hC dX6_frost_204 0 rfl ?_
                        refine m_get hC iX6_frost_X6 (wm_0 y g S18) rfl 21 (by decide) (List.mem_of_getElem? (i := 9) rfl) rfl rfl dX6_frost_205 ?_
                        refine m_iload hC dX6_frost_208 3 rfl ?_
                        refine m_iald hC (wm_8 y g S18) (t0 := 0) rfl dX6_frost_210 ?_
                        intro x42
                        refine m_if_le hC 241 dX6_frost_211 (by decide) ?_ ?_
                        · refine m_iconst hC (0) dX6_frost_241 (by decide) ?_
                          refine m_zast hC (by decide) (wm_19 y g S18) (t0 := 1) rfl (wms_19 y g S18) dX6_frost_242 ?_
                          intro S43
                          refine m_iinc hC (fun x44 => [(0, .ref (g 0)), (2, .int x13), (3, .int 0), (4, .int x44)]) [1, 2, 3, 0] dX6_frost_243 (j := 3) rfl (by decide) (by decide) (fun _ => rfl) (fun _ => rfl) ?_
                          intro x44
                          refine m_goto hC 169 dX6_frost_246 (by decide) ?_
                          exact hr19 _ _
                        · refine m_iconst hC (2) dX6_frost_214 (by decide) ?_
                          refine m_aload_n hC dX6_frost_215 0 rfl ?_
                          refine m_iload hC dX6_frost_216 3 rfl ?_
                          refine m_cIPV hC (As := [.int x17]) (wm_ok y g) (cwV 1 hC.1.2.2.2.2 gX6_frost_X6_lies rfl rfl rfl (by decide +kernel) ⟨Nat.le_of_ble_eq_true rfl, Nat.le_of_ble_eq_true rfl⟩) (wm_0 y g S18) rfl (fun xq hq => kX6_lies l D y g N x17 S18 xq hq) rfl (Nat.le_of_ble_eq_true rfl) dX6_frost_218 ?_
                          intro x45
                          refine m_imul hC dX6_frost_221 ?_
                          refine m_aload_n hC dX6_frost_222 0 rfl ?_
                          refine m_get hC iX6_frost_X6 (wm_0 y g S18) rfl 1 (by decide) (List.mem_of_getElem? (i := 10) rfl) rfl rfl dX6_frost_223 ?_
                          refine m_aload_n hC dX6_frost_226 0 rfl ?_
                          refine m_get hC iX6_frost_X6 (wm_0 y g S18) rfl 20 (by decide) (List.mem_of_getElem? (i := 11) rfl) rfl rfl dX6_frost_227 ?_
                          refine m_iload hC dX6_frost_230 3 rfl ?_
                          refine m_iald hC (wm_7 y g S18) (t0 := 0) rfl dX6_frost_232 ?_
                          intro x46
                          refine m_iald hC (wm_1 y g S18) (t0 := 0) rfl dX6_frost_233 ?_
                          intro x47
                          refine m_icmp_ge hC 241 dX6_frost_234 (by decide) ?_ ?_
                          · refine m_iconst hC (0) dX6_frost_241 (by decide) ?_
                            refine m_zast hC (by decide) (wm_19 y g S18) (t0 := 1) rfl (wms_19 y g S18) dX6_frost_242 ?_
                            intro S48
                            refine m_iinc hC (fun x49 => [(0, .ref (g 0)), (2, .int x13), (3, .int 0), (4, .int x49)]) [1, 2, 3, 0] dX6_frost_243 (j := 3) rfl (by decide) (by decide) (fun _ => rfl) (fun _ => rfl) ?_
                            intro x49
                            refine m_goto hC 169 dX6_frost_246 (by decide) ?_
                            exact hr19 _ _
                          · refine m_iconst hC (1) dX6_frost_237 (by decide) ?_
                            refine m_goto hC 242 dX6_frost_238 (by decide) ?_
                            refine m_zast hC (by decide) (wm_19 y g S18) (t0 := 1) rfl (wms_19 y g S18) dX6_frost_242 ?_
                            intro S50
                            refine m_iinc hC (fun x51 => [(0, .ref (g 0)), (2, .int x13), (3, .int 0), (4, .int x51)]) [1, 2, 3, 0] dX6_frost_243 (j := 3) rfl (by decide) (by decide) (fun _ => rfl) (fun _ => rfl) ?_
                            intro x51
                            refine m_goto hC 169 dX6_frost_246 (by decide) ?_
                            exact hr19 _ _
          · intro K11 hK11 r10 hr10 x8 S9
            unfold fX6_frost_L104
            refine m_iload_n hC dX6_frost_104 1 rfl ?_
            refine m_aload_n hC dX6_frost_105 0 rfl ?_
            refine m_get hC iX6_frost_X6 (wm_0 y g S9) rfl 19 (by decide) (List.mem_of_getElem? (i := 4) rfl) rfl rfl dX6_frost_106 ?_
            refine m_icmp_ge hC 156 dX6_frost_109 (by decide) ?_ ?_
            · refine m_lv [(0, .ref (g 0))] [0] rfl ?_
              exact hK11 _
            · refine m_aload_n hC dX6_frost_112 0 rfl ?_
              refine m_get hC iX6_frost_X6 (wm_0 y g S9) rfl 23 (by decide) (List.mem_of_getElem? (i := 7) rfl) rfl rfl dX6_frost_113 ?_
              refine m_iload_n hC dX6_frost_116 1 rfl ?_
              refine m_aload_n hC dX6_frost_117 0 rfl ?_
              refine m_get hC iX6_frost_X6 (wm_0 y g S9) rfl 23 (by decide) (List.mem_of_getElem? (i := 7) rfl) rfl rfl dX6_frost_118 ?_
              refine m_iload_n hC dX6_frost_121 1 rfl ?_
              refine m_iald hC (wm_10 y g S9) (t0 := 0) rfl dX6_frost_122 ?_
              intro x52
              refine m_aload_n hC dX6_frost_123 0 rfl ?_
              refine m_get hC iX6_frost_X6 (wm_0 y g S9) rfl 36 (by decide) (List.mem_of_getElem? (i := 5) rfl) rfl rfl dX6_frost_124 ?_
              refine m_iload_n hC dX6_frost_127 1 rfl ?_
              refine m_iald hC (wm_20 y g S9) (t0 := 0) rfl dX6_frost_128 ?_
              intro x53
              refine m_icmp_ge hC 136 dX6_frost_129 (by decide) ?_ ?_
              · refine m_aload_n hC dX6_frost_136 0 rfl ?_
                refine m_get hC iX6_frost_X6 (wm_0 y g S9) rfl 23 (by decide) (List.mem_of_getElem? (i := 7) rfl) rfl rfl dX6_frost_137 ?_
                refine m_iload_n hC dX6_frost_140 1 rfl ?_
                refine m_iald hC (wm_10 y g S9) (t0 := 0) rfl dX6_frost_141 ?_
                intro x54
                refine m_aload_n hC dX6_frost_142 0 rfl ?_
                refine m_get hC iX6_frost_X6 (wm_0 y g S9) rfl 36 (by decide) (List.mem_of_getElem? (i := 5) rfl) rfl rfl dX6_frost_143 ?_
                refine m_iload_n hC dX6_frost_146 1 rfl ?_
                refine m_iald hC (wm_20 y g S9) (t0 := 0) rfl dX6_frost_147 ?_
                intro x55
                refine m_isub hC dX6_frost_148 ?_
                refine m_iast hC (wm_10 y g S9) (t0 := 0) rfl (wms_10 y g S9) dX6_frost_149 ?_
                intro S56
                refine m_iinc hC (fun x57 => [(0, .ref (g 0)), (2, .int x57)]) [1, 0] dX6_frost_150 (j := 1) rfl (by decide) (by decide) (fun _ => rfl) (fun _ => rfl) ?_
                intro x57
                refine m_goto hC 104 dX6_frost_153 (by decide) ?_
                exact hr10 _ _
              · refine m_iconst hC (0) dX6_frost_132 (by decide) ?_
                refine m_goto hC 149 dX6_frost_133 (by decide) ?_
                refine m_iast hC (wm_10 y g S9) (t0 := 0) rfl (wms_10 y g S9) dX6_frost_149 ?_
                intro S58
                refine m_iinc hC (fun x59 => [(0, .ref (g 0)), (2, .int x59)]) [1, 0] dX6_frost_150 (j := 1) rfl (by decide) (by decide) (fun _ => rfl) (fun _ => rfl) ?_
                intro x59
                refine m_goto hC 104 dX6_frost_153 (by decide) ?_
                exact hr10 _ _
        · intro K6 hK6 r5 hr5 x3 S4
          unfold fX6_frost_L36
          refine m_iload_n hC dX6_frost_36 2 rfl ?_
          refine m_aload_n hC dX6_frost_37 0 rfl ?_
          refine m_get hC iX6_frost_X6 (wm_0 y g S4) rfl 19 (by decide) (List.mem_of_getElem? (i := 4) rfl) rfl rfl dX6_frost_38 ?_
          refine m_icmp_ge hC 102 dX6_frost_41 (by decide) ?_ ?_
          · refine m_lv [(0, .ref (g 0))] [0] rfl ?_
            exact hK6 _
          · refine m_aload_n hC dX6_frost_44 0 rfl ?_
            refine m_get hC iX6_frost_X6 (wm_0 y g S4) rfl 36 (by decide) (List.mem_of_getElem? (i := 5) rfl) rfl rfl dX6_frost_45 ?_
            refine m_iload_n hC dX6_frost_48 2 rfl ?_
            refine m_aload_n hC dX6_frost_49 0 rfl ?_
            refine m_get hC iX6_frost_X6 (wm_0 y g S4) rfl 24 (by decide) (List.mem_of_getElem? (i := 6) rfl) rfl rfl dX6_frost_50 ?_
            refine m_iload_n hC dX6_frost_53 2 rfl ?_
            refine m_zald hC (wm_11 y g S4) (t0 := 1) rfl dX6_frost_54 ?_
            intro x60
            refine m_if_eq hC 94 dX6_frost_55 (by decide) ?_ ?_
            · refine m_iconst hC (0) dX6_frost_94 (by decide) ?_
              refine m_iast hC (wm_20 y g S4) (t0 := 0) rfl (wms_20 y g S4) dX6_frost_95 ?_
              intro S61
              refine m_iinc hC (fun x62 => [(0, .ref (g 0)), (1, .int a), (2, .int x62)]) [1, 2, 0] dX6_frost_96 (j := 2) rfl (by decide) (by decide) (fun _ => rfl) (fun _ => rfl) ?_
              intro x62
              refine m_goto hC 36 dX6_frost_99 (by decide) ?_
              exact hr5 _ _
            · refine m_iload_n hC dX6_frost_58 1 rfl ?_
              refine m_iconst hC (1) dX6_frost_59 (by decide) ?_
              refine m_aload_n hC dX6_frost_60 0 rfl ?_
              refine m_iload_n hC dX6_frost_61 2 rfl ?_
              refine m_iconst hC (0) dX6_frost_62 (by decide) ?_
              refine m_cIPV hC (As := [.int x3, .int 0]) (wm_ok y g) (cwV 2 hC.1.2.2.2.2 gX6_frost_X6_beside rfl rfl rfl (by decide +kernel) ⟨Nat.le_of_ble_eq_true rfl, Nat.le_of_ble_eq_true rfl⟩) (wm_0 y g S4) rfl (fun xq hq => kX6_beside l D y g N x3 0 S4 xq hq) rfl (Nat.le_of_ble_eq_true rfl) dX6_frost_63 ?_
              intro x63
              refine m_jn (fun J65 => ∀ (x64 : Int32), Sm p l e (headSpec wsX6_frost rmX6_frost).room s m args below meth c D vwCl (wm y g) (AM g s.heap.size) 5 Q x0 (J65 x64) S4 74 [(0, .ref (g 0)), (1, .int a), (2, .int x3)] [.int x64, .int 1, .int a, .int x3, .ref (g 20)]) ?_ (fun J65 hJ65 => ?_)
              · intro x64
                refine m_iadd hC dX6_frost_74 ?_
                refine m_aload_n hC dX6_frost_75 0 rfl ?_
                refine m_iload_n hC dX6_frost_76 2 rfl ?_
                refine m_iconst hC (1) dX6_frost_77 (by decide) ?_
                refine m_cIPV hC (As := [.int x3, .int 1]) (wm_ok y g) (cwV 2 hC.1.2.2.2.2 gX6_frost_X6_beside rfl rfl rfl (by decide +kernel) ⟨Nat.le_of_ble_eq_true rfl, Nat.le_of_ble_eq_true rfl⟩) (wm_0 y g S4) rfl (fun xq hq => kX6_beside l D y g N x3 1 S4 xq hq) rfl (Nat.le_of_ble_eq_true rfl) dX6_frost_78 ?_
                intro x66
                refine m_jn (fun J68 => ∀ (x67 : Int32), Sm p l e (headSpec wsX6_frost rmX6_frost).room s m args below meth c D vwCl (wm y g) (AM g s.heap.size) 5 Q x0 (J68 x67) S4 89 [(0, .ref (g 0)), (1, .int a), (2, .int x3)] [.int x67, .int (1 + x64), .int a, .int x3, .ref (g 20)]) ?_ (fun J68 hJ68 => ?_)
                · intro x67
                  refine m_iadd hC dX6_frost_89 ?_
                  refine m_imul hC dX6_frost_90 ?_
                  refine m_goto hC 95 dX6_frost_91 (by decide) ?_
                  refine m_iast hC (wm_20 y g S4) (t0 := 0) rfl (wms_20 y g S4) dX6_frost_95 ?_
                  intro S69
                  refine m_iinc hC (fun x70 => [(0, .ref (g 0)), (1, .int a), (2, .int x70)]) [1, 2, 0] dX6_frost_96 (j := 2) rfl (by decide) (by decide) (fun _ => rfl) (fun _ => rfl) ?_
                  intro x70
                  refine m_goto hC 36 dX6_frost_99 (by decide) ?_
                  exact hr5 _ _
                · refine m_if_eq hC 88 dX6_frost_81 (by decide) ?_ ?_
                  · refine m_iconst hC (1) dX6_frost_88 (by decide) ?_
                    exact hJ68 _
                  · refine m_iconst hC (0) dX6_frost_84 (by decide) ?_
                    refine m_goto hC 89 dX6_frost_85 (by decide) ?_
                    exact hJ68 _
              · refine m_if_eq hC 73 dX6_frost_66 (by decide) ?_ ?_
                · refine m_iconst hC (1) dX6_frost_73 (by decide) ?_
                  exact hJ65 _
                · refine m_iconst hC (0) dX6_frost_69 (by decide) ?_
                  refine m_goto hC 74 dX6_frost_70 (by decide) ?_
                  exact hJ65 _
      · refine m_iconst hC (-1) dX6_frost_22 (by decide) ?_
        exact hret _ _ _ _ dX6_frost_23
def fX6_isPlace (a : Int32) (b : Int32) : Option (Int32) :=
  if a < (-100) then
    some 0
  else
    if a ≤ 100 then
      if b < (-100) then
        some 0
      else
        if b ≤ 100 then
          some 1
        else
          some 0
    else
      some 0
abbrev rmX6_isPlace : Room := { frames := 0, cells := 0, slots := 0, locals := 0 }
set_option maxHeartbeats 4000000 in
set_option maxRecDepth 100000 in
theorem kX6_isPlace (l : Launch) (D : va_G) (y : Cy) (g : Nat → Nat) (a : Int32) (b : Int32) (S : St) (x0 : Int32) (h : fX6_isPlace a b = some x0) : KI l yX6_isPlace wsX6_isPlace rmX6_isPlace D vwCl (tz y) (wm y g) (AM g) [.int a, .int b] S (fun r S2 => r = x0 ∧ S2 = S) := by
  refine m_entryIP (wm_ok y g) (by decide) rfl (Nat.le_of_ble_eq_true rfl) (lv := [(0, .int a), (1, .int b)]) rfl h ?_
  intro p e s m args below meth c hC hr hlocks
  obtain ⟨Q, hQ⟩ : ∃ Q, Q = (MQ below (va_Qi (fun r S2 => r = x0 ∧ S2 = S) (Bw D vwCl (tz y) (wm y g) (AM g s.heap.size)) (AM g s.heap.size)) args s 0 0 (AM g s.heap.size)) := ⟨_, rfl⟩
  rw [← hQ]
  have hret : ∀ (v : Int32) (pc : Nat) (lv : List (Nat × Value)), decode cX6_isPlace pc = .ok (.ireturn, 1) → narrow .boolean (.int v) = .int v → Sm p l e (headSpec wsX6_isPlace rmX6_isPlace).room s m args below meth c D vwCl (wm y g) (AM g s.heap.size) 2 Q x0 (some v) S pc lv [.int v] := by
    rw [hQ]
    exact fun v pc lv hd hz => m_zretP hC hz hr hlocks hd
  clear hQ
  unfold fX6_isPlace
  refine m_iload_n hC dX6_isPlace_0 0 rfl ?_
  refine m_bipush hC (-100) dX6_isPlace_1 (by decide) ?_
  refine m_icmp_lt hC 28 dX6_isPlace_3 (by decide) ?_ ?_
  · refine m_iconst hC (0) dX6_isPlace_28 (by decide) ?_
    exact hret _ _ _ dX6_isPlace_29 rfl
  · refine m_iload_n hC dX6_isPlace_6 0 rfl ?_
    refine m_bipush hC (100) dX6_isPlace_7 (by decide) ?_
    refine m_icmp_gt hC 28 dX6_isPlace_9 (by decide) ?_ ?_
    · refine m_iconst hC (0) dX6_isPlace_28 (by decide) ?_
      exact hret _ _ _ dX6_isPlace_29 rfl
    · refine m_iload_n hC dX6_isPlace_12 1 rfl ?_
      refine m_bipush hC (-100) dX6_isPlace_13 (by decide) ?_
      refine m_icmp_lt hC 28 dX6_isPlace_15 (by decide) ?_ ?_
      · refine m_iconst hC (0) dX6_isPlace_28 (by decide) ?_
        exact hret _ _ _ dX6_isPlace_29 rfl
      · refine m_iload_n hC dX6_isPlace_18 1 rfl ?_
        refine m_bipush hC (100) dX6_isPlace_19 (by decide) ?_
        refine m_icmp_gt hC 28 dX6_isPlace_21 (by decide) ?_ ?_
        · refine m_iconst hC (0) dX6_isPlace_28 (by decide) ?_
          exact hret _ _ _ dX6_isPlace_29 rfl
        · refine m_iconst hC (1) dX6_isPlace_24 (by decide) ?_
          refine m_goto hC 29 dX6_isPlace_25 (by decide) ?_
          exact hret _ _ _ dX6_isPlace_29 rfl
def fX6_noPlan (S : St) : Option (St) :=
  pfI S 0 17 0 fun S1 =>
  pfI S1 0 19 0 fun S2 =>
  some S2
abbrev rmX6_noPlan : Room := { frames := 0, cells := 0, slots := 0, locals := 0 }
theorem iX6_noPlan_X6 : ∀ w ∈ wsX60, w ∈ wsX6_noPlan := fun w h => List.mem_cons_of_mem _ (List.mem_append_right _ h)
set_option maxHeartbeats 4000000 in
set_option maxRecDepth 100000 in
theorem kX6_noPlan (l : Launch) (D : va_G) (y : Cy) (g : Nat → Nat) (S : St) (x0 : St) (h : fX6_noPlan S = some x0) : KV l yX6_noPlan wsX6_noPlan rmX6_noPlan D vwCl (tz y) (wm y g) (AM g) [.ref (g 0)] S (fun S2 => S2 = x0) := by
  refine m_entryV (wm_ok y g) (by decide) rfl (Nat.le_of_ble_eq_true rfl) (lv := [(0, .ref (g 0))]) rfl h ?_
  intro p e s m args below meth c hC hr hlocks
  obtain ⟨Q, hQ⟩ : ∃ Q, Q = (MQ below (va_Qv (fun S2 => S2 = x0) (Bw D vwCl (tz y) (wm y g) (AM g s.heap.size)) (AM g s.heap.size)) args s 0 0 (AM g s.heap.size)) := ⟨_, rfl⟩
  rw [← hQ]
  have hret : ∀ (S2 : St) (pc : Nat) (lv : List (Nat × Value)), decode cX6_noPlan pc = .ok (.return_, 1) → Sm p l e (headSpec wsX6_noPlan rmX6_noPlan).room s m args below meth c D vwCl (wm y g) (AM g s.heap.size) 1 Q x0 (some S2) S2 pc lv [] := by
    rw [hQ]
    exact fun S2 pc lv hd => m_vret hC hr hlocks hd
  clear hQ
  unfold fX6_noPlan
  refine m_aload_n hC dX6_noPlan_0 0 rfl ?_
  refine m_iconst hC (0) dX6_noPlan_1 (by decide) ?_
  refine m_putI (ty := .boolean) hC iX6_noPlan_X6 tyX6 tyX6_ok nmX6 (wm_0 y g S) rfl 17 (by decide) (List.mem_of_getElem? (i := 1) rfl) rfl rfl (by decide +kernel) rfl rfl (Nat.le_of_ble_eq_true rfl) dX6_noPlan_2 (wmf_0_17 y g S _) ?_
  intro S1
  refine m_aload_n hC dX6_noPlan_5 0 rfl ?_
  refine m_iconst hC (0) dX6_noPlan_6 (by decide) ?_
  refine m_putI (ty := .int) hC iX6_noPlan_X6 tyX6 tyX6_ok nmX6 (wm_0 y g S1) rfl 19 (by decide) (List.mem_of_getElem? (i := 2) rfl) rfl rfl (by decide +kernel) rfl rfl (Nat.le_of_ble_eq_true rfl) dX6_noPlan_7 (wmf_0_19 y g S1 _) ?_
  intro S2
  exact hret _ _ _ dX6_noPlan_10
def fX6_heap (a : Int32) (b : Int32) (S : St) : Option (Int32 × St) :=
  pfI S 0 28 0 fun S1 =>
  if (S1.1 0 18) = 0 then
    if (S1.1 0 3) = 5 then
      some ((-1), S1)
    else
      caP (fX6_isPlace a b) fun x2 =>
      if x2 = 0 then
        some ((-1), S1)
      else
        stI S1 3 5 (S1.1 0 3) a fun S3 =>
        stI S3 4 5 (S3.1 0 3) b fun S4 =>
        pfI S4 0 3 ((S4.1 0 3) + 1) fun S5 =>
        caV (fX6_noPlan S5) fun S6 =>
        some ((S6.1 0 3) - 1, S6)
  else
    some ((-1), S1)
abbrev rmX6_heap : Room := { frames := 1, cells := 0, slots := 0, locals := 21 }
theorem iX6_heap_X6 : ∀ w ∈ wsX60, w ∈ wsX6_heap := fun w h => List.mem_cons_of_mem _ (List.mem_append_right _ h)
set_option maxHeartbeats 4000000 in
set_option maxRecDepth 100000 in
theorem kX6_heap (l : Launch) (D : va_G) (y : Cy) (g : Nat → Nat) (a : Int32) (b : Int32) (S : St) (x0 : Int32 × St) (h : fX6_heap a b S = some x0) : KI l yX6_heap wsX6_heap rmX6_heap D vwCl (tz y) (wm y g) (AM g) [.ref (g 0), .int a, .int b] S (fun r S2 => (r, S2) = x0) := by
  refine m_entryI (wm_ok y g) (by decide) rfl (Nat.le_of_ble_eq_true rfl) (lv := [(0, .ref (g 0)), (1, .int a), (2, .int b)]) rfl h ?_
  intro p e s m args below meth c hC hr hlocks
  obtain ⟨Q, hQ⟩ : ∃ Q, Q = (MQ below (va_Qi (fun r S2 => (r, S2) = x0) (Bw D vwCl (tz y) (wm y g) (AM g s.heap.size)) (AM g s.heap.size)) args s 0 0 (AM g s.heap.size)) := ⟨_, rfl⟩
  rw [← hQ]
  have hret : ∀ (v : Int32) (S2 : St) (pc : Nat) (lv : List (Nat × Value)), decode cX6_heap pc = .ok (.ireturn, 1) → Sm p l e (headSpec wsX6_heap rmX6_heap).room s m args below meth c D vwCl (wm y g) (AM g s.heap.size) 3 Q x0 (some (v, S2)) S2 pc lv [.int v] := by
    rw [hQ]
    exact fun v S2 pc lv hd => m_iret hC hr hlocks hd
  clear hQ
  unfold fX6_heap
  refine m_aload_n hC dX6_heap_0 0 rfl ?_
  refine m_iconst hC (0) dX6_heap_1 (by decide) ?_
  refine m_putI (ty := .int) hC iX6_heap_X6 tyX6 tyX6_ok nmX6 (wm_0 y g S) rfl 28 (by decide) (List.mem_of_getElem? (i := 1) rfl) rfl rfl (by decide +kernel) rfl rfl (Nat.le_of_ble_eq_true rfl) dX6_heap_2 (wmf_0_28 y g S _) ?_
  intro S1
  refine m_aload_n hC dX6_heap_5 0 rfl ?_
  refine m_get hC iX6_heap_X6 (wm_0 y g S1) rfl 18 (by decide) (List.mem_of_getElem? (i := 2) rfl) rfl rfl dX6_heap_6 ?_
  refine m_if_ne hC 28 dX6_heap_9 (by decide) ?_ ?_
  · refine m_iconst hC (-1) dX6_heap_28 (by decide) ?_
    exact hret _ _ _ _ dX6_heap_29
  · refine m_aload_n hC dX6_heap_12 0 rfl ?_
    refine m_get hC iX6_heap_X6 (wm_0 y g S1) rfl 3 (by decide) (List.mem_of_getElem? (i := 3) rfl) rfl rfl dX6_heap_13 ?_
    refine m_iconst hC (5) dX6_heap_16 (by decide) ?_
    refine m_icmp_eq hC 28 dX6_heap_17 (by decide) ?_ ?_
    · refine m_iconst hC (-1) dX6_heap_28 (by decide) ?_
      exact hret _ _ _ _ dX6_heap_29
    · refine m_iload_n hC dX6_heap_20 1 rfl ?_
      refine m_iload_n hC dX6_heap_21 2 rfl ?_
      refine m_cIPS hC (As := [.int a, .int b]) (wm_ok y g) (va_cwS 2 hC.1.2.2.2.2 gX6_heap_X6_isPlace rfl rfl rfl (by decide +kernel) ⟨Nat.le_of_ble_eq_true rfl, Nat.le_of_ble_eq_true rfl⟩) (fun xq hq => kX6_isPlace l D y g a b S1 xq hq) rfl (Nat.le_of_ble_eq_true rfl) dX6_heap_22 ?_
      intro x2
      refine m_if_ne hC 30 dX6_heap_25 (by decide) ?_ ?_
      · refine m_aload_n hC dX6_heap_30 0 rfl ?_
        refine m_get hC iX6_heap_X6 (wm_0 y g S1) rfl 4 (by decide) (List.mem_of_getElem? (i := 4) rfl) rfl rfl dX6_heap_31 ?_
        refine m_aload_n hC dX6_heap_34 0 rfl ?_
        refine m_get hC iX6_heap_X6 (wm_0 y g S1) rfl 3 (by decide) (List.mem_of_getElem? (i := 3) rfl) rfl rfl dX6_heap_35 ?_
        refine m_iload_n hC dX6_heap_38 1 rfl ?_
        refine m_iast hC (wm_3 y g S1) (t0 := 0) rfl (wms_3 y g S1) dX6_heap_39 ?_
        intro S3
        refine m_aload_n hC dX6_heap_40 0 rfl ?_
        refine m_get hC iX6_heap_X6 (wm_0 y g S3) rfl 5 (by decide) (List.mem_of_getElem? (i := 5) rfl) rfl rfl dX6_heap_41 ?_
        refine m_aload_n hC dX6_heap_44 0 rfl ?_
        refine m_get hC iX6_heap_X6 (wm_0 y g S3) rfl 3 (by decide) (List.mem_of_getElem? (i := 3) rfl) rfl rfl dX6_heap_45 ?_
        refine m_iload_n hC dX6_heap_48 2 rfl ?_
        refine m_iast hC (wm_4 y g S3) (t0 := 0) rfl (wms_4 y g S3) dX6_heap_49 ?_
        intro S4
        refine m_aload_n hC dX6_heap_50 0 rfl ?_
        refine m_dup hC dX6_heap_51 rfl ?_
        refine m_get hC iX6_heap_X6 (wm_0 y g S4) rfl 3 (by decide) (List.mem_of_getElem? (i := 3) rfl) rfl rfl dX6_heap_52 ?_
        refine m_iconst hC (1) dX6_heap_55 (by decide) ?_
        refine m_iadd hC dX6_heap_56 ?_
        refine m_putI (ty := .int) hC iX6_heap_X6 tyX6 tyX6_ok nmX6 (wm_0 y g S4) rfl 3 (by decide) (List.mem_of_getElem? (i := 3) rfl) rfl rfl (by decide +kernel) rfl rfl (Nat.le_of_ble_eq_true rfl) dX6_heap_57 (wmf_0_3 y g S4 _) ?_
        intro S5
        refine m_aload_n hC dX6_heap_60 0 rfl ?_
        refine m_cVV hC (As := []) (wm_ok y g) (cwV 0 hC.1.2.2.2.2 gX6_heap_X6_noPlan rfl rfl rfl (by decide +kernel) ⟨Nat.le_of_ble_eq_true rfl, Nat.le_of_ble_eq_true rfl⟩) (wm_0 y g S5) rfl (fun xq hq => kX6_noPlan l D y g S5 xq hq) rfl (Nat.le_of_ble_eq_true rfl) dX6_heap_61 ?_
        intro S6
        refine m_aload_n hC dX6_heap_64 0 rfl ?_
        refine m_get hC iX6_heap_X6 (wm_0 y g S6) rfl 3 (by decide) (List.mem_of_getElem? (i := 3) rfl) rfl rfl dX6_heap_65 ?_
        refine m_iconst hC (1) dX6_heap_68 (by decide) ?_
        refine m_isub hC dX6_heap_69 ?_
        exact hret _ _ _ _ dX6_heap_70
      · refine m_iconst hC (-1) dX6_heap_28 (by decide) ?_
        exact hret _ _ _ _ dX6_heap_29
def fX6_hearting (a : Int32) (S : St) : Option (Int32) :=
  ldI 150 (S.1 8) a fun x1 =>
  caP (fX6_width x1 S) fun x2 =>
  ldI 150 (S.1 7) a fun x3 =>
  ldI 8 (S.1 2) x3 fun x4 =>
  nmI (x2 - x4) fun x5 =>
  if x5 ≤ 0 then
    some 0
  else
    ldI 150 (S.1 7) a fun x6 =>
    ldI 8 (S.1 1) x6 fun x7 =>
    some (x7 * x5)
abbrev rmX6_hearting : Room := { frames := 1, cells := 0, slots := 0, locals := 21 }
theorem iX6_hearting_X6 : ∀ w ∈ wsX60, w ∈ wsX6_hearting := fun w h => List.mem_cons_of_mem _ (List.mem_append_right _ h)
set_option maxHeartbeats 4000000 in
set_option maxRecDepth 100000 in
theorem kX6_hearting (l : Launch) (D : va_G) (y : Cy) (g : Nat → Nat) (a : Int32) (S : St) (x0 : Int32) (h : fX6_hearting a S = some x0) : KI l yX6_hearting wsX6_hearting rmX6_hearting D vwCl (tz y) (wm y g) (AM g) [.ref (g 0), .int a] S (fun r S2 => r = x0 ∧ S2 = S) := by
  refine m_entryIP (wm_ok y g) (by decide) rfl (Nat.le_of_ble_eq_true rfl) (lv := [(0, .ref (g 0)), (1, .int a)]) rfl h ?_
  intro p e s m args below meth c hC hr hlocks
  obtain ⟨Q, hQ⟩ : ∃ Q, Q = (MQ below (va_Qi (fun r S2 => r = x0 ∧ S2 = S) (Bw D vwCl (tz y) (wm y g) (AM g s.heap.size)) (AM g s.heap.size)) args s 0 0 (AM g s.heap.size)) := ⟨_, rfl⟩
  rw [← hQ]
  have hret : ∀ (v : Int32) (pc : Nat) (lv : List (Nat × Value)), decode cX6_hearting pc = .ok (.ireturn, 1) → Sm p l e (headSpec wsX6_hearting rmX6_hearting).room s m args below meth c D vwCl (wm y g) (AM g s.heap.size) 3 Q x0 (some v) S pc lv [.int v] := by
    rw [hQ]
    exact fun v pc lv hd => m_iretP hC hr hlocks hd
  clear hQ
  unfold fX6_hearting
  refine m_aload_n hC dX6_hearting_0 0 rfl ?_
  refine m_aload_n hC dX6_hearting_1 0 rfl ?_
  refine m_get hC iX6_hearting_X6 (wm_0 y g S) rfl 21 (by decide) (List.mem_of_getElem? (i := 1) rfl) rfl rfl dX6_hearting_2 ?_
  refine m_iload_n hC dX6_hearting_5 1 rfl ?_
  refine m_iald hC (wm_8 y g S) (t0 := 0) rfl dX6_hearting_6 ?_
  intro x1
  refine m_cIPV hC (As := [.int x1]) (wm_ok y g) (cwV 1 hC.1.2.2.2.2 gX6_hearting_X6_width rfl rfl rfl (by decide +kernel) ⟨Nat.le_of_ble_eq_true rfl, Nat.le_of_ble_eq_true rfl⟩) (wm_0 y g S) rfl (fun xq hq => kX6_width l D y g x1 S xq hq) rfl (Nat.le_of_ble_eq_true rfl) dX6_hearting_7 ?_
  intro x2
  refine m_aload_n hC dX6_hearting_10 0 rfl ?_
  refine m_get hC iX6_hearting_X6 (wm_0 y g S) rfl 2 (by decide) (List.mem_of_getElem? (i := 2) rfl) rfl rfl dX6_hearting_11 ?_
  refine m_aload_n hC dX6_hearting_14 0 rfl ?_
  refine m_get hC iX6_hearting_X6 (wm_0 y g S) rfl 20 (by decide) (List.mem_of_getElem? (i := 3) rfl) rfl rfl dX6_hearting_15 ?_
  refine m_iload_n hC dX6_hearting_18 1 rfl ?_
  refine m_iald hC (wm_7 y g S) (t0 := 0) rfl dX6_hearting_19 ?_
  intro x3
  refine m_iald hC (wm_2 y g S) (t0 := 0) rfl dX6_hearting_20 ?_
  intro x4
  refine m_isub hC dX6_hearting_21 ?_
  refine m_nmI ?_
  intro x5
  refine m_istore_n hC [(0, .ref (g 0)), (1, .int a), (2, .int x5)] [1, 2, 0] dX6_hearting_22 (by decide) rfl rfl ?_
  refine m_iload_n hC dX6_hearting_23 2 rfl ?_
  refine m_if_le hC 43 dX6_hearting_24 (by decide) ?_ ?_
  · refine m_iconst hC (0) dX6_hearting_43 (by decide) ?_
    exact hret _ _ _ dX6_hearting_44
  · refine m_aload_n hC dX6_hearting_27 0 rfl ?_
    refine m_get hC iX6_hearting_X6 (wm_0 y g S) rfl 1 (by decide) (List.mem_of_getElem? (i := 4) rfl) rfl rfl dX6_hearting_28 ?_
    refine m_aload_n hC dX6_hearting_31 0 rfl ?_
    refine m_get hC iX6_hearting_X6 (wm_0 y g S) rfl 20 (by decide) (List.mem_of_getElem? (i := 3) rfl) rfl rfl dX6_hearting_32 ?_
    refine m_iload_n hC dX6_hearting_35 1 rfl ?_
    refine m_iald hC (wm_7 y g S) (t0 := 0) rfl dX6_hearting_36 ?_
    intro x6
    refine m_iald hC (wm_1 y g S) (t0 := 0) rfl dX6_hearting_37 ?_
    intro x7
    refine m_iload_n hC dX6_hearting_38 2 rfl ?_
    refine m_imul hC dX6_hearting_39 ?_
    refine m_goto hC 44 dX6_hearting_40 (by decide) ?_
    exact hret _ _ _ dX6_hearting_44
def fX6_isFull_L18 (a : Int32) (b : Int32) (S : St) (K4 : Int32 → Option (Int32)) (r3 : Int32 → Int32 → Option (Int32)) : Int32 → Int32 → Option (Int32) := fun x1 x2 =>
  if x2 < b then
    ldI 150 (S.1 8) x2 fun x6 =>
    if x6 = a then
      ldI 150 (S.1 7) x2 fun x9 =>
      ldI 8 (S.1 2) x9 fun x10 =>
      caP (fX6_width a S) fun x11 =>
      if x10 < x11 then
        nmI (x1 + 0) fun x12 =>
        nmI (x2 + 1) fun x13 =>
        r3 x12 x13
      else
        nmI (x1 + 1) fun x14 =>
        nmI (x2 + 1) fun x15 =>
        r3 x14 x15
    else
      nmI (x1 + 0) fun x7 =>
      nmI (x2 + 1) fun x8 =>
      r3 x7 x8
  else
    K4 x1
def fX6_isFull (N : Nat) (a : Int32) (b : Int32) (S : St) : Option (Int32) :=
  if (((S.1 0 15) >>> (a &&& 31)) &&& 1) = 0 then
    some 1
  else
    itN (fun _ _ => none) (fX6_isFull_L18 a b S (fun (x5 : Int32) =>
        if x5 < (S.1 0 16) then
          some 0
        else
          some 1)) N 0 0
abbrev rmX6_isFull : Room := { frames := 1, cells := 0, slots := 0, locals := 21 }
theorem iX6_isFull_X6 : ∀ w ∈ wsX60, w ∈ wsX6_isFull := fun w h => List.mem_cons_of_mem _ (List.mem_append_right _ h)
set_option maxHeartbeats 4000000 in
set_option maxRecDepth 100000 in
theorem kX6_isFull (l : Launch) (D : va_G) (y : Cy) (g : Nat → Nat) (N : Nat) (a : Int32) (b : Int32) (S : St) (x0 : Int32) (h : fX6_isFull N a b S = some x0) : KI l yX6_isFull wsX6_isFull rmX6_isFull D vwCl (tz y) (wm y g) (AM g) [.ref (g 0), .int a, .int b] S (fun r S2 => r = x0 ∧ S2 = S) := by
  refine m_entryIP (wm_ok y g) (by decide) rfl (Nat.le_of_ble_eq_true rfl) (lv := [(0, .ref (g 0)), (1, .int a), (2, .int b)]) rfl h ?_
  intro p e s m args below meth c hC hr hlocks
  obtain ⟨Q, hQ⟩ : ∃ Q, Q = (MQ below (va_Qi (fun r S2 => r = x0 ∧ S2 = S) (Bw D vwCl (tz y) (wm y g) (AM g s.heap.size)) (AM g s.heap.size)) args s 0 0 (AM g s.heap.size)) := ⟨_, rfl⟩
  rw [← hQ]
  have hret : ∀ (v : Int32) (pc : Nat) (lv : List (Nat × Value)), decode cX6_isFull pc = .ok (.ireturn, 1) → narrow .boolean (.int v) = .int v → Sm p l e (headSpec wsX6_isFull rmX6_isFull).room s m args below meth c D vwCl (wm y g) (AM g s.heap.size) 5 Q x0 (some v) S pc lv [.int v] := by
    rw [hQ]
    exact fun v pc lv hd hz => m_zretP hC hz hr hlocks hd
  clear hQ
  unfold fX6_isFull
  refine m_aload_n hC dX6_isFull_0 0 rfl ?_
  refine m_get hC iX6_isFull_X6 (wm_0 y g S) rfl 15 (by decide) (List.mem_of_getElem? (i := 1) rfl) rfl rfl dX6_isFull_1 ?_
  refine m_iload_n hC dX6_isFull_4 1 rfl ?_
  refine m_ishr hC dX6_isFull_5 ?_
  refine m_iconst hC (1) dX6_isFull_6 (by decide) ?_
  refine m_iand hC dX6_isFull_7 ?_
  refine m_if_ne hC 13 dX6_isFull_8 (by decide) ?_ ?_
  · refine m_iconst hC (0) dX6_isFull_13 (by decide) ?_
    refine m_istore_n hC [(0, .ref (g 0)), (1, .int a), (2, .int b), (3, .int 0)] [1, 2, 3, 0] dX6_isFull_14 (by decide) rfl rfl ?_
    refine m_iconst hC (0) dX6_isFull_15 (by decide) ?_
    refine m_istore hC [(0, .ref (g 0)), (1, .int a), (2, .int b), (3, .int 0), (4, .int 0)] [1, 2, 3, 4, 0] dX6_isFull_16 (by decide) rfl rfl ?_
    refine (m_itK (z := (fun _ _ => none)) (F := fX6_isFull_L18 a b S) N (fun K4 => ∀ (x5 : Int32), Sm p l e (headSpec wsX6_isFull rmX6_isFull).room s m args below meth c D vwCl (wm y g) (AM g s.heap.size) 5 Q x0 (K4 x5) S 69 [(0, .ref (g 0)), (3, .int x5)] []) (fun r3 => ∀ (x1 : Int32) (x2 : Int32), Sm p l e (headSpec wsX6_isFull rmX6_isFull).room s m args below meth c D vwCl (wm y g) (AM g s.heap.size) 5 Q x0 (r3 x1 x2) S 18 [(0, .ref (g 0)), (1, .int a), (2, .int b), (3, .int x1), (4, .int x2)] []) ?_ ?_ ?_) 0 0
    · exact fun _ _ => m_none
    · intro x5
      refine m_iload_n hC dX6_isFull_69 1 rfl ?_
      refine m_aload_n hC dX6_isFull_70 0 rfl ?_
      refine m_get hC iX6_isFull_X6 (wm_0 y g S) rfl 16 (by decide) (List.mem_of_getElem? (i := 5) rfl) rfl rfl dX6_isFull_71 ?_
      refine m_icmp_lt hC 81 dX6_isFull_74 (by decide) ?_ ?_
      · refine m_iconst hC (0) dX6_isFull_81 (by decide) ?_
        exact hret _ _ _ dX6_isFull_82 rfl
      · refine m_iconst hC (1) dX6_isFull_77 (by decide) ?_
        refine m_goto hC 82 dX6_isFull_78 (by decide) ?_
        exact hret _ _ _ dX6_isFull_82 rfl
    · intro K4 hK4 r3 hr3 x1 x2
      unfold fX6_isFull_L18
      refine m_iload hC dX6_isFull_18 4 rfl ?_
      refine m_iload_n hC dX6_isFull_20 2 rfl ?_
      refine m_icmp_ge hC 69 dX6_isFull_21 (by decide) ?_ ?_
      · refine m_lv [(0, .ref (g 0)), (3, .int x1)] [0, 3] rfl ?_
        exact hK4 _
      · refine m_iload_n hC dX6_isFull_24 3 rfl ?_
        refine m_aload_n hC dX6_isFull_25 0 rfl ?_
        refine m_get hC iX6_isFull_X6 (wm_0 y g S) rfl 21 (by decide) (List.mem_of_getElem? (i := 2) rfl) rfl rfl dX6_isFull_26 ?_
        refine m_iload hC dX6_isFull_29 4 rfl ?_
        refine m_iald hC (wm_8 y g S) (t0 := 0) rfl dX6_isFull_31 ?_
        intro x6
        refine m_iload_n hC dX6_isFull_32 1 rfl ?_
        refine m_icmp_ne hC 60 dX6_isFull_33 (by decide) ?_ ?_
        · refine m_iconst hC (0) dX6_isFull_60 (by decide) ?_
          refine m_iadd hC dX6_isFull_61 ?_
          refine m_nmI ?_
          intro x7
          refine m_istore_n hC [(0, .ref (g 0)), (1, .int a), (2, .int b), (3, .int x7), (4, .int x2)] [1, 2, 3, 0, 4] dX6_isFull_62 (by decide) rfl rfl ?_
          refine m_iinc hC (fun x8 => [(0, .ref (g 0)), (1, .int a), (2, .int b), (3, .int x7), (4, .int x8)]) [1, 2, 3, 4, 0] dX6_isFull_63 (j := 4) rfl (by decide) (by decide) (fun _ => rfl) (fun _ => rfl) ?_
          intro x8
          refine m_goto hC 18 dX6_isFull_66 (by decide) ?_
          exact hr3 _ _
        · refine m_aload_n hC dX6_isFull_36 0 rfl ?_
          refine m_get hC iX6_isFull_X6 (wm_0 y g S) rfl 2 (by decide) (List.mem_of_getElem? (i := 3) rfl) rfl rfl dX6_isFull_37 ?_
          refine m_aload_n hC dX6_isFull_40 0 rfl ?_
          refine m_get hC iX6_isFull_X6 (wm_0 y g S) rfl 20 (by decide) (List.mem_of_getElem? (i := 4) rfl) rfl rfl dX6_isFull_41 ?_
          refine m_iload hC dX6_isFull_44 4 rfl ?_
          refine m_iald hC (wm_7 y g S) (t0 := 0) rfl dX6_isFull_46 ?_
          intro x9
          refine m_iald hC (wm_2 y g S) (t0 := 0) rfl dX6_isFull_47 ?_
          intro x10
          refine m_aload_n hC dX6_isFull_48 0 rfl ?_
          refine m_iload_n hC dX6_isFull_49 1 rfl ?_
          refine m_cIPV hC (As := [.int a]) (wm_ok y g) (cwV 1 hC.1.2.2.2.2 gX6_isFull_X6_width rfl rfl rfl (by decide +kernel) ⟨Nat.le_of_ble_eq_true rfl, Nat.le_of_ble_eq_true rfl⟩) (wm_0 y g S) rfl (fun xq hq => kX6_width l D y g a S xq hq) rfl (Nat.le_of_ble_eq_true rfl) dX6_isFull_50 ?_
          intro x11
          refine m_icmp_lt hC 60 dX6_isFull_53 (by decide) ?_ ?_
          · refine m_iconst hC (0) dX6_isFull_60 (by decide) ?_
            refine m_iadd hC dX6_isFull_61 ?_
            refine m_nmI ?_
            intro x12
            refine m_istore_n hC [(0, .ref (g 0)), (1, .int a), (2, .int b), (3, .int x12), (4, .int x2)] [1, 2, 3, 0, 4] dX6_isFull_62 (by decide) rfl rfl ?_
            refine m_iinc hC (fun x13 => [(0, .ref (g 0)), (1, .int a), (2, .int b), (3, .int x12), (4, .int x13)]) [1, 2, 3, 4, 0] dX6_isFull_63 (j := 4) rfl (by decide) (by decide) (fun _ => rfl) (fun _ => rfl) ?_
            intro x13
            refine m_goto hC 18 dX6_isFull_66 (by decide) ?_
            exact hr3 _ _
          · refine m_iconst hC (1) dX6_isFull_56 (by decide) ?_
            refine m_goto hC 61 dX6_isFull_57 (by decide) ?_
            refine m_iadd hC dX6_isFull_61 ?_
            refine m_nmI ?_
            intro x14
            refine m_istore_n hC [(0, .ref (g 0)), (1, .int a), (2, .int b), (3, .int x14), (4, .int x2)] [1, 2, 3, 0, 4] dX6_isFull_62 (by decide) rfl rfl ?_
            refine m_iinc hC (fun x15 => [(0, .ref (g 0)), (1, .int a), (2, .int b), (3, .int x14), (4, .int x15)]) [1, 2, 3, 4, 0] dX6_isFull_63 (j := 4) rfl (by decide) (by decide) (fun _ => rfl) (fun _ => rfl) ?_
            intro x15
            refine m_goto hC 18 dX6_isFull_66 (by decide) ?_
            exact hr3 _ _
  · refine m_iconst hC (1) dX6_isFull_11 (by decide) ?_
    exact hret _ _ _ dX6_isFull_12 rfl
def fX6_kind (a : Int32) (b : Int32) (S : St) : Option (Int32 × St) :=
  pfI S 0 28 0 fun S1 =>
  if (S1.1 0 18) = 0 then
    if (S1.1 0 0) = 8 then
      some ((-1), S1)
    else
      if a < 1 then
        some ((-1), S1)
      else
        if a ≤ 6 then
          if b < 1 then
            some ((-1), S1)
          else
            if b ≤ 4 then
              stI S1 1 8 (S1.1 0 0) a fun S2 =>
              stI S2 2 8 (S2.1 0 0) b fun S3 =>
              pfI S3 0 0 ((S3.1 0 0) + 1) fun S4 =>
              caV (fX6_noPlan S4) fun S5 =>
              some ((S5.1 0 0) - 1, S5)
            else
              some ((-1), S1)
        else
          some ((-1), S1)
  else
    some ((-1), S1)
abbrev rmX6_kind : Room := { frames := 1, cells := 0, slots := 0, locals := 20 }
theorem iX6_kind_X6 : ∀ w ∈ wsX60, w ∈ wsX6_kind := fun w h => List.mem_cons_of_mem _ (List.mem_append_right _ h)
set_option maxHeartbeats 4000000 in
set_option maxRecDepth 100000 in
theorem kX6_kind (l : Launch) (D : va_G) (y : Cy) (g : Nat → Nat) (a : Int32) (b : Int32) (S : St) (x0 : Int32 × St) (h : fX6_kind a b S = some x0) : KI l yX6_kind wsX6_kind rmX6_kind D vwCl (tz y) (wm y g) (AM g) [.ref (g 0), .int a, .int b] S (fun r S2 => (r, S2) = x0) := by
  refine m_entryI (wm_ok y g) (by decide) rfl (Nat.le_of_ble_eq_true rfl) (lv := [(0, .ref (g 0)), (1, .int a), (2, .int b)]) rfl h ?_
  intro p e s m args below meth c hC hr hlocks
  obtain ⟨Q, hQ⟩ : ∃ Q, Q = (MQ below (va_Qi (fun r S2 => (r, S2) = x0) (Bw D vwCl (tz y) (wm y g) (AM g s.heap.size)) (AM g s.heap.size)) args s 0 0 (AM g s.heap.size)) := ⟨_, rfl⟩
  rw [← hQ]
  have hret : ∀ (v : Int32) (S2 : St) (pc : Nat) (lv : List (Nat × Value)), decode cX6_kind pc = .ok (.ireturn, 1) → Sm p l e (headSpec wsX6_kind rmX6_kind).room s m args below meth c D vwCl (wm y g) (AM g s.heap.size) 3 Q x0 (some (v, S2)) S2 pc lv [.int v] := by
    rw [hQ]
    exact fun v S2 pc lv hd => m_iret hC hr hlocks hd
  clear hQ
  unfold fX6_kind
  refine m_aload_n hC dX6_kind_0 0 rfl ?_
  refine m_iconst hC (0) dX6_kind_1 (by decide) ?_
  refine m_putI (ty := .int) hC iX6_kind_X6 tyX6 tyX6_ok nmX6 (wm_0 y g S) rfl 28 (by decide) (List.mem_of_getElem? (i := 1) rfl) rfl rfl (by decide +kernel) rfl rfl (Nat.le_of_ble_eq_true rfl) dX6_kind_2 (wmf_0_28 y g S _) ?_
  intro S1
  refine m_aload_n hC dX6_kind_5 0 rfl ?_
  refine m_get hC iX6_kind_X6 (wm_0 y g S1) rfl 18 (by decide) (List.mem_of_getElem? (i := 2) rfl) rfl rfl dX6_kind_6 ?_
  refine m_if_ne hC 42 dX6_kind_9 (by decide) ?_ ?_
  · refine m_iconst hC (-1) dX6_kind_42 (by decide) ?_
    exact hret _ _ _ _ dX6_kind_43
  · refine m_aload_n hC dX6_kind_12 0 rfl ?_
    refine m_get hC iX6_kind_X6 (wm_0 y g S1) rfl 0 (by decide) (List.mem_of_getElem? (i := 3) rfl) rfl rfl dX6_kind_13 ?_
    refine m_bipush hC (8) dX6_kind_16 (by decide) ?_
    refine m_icmp_eq hC 42 dX6_kind_18 (by decide) ?_ ?_
    · refine m_iconst hC (-1) dX6_kind_42 (by decide) ?_
      exact hret _ _ _ _ dX6_kind_43
    · refine m_iload_n hC dX6_kind_21 1 rfl ?_
      refine m_iconst hC (1) dX6_kind_22 (by decide) ?_
      refine m_icmp_lt hC 42 dX6_kind_23 (by decide) ?_ ?_
      · refine m_iconst hC (-1) dX6_kind_42 (by decide) ?_
        exact hret _ _ _ _ dX6_kind_43
      · refine m_iload_n hC dX6_kind_26 1 rfl ?_
        refine m_bipush hC (6) dX6_kind_27 (by decide) ?_
        refine m_icmp_gt hC 42 dX6_kind_29 (by decide) ?_ ?_
        · refine m_iconst hC (-1) dX6_kind_42 (by decide) ?_
          exact hret _ _ _ _ dX6_kind_43
        · refine m_iload_n hC dX6_kind_32 2 rfl ?_
          refine m_iconst hC (1) dX6_kind_33 (by decide) ?_
          refine m_icmp_lt hC 42 dX6_kind_34 (by decide) ?_ ?_
          · refine m_iconst hC (-1) dX6_kind_42 (by decide) ?_
            exact hret _ _ _ _ dX6_kind_43
          · refine m_iload_n hC dX6_kind_37 2 rfl ?_
            refine m_iconst hC (4) dX6_kind_38 (by decide) ?_
            refine m_icmp_le hC 44 dX6_kind_39 (by decide) ?_ ?_
            · refine m_aload_n hC dX6_kind_44 0 rfl ?_
              refine m_get hC iX6_kind_X6 (wm_0 y g S1) rfl 1 (by decide) (List.mem_of_getElem? (i := 4) rfl) rfl rfl dX6_kind_45 ?_
              refine m_aload_n hC dX6_kind_48 0 rfl ?_
              refine m_get hC iX6_kind_X6 (wm_0 y g S1) rfl 0 (by decide) (List.mem_of_getElem? (i := 3) rfl) rfl rfl dX6_kind_49 ?_
              refine m_iload_n hC dX6_kind_52 1 rfl ?_
              refine m_iast hC (wm_1 y g S1) (t0 := 0) rfl (wms_1 y g S1) dX6_kind_53 ?_
              intro S2
              refine m_aload_n hC dX6_kind_54 0 rfl ?_
              refine m_get hC iX6_kind_X6 (wm_0 y g S2) rfl 2 (by decide) (List.mem_of_getElem? (i := 5) rfl) rfl rfl dX6_kind_55 ?_
              refine m_aload_n hC dX6_kind_58 0 rfl ?_
              refine m_get hC iX6_kind_X6 (wm_0 y g S2) rfl 0 (by decide) (List.mem_of_getElem? (i := 3) rfl) rfl rfl dX6_kind_59 ?_
              refine m_iload_n hC dX6_kind_62 2 rfl ?_
              refine m_iast hC (wm_2 y g S2) (t0 := 0) rfl (wms_2 y g S2) dX6_kind_63 ?_
              intro S3
              refine m_aload_n hC dX6_kind_64 0 rfl ?_
              refine m_dup hC dX6_kind_65 rfl ?_
              refine m_get hC iX6_kind_X6 (wm_0 y g S3) rfl 0 (by decide) (List.mem_of_getElem? (i := 3) rfl) rfl rfl dX6_kind_66 ?_
              refine m_iconst hC (1) dX6_kind_69 (by decide) ?_
              refine m_iadd hC dX6_kind_70 ?_
              refine m_putI (ty := .int) hC iX6_kind_X6 tyX6 tyX6_ok nmX6 (wm_0 y g S3) rfl 0 (by decide) (List.mem_of_getElem? (i := 3) rfl) rfl rfl (by decide +kernel) rfl rfl (Nat.le_of_ble_eq_true rfl) dX6_kind_71 (wmf_0_0 y g S3 _) ?_
              intro S4
              refine m_aload_n hC dX6_kind_74 0 rfl ?_
              refine m_cVV hC (As := []) (wm_ok y g) (cwV 0 hC.1.2.2.2.2 gX6_kind_X6_noPlan rfl rfl rfl (by decide +kernel) ⟨Nat.le_of_ble_eq_true rfl, Nat.le_of_ble_eq_true rfl⟩) (wm_0 y g S4) rfl (fun xq hq => kX6_noPlan l D y g S4 xq hq) rfl (Nat.le_of_ble_eq_true rfl) dX6_kind_75 ?_
              intro S5
              refine m_aload_n hC dX6_kind_78 0 rfl ?_
              refine m_get hC iX6_kind_X6 (wm_0 y g S5) rfl 0 (by decide) (List.mem_of_getElem? (i := 3) rfl) rfl rfl dX6_kind_79 ?_
              refine m_iconst hC (1) dX6_kind_82 (by decide) ?_
              refine m_isub hC dX6_kind_83 ?_
              exact hret _ _ _ _ dX6_kind_84
            · refine m_iconst hC (-1) dX6_kind_42 (by decide) ?_
              exact hret _ _ _ _ dX6_kind_43
def fX6_leastOf_L81 (N : Nat) (a : Int32) (r14 : Int64 → Int32 → St → Option (Int64 × St)) : Int64 → Int32 → St → Option (Int64 × St) := fun x11 x12 S13 =>
  if x12 < (S13.1 0 19) then
    ldI 150 (S13.1 7) x12 fun x15 =>
    if x15 = a then
      caS (fX6_add N x12 a S13) fun x17 S18 =>
      nmL (x11 + x17) fun x19 =>
      nmI (x12 + 1) fun x20 =>
      r14 x19 x20 S18
    else
      nmI (x12 + 1) fun x16 =>
      r14 x11 x16 S13
  else
    some (x11, S13)
def fX6_leastOf_L55 (K9 : St → Option (Int64 × St)) (r8 : Int32 → St → Option (Int64 × St)) : Int32 → St → Option (Int64 × St) := fun x6 S7 =>
  if x6 < (S7.1 0 19) then
    stI S7 15 150 x6 (-1) fun S21 =>
    nmI (x6 + 1) fun x22 =>
    r8 x22 S21
  else
    K9 S7
def fX6_leastOf_L3 (a : Int32) (b : Int32) (c2 : Int32) (K4 : St → Option (Int64 × St)) (r3 : Int32 → St → Option (Int64 × St)) : Int32 → St → Option (Int64 × St) := fun x1 S2 =>
  if x1 < (S2.1 0 3) then
    ldI 40 (S2.1 6) ((8 * x1) + a) fun x23 =>
    if x1 = c2 then
      stI S2 16 5 x1 (x23 + b) fun S26 =>
      nmI (x1 + 1) fun x27 =>
      r3 x27 S26
    else
      stI S2 16 5 x1 (x23 + 0) fun S24 =>
      nmI (x1 + 1) fun x25 =>
      r3 x25 S24
  else
    K4 S2
def fX6_leastOf (N : Nat) (a : Int32) (b : Int32) (c2 : Int32) (S : St) : Option (Int64 × St) :=
  itN (fun _ _ => none) (fX6_leastOf_L3 a b c2 (fun (S5 : St) =>
      itN (fun _ _ => none) (fX6_leastOf_L55 (fun (S10 : St) =>
          itN (fun _ _ _ => none) (fX6_leastOf_L81 N a) N 0 0 S10)) N 0 S5)) N 0 S
abbrev rmX6_leastOf : Room := { frames := 3, cells := 0, slots := 0, locals := 72 }
theorem iX6_leastOf_X6 : ∀ w ∈ wsX60, w ∈ wsX6_leastOf := fun w h => List.mem_cons_of_mem _ (List.mem_append_right _ h)
set_option maxHeartbeats 4000000 in
set_option maxRecDepth 100000 in
theorem kX6_leastOf (l : Launch) (D : va_G) (y : Cy) (g : Nat → Nat) (N : Nat) (a : Int32) (b : Int32) (c2 : Int32) (S : St) (x0 : Int64 × St) (h : fX6_leastOf N a b c2 S = some x0) : KL l yX6_leastOf wsX6_leastOf rmX6_leastOf D vwCl (tz y) (wm y g) (AM g) [.ref (g 0), .int a, .int b, .int c2] S (fun r S2 => (r, S2) = x0) := by
  refine m_entryL (wm_ok y g) (by decide) rfl (Nat.le_of_ble_eq_true rfl) (lv := [(0, .ref (g 0)), (1, .int a), (2, .int b), (3, .int c2)]) rfl h ?_
  intro p e s m args below meth c hC hr hlocks
  obtain ⟨Q, hQ⟩ : ∃ Q, Q = (MQ below (va_Ql (fun r S2 => (r, S2) = x0) (Bw D vwCl (tz y) (wm y g) (AM g s.heap.size)) (AM g s.heap.size)) args s 0 0 (AM g s.heap.size)) := ⟨_, rfl⟩
  rw [← hQ]
  have hret : ∀ (v : Int64) (S2 : St) (pc : Nat) (lv : List (Nat × Value)), decode cX6_leastOf pc = .ok (.lreturn, 1) → Sm p l e (headSpec wsX6_leastOf rmX6_leastOf).room s m args below meth c D vwCl (wm y g) (AM g s.heap.size) 7 Q x0 (some (v, S2)) S2 pc lv [.long v] := by
    rw [hQ]
    exact fun v S2 pc lv hd => m_lret hC hr hlocks hd
  clear hQ
  unfold fX6_leastOf
  refine m_iconst hC (0) dX6_leastOf_0 (by decide) ?_
  refine m_istore hC [(0, .ref (g 0)), (1, .int a), (2, .int b), (3, .int c2), (4, .int 0)] [1, 2, 3, 4, 0] dX6_leastOf_1 (by decide) rfl rfl ?_
  refine (m_itK (z := (fun _ _ => none)) (F := fX6_leastOf_L3 a b c2) N (fun K4 => ∀ (S5 : St), Sm p l e (headSpec wsX6_leastOf rmX6_leastOf).room s m args below meth c D vwCl (wm y g) (AM g s.heap.size) 7 Q x0 (K4 S5) S5 49 [(0, .ref (g 0)), (1, .int a)] []) (fun r3 => ∀ (x1 : Int32) (S2 : St), Sm p l e (headSpec wsX6_leastOf rmX6_leastOf).room s m args below meth c D vwCl (wm y g) (AM g s.heap.size) 7 Q x0 (r3 x1 S2) S2 3 [(0, .ref (g 0)), (1, .int a), (2, .int b), (3, .int c2), (4, .int x1)] []) ?_ ?_ ?_) 0 S
  · exact fun _ _ => m_none
  · intro S5
    refine m_lconst hC (0) dX6_leastOf_49 (by decide) ?_
    refine m_lstore hC [(0, .ref (g 0)), (1, .int a), (4, .long 0)] [1, 2, 0] dX6_leastOf_50 (by decide) rfl rfl ?_
    refine m_iconst hC (0) dX6_leastOf_52 (by decide) ?_
    refine m_istore hC [(0, .ref (g 0)), (1, .int a), (4, .long 0), (6, .int 0)] [1, 2, 3, 0] dX6_leastOf_53 (by decide) rfl rfl ?_
    refine (m_itK (z := (fun _ _ => none)) (F := fX6_leastOf_L55) N (fun K9 => ∀ (S10 : St), Sm p l e (headSpec wsX6_leastOf rmX6_leastOf).room s m args below meth c D vwCl (wm y g) (AM g s.heap.size) 7 Q x0 (K9 S10) S10 78 [(0, .ref (g 0)), (1, .int a), (4, .long 0)] []) (fun r8 => ∀ (x6 : Int32) (S7 : St), Sm p l e (headSpec wsX6_leastOf rmX6_leastOf).room s m args below meth c D vwCl (wm y g) (AM g s.heap.size) 7 Q x0 (r8 x6 S7) S7 55 [(0, .ref (g 0)), (1, .int a), (4, .long 0), (6, .int x6)] []) ?_ ?_ ?_) 0 S5
    · exact fun _ _ => m_none
    · intro S10
      refine m_iconst hC (0) dX6_leastOf_78 (by decide) ?_
      refine m_istore hC [(0, .ref (g 0)), (1, .int a), (4, .long 0), (6, .int 0)] [1, 2, 3, 0] dX6_leastOf_79 (by decide) rfl rfl ?_
      refine (m_it (z := (fun _ _ _ => none)) (F := fX6_leastOf_L81 N a) N (fun r14 => ∀ (x11 : Int64) (x12 : Int32) (S13 : St), Sm p l e (headSpec wsX6_leastOf rmX6_leastOf).room s m args below meth c D vwCl (wm y g) (AM g s.heap.size) 7 Q x0 (r14 x11 x12 S13) S13 81 [(0, .ref (g 0)), (1, .int a), (4, .long x11), (6, .int x12)] []) ?_ ?_) 0 0 S10
      · exact fun _ _ _ => m_none
      · intro r14 hr14 x11 x12 S13
        unfold fX6_leastOf_L81
        refine m_iload hC dX6_leastOf_81 3 rfl ?_
        refine m_aload_n hC dX6_leastOf_83 0 rfl ?_
        refine m_get hC iX6_leastOf_X6 (wm_0 y g S13) rfl 19 (by decide) (List.mem_of_getElem? (i := 4) rfl) rfl rfl dX6_leastOf_84 ?_
        refine m_icmp_ge hC 119 dX6_leastOf_87 (by decide) ?_ ?_
        · refine m_lload hC dX6_leastOf_119 2 rfl ?_
          exact hret _ _ _ _ dX6_leastOf_121
        · refine m_aload_n hC dX6_leastOf_90 0 rfl ?_
          refine m_get hC iX6_leastOf_X6 (wm_0 y g S13) rfl 20 (by decide) (List.mem_of_getElem? (i := 6) rfl) rfl rfl dX6_leastOf_91 ?_
          refine m_iload hC dX6_leastOf_94 3 rfl ?_
          refine m_iald hC (wm_7 y g S13) (t0 := 0) rfl dX6_leastOf_96 ?_
          intro x15
          refine m_iload_n hC dX6_leastOf_97 1 rfl ?_
          refine m_icmp_ne hC 113 dX6_leastOf_98 (by decide) ?_ ?_
          · refine m_iinc hC (fun x16 => [(0, .ref (g 0)), (1, .int a), (4, .long x11), (6, .int x16)]) [1, 2, 3, 0] dX6_leastOf_113 (j := 3) rfl (by decide) (by decide) (fun _ => rfl) (fun _ => rfl) ?_
            intro x16
            refine m_goto hC 81 dX6_leastOf_116 (by decide) ?_
            exact hr14 _ _ _
          · refine m_lload hC dX6_leastOf_101 2 rfl ?_
            refine m_aload_n hC dX6_leastOf_103 0 rfl ?_
            refine m_iload hC dX6_leastOf_104 3 rfl ?_
            refine m_iload_n hC dX6_leastOf_106 1 rfl ?_
            refine m_cLV hC (As := [.int x12, .int a]) (wm_ok y g) (cwV 2 hC.1.2.2.2.2 gX6_leastOf_X6_add rfl rfl rfl (by decide +kernel) ⟨Nat.le_of_ble_eq_true rfl, Nat.le_of_ble_eq_true rfl⟩) (wm_0 y g S13) rfl (fun xq hq => kX6_add l D y g N x12 a S13 xq hq) rfl (Nat.le_of_ble_eq_true rfl) dX6_leastOf_107 ?_
            intro x17 S18
            refine m_ladd hC dX6_leastOf_110 ?_
            refine m_nmL ?_
            intro x19
            refine m_lstore hC [(0, .ref (g 0)), (1, .int a), (4, .long x19), (6, .int x12)] [1, 2, 0, 3] dX6_leastOf_111 (by decide) rfl rfl ?_
            refine m_iinc hC (fun x20 => [(0, .ref (g 0)), (1, .int a), (4, .long x19), (6, .int x20)]) [1, 2, 3, 0] dX6_leastOf_113 (j := 3) rfl (by decide) (by decide) (fun _ => rfl) (fun _ => rfl) ?_
            intro x20
            refine m_goto hC 81 dX6_leastOf_116 (by decide) ?_
            exact hr14 _ _ _
    · intro K9 hK9 r8 hr8 x6 S7
      unfold fX6_leastOf_L55
      refine m_iload hC dX6_leastOf_55 3 rfl ?_
      refine m_aload_n hC dX6_leastOf_57 0 rfl ?_
      refine m_get hC iX6_leastOf_X6 (wm_0 y g S7) rfl 19 (by decide) (List.mem_of_getElem? (i := 4) rfl) rfl rfl dX6_leastOf_58 ?_
      refine m_icmp_ge hC 78 dX6_leastOf_61 (by decide) ?_ ?_
      · refine m_lv [(0, .ref (g 0)), (1, .int a), (4, .long 0)] [0, 1, 2] rfl ?_
        exact hK9 _
      · refine m_aload_n hC dX6_leastOf_64 0 rfl ?_
        refine m_get hC iX6_leastOf_X6 (wm_0 y g S7) rfl 31 (by decide) (List.mem_of_getElem? (i := 5) rfl) rfl rfl dX6_leastOf_65 ?_
        refine m_iload hC dX6_leastOf_68 3 rfl ?_
        refine m_iconst hC (-1) dX6_leastOf_70 (by decide) ?_
        refine m_iast hC (wm_15 y g S7) (t0 := 0) rfl (wms_15 y g S7) dX6_leastOf_71 ?_
        intro S21
        refine m_iinc hC (fun x22 => [(0, .ref (g 0)), (1, .int a), (4, .long 0), (6, .int x22)]) [1, 2, 3, 0] dX6_leastOf_72 (j := 3) rfl (by decide) (by decide) (fun _ => rfl) (fun _ => rfl) ?_
        intro x22
        refine m_goto hC 55 dX6_leastOf_75 (by decide) ?_
        exact hr8 _ _
  · intro K4 hK4 r3 hr3 x1 S2
    unfold fX6_leastOf_L3
    refine m_iload hC dX6_leastOf_3 4 rfl ?_
    refine m_aload_n hC dX6_leastOf_5 0 rfl ?_
    refine m_get hC iX6_leastOf_X6 (wm_0 y g S2) rfl 3 (by decide) (List.mem_of_getElem? (i := 1) rfl) rfl rfl dX6_leastOf_6 ?_
    refine m_icmp_ge hC 49 dX6_leastOf_9 (by decide) ?_ ?_
    · refine m_lv [(0, .ref (g 0)), (1, .int a)] [0, 1] rfl ?_
      exact hK4 _
    · refine m_aload_n hC dX6_leastOf_12 0 rfl ?_
      refine m_get hC iX6_leastOf_X6 (wm_0 y g S2) rfl 32 (by decide) (List.mem_of_getElem? (i := 2) rfl) rfl rfl dX6_leastOf_13 ?_
      refine m_iload hC dX6_leastOf_16 4 rfl ?_
      refine m_aload_n hC dX6_leastOf_18 0 rfl ?_
      refine m_get hC iX6_leastOf_X6 (wm_0 y g S2) rfl 7 (by decide) (List.mem_of_getElem? (i := 3) rfl) rfl rfl dX6_leastOf_19 ?_
      refine m_bipush hC (8) dX6_leastOf_22 (by decide) ?_
      refine m_iload hC dX6_leastOf_24 4 rfl ?_
      refine m_imul hC dX6_leastOf_26 ?_
      refine m_iload_n hC dX6_leastOf_27 1 rfl ?_
      refine m_iadd hC dX6_leastOf_28 ?_
      refine m_iald hC (wm_6 y g S2) (t0 := 0) rfl dX6_leastOf_29 ?_
      intro x23
      refine m_iload hC dX6_leastOf_30 4 rfl ?_
      refine m_iload_n hC dX6_leastOf_32 3 rfl ?_
      refine m_icmp_ne hC 40 dX6_leastOf_33 (by decide) ?_ ?_
      · refine m_iconst hC (0) dX6_leastOf_40 (by decide) ?_
        refine m_iadd hC dX6_leastOf_41 ?_
        refine m_iast hC (wm_16 y g S2) (t0 := 0) rfl (wms_16 y g S2) dX6_leastOf_42 ?_
        intro S24
        refine m_iinc hC (fun x25 => [(0, .ref (g 0)), (1, .int a), (2, .int b), (3, .int c2), (4, .int x25)]) [1, 2, 3, 4, 0] dX6_leastOf_43 (j := 4) rfl (by decide) (by decide) (fun _ => rfl) (fun _ => rfl) ?_
        intro x25
        refine m_goto hC 3 dX6_leastOf_46 (by decide) ?_
        exact hr3 _ _
      · refine m_iload_n hC dX6_leastOf_36 2 rfl ?_
        refine m_goto hC 41 dX6_leastOf_37 (by decide) ?_
        refine m_iadd hC dX6_leastOf_41 ?_
        refine m_iast hC (wm_16 y g S2) (t0 := 0) rfl (wms_16 y g S2) dX6_leastOf_42 ?_
        intro S26
        refine m_iinc hC (fun x27 => [(0, .ref (g 0)), (1, .int a), (2, .int b), (3, .int c2), (4, .int x27)]) [1, 2, 3, 4, 0] dX6_leastOf_43 (j := 4) rfl (by decide) (by decide) (fun _ => rfl) (fun _ => rfl) ?_
        intro x27
        refine m_goto hC 3 dX6_leastOf_46 (by decide) ?_
        exact hr3 _ _
def fX6_leastAll_L4 (N : Nat) (r4 : Int64 → Int32 → St → Option (Int64 × St)) : Int64 → Int32 → St → Option (Int64 × St) := fun x1 x2 S3 =>
  if x2 < (S3.1 0 0) then
    caS (fX6_leastOf N x2 0 0 S3) fun x5 S6 =>
    nmL (x1 + x5) fun x7 =>
    nmI (x2 + 1) fun x8 =>
    r4 x7 x8 S6
  else
    some (x1, S3)
def fX6_leastAll (N : Nat) (S : St) : Option (Int64 × St) :=
  itN (fun _ _ _ => none) (fX6_leastAll_L4 N) N 0 0 S
abbrev rmX6_leastAll : Room := { frames := 4, cells := 0, slots := 0, locals := 98 }
theorem iX6_leastAll_X6 : ∀ w ∈ wsX60, w ∈ wsX6_leastAll := fun w h => List.mem_cons_of_mem _ (List.mem_append_right _ h)
set_option maxHeartbeats 4000000 in
set_option maxRecDepth 100000 in
theorem kX6_leastAll (l : Launch) (D : va_G) (y : Cy) (g : Nat → Nat) (N : Nat) (S : St) (x0 : Int64 × St) (h : fX6_leastAll N S = some x0) : KL l yX6_leastAll wsX6_leastAll rmX6_leastAll D vwCl (tz y) (wm y g) (AM g) [.ref (g 0)] S (fun r S2 => (r, S2) = x0) := by
  refine m_entryL (wm_ok y g) (by decide) rfl (Nat.le_of_ble_eq_true rfl) (lv := [(0, .ref (g 0))]) rfl h ?_
  intro p e s m args below meth c hC hr hlocks
  obtain ⟨Q, hQ⟩ : ∃ Q, Q = (MQ below (va_Ql (fun r S2 => (r, S2) = x0) (Bw D vwCl (tz y) (wm y g) (AM g s.heap.size)) (AM g s.heap.size)) args s 0 0 (AM g s.heap.size)) := ⟨_, rfl⟩
  rw [← hQ]
  have hret : ∀ (v : Int64) (S2 : St) (pc : Nat) (lv : List (Nat × Value)), decode cX6_leastAll pc = .ok (.lreturn, 1) → Sm p l e (headSpec wsX6_leastAll rmX6_leastAll).room s m args below meth c D vwCl (wm y g) (AM g s.heap.size) 4 Q x0 (some (v, S2)) S2 pc lv [.long v] := by
    rw [hQ]
    exact fun v S2 pc lv hd => m_lret hC hr hlocks hd
  clear hQ
  unfold fX6_leastAll
  refine m_lconst hC (0) dX6_leastAll_0 (by decide) ?_
  refine m_lstore_n hC [(0, .ref (g 0)), (1, .long 0)] [1, 0] dX6_leastAll_1 (by decide) rfl rfl ?_
  refine m_iconst hC (0) dX6_leastAll_2 (by decide) ?_
  refine m_istore_n hC [(0, .ref (g 0)), (1, .long 0), (3, .int 0)] [1, 2, 0] dX6_leastAll_3 (by decide) rfl rfl ?_
  refine (m_it (z := (fun _ _ _ => none)) (F := fX6_leastAll_L4 N) N (fun r4 => ∀ (x1 : Int64) (x2 : Int32) (S3 : St), Sm p l e (headSpec wsX6_leastAll rmX6_leastAll).room s m args below meth c D vwCl (wm y g) (AM g s.heap.size) 4 Q x0 (r4 x1 x2 S3) S3 4 [(0, .ref (g 0)), (1, .long x1), (3, .int x2)] []) ?_ ?_) 0 0 S
  · exact fun _ _ _ => m_none
  · intro r4 hr4 x1 x2 S3
    unfold fX6_leastAll_L4
    refine m_iload_n hC dX6_leastAll_4 2 rfl ?_
    refine m_aload_n hC dX6_leastAll_5 0 rfl ?_
    refine m_get hC iX6_leastAll_X6 (wm_0 y g S3) rfl 0 (by decide) (List.mem_of_getElem? (i := 1) rfl) rfl rfl dX6_leastAll_6 ?_
    refine m_icmp_ge hC 28 dX6_leastAll_9 (by decide) ?_ ?_
    · refine m_lload_n hC dX6_leastAll_28 1 rfl ?_
      exact hret _ _ _ _ dX6_leastAll_29
    · refine m_lload_n hC dX6_leastAll_12 1 rfl ?_
      refine m_aload_n hC dX6_leastAll_13 0 rfl ?_
      refine m_iload_n hC dX6_leastAll_14 2 rfl ?_
      refine m_iconst hC (0) dX6_leastAll_15 (by decide) ?_
      refine m_iconst hC (0) dX6_leastAll_16 (by decide) ?_
      refine m_cLV hC (As := [.int x2, .int 0, .int 0]) (wm_ok y g) (cwV 3 hC.1.2.2.2.2 gX6_leastAll_X6_leastOf rfl rfl rfl (by decide +kernel) ⟨Nat.le_of_ble_eq_true rfl, Nat.le_of_ble_eq_true rfl⟩) (wm_0 y g S3) rfl (fun xq hq => kX6_leastOf l D y g N x2 0 0 S3 xq hq) rfl (Nat.le_of_ble_eq_true rfl) dX6_leastAll_17 ?_
      intro x5 S6
      refine m_ladd hC dX6_leastAll_20 ?_
      refine m_nmL ?_
      intro x7
      refine m_lstore_n hC [(0, .ref (g 0)), (1, .long x7), (3, .int x2)] [1, 0, 2] dX6_leastAll_21 (by decide) rfl rfl ?_
      refine m_iinc hC (fun x8 => [(0, .ref (g 0)), (1, .long x7), (3, .int x8)]) [1, 2, 0] dX6_leastAll_22 (j := 2) rfl (by decide) (by decide) (fun _ => rfl) (fun _ => rfl) ?_
      intro x8
      refine m_goto hC 4 dX6_leastAll_25 (by decide) ?_
      exact hr4 _ _ _
def fX6_least (N : Nat) (S : St) : Option (Int64 × St) :=
  pfI S 0 28 0 fun S1 =>
  if (S1.1 0 17) = 0 then
    some ((-1), S1)
  else
    caS (fX6_leastAll N S1) fun x2 S3 =>
    some (x2, S3)
abbrev rmX6_least : Room := { frames := 5, cells := 0, slots := 0, locals := 121 }
theorem iX6_least_X6 : ∀ w ∈ wsX60, w ∈ wsX6_least := fun w h => List.mem_cons_of_mem _ (List.mem_append_right _ h)
set_option maxHeartbeats 4000000 in
set_option maxRecDepth 100000 in
theorem kX6_least (l : Launch) (D : va_G) (y : Cy) (g : Nat → Nat) (N : Nat) (S : St) (x0 : Int64 × St) (h : fX6_least N S = some x0) : KL l yX6_least wsX6_least rmX6_least D vwCl (tz y) (wm y g) (AM g) [.ref (g 0)] S (fun r S2 => (r, S2) = x0) := by
  refine m_entryL (wm_ok y g) (by decide) rfl (Nat.le_of_ble_eq_true rfl) (lv := [(0, .ref (g 0))]) rfl h ?_
  intro p e s m args below meth c hC hr hlocks
  obtain ⟨Q, hQ⟩ : ∃ Q, Q = (MQ below (va_Ql (fun r S2 => (r, S2) = x0) (Bw D vwCl (tz y) (wm y g) (AM g s.heap.size)) (AM g s.heap.size)) args s 0 0 (AM g s.heap.size)) := ⟨_, rfl⟩
  rw [← hQ]
  have hret : ∀ (v : Int64) (S2 : St) (pc : Nat) (lv : List (Nat × Value)), decode cX6_least pc = .ok (.lreturn, 1) → Sm p l e (headSpec wsX6_least rmX6_least).room s m args below meth c D vwCl (wm y g) (AM g s.heap.size) 1 Q x0 (some (v, S2)) S2 pc lv [.long v] := by
    rw [hQ]
    exact fun v S2 pc lv hd => m_lret hC hr hlocks hd
  clear hQ
  unfold fX6_least
  refine m_aload_n hC dX6_least_0 0 rfl ?_
  refine m_iconst hC (0) dX6_least_1 (by decide) ?_
  refine m_putI (ty := .int) hC iX6_least_X6 tyX6 tyX6_ok nmX6 (wm_0 y g S) rfl 28 (by decide) (List.mem_of_getElem? (i := 1) rfl) rfl rfl (by decide +kernel) rfl rfl (Nat.le_of_ble_eq_true rfl) dX6_least_2 (wmf_0_28 y g S _) ?_
  intro S1
  refine m_aload_n hC dX6_least_5 0 rfl ?_
  refine m_get hC iX6_least_X6 (wm_0 y g S1) rfl 17 (by decide) (List.mem_of_getElem? (i := 2) rfl) rfl rfl dX6_least_6 ?_
  refine m_if_eq hC 19 dX6_least_9 (by decide) ?_ ?_
  · refine m_ldc2 hC (List.mem_of_getElem? (i := 3) rfl) dX6_least_19 ?_
    exact hret _ _ _ _ dX6_least_22
  · refine m_aload_n hC dX6_least_12 0 rfl ?_
    refine m_cLV hC (As := []) (wm_ok y g) (cwV 0 hC.1.2.2.2.2 gX6_least_X6_leastAll rfl rfl rfl (by decide +kernel) ⟨Nat.le_of_ble_eq_true rfl, Nat.le_of_ble_eq_true rfl⟩) (wm_0 y g S1) rfl (fun xq hq => kX6_leastAll l D y g N S1 xq hq) rfl (Nat.le_of_ble_eq_true rfl) dX6_least_13 ?_
    intro x2 S3
    refine m_goto hC 22 dX6_least_16 (by decide) ?_
    exact hret _ _ _ _ dX6_least_22
def fX6_look_L91 (S1 : St) (r4 : Int32 → Int32 → Option (Int32 × St)) : Int32 → Int32 → Option (Int32 × St) := fun x2 x3 =>
  if x3 < (S1.1 0 19) then
    caP (fX6_hearting x3 S1) fun x5 =>
    nmI (x2 + x5) fun x6 =>
    nmI (x3 + 1) fun x7 =>
    r4 x6 x7
  else
    some (x2, S1)
def fX6_look_L117 (N : Nat) (S1 : St) (r10 : Int32 → Int32 → Option (Int32 × St)) : Int32 → Int32 → Option (Int32 × St) := fun x8 x9 =>
  if x9 < (S1.1 0 0) then
    caP (fX6_there N x9 0 S1) fun x11 =>
    nmI (x8 + x11) fun x12 =>
    nmI (x9 + 1) fun x13 =>
    r10 x12 x13
  else
    some (x8, S1)
def fX6_look (N : Nat) (a : Int32) (S : St) : Option (Int32 × St) :=
  pfI S 0 28 0 fun S1 =>
  if a = 0 then
    some ((S1.1 0 0), S1)
  else
  if a = 1 then
    some ((S1.1 0 3), S1)
  else
  if a = 2 then
    some ((S1.1 0 19), S1)
  else
  if a = 3 then
    if (S1.1 0 18) = 0 then
      some (0, S1)
    else
      some (1, S1)
  else
  if a = 4 then
    some ((S1.1 0 26), S1)
  else
  if a = 5 then
    itN (fun _ _ => none) (fX6_look_L91 S1) N 0 0
  else
  if a = 6 then
    itN (fun _ _ => none) (fX6_look_L117 N S1) N 0 0
  else
  if a = 7 then
    if (S1.1 0 18) = 0 then
      some (0, S1)
    else
      some ((S1.1 0 27), S1)
  else
    some ((-1), S1)
abbrev rmX6_look : Room := { frames := 2, cells := 0, slots := 0, locals := 43 }
theorem iX6_look_X6 : ∀ w ∈ wsX60, w ∈ wsX6_look := fun w h => List.mem_cons_of_mem _ (List.mem_append_right _ h)
set_option maxHeartbeats 4000000 in
set_option maxRecDepth 100000 in
theorem kX6_look (l : Launch) (D : va_G) (y : Cy) (g : Nat → Nat) (N : Nat) (a : Int32) (S : St) (x0 : Int32 × St) (h : fX6_look N a S = some x0) : KI l yX6_look wsX6_look rmX6_look D vwCl (tz y) (wm y g) (AM g) [.ref (g 0), .int a] S (fun r S2 => (r, S2) = x0) := by
  refine m_entryI (wm_ok y g) (by decide) rfl (Nat.le_of_ble_eq_true rfl) (lv := [(0, .ref (g 0)), (1, .int a)]) rfl h ?_
  intro p e s m args below meth c hC hr hlocks
  obtain ⟨Q, hQ⟩ : ∃ Q, Q = (MQ below (va_Qi (fun r S2 => (r, S2) = x0) (Bw D vwCl (tz y) (wm y g) (AM g s.heap.size)) (AM g s.heap.size)) args s 0 0 (AM g s.heap.size)) := ⟨_, rfl⟩
  rw [← hQ]
  have hret : ∀ (v : Int32) (S2 : St) (pc : Nat) (lv : List (Nat × Value)), decode cX6_look pc = .ok (.ireturn, 1) → Sm p l e (headSpec wsX6_look rmX6_look).room s m args below meth c D vwCl (wm y g) (AM g s.heap.size) 4 Q x0 (some (v, S2)) S2 pc lv [.int v] := by
    rw [hQ]
    exact fun v S2 pc lv hd => m_iret hC hr hlocks hd
  clear hQ
  unfold fX6_look
  refine m_aload_n hC dX6_look_0 0 rfl ?_
  refine m_iconst hC (0) dX6_look_1 (by decide) ?_
  refine m_putI (ty := .int) hC iX6_look_X6 tyX6 tyX6_ok nmX6 (wm_0 y g S) rfl 28 (by decide) (List.mem_of_getElem? (i := 1) rfl) rfl rfl (by decide +kernel) rfl rfl (Nat.le_of_ble_eq_true rfl) dX6_look_2 (wmf_0_28 y g S _) ?_
  intro S1
  refine m_iconst hC (0) dX6_look_5 (by decide) ?_
  refine m_istore_n hC [(0, .ref (g 0)), (1, .int a), (2, .int 0)] [1, 2, 0] dX6_look_6 (by decide) rfl rfl ?_
  refine m_iload_n hC dX6_look_7 1 rfl ?_
  refine m_if (fun hq => ?_) (fun hq0 => ?_)
  · refine m_tin hC (0) 56 (by rw [hq]; decide) dX6_look_8 (by decide) (by decide) rfl (by decide) ?_
    refine m_aload_n hC dX6_look_56 0 rfl ?_
    refine m_get hC iX6_look_X6 (wm_0 y g S1) rfl 0 (by decide) (List.mem_of_getElem? (i := 2) rfl) rfl rfl dX6_look_57 ?_
    exact hret _ _ _ _ dX6_look_60
  refine m_if (fun hq => ?_) (fun hq1 => ?_)
  · refine m_tin hC (1) 61 (by rw [hq]; decide) dX6_look_8 (by decide) (by decide) rfl (by decide) ?_
    refine m_aload_n hC dX6_look_61 0 rfl ?_
    refine m_get hC iX6_look_X6 (wm_0 y g S1) rfl 3 (by decide) (List.mem_of_getElem? (i := 3) rfl) rfl rfl dX6_look_62 ?_
    exact hret _ _ _ _ dX6_look_65
  refine m_if (fun hq => ?_) (fun hq2 => ?_)
  · refine m_tin hC (2) 66 (by rw [hq]; decide) dX6_look_8 (by decide) (by decide) rfl (by decide) ?_
    refine m_aload_n hC dX6_look_66 0 rfl ?_
    refine m_get hC iX6_look_X6 (wm_0 y g S1) rfl 19 (by decide) (List.mem_of_getElem? (i := 4) rfl) rfl rfl dX6_look_67 ?_
    exact hret _ _ _ _ dX6_look_70
  refine m_if (fun hq => ?_) (fun hq3 => ?_)
  · refine m_tin hC (3) 71 (by rw [hq]; decide) dX6_look_8 (by decide) (by decide) rfl (by decide) ?_
    refine m_aload_n hC dX6_look_71 0 rfl ?_
    refine m_get hC iX6_look_X6 (wm_0 y g S1) rfl 18 (by decide) (List.mem_of_getElem? (i := 5) rfl) rfl rfl dX6_look_72 ?_
    refine m_if_eq hC 82 dX6_look_75 (by decide) ?_ ?_
    · refine m_iconst hC (0) dX6_look_82 (by decide) ?_
      exact hret _ _ _ _ dX6_look_83
    · refine m_iconst hC (1) dX6_look_78 (by decide) ?_
      refine m_goto hC 83 dX6_look_79 (by decide) ?_
      exact hret _ _ _ _ dX6_look_83
  refine m_if (fun hq => ?_) (fun hq4 => ?_)
  · refine m_tin hC (4) 84 (by rw [hq]; decide) dX6_look_8 (by decide) (by decide) rfl (by decide) ?_
    refine m_aload_n hC dX6_look_84 0 rfl ?_
    refine m_get hC iX6_look_X6 (wm_0 y g S1) rfl 26 (by decide) (List.mem_of_getElem? (i := 6) rfl) rfl rfl dX6_look_85 ?_
    exact hret _ _ _ _ dX6_look_88
  refine m_if (fun hq => ?_) (fun hq5 => ?_)
  · refine m_tin hC (5) 89 (by rw [hq]; decide) dX6_look_8 (by decide) (by decide) rfl (by decide) ?_
    refine m_iconst hC (0) dX6_look_89 (by decide) ?_
    refine m_istore_n hC [(0, .ref (g 0)), (1, .int a), (2, .int 0), (3, .int 0)] [1, 2, 3, 0] dX6_look_90 (by decide) rfl rfl ?_
    refine m_lv [(0, .ref (g 0)), (2, .int 0), (3, .int 0)] [0, 2, 3] rfl ?_
    refine (m_it (z := (fun _ _ => none)) (F := fX6_look_L91 S1) N (fun r4 => ∀ (x2 : Int32) (x3 : Int32), Sm p l e (headSpec wsX6_look rmX6_look).room s m args below meth c D vwCl (wm y g) (AM g s.heap.size) 4 Q x0 (r4 x2 x3) S1 91 [(0, .ref (g 0)), (2, .int x2), (3, .int x3)] []) ?_ ?_) 0 0
    · exact fun _ _ => m_none
    · intro r4 hr4 x2 x3
      unfold fX6_look_L91
      refine m_iload_n hC dX6_look_91 2 rfl ?_
      refine m_aload_n hC dX6_look_92 0 rfl ?_
      refine m_get hC iX6_look_X6 (wm_0 y g S1) rfl 19 (by decide) (List.mem_of_getElem? (i := 4) rfl) rfl rfl dX6_look_93 ?_
      refine m_icmp_ge hC 113 dX6_look_96 (by decide) ?_ ?_
      · refine m_iload_n hC dX6_look_113 1 rfl ?_
        exact hret _ _ _ _ dX6_look_114
      · refine m_iload_n hC dX6_look_99 1 rfl ?_
        refine m_aload_n hC dX6_look_100 0 rfl ?_
        refine m_iload_n hC dX6_look_101 2 rfl ?_
        refine m_cIPV hC (As := [.int x3]) (wm_ok y g) (cwV 1 hC.1.2.2.2.2 gX6_look_X6_hearting rfl rfl rfl (by decide +kernel) ⟨Nat.le_of_ble_eq_true rfl, Nat.le_of_ble_eq_true rfl⟩) (wm_0 y g S1) rfl (fun xq hq => kX6_hearting l D y g x3 S1 xq hq) rfl (Nat.le_of_ble_eq_true rfl) dX6_look_102 ?_
        intro x5
        refine m_iadd hC dX6_look_105 ?_
        refine m_nmI ?_
        intro x6
        refine m_istore_n hC [(0, .ref (g 0)), (2, .int x6), (3, .int x3)] [1, 0, 2] dX6_look_106 (by decide) rfl rfl ?_
        refine m_iinc hC (fun x7 => [(0, .ref (g 0)), (2, .int x6), (3, .int x7)]) [1, 2, 0] dX6_look_107 (j := 2) rfl (by decide) (by decide) (fun _ => rfl) (fun _ => rfl) ?_
        intro x7
        refine m_goto hC 91 dX6_look_110 (by decide) ?_
        exact hr4 _ _
  refine m_if (fun hq => ?_) (fun hq6 => ?_)
  · refine m_tin hC (6) 115 (by rw [hq]; decide) dX6_look_8 (by decide) (by decide) rfl (by decide) ?_
    refine m_iconst hC (0) dX6_look_115 (by decide) ?_
    refine m_istore_n hC [(0, .ref (g 0)), (1, .int a), (2, .int 0), (3, .int 0)] [1, 2, 3, 0] dX6_look_116 (by decide) rfl rfl ?_
    refine m_lv [(0, .ref (g 0)), (2, .int 0), (3, .int 0)] [0, 2, 3] rfl ?_
    refine (m_it (z := (fun _ _ => none)) (F := fX6_look_L117 N S1) N (fun r10 => ∀ (x8 : Int32) (x9 : Int32), Sm p l e (headSpec wsX6_look rmX6_look).room s m args below meth c D vwCl (wm y g) (AM g s.heap.size) 4 Q x0 (r10 x8 x9) S1 117 [(0, .ref (g 0)), (2, .int x8), (3, .int x9)] []) ?_ ?_) 0 0
    · exact fun _ _ => m_none
    · intro r10 hr10 x8 x9
      unfold fX6_look_L117
      refine m_iload_n hC dX6_look_117 2 rfl ?_
      refine m_aload_n hC dX6_look_118 0 rfl ?_
      refine m_get hC iX6_look_X6 (wm_0 y g S1) rfl 0 (by decide) (List.mem_of_getElem? (i := 2) rfl) rfl rfl dX6_look_119 ?_
      refine m_icmp_ge hC 140 dX6_look_122 (by decide) ?_ ?_
      · refine m_iload_n hC dX6_look_140 1 rfl ?_
        exact hret _ _ _ _ dX6_look_141
      · refine m_iload_n hC dX6_look_125 1 rfl ?_
        refine m_aload_n hC dX6_look_126 0 rfl ?_
        refine m_iload_n hC dX6_look_127 2 rfl ?_
        refine m_iconst hC (0) dX6_look_128 (by decide) ?_
        refine m_cIPV hC (As := [.int x9, .int 0]) (wm_ok y g) (cwV 2 hC.1.2.2.2.2 gX6_look_X6_there rfl rfl rfl (by decide +kernel) ⟨Nat.le_of_ble_eq_true rfl, Nat.le_of_ble_eq_true rfl⟩) (wm_0 y g S1) rfl (fun xq hq => kX6_there l D y g N x9 0 S1 xq hq) rfl (Nat.le_of_ble_eq_true rfl) dX6_look_129 ?_
        intro x11
        refine m_iadd hC dX6_look_132 ?_
        refine m_nmI ?_
        intro x12
        refine m_istore_n hC [(0, .ref (g 0)), (2, .int x12), (3, .int x9)] [1, 0, 2] dX6_look_133 (by decide) rfl rfl ?_
        refine m_iinc hC (fun x13 => [(0, .ref (g 0)), (2, .int x12), (3, .int x13)]) [1, 2, 0] dX6_look_134 (j := 2) rfl (by decide) (by decide) (fun _ => rfl) (fun _ => rfl) ?_
        intro x13
        refine m_goto hC 117 dX6_look_137 (by decide) ?_
        exact hr10 _ _
  refine m_if (fun hq => ?_) (fun hq7 => ?_)
  · refine m_tin hC (7) 142 (by rw [hq]; decide) dX6_look_8 (by decide) (by decide) rfl (by decide) ?_
    refine m_aload_n hC dX6_look_142 0 rfl ?_
    refine m_get hC iX6_look_X6 (wm_0 y g S1) rfl 18 (by decide) (List.mem_of_getElem? (i := 5) rfl) rfl rfl dX6_look_143 ?_
    refine m_if_eq hC 156 dX6_look_146 (by decide) ?_ ?_
    · refine m_iconst hC (0) dX6_look_156 (by decide) ?_
      exact hret _ _ _ _ dX6_look_157
    · refine m_aload_n hC dX6_look_149 0 rfl ?_
      refine m_get hC iX6_look_X6 (wm_0 y g S1) rfl 27 (by decide) (List.mem_of_getElem? (i := 7) rfl) rfl rfl dX6_look_150 ?_
      refine m_goto hC 157 dX6_look_153 (by decide) ?_
      exact hret _ _ _ _ dX6_look_157
  refine m_tout hC 158 dX6_look_8 (by have e0 := lv_neT (a := 0) hq0 (by decide); have e1 := lv_neT (a := 1) hq1 (by decide); have e2 := lv_neT (a := 2) hq2 (by decide); have e3 := lv_neT (a := 3) hq3 (by decide); have e4 := lv_neT (a := 4) hq4 (by decide); have e5 := lv_neT (a := 5) hq5 (by decide); have e6 := lv_neT (a := 6) hq6 (by decide); have e7 := lv_neT (a := 7) hq7 (by decide); omega) (by decide) ?_
  refine m_iconst hC (-1) dX6_look_158 (by decide) ?_
  exact hret _ _ _ _ dX6_look_159
def fX6_mend_L18 (r5 : Int32 → Int32 → St → Option (Int32 × St)) : Int32 → Int32 → St → Option (Int32 × St) := fun x2 x3 S4 =>
  if x3 < (S4.1 0 19) then
    ldI 150 (S4.1 11) x3 fun x6 =>
    if x6 = 0 then
      stI S4 11 150 x3 1 fun S7 =>
      stI S7 10 150 x3 99 fun S8 =>
      nmI (x2 + 1) fun x9 =>
      nmI (x3 + 1) fun x10 =>
      r5 x9 x10 S8
    else
      nmI (x3 + 1) fun x11 =>
      r5 x2 x11 S4
  else
    some (x2, S4)
def fX6_mend (N : Nat) (S : St) : Option (Int32 × St) :=
  pfI S 0 28 0 fun S1 =>
  if (S1.1 0 18) = 0 then
    some ((-1), S1)
  else
    itN (fun _ _ _ => none) (fX6_mend_L18) N 0 0 S1
abbrev rmX6_mend : Room := { frames := 0, cells := 0, slots := 0, locals := 0 }
theorem iX6_mend_X6 : ∀ w ∈ wsX60, w ∈ wsX6_mend := fun w h => List.mem_cons_of_mem _ (List.mem_append_right _ h)
set_option maxHeartbeats 4000000 in
set_option maxRecDepth 100000 in
theorem kX6_mend (l : Launch) (D : va_G) (y : Cy) (g : Nat → Nat) (N : Nat) (S : St) (x0 : Int32 × St) (h : fX6_mend N S = some x0) : KI l yX6_mend wsX6_mend rmX6_mend D vwCl (tz y) (wm y g) (AM g) [.ref (g 0)] S (fun r S2 => (r, S2) = x0) := by
  refine m_entryI (wm_ok y g) (by decide) rfl (Nat.le_of_ble_eq_true rfl) (lv := [(0, .ref (g 0))]) rfl h ?_
  intro p e s m args below meth c hC hr hlocks
  obtain ⟨Q, hQ⟩ : ∃ Q, Q = (MQ below (va_Qi (fun r S2 => (r, S2) = x0) (Bw D vwCl (tz y) (wm y g) (AM g s.heap.size)) (AM g s.heap.size)) args s 0 0 (AM g s.heap.size)) := ⟨_, rfl⟩
  rw [← hQ]
  have hret : ∀ (v : Int32) (S2 : St) (pc : Nat) (lv : List (Nat × Value)), decode cX6_mend pc = .ok (.ireturn, 1) → Sm p l e (headSpec wsX6_mend rmX6_mend).room s m args below meth c D vwCl (wm y g) (AM g s.heap.size) 3 Q x0 (some (v, S2)) S2 pc lv [.int v] := by
    rw [hQ]
    exact fun v S2 pc lv hd => m_iret hC hr hlocks hd
  clear hQ
  unfold fX6_mend
  refine m_aload_n hC dX6_mend_0 0 rfl ?_
  refine m_iconst hC (0) dX6_mend_1 (by decide) ?_
  refine m_putI (ty := .int) hC iX6_mend_X6 tyX6 tyX6_ok nmX6 (wm_0 y g S) rfl 28 (by decide) (List.mem_of_getElem? (i := 1) rfl) rfl rfl (by decide +kernel) rfl rfl (Nat.le_of_ble_eq_true rfl) dX6_mend_2 (wmf_0_28 y g S _) ?_
  intro S1
  refine m_aload_n hC dX6_mend_5 0 rfl ?_
  refine m_get hC iX6_mend_X6 (wm_0 y g S1) rfl 18 (by decide) (List.mem_of_getElem? (i := 2) rfl) rfl rfl dX6_mend_6 ?_
  refine m_if_ne hC 14 dX6_mend_9 (by decide) ?_ ?_
  · refine m_iconst hC (0) dX6_mend_14 (by decide) ?_
    refine m_istore_n hC [(0, .ref (g 0)), (1, .int 0)] [1, 0] dX6_mend_15 (by decide) rfl rfl ?_
    refine m_iconst hC (0) dX6_mend_16 (by decide) ?_
    refine m_istore_n hC [(0, .ref (g 0)), (1, .int 0), (2, .int 0)] [1, 2, 0] dX6_mend_17 (by decide) rfl rfl ?_
    refine (m_it (z := (fun _ _ _ => none)) (F := fX6_mend_L18) N (fun r5 => ∀ (x2 : Int32) (x3 : Int32) (S4 : St), Sm p l e (headSpec wsX6_mend rmX6_mend).room s m args below meth c D vwCl (wm y g) (AM g s.heap.size) 3 Q x0 (r5 x2 x3 S4) S4 18 [(0, .ref (g 0)), (1, .int x2), (2, .int x3)] []) ?_ ?_) 0 0 S1
    · exact fun _ _ _ => m_none
    · intro r5 hr5 x2 x3 S4
      unfold fX6_mend_L18
      refine m_iload_n hC dX6_mend_18 2 rfl ?_
      refine m_aload_n hC dX6_mend_19 0 rfl ?_
      refine m_get hC iX6_mend_X6 (wm_0 y g S4) rfl 19 (by decide) (List.mem_of_getElem? (i := 3) rfl) rfl rfl dX6_mend_20 ?_
      refine m_icmp_ge hC 62 dX6_mend_23 (by decide) ?_ ?_
      · refine m_iload_n hC dX6_mend_62 1 rfl ?_
        exact hret _ _ _ _ dX6_mend_63
      · refine m_aload_n hC dX6_mend_26 0 rfl ?_
        refine m_get hC iX6_mend_X6 (wm_0 y g S4) rfl 24 (by decide) (List.mem_of_getElem? (i := 4) rfl) rfl rfl dX6_mend_27 ?_
        refine m_iload_n hC dX6_mend_30 2 rfl ?_
        refine m_zald hC (wm_11 y g S4) (t0 := 1) rfl dX6_mend_31 ?_
        intro x6
        refine m_if_eq hC 38 dX6_mend_32 (by decide) ?_ ?_
        · refine m_aload_n hC dX6_mend_38 0 rfl ?_
          refine m_get hC iX6_mend_X6 (wm_0 y g S4) rfl 24 (by decide) (List.mem_of_getElem? (i := 4) rfl) rfl rfl dX6_mend_39 ?_
          refine m_iload_n hC dX6_mend_42 2 rfl ?_
          refine m_iconst hC (1) dX6_mend_43 (by decide) ?_
          refine m_zast hC (by decide) (wm_11 y g S4) (t0 := 1) rfl (wms_11 y g S4) dX6_mend_44 ?_
          intro S7
          refine m_aload_n hC dX6_mend_45 0 rfl ?_
          refine m_get hC iX6_mend_X6 (wm_0 y g S7) rfl 23 (by decide) (List.mem_of_getElem? (i := 5) rfl) rfl rfl dX6_mend_46 ?_
          refine m_iload_n hC dX6_mend_49 2 rfl ?_
          refine m_bipush hC (99) dX6_mend_50 (by decide) ?_
          refine m_iast hC (wm_10 y g S7) (t0 := 0) rfl (wms_10 y g S7) dX6_mend_52 ?_
          intro S8
          refine m_iinc hC (fun x9 => [(0, .ref (g 0)), (1, .int x9), (2, .int x3)]) [1, 0, 2] dX6_mend_53 (j := 1) rfl (by decide) (by decide) (fun _ => rfl) (fun _ => rfl) ?_
          intro x9
          refine m_iinc hC (fun x10 => [(0, .ref (g 0)), (1, .int x9), (2, .int x10)]) [1, 2, 0] dX6_mend_56 (j := 2) rfl (by decide) (by decide) (fun _ => rfl) (fun _ => rfl) ?_
          intro x10
          refine m_goto hC 18 dX6_mend_59 (by decide) ?_
          exact hr5 _ _ _
        · refine m_goto hC 56 dX6_mend_35 (by decide) ?_
          refine m_iinc hC (fun x11 => [(0, .ref (g 0)), (1, .int x2), (2, .int x11)]) [1, 2, 0] dX6_mend_56 (j := 2) rfl (by decide) (by decide) (fun _ => rfl) (fun _ => rfl) ?_
          intro x11
          refine m_goto hC 18 dX6_mend_59 (by decide) ?_
          exact hr5 _ _ _
  · refine m_iconst hC (-1) dX6_mend_12 (by decide) ?_
    exact hret _ _ _ _ dX6_mend_13
def fX6_over_L7 (a : Int32) (b : Int32) (S1 : St) (r3 : Int32 → Option (Int32 × St)) : Int32 → Option (Int32 × St) := fun x2 =>
  if x2 < (S1.1 0 19) then
    ldI 150 (S1.1 8) x2 fun x4 =>
    if x4 = a then
      ldI 150 (S1.1 9) x2 fun x6 =>
      if x6 ≤ b then
        ldI 150 (S1.1 9) x2 fun x8 =>
        ldI 150 (S1.1 7) x2 fun x9 =>
        ldI 8 (S1.1 1) x9 fun x10 =>
        if b < (x8 + x10) then
          some (x2, S1)
        else
          nmI (x2 + 1) fun x11 =>
          r3 x11
      else
        nmI (x2 + 1) fun x7 =>
        r3 x7
    else
      nmI (x2 + 1) fun x5 =>
      r3 x5
  else
    some ((-1), S1)
def fX6_over (N : Nat) (a : Int32) (b : Int32) (S : St) : Option (Int32 × St) :=
  pfI S 0 28 0 fun S1 =>
  itN (fun _ => none) (fX6_over_L7 a b S1) N 0
abbrev rmX6_over : Room := { frames := 0, cells := 0, slots := 0, locals := 0 }
theorem iX6_over_X6 : ∀ w ∈ wsX60, w ∈ wsX6_over := fun w h => List.mem_cons_of_mem _ (List.mem_append_right _ h)
set_option maxHeartbeats 4000000 in
set_option maxRecDepth 100000 in
theorem kX6_over (l : Launch) (D : va_G) (y : Cy) (g : Nat → Nat) (N : Nat) (a : Int32) (b : Int32) (S : St) (x0 : Int32 × St) (h : fX6_over N a b S = some x0) : KI l yX6_over wsX6_over rmX6_over D vwCl (tz y) (wm y g) (AM g) [.ref (g 0), .int a, .int b] S (fun r S2 => (r, S2) = x0) := by
  refine m_entryI (wm_ok y g) (by decide) rfl (Nat.le_of_ble_eq_true rfl) (lv := [(0, .ref (g 0)), (1, .int a), (2, .int b)]) rfl h ?_
  intro p e s m args below meth c hC hr hlocks
  obtain ⟨Q, hQ⟩ : ∃ Q, Q = (MQ below (va_Qi (fun r S2 => (r, S2) = x0) (Bw D vwCl (tz y) (wm y g) (AM g s.heap.size)) (AM g s.heap.size)) args s 0 0 (AM g s.heap.size)) := ⟨_, rfl⟩
  rw [← hQ]
  have hret : ∀ (v : Int32) (S2 : St) (pc : Nat) (lv : List (Nat × Value)), decode cX6_over pc = .ok (.ireturn, 1) → Sm p l e (headSpec wsX6_over rmX6_over).room s m args below meth c D vwCl (wm y g) (AM g s.heap.size) 4 Q x0 (some (v, S2)) S2 pc lv [.int v] := by
    rw [hQ]
    exact fun v S2 pc lv hd => m_iret hC hr hlocks hd
  clear hQ
  unfold fX6_over
  refine m_aload_n hC dX6_over_0 0 rfl ?_
  refine m_iconst hC (0) dX6_over_1 (by decide) ?_
  refine m_putI (ty := .int) hC iX6_over_X6 tyX6 tyX6_ok nmX6 (wm_0 y g S) rfl 28 (by decide) (List.mem_of_getElem? (i := 1) rfl) rfl rfl (by decide +kernel) rfl rfl (Nat.le_of_ble_eq_true rfl) dX6_over_2 (wmf_0_28 y g S _) ?_
  intro S1
  refine m_iconst hC (0) dX6_over_5 (by decide) ?_
  refine m_istore_n hC [(0, .ref (g 0)), (1, .int a), (2, .int b), (3, .int 0)] [1, 2, 3, 0] dX6_over_6 (by decide) rfl rfl ?_
  refine (m_it (z := (fun _ => none)) (F := fX6_over_L7 a b S1) N (fun r3 => ∀ (x2 : Int32), Sm p l e (headSpec wsX6_over rmX6_over).room s m args below meth c D vwCl (wm y g) (AM g s.heap.size) 4 Q x0 (r3 x2) S1 7 [(0, .ref (g 0)), (1, .int a), (2, .int b), (3, .int x2)] []) ?_ ?_) 0
  · exact fun _ => m_none
  · intro r3 hr3 x2
    unfold fX6_over_L7
    refine m_iload_n hC dX6_over_7 3 rfl ?_
    refine m_aload_n hC dX6_over_8 0 rfl ?_
    refine m_get hC iX6_over_X6 (wm_0 y g S1) rfl 19 (by decide) (List.mem_of_getElem? (i := 2) rfl) rfl rfl dX6_over_9 ?_
    refine m_icmp_ge hC 65 dX6_over_12 (by decide) ?_ ?_
    · refine m_iconst hC (-1) dX6_over_65 (by decide) ?_
      exact hret _ _ _ _ dX6_over_66
    · refine m_aload_n hC dX6_over_15 0 rfl ?_
      refine m_get hC iX6_over_X6 (wm_0 y g S1) rfl 21 (by decide) (List.mem_of_getElem? (i := 3) rfl) rfl rfl dX6_over_16 ?_
      refine m_iload_n hC dX6_over_19 3 rfl ?_
      refine m_iald hC (wm_8 y g S1) (t0 := 0) rfl dX6_over_20 ?_
      intro x4
      refine m_iload_n hC dX6_over_21 1 rfl ?_
      refine m_icmp_ne hC 59 dX6_over_22 (by decide) ?_ ?_
      · refine m_iinc hC (fun x5 => [(0, .ref (g 0)), (1, .int a), (2, .int b), (3, .int x5)]) [1, 2, 3, 0] dX6_over_59 (j := 3) rfl (by decide) (by decide) (fun _ => rfl) (fun _ => rfl) ?_
        intro x5
        refine m_goto hC 7 dX6_over_62 (by decide) ?_
        exact hr3 _
      · refine m_aload_n hC dX6_over_25 0 rfl ?_
        refine m_get hC iX6_over_X6 (wm_0 y g S1) rfl 22 (by decide) (List.mem_of_getElem? (i := 4) rfl) rfl rfl dX6_over_26 ?_
        refine m_iload_n hC dX6_over_29 3 rfl ?_
        refine m_iald hC (wm_9 y g S1) (t0 := 0) rfl dX6_over_30 ?_
        intro x6
        refine m_iload_n hC dX6_over_31 2 rfl ?_
        refine m_icmp_gt hC 59 dX6_over_32 (by decide) ?_ ?_
        · refine m_iinc hC (fun x7 => [(0, .ref (g 0)), (1, .int a), (2, .int b), (3, .int x7)]) [1, 2, 3, 0] dX6_over_59 (j := 3) rfl (by decide) (by decide) (fun _ => rfl) (fun _ => rfl) ?_
          intro x7
          refine m_goto hC 7 dX6_over_62 (by decide) ?_
          exact hr3 _
        · refine m_iload_n hC dX6_over_35 2 rfl ?_
          refine m_aload_n hC dX6_over_36 0 rfl ?_
          refine m_get hC iX6_over_X6 (wm_0 y g S1) rfl 22 (by decide) (List.mem_of_getElem? (i := 4) rfl) rfl rfl dX6_over_37 ?_
          refine m_iload_n hC dX6_over_40 3 rfl ?_
          refine m_iald hC (wm_9 y g S1) (t0 := 0) rfl dX6_over_41 ?_
          intro x8
          refine m_aload_n hC dX6_over_42 0 rfl ?_
          refine m_get hC iX6_over_X6 (wm_0 y g S1) rfl 1 (by decide) (List.mem_of_getElem? (i := 5) rfl) rfl rfl dX6_over_43 ?_
          refine m_aload_n hC dX6_over_46 0 rfl ?_
          refine m_get hC iX6_over_X6 (wm_0 y g S1) rfl 20 (by decide) (List.mem_of_getElem? (i := 6) rfl) rfl rfl dX6_over_47 ?_
          refine m_iload_n hC dX6_over_50 3 rfl ?_
          refine m_iald hC (wm_7 y g S1) (t0 := 0) rfl dX6_over_51 ?_
          intro x9
          refine m_iald hC (wm_1 y g S1) (t0 := 0) rfl dX6_over_52 ?_
          intro x10
          refine m_iadd hC dX6_over_53 ?_
          refine m_icmp_ge hC 59 dX6_over_54 (by decide) ?_ ?_
          · refine m_iinc hC (fun x11 => [(0, .ref (g 0)), (1, .int a), (2, .int b), (3, .int x11)]) [1, 2, 3, 0] dX6_over_59 (j := 3) rfl (by decide) (by decide) (fun _ => rfl) (fun _ => rfl) ?_
            intro x11
            refine m_goto hC 7 dX6_over_62 (by decide) ?_
            exact hr3 _
          · refine m_iload_n hC dX6_over_57 3 rfl ?_
            exact hret _ _ _ _ dX6_over_58
def fX6_plan_L324 (x16 : Int32) (r22 : Int32 → St → Option (Int32 × St)) : Int32 → St → Option (Int32 × St) := fun x20 S21 =>
  if x20 < 40 then
    ldI 40 (S21.1 5) x20 fun x23 =>
    stI S21 6 40 x20 x23 fun S24 =>
    nmI (x20 + 1) fun x25 =>
    r22 x25 S24
  else
    some (x16, S21)
def fX6_plan_L84 (N : Nat) (x10 : Int32) (x11 : Int32) (x12 : Int32) (S13 : St) (K29 : Int32 → Option (Int32 × St)) (r28 : Int32 → Option (Int32 × St)) : Int32 → Option (Int32 × St) := fun x27 =>
  if x27 < (S13.1 0 0) then
    caP (fX6_can N x27 x10 x11 x12 S13) fun x66 =>
    if x66 = 0 then
      nmI (x27 + 1) fun x67 =>
      r28 x67
    else
      K29 x27
  else
    K29 x27
def fX6_plan_L64 (N : Nat) (K15 : Int32 → St → Option (Int32 × St)) (r14 : Int32 → Int32 → Int32 → St → Option (Int32 × St)) : Int32 → Int32 → Int32 → St → Option (Int32 × St) := fun x10 x11 x12 S13 =>
  if x10 < 0 then
    K15 x10 S13
  else
    if x11 < (S13.1 0 12) then
      ldI 150 (S13.1 14) x10 fun x26 =>
      itN (fun _ => none) (fX6_plan_L84 N x10 x11 x12 S13 (fun (x30 : Int32) =>
          if x30 = (S13.1 0 0) then
            nmI (x10 + (-1)) fun x58 =>
            if x58 < 0 then
              r14 x58 x11 x12 S13
            else
              ldI 150 (S13.1 7) x58 fun x59 =>
              ldI 8 (S13.1 13) x59 fun x60 =>
              stI S13 13 8 x59 (x60 - 1) fun S61 =>
              ldI 150 (S61.1 8) x58 fun x62 =>
              ldI 150 (S61.1 9) x58 fun x63 =>
              ldI 150 (S61.1 7) x58 fun x64 =>
              stI S61 14 150 x58 (x64 + 1) fun S65 =>
              r14 x58 x62 x63 S65
          else
            if (S13.1 0 26) = 20000 then
              some ((-2), S13)
            else
              pfI S13 0 26 ((S13.1 0 26) + 1) fun S31 =>
              stI S31 7 150 x10 x30 fun S32 =>
              stI S32 8 150 x10 x11 fun S33 =>
              stI S33 9 150 x10 x12 fun S34 =>
              ldI 8 (S34.1 1) x30 fun x35 =>
              if (x12 + x35) = (S34.1 0 11) then
                caP (fX6_isFull N x11 (x10 + 1) S34) fun x46 =>
                if x46 = 0 then
                  stI S34 14 150 x10 (x30 + 1) fun S57 =>
                  r14 x10 x11 x12 S57
                else
                  ldI 8 (S34.1 13) x30 fun x47 =>
                  stI S34 13 8 x30 (x47 + 1) fun S48 =>
                  ldI 8 (S48.1 1) x30 fun x49 =>
                  nmI (x12 + x49) fun x50 =>
                  jn (fun (x51 : Int32) (x52 : Int32) =>
                      nmI (x10 + 1) fun x54 =>
                      stI S48 14 150 x54 0 fun S55 =>
                      r14 x54 x51 x52 S55) fun J53 =>
                  if x50 = (S48.1 0 11) then
                    nmI (x11 + 1) fun x56 =>
                    J53 x56 0
                  else
                    J53 x11 x50
              else
                ldI 8 (S34.1 13) x30 fun x36 =>
                stI S34 13 8 x30 (x36 + 1) fun S37 =>
                ldI 8 (S37.1 1) x30 fun x38 =>
                nmI (x12 + x38) fun x39 =>
                jn (fun (x40 : Int32) (x41 : Int32) =>
                    nmI (x10 + 1) fun x43 =>
                    stI S37 14 150 x43 0 fun S44 =>
                    r14 x43 x40 x41 S44) fun J42 =>
                if x39 = (S37.1 0 11) then
                  nmI (x11 + 1) fun x45 =>
                  J42 x45 0
                else
                  J42 x11 x39)) N x26
    else
      K15 x10 S13
def fX6_plan_L32 (K7 : St → Option (Int32 × St)) (r6 : Int32 → St → Option (Int32 × St)) : Int32 → St → Option (Int32 × St) := fun x4 S5 =>
  if x4 < 8 then
    stI S5 13 8 x4 0 fun S68 =>
    nmI (x4 + 1) fun x69 =>
    r6 x69 S68
  else
    K7 S5
def fX6_plan (N : Nat) (S : St) : Option (Int32 × St) :=
  pfI S 0 28 0 fun S1 =>
  if (S1.1 0 18) = 0 then
    if (S1.1 0 8) = 0 then
      some ((-1), S1)
    else
      caV (fX6_noPlan S1) fun S2 =>
      pfI S2 0 26 0 fun S3 =>
      itN (fun _ _ => none) (fX6_plan_L32 (fun (S8 : St) =>
          stI S8 14 150 0 0 fun S9 =>
          itN (fun _ _ _ _ => none) (fX6_plan_L64 N (fun (x16 : Int32) (S17 : St) =>
              if x16 < 0 then
                some (0, S17)
              else
                pfI S17 0 17 1 fun S18 =>
                pfI S18 0 19 x16 fun S19 =>
                itN (fun _ _ => none) (fX6_plan_L324 x16) N 0 S19)) N 0 0 0 S9)) N 0 S3
  else
    some ((-1), S1)
abbrev rmX6_plan : Room := { frames := 2, cells := 0, slots := 0, locals := 49 }
theorem iX6_plan_X6 : ∀ w ∈ wsX60, w ∈ wsX6_plan := fun w h => List.mem_cons_of_mem _ (List.mem_append_right _ h)
set_option maxHeartbeats 4000000 in
set_option maxRecDepth 100000 in
theorem kX6_plan (l : Launch) (D : va_G) (y : Cy) (g : Nat → Nat) (N : Nat) (S : St) (x0 : Int32 × St) (h : fX6_plan N S = some x0) : KI l yX6_plan wsX6_plan rmX6_plan D vwCl (tz y) (wm y g) (AM g) [.ref (g 0)] S (fun r S2 => (r, S2) = x0) := by
  refine m_entryI (wm_ok y g) (by decide) rfl (Nat.le_of_ble_eq_true rfl) (lv := [(0, .ref (g 0))]) rfl h ?_
  intro p e s m args below meth c hC hr hlocks
  obtain ⟨Q, hQ⟩ : ∃ Q, Q = (MQ below (va_Qi (fun r S2 => (r, S2) = x0) (Bw D vwCl (tz y) (wm y g) (AM g s.heap.size)) (AM g s.heap.size)) args s 0 0 (AM g s.heap.size)) := ⟨_, rfl⟩
  rw [← hQ]
  have hret : ∀ (v : Int32) (S2 : St) (pc : Nat) (lv : List (Nat × Value)), decode cX6_plan pc = .ok (.ireturn, 1) → Sm p l e (headSpec wsX6_plan rmX6_plan).room s m args below meth c D vwCl (wm y g) (AM g s.heap.size) 5 Q x0 (some (v, S2)) S2 pc lv [.int v] := by
    rw [hQ]
    exact fun v S2 pc lv hd => m_iret hC hr hlocks hd
  clear hQ
  unfold fX6_plan
  refine m_aload_n hC dX6_plan_0 0 rfl ?_
  refine m_iconst hC (0) dX6_plan_1 (by decide) ?_
  refine m_putI (ty := .int) hC iX6_plan_X6 tyX6 tyX6_ok nmX6 (wm_0 y g S) rfl 28 (by decide) (List.mem_of_getElem? (i := 1) rfl) rfl rfl (by decide +kernel) rfl rfl (Nat.le_of_ble_eq_true rfl) dX6_plan_2 (wmf_0_28 y g S _) ?_
  intro S1
  refine m_aload_n hC dX6_plan_5 0 rfl ?_
  refine m_get hC iX6_plan_X6 (wm_0 y g S1) rfl 18 (by decide) (List.mem_of_getElem? (i := 2) rfl) rfl rfl dX6_plan_6 ?_
  refine m_if_ne hC 19 dX6_plan_9 (by decide) ?_ ?_
  · refine m_iconst hC (-1) dX6_plan_19 (by decide) ?_
    exact hret _ _ _ _ dX6_plan_20
  · refine m_aload_n hC dX6_plan_12 0 rfl ?_
    refine m_get hC iX6_plan_X6 (wm_0 y g S1) rfl 8 (by decide) (List.mem_of_getElem? (i := 3) rfl) rfl rfl dX6_plan_13 ?_
    refine m_if_ne hC 21 dX6_plan_16 (by decide) ?_ ?_
    · refine m_aload_n hC dX6_plan_21 0 rfl ?_
      refine m_cVV hC (As := []) (wm_ok y g) (cwV 0 hC.1.2.2.2.2 gX6_plan_X6_noPlan rfl rfl rfl (by decide +kernel) ⟨Nat.le_of_ble_eq_true rfl, Nat.le_of_ble_eq_true rfl⟩) (wm_0 y g S1) rfl (fun xq hq => kX6_noPlan l D y g S1 xq hq) rfl (Nat.le_of_ble_eq_true rfl) dX6_plan_22 ?_
      intro S2
      refine m_aload_n hC dX6_plan_25 0 rfl ?_
      refine m_iconst hC (0) dX6_plan_26 (by decide) ?_
      refine m_putI (ty := .int) hC iX6_plan_X6 tyX6 tyX6_ok nmX6 (wm_0 y g S2) rfl 26 (by decide) (List.mem_of_getElem? (i := 4) rfl) rfl rfl (by decide +kernel) rfl rfl (Nat.le_of_ble_eq_true rfl) dX6_plan_27 (wmf_0_26 y g S2 _) ?_
      intro S3
      refine m_iconst hC (0) dX6_plan_30 (by decide) ?_
      refine m_istore_n hC [(0, .ref (g 0)), (1, .int 0)] [1, 0] dX6_plan_31 (by decide) rfl rfl ?_
      refine (m_itK (z := (fun _ _ => none)) (F := fX6_plan_L32) N (fun K7 => ∀ (S8 : St), Sm p l e (headSpec wsX6_plan rmX6_plan).room s m args below meth c D vwCl (wm y g) (AM g s.heap.size) 5 Q x0 (K7 S8) S8 51 [(0, .ref (g 0))] []) (fun r6 => ∀ (x4 : Int32) (S5 : St), Sm p l e (headSpec wsX6_plan rmX6_plan).room s m args below meth c D vwCl (wm y g) (AM g s.heap.size) 5 Q x0 (r6 x4 S5) S5 32 [(0, .ref (g 0)), (1, .int x4)] []) ?_ ?_ ?_) 0 S3
      · exact fun _ _ => m_none
      · intro S8
        refine m_iconst hC (0) dX6_plan_51 (by decide) ?_
        refine m_istore_n hC [(0, .ref (g 0)), (1, .int 0)] [1, 0] dX6_plan_52 (by decide) rfl rfl ?_
        refine m_iconst hC (0) dX6_plan_53 (by decide) ?_
        refine m_istore_n hC [(0, .ref (g 0)), (1, .int 0), (2, .int 0)] [1, 2, 0] dX6_plan_54 (by decide) rfl rfl ?_
        refine m_iconst hC (0) dX6_plan_55 (by decide) ?_
        refine m_istore_n hC [(0, .ref (g 0)), (1, .int 0), (2, .int 0), (3, .int 0)] [1, 2, 3, 0] dX6_plan_56 (by decide) rfl rfl ?_
        refine m_aload_n hC dX6_plan_57 0 rfl ?_
        refine m_get hC iX6_plan_X6 (wm_0 y g S8) rfl 30 (by decide) (List.mem_of_getElem? (i := 6) rfl) rfl rfl dX6_plan_58 ?_
        refine m_iconst hC (0) dX6_plan_61 (by decide) ?_
        refine m_iconst hC (0) dX6_plan_62 (by decide) ?_
        refine m_iast hC (wm_14 y g S8) (t0 := 0) rfl (wms_14 y g S8) dX6_plan_63 ?_
        intro S9
        refine (m_itK (z := (fun _ _ _ _ => none)) (F := fX6_plan_L64 N) N (fun K15 => ∀ (x16 : Int32) (S17 : St), Sm p l e (headSpec wsX6_plan rmX6_plan).room s m args below meth c D vwCl (wm y g) (AM g s.heap.size) 5 Q x0 (K15 x16 S17) S17 305 [(0, .ref (g 0)), (1, .int x16)] []) (fun r14 => ∀ (x10 : Int32) (x11 : Int32) (x12 : Int32) (S13 : St), Sm p l e (headSpec wsX6_plan rmX6_plan).room s m args below meth c D vwCl (wm y g) (AM g s.heap.size) 5 Q x0 (r14 x10 x11 x12 S13) S13 64 [(0, .ref (g 0)), (1, .int x10), (2, .int x11), (3, .int x12)] []) ?_ ?_ ?_) 0 0 0 S9
        · exact fun _ _ _ _ => m_none
        · intro x16 S17
          refine m_iload_n hC dX6_plan_305 1 rfl ?_
          refine m_if_ge hC 311 dX6_plan_306 (by decide) ?_ ?_
          · refine m_aload_n hC dX6_plan_311 0 rfl ?_
            refine m_iconst hC (1) dX6_plan_312 (by decide) ?_
            refine m_putI (ty := .boolean) hC iX6_plan_X6 tyX6 tyX6_ok nmX6 (wm_0 y g S17) rfl 17 (by decide) (List.mem_of_getElem? (i := 14) rfl) rfl rfl (by decide +kernel) rfl rfl (Nat.le_of_ble_eq_true rfl) dX6_plan_313 (wmf_0_17 y g S17 _) ?_
            intro S18
            refine m_aload_n hC dX6_plan_316 0 rfl ?_
            refine m_iload_n hC dX6_plan_317 1 rfl ?_
            refine m_putI (ty := .int) hC iX6_plan_X6 tyX6 tyX6_ok nmX6 (wm_0 y g S18) rfl 19 (by decide) (List.mem_of_getElem? (i := 15) rfl) rfl rfl (by decide +kernel) rfl rfl (Nat.le_of_ble_eq_true rfl) dX6_plan_318 (wmf_0_19 y g S18 _) ?_
            intro S19
            refine m_iconst hC (0) dX6_plan_321 (by decide) ?_
            refine m_istore hC [(0, .ref (g 0)), (1, .int x16), (4, .int 0)] [1, 2, 0] dX6_plan_322 (by decide) rfl rfl ?_
            refine (m_it (z := (fun _ _ => none)) (F := fX6_plan_L324 x16) N (fun r22 => ∀ (x20 : Int32) (S21 : St), Sm p l e (headSpec wsX6_plan rmX6_plan).room s m args below meth c D vwCl (wm y g) (AM g s.heap.size) 5 Q x0 (r22 x20 S21) S21 324 [(0, .ref (g 0)), (1, .int x16), (4, .int x20)] []) ?_ ?_) 0 S19
            · exact fun _ _ => m_none
            · intro r22 hr22 x20 S21
              unfold fX6_plan_L324
              refine m_iload hC dX6_plan_324 2 rfl ?_
              refine m_bipush hC (40) dX6_plan_326 (by decide) ?_
              refine m_icmp_ge hC 351 dX6_plan_328 (by decide) ?_ ?_
              · refine m_iload_n hC dX6_plan_351 1 rfl ?_
                exact hret _ _ _ _ dX6_plan_352
              · refine m_aload_n hC dX6_plan_331 0 rfl ?_
                refine m_get hC iX6_plan_X6 (wm_0 y g S21) rfl 7 (by decide) (List.mem_of_getElem? (i := 16) rfl) rfl rfl dX6_plan_332 ?_
                refine m_iload hC dX6_plan_335 2 rfl ?_
                refine m_aload_n hC dX6_plan_337 0 rfl ?_
                refine m_get hC iX6_plan_X6 (wm_0 y g S21) rfl 6 (by decide) (List.mem_of_getElem? (i := 17) rfl) rfl rfl dX6_plan_338 ?_
                refine m_iload hC dX6_plan_341 2 rfl ?_
                refine m_iald hC (wm_5 y g S21) (t0 := 0) rfl dX6_plan_343 ?_
                intro x23
                refine m_iast hC (wm_6 y g S21) (t0 := 0) rfl (wms_6 y g S21) dX6_plan_344 ?_
                intro S24
                refine m_iinc hC (fun x25 => [(0, .ref (g 0)), (1, .int x16), (4, .int x25)]) [1, 2, 0] dX6_plan_345 (j := 2) rfl (by decide) (by decide) (fun _ => rfl) (fun _ => rfl) ?_
                intro x25
                refine m_goto hC 324 dX6_plan_348 (by decide) ?_
                exact hr22 _ _
          · refine m_iconst hC (0) dX6_plan_309 (by decide) ?_
            exact hret _ _ _ _ dX6_plan_310
        · intro K15 hK15 r14 hr14 x10 x11 x12 S13
          unfold fX6_plan_L64
          refine m_iload_n hC dX6_plan_64 1 rfl ?_
          refine m_if_lt hC 305 dX6_plan_65 (by decide) ?_ ?_
          · refine m_lv [(0, .ref (g 0)), (1, .int x10)] [0, 1] rfl ?_
            exact hK15 _ _
          · refine m_iload_n hC dX6_plan_68 2 rfl ?_
            refine m_aload_n hC dX6_plan_69 0 rfl ?_
            refine m_get hC iX6_plan_X6 (wm_0 y g S13) rfl 12 (by decide) (List.mem_of_getElem? (i := 7) rfl) rfl rfl dX6_plan_70 ?_
            refine m_icmp_ge hC 305 dX6_plan_73 (by decide) ?_ ?_
            · refine m_lv [(0, .ref (g 0)), (1, .int x10)] [0, 1] rfl ?_
              exact hK15 _ _
            · refine m_aload_n hC dX6_plan_76 0 rfl ?_
              refine m_get hC iX6_plan_X6 (wm_0 y g S13) rfl 30 (by decide) (List.mem_of_getElem? (i := 6) rfl) rfl rfl dX6_plan_77 ?_
              refine m_iload_n hC dX6_plan_80 1 rfl ?_
              refine m_iald hC (wm_14 y g S13) (t0 := 0) rfl dX6_plan_81 ?_
              intro x26
              refine m_istore hC [(0, .ref (g 0)), (1, .int x10), (2, .int x11), (3, .int x12), (4, .int x26)] [1, 2, 3, 4, 0] dX6_plan_82 (by decide) rfl rfl ?_
              refine (m_itK (z := (fun _ => none)) (F := fX6_plan_L84 N x10 x11 x12 S13) N (fun K29 => ∀ (x30 : Int32), Sm p l e (headSpec wsX6_plan rmX6_plan).room s m args below meth c D vwCl (wm y g) (AM g s.heap.size) 5 Q x0 (K29 x30) S13 111 [(0, .ref (g 0)), (1, .int x10), (2, .int x11), (3, .int x12), (4, .int x30)] []) (fun r28 => ∀ (x27 : Int32), Sm p l e (headSpec wsX6_plan rmX6_plan).room s m args below meth c D vwCl (wm y g) (AM g s.heap.size) 5 Q x0 (r28 x27) S13 84 [(0, .ref (g 0)), (1, .int x10), (2, .int x11), (3, .int x12), (4, .int x27)] []) ?_ ?_ ?_) x26
              · exact fun _ => m_none
              · intro x30
                refine m_iload hC dX6_plan_111 4 rfl ?_
                refine m_aload_n hC dX6_plan_113 0 rfl ?_
                refine m_get hC iX6_plan_X6 (wm_0 y g S13) rfl 0 (by decide) (List.mem_of_getElem? (i := 8) rfl) rfl rfl dX6_plan_114 ?_
                refine m_icmp_ne hC 173 dX6_plan_117 (by decide) ?_ ?_
                · refine m_aload_n hC dX6_plan_173 0 rfl ?_
                  refine m_get hC iX6_plan_X6 (wm_0 y g S13) rfl 26 (by decide) (List.mem_of_getElem? (i := 4) rfl) rfl rfl dX6_plan_174 ?_
                  refine m_sipush hC (20000) dX6_plan_177 (by decide) ?_
                  refine m_icmp_ne hC 186 dX6_plan_180 (by decide) ?_ ?_
                  · refine m_aload_n hC dX6_plan_186 0 rfl ?_
                    refine m_dup hC dX6_plan_187 rfl ?_
                    refine m_get hC iX6_plan_X6 (wm_0 y g S13) rfl 26 (by decide) (List.mem_of_getElem? (i := 4) rfl) rfl rfl dX6_plan_188 ?_
                    refine m_iconst hC (1) dX6_plan_191 (by decide) ?_
                    refine m_iadd hC dX6_plan_192 ?_
                    refine m_putI (ty := .int) hC iX6_plan_X6 tyX6 tyX6_ok nmX6 (wm_0 y g S13) rfl 26 (by decide) (List.mem_of_getElem? (i := 4) rfl) rfl rfl (by decide +kernel) rfl rfl (Nat.le_of_ble_eq_true rfl) dX6_plan_193 (wmf_0_26 y g S13 _) ?_
                    intro S31
                    refine m_aload_n hC dX6_plan_196 0 rfl ?_
                    refine m_get hC iX6_plan_X6 (wm_0 y g S31) rfl 20 (by decide) (List.mem_of_getElem? (i := 9) rfl) rfl rfl dX6_plan_197 ?_
                    refine m_iload_n hC dX6_plan_200 1 rfl ?_
                    refine m_iload hC dX6_plan_201 4 rfl ?_
                    refine m_iast hC (wm_7 y g S31) (t0 := 0) rfl (wms_7 y g S31) dX6_plan_203 ?_
                    intro S32
                    refine m_aload_n hC dX6_plan_204 0 rfl ?_
                    refine m_get hC iX6_plan_X6 (wm_0 y g S32) rfl 21 (by decide) (List.mem_of_getElem? (i := 10) rfl) rfl rfl dX6_plan_205 ?_
                    refine m_iload_n hC dX6_plan_208 1 rfl ?_
                    refine m_iload_n hC dX6_plan_209 2 rfl ?_
                    refine m_iast hC (wm_8 y g S32) (t0 := 0) rfl (wms_8 y g S32) dX6_plan_210 ?_
                    intro S33
                    refine m_aload_n hC dX6_plan_211 0 rfl ?_
                    refine m_get hC iX6_plan_X6 (wm_0 y g S33) rfl 22 (by decide) (List.mem_of_getElem? (i := 11) rfl) rfl rfl dX6_plan_212 ?_
                    refine m_iload_n hC dX6_plan_215 1 rfl ?_
                    refine m_iload_n hC dX6_plan_216 3 rfl ?_
                    refine m_iast hC (wm_9 y g S33) (t0 := 0) rfl (wms_9 y g S33) dX6_plan_217 ?_
                    intro S34
                    refine m_iload_n hC dX6_plan_218 3 rfl ?_
                    refine m_aload_n hC dX6_plan_219 0 rfl ?_
                    refine m_get hC iX6_plan_X6 (wm_0 y g S34) rfl 1 (by decide) (List.mem_of_getElem? (i := 12) rfl) rfl rfl dX6_plan_220 ?_
                    refine m_iload hC dX6_plan_223 4 rfl ?_
                    refine m_iald hC (wm_1 y g S34) (t0 := 0) rfl dX6_plan_225 ?_
                    intro x35
                    refine m_iadd hC dX6_plan_226 ?_
                    refine m_aload_n hC dX6_plan_227 0 rfl ?_
                    refine m_get hC iX6_plan_X6 (wm_0 y g S34) rfl 11 (by decide) (List.mem_of_getElem? (i := 13) rfl) rfl rfl dX6_plan_228 ?_
                    refine m_icmp_ne hC 258 dX6_plan_231 (by decide) ?_ ?_
                    · refine m_aload_n hC dX6_plan_258 0 rfl ?_
                      refine m_get hC iX6_plan_X6 (wm_0 y g S34) rfl 29 (by decide) (List.mem_of_getElem? (i := 5) rfl) rfl rfl dX6_plan_259 ?_
                      refine m_iload hC dX6_plan_262 4 rfl ?_
                      refine m_dup2 hC dX6_plan_264 rfl rfl ?_
                      refine m_iald hC (wm_13 y g S34) (t0 := 0) rfl dX6_plan_265 ?_
                      intro x36
                      refine m_iconst hC (1) dX6_plan_266 (by decide) ?_
                      refine m_iadd hC dX6_plan_267 ?_
                      refine m_iast hC (wm_13 y g S34) (t0 := 0) rfl (wms_13 y g S34) dX6_plan_268 ?_
                      intro S37
                      refine m_iload_n hC dX6_plan_269 3 rfl ?_
                      refine m_aload_n hC dX6_plan_270 0 rfl ?_
                      refine m_get hC iX6_plan_X6 (wm_0 y g S37) rfl 1 (by decide) (List.mem_of_getElem? (i := 12) rfl) rfl rfl dX6_plan_271 ?_
                      refine m_iload hC dX6_plan_274 4 rfl ?_
                      refine m_iald hC (wm_1 y g S37) (t0 := 0) rfl dX6_plan_276 ?_
                      intro x38
                      refine m_iadd hC dX6_plan_277 ?_
                      refine m_nmI ?_
                      intro x39
                      refine m_istore_n hC [(0, .ref (g 0)), (1, .int x10), (2, .int x11), (3, .int x39), (4, .int x30)] [1, 2, 3, 0, 4] dX6_plan_278 (by decide) rfl rfl ?_
                      refine m_iload_n hC dX6_plan_279 3 rfl ?_
                      refine m_aload_n hC dX6_plan_280 0 rfl ?_
                      refine m_get hC iX6_plan_X6 (wm_0 y g S37) rfl 11 (by decide) (List.mem_of_getElem? (i := 13) rfl) rfl rfl dX6_plan_281 ?_
                      refine m_jn (fun J42 => ∀ (x40 : Int32) (x41 : Int32), Sm p l e (headSpec wsX6_plan rmX6_plan).room s m args below meth c D vwCl (wm y g) (AM g s.heap.size) 5 Q x0 (J42 x40 x41) S37 292 [(0, .ref (g 0)), (1, .int x10), (2, .int x40), (3, .int x41)] []) ?_ (fun J42 hJ42 => ?_)
                      · intro x40 x41
                        refine m_iinc hC (fun x43 => [(0, .ref (g 0)), (1, .int x43), (2, .int x40), (3, .int x41)]) [1, 0, 2, 3] dX6_plan_292 (j := 1) rfl (by decide) (by decide) (fun _ => rfl) (fun _ => rfl) ?_
                        intro x43
                        refine m_aload_n hC dX6_plan_295 0 rfl ?_
                        refine m_get hC iX6_plan_X6 (wm_0 y g S37) rfl 30 (by decide) (List.mem_of_getElem? (i := 6) rfl) rfl rfl dX6_plan_296 ?_
                        refine m_iload_n hC dX6_plan_299 1 rfl ?_
                        refine m_iconst hC (0) dX6_plan_300 (by decide) ?_
                        refine m_iast hC (wm_14 y g S37) (t0 := 0) rfl (wms_14 y g S37) dX6_plan_301 ?_
                        intro S44
                        refine m_goto hC 64 dX6_plan_302 (by decide) ?_
                        exact hr14 _ _ _ _
                      · refine m_icmp_ne hC 292 dX6_plan_284 (by decide) ?_ ?_
                        · refine m_lv [(0, .ref (g 0)), (1, .int x10), (2, .int x11), (3, .int x39)] [0, 1, 2, 3] rfl ?_
                          exact hJ42 _ _
                        · refine m_iinc hC (fun x45 => [(0, .ref (g 0)), (1, .int x10), (2, .int x45), (3, .int x39), (4, .int x30)]) [1, 2, 0, 3, 4] dX6_plan_287 (j := 2) rfl (by decide) (by decide) (fun _ => rfl) (fun _ => rfl) ?_
                          intro x45
                          refine m_iconst hC (0) dX6_plan_290 (by decide) ?_
                          refine m_istore_n hC [(0, .ref (g 0)), (1, .int x10), (2, .int x45), (3, .int 0), (4, .int x30)] [1, 2, 3, 0, 4] dX6_plan_291 (by decide) rfl rfl ?_
                          refine m_lv [(0, .ref (g 0)), (1, .int x10), (2, .int x45), (3, .int 0)] [0, 1, 2, 3] rfl ?_
                          exact hJ42 _ _
                    · refine m_aload_n hC dX6_plan_234 0 rfl ?_
                      refine m_iload_n hC dX6_plan_235 2 rfl ?_
                      refine m_iload_n hC dX6_plan_236 1 rfl ?_
                      refine m_iconst hC (1) dX6_plan_237 (by decide) ?_
                      refine m_iadd hC dX6_plan_238 ?_
                      refine m_cIPV hC (As := [.int x11, .int (x10 + 1)]) (wm_ok y g) (cwV 2 hC.1.2.2.2.2 gX6_plan_X6_isFull rfl rfl rfl (by decide +kernel) ⟨Nat.le_of_ble_eq_true rfl, Nat.le_of_ble_eq_true rfl⟩) (wm_0 y g S34) rfl (fun xq hq => kX6_isFull l D y g N x11 (x10 + 1) S34 xq hq) rfl (Nat.le_of_ble_eq_true rfl) dX6_plan_239 ?_
                      intro x46
                      refine m_if_ne hC 258 dX6_plan_242 (by decide) ?_ ?_
                      · refine m_aload_n hC dX6_plan_258 0 rfl ?_
                        refine m_get hC iX6_plan_X6 (wm_0 y g S34) rfl 29 (by decide) (List.mem_of_getElem? (i := 5) rfl) rfl rfl dX6_plan_259 ?_
                        refine m_iload hC dX6_plan_262 4 rfl ?_
                        refine m_dup2 hC dX6_plan_264 rfl rfl ?_
                        refine m_iald hC (wm_13 y g S34) (t0 := 0) rfl dX6_plan_265 ?_
                        intro x47
                        refine m_iconst hC (1) dX6_plan_266 (by decide) ?_
                        refine m_iadd hC dX6_plan_267 ?_
                        refine m_iast hC (wm_13 y g S34) (t0 := 0) rfl (wms_13 y g S34) dX6_plan_268 ?_
                        intro S48
                        refine m_iload_n hC dX6_plan_269 3 rfl ?_
                        refine m_aload_n hC dX6_plan_270 0 rfl ?_
                        refine m_get hC iX6_plan_X6 (wm_0 y g S48) rfl 1 (by decide) (List.mem_of_getElem? (i := 12) rfl) rfl rfl dX6_plan_271 ?_
                        refine m_iload hC dX6_plan_274 4 rfl ?_
                        refine m_iald hC (wm_1 y g S48) (t0 := 0) rfl dX6_plan_276 ?_
                        intro x49
                        refine m_iadd hC dX6_plan_277 ?_
                        refine m_nmI ?_
                        intro x50
                        refine m_istore_n hC [(0, .ref (g 0)), (1, .int x10), (2, .int x11), (3, .int x50), (4, .int x30)] [1, 2, 3, 0, 4] dX6_plan_278 (by decide) rfl rfl ?_
                        refine m_iload_n hC dX6_plan_279 3 rfl ?_
                        refine m_aload_n hC dX6_plan_280 0 rfl ?_
                        refine m_get hC iX6_plan_X6 (wm_0 y g S48) rfl 11 (by decide) (List.mem_of_getElem? (i := 13) rfl) rfl rfl dX6_plan_281 ?_
                        refine m_jn (fun J53 => ∀ (x51 : Int32) (x52 : Int32), Sm p l e (headSpec wsX6_plan rmX6_plan).room s m args below meth c D vwCl (wm y g) (AM g s.heap.size) 5 Q x0 (J53 x51 x52) S48 292 [(0, .ref (g 0)), (1, .int x10), (2, .int x51), (3, .int x52)] []) ?_ (fun J53 hJ53 => ?_)
                        · intro x51 x52
                          refine m_iinc hC (fun x54 => [(0, .ref (g 0)), (1, .int x54), (2, .int x51), (3, .int x52)]) [1, 0, 2, 3] dX6_plan_292 (j := 1) rfl (by decide) (by decide) (fun _ => rfl) (fun _ => rfl) ?_
                          intro x54
                          refine m_aload_n hC dX6_plan_295 0 rfl ?_
                          refine m_get hC iX6_plan_X6 (wm_0 y g S48) rfl 30 (by decide) (List.mem_of_getElem? (i := 6) rfl) rfl rfl dX6_plan_296 ?_
                          refine m_iload_n hC dX6_plan_299 1 rfl ?_
                          refine m_iconst hC (0) dX6_plan_300 (by decide) ?_
                          refine m_iast hC (wm_14 y g S48) (t0 := 0) rfl (wms_14 y g S48) dX6_plan_301 ?_
                          intro S55
                          refine m_goto hC 64 dX6_plan_302 (by decide) ?_
                          exact hr14 _ _ _ _
                        · refine m_icmp_ne hC 292 dX6_plan_284 (by decide) ?_ ?_
                          · refine m_lv [(0, .ref (g 0)), (1, .int x10), (2, .int x11), (3, .int x50)] [0, 1, 2, 3] rfl ?_
                            exact hJ53 _ _
                          · refine m_iinc hC (fun x56 => [(0, .ref (g 0)), (1, .int x10), (2, .int x56), (3, .int x50), (4, .int x30)]) [1, 2, 0, 3, 4] dX6_plan_287 (j := 2) rfl (by decide) (by decide) (fun _ => rfl) (fun _ => rfl) ?_
                            intro x56
                            refine m_iconst hC (0) dX6_plan_290 (by decide) ?_
                            refine m_istore_n hC [(0, .ref (g 0)), (1, .int x10), (2, .int x56), (3, .int 0), (4, .int x30)] [1, 2, 3, 0, 4] dX6_plan_291 (by decide) rfl rfl ?_
                            refine m_lv [(0, .ref (g 0)), (1, .int x10), (2, .int x56), (3, .int 0)] [0, 1, 2, 3] rfl ?_
                            exact hJ53 _ _
                      · refine m_aload_n hC dX6_plan_245 0 rfl ?_
                        refine m_get hC iX6_plan_X6 (wm_0 y g S34) rfl 30 (by decide) (List.mem_of_getElem? (i := 6) rfl) rfl rfl dX6_plan_246 ?_
                        refine m_iload_n hC dX6_plan_249 1 rfl ?_
                        refine m_iload hC dX6_plan_250 4 rfl ?_
                        refine m_iconst hC (1) dX6_plan_252 (by decide) ?_
                        refine m_iadd hC dX6_plan_253 ?_
                        refine m_iast hC (wm_14 y g S34) (t0 := 0) rfl (wms_14 y g S34) dX6_plan_254 ?_
                        intro S57
                        refine m_goto hC 64 dX6_plan_255 (by decide) ?_
                        refine m_lv [(0, .ref (g 0)), (1, .int x10), (2, .int x11), (3, .int x12)] [0, 1, 2, 3] rfl ?_
                        exact hr14 _ _ _ _
                  · refine m_bipush hC (-2) dX6_plan_183 (by decide) ?_
                    exact hret _ _ _ _ dX6_plan_185
                · refine m_iinc hC (fun x58 => [(0, .ref (g 0)), (1, .int x58), (2, .int x11), (3, .int x12), (4, .int x30)]) [1, 0, 2, 3, 4] dX6_plan_120 (j := 1) rfl (by decide) (by decide) (fun _ => rfl) (fun _ => rfl) ?_
                  intro x58
                  refine m_iload_n hC dX6_plan_123 1 rfl ?_
                  refine m_if_lt hC 64 dX6_plan_124 (by decide) ?_ ?_
                  · refine m_lv [(0, .ref (g 0)), (1, .int x58), (2, .int x11), (3, .int x12)] [0, 1, 2, 3] rfl ?_
                    exact hr14 _ _ _ _
                  · refine m_aload_n hC dX6_plan_127 0 rfl ?_
                    refine m_get hC iX6_plan_X6 (wm_0 y g S13) rfl 29 (by decide) (List.mem_of_getElem? (i := 5) rfl) rfl rfl dX6_plan_128 ?_
                    refine m_aload_n hC dX6_plan_131 0 rfl ?_
                    refine m_get hC iX6_plan_X6 (wm_0 y g S13) rfl 20 (by decide) (List.mem_of_getElem? (i := 9) rfl) rfl rfl dX6_plan_132 ?_
                    refine m_iload_n hC dX6_plan_135 1 rfl ?_
                    refine m_iald hC (wm_7 y g S13) (t0 := 0) rfl dX6_plan_136 ?_
                    intro x59
                    refine m_dup2 hC dX6_plan_137 rfl rfl ?_
                    refine m_iald hC (wm_13 y g S13) (t0 := 0) rfl dX6_plan_138 ?_
                    intro x60
                    refine m_iconst hC (1) dX6_plan_139 (by decide) ?_
                    refine m_isub hC dX6_plan_140 ?_
                    refine m_iast hC (wm_13 y g S13) (t0 := 0) rfl (wms_13 y g S13) dX6_plan_141 ?_
                    intro S61
                    refine m_aload_n hC dX6_plan_142 0 rfl ?_
                    refine m_get hC iX6_plan_X6 (wm_0 y g S61) rfl 21 (by decide) (List.mem_of_getElem? (i := 10) rfl) rfl rfl dX6_plan_143 ?_
                    refine m_iload_n hC dX6_plan_146 1 rfl ?_
                    refine m_iald hC (wm_8 y g S61) (t0 := 0) rfl dX6_plan_147 ?_
                    intro x62
                    refine m_istore_n hC [(0, .ref (g 0)), (1, .int x58), (2, .int x62), (3, .int x12), (4, .int x30)] [1, 2, 0, 3, 4] dX6_plan_148 (by decide) rfl rfl ?_
                    refine m_aload_n hC dX6_plan_149 0 rfl ?_
                    refine m_get hC iX6_plan_X6 (wm_0 y g S61) rfl 22 (by decide) (List.mem_of_getElem? (i := 11) rfl) rfl rfl dX6_plan_150 ?_
                    refine m_iload_n hC dX6_plan_153 1 rfl ?_
                    refine m_iald hC (wm_9 y g S61) (t0 := 0) rfl dX6_plan_154 ?_
                    intro x63
                    refine m_istore_n hC [(0, .ref (g 0)), (1, .int x58), (2, .int x62), (3, .int x63), (4, .int x30)] [1, 2, 3, 0, 4] dX6_plan_155 (by decide) rfl rfl ?_
                    refine m_aload_n hC dX6_plan_156 0 rfl ?_
                    refine m_get hC iX6_plan_X6 (wm_0 y g S61) rfl 30 (by decide) (List.mem_of_getElem? (i := 6) rfl) rfl rfl dX6_plan_157 ?_
                    refine m_iload_n hC dX6_plan_160 1 rfl ?_
                    refine m_aload_n hC dX6_plan_161 0 rfl ?_
                    refine m_get hC iX6_plan_X6 (wm_0 y g S61) rfl 20 (by decide) (List.mem_of_getElem? (i := 9) rfl) rfl rfl dX6_plan_162 ?_
                    refine m_iload_n hC dX6_plan_165 1 rfl ?_
                    refine m_iald hC (wm_7 y g S61) (t0 := 0) rfl dX6_plan_166 ?_
                    intro x64
                    refine m_iconst hC (1) dX6_plan_167 (by decide) ?_
                    refine m_iadd hC dX6_plan_168 ?_
                    refine m_iast hC (wm_14 y g S61) (t0 := 0) rfl (wms_14 y g S61) dX6_plan_169 ?_
                    intro S65
                    refine m_goto hC 64 dX6_plan_170 (by decide) ?_
                    refine m_lv [(0, .ref (g 0)), (1, .int x58), (2, .int x62), (3, .int x63)] [0, 1, 2, 3] rfl ?_
                    exact hr14 _ _ _ _
              · intro K29 hK29 r28 hr28 x27
                unfold fX6_plan_L84
                refine m_iload hC dX6_plan_84 4 rfl ?_
                refine m_aload_n hC dX6_plan_86 0 rfl ?_
                refine m_get hC iX6_plan_X6 (wm_0 y g S13) rfl 0 (by decide) (List.mem_of_getElem? (i := 8) rfl) rfl rfl dX6_plan_87 ?_
                refine m_icmp_ge hC 111 dX6_plan_90 (by decide) ?_ ?_
                · exact hK29 _
                · refine m_aload_n hC dX6_plan_93 0 rfl ?_
                  refine m_iload hC dX6_plan_94 4 rfl ?_
                  refine m_iload_n hC dX6_plan_96 1 rfl ?_
                  refine m_iload_n hC dX6_plan_97 2 rfl ?_
                  refine m_iload_n hC dX6_plan_98 3 rfl ?_
                  refine m_cIPV hC (As := [.int x27, .int x10, .int x11, .int x12]) (wm_ok y g) (cwV 4 hC.1.2.2.2.2 gX6_plan_X6_can rfl rfl rfl (by decide +kernel) ⟨Nat.le_of_ble_eq_true rfl, Nat.le_of_ble_eq_true rfl⟩) (wm_0 y g S13) rfl (fun xq hq => kX6_can l D y g N x27 x10 x11 x12 S13 xq hq) rfl (Nat.le_of_ble_eq_true rfl) dX6_plan_99 ?_
                  intro x66
                  refine m_if_ne hC 111 dX6_plan_102 (by decide) ?_ ?_
                  · exact hK29 _
                  · refine m_iinc hC (fun x67 => [(0, .ref (g 0)), (1, .int x10), (2, .int x11), (3, .int x12), (4, .int x67)]) [1, 2, 3, 4, 0] dX6_plan_105 (j := 4) rfl (by decide) (by decide) (fun _ => rfl) (fun _ => rfl) ?_
                    intro x67
                    refine m_goto hC 84 dX6_plan_108 (by decide) ?_
                    exact hr28 _
      · intro K7 hK7 r6 hr6 x4 S5
        unfold fX6_plan_L32
        refine m_iload_n hC dX6_plan_32 1 rfl ?_
        refine m_bipush hC (8) dX6_plan_33 (by decide) ?_
        refine m_icmp_ge hC 51 dX6_plan_35 (by decide) ?_ ?_
        · refine m_lv [(0, .ref (g 0))] [0] rfl ?_
          exact hK7 _
        · refine m_aload_n hC dX6_plan_38 0 rfl ?_
          refine m_get hC iX6_plan_X6 (wm_0 y g S5) rfl 29 (by decide) (List.mem_of_getElem? (i := 5) rfl) rfl rfl dX6_plan_39 ?_
          refine m_iload_n hC dX6_plan_42 1 rfl ?_
          refine m_iconst hC (0) dX6_plan_43 (by decide) ?_
          refine m_iast hC (wm_13 y g S5) (t0 := 0) rfl (wms_13 y g S5) dX6_plan_44 ?_
          intro S68
          refine m_iinc hC (fun x69 => [(0, .ref (g 0)), (1, .int x69)]) [1, 0] dX6_plan_45 (j := 1) rfl (by decide) (by decide) (fun _ => rfl) (fun _ => rfl) ?_
          intro x69
          refine m_goto hC 32 dX6_plan_48 (by decide) ?_
          exact hr6 _ _
    · refine m_iconst hC (-1) dX6_plan_19 (by decide) ?_
      exact hret _ _ _ _ dX6_plan_20
def fX6_saved (N : Nat) (a : Int32) (b : Int32) (S : St) : Option (Int64 × St) :=
  pfI S 0 28 0 fun S1 =>
  if (S1.1 0 17) = 0 then
    some ((-1), S1)
  else
    if a < 0 then
      some ((-1), S1)
    else
      if a < (S1.1 0 3) then
        if b < 0 then
          some ((-1), S1)
        else
          if b < (S1.1 0 0) then
            caS (fX6_leastOf N b 0 0 S1) fun x2 S3 =>
            caS (fX6_leastOf N b 1 a S3) fun x4 S5 =>
            some (x2 - x4, S5)
          else
            some ((-1), S1)
      else
        some ((-1), S1)
abbrev rmX6_saved : Room := { frames := 4, cells := 0, slots := 0, locals := 98 }
theorem iX6_saved_X6 : ∀ w ∈ wsX60, w ∈ wsX6_saved := fun w h => List.mem_cons_of_mem _ (List.mem_append_right _ h)
set_option maxHeartbeats 4000000 in
set_option maxRecDepth 100000 in
theorem kX6_saved (l : Launch) (D : va_G) (y : Cy) (g : Nat → Nat) (N : Nat) (a : Int32) (b : Int32) (S : St) (x0 : Int64 × St) (h : fX6_saved N a b S = some x0) : KL l yX6_saved wsX6_saved rmX6_saved D vwCl (tz y) (wm y g) (AM g) [.ref (g 0), .int a, .int b] S (fun r S2 => (r, S2) = x0) := by
  refine m_entryL (wm_ok y g) (by decide) rfl (Nat.le_of_ble_eq_true rfl) (lv := [(0, .ref (g 0)), (1, .int a), (2, .int b)]) rfl h ?_
  intro p e s m args below meth c hC hr hlocks
  obtain ⟨Q, hQ⟩ : ∃ Q, Q = (MQ below (va_Ql (fun r S2 => (r, S2) = x0) (Bw D vwCl (tz y) (wm y g) (AM g s.heap.size)) (AM g s.heap.size)) args s 0 0 (AM g s.heap.size)) := ⟨_, rfl⟩
  rw [← hQ]
  have hret : ∀ (v : Int64) (S2 : St) (pc : Nat) (lv : List (Nat × Value)), decode cX6_saved pc = .ok (.lreturn, 1) → Sm p l e (headSpec wsX6_saved rmX6_saved).room s m args below meth c D vwCl (wm y g) (AM g s.heap.size) 3 Q x0 (some (v, S2)) S2 pc lv [.long v] := by
    rw [hQ]
    exact fun v S2 pc lv hd => m_lret hC hr hlocks hd
  clear hQ
  unfold fX6_saved
  refine m_aload_n hC dX6_saved_0 0 rfl ?_
  refine m_iconst hC (0) dX6_saved_1 (by decide) ?_
  refine m_putI (ty := .int) hC iX6_saved_X6 tyX6 tyX6_ok nmX6 (wm_0 y g S) rfl 28 (by decide) (List.mem_of_getElem? (i := 1) rfl) rfl rfl (by decide +kernel) rfl rfl (Nat.le_of_ble_eq_true rfl) dX6_saved_2 (wmf_0_28 y g S _) ?_
  intro S1
  refine m_aload_n hC dX6_saved_5 0 rfl ?_
  refine m_get hC iX6_saved_X6 (wm_0 y g S1) rfl 17 (by decide) (List.mem_of_getElem? (i := 2) rfl) rfl rfl dX6_saved_6 ?_
  refine m_if_eq hC 36 dX6_saved_9 (by decide) ?_ ?_
  · refine m_ldc2 hC (List.mem_of_getElem? (i := 5) rfl) dX6_saved_36 ?_
    exact hret _ _ _ _ dX6_saved_39
  · refine m_iload_n hC dX6_saved_12 1 rfl ?_
    refine m_if_lt hC 36 dX6_saved_13 (by decide) ?_ ?_
    · refine m_ldc2 hC (List.mem_of_getElem? (i := 5) rfl) dX6_saved_36 ?_
      exact hret _ _ _ _ dX6_saved_39
    · refine m_iload_n hC dX6_saved_16 1 rfl ?_
      refine m_aload_n hC dX6_saved_17 0 rfl ?_
      refine m_get hC iX6_saved_X6 (wm_0 y g S1) rfl 3 (by decide) (List.mem_of_getElem? (i := 3) rfl) rfl rfl dX6_saved_18 ?_
      refine m_icmp_ge hC 36 dX6_saved_21 (by decide) ?_ ?_
      · refine m_ldc2 hC (List.mem_of_getElem? (i := 5) rfl) dX6_saved_36 ?_
        exact hret _ _ _ _ dX6_saved_39
      · refine m_iload_n hC dX6_saved_24 2 rfl ?_
        refine m_if_lt hC 36 dX6_saved_25 (by decide) ?_ ?_
        · refine m_ldc2 hC (List.mem_of_getElem? (i := 5) rfl) dX6_saved_36 ?_
          exact hret _ _ _ _ dX6_saved_39
        · refine m_iload_n hC dX6_saved_28 2 rfl ?_
          refine m_aload_n hC dX6_saved_29 0 rfl ?_
          refine m_get hC iX6_saved_X6 (wm_0 y g S1) rfl 0 (by decide) (List.mem_of_getElem? (i := 4) rfl) rfl rfl dX6_saved_30 ?_
          refine m_icmp_lt hC 40 dX6_saved_33 (by decide) ?_ ?_
          · refine m_aload_n hC dX6_saved_40 0 rfl ?_
            refine m_iload_n hC dX6_saved_41 2 rfl ?_
            refine m_iconst hC (0) dX6_saved_42 (by decide) ?_
            refine m_iconst hC (0) dX6_saved_43 (by decide) ?_
            refine m_cLV hC (As := [.int b, .int 0, .int 0]) (wm_ok y g) (cwV 3 hC.1.2.2.2.2 gX6_saved_X6_leastOf rfl rfl rfl (by decide +kernel) ⟨Nat.le_of_ble_eq_true rfl, Nat.le_of_ble_eq_true rfl⟩) (wm_0 y g S1) rfl (fun xq hq => kX6_leastOf l D y g N b 0 0 S1 xq hq) rfl (Nat.le_of_ble_eq_true rfl) dX6_saved_44 ?_
            intro x2 S3
            refine m_aload_n hC dX6_saved_47 0 rfl ?_
            refine m_iload_n hC dX6_saved_48 2 rfl ?_
            refine m_iconst hC (1) dX6_saved_49 (by decide) ?_
            refine m_iload_n hC dX6_saved_50 1 rfl ?_
            refine m_cLV hC (As := [.int b, .int 1, .int a]) (wm_ok y g) (cwV 3 hC.1.2.2.2.2 gX6_saved_X6_leastOf rfl rfl rfl (by decide +kernel) ⟨Nat.le_of_ble_eq_true rfl, Nat.le_of_ble_eq_true rfl⟩) (wm_0 y g S3) rfl (fun xq hq => kX6_leastOf l D y g N b 1 a S3 xq hq) rfl (Nat.le_of_ble_eq_true rfl) dX6_saved_51 ?_
            intro x4 S5
            refine m_lsub hC dX6_saved_54 ?_
            exact hret _ _ _ _ dX6_saved_55
          · refine m_ldc2 hC (List.mem_of_getElem? (i := 5) rfl) dX6_saved_36 ?_
            exact hret _ _ _ _ dX6_saved_39
def fX6_stone (a : Int32) (b : Int32) (S : St) : Option (Int32 × St) :=
  pfI S 0 28 0 fun S1 =>
  if a < 0 then
    caS (fX6_fails 1 S1) fun x2 S3 =>
    some (x2, S3)
  else
    if a < (S1.1 0 19) then
      if b = 0 then
        ldI 150 (S1.1 7) a fun x4 =>
        some (x4, S1)
      else
      if b = 1 then
        ldI 150 (S1.1 8) a fun x5 =>
        some (x5, S1)
      else
      if b = 2 then
        ldI 150 (S1.1 9) a fun x6 =>
        some (x6, S1)
      else
      if b = 3 then
        caP (fX6_hearting a S1) fun x7 =>
        some (x7, S1)
      else
      if b = 4 then
        ldI 150 (S1.1 7) a fun x8 =>
        ldI 8 (S1.1 2) x8 fun x9 =>
        ldI 150 (S1.1 8) a fun x10 =>
        caP (fX6_width x10 S1) fun x11 =>
        if x9 < x11 then
          some (0, S1)
        else
          some (1, S1)
      else
      if b = 5 then
        if (S1.1 0 18) = 0 then
          some (0, S1)
        else
          ldI 150 (S1.1 10) a fun x12 =>
          some (x12, S1)
      else
      if b = 6 then
        if (S1.1 0 18) = 0 then
          some (0, S1)
        else
          ldI 150 (S1.1 11) a fun x13 =>
          if x13 = 0 then
            some (0, S1)
          else
            some (1, S1)
      else
      if b = 7 then
        if (S1.1 0 18) = 0 then
          some ((-1), S1)
        else
          ldI 150 (S1.1 12) a fun x14 =>
          some (x14, S1)
      else
        caS (fX6_fails 2 S1) fun x15 S16 =>
        some (x15, S16)
    else
      caS (fX6_fails 1 S1) fun x17 S18 =>
      some (x17, S18)
abbrev rmX6_stone : Room := { frames := 2, cells := 0, slots := 0, locals := 43 }
theorem iX6_stone_X6 : ∀ w ∈ wsX60, w ∈ wsX6_stone := fun w h => List.mem_cons_of_mem _ (List.mem_append_right _ h)
set_option maxHeartbeats 4000000 in
set_option maxRecDepth 100000 in
theorem kX6_stone (l : Launch) (D : va_G) (y : Cy) (g : Nat → Nat) (a : Int32) (b : Int32) (S : St) (x0 : Int32 × St) (h : fX6_stone a b S = some x0) : KI l yX6_stone wsX6_stone rmX6_stone D vwCl (tz y) (wm y g) (AM g) [.ref (g 0), .int a, .int b] S (fun r S2 => (r, S2) = x0) := by
  refine m_entryI (wm_ok y g) (by decide) rfl (Nat.le_of_ble_eq_true rfl) (lv := [(0, .ref (g 0)), (1, .int a), (2, .int b)]) rfl h ?_
  intro p e s m args below meth c hC hr hlocks
  obtain ⟨Q, hQ⟩ : ∃ Q, Q = (MQ below (va_Qi (fun r S2 => (r, S2) = x0) (Bw D vwCl (tz y) (wm y g) (AM g s.heap.size)) (AM g s.heap.size)) args s 0 0 (AM g s.heap.size)) := ⟨_, rfl⟩
  rw [← hQ]
  have hret : ∀ (v : Int32) (S2 : St) (pc : Nat) (lv : List (Nat × Value)), decode cX6_stone pc = .ok (.ireturn, 1) → Sm p l e (headSpec wsX6_stone rmX6_stone).room s m args below meth c D vwCl (wm y g) (AM g s.heap.size) 3 Q x0 (some (v, S2)) S2 pc lv [.int v] := by
    rw [hQ]
    exact fun v S2 pc lv hd => m_iret hC hr hlocks hd
  clear hQ
  unfold fX6_stone
  refine m_aload_n hC dX6_stone_0 0 rfl ?_
  refine m_iconst hC (0) dX6_stone_1 (by decide) ?_
  refine m_putI (ty := .int) hC iX6_stone_X6 tyX6 tyX6_ok nmX6 (wm_0 y g S) rfl 28 (by decide) (List.mem_of_getElem? (i := 1) rfl) rfl rfl (by decide +kernel) rfl rfl (Nat.le_of_ble_eq_true rfl) dX6_stone_2 (wmf_0_28 y g S _) ?_
  intro S1
  refine m_iload_n hC dX6_stone_5 1 rfl ?_
  refine m_if_lt hC 17 dX6_stone_6 (by decide) ?_ ?_
  · refine m_aload_n hC dX6_stone_17 0 rfl ?_
    refine m_iconst hC (1) dX6_stone_18 (by decide) ?_
    refine m_cIV hC (As := [.int 1]) (wm_ok y g) (cwV 1 hC.1.2.2.2.2 gX6_stone_X6_fails rfl rfl rfl (by decide +kernel) ⟨Nat.le_of_ble_eq_true rfl, Nat.le_of_ble_eq_true rfl⟩) (wm_0 y g S1) rfl (fun xq hq => kX6_fails l D y g 1 S1 xq hq) rfl (Nat.le_of_ble_eq_true rfl) dX6_stone_19 ?_
    intro x2 S3
    exact hret _ _ _ _ dX6_stone_22
  · refine m_iload_n hC dX6_stone_9 1 rfl ?_
    refine m_aload_n hC dX6_stone_10 0 rfl ?_
    refine m_get hC iX6_stone_X6 (wm_0 y g S1) rfl 19 (by decide) (List.mem_of_getElem? (i := 2) rfl) rfl rfl dX6_stone_11 ?_
    refine m_icmp_lt hC 23 dX6_stone_14 (by decide) ?_ ?_
    · refine m_iload_n hC dX6_stone_23 2 rfl ?_
      refine m_if (fun hq => ?_) (fun hq0 => ?_)
      · refine m_tin hC (0) 72 (by rw [hq]; decide) dX6_stone_24 (by decide) (by decide) rfl (by decide) ?_
        refine m_aload_n hC dX6_stone_72 0 rfl ?_
        refine m_get hC iX6_stone_X6 (wm_0 y g S1) rfl 20 (by decide) (List.mem_of_getElem? (i := 3) rfl) rfl rfl dX6_stone_73 ?_
        refine m_iload_n hC dX6_stone_76 1 rfl ?_
        refine m_iald hC (wm_7 y g S1) (t0 := 0) rfl dX6_stone_77 ?_
        intro x4
        exact hret _ _ _ _ dX6_stone_78
      refine m_if (fun hq => ?_) (fun hq1 => ?_)
      · refine m_tin hC (1) 79 (by rw [hq]; decide) dX6_stone_24 (by decide) (by decide) rfl (by decide) ?_
        refine m_aload_n hC dX6_stone_79 0 rfl ?_
        refine m_get hC iX6_stone_X6 (wm_0 y g S1) rfl 21 (by decide) (List.mem_of_getElem? (i := 4) rfl) rfl rfl dX6_stone_80 ?_
        refine m_iload_n hC dX6_stone_83 1 rfl ?_
        refine m_iald hC (wm_8 y g S1) (t0 := 0) rfl dX6_stone_84 ?_
        intro x5
        exact hret _ _ _ _ dX6_stone_85
      refine m_if (fun hq => ?_) (fun hq2 => ?_)
      · refine m_tin hC (2) 86 (by rw [hq]; decide) dX6_stone_24 (by decide) (by decide) rfl (by decide) ?_
        refine m_aload_n hC dX6_stone_86 0 rfl ?_
        refine m_get hC iX6_stone_X6 (wm_0 y g S1) rfl 22 (by decide) (List.mem_of_getElem? (i := 5) rfl) rfl rfl dX6_stone_87 ?_
        refine m_iload_n hC dX6_stone_90 1 rfl ?_
        refine m_iald hC (wm_9 y g S1) (t0 := 0) rfl dX6_stone_91 ?_
        intro x6
        exact hret _ _ _ _ dX6_stone_92
      refine m_if (fun hq => ?_) (fun hq3 => ?_)
      · refine m_tin hC (3) 93 (by rw [hq]; decide) dX6_stone_24 (by decide) (by decide) rfl (by decide) ?_
        refine m_aload_n hC dX6_stone_93 0 rfl ?_
        refine m_iload_n hC dX6_stone_94 1 rfl ?_
        refine m_cIPV hC (As := [.int a]) (wm_ok y g) (cwV 1 hC.1.2.2.2.2 gX6_stone_X6_hearting rfl rfl rfl (by decide +kernel) ⟨Nat.le_of_ble_eq_true rfl, Nat.le_of_ble_eq_true rfl⟩) (wm_0 y g S1) rfl (fun xq hq => kX6_hearting l D y g a S1 xq hq) rfl (Nat.le_of_ble_eq_true rfl) dX6_stone_95 ?_
        intro x7
        exact hret _ _ _ _ dX6_stone_98
      refine m_if (fun hq => ?_) (fun hq4 => ?_)
      · refine m_tin hC (4) 99 (by rw [hq]; decide) dX6_stone_24 (by decide) (by decide) rfl (by decide) ?_
        refine m_aload_n hC dX6_stone_99 0 rfl ?_
        refine m_get hC iX6_stone_X6 (wm_0 y g S1) rfl 2 (by decide) (List.mem_of_getElem? (i := 6) rfl) rfl rfl dX6_stone_100 ?_
        refine m_aload_n hC dX6_stone_103 0 rfl ?_
        refine m_get hC iX6_stone_X6 (wm_0 y g S1) rfl 20 (by decide) (List.mem_of_getElem? (i := 3) rfl) rfl rfl dX6_stone_104 ?_
        refine m_iload_n hC dX6_stone_107 1 rfl ?_
        refine m_iald hC (wm_7 y g S1) (t0 := 0) rfl dX6_stone_108 ?_
        intro x8
        refine m_iald hC (wm_2 y g S1) (t0 := 0) rfl dX6_stone_109 ?_
        intro x9
        refine m_aload_n hC dX6_stone_110 0 rfl ?_
        refine m_aload_n hC dX6_stone_111 0 rfl ?_
        refine m_get hC iX6_stone_X6 (wm_0 y g S1) rfl 21 (by decide) (List.mem_of_getElem? (i := 4) rfl) rfl rfl dX6_stone_112 ?_
        refine m_iload_n hC dX6_stone_115 1 rfl ?_
        refine m_iald hC (wm_8 y g S1) (t0 := 0) rfl dX6_stone_116 ?_
        intro x10
        refine m_cIPV hC (As := [.int x10]) (wm_ok y g) (cwV 1 hC.1.2.2.2.2 gX6_stone_X6_width rfl rfl rfl (by decide +kernel) ⟨Nat.le_of_ble_eq_true rfl, Nat.le_of_ble_eq_true rfl⟩) (wm_0 y g S1) rfl (fun xq hq => kX6_width l D y g x10 S1 xq hq) rfl (Nat.le_of_ble_eq_true rfl) dX6_stone_117 ?_
        intro x11
        refine m_icmp_lt hC 127 dX6_stone_120 (by decide) ?_ ?_
        · refine m_iconst hC (0) dX6_stone_127 (by decide) ?_
          exact hret _ _ _ _ dX6_stone_128
        · refine m_iconst hC (1) dX6_stone_123 (by decide) ?_
          refine m_goto hC 128 dX6_stone_124 (by decide) ?_
          exact hret _ _ _ _ dX6_stone_128
      refine m_if (fun hq => ?_) (fun hq5 => ?_)
      · refine m_tin hC (5) 129 (by rw [hq]; decide) dX6_stone_24 (by decide) (by decide) rfl (by decide) ?_
        refine m_aload_n hC dX6_stone_129 0 rfl ?_
        refine m_get hC iX6_stone_X6 (wm_0 y g S1) rfl 18 (by decide) (List.mem_of_getElem? (i := 7) rfl) rfl rfl dX6_stone_130 ?_
        refine m_if_eq hC 145 dX6_stone_133 (by decide) ?_ ?_
        · refine m_iconst hC (0) dX6_stone_145 (by decide) ?_
          exact hret _ _ _ _ dX6_stone_146
        · refine m_aload_n hC dX6_stone_136 0 rfl ?_
          refine m_get hC iX6_stone_X6 (wm_0 y g S1) rfl 23 (by decide) (List.mem_of_getElem? (i := 8) rfl) rfl rfl dX6_stone_137 ?_
          refine m_iload_n hC dX6_stone_140 1 rfl ?_
          refine m_iald hC (wm_10 y g S1) (t0 := 0) rfl dX6_stone_141 ?_
          intro x12
          refine m_goto hC 146 dX6_stone_142 (by decide) ?_
          exact hret _ _ _ _ dX6_stone_146
      refine m_if (fun hq => ?_) (fun hq6 => ?_)
      · refine m_tin hC (6) 147 (by rw [hq]; decide) dX6_stone_24 (by decide) (by decide) rfl (by decide) ?_
        refine m_aload_n hC dX6_stone_147 0 rfl ?_
        refine m_get hC iX6_stone_X6 (wm_0 y g S1) rfl 18 (by decide) (List.mem_of_getElem? (i := 7) rfl) rfl rfl dX6_stone_148 ?_
        refine m_if_eq hC 167 dX6_stone_151 (by decide) ?_ ?_
        · refine m_iconst hC (0) dX6_stone_167 (by decide) ?_
          exact hret _ _ _ _ dX6_stone_168
        · refine m_aload_n hC dX6_stone_154 0 rfl ?_
          refine m_get hC iX6_stone_X6 (wm_0 y g S1) rfl 24 (by decide) (List.mem_of_getElem? (i := 9) rfl) rfl rfl dX6_stone_155 ?_
          refine m_iload_n hC dX6_stone_158 1 rfl ?_
          refine m_zald hC (wm_11 y g S1) (t0 := 1) rfl dX6_stone_159 ?_
          intro x13
          refine m_if_eq hC 167 dX6_stone_160 (by decide) ?_ ?_
          · refine m_iconst hC (0) dX6_stone_167 (by decide) ?_
            exact hret _ _ _ _ dX6_stone_168
          · refine m_iconst hC (1) dX6_stone_163 (by decide) ?_
            refine m_goto hC 168 dX6_stone_164 (by decide) ?_
            exact hret _ _ _ _ dX6_stone_168
      refine m_if (fun hq => ?_) (fun hq7 => ?_)
      · refine m_tin hC (7) 169 (by rw [hq]; decide) dX6_stone_24 (by decide) (by decide) rfl (by decide) ?_
        refine m_aload_n hC dX6_stone_169 0 rfl ?_
        refine m_get hC iX6_stone_X6 (wm_0 y g S1) rfl 18 (by decide) (List.mem_of_getElem? (i := 7) rfl) rfl rfl dX6_stone_170 ?_
        refine m_if_eq hC 185 dX6_stone_173 (by decide) ?_ ?_
        · refine m_iconst hC (-1) dX6_stone_185 (by decide) ?_
          exact hret _ _ _ _ dX6_stone_186
        · refine m_aload_n hC dX6_stone_176 0 rfl ?_
          refine m_get hC iX6_stone_X6 (wm_0 y g S1) rfl 25 (by decide) (List.mem_of_getElem? (i := 10) rfl) rfl rfl dX6_stone_177 ?_
          refine m_iload_n hC dX6_stone_180 1 rfl ?_
          refine m_iald hC (wm_12 y g S1) (t0 := 0) rfl dX6_stone_181 ?_
          intro x14
          refine m_goto hC 186 dX6_stone_182 (by decide) ?_
          exact hret _ _ _ _ dX6_stone_186
      refine m_tout hC 187 dX6_stone_24 (by have e0 := lv_neT (a := 0) hq0 (by decide); have e1 := lv_neT (a := 1) hq1 (by decide); have e2 := lv_neT (a := 2) hq2 (by decide); have e3 := lv_neT (a := 3) hq3 (by decide); have e4 := lv_neT (a := 4) hq4 (by decide); have e5 := lv_neT (a := 5) hq5 (by decide); have e6 := lv_neT (a := 6) hq6 (by decide); have e7 := lv_neT (a := 7) hq7 (by decide); omega) (by decide) ?_
      refine m_aload_n hC dX6_stone_187 0 rfl ?_
      refine m_iconst hC (2) dX6_stone_188 (by decide) ?_
      refine m_cIV hC (As := [.int 2]) (wm_ok y g) (cwV 1 hC.1.2.2.2.2 gX6_stone_X6_fails rfl rfl rfl (by decide +kernel) ⟨Nat.le_of_ble_eq_true rfl, Nat.le_of_ble_eq_true rfl⟩) (wm_0 y g S1) rfl (fun xq hq => kX6_fails l D y g 2 S1 xq hq) rfl (Nat.le_of_ble_eq_true rfl) dX6_stone_189 ?_
      intro x15 S16
      exact hret _ _ _ _ dX6_stone_192
    · refine m_aload_n hC dX6_stone_17 0 rfl ?_
      refine m_iconst hC (1) dX6_stone_18 (by decide) ?_
      refine m_cIV hC (As := [.int 1]) (wm_ok y g) (cwV 1 hC.1.2.2.2.2 gX6_stone_X6_fails rfl rfl rfl (by decide +kernel) ⟨Nat.le_of_ble_eq_true rfl, Nat.le_of_ble_eq_true rfl⟩) (wm_0 y g S1) rfl (fun xq hq => kX6_fails l D y g 1 S1 xq hq) rfl (Nat.le_of_ble_eq_true rfl) dX6_stone_19 ?_
      intro x17 S18
      exact hret _ _ _ _ dX6_stone_22
def fX6_stones (a : Int32) (b : Int32) (c2 : Int32) (S : St) : Option (Int32 × St) :=
  pfI S 0 28 0 fun S1 =>
  if (S1.1 0 18) = 0 then
    if a < 0 then
      some (0, S1)
    else
      if a < (S1.1 0 3) then
        if b < 0 then
          some (0, S1)
        else
          if b < (S1.1 0 0) then
            if c2 < 0 then
              some (0, S1)
            else
              if c2 ≤ 60 then
                stI S1 5 40 ((8 * a) + b) c2 fun S2 =>
                caV (fX6_noPlan S2) fun S3 =>
                some (1, S3)
              else
                some (0, S1)
          else
            some (0, S1)
      else
        some (0, S1)
  else
    some (0, S1)
abbrev rmX6_stones : Room := { frames := 1, cells := 0, slots := 0, locals := 20 }
theorem iX6_stones_X6 : ∀ w ∈ wsX60, w ∈ wsX6_stones := fun w h => List.mem_cons_of_mem _ (List.mem_append_right _ h)
set_option maxHeartbeats 4000000 in
set_option maxRecDepth 100000 in
theorem kX6_stones (l : Launch) (D : va_G) (y : Cy) (g : Nat → Nat) (a : Int32) (b : Int32) (c2 : Int32) (S : St) (x0 : Int32 × St) (h : fX6_stones a b c2 S = some x0) : KI l yX6_stones wsX6_stones rmX6_stones D vwCl (tz y) (wm y g) (AM g) [.ref (g 0), .int a, .int b, .int c2] S (fun r S2 => (r, S2) = x0) := by
  refine m_entryI (wm_ok y g) (by decide) rfl (Nat.le_of_ble_eq_true rfl) (lv := [(0, .ref (g 0)), (1, .int a), (2, .int b), (3, .int c2)]) rfl h ?_
  intro p e s m args below meth c hC hr hlocks
  obtain ⟨Q, hQ⟩ : ∃ Q, Q = (MQ below (va_Qi (fun r S2 => (r, S2) = x0) (Bw D vwCl (tz y) (wm y g) (AM g s.heap.size)) (AM g s.heap.size)) args s 0 0 (AM g s.heap.size)) := ⟨_, rfl⟩
  rw [← hQ]
  have hret : ∀ (v : Int32) (S2 : St) (pc : Nat) (lv : List (Nat × Value)), decode cX6_stones pc = .ok (.ireturn, 1) → narrow .boolean (.int v) = .int v → Sm p l e (headSpec wsX6_stones rmX6_stones).room s m args below meth c D vwCl (wm y g) (AM g s.heap.size) 4 Q x0 (some (v, S2)) S2 pc lv [.int v] := by
    rw [hQ]
    exact fun v S2 pc lv hd hz => m_zret hC hz hr hlocks hd
  clear hQ
  unfold fX6_stones
  refine m_aload_n hC dX6_stones_0 0 rfl ?_
  refine m_iconst hC (0) dX6_stones_1 (by decide) ?_
  refine m_putI (ty := .int) hC iX6_stones_X6 tyX6 tyX6_ok nmX6 (wm_0 y g S) rfl 28 (by decide) (List.mem_of_getElem? (i := 1) rfl) rfl rfl (by decide +kernel) rfl rfl (Nat.le_of_ble_eq_true rfl) dX6_stones_2 (wmf_0_28 y g S _) ?_
  intro S1
  refine m_aload_n hC dX6_stones_5 0 rfl ?_
  refine m_get hC iX6_stones_X6 (wm_0 y g S1) rfl 18 (by decide) (List.mem_of_getElem? (i := 2) rfl) rfl rfl dX6_stones_6 ?_
  refine m_if_ne hC 46 dX6_stones_9 (by decide) ?_ ?_
  · refine m_iconst hC (0) dX6_stones_46 (by decide) ?_
    exact hret _ _ _ _ dX6_stones_47 rfl
  · refine m_iload_n hC dX6_stones_12 1 rfl ?_
    refine m_if_lt hC 46 dX6_stones_13 (by decide) ?_ ?_
    · refine m_iconst hC (0) dX6_stones_46 (by decide) ?_
      exact hret _ _ _ _ dX6_stones_47 rfl
    · refine m_iload_n hC dX6_stones_16 1 rfl ?_
      refine m_aload_n hC dX6_stones_17 0 rfl ?_
      refine m_get hC iX6_stones_X6 (wm_0 y g S1) rfl 3 (by decide) (List.mem_of_getElem? (i := 3) rfl) rfl rfl dX6_stones_18 ?_
      refine m_icmp_ge hC 46 dX6_stones_21 (by decide) ?_ ?_
      · refine m_iconst hC (0) dX6_stones_46 (by decide) ?_
        exact hret _ _ _ _ dX6_stones_47 rfl
      · refine m_iload_n hC dX6_stones_24 2 rfl ?_
        refine m_if_lt hC 46 dX6_stones_25 (by decide) ?_ ?_
        · refine m_iconst hC (0) dX6_stones_46 (by decide) ?_
          exact hret _ _ _ _ dX6_stones_47 rfl
        · refine m_iload_n hC dX6_stones_28 2 rfl ?_
          refine m_aload_n hC dX6_stones_29 0 rfl ?_
          refine m_get hC iX6_stones_X6 (wm_0 y g S1) rfl 0 (by decide) (List.mem_of_getElem? (i := 4) rfl) rfl rfl dX6_stones_30 ?_
          refine m_icmp_ge hC 46 dX6_stones_33 (by decide) ?_ ?_
          · refine m_iconst hC (0) dX6_stones_46 (by decide) ?_
            exact hret _ _ _ _ dX6_stones_47 rfl
          · refine m_iload_n hC dX6_stones_36 3 rfl ?_
            refine m_if_lt hC 46 dX6_stones_37 (by decide) ?_ ?_
            · refine m_iconst hC (0) dX6_stones_46 (by decide) ?_
              exact hret _ _ _ _ dX6_stones_47 rfl
            · refine m_iload_n hC dX6_stones_40 3 rfl ?_
              refine m_bipush hC (60) dX6_stones_41 (by decide) ?_
              refine m_icmp_le hC 48 dX6_stones_43 (by decide) ?_ ?_
              · refine m_aload_n hC dX6_stones_48 0 rfl ?_
                refine m_get hC iX6_stones_X6 (wm_0 y g S1) rfl 6 (by decide) (List.mem_of_getElem? (i := 5) rfl) rfl rfl dX6_stones_49 ?_
                refine m_bipush hC (8) dX6_stones_52 (by decide) ?_
                refine m_iload_n hC dX6_stones_54 1 rfl ?_
                refine m_imul hC dX6_stones_55 ?_
                refine m_iload_n hC dX6_stones_56 2 rfl ?_
                refine m_iadd hC dX6_stones_57 ?_
                refine m_iload_n hC dX6_stones_58 3 rfl ?_
                refine m_iast hC (wm_5 y g S1) (t0 := 0) rfl (wms_5 y g S1) dX6_stones_59 ?_
                intro S2
                refine m_aload_n hC dX6_stones_60 0 rfl ?_
                refine m_cVV hC (As := []) (wm_ok y g) (cwV 0 hC.1.2.2.2.2 gX6_stones_X6_noPlan rfl rfl rfl (by decide +kernel) ⟨Nat.le_of_ble_eq_true rfl, Nat.le_of_ble_eq_true rfl⟩) (wm_0 y g S2) rfl (fun xq hq => kX6_noPlan l D y g S2 xq hq) rfl (Nat.le_of_ble_eq_true rfl) dX6_stones_61 ?_
                intro S3
                refine m_iconst hC (1) dX6_stones_64 (by decide) ?_
                exact hret _ _ _ _ dX6_stones_65 rfl
              · refine m_iconst hC (0) dX6_stones_46 (by decide) ?_
                exact hret _ _ _ _ dX6_stones_47 rfl
def fX6_take_L106 (a : Int32) (K9 : St → Option (Int32 × St)) (r8 : Int32 → St → Option (Int32 × St)) : Int32 → St → Option (Int32 × St) := fun x6 S7 =>
  if x6 < (S7.1 0 19) then
    ldI 150 (S7.1 7) x6 fun x14 =>
    ldI 40 (S7.1 5) ((8 * a) + x14) fun x15 =>
    stI S7 5 40 ((8 * a) + x14) (x15 + 1) fun S16 =>
    nmI (x6 + 1) fun x17 =>
    r8 x17 S16
  else
    K9 S7
def fX6_take_L51 (x2 : Int32) (S1 : St) (K22 : Int32 → Option (Int32 × St)) (r21 : Int32 → Int32 → Option (Int32 × St)) : Int32 → Int32 → Option (Int32 × St) := fun x19 x20 =>
  if x20 < (S1.1 0 19) then
    ldI 150 (S1.1 7) x20 fun x25 =>
    if x25 = x2 then
      nmI (x19 + 1) fun x28 =>
      nmI (x20 + 1) fun x29 =>
      r21 x28 x29
    else
      nmI (x19 + 0) fun x26 =>
      nmI (x20 + 1) fun x27 =>
      r21 x26 x27
  else
    K22 x19
def fX6_take_L28 (N : Nat) (a : Int32) (S1 : St) (K4 : Option (Int32 × St)) (r3 : Int32 → Option (Int32 × St)) : Int32 → Option (Int32 × St) := fun x2 =>
  if x2 < (S1.1 0 0) then
    ldI 40 (S1.1 5) ((8 * a) + x2) fun x18 =>
    itN (fun _ _ => none) (fX6_take_L51 x2 S1 (fun (x23 : Int32) =>
        if x23 ≤ 60 then
          nmI (x2 + 1) fun x24 =>
          r3 x24
        else
          some ((-1), S1))) N x18 0
  else
    K4
def fX6_take (N : Nat) (a : Int32) (S : St) : Option (Int32 × St) :=
  pfI S 0 28 0 fun S1 =>
  if (S1.1 0 18) = 0 then
    some ((-1), S1)
  else
    if a < 0 then
      some ((-1), S1)
    else
      if a < (S1.1 0 3) then
        itN (fun _ => none) (fX6_take_L28 N a S1 (
            nmI (S1.1 0 19) fun x5 =>
            itN (fun _ _ => none) (fX6_take_L106 a (fun (S10 : St) =>
                pfI S10 0 18 0 fun S11 =>
                pfI S11 0 27 0 fun S12 =>
                caV (fX6_noPlan S12) fun S13 =>
                some (x5, S13))) N 0 S1)) N 0
      else
        some ((-1), S1)
abbrev rmX6_take : Room := { frames := 1, cells := 0, slots := 0, locals := 20 }
theorem iX6_take_X6 : ∀ w ∈ wsX60, w ∈ wsX6_take := fun w h => List.mem_cons_of_mem _ (List.mem_append_right _ h)
set_option maxHeartbeats 4000000 in
set_option maxRecDepth 100000 in
theorem kX6_take (l : Launch) (D : va_G) (y : Cy) (g : Nat → Nat) (N : Nat) (a : Int32) (S : St) (x0 : Int32 × St) (h : fX6_take N a S = some x0) : KI l yX6_take wsX6_take rmX6_take D vwCl (tz y) (wm y g) (AM g) [.ref (g 0), .int a] S (fun r S2 => (r, S2) = x0) := by
  refine m_entryI (wm_ok y g) (by decide) rfl (Nat.le_of_ble_eq_true rfl) (lv := [(0, .ref (g 0)), (1, .int a)]) rfl h ?_
  intro p e s m args below meth c hC hr hlocks
  obtain ⟨Q, hQ⟩ : ∃ Q, Q = (MQ below (va_Qi (fun r S2 => (r, S2) = x0) (Bw D vwCl (tz y) (wm y g) (AM g s.heap.size)) (AM g s.heap.size)) args s 0 0 (AM g s.heap.size)) := ⟨_, rfl⟩
  rw [← hQ]
  have hret : ∀ (v : Int32) (S2 : St) (pc : Nat) (lv : List (Nat × Value)), decode cX6_take pc = .ok (.ireturn, 1) → Sm p l e (headSpec wsX6_take rmX6_take).room s m args below meth c D vwCl (wm y g) (AM g s.heap.size) 5 Q x0 (some (v, S2)) S2 pc lv [.int v] := by
    rw [hQ]
    exact fun v S2 pc lv hd => m_iret hC hr hlocks hd
  clear hQ
  unfold fX6_take
  refine m_aload_n hC dX6_take_0 0 rfl ?_
  refine m_iconst hC (0) dX6_take_1 (by decide) ?_
  refine m_putI (ty := .int) hC iX6_take_X6 tyX6 tyX6_ok nmX6 (wm_0 y g S) rfl 28 (by decide) (List.mem_of_getElem? (i := 1) rfl) rfl rfl (by decide +kernel) rfl rfl (Nat.le_of_ble_eq_true rfl) dX6_take_2 (wmf_0_28 y g S _) ?_
  intro S1
  refine m_aload_n hC dX6_take_5 0 rfl ?_
  refine m_get hC iX6_take_X6 (wm_0 y g S1) rfl 18 (by decide) (List.mem_of_getElem? (i := 2) rfl) rfl rfl dX6_take_6 ?_
  refine m_if_eq hC 24 dX6_take_9 (by decide) ?_ ?_
  · refine m_iconst hC (-1) dX6_take_24 (by decide) ?_
    exact hret _ _ _ _ dX6_take_25
  · refine m_iload_n hC dX6_take_12 1 rfl ?_
    refine m_if_lt hC 24 dX6_take_13 (by decide) ?_ ?_
    · refine m_iconst hC (-1) dX6_take_24 (by decide) ?_
      exact hret _ _ _ _ dX6_take_25
    · refine m_iload_n hC dX6_take_16 1 rfl ?_
      refine m_aload_n hC dX6_take_17 0 rfl ?_
      refine m_get hC iX6_take_X6 (wm_0 y g S1) rfl 3 (by decide) (List.mem_of_getElem? (i := 3) rfl) rfl rfl dX6_take_18 ?_
      refine m_icmp_lt hC 26 dX6_take_21 (by decide) ?_ ?_
      · refine m_iconst hC (0) dX6_take_26 (by decide) ?_
        refine m_istore_n hC [(0, .ref (g 0)), (1, .int a), (2, .int 0)] [1, 2, 0] dX6_take_27 (by decide) rfl rfl ?_
        refine (m_itK (z := (fun _ => none)) (F := fX6_take_L28 N a S1) N (fun K4 => Sm p l e (headSpec wsX6_take rmX6_take).room s m args below meth c D vwCl (wm y g) (AM g s.heap.size) 5 Q x0 (K4) S1 99 [(0, .ref (g 0)), (1, .int a)] []) (fun r3 => ∀ (x2 : Int32), Sm p l e (headSpec wsX6_take rmX6_take).room s m args below meth c D vwCl (wm y g) (AM g s.heap.size) 5 Q x0 (r3 x2) S1 28 [(0, .ref (g 0)), (1, .int a), (2, .int x2)] []) ?_ ?_ ?_) 0
        · exact fun _ => m_none
        · refine m_aload_n hC dX6_take_99 0 rfl ?_
          refine m_get hC iX6_take_X6 (wm_0 y g S1) rfl 19 (by decide) (List.mem_of_getElem? (i := 6) rfl) rfl rfl dX6_take_100 ?_
          refine m_nmI ?_
          intro x5
          refine m_istore_n hC [(0, .ref (g 0)), (1, .int a), (2, .int x5)] [1, 2, 0] dX6_take_103 (by decide) rfl rfl ?_
          refine m_iconst hC (0) dX6_take_104 (by decide) ?_
          refine m_istore_n hC [(0, .ref (g 0)), (1, .int a), (2, .int x5), (3, .int 0)] [1, 2, 3, 0] dX6_take_105 (by decide) rfl rfl ?_
          refine (m_itK (z := (fun _ _ => none)) (F := fX6_take_L106 a) N (fun K9 => ∀ (S10 : St), Sm p l e (headSpec wsX6_take rmX6_take).room s m args below meth c D vwCl (wm y g) (AM g s.heap.size) 5 Q x0 (K9 S10) S10 140 [(0, .ref (g 0)), (2, .int x5)] []) (fun r8 => ∀ (x6 : Int32) (S7 : St), Sm p l e (headSpec wsX6_take rmX6_take).room s m args below meth c D vwCl (wm y g) (AM g s.heap.size) 5 Q x0 (r8 x6 S7) S7 106 [(0, .ref (g 0)), (1, .int a), (2, .int x5), (3, .int x6)] []) ?_ ?_ ?_) 0 S1
          · exact fun _ _ => m_none
          · intro S10
            refine m_aload_n hC dX6_take_140 0 rfl ?_
            refine m_iconst hC (0) dX6_take_141 (by decide) ?_
            refine m_putI (ty := .boolean) hC iX6_take_X6 tyX6 tyX6_ok nmX6 (wm_0 y g S10) rfl 18 (by decide) (List.mem_of_getElem? (i := 2) rfl) rfl rfl (by decide +kernel) rfl rfl (Nat.le_of_ble_eq_true rfl) dX6_take_142 (wmf_0_18 y g S10 _) ?_
            intro S11
            refine m_aload_n hC dX6_take_145 0 rfl ?_
            refine m_iconst hC (0) dX6_take_146 (by decide) ?_
            refine m_putI (ty := .int) hC iX6_take_X6 tyX6 tyX6_ok nmX6 (wm_0 y g S11) rfl 27 (by decide) (List.mem_of_getElem? (i := 8) rfl) rfl rfl (by decide +kernel) rfl rfl (Nat.le_of_ble_eq_true rfl) dX6_take_147 (wmf_0_27 y g S11 _) ?_
            intro S12
            refine m_aload_n hC dX6_take_150 0 rfl ?_
            refine m_cVV hC (As := []) (wm_ok y g) (cwV 0 hC.1.2.2.2.2 gX6_take_X6_noPlan rfl rfl rfl (by decide +kernel) ⟨Nat.le_of_ble_eq_true rfl, Nat.le_of_ble_eq_true rfl⟩) (wm_0 y g S12) rfl (fun xq hq => kX6_noPlan l D y g S12 xq hq) rfl (Nat.le_of_ble_eq_true rfl) dX6_take_151 ?_
            intro S13
            refine m_iload_n hC dX6_take_154 1 rfl ?_
            exact hret _ _ _ _ dX6_take_155
          · intro K9 hK9 r8 hr8 x6 S7
            unfold fX6_take_L106
            refine m_iload_n hC dX6_take_106 3 rfl ?_
            refine m_aload_n hC dX6_take_107 0 rfl ?_
            refine m_get hC iX6_take_X6 (wm_0 y g S7) rfl 19 (by decide) (List.mem_of_getElem? (i := 6) rfl) rfl rfl dX6_take_108 ?_
            refine m_icmp_ge hC 140 dX6_take_111 (by decide) ?_ ?_
            · refine m_lv [(0, .ref (g 0)), (2, .int x5)] [0, 2] rfl ?_
              exact hK9 _
            · refine m_aload_n hC dX6_take_114 0 rfl ?_
              refine m_get hC iX6_take_X6 (wm_0 y g S7) rfl 6 (by decide) (List.mem_of_getElem? (i := 5) rfl) rfl rfl dX6_take_115 ?_
              refine m_bipush hC (8) dX6_take_118 (by decide) ?_
              refine m_iload_n hC dX6_take_120 1 rfl ?_
              refine m_imul hC dX6_take_121 ?_
              refine m_aload_n hC dX6_take_122 0 rfl ?_
              refine m_get hC iX6_take_X6 (wm_0 y g S7) rfl 20 (by decide) (List.mem_of_getElem? (i := 7) rfl) rfl rfl dX6_take_123 ?_
              refine m_iload_n hC dX6_take_126 3 rfl ?_
              refine m_iald hC (wm_7 y g S7) (t0 := 0) rfl dX6_take_127 ?_
              intro x14
              refine m_iadd hC dX6_take_128 ?_
              refine m_dup2 hC dX6_take_129 rfl rfl ?_
              refine m_iald hC (wm_5 y g S7) (t0 := 0) rfl dX6_take_130 ?_
              intro x15
              refine m_iconst hC (1) dX6_take_131 (by decide) ?_
              refine m_iadd hC dX6_take_132 ?_
              refine m_iast hC (wm_5 y g S7) (t0 := 0) rfl (wms_5 y g S7) dX6_take_133 ?_
              intro S16
              refine m_iinc hC (fun x17 => [(0, .ref (g 0)), (1, .int a), (2, .int x5), (3, .int x17)]) [1, 2, 3, 0] dX6_take_134 (j := 3) rfl (by decide) (by decide) (fun _ => rfl) (fun _ => rfl) ?_
              intro x17
              refine m_goto hC 106 dX6_take_137 (by decide) ?_
              exact hr8 _ _
        · intro K4 hK4 r3 hr3 x2
          unfold fX6_take_L28
          refine m_iload_n hC dX6_take_28 2 rfl ?_
          refine m_aload_n hC dX6_take_29 0 rfl ?_
          refine m_get hC iX6_take_X6 (wm_0 y g S1) rfl 0 (by decide) (List.mem_of_getElem? (i := 4) rfl) rfl rfl dX6_take_30 ?_
          refine m_icmp_ge hC 99 dX6_take_33 (by decide) ?_ ?_
          · refine m_lv [(0, .ref (g 0)), (1, .int a)] [0, 1] rfl ?_
            exact hK4
          · refine m_aload_n hC dX6_take_36 0 rfl ?_
            refine m_get hC iX6_take_X6 (wm_0 y g S1) rfl 6 (by decide) (List.mem_of_getElem? (i := 5) rfl) rfl rfl dX6_take_37 ?_
            refine m_bipush hC (8) dX6_take_40 (by decide) ?_
            refine m_iload_n hC dX6_take_42 1 rfl ?_
            refine m_imul hC dX6_take_43 ?_
            refine m_iload_n hC dX6_take_44 2 rfl ?_
            refine m_iadd hC dX6_take_45 ?_
            refine m_iald hC (wm_5 y g S1) (t0 := 0) rfl dX6_take_46 ?_
            intro x18
            refine m_istore_n hC [(0, .ref (g 0)), (1, .int a), (2, .int x2), (3, .int x18)] [1, 2, 3, 0] dX6_take_47 (by decide) rfl rfl ?_
            refine m_iconst hC (0) dX6_take_48 (by decide) ?_
            refine m_istore hC [(0, .ref (g 0)), (1, .int a), (2, .int x2), (3, .int x18), (4, .int 0)] [1, 2, 3, 4, 0] dX6_take_49 (by decide) rfl rfl ?_
            refine (m_itK (z := (fun _ _ => none)) (F := fX6_take_L51 x2 S1) N (fun K22 => ∀ (x23 : Int32), Sm p l e (headSpec wsX6_take rmX6_take).room s m args below meth c D vwCl (wm y g) (AM g s.heap.size) 5 Q x0 (K22 x23) S1 85 [(0, .ref (g 0)), (1, .int a), (2, .int x2), (3, .int x23)] []) (fun r21 => ∀ (x19 : Int32) (x20 : Int32), Sm p l e (headSpec wsX6_take rmX6_take).room s m args below meth c D vwCl (wm y g) (AM g s.heap.size) 5 Q x0 (r21 x19 x20) S1 51 [(0, .ref (g 0)), (1, .int a), (2, .int x2), (3, .int x19), (4, .int x20)] []) ?_ ?_ ?_) x18 0
            · exact fun _ _ => m_none
            · intro x23
              refine m_iload_n hC dX6_take_85 3 rfl ?_
              refine m_bipush hC (60) dX6_take_86 (by decide) ?_
              refine m_icmp_le hC 93 dX6_take_88 (by decide) ?_ ?_
              · refine m_iinc hC (fun x24 => [(0, .ref (g 0)), (1, .int a), (2, .int x24), (3, .int x23)]) [1, 2, 0, 3] dX6_take_93 (j := 2) rfl (by decide) (by decide) (fun _ => rfl) (fun _ => rfl) ?_
                intro x24
                refine m_goto hC 28 dX6_take_96 (by decide) ?_
                refine m_lv [(0, .ref (g 0)), (1, .int a), (2, .int x24)] [0, 1, 2] rfl ?_
                exact hr3 _
              · refine m_iconst hC (-1) dX6_take_91 (by decide) ?_
                exact hret _ _ _ _ dX6_take_92
            · intro K22 hK22 r21 hr21 x19 x20
              unfold fX6_take_L51
              refine m_iload hC dX6_take_51 4 rfl ?_
              refine m_aload_n hC dX6_take_53 0 rfl ?_
              refine m_get hC iX6_take_X6 (wm_0 y g S1) rfl 19 (by decide) (List.mem_of_getElem? (i := 6) rfl) rfl rfl dX6_take_54 ?_
              refine m_icmp_ge hC 85 dX6_take_57 (by decide) ?_ ?_
              · refine m_lv [(0, .ref (g 0)), (1, .int a), (2, .int x2), (3, .int x19)] [0, 1, 2, 3] rfl ?_
                exact hK22 _
              · refine m_iload_n hC dX6_take_60 3 rfl ?_
                refine m_aload_n hC dX6_take_61 0 rfl ?_
                refine m_get hC iX6_take_X6 (wm_0 y g S1) rfl 20 (by decide) (List.mem_of_getElem? (i := 7) rfl) rfl rfl dX6_take_62 ?_
                refine m_iload hC dX6_take_65 4 rfl ?_
                refine m_iald hC (wm_7 y g S1) (t0 := 0) rfl dX6_take_67 ?_
                intro x25
                refine m_iload_n hC dX6_take_68 2 rfl ?_
                refine m_icmp_ne hC 76 dX6_take_69 (by decide) ?_ ?_
                · refine m_iconst hC (0) dX6_take_76 (by decide) ?_
                  refine m_iadd hC dX6_take_77 ?_
                  refine m_nmI ?_
                  intro x26
                  refine m_istore_n hC [(0, .ref (g 0)), (1, .int a), (2, .int x2), (3, .int x26), (4, .int x20)] [1, 2, 3, 0, 4] dX6_take_78 (by decide) rfl rfl ?_
                  refine m_iinc hC (fun x27 => [(0, .ref (g 0)), (1, .int a), (2, .int x2), (3, .int x26), (4, .int x27)]) [1, 2, 3, 4, 0] dX6_take_79 (j := 4) rfl (by decide) (by decide) (fun _ => rfl) (fun _ => rfl) ?_
                  intro x27
                  refine m_goto hC 51 dX6_take_82 (by decide) ?_
                  exact hr21 _ _
                · refine m_iconst hC (1) dX6_take_72 (by decide) ?_
                  refine m_goto hC 77 dX6_take_73 (by decide) ?_
                  refine m_iadd hC dX6_take_77 ?_
                  refine m_nmI ?_
                  intro x28
                  refine m_istore_n hC [(0, .ref (g 0)), (1, .int a), (2, .int x2), (3, .int x28), (4, .int x20)] [1, 2, 3, 0, 4] dX6_take_78 (by decide) rfl rfl ?_
                  refine m_iinc hC (fun x29 => [(0, .ref (g 0)), (1, .int a), (2, .int x2), (3, .int x28), (4, .int x29)]) [1, 2, 3, 4, 0] dX6_take_79 (j := 4) rfl (by decide) (by decide) (fun _ => rfl) (fun _ => rfl) ?_
                  intro x29
                  refine m_goto hC 51 dX6_take_82 (by decide) ?_
                  exact hr21 _ _
      · refine m_iconst hC (-1) dX6_take_24 (by decide) ?_
        exact hret _ _ _ _ dX6_take_25
def fX6_through (a : Int32) (b : Int32) (S : St) : Option (Int32 × St) :=
  pfI S 0 28 0 fun S1 =>
  if (S1.1 0 18) = 0 then
    if (S1.1 0 8) = 0 then
      some (0, S1)
    else
      if a < 0 then
        some (0, S1)
      else
        if a < (1 <<< ((S1.1 0 12) &&& 31)) then
          if b < 0 then
            some (0, S1)
          else
            if b ≤ 3 then
              pfI S1 0 15 a fun S2 =>
              pfI S2 0 16 b fun S3 =>
              caV (fX6_noPlan S3) fun S4 =>
              some (1, S4)
            else
              some (0, S1)
        else
          some (0, S1)
  else
    some (0, S1)
abbrev rmX6_through : Room := { frames := 1, cells := 0, slots := 0, locals := 20 }
theorem iX6_through_X6 : ∀ w ∈ wsX60, w ∈ wsX6_through := fun w h => List.mem_cons_of_mem _ (List.mem_append_right _ h)
set_option maxHeartbeats 4000000 in
set_option maxRecDepth 100000 in
theorem kX6_through (l : Launch) (D : va_G) (y : Cy) (g : Nat → Nat) (a : Int32) (b : Int32) (S : St) (x0 : Int32 × St) (h : fX6_through a b S = some x0) : KI l yX6_through wsX6_through rmX6_through D vwCl (tz y) (wm y g) (AM g) [.ref (g 0), .int a, .int b] S (fun r S2 => (r, S2) = x0) := by
  refine m_entryI (wm_ok y g) (by decide) rfl (Nat.le_of_ble_eq_true rfl) (lv := [(0, .ref (g 0)), (1, .int a), (2, .int b)]) rfl h ?_
  intro p e s m args below meth c hC hr hlocks
  obtain ⟨Q, hQ⟩ : ∃ Q, Q = (MQ below (va_Qi (fun r S2 => (r, S2) = x0) (Bw D vwCl (tz y) (wm y g) (AM g s.heap.size)) (AM g s.heap.size)) args s 0 0 (AM g s.heap.size)) := ⟨_, rfl⟩
  rw [← hQ]
  have hret : ∀ (v : Int32) (S2 : St) (pc : Nat) (lv : List (Nat × Value)), decode cX6_through pc = .ok (.ireturn, 1) → narrow .boolean (.int v) = .int v → Sm p l e (headSpec wsX6_through rmX6_through).room s m args below meth c D vwCl (wm y g) (AM g s.heap.size) 3 Q x0 (some (v, S2)) S2 pc lv [.int v] := by
    rw [hQ]
    exact fun v S2 pc lv hd hz => m_zret hC hz hr hlocks hd
  clear hQ
  unfold fX6_through
  refine m_aload_n hC dX6_through_0 0 rfl ?_
  refine m_iconst hC (0) dX6_through_1 (by decide) ?_
  refine m_putI (ty := .int) hC iX6_through_X6 tyX6 tyX6_ok nmX6 (wm_0 y g S) rfl 28 (by decide) (List.mem_of_getElem? (i := 1) rfl) rfl rfl (by decide +kernel) rfl rfl (Nat.le_of_ble_eq_true rfl) dX6_through_2 (wmf_0_28 y g S _) ?_
  intro S1
  refine m_aload_n hC dX6_through_5 0 rfl ?_
  refine m_get hC iX6_through_X6 (wm_0 y g S1) rfl 18 (by decide) (List.mem_of_getElem? (i := 2) rfl) rfl rfl dX6_through_6 ?_
  refine m_if_ne hC 42 dX6_through_9 (by decide) ?_ ?_
  · refine m_iconst hC (0) dX6_through_42 (by decide) ?_
    exact hret _ _ _ _ dX6_through_43 rfl
  · refine m_aload_n hC dX6_through_12 0 rfl ?_
    refine m_get hC iX6_through_X6 (wm_0 y g S1) rfl 8 (by decide) (List.mem_of_getElem? (i := 3) rfl) rfl rfl dX6_through_13 ?_
    refine m_if_eq hC 42 dX6_through_16 (by decide) ?_ ?_
    · refine m_iconst hC (0) dX6_through_42 (by decide) ?_
      exact hret _ _ _ _ dX6_through_43 rfl
    · refine m_iload_n hC dX6_through_19 1 rfl ?_
      refine m_if_lt hC 42 dX6_through_20 (by decide) ?_ ?_
      · refine m_iconst hC (0) dX6_through_42 (by decide) ?_
        exact hret _ _ _ _ dX6_through_43 rfl
      · refine m_iload_n hC dX6_through_23 1 rfl ?_
        refine m_iconst hC (1) dX6_through_24 (by decide) ?_
        refine m_aload_n hC dX6_through_25 0 rfl ?_
        refine m_get hC iX6_through_X6 (wm_0 y g S1) rfl 12 (by decide) (List.mem_of_getElem? (i := 4) rfl) rfl rfl dX6_through_26 ?_
        refine m_ishl hC dX6_through_29 ?_
        refine m_icmp_ge hC 42 dX6_through_30 (by decide) ?_ ?_
        · refine m_iconst hC (0) dX6_through_42 (by decide) ?_
          exact hret _ _ _ _ dX6_through_43 rfl
        · refine m_iload_n hC dX6_through_33 2 rfl ?_
          refine m_if_lt hC 42 dX6_through_34 (by decide) ?_ ?_
          · refine m_iconst hC (0) dX6_through_42 (by decide) ?_
            exact hret _ _ _ _ dX6_through_43 rfl
          · refine m_iload_n hC dX6_through_37 2 rfl ?_
            refine m_iconst hC (3) dX6_through_38 (by decide) ?_
            refine m_icmp_le hC 44 dX6_through_39 (by decide) ?_ ?_
            · refine m_aload_n hC dX6_through_44 0 rfl ?_
              refine m_iload_n hC dX6_through_45 1 rfl ?_
              refine m_putI (ty := .int) hC iX6_through_X6 tyX6 tyX6_ok nmX6 (wm_0 y g S1) rfl 15 (by decide) (List.mem_of_getElem? (i := 5) rfl) rfl rfl (by decide +kernel) rfl rfl (Nat.le_of_ble_eq_true rfl) dX6_through_46 (wmf_0_15 y g S1 _) ?_
              intro S2
              refine m_aload_n hC dX6_through_49 0 rfl ?_
              refine m_iload_n hC dX6_through_50 2 rfl ?_
              refine m_putI (ty := .int) hC iX6_through_X6 tyX6 tyX6_ok nmX6 (wm_0 y g S2) rfl 16 (by decide) (List.mem_of_getElem? (i := 6) rfl) rfl rfl (by decide +kernel) rfl rfl (Nat.le_of_ble_eq_true rfl) dX6_through_51 (wmf_0_16 y g S2 _) ?_
              intro S3
              refine m_aload_n hC dX6_through_54 0 rfl ?_
              refine m_cVV hC (As := []) (wm_ok y g) (cwV 0 hC.1.2.2.2.2 gX6_through_X6_noPlan rfl rfl rfl (by decide +kernel) ⟨Nat.le_of_ble_eq_true rfl, Nat.le_of_ble_eq_true rfl⟩) (wm_0 y g S3) rfl (fun xq hq => kX6_noPlan l D y g S3 xq hq) rfl (Nat.le_of_ble_eq_true rfl) dX6_through_55 ?_
              intro S4
              refine m_iconst hC (1) dX6_through_58 (by decide) ?_
              exact hret _ _ _ _ dX6_through_59 rfl
            · refine m_iconst hC (0) dX6_through_42 (by decide) ?_
              exact hret _ _ _ _ dX6_through_43 rfl
def fX6_thrown (S : St) : Option (Int32) :=
  some (S.1 0 28)
abbrev rmX6_thrown : Room := { frames := 0, cells := 0, slots := 0, locals := 0 }
theorem iX6_thrown_X6 : ∀ w ∈ wsX60, w ∈ wsX6_thrown := fun w h => List.mem_cons_of_mem _ (List.mem_append_right _ h)
set_option maxHeartbeats 4000000 in
set_option maxRecDepth 100000 in
theorem kX6_thrown (l : Launch) (D : va_G) (y : Cy) (g : Nat → Nat) (S : St) (x0 : Int32) (h : fX6_thrown S = some x0) : KI l yX6_thrown wsX6_thrown rmX6_thrown D vwCl (tz y) (wm y g) (AM g) [.ref (g 0)] S (fun r S2 => r = x0 ∧ S2 = S) := by
  refine m_entryIP (wm_ok y g) (by decide) rfl (Nat.le_of_ble_eq_true rfl) (lv := [(0, .ref (g 0))]) rfl h ?_
  intro p e s m args below meth c hC hr hlocks
  obtain ⟨Q, hQ⟩ : ∃ Q, Q = (MQ below (va_Qi (fun r S2 => r = x0 ∧ S2 = S) (Bw D vwCl (tz y) (wm y g) (AM g s.heap.size)) (AM g s.heap.size)) args s 0 0 (AM g s.heap.size)) := ⟨_, rfl⟩
  rw [← hQ]
  have hret : ∀ (v : Int32) (pc : Nat) (lv : List (Nat × Value)), decode cX6_thrown pc = .ok (.ireturn, 1) → Sm p l e (headSpec wsX6_thrown rmX6_thrown).room s m args below meth c D vwCl (wm y g) (AM g s.heap.size) 1 Q x0 (some v) S pc lv [.int v] := by
    rw [hQ]
    exact fun v pc lv hd => m_iretP hC hr hlocks hd
  clear hQ
  unfold fX6_thrown
  refine m_aload_n hC dX6_thrown_0 0 rfl ?_
  refine m_get hC iX6_thrown_X6 (wm_0 y g S) rfl 28 (by decide) (List.mem_of_getElem? (i := 1) rfl) rfl rfl dX6_thrown_1 ?_
  exact hret _ _ _ dX6_thrown_4
def fX6_wall (a : Int32) (b : Int32) (c2 : Int32) (d2 : Int32) (e2 : Int32) (f2 : Int32) (S : St) : Option (Int32 × St) :=
  pfI S 0 28 0 fun S1 =>
  if (S1.1 0 18) = 0 then
    caP (fX6_isPlace a b) fun x2 =>
    if x2 = 0 then
      some (0, S1)
    else
      if c2 < 2 then
        some (0, S1)
      else
        if c2 ≤ 24 then
          if d2 < 1 then
            some (0, S1)
          else
            if d2 ≤ 6 then
              if e2 < 1 then
                some (0, S1)
              else
                if e2 ≤ 4 then
                  if f2 < 0 then
                    some (0, S1)
                  else
                    if f2 ≤ 1 then
                      pfI S1 0 8 1 fun S3 =>
                      pfI S3 0 9 a fun S4 =>
                      pfI S4 0 10 b fun S5 =>
                      pfI S5 0 11 c2 fun S6 =>
                      pfI S6 0 12 d2 fun S7 =>
                      pfI S7 0 13 e2 fun S8 =>
                      pfI S8 0 14 f2 fun S9 =>
                      pfI S9 0 15 0 fun S10 =>
                      pfI S10 0 16 0 fun S11 =>
                      caV (fX6_noPlan S11) fun S12 =>
                      some (1, S12)
                    else
                      some (0, S1)
                else
                  some (0, S1)
            else
              some (0, S1)
        else
          some (0, S1)
  else
    some (0, S1)
abbrev rmX6_wall : Room := { frames := 1, cells := 0, slots := 0, locals := 21 }
theorem iX6_wall_X6 : ∀ w ∈ wsX60, w ∈ wsX6_wall := fun w h => List.mem_cons_of_mem _ (List.mem_append_right _ h)
set_option maxHeartbeats 4000000 in
set_option maxRecDepth 100000 in
theorem kX6_wall (l : Launch) (D : va_G) (y : Cy) (g : Nat → Nat) (a : Int32) (b : Int32) (c2 : Int32) (d2 : Int32) (e2 : Int32) (f2 : Int32) (S : St) (x0 : Int32 × St) (h : fX6_wall a b c2 d2 e2 f2 S = some x0) : KI l yX6_wall wsX6_wall rmX6_wall D vwCl (tz y) (wm y g) (AM g) [.ref (g 0), .int a, .int b, .int c2, .int d2, .int e2, .int f2] S (fun r S2 => (r, S2) = x0) := by
  refine m_entryI (wm_ok y g) (by decide) rfl (Nat.le_of_ble_eq_true rfl) (lv := [(0, .ref (g 0)), (1, .int a), (2, .int b), (3, .int c2), (4, .int d2), (5, .int e2), (6, .int f2)]) rfl h ?_
  intro p e s m args below meth c hC hr hlocks
  obtain ⟨Q, hQ⟩ : ∃ Q, Q = (MQ below (va_Qi (fun r S2 => (r, S2) = x0) (Bw D vwCl (tz y) (wm y g) (AM g s.heap.size)) (AM g s.heap.size)) args s 0 0 (AM g s.heap.size)) := ⟨_, rfl⟩
  rw [← hQ]
  have hret : ∀ (v : Int32) (S2 : St) (pc : Nat) (lv : List (Nat × Value)), decode cX6_wall pc = .ok (.ireturn, 1) → narrow .boolean (.int v) = .int v → Sm p l e (headSpec wsX6_wall rmX6_wall).room s m args below meth c D vwCl (wm y g) (AM g s.heap.size) 7 Q x0 (some (v, S2)) S2 pc lv [.int v] := by
    rw [hQ]
    exact fun v S2 pc lv hd hz => m_zret hC hz hr hlocks hd
  clear hQ
  unfold fX6_wall
  refine m_aload_n hC dX6_wall_0 0 rfl ?_
  refine m_iconst hC (0) dX6_wall_1 (by decide) ?_
  refine m_putI (ty := .int) hC iX6_wall_X6 tyX6 tyX6_ok nmX6 (wm_0 y g S) rfl 28 (by decide) (List.mem_of_getElem? (i := 1) rfl) rfl rfl (by decide +kernel) rfl rfl (Nat.le_of_ble_eq_true rfl) dX6_wall_2 (wmf_0_28 y g S _) ?_
  intro S1
  refine m_aload_n hC dX6_wall_5 0 rfl ?_
  refine m_get hC iX6_wall_X6 (wm_0 y g S1) rfl 18 (by decide) (List.mem_of_getElem? (i := 2) rfl) rfl rfl dX6_wall_6 ?_
  refine m_if_ne hC 67 dX6_wall_9 (by decide) ?_ ?_
  · refine m_iconst hC (0) dX6_wall_67 (by decide) ?_
    exact hret _ _ _ _ dX6_wall_68 rfl
  · refine m_iload_n hC dX6_wall_12 1 rfl ?_
    refine m_iload_n hC dX6_wall_13 2 rfl ?_
    refine m_cIPS hC (As := [.int a, .int b]) (wm_ok y g) (va_cwS 2 hC.1.2.2.2.2 gX6_wall_X6_isPlace rfl rfl rfl (by decide +kernel) ⟨Nat.le_of_ble_eq_true rfl, Nat.le_of_ble_eq_true rfl⟩) (fun xq hq => kX6_isPlace l D y g a b S1 xq hq) rfl (Nat.le_of_ble_eq_true rfl) dX6_wall_14 ?_
    intro x2
    refine m_if_eq hC 67 dX6_wall_17 (by decide) ?_ ?_
    · refine m_iconst hC (0) dX6_wall_67 (by decide) ?_
      exact hret _ _ _ _ dX6_wall_68 rfl
    · refine m_iload_n hC dX6_wall_20 3 rfl ?_
      refine m_iconst hC (2) dX6_wall_21 (by decide) ?_
      refine m_icmp_lt hC 67 dX6_wall_22 (by decide) ?_ ?_
      · refine m_iconst hC (0) dX6_wall_67 (by decide) ?_
        exact hret _ _ _ _ dX6_wall_68 rfl
      · refine m_iload_n hC dX6_wall_25 3 rfl ?_
        refine m_bipush hC (24) dX6_wall_26 (by decide) ?_
        refine m_icmp_gt hC 67 dX6_wall_28 (by decide) ?_ ?_
        · refine m_iconst hC (0) dX6_wall_67 (by decide) ?_
          exact hret _ _ _ _ dX6_wall_68 rfl
        · refine m_iload hC dX6_wall_31 4 rfl ?_
          refine m_iconst hC (1) dX6_wall_33 (by decide) ?_
          refine m_icmp_lt hC 67 dX6_wall_34 (by decide) ?_ ?_
          · refine m_iconst hC (0) dX6_wall_67 (by decide) ?_
            exact hret _ _ _ _ dX6_wall_68 rfl
          · refine m_iload hC dX6_wall_37 4 rfl ?_
            refine m_bipush hC (6) dX6_wall_39 (by decide) ?_
            refine m_icmp_gt hC 67 dX6_wall_41 (by decide) ?_ ?_
            · refine m_iconst hC (0) dX6_wall_67 (by decide) ?_
              exact hret _ _ _ _ dX6_wall_68 rfl
            · refine m_iload hC dX6_wall_44 5 rfl ?_
              refine m_iconst hC (1) dX6_wall_46 (by decide) ?_
              refine m_icmp_lt hC 67 dX6_wall_47 (by decide) ?_ ?_
              · refine m_iconst hC (0) dX6_wall_67 (by decide) ?_
                exact hret _ _ _ _ dX6_wall_68 rfl
              · refine m_iload hC dX6_wall_50 5 rfl ?_
                refine m_iconst hC (4) dX6_wall_52 (by decide) ?_
                refine m_icmp_gt hC 67 dX6_wall_53 (by decide) ?_ ?_
                · refine m_iconst hC (0) dX6_wall_67 (by decide) ?_
                  exact hret _ _ _ _ dX6_wall_68 rfl
                · refine m_iload hC dX6_wall_56 6 rfl ?_
                  refine m_if_lt hC 67 dX6_wall_58 (by decide) ?_ ?_
                  · refine m_iconst hC (0) dX6_wall_67 (by decide) ?_
                    exact hret _ _ _ _ dX6_wall_68 rfl
                  · refine m_iload hC dX6_wall_61 6 rfl ?_
                    refine m_iconst hC (1) dX6_wall_63 (by decide) ?_
                    refine m_icmp_le hC 69 dX6_wall_64 (by decide) ?_ ?_
                    · refine m_aload_n hC dX6_wall_69 0 rfl ?_
                      refine m_iconst hC (1) dX6_wall_70 (by decide) ?_
                      refine m_putI (ty := .boolean) hC iX6_wall_X6 tyX6 tyX6_ok nmX6 (wm_0 y g S1) rfl 8 (by decide) (List.mem_of_getElem? (i := 3) rfl) rfl rfl (by decide +kernel) rfl rfl (Nat.le_of_ble_eq_true rfl) dX6_wall_71 (wmf_0_8 y g S1 _) ?_
                      intro S3
                      refine m_aload_n hC dX6_wall_74 0 rfl ?_
                      refine m_iload_n hC dX6_wall_75 1 rfl ?_
                      refine m_putI (ty := .int) hC iX6_wall_X6 tyX6 tyX6_ok nmX6 (wm_0 y g S3) rfl 9 (by decide) (List.mem_of_getElem? (i := 4) rfl) rfl rfl (by decide +kernel) rfl rfl (Nat.le_of_ble_eq_true rfl) dX6_wall_76 (wmf_0_9 y g S3 _) ?_
                      intro S4
                      refine m_aload_n hC dX6_wall_79 0 rfl ?_
                      refine m_iload_n hC dX6_wall_80 2 rfl ?_
                      refine m_putI (ty := .int) hC iX6_wall_X6 tyX6 tyX6_ok nmX6 (wm_0 y g S4) rfl 10 (by decide) (List.mem_of_getElem? (i := 5) rfl) rfl rfl (by decide +kernel) rfl rfl (Nat.le_of_ble_eq_true rfl) dX6_wall_81 (wmf_0_10 y g S4 _) ?_
                      intro S5
                      refine m_aload_n hC dX6_wall_84 0 rfl ?_
                      refine m_iload_n hC dX6_wall_85 3 rfl ?_
                      refine m_putI (ty := .int) hC iX6_wall_X6 tyX6 tyX6_ok nmX6 (wm_0 y g S5) rfl 11 (by decide) (List.mem_of_getElem? (i := 6) rfl) rfl rfl (by decide +kernel) rfl rfl (Nat.le_of_ble_eq_true rfl) dX6_wall_86 (wmf_0_11 y g S5 _) ?_
                      intro S6
                      refine m_aload_n hC dX6_wall_89 0 rfl ?_
                      refine m_iload hC dX6_wall_90 4 rfl ?_
                      refine m_putI (ty := .int) hC iX6_wall_X6 tyX6 tyX6_ok nmX6 (wm_0 y g S6) rfl 12 (by decide) (List.mem_of_getElem? (i := 7) rfl) rfl rfl (by decide +kernel) rfl rfl (Nat.le_of_ble_eq_true rfl) dX6_wall_92 (wmf_0_12 y g S6 _) ?_
                      intro S7
                      refine m_aload_n hC dX6_wall_95 0 rfl ?_
                      refine m_iload hC dX6_wall_96 5 rfl ?_
                      refine m_putI (ty := .int) hC iX6_wall_X6 tyX6 tyX6_ok nmX6 (wm_0 y g S7) rfl 13 (by decide) (List.mem_of_getElem? (i := 8) rfl) rfl rfl (by decide +kernel) rfl rfl (Nat.le_of_ble_eq_true rfl) dX6_wall_98 (wmf_0_13 y g S7 _) ?_
                      intro S8
                      refine m_aload_n hC dX6_wall_101 0 rfl ?_
                      refine m_iload hC dX6_wall_102 6 rfl ?_
                      refine m_putI (ty := .int) hC iX6_wall_X6 tyX6 tyX6_ok nmX6 (wm_0 y g S8) rfl 14 (by decide) (List.mem_of_getElem? (i := 9) rfl) rfl rfl (by decide +kernel) rfl rfl (Nat.le_of_ble_eq_true rfl) dX6_wall_104 (wmf_0_14 y g S8 _) ?_
                      intro S9
                      refine m_aload_n hC dX6_wall_107 0 rfl ?_
                      refine m_iconst hC (0) dX6_wall_108 (by decide) ?_
                      refine m_putI (ty := .int) hC iX6_wall_X6 tyX6 tyX6_ok nmX6 (wm_0 y g S9) rfl 15 (by decide) (List.mem_of_getElem? (i := 10) rfl) rfl rfl (by decide +kernel) rfl rfl (Nat.le_of_ble_eq_true rfl) dX6_wall_109 (wmf_0_15 y g S9 _) ?_
                      intro S10
                      refine m_aload_n hC dX6_wall_112 0 rfl ?_
                      refine m_iconst hC (0) dX6_wall_113 (by decide) ?_
                      refine m_putI (ty := .int) hC iX6_wall_X6 tyX6 tyX6_ok nmX6 (wm_0 y g S10) rfl 16 (by decide) (List.mem_of_getElem? (i := 11) rfl) rfl rfl (by decide +kernel) rfl rfl (Nat.le_of_ble_eq_true rfl) dX6_wall_114 (wmf_0_16 y g S10 _) ?_
                      intro S11
                      refine m_aload_n hC dX6_wall_117 0 rfl ?_
                      refine m_cVV hC (As := []) (wm_ok y g) (cwV 0 hC.1.2.2.2.2 gX6_wall_X6_noPlan rfl rfl rfl (by decide +kernel) ⟨Nat.le_of_ble_eq_true rfl, Nat.le_of_ble_eq_true rfl⟩) (wm_0 y g S11) rfl (fun xq hq => kX6_noPlan l D y g S11 xq hq) rfl (Nat.le_of_ble_eq_true rfl) dX6_wall_118 ?_
                      intro S12
                      refine m_iconst hC (1) dX6_wall_121 (by decide) ?_
                      exact hret _ _ _ _ dX6_wall_122 rfl
                    · refine m_iconst hC (0) dX6_wall_67 (by decide) ?_
                      exact hret _ _ _ _ dX6_wall_68 rfl
