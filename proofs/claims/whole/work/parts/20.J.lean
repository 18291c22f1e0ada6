def fJ6_bitCount_0f7a4 (a : Int32) : Option (Int32) :=
  nmI (a - ((usI a 1) &&& 1431655765)) fun x1 =>
  nmI ((x1 &&& 858993459) + ((usI x1 2) &&& 858993459)) fun x2 =>
  nmI ((x2 + (usI x2 4)) &&& 252645135) fun x3 =>
  nmI (x3 + (usI x3 8)) fun x4 =>
  nmI (x4 + (usI x4 16)) fun x5 =>
  some (x5 &&& 63)
abbrev rmJ6_bitCount_0f7a4 : Room := { frames := 0, cells := 0, slots := 0, locals := 0 }
set_option maxHeartbeats 4000000 in
set_option maxRecDepth 100000 in
theorem kJ6_bitCount_0f7a4 (l : Launch) (D : va_G) (y : Cy) (g : Nat → Nat) (a : Int32) (S : St) (x0 : Int32) (h : fJ6_bitCount_0f7a4 a = some x0) : KI l yJ6_bitCount_0f7a4 wsJ6_bitCount_0f7a4 rmJ6_bitCount_0f7a4 D vwCl (tz y) (wc y g) (AC g) [.int a] S (fun r S2 => r = x0 ∧ S2 = S) := by
  refine m_entryIP (wc_ok y g) (by decide) rfl (Nat.le_of_ble_eq_true rfl) (lv := [(0, .int a)]) rfl h ?_
  intro p e s m args below meth c hC hr hlocks
  obtain ⟨Q, hQ⟩ : ∃ Q, Q = (MQ below (va_Qi (fun r S2 => r = x0 ∧ S2 = S) (Bw D vwCl (tz y) (wc y g) (AC g s.heap.size)) (AC g s.heap.size)) args s 0 0 (AC g s.heap.size)) := ⟨_, rfl⟩
  rw [← hQ]
  have hret : ∀ (v : Int32) (pc : Nat) (lv : List (Nat × Value)), decode cJ6_bitCount_0f7a4 pc = .ok (.ireturn, 1) → Sm p l e (headSpec wsJ6_bitCount_0f7a4 rmJ6_bitCount_0f7a4).room s m args below meth c D vwCl (wc y g) (AC g s.heap.size) 1 Q x0 (some v) S pc lv [.int v] := by
    rw [hQ]
    exact fun v pc lv hd => m_iretP hC hr hlocks hd
  clear hQ
  unfold fJ6_bitCount_0f7a4
  refine m_iload_n hC dJ6_bitCount_0f7a4_0 0 rfl ?_
  refine m_iload_n hC dJ6_bitCount_0f7a4_1 0 rfl ?_
  refine m_iconst hC (1) dJ6_bitCount_0f7a4_2 (by decide) ?_
  refine m_iushr hC dJ6_bitCount_0f7a4_3 ?_
  refine m_ldcw hC (List.mem_of_getElem? (i := 1) rfl) dJ6_bitCount_0f7a4_4 ?_
  refine m_iand hC dJ6_bitCount_0f7a4_7 ?_
  refine m_isub hC dJ6_bitCount_0f7a4_8 ?_
  refine m_nmI ?_
  intro x1
  refine m_istore_n hC [(0, .int x1)] [0] dJ6_bitCount_0f7a4_9 (by decide) rfl rfl ?_
  refine m_iload_n hC dJ6_bitCount_0f7a4_10 0 rfl ?_
  refine m_ldcw hC (List.mem_of_getElem? (i := 2) rfl) dJ6_bitCount_0f7a4_11 ?_
  refine m_iand hC dJ6_bitCount_0f7a4_14 ?_
  refine m_iload_n hC dJ6_bitCount_0f7a4_15 0 rfl ?_
  refine m_iconst hC (2) dJ6_bitCount_0f7a4_16 (by decide) ?_
  refine m_iushr hC dJ6_bitCount_0f7a4_17 ?_
  refine m_ldcw hC (List.mem_of_getElem? (i := 2) rfl) dJ6_bitCount_0f7a4_18 ?_
  refine m_iand hC dJ6_bitCount_0f7a4_21 ?_
  refine m_iadd hC dJ6_bitCount_0f7a4_22 ?_
  refine m_nmI ?_
  intro x2
  refine m_istore_n hC [(0, .int x2)] [0] dJ6_bitCount_0f7a4_23 (by decide) rfl rfl ?_
  refine m_iload_n hC dJ6_bitCount_0f7a4_24 0 rfl ?_
  refine m_iload_n hC dJ6_bitCount_0f7a4_25 0 rfl ?_
  refine m_iconst hC (4) dJ6_bitCount_0f7a4_26 (by decide) ?_
  refine m_iushr hC dJ6_bitCount_0f7a4_27 ?_
  refine m_iadd hC dJ6_bitCount_0f7a4_28 ?_
  refine m_ldcw hC (List.mem_of_getElem? (i := 3) rfl) dJ6_bitCount_0f7a4_29 ?_
  refine m_iand hC dJ6_bitCount_0f7a4_32 ?_
  refine m_nmI ?_
  intro x3
  refine m_istore_n hC [(0, .int x3)] [0] dJ6_bitCount_0f7a4_33 (by decide) rfl rfl ?_
  refine m_iload_n hC dJ6_bitCount_0f7a4_34 0 rfl ?_
  refine m_iload_n hC dJ6_bitCount_0f7a4_35 0 rfl ?_
  refine m_bipush hC (8) dJ6_bitCount_0f7a4_36 (by decide) ?_
  refine m_iushr hC dJ6_bitCount_0f7a4_38 ?_
  refine m_iadd hC dJ6_bitCount_0f7a4_39 ?_
  refine m_nmI ?_
  intro x4
  refine m_istore_n hC [(0, .int x4)] [0] dJ6_bitCount_0f7a4_40 (by decide) rfl rfl ?_
  refine m_iload_n hC dJ6_bitCount_0f7a4_41 0 rfl ?_
  refine m_iload_n hC dJ6_bitCount_0f7a4_42 0 rfl ?_
  refine m_bipush hC (16) dJ6_bitCount_0f7a4_43 (by decide) ?_
  refine m_iushr hC dJ6_bitCount_0f7a4_45 ?_
  refine m_iadd hC dJ6_bitCount_0f7a4_46 ?_
  refine m_nmI ?_
  intro x5
  refine m_istore_n hC [(0, .int x5)] [0] dJ6_bitCount_0f7a4_47 (by decide) rfl rfl ?_
  refine m_iload_n hC dJ6_bitCount_0f7a4_48 0 rfl ?_
  refine m_bipush hC (63) dJ6_bitCount_0f7a4_49 (by decide) ?_
  refine m_iand hC dJ6_bitCount_0f7a4_51 ?_
  exact hret _ _ _ dJ6_bitCount_0f7a4_52
def fJ7_fill_53178_L5 (b : Int32) (x1 : Int32) (k : Nat) (n : Nat) (r4 : Int32 → St → Option (St)) : Int32 → St → Option (St) := fun x2 S3 =>
  if x2 < x1 then
    stI S3 k n x2 b fun S5 =>
    nmI (x2 + 1) fun x6 =>
    r4 x6 S5
  else
    some S3
def fJ7_fill_53178 (N : Nat) (k : Nat) (n : Nat) (b : Int32) (S : St) : Option (St) :=
  nmI (nI n) fun x1 =>
  itN (fun _ _ => none) (fJ7_fill_53178_L5 b x1 k n) N 0 S
abbrev rmJ7_fill_53178 : Room := { frames := 0, cells := 0, slots := 0, locals := 0 }
set_option maxHeartbeats 4000000 in
set_option maxRecDepth 100000 in
theorem kJ7_fill_53178 (l : Launch) (D : va_G) (y : Cy) (g : Nat → Nat) (N : Nat) (k : Nat) (n : Nat) (b : Int32) (ha : ∀ S : St, (wc y g S)[k]? = some (g k, .inl (y.1, n, .inl (S.1 k)))) (hset : ∀ (S : St) (f : Nat → Int32), (wc y g S).set k (g k, .inl (y.1, n, .inl f)) = wc y g (wrow S k f)) (S : St) (x0 : St) (h : fJ7_fill_53178 N k n b S = some x0) : KV l yJ7_fill_53178 wsJ7_fill_53178 rmJ7_fill_53178 D vwCl (tz y) (wc y g) (AC g) [.ref (g k), .int b] S (fun S2 => S2 = x0) := by
  refine m_entryV (wc_ok y g) (by decide) rfl (Nat.le_of_ble_eq_true rfl) (lv := [(0, .ref (g k)), (1, .int b)]) rfl h ?_
  intro p e s m args below meth c hC hr hlocks
  obtain ⟨Q, hQ⟩ : ∃ Q, Q = (MQ below (va_Qv (fun S2 => S2 = x0) (Bw D vwCl (tz y) (wc y g) (AC g s.heap.size)) (AC g s.heap.size)) args s 0 0 (AC g s.heap.size)) := ⟨_, rfl⟩
  rw [← hQ]
  have hret : ∀ (S2 : St) (pc : Nat) (lv : List (Nat × Value)), decode cJ7_fill_53178 pc = .ok (.return_, 1) → Sm p l e (headSpec wsJ7_fill_53178 rmJ7_fill_53178).room s m args below meth c D vwCl (wc y g) (AC g s.heap.size) 4 Q x0 (some S2) S2 pc lv [] := by
    rw [hQ]
    exact fun S2 pc lv hd => m_vret hC hr hlocks hd
  clear hQ
  unfold fJ7_fill_53178
  refine m_iconst hC (0) dJ7_fill_53178_0 (by decide) ?_
  refine m_istore_n hC [(0, .ref (g k)), (1, .int b), (2, .int 0)] [1, 2, 0] dJ7_fill_53178_1 (by decide) rfl rfl ?_
  refine m_aload_n hC dJ7_fill_53178_2 0 rfl ?_
  refine m_alen hC (ha S) (t0 := 0) rfl dJ7_fill_53178_3 ?_
  refine m_nmI ?_
  intro x1
  refine m_istore_n hC [(0, .ref (g k)), (1, .int b), (2, .int 0), (3, .int x1)] [1, 2, 3, 0] dJ7_fill_53178_4 (by decide) rfl rfl ?_
  refine (m_it (z := (fun _ _ => none)) (F := fJ7_fill_53178_L5 b x1 k n) N (fun r4 => ∀ (x2 : Int32) (S3 : St), Sm p l e (headSpec wsJ7_fill_53178 rmJ7_fill_53178).room s m args below meth c D vwCl (wc y g) (AC g s.heap.size) 4 Q x0 (r4 x2 S3) S3 5 [(0, .ref (g k)), (1, .int b), (2, .int x2), (3, .int x1)] []) ?_ ?_) 0 S
  · exact fun _ _ => m_none
  · intro r4 hr4 x2 S3
    unfold fJ7_fill_53178_L5
    refine m_iload_n hC dJ7_fill_53178_5 2 rfl ?_
    refine m_iload_n hC dJ7_fill_53178_6 3 rfl ?_
    refine m_icmp_ge hC 20 dJ7_fill_53178_7 (by decide) ?_ ?_
    · exact hret _ _ _ dJ7_fill_53178_20
    · refine m_aload_n hC dJ7_fill_53178_10 0 rfl ?_
      refine m_iload_n hC dJ7_fill_53178_11 2 rfl ?_
      refine m_iload_n hC dJ7_fill_53178_12 1 rfl ?_
      refine m_iast hC (ha S3) (t0 := 0) rfl (hset S3) dJ7_fill_53178_13 ?_
      intro S5
      refine m_iinc hC (fun x6 => [(0, .ref (g k)), (1, .int b), (2, .int x6), (3, .int x1)]) [1, 2, 0, 3] dJ7_fill_53178_14 (j := 2) rfl (by decide) (by decide) (fun _ => rfl) (fun _ => rfl) ?_
      intro x6
      refine m_goto hC 5 dJ7_fill_53178_17 (by decide) ?_
      exact hr4 _ _
