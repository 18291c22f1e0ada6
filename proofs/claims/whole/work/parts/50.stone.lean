def xw1 : List Cond := (vx_atS RX5 118 "java/lang/IndexOutOfBoundsException" ["java/lang/RuntimeException", "java/lang/Exception"]).filter (fun w => !goodWord w)
def xw2 : List Cond := (xs_at RX5 149 "java/util/NoSuchElementException" 13 prog_18_method_4_code ["java/lang/RuntimeException", "java/lang/Exception"]).filter (fun w => !goodWord w)
theorem xw1_c : ∀ w ∈ xw1, w.faceAtom = true ∧ w.onTables = true := by decide +kernel
theorem xw2_c : ∀ w ∈ xw2, w.faceAtom = true ∧ w.onTables = true := by decide +kernel
theorem cast_go {s U : State} (hW : s.vm.Alike U.vm) {w : Cond} (h : w.faceAtom = true ∧ w.onTables = true) (hw : w.before #[] s = true) : w.before #[] U = true :=
  va_tabs h.2 (rfl : (s.setVm U.vm).vm = U.vm) (Cond.faceAtom_setVm hW w h.1 hw)
/-- what the throwing of a Throwable needs beside the words -/
def EXT (A : Nat → Prop) (sa1 sa2 : Nat) (U : State) (H : Heap) : Prop := vk_R RX5 116 "no such stone" sa1 U ∧ vk_R RX5 147 "no such what" sa2 U ∧ vx_Zq Bundle.tN "UNASSIGNED_STACK" Bundle.steD A U H ∧ vx_Zq Bundle.tN "SUPPRESSED_SENTINEL" Bundle.listD A U H ∧ (∀ w ∈ xw1, w.before #[] U = true) ∧ (∀ w ∈ xw2, w.before #[] U = true)
theorem EXT.go {A B : Nat → Prop} {sa1 sa2 : Nat} {s U : State} {H H1 : Heap} (hW : s.WarmedH U.vm) (hk : ∀ q : Nat, q < H.size → ¬ A q → H1[q]? = H[q]?) (hAB : ∀ q, B q → A q) (h : EXT A sa1 sa2 s H) : EXT B sa1 sa2 U H1 :=
  ⟨vk_R.warm hW h.1, vk_R.warm hW h.2.1, vx_Zq.moved hW.alike ((h.2.2.1.kept hk).narrow hAB), vx_Zq.moved hW.alike ((h.2.2.2.1.kept hk).narrow hAB), fun w hw => cast_go hW.alike (xw1_c w hw) (h.2.2.2.2.1 w hw), fun w hw => cast_go hW.alike (xw2_c w hw) (h.2.2.2.2.2 w hw)⟩
theorem EXT.same {A : Nat → Prop} {sa1 sa2 : Nat} {s U : State} {H : Heap} (hv : s.vm = U.vm) (h : EXT A sa1 sa2 s H) : EXT A sa1 sa2 U H :=
  ⟨vk_R.same hv.symm h.1, vk_R.same hv.symm h.2.1, vx_Zq.moved (by rw [hv]; exact Vm.Alike.refl _) h.2.2.1, vx_Zq.moved (by rw [hv]; exact Vm.Alike.refl _) h.2.2.2.1, fun w hw => cast_go (by rw [hv]; exact Vm.Alike.refl _) (xw1_c w hw) (h.2.2.2.2.1 w hw), fun w hw => cast_go (by rw [hv]; exact Vm.Alike.refl _) (xw2_c w hw) (h.2.2.2.2.2 w hw)⟩
def fX5_stone (a : Int32) (b : Int32) (S : St) : Option (Int32 × Int32) :=
  if a < 0 then
    some (1, 0)
  else
    if a < (S.1 13 9) then
      if b = 0 then
        ldI 144 (S.1 14) a fun x1 =>
        some (0, x1)
      else
      if b = 1 then
        ldI 144 (S.1 15) a fun x2 =>
        some (0, x2)
      else
      if b = 2 then
        ldI 144 (S.1 16) a fun x3 =>
        some (0, x3)
      else
      if b = 3 then
        caP (fX1_hearting a S) fun x4 =>
        some (0, x4)
      else
      if b = 4 then
        caP (fX1_isThroughStone a S) fun x5 =>
        if x5 = 0 then
          some (0, 0)
        else
          some (0, 1)
      else
      if b = 5 then
        if (S.1 13 10) = 0 then
          some (0, 0)
        else
          ldI 144 (S.1 17) a fun x6 =>
          some (0, x6)
      else
      if b = 6 then
        caP (fX1_isStanding a S) fun x7 =>
        if x7 = 0 then
          some (0, 0)
        else
          some (0, 1)
      else
      if b = 7 then
        if (S.1 13 10) = 0 then
          some (0, (-1))
        else
          ldI 144 (S.1 18) a fun x8 =>
          some (0, x8)
      else
        some (2, 0)
    else
      some (1, 0)
abbrev rmX5_stone : Room := { frames := 6, cells := 1, slots := 6, locals := 90 }
theorem iX5_stone_X5 : ∀ w ∈ wsX50, w ∈ wsX5_stone := fun w h => List.mem_cons_of_mem _ (List.mem_append_left _ (List.mem_append_left _ (List.mem_append_left _ (List.mem_append_left _ (List.mem_append_left _ (List.mem_append_right _ h))))))
theorem iX5_stone_X1 : ∀ w ∈ wsX10, w ∈ wsX5_stone := fun w h => List.mem_cons_of_mem _ (List.mem_append_left _ (List.mem_append_left _ (List.mem_append_left _ (List.mem_append_left _ (List.mem_append_right _ h)))))
theorem iX5_stone_X4 : ∀ w ∈ wsX40, w ∈ wsX5_stone := fun w h => List.mem_cons_of_mem _ (List.mem_append_left _ (List.mem_append_left _ (List.mem_append_left _ (List.mem_append_right _ h))))
theorem iX5_stone_X3 : ∀ w ∈ wsX30, w ∈ wsX5_stone := fun w h => List.mem_cons_of_mem _ (List.mem_append_left _ (List.mem_append_left _ (List.mem_append_right _ h)))
theorem iX5_stone_w1 : ∀ w ∈ (vx_atS RX5 118 "java/lang/IndexOutOfBoundsException" ["java/lang/RuntimeException", "java/lang/Exception"]).filter goodWord, w ∈ wsX5_stone := fun w h => List.mem_cons_of_mem _ (List.mem_append_left _ (List.mem_append_right _ h))
theorem iX5_stone_w2 : ∀ w ∈ (xs_at RX5 149 "java/util/NoSuchElementException" 13 prog_18_method_4_code ["java/lang/RuntimeException", "java/lang/Exception"]).filter goodWord, w ∈ wsX5_stone := fun w h => List.mem_cons_of_mem _ (List.mem_append_right _ h)
theorem iX5_stone_g1 : ∀ w ∈ Cond.classLink RX5 114 "java/lang/IndexOutOfBoundsException" :: Cond.initialized "java/lang/IndexOutOfBoundsException" :: vx_atS RX5 118 "java/lang/IndexOutOfBoundsException" ["java/lang/RuntimeException", "java/lang/Exception"], vx_ot w = true := by decide +kernel
theorem iX5_stone_g2 : ∀ w ∈ Cond.classLink RX5 145 "java/util/NoSuchElementException" :: Cond.initialized "java/util/NoSuchElementException" :: xs_at RX5 149 "java/util/NoSuchElementException" 13 prog_18_method_4_code ["java/lang/RuntimeException", "java/lang/Exception"], vx_ot w = true := by decide +kernel
/-- what stands behind a throw of stone: the class of what was thrown, the state as it was -/
def XBs (D : va_G) (y : Cy) (g : Nat → Nat) (A : Nat → Prop) (S : St) (x0 : Int32 × Int32) : String → Unit → State → Prop := fun E _ t => ((E = "java/lang/IndexOutOfBoundsException" ∧ x0 = (1, 0)) ∨ (E = "java/util/NoSuchElementException" ∧ x0 = (2, 0))) ∧ Bw D vwCl (tz y) (wc y g) A S t
set_option maxHeartbeats 4000000 in
set_option maxRecDepth 100000 in
theorem kX5_stone (l : Launch) (hl : l.stackTraces = false) (D : va_G) (y : Cy) (g : Nat → Nat) (sa1 sa2 : Nat) (a : Int32) (b : Int32) (S : St) (x0 : Int32 × Int32) (h : fX5_stone a b S = some x0) (sz : Nat) : vx_Met l yX5_stone wsX5_stone rmX5_stone (va_Pc [.ref (g 0), .int a, .int b] (fun U => Bp D vwCl (tz y) (wc y g) sz S U ∧ EXT (AC g sz) sa1 sa2 U U.heap)) (va_Qi (fun r S2 => (0, r) = x0 ∧ S2 = S) (Bw D vwCl (tz y) (wc y g) (AC g sz)) (AC g sz)) (vx_X (fun _ => True) (XBs D y g (AC g sz) S x0) (AC g sz)) 1 6 (AC g sz) := by
  refine vx_ofW (by decide) rfl ?_
  intro p e s m args below meth c s₁ B hml hnoex hv
  obtain ⟨hargs, ⟨hsz, hP, hK, hD0⟩, hE⟩ := hv
  subst hsz
  have hl0 := lv_entry [Value.ref (g 0), .int a, .int b] (n := 3) (Nat.le_of_ble_eq_true rfl)
  have hC : Cx p m c cX5_stone 3 s args wsX5_stone yX5_stone.cls D vwCl (tz y) := ⟨⟨B.exec, B.bytes, hml, findClass_of_methodNamed B.named, atoms_spec (ws := wsX5_stone) B.pre⟩, hK⟩
  have hr := B.returns
  have hlocks := B.notSynchronized
  have hxt : ∀ q : Nat, ∀ x ∈ c.exceptionTable.toList, covers x q = false := fun q x hx => (hnoex x hx).elim
  obtain ⟨Q, hQ⟩ : ∃ Q, Q = (vx_MQ below (va_Qi (fun r S2 => (0, r) = x0 ∧ S2 = S) (Bw D vwCl (tz y) (wc y g) (AC g s.heap.size)) (AC g s.heap.size)) (vx_X (fun _ => True) (XBs D y g (AC g s.heap.size) S x0) (AC g s.heap.size)) args s 1 6 (AC g s.heap.size)) := ⟨_, rfl⟩
  rw [← hQ]
  have hret : ∀ (v : Int32) (pc : Nat) (lv : List (Nat × Value)), decode cX5_stone pc = .ok (.ireturn, 1) → Sm p l e (headSpec wsX5_stone rmX5_stone).room s m args below meth c D vwCl (wc y g) (AC g s.heap.size) 3 Q x0 (some (0, v)) S pc lv [.int v] := by
    intro v pc lv hdg hd H locs hP hD hS ls hl9
    rw [hQ]
    refine vx_ret (W.widen (k := 1) (n := 6) (by omega) (by omega) ?_)
    exact W.iret hC.1.1 hC.1.2.1 hr (fun t ht hW => ⟨⟨v, S, rfl, ⟨Option.some.inj hd, rfl⟩, by rw [ht]; exact hP, va_K.moved hW.alike hC.2, hD⟩, hS.F ht⟩) hS.2.2 hdg hlocks
  have hxs : ∀ (E : String) (H : Heap) (locs : List Loc), ((E = "java/lang/IndexOutOfBoundsException" ∧ x0 = (1, 0)) ∨ (E = "java/util/NoSuchElementException" ∧ x0 = (2, 0))) → va_P D vwCl (wc y g S) H → va_D (AC g s.heap.size) (wc y g S) → va_S (AC g s.heap.size) s.heap H locs → ∀ t : State, s.vm.Alike t.vm → H.size ≤ t.heap.size → (∀ q : Nat, q < H.size → t.heap[q]? = H[q]?) → vx_X (fun _ => True) (XBs D y g (AC g s.heap.size) S x0) (AC g s.heap.size) E s t := by
    intro E H locs hEx hP hD hS t hal hsz hk
    refine ⟨(), trivial, ⟨hEx, hP.kept (fun k q hq => hk q.1 ((hP k q hq).lt)), va_K.moved hal hC.2, hD⟩, Nat.le_trans hS.1 hsz, fun q h1 h2 => ?_⟩
    rw [hk q (Nat.lt_of_lt_of_le h1 hS.1)]
    exact hS.2.1 q h1 h2
  have hth1 : ∀ lv : List (Nat × Value), Sm p l e (headSpec wsX5_stone rmX5_stone).room s m args below meth c D vwCl (wc y g) (AC g s.heap.size) 3 Q x0 (some (1, 0)) S 15 lv [] := by
    intro lv hd H locs hP hD hS ls hl9
    rw [hQ]
    exact vx_throwS (own := RX5) (cls := "java/lang/IndexOutOfBoundsException") (text := "no such stone") (names := ["java/lang/RuntimeException", "java/lang/Exception"]) (sa := sa1) hC.1.1 hC.1.2.1 hl hC.1.2.2.2.1 (by decide +kernel) (by decide +kernel) (hC.1.2.2.2.2 _ (List.mem_of_getElem? (i := 1) rfl)) (hC.1.2.2.2.2 _ (List.mem_of_getElem? (i := 2) rfl)) hE.1 (vx_hat (fun w hw => hC.1.2.2.2.2 w (iX5_stone_w1 w hw)) (B := xw1) (fun w hw => hw) (fun w hw => va_tabs (xw1_c w hw).2 rfl (hE.2.2.2.2.1 w hw))) iX5_stone_g1 hE.2.2.1 hE.2.2.2.1 hS (hl9.1.trans hC.1.2.2.1.symm) dX5_stone_15 dX5_stone_18 dX5_stone_19 dX5_stone_21 dX5_stone_24 (hxt _) (Nat.le_of_ble_eq_true rfl) (Nat.le_of_ble_eq_true rfl) (Nat.le_of_ble_eq_true rfl) (Nat.le_of_ble_eq_true rfl) hlocks (hxs _ H locs (Or.inl ⟨rfl, (Option.some.inj hd).symm⟩) hP hD hS) hS.2.2 (by omega) (by omega)
  have hth2 : ∀ lv : List (Nat × Value), Sm p l e (headSpec wsX5_stone rmX5_stone).room s m args below meth c D vwCl (wc y g) (AC g s.heap.size) 3 Q x0 (some (2, 0)) S 193 lv [] := by
    intro lv hd H locs hP hD hS ls hl9
    rw [hQ]
    exact xs_throw (own := RX5) (cls := "java/util/NoSuchElementException") (text := "no such what") (names := ["java/lang/RuntimeException", "java/lang/Exception"]) (sa := sa2) (ix := 13) (rx := prog_18_method_4_code) hC.1.1 hC.1.2.1 hl (by decide +kernel) (by decide +kernel) (by decide +kernel) (by decide +kernel) hC.1.2.2.2.1 (by decide +kernel) (by decide +kernel) (hC.1.2.2.2.2 _ (List.mem_of_getElem? (i := 3) rfl)) (hC.1.2.2.2.2 _ (List.mem_of_getElem? (i := 4) rfl)) hE.2.1 (vx_hat (fun w hw => hC.1.2.2.2.2 w (iX5_stone_w2 w hw)) (B := xw2) (fun w hw => hw) (fun w hw => va_tabs (xw2_c w hw).2 rfl (hE.2.2.2.2.2 w hw))) iX5_stone_g2 hE.2.2.1 hE.2.2.2.1 hS (hl9.1.trans hC.1.2.2.1.symm) dX5_stone_193 dX5_stone_196 dX5_stone_197 dX5_stone_199 dX5_stone_202 (hxt _) (Nat.le_of_ble_eq_true rfl) (Nat.le_of_ble_eq_true rfl) (Nat.le_of_ble_eq_true rfl) (Nat.le_of_ble_eq_true rfl) hlocks (hxs _ H locs (Or.inr ⟨rfl, (Option.some.inj hd).symm⟩) hP hD hS) hS.2.2 (by omega) (by omega)
  clear hQ hxs
  have hgo : Sm p l e (headSpec wsX5_stone rmX5_stone).room s m args below meth c D vwCl (wc y g) (AC g s.heap.size) 3 Q x0 (fX5_stone a b S) S 0 [(0, .ref (g 0)), (1, .int a), (2, .int b)] [] := by
    unfold fX5_stone
    refine m_iload_n hC dX5_stone_0 1 rfl ?_
    refine m_if_lt hC 15 dX5_stone_1 (by decide) ?_ ?_
    · exact hth1 _
    · refine m_iload_n hC dX5_stone_4 1 rfl ?_
      refine m_aload_n hC dX5_stone_5 0 rfl ?_
      refine m_get hC iX5_stone_X5 (wc_0 y g S) rfl 2 (by decide) (List.mem_of_getElem? (i := 5) rfl) rfl rfl dX5_stone_6 ?_
      refine m_get hC iX5_stone_X1 (wc_13 y g S) rfl 9 (by decide) (List.mem_of_getElem? (i := 6) rfl) rfl rfl dX5_stone_9 ?_
      refine m_icmp_lt hC 25 dX5_stone_12 (by decide) ?_ ?_
      · refine m_iload_n hC dX5_stone_25 2 rfl ?_
        refine m_if (fun hq => ?_) (fun hq0 => ?_)
        · refine m_tin hC (0) 72 (by rw [hq]; decide) dX5_stone_26 (by decide) (by decide) rfl (by decide) ?_
          refine m_aload_n hC dX5_stone_72 0 rfl ?_
          refine m_get hC iX5_stone_X5 (wc_0 y g S) rfl 2 (by decide) (List.mem_of_getElem? (i := 5) rfl) rfl rfl dX5_stone_73 ?_
          refine m_get hC iX5_stone_X1 (wc_13 y g S) rfl 2 (by decide) (List.mem_of_getElem? (i := 7) rfl) rfl rfl dX5_stone_76 ?_
          refine m_iload_n hC dX5_stone_79 1 rfl ?_
          refine m_iald hC (wc_14 y g S) (t0 := 0) rfl dX5_stone_80 ?_
          intro x1
          exact hret _ _ _ dX5_stone_81
        refine m_if (fun hq => ?_) (fun hq1 => ?_)
        · refine m_tin hC (1) 82 (by rw [hq]; decide) dX5_stone_26 (by decide) (by decide) rfl (by decide) ?_
          refine m_aload_n hC dX5_stone_82 0 rfl ?_
          refine m_get hC iX5_stone_X5 (wc_0 y g S) rfl 2 (by decide) (List.mem_of_getElem? (i := 5) rfl) rfl rfl dX5_stone_83 ?_
          refine m_get hC iX5_stone_X1 (wc_13 y g S) rfl 3 (by decide) (List.mem_of_getElem? (i := 8) rfl) rfl rfl dX5_stone_86 ?_
          refine m_iload_n hC dX5_stone_89 1 rfl ?_
          refine m_iald hC (wc_15 y g S) (t0 := 0) rfl dX5_stone_90 ?_
          intro x2
          exact hret _ _ _ dX5_stone_91
        refine m_if (fun hq => ?_) (fun hq2 => ?_)
        · refine m_tin hC (2) 92 (by rw [hq]; decide) dX5_stone_26 (by decide) (by decide) rfl (by decide) ?_
          refine m_aload_n hC dX5_stone_92 0 rfl ?_
          refine m_get hC iX5_stone_X5 (wc_0 y g S) rfl 2 (by decide) (List.mem_of_getElem? (i := 5) rfl) rfl rfl dX5_stone_93 ?_
          refine m_get hC iX5_stone_X1 (wc_13 y g S) rfl 4 (by decide) (List.mem_of_getElem? (i := 9) rfl) rfl rfl dX5_stone_96 ?_
          refine m_iload_n hC dX5_stone_99 1 rfl ?_
          refine m_iald hC (wc_16 y g S) (t0 := 0) rfl dX5_stone_100 ?_
          intro x3
          exact hret _ _ _ dX5_stone_101
        refine m_if (fun hq => ?_) (fun hq3 => ?_)
        · refine m_tin hC (3) 102 (by rw [hq]; decide) dX5_stone_26 (by decide) (by decide) rfl (by decide) ?_
          refine m_aload_n hC dX5_stone_102 0 rfl ?_
          refine m_get hC iX5_stone_X5 (wc_0 y g S) rfl 2 (by decide) (List.mem_of_getElem? (i := 5) rfl) rfl rfl dX5_stone_103 ?_
          refine m_iload_n hC dX5_stone_106 1 rfl ?_
          refine m_cIPV hC (As := [.int a]) (wc_ok y g) (cwV 1 hC.1.2.2.2.2 gX5_stone_X1_hearting rfl rfl rfl (by decide +kernel) ⟨Nat.le_of_ble_eq_true rfl, Nat.le_of_ble_eq_true rfl⟩) (wc_13 y g S) rfl (fun xq hq => kX1_hearting l D y g a S xq hq) rfl (Nat.le_of_ble_eq_true rfl) dX5_stone_107 ?_
          intro x4
          exact hret _ _ _ dX5_stone_110
        refine m_if (fun hq => ?_) (fun hq4 => ?_)
        · refine m_tin hC (4) 111 (by rw [hq]; decide) dX5_stone_26 (by decide) (by decide) rfl (by decide) ?_
          refine m_aload_n hC dX5_stone_111 0 rfl ?_
          refine m_get hC iX5_stone_X5 (wc_0 y g S) rfl 2 (by decide) (List.mem_of_getElem? (i := 5) rfl) rfl rfl dX5_stone_112 ?_
          refine m_iload_n hC dX5_stone_115 1 rfl ?_
          refine m_cIPV hC (As := [.int a]) (wc_ok y g) (cwV 1 hC.1.2.2.2.2 gX5_stone_X1_isThroughStone rfl rfl rfl (by decide +kernel) ⟨Nat.le_of_ble_eq_true rfl, Nat.le_of_ble_eq_true rfl⟩) (wc_13 y g S) rfl (fun xq hq => kX1_isThroughStone l D y g a S xq hq) rfl (Nat.le_of_ble_eq_true rfl) dX5_stone_116 ?_
          intro x5
          refine m_if_eq hC 126 dX5_stone_119 (by decide) ?_ ?_
          · refine m_iconst hC (0) dX5_stone_126 (by decide) ?_
            exact hret _ _ _ dX5_stone_127
          · refine m_iconst hC (1) dX5_stone_122 (by decide) ?_
            refine m_goto hC 127 dX5_stone_123 (by decide) ?_
            exact hret _ _ _ dX5_stone_127
        refine m_if (fun hq => ?_) (fun hq5 => ?_)
        · refine m_tin hC (5) 128 (by rw [hq]; decide) dX5_stone_26 (by decide) (by decide) rfl (by decide) ?_
          refine m_aload_n hC dX5_stone_128 0 rfl ?_
          refine m_get hC iX5_stone_X5 (wc_0 y g S) rfl 2 (by decide) (List.mem_of_getElem? (i := 5) rfl) rfl rfl dX5_stone_129 ?_
          refine m_get hC iX5_stone_X1 (wc_13 y g S) rfl 10 (by decide) (List.mem_of_getElem? (i := 10) rfl) rfl rfl dX5_stone_132 ?_
          refine m_if_eq hC 150 dX5_stone_135 (by decide) ?_ ?_
          · refine m_iconst hC (0) dX5_stone_150 (by decide) ?_
            exact hret _ _ _ dX5_stone_151
          · refine m_aload_n hC dX5_stone_138 0 rfl ?_
            refine m_get hC iX5_stone_X5 (wc_0 y g S) rfl 2 (by decide) (List.mem_of_getElem? (i := 5) rfl) rfl rfl dX5_stone_139 ?_
            refine m_get hC iX5_stone_X1 (wc_13 y g S) rfl 5 (by decide) (List.mem_of_getElem? (i := 11) rfl) rfl rfl dX5_stone_142 ?_
            refine m_iload_n hC dX5_stone_145 1 rfl ?_
            refine m_iald hC (wc_17 y g S) (t0 := 0) rfl dX5_stone_146 ?_
            intro x6
            refine m_goto hC 151 dX5_stone_147 (by decide) ?_
            exact hret _ _ _ dX5_stone_151
        refine m_if (fun hq => ?_) (fun hq6 => ?_)
        · refine m_tin hC (6) 152 (by rw [hq]; decide) dX5_stone_26 (by decide) (by decide) rfl (by decide) ?_
          refine m_aload_n hC dX5_stone_152 0 rfl ?_
          refine m_get hC iX5_stone_X5 (wc_0 y g S) rfl 2 (by decide) (List.mem_of_getElem? (i := 5) rfl) rfl rfl dX5_stone_153 ?_
          refine m_iload_n hC dX5_stone_156 1 rfl ?_
          refine m_cIPV hC (As := [.int a]) (wc_ok y g) (cwV 1 hC.1.2.2.2.2 gX5_stone_X1_isStanding rfl rfl rfl (by decide +kernel) ⟨Nat.le_of_ble_eq_true rfl, Nat.le_of_ble_eq_true rfl⟩) (wc_13 y g S) rfl (fun xq hq => kX1_isStanding l D y g a S xq hq) rfl (Nat.le_of_ble_eq_true rfl) dX5_stone_157 ?_
          intro x7
          refine m_if_eq hC 167 dX5_stone_160 (by decide) ?_ ?_
          · refine m_iconst hC (0) dX5_stone_167 (by decide) ?_
            exact hret _ _ _ dX5_stone_168
          · refine m_iconst hC (1) dX5_stone_163 (by decide) ?_
            refine m_goto hC 168 dX5_stone_164 (by decide) ?_
            exact hret _ _ _ dX5_stone_168
        refine m_if (fun hq => ?_) (fun hq7 => ?_)
        · refine m_tin hC (7) 169 (by rw [hq]; decide) dX5_stone_26 (by decide) (by decide) rfl (by decide) ?_
          refine m_aload_n hC dX5_stone_169 0 rfl ?_
          refine m_get hC iX5_stone_X5 (wc_0 y g S) rfl 2 (by decide) (List.mem_of_getElem? (i := 5) rfl) rfl rfl dX5_stone_170 ?_
          refine m_get hC iX5_stone_X1 (wc_13 y g S) rfl 10 (by decide) (List.mem_of_getElem? (i := 10) rfl) rfl rfl dX5_stone_173 ?_
          refine m_if_eq hC 191 dX5_stone_176 (by decide) ?_ ?_
          · refine m_iconst hC (-1) dX5_stone_191 (by decide) ?_
            exact hret _ _ _ dX5_stone_192
          · refine m_aload_n hC dX5_stone_179 0 rfl ?_
            refine m_get hC iX5_stone_X5 (wc_0 y g S) rfl 2 (by decide) (List.mem_of_getElem? (i := 5) rfl) rfl rfl dX5_stone_180 ?_
            refine m_get hC iX5_stone_X1 (wc_13 y g S) rfl 6 (by decide) (List.mem_of_getElem? (i := 12) rfl) rfl rfl dX5_stone_183 ?_
            refine m_iload_n hC dX5_stone_186 1 rfl ?_
            refine m_iald hC (wc_18 y g S) (t0 := 0) rfl dX5_stone_187 ?_
            intro x8
            refine m_goto hC 192 dX5_stone_188 (by decide) ?_
            exact hret _ _ _ dX5_stone_192
        refine m_tout hC 193 dX5_stone_26 (by have e0 := lv_neT (a := 0) hq0 (by decide); have e1 := lv_neT (a := 1) hq1 (by decide); have e2 := lv_neT (a := 2) hq2 (by decide); have e3 := lv_neT (a := 3) hq3 (by decide); have e4 := lv_neT (a := 4) hq4 (by decide); have e5 := lv_neT (a := 5) hq5 (by decide); have e6 := lv_neT (a := 6) hq6 (by decide); have e7 := lv_neT (a := 7) hq7 (by decide); omega) (by decide) ?_
        exact hth2 _
      · exact hth1 _
  have he : entryFrame m args 3 = F0 m 0 ((lg_sl [Value.ref (g 0), .int a, .int b] ++ List.replicate (3 - (lg_sl [Value.ref (g 0), .int a, .int b]).length) Slot.unset).toArray) [] := by rw [hargs]; exact lg_entry_eq _ _ _
  rw [he]
  exact hgo h s.heap [] hP ⟨hD0.1, fun k q hk => (wc_ok y g).1 S k q hk _⟩ va_S.rf _ hl0
