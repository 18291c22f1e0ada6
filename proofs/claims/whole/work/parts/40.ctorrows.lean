def va_AOA (ty : FieldType) (U : State) : Prop := (Cond.arrayOver (.array ty)).before #[] U = true
theorem va_AOA.use {ty : FieldType} {A : Array Value} {U : State} (h : va_AOA ty U) : (Cond.arrayOver (.array ty)).before A U = true := h
theorem va_AOA.moved {ty : FieldType} {u U : State} (hvm : u.vm.Alike U.vm) (h : va_AOA ty u) : va_AOA ty U := arrayOver_alikeB hvm h
/-! ===== BEGIN new T[n][m]: the outer array a place, the inner ones among the pooled ===== -/
/-- f, but v at every address of l -/
def vr_up {α : Type} (f : Nat → α) (l : List Nat) (v : α) : Nat → α := fun a => if a ∈ l then v else f a
theorem vr_up_in {α : Type} {f : Nat → α} {l : List Nat} {v : α} {a : Nat} (h : a ∈ l) : vr_up f l v a = v := if_pos h
theorem vr_up_ne {α : Type} {f : Nat → α} {l : List Nat} {v : α} {a : Nat} (h : a ∉ l) : vr_up f l v a = f a := if_neg h
theorem vr_rows {L l : List Nat} {f : Nat → va_E} {e : va_E} (h : ∀ a, a ∈ l → a ∉ L) : va_pl L f ++ l.map (fun a => (a, e)) = va_pl (L ++ l) (vr_up f l e) := by
  unfold va_pl
  rw [List.map_append]
  congr 1
  · apply List.map_congr_left
    intro a ha
    rw [vr_up_ne (fun q => h a q ha)]
  · apply List.map_congr_left
    intro a ha
    rw [vr_up_in ha]
theorem vr_lay {X rows : va_W} {x : Nat × va_E} {pl : va_W} {D : va_G} {cl : List vw_C} {H : Heap} (hP : va_P D cl (((X ++ pl) ++ [x]) ++ rows) H) : va_P D cl ((X ++ [x]) ++ (pl ++ rows)) H := by
  rw [List.append_assoc (X ++ pl)] at hP
  have h := va_P.swap hP
  rw [← List.append_assoc X] at h
  have h2 := va_P.swap h
  rw [List.append_assoc (X ++ [x])] at h2
  exact h2
theorem vr_layD {X rows : va_W} {x : Nat × va_E} {pl : va_W} {A : Nat → Prop} (hD : va_D A (((X ++ pl) ++ [x]) ++ rows)) : va_D A ((X ++ [x]) ++ (pl ++ rows)) := by
  rw [List.append_assoc (X ++ pl)] at hD
  have h := va_D.swap hD
  rw [← List.append_assoc X] at h
  have h2 := va_D.swap h
  rw [List.append_assoc (X ++ [x])] at h2
  exact h2
theorem vr_outer (c : ClassId) (N h0 : Nat) : ∀ i : Nat, Jvm.Free.Multi.outerC c N h0 i = arrV c N (fun j => va_rf (if j < i then some (h0 + 1 + j) else none))
  | 0 => by
    show ({ cls := c, slots := Array.replicate N .null, vm := .none } : Cell) = _
    rw [arrV_new]
    refine congrArg (arrV c N) (funext fun j => ?_)
    simp [va_rf]
  | i + 1 => by
    show (Jvm.Free.Multi.outerC c N h0 i).setSlot i (.ref (h0 + 1 + i)) = _
    rw [vr_outer c N h0 i, arrV_store]
    refine congrArg (arrV c N) (funext fun j => ?_)
    by_cases e : j = i
    · subst e
      simp [updV, va_rf]
    · by_cases h : j < i
      · simp [updV, e, h, Nat.lt_succ_of_lt h]
      · simp [updV, e, h, show ¬ j < i + 1 by omega]
section VGM
variable {p : Program} {l : Launch} {e : Env} {R : Room} {s : State} {m : MethodId} {args : Array Value} {below : List Frame} {meth : Method} {c : Code} {H : Heap} {locs : List Loc} {cells slots : Nat} {Q : State → Prop}
variable {cc : ByteArray} {pc : Nat} {ls : Array Slot} {rest : List Value} {D : va_G} {cl : List vw_C} {A : Nat → Prop} {a : Nat} {tys : List (ClassId × FieldType)} {ws : va_W} {H0 : Heap}
theorem va_mna {X : va_W} {L : List Nat} {f : Nat → va_E} {cc : ByteArray} (hexec : p.tables.exec = Jvm.exec) (hb : c.code = cc) {own : String} {index : Nat} {ty : FieldType} {cy : ClassId} (hown : s.vm.findClass own = some m.cls) (hclink : (Cond.classLink own index ("[" ++ (FieldType.array ty).toString)).before args s = true) (hover : va_AOA ty s) (harr : (Cond.arrayClass ty).before args s = true) (hcy : s.vm.findClass (FieldType.array ty).toString = some cy)
    (hK : va_K D cl tys s) (hP : va_P D cl (X ++ va_pl L f) H) (hD : va_D A (X ++ va_pl L f)) (hS : va_S A H0 H locs) (hA : ∀ q, H0.size ≤ q → A q) {n k : Int32} {N' K' : Nat} {z : vp_A} (hn : ¬ n < 0) (hk : ¬ k < 0) (hN : n.toNatClampNeg = N') (hM : k.toNatClampNeg = K')
    (hb1 : N' * 4 ≤ 536870912) (hb2 : K' * componentBytes ty ≤ 536870912) (hb3 : K' ≤ 536870912) (hdf : fits ty (defaultValue ty) = true) (hdd : (defaultValue ty).isDefault = true) (hcells : cells + (1 + N') ≤ R.cells) (hslots : slots + (N' + N' * K') ≤ R.slots) (hz : ∀ c : ClassId, Jvm.Free.Multi.innerC c K' (defaultValue ty) = vp_cell c z) (hdg : decode cc pc = .ok (.multianewarray index 2, 4))
    (kk : ∀ (q : Nat) (r : Nat → Nat) (cA : ClassId) (H1 : Heap), (∀ i j : Nat, i < N' → j < N' → r i = r j → i = j) → (∀ i : Nat, i < N' → r i ∉ L) → va_K D cl (tys ++ [(cA, .array ty)]) s →
      va_P D cl ((X ++ [(q, .inl (cA, N', .inr (.inr (.inr (.inr (fun i => if i < N' then some (r i) else none))))))]) ++ va_pl (L ++ (List.range N').map r) (vr_up f ((List.range N').map r) (.inl (cy, z)))) H1 → va_D A ((X ++ [(q, .inl (cA, N', .inr (.inr (.inr (.inr (fun i => if i < N' then some (r i) else none))))))]) ++ va_pl (L ++ (List.range N').map r) (vr_up f ((List.range N').map r) (.inl (cy, z)))) → va_S A H0 H1 locs →
      W p l e R s m args below meth c H1 locs (cells + 1 + N') (slots + N' + N' * K') Q (F0 m (pc + 4) ls (.ref q :: rest))) : W p l e R s m args below meth c H locs cells slots Q (F0 m pc ls (.int k :: .int n :: rest)) := by
  subst hN
  subst hM
  intro T hT Xs
  obtain ⟨vm₁, cA, comp, -, fA, fC, hO, -, X', step⟩ := Stand.multianewarray2F Xs hexec hown hclink (va_AOA.use hover) harr (g := F0 m pc ls (.int k :: .int n :: rest)) rfl (by rw [hb]; exact hdg) rfl hn hk hb1 hb2 hb3 hdf hdd hcells hslots
  have ec : some cy = some comp := hcy.symm.trans fC
  cases ec
  generalize hF : Jvm.Free.Multi.fill (T.setVm vm₁) cA cy n.toNatClampNeg k.toNatClampNeg (defaultValue ty) n.toNatClampNeg = F at X' step
  have hTh : (T.setVm vm₁).heap = H := hT
  obtain ⟨f1, f2, -, -⟩ := Jvm.Free.Multi.fill_facts (T.setVm vm₁) cA cy n.toNatClampNeg k.toNatClampNeg (defaultValue ty) n.toNatClampNeg
  rw [hF, hTh] at f1 f2
  have hold : ∀ x : Nat, x < H.size → F.heap[x]? = H[x]? := fun x hx => by
    have := Jvm.Free.Multi.fill_old (T.setVm vm₁) cA cy n.toNatClampNeg k.toNatClampNeg (defaultValue ty) (a := x) (by rw [hTh]; exact hx) n.toNatClampNeg
    rw [hF, hTh] at this
    exact this
  have hrow : ∀ j : Nat, j < n.toNatClampNeg → F.heap[H.size + 1 + j]? = some (vp_cell cy z) := fun j hj => by
    have := Jvm.Free.Multi.fill_inner (T.setVm vm₁) cA cy n.toNatClampNeg k.toNatClampNeg (defaultValue ty) n.toNatClampNeg j hj
    rw [hF, hTh, hz] at this
    exact this
  have hout : Jvm.Free.Multi.outerC cA n.toNatClampNeg H.size n.toNatClampNeg = vp_cell cA (n.toNatClampNeg, .inr (.inr (.inr (.inr (fun i => if i < n.toNatClampNeg then some (H.size + 1 + i) else none))))) := by
    rw [vp_cell_q]
    exact vr_outer cA n.toNatClampNeg H.size n.toNatClampNeg
  rw [hout] at f2
  have hlt : ∀ a, a ∈ L → a < H.size := fun a ha => by
    obtain ⟨k9, hk9⟩ := va_pl_get (X := X) (f := f) ha
    exact (hP k9 _ hk9).lt
  have hnl : ∀ i : Nat, i < n.toNatClampNeg → H.size + 1 + i ∉ L := fun i _ h => by
    have := hlt _ h
    omega
  have hnm : ∀ a, a ∈ (List.range n.toNatClampNeg).map (fun i => H.size + 1 + i) → a ∉ L := fun a ha h => by
    obtain ⟨i, -, rfl⟩ := List.mem_map.mp ha
    have := hlt _ h
    omega
  have hP0 : va_P D cl (X ++ va_pl L f) F.heap := hP.kept (fun k9 x hx => hold x.1 ((hP k9 x hx).lt))
  have hP1 : va_P D cl ((X ++ va_pl L f) ++ [(H.size, .inl (cA, n.toNatClampNeg, .inr (.inr (.inr (.inr (fun i => if i < n.toNatClampNeg then some (H.size + 1 + i) else none))))))]) F.heap := hP0.app (fun k9 x hx => by
    have h0 : k9 < 1 := (List.getElem?_eq_some_iff.mp hx).1
    rw [show k9 = 0 by omega] at hx
    cases hx
    exact f2)
  have hP2 : va_P D cl (((X ++ va_pl L f) ++ [(H.size, .inl (cA, n.toNatClampNeg, .inr (.inr (.inr (.inr (fun i => if i < n.toNatClampNeg then some (H.size + 1 + i) else none))))))]) ++ ((List.range n.toNatClampNeg).map (fun i => H.size + 1 + i)).map (fun a => (a, .inl (cy, z)))) F.heap := hP1.app (fun k9 x hx => by
    obtain ⟨a, ha, rfl⟩ := List.mem_map.mp (List.mem_of_getElem? hx)
    obtain ⟨i, hi, rfl⟩ := List.mem_map.mp ha
    exact hrow i (List.mem_range.mp hi))
  have hD2 : va_D A (((X ++ va_pl L f) ++ [(H.size, .inl (cA, n.toNatClampNeg, .inr (.inr (.inr (.inr (fun i => if i < n.toNatClampNeg then some (H.size + 1 + i) else none))))))]) ++ ((List.range n.toNatClampNeg).map (fun i => H.size + 1 + i)).map (fun a => (a, .inl (cy, z)))) := by
    have hD1 := hD.push (e := .inl (cA, n.toNatClampNeg, .inr (.inr (.inr (.inr (fun i => if i < n.toNatClampNeg then some (H.size + 1 + i) else none)))))) hP rfl (hA _ hS.1)
    generalize hW1 : (X ++ va_pl L f) ++ [(H.size, .inl (cA, n.toNatClampNeg, .inr (.inr (.inr (.inr (fun i => if i < n.toNatClampNeg then some (H.size + 1 + i) else none))))))] = W1 at hD1 hP1 ⊢
    have hle : ∀ (k9 : Nat) (x : Nat × va_E), W1[k9]? = some x → x.1 ≤ H.size := fun k9 x hx => by
      rw [← hW1] at hx
      by_cases hl : k9 < (X ++ va_pl L f).length
      · rw [List.getElem?_append_left hl] at hx
        exact Nat.le_of_lt ((hP k9 x hx).lt)
      · rw [List.getElem?_append_right (by omega)] at hx
        have h0 : k9 - (X ++ va_pl L f).length < 1 := (List.getElem?_eq_some_iff.mp hx).1
        rw [show k9 - (X ++ va_pl L f).length = 0 by omega] at hx
        cases hx
        exact Nat.le_refl _
    have hr : ∀ (k9 : Nat) (x : Nat × va_E), (((List.range n.toNatClampNeg).map (fun i => H.size + 1 + i)).map (fun a => ((a, .inl (cy, z)) : Nat × va_E)))[k9]? = some x → x.1 = H.size + 1 + k9 := fun k9 x hx => by
      rw [List.getElem?_map, List.getElem?_map] at hx
      by_cases h9 : k9 < n.toNatClampNeg
      · rw [List.getElem?_range h9] at hx
        cases hx
        rfl
      · have hn0 : (List.range n.toNatClampNeg)[k9]? = none := List.getElem?_eq_none (by rw [List.length_range]; omega)
        rw [hn0] at hx
        cases hx
    refine ⟨fun i j x y hi hj hxy => ?_, fun k9 x hx => ?_⟩
    · by_cases h1 : i < W1.length <;> by_cases h2 : j < W1.length
      · rw [List.getElem?_append_left h1] at hi
        rw [List.getElem?_append_left h2] at hj
        exact hD1.1 i j x y hi hj hxy
      · rw [List.getElem?_append_left h1] at hi
        rw [List.getElem?_append_right (by omega)] at hj
        have := hle _ _ hi
        have := hr _ _ hj
        omega
      · rw [List.getElem?_append_right (by omega)] at hi
        rw [List.getElem?_append_left h2] at hj
        have := hle _ _ hj
        have := hr _ _ hi
        omega
      · rw [List.getElem?_append_right (by omega)] at hi hj
        have := hr _ _ hi
        have := hr _ _ hj
        omega
    · by_cases h1 : k9 < W1.length
      · rw [List.getElem?_append_left h1] at hx
        exact hD1.2 k9 x hx
      · rw [List.getElem?_append_right (by omega)] at hx
        have := hr _ _ hx
        exact hA _ (by have := hS.1; omega)
  have hAr : ArrOfT s cA (.array ty) := fun N9 z9 => by
    obtain ⟨-, k9, hk9, cm9, hkk9⟩ := (hO 0 0 0).1
    exact ⟨(fun q hq => by cases hq), k9, hk9, cm9, hkk9⟩
  have hK2 : va_K D cl (tys ++ [(cA, .array ty)]) s := ⟨hK.1, fun k9 x hx => by
    by_cases hl : k9 < tys.length
    · rw [List.getElem?_append_left hl] at hx
      exact hK.2 k9 x hx
    · rw [List.getElem?_append_right (by omega)] at hx
      have h0 : k9 - tys.length < 1 := (List.getElem?_eq_some_iff.mp hx).1
      rw [show k9 - tys.length = 0 by omega] at hx
      cases hx
      exact ⟨hAr, fA⟩⟩
  obtain ⟨t, a1, b1⟩ := kk H.size (fun i => H.size + 1 + i) cA F.heap (fun i j _ _ h => by have h9 : H.size + 1 + i = H.size + 1 + j := h; omega) hnl hK2 (by rw [← vr_rows hnm]; exact vr_lay hP2) (by rw [← vr_rows hnm]; exact vr_layD hD2) ⟨by rw [f1]; have := hS.1; omega, fun x h1 h2 => (hold x (Nat.lt_of_lt_of_le h1 hS.1)).trans (hS.2.1 x h1 h2), hS.2.2⟩ F rfl X'
  refine ⟨t, step t ?_, b1⟩
  have e : T.heap.size = H.size := by rw [hT]
  rw [e]
  exact a1
end VGM
/-! ===== END ===== -/
def EX (U : State) : Prop := va_Nw (.methodLinkNest RX5 11 yX4_init "StoneWall") U ∧ va_Nw (.methodLinkNest RX5 18 yX3_init "StoneWall") U ∧ va_AOA .int U
theorem EX.warm {s U : State} (hW : s.WarmedH U.vm) (h : EX s) : EX U := ⟨va_Nw.warmM hW h.1, va_Nw.warmM hW h.2.1, h.2.2.moved hW.alike⟩
theorem EX.same {s U : State} (hv : s.vm = U.vm) (h : EX s) : EX U := ⟨va_Nw.same rfl hv h.1, va_Nw.same rfl hv h.2.1, h.2.2.moved (by rw [hv]; exact Vm.Alike.refl _)⟩
def AH (h0 sz : Nat) : Nat → Prop := fun q => q = h0 ∨ sz ≤ q
/-- a constructor of class ci: out of the blank object at h0 comes the block blk g, g k0 = h0 -/
def KC (l : Launch) (y : MethodName) (ws : List Cond) (rm : Room) (D : va_G) (cy : Cy) (ci : Nat) (fs : List Value) (As : List Value) (blk : (Nat → Nat) → va_W) (k0 mc ms : Nat) : Prop :=
  ∀ h0 sz : Nat, Met l y ws rm (va_Pc (.ref h0 :: As) (fun U => U.heap.size = sz ∧ va_P D vwCl [(h0, .inr (ci, fs))] U.heap ∧ va_K D vwCl (tz cy) U ∧ EX U ∧ va_D (fun _ => True) [(h0, .inr (ci, fs))])) (va_Qv (fun g => g k0 = h0) (fun g t => va_P D vwCl (blk g) t.heap ∧ va_D (AH h0 sz) (blk g)) (AH h0 sz)) mc ms (AH h0 sz)
def Cs (p : Program) (l : Launch) (e : Env) (R : Room) (s : State) (m : MethodId) (args : Array Value) (below : List Frame) (meth : Method) (c : Code) (D : va_G) (A : Nat → Prop) (nL : Nat) (Q : State → Prop) (ws : va_W) (cells slots : Nat) (pc : Nat) (lv : List (Nat × Value)) (st : List Value) : Prop :=
  ∀ (H : Heap) (locs : List Loc), va_P D vwCl ws H → va_D A ws → va_S A s.heap H locs → ∀ ls : Array Slot, lv_has ls nL lv → W p l e R s m args below meth c H locs cells slots Q (F0 m pc ls st)
theorem va_nd_of : ∀ (l : List Nat), l.Nodup → va_nd l = true
  | [], _ => rfl
  | a :: l, h => by
    rw [List.nodup_cons] at h
    simp [va_nd, h.1, va_nd_of l h.2]
section CTR
variable {p : Program} {l : Launch} {e : Env} {R : Room} {s : State} {m : MethodId} {args : Array Value} {below : List Frame} {meth : Method} {c : Code} {Q : State → Prop}
variable {cc : ByteArray} {D : va_G} {y : Cy} {A : Nat → Prop} {nL : Nat} {Ts : List Cond} {own : String}
variable {ws : va_W} {cells slots pc : Nat} {lv : List (Nat × Value)} {st : List Value}
theorem n_ws {ws2 : va_W} (h : ws = ws2) (kk : Cs p l e R s m args below meth c D A nL Q ws2 cells slots pc lv st) : Cs p l e R s m args below meth c D A nL Q ws cells slots pc lv st := h ▸ kk
theorem n_cs {c2 s2 : Nat} (h1 : cells = c2) (h2 : slots = s2) (kk : Cs p l e R s m args below meth c D A nL Q ws c2 s2 pc lv st) : Cs p l e R s m args below meth c D A nL Q ws cells slots pc lv st := h1 ▸ h2 ▸ kk
theorem n_aload_n (hC : Cx p m c cc nL s args Ts own D vwCl (tz y)) {k : Fin 4} {x : Nat} (hdg : decode cc pc = .ok (.aload_n k, 1)) (j : Nat) (hj : lv[j]? = some (k.val, Value.ref x)) (kk : Cs p l e R s m args below meth c D A nL Q ws cells slots (pc + 1) lv (.ref x :: st)) : Cs p l e R s m args below meth c D A nL Q ws cells slots pc lv st :=
  fun H locs hP hD hS ls hl => lv_aload_n hC.1.1 hC.1.2.1 hdg rfl (lv_at hl j hj) (kk H locs hP hD hS ls hl)
theorem n_iconst (hC : Cx p m c cc nL s args Ts own D vwCl (tz y)) {n : Int} (v : Int32) (hdg : decode cc pc = .ok (.iconst n, 1)) (hv : Int32.ofInt n = v) (kk : Cs p l e R s m args below meth c D A nL Q ws cells slots (pc + 1) lv (.int v :: st)) : Cs p l e R s m args below meth c D A nL Q ws cells slots pc lv st :=
  fun H locs hP hD hS ls hl => lv_iconst hC.1.1 hC.1.2.1 hdg hv (kk H locs hP hD hS ls hl)
theorem n_bipush (hC : Cx p m c cc nL s args Ts own D vwCl (tz y)) {n : Int} (v : Int32) (hdg : decode cc pc = .ok (.bipush n, 2)) (hv : (Int8.ofInt n).toInt32 = v) (kk : Cs p l e R s m args below meth c D A nL Q ws cells slots (pc + 2) lv (.int v :: st)) : Cs p l e R s m args below meth c D A nL Q ws cells slots pc lv st :=
  fun H locs hP hD hS ls hl => lv_bipush hC.1.1 hC.1.2.1 hdg hv (kk H locs hP hD hS ls hl)
theorem n_sipush (hC : Cx p m c cc nL s args Ts own D vwCl (tz y)) {n : Int} (v : Int32) (hdg : decode cc pc = .ok (.sipush n, 3)) (hv : (Int16.ofInt n).toInt32 = v) (kk : Cs p l e R s m args below meth c D A nL Q ws cells slots (pc + 3) lv (.int v :: st)) : Cs p l e R s m args below meth c D A nL Q ws cells slots pc lv st :=
  fun H locs hP hD hS ls hl => lv_sipush hC.1.1 hC.1.2.1 hdg hv (kk H locs hP hD hS ls hl)
theorem n_dup (hC : Cx p m c cc nL s args Ts own D vwCl (tz y)) {va : Value} (hdg : decode cc pc = .ok (.dup, 1)) (hva : va.category = 1) (kk : Cs p l e R s m args below meth c D A nL Q ws cells slots (pc + 1) lv (va :: va :: st)) : Cs p l e R s m args below meth c D A nL Q ws cells slots pc lv (va :: st) :=
  fun H locs hP hD hS ls hl => lv_dup hC.1.1 hC.1.2.1 hdg hva (kk H locs hP hD hS ls hl)
theorem n_objInit (hC : Cx p m c cc nL s args Ts own D vwCl (tz y)) {idx a : Nat} (h1 : Cond.methodLink own idx objectInit ∈ Ts) (h2 : Cond.instanceMethod objectInit ∈ Ts) (h3 : Cond.code objectInit ⟨#[0xb1]⟩ 1 none ∈ Ts) (hfr : 1 ≤ R.frames) (hlo : (st.map fun v => v.category).sum + 12 ≤ R.locals) (hdg : decode cc pc = .ok (.invokespecial idx, 3)) (kk : Cs p l e R s m args below meth c D A nL Q ws cells slots (pc + 3) lv st) : Cs p l e R s m args below meth c D A nL Q ws cells slots pc lv (.ref a :: st) := by
  intro H locs hP hD hS ls hl
  refine W.objInit hC.1.1 hC.1.2.1 hC.1.2.2.2.1 (hC.1.2.2.2.2 _ h1) (hC.1.2.2.2.2 _ h2) (hC.1.2.2.2.2 _ h3) rfl (hl.1.trans hC.1.2.2.1.symm) rfl hdg hfr (by show 2 * 0 + _ + 12 ≤ _; omega) ?_
  exact W.eq (g2 := F0 m (pc + 3) ls st) rfl (kk H locs hP hD hS ls hl)
theorem n_newa (hC : Cx p m c cc nL s args Ts own D vwCl (tz y)) (hA : ∀ q, s.heap.size ≤ q → A q) {atype : ArrayType} {ty : FieldType} {k : Nat} {n : Int32} {N' : Nat} {a0 : vp_A} {cY : ClassId} (hw : Cond.arrayClass (newarray.typeOf atype) ∈ Ts) (hty : newarray.typeOf atype = ty) (ht : (tz y)[k]? = some (cY, ty)) (hu : ∀ a b : ClassId, va_RA s a ty → va_RA s b ty → a = b) (ha : ∀ cA : ClassId, vp_cell cA a0 = arrV cA N' (fun _ => defaultValue ty)) (hn : ¬ n < 0) (hN : n.toNatClampNeg = N') (hbytes : N' * componentBytes ty ≤ 536870912) (hcells : cells + 1 ≤ R.cells) (hslots : slots + N' ≤ R.slots) (hdg : decode cc pc = .ok (.newarray atype, 2))
    (kk : ∀ q : Nat, Cs p l e R s m args below meth c D A nL Q (ws ++ [(q, .inl (cY, a0))]) (cells + 1) (slots + N') (pc + 2) lv (.ref q :: st)) : Cs p l e R s m args below meth c D A nL Q ws cells slots pc lv (.int n :: st) := by
  intro H locs hP hD hS ls hl
  refine va_newa hC.1.1 hC.1.2.1 (hC.1.2.2.2.2 _ hw) hty hC.2 hP hD hS hA ha hn hN hbytes hcells hslots hdg (fun q cA H1 hK1 hP1 hD1 hS1 => ?_)
  have e1 : va_RA s cA ty := (hK1.2 (tz y).length (cA, ty) (by simp)).2
  have e2 := hu _ _ e1 (hC.2.2 k _ ht).2
  subst e2
  exact kk q H1 locs hP1 hD1 hS1 ls hl
theorem n_mna (hC : Cx p m c cc nL s args Ts own D vwCl (tz y)) (hE : EX s) (hA : ∀ q, s.heap.size ≤ q → A q) {index : Nat} {k : Int32} {K' : Nat} (hw1 : Cond.classLink own index "[[I" ∈ Ts) (hw2 : Cond.arrayClass .int ∈ Ts) (hk : ¬ k < 0) (hM : k.toNatClampNeg = K') (hb2 : K' * componentBytes .int ≤ 536870912) (hcells : cells + 6 ≤ R.cells) (hslots : slots + (5 + 5 * K') ≤ R.slots) (hdg : decode cc pc = .ok (.multianewarray index 2, 4))
    (kk : ∀ q r0 r1 r2 r3 r4 : Nat, Cs p l e R s m args below meth c D A nL Q (ws ++ [(q, .inl (y.2.2.1, 5, .inr (.inr (.inr (.inr (fun i => if i < 5 then some (([r0, r1, r2, r3, r4] : List Nat).getD i 0) else none)))))), (r0, .inl (y.1, K', .inl (fun _ => 0))), (r1, .inl (y.1, K', .inl (fun _ => 0))), (r2, .inl (y.1, K', .inl (fun _ => 0))), (r3, .inl (y.1, K', .inl (fun _ => 0))), (r4, .inl (y.1, K', .inl (fun _ => 0)))]) (cells + 6) (slots + (5 + 5 * K')) (pc + 4) lv (.ref q :: st)) : Cs p l e R s m args below meth c D A nL Q ws cells slots pc lv (.int k :: .int 5 :: st) := by
  intro H locs hP hD hS ls hl
  refine va_mna (X := ws) (L := []) (f := fun _ => .inl (y.1, 0, .inl (fun _ => 0))) (ty := .int) (cy := y.1) (N' := 5) (K' := K') (z := (K', .inl (fun _ => 0))) hC.1.1 hC.1.2.1 hC.1.2.2.2.1 (hC.1.2.2.2.2 _ hw1) hE.2.2 (hC.1.2.2.2.2 _ hw2) (hC.2.2 0 _ rfl).2 hC.2 (by simpa [va_pl] using hP) (by simpa [va_pl] using hD) hS hA (by decide) hk (by decide) hM (by decide) hb2 (by have : K' * 4 ≤ 536870912 := hb2; omega) rfl rfl (by omega) (by omega) (fun c => arrV_new c K' (.int 0)) hdg (fun q r cA H1 hr1 hr2 hK1 hP1 hD1 hS1 => ?_)
  have e1 : va_RA s cA (.array .int) := (hK1.2 (tz y).length (cA, .array .int) (by simp)).2
  have e2 : cA = y.2.2.1 := Option.some.inj (Eq.trans (Eq.symm e1) (hC.2.2 2 _ rfl).2)
  subst e2
  have hf : (fun i => if i < 5 then some (r i) else none) = (fun i => if i < 5 then some (([r 0, r 1, r 2, r 3, r 4] : List Nat).getD i 0) else none) := by
    funext i
    by_cases hi : i < 5
    · rcases (show i = 0 ∨ i = 1 ∨ i = 2 ∨ i = 3 ∨ i = 4 by omega) with rfl | rfl | rfl | rfl | rfl <;> rfl
    · rw [if_neg hi, if_neg hi]
  have hpl : va_pl ([] ++ (List.range 5).map r) (vr_up (fun _ => .inl (y.1, 0, .inl (fun _ => 0))) ((List.range 5).map r) (.inl (y.1, K', .inl (fun _ => 0)))) = [(r 0, .inl (y.1, K', .inl (fun _ => 0))), (r 1, .inl (y.1, K', .inl (fun _ => 0))), (r 2, .inl (y.1, K', .inl (fun _ => 0))), (r 3, .inl (y.1, K', .inl (fun _ => 0))), (r 4, .inl (y.1, K', .inl (fun _ => 0)))] := by
    simp [va_pl, vr_up, List.range, List.range.loop]
  rw [hpl, hf] at hP1 hD1
  have h1 := kk q (r 0) (r 1) (r 2) (r 3) (r 4) H1 locs (by simpa using hP1) (by simpa using hD1) hS1 ls hl
  have e3 : cells + 1 + 5 = cells + 6 := by omega
  have e4 : slots + 5 + 5 * K' = slots + (5 + 5 * K') := by omega
  rw [e3, e4]
  exact h1
theorem n_putF (hC : Cx p m c cc nL s args Ts own D vwCl (tz y)) (hin2 : meth.name = "<init>") {C ref : String} {T : u_T} {N ci index a q0 : Nat} {fs : List Value} {v : Value} {ty : FieldType} {ws2 : va_W} (hin : ∀ w ∈ u_ws C T N, w ∈ Ts) (ty0 : Nat → FieldType) (hty : ∀ k, k < N → parseFieldDescriptor (T k).2.2.1 = some (ty0 k)) (hnm : ∀ a, a < N → ∀ b, b < N → a ≠ b → (T a).2.1 ≠ (T b).2.1) (he : ws[q0]? = some (a, .inr (ci, fs))) (hc : vwCl[ci]? = some (C, T, N)) (k : Nat) (hk : k < N) (hlink : Cond.fieldLink own index ref (T k).2.1 (T k).2.2.1 ∈ Ts) (hsame : (T k).1 = ref) (hfin : (T k).2.2.2 = true) (hdecl : (T k).1 = own) (hd : parseFieldDescriptor (T k).2.2.1 = some ty) (hn : narrow ty v = v) (hfit : fits ty v = true) (hl0 : k < fs.length) (hdg : decode cc pc = .ok (.putfield index, 3)) (hset : ws.set q0 (a, .inr (ci, fs.set k v)) = ws2) (kk : Cs p l e R s m args below meth c D A nL Q ws2 cells slots (pc + 3) lv st) : Cs p l e R s m args below meth c D A nL Q ws cells slots pc lv (v :: .ref a :: st) := by
  intro H locs hP hD hS ls hl
  subst hsame
  refine va_putF hC.1.1 hC.1.2.1 hC.1.2.2.2.2 hin ty0 hty hnm hC.1.2.2.2.1 hC.2 hP hD hS q0 he hc k hk (hC.1.2.2.2.2 _ hlink) (fun _ h9 => h9) hfin hin2 hdecl hd hn hfit hl0 hdg (fun H1 locs1 hP1 hD1 hS1 => ?_)
  rw [hset] at hP1 hD1
  exact kk H1 locs1 hP1 hD1 hS1 ls hl
theorem n_get (hC : Cx p m c cc nL s args Ts own D vwCl (tz y)) {ref C : String} {T : u_T} {N ci index a q0 : Nat} {fs : List Value} {v : Value} (hin : ∀ w ∈ u_ws C T N, w ∈ Ts) (he : ws[q0]? = some (a, .inr (ci, fs))) (hc : vwCl[ci]? = some (C, T, N)) (k : Nat) (hk : k < N) (hlink : Cond.fieldLink own index ref (T k).2.1 (T k).2.2.1 ∈ Ts) (hsame : (T k).1 = ref) (hv : fs[k]? = some v) (hdg : decode cc pc = .ok (.getfield index, 3)) (kk : Cs p l e R s m args below meth c D A nL Q ws cells slots (pc + 3) lv (v :: st)) : Cs p l e R s m args below meth c D A nL Q ws cells slots pc lv (.ref a :: st) := by
  intro H locs hP hD hS ls hl
  subst hsame
  exact va_get hC.1.1 hC.1.2.1 hC.1.2.2.2.2 hin hC.1.2.2.2.1 hC.2 hP q0 he hc k hk (hC.1.2.2.2.2 _ hlink) (fun _ h9 => h9) hv hdg (kk H locs hP hD hS ls hl)
theorem n_new (hC : Cx p m c cc nL s args Ts own D vwCl (tz y)) (hA : ∀ q, s.heap.size ≤ q → A q) {C : String} {T : u_T} {N ci index : Nat} {fs : List Value} (hin : ∀ w ∈ u_ws C T N, w ∈ Ts) (ty : Nat → FieldType) (hty : ∀ k, k < N → parseFieldDescriptor (T k).2.2.1 = some (ty k)) (hcl : Cond.classLink own index C ∈ Ts) (hinst : Cond.instantiable C N ∈ Ts) (hini : Cond.initialized C ∈ Ts) (hc : vwCl[ci]? = some (C, T, N)) (hfs : ∀ j, j < N → defaultValue (ty j) = vp_V fs j) (hcells : cells + 1 ≤ R.cells) (hslots : slots + N ≤ R.slots) (hdg : decode cc pc = .ok (.new index, 3))
    (kk : ∀ q : Nat, Cs p l e R s m args below meth c D A nL Q (ws ++ [(q, .inr (ci, fs))]) (cells + 1) (slots + N) (pc + 3) lv (.ref q :: st)) : Cs p l e R s m args below meth c D A nL Q ws cells slots pc lv st := by
  intro H locs hP hD hS ls hl
  exact va_new hC.1.1 hC.1.2.1 hC.1.2.2.2.2 hin ty hty hC.1.2.2.2.1 (hC.1.2.2.2.2 _ hcl) (hC.1.2.2.2.2 _ hinst) (hC.1.2.2.2.2 _ hini) hC.2 hP hD hS hA hc hfs hcells hslots hdg (fun q H1 hP1 hD1 hS1 => kk q H1 locs hP1 hD1 hS1 ls hl)
theorem AH_in {h0 sz : Nat} (h : A h0) (hA : ∀ q, sz ≤ q → A q) : ∀ q, AH h0 sz q → A q := fun q hq => hq.elim (fun e => e ▸ h) (hA q)
theorem n_call (hC : Cx p m c cc nL s args Ts own D vwCl (tz y)) (hE : EX s) (hA : ∀ q, s.heap.size ≤ q → A q) {yy : MethodName} {ci k0 mc ms b : Nat} {fs As : List Value} {wsy : List Cond} {rm : Room} {blk : (Nat → Nat) → va_W} {wr : va_W} (hM : KC l yy wsy rm D y ci fs As blk k0 mc ms)
    (hrun : ∀ (H : Heap) (locs : List Loc) (ls : Array Slot) (Pc : Array Value → State → Prop) (Qc : Array Value → State → Outcome → State → Prop) (free : Addr → Prop), ls.size = nL → Met l yy wsy rm Pc Qc mc ms free → PreS s H Pc (.ref b :: As) → va_Run p l e R s m args below meth c H locs cells slots mc ms (F0 m pc ls (As.reverse ++ .ref b :: st)) st (Qc (Value.ref b :: As).toArray) free)
    (hws : ws = wr ++ [(b, .inr (ci, fs))]) (kk : ∀ g : Nat → Nat, g k0 = b → Cs p l e R s m args below meth c D A nL Q (wr ++ blk g) (cells + mc) (slots + ms) (pc + 3) lv st) : Cs p l e R s m args below meth c D A nL Q ws cells slots pc lv (As.reverse ++ .ref b :: st) := by
  intro H locs hP hD hS ls hl
  subst hws
  have hb : (wr ++ [(b, Sum.inr (ci, fs))] : va_W)[wr.length]? = some (b, .inr (ci, fs)) := by simp
  have hPc : va_P D vwCl [(b, .inr (ci, fs))] H := hP.sub [wr.length] (by simp)
  have hDc : va_D A [(b, .inr (ci, fs))] := hD.sub [wr.length] (by simp [va_nd]) (by simp)
  have hFc := va_free (wc := [(b, .inr (ci, fs))]) hD hS hA [wr.length] (by simp)
  have hAb : A b := hD.2 _ _ hb
  have hAH : ∀ q, AH b H.size q → A q := AH_in hAb (fun q h => hA q (Nat.le_trans hS.1 h))
  have hAeq : ∀ q, va_A [(b, .inr (ci, fs))] H.size q ↔ AH b H.size q := by
    intro q
    constructor
    · rintro (⟨k, e9, h⟩ | h)
      · match k, h with
        | 0, h => exact Or.inl (by simp at h; exact h.1.symm)
        | k + 1, h => simp at h
      · exact Or.inr h
    · rintro (h | h)
      · exact Or.inl ⟨0, .inr (ci, fs), by rw [h]; rfl⟩
      · exact Or.inr h
  refine va_callv (hrun H locs ls _ _ _ hl.1 (hM b H.size) ⟨fun a U g mk q => by obtain ⟨q0, q1, qP, qK, qE, qD⟩ := q; exact ⟨q0, q1, qP, va_K.moved (u := U) (U := U.calling g mk a) (Vm.Alike.refl U.vm) qK, EX.same rfl qE, qD⟩, fun U hU hW => ⟨rfl, by rw [hU], by rw [hU]; exact hPc, va_K.moved hW.alike hC.2, EX.warm hW hE, hDc.weaken (fun _ _ _ _ => trivial)⟩⟩) hS (fun q _ h => hAH q h) hAH (fun g t H1 locs1 ht hvm hw hB hz1 hk1 hS1 => ?_)
  obtain ⟨hP1, hD1⟩ := hB
  rw [ht] at hP1
  obtain ⟨hP2, hD2⟩ := va_join (wr := wr) (w1 := blk g) hP hD [wr.length] (List.range wr.length) (wc := [(b, .inr (ci, fs))]) (by simp) (by
    apply List.ext_getElem?
    intro i
    rw [List.getElem?_map, List.getElem?_map]
    by_cases hi : i < wr.length
    · rw [List.getElem?_range hi]
      simp [List.getElem?_append_left hi, hi]
    · rw [List.getElem?_eq_none (by simpa using hi), List.getElem?_eq_none (by omega)]
      rfl) (by
    apply va_nd_of
    exact List.nodup_range) (by intro i hi; have := List.mem_range.mp hi; simp; omega) (fun q h1 h2 => hk1 q h1 (fun h => h2 ((hAeq q).mpr h))) (fun q h => hAH q ((hAeq q).mp h)) hP1 (hD1.weaken (fun _ _ _ h => (hAeq _).mpr h))
  exact kk g hw H1 locs1 hP2 hD2 hS1 ls hl
end CTR
