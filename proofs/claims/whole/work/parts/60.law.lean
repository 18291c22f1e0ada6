/-! THE CLAIM OUT OF ONE WALK OF THE LAW'S BODY. Your part is whole_start (and what it stands on); all else here is the same for every law, but numbers. -/
def R_law : String := "StoneWallLaw"
def lw_P (b : Addr) (xs : List Int32) (args : Array Value) (s : State) : Prop := args = #[.ref b] ∧ s.IntsAt b xs ∧ xs.length ≤ 3584 ∧ (Jvm.Cond.and given_1 narrow_1).before args s = true
def lw_Q (_ : Array Value) (s : State) (o : Outcome) (t : State) : Prop := o = .returned (some (.int 1)) ∧ Framed s o t [] 601024 7293034
def lw_Z (below : List Frame) (a : Array Value) (s : State) : State → Prop := fun t => ∃ o, t.status = .running ∧ Ended t below o ∧ lw_Q a s o t
/-- the law's own end, with 1 on the stack, nothing written that was there before, its room as the claim has it -/
theorem lw_ret {p : Program} {l : Launch} {e : Env} {s : State} {m : MethodId} {below : List Frame} {meth : Method} {c : Code} {b : Nat} (hx : p.tables.exec = Jvm.exec) (hb : c.code = code) (hr : meth.sig.returnType = ret) (hlocks : meth.locks = false) {pc : Nat} {H : Heap} {ls : Array Slot} (hdg : decode code pc = .ok (.ireturn, 1)) : W p l e room_1 s m #[Value.ref b] below meth c H [] 601024 7293034 (lw_Z below #[Value.ref b] s) (F0 m pc ls [.int 1]) := by
  intro T hT X
  obtain ⟨fs, hret, hrun, hended, hW, hframe⟩ := X.leave (v := some (.int 1)) (hlocks := hlocks) (fun h => by rw [hr] at h; cases h)
  have hmeth' : T.vm.method? m = some meth := X.method'
  refine ⟨T.setFrames fs, ?_, .returned (some (.int 1)), hrun, hended, rfl, ⟨_, rfl⟩, hW, hframe⟩
  jvm_step X.here [X.here.top, hx, hb, hdg, hmeth', hr, ret, narrow_b1]
  (try refine ⟨rfl, ?_⟩); (try refine ⟨rfl, ?_⟩)
  first | (intro acts; rw [hret _ acts rfl rfl rfl]) | rw [hret _ _ rfl rfl rfl]
  exact Steps.refl _
/-- what holds at the law's entry: the machine, the code, the tables' words (any of lw_tbl by 'hts w (by decide +kernel)'), the script of L ints xs at the cell b, what the Statement gives of the start (any of its parts by flat_of_before) -/
def lw_At (p : Program) (s : State) (m : MethodId) (meth : Method) (c : Code) (b L : Nat) (xs : Nat → Int32) : Prop :=
  p.tables.exec = Jvm.exec ∧ c.code = code ∧ meth.sig.returnType = ret ∧ c.maxLocals = 7 ∧ s.vm.findClass R_law = some m.cls ∧ (∀ w ∈ lw_tbl, w.before #[Value.ref b] s = true) ∧ va_X b L xs s s.heap ∧ b < s.heap.size ∧ meth.locks = false ∧ (Jvm.Cond.and given_1 narrow_1).before #[Value.ref b] s = true

theorem w53_fst (y : Cy) (g : Nat → Nat) (S : St) : (w53 y g S).map Prod.fst = (List.range 53).map g := rfl
theorem fst_at {ws : va_W} {f : Nat → Nat} {n k : Nat} (h : ws.map Prod.fst = (List.range n).map f) (hk : k < n) : ∃ e : va_E, ws[k]? = some (f k, e) := by
  have h1 : (ws.map Prod.fst)[k]? = some (f k) := by rw [h, List.getElem?_map, List.getElem?_range hk]; rfl
  rw [List.getElem?_map] at h1
  cases hx : ws[k]? with
  | none => rw [hx] at h1; cases h1
  | some x =>
    rw [hx] at h1
    have e2 : x.1 = f k := Option.some.inj h1
    exact ⟨x.2, by rw [← e2]⟩
theorem fst_in {ws : va_W} {f : Nat → Nat} {n k : Nat} {q : Nat × va_E} (h : ws.map Prod.fst = (List.range n).map f) (hk : ws[k]? = some q) : k < n ∧ q.1 = f k := by
  have h1 : (ws.map Prod.fst)[k]? = some q.1 := by rw [List.getElem?_map, hk]; rfl
  have hl : k < (ws.map Prod.fst).length := (List.getElem?_eq_some_iff.mp h1).1
  have hn : k < n := by rw [h] at hl; simpa using hl
  rw [h, List.getElem?_map, List.getElem?_range hn] at h1
  exact ⟨hn, (Option.some.inj h1).symm⟩
def La (p : Program) (l : Launch) (e : Env) (s : State) (m : MethodId) (below : List Frame) (meth : Method) (c : Code) (b : Nat) (D : va_G) (y : Cy) (g h : Nat → Nat) (cells slots : Nat) (S : St) (ov : Nat → Int64) (T : St) (pc : Nat) (lv : List (Nat × Value)) (st : List Value) : Prop :=
  ∀ (H : Heap) (locs : List Loc), va_P D vwCl (w53 y g (S.1, ov)) H → va_P D vwCl (wm y h T) H → va_S (fun q => s.heap.size ≤ q) s.heap H locs → ∀ ls : Array Slot, lv_has ls 7 lv → W p l e room_1 s m #[Value.ref b] below meth c H locs cells slots (lw_Z below #[Value.ref b] s) (F0 m pc ls st)
def LC (p : Program) (l : Launch) (s : State) (m : MethodId) (c : Code) (b L : Nat) (xs : Nat → Int32) (D : va_G) (y : Cy) (g h : Nat → Nat) (sa1 sa2 : Nat) : Prop :=
  CallFix p m c code 7 s #[Value.ref b] wsL_law RL ∧ va_K D vwCl (tz y) s ∧ (∀ S : St, va_D (fun q => s.heap.size ≤ q) (w53 y g S)) ∧ (∀ T : St, va_D (fun q => s.heap.size ≤ q) (wm y h T)) ∧ (∀ k j : Nat, k < 53 → j < 21 → g k ≠ h j) ∧ va_X b L xs s s.heap ∧ b < s.heap.size ∧ EXT (fun q => s.heap.size ≤ q) sa1 sa2 s s.heap ∧ va_Nc "java/util/NoSuchElementException" "java/lang/IndexOutOfBoundsException" s ∧ l.stackTraces = false
section LAW
variable {p : Program} {l : Launch} {e : Env} {s : State} {m : MethodId} {below : List Frame} {meth : Method} {c : Code} {b L : Nat} {xs : Nat → Int32} {D : va_G} {y : Cy} {g h : Nat → Nat} {sa1 sa2 : Nat}
variable {cells slots pc : Nat} {S T : St} {ov : Nat → Int64} {lv : List (Nat × Value)} {st : List Value}
theorem LC.gge (hC : LC p l s m c b L xs D y g h sa1 sa2) {k : Nat} (hk : k < 53) : s.heap.size ≤ g k := by
  obtain ⟨e9, h9⟩ := fst_at (w53_fst y g ((fun _ _ => 0, fun _ => 0) : St)) hk
  exact (hC.2.2.1 _).2 k _ h9
theorem LC.hge (hC : LC p l s m c b L xs D y g h sa1 sa2) {k : Nat} (hk : k < 21) : s.heap.size ≤ h k := by
  obtain ⟨e9, h9⟩ := fst_at (wm_fst y h ((fun _ _ => 0, fun _ => 0) : St)) hk
  exact (hC.2.2.2.1 _).2 k _ h9
theorem LC.ac (hC : LC p l s m c b L xs D y g h sa1 sa2) {n q : Nat} (hn : s.heap.size ≤ n) (hq : AC g n q) : s.heap.size ≤ q := by
  rcases hq with ⟨k, hk, e9⟩ | hq
  · rw [e9]; exact hC.gge (by omega)
  · omega
theorem LC.a53 (hC : LC p l s m c b L xs D y g h sa1 sa2) {n q : Nat} (hn : s.heap.size ≤ n) (hq : A53 g n q) : s.heap.size ≤ q := by
  rcases hq with ⟨k, hk, e9⟩ | hq
  · rw [e9]; exact hC.gge hk
  · omega
theorem LC.am (hC : LC p l s m c b L xs D y g h sa1 sa2) {n q : Nat} (hn : s.heap.size ≤ n) (hq : AM h n q) : s.heap.size ≤ q := by
  rcases hq with ⟨k, hk, e9⟩ | hq
  · rw [e9]; exact hC.hge hk
  · omega
/-- the reference's cells stay, where the class (and the row of longs) alone may have been written -/
theorem LC.keepM (hC : LC p l s m c b L xs D y g h sa1 sa2) {H H1 : Heap} (hQ : va_P D vwCl (wm y h T) H) (hk : ∀ q : Nat, q < H.size → ¬ A53 g H.size q → H1[q]? = H[q]?) : va_P D vwCl (wm y h T) H1 := by
  refine hQ.kept (fun k q hq => hk q.1 ((hQ k q hq).lt) ?_)
  obtain ⟨hk2, e9⟩ := fst_in (wm_fst y h T) hq
  have hlt := (hQ k q hq).lt
  rintro (⟨i, hi, e2⟩ | h2)
  · exact hC.2.2.2.2.1 i k hi hk2 (by rw [← e9, e2])
  · omega
theorem LC.keepC (hC : LC p l s m c b L xs D y g h sa1 sa2) {H H1 : Heap} (hP : va_P D vwCl (w53 y g S) H) (hk : ∀ q : Nat, q < H.size → ¬ AM h H.size q → H1[q]? = H[q]?) : va_P D vwCl (w53 y g S) H1 := by
  refine hP.kept (fun k q hq => hk q.1 ((hP k q hq).lt) ?_)
  obtain ⟨hk2, e9⟩ := fst_in (w53_fst y g S) hq
  have hlt := (hP k q hq).lt
  rintro (⟨i, hi, e2⟩ | h2)
  · exact hC.2.2.2.2.1 k i hk2 hi (by rw [← e9, e2])
  · omega
theorem a_aload_n (hC : LC p l s m c b L xs D y g h sa1 sa2) {k : Fin 4} {x : Nat} (hdg : decode code pc = .ok (.aload_n k, 1)) (j : Nat) (hj : lv[j]? = some (k.val, Value.ref x)) (kk : La p l e s m below meth c b D y g h cells slots S ov T (pc + 1) lv (.ref x :: st)) : La p l e s m below meth c b D y g h cells slots S ov T pc lv st :=
  fun H locs hP hQ hS ls hl => lv_aload_n hC.1.1 hC.1.2.1 hdg rfl (lv_at hl j hj) (kk H locs hP hQ hS ls hl)
theorem a_iload (hC : LC p l s m c b L xs D y g h sa1 sa2) {i : Nat} {x : Int32} (hdg : decode code pc = .ok (.iload i, 2)) (j : Nat) (hj : lv[j]? = some (i, Value.int x)) (kk : La p l e s m below meth c b D y g h cells slots S ov T (pc + 2) lv (.int x :: st)) : La p l e s m below meth c b D y g h cells slots S ov T pc lv st :=
  fun H locs hP hQ hS ls hl => lv_iload hC.1.1 hC.1.2.1 hdg (lv_at hl j hj) (kk H locs hP hQ hS ls hl)
theorem a_iconst (hC : LC p l s m c b L xs D y g h sa1 sa2) {n : Int} (v : Int32) (hdg : decode code pc = .ok (.iconst n, 1)) (hv : Int32.ofInt n = v) (kk : La p l e s m below meth c b D y g h cells slots S ov T (pc + 1) lv (.int v :: st)) : La p l e s m below meth c b D y g h cells slots S ov T pc lv st :=
  fun H locs hP hQ hS ls hl => lv_iconst hC.1.1 hC.1.2.1 hdg hv (kk H locs hP hQ hS ls hl)
theorem a_bipush (hC : LC p l s m c b L xs D y g h sa1 sa2) {n : Int} (v : Int32) (hdg : decode code pc = .ok (.bipush n, 2)) (hv : (Int8.ofInt n).toInt32 = v) (kk : La p l e s m below meth c b D y g h cells slots S ov T (pc + 2) lv (.int v :: st)) : La p l e s m below meth c b D y g h cells slots S ov T pc lv st :=
  fun H locs hP hQ hS ls hl => lv_bipush hC.1.1 hC.1.2.1 hdg hv (kk H locs hP hQ hS ls hl)
theorem a_iadd (hC : LC p l s m c b L xs D y g h sa1 sa2) {x z : Int32} (hdg : decode code pc = .ok (.iadd, 1)) (kk : La p l e s m below meth c b D y g h cells slots S ov T (pc + 1) lv (.int (x + z) :: st)) : La p l e s m below meth c b D y g h cells slots S ov T pc lv (.int z :: .int x :: st) :=
  fun H locs hP hQ hS ls hl => lv_iadd hC.1.1 hC.1.2.1 hdg (kk H locs hP hQ hS ls hl)
theorem a_isub (hC : LC p l s m c b L xs D y g h sa1 sa2) {x z : Int32} (hdg : decode code pc = .ok (.isub, 1)) (kk : La p l e s m below meth c b D y g h cells slots S ov T (pc + 1) lv (.int (x - z) :: st)) : La p l e s m below meth c b D y g h cells slots S ov T pc lv (.int z :: .int x :: st) :=
  fun H locs hP hQ hS ls hl => lv_isub hC.1.1 hC.1.2.1 hdg (kk H locs hP hQ hS ls hl)
theorem a_iand (hC : LC p l s m c b L xs D y g h sa1 sa2) {x z : Int32} (hdg : decode code pc = .ok (.iand, 1)) (kk : La p l e s m below meth c b D y g h cells slots S ov T (pc + 1) lv (.int (x &&& z) :: st)) : La p l e s m below meth c b D y g h cells slots S ov T pc lv (.int z :: .int x :: st) :=
  fun H locs hP hQ hS ls hl => lv_iand hC.1.1 hC.1.2.1 hdg (kk H locs hP hQ hS ls hl)
theorem a_i2l (hC : LC p l s m c b L xs D y g h sa1 sa2) {x : Int32} (hdg : decode code pc = .ok (.i2l, 1)) (kk : La p l e s m below meth c b D y g h cells slots S ov T (pc + 1) lv (.long x.toInt64 :: st)) : La p l e s m below meth c b D y g h cells slots S ov T pc lv (.int x :: st) :=
  fun H locs hP hQ hS ls hl => lv_i2l hC.1.1 hC.1.2.1 hdg rfl (kk H locs hP hQ hS ls hl)
theorem a_lcmp (hC : LC p l s m c b L xs D y g h sa1 sa2) {x z : Int64} (hdg : decode code pc = .ok (.lcmp, 1)) (kk : La p l e s m below meth c b D y g h cells slots S ov T (pc + 1) lv (.int (lg_cmp x z) :: st)) : La p l e s m below meth c b D y g h cells slots S ov T pc lv (.long z :: .long x :: st) :=
  fun H locs hP hQ hS ls hl => W.lcmp hC.1.1 hC.1.2.1 hdg (kk H locs hP hQ hS ls hl)
theorem a_goto (hC : LC p l s m c b L xs D y g h sa1 sa2) {off : Int} (tgt : Nat) (hdg : decode code pc = .ok (.goto off, 3)) (ht : (pc : Int) + off = (tgt : Int)) (kk : La p l e s m below meth c b D y g h cells slots S ov T tgt lv st) : La p l e s m below meth c b D y g h cells slots S ov T pc lv st :=
  fun H locs hP hQ hS ls hl => lv_goto hC.1.1 hC.1.2.1 hdg ht (kk H locs hP hQ hS ls hl)
theorem a_istore (hC : LC p l s m c b L xs D y g h sa1 sa2) {i : Nat} {x : Int32} {lv1 : List (Nat × Value)} (lv2 : List (Nat × Value)) (ks : List Nat) (hdg : decode code pc = .ok (.istore i, 2)) (hn : i < 7) (hl1 : (i, Value.int x) :: lv.filter (fun q => !(q.1 == i) && !(q.1 + 1 == i && q.2.category == 2)) = lv1) (hl2 : lv_pick lv1 ks = lv2) (kk : La p l e s m below meth c b D y g h cells slots S ov T (pc + 2) lv2 st) : La p l e s m below meth c b D y g h cells slots S ov T pc lv (.int x :: st) :=
  fun H locs hP hQ hS ls hl => lv_istore hC.1.1 hC.1.2.1 hdg hl hn hl1 (fun ls hl => kk H locs hP hQ hS ls (lv_sub hl ks hl2))
theorem a_iinc (hC : LC p l s m c b L xs D y g h sa1 sa2) {i j : Nat} {n : Int} {x v : Int32} {lv1 : List (Nat × Value)} (lv2 : List (Nat × Value)) (ks : List Nat) (hdg : decode code pc = .ok (.iinc i n, 3)) (hj : lv[j]? = some (i, Value.int x)) (hv : x + Int32.ofInt n = v) (hn : i < 7) (hl1 : (i, Value.int v) :: lv.filter (fun q => !(q.1 == i) && !(q.1 + 1 == i && q.2.category == 2)) = lv1) (hl2 : lv_pick lv1 ks = lv2) (kk : La p l e s m below meth c b D y g h cells slots S ov T (pc + 3) lv2 st) : La p l e s m below meth c b D y g h cells slots S ov T pc lv st :=
  fun H locs hP hQ hS ls hl => lv_iinc hC.1.1 hC.1.2.1 hdg hl hj hv hn hl1 (fun ls hl => kk H locs hP hQ hS ls (lv_sub hl ks hl2))
theorem a_lv (lv2 : List (Nat × Value)) (ks : List Nat) (hl2 : lv_pick lv ks = lv2) (kk : La p l e s m below meth c b D y g h cells slots S ov T pc lv2 st) : La p l e s m below meth c b D y g h cells slots S ov T pc lv st := fun H locs hP hQ hS ls hl => kk H locs hP hQ hS ls (lv_sub hl ks hl2)
theorem a_sld (hC : LC p l s m c b L xs D y g h sa1 sa2) {i : Int32} (hin : vp_in i L) (hdg : decode code pc = .ok (.iaload, 1)) (kk : La p l e s m below meth c b D y g h cells slots S ov T (pc + 1) lv (.int (xs i.toNatClampNeg) :: st)) : La p l e s m below meth c b D y g h cells slots S ov T pc lv (.int i :: .ref b :: st) :=
  fun H locs hP hQ hS ls hl => va_sld hC.1.1 hC.1.2.1 hC.2.2.2.2.2.1 hC.2.2.2.2.2.2.1 (Nat.not_le.mpr hC.2.2.2.2.2.2.1) hS hin hdg (kk H locs hP hQ hS ls hl)
theorem a_slen (hC : LC p l s m c b L xs D y g h sa1 sa2) (hdg : decode code pc = .ok (.arraylength, 1)) (kk : La p l e s m below meth c b D y g h cells slots S ov T (pc + 1) lv (.int (nI L) :: st)) : La p l e s m below meth c b D y g h cells slots S ov T pc lv (.ref b :: st) :=
  fun H locs hP hQ hS ls hl => va_slen hC.1.1 hC.1.2.1 hC.2.2.2.2.2.1 hC.2.2.2.2.2.2.1 (Nat.not_le.mpr hC.2.2.2.2.2.2.1) hS hdg (kk H locs hP hQ hS ls hl)
theorem a_icmp_gt (hC : LC p l s m c b L xs D y g h sa1 sa2) {x z : Int32} {off : Int} (tgt : Nat) (hdg : decode code pc = .ok (.if_icmp .gt off, 3)) (ht : (pc : Int) + off = (tgt : Int)) (kt : z < x → La p l e s m below meth c b D y g h cells slots S ov T tgt lv st) (kf : ¬ z < x → La p l e s m below meth c b D y g h cells slots S ov T (pc + 3) lv st) : La p l e s m below meth c b D y g h cells slots S ov T pc lv (.int z :: .int x :: st) :=
  fun H locs hP hQ hS ls hl => lv_icmp_gt hC.1.1 hC.1.2.1 hdg ht (fun q => kt q H locs hP hQ hS ls hl) (fun q => kf q H locs hP hQ hS ls hl)
theorem a_icmp_eq (hC : LC p l s m c b L xs D y g h sa1 sa2) {x z : Int32} {off : Int} (tgt : Nat) (hdg : decode code pc = .ok (.if_icmp .eq off, 3)) (ht : (pc : Int) + off = (tgt : Int)) (he : x = z) (kt : La p l e s m below meth c b D y g h cells slots S ov T tgt lv st) : La p l e s m below meth c b D y g h cells slots S ov T pc lv (.int z :: .int x :: st) :=
  fun H locs hP hQ hS ls hl => lv_icmp_eq hC.1.1 hC.1.2.1 hdg ht (fun q => kt H locs hP hQ hS ls hl) (fun q => absurd he q)
theorem a_if_ne (hC : LC p l s m c b L xs D y g h sa1 sa2) {x : Int32} {off : Int} (tgt : Nat) (hdg : decode code pc = .ok (.ifCond .ne off, 3)) (ht : (pc : Int) + off = (tgt : Int)) (kt : ¬ x = 0 → La p l e s m below meth c b D y g h cells slots S ov T tgt lv st) (kf : x = 0 → La p l e s m below meth c b D y g h cells slots S ov T (pc + 3) lv st) : La p l e s m below meth c b D y g h cells slots S ov T pc lv (.int x :: st) :=
  fun H locs hP hQ hS ls hl => lv_if_ne hC.1.1 hC.1.2.1 hdg ht (fun q => kt q H locs hP hQ hS ls hl) (fun q => kf (by first | exact Classical.not_not.mp q | exact q) H locs hP hQ hS ls hl)
theorem a_if_eq (hC : LC p l s m c b L xs D y g h sa1 sa2) {x : Int32} {off : Int} (tgt : Nat) (hdg : decode code pc = .ok (.ifCond .eq off, 3)) (ht : (pc : Int) + off = (tgt : Int)) (he : x = 0) (kt : La p l e s m below meth c b D y g h cells slots S ov T tgt lv st) : La p l e s m below meth c b D y g h cells slots S ov T pc lv (.int x :: st) :=
  fun H locs hP hQ hS ls hl => lv_if_eq hC.1.1 hC.1.2.1 hdg ht (fun q => kt H locs hP hQ hS ls hl) (fun q => absurd he q)
theorem a_lald (hC : LC p l s m c b L xs D y g h sa1 sa2) (hdg : decode code pc = .ok (.laload, 1)) (kk : La p l e s m below meth c b D y g h cells slots S ov T (pc + 1) lv (.long (ov 0) :: st)) : La p l e s m below meth c b D y g h cells slots S ov T pc lv (.int 0 :: .ref (g 52) :: st) :=
  fun H locs hP hQ hS ls hl => va_lald (i := 0) hC.1.1 hC.1.2.1 hC.2.1 hP 52 3 (w53_hi y g (S.1, ov)) rfl (show vp_in (nI 0) 1 from vp_in_nI (by decide) (by decide)) hdg (kk H locs hP hQ hS ls hl)
theorem a_widen {c2 s2 : Nat} (h1 : cells ≤ c2) (h2 : slots ≤ s2) (kk : La p l e s m below meth c b D y g h c2 s2 S ov T pc lv st) : La p l e s m below meth c b D y g h cells slots S ov T pc lv st :=
  fun H locs hP hQ hS ls hl => W.widen h1 h2 (kk H locs hP hQ hS ls hl)
theorem a_end (hC : LC p l s m c b L xs D y g h sa1 sa2) (hr : meth.sig.returnType = ret) (hlocks : meth.locks = false) (hdg : decode code pc = .ok (.ireturn, 1)) (h1 : cells ≤ 601024) (h2 : slots ≤ 7293034) : La p l e s m below meth c b D y g h cells slots S ov T pc lv [.int 1] :=
  fun H locs hP hQ hS ls hl => va_forget hS.2.2 (W.widen h1 h2 (lw_ret hC.1.1 hC.1.2.1 hr hlocks hdg))

theorem a_cIC (hC : LC p l s m c b L xs D y g h sa1 sa2) {yy : MethodName} {bytes : ByteArray} {maxL index n : Nat} {ret : Option FieldType} {wsy : List Cond} {rm : Room} {As : List Value} {post : Int32 → St → Prop} (cw : CallW room_1 s #[Value.ref b] RL RX5 index yy bytes maxL ret wsy rm 0 0 n) (hM : KI l yy wsy rm D vwCl (tz y) (wc y g) (AC g) (.ref (g 0) :: As) S post) (hn : As.length = n) (hroom : (st.map fun v => v.category).sum ≤ 8) (hc : cells ≤ 601024) (hs : slots ≤ 7293034) (hdg : decode code pc = .ok (.invokevirtual index, 3)) (kk : ∀ (r : Int32) (S2 : St), post r S2 → La p l e s m below meth c b D y g h cells slots S2 ov T (pc + 3) lv (.int r :: st)) : La p l e s m below meth c b D y g h cells slots S ov T pc lv (As.reverse ++ .ref (g 0) :: st) := by
  intro H locs hP hQ hS ls hl
  refine va_calli (va_runV (As := As) (rest := st) hC.1 (hM H.size) cw ⟨fun a U g mk q => by obtain ⟨q0, q1, qP, qK, qD⟩ := q; exact ⟨q0, q1, qP, va_K.moved (u := U) (U := U.calling g mk a) (Vm.Alike.refl U.vm) qK, qD⟩, va_recv hC.2.1 (show va_P D vwCl (wc y g S) H from fun k q hk => hP k q (w53_lo hk)) (ci := 5) (q0 := 0) rfl rfl, fun U hU hW => ⟨rfl, by rw [hU], by rw [hU]; exact (show va_P D vwCl (wc y g S) H from fun k q hk => hP k q (w53_lo hk)), va_K.moved hW.alike hC.2.1, (show va_D (fun _ => True) (wc y g S) from ⟨fun i j p q hi hj => (hC.2.2.1 S).1 i j p q (w53_lo hi) (w53_lo hj), fun _ _ _ => trivial⟩)⟩⟩ rfl hn hl.1 rfl (lv_room hroom) hdg ⟨hc, hs⟩) hS (fun q _ hq => hC.ac hS.1 hq) (fun q hq => hC.ac hS.1 hq) (fun r u t H1 locs1 ht hvm hw hB hz1 hk1 hS1 => ?_)
  obtain ⟨hP1, hK1, hD1⟩ := hB
  rw [ht] at hP1
  exact kk r u hw H1 locs1 (w53_back hP (hC.2.2.1 (S.1, ov)) (u.1, ov) rfl hP1 hk1) (hC.keepM hQ (fun q h1 h2 => hk1 q h1 (fun h3 => h2 (AC_53 (Nat.le_refl _) h3)))) hS1 ls hl
theorem a_cIM (hC : LC p l s m c b L xs D y g h sa1 sa2) {yy : MethodName} {bytes : ByteArray} {maxL index n : Nat} {ret : Option FieldType} {wsy : List Cond} {rm : Room} {As : List Value} {post : Int32 → St → Prop} (cw : CallW room_1 s #[Value.ref b] RL RX6 index yy bytes maxL ret wsy rm 0 0 n) (hM : KI l yy wsy rm D vwCl (tz y) (wm y h) (AM h) (.ref (h 0) :: As) T post) (hn : As.length = n) (hroom : (st.map fun v => v.category).sum ≤ 8) (hc : cells ≤ 601024) (hs : slots ≤ 7293034) (hdg : decode code pc = .ok (.invokevirtual index, 3)) (kk : ∀ (r : Int32) (S2 : St), post r S2 → La p l e s m below meth c b D y g h cells slots S ov S2 (pc + 3) lv (.int r :: st)) : La p l e s m below meth c b D y g h cells slots S ov T pc lv (As.reverse ++ .ref (h 0) :: st) := by
  intro H locs hP hQ hS ls hl
  refine va_calli (va_runV (As := As) (rest := st) hC.1 (hM H.size) cw ⟨fun a U g mk q => by obtain ⟨q0, q1, qP, qK, qD⟩ := q; exact ⟨q0, q1, qP, va_K.moved (u := U) (U := U.calling g mk a) (Vm.Alike.refl U.vm) qK, qD⟩, va_recv hC.2.1 hQ (ci := 6) (q0 := 0) rfl rfl, fun U hU hW => ⟨rfl, by rw [hU], by rw [hU]; exact hQ, va_K.moved hW.alike hC.2.1, ((hC.2.2.2.1 T).weaken (fun _ _ _ _ => trivial))⟩⟩ rfl hn hl.1 rfl (lv_room hroom) hdg ⟨hc, hs⟩) hS (fun q _ hq => hC.am hS.1 hq) (fun q hq => hC.am hS.1 hq) (fun r u t H1 locs1 ht hvm hw hB hz1 hk1 hS1 => ?_)
  obtain ⟨hP1, hK1, hD1⟩ := hB
  rw [ht] at hP1
  exact kk r u hw H1 locs1 (hC.keepC hP hk1) hP1 hS1 ls hl
theorem a_cLC (hC : LC p l s m c b L xs D y g h sa1 sa2) {yy : MethodName} {bytes : ByteArray} {maxL index n : Nat} {ret : Option FieldType} {wsy : List Cond} {rm : Room} {As : List Value} {post : Int64 → St → Prop} (cw : CallW room_1 s #[Value.ref b] RL RX5 index yy bytes maxL ret wsy rm 0 0 n) (hM : KL l yy wsy rm D vwCl (tz y) (wc y g) (AC g) (.ref (g 0) :: As) S post) (hn : As.length = n) (hroom : (st.map fun v => v.category).sum ≤ 8) (hc : cells ≤ 601024) (hs : slots ≤ 7293034) (hdg : decode code pc = .ok (.invokevirtual index, 3)) (kk : ∀ (r : Int64) (S2 : St), post r S2 → La p l e s m below meth c b D y g h cells slots S2 ov T (pc + 3) lv (.long r :: st)) : La p l e s m below meth c b D y g h cells slots S ov T pc lv (As.reverse ++ .ref (g 0) :: st) := by
  intro H locs hP hQ hS ls hl
  refine va_calll (va_runV (As := As) (rest := st) hC.1 (hM H.size) cw ⟨fun a U g mk q => by obtain ⟨q0, q1, qP, qK, qD⟩ := q; exact ⟨q0, q1, qP, va_K.moved (u := U) (U := U.calling g mk a) (Vm.Alike.refl U.vm) qK, qD⟩, va_recv hC.2.1 (show va_P D vwCl (wc y g S) H from fun k q hk => hP k q (w53_lo hk)) (ci := 5) (q0 := 0) rfl rfl, fun U hU hW => ⟨rfl, by rw [hU], by rw [hU]; exact (show va_P D vwCl (wc y g S) H from fun k q hk => hP k q (w53_lo hk)), va_K.moved hW.alike hC.2.1, (show va_D (fun _ => True) (wc y g S) from ⟨fun i j p q hi hj => (hC.2.2.1 S).1 i j p q (w53_lo hi) (w53_lo hj), fun _ _ _ => trivial⟩)⟩⟩ rfl hn hl.1 rfl (lv_room hroom) hdg ⟨hc, hs⟩) hS (fun q _ hq => hC.ac hS.1 hq) (fun q hq => hC.ac hS.1 hq) (fun r u t H1 locs1 ht hvm hw hB hz1 hk1 hS1 => ?_)
  obtain ⟨hP1, hK1, hD1⟩ := hB
  rw [ht] at hP1
  exact kk r u hw H1 locs1 (w53_back hP (hC.2.2.1 (S.1, ov)) (u.1, ov) rfl hP1 hk1) (hC.keepM hQ (fun q h1 h2 => hk1 q h1 (fun h3 => h2 (AC_53 (Nat.le_refl _) h3)))) hS1 ls hl
theorem a_cLM (hC : LC p l s m c b L xs D y g h sa1 sa2) {yy : MethodName} {bytes : ByteArray} {maxL index n : Nat} {ret : Option FieldType} {wsy : List Cond} {rm : Room} {As : List Value} {post : Int64 → St → Prop} (cw : CallW room_1 s #[Value.ref b] RL RX6 index yy bytes maxL ret wsy rm 0 0 n) (hM : KL l yy wsy rm D vwCl (tz y) (wm y h) (AM h) (.ref (h 0) :: As) T post) (hn : As.length = n) (hroom : (st.map fun v => v.category).sum ≤ 8) (hc : cells ≤ 601024) (hs : slots ≤ 7293034) (hdg : decode code pc = .ok (.invokevirtual index, 3)) (kk : ∀ (r : Int64) (S2 : St), post r S2 → La p l e s m below meth c b D y g h cells slots S ov S2 (pc + 3) lv (.long r :: st)) : La p l e s m below meth c b D y g h cells slots S ov T pc lv (As.reverse ++ .ref (h 0) :: st) := by
  intro H locs hP hQ hS ls hl
  refine va_calll (va_runV (As := As) (rest := st) hC.1 (hM H.size) cw ⟨fun a U g mk q => by obtain ⟨q0, q1, qP, qK, qD⟩ := q; exact ⟨q0, q1, qP, va_K.moved (u := U) (U := U.calling g mk a) (Vm.Alike.refl U.vm) qK, qD⟩, va_recv hC.2.1 hQ (ci := 6) (q0 := 0) rfl rfl, fun U hU hW => ⟨rfl, by rw [hU], by rw [hU]; exact hQ, va_K.moved hW.alike hC.2.1, ((hC.2.2.2.1 T).weaken (fun _ _ _ _ => trivial))⟩⟩ rfl hn hl.1 rfl (lv_room hroom) hdg ⟨hc, hs⟩) hS (fun q _ hq => hC.am hS.1 hq) (fun q hq => hC.am hS.1 hq) (fun r u t H1 locs1 ht hvm hw hB hz1 hk1 hS1 => ?_)
  obtain ⟨hP1, hK1, hD1⟩ := hB
  rw [ht] at hP1
  exact kk r u hw H1 locs1 (hC.keepC hP hk1) hP1 hS1 ls hl
theorem a_stone (hC : LC p l s m c b L xs D y g h sa1 sa2) {a1 b1 : Int32} {x0 : Int32 × Int32} (h0 : fX5_stone a1 b1 S = some x0) (hc : cells + 1 ≤ 601024) (hs : slots + 6 ≤ 7293034) (hdg : decode code pc = .ok (.invokestatic 49, 3)) (kk : ∀ ov2 : Nat → Int64, (x0.1 = 0 → ov2 0 = x0.2.toInt64) → La p l e s m below meth c b D y g h (cells + 1) (slots + 6) S ov2 T (pc + 3) lv [.int x0.1]) : La p l e s m below meth c b D y g h cells slots S ov T pc lv [.ref (g 52), .int b1, .int a1, .ref (g 0)] := by
  intro H locs hP hQ hS ls hl
  have h1 : fX5_stone a1 b1 (S.1, ov) = some x0 := h0
  refine va_calli (vx_runSW (As := [.ref (g 0), .int a1, .int b1, .ref (g 52)]) (rest := []) hC.1 (kL_stone l hC.2.2.2.2.2.2.2.2.2 D y g sa1 sa2 a1 b1 (S.1, ov) x0 h1 H.size) (vx_cwSW 4 hC.1.2.2.2.2 gL_law_L_stone rfl rfl rfl (by decide +kernel) ⟨Nat.le_of_ble_eq_true rfl, Nat.le_of_ble_eq_true rfl⟩) ⟨fun a U g mk q => by obtain ⟨q0, ⟨q1, qP, qK, qD⟩, qE, qN⟩ := q; exact ⟨q0, ⟨q1, qP, va_K.moved (u := U) (U := U.calling g mk a) (Vm.Alike.refl U.vm) qK, qD⟩, (EXT.same (s := U) (U := U.calling g mk a) rfl qE : EXT _ _ _ (U.calling g mk a) U.heap), va_Nc.moved (u := U) (U := U.calling g mk a) (Vm.Alike.refl U.vm) qN⟩, fun U hU hW => ⟨rfl, ⟨by rw [hU], by rw [hU]; exact hP, va_K.moved hW.alike hC.2.1, (hC.2.2.1 _).weaken (fun _ _ _ _ => trivial)⟩, by rw [hU]; exact hC.2.2.2.2.2.2.2.1.go hW (fun q h1 h2 => hS.2.1 q h1 h2) (fun q hq => hC.a53 hS.1 hq), va_Nc.moved hW.alike hC.2.2.2.2.2.2.2.2.1⟩⟩ rfl rfl hl.1 rfl (lv_room (Nat.le_of_ble_eq_true rfl)) hdg ⟨hc, hs⟩) hS (fun q _ hq => hC.a53 hS.1 hq) (fun q hq => hC.a53 hS.1 hq) (fun r u t H1 locs1 ht hvm hw hB hz1 hk1 hS1 => ?_)
  obtain ⟨hP1, hK1, hD1⟩ := hB
  obtain ⟨hw1, hw2, hw3⟩ := hw
  subst hw1
  rw [ht] at hP1
  have e9 : u = (S.1, u.2) := Prod.ext hw2 rfl
  rw [e9] at hP1
  exact kk u.2 hw3 H1 locs1 hP1 (hC.keepM hQ hk1) hS1 ls hl
end LAW
/-- what the meanings of the two owe each other -/
def Rok (N : Nat) (Rl : St → St → Prop) : Prop := ∀ S T : St, Rl S T →
  (∀ a b : Int32, ∃ (r : Int32) (S2 T2 : St), fX5_kind a b S = some (r, S2) ∧ fX6_kind a b T = some (r, T2) ∧ Rl S2 T2) ∧
  (∀ a b : Int32, ∃ (r : Int32) (S2 T2 : St), fX5_heap a b S = some (r, S2) ∧ fX6_heap a b T = some (r, T2) ∧ Rl S2 T2) ∧
  (∀ a b c2 : Int32, ∃ (r : Int32) (S2 T2 : St), fX5_stones a b c2 S = some (r, S2) ∧ fX6_stones a b c2 T = some (r, T2) ∧ Rl S2 T2) ∧
  (∀ a b c2 d2 e2 f2 : Int32, ∃ (r : Int32) (S2 T2 : St), fX5_wall a b c2 d2 e2 f2 S = some (r, S2) ∧ fX6_wall a b c2 d2 e2 f2 T = some (r, T2) ∧ Rl S2 T2) ∧
  (∀ a b : Int32, ∃ (r : Int32) (S2 T2 : St), fX5_through a b S = some (r, S2) ∧ fX6_through a b T = some (r, T2) ∧ Rl S2 T2) ∧
  (∃ (r : Int32) (S2 T2 : St), fX5_plan N S = some (r, S2) ∧ fX6_plan N T = some (r, T2) ∧ Rl S2 T2) ∧
  (∀ a b : Int32, ∃ (k v r : Int32) (T2 : St), fX5_stone a b S = some (k, v) ∧ fX6_stone a b T = some (r, T2) ∧ fX6_thrown T2 = some k ∧ (k = 0 → v = r) ∧ Rl S T2) ∧
  (∀ a b : Int32, ∃ (r : Int32) (T2 : St), fX5_over N a b S = some r ∧ fX6_over N a b T = some (r, T2) ∧ Rl S T2) ∧
  (∃ (r : Int64) (S2 T2 : St), fX5_least N S = some (r, S2) ∧ fX6_least N T = some (r, T2) ∧ Rl S2 T2) ∧
  (∀ a b : Int32, ∃ (r : Int64) (S2 T2 : St), fX5_saved N a b S = some (r, S2) ∧ fX6_saved N a b T = some (r, T2) ∧ Rl S2 T2) ∧
  (∃ (r : Int64) (S2 T2 : St), fX5_build N S = some (r, S2) ∧ fX6_build N T = some (r, T2) ∧ Rl S2 T2) ∧
  (∀ a : Int32, ∃ (r : Int32) (S2 T2 : St), fX5_frost N a S = some (r, S2) ∧ fX6_frost N a T = some (r, T2) ∧ Rl S2 T2) ∧
  (∃ (r : Int32) (S2 T2 : St), fX5_mend N S = some (r, S2) ∧ fX6_mend N T = some (r, T2) ∧ Rl S2 T2) ∧
  (∀ a : Int32, ∃ (r : Int32) (S2 T2 : St), fX5_take N a S = some (r, S2) ∧ fX6_take N a T = some (r, T2) ∧ Rl S2 T2) ∧
  (∀ a b : Int32, ∃ (r : Int32) (T2 : St), fX5_count N a b S = some r ∧ fX6_count N a b T = some (r, T2) ∧ Rl S T2) ∧
  (∀ a : Int32, ∃ (r : Int32) (T2 : St), fX5_look N a S = some r ∧ fX6_look N a T = some (r, T2) ∧ Rl S T2)
set_option maxHeartbeats 4000000 in
set_option maxRecDepth 100000 in
theorem law_kind {p : Program} {l : Launch} {e : Env} {s : State} {m : MethodId} {below : List Frame} {meth : Method} {c : Code} {b L : Nat} {xs : Nat → Int32} {D : va_G} {y : Cy} {g h : Nat → Nat} {sa1 sa2 : Nat} {N : Nat} {Rl : St → St → Prop} (hC : LC p l s m c b L xs D y g h sa1 sa2) (hrok : Rok N Rl) {S T : St} (hR : Rl S T) {ov : Nat → Int64} {x4 : Int32} {j : Nat} (hj : j < 512) (hin : ∀ v : Int32, v ∈ ([1, 2, 3, 4, 5, 6] : List Int32) → vp_in (x4 + v) L) (hnext : ∀ (S2 T2 : St) (ov2 : Nat → Int64) (cells slots : Nat), cells ≤ 74 + (j + 1) → slots ≤ 2918 + 6 * (j + 1) → Rl S2 T2 → La p l e s m below meth c b D y g h cells slots S2 ov2 T2 676 [(0, .ref b), (1, .ref (g 0)), (2, .ref (h 0)), (3, .ref (g 52)), (4, .int x4)] []) : La p l e s m below meth c b D y g h (74 + j) (2918 + 6 * j) S ov T 120 [(0, .ref b), (1, .ref (g 0)), (2, .ref (h 0)), (3, .ref (g 52)), (4, .int x4)] [] := by
  have hrel := hrok S T hR
  obtain ⟨r0, S2, T2, h1, h2, h3⟩ := hrel.1 (xs (x4 + 1).toNatClampNeg) (xs (x4 + 2).toNatClampNeg)
  refine a_aload_n hC dL_law_120 1 rfl ?_
  refine a_aload_n hC dL_law_121 0 rfl ?_
  refine a_iload hC dL_law_122 4 rfl ?_
  refine a_iconst hC (1) dL_law_124 (by decide) ?_
  refine a_iadd hC dL_law_125 ?_
  refine a_sld hC (hin _ (by decide)) dL_law_126 ?_
  refine a_aload_n hC dL_law_127 0 rfl ?_
  refine a_iload hC dL_law_128 4 rfl ?_
  refine a_iconst hC (2) dL_law_130 (by decide) ?_
  refine a_iadd hC dL_law_131 ?_
  refine a_sld hC (hin _ (by decide)) dL_law_132 ?_
  refine a_cIC hC (As := [.int (xs (x4 + 1).toNatClampNeg), .int (xs (x4 + 2).toNatClampNeg)]) (cwV 2 hC.1.2.2.2.2 gL_law_X5_kind rfl rfl rfl (by decide +kernel) ⟨Nat.le_of_ble_eq_true rfl, Nat.le_of_ble_eq_true rfl⟩) (kX5_kind l D y g  (xs (x4 + 1).toNatClampNeg) (xs (x4 + 2).toNatClampNeg) S _ h1) rfl (Nat.le_of_ble_eq_true rfl) (by omega) (by omega) dL_law_133 ?_
  intro r9 S9 hw
  obtain ⟨h91, h92⟩ := Prod.mk.inj hw.symm
  subst h91
  subst h92
  refine a_aload_n hC dL_law_136 2 rfl ?_
  refine a_aload_n hC dL_law_137 0 rfl ?_
  refine a_iload hC dL_law_138 4 rfl ?_
  refine a_iconst hC (1) dL_law_140 (by decide) ?_
  refine a_iadd hC dL_law_141 ?_
  refine a_sld hC (hin _ (by decide)) dL_law_142 ?_
  refine a_aload_n hC dL_law_143 0 rfl ?_
  refine a_iload hC dL_law_144 4 rfl ?_
  refine a_iconst hC (2) dL_law_146 (by decide) ?_
  refine a_iadd hC dL_law_147 ?_
  refine a_sld hC (hin _ (by decide)) dL_law_148 ?_
  refine a_cIM hC (As := [.int (xs (x4 + 1).toNatClampNeg), .int (xs (x4 + 2).toNatClampNeg)]) (cwV 2 hC.1.2.2.2.2 gL_law_X6_kind rfl rfl rfl (by decide +kernel) ⟨Nat.le_of_ble_eq_true rfl, Nat.le_of_ble_eq_true rfl⟩) (kX6_kind l D y h  (xs (x4 + 1).toNatClampNeg) (xs (x4 + 2).toNatClampNeg) T _ h2) rfl (Nat.le_of_ble_eq_true rfl) (by omega) (by omega) dL_law_149 ?_
  intro r9 S9 hw
  obtain ⟨h91, h92⟩ := Prod.mk.inj hw.symm
  subst h91
  subst h92
  refine a_icmp_eq hC 676 dL_law_152 (by decide) rfl ?_
  exact hnext S2 T2 ov _ _ (by omega) (by omega) h3
set_option maxHeartbeats 4000000 in
set_option maxRecDepth 100000 in
theorem law_heap {p : Program} {l : Launch} {e : Env} {s : State} {m : MethodId} {below : List Frame} {meth : Method} {c : Code} {b L : Nat} {xs : Nat → Int32} {D : va_G} {y : Cy} {g h : Nat → Nat} {sa1 sa2 : Nat} {N : Nat} {Rl : St → St → Prop} (hC : LC p l s m c b L xs D y g h sa1 sa2) (hrok : Rok N Rl) {S T : St} (hR : Rl S T) {ov : Nat → Int64} {x4 : Int32} {j : Nat} (hj : j < 512) (hin : ∀ v : Int32, v ∈ ([1, 2, 3, 4, 5, 6] : List Int32) → vp_in (x4 + v) L) (hnext : ∀ (S2 T2 : St) (ov2 : Nat → Int64) (cells slots : Nat), cells ≤ 74 + (j + 1) → slots ≤ 2918 + 6 * (j + 1) → Rl S2 T2 → La p l e s m below meth c b D y g h cells slots S2 ov2 T2 676 [(0, .ref b), (1, .ref (g 0)), (2, .ref (h 0)), (3, .ref (g 52)), (4, .int x4)] []) : La p l e s m below meth c b D y g h (74 + j) (2918 + 6 * j) S ov T 157 [(0, .ref b), (1, .ref (g 0)), (2, .ref (h 0)), (3, .ref (g 52)), (4, .int x4)] [] := by
  have hrel := hrok S T hR
  obtain ⟨r0, S2, T2, h1, h2, h3⟩ := hrel.2.1 (xs (x4 + 1).toNatClampNeg) (xs (x4 + 2).toNatClampNeg)
  refine a_aload_n hC dL_law_157 1 rfl ?_
  refine a_aload_n hC dL_law_158 0 rfl ?_
  refine a_iload hC dL_law_159 4 rfl ?_
  refine a_iconst hC (1) dL_law_161 (by decide) ?_
  refine a_iadd hC dL_law_162 ?_
  refine a_sld hC (hin _ (by decide)) dL_law_163 ?_
  refine a_aload_n hC dL_law_164 0 rfl ?_
  refine a_iload hC dL_law_165 4 rfl ?_
  refine a_iconst hC (2) dL_law_167 (by decide) ?_
  refine a_iadd hC dL_law_168 ?_
  refine a_sld hC (hin _ (by decide)) dL_law_169 ?_
  refine a_cIC hC (As := [.int (xs (x4 + 1).toNatClampNeg), .int (xs (x4 + 2).toNatClampNeg)]) (cwV 2 hC.1.2.2.2.2 gL_law_X5_heap rfl rfl rfl (by decide +kernel) ⟨Nat.le_of_ble_eq_true rfl, Nat.le_of_ble_eq_true rfl⟩) (kX5_heap l D y g  (xs (x4 + 1).toNatClampNeg) (xs (x4 + 2).toNatClampNeg) S _ h1) rfl (Nat.le_of_ble_eq_true rfl) (by omega) (by omega) dL_law_170 ?_
  intro r9 S9 hw
  obtain ⟨h91, h92⟩ := Prod.mk.inj hw.symm
  subst h91
  subst h92
  refine a_aload_n hC dL_law_173 2 rfl ?_
  refine a_aload_n hC dL_law_174 0 rfl ?_
  refine a_iload hC dL_law_175 4 rfl ?_
  refine a_iconst hC (1) dL_law_177 (by decide) ?_
  refine a_iadd hC dL_law_178 ?_
  refine a_sld hC (hin _ (by decide)) dL_law_179 ?_
  refine a_aload_n hC dL_law_180 0 rfl ?_
  refine a_iload hC dL_law_181 4 rfl ?_
  refine a_iconst hC (2) dL_law_183 (by decide) ?_
  refine a_iadd hC dL_law_184 ?_
  refine a_sld hC (hin _ (by decide)) dL_law_185 ?_
  refine a_cIM hC (As := [.int (xs (x4 + 1).toNatClampNeg), .int (xs (x4 + 2).toNatClampNeg)]) (cwV 2 hC.1.2.2.2.2 gL_law_X6_heap rfl rfl rfl (by decide +kernel) ⟨Nat.le_of_ble_eq_true rfl, Nat.le_of_ble_eq_true rfl⟩) (kX6_heap l D y h  (xs (x4 + 1).toNatClampNeg) (xs (x4 + 2).toNatClampNeg) T _ h2) rfl (Nat.le_of_ble_eq_true rfl) (by omega) (by omega) dL_law_186 ?_
  intro r9 S9 hw
  obtain ⟨h91, h92⟩ := Prod.mk.inj hw.symm
  subst h91
  subst h92
  refine a_icmp_eq hC 676 dL_law_189 (by decide) rfl ?_
  exact hnext S2 T2 ov _ _ (by omega) (by omega) h3
set_option maxHeartbeats 4000000 in
set_option maxRecDepth 100000 in
theorem law_stones {p : Program} {l : Launch} {e : Env} {s : State} {m : MethodId} {below : List Frame} {meth : Method} {c : Code} {b L : Nat} {xs : Nat → Int32} {D : va_G} {y : Cy} {g h : Nat → Nat} {sa1 sa2 : Nat} {N : Nat} {Rl : St → St → Prop} (hC : LC p l s m c b L xs D y g h sa1 sa2) (hrok : Rok N Rl) {S T : St} (hR : Rl S T) {ov : Nat → Int64} {x4 : Int32} {j : Nat} (hj : j < 512) (hin : ∀ v : Int32, v ∈ ([1, 2, 3, 4, 5, 6] : List Int32) → vp_in (x4 + v) L) (hnext : ∀ (S2 T2 : St) (ov2 : Nat → Int64) (cells slots : Nat), cells ≤ 74 + (j + 1) → slots ≤ 2918 + 6 * (j + 1) → Rl S2 T2 → La p l e s m below meth c b D y g h cells slots S2 ov2 T2 676 [(0, .ref b), (1, .ref (g 0)), (2, .ref (h 0)), (3, .ref (g 52)), (4, .int x4)] []) : La p l e s m below meth c b D y g h (74 + j) (2918 + 6 * j) S ov T 194 [(0, .ref b), (1, .ref (g 0)), (2, .ref (h 0)), (3, .ref (g 52)), (4, .int x4)] [] := by
  have hrel := hrok S T hR
  obtain ⟨r0, S2, T2, h1, h2, h3⟩ := hrel.2.2.1 (xs (x4 + 1).toNatClampNeg) (xs (x4 + 2).toNatClampNeg) (xs (x4 + 3).toNatClampNeg)
  refine a_aload_n hC dL_law_194 1 rfl ?_
  refine a_aload_n hC dL_law_195 0 rfl ?_
  refine a_iload hC dL_law_196 4 rfl ?_
  refine a_iconst hC (1) dL_law_198 (by decide) ?_
  refine a_iadd hC dL_law_199 ?_
  refine a_sld hC (hin _ (by decide)) dL_law_200 ?_
  refine a_aload_n hC dL_law_201 0 rfl ?_
  refine a_iload hC dL_law_202 4 rfl ?_
  refine a_iconst hC (2) dL_law_204 (by decide) ?_
  refine a_iadd hC dL_law_205 ?_
  refine a_sld hC (hin _ (by decide)) dL_law_206 ?_
  refine a_aload_n hC dL_law_207 0 rfl ?_
  refine a_iload hC dL_law_208 4 rfl ?_
  refine a_iconst hC (3) dL_law_210 (by decide) ?_
  refine a_iadd hC dL_law_211 ?_
  refine a_sld hC (hin _ (by decide)) dL_law_212 ?_
  refine a_cIC hC (As := [.int (xs (x4 + 1).toNatClampNeg), .int (xs (x4 + 2).toNatClampNeg), .int (xs (x4 + 3).toNatClampNeg)]) (cwV 3 hC.1.2.2.2.2 gL_law_X5_stones rfl rfl rfl (by decide +kernel) ⟨Nat.le_of_ble_eq_true rfl, Nat.le_of_ble_eq_true rfl⟩) (kX5_stones l D y g  (xs (x4 + 1).toNatClampNeg) (xs (x4 + 2).toNatClampNeg) (xs (x4 + 3).toNatClampNeg) S _ h1) rfl (Nat.le_of_ble_eq_true rfl) (by omega) (by omega) dL_law_213 ?_
  intro r9 S9 hw
  obtain ⟨h91, h92⟩ := Prod.mk.inj hw.symm
  subst h91
  subst h92
  refine a_aload_n hC dL_law_216 2 rfl ?_
  refine a_aload_n hC dL_law_217 0 rfl ?_
  refine a_iload hC dL_law_218 4 rfl ?_
  refine a_iconst hC (1) dL_law_220 (by decide) ?_
  refine a_iadd hC dL_law_221 ?_
  refine a_sld hC (hin _ (by decide)) dL_law_222 ?_
  refine a_aload_n hC dL_law_223 0 rfl ?_
  refine a_iload hC dL_law_224 4 rfl ?_
  refine a_iconst hC (2) dL_law_226 (by decide) ?_
  refine a_iadd hC dL_law_227 ?_
  refine a_sld hC (hin _ (by decide)) dL_law_228 ?_
  refine a_aload_n hC dL_law_229 0 rfl ?_
  refine a_iload hC dL_law_230 4 rfl ?_
  refine a_iconst hC (3) dL_law_232 (by decide) ?_
  refine a_iadd hC dL_law_233 ?_
  refine a_sld hC (hin _ (by decide)) dL_law_234 ?_
  refine a_cIM hC (As := [.int (xs (x4 + 1).toNatClampNeg), .int (xs (x4 + 2).toNatClampNeg), .int (xs (x4 + 3).toNatClampNeg)]) (cwV 3 hC.1.2.2.2.2 gL_law_X6_stones rfl rfl rfl (by decide +kernel) ⟨Nat.le_of_ble_eq_true rfl, Nat.le_of_ble_eq_true rfl⟩) (kX6_stones l D y h  (xs (x4 + 1).toNatClampNeg) (xs (x4 + 2).toNatClampNeg) (xs (x4 + 3).toNatClampNeg) T _ h2) rfl (Nat.le_of_ble_eq_true rfl) (by omega) (by omega) dL_law_235 ?_
  intro r9 S9 hw
  obtain ⟨h91, h92⟩ := Prod.mk.inj hw.symm
  subst h91
  subst h92
  refine a_icmp_eq hC 676 dL_law_238 (by decide) rfl ?_
  exact hnext S2 T2 ov _ _ (by omega) (by omega) h3
set_option maxHeartbeats 4000000 in
set_option maxRecDepth 100000 in
theorem law_wall {p : Program} {l : Launch} {e : Env} {s : State} {m : MethodId} {below : List Frame} {meth : Method} {c : Code} {b L : Nat} {xs : Nat → Int32} {D : va_G} {y : Cy} {g h : Nat → Nat} {sa1 sa2 : Nat} {N : Nat} {Rl : St → St → Prop} (hC : LC p l s m c b L xs D y g h sa1 sa2) (hrok : Rok N Rl) {S T : St} (hR : Rl S T) {ov : Nat → Int64} {x4 : Int32} {j : Nat} (hj : j < 512) (hin : ∀ v : Int32, v ∈ ([1, 2, 3, 4, 5, 6] : List Int32) → vp_in (x4 + v) L) (hnext : ∀ (S2 T2 : St) (ov2 : Nat → Int64) (cells slots : Nat), cells ≤ 74 + (j + 1) → slots ≤ 2918 + 6 * (j + 1) → Rl S2 T2 → La p l e s m below meth c b D y g h cells slots S2 ov2 T2 676 [(0, .ref b), (1, .ref (g 0)), (2, .ref (h 0)), (3, .ref (g 52)), (4, .int x4)] []) : La p l e s m below meth c b D y g h (74 + j) (2918 + 6 * j) S ov T 243 [(0, .ref b), (1, .ref (g 0)), (2, .ref (h 0)), (3, .ref (g 52)), (4, .int x4)] [] := by
  have hrel := hrok S T hR
  obtain ⟨r0, S2, T2, h1, h2, h3⟩ := hrel.2.2.2.1 (xs (x4 + 1).toNatClampNeg) (xs (x4 + 2).toNatClampNeg) (xs (x4 + 3).toNatClampNeg) (xs (x4 + 4).toNatClampNeg) (xs (x4 + 5).toNatClampNeg) (xs (x4 + 6).toNatClampNeg)
  refine a_aload_n hC dL_law_243 1 rfl ?_
  refine a_aload_n hC dL_law_244 0 rfl ?_
  refine a_iload hC dL_law_245 4 rfl ?_
  refine a_iconst hC (1) dL_law_247 (by decide) ?_
  refine a_iadd hC dL_law_248 ?_
  refine a_sld hC (hin _ (by decide)) dL_law_249 ?_
  refine a_aload_n hC dL_law_250 0 rfl ?_
  refine a_iload hC dL_law_251 4 rfl ?_
  refine a_iconst hC (2) dL_law_253 (by decide) ?_
  refine a_iadd hC dL_law_254 ?_
  refine a_sld hC (hin _ (by decide)) dL_law_255 ?_
  refine a_aload_n hC dL_law_256 0 rfl ?_
  refine a_iload hC dL_law_257 4 rfl ?_
  refine a_iconst hC (3) dL_law_259 (by decide) ?_
  refine a_iadd hC dL_law_260 ?_
  refine a_sld hC (hin _ (by decide)) dL_law_261 ?_
  refine a_aload_n hC dL_law_262 0 rfl ?_
  refine a_iload hC dL_law_263 4 rfl ?_
  refine a_iconst hC (4) dL_law_265 (by decide) ?_
  refine a_iadd hC dL_law_266 ?_
  refine a_sld hC (hin _ (by decide)) dL_law_267 ?_
  refine a_aload_n hC dL_law_268 0 rfl ?_
  refine a_iload hC dL_law_269 4 rfl ?_
  refine a_iconst hC (5) dL_law_271 (by decide) ?_
  refine a_iadd hC dL_law_272 ?_
  refine a_sld hC (hin _ (by decide)) dL_law_273 ?_
  refine a_aload_n hC dL_law_274 0 rfl ?_
  refine a_iload hC dL_law_275 4 rfl ?_
  refine a_bipush hC (6) dL_law_277 (by decide) ?_
  refine a_iadd hC dL_law_279 ?_
  refine a_sld hC (hin _ (by decide)) dL_law_280 ?_
  refine a_cIC hC (As := [.int (xs (x4 + 1).toNatClampNeg), .int (xs (x4 + 2).toNatClampNeg), .int (xs (x4 + 3).toNatClampNeg), .int (xs (x4 + 4).toNatClampNeg), .int (xs (x4 + 5).toNatClampNeg), .int (xs (x4 + 6).toNatClampNeg)]) (cwV 6 hC.1.2.2.2.2 gL_law_X5_wall rfl rfl rfl (by decide +kernel) ⟨Nat.le_of_ble_eq_true rfl, Nat.le_of_ble_eq_true rfl⟩) (kX5_wall l D y g  (xs (x4 + 1).toNatClampNeg) (xs (x4 + 2).toNatClampNeg) (xs (x4 + 3).toNatClampNeg) (xs (x4 + 4).toNatClampNeg) (xs (x4 + 5).toNatClampNeg) (xs (x4 + 6).toNatClampNeg) S _ h1) rfl (Nat.le_of_ble_eq_true rfl) (by omega) (by omega) dL_law_281 ?_
  intro r9 S9 hw
  obtain ⟨h91, h92⟩ := Prod.mk.inj hw.symm
  subst h91
  subst h92
  refine a_aload_n hC dL_law_284 2 rfl ?_
  refine a_aload_n hC dL_law_285 0 rfl ?_
  refine a_iload hC dL_law_286 4 rfl ?_
  refine a_iconst hC (1) dL_law_288 (by decide) ?_
  refine a_iadd hC dL_law_289 ?_
  refine a_sld hC (hin _ (by decide)) dL_law_290 ?_
  refine a_aload_n hC dL_law_291 0 rfl ?_
  refine a_iload hC dL_law_292 4 rfl ?_
  refine a_iconst hC (2) dL_law_294 (by decide) ?_
  refine a_iadd hC dL_law_295 ?_
  refine a_sld hC (hin _ (by decide)) dL_law_296 ?_
  refine a_aload_n hC dL_law_297 0 rfl ?_
  refine a_iload hC dL_law_298 4 rfl ?_
  refine a_iconst hC (3) dL_law_300 (by decide) ?_
  refine a_iadd hC dL_law_301 ?_
  refine a_sld hC (hin _ (by decide)) dL_law_302 ?_
  refine a_aload_n hC dL_law_303 0 rfl ?_
  refine a_iload hC dL_law_304 4 rfl ?_
  refine a_iconst hC (4) dL_law_306 (by decide) ?_
  refine a_iadd hC dL_law_307 ?_
  refine a_sld hC (hin _ (by decide)) dL_law_308 ?_
  refine a_aload_n hC dL_law_309 0 rfl ?_
  refine a_iload hC dL_law_310 4 rfl ?_
  refine a_iconst hC (5) dL_law_312 (by decide) ?_
  refine a_iadd hC dL_law_313 ?_
  refine a_sld hC (hin _ (by decide)) dL_law_314 ?_
  refine a_aload_n hC dL_law_315 0 rfl ?_
  refine a_iload hC dL_law_316 4 rfl ?_
  refine a_bipush hC (6) dL_law_318 (by decide) ?_
  refine a_iadd hC dL_law_320 ?_
  refine a_sld hC (hin _ (by decide)) dL_law_321 ?_
  refine a_cIM hC (As := [.int (xs (x4 + 1).toNatClampNeg), .int (xs (x4 + 2).toNatClampNeg), .int (xs (x4 + 3).toNatClampNeg), .int (xs (x4 + 4).toNatClampNeg), .int (xs (x4 + 5).toNatClampNeg), .int (xs (x4 + 6).toNatClampNeg)]) (cwV 6 hC.1.2.2.2.2 gL_law_X6_wall rfl rfl rfl (by decide +kernel) ⟨Nat.le_of_ble_eq_true rfl, Nat.le_of_ble_eq_true rfl⟩) (kX6_wall l D y h  (xs (x4 + 1).toNatClampNeg) (xs (x4 + 2).toNatClampNeg) (xs (x4 + 3).toNatClampNeg) (xs (x4 + 4).toNatClampNeg) (xs (x4 + 5).toNatClampNeg) (xs (x4 + 6).toNatClampNeg) T _ h2) rfl (Nat.le_of_ble_eq_true rfl) (by omega) (by omega) dL_law_322 ?_
  intro r9 S9 hw
  obtain ⟨h91, h92⟩ := Prod.mk.inj hw.symm
  subst h91
  subst h92
  refine a_icmp_eq hC 676 dL_law_325 (by decide) rfl ?_
  exact hnext S2 T2 ov _ _ (by omega) (by omega) h3
set_option maxHeartbeats 4000000 in
set_option maxRecDepth 100000 in
theorem law_through {p : Program} {l : Launch} {e : Env} {s : State} {m : MethodId} {below : List Frame} {meth : Method} {c : Code} {b L : Nat} {xs : Nat → Int32} {D : va_G} {y : Cy} {g h : Nat → Nat} {sa1 sa2 : Nat} {N : Nat} {Rl : St → St → Prop} (hC : LC p l s m c b L xs D y g h sa1 sa2) (hrok : Rok N Rl) {S T : St} (hR : Rl S T) {ov : Nat → Int64} {x4 : Int32} {j : Nat} (hj : j < 512) (hin : ∀ v : Int32, v ∈ ([1, 2, 3, 4, 5, 6] : List Int32) → vp_in (x4 + v) L) (hnext : ∀ (S2 T2 : St) (ov2 : Nat → Int64) (cells slots : Nat), cells ≤ 74 + (j + 1) → slots ≤ 2918 + 6 * (j + 1) → Rl S2 T2 → La p l e s m below meth c b D y g h cells slots S2 ov2 T2 676 [(0, .ref b), (1, .ref (g 0)), (2, .ref (h 0)), (3, .ref (g 52)), (4, .int x4)] []) : La p l e s m below meth c b D y g h (74 + j) (2918 + 6 * j) S ov T 330 [(0, .ref b), (1, .ref (g 0)), (2, .ref (h 0)), (3, .ref (g 52)), (4, .int x4)] [] := by
  have hrel := hrok S T hR
  obtain ⟨r0, S2, T2, h1, h2, h3⟩ := hrel.2.2.2.2.1 (xs (x4 + 1).toNatClampNeg) (xs (x4 + 2).toNatClampNeg)
  refine a_aload_n hC dL_law_330 1 rfl ?_
  refine a_aload_n hC dL_law_331 0 rfl ?_
  refine a_iload hC dL_law_332 4 rfl ?_
  refine a_iconst hC (1) dL_law_334 (by decide) ?_
  refine a_iadd hC dL_law_335 ?_
  refine a_sld hC (hin _ (by decide)) dL_law_336 ?_
  refine a_aload_n hC dL_law_337 0 rfl ?_
  refine a_iload hC dL_law_338 4 rfl ?_
  refine a_iconst hC (2) dL_law_340 (by decide) ?_
  refine a_iadd hC dL_law_341 ?_
  refine a_sld hC (hin _ (by decide)) dL_law_342 ?_
  refine a_cIC hC (As := [.int (xs (x4 + 1).toNatClampNeg), .int (xs (x4 + 2).toNatClampNeg)]) (cwV 2 hC.1.2.2.2.2 gL_law_X5_through rfl rfl rfl (by decide +kernel) ⟨Nat.le_of_ble_eq_true rfl, Nat.le_of_ble_eq_true rfl⟩) (kX5_through l D y g  (xs (x4 + 1).toNatClampNeg) (xs (x4 + 2).toNatClampNeg) S _ h1) rfl (Nat.le_of_ble_eq_true rfl) (by omega) (by omega) dL_law_343 ?_
  intro r9 S9 hw
  obtain ⟨h91, h92⟩ := Prod.mk.inj hw.symm
  subst h91
  subst h92
  refine a_aload_n hC dL_law_346 2 rfl ?_
  refine a_aload_n hC dL_law_347 0 rfl ?_
  refine a_iload hC dL_law_348 4 rfl ?_
  refine a_iconst hC (1) dL_law_350 (by decide) ?_
  refine a_iadd hC dL_law_351 ?_
  refine a_sld hC (hin _ (by decide)) dL_law_352 ?_
  refine a_aload_n hC dL_law_353 0 rfl ?_
  refine a_iload hC dL_law_354 4 rfl ?_
  refine a_iconst hC (2) dL_law_356 (by decide) ?_
  refine a_iadd hC dL_law_357 ?_
  refine a_sld hC (hin _ (by decide)) dL_law_358 ?_
  refine a_cIM hC (As := [.int (xs (x4 + 1).toNatClampNeg), .int (xs (x4 + 2).toNatClampNeg)]) (cwV 2 hC.1.2.2.2.2 gL_law_X6_through rfl rfl rfl (by decide +kernel) ⟨Nat.le_of_ble_eq_true rfl, Nat.le_of_ble_eq_true rfl⟩) (kX6_through l D y h  (xs (x4 + 1).toNatClampNeg) (xs (x4 + 2).toNatClampNeg) T _ h2) rfl (Nat.le_of_ble_eq_true rfl) (by omega) (by omega) dL_law_359 ?_
  intro r9 S9 hw
  obtain ⟨h91, h92⟩ := Prod.mk.inj hw.symm
  subst h91
  subst h92
  refine a_icmp_eq hC 676 dL_law_362 (by decide) rfl ?_
  exact hnext S2 T2 ov _ _ (by omega) (by omega) h3
set_option maxHeartbeats 4000000 in
set_option maxRecDepth 100000 in
theorem law_plan {p : Program} {l : Launch} {e : Env} {s : State} {m : MethodId} {below : List Frame} {meth : Method} {c : Code} {b L : Nat} {xs : Nat → Int32} {D : va_G} {y : Cy} {g h : Nat → Nat} {sa1 sa2 : Nat} {N : Nat} {Rl : St → St → Prop} (hC : LC p l s m c b L xs D y g h sa1 sa2) (hrok : Rok N Rl) {S T : St} (hR : Rl S T) {ov : Nat → Int64} {x4 : Int32} {j : Nat} (hj : j < 512) (hin : ∀ v : Int32, v ∈ ([1, 2, 3, 4, 5, 6] : List Int32) → vp_in (x4 + v) L) (hnext : ∀ (S2 T2 : St) (ov2 : Nat → Int64) (cells slots : Nat), cells ≤ 74 + (j + 1) → slots ≤ 2918 + 6 * (j + 1) → Rl S2 T2 → La p l e s m below meth c b D y g h cells slots S2 ov2 T2 676 [(0, .ref b), (1, .ref (g 0)), (2, .ref (h 0)), (3, .ref (g 52)), (4, .int x4)] []) : La p l e s m below meth c b D y g h (74 + j) (2918 + 6 * j) S ov T 367 [(0, .ref b), (1, .ref (g 0)), (2, .ref (h 0)), (3, .ref (g 52)), (4, .int x4)] [] := by
  have hrel := hrok S T hR
  obtain ⟨r0, S2, T2, h1, h2, h3⟩ := hrel.2.2.2.2.2.1
  refine a_aload_n hC dL_law_367 1 rfl ?_
  refine a_cIC hC (As := []) (cwV 0 hC.1.2.2.2.2 gL_law_X5_plan rfl rfl rfl (by decide +kernel) ⟨Nat.le_of_ble_eq_true rfl, Nat.le_of_ble_eq_true rfl⟩) (kX5_plan l D y g N S _ h1) rfl (Nat.le_of_ble_eq_true rfl) (by omega) (by omega) dL_law_368 ?_
  intro r9 S9 hw
  obtain ⟨h91, h92⟩ := Prod.mk.inj hw.symm
  subst h91
  subst h92
  refine a_aload_n hC dL_law_371 2 rfl ?_
  refine a_cIM hC (As := []) (cwV 0 hC.1.2.2.2.2 gL_law_X6_plan rfl rfl rfl (by decide +kernel) ⟨Nat.le_of_ble_eq_true rfl, Nat.le_of_ble_eq_true rfl⟩) (kX6_plan l D y h N T _ h2) rfl (Nat.le_of_ble_eq_true rfl) (by omega) (by omega) dL_law_372 ?_
  intro r9 S9 hw
  obtain ⟨h91, h92⟩ := Prod.mk.inj hw.symm
  subst h91
  subst h92
  refine a_icmp_eq hC 676 dL_law_375 (by decide) rfl ?_
  exact hnext S2 T2 ov _ _ (by omega) (by omega) h3
set_option maxHeartbeats 4000000 in
set_option maxRecDepth 100000 in
theorem law_stone {p : Program} {l : Launch} {e : Env} {s : State} {m : MethodId} {below : List Frame} {meth : Method} {c : Code} {b L : Nat} {xs : Nat → Int32} {D : va_G} {y : Cy} {g h : Nat → Nat} {sa1 sa2 : Nat} {N : Nat} {Rl : St → St → Prop} (hC : LC p l s m c b L xs D y g h sa1 sa2) (hrok : Rok N Rl) {S T : St} (hR : Rl S T) {ov : Nat → Int64} {x4 : Int32} {j : Nat} (hj : j < 512) (hin : ∀ v : Int32, v ∈ ([1, 2, 3, 4, 5, 6] : List Int32) → vp_in (x4 + v) L) (hnext : ∀ (S2 T2 : St) (ov2 : Nat → Int64) (cells slots : Nat), cells ≤ 74 + (j + 1) → slots ≤ 2918 + 6 * (j + 1) → Rl S2 T2 → La p l e s m below meth c b D y g h cells slots S2 ov2 T2 676 [(0, .ref b), (1, .ref (g 0)), (2, .ref (h 0)), (3, .ref (g 52)), (4, .int x4)] []) : La p l e s m below meth c b D y g h (74 + j) (2918 + 6 * j) S ov T 380 [(0, .ref b), (1, .ref (g 0)), (2, .ref (h 0)), (3, .ref (g 52)), (4, .int x4)] [] := by
  have hrel := hrok S T hR
  obtain ⟨k0, v0, r0, T2, h1, h2, h3, h4, h5⟩ := hrel.2.2.2.2.2.2.1 (xs (x4 + 1).toNatClampNeg) (xs (x4 + 2).toNatClampNeg)
  refine a_aload_n hC dL_law_380 1 rfl ?_
  refine a_aload_n hC dL_law_381 0 rfl ?_
  refine a_iload hC dL_law_382 4 rfl ?_
  refine a_iconst hC (1) dL_law_384 (by decide) ?_
  refine a_iadd hC dL_law_385 ?_
  refine a_sld hC (hin _ (by decide)) dL_law_386 ?_
  refine a_aload_n hC dL_law_387 0 rfl ?_
  refine a_iload hC dL_law_388 4 rfl ?_
  refine a_iconst hC (2) dL_law_390 (by decide) ?_
  refine a_iadd hC dL_law_391 ?_
  refine a_sld hC (hin _ (by decide)) dL_law_392 ?_
  refine a_aload_n hC dL_law_393 3 rfl ?_
  refine a_stone hC h1 (by omega) (by omega) dL_law_394 ?_
  intro ov2 hov
  refine a_istore hC [(0, .ref b), (1, .ref (g 0)), (2, .ref (h 0)), (3, .ref (g 52)), (4, .int x4), (5, .int k0)] [1, 2, 3, 4, 5, 0] dL_law_397 (by decide) rfl rfl ?_
  refine a_aload_n hC dL_law_399 2 rfl ?_
  refine a_aload_n hC dL_law_400 0 rfl ?_
  refine a_iload hC dL_law_401 4 rfl ?_
  refine a_iconst hC (1) dL_law_403 (by decide) ?_
  refine a_iadd hC dL_law_404 ?_
  refine a_sld hC (hin _ (by decide)) dL_law_405 ?_
  refine a_aload_n hC dL_law_406 0 rfl ?_
  refine a_iload hC dL_law_407 4 rfl ?_
  refine a_iconst hC (2) dL_law_409 (by decide) ?_
  refine a_iadd hC dL_law_410 ?_
  refine a_sld hC (hin _ (by decide)) dL_law_411 ?_
  refine a_cIM hC (As := [.int (xs (x4 + 1).toNatClampNeg), .int (xs (x4 + 2).toNatClampNeg)]) (cwV 2 hC.1.2.2.2.2 gL_law_X6_stone rfl rfl rfl (by decide +kernel) ⟨Nat.le_of_ble_eq_true rfl, Nat.le_of_ble_eq_true rfl⟩) (kX6_stone l D y h  (xs (x4 + 1).toNatClampNeg) (xs (x4 + 2).toNatClampNeg) T _ h2) rfl (Nat.le_of_ble_eq_true rfl) (by omega) (by omega) dL_law_412 ?_
  intro r9 S9 hw
  obtain ⟨h91, h92⟩ := Prod.mk.inj hw.symm
  subst h91
  subst h92
  refine a_istore hC [(0, .ref b), (1, .ref (g 0)), (2, .ref (h 0)), (3, .ref (g 52)), (4, .int x4), (5, .int k0), (6, .int r0)] [1, 2, 3, 4, 5, 6, 0] dL_law_415 (by decide) rfl rfl ?_
  refine a_aload_n hC dL_law_417 2 rfl ?_
  refine a_cIM hC (As := []) (cwV 0 hC.1.2.2.2.2 gL_law_X6_thrown rfl rfl rfl (by decide +kernel) ⟨Nat.le_of_ble_eq_true rfl, Nat.le_of_ble_eq_true rfl⟩) (kX6_thrown l D y h  T2 _ h3) rfl (Nat.le_of_ble_eq_true rfl) (by omega) (by omega) dL_law_418 ?_
  intro r9 S9 hw
  obtain ⟨h91, h92⟩ := hw
  have h91 := h91.symm
  have h92 := h92.symm
  subst h91
  subst h92
  refine a_iload hC dL_law_421 5 rfl ?_
  refine a_icmp_eq hC 428 dL_law_423 (by decide) rfl ?_
  refine a_iload hC dL_law_428 5 rfl ?_
  refine a_if_ne hC 445 dL_law_430 (by decide) (fun hk0 => ?_) (fun hk0 => ?_)
  · refine a_goto hC 676 dL_law_445 (by decide) ?_
    refine a_lv [(0, .ref b), (1, .ref (g 0)), (2, .ref (h 0)), (3, .ref (g 52)), (4, .int x4)] [0, 1, 2, 3, 4] rfl ?_
    exact hnext S T2 ov2 _ _ (by omega) (by omega) h5
  refine a_aload_n hC dL_law_433 3 rfl ?_
  refine a_iconst hC (0) dL_law_434 (by decide) ?_
  refine a_lald hC dL_law_435 ?_
  refine a_iload hC dL_law_436 6 rfl ?_
  refine a_i2l hC dL_law_438 ?_
  refine a_lcmp hC dL_law_439 ?_
  refine a_if_eq hC 445 dL_law_440 (by decide) (by rw [hov hk0, h4 hk0]; simp [lg_cmp]) ?_
  refine a_goto hC 676 dL_law_445 (by decide) ?_
  refine a_lv [(0, .ref b), (1, .ref (g 0)), (2, .ref (h 0)), (3, .ref (g 52)), (4, .int x4)] [0, 1, 2, 3, 4] rfl ?_
  exact hnext S T2 ov2 _ _ (by omega) (by omega) h5
set_option maxHeartbeats 4000000 in
set_option maxRecDepth 100000 in
theorem law_over {p : Program} {l : Launch} {e : Env} {s : State} {m : MethodId} {below : List Frame} {meth : Method} {c : Code} {b L : Nat} {xs : Nat → Int32} {D : va_G} {y : Cy} {g h : Nat → Nat} {sa1 sa2 : Nat} {N : Nat} {Rl : St → St → Prop} (hC : LC p l s m c b L xs D y g h sa1 sa2) (hrok : Rok N Rl) {S T : St} (hR : Rl S T) {ov : Nat → Int64} {x4 : Int32} {j : Nat} (hj : j < 512) (hin : ∀ v : Int32, v ∈ ([1, 2, 3, 4, 5, 6] : List Int32) → vp_in (x4 + v) L) (hnext : ∀ (S2 T2 : St) (ov2 : Nat → Int64) (cells slots : Nat), cells ≤ 74 + (j + 1) → slots ≤ 2918 + 6 * (j + 1) → Rl S2 T2 → La p l e s m below meth c b D y g h cells slots S2 ov2 T2 676 [(0, .ref b), (1, .ref (g 0)), (2, .ref (h 0)), (3, .ref (g 52)), (4, .int x4)] []) : La p l e s m below meth c b D y g h (74 + j) (2918 + 6 * j) S ov T 448 [(0, .ref b), (1, .ref (g 0)), (2, .ref (h 0)), (3, .ref (g 52)), (4, .int x4)] [] := by
  have hrel := hrok S T hR
  obtain ⟨r0, T2, h1, h2, h3⟩ := hrel.2.2.2.2.2.2.2.1 (xs (x4 + 1).toNatClampNeg) (xs (x4 + 2).toNatClampNeg)
  refine a_aload_n hC dL_law_448 1 rfl ?_
  refine a_aload_n hC dL_law_449 0 rfl ?_
  refine a_iload hC dL_law_450 4 rfl ?_
  refine a_iconst hC (1) dL_law_452 (by decide) ?_
  refine a_iadd hC dL_law_453 ?_
  refine a_sld hC (hin _ (by decide)) dL_law_454 ?_
  refine a_aload_n hC dL_law_455 0 rfl ?_
  refine a_iload hC dL_law_456 4 rfl ?_
  refine a_iconst hC (2) dL_law_458 (by decide) ?_
  refine a_iadd hC dL_law_459 ?_
  refine a_sld hC (hin _ (by decide)) dL_law_460 ?_
  refine a_cIC hC (As := [.int (xs (x4 + 1).toNatClampNeg), .int (xs (x4 + 2).toNatClampNeg)]) (cwV 2 hC.1.2.2.2.2 gL_law_X5_over rfl rfl rfl (by decide +kernel) ⟨Nat.le_of_ble_eq_true rfl, Nat.le_of_ble_eq_true rfl⟩) (kX5_over l D y g N (xs (x4 + 1).toNatClampNeg) (xs (x4 + 2).toNatClampNeg) S _ h1) rfl (Nat.le_of_ble_eq_true rfl) (by omega) (by omega) dL_law_461 ?_
  intro r9 S9 hw
  obtain ⟨h91, h92⟩ := hw
  have h91 := h91.symm
  have h92 := h92.symm
  subst h91
  subst h92
  refine a_aload_n hC dL_law_464 2 rfl ?_
  refine a_aload_n hC dL_law_465 0 rfl ?_
  refine a_iload hC dL_law_466 4 rfl ?_
  refine a_iconst hC (1) dL_law_468 (by decide) ?_
  refine a_iadd hC dL_law_469 ?_
  refine a_sld hC (hin _ (by decide)) dL_law_470 ?_
  refine a_aload_n hC dL_law_471 0 rfl ?_
  refine a_iload hC dL_law_472 4 rfl ?_
  refine a_iconst hC (2) dL_law_474 (by decide) ?_
  refine a_iadd hC dL_law_475 ?_
  refine a_sld hC (hin _ (by decide)) dL_law_476 ?_
  refine a_cIM hC (As := [.int (xs (x4 + 1).toNatClampNeg), .int (xs (x4 + 2).toNatClampNeg)]) (cwV 2 hC.1.2.2.2.2 gL_law_X6_over rfl rfl rfl (by decide +kernel) ⟨Nat.le_of_ble_eq_true rfl, Nat.le_of_ble_eq_true rfl⟩) (kX6_over l D y h N (xs (x4 + 1).toNatClampNeg) (xs (x4 + 2).toNatClampNeg) T _ h2) rfl (Nat.le_of_ble_eq_true rfl) (by omega) (by omega) dL_law_477 ?_
  intro r9 S9 hw
  obtain ⟨h91, h92⟩ := Prod.mk.inj hw.symm
  subst h91
  subst h92
  refine a_icmp_eq hC 676 dL_law_480 (by decide) rfl ?_
  exact hnext S T2 ov _ _ (by omega) (by omega) h3
set_option maxHeartbeats 4000000 in
set_option maxRecDepth 100000 in
theorem law_least {p : Program} {l : Launch} {e : Env} {s : State} {m : MethodId} {below : List Frame} {meth : Method} {c : Code} {b L : Nat} {xs : Nat → Int32} {D : va_G} {y : Cy} {g h : Nat → Nat} {sa1 sa2 : Nat} {N : Nat} {Rl : St → St → Prop} (hC : LC p l s m c b L xs D y g h sa1 sa2) (hrok : Rok N Rl) {S T : St} (hR : Rl S T) {ov : Nat → Int64} {x4 : Int32} {j : Nat} (hj : j < 512) (hin : ∀ v : Int32, v ∈ ([1, 2, 3, 4, 5, 6] : List Int32) → vp_in (x4 + v) L) (hnext : ∀ (S2 T2 : St) (ov2 : Nat → Int64) (cells slots : Nat), cells ≤ 74 + (j + 1) → slots ≤ 2918 + 6 * (j + 1) → Rl S2 T2 → La p l e s m below meth c b D y g h cells slots S2 ov2 T2 676 [(0, .ref b), (1, .ref (g 0)), (2, .ref (h 0)), (3, .ref (g 52)), (4, .int x4)] []) : La p l e s m below meth c b D y g h (74 + j) (2918 + 6 * j) S ov T 485 [(0, .ref b), (1, .ref (g 0)), (2, .ref (h 0)), (3, .ref (g 52)), (4, .int x4)] [] := by
  have hrel := hrok S T hR
  obtain ⟨r0, S2, T2, h1, h2, h3⟩ := hrel.2.2.2.2.2.2.2.2.1
  refine a_aload_n hC dL_law_485 1 rfl ?_
  refine a_cLC hC (As := []) (cwV 0 hC.1.2.2.2.2 gL_law_X5_least rfl rfl rfl (by decide +kernel) ⟨Nat.le_of_ble_eq_true rfl, Nat.le_of_ble_eq_true rfl⟩) (kX5_least l D y g N S _ h1) rfl (Nat.le_of_ble_eq_true rfl) (by omega) (by omega) dL_law_486 ?_
  intro r9 S9 hw
  obtain ⟨h91, h92⟩ := Prod.mk.inj hw.symm
  subst h91
  subst h92
  refine a_aload_n hC dL_law_489 2 rfl ?_
  refine a_cLM hC (As := []) (cwV 0 hC.1.2.2.2.2 gL_law_X6_least rfl rfl rfl (by decide +kernel) ⟨Nat.le_of_ble_eq_true rfl, Nat.le_of_ble_eq_true rfl⟩) (kX6_least l D y h N T _ h2) rfl (Nat.le_of_ble_eq_true rfl) (by omega) (by omega) dL_law_490 ?_
  intro r9 S9 hw
  obtain ⟨h91, h92⟩ := Prod.mk.inj hw.symm
  subst h91
  subst h92
  refine a_lcmp hC dL_law_493 ?_
  refine a_if_eq hC 676 dL_law_494 (by decide) (by simp [lg_cmp]) ?_
  exact hnext S2 T2 ov _ _ (by omega) (by omega) h3
set_option maxHeartbeats 4000000 in
set_option maxRecDepth 100000 in
theorem law_saved {p : Program} {l : Launch} {e : Env} {s : State} {m : MethodId} {below : List Frame} {meth : Method} {c : Code} {b L : Nat} {xs : Nat → Int32} {D : va_G} {y : Cy} {g h : Nat → Nat} {sa1 sa2 : Nat} {N : Nat} {Rl : St → St → Prop} (hC : LC p l s m c b L xs D y g h sa1 sa2) (hrok : Rok N Rl) {S T : St} (hR : Rl S T) {ov : Nat → Int64} {x4 : Int32} {j : Nat} (hj : j < 512) (hin : ∀ v : Int32, v ∈ ([1, 2, 3, 4, 5, 6] : List Int32) → vp_in (x4 + v) L) (hnext : ∀ (S2 T2 : St) (ov2 : Nat → Int64) (cells slots : Nat), cells ≤ 74 + (j + 1) → slots ≤ 2918 + 6 * (j + 1) → Rl S2 T2 → La p l e s m below meth c b D y g h cells slots S2 ov2 T2 676 [(0, .ref b), (1, .ref (g 0)), (2, .ref (h 0)), (3, .ref (g 52)), (4, .int x4)] []) : La p l e s m below meth c b D y g h (74 + j) (2918 + 6 * j) S ov T 499 [(0, .ref b), (1, .ref (g 0)), (2, .ref (h 0)), (3, .ref (g 52)), (4, .int x4)] [] := by
  have hrel := hrok S T hR
  obtain ⟨r0, S2, T2, h1, h2, h3⟩ := hrel.2.2.2.2.2.2.2.2.2.1 (xs (x4 + 1).toNatClampNeg) (xs (x4 + 2).toNatClampNeg)
  refine a_aload_n hC dL_law_499 1 rfl ?_
  refine a_aload_n hC dL_law_500 0 rfl ?_
  refine a_iload hC dL_law_501 4 rfl ?_
  refine a_iconst hC (1) dL_law_503 (by decide) ?_
  refine a_iadd hC dL_law_504 ?_
  refine a_sld hC (hin _ (by decide)) dL_law_505 ?_
  refine a_aload_n hC dL_law_506 0 rfl ?_
  refine a_iload hC dL_law_507 4 rfl ?_
  refine a_iconst hC (2) dL_law_509 (by decide) ?_
  refine a_iadd hC dL_law_510 ?_
  refine a_sld hC (hin _ (by decide)) dL_law_511 ?_
  refine a_cLC hC (As := [.int (xs (x4 + 1).toNatClampNeg), .int (xs (x4 + 2).toNatClampNeg)]) (cwV 2 hC.1.2.2.2.2 gL_law_X5_saved rfl rfl rfl (by decide +kernel) ⟨Nat.le_of_ble_eq_true rfl, Nat.le_of_ble_eq_true rfl⟩) (kX5_saved l D y g N (xs (x4 + 1).toNatClampNeg) (xs (x4 + 2).toNatClampNeg) S _ h1) rfl (Nat.le_of_ble_eq_true rfl) (by omega) (by omega) dL_law_512 ?_
  intro r9 S9 hw
  obtain ⟨h91, h92⟩ := Prod.mk.inj hw.symm
  subst h91
  subst h92
  refine a_aload_n hC dL_law_515 2 rfl ?_
  refine a_aload_n hC dL_law_516 0 rfl ?_
  refine a_iload hC dL_law_517 4 rfl ?_
  refine a_iconst hC (1) dL_law_519 (by decide) ?_
  refine a_iadd hC dL_law_520 ?_
  refine a_sld hC (hin _ (by decide)) dL_law_521 ?_
  refine a_aload_n hC dL_law_522 0 rfl ?_
  refine a_iload hC dL_law_523 4 rfl ?_
  refine a_iconst hC (2) dL_law_525 (by decide) ?_
  refine a_iadd hC dL_law_526 ?_
  refine a_sld hC (hin _ (by decide)) dL_law_527 ?_
  refine a_cLM hC (As := [.int (xs (x4 + 1).toNatClampNeg), .int (xs (x4 + 2).toNatClampNeg)]) (cwV 2 hC.1.2.2.2.2 gL_law_X6_saved rfl rfl rfl (by decide +kernel) ⟨Nat.le_of_ble_eq_true rfl, Nat.le_of_ble_eq_true rfl⟩) (kX6_saved l D y h N (xs (x4 + 1).toNatClampNeg) (xs (x4 + 2).toNatClampNeg) T _ h2) rfl (Nat.le_of_ble_eq_true rfl) (by omega) (by omega) dL_law_528 ?_
  intro r9 S9 hw
  obtain ⟨h91, h92⟩ := Prod.mk.inj hw.symm
  subst h91
  subst h92
  refine a_lcmp hC dL_law_531 ?_
  refine a_if_eq hC 676 dL_law_532 (by decide) (by simp [lg_cmp]) ?_
  exact hnext S2 T2 ov _ _ (by omega) (by omega) h3
set_option maxHeartbeats 4000000 in
set_option maxRecDepth 100000 in
theorem law_build {p : Program} {l : Launch} {e : Env} {s : State} {m : MethodId} {below : List Frame} {meth : Method} {c : Code} {b L : Nat} {xs : Nat → Int32} {D : va_G} {y : Cy} {g h : Nat → Nat} {sa1 sa2 : Nat} {N : Nat} {Rl : St → St → Prop} (hC : LC p l s m c b L xs D y g h sa1 sa2) (hrok : Rok N Rl) {S T : St} (hR : Rl S T) {ov : Nat → Int64} {x4 : Int32} {j : Nat} (hj : j < 512) (hin : ∀ v : Int32, v ∈ ([1, 2, 3, 4, 5, 6] : List Int32) → vp_in (x4 + v) L) (hnext : ∀ (S2 T2 : St) (ov2 : Nat → Int64) (cells slots : Nat), cells ≤ 74 + (j + 1) → slots ≤ 2918 + 6 * (j + 1) → Rl S2 T2 → La p l e s m below meth c b D y g h cells slots S2 ov2 T2 676 [(0, .ref b), (1, .ref (g 0)), (2, .ref (h 0)), (3, .ref (g 52)), (4, .int x4)] []) : La p l e s m below meth c b D y g h (74 + j) (2918 + 6 * j) S ov T 537 [(0, .ref b), (1, .ref (g 0)), (2, .ref (h 0)), (3, .ref (g 52)), (4, .int x4)] [] := by
  have hrel := hrok S T hR
  obtain ⟨r0, S2, T2, h1, h2, h3⟩ := hrel.2.2.2.2.2.2.2.2.2.2.1
  refine a_aload_n hC dL_law_537 1 rfl ?_
  refine a_cLC hC (As := []) (cwV 0 hC.1.2.2.2.2 gL_law_X5_build rfl rfl rfl (by decide +kernel) ⟨Nat.le_of_ble_eq_true rfl, Nat.le_of_ble_eq_true rfl⟩) (kX5_build l D y g N S _ h1) rfl (Nat.le_of_ble_eq_true rfl) (by omega) (by omega) dL_law_538 ?_
  intro r9 S9 hw
  obtain ⟨h91, h92⟩ := Prod.mk.inj hw.symm
  subst h91
  subst h92
  refine a_aload_n hC dL_law_541 2 rfl ?_
  refine a_cLM hC (As := []) (cwV 0 hC.1.2.2.2.2 gL_law_X6_build rfl rfl rfl (by decide +kernel) ⟨Nat.le_of_ble_eq_true rfl, Nat.le_of_ble_eq_true rfl⟩) (kX6_build l D y h N T _ h2) rfl (Nat.le_of_ble_eq_true rfl) (by omega) (by omega) dL_law_542 ?_
  intro r9 S9 hw
  obtain ⟨h91, h92⟩ := Prod.mk.inj hw.symm
  subst h91
  subst h92
  refine a_lcmp hC dL_law_545 ?_
  refine a_if_eq hC 676 dL_law_546 (by decide) (by simp [lg_cmp]) ?_
  exact hnext S2 T2 ov _ _ (by omega) (by omega) h3
set_option maxHeartbeats 4000000 in
set_option maxRecDepth 100000 in
theorem law_frost {p : Program} {l : Launch} {e : Env} {s : State} {m : MethodId} {below : List Frame} {meth : Method} {c : Code} {b L : Nat} {xs : Nat → Int32} {D : va_G} {y : Cy} {g h : Nat → Nat} {sa1 sa2 : Nat} {N : Nat} {Rl : St → St → Prop} (hC : LC p l s m c b L xs D y g h sa1 sa2) (hrok : Rok N Rl) {S T : St} (hR : Rl S T) {ov : Nat → Int64} {x4 : Int32} {j : Nat} (hj : j < 512) (hin : ∀ v : Int32, v ∈ ([1, 2, 3, 4, 5, 6] : List Int32) → vp_in (x4 + v) L) (hnext : ∀ (S2 T2 : St) (ov2 : Nat → Int64) (cells slots : Nat), cells ≤ 74 + (j + 1) → slots ≤ 2918 + 6 * (j + 1) → Rl S2 T2 → La p l e s m below meth c b D y g h cells slots S2 ov2 T2 676 [(0, .ref b), (1, .ref (g 0)), (2, .ref (h 0)), (3, .ref (g 52)), (4, .int x4)] []) : La p l e s m below meth c b D y g h (74 + j) (2918 + 6 * j) S ov T 551 [(0, .ref b), (1, .ref (g 0)), (2, .ref (h 0)), (3, .ref (g 52)), (4, .int x4)] [] := by
  have hrel := hrok S T hR
  obtain ⟨r0, S2, T2, h1, h2, h3⟩ := hrel.2.2.2.2.2.2.2.2.2.2.2.1 (xs (x4 + 1).toNatClampNeg)
  refine a_aload_n hC dL_law_551 1 rfl ?_
  refine a_aload_n hC dL_law_552 0 rfl ?_
  refine a_iload hC dL_law_553 4 rfl ?_
  refine a_iconst hC (1) dL_law_555 (by decide) ?_
  refine a_iadd hC dL_law_556 ?_
  refine a_sld hC (hin _ (by decide)) dL_law_557 ?_
  refine a_cIC hC (As := [.int (xs (x4 + 1).toNatClampNeg)]) (cwV 1 hC.1.2.2.2.2 gL_law_X5_frost rfl rfl rfl (by decide +kernel) ⟨Nat.le_of_ble_eq_true rfl, Nat.le_of_ble_eq_true rfl⟩) (kX5_frost l D y g N (xs (x4 + 1).toNatClampNeg) S _ h1) rfl (Nat.le_of_ble_eq_true rfl) (by omega) (by omega) dL_law_558 ?_
  intro r9 S9 hw
  obtain ⟨h91, h92⟩ := Prod.mk.inj hw.symm
  subst h91
  subst h92
  refine a_aload_n hC dL_law_561 2 rfl ?_
  refine a_aload_n hC dL_law_562 0 rfl ?_
  refine a_iload hC dL_law_563 4 rfl ?_
  refine a_iconst hC (1) dL_law_565 (by decide) ?_
  refine a_iadd hC dL_law_566 ?_
  refine a_sld hC (hin _ (by decide)) dL_law_567 ?_
  refine a_cIM hC (As := [.int (xs (x4 + 1).toNatClampNeg)]) (cwV 1 hC.1.2.2.2.2 gL_law_X6_frost rfl rfl rfl (by decide +kernel) ⟨Nat.le_of_ble_eq_true rfl, Nat.le_of_ble_eq_true rfl⟩) (kX6_frost l D y h N (xs (x4 + 1).toNatClampNeg) T _ h2) rfl (Nat.le_of_ble_eq_true rfl) (by omega) (by omega) dL_law_568 ?_
  intro r9 S9 hw
  obtain ⟨h91, h92⟩ := Prod.mk.inj hw.symm
  subst h91
  subst h92
  refine a_icmp_eq hC 676 dL_law_571 (by decide) rfl ?_
  exact hnext S2 T2 ov _ _ (by omega) (by omega) h3
set_option maxHeartbeats 4000000 in
set_option maxRecDepth 100000 in
theorem law_mend {p : Program} {l : Launch} {e : Env} {s : State} {m : MethodId} {below : List Frame} {meth : Method} {c : Code} {b L : Nat} {xs : Nat → Int32} {D : va_G} {y : Cy} {g h : Nat → Nat} {sa1 sa2 : Nat} {N : Nat} {Rl : St → St → Prop} (hC : LC p l s m c b L xs D y g h sa1 sa2) (hrok : Rok N Rl) {S T : St} (hR : Rl S T) {ov : Nat → Int64} {x4 : Int32} {j : Nat} (hj : j < 512) (hin : ∀ v : Int32, v ∈ ([1, 2, 3, 4, 5, 6] : List Int32) → vp_in (x4 + v) L) (hnext : ∀ (S2 T2 : St) (ov2 : Nat → Int64) (cells slots : Nat), cells ≤ 74 + (j + 1) → slots ≤ 2918 + 6 * (j + 1) → Rl S2 T2 → La p l e s m below meth c b D y g h cells slots S2 ov2 T2 676 [(0, .ref b), (1, .ref (g 0)), (2, .ref (h 0)), (3, .ref (g 52)), (4, .int x4)] []) : La p l e s m below meth c b D y g h (74 + j) (2918 + 6 * j) S ov T 576 [(0, .ref b), (1, .ref (g 0)), (2, .ref (h 0)), (3, .ref (g 52)), (4, .int x4)] [] := by
  have hrel := hrok S T hR
  obtain ⟨r0, S2, T2, h1, h2, h3⟩ := hrel.2.2.2.2.2.2.2.2.2.2.2.2.1
  refine a_aload_n hC dL_law_576 1 rfl ?_
  refine a_cIC hC (As := []) (cwV 0 hC.1.2.2.2.2 gL_law_X5_mend rfl rfl rfl (by decide +kernel) ⟨Nat.le_of_ble_eq_true rfl, Nat.le_of_ble_eq_true rfl⟩) (kX5_mend l D y g N S _ h1) rfl (Nat.le_of_ble_eq_true rfl) (by omega) (by omega) dL_law_577 ?_
  intro r9 S9 hw
  obtain ⟨h91, h92⟩ := Prod.mk.inj hw.symm
  subst h91
  subst h92
  refine a_aload_n hC dL_law_580 2 rfl ?_
  refine a_cIM hC (As := []) (cwV 0 hC.1.2.2.2.2 gL_law_X6_mend rfl rfl rfl (by decide +kernel) ⟨Nat.le_of_ble_eq_true rfl, Nat.le_of_ble_eq_true rfl⟩) (kX6_mend l D y h N T _ h2) rfl (Nat.le_of_ble_eq_true rfl) (by omega) (by omega) dL_law_581 ?_
  intro r9 S9 hw
  obtain ⟨h91, h92⟩ := Prod.mk.inj hw.symm
  subst h91
  subst h92
  refine a_icmp_eq hC 676 dL_law_584 (by decide) rfl ?_
  exact hnext S2 T2 ov _ _ (by omega) (by omega) h3
set_option maxHeartbeats 4000000 in
set_option maxRecDepth 100000 in
theorem law_take {p : Program} {l : Launch} {e : Env} {s : State} {m : MethodId} {below : List Frame} {meth : Method} {c : Code} {b L : Nat} {xs : Nat → Int32} {D : va_G} {y : Cy} {g h : Nat → Nat} {sa1 sa2 : Nat} {N : Nat} {Rl : St → St → Prop} (hC : LC p l s m c b L xs D y g h sa1 sa2) (hrok : Rok N Rl) {S T : St} (hR : Rl S T) {ov : Nat → Int64} {x4 : Int32} {j : Nat} (hj : j < 512) (hin : ∀ v : Int32, v ∈ ([1, 2, 3, 4, 5, 6] : List Int32) → vp_in (x4 + v) L) (hnext : ∀ (S2 T2 : St) (ov2 : Nat → Int64) (cells slots : Nat), cells ≤ 74 + (j + 1) → slots ≤ 2918 + 6 * (j + 1) → Rl S2 T2 → La p l e s m below meth c b D y g h cells slots S2 ov2 T2 676 [(0, .ref b), (1, .ref (g 0)), (2, .ref (h 0)), (3, .ref (g 52)), (4, .int x4)] []) : La p l e s m below meth c b D y g h (74 + j) (2918 + 6 * j) S ov T 589 [(0, .ref b), (1, .ref (g 0)), (2, .ref (h 0)), (3, .ref (g 52)), (4, .int x4)] [] := by
  have hrel := hrok S T hR
  obtain ⟨r0, S2, T2, h1, h2, h3⟩ := hrel.2.2.2.2.2.2.2.2.2.2.2.2.2.1 (xs (x4 + 1).toNatClampNeg)
  refine a_aload_n hC dL_law_589 1 rfl ?_
  refine a_aload_n hC dL_law_590 0 rfl ?_
  refine a_iload hC dL_law_591 4 rfl ?_
  refine a_iconst hC (1) dL_law_593 (by decide) ?_
  refine a_iadd hC dL_law_594 ?_
  refine a_sld hC (hin _ (by decide)) dL_law_595 ?_
  refine a_cIC hC (As := [.int (xs (x4 + 1).toNatClampNeg)]) (cwV 1 hC.1.2.2.2.2 gL_law_X5_take rfl rfl rfl (by decide +kernel) ⟨Nat.le_of_ble_eq_true rfl, Nat.le_of_ble_eq_true rfl⟩) (kX5_take l D y g N (xs (x4 + 1).toNatClampNeg) S _ h1) rfl (Nat.le_of_ble_eq_true rfl) (by omega) (by omega) dL_law_596 ?_
  intro r9 S9 hw
  obtain ⟨h91, h92⟩ := Prod.mk.inj hw.symm
  subst h91
  subst h92
  refine a_aload_n hC dL_law_599 2 rfl ?_
  refine a_aload_n hC dL_law_600 0 rfl ?_
  refine a_iload hC dL_law_601 4 rfl ?_
  refine a_iconst hC (1) dL_law_603 (by decide) ?_
  refine a_iadd hC dL_law_604 ?_
  refine a_sld hC (hin _ (by decide)) dL_law_605 ?_
  refine a_cIM hC (As := [.int (xs (x4 + 1).toNatClampNeg)]) (cwV 1 hC.1.2.2.2.2 gL_law_X6_take rfl rfl rfl (by decide +kernel) ⟨Nat.le_of_ble_eq_true rfl, Nat.le_of_ble_eq_true rfl⟩) (kX6_take l D y h N (xs (x4 + 1).toNatClampNeg) T _ h2) rfl (Nat.le_of_ble_eq_true rfl) (by omega) (by omega) dL_law_606 ?_
  intro r9 S9 hw
  obtain ⟨h91, h92⟩ := Prod.mk.inj hw.symm
  subst h91
  subst h92
  refine a_icmp_eq hC 676 dL_law_609 (by decide) rfl ?_
  exact hnext S2 T2 ov _ _ (by omega) (by omega) h3
set_option maxHeartbeats 4000000 in
set_option maxRecDepth 100000 in
theorem law_count {p : Program} {l : Launch} {e : Env} {s : State} {m : MethodId} {below : List Frame} {meth : Method} {c : Code} {b L : Nat} {xs : Nat → Int32} {D : va_G} {y : Cy} {g h : Nat → Nat} {sa1 sa2 : Nat} {N : Nat} {Rl : St → St → Prop} (hC : LC p l s m c b L xs D y g h sa1 sa2) (hrok : Rok N Rl) {S T : St} (hR : Rl S T) {ov : Nat → Int64} {x4 : Int32} {j : Nat} (hj : j < 512) (hin : ∀ v : Int32, v ∈ ([1, 2, 3, 4, 5, 6] : List Int32) → vp_in (x4 + v) L) (hnext : ∀ (S2 T2 : St) (ov2 : Nat → Int64) (cells slots : Nat), cells ≤ 74 + (j + 1) → slots ≤ 2918 + 6 * (j + 1) → Rl S2 T2 → La p l e s m below meth c b D y g h cells slots S2 ov2 T2 676 [(0, .ref b), (1, .ref (g 0)), (2, .ref (h 0)), (3, .ref (g 52)), (4, .int x4)] []) : La p l e s m below meth c b D y g h (74 + j) (2918 + 6 * j) S ov T 614 [(0, .ref b), (1, .ref (g 0)), (2, .ref (h 0)), (3, .ref (g 52)), (4, .int x4)] [] := by
  have hrel := hrok S T hR
  obtain ⟨r0, T2, h1, h2, h3⟩ := hrel.2.2.2.2.2.2.2.2.2.2.2.2.2.2.1 (xs (x4 + 1).toNatClampNeg) (xs (x4 + 2).toNatClampNeg)
  refine a_aload_n hC dL_law_614 1 rfl ?_
  refine a_aload_n hC dL_law_615 0 rfl ?_
  refine a_iload hC dL_law_616 4 rfl ?_
  refine a_iconst hC (1) dL_law_618 (by decide) ?_
  refine a_iadd hC dL_law_619 ?_
  refine a_sld hC (hin _ (by decide)) dL_law_620 ?_
  refine a_aload_n hC dL_law_621 0 rfl ?_
  refine a_iload hC dL_law_622 4 rfl ?_
  refine a_iconst hC (2) dL_law_624 (by decide) ?_
  refine a_iadd hC dL_law_625 ?_
  refine a_sld hC (hin _ (by decide)) dL_law_626 ?_
  refine a_cIC hC (As := [.int (xs (x4 + 1).toNatClampNeg), .int (xs (x4 + 2).toNatClampNeg)]) (cwV 2 hC.1.2.2.2.2 gL_law_X5_count rfl rfl rfl (by decide +kernel) ⟨Nat.le_of_ble_eq_true rfl, Nat.le_of_ble_eq_true rfl⟩) (kX5_count l D y g N (xs (x4 + 1).toNatClampNeg) (xs (x4 + 2).toNatClampNeg) S _ h1) rfl (Nat.le_of_ble_eq_true rfl) (by omega) (by omega) dL_law_627 ?_
  intro r9 S9 hw
  obtain ⟨h91, h92⟩ := hw
  have h91 := h91.symm
  have h92 := h92.symm
  subst h91
  subst h92
  refine a_aload_n hC dL_law_630 2 rfl ?_
  refine a_aload_n hC dL_law_631 0 rfl ?_
  refine a_iload hC dL_law_632 4 rfl ?_
  refine a_iconst hC (1) dL_law_634 (by decide) ?_
  refine a_iadd hC dL_law_635 ?_
  refine a_sld hC (hin _ (by decide)) dL_law_636 ?_
  refine a_aload_n hC dL_law_637 0 rfl ?_
  refine a_iload hC dL_law_638 4 rfl ?_
  refine a_iconst hC (2) dL_law_640 (by decide) ?_
  refine a_iadd hC dL_law_641 ?_
  refine a_sld hC (hin _ (by decide)) dL_law_642 ?_
  refine a_cIM hC (As := [.int (xs (x4 + 1).toNatClampNeg), .int (xs (x4 + 2).toNatClampNeg)]) (cwV 2 hC.1.2.2.2.2 gL_law_X6_count rfl rfl rfl (by decide +kernel) ⟨Nat.le_of_ble_eq_true rfl, Nat.le_of_ble_eq_true rfl⟩) (kX6_count l D y h N (xs (x4 + 1).toNatClampNeg) (xs (x4 + 2).toNatClampNeg) T _ h2) rfl (Nat.le_of_ble_eq_true rfl) (by omega) (by omega) dL_law_643 ?_
  intro r9 S9 hw
  obtain ⟨h91, h92⟩ := Prod.mk.inj hw.symm
  subst h91
  subst h92
  refine a_icmp_eq hC 676 dL_law_646 (by decide) rfl ?_
  exact hnext S T2 ov _ _ (by omega) (by omega) h3
set_option maxHeartbeats 4000000 in
set_option maxRecDepth 100000 in
theorem law_look {p : Program} {l : Launch} {e : Env} {s : State} {m : MethodId} {below : List Frame} {meth : Method} {c : Code} {b L : Nat} {xs : Nat → Int32} {D : va_G} {y : Cy} {g h : Nat → Nat} {sa1 sa2 : Nat} {N : Nat} {Rl : St → St → Prop} (hC : LC p l s m c b L xs D y g h sa1 sa2) (hrok : Rok N Rl) {S T : St} (hR : Rl S T) {ov : Nat → Int64} {x4 : Int32} {j : Nat} (hj : j < 512) (hin : ∀ v : Int32, v ∈ ([1, 2, 3, 4, 5, 6] : List Int32) → vp_in (x4 + v) L) (hnext : ∀ (S2 T2 : St) (ov2 : Nat → Int64) (cells slots : Nat), cells ≤ 74 + (j + 1) → slots ≤ 2918 + 6 * (j + 1) → Rl S2 T2 → La p l e s m below meth c b D y g h cells slots S2 ov2 T2 676 [(0, .ref b), (1, .ref (g 0)), (2, .ref (h 0)), (3, .ref (g 52)), (4, .int x4)] []) : La p l e s m below meth c b D y g h (74 + j) (2918 + 6 * j) S ov T 651 [(0, .ref b), (1, .ref (g 0)), (2, .ref (h 0)), (3, .ref (g 52)), (4, .int x4)] [] := by
  have hrel := hrok S T hR
  obtain ⟨r0, T2, h1, h2, h3⟩ := hrel.2.2.2.2.2.2.2.2.2.2.2.2.2.2.2 (xs (x4 + 1).toNatClampNeg)
  refine a_aload_n hC dL_law_651 1 rfl ?_
  refine a_aload_n hC dL_law_652 0 rfl ?_
  refine a_iload hC dL_law_653 4 rfl ?_
  refine a_iconst hC (1) dL_law_655 (by decide) ?_
  refine a_iadd hC dL_law_656 ?_
  refine a_sld hC (hin _ (by decide)) dL_law_657 ?_
  refine a_cIC hC (As := [.int (xs (x4 + 1).toNatClampNeg)]) (cwV 1 hC.1.2.2.2.2 gL_law_X5_look rfl rfl rfl (by decide +kernel) ⟨Nat.le_of_ble_eq_true rfl, Nat.le_of_ble_eq_true rfl⟩) (kX5_look l D y g N (xs (x4 + 1).toNatClampNeg) S _ h1) rfl (Nat.le_of_ble_eq_true rfl) (by omega) (by omega) dL_law_658 ?_
  intro r9 S9 hw
  obtain ⟨h91, h92⟩ := hw
  have h91 := h91.symm
  have h92 := h92.symm
  subst h91
  subst h92
  refine a_aload_n hC dL_law_661 2 rfl ?_
  refine a_aload_n hC dL_law_662 0 rfl ?_
  refine a_iload hC dL_law_663 4 rfl ?_
  refine a_iconst hC (1) dL_law_665 (by decide) ?_
  refine a_iadd hC dL_law_666 ?_
  refine a_sld hC (hin _ (by decide)) dL_law_667 ?_
  refine a_cIM hC (As := [.int (xs (x4 + 1).toNatClampNeg)]) (cwV 1 hC.1.2.2.2.2 gL_law_X6_look rfl rfl rfl (by decide +kernel) ⟨Nat.le_of_ble_eq_true rfl, Nat.le_of_ble_eq_true rfl⟩) (kX6_look l D y h N (xs (x4 + 1).toNatClampNeg) T _ h2) rfl (Nat.le_of_ble_eq_true rfl) (by omega) (by omega) dL_law_668 ?_
  intro r9 S9 hw
  obtain ⟨h91, h92⟩ := Prod.mk.inj hw.symm
  subst h91
  subst h92
  refine a_icmp_eq hC 676 dL_law_671 (by decide) rfl ?_
  exact hnext S T2 ov _ _ (by omega) (by omega) h3
