/-! the state of a system of fixed cells: what each int cell (object or array) holds at each place, and one row of longs -/
abbrev St : Type := (Nat → Nat → Int32) × (Nat → Int64)
def wrow (S : St) (k : Nat) (f : Nat → Int32) : St := (fun c => if c = k then f else S.1 c, S.2)
def wr (S : St) (k i : Nat) (v : Int32) : St := wrow S k (upd (S.1 k) i v)
def wl (S : St) (i : Nat) (v : Int64) : St := (S.1, vp_updL S.2 i v)
/-! the words in which a method's meaning is written -/
def ldI {β : Type} (n : Nat) (f : Nat → Int32) (i : Int32) (K : Int32 → Option β) : Option β := if i < 0 ∨ n ≤ i.toNatClampNeg then none else K (f i.toNatClampNeg)
def ldL {β : Type} (n : Nat) (f : Nat → Int64) (i : Int32) (K : Int64 → Option β) : Option β := if i < 0 ∨ n ≤ i.toNatClampNeg then none else K (f i.toNatClampNeg)
def ldR {β : Type} (n : Nat) (i : Int32) (K : Nat → Option β) : Option β := if i < 0 ∨ n ≤ i.toNatClampNeg then none else K i.toNatClampNeg
def stI {β : Type} (S : St) (k n : Nat) (i v : Int32) (K : St → Option β) : Option β := if i < 0 ∨ n ≤ i.toNatClampNeg then none else K (wr S k i.toNatClampNeg v)
def stL {β : Type} (S : St) (n : Nat) (i : Int32) (v : Int64) (K : St → Option β) : Option β := if i < 0 ∨ n ≤ i.toNatClampNeg then none else K (wl S i.toNatClampNeg v)
def pfI {β : Type} (S : St) (k j : Nat) (v : Int32) (K : St → Option β) : Option β := K (wr S k j v)
def cpI {β : Type} (S : St) (k1 n1 k2 n2 : Nat) (sp dp n : Int32) (K : St → Option β) : Option β := if sp < 0 ∨ dp < 0 ∨ n < 0 ∨ n1 < sp.toNatClampNeg + n.toNatClampNeg ∨ n2 < dp.toNatClampNeg + n.toNatClampNeg then none else K (wrow S k2 (va_cpy (S.1 k1) (S.1 k2) sp.toNatClampNeg dp.toNatClampNeg n.toNatClampNeg))
def nmI {β : Type} (x : Int32) (K : Int32 → Option β) : Option β := K x
def nmL {β : Type} (x : Int64) (K : Int64 → Option β) : Option β := K x
def caP {α β : Type} (f : Option α) (K : α → Option β) : Option β := match f with
  | none => none
  | some x => K x
def caS {α β : Type} (f : Option (α × St)) (K : α → St → Option β) : Option β := match f with
  | none => none
  | some x => K x.1 x.2
def caV {β : Type} (f : Option St) (K : St → Option β) : Option β := match f with
  | none => none
  | some x => K x
def mxI (x y : Int32) : Int32 := if x < y then y else x
def abI (x : Int32) : Int32 := if 0 ≤ x then x else 0 - x
def usI (x y : Int32) : Int32 := (x.toUInt32 >>> (y.toUInt32 &&& Int32.toUInt32 31)).toInt32

/-- what stays the same through a method: the machine, the code, the words, the tables -/
def Cx (p : Program) (m : MethodId) (c : Code) (cc : ByteArray) (nL : Nat) (s : State) (args : Array Value) (Ts : List Cond) (own : String) (D : va_G) (cl : List vw_C) (tys : List (ClassId × FieldType)) : Prop :=
  CallFix p m c cc nL s args Ts own ∧ va_K D cl tys s
/-- the machine at pc, with the system in the state S, does what d says -/
def Sm {β : Type} (p : Program) (l : Launch) (e : Env) (R : Room) (s : State) (m : MethodId) (args : Array Value) (below : List Frame) (meth : Method) (c : Code) (D : va_G) (cl : List vw_C) (wd : St → va_W) (A : Nat → Prop) (nL : Nat) (Q : State → Prop) (x0 : β) (d : Option β) (S : St) (pc : Nat) (lv : List (Nat × Value)) (st : List Value) : Prop :=
  d = some x0 → ∀ (H : Heap) (locs : List Loc), va_P D cl (wd S) H → va_D A (wd S) → va_S A s.heap H locs → ∀ ls : Array Slot, lv_has ls nL lv → W p l e R s m args below meth c H locs 0 0 Q (F0 m pc ls st)
/-- a world whose cells stay where they are -/
def Wok (wd : St → va_W) (AA : Nat → Nat → Prop) : Prop := (∀ (S : St) (k : Nat) (q : Nat × va_E), (wd S)[k]? = some q → ∀ sz : Nat, AA sz q.1) ∧ (∀ a b q : Nat, a ≤ b → AA b q → AA a q) ∧ ∀ sz q : Nat, sz ≤ q → AA sz q
def Bw (D : va_G) (cl : List vw_C) (tys : List (ClassId × FieldType)) (wd : St → va_W) (A : Nat → Prop) : St → State → Prop := fun S' t => va_P D cl (wd S') t.heap ∧ va_K D cl tys t ∧ va_D A (wd S')
def Bp (D : va_G) (cl : List vw_C) (tys : List (ClassId × FieldType)) (wd : St → va_W) (sz : Nat) (S : St) : State → Prop := fun U => U.heap.size = sz ∧ va_P D cl (wd S) U.heap ∧ va_K D cl tys U ∧ va_D (fun _ => True) (wd S)
/-- contracts: an int (or boolean), a long, nothing comes back -/
def KI (l : Launch) (y : MethodName) (ws : List Cond) (rm : Room) (D : va_G) (cl : List vw_C) (tys : List (ClassId × FieldType)) (wd : St → va_W) (AA : Nat → Nat → Prop) (av : List Value) (S : St) (post : Int32 → St → Prop) : Prop :=
  ∀ sz : Nat, Met l y ws rm (va_Pc av (Bp D cl tys wd sz S)) (va_Qi post (Bw D cl tys wd (AA sz)) (AA sz)) 0 0 (AA sz)
def KL (l : Launch) (y : MethodName) (ws : List Cond) (rm : Room) (D : va_G) (cl : List vw_C) (tys : List (ClassId × FieldType)) (wd : St → va_W) (AA : Nat → Nat → Prop) (av : List Value) (S : St) (post : Int64 → St → Prop) : Prop :=
  ∀ sz : Nat, Met l y ws rm (va_Pc av (Bp D cl tys wd sz S)) (va_Ql post (Bw D cl tys wd (AA sz)) (AA sz)) 0 0 (AA sz)
def KV (l : Launch) (y : MethodName) (ws : List Cond) (rm : Room) (D : va_G) (cl : List vw_C) (tys : List (ClassId × FieldType)) (wd : St → va_W) (AA : Nat → Nat → Prop) (av : List Value) (S : St) (post : St → Prop) : Prop :=
  ∀ sz : Nat, Met l y ws rm (va_Pc av (Bp D cl tys wd sz S)) (va_Qv post (Bw D cl tys wd (AA sz)) (AA sz)) 0 0 (AA sz)

section SIM
variable {p : Program} {l : Launch} {e : Env} {R : Room} {s : State} {m : MethodId} {args : Array Value} {below : List Frame} {meth : Method} {c : Code} {Q : State → Prop}
variable {cc : ByteArray} {D : va_G} {cl : List vw_C} {tys : List (ClassId × FieldType)} {wd : St → va_W} {A : Nat → Prop} {nL : Nat} {Ts : List Cond} {own : String}
variable {β : Type} {x0 : β} {S : St} {pc : Nat} {lv : List (Nat × Value)} {st : List Value}

theorem m_iload_n (hC : Cx p m c cc nL s args Ts own D cl tys) {d : Option β} {k : Fin 4} {x : Int32} (hdg : decode cc pc = .ok (.iload_n k, 1)) (j : Nat) (hj : lv[j]? = some (k.val, Value.int x)) (kk : Sm p l e R s m args below meth c D cl wd A nL Q x0 d S (pc + 1) lv (.int x :: st)) :
    Sm p l e R s m args below meth c D cl wd A nL Q x0 d S pc lv st := by
  intro hd H locs hP hD hS ls hl
  exact lv_iload_n hC.1.1 hC.1.2.1 hdg rfl (lv_at hl j hj) (kk hd H locs hP hD hS ls hl)
theorem m_iload (hC : Cx p m c cc nL s args Ts own D cl tys) {d : Option β} {i : Nat} {x : Int32} (hdg : decode cc pc = .ok (.iload i, 2)) (j : Nat) (hj : lv[j]? = some (i, Value.int x)) (kk : Sm p l e R s m args below meth c D cl wd A nL Q x0 d S (pc + 2) lv (.int x :: st)) :
    Sm p l e R s m args below meth c D cl wd A nL Q x0 d S pc lv st := by
  intro hd H locs hP hD hS ls hl
  exact lv_iload hC.1.1 hC.1.2.1 hdg (lv_at hl j hj) (kk hd H locs hP hD hS ls hl)
theorem m_istore_n (hC : Cx p m c cc nL s args Ts own D cl tys) {d : Option β} {k : Fin 4} {x : Int32} {lv1 : List (Nat × Value)} (lv2 : List (Nat × Value)) (ks : List Nat) (hdg : decode cc pc = .ok (.istore_n k, 1)) (hn : k.val < nL) (hl1 : (k.val, Value.int x) :: lv.filter (fun q => !(q.1 == k.val) && !(q.1 + 1 == k.val && q.2.category == 2)) = lv1) (hl2 : lv_pick lv1 ks = lv2) (kk : Sm p l e R s m args below meth c D cl wd A nL Q x0 d S (pc + 1) lv2 st) :
    Sm p l e R s m args below meth c D cl wd A nL Q x0 d S pc lv (.int x :: st) := by
  intro hd H locs hP hD hS ls hl
  exact lv_istore_n hC.1.1 hC.1.2.1 hdg rfl hl hn hl1 (fun ls hl => kk hd H locs hP hD hS ls (lv_sub hl ks hl2))
theorem m_istore (hC : Cx p m c cc nL s args Ts own D cl tys) {d : Option β} {i : Nat} {x : Int32} {lv1 : List (Nat × Value)} (lv2 : List (Nat × Value)) (ks : List Nat) (hdg : decode cc pc = .ok (.istore i, 2)) (hn : i < nL) (hl1 : (i, Value.int x) :: lv.filter (fun q => !(q.1 == i) && !(q.1 + 1 == i && q.2.category == 2)) = lv1) (hl2 : lv_pick lv1 ks = lv2) (kk : Sm p l e R s m args below meth c D cl wd A nL Q x0 d S (pc + 2) lv2 st) :
    Sm p l e R s m args below meth c D cl wd A nL Q x0 d S pc lv (.int x :: st) := by
  intro hd H locs hP hD hS ls hl
  exact lv_istore hC.1.1 hC.1.2.1 hdg hl hn hl1 (fun ls hl => kk hd H locs hP hD hS ls (lv_sub hl ks hl2))
theorem m_lload_n (hC : Cx p m c cc nL s args Ts own D cl tys) {d : Option β} {k : Fin 4} {x : Int64} (hdg : decode cc pc = .ok (.lload_n k, 1)) (j : Nat) (hj : lv[j]? = some (k.val, Value.long x)) (kk : Sm p l e R s m args below meth c D cl wd A nL Q x0 d S (pc + 1) lv (.long x :: st)) :
    Sm p l e R s m args below meth c D cl wd A nL Q x0 d S pc lv st := by
  intro hd H locs hP hD hS ls hl
  exact lv_lload_n hC.1.1 hC.1.2.1 hdg rfl (lv_at hl j hj) (kk hd H locs hP hD hS ls hl)
theorem m_lload (hC : Cx p m c cc nL s args Ts own D cl tys) {d : Option β} {i : Nat} {x : Int64} (hdg : decode cc pc = .ok (.lload i, 2)) (j : Nat) (hj : lv[j]? = some (i, Value.long x)) (kk : Sm p l e R s m args below meth c D cl wd A nL Q x0 d S (pc + 2) lv (.long x :: st)) :
    Sm p l e R s m args below meth c D cl wd A nL Q x0 d S pc lv st := by
  intro hd H locs hP hD hS ls hl
  exact lv_lload hC.1.1 hC.1.2.1 hdg (lv_at hl j hj) (kk hd H locs hP hD hS ls hl)
theorem m_lstore_n (hC : Cx p m c cc nL s args Ts own D cl tys) {d : Option β} {k : Fin 4} {x : Int64} {lv1 : List (Nat × Value)} (lv2 : List (Nat × Value)) (ks : List Nat) (hdg : decode cc pc = .ok (.lstore_n k, 1)) (hn : k.val + 1 < nL) (hl1 : (k.val, Value.long x) :: lv.filter (fun q => !(q.1 == k.val) && (!(q.1 == k.val + 1) && !(q.1 + 1 == k.val && q.2.category == 2))) = lv1) (hl2 : lv_pick lv1 ks = lv2) (kk : Sm p l e R s m args below meth c D cl wd A nL Q x0 d S (pc + 1) lv2 st) :
    Sm p l e R s m args below meth c D cl wd A nL Q x0 d S pc lv (.long x :: st) := by
  intro hd H locs hP hD hS ls hl
  exact lv_lstore_n hC.1.1 hC.1.2.1 hdg rfl hl hn hl1 (fun ls hl => kk hd H locs hP hD hS ls (lv_sub hl ks hl2))
theorem m_lstore (hC : Cx p m c cc nL s args Ts own D cl tys) {d : Option β} {i : Nat} {x : Int64} {lv1 : List (Nat × Value)} (lv2 : List (Nat × Value)) (ks : List Nat) (hdg : decode cc pc = .ok (.lstore i, 2)) (hn : i + 1 < nL) (hl1 : (i, Value.long x) :: lv.filter (fun q => !(q.1 == i) && (!(q.1 == i + 1) && !(q.1 + 1 == i && q.2.category == 2))) = lv1) (hl2 : lv_pick lv1 ks = lv2) (kk : Sm p l e R s m args below meth c D cl wd A nL Q x0 d S (pc + 2) lv2 st) :
    Sm p l e R s m args below meth c D cl wd A nL Q x0 d S pc lv (.long x :: st) := by
  intro hd H locs hP hD hS ls hl
  exact lv_lstore hC.1.1 hC.1.2.1 hdg hl hn hl1 (fun ls hl => kk hd H locs hP hD hS ls (lv_sub hl ks hl2))
theorem m_aload_n (hC : Cx p m c cc nL s args Ts own D cl tys) {d : Option β} {k : Fin 4} {x : Nat} (hdg : decode cc pc = .ok (.aload_n k, 1)) (j : Nat) (hj : lv[j]? = some (k.val, Value.ref x)) (kk : Sm p l e R s m args below meth c D cl wd A nL Q x0 d S (pc + 1) lv (.ref x :: st)) :
    Sm p l e R s m args below meth c D cl wd A nL Q x0 d S pc lv st := by
  intro hd H locs hP hD hS ls hl
  exact lv_aload_n hC.1.1 hC.1.2.1 hdg rfl (lv_at hl j hj) (kk hd H locs hP hD hS ls hl)
theorem m_aload (hC : Cx p m c cc nL s args Ts own D cl tys) {d : Option β} {i : Nat} {x : Nat} (hdg : decode cc pc = .ok (.aload i, 2)) (j : Nat) (hj : lv[j]? = some (i, Value.ref x)) (kk : Sm p l e R s m args below meth c D cl wd A nL Q x0 d S (pc + 2) lv (.ref x :: st)) :
    Sm p l e R s m args below meth c D cl wd A nL Q x0 d S pc lv st := by
  intro hd H locs hP hD hS ls hl
  exact lv_aload hC.1.1 hC.1.2.1 hdg (lv_at hl j hj) (kk hd H locs hP hD hS ls hl)
theorem m_astore_n (hC : Cx p m c cc nL s args Ts own D cl tys) {d : Option β} {k : Fin 4} {x : Nat} {lv1 : List (Nat × Value)} (lv2 : List (Nat × Value)) (ks : List Nat) (hdg : decode cc pc = .ok (.astore_n k, 1)) (hn : k.val < nL) (hl1 : (k.val, Value.ref x) :: lv.filter (fun q => !(q.1 == k.val) && !(q.1 + 1 == k.val && q.2.category == 2)) = lv1) (hl2 : lv_pick lv1 ks = lv2) (kk : Sm p l e R s m args below meth c D cl wd A nL Q x0 d S (pc + 1) lv2 st) :
    Sm p l e R s m args below meth c D cl wd A nL Q x0 d S pc lv (.ref x :: st) := by
  intro hd H locs hP hD hS ls hl
  exact lv_astore_n hC.1.1 hC.1.2.1 hdg rfl hl hn hl1 (fun ls hl => kk hd H locs hP hD hS ls (lv_sub hl ks hl2))
theorem m_astore (hC : Cx p m c cc nL s args Ts own D cl tys) {d : Option β} {i : Nat} {x : Nat} {lv1 : List (Nat × Value)} (lv2 : List (Nat × Value)) (ks : List Nat) (hdg : decode cc pc = .ok (.astore i, 2)) (hn : i < nL) (hl1 : (i, Value.ref x) :: lv.filter (fun q => !(q.1 == i) && !(q.1 + 1 == i && q.2.category == 2)) = lv1) (hl2 : lv_pick lv1 ks = lv2) (kk : Sm p l e R s m args below meth c D cl wd A nL Q x0 d S (pc + 2) lv2 st) :
    Sm p l e R s m args below meth c D cl wd A nL Q x0 d S pc lv (.ref x :: st) := by
  intro hd H locs hP hD hS ls hl
  exact lv_astore hC.1.1 hC.1.2.1 hdg hl hn hl1 (fun ls hl => kk hd H locs hP hD hS ls (lv_sub hl ks hl2))
theorem m_iinc (hC : Cx p m c cc nL s args Ts own D cl tys) {K : Int32 → Option β} {i j : Nat} {n : Int} {x dx : Int32} {lv1 : Int32 → List (Nat × Value)} (lv2 : Int32 → List (Nat × Value)) (ks : List Nat) (hdg : decode cc pc = .ok (.iinc i n, 3)) (hj : lv[j]? = some (i, Value.int x)) (hdx : Int32.ofInt n = dx) (hn : i < nL) (hl1 : ∀ y : Int32, (i, Value.int y) :: lv.filter (fun q => !(q.1 == i) && !(q.1 + 1 == i && q.2.category == 2)) = lv1 y) (hl2 : ∀ y : Int32, lv_pick (lv1 y) ks = lv2 y) (kk : ∀ y : Int32, Sm p l e R s m args below meth c D cl wd A nL Q x0 (K y) S (pc + 3) (lv2 y) st) :
    Sm p l e R s m args below meth c D cl wd A nL Q x0 (nmI (x + dx) K) S pc lv st := by
  intro hd H locs hP hD hS ls hl
  subst hdx
  exact lv_iinc hC.1.1 hC.1.2.1 hdg hl hj rfl hn (hl1 _) (fun ls hl => kk _ hd H locs hP hD hS ls (lv_sub hl ks (hl2 _)))
theorem m_iconst (hC : Cx p m c cc nL s args Ts own D cl tys) {d : Option β} {n : Int} (v : Int32) (hdg : decode cc pc = .ok (.iconst n, 1)) (hv : Int32.ofInt n = v) (kk : Sm p l e R s m args below meth c D cl wd A nL Q x0 d S (pc + 1) lv (.int v :: st)) :
    Sm p l e R s m args below meth c D cl wd A nL Q x0 d S pc lv st := by
  intro hd H locs hP hD hS ls hl
  exact lv_iconst hC.1.1 hC.1.2.1 hdg hv (kk hd H locs hP hD hS ls hl)
theorem m_bipush (hC : Cx p m c cc nL s args Ts own D cl tys) {d : Option β} {n : Int} (v : Int32) (hdg : decode cc pc = .ok (.bipush n, 2)) (hv : (Int8.ofInt n).toInt32 = v) (kk : Sm p l e R s m args below meth c D cl wd A nL Q x0 d S (pc + 2) lv (.int v :: st)) :
    Sm p l e R s m args below meth c D cl wd A nL Q x0 d S pc lv st := by
  intro hd H locs hP hD hS ls hl
  exact lv_bipush hC.1.1 hC.1.2.1 hdg hv (kk hd H locs hP hD hS ls hl)
theorem m_sipush (hC : Cx p m c cc nL s args Ts own D cl tys) {d : Option β} {n : Int} (v : Int32) (hdg : decode cc pc = .ok (.sipush n, 3)) (hv : (Int16.ofInt n).toInt32 = v) (kk : Sm p l e R s m args below meth c D cl wd A nL Q x0 d S (pc + 3) lv (.int v :: st)) :
    Sm p l e R s m args below meth c D cl wd A nL Q x0 d S pc lv st := by
  intro hd H locs hP hD hS ls hl
  exact lv_sipush hC.1.1 hC.1.2.1 hdg hv (kk hd H locs hP hD hS ls hl)
theorem m_lconst (hC : Cx p m c cc nL s args Ts own D cl tys) {d : Option β} {n : Fin 2} (v : Int64) (hdg : decode cc pc = .ok (.lconst n, 1)) (hv : Int64.ofNat (n : Nat) = v) (kk : Sm p l e R s m args below meth c D cl wd A nL Q x0 d S (pc + 1) lv (.long v :: st)) :
    Sm p l e R s m args below meth c D cl wd A nL Q x0 d S pc lv st := by
  intro hd H locs hP hD hS ls hl
  exact lv_lconst hC.1.1 hC.1.2.1 hdg hv (kk hd H locs hP hD hS ls hl)
theorem m_ldc (hC : Cx p m c cc nL s args Ts own D cl tys) {d : Option β} {index : Nat} {v : Int32} (hw : Cond.constant own index v ∈ Ts) (hdg : decode cc pc = .ok (.ldc index, 2)) (kk : Sm p l e R s m args below meth c D cl wd A nL Q x0 d S (pc + 2) lv (.int v :: st)) :
    Sm p l e R s m args below meth c D cl wd A nL Q x0 d S pc lv st := by
  intro hd H locs hP hD hS ls hl
  exact lv_ldc hC.1.1 hC.1.2.1 hC.1.2.2.2.1 (hC.1.2.2.2.2 _ hw) hdg (kk hd H locs hP hD hS ls hl)
theorem m_ldcw (hC : Cx p m c cc nL s args Ts own D cl tys) {d : Option β} {index : Nat} {v : Int32} (hw : Cond.constant own index v ∈ Ts) (hdg : decode cc pc = .ok (.ldc_w index, 3)) (kk : Sm p l e R s m args below meth c D cl wd A nL Q x0 d S (pc + 3) lv (.int v :: st)) :
    Sm p l e R s m args below meth c D cl wd A nL Q x0 d S pc lv st := by
  intro hd H locs hP hD hS ls hl
  exact lv_ldcw hC.1.1 hC.1.2.1 hC.1.2.2.2.1 (hC.1.2.2.2.2 _ hw) hdg (kk hd H locs hP hD hS ls hl)
theorem m_ldc2 (hC : Cx p m c cc nL s args Ts own D cl tys) {d : Option β} {index : Nat} {v : Int64} (hw : Cond.constantLong own index v ∈ Ts) (hdg : decode cc pc = .ok (.ldc2_w index, 3)) (kk : Sm p l e R s m args below meth c D cl wd A nL Q x0 d S (pc + 3) lv (.long v :: st)) :
    Sm p l e R s m args below meth c D cl wd A nL Q x0 d S pc lv st := by
  intro hd H locs hP hD hS ls hl
  exact lv_ldc2 hC.1.1 hC.1.2.1 hC.1.2.2.2.1 (hC.1.2.2.2.2 _ hw) hdg (kk hd H locs hP hD hS ls hl)
theorem m_iadd (hC : Cx p m c cc nL s args Ts own D cl tys) {d : Option β} {x y : Int32} (hdg : decode cc pc = .ok (.iadd, 1)) (kk : Sm p l e R s m args below meth c D cl wd A nL Q x0 d S (pc + 1) lv (.int (x + y) :: st)) :
    Sm p l e R s m args below meth c D cl wd A nL Q x0 d S pc lv (.int y :: .int x :: st) := by
  intro hd H locs hP hD hS ls hl
  exact lv_iadd hC.1.1 hC.1.2.1 hdg (kk hd H locs hP hD hS ls hl)
theorem m_isub (hC : Cx p m c cc nL s args Ts own D cl tys) {d : Option β} {x y : Int32} (hdg : decode cc pc = .ok (.isub, 1)) (kk : Sm p l e R s m args below meth c D cl wd A nL Q x0 d S (pc + 1) lv (.int (x - y) :: st)) :
    Sm p l e R s m args below meth c D cl wd A nL Q x0 d S pc lv (.int y :: .int x :: st) := by
  intro hd H locs hP hD hS ls hl
  exact lv_isub hC.1.1 hC.1.2.1 hdg (kk hd H locs hP hD hS ls hl)
theorem m_imul (hC : Cx p m c cc nL s args Ts own D cl tys) {d : Option β} {x y : Int32} (hdg : decode cc pc = .ok (.imul, 1)) (kk : Sm p l e R s m args below meth c D cl wd A nL Q x0 d S (pc + 1) lv (.int (x * y) :: st)) :
    Sm p l e R s m args below meth c D cl wd A nL Q x0 d S pc lv (.int y :: .int x :: st) := by
  intro hd H locs hP hD hS ls hl
  exact lv_imul hC.1.1 hC.1.2.1 hdg (kk hd H locs hP hD hS ls hl)
theorem m_iand (hC : Cx p m c cc nL s args Ts own D cl tys) {d : Option β} {x y : Int32} (hdg : decode cc pc = .ok (.iand, 1)) (kk : Sm p l e R s m args below meth c D cl wd A nL Q x0 d S (pc + 1) lv (.int (x &&& y) :: st)) :
    Sm p l e R s m args below meth c D cl wd A nL Q x0 d S pc lv (.int y :: .int x :: st) := by
  intro hd H locs hP hD hS ls hl
  exact lv_iand hC.1.1 hC.1.2.1 hdg (kk hd H locs hP hD hS ls hl)
theorem m_ior (hC : Cx p m c cc nL s args Ts own D cl tys) {d : Option β} {x y : Int32} (hdg : decode cc pc = .ok (.ior, 1)) (kk : Sm p l e R s m args below meth c D cl wd A nL Q x0 d S (pc + 1) lv (.int (x ||| y) :: st)) :
    Sm p l e R s m args below meth c D cl wd A nL Q x0 d S pc lv (.int y :: .int x :: st) := by
  intro hd H locs hP hD hS ls hl
  exact lv_ior hC.1.1 hC.1.2.1 hdg (kk hd H locs hP hD hS ls hl)
theorem m_ixor (hC : Cx p m c cc nL s args Ts own D cl tys) {d : Option β} {x y : Int32} (hdg : decode cc pc = .ok (.ixor, 1)) (kk : Sm p l e R s m args below meth c D cl wd A nL Q x0 d S (pc + 1) lv (.int (x ^^^ y) :: st)) :
    Sm p l e R s m args below meth c D cl wd A nL Q x0 d S pc lv (.int y :: .int x :: st) := by
  intro hd H locs hP hD hS ls hl
  exact lv_ixor hC.1.1 hC.1.2.1 hdg (kk hd H locs hP hD hS ls hl)
theorem m_ishl (hC : Cx p m c cc nL s args Ts own D cl tys) {d : Option β} {x y : Int32} (hdg : decode cc pc = .ok (.ishl, 1)) (kk : Sm p l e R s m args below meth c D cl wd A nL Q x0 d S (pc + 1) lv (.int (x <<< (y &&& 31)) :: st)) :
    Sm p l e R s m args below meth c D cl wd A nL Q x0 d S pc lv (.int y :: .int x :: st) := by
  intro hd H locs hP hD hS ls hl
  exact lv_ishl hC.1.1 hC.1.2.1 hdg (kk hd H locs hP hD hS ls hl)
theorem m_ishr (hC : Cx p m c cc nL s args Ts own D cl tys) {d : Option β} {x y : Int32} (hdg : decode cc pc = .ok (.ishr, 1)) (kk : Sm p l e R s m args below meth c D cl wd A nL Q x0 d S (pc + 1) lv (.int (x >>> (y &&& 31)) :: st)) :
    Sm p l e R s m args below meth c D cl wd A nL Q x0 d S pc lv (.int y :: .int x :: st) := by
  intro hd H locs hP hD hS ls hl
  exact lv_ishr hC.1.1 hC.1.2.1 hdg (kk hd H locs hP hD hS ls hl)
theorem m_iushr (hC : Cx p m c cc nL s args Ts own D cl tys) {d : Option β} {x y : Int32} (hdg : decode cc pc = .ok (.iushr, 1)) (kk : Sm p l e R s m args below meth c D cl wd A nL Q x0 d S (pc + 1) lv (.int (usI x y) :: st)) :
    Sm p l e R s m args below meth c D cl wd A nL Q x0 d S pc lv (.int y :: .int x :: st) := by
  intro hd H locs hP hD hS ls hl
  exact lv_iushr hC.1.1 hC.1.2.1 hdg rfl (kk hd H locs hP hD hS ls hl)
theorem m_ineg (hC : Cx p m c cc nL s args Ts own D cl tys) {d : Option β} {x : Int32} (hdg : decode cc pc = .ok (.ineg, 1)) (kk : Sm p l e R s m args below meth c D cl wd A nL Q x0 d S (pc + 1) lv (.int (-x) :: st)) :
    Sm p l e R s m args below meth c D cl wd A nL Q x0 d S pc lv (.int x :: st) := by
  intro hd H locs hP hD hS ls hl
  exact lv_ineg hC.1.1 hC.1.2.1 hdg (kk hd H locs hP hD hS ls hl)
theorem m_ladd (hC : Cx p m c cc nL s args Ts own D cl tys) {d : Option β} {x y : Int64} (hdg : decode cc pc = .ok (.ladd, 1)) (kk : Sm p l e R s m args below meth c D cl wd A nL Q x0 d S (pc + 1) lv (.long (x + y) :: st)) :
    Sm p l e R s m args below meth c D cl wd A nL Q x0 d S pc lv (.long y :: .long x :: st) := by
  intro hd H locs hP hD hS ls hl
  exact lv_ladd hC.1.1 hC.1.2.1 hdg (kk hd H locs hP hD hS ls hl)
theorem m_lsub (hC : Cx p m c cc nL s args Ts own D cl tys) {d : Option β} {x y : Int64} (hdg : decode cc pc = .ok (.lsub, 1)) (kk : Sm p l e R s m args below meth c D cl wd A nL Q x0 d S (pc + 1) lv (.long (x - y) :: st)) :
    Sm p l e R s m args below meth c D cl wd A nL Q x0 d S pc lv (.long y :: .long x :: st) := by
  intro hd H locs hP hD hS ls hl
  exact lv_lsub hC.1.1 hC.1.2.1 hdg (kk hd H locs hP hD hS ls hl)
theorem m_lmul (hC : Cx p m c cc nL s args Ts own D cl tys) {d : Option β} {x y : Int64} (hdg : decode cc pc = .ok (.lmul, 1)) (kk : Sm p l e R s m args below meth c D cl wd A nL Q x0 d S (pc + 1) lv (.long (x * y) :: st)) :
    Sm p l e R s m args below meth c D cl wd A nL Q x0 d S pc lv (.long y :: .long x :: st) := by
  intro hd H locs hP hD hS ls hl
  exact lv_lmul hC.1.1 hC.1.2.1 hdg (kk hd H locs hP hD hS ls hl)
theorem m_i2l (hC : Cx p m c cc nL s args Ts own D cl tys) {d : Option β} {x : Int32} (hdg : decode cc pc = .ok (.i2l, 1)) (kk : Sm p l e R s m args below meth c D cl wd A nL Q x0 d S (pc + 1) lv (.long x.toInt64 :: st)) :
    Sm p l e R s m args below meth c D cl wd A nL Q x0 d S pc lv (.int x :: st) := by
  intro hd H locs hP hD hS ls hl
  exact lv_i2l hC.1.1 hC.1.2.1 hdg rfl (kk hd H locs hP hD hS ls hl)
theorem m_lcmp (hC : Cx p m c cc nL s args Ts own D cl tys) {d : Option β} {x y : Int64} (hdg : decode cc pc = .ok (.lcmp, 1)) (kk : Sm p l e R s m args below meth c D cl wd A nL Q x0 d S (pc + 1) lv (.int (lg_cmp x y) :: st)) :
    Sm p l e R s m args below meth c D cl wd A nL Q x0 d S pc lv (.long y :: .long x :: st) := by
  intro hd H locs hP hD hS ls hl
  exact W.lcmp hC.1.1 hC.1.2.1 hdg (kk hd H locs hP hD hS ls hl)
theorem m_dup (hC : Cx p m c cc nL s args Ts own D cl tys) {d : Option β} {va : Value} (hdg : decode cc pc = .ok (.dup, 1)) (hva : va.category = 1) (kk : Sm p l e R s m args below meth c D cl wd A nL Q x0 d S (pc + 1) lv (va :: va :: st)) :
    Sm p l e R s m args below meth c D cl wd A nL Q x0 d S pc lv (va :: st) := by
  intro hd H locs hP hD hS ls hl
  exact lv_dup hC.1.1 hC.1.2.1 hdg hva (kk hd H locs hP hD hS ls hl)
theorem m_pop (hC : Cx p m c cc nL s args Ts own D cl tys) {d : Option β} {va : Value} (hdg : decode cc pc = .ok (.pop, 1)) (hva : va.category = 1) (kk : Sm p l e R s m args below meth c D cl wd A nL Q x0 d S (pc + 1) lv (st)) :
    Sm p l e R s m args below meth c D cl wd A nL Q x0 d S pc lv (va :: st) := by
  intro hd H locs hP hD hS ls hl
  exact lv_pop hC.1.1 hC.1.2.1 hdg hva (kk hd H locs hP hD hS ls hl)
theorem m_dup_x1 (hC : Cx p m c cc nL s args Ts own D cl tys) {d : Option β} {va vb : Value} (hdg : decode cc pc = .ok (.dup_x1, 1)) (hva : va.category = 1) (hvb : vb.category = 1) (kk : Sm p l e R s m args below meth c D cl wd A nL Q x0 d S (pc + 1) lv (va :: vb :: va :: st)) :
    Sm p l e R s m args below meth c D cl wd A nL Q x0 d S pc lv (va :: vb :: st) := by
  intro hd H locs hP hD hS ls hl
  exact lv_dup_x1 hC.1.1 hC.1.2.1 hdg hva hvb (kk hd H locs hP hD hS ls hl)
theorem m_dup_x2 (hC : Cx p m c cc nL s args Ts own D cl tys) {d : Option β} {va vb vd : Value} (hdg : decode cc pc = .ok (.dup_x2, 1)) (hva : va.category = 1) (hvb : vb.category = 1) (hvd : vd.category = 1) (kk : Sm p l e R s m args below meth c D cl wd A nL Q x0 d S (pc + 1) lv (va :: vb :: vd :: va :: st)) :
    Sm p l e R s m args below meth c D cl wd A nL Q x0 d S pc lv (va :: vb :: vd :: st) := by
  intro hd H locs hP hD hS ls hl
  exact lv_dup_x2 hC.1.1 hC.1.2.1 hdg hva hvb hvd (kk hd H locs hP hD hS ls hl)
theorem m_dup2 (hC : Cx p m c cc nL s args Ts own D cl tys) {d : Option β} {va vb : Value} (hdg : decode cc pc = .ok (.dup2, 1)) (hva : va.category = 1) (hvb : vb.category = 1) (kk : Sm p l e R s m args below meth c D cl wd A nL Q x0 d S (pc + 1) lv (va :: vb :: va :: vb :: st)) :
    Sm p l e R s m args below meth c D cl wd A nL Q x0 d S pc lv (va :: vb :: st) := by
  intro hd H locs hP hD hS ls hl
  exact lv_dup2_11 hC.1.1 hC.1.2.1 hdg hva hvb (kk hd H locs hP hD hS ls hl)
theorem m_if_eq (hC : Cx p m c cc nL s args Ts own D cl tys) {dt de : Option β} {x : Int32} {off : Int} (tgt : Nat) (hdg : decode cc pc = .ok (.ifCond .eq off, 3)) (ht : (pc : Int) + off = (tgt : Int)) (kt : Sm p l e R s m args below meth c D cl wd A nL Q x0 dt S tgt lv st) (kf : Sm p l e R s m args below meth c D cl wd A nL Q x0 de S (pc + 3) lv st) :
    Sm p l e R s m args below meth c D cl wd A nL Q x0 (if x = 0 then dt else de) S pc lv (.int x :: st) := by
  intro hd H locs hP hD hS ls hl
  refine lv_if_eq hC.1.1 hC.1.2.1 hdg ht (fun hq => ?_) (fun hq => ?_)
  · exact kt ((if_pos hq).symm.trans hd) H locs hP hD hS ls hl
  · exact kf ((if_neg hq).symm.trans hd) H locs hP hD hS ls hl
theorem m_icmp_eq (hC : Cx p m c cc nL s args Ts own D cl tys) {dt de : Option β} {x y : Int32} {off : Int} (tgt : Nat) (hdg : decode cc pc = .ok (.if_icmp .eq off, 3)) (ht : (pc : Int) + off = (tgt : Int)) (kt : Sm p l e R s m args below meth c D cl wd A nL Q x0 dt S tgt lv st) (kf : Sm p l e R s m args below meth c D cl wd A nL Q x0 de S (pc + 3) lv st) :
    Sm p l e R s m args below meth c D cl wd A nL Q x0 (if x = y then dt else de) S pc lv (.int y :: .int x :: st) := by
  intro hd H locs hP hD hS ls hl
  refine lv_icmp_eq hC.1.1 hC.1.2.1 hdg ht (fun hq => ?_) (fun hq => ?_)
  · exact kt ((if_pos hq).symm.trans hd) H locs hP hD hS ls hl
  · exact kf ((if_neg hq).symm.trans hd) H locs hP hD hS ls hl
theorem m_if_ne (hC : Cx p m c cc nL s args Ts own D cl tys) {dt de : Option β} {x : Int32} {off : Int} (tgt : Nat) (hdg : decode cc pc = .ok (.ifCond .ne off, 3)) (ht : (pc : Int) + off = (tgt : Int)) (kt : Sm p l e R s m args below meth c D cl wd A nL Q x0 de S tgt lv st) (kf : Sm p l e R s m args below meth c D cl wd A nL Q x0 dt S (pc + 3) lv st) :
    Sm p l e R s m args below meth c D cl wd A nL Q x0 (if x = 0 then dt else de) S pc lv (.int x :: st) := by
  intro hd H locs hP hD hS ls hl
  refine lv_if_ne hC.1.1 hC.1.2.1 hdg ht (fun hq => ?_) (fun hq => ?_)
  · exact kt ((if_neg hq).symm.trans hd) H locs hP hD hS ls hl
  · exact kf ((if_pos hq).symm.trans hd) H locs hP hD hS ls hl
theorem m_icmp_ne (hC : Cx p m c cc nL s args Ts own D cl tys) {dt de : Option β} {x y : Int32} {off : Int} (tgt : Nat) (hdg : decode cc pc = .ok (.if_icmp .ne off, 3)) (ht : (pc : Int) + off = (tgt : Int)) (kt : Sm p l e R s m args below meth c D cl wd A nL Q x0 de S tgt lv st) (kf : Sm p l e R s m args below meth c D cl wd A nL Q x0 dt S (pc + 3) lv st) :
    Sm p l e R s m args below meth c D cl wd A nL Q x0 (if x = y then dt else de) S pc lv (.int y :: .int x :: st) := by
  intro hd H locs hP hD hS ls hl
  refine lv_icmp_ne hC.1.1 hC.1.2.1 hdg ht (fun hq => ?_) (fun hq => ?_)
  · exact kt ((if_neg hq).symm.trans hd) H locs hP hD hS ls hl
  · exact kf ((if_pos hq).symm.trans hd) H locs hP hD hS ls hl
theorem m_if_lt (hC : Cx p m c cc nL s args Ts own D cl tys) {dt de : Option β} {x : Int32} {off : Int} (tgt : Nat) (hdg : decode cc pc = .ok (.ifCond .lt off, 3)) (ht : (pc : Int) + off = (tgt : Int)) (kt : Sm p l e R s m args below meth c D cl wd A nL Q x0 dt S tgt lv st) (kf : Sm p l e R s m args below meth c D cl wd A nL Q x0 de S (pc + 3) lv st) :
    Sm p l e R s m args below meth c D cl wd A nL Q x0 (if x < 0 then dt else de) S pc lv (.int x :: st) := by
  intro hd H locs hP hD hS ls hl
  refine lv_if_lt hC.1.1 hC.1.2.1 hdg ht (fun hq => ?_) (fun hq => ?_)
  · exact kt ((if_pos hq).symm.trans hd) H locs hP hD hS ls hl
  · exact kf ((if_neg hq).symm.trans hd) H locs hP hD hS ls hl
theorem m_icmp_lt (hC : Cx p m c cc nL s args Ts own D cl tys) {dt de : Option β} {x y : Int32} {off : Int} (tgt : Nat) (hdg : decode cc pc = .ok (.if_icmp .lt off, 3)) (ht : (pc : Int) + off = (tgt : Int)) (kt : Sm p l e R s m args below meth c D cl wd A nL Q x0 dt S tgt lv st) (kf : Sm p l e R s m args below meth c D cl wd A nL Q x0 de S (pc + 3) lv st) :
    Sm p l e R s m args below meth c D cl wd A nL Q x0 (if x < y then dt else de) S pc lv (.int y :: .int x :: st) := by
  intro hd H locs hP hD hS ls hl
  refine lv_icmp_lt hC.1.1 hC.1.2.1 hdg ht (fun hq => ?_) (fun hq => ?_)
  · exact kt ((if_pos hq).symm.trans hd) H locs hP hD hS ls hl
  · exact kf ((if_neg hq).symm.trans hd) H locs hP hD hS ls hl
theorem m_if_ge (hC : Cx p m c cc nL s args Ts own D cl tys) {dt de : Option β} {x : Int32} {off : Int} (tgt : Nat) (hdg : decode cc pc = .ok (.ifCond .ge off, 3)) (ht : (pc : Int) + off = (tgt : Int)) (kt : Sm p l e R s m args below meth c D cl wd A nL Q x0 de S tgt lv st) (kf : Sm p l e R s m args below meth c D cl wd A nL Q x0 dt S (pc + 3) lv st) :
    Sm p l e R s m args below meth c D cl wd A nL Q x0 (if x < 0 then dt else de) S pc lv (.int x :: st) := by
  intro hd H locs hP hD hS ls hl
  refine lv_if_ge hC.1.1 hC.1.2.1 hdg ht (fun hq => ?_) (fun hq => ?_)
  · exact kt ((if_neg (Int32.not_lt.mpr hq)).symm.trans hd) H locs hP hD hS ls hl
  · exact kf ((if_pos (Int32.not_le.mp hq)).symm.trans hd) H locs hP hD hS ls hl
theorem m_icmp_ge (hC : Cx p m c cc nL s args Ts own D cl tys) {dt de : Option β} {x y : Int32} {off : Int} (tgt : Nat) (hdg : decode cc pc = .ok (.if_icmp .ge off, 3)) (ht : (pc : Int) + off = (tgt : Int)) (kt : Sm p l e R s m args below meth c D cl wd A nL Q x0 de S tgt lv st) (kf : Sm p l e R s m args below meth c D cl wd A nL Q x0 dt S (pc + 3) lv st) :
    Sm p l e R s m args below meth c D cl wd A nL Q x0 (if x < y then dt else de) S pc lv (.int y :: .int x :: st) := by
  intro hd H locs hP hD hS ls hl
  refine lv_icmp_ge hC.1.1 hC.1.2.1 hdg ht (fun hq => ?_) (fun hq => ?_)
  · exact kt ((if_neg (Int32.not_lt.mpr hq)).symm.trans hd) H locs hP hD hS ls hl
  · exact kf ((if_pos (Int32.not_le.mp hq)).symm.trans hd) H locs hP hD hS ls hl
theorem m_if_le (hC : Cx p m c cc nL s args Ts own D cl tys) {dt de : Option β} {x : Int32} {off : Int} (tgt : Nat) (hdg : decode cc pc = .ok (.ifCond .le off, 3)) (ht : (pc : Int) + off = (tgt : Int)) (kt : Sm p l e R s m args below meth c D cl wd A nL Q x0 dt S tgt lv st) (kf : Sm p l e R s m args below meth c D cl wd A nL Q x0 de S (pc + 3) lv st) :
    Sm p l e R s m args below meth c D cl wd A nL Q x0 (if x ≤ 0 then dt else de) S pc lv (.int x :: st) := by
  intro hd H locs hP hD hS ls hl
  refine lv_if_le hC.1.1 hC.1.2.1 hdg ht (fun hq => ?_) (fun hq => ?_)
  · exact kt ((if_pos hq).symm.trans hd) H locs hP hD hS ls hl
  · exact kf ((if_neg hq).symm.trans hd) H locs hP hD hS ls hl
theorem m_icmp_le (hC : Cx p m c cc nL s args Ts own D cl tys) {dt de : Option β} {x y : Int32} {off : Int} (tgt : Nat) (hdg : decode cc pc = .ok (.if_icmp .le off, 3)) (ht : (pc : Int) + off = (tgt : Int)) (kt : Sm p l e R s m args below meth c D cl wd A nL Q x0 dt S tgt lv st) (kf : Sm p l e R s m args below meth c D cl wd A nL Q x0 de S (pc + 3) lv st) :
    Sm p l e R s m args below meth c D cl wd A nL Q x0 (if x ≤ y then dt else de) S pc lv (.int y :: .int x :: st) := by
  intro hd H locs hP hD hS ls hl
  refine lv_icmp_le hC.1.1 hC.1.2.1 hdg ht (fun hq => ?_) (fun hq => ?_)
  · exact kt ((if_pos hq).symm.trans hd) H locs hP hD hS ls hl
  · exact kf ((if_neg hq).symm.trans hd) H locs hP hD hS ls hl
theorem m_if_gt (hC : Cx p m c cc nL s args Ts own D cl tys) {dt de : Option β} {x : Int32} {off : Int} (tgt : Nat) (hdg : decode cc pc = .ok (.ifCond .gt off, 3)) (ht : (pc : Int) + off = (tgt : Int)) (kt : Sm p l e R s m args below meth c D cl wd A nL Q x0 de S tgt lv st) (kf : Sm p l e R s m args below meth c D cl wd A nL Q x0 dt S (pc + 3) lv st) :
    Sm p l e R s m args below meth c D cl wd A nL Q x0 (if x ≤ 0 then dt else de) S pc lv (.int x :: st) := by
  intro hd H locs hP hD hS ls hl
  refine lv_if_gt hC.1.1 hC.1.2.1 hdg ht (fun hq => ?_) (fun hq => ?_)
  · exact kt ((if_neg (Int32.not_le.mpr hq)).symm.trans hd) H locs hP hD hS ls hl
  · exact kf ((if_pos (Int32.not_lt.mp hq)).symm.trans hd) H locs hP hD hS ls hl
theorem m_icmp_gt (hC : Cx p m c cc nL s args Ts own D cl tys) {dt de : Option β} {x y : Int32} {off : Int} (tgt : Nat) (hdg : decode cc pc = .ok (.if_icmp .gt off, 3)) (ht : (pc : Int) + off = (tgt : Int)) (kt : Sm p l e R s m args below meth c D cl wd A nL Q x0 de S tgt lv st) (kf : Sm p l e R s m args below meth c D cl wd A nL Q x0 dt S (pc + 3) lv st) :
    Sm p l e R s m args below meth c D cl wd A nL Q x0 (if x ≤ y then dt else de) S pc lv (.int y :: .int x :: st) := by
  intro hd H locs hP hD hS ls hl
  refine lv_icmp_gt hC.1.1 hC.1.2.1 hdg ht (fun hq => ?_) (fun hq => ?_)
  · exact kt ((if_neg (Int32.not_le.mpr hq)).symm.trans hd) H locs hP hD hS ls hl
  · exact kf ((if_pos (Int32.not_lt.mp hq)).symm.trans hd) H locs hP hD hS ls hl
theorem m_goto (hC : Cx p m c cc nL s args Ts own D cl tys) {d : Option β} {off : Int} (tgt : Nat) (hdg : decode cc pc = .ok (.goto off, 3)) (ht : (pc : Int) + off = (tgt : Int)) (kk : Sm p l e R s m args below meth c D cl wd A nL Q x0 d S tgt lv st) :
    Sm p l e R s m args below meth c D cl wd A nL Q x0 d S pc lv st := by
  intro hd H locs hP hD hS ls hl
  exact lv_goto hC.1.1 hC.1.2.1 hdg ht (kk hd H locs hP hD hS ls hl)
theorem m_nmI {K : Int32 → Option β} {x : Int32} (kk : ∀ y : Int32, Sm p l e R s m args below meth c D cl wd A nL Q x0 (K y) S pc lv (.int y :: st)) : Sm p l e R s m args below meth c D cl wd A nL Q x0 (nmI x K) S pc lv (.int x :: st) := kk x
theorem m_nmL {K : Int64 → Option β} {x : Int64} (kk : ∀ y : Int64, Sm p l e R s m args below meth c D cl wd A nL Q x0 (K y) S pc lv (.long y :: st)) : Sm p l e R s m args below meth c D cl wd A nL Q x0 (nmL x K) S pc lv (.long x :: st) := kk x
theorem m_pc {d : Option β} (pc2 : Nat) (h : pc = pc2) (kk : Sm p l e R s m args below meth c D cl wd A nL Q x0 d S pc2 lv st) : Sm p l e R s m args below meth c D cl wd A nL Q x0 d S pc lv st := h ▸ kk
theorem m_d {d : Option β} (d2 : Option β) (h : d = d2) (kk : Sm p l e R s m args below meth c D cl wd A nL Q x0 d2 S pc lv st) : Sm p l e R s m args below meth c D cl wd A nL Q x0 d S pc lv st := h ▸ kk
theorem m_lv {d : Option β} (lv2 : List (Nat × Value)) (ks : List Nat) (hl2 : lv_pick lv ks = lv2) (kk : Sm p l e R s m args below meth c D cl wd A nL Q x0 d S pc lv2 st) : Sm p l e R s m args below meth c D cl wd A nL Q x0 d S pc lv st := fun hd H locs hP hD hS ls hl => kk hd H locs hP hD hS ls (lv_sub hl ks hl2)
theorem m_get (hC : Cx p m c cc nL s args Ts own D cl tys) {d : Option β} {ref C : String} {T : u_T} {N ci index a q0 : Nat} {fs : List Value} {v : Value} (hin : ∀ w ∈ u_ws C T N, w ∈ Ts) (he : (wd S)[q0]? = some (a, .inr (ci, fs))) (hc : cl[ci]? = some (C, T, N)) (k : Nat) (hk : k < N) (hlink : Cond.fieldLink own index ref (T k).2.1 (T k).2.2.1 ∈ Ts) (hsame : (T k).1 = ref) (hv : fs[k]? = some v) (hdg : decode cc pc = .ok (.getfield index, 3)) (kk : Sm p l e R s m args below meth c D cl wd A nL Q x0 d S (pc + 3) lv (v :: st)) :
    Sm p l e R s m args below meth c D cl wd A nL Q x0 d S pc lv (.ref a :: st) := by
  intro hd H locs hP hD hS ls hl
  subst hsame
  exact va_get hC.1.1 hC.1.2.1 hC.1.2.2.2.2 hin hC.1.2.2.2.1 hC.2 hP q0 he hc k hk (hC.1.2.2.2.2 _ hlink) (fun _ h9 => h9) hv hdg (kk hd H locs hP hD hS ls hl)
theorem m_putI (hC : Cx p m c cc nL s args Ts own D cl tys) {K : St → Option β} {ref C : String} {T : u_T} {N ci index a q0 : Nat} {fs : List Value} {v : Int32} {ty : FieldType} (hin : ∀ w ∈ u_ws C T N, w ∈ Ts) (ty0 : Nat → FieldType) (hty : ∀ k, k < N → parseFieldDescriptor (T k).2.2.1 = some (ty0 k)) (hnm : ∀ a, a < N → ∀ b, b < N → a ≠ b → (T a).2.1 ≠ (T b).2.1) (he : (wd S)[q0]? = some (a, .inr (ci, fs))) (hc : cl[ci]? = some (C, T, N)) (k : Nat) (hk : k < N) (hlink : Cond.fieldLink own index ref (T k).2.1 (T k).2.2.1 ∈ Ts) (hsame : (T k).1 = ref) (hfin : (T k).2.2.2 = false) (hd0 : parseFieldDescriptor (T k).2.2.1 = some ty) (hn : narrow ty (.int v) = .int v) (hfit : fits ty (.int v) = true) (hl0 : k < fs.length) (hdg : decode cc pc = .ok (.putfield index, 3)) (hset : (wd S).set q0 (a, .inr (ci, fs.set k (.int v))) = wd (wr S q0 k v)) (kk : ∀ S2 : St, Sm p l e R s m args below meth c D cl wd A nL Q x0 (K S2) S2 (pc + 3) lv st) :
    Sm p l e R s m args below meth c D cl wd A nL Q x0 (pfI S q0 k v K) S pc lv (.int v :: .ref a :: st) := by
  intro hd H locs hP hD hS ls hl
  subst hsame
  refine va_put hC.1.1 hC.1.2.1 hC.1.2.2.2.2 hin ty0 hty hnm hC.1.2.2.2.1 hC.2 hP hD hS q0 he hc k hk (hC.1.2.2.2.2 _ hlink) (fun _ h9 => h9) hfin hd0 hn hfit hl0 hdg (fun H1 locs1 hP1 hD1 hS1 => ?_)
  rw [hset] at hP1 hD1
  exact kk _ hd H1 locs1 hP1 hD1 hS1 ls hl
theorem m_iald (hC : Cx p m c cc nL s args Ts own D cl tys) {K : Int32 → Option β} {a q0 t0 n : Nat} {cA : ClassId} {f : Nat → Int32} {i : Int32} (ha : (wd S)[q0]? = some (a, .inl (cA, n, .inl f))) (ht : tys[t0]? = some (cA, .int)) (hdg : decode cc pc = .ok (.iaload, 1)) (kk : ∀ x : Int32, Sm p l e R s m args below meth c D cl wd A nL Q x0 (K x) S (pc + 1) lv (.int x :: st)) :
    Sm p l e R s m args below meth c D cl wd A nL Q x0 (ldI n f i K) S pc lv (.int i :: .ref a :: st) := by
  intro hd H locs hP hD hS ls hl
  by_cases hi : i < 0 ∨ n ≤ i.toNatClampNeg
  · rw [ldI, if_pos hi] at hd
    cases hd
  · rw [ldI, if_neg hi] at hd
    exact va_iald hC.1.1 hC.1.2.1 hC.2 hP q0 t0 ha ht hi hdg (kk _ hd H locs hP hD hS ls hl)
theorem m_zald (hC : Cx p m c cc nL s args Ts own D cl tys) {K : Int32 → Option β} {a q0 t0 n : Nat} {cA : ClassId} {f : Nat → Int32} {i : Int32} (ha : (wd S)[q0]? = some (a, .inl (cA, n, .inl f))) (ht : tys[t0]? = some (cA, .boolean)) (hdg : decode cc pc = .ok (.baload, 1)) (kk : ∀ x : Int32, Sm p l e R s m args below meth c D cl wd A nL Q x0 (K x) S (pc + 1) lv (.int x :: st)) :
    Sm p l e R s m args below meth c D cl wd A nL Q x0 (ldI n f i K) S pc lv (.int i :: .ref a :: st) := by
  intro hd H locs hP hD hS ls hl
  by_cases hi : i < 0 ∨ n ≤ i.toNatClampNeg
  · rw [ldI, if_pos hi] at hd
    cases hd
  · rw [ldI, if_neg hi] at hd
    exact va_zald hC.1.1 hC.1.2.1 hC.2 hP q0 t0 ha ht hi hdg (kk _ hd H locs hP hD hS ls hl)
theorem m_lald (hC : Cx p m c cc nL s args Ts own D cl tys) {K : Int64 → Option β} {a q0 t0 n : Nat} {cA : ClassId} {f : Nat → Int64} {i : Int32} (ha : (wd S)[q0]? = some (a, .inl (cA, n, .inr (.inl f)))) (ht : tys[t0]? = some (cA, .long)) (hdg : decode cc pc = .ok (.laload, 1)) (kk : ∀ x : Int64, Sm p l e R s m args below meth c D cl wd A nL Q x0 (K x) S (pc + 1) lv (.long x :: st)) :
    Sm p l e R s m args below meth c D cl wd A nL Q x0 (ldL n f i K) S pc lv (.int i :: .ref a :: st) := by
  intro hd H locs hP hD hS ls hl
  by_cases hi : i < 0 ∨ n ≤ i.toNatClampNeg
  · rw [ldL, if_pos hi] at hd
    cases hd
  · rw [ldL, if_neg hi] at hd
    exact va_lald hC.1.1 hC.1.2.1 hC.2 hP q0 t0 ha ht hi hdg (kk _ hd H locs hP hD hS ls hl)
theorem m_aald (hC : Cx p m c cc nL s args Ts own D cl tys) {K : Nat → Option β} {a q0 t0 n : Nat} {cA : ClassId} {ty : FieldType} {f : Nat → Option Nat} {g : Nat → Nat} {i : Int32} (ha : (wd S)[q0]? = some (a, .inl (cA, n, .inr (.inr (.inr (.inr f)))))) (ht : tys[t0]? = some (cA, .array ty)) (hf : ∀ j, j < n → f j = some (g j)) (hdg : decode cc pc = .ok (.aaload, 1)) (kk : ∀ j : Nat, j < n → Sm p l e R s m args below meth c D cl wd A nL Q x0 (K j) S (pc + 1) lv (.ref (g j) :: st)) :
    Sm p l e R s m args below meth c D cl wd A nL Q x0 (ldR n i K) S pc lv (.int i :: .ref a :: st) := by
  intro hd H locs hP hD hS ls hl
  by_cases hi : i < 0 ∨ n ≤ i.toNatClampNeg
  · rw [ldR, if_pos hi] at hd
    cases hd
  · rw [ldR, if_neg hi] at hd
    have hlt : i.toNatClampNeg < n := Nat.not_le.mp fun q => hi (Or.inr q)
    have h1 := kk _ hlt hd H locs hP hD hS ls hl
    have h2 : va_rf (f i.toNatClampNeg) = .ref (g i.toNatClampNeg) := by rw [hf _ hlt]; rfl
    rw [← h2] at h1
    exact W.aald (v := va_rf (f i.toNatClampNeg)) (ty := .array ty) hC.1.1 hC.1.2.1 (hP q0 _ ha) ((hC.2.2 t0 _ ht).1 n (fun j => va_rf (f j))) rfl (fun q => by cases q) (by show ¬ (i < 0 ∨ (arrV _ _ _).slots.size ≤ _); rw [arrV_size]; exact hi) (by show (arrV _ _ _).slots[_]? = _; rw [arrV_read _ _ hlt]) rfl rfl hdg h1
theorem m_iast (hC : Cx p m c cc nL s args Ts own D cl tys) {K : St → Option β} {a q0 t0 n : Nat} {cA : ClassId} {i v : Int32} (ha : (wd S)[q0]? = some (a, .inl (cA, n, .inl (S.1 q0)))) (ht : tys[t0]? = some (cA, .int)) (hset : ∀ f : Nat → Int32, (wd S).set q0 (a, .inl (cA, n, .inl f)) = wd (wrow S q0 f)) (hdg : decode cc pc = .ok (.iastore, 1)) (kk : ∀ S2 : St, Sm p l e R s m args below meth c D cl wd A nL Q x0 (K S2) S2 (pc + 1) lv st) :
    Sm p l e R s m args below meth c D cl wd A nL Q x0 (stI S q0 n i v K) S pc lv (.int v :: .int i :: .ref a :: st) := by
  intro hd H locs hP hD hS ls hl
  by_cases hi : i < 0 ∨ n ≤ i.toNatClampNeg
  · rw [stI, if_pos hi] at hd
    cases hd
  · rw [stI, if_neg hi] at hd
    refine va_iast hC.1.1 hC.1.2.1 hC.2 hP hD hS q0 t0 ha ht hi hdg (fun H1 locs1 hP1 hD1 hS1 => ?_)
    rw [hset] at hP1 hD1
    exact kk _ hd H1 locs1 hP1 hD1 hS1 ls hl
theorem m_zast (hC : Cx p m c cc nL s args Ts own D cl tys) {K : St → Option β} {a q0 t0 n : Nat} {cA : ClassId} {i v : Int32} (hz : vp_nar .boolean v = v) (ha : (wd S)[q0]? = some (a, .inl (cA, n, .inl (S.1 q0)))) (ht : tys[t0]? = some (cA, .boolean)) (hset : ∀ f : Nat → Int32, (wd S).set q0 (a, .inl (cA, n, .inl f)) = wd (wrow S q0 f)) (hdg : decode cc pc = .ok (.bastore, 1)) (kk : ∀ S2 : St, Sm p l e R s m args below meth c D cl wd A nL Q x0 (K S2) S2 (pc + 1) lv st) :
    Sm p l e R s m args below meth c D cl wd A nL Q x0 (stI S q0 n i v K) S pc lv (.int v :: .int i :: .ref a :: st) := by
  intro hd H locs hP hD hS ls hl
  by_cases hi : i < 0 ∨ n ≤ i.toNatClampNeg
  · rw [stI, if_pos hi] at hd
    cases hd
  · rw [stI, if_neg hi] at hd
    refine va_zast hC.1.1 hC.1.2.1 hC.2 hP hD hS q0 t0 ha ht hi hdg (fun H1 locs1 hP1 hD1 hS1 => ?_)
    rw [hz, hset] at hP1 hD1
    exact kk _ hd H1 locs1 hP1 hD1 hS1 ls hl
theorem m_last (hC : Cx p m c cc nL s args Ts own D cl tys) {K : St → Option β} {a q0 t0 n : Nat} {cA : ClassId} {i : Int32} {v : Int64} (ha : (wd S)[q0]? = some (a, .inl (cA, n, .inr (.inl S.2)))) (ht : tys[t0]? = some (cA, .long)) (hset : ∀ f : Nat → Int64, (wd S).set q0 (a, .inl (cA, n, .inr (.inl f))) = wd (S.1, f)) (hdg : decode cc pc = .ok (.lastore, 1)) (kk : ∀ S2 : St, Sm p l e R s m args below meth c D cl wd A nL Q x0 (K S2) S2 (pc + 1) lv st) :
    Sm p l e R s m args below meth c D cl wd A nL Q x0 (stL S n i v K) S pc lv (.long v :: .int i :: .ref a :: st) := by
  intro hd H locs hP hD hS ls hl
  by_cases hi : i < 0 ∨ n ≤ i.toNatClampNeg
  · rw [stL, if_pos hi] at hd
    cases hd
  · rw [stL, if_neg hi] at hd
    refine va_last hC.1.1 hC.1.2.1 hC.2 hP hD hS q0 t0 ha ht hi hdg (fun H1 locs1 hP1 hD1 hS1 => ?_)
    rw [hset] at hP1 hD1
    exact kk _ hd H1 locs1 hP1 hD1 hS1 ls hl
theorem m_alen (hC : Cx p m c cc nL s args Ts own D cl tys) {d : Option β} {a q0 t0 n : Nat} {cA : ClassId} {f : Nat → Int32} (ha : (wd S)[q0]? = some (a, .inl (cA, n, .inl f))) (ht : tys[t0]? = some (cA, .int)) (hdg : decode cc pc = .ok (.arraylength, 1)) (kk : Sm p l e R s m args below meth c D cl wd A nL Q x0 d S (pc + 1) lv (.int (nI n) :: st)) :
    Sm p l e R s m args below meth c D cl wd A nL Q x0 d S pc lv (.ref a :: st) := by
  intro hd H locs hP hD hS ls hl
  exact va_alen hC.1.1 hC.1.2.1 hC.2 hP q0 t0 ha ht rfl hdg (kk hd H locs hP hD hS ls hl)
theorem m_max (hC : Cx p m c cc nL s args Ts own D cl tys) {d : Option β} {index : Nat} {x y : Int32} (hlink : Cond.methodLink own index Lib.Math.max.name ∈ Ts) (hstat : Cond.static Lib.Math.max.name ∈ Ts) (hini : Cond.initialized "java/lang/Math" ∈ Ts) (hcode : Cond.code Lib.Math.max.name Lib.Math.max.code 2 (some .int) ∈ Ts) (hfr : 1 ≤ R.frames) (hlo : (st.map fun v => v.category).sum + 13 ≤ R.locals) (hdg : decode cc pc = .ok (.invokestatic index, 3)) (kk : Sm p l e R s m args below meth c D cl wd A nL Q x0 d S (pc + 3) lv (.int (mxI x y) :: st)) :
    Sm p l e R s m args below meth c D cl wd A nL Q x0 d S pc lv (.int y :: .int x :: st) := by
  intro hd H locs hP hD hS ls hl
  exact va_mmax hC.1.1 hC.1.2.1 (hC.1.2.2.1.trans hl.1.symm) hC.1.2.2.2.1 (hC.1.2.2.2.2 _ hlink) (hC.1.2.2.2.2 _ hstat) (hC.1.2.2.2.2 _ hini) (hC.1.2.2.2.2 _ hcode) hfr hlo (Nat.zero_le _) (Nat.zero_le _) hdg (kk hd H locs hP hD hS ls hl)
theorem m_abs (hC : Cx p m c cc nL s args Ts own D cl tys) {d : Option β} {index : Nat} {x : Int32} (hlink : Cond.methodLink own index Lib.Math.abs.name ∈ Ts) (hstat : Cond.static Lib.Math.abs.name ∈ Ts) (hini : Cond.initialized "java/lang/Math" ∈ Ts) (hcode : Cond.code Lib.Math.abs.name Lib.Math.abs.code 1 (some .int) ∈ Ts) (hfr : 1 ≤ R.frames) (hlo : (st.map fun v => v.category).sum + 13 ≤ R.locals) (hdg : decode cc pc = .ok (.invokestatic index, 3)) (kk : Sm p l e R s m args below meth c D cl wd A nL Q x0 d S (pc + 3) lv (.int (abI x) :: st)) :
    Sm p l e R s m args below meth c D cl wd A nL Q x0 d S pc lv (.int x :: st) := by
  intro hd H locs hP hD hS ls hl
  exact va_mabs hC.1.1 hC.1.2.1 (hC.1.2.2.1.trans hl.1.symm) hC.1.2.2.2.1 (hC.1.2.2.2.2 _ hlink) (hC.1.2.2.2.2 _ hstat) (hC.1.2.2.2.2 _ hini) (hC.1.2.2.2.2 _ hcode) hfr hlo (Nat.zero_le _) (Nat.zero_le _) hdg (kk hd H locs hP hD hS ls hl)
theorem m_copy (hC : Cx p m c cc nL s args Ts own D cl tys) {K : St → Option β} {index a0 a1 q0 q1 t0 n0 n1 : Nat} {cA : ClassId} {sp dp n : Int32} (hlink : Cond.methodLink own index arraycopyName ∈ Ts) (hnat : Cond.native arraycopyName ∈ Ts) (hstat : Cond.static arraycopyName ∈ Ts) (hini : Cond.initialized "java/lang/System" ∈ Ts) (ha0 : (wd S)[q0]? = some (a0, .inl (cA, n0, .inl (S.1 q0)))) (ha1 : (wd S)[q1]? = some (a1, .inl (cA, n1, .inl (S.1 q1)))) (ht : tys[t0]? = some (cA, .int)) (hset : ∀ f : Nat → Int32, (wd S).set q1 (a1, .inl (cA, n1, .inl f)) = wd (wrow S q1 f)) (hfr : 1 ≤ R.frames) (hlo : (st.map fun v => v.category).sum + (nativeFrameWords "java/lang/System" "arraycopy" 5 + 11) ≤ R.locals) (hdg : decode cc pc = .ok (.invokestatic index, 3)) (kk : ∀ S2 : St, Sm p l e R s m args below meth c D cl wd A nL Q x0 (K S2) S2 (pc + 3) lv st) :
    Sm p l e R s m args below meth c D cl wd A nL Q x0 (cpI S q0 n0 q1 n1 sp dp n K) S pc lv (.int n :: .int dp :: .ref a1 :: .int sp :: .ref a0 :: st) := by
  intro hd H locs hP hD hS ls hl
  by_cases hi : sp < 0 ∨ dp < 0 ∨ n < 0 ∨ n0 < sp.toNatClampNeg + n.toNatClampNeg ∨ n1 < dp.toNatClampNeg + n.toNatClampNeg
  · rw [cpI, if_pos hi] at hd
    cases hd
  · rw [cpI, if_neg hi] at hd
    refine va_copyi hC.1.1 hC.1.2.1 (hC.1.2.2.1.trans hl.1.symm) hC.1.2.2.2.1 (hC.1.2.2.2.2 _ hlink) (hC.1.2.2.2.2 _ hnat) (hC.1.2.2.2.2 _ hstat) (hC.1.2.2.2.2 _ hini) hC.2 hP hD hS q0 q1 t0 t0 ha0 ha1 ht ht rfl (fun h => hi (Or.inl h)) (fun h => hi (Or.inr (Or.inl h))) (fun h => hi (Or.inr (Or.inr (Or.inl h)))) (Nat.not_lt.mp fun h => hi (Or.inr (Or.inr (Or.inr (Or.inl h))))) (Nat.not_lt.mp fun h => hi (Or.inr (Or.inr (Or.inr (Or.inr h))))) (fun _ _ => rfl) hfr hlo hdg (fun H1 locs1 hP1 hD1 hS1 => ?_)
    rw [hset] at hP1 hD1
    exact kk _ hd H1 locs1 hP1 hD1 hS1 ls hl
theorem m_iret {y0 : Int32 × St} {v : Int32} (hC : Cx p m c cc nL s args Ts own D cl tys) (hr : meth.sig.returnType = some .int) (hlocks : meth.locks = false) (hdg : decode cc pc = .ok (.ireturn, 1)) :
    Sm p l e R s m args below meth c D cl wd A nL (MQ below (va_Qi (fun r S2 => (r, S2) = y0) (Bw D cl tys wd A) A) args s 0 0 A) y0 (some (v, S)) S pc lv [.int v] := by
  intro hd H locs hP hD hS ls hl
  exact W.iret hC.1.1 hC.1.2.1 hr (fun t ht hW => ⟨⟨v, S, rfl, Option.some.inj hd, by rw [ht]; exact hP, va_K.moved hW.alike hC.2, hD⟩, hS.F ht⟩) hS.2.2 hdg hlocks
theorem m_iretP {y0 v : Int32} (hC : Cx p m c cc nL s args Ts own D cl tys) (hr : meth.sig.returnType = some .int) (hlocks : meth.locks = false) (hdg : decode cc pc = .ok (.ireturn, 1)) :
    Sm p l e R s m args below meth c D cl wd A nL (MQ below (va_Qi (fun r S2 => r = y0 ∧ S2 = S) (Bw D cl tys wd A) A) args s 0 0 A) y0 (some v) S pc lv [.int v] := by
  intro hd H locs hP hD hS ls hl
  exact W.iret hC.1.1 hC.1.2.1 hr (fun t ht hW => ⟨⟨v, S, rfl, ⟨Option.some.inj hd, rfl⟩, by rw [ht]; exact hP, va_K.moved hW.alike hC.2, hD⟩, hS.F ht⟩) hS.2.2 hdg hlocks
theorem m_zret {y0 : Int32 × St} {v : Int32} (hC : Cx p m c cc nL s args Ts own D cl tys) (hz : narrow .boolean (.int v) = .int v) (hr : meth.sig.returnType = some .boolean) (hlocks : meth.locks = false) (hdg : decode cc pc = .ok (.ireturn, 1)) :
    Sm p l e R s m args below meth c D cl wd A nL (MQ below (va_Qi (fun r S2 => (r, S2) = y0) (Bw D cl tys wd A) A) args s 0 0 A) y0 (some (v, S)) S pc lv [.int v] := by
  intro hd H locs hP hD hS ls hl
  exact W.zret hC.1.1 hC.1.2.1 hr hz (fun t ht hW => ⟨⟨v, S, rfl, Option.some.inj hd, by rw [ht]; exact hP, va_K.moved hW.alike hC.2, hD⟩, hS.F ht⟩) hS.2.2 hdg hlocks
theorem m_zretP {y0 v : Int32} (hC : Cx p m c cc nL s args Ts own D cl tys) (hz : narrow .boolean (.int v) = .int v) (hr : meth.sig.returnType = some .boolean) (hlocks : meth.locks = false) (hdg : decode cc pc = .ok (.ireturn, 1)) :
    Sm p l e R s m args below meth c D cl wd A nL (MQ below (va_Qi (fun r S2 => r = y0 ∧ S2 = S) (Bw D cl tys wd A) A) args s 0 0 A) y0 (some v) S pc lv [.int v] := by
  intro hd H locs hP hD hS ls hl
  exact W.zret hC.1.1 hC.1.2.1 hr hz (fun t ht hW => ⟨⟨v, S, rfl, ⟨Option.some.inj hd, rfl⟩, by rw [ht]; exact hP, va_K.moved hW.alike hC.2, hD⟩, hS.F ht⟩) hS.2.2 hdg hlocks
theorem m_lret {y0 : Int64 × St} {v : Int64} (hC : Cx p m c cc nL s args Ts own D cl tys) (hr : meth.sig.returnType = some .long) (hlocks : meth.locks = false) (hdg : decode cc pc = .ok (.lreturn, 1)) :
    Sm p l e R s m args below meth c D cl wd A nL (MQ below (va_Ql (fun r S2 => (r, S2) = y0) (Bw D cl tys wd A) A) args s 0 0 A) y0 (some (v, S)) S pc lv [.long v] := by
  intro hd H locs hP hD hS ls hl
  exact W.lret hC.1.1 hC.1.2.1 hr (fun t ht hW => ⟨⟨v, S, rfl, Option.some.inj hd, by rw [ht]; exact hP, va_K.moved hW.alike hC.2, hD⟩, hS.F ht⟩) hS.2.2 hdg hlocks
theorem m_lretP {y0 v : Int64} (hC : Cx p m c cc nL s args Ts own D cl tys) (hr : meth.sig.returnType = some .long) (hlocks : meth.locks = false) (hdg : decode cc pc = .ok (.lreturn, 1)) :
    Sm p l e R s m args below meth c D cl wd A nL (MQ below (va_Ql (fun r S2 => r = y0 ∧ S2 = S) (Bw D cl tys wd A) A) args s 0 0 A) y0 (some v) S pc lv [.long v] := by
  intro hd H locs hP hD hS ls hl
  exact W.lret hC.1.1 hC.1.2.1 hr (fun t ht hW => ⟨⟨v, S, rfl, ⟨Option.some.inj hd, rfl⟩, by rw [ht]; exact hP, va_K.moved hW.alike hC.2, hD⟩, hS.F ht⟩) hS.2.2 hdg hlocks
theorem m_vret {y0 : St} (hC : Cx p m c cc nL s args Ts own D cl tys) (hr : meth.sig.returnType = none) (hlocks : meth.locks = false) (hdg : decode cc pc = .ok (.return_, 1)) :
    Sm p l e R s m args below meth c D cl wd A nL (MQ below (va_Qv (fun S2 => S2 = y0) (Bw D cl tys wd A) A) args s 0 0 A) y0 (some S) S pc lv [] := by
  intro hd H locs hP hD hS ls hl
  exact W.vret hC.1.1 hC.1.2.1 hr (fun t ht hW => ⟨⟨S, rfl, Option.some.inj hd, by rw [ht]; exact hP, va_K.moved hW.alike hC.2, hD⟩, hS.F ht⟩) hS.2.2 hdg hlocks
theorem m_cIPV (hC : Cx p m c cc nL s args Ts own D cl tys) {y : MethodName} {C : String} {bytes : ByteArray} {maxL index n q0 ci b N : Nat} {T : u_T} {fs : List Value} {ret : Option FieldType} {wsy : List Cond} {rm : Room} {As : List Value} {AA : Nat → Nat → Prop} {fy : Option Int32} {K : Int32 → Option β} (hWk : Wok wd AA) (cw : CallW R s args own C index y bytes maxL ret wsy rm 0 0 n) (he : (wd S)[q0]? = some (b, .inr (ci, fs))) (hc : cl[ci]? = some (C, T, N)) (hM : ∀ x1 : Int32, fy = some x1 → KI l y wsy rm D cl tys wd AA (.ref b :: As) S (fun r S2 => r = x1 ∧ S2 = S)) (hn : As.length = n) (hroom : (st.map fun v => v.category).sum ≤ 8) (hdg : decode cc pc = .ok (.invokevirtual index, 3)) (kk : ∀ r : Int32, Sm p l e R s m args below meth c D cl wd (AA s.heap.size) nL Q x0 (K r) S (pc + 3) lv (.int r :: st)) :
    Sm p l e R s m args below meth c D cl wd (AA s.heap.size) nL Q x0 (caP fy K) S pc lv (As.reverse ++ .ref b :: st) := by
  intro hd H locs hP hD hS ls hl
  cases hf : fy with
  | none => rw [hf] at hd; cases hd
  | some x1 =>
    rw [hf] at hd
    refine va_calli (va_runV (As := As) (rest := st) hC.1 (hM x1 hf H.size) cw ⟨fun a U g mk q => by obtain ⟨q0, q1, qP, qK, qD⟩ := q; exact ⟨q0, q1, qP, va_K.moved (u := U) (U := U.calling g mk a) (Vm.Alike.refl U.vm) qK, qD⟩, va_recv hC.2 hP hc he, fun U hU hW => ⟨rfl, by rw [hU], by rw [hU]; exact hP, va_K.moved hW.alike hC.2, hD.weaken (fun _ _ _ _ => trivial)⟩⟩ rfl hn hl.1 rfl (lv_room hroom) hdg ⟨Nat.zero_le _, Nat.zero_le _⟩) hS (fun q _ h => hWk.2.1 _ _ _ hS.1 h) (fun q h => hWk.2.1 _ _ _ hS.1 h) (fun r u t H1 locs1 ht hvm hw hB hz1 hk1 hS1 => ?_)
    obtain ⟨hw1, hw2⟩ := hw
    subst hw1
    subst hw2
    obtain ⟨hP1, hK1, hD1⟩ := hB
    rw [ht] at hP1
    exact kk _ hd H1 locs1 hP1 (hD1.weaken (fun _ _ _ h => hWk.2.1 _ _ _ hS.1 h)) hS1 ls hl
theorem m_cIPS (hC : Cx p m c cc nL s args Ts own D cl tys) {y : MethodName} {bytes : ByteArray} {maxL index n : Nat} {ret : Option FieldType} {wsy : List Cond} {rm : Room} {As : List Value} {AA : Nat → Nat → Prop} {fy : Option Int32} {K : Int32 → Option β} (hWk : Wok wd AA) (cw : CallB R s args own index y bytes maxL ret wsy rm 0 0 n ∧ (Cond.static y).before args s = true) (hM : ∀ x1 : Int32, fy = some x1 → KI l y wsy rm D cl tys wd AA As S (fun r S2 => r = x1 ∧ S2 = S)) (hn : As.length = n) (hroom : (st.map fun v => v.category).sum ≤ 8) (hdg : decode cc pc = .ok (.invokestatic index, 3)) (kk : ∀ r : Int32, Sm p l e R s m args below meth c D cl wd (AA s.heap.size) nL Q x0 (K r) S (pc + 3) lv (.int r :: st)) :
    Sm p l e R s m args below meth c D cl wd (AA s.heap.size) nL Q x0 (caP fy K) S pc lv (As.reverse ++ st) := by
  intro hd H locs hP hD hS ls hl
  cases hf : fy with
  | none => rw [hf] at hd; cases hd
  | some x1 =>
    rw [hf] at hd
    refine va_calli (va_runS (As := As) (rest := st) hC.1 (hM x1 hf H.size) cw ⟨fun a U g mk q => by obtain ⟨q0, q1, qP, qK, qD⟩ := q; exact ⟨q0, q1, qP, va_K.moved (u := U) (U := U.calling g mk a) (Vm.Alike.refl U.vm) qK, qD⟩, fun U hU hW => ⟨rfl, by rw [hU], by rw [hU]; exact hP, va_K.moved hW.alike hC.2, hD.weaken (fun _ _ _ _ => trivial)⟩⟩ rfl hn hl.1 rfl (lv_room hroom) hdg ⟨Nat.zero_le _, Nat.zero_le _⟩) hS (fun q _ h => hWk.2.1 _ _ _ hS.1 h) (fun q h => hWk.2.1 _ _ _ hS.1 h) (fun r u t H1 locs1 ht hvm hw hB hz1 hk1 hS1 => ?_)
    obtain ⟨hw1, hw2⟩ := hw
    subst hw1
    subst hw2
    obtain ⟨hP1, hK1, hD1⟩ := hB
    rw [ht] at hP1
    exact kk _ hd H1 locs1 hP1 (hD1.weaken (fun _ _ _ h => hWk.2.1 _ _ _ hS.1 h)) hS1 ls hl
theorem m_cIV (hC : Cx p m c cc nL s args Ts own D cl tys) {y : MethodName} {C : String} {bytes : ByteArray} {maxL index n q0 ci b N : Nat} {T : u_T} {fs : List Value} {ret : Option FieldType} {wsy : List Cond} {rm : Room} {As : List Value} {AA : Nat → Nat → Prop} {fy : Option (Int32 × St)} {K : Int32 → St → Option β} (hWk : Wok wd AA) (cw : CallW R s args own C index y bytes maxL ret wsy rm 0 0 n) (he : (wd S)[q0]? = some (b, .inr (ci, fs))) (hc : cl[ci]? = some (C, T, N)) (hM : ∀ x1 : Int32 × St, fy = some x1 → KI l y wsy rm D cl tys wd AA (.ref b :: As) S (fun r S2 => (r, S2) = x1)) (hn : As.length = n) (hroom : (st.map fun v => v.category).sum ≤ 8) (hdg : decode cc pc = .ok (.invokevirtual index, 3)) (kk : ∀ (r : Int32) (S2 : St), Sm p l e R s m args below meth c D cl wd (AA s.heap.size) nL Q x0 (K r S2) S2 (pc + 3) lv (.int r :: st)) :
    Sm p l e R s m args below meth c D cl wd (AA s.heap.size) nL Q x0 (caS fy K) S pc lv (As.reverse ++ .ref b :: st) := by
  intro hd H locs hP hD hS ls hl
  cases hf : fy with
  | none => rw [hf] at hd; cases hd
  | some x1 =>
    rw [hf] at hd
    refine va_calli (va_runV (As := As) (rest := st) hC.1 (hM x1 hf H.size) cw ⟨fun a U g mk q => by obtain ⟨q0, q1, qP, qK, qD⟩ := q; exact ⟨q0, q1, qP, va_K.moved (u := U) (U := U.calling g mk a) (Vm.Alike.refl U.vm) qK, qD⟩, va_recv hC.2 hP hc he, fun U hU hW => ⟨rfl, by rw [hU], by rw [hU]; exact hP, va_K.moved hW.alike hC.2, hD.weaken (fun _ _ _ _ => trivial)⟩⟩ rfl hn hl.1 rfl (lv_room hroom) hdg ⟨Nat.zero_le _, Nat.zero_le _⟩) hS (fun q _ h => hWk.2.1 _ _ _ hS.1 h) (fun q h => hWk.2.1 _ _ _ hS.1 h) (fun r u t H1 locs1 ht hvm hw hB hz1 hk1 hS1 => ?_)
    subst hw
    obtain ⟨hP1, hK1, hD1⟩ := hB
    rw [ht] at hP1
    exact kk _ _ hd H1 locs1 hP1 (hD1.weaken (fun _ _ _ h => hWk.2.1 _ _ _ hS.1 h)) hS1 ls hl
theorem m_cIS (hC : Cx p m c cc nL s args Ts own D cl tys) {y : MethodName} {bytes : ByteArray} {maxL index n : Nat} {ret : Option FieldType} {wsy : List Cond} {rm : Room} {As : List Value} {AA : Nat → Nat → Prop} {fy : Option (Int32 × St)} {K : Int32 → St → Option β} (hWk : Wok wd AA) (cw : CallB R s args own index y bytes maxL ret wsy rm 0 0 n ∧ (Cond.static y).before args s = true) (hM : ∀ x1 : Int32 × St, fy = some x1 → KI l y wsy rm D cl tys wd AA As S (fun r S2 => (r, S2) = x1)) (hn : As.length = n) (hroom : (st.map fun v => v.category).sum ≤ 8) (hdg : decode cc pc = .ok (.invokestatic index, 3)) (kk : ∀ (r : Int32) (S2 : St), Sm p l e R s m args below meth c D cl wd (AA s.heap.size) nL Q x0 (K r S2) S2 (pc + 3) lv (.int r :: st)) :
    Sm p l e R s m args below meth c D cl wd (AA s.heap.size) nL Q x0 (caS fy K) S pc lv (As.reverse ++ st) := by
  intro hd H locs hP hD hS ls hl
  cases hf : fy with
  | none => rw [hf] at hd; cases hd
  | some x1 =>
    rw [hf] at hd
    refine va_calli (va_runS (As := As) (rest := st) hC.1 (hM x1 hf H.size) cw ⟨fun a U g mk q => by obtain ⟨q0, q1, qP, qK, qD⟩ := q; exact ⟨q0, q1, qP, va_K.moved (u := U) (U := U.calling g mk a) (Vm.Alike.refl U.vm) qK, qD⟩, fun U hU hW => ⟨rfl, by rw [hU], by rw [hU]; exact hP, va_K.moved hW.alike hC.2, hD.weaken (fun _ _ _ _ => trivial)⟩⟩ rfl hn hl.1 rfl (lv_room hroom) hdg ⟨Nat.zero_le _, Nat.zero_le _⟩) hS (fun q _ h => hWk.2.1 _ _ _ hS.1 h) (fun q h => hWk.2.1 _ _ _ hS.1 h) (fun r u t H1 locs1 ht hvm hw hB hz1 hk1 hS1 => ?_)
    subst hw
    obtain ⟨hP1, hK1, hD1⟩ := hB
    rw [ht] at hP1
    exact kk _ _ hd H1 locs1 hP1 (hD1.weaken (fun _ _ _ h => hWk.2.1 _ _ _ hS.1 h)) hS1 ls hl
theorem m_cLPV (hC : Cx p m c cc nL s args Ts own D cl tys) {y : MethodName} {C : String} {bytes : ByteArray} {maxL index n q0 ci b N : Nat} {T : u_T} {fs : List Value} {ret : Option FieldType} {wsy : List Cond} {rm : Room} {As : List Value} {AA : Nat → Nat → Prop} {fy : Option Int64} {K : Int64 → Option β} (hWk : Wok wd AA) (cw : CallW R s args own C index y bytes maxL ret wsy rm 0 0 n) (he : (wd S)[q0]? = some (b, .inr (ci, fs))) (hc : cl[ci]? = some (C, T, N)) (hM : ∀ x1 : Int64, fy = some x1 → KL l y wsy rm D cl tys wd AA (.ref b :: As) S (fun r S2 => r = x1 ∧ S2 = S)) (hn : As.length = n) (hroom : (st.map fun v => v.category).sum ≤ 8) (hdg : decode cc pc = .ok (.invokevirtual index, 3)) (kk : ∀ r : Int64, Sm p l e R s m args below meth c D cl wd (AA s.heap.size) nL Q x0 (K r) S (pc + 3) lv (.long r :: st)) :
    Sm p l e R s m args below meth c D cl wd (AA s.heap.size) nL Q x0 (caP fy K) S pc lv (As.reverse ++ .ref b :: st) := by
  intro hd H locs hP hD hS ls hl
  cases hf : fy with
  | none => rw [hf] at hd; cases hd
  | some x1 =>
    rw [hf] at hd
    refine va_calll (va_runV (As := As) (rest := st) hC.1 (hM x1 hf H.size) cw ⟨fun a U g mk q => by obtain ⟨q0, q1, qP, qK, qD⟩ := q; exact ⟨q0, q1, qP, va_K.moved (u := U) (U := U.calling g mk a) (Vm.Alike.refl U.vm) qK, qD⟩, va_recv hC.2 hP hc he, fun U hU hW => ⟨rfl, by rw [hU], by rw [hU]; exact hP, va_K.moved hW.alike hC.2, hD.weaken (fun _ _ _ _ => trivial)⟩⟩ rfl hn hl.1 rfl (lv_room hroom) hdg ⟨Nat.zero_le _, Nat.zero_le _⟩) hS (fun q _ h => hWk.2.1 _ _ _ hS.1 h) (fun q h => hWk.2.1 _ _ _ hS.1 h) (fun r u t H1 locs1 ht hvm hw hB hz1 hk1 hS1 => ?_)
    obtain ⟨hw1, hw2⟩ := hw
    subst hw1
    subst hw2
    obtain ⟨hP1, hK1, hD1⟩ := hB
    rw [ht] at hP1
    exact kk _ hd H1 locs1 hP1 (hD1.weaken (fun _ _ _ h => hWk.2.1 _ _ _ hS.1 h)) hS1 ls hl
theorem m_cLPS (hC : Cx p m c cc nL s args Ts own D cl tys) {y : MethodName} {bytes : ByteArray} {maxL index n : Nat} {ret : Option FieldType} {wsy : List Cond} {rm : Room} {As : List Value} {AA : Nat → Nat → Prop} {fy : Option Int64} {K : Int64 → Option β} (hWk : Wok wd AA) (cw : CallB R s args own index y bytes maxL ret wsy rm 0 0 n ∧ (Cond.static y).before args s = true) (hM : ∀ x1 : Int64, fy = some x1 → KL l y wsy rm D cl tys wd AA As S (fun r S2 => r = x1 ∧ S2 = S)) (hn : As.length = n) (hroom : (st.map fun v => v.category).sum ≤ 8) (hdg : decode cc pc = .ok (.invokestatic index, 3)) (kk : ∀ r : Int64, Sm p l e R s m args below meth c D cl wd (AA s.heap.size) nL Q x0 (K r) S (pc + 3) lv (.long r :: st)) :
    Sm p l e R s m args below meth c D cl wd (AA s.heap.size) nL Q x0 (caP fy K) S pc lv (As.reverse ++ st) := by
  intro hd H locs hP hD hS ls hl
  cases hf : fy with
  | none => rw [hf] at hd; cases hd
  | some x1 =>
    rw [hf] at hd
    refine va_calll (va_runS (As := As) (rest := st) hC.1 (hM x1 hf H.size) cw ⟨fun a U g mk q => by obtain ⟨q0, q1, qP, qK, qD⟩ := q; exact ⟨q0, q1, qP, va_K.moved (u := U) (U := U.calling g mk a) (Vm.Alike.refl U.vm) qK, qD⟩, fun U hU hW => ⟨rfl, by rw [hU], by rw [hU]; exact hP, va_K.moved hW.alike hC.2, hD.weaken (fun _ _ _ _ => trivial)⟩⟩ rfl hn hl.1 rfl (lv_room hroom) hdg ⟨Nat.zero_le _, Nat.zero_le _⟩) hS (fun q _ h => hWk.2.1 _ _ _ hS.1 h) (fun q h => hWk.2.1 _ _ _ hS.1 h) (fun r u t H1 locs1 ht hvm hw hB hz1 hk1 hS1 => ?_)
    obtain ⟨hw1, hw2⟩ := hw
    subst hw1
    subst hw2
    obtain ⟨hP1, hK1, hD1⟩ := hB
    rw [ht] at hP1
    exact kk _ hd H1 locs1 hP1 (hD1.weaken (fun _ _ _ h => hWk.2.1 _ _ _ hS.1 h)) hS1 ls hl
theorem m_cLV (hC : Cx p m c cc nL s args Ts own D cl tys) {y : MethodName} {C : String} {bytes : ByteArray} {maxL index n q0 ci b N : Nat} {T : u_T} {fs : List Value} {ret : Option FieldType} {wsy : List Cond} {rm : Room} {As : List Value} {AA : Nat → Nat → Prop} {fy : Option (Int64 × St)} {K : Int64 → St → Option β} (hWk : Wok wd AA) (cw : CallW R s args own C index y bytes maxL ret wsy rm 0 0 n) (he : (wd S)[q0]? = some (b, .inr (ci, fs))) (hc : cl[ci]? = some (C, T, N)) (hM : ∀ x1 : Int64 × St, fy = some x1 → KL l y wsy rm D cl tys wd AA (.ref b :: As) S (fun r S2 => (r, S2) = x1)) (hn : As.length = n) (hroom : (st.map fun v => v.category).sum ≤ 8) (hdg : decode cc pc = .ok (.invokevirtual index, 3)) (kk : ∀ (r : Int64) (S2 : St), Sm p l e R s m args below meth c D cl wd (AA s.heap.size) nL Q x0 (K r S2) S2 (pc + 3) lv (.long r :: st)) :
    Sm p l e R s m args below meth c D cl wd (AA s.heap.size) nL Q x0 (caS fy K) S pc lv (As.reverse ++ .ref b :: st) := by
  intro hd H locs hP hD hS ls hl
  cases hf : fy with
  | none => rw [hf] at hd; cases hd
  | some x1 =>
    rw [hf] at hd
    refine va_calll (va_runV (As := As) (rest := st) hC.1 (hM x1 hf H.size) cw ⟨fun a U g mk q => by obtain ⟨q0, q1, qP, qK, qD⟩ := q; exact ⟨q0, q1, qP, va_K.moved (u := U) (U := U.calling g mk a) (Vm.Alike.refl U.vm) qK, qD⟩, va_recv hC.2 hP hc he, fun U hU hW => ⟨rfl, by rw [hU], by rw [hU]; exact hP, va_K.moved hW.alike hC.2, hD.weaken (fun _ _ _ _ => trivial)⟩⟩ rfl hn hl.1 rfl (lv_room hroom) hdg ⟨Nat.zero_le _, Nat.zero_le _⟩) hS (fun q _ h => hWk.2.1 _ _ _ hS.1 h) (fun q h => hWk.2.1 _ _ _ hS.1 h) (fun r u t H1 locs1 ht hvm hw hB hz1 hk1 hS1 => ?_)
    subst hw
    obtain ⟨hP1, hK1, hD1⟩ := hB
    rw [ht] at hP1
    exact kk _ _ hd H1 locs1 hP1 (hD1.weaken (fun _ _ _ h => hWk.2.1 _ _ _ hS.1 h)) hS1 ls hl
theorem m_cLS (hC : Cx p m c cc nL s args Ts own D cl tys) {y : MethodName} {bytes : ByteArray} {maxL index n : Nat} {ret : Option FieldType} {wsy : List Cond} {rm : Room} {As : List Value} {AA : Nat → Nat → Prop} {fy : Option (Int64 × St)} {K : Int64 → St → Option β} (hWk : Wok wd AA) (cw : CallB R s args own index y bytes maxL ret wsy rm 0 0 n ∧ (Cond.static y).before args s = true) (hM : ∀ x1 : Int64 × St, fy = some x1 → KL l y wsy rm D cl tys wd AA As S (fun r S2 => (r, S2) = x1)) (hn : As.length = n) (hroom : (st.map fun v => v.category).sum ≤ 8) (hdg : decode cc pc = .ok (.invokestatic index, 3)) (kk : ∀ (r : Int64) (S2 : St), Sm p l e R s m args below meth c D cl wd (AA s.heap.size) nL Q x0 (K r S2) S2 (pc + 3) lv (.long r :: st)) :
    Sm p l e R s m args below meth c D cl wd (AA s.heap.size) nL Q x0 (caS fy K) S pc lv (As.reverse ++ st) := by
  intro hd H locs hP hD hS ls hl
  cases hf : fy with
  | none => rw [hf] at hd; cases hd
  | some x1 =>
    rw [hf] at hd
    refine va_calll (va_runS (As := As) (rest := st) hC.1 (hM x1 hf H.size) cw ⟨fun a U g mk q => by obtain ⟨q0, q1, qP, qK, qD⟩ := q; exact ⟨q0, q1, qP, va_K.moved (u := U) (U := U.calling g mk a) (Vm.Alike.refl U.vm) qK, qD⟩, fun U hU hW => ⟨rfl, by rw [hU], by rw [hU]; exact hP, va_K.moved hW.alike hC.2, hD.weaken (fun _ _ _ _ => trivial)⟩⟩ rfl hn hl.1 rfl (lv_room hroom) hdg ⟨Nat.zero_le _, Nat.zero_le _⟩) hS (fun q _ h => hWk.2.1 _ _ _ hS.1 h) (fun q h => hWk.2.1 _ _ _ hS.1 h) (fun r u t H1 locs1 ht hvm hw hB hz1 hk1 hS1 => ?_)
    subst hw
    obtain ⟨hP1, hK1, hD1⟩ := hB
    rw [ht] at hP1
    exact kk _ _ hd H1 locs1 hP1 (hD1.weaken (fun _ _ _ h => hWk.2.1 _ _ _ hS.1 h)) hS1 ls hl
theorem m_cVV (hC : Cx p m c cc nL s args Ts own D cl tys) {y : MethodName} {C : String} {bytes : ByteArray} {maxL index n q0 ci b N : Nat} {T : u_T} {fs : List Value} {ret : Option FieldType} {wsy : List Cond} {rm : Room} {As : List Value} {AA : Nat → Nat → Prop} {fy : Option St} {K : St → Option β} (hWk : Wok wd AA) (cw : CallW R s args own C index y bytes maxL ret wsy rm 0 0 n) (he : (wd S)[q0]? = some (b, .inr (ci, fs))) (hc : cl[ci]? = some (C, T, N)) (hM : ∀ x1 : St, fy = some x1 → KV l y wsy rm D cl tys wd AA (.ref b :: As) S (fun S2 => S2 = x1)) (hn : As.length = n) (hroom : (st.map fun v => v.category).sum ≤ 8) (hdg : decode cc pc = .ok (.invokevirtual index, 3)) (kk : ∀ S2 : St, Sm p l e R s m args below meth c D cl wd (AA s.heap.size) nL Q x0 (K S2) S2 (pc + 3) lv st) :
    Sm p l e R s m args below meth c D cl wd (AA s.heap.size) nL Q x0 (caV fy K) S pc lv (As.reverse ++ .ref b :: st) := by
  intro hd H locs hP hD hS ls hl
  cases hf : fy with
  | none => rw [hf] at hd; cases hd
  | some x1 =>
    rw [hf] at hd
    refine va_callv (va_runV (As := As) (rest := st) hC.1 (hM x1 hf H.size) cw ⟨fun a U g mk q => by obtain ⟨q0, q1, qP, qK, qD⟩ := q; exact ⟨q0, q1, qP, va_K.moved (u := U) (U := U.calling g mk a) (Vm.Alike.refl U.vm) qK, qD⟩, va_recv hC.2 hP hc he, fun U hU hW => ⟨rfl, by rw [hU], by rw [hU]; exact hP, va_K.moved hW.alike hC.2, hD.weaken (fun _ _ _ _ => trivial)⟩⟩ rfl hn hl.1 rfl (lv_room hroom) hdg ⟨Nat.zero_le _, Nat.zero_le _⟩) hS (fun q _ h => hWk.2.1 _ _ _ hS.1 h) (fun q h => hWk.2.1 _ _ _ hS.1 h) (fun u t H1 locs1 ht hvm hw hB hz1 hk1 hS1 => ?_)
    subst hw
    obtain ⟨hP1, hK1, hD1⟩ := hB
    rw [ht] at hP1
    exact kk _ hd H1 locs1 hP1 (hD1.weaken (fun _ _ _ h => hWk.2.1 _ _ _ hS.1 h)) hS1 ls hl
theorem m_cVS (hC : Cx p m c cc nL s args Ts own D cl tys) {y : MethodName} {bytes : ByteArray} {maxL index n : Nat} {ret : Option FieldType} {wsy : List Cond} {rm : Room} {As : List Value} {AA : Nat → Nat → Prop} {fy : Option St} {K : St → Option β} (hWk : Wok wd AA) (cw : CallB R s args own index y bytes maxL ret wsy rm 0 0 n ∧ (Cond.static y).before args s = true) (hM : ∀ x1 : St, fy = some x1 → KV l y wsy rm D cl tys wd AA As S (fun S2 => S2 = x1)) (hn : As.length = n) (hroom : (st.map fun v => v.category).sum ≤ 8) (hdg : decode cc pc = .ok (.invokestatic index, 3)) (kk : ∀ S2 : St, Sm p l e R s m args below meth c D cl wd (AA s.heap.size) nL Q x0 (K S2) S2 (pc + 3) lv st) :
    Sm p l e R s m args below meth c D cl wd (AA s.heap.size) nL Q x0 (caV fy K) S pc lv (As.reverse ++ st) := by
  intro hd H locs hP hD hS ls hl
  cases hf : fy with
  | none => rw [hf] at hd; cases hd
  | some x1 =>
    rw [hf] at hd
    refine va_callv (va_runS (As := As) (rest := st) hC.1 (hM x1 hf H.size) cw ⟨fun a U g mk q => by obtain ⟨q0, q1, qP, qK, qD⟩ := q; exact ⟨q0, q1, qP, va_K.moved (u := U) (U := U.calling g mk a) (Vm.Alike.refl U.vm) qK, qD⟩, fun U hU hW => ⟨rfl, by rw [hU], by rw [hU]; exact hP, va_K.moved hW.alike hC.2, hD.weaken (fun _ _ _ _ => trivial)⟩⟩ rfl hn hl.1 rfl (lv_room hroom) hdg ⟨Nat.zero_le _, Nat.zero_le _⟩) hS (fun q _ h => hWk.2.1 _ _ _ hS.1 h) (fun q h => hWk.2.1 _ _ _ hS.1 h) (fun u t H1 locs1 ht hvm hw hB hz1 hk1 hS1 => ?_)
    subst hw
    obtain ⟨hP1, hK1, hD1⟩ := hB
    rw [ht] at hP1
    exact kk _ hd H1 locs1 hP1 (hD1.weaken (fun _ _ _ h => hWk.2.1 _ _ _ hS.1 h)) hS1 ls hl
end SIM
theorem m_entryI {l : Launch} {D : va_G} {cl : List vw_C} {tys : List (ClassId × FieldType)} {wd : St → va_W} {AA : Nat → Nat → Prop} {y : MethodName} {ws ws' : List Cond} {rm : Room} {cc : ByteArray} {maxL : Nat} {ret : Option FieldType} {av : List Value} {S : St} {x0 : Int32 × St} {d : Option (Int32 × St)} {lv : List (Nat × Value)}
    (hWk : Wok wd AA) (hy : plainName y.cls = true) (hw : ws = Cond.code y cc maxL ret :: ws') (hlen : (lg_sl av).length ≤ maxL) (hlv : lv_args 0 av = lv) (hd : d = some x0)
    (body : ∀ (p : Program) (e : Env) (s : State) (m : MethodId) (args : Array Value) (below : List Frame) (meth : Method) (c : Code), Cx p m c cc maxL s args ws y.cls D cl tys → meth.sig.returnType = ret → meth.locks = false → Sm p l e (headSpec ws rm).room s m args below meth c D cl wd (AA s.heap.size) maxL (MQ below (va_Qi (fun r S2 => (r, S2) = x0) (Bw D cl tys wd (AA s.heap.size)) (AA s.heap.size)) args s 0 0 (AA s.heap.size)) x0 d S 0 lv []) :
    KI l y ws rm D cl tys wd AA av S (fun r S2 => (r, S2) = x0) := by
  intro sz
  refine Met.ofW hy hw ?_
  intro p e s m args below meth c s₁ B hml hv
  obtain ⟨rfl, hsz, hP, hK, hD0⟩ := hv
  subst hsz
  have hl := lv_entry av (n := maxL) hlen
  rw [lg_entry_eq]
  rw [hlv] at hl
  exact body p e s m _ below meth c ⟨⟨B.exec, B.bytes, hml, findClass_of_methodNamed B.named, atoms_spec (ws := ws) B.pre⟩, hK⟩ B.returns B.notSynchronized hd s.heap [] hP ⟨hD0.1, fun k q hk => hWk.1 S k q hk _⟩ va_S.rf _ hl
theorem m_entryIP {l : Launch} {D : va_G} {cl : List vw_C} {tys : List (ClassId × FieldType)} {wd : St → va_W} {AA : Nat → Nat → Prop} {y : MethodName} {ws ws' : List Cond} {rm : Room} {cc : ByteArray} {maxL : Nat} {ret : Option FieldType} {av : List Value} {S : St} {x0 : Int32} {d : Option (Int32)} {lv : List (Nat × Value)}
    (hWk : Wok wd AA) (hy : plainName y.cls = true) (hw : ws = Cond.code y cc maxL ret :: ws') (hlen : (lg_sl av).length ≤ maxL) (hlv : lv_args 0 av = lv) (hd : d = some x0)
    (body : ∀ (p : Program) (e : Env) (s : State) (m : MethodId) (args : Array Value) (below : List Frame) (meth : Method) (c : Code), Cx p m c cc maxL s args ws y.cls D cl tys → meth.sig.returnType = ret → meth.locks = false → Sm p l e (headSpec ws rm).room s m args below meth c D cl wd (AA s.heap.size) maxL (MQ below (va_Qi (fun r S2 => r = x0 ∧ S2 = S) (Bw D cl tys wd (AA s.heap.size)) (AA s.heap.size)) args s 0 0 (AA s.heap.size)) x0 d S 0 lv []) :
    KI l y ws rm D cl tys wd AA av S (fun r S2 => r = x0 ∧ S2 = S) := by
  intro sz
  refine Met.ofW hy hw ?_
  intro p e s m args below meth c s₁ B hml hv
  obtain ⟨rfl, hsz, hP, hK, hD0⟩ := hv
  subst hsz
  have hl := lv_entry av (n := maxL) hlen
  rw [lg_entry_eq]
  rw [hlv] at hl
  exact body p e s m _ below meth c ⟨⟨B.exec, B.bytes, hml, findClass_of_methodNamed B.named, atoms_spec (ws := ws) B.pre⟩, hK⟩ B.returns B.notSynchronized hd s.heap [] hP ⟨hD0.1, fun k q hk => hWk.1 S k q hk _⟩ va_S.rf _ hl
theorem m_entryL {l : Launch} {D : va_G} {cl : List vw_C} {tys : List (ClassId × FieldType)} {wd : St → va_W} {AA : Nat → Nat → Prop} {y : MethodName} {ws ws' : List Cond} {rm : Room} {cc : ByteArray} {maxL : Nat} {ret : Option FieldType} {av : List Value} {S : St} {x0 : Int64 × St} {d : Option (Int64 × St)} {lv : List (Nat × Value)}
    (hWk : Wok wd AA) (hy : plainName y.cls = true) (hw : ws = Cond.code y cc maxL ret :: ws') (hlen : (lg_sl av).length ≤ maxL) (hlv : lv_args 0 av = lv) (hd : d = some x0)
    (body : ∀ (p : Program) (e : Env) (s : State) (m : MethodId) (args : Array Value) (below : List Frame) (meth : Method) (c : Code), Cx p m c cc maxL s args ws y.cls D cl tys → meth.sig.returnType = ret → meth.locks = false → Sm p l e (headSpec ws rm).room s m args below meth c D cl wd (AA s.heap.size) maxL (MQ below (va_Ql (fun r S2 => (r, S2) = x0) (Bw D cl tys wd (AA s.heap.size)) (AA s.heap.size)) args s 0 0 (AA s.heap.size)) x0 d S 0 lv []) :
    KL l y ws rm D cl tys wd AA av S (fun r S2 => (r, S2) = x0) := by
  intro sz
  refine Met.ofW hy hw ?_
  intro p e s m args below meth c s₁ B hml hv
  obtain ⟨rfl, hsz, hP, hK, hD0⟩ := hv
  subst hsz
  have hl := lv_entry av (n := maxL) hlen
  rw [lg_entry_eq]
  rw [hlv] at hl
  exact body p e s m _ below meth c ⟨⟨B.exec, B.bytes, hml, findClass_of_methodNamed B.named, atoms_spec (ws := ws) B.pre⟩, hK⟩ B.returns B.notSynchronized hd s.heap [] hP ⟨hD0.1, fun k q hk => hWk.1 S k q hk _⟩ va_S.rf _ hl
theorem m_entryLP {l : Launch} {D : va_G} {cl : List vw_C} {tys : List (ClassId × FieldType)} {wd : St → va_W} {AA : Nat → Nat → Prop} {y : MethodName} {ws ws' : List Cond} {rm : Room} {cc : ByteArray} {maxL : Nat} {ret : Option FieldType} {av : List Value} {S : St} {x0 : Int64} {d : Option (Int64)} {lv : List (Nat × Value)}
    (hWk : Wok wd AA) (hy : plainName y.cls = true) (hw : ws = Cond.code y cc maxL ret :: ws') (hlen : (lg_sl av).length ≤ maxL) (hlv : lv_args 0 av = lv) (hd : d = some x0)
    (body : ∀ (p : Program) (e : Env) (s : State) (m : MethodId) (args : Array Value) (below : List Frame) (meth : Method) (c : Code), Cx p m c cc maxL s args ws y.cls D cl tys → meth.sig.returnType = ret → meth.locks = false → Sm p l e (headSpec ws rm).room s m args below meth c D cl wd (AA s.heap.size) maxL (MQ below (va_Ql (fun r S2 => r = x0 ∧ S2 = S) (Bw D cl tys wd (AA s.heap.size)) (AA s.heap.size)) args s 0 0 (AA s.heap.size)) x0 d S 0 lv []) :
    KL l y ws rm D cl tys wd AA av S (fun r S2 => r = x0 ∧ S2 = S) := by
  intro sz
  refine Met.ofW hy hw ?_
  intro p e s m args below meth c s₁ B hml hv
  obtain ⟨rfl, hsz, hP, hK, hD0⟩ := hv
  subst hsz
  have hl := lv_entry av (n := maxL) hlen
  rw [lg_entry_eq]
  rw [hlv] at hl
  exact body p e s m _ below meth c ⟨⟨B.exec, B.bytes, hml, findClass_of_methodNamed B.named, atoms_spec (ws := ws) B.pre⟩, hK⟩ B.returns B.notSynchronized hd s.heap [] hP ⟨hD0.1, fun k q hk => hWk.1 S k q hk _⟩ va_S.rf _ hl
theorem m_entryV {l : Launch} {D : va_G} {cl : List vw_C} {tys : List (ClassId × FieldType)} {wd : St → va_W} {AA : Nat → Nat → Prop} {y : MethodName} {ws ws' : List Cond} {rm : Room} {cc : ByteArray} {maxL : Nat} {ret : Option FieldType} {av : List Value} {S : St} {x0 : St} {d : Option (St)} {lv : List (Nat × Value)}
    (hWk : Wok wd AA) (hy : plainName y.cls = true) (hw : ws = Cond.code y cc maxL ret :: ws') (hlen : (lg_sl av).length ≤ maxL) (hlv : lv_args 0 av = lv) (hd : d = some x0)
    (body : ∀ (p : Program) (e : Env) (s : State) (m : MethodId) (args : Array Value) (below : List Frame) (meth : Method) (c : Code), Cx p m c cc maxL s args ws y.cls D cl tys → meth.sig.returnType = ret → meth.locks = false → Sm p l e (headSpec ws rm).room s m args below meth c D cl wd (AA s.heap.size) maxL (MQ below (va_Qv (fun S2 => S2 = x0) (Bw D cl tys wd (AA s.heap.size)) (AA s.heap.size)) args s 0 0 (AA s.heap.size)) x0 d S 0 lv []) :
    KV l y ws rm D cl tys wd AA av S (fun S2 => S2 = x0) := by
  intro sz
  refine Met.ofW hy hw ?_
  intro p e s m args below meth c s₁ B hml hv
  obtain ⟨rfl, hsz, hP, hK, hD0⟩ := hv
  subst hsz
  have hl := lv_entry av (n := maxL) hlen
  rw [lg_entry_eq]
  rw [hlv] at hl
  exact body p e s m _ below meth c ⟨⟨B.exec, B.bytes, hml, findClass_of_methodNamed B.named, atoms_spec (ws := ws) B.pre⟩, hK⟩ B.returns B.notSynchronized hd s.heap [] hP ⟨hD0.1, fun k q hk => hWk.1 S k q hk _⟩ va_S.rf _ hl
